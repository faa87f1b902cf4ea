/-! ===== party: both tables, both roads ===== -/
/-- who can go, as both reckon it -/
def cgC (t : Nat) (F : Nat → Nat) (n sn tol : Nat) (k B : Nat) : Bool := cgo (pS t F n) (F (kth t k)) sn tol B
/-- the class's party: sums, weights, members -/
def PtC (t : Nat) (F : Nat → Nat) (n : Nat) (u : St) : Prop := (∀ s, s < 256 → u 0 s = nI (pS t F n s) ∧ pS t F n s ≤ 20000) ∧ ∀ j, j < n → u 3 j = nI (kth t j) ∧ u 2 j = nI (F (kth t j)) ∧ F (kth t j) ≤ 999 ∧ kth t j < 16
theorem p256 {n : Nat} (hn : n ≤ 8) : 2 ^ n ≤ 256 := Nat.pow_le_pow_right (n := 2) (by decide) hn
theorem lead_in {t n h sn tol : Nat} {F : Nat → Nat} {u : St} (hP : PtC t F n u) (hn : n ≤ 8) (hsn : sn ≤ 999) (ht : tol ≤ 99) (hh : h < 2 ^ n) (lp : St → Int32 → Int32 → Int32 → Int32 → Int32 → Option (Int32 × St)) (x6 : Int32) (r : Nat → Int32) (hr : ∀ j, j < h → r j = nI (mo (cgC t F n sn tol) n j)) : fX0_lead_L56 lp FU (sa u 4 (upd r h 0)) (nI sn) (nI tol) (nI n) x6 (nI h) 0 = lp (sa u 4 (upd r h (nI (mo (cgC t F n sn tol) n h)))) (nI sn) (nI tol) (nI n) x6 (nI (h + 1)) := by
  have h256 := p256 hn
  rw [mo_eq (by omega)]
  refine for_all (fun m (a : St) k => fX0_lead_L56 lp m a (nI sn) (nI tol) (nI n) x6 (nI h) (nI k)) n (fun k => sa u 4 (upd r h (nI (moI (cgC t F n sn tol) (mo (cgC t F n sn tol) n) h k)))) _ (fun m => ?_) (fun m k hk => ?_) (by omega)
  · show bX0_lead_L56 _ _ _ _ _ _ _ _ _ = _
    unfold bX0_lead_L56
    rw [if_pos (nI_le (Nat.le_refl _) (by omega)), lett_s, n1]
  · show bX0_lead_L56 _ _ _ _ _ _ _ _ _ = fX0_lead_L56 lp m _ _ _ _ _ _ _
    unfold bX0_lead_L56
    rw [if_neg (nI_ge hk (by omega))]
    simp only [lett_s]
    rw [has11_n (by omega) (by omega), shl1 k (by omega), fb_xorI, gd_n (by omega) (by decide), ix_n (by omega), sa_i (by decide), (hP.2 k hk).2.1, n1]
    have hb := moI_b (C := cgC t F n sn tol) (f := mo (cgC t F n sn tol) n) (h := h) (b := 8) (fun k hk => by
      have := xor_lt (show h < 65536 by omega) hk
      exact Nat.le_trans (mo_n (by omega)) hn) k
    cases hbk : h.testBit k
    · have e2 : moI (cgC t F n sn tol) (mo (cgC t F n sn tol) n) h (k + 1) = moI (cgC t F n sn tol) (mo (cgC t F n sn tol) n) h k := by
        rw [moI, hbk]; rfl
      simp only [dF, if_true]
      rw [e2]
    · simp only [dT, if_false]
      have hx := xor_lt (show h < 65536 by omega) hbk
      have hmx : mo (cgC t F n sn tol) n (h ^^^ 2 ^ k) ≤ n := mo_n (by omega)
      rw [canGo11 (u := sa u 4 (upd r h (nI (moI (cgC t F n sn tol) (mo (cgC t F n sn tol) n) h k)))) (S := pS t F n) hP.1 (hP.2 k hk).2.2.1 hsn ht (by omega), sbind]
      have e3 : moI (cgC t F n sn tol) (mo (cgC t F n sn tol) n) h (k + 1) = if cgC t F n sn tol k (h ^^^ 2 ^ k) then max (moI (cgC t F n sn tol) (mo (cgC t F n sn tol) n) h k) (mo (cgC t F n sn tol) n (h ^^^ 2 ^ k) + 1) else moI (cgC t F n sn tol) (mo (cgC t F n sn tol) n) h k := by
        rw [moI, hbk, Bool.true_and]
      rw [e3]
      unfold cgC at *
      cases cgo (pS t F n) (F (kth t k)) sn tol (h ^^^ 2 ^ k)
      · simp only [dF, if_true, Bool.false_eq_true, if_false]
      · simp only [dT, if_true, if_false]
        rw [gd_n (by omega) (by decide), gd_n (by omega) (by decide), gd_n (by omega) (by decide), ix_n (by omega), ix_n (by omega), sa_s, upd_s, upd_n (by omega), hr _ hx, show (1 : Int32) = nI 1 from rfl, nI_add, mx_n (by omega) (by omega), st_sa, fa_upd_twice, Nat.add_comm 1 _]
theorem lays_in {t n h sn tol : Nat} {F : Nat → Nat} {v : St} (hP : PtR t F n v) (hn : n ≤ 8) (hF : ∀ p, p < 16 → F p ≤ 999) (h3 : v 3 0 = nI tol) (hsn : sn ≤ 999) (ht : tol ≤ 99) (hh : h < 2 ^ n) (lp : St → Int32 → Int32 → Option St) (r : Nat → Int32) (hr : ∀ j, j < h → r j = nI (mo (cgC t F n sn tol) n j)) : fX12_laysParty_L21 lp FU (sa v 44 (upd r h 0)) (nI sn) (nI h) 0 = lp (sa v 44 (upd r h (nI (mo (cgC t F n sn tol) n h)))) (nI sn) (nI (h + 1)) := by
  have h256 := p256 hn
  rw [mo_eq (by omega)]
  refine for_all (fun m (a : St) k => fX12_laysParty_L21 lp m a (nI sn) (nI h) (nI k)) n (fun k => sa v 44 (upd r h (nI (moI (cgC t F n sn tol) (mo (cgC t F n sn tol) n) h k)))) _ (fun m => ?_) (fun m k hk => ?_) (by omega)
  · show bX12_laysParty_L21 _ _ _ _ _ _ = _
    unfold bX12_laysParty_L21
    rw [sa_i (by decide), hP.1, if_pos (nI_le (Nat.le_refl _) (by omega)), lett_s, n1]
  · show bX12_laysParty_L21 _ _ _ _ _ _ = fX12_laysParty_L21 lp m _ _ _ _
    unfold bX12_laysParty_L21
    rw [sa_i (by decide), hP.1, if_neg (nI_ge hk (by omega))]
    simp only [lett_s]
    rw [has12_n (by omega) (by omega), shl1 k (by omega), ndiff_eq, n1]
    have hb := moI_b (C := cgC t F n sn tol) (f := mo (cgC t F n sn tol) n) (h := h) (b := 8) (fun k hk => by
      have := xor_lt (show h < 65536 by omega) hk
      exact Nat.le_trans (mo_n (by omega)) hn) k
    cases hbk : h.testBit k
    · have e2 : moI (cgC t F n sn tol) (mo (cgC t F n sn tol) n) h (k + 1) = moI (cgC t F n sn tol) (mo (cgC t F n sn tol) n) h k := by
        rw [moI, hbk]; rfl
      simp only [dF, if_true]
      rw [e2]
    · simp only [dT, if_false]
      have hx := xor_lt (show h < 65536 by omega) hbk
      have hmx : mo (cgC t F n sn tol) n (h ^^^ 2 ^ k) ≤ n := mo_n (by omega)
      rw [canGo12 (v := sa v 44 (upd r h (nI (moI (cgC t F n sn tol) (mo (cgC t F n sn tol) n) h k)))) (tol := tol) (F := F) (t := t) hP hn hF h3 hsn ht hk (by omega), sbind, xor_nd (by omega) hbk]
      have e3 : moI (cgC t F n sn tol) (mo (cgC t F n sn tol) n) h (k + 1) = if cgC t F n sn tol k (h ^^^ 2 ^ k) then max (moI (cgC t F n sn tol) (mo (cgC t F n sn tol) n) h k) (mo (cgC t F n sn tol) n (h ^^^ 2 ^ k) + 1) else moI (cgC t F n sn tol) (mo (cgC t F n sn tol) n) h k := by
        rw [moI, hbk, Bool.true_and]
      rw [e3]
      unfold cgC at *
      cases cgo (pS t F n) (F (kth t k)) sn tol (h ^^^ 2 ^ k)
      · simp only [dF, if_true, Bool.false_eq_true, if_false]
      · simp only [dT, if_true, if_false]
        rw [gd_n (by omega) (by decide), gd_n (by omega) (by decide), gd_n (by omega) (by decide), ix_n (by omega), ix_n (by omega), sa_s, upd_s, upd_n (by omega), hr _ hx, n1, max_mx, mx_n (by omega) (by omega), st_sa, fa_upd_twice]
theorem lays_n {t n sn tol : Nat} {F : Nat → Nat} {v : St} (hP : PtR t F n v) (hn : n ≤ 8) (hF : ∀ p, p < 16 → F p ≤ 999) (h3 : v 3 0 = nI tol) (hsn : sn ≤ 999) (ht : tol ≤ 99) : ∃ r, fX12_laysParty v (nI sn) = some (sa v 44 r) ∧ ∀ j, j < 2 ^ n → r j = nI (mo (cgC t F n sn tol) n j) := by
  have h256 := p256 hn
  have key : ∀ m h r, h ≤ 2 ^ n → 2 ^ n - h < m → (∀ j, j < h → r j = nI (mo (cgC t F n sn tol) n j)) → ∃ r2, fX12_laysParty_L2 m (sa v 44 r) (nI sn) (nI h) = some (sa v 44 r2) ∧ ∀ j, j < 2 ^ n → r2 j = nI (mo (cgC t F n sn tol) n j) := by
    intro m
    induction m with
    | zero => intro h r _ q; omega
    | succ m ih =>
      intro h r hh hm hr
      have e : fX12_laysParty_L2 (m + 1) (sa v 44 r) (nI sn) (nI h) = bX12_laysParty_L2 (fX12_laysParty_L2 m) (sa v 44 r) (nI sn) (nI h) := rfl
      rw [e]
      unfold bX12_laysParty_L2
      rw [sa_i (by decide), hP.1, shl1 n (by omega)]
      by_cases q : h = 2 ^ n
      · subst q
        rw [if_pos (nI_le (Nat.le_refl _) (by omega))]
        exact ⟨r, rfl, hr⟩
      · rw [if_neg (nI_ge (by omega) (by omega)), gd_n (by omega) (by decide), lett_s, ix_n (by omega), st_sa, lays_in hP hn hF h3 hsn ht (by omega) _ r hr]
        refine ih (h + 1) _ (by omega) (by omega) (fun j hj => ?_)
        by_cases q2 : j = h
        · subst q2; rw [upd_s]
        · rw [upd_n q2, hr j (by omega)]
  have := key FU 0 (v 44) (Nat.zero_le _) (by show 2 ^ n - 0 < 1000000; omega) (fun j hj => by omega)
  rw [sa_self] at this
  exact this
/-- what the class's tables hold when they are laid -/
def Laid (t : Nat) (F : Nat → Nat) (n sn tol : Nat) (u : St) : Prop := PtC t F n u ∧ ∀ j, j < 2 ^ n → u 4 j = nI (mo (cgC t F n sn tol) n j)
theorem fol_in {t n sn tol i : Nat} {F : Nat → Nat} {u : St} (hL : Laid t F n sn tol u) (hn : n ≤ 8) (hsn : sn ≤ 999) (ht : tol ≤ 99) (hi : i < mo (cgC t F n sn tol) n (2 ^ n - 1)) (lp : St → Int32 → Int32 → Int32 → Int32 → Int32 → Int32 → Option St) (x6 : Int32) : fX0_followLeast_L24 lp FU u (nI n) (nI sn) (nI tol) (nI (hh (cgC t F n sn tol) n i)) x6 (nI i) 0 = lp (st u 5 i (nI (kth t (nx (cgC t F n sn tol) n (hh (cgC t F n sn tol) n i))))) (nI n) (nI sn) (nI tol) (nI (hh (cgC t F n sn tol) n (i + 1))) x6 (nI (i + 1)) := by
  have h256 := p256 hn
  have hpp := Nat.two_pow_pos n
  obtain ⟨b1, b2⟩ := hh_ok (C := cgC t F n sn tol) hn i (by omega)
  obtain ⟨a1, a2, a3, a4⟩ := nx_ok (C := cgC t F n sn tol) (n := n) (h := hh (cgC t F n sn tol) n i) (by omega) (by omega)
  have hno := fa_first_no (fun k => (hh (cgC t F n sn tol) n i).testBit k && (decide (mo (cgC t F n sn tol) n (hh (cgC t F n sn tol) n i) = mo (cgC t F n sn tol) n ((hh (cgC t F n sn tol) n i) ^^^ 2 ^ k) + 1) && cgC t F n sn tol k ((hh (cgC t F n sn tol) n i) ^^^ 2 ^ k))) n
  have hmi : mo (cgC t F n sn tol) n (2 ^ n - 1) ≤ n := mo_n (by omega)
  have hs : hh (cgC t F n sn tol) n (i + 1) = hh (cgC t F n sn tol) n i ^^^ 2 ^ nx (cgC t F n sn tol) n (hh (cgC t F n sn tol) n i) := rfl
  rw [hs]
  have hnx : nx (cgC t F n sn tol) n (hh (cgC t F n sn tol) n i) = fa_first (fun k => (hh (cgC t F n sn tol) n i).testBit k && (decide (mo (cgC t F n sn tol) n (hh (cgC t F n sn tol) n i) = mo (cgC t F n sn tol) n ((hh (cgC t F n sn tol) n i) ^^^ 2 ^ k) + 1) && cgC t F n sn tol k ((hh (cgC t F n sn tol) n i) ^^^ 2 ^ k))) n := rfl
  rw [← hnx] at hno
  generalize nx (cgC t F n sn tol) n (hh (cgC t F n sn tol) n i) = K at *
  generalize hh (cgC t F n sn tol) n i = H at *
  refine for_all (fun m (_ : Unit) k => fX0_followLeast_L24 lp m u (nI n) (nI sn) (nI tol) (nI H) x6 (nI i) (nI k)) K (fun _ => ()) _ (fun m => ?_) (fun m k hk => ?_) (by omega)
  · show bX0_followLeast_L24 _ _ _ _ _ _ _ _ _ _ = _
    unfold bX0_followLeast_L24
    have hx := xor_lt (show H < 65536 by omega) a2
    have hmx : mo (cgC t F n sn tol) n (H ^^^ 2 ^ K) ≤ n := mo_n (by omega)
    rw [if_neg (nI_ge a1 (by omega))]
    simp only [lett_s]
    rw [shl1 K (by omega), fb_xorI, has11_n (by omega) (by omega), a2]
    simp only [dT, if_false]
    rw [gd_n (by omega) (by decide), gd_n (by omega) (by decide), ix_n (by omega), ix_n (by omega), hL.2 _ b1, hL.2 _ (by omega), show (1 : Int32) = nI 1 from rfl, nI_add, if_pos (by rw [a3, Nat.add_comm]), gd_n (by omega) (by decide), ix_n (by omega), (hL.1.2 K a1).2.1, canGo11 (S := pS t F n) hL.1.1 (hL.1.2 K a1).2.2.1 hsn ht (by omega), sbind]
    have a5 : cgo (pS t F n) (F (kth t K)) sn tol (H ^^^ 2 ^ K) = true := a4
    rw [a5]
    simp only [dT, if_false]
    rw [gd_n (by omega) (by decide), gd_n (by omega) (by decide), ix_n (by omega), (hL.1.2 K a1).1, nI_add]
  · show bX0_followLeast_L24 _ _ _ _ _ _ _ _ _ _ = fX0_followLeast_L24 lp m _ _ _ _ _ _ _ _
    unfold bX0_followLeast_L24
    have hkn := hno k hk
    rw [if_neg (nI_ge (by omega) (by omega))]
    simp only [lett_s]
    rw [shl1 k (by omega), fb_xorI, has11_n (by omega) (by omega), n1]
    cases hbk : H.testBit k
    · simp only [dF, if_true]
    · simp only [dT, if_false]
      have hx := xor_lt (show H < 65536 by omega) hbk
      have hmx : mo (cgC t F n sn tol) n (H ^^^ 2 ^ k) ≤ n := mo_n (by omega)
      have hmx2 : mo (cgC t F n sn tol) n H ≤ n := mo_n (by omega)
      rw [gd_n (by omega) (by decide), gd_n (by omega) (by decide), ix_n (by omega), ix_n (by omega), hL.2 _ b1, hL.2 _ (by omega), show (1 : Int32) = nI 1 from rfl, nI_add]
      by_cases q : mo (cgC t F n sn tol) n H = mo (cgC t F n sn tol) n (H ^^^ 2 ^ k) + 1
      · rw [if_pos (by rw [q, Nat.add_comm]), gd_n (by omega) (by decide), ix_n (by omega), (hL.1.2 k (by omega)).2.1, canGo11 (S := pS t F n) hL.1.1 (hL.1.2 k (by omega)).2.2.1 hsn ht (by omega), sbind]
        simp only [hbk, decide_eq_true q, Bool.true_and] at hkn
        have a5 : cgo (pS t F n) (F (kth t k)) sn tol (H ^^^ 2 ^ k) = false := hkn
        rw [a5]
        simp only [dF, if_true]
      · rw [if_neg (fun e => q (by have := (nI_eq (by omega) (by omega)).mp e; omega))]
