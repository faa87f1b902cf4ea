/-! ===== party ===== -/
def whoAt (t : Nat) (F : Nat → Nat) (n sn tol i : Nat) : Nat := kth t (nx (cgC t F n sn tol) n (hh (cgC t F n sn tol) n i))
theorem fol_n {t n sn tol : Nat} {F : Nat → Nat} {u : St} (hL : Laid t F n sn tol u) (hn : n ≤ 8) (hsn : sn ≤ 999) (ht : tol ≤ 99) : ∃ r, fX0_followLeast u (nI (2 ^ n - 1)) (nI n) (nI sn) (nI tol) = some (sa u 5 r) ∧ ∀ j, j < mo (cgC t F n sn tol) n (2 ^ n - 1) → r j = nI (whoAt t F n sn tol j) := by
  have h256 := p256 hn
  have hpp := Nat.two_pow_pos n
  have hmi : mo (cgC t F n sn tol) n (2 ^ n - 1) ≤ n := mo_n (by omega)
  have key : ∀ m i r, i ≤ mo (cgC t F n sn tol) n (2 ^ n - 1) → mo (cgC t F n sn tol) n (2 ^ n - 1) - i < m → (∀ j, j < i → r j = nI (whoAt t F n sn tol j)) → ∃ r2, fX0_followLeast_L14 m (sa u 5 r) (nI n) (nI sn) (nI tol) (nI (hh (cgC t F n sn tol) n i)) (nI (mo (cgC t F n sn tol) n (2 ^ n - 1))) (nI i) = some (sa u 5 r2) ∧ ∀ j, j < mo (cgC t F n sn tol) n (2 ^ n - 1) → r2 j = nI (whoAt t F n sn tol j) := by
    intro m
    induction m with
    | zero => intro i r _ q; omega
    | succ m ih =>
      intro i r hi hm hr
      have e : fX0_followLeast_L14 (m + 1) (sa u 5 r) (nI n) (nI sn) (nI tol) (nI (hh (cgC t F n sn tol) n i)) (nI (mo (cgC t F n sn tol) n (2 ^ n - 1))) (nI i) = bX0_followLeast_L14 (fX0_followLeast_L14 m) (sa u 5 r) (nI n) (nI sn) (nI tol) (nI (hh (cgC t F n sn tol) n i)) (nI (mo (cgC t F n sn tol) n (2 ^ n - 1))) (nI i) := rfl
      rw [e]
      unfold bX0_followLeast_L14
      by_cases q : i = mo (cgC t F n sn tol) n (2 ^ n - 1)
      · rw [if_pos (nI_le (by omega) (by omega))]
        exact ⟨r, rfl, by rw [← q]; exact hr⟩
      · rw [if_neg (nI_ge (by omega) (by omega)), fol_in (u := sa u 5 r) hL hn hsn ht (by omega), st_sa]
        refine ih (i + 1) _ (by omega) (by omega) (fun j hj => ?_)
        by_cases q2 : j = i
        · subst q2; rw [upd_s]; rfl
        · rw [upd_n q2, hr j (by omega)]
  obtain ⟨r, e1, e2⟩ := key FU 0 (u 5) (Nat.zero_le _) (by show _ - 0 < 1000000; omega) (fun j hj => by omega)
  rw [sa_self] at e1
  refine ⟨r, ?_, e2⟩
  unfold fX0_followLeast
  rw [gd_n (by omega) (by decide), ix_n (by omega), lett_s, hL.2 _ (by omega)]
  exact e1
theorem lead_n {ch : St} {uw : Nat → Int32} {F : Nat → Nat} {t sn tol : Nat} (ht : t < 65536) (hF : ∀ p, p < 16 → uw p = nI (F p)) (hF2 : ∀ p, p < 16 → F p ≤ 999) (hn : szT t 16 ≤ 8) (hsn : sn ≤ 999) (htl : tol ≤ 99) : ∃ u, fX0_lead ch uw (nI t) (nI sn) (nI tol) = some (nI (mo (cgC t F (szT t 16) sn tol) (szT t 16) (2 ^ szT t 16 - 1)), u) ∧ ∀ j, j < mo (cgC t F (szT t 16) sn tol) (szT t 16) (2 ^ szT t 16 - 1) → u 5 j = nI (whoAt t F (szT t 16) sn tol j) := by
  obtain ⟨u1, e1, hP1⟩ := gather_n (ch := ch) ht hF hn
  have hkb : ∀ j, j < szT t 16 → kth t j < 16 := fun j hj => kth_b hj
  generalize hN : szT t 16 = n at *
  have h256 := p256 hn
  have hpp := Nat.two_pow_pos n
  have e2 : fX0_addUp (u1 0) (u1 2) 0 = some (fa_fill (tabS (pW t F n)) (u1 0) 256) := addUp_n (fr := 0) (F := pW t F n) (by decide) (fun j hj => by
    rw [Nat.zero_add]
    unfold pW
    by_cases q : j < n
    · rw [if_pos q]; exact (hP1.1 j q).2
    · rw [if_neg q]; exact hP1.2 j (by omega) (by omega))
  have hPC : ∀ r, PtC t F n (sa (sa u1 0 (fa_fill (tabS (pW t F n)) (u1 0) 256)) 4 r) := fun r => by
    refine ⟨fun s hs => ⟨?_, ?_⟩, fun j hj => ?_⟩
    · rw [sa_i (by decide), sa_s, fa_fill_in hs]; rfl
    · unfold pS
      refine Nat.le_trans (sumB_le (c := 999) (fun j hj => ?_)) (by decide)
      unfold pW
      split
      · rename_i q
        exact hF2 _ (hkb j q)
      · omega
    · rw [sa_i (by decide), sa_i (by decide), sa_i (by decide), sa_i (by decide)]
      exact ⟨(hP1.1 j hj).1, (hP1.1 j hj).2, hF2 _ (hkb j hj), hkb j hj⟩
  have key : ∀ m h r, 1 ≤ h → h ≤ 2 ^ n → 2 ^ n - h < m → (∀ j, j < h → r j = nI (mo (cgC t F n sn tol) n j)) → ∃ u, fX0_lead_L38 m (sa (sa u1 0 (fa_fill (tabS (pW t F n)) (u1 0) 256)) 4 r) (nI sn) (nI tol) (nI n) (nI (2 ^ n - 1)) (nI h) = some (nI (mo (cgC t F n sn tol) n (2 ^ n - 1)), u) ∧ ∀ j, j < mo (cgC t F n sn tol) n (2 ^ n - 1) → u 5 j = nI (whoAt t F n sn tol j) := by
    intro m
    induction m with
    | zero => intro h r _ _ q; omega
    | succ m ih =>
      intro h r h1 hh hm hr
      have e : fX0_lead_L38 (m + 1) (sa (sa u1 0 (fa_fill (tabS (pW t F n)) (u1 0) 256)) 4 r) (nI sn) (nI tol) (nI n) (nI (2 ^ n - 1)) (nI h) = bX0_lead_L38 (fX0_lead_L38 m) (sa (sa u1 0 (fa_fill (tabS (pW t F n)) (u1 0) 256)) 4 r) (nI sn) (nI tol) (nI n) (nI (2 ^ n - 1)) (nI h) := rfl
      rw [e]
      unfold bX0_lead_L38
      by_cases q : h = 2 ^ n
      · obtain ⟨r2, f1, f2⟩ := fol_n (t := t) (F := F) (sn := sn) (tol := tol) (u := sa (sa u1 0 (fa_fill (tabS (pW t F n)) (u1 0) 256)) 4 r) ⟨hPC r, fun j hj => by rw [sa_s]; exact hr j (by omega)⟩ hn hsn htl
        rw [if_pos (nI_lt (by omega) (by omega)), f1, sbind, gd_n (by omega) (by decide), ix_n (by omega), sa_i (by decide), sa_s, hr _ (by omega)]
        exact ⟨_, rfl, fun j hj => by rw [sa_s]; exact f2 j hj⟩
      · rw [if_neg (nI_nlt (by omega) (by omega)), gd_n (by omega) (by decide), lett_s, ix_n (by omega), st_sa, lead_in (u := sa u1 0 (fa_fill (tabS (pW t F n)) (u1 0) 256)) (show PtC t F n (sa u1 0 (fa_fill (tabS (pW t F n)) (u1 0) 256)) from hPC r) hn hsn htl (by omega) _ _ r hr]
        refine ih (h + 1) _ (by omega) (by omega) (by omega) (fun j hj => ?_)
        by_cases q2 : j = h
        · subst q2; rw [upd_s]
        · rw [upd_n q2, hr j (by omega)]
  unfold fX0_lead
  rw [e1, sbind, e2, sbind, lett_s, lett_s, shl1 n (by omega), show (1 : Int32) = nI 1 from rfl, sub_n (by omega), show gd (0 : Int32) 256 = gd (nI 0) 256 from rfl, gd_n (by decide) (by decide), lett_s]
  have := key FU 1 (upd ((sa u1 0 (fa_fill (tabS (pW t F n)) (u1 0) 256)) 4) 0 0) (by omega) (by omega) (by show _ - 1 < 1000000; omega) (fun j hj => by
    have : j = 0 := by omega
    subst this
    rw [upd_s]
    have : mo (cgC t F n sn tol) n 0 ≤ fb_ct (fun i => (0 : Nat).testBit i) n := mo_le 0 (by decide)
    have h0 : fb_ct (fun i => (0 : Nat).testBit i) n = 0 := fb_ct_zero.mpr (fun k _ => Nat.zero_testBit k)
    rw [show mo (cgC t F n sn tol) n 0 = 0 by omega]; rfl)
  have es : st (sa u1 0 (fa_fill (tabS (pW t F n)) (u1 0) 256)) 4 (ix 0) 0 = sa (sa u1 0 (fa_fill (tabS (pW t F n)) (u1 0) 256)) 4 (upd ((sa u1 0 (fa_fill (tabS (pW t F n)) (u1 0) 256)) 4) 0 0) := rfl
  rw [es]
  exact this
theorem goes_in {t n sn tol i : Nat} {F : Nat → Nat} {v : St} (hP : PtR t F n v) (hM : ∀ j, j < 2 ^ n → v 44 j = nI (mo (cgC t F n sn tol) n j)) (hF : ∀ p, p < 16 → F p ≤ 999) (h3 : v 3 0 = nI tol) (hn : n ≤ 8) (hsn : sn ≤ 999) (ht : tol ≤ 99) (hi : i < mo (cgC t F n sn tol) n (2 ^ n - 1)) (lp : Int32 → Int32 → Int32 → Int32 → Int32 → Option Int32) (x1 : Int32) : fX12_goesAt_L24 v lp FU x1 (nI sn) (nI (hh (cgC t F n sn tol) n i)) (nI i) 0 = lp x1 (nI sn) (nI (hh (cgC t F n sn tol) n (i + 1))) (nI (whoAt t F n sn tol i)) (nI (i + 1)) := by
  have h256 := p256 hn
  have hpp := Nat.two_pow_pos n
  obtain ⟨b1, b2⟩ := hh_ok (C := cgC t F n sn tol) hn i (by omega)
  obtain ⟨a1, a2, a3, a4⟩ := nx_ok (C := cgC t F n sn tol) (n := n) (h := hh (cgC t F n sn tol) n i) (by omega) (by omega)
  have hno := fa_first_no (fun k => (hh (cgC t F n sn tol) n i).testBit k && (decide (mo (cgC t F n sn tol) n (hh (cgC t F n sn tol) n i) = mo (cgC t F n sn tol) n ((hh (cgC t F n sn tol) n i) ^^^ 2 ^ k) + 1) && cgC t F n sn tol k ((hh (cgC t F n sn tol) n i) ^^^ 2 ^ k))) n
  have hs : hh (cgC t F n sn tol) n (i + 1) = hh (cgC t F n sn tol) n i ^^^ 2 ^ nx (cgC t F n sn tol) n (hh (cgC t F n sn tol) n i) := rfl
  unfold whoAt
  rw [hs]
  have hnx : nx (cgC t F n sn tol) n (hh (cgC t F n sn tol) n i) = fa_first (fun k => (hh (cgC t F n sn tol) n i).testBit k && (decide (mo (cgC t F n sn tol) n (hh (cgC t F n sn tol) n i) = mo (cgC t F n sn tol) n ((hh (cgC t F n sn tol) n i) ^^^ 2 ^ k) + 1) && cgC t F n sn tol k ((hh (cgC t F n sn tol) n i) ^^^ 2 ^ k))) n := rfl
  rw [← hnx] at hno
  generalize nx (cgC t F n sn tol) n (hh (cgC t F n sn tol) n i) = K at *
  generalize hh (cgC t F n sn tol) n i = H at *
  refine for_all (fun m (_ : Unit) k => fX12_goesAt_L24 v lp m x1 (nI sn) (nI H) (nI i) (nI k)) K (fun _ => ()) _ (fun m => ?_) (fun m k hk => ?_) (by omega)
  · show bX12_goesAt_L24 v _ _ _ _ _ _ _ = _
    unfold bX12_goesAt_L24
    have hx := xor_lt (show H < 65536 by omega) a2
    have hmx : mo (cgC t F n sn tol) n (H ^^^ 2 ^ K) ≤ n := mo_n (by omega)
    simp only [lett_s]
    rw [shl1 K (by omega), ndiff_eq, xor_nd (by omega) a2, has12_n (by omega) (by omega), a2]
    simp only [dT, if_false]
    rw [gd_n (by omega) (by decide), gd_n (by omega) (by decide), ix_n (by omega), ix_n (by omega), hM _ b1, hM _ (by omega), n1, if_pos (by rw [a3]), canGo12 (tol := tol) (F := F) (t := t) hP hn hF h3 hsn ht a1 (by omega), sbind, xor_nd (by omega) a2]
    have a5 : cgo (pS t F n) (F (kth t K)) sn tol (H ^^^ 2 ^ K) = true := a4
    rw [a5]
    simp only [dT, if_false]
    rw [gd_n (by omega) (by decide), ix_n (by omega), (hP.2 K a1).1, n1]
  · show bX12_goesAt_L24 v _ _ _ _ _ _ _ = fX12_goesAt_L24 v lp m _ _ _ _ _
    unfold bX12_goesAt_L24
    have hkn := hno k hk
    simp only [lett_s]
    rw [shl1 k (by omega), ndiff_eq, has12_n (by omega) (by omega), n1]
    cases hbk : H.testBit k
    · simp only [dF, if_true]
    · simp only [dT, if_false]
      have hx := xor_lt (show H < 65536 by omega) hbk
      have hmx : mo (cgC t F n sn tol) n (H ^^^ 2 ^ k) ≤ n := mo_n (by omega)
      have hmx2 : mo (cgC t F n sn tol) n H ≤ n := mo_n (by omega)
      rw [xor_nd (by omega) hbk, gd_n (by omega) (by decide), gd_n (by omega) (by decide), ix_n (by omega), ix_n (by omega), hM _ b1, hM _ (by omega), n1]
      by_cases q : mo (cgC t F n sn tol) n H = mo (cgC t F n sn tol) n (H ^^^ 2 ^ k) + 1
      · rw [if_pos (by rw [q]), canGo12 (tol := tol) (F := F) (t := t) hP hn hF h3 hsn ht (by omega) (by omega), sbind, xor_nd (by omega) hbk]
        simp only [hbk, decide_eq_true q, Bool.true_and] at hkn
        have a5 : cgo (pS t F n) (F (kth t k)) sn tol (H ^^^ 2 ^ k) = false := hkn
        rw [a5]
        simp only [dF, if_true]
      · rw [if_neg (fun e => q (by have := (nI_eq (by omega) (by omega)).mp e; omega))]
theorem goes_n {t n sn tol x : Nat} {F : Nat → Nat} {v : St} (hP : PtR t F n v) (hM : ∀ j, j < 2 ^ n → v 44 j = nI (mo (cgC t F n sn tol) n j)) (hF : ∀ p, p < 16 → F p ≤ 999) (h3 : v 3 0 = nI tol) (hn : n ≤ 8) (hsn : sn ≤ 999) (ht : tol ≤ 99) (hx : x < mo (cgC t F n sn tol) n (2 ^ n - 1)) : fX12_goesAt v (nI x) (nI sn) = some (nI (whoAt t F n sn tol x)) := by
  have h256 := p256 hn
  have hpp := Nat.two_pow_pos n
  have hmi : mo (cgC t F n sn tol) n (2 ^ n - 1) ≤ n := mo_n (by omega)
  unfold fX12_goesAt
  rw [lett_s, hP.1, shl1 n (by omega), show (1 : Int32) = nI 1 from rfl, sub_n (by omega)]
  have := for_all (fun m (a : Int32) k => fX12_goesAt_L15 v m (nI x) (nI sn) (nI (hh (cgC t F n sn tol) n k)) a (nI k)) (x + 1) (fun k => if k = 0 then -1 else nI (whoAt t F n sn tol (k - 1))) (some (nI (whoAt t F n sn tol x))) (fun m => by
    show bX12_goesAt_L15 v _ _ _ _ _ _ = _
    unfold bX12_goesAt_L15
    rw [if_pos (nI_lt (Nat.lt_succ_self x) (by omega)), if_neg (by omega)]; rfl) (fun m k hk => by
    show bX12_goesAt_L15 v _ _ _ _ _ _ = fX12_goesAt_L15 v m _ _ _ _ _
    unfold bX12_goesAt_L15
    rw [if_neg (nI_nlt (by omega) (by omega)), goes_in hP hM hF h3 hn hsn ht (by omega), if_neg (show ¬ k + 1 = 0 by omega)]; rfl) (by omega)
  exact this
theorem party12 {v : St} {t sn tol : Nat} {F : Nat → Nat} (ht : t < 65536) (hF : ∀ p, p < 16 → v 0 (16 + p) = nI (F p)) (hF2 : ∀ p, p < 16 → F p ≤ 999) (hn : szT t 16 ≤ 8) (h3 : v 3 0 = nI tol) (hsn : sn ≤ 999) (htl : tol ≤ 99) (x : Int32) (hx : x = 100 ∨ ∃ k : Nat, k ≤ 7 ∧ x = nI k) : ∃ v2, fX12_party_L71 FU (st v 45 0 0) (nI t) (nI sn) x 0 = some (if x = 100 then nI (mo (cgC t F (szT t 16) sn tol) (szT t 16) (2 ^ szT t 16 - 1)) else if nI (mo (cgC t F (szT t 16) sn tol) (szT t 16) (2 ^ szT t 16 - 1)) ≤ x then -4 else nI (whoAt t F (szT t 16) sn tol x.toNatClampNeg), v2) ∧ (∀ k, k ≠ 43 → k ≠ 44 → k ≠ 45 → v2 k = v k) := by
  have h256 := p256 hn
  have hpp := Nat.two_pow_pos (szT t 16)
  have hmi : mo (cgC t F (szT t 16) sn tol) (szT t 16) (2 ^ szT t 16 - 1) ≤ szT t 16 := mo_n (by omega)
  have key : ∀ m p u, p ≤ 16 → 16 - p < m → u 45 0 = nI (szT t p) → (∀ j, j < szT t p → u 43 j = nI (kth t j)) → (∀ k, k ≠ 43 → k ≠ 44 → k ≠ 45 → u k = v k) → ∃ v2, fX12_party_L71 m u (nI t) (nI sn) x (nI p) = some (if x = 100 then nI (mo (cgC t F (szT t 16) sn tol) (szT t 16) (2 ^ szT t 16 - 1)) else if nI (mo (cgC t F (szT t 16) sn tol) (szT t 16) (2 ^ szT t 16 - 1)) ≤ x then -4 else nI (whoAt t F (szT t 16) sn tol x.toNatClampNeg), v2) ∧ (∀ k, k ≠ 43 → k ≠ 44 → k ≠ 45 → v2 k = v k) := by
    intro m
    induction m with
    | zero => intro p u _ q; omega
    | succ m ih =>
      intro p u hp hm h45 h43 hk
      have e : fX12_party_L71 (m + 1) u (nI t) (nI sn) x (nI p) = bX12_party_L71 (fX12_party_L71 m) u (nI t) (nI sn) x (nI p) := rfl
      rw [e]
      unfold bX12_party_L71
      by_cases q : p = 16
      · subst q
        rw [if_pos (by decide)]
        have hP : PtR t F (szT t 16) u := ⟨h45, fun j hj => ⟨h43 j hj, kth_b hj, by rw [hk 0 (by decide) (by decide) (by decide)]; exact hF _ (kth_b hj)⟩⟩
        have h3u : u 3 0 = nI tol := by rw [hk 3 (by decide) (by decide) (by decide)]; exact h3
        obtain ⟨r, e1, e2⟩ := lays_n (sn := sn) (tol := tol) hP hn hF2 h3u hsn htl
        have hk2 : ∀ k, k ≠ 43 → k ≠ 44 → k ≠ 45 → sa u 44 r k = v k := fun k h1 h2 h3 => by rw [sa_i h2]; exact hk k h1 h2 h3
        rw [e1, sbind, lett_s, sa_i (by decide), h45, shl1 _ (by omega), show (1 : Int32) = nI 1 from rfl, sub_n (by omega), gd_n (by omega) (by decide), ix_n (by omega), sa_s, e2 _ (by omega)]
        rcases hx with rfl | ⟨k, hk7, rfl⟩
        · exact ⟨_, rfl, hk2⟩
        · rw [if_neg (show ¬ nI k = 100 from fun e => by have := (nI_eq (b := 100) (by omega) (by omega)).mp e; omega), if_neg (show ¬ nI k = 100 from fun e => by have := (nI_eq (b := 100) (by omega) (by omega)).mp e; omega)]
          by_cases c : mo (cgC t F (szT t 16) sn tol) (szT t 16) (2 ^ szT t 16 - 1) ≤ k
          · rw [if_pos (nI_le c (by omega)), if_pos (nI_le c (by omega))]
            exact ⟨_, rfl, hk2⟩
          · rw [if_neg (nI_ge (by omega) (by omega)), if_neg (nI_ge (by omega) (by omega)), goes_n (v := sa u 44 r) (F := F) (t := t) (tol := tol) hP (fun j hj => by rw [sa_s]; exact e2 j hj) hF2 h3u hn hsn htl (by omega), sbind, show (nI k).toNatClampNeg = k from ix_n (by omega)]
            exact ⟨_, rfl, hk2⟩
      · have hsl := szT_le t p
        have hs := szT_s t p
        have hmono : szT t (p + 1) ≤ szT t 16 := fb_ct_mono _ (by omega)
        rw [if_neg (nle_n (x := 16) (a := 16) rfl (by omega) (by decide)), lett_s, has12_n (by omega) (by omega)]
        cases hb : t.testBit p
        · rw [hb] at hs
          have hs2 : szT t (p + 1) = szT t p := by simpa using hs
          simp only [dF, if_true, lett_s]
          rw [n1]
          exact ih (p + 1) u (by omega) (by omega) (by rw [hs2]; exact h45) (by rw [hs2]; exact h43) hk
        · rw [hb] at hs
          have hs2 : szT t (p + 1) = szT t p + 1 := by simpa using hs
          simp only [dT, if_false, lett_s]
          have ekp := kth_sz (show p < 16 by omega) hb
          rw [h45, gd_n (by omega) (by decide), ix_n (by omega), n1, st_i (by decide), h45, n1]
          refine ih (p + 1) _ (by omega) (by omega) (by rw [hs2, st_s, upd_s]) (fun j hj => ?_) (fun k h1 h2 h3 => ?_)
          · rw [st_i (by decide), st_s]
            by_cases q2 : j = szT t p
            · subst q2; rw [upd_s, ekp]
            · rw [upd_n q2]; exact h43 j (by omega)
          · rw [st_i h3, st_i h1]; exact hk k h1 h2 h3
  have := key FU 0 (st v 45 0 0) (by omega) (by show 16 - 0 < 1000000; omega) rfl (fun j hj => absurd hj (Nat.not_lt_zero j)) (fun k h1 h2 h3 => st_i h3)
  exact this
theorem Rel_keep {g : Nat → St} {v v2 : St} (hr : Rel g v) (h : ∀ k, k ≠ 43 → k ≠ 44 → k ≠ 45 → v2 k = v k) : Rel g v2 :=
  Rel_ref hr (h 5 (by decide) (by decide) (by decide)) (h 6 (by decide) (by decide) (by decide)) (h 0 (by decide) (by decide) (by decide)) (h 51 (by decide) (by decide) (by decide)) (h 2 (by decide) (by decide) (by decide)) (h 3 (by decide) (by decide) (by decide)) (h 4 (by decide) (by decide) (by decide)) (h 15 (by decide) (by decide) (by decide)) (h 22 (by decide) (by decide) (by decide)) (h 23 (by decide) (by decide) (by decide)) (h 24 (by decide) (by decide) (by decide)) (h 25 (by decide) (by decide) (by decide)) (h 26 (by decide) (by decide) (by decide)) (h 36 (by decide) (by decide) (by decide)) (h 30 (by decide) (by decide) (by decide)) (h 31 (by decide) (by decide) (by decide)) (h 32 (by decide) (by decide) (by decide))
theorem party_J {g : Nat → St} {v : St} (hr : Rel g v) {t sn : Nat} (ht : t < 65536) (hn : szT t 16 ≤ 8) (hsn : sn ≤ 999) (x : Int32) (hx : x = 100 ∨ ∃ k : Nat, k ≤ 7 ∧ x = nI k) : ∃ (z : Int32 × St) (y : Int32 × St), fX11_party_J56 (g 3) (g 6) (g 9) (nI t) (nI sn) x = some z ∧ fX12_party_J49 v (nI t) (nI sn) x = some y ∧ z.1 = y.1 ∧ Rel (sg g 9 z.2) y.2 := by
  obtain ⟨t1, ⟨N, ok, c, r⟩, t3, ⟨ra, rb, r1, r2, r3, r4, r5, r6⟩, t5, t6⟩ := id hr
  unfold fX11_party_J56 fX12_party_J49 fX9_here
  rw [lett_s, c.1, c.2.1, ndiff_eq, hereSet_n r ok.1, sbind, ndiff_eq, fa_and]
  have hH := ndiff_le (N 4 0) (N 5 0)
  have hlt := ok.1
  generalize ndiff (N 4 0) (N 5 0) = H at *
  have hle : t &&& H ≤ t := Nat.and_le_left
  have hF2 : ∀ p, p < 16 → N 0 p ≤ 999 := fun p hp => (ok.2.2.2.2 p hp).1
  by_cases q : subm H t = true
  · have q2 : t &&& H = t := of_decide_eq_true q
    rw [q2, if_pos rfl, if_pos ((nd_sub (by omega)).mpr q), lett_s, r3]
    obtain ⟨u, e1, e2⟩ := lead_n (ch := g 9) (uw := g 3 0) (F := N 0) (t := t) (sn := sn) (tol := ra) ht (fun p hp => (c.2.2.2.2 p hp).1) hF2 hn hsn r1
    obtain ⟨v2, e3, e4⟩ := party12 (v := v) (F := N 0) (t := t) (sn := sn) (tol := ra) ht (fun p hp => (r.2.2 p hp).2.1) hF2 hn r4 hsn r1 x hx
    have hrel : Rel (sg g 9 u) v2 := Rel_keep (show Rel (sg g 9 u) v from hr) e4
    rw [e1, sbind, e3]
    have h256 := p256 hn
    have hpp := Nat.two_pow_pos (szT t 16)
    have hmi : mo (cgC t (N 0) (szT t 16) sn ra) (szT t 16) (2 ^ szT t 16 - 1) ≤ szT t 16 := mo_n (by omega)
    rcases hx with rfl | ⟨k, hk7, rfl⟩
    · exact ⟨(_, u), (_, v2), rfl, rfl, rfl, hrel⟩
    · have n100 : ¬ nI k = 100 := fun e => by have := (nI_eq (b := 100) (by omega) (by omega)).mp e; omega
      rw [if_neg n100, if_neg n100]
      by_cases cm : mo (cgC t (N 0) (szT t 16) sn ra) (szT t 16) (2 ^ szT t 16 - 1) ≤ k
      · rw [if_pos (nI_le cm (by omega)), if_pos (nI_le cm (by omega))]
        exact ⟨(_, u), (_, v2), rfl, rfl, rfl, hrel⟩
      · rw [if_neg (nI_ge (by omega) (by omega)), if_neg (nI_ge (by omega) (by omega))]
        unfold fX0_whoGoesAt
        rw [lett_s, within_eq, in_n (lo := 0) (hi := 7) (a := 0) (b := 7) rfl rfl (by omega) (by omega) (by decide), if_neg (show ¬ (1 : Int32) = 0 from by decide), gd_n (by omega) (by decide), ix_n (by omega), sbind, show (nI k).toNatClampNeg = k from ix_n (by omega)]
        exact ⟨(_, u), (_, v2), rfl, rfl, e2 k (by omega), hrel⟩
  · rw [if_neg (fun e => q (decide_eq_true ((nI_eq (by omega) (by omega)).mp e))), if_neg (fun e => q ((nd_sub (by omega)).mp e))]
    exact ⟨(_, _), (_, _), rfl, rfl, rfl, hr⟩
theorem eq_party (g : Nat → St) (w : Nat → Int64) (v : St) (hr : Rel g v) (p1 p2 p3 : Int32) : ∃ (z : Int32 × St) (y : Int32 × St), fX11_party (g 3) (g 6) (g 9) p1 p2 p3 = some z ∧ fX12_party v p1 p2 p3 = some y ∧ z.1 = y.1 ∧ Rel (sg g 9 z.2) y.2 := by
  unfold fX11_party fX12_party
  simp only [lett_s]
  rw [within_eq, within_eq, within_eq]
  rcases in_cases p1 1 65535 1 65535 rfl rfl (by decide) (by decide) with ⟨t, h1, h2, rfl, e1⟩ | e1
  · have hpc : pc16 t ≤ 16 := pc16_le t
    rw [e1, if_neg (show ¬ (1 : Int32) = 0 from by decide), if_neg (show ¬ (1 : Int32) = 0 from by decide), bits_n (by omega), sbind, bitCount_n (by omega)]
    by_cases c : 8 < pc16 t
    · have c2 : (8 : Int32) < nI (pc16 t) := nI_lt (a := 8) c (by omega)
      rw [if_pos c2, if_pos c2]
      exact ⟨(_, _), (_, _), rfl, rfl, rfl, hr⟩
    · have c2 : ¬ (8 : Int32) < nI (pc16 t) := nI_nlt (b := pc16 t) (a := 8) (by omega) (by decide)
      rw [if_neg c2, if_neg c2]
      rcases in_cases p2 0 999 0 999 rfl rfl (by decide) (by decide) with ⟨sn, -, h3, rfl, e2⟩ | e2
      · rw [e2, if_neg (show ¬ (1 : Int32) = 0 from by decide), if_neg (show ¬ (1 : Int32) = 0 from by decide)]
        rcases in_cases p3 0 7 0 7 rfl rfl (by decide) (by decide) with ⟨k, -, h4, rfl, e3⟩ | e3
        · rw [e3, if_neg (show ¬ (1 : Int32) = 0 from by decide), if_neg (show ¬ (1 : Int32) = 0 from by decide)]
          exact party_J hr (by omega) (show pc16 t ≤ 8 by omega) h3 _ (Or.inr ⟨k, h4, rfl⟩)
        · rw [e3, if_pos rfl, if_pos rfl]
          by_cases q : p3 = 100
          · rw [if_pos q, if_pos q]
            exact party_J hr (by omega) (show pc16 t ≤ 8 by omega) h3 _ (Or.inl q)
          · rw [if_neg q, if_neg q]
            exact ⟨(_, _), (_, _), rfl, rfl, rfl, hr⟩
      · rw [e2, if_pos rfl, if_pos rfl]
        exact ⟨(_, _), (_, _), rfl, rfl, rfl, hr⟩
  · rw [e1, if_pos rfl, if_pos rfl]
    exact ⟨(_, _), (_, _), rfl, rfl, rfl, hr⟩
