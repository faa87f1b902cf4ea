/-! ===== party: who can go, how many at most ===== -/
def absd (a b : Nat) : Nat := (a - b) + (b - a)
def cgP (S : Nat → Nat) (W sn tol : Nat) (s : Nat) : Bool := decide (absd (S s) W ≤ tol) || decide (absd (S s + sn) W ≤ tol)
def cgo (S : Nat → Nat) (W sn tol B : Nat) : Bool := anyS B (cgP S W sn tol) (B + 1)
theorem canGo11 {u : St} {S : Nat → Nat} {W sn tol B : Nat} (hS : ∀ s, s < 256 → u 0 s = nI (S s) ∧ S s ≤ 20000) (hW : W ≤ 999) (hsn : sn ≤ 999) (ht : tol ≤ 99) (hB : B < 256) : fX0_canGo u (nI B) (nI W) (nI sn) (nI tol) = some (nI (b01 (cgo S W sn tol B))) := by
  unfold fX0_canGo
  have hp := pow16 B
  rw [lett_s, lett_s, bitCount_n (by omega), shl1 _ (by have := pc16_le B; omega)]
  refine enumX (by omega) (fun n s j => fX0_canGo_L14 u n (nI B) (nI W) (nI sn) (nI tol) (nI (2 ^ pc16 B)) s (nI j)) (cgP S W sn tol) (fun n s => ?_) (fun n s j hs hsB hj => ?_)
  · show bX0_canGo_L14 u _ _ _ _ _ _ _ _ = _
    unfold bX0_canGo_L14
    rw [if_pos (nI_le (Nat.le_refl _) (by omega))]
  · show bX0_canGo_L14 u _ _ _ _ _ _ _ _ = if cgP S W sn tol s then some 1 else fX0_canGo_L14 u n _ _ _ _ _ _ _
    unfold bX0_canGo_L14 cgP absd
    obtain ⟨e1, e2⟩ := hS s (by omega)
    rw [if_neg (nI_ge hj (by omega)), gd_n (by omega) (by decide), lett_s, lett_s, lett_s, ix_n (by omega), e1, ir1, nI_add, abs_n (by omega) (by omega), abs_n (by omega) (by omega), n1]
    rw [show W - S s + (S s - W) = S s - W + (W - S s) by omega, show W - (S s + sn) + (S s + sn - W) = S s + sn - W + (W - (S s + sn)) by omega]
    generalize hD1 : S s - W + (W - S s) = D1
    generalize hD2 : S s + sn - W + (W - (S s + sn)) = D2
    by_cases c1 : D1 ≤ tol
    · rw [if_pos (nI_le c1 (by omega)), decide_eq_true c1]; rfl
    · rw [if_neg (nI_ge (by omega) (by omega)), decide_eq_false c1]
      by_cases c2 : D2 ≤ tol
      · rw [if_neg (nI_nlt c2 (by omega)), decide_eq_true c2]; rfl
      · rw [if_pos (nI_lt (by omega) (by omega)), decide_eq_false c2]; rfl
def PtR (t : Nat) (F : Nat → Nat) (n : Nat) (v : St) : Prop := v 45 0 = nI n ∧ ∀ j, j < n → v 43 j = nI (kth t j) ∧ kth t j < 16 ∧ v 0 (16 + kth t j) = nI (F (kth t j))
def pS (t : Nat) (F : Nat → Nat) (n : Nat) (s : Nat) : Nat := sumB s (pW t F n) 8
theorem partySum_n {v : St} {t n s : Nat} {F : Nat → Nat} (h : PtR t F n v) (hn : n ≤ 8) (hs : s < 65536) : fX12_partySum v (nI s) = some (nI (pS t F n s)) := by
  unfold pS
  rw [pW_sum hn]
  refine for_all (fun m (a : Nat) k => fX12_partySum_L4 v m (nI s) (nI a) (nI k)) n (fun k => sumB s (pW t F n) k) _ (fun m => ?_) (fun m k hk => ?_) (by omega)
  · show bX12_partySum_L4 v _ _ _ _ = _
    unfold bX12_partySum_L4
    rw [h.1, if_pos (nI_le (Nat.le_refl _) (by omega))]
  · show bX12_partySum_L4 v _ _ _ _ = fX12_partySum_L4 v m _ _ _
    unfold bX12_partySum_L4
    obtain ⟨e1, e2, e3⟩ := h.2 k hk
    rw [h.1, if_neg (nI_ge hk (by omega)), has12_n (by omega) (by omega), gd_n (by omega) (by decide), ix_n (by omega), e1, a16, gd_n (by omega) (by decide), ix_n (by omega), e3, sumB_s]
    simp only [lett_s]
    rw [n1, nI_add]
    have : pW t F n k = F (kth t k) := if_pos hk
    rw [this]
    cases s.testBit k
    · simp only [dF, if_true, Bool.false_eq_true, if_false, Nat.add_zero]
    · simp only [dT, if_true, if_false]
theorem canGo12 {v : St} {t n k h sn tol : Nat} {F : Nat → Nat} (hP : PtR t F n v) (hn : n ≤ 8) (hF : ∀ p, p < 16 → F p ≤ 999) (h3 : v 3 0 = nI tol) (hsn : sn ≤ 999) (ht : tol ≤ 99) (hk : k < n) (hh : h < 256) : fX12_canGo v (nI k) (nI h) (nI sn) = some (nI (b01 (cgo (pS t F n) (F (kth t k)) sn tol (ndiff h (2 ^ k))))) := by
  unfold fX12_canGo
  obtain ⟨e1, e2, e3⟩ := hP.2 k hk
  have hl := ndiff_le h (2 ^ k)
  have hW := hF _ e2
  rw [lett_s, shl1 k (by omega), ndiff_eq, gd_n (by omega) (by decide), ix_n (by omega), e1, a16, gd_n (by omega) (by decide), ix_n (by omega), e3, lett_s]
  generalize ndiff h (2 ^ k) = B at hl ⊢
  refine enumX12 (by omega) (fun m s => fX12_canGo_L28 v m (nI sn) (nI B) (nI (F (kth t k))) (nI s)) (cgP (pS t F n) (F (kth t k)) sn tol) (fun m => ?_) (fun m s hsB => ?_)
  · show bX12_canGo_L28 v _ _ _ _ _ = _
    unfold bX12_canGo_L28
    rw [if_pos (nI_lt (Nat.lt_succ_self B) (by omega))]
  · show bX12_canGo_L28 v _ _ _ _ _ = if (subm B s && cgP (pS t F n) (F (kth t k)) sn tol s) = true then some 1 else fX12_canGo_L28 v m _ _ _ _
    unfold bX12_canGo_L28 cgP absd
    have hSb : pS t F n s ≤ 8 * 999 := by
      refine sumB_le (fun j hj => ?_)
      unfold pW
      split
      · rename_i q
        exact hF _ (hP.2 j q).2.1
      · omega
    rw [if_neg (nI_nlt hsB (by omega)), ndiff_eq, partySum_n hP hn (by omega), sbind]
    simp only [lett_s]
    rw [n1, size_ab, size_ab, ir2, nI_add, abs_n (by omega) (by omega), abs_n (by omega) (by omega), h3]
    generalize hD1 : pS t F n s - F (kth t k) + (F (kth t k) - pS t F n s) = D1
    generalize hD2 : pS t F n s + sn - F (kth t k) + (F (kth t k) - (pS t F n s + sn)) = D2
    cases hsm : subm B s
    · rw [if_neg (fun e => by rw [(nd_sub (by omega)).mp e] at hsm; cases hsm)]; rfl
    · rw [if_pos ((nd_sub (by omega)).mpr hsm)]
      by_cases c1 : D1 ≤ tol
      · rw [if_pos (nI_le c1 (by omega)), decide_eq_true c1]; rfl
      · rw [if_neg (nI_ge (by omega) (by omega)), decide_eq_false c1]
        by_cases c2 : D2 ≤ tol
        · rw [if_neg (nI_nlt c2 (by omega)), decide_eq_true c2]; rfl
        · rw [if_pos (nI_lt (by omega) (by omega)), decide_eq_false c2]; rfl
/-! the table -/
def moI (C : Nat → Nat → Bool) (f : Nat → Nat) (h : Nat) : Nat → Nat
  | 0 => 0
  | k + 1 => if h.testBit k && C k (h ^^^ 2 ^ k) then max (moI C f h k) (f (h ^^^ 2 ^ k) + 1) else moI C f h k
def moT (C : Nat → Nat → Bool) (n : Nat) : Nat → Nat → Nat
  | 0 => fun _ => 0
  | h + 1 => fun j => if j = h then moI C (moT C n h) h n else moT C n h j
def mo (C : Nat → Nat → Bool) (n h : Nat) : Nat := moI C (moT C n h) h n
theorem moT_lt {C : Nat → Nat → Bool} {n j : Nat} : ∀ H, j < H → moT C n H j = mo C n j
  | 0, h => by omega
  | H + 1, h => by
    show (if j = H then moI C (moT C n H) H n else moT C n H j) = mo C n j
    by_cases q : j = H
    · subst q; rw [if_pos rfl]; rfl
    · rw [if_neg q]; exact moT_lt H (by omega)
theorem xor_nd {h k : Nat} (hh : h < 65536) (hb : h.testBit k = true) : ndiff h (2 ^ k) = h ^^^ 2 ^ k := by
  refine Nat.eq_of_testBit_eq (fun i => ?_)
  rw [Nat.testBit_xor, Nat.testBit_two_pow]
  by_cases hi : i < 32
  · rw [ndiff_bit hi, Nat.testBit_two_pow]
    by_cases q : k = i
    · subst q; rw [hb]; simp
    · simp [q]
  · have h1 : h.testBit i = false := bit_hi hh (by omega)
    have h2 : k ≠ i := fun e => by subst e; rw [h1] at hb; cases hb
    unfold ndiff
    rw [Nat.testBit_and, h1]; simp [h2]
theorem xor_lt {h k : Nat} (hh : h < 65536) (hb : h.testBit k = true) : h ^^^ 2 ^ k < h := by
  have h1 := ndiff_le h (2 ^ k)
  rw [xor_nd hh hb] at h1
  have h2 : h ^^^ 2 ^ k ≠ h := fun e => by
    have := Nat.testBit_xor h (2 ^ k) k
    rw [e, hb, Nat.testBit_two_pow] at this
    simp at this
  omega
theorem moI_cong {C : Nat → Nat → Bool} {f g : Nat → Nat} {h : Nat} (hh : h < 65536) (e : ∀ j, j < h → f j = g j) : ∀ k, moI C f h k = moI C g h k
  | 0 => rfl
  | k + 1 => by
    rw [moI, moI, moI_cong hh e k]
    cases hb : h.testBit k
    · simp
    · rw [e _ (xor_lt hh hb)]
theorem mo_eq {C : Nat → Nat → Bool} {n h : Nat} (hh : h < 65536) : mo C n h = moI C (mo C n) h n := moI_cong hh (fun _ hj => moT_lt h hj) n
theorem moI_w {C : Nat → Nat → Bool} {f : Nat → Nat} {h : Nat} : ∀ k, moI C f h k = 0 ∨ ∃ j, j < k ∧ h.testBit j = true ∧ C j (h ^^^ 2 ^ j) = true ∧ moI C f h k = f (h ^^^ 2 ^ j) + 1
  | 0 => Or.inl rfl
  | k + 1 => by
    rw [moI]
    cases hb : (h.testBit k && C k (h ^^^ 2 ^ k))
    · simp only [Bool.false_eq_true, if_false]
      rcases moI_w (C := C) (f := f) (h := h) k with q | ⟨j, h1, h2, h3, h4⟩
      · exact Or.inl q
      · exact Or.inr ⟨j, by omega, h2, h3, h4⟩
    · simp only [if_true]
      rw [Bool.and_eq_true] at hb
      by_cases c : moI C f h k ≤ f (h ^^^ 2 ^ k) + 1
      · exact Or.inr ⟨k, by omega, hb.1, hb.2, by omega⟩
      · rcases moI_w (C := C) (f := f) (h := h) k with q | ⟨j, h1, h2, h3, h4⟩
        · omega
        · exact Or.inr ⟨j, by omega, h2, h3, by omega⟩
theorem ct_xor {h k n : Nat} (hk : k < n) (hb : h.testBit k = true) : fb_ct (fun i => (h ^^^ 2 ^ k).testBit i) n + 1 = fb_ct (fun i => h.testBit i) n := by
  have e := fb_ct_upd (fun i => h.testBit i) false (i := k) (n := n) hk
  have e2 : fb_ct (fun i => (h ^^^ 2 ^ k).testBit i) n = fb_ct (fun i => if i = k then false else h.testBit i) n := by
    refine fb_ct_cong (fun i _ => ?_)
    rw [Nat.testBit_xor, Nat.testBit_two_pow]
    by_cases q : i = k
    · subst q; rw [hb]; simp
    · have : ¬ k = i := fun e => q e.symm
      simp [q, this]
  rw [e2]
  simp only [hb, if_true, Bool.false_eq_true, if_false] at e
  omega
theorem mo_le {C : Nat → Nat → Bool} {n : Nat} : ∀ h, h < 65536 → mo C n h ≤ fb_ct (fun i => h.testBit i) n := by
  intro h
  induction h using Nat.strongRecOn with
  | ind h ih =>
    intro hh
    rw [mo_eq hh]
    rcases moI_w (C := C) (f := mo C n) (h := h) n with q | ⟨j, h1, h2, h3, h4⟩
    · omega
    · have hl := xor_lt hh h2
      have := ih _ hl (by omega)
      have := ct_xor h1 h2
      omega
theorem mo_n {C : Nat → Nat → Bool} {n h : Nat} (hh : h < 65536) : mo C n h ≤ n := Nat.le_trans (mo_le h hh) (fb_ct_le _ n)
theorem moI_b {C : Nat → Nat → Bool} {f : Nat → Nat} {h b : Nat} (hf : ∀ k, h.testBit k = true → f (h ^^^ 2 ^ k) ≤ b) : ∀ k, moI C f h k ≤ b + 1
  | 0 => by rw [moI]; omega
  | k + 1 => by
    have := moI_b (C := C) hf k
    rw [moI]
    cases hb : h.testBit k
    · simp; omega
    · have := hf k hb
      split <;> omega
theorem mx_n {a b : Nat} (ha : a < 2147483648) (hb : b < 2147483648) : mx (nI a) (nI b) = nI (max a b) := by
  unfold mx
  by_cases c : a < b
  · rw [if_pos (nI_lt c (by omega)), Nat.max_eq_right (by omega)]
  · rw [if_neg (nI_nlt (by omega) (by omega)), Nat.max_eq_left (by omega)]
/-- the choice at each place -/
def nx (C : Nat → Nat → Bool) (n h : Nat) : Nat := fa_first (fun k => h.testBit k && (decide (mo C n h = mo C n (h ^^^ 2 ^ k) + 1) && C k (h ^^^ 2 ^ k))) n
def hh (C : Nat → Nat → Bool) (n : Nat) : Nat → Nat
  | 0 => 2 ^ n - 1
  | i + 1 => hh C n i ^^^ 2 ^ nx C n (hh C n i)
theorem nx_ok {C : Nat → Nat → Bool} {n h : Nat} (hh : h < 65536) (h0 : 0 < mo C n h) : nx C n h < n ∧ h.testBit (nx C n h) = true ∧ mo C n h = mo C n (h ^^^ 2 ^ nx C n h) + 1 ∧ C (nx C n h) (h ^^^ 2 ^ nx C n h) = true := by
  have hlt : nx C n h < n := by
    rcases moI_w (C := C) (f := mo C n) (h := h) n with q | ⟨j, h1, h2, h3, h4⟩
    · rw [← mo_eq hh] at q; omega
    · by_cases c : nx C n h < n
      · exact c
      · have := fa_first_no (fun k => h.testBit k && (decide (mo C n h = mo C n (h ^^^ 2 ^ k) + 1) && C k (h ^^^ 2 ^ k))) n j (by
          show j < nx C n h; omega)
        rw [← mo_eq hh] at h4
        simp only [h2, h3, decide_eq_true h4] at this
        cases this
  have := fa_first_yes (fun k => h.testBit k && (decide (mo C n h = mo C n (h ^^^ 2 ^ k) + 1) && C k (h ^^^ 2 ^ k))) n hlt
  simp only [Bool.and_eq_true, decide_eq_true_eq] at this
  exact ⟨hlt, this.1, this.2.1, this.2.2⟩
theorem hh_ok {C : Nat → Nat → Bool} {n : Nat} (hn : n ≤ 8) : ∀ i, i ≤ mo C n (2 ^ n - 1) → hh C n i < 2 ^ n ∧ mo C n (hh C n i) = mo C n (2 ^ n - 1) - i
  | 0, _ => ⟨by have := Nat.two_pow_pos n; show 2 ^ n - 1 < 2 ^ n; omega, rfl⟩
  | i + 1, h => by
    have h256 : 2 ^ n ≤ 256 := Nat.pow_le_pow_right (n := 2) (by decide) hn
    obtain ⟨h1, h2⟩ := hh_ok (C := C) hn i (by omega)
    obtain ⟨a1, a2, a3, a4⟩ := nx_ok (C := C) (n := n) (h := hh C n i) (by omega) (by omega)
    have := xor_lt (show hh C n i < 65536 by omega) a2
    refine ⟨?_, ?_⟩
    · show hh C n i ^^^ 2 ^ nx C n (hh C n i) < 2 ^ n
      omega
    · show mo C n (hh C n i ^^^ 2 ^ nx C n (hh C n i)) = _
      omega
