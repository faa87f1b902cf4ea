/-! ===== the walk, on both sides ===== -/
theorem sbind {α β : Type} (a : α) (k : α → Option β) : (some a).bind k = k a := rfl
theorem setOf_t {P : Nat → Bool} {n : Nat} (h : P n = true) : setOf P (n + 1) = setOf P n ||| 2 ^ n := by rw [setOf, if_pos h]
theorem setOf_f {P : Nat → Bool} {n : Nat} (h : P n = false) : setOf P (n + 1) = setOf P n := by rw [setOf, if_neg (by rw [h]; decide), Nat.or_zero]
theorem isTold_n {v : St} {N : Nat → Nat → Nat} (h : WkR N (v 0)) {p : Nat} (hp : p < 16) : fX12_isTold v (nI p) = some (nI (b01 ((N 4 0).testBit p))) := by
  unfold fX12_isTold; dsimp only [lett]
  rw [in_n (lo := 0) (hi := 15) (a := 0) (b := 15) rfl rfl (by omega) (by omega) (by decide), if_neg (by decide), a0, gd_n (by omega) (by decide), ix_n (by omega), (h.2.2 p hp).1]
  cases (N 4 0).testBit p <;> rfl
theorem isTold_o {v : St} {x : Int32} (h : fX12_in x 0 15 = 0) : fX12_isTold v x = some 0 := by
  unfold fX12_isTold; dsimp only [lett]
  rw [h, if_pos rfl]
theorem isHere_n {v : St} {N : Nat → Nat → Nat} (h : WkR N (v 0)) {p : Nat} (hp : p < 16) : fX12_isHere v (nI p) = some (nI (b01 ((N 4 0).testBit p && !(N 5 0).testBit p))) := by
  unfold fX12_isHere
  rw [isTold_n h hp, sbind]
  cases (N 4 0).testBit p
  · rw [if_pos (by decide)]; rfl
  · rw [if_neg (by decide), a48, gd_n (by omega) (by decide), ix_n (by omega), (h.2.2 p hp).2.2.2.1]
    cases (N 5 0).testBit p <;> rfl
theorem isHere_o {v : St} {x : Int32} (h : fX12_in x 0 15 = 0) : fX12_isHere v x = some 0 := by
  unfold fX12_isHere
  rw [isTold_o h, sbind, if_pos rfl]
theorem toldSet_s {v : St} {N : Nat → Nat → Nat} (h : WkR N (v 0)) : fX12_toldSet v = some (nI (setOf (fun i => (N 4 0).testBit i) 16)) := by
  have e : fX12_toldSet_L4 v FU (nI (setOf (fun i => (N 4 0).testBit i) 0)) (nI 0) = some (nI (setOf (fun i => (N 4 0).testBit i) 16)) := by
    refine for_all (fun n (a : Nat) k => fX12_toldSet_L4 v n (nI a) (nI k)) 16 (fun k => setOf (fun i => (N 4 0).testBit i) k) _ (fun n => ?_) (fun n k hk => ?_) (by decide)
    · show bX12_toldSet_L4 v _ _ _ = _
      unfold bX12_toldSet_L4
      rw [if_pos (yle_n (x := 16) (a := 16) rfl (by omega) (by decide))]
    · show bX12_toldSet_L4 v _ _ _ = fX12_toldSet_L4 v n _ _
      unfold bX12_toldSet_L4; dsimp only [lett]
      rw [if_neg (nle_n (x := 16) (a := 16) rfl hk (by decide)), isTold_n h hk, sbind]
      cases hb : (N 4 0).testBit k
      · rw [if_pos (by decide), n1, setOf_f (P := fun i => (N 4 0).testBit i) hb]
      · rw [if_neg (by decide), shl1 k (by omega), fa_or, n1, setOf_t (P := fun i => (N 4 0).testBit i) hb]
  exact e
theorem toldSet_n {v : St} {N : Nat → Nat → Nat} (h : WkR N (v 0)) (ok : N 4 0 < 65536) : fX12_toldSet v = some (nI (N 4 0)) := by
  rw [toldSet_s h, setOf_self (n := 16) (by omega)]
theorem ndiff_set {t o : Nat} (ht : t < 65536) : setOf (fun i => t.testBit i && !o.testBit i) 16 = ndiff t o := by
  refine Nat.eq_of_testBit_eq (fun i => ?_)
  rw [setOf_bit]
  by_cases e : i < 16
  · rw [ndiff_bit (by omega)]; simp [e]
  · have : (ndiff t o).testBit i = false := Nat.testBit_lt_two_pow (Nat.lt_of_le_of_lt (ndiff_le t o) (Nat.lt_of_lt_of_le (show t < 2 ^ 16 by omega) (Nat.pow_le_pow_right (by decide) (by omega))))
    simp [e, this]
theorem hereSet_n {v : St} {N : Nat → Nat → Nat} (h : WkR N (v 0)) (ok : N 4 0 < 65536) : fX12_hereSet v = some (nI (ndiff (N 4 0) (N 5 0))) := by
  have e : fX12_hereSet_L4 v FU (nI (setOf (fun i => (N 4 0).testBit i && !(N 5 0).testBit i) 0)) (nI 0) = some (nI (setOf (fun i => (N 4 0).testBit i && !(N 5 0).testBit i) 16)) := by
    refine for_all (fun n (a : Nat) k => fX12_hereSet_L4 v n (nI a) (nI k)) 16 (fun k => setOf (fun i => (N 4 0).testBit i && !(N 5 0).testBit i) k) _ (fun n => ?_) (fun n k hk => ?_) (by decide)
    · show bX12_hereSet_L4 v _ _ _ = _
      unfold bX12_hereSet_L4
      rw [if_pos (yle_n (x := 16) (a := 16) rfl (by omega) (by decide))]
    · show bX12_hereSet_L4 v _ _ _ = fX12_hereSet_L4 v n _ _
      unfold bX12_hereSet_L4; dsimp only [lett]
      rw [if_neg (nle_n (x := 16) (a := 16) rfl hk (by decide)), isHere_n h hk, sbind]
      cases hb : ((N 4 0).testBit k && !(N 5 0).testBit k)
      · rw [if_pos (by decide), n1, setOf_f (P := fun i => (N 4 0).testBit i && !(N 5 0).testBit i) hb]
      · rw [if_neg (by decide), shl1 k (by omega), fa_or, n1, setOf_t (P := fun i => (N 4 0).testBit i && !(N 5 0).testBit i) hb]
  rw [ndiff_set ok] at e
  exact e
theorem diff_diff {t o : Nat} (ho : o < 65536) (hs : ∀ p, p < 16 → o.testBit p = true → t.testBit p = true) : ndiff t (ndiff t o) = o ∨ ∃ p, 16 ≤ p ∧ t.testBit p = true := by
  by_cases hq : ∃ p, 16 ≤ p ∧ t.testBit p = true
  · exact Or.inr hq
  · left
    refine Nat.eq_of_testBit_eq (fun i => ?_)
    by_cases e : i < 16
    · rw [ndiff_bit (by omega), ndiff_bit (by omega)]
      cases h1 : t.testBit i <;> cases h2 : o.testBit i <;> simp
      have := hs i e h2
      rw [h1] at this; cases this
    · have h1 : o.testBit i = false := Nat.testBit_lt_two_pow (Nat.lt_of_lt_of_le (show o < 2 ^ 16 by omega) (Nat.pow_le_pow_right (by decide) (by omega)))
      have h2 : t.testBit i = false := by
        cases h : t.testBit i
        · rfl
        · exact absurd ⟨i, by omega, h⟩ hq
      unfold ndiff
      rw [Nat.testBit_and, h2, h1, Bool.false_and]
theorem bit_hi {t : Nat} (h : t < 65536) {p : Nat} (hp : 16 ≤ p) : t.testBit p = false := Nat.testBit_lt_two_pow (Nat.lt_of_lt_of_le (show t < 2 ^ 16 by omega) (Nat.pow_le_pow_right (by decide) hp))
theorem diff_over {t o : Nat} (ht : t < 65536) (ho : o < 65536) (hs : ∀ p, p < 16 → o.testBit p = true → t.testBit p = true) : ndiff t (ndiff t o) = o := by
  rcases diff_diff ho hs with h | ⟨p, h1, h2⟩
  · exact h
  · rw [bit_hi ht h1] at h2; cases h2
/-- how many of the lower sixteen -/
def pc16 (x : Nat) : Nat := fb_ct (fun i => x.testBit i) 16
theorem bits_n {x : Nat} (hx : x < 2147483648) : fX12_bits (nI x) = some (nI (pc16 x)) := by
  have e : fX12_bits_L4 FU (nI x) (nI (fb_ct (fun i => x.testBit i) 0)) (nI 0) = some (nI (fb_ct (fun i => x.testBit i) 16)) := by
    refine for_all (fun n (a : Nat) k => fX12_bits_L4 n (nI x) (nI a) (nI k)) 16 (fun k => fb_ct (fun i => x.testBit i) k) _ (fun n => ?_) (fun n k hk => ?_) (by decide)
    · show bX12_bits_L4 _ _ _ _ = _
      unfold bX12_bits_L4
      rw [if_pos (yle_n (x := 16) (a := 16) rfl (by omega) (by decide))]
    · show bX12_bits_L4 _ _ _ _ = fX12_bits_L4 n _ _ _
      unfold bX12_bits_L4; dsimp only [lett]
      rw [if_neg (nle_n (x := 16) (a := 16) rfl hk (by decide)), shr1_n hx (by omega), nI_add, n1, fb_ct_succ]
      rfl
  exact e
theorem overMany_n {v : St} {N : Nat → Nat → Nat} (h : WkR N (v 0)) (ok : WkOk N) : fX12_overMany v = some (nI (pc16 (N 5 0))) := by
  unfold fX12_overMany
  rw [toldSet_n h ok.1, sbind, hereSet_n h ok.1, sbind, ndiff_eq, diff_over ok.1 ok.2.1 (fun p hp => (ok.2.2.2.2 p hp).2.2.2.2.2), bits_n (by have := ok.2.1; omega), sbind]
theorem bitCount_n {x : Nat} (h : x < 65536) : fJ6_bitCount_0f7a4 (nI x) = nI (pc16 x) := sorry
theorem knows_n {w : St} {N : Nat → Nat → Nat} (h : WkC N w) (ok : N 4 0 < 65536) {p : Nat} (hp : p < 16) : fX9_knows w (nI p) = some (nI (b01 ((N 4 0).testBit p))) := by
  unfold fX9_knows; dsimp only [lett]
  rw [isWalker_eq, sbind, in_n (lo := 0) (hi := 15) (a := 0) (b := 15) rfl rfl (by omega) (by omega) (by decide), if_neg (by decide), h.1, has11_n (by omega) (by omega)]
  cases (N 4 0).testBit p <;> rfl
theorem knows_o {w : St} {x : Int32} (h : fX12_in x 0 15 = 0) : fX9_knows w x = some 0 := by
  unfold fX9_knows
  rw [isWalker_eq, sbind, h, if_pos rfl]
