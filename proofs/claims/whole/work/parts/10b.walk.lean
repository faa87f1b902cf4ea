/-! ===== the walk, on both sides ===== -/
theorem sbind {α β : Type} (a : α) (k : α → Option β) : (some a).bind k = k a := rfl
theorem setOf_t {P : Nat → Bool} {n : Nat} (h : P n = true) : setOf P (n + 1) = setOf P n ||| 2 ^ n := by rw [setOf, if_pos h]
theorem setOf_f {P : Nat → Bool} {n : Nat} (h : P n = false) : setOf P (n + 1) = setOf P n := by rw [setOf, if_neg (by rw [h]; decide), Nat.or_zero]
theorem isTold_n {v : St} {N : Nat → Nat → Nat} (h : WkR N (v 0)) {p : Nat} (hp : p < 16) : fX12_isTold v (nI p) = some (nI (b01 ((N 4 0).testBit p))) := by
  unfold fX12_isTold; dsimp only [lett]
  rw [in_n (lo := 0) (hi := 15) (a := 0) (b := 15) rfl rfl (by omega) (by omega) (by decide), if_neg (by decide), a0, gd_n (by omega) (by decide), ix_n (by omega), (h.2.2 p hp).1]
  cases (N 4 0).testBit p <;> rfl
theorem isTold_o {v : St} {x : Int32} (h : fX12_in x 0 15 = 0) : fX12_isTold v x = some 0 := by
  unfold fX12_isTold; dsimp only [lett]
  rw [h, if_pos rfl]
theorem isHere_n {v : St} {N : Nat → Nat → Nat} (h : WkR N (v 0)) {p : Nat} (hp : p < 16) : fX12_isHere v (nI p) = some (nI (b01 ((N 4 0).testBit p && !(N 5 0).testBit p))) := by
  unfold fX12_isHere
  rw [isTold_n h hp, sbind]
  cases (N 4 0).testBit p
  · rw [if_pos (by decide)]; rfl
  · rw [if_neg (by decide), a48, gd_n (by omega) (by decide), ix_n (by omega), (h.2.2 p hp).2.2.2.1]
    cases (N 5 0).testBit p <;> rfl
theorem isHere_o {v : St} {x : Int32} (h : fX12_in x 0 15 = 0) : fX12_isHere v x = some 0 := by
  unfold fX12_isHere
  rw [isTold_o h, sbind, if_pos rfl]
theorem toldSet_s {v : St} {N : Nat → Nat → Nat} (h : WkR N (v 0)) : fX12_toldSet v = some (nI (setOf (fun i => (N 4 0).testBit i) 16)) := by
  have e : fX12_toldSet_L4 v FU (nI (setOf (fun i => (N 4 0).testBit i) 0)) (nI 0) = some (nI (setOf (fun i => (N 4 0).testBit i) 16)) := by
    refine for_all (fun n (a : Nat) k => fX12_toldSet_L4 v n (nI a) (nI k)) 16 (fun k => setOf (fun i => (N 4 0).testBit i) k) _ (fun n => ?_) (fun n k hk => ?_) (by decide)
    · show bX12_toldSet_L4 v _ _ _ = _
      unfold bX12_toldSet_L4
      rw [if_pos (yle_n (x := 16) (a := 16) rfl (by omega) (by decide))]
    · show bX12_toldSet_L4 v _ _ _ = fX12_toldSet_L4 v n _ _
      unfold bX12_toldSet_L4; dsimp only [lett]
      rw [if_neg (nle_n (x := 16) (a := 16) rfl hk (by decide)), isTold_n h hk, sbind]
      cases hb : (N 4 0).testBit k
      · rw [if_pos (by decide), n1, setOf_f (P := fun i => (N 4 0).testBit i) hb]
      · rw [if_neg (by decide), shl1 k (by omega), fa_or, n1, setOf_t (P := fun i => (N 4 0).testBit i) hb]
  exact e
theorem toldSet_n {v : St} {N : Nat → Nat → Nat} (h : WkR N (v 0)) (ok : N 4 0 < 65536) : fX12_toldSet v = some (nI (N 4 0)) := by
  rw [toldSet_s h, setOf_self (n := 16) (by omega)]
theorem ndiff_set {t o : Nat} (ht : t < 65536) : setOf (fun i => t.testBit i && !o.testBit i) 16 = ndiff t o := by
  refine Nat.eq_of_testBit_eq (fun i => ?_)
  rw [setOf_bit]
  by_cases e : i < 16
  · rw [ndiff_bit (by omega)]; simp [e]
  · have : (ndiff t o).testBit i = false := Nat.testBit_lt_two_pow (Nat.lt_of_le_of_lt (ndiff_le t o) (Nat.lt_of_lt_of_le (show t < 2 ^ 16 by omega) (Nat.pow_le_pow_right (by decide) (by omega))))
    simp [e, this]
theorem hereSet_n {v : St} {N : Nat → Nat → Nat} (h : WkR N (v 0)) (ok : N 4 0 < 65536) : fX12_hereSet v = some (nI (ndiff (N 4 0) (N 5 0))) := by
  have e : fX12_hereSet_L4 v FU (nI (setOf (fun i => (N 4 0).testBit i && !(N 5 0).testBit i) 0)) (nI 0) = some (nI (setOf (fun i => (N 4 0).testBit i && !(N 5 0).testBit i) 16)) := by
    refine for_all (fun n (a : Nat) k => fX12_hereSet_L4 v n (nI a) (nI k)) 16 (fun k => setOf (fun i => (N 4 0).testBit i && !(N 5 0).testBit i) k) _ (fun n => ?_) (fun n k hk => ?_) (by decide)
    · show bX12_hereSet_L4 v _ _ _ = _
      unfold bX12_hereSet_L4
      rw [if_pos (yle_n (x := 16) (a := 16) rfl (by omega) (by decide))]
    · show bX12_hereSet_L4 v _ _ _ = fX12_hereSet_L4 v n _ _
      unfold bX12_hereSet_L4; dsimp only [lett]
      rw [if_neg (nle_n (x := 16) (a := 16) rfl hk (by decide)), isHere_n h hk, sbind]
      cases hb : ((N 4 0).testBit k && !(N 5 0).testBit k)
      · rw [if_pos (by decide), n1, setOf_f (P := fun i => (N 4 0).testBit i && !(N 5 0).testBit i) hb]
      · rw [if_neg (by decide), shl1 k (by omega), fa_or, n1, setOf_t (P := fun i => (N 4 0).testBit i && !(N 5 0).testBit i) hb]
  rw [ndiff_set ok] at e
  exact e
theorem diff_diff {t o : Nat} (ho : o < 65536) (hs : ∀ p, p < 16 → o.testBit p = true → t.testBit p = true) : ndiff t (ndiff t o) = o ∨ ∃ p, 16 ≤ p ∧ t.testBit p = true := by
  by_cases hq : ∃ p, 16 ≤ p ∧ t.testBit p = true
  · exact Or.inr hq
  · left
    refine Nat.eq_of_testBit_eq (fun i => ?_)
    by_cases e : i < 16
    · rw [ndiff_bit (by omega), ndiff_bit (by omega)]
      cases h1 : t.testBit i <;> cases h2 : o.testBit i <;> simp
      have := hs i e h2
      rw [h1] at this; cases this
    · have h1 : o.testBit i = false := Nat.testBit_lt_two_pow (Nat.lt_of_lt_of_le (show o < 2 ^ 16 by omega) (Nat.pow_le_pow_right (by decide) (by omega)))
      have h2 : t.testBit i = false := by
        cases h : t.testBit i
        · rfl
        · exact absurd ⟨i, by omega, h⟩ hq
      unfold ndiff
      rw [Nat.testBit_and, h2, h1, Bool.false_and]
theorem bit_hi {t : Nat} (h : t < 65536) {p : Nat} (hp : 16 ≤ p) : t.testBit p = false := Nat.testBit_lt_two_pow (Nat.lt_of_lt_of_le (show t < 2 ^ 16 by omega) (Nat.pow_le_pow_right (by decide) hp))
theorem diff_over {t o : Nat} (ht : t < 65536) (ho : o < 65536) (hs : ∀ p, p < 16 → o.testBit p = true → t.testBit p = true) : ndiff t (ndiff t o) = o := by
  rcases diff_diff ho hs with h | ⟨p, h1, h2⟩
  · exact h
  · rw [bit_hi ht h1] at h2; cases h2
/-- how many of the lower sixteen -/
def pc16 (x : Nat) : Nat := fb_ct (fun i => x.testBit i) 16
theorem bits_n {x : Nat} (hx : x < 2147483648) : fX12_bits (nI x) = some (nI (pc16 x)) := by
  have e : fX12_bits_L4 FU (nI x) (nI (fb_ct (fun i => x.testBit i) 0)) (nI 0) = some (nI (fb_ct (fun i => x.testBit i) 16)) := by
    refine for_all (fun n (a : Nat) k => fX12_bits_L4 n (nI x) (nI a) (nI k)) 16 (fun k => fb_ct (fun i => x.testBit i) k) _ (fun n => ?_) (fun n k hk => ?_) (by decide)
    · show bX12_bits_L4 _ _ _ _ = _
      unfold bX12_bits_L4
      rw [if_pos (yle_n (x := 16) (a := 16) rfl (by omega) (by decide))]
    · show bX12_bits_L4 _ _ _ _ = fX12_bits_L4 n _ _ _
      unfold bX12_bits_L4; dsimp only [lett]
      rw [if_neg (nle_n (x := 16) (a := 16) rfl hk (by decide)), shr1_n hx (by omega), nI_add, n1, fb_ct_succ]
      rfl
  exact e
theorem overMany_n {v : St} {N : Nat → Nat → Nat} (h : WkR N (v 0)) (ok : WkOk N) : fX12_overMany v = some (nI (pc16 (N 5 0))) := by
  unfold fX12_overMany
  rw [toldSet_n h ok.1, sbind, hereSet_n h ok.1, sbind, ndiff_eq, diff_over ok.1 ok.2.1 (fun p hp => (ok.2.2.2.2 p hp).2.2.2.2.2), bits_n (by have := ok.2.1; omega), sbind]
def bcN (x : Nat) : Nat :=
  (fun t1 => (fun t2 => (fun t3 => (fun t4 => (t4 + t4 / 65536) &&& 63) (t3 + t3 / 256)) ((t2 + t2 / 16) &&& 252645135)) ((t1 &&& 858993459) + ((t1 / 4) &&& 858993459))) (x - ((x / 2) &&& 1431655765))
theorem and_256 {n a m : Nat} (ha : a < 256) : (256 * n + a) &&& m = 256 * (n &&& (m / 256)) + (a &&& (m % 256)) := by
  have h1 := Nat.and_mod_two_pow (a := 256 * n + a) (b := m) (n := 8)
  have h2 := Nat.and_div_two_pow (a := 256 * n + a) (b := m) (n := 8)
  rw [show (256 * n + a) % 2 ^ 8 = a by omega] at h1
  rw [show (256 * n + a) / 2 ^ 8 = n by omega] at h2
  have e : (2 : Nat) ^ 8 = 256 := rfl
  rw [e] at h1 h2
  omega
def bcT (a : Nat) : Nat := a - ((a / 2) &&& 85)
def bcU (q : Nat) : Nat := (q &&& 51) + ((q / 4) &&& 51)
def bcV (q : Nat) : Nat := (q + q / 16) &&& 15
theorem bc_k1 : ∀ a, a < 256 → ∀ c, c < 2 → (128 * c + a / 2) &&& 85 = (a / 2) &&& 85 := by decide +kernel
theorem bc_k2 : ∀ a, a < 256 → ∀ c, c < 4 → (64 * c + a / 4) &&& 51 = (a / 4) &&& 51 := by decide +kernel
theorem bc_k3 : ∀ q, q < 69 → ∀ c, c < 16 → (q + q / 16 + 16 * c) &&& 15 = bcV q := by decide +kernel
theorem bc_k4 : ∀ a, a < 256 → bcT a < 256 ∧ bcU (bcT a) < 69 ∧ bcV (bcU (bcT a)) ≤ 8 ∧ (a / 2) &&& 85 ≤ a ∧ bcU (bcT a) % 16 ≤ 4 := by decide +kernel
theorem bc_k5 : ∀ a, a < 256 → bcV (bcU (bcT a)) = fb_ct (fun i => a.testBit i) 8 := by decide +kernel
theorem bc_k6 : ∀ b, b < 256 → (b / 2) &&& 5592405 = (b / 2) &&& 85 ∧ bcT b &&& 3355443 = bcT b &&& 51 ∧ (bcT b / 4) &&& 3355443 = (bcT b / 4) &&& 51 ∧ (bcU (bcT b) + bcU (bcT b) / 16) &&& 986895 = bcV (bcU (bcT b)) := by decide +kernel
theorem bc_k7 : ∀ q, q < 9 → ∀ p, p < 9 → (256 * q + p + (256 * q + p) / 256 + (256 * q + p + (256 * q + p) / 256) / 65536) &&& 63 = p + q := by decide +kernel
theorem bc_ab {a b : Nat} (ha : a < 256) (hb : b < 256) : bcN (256 * b + a) = bcV (bcU (bcT a)) + bcV (bcU (bcT b)) := by
  obtain ⟨a1, a2, a3, a4, a5⟩ := bc_k4 a ha
  obtain ⟨b1, b2, b3, b4, b5⟩ := bc_k4 b hb
  obtain ⟨c1, c2, c3, c4⟩ := bc_k6 b hb
  have e1 : 256 * b + a - (((256 * b + a) / 2) &&& 1431655765) = 256 * bcT b + bcT a := by
    rw [show (256 * b + a) / 2 = 256 * (b / 2) + (128 * (b % 2) + a / 2) by omega, and_256 (by omega), show 1431655765 % 256 = 85 from rfl, show 1431655765 / 256 = 5592405 from rfl, bc_k1 a ha _ (by omega), c1]
    unfold bcT
    omega
  have e2 : ((256 * bcT b + bcT a) &&& 858993459) + (((256 * bcT b + bcT a) / 4) &&& 858993459) = 256 * bcU (bcT b) + bcU (bcT a) := by
    rw [show (256 * bcT b + bcT a) / 4 = 256 * (bcT b / 4) + (64 * (bcT b % 4) + bcT a / 4) by omega, and_256 a1, and_256 (by omega), show 858993459 % 256 = 51 from rfl, show 858993459 / 256 = 3355443 from rfl, bc_k2 _ a1 _ (by omega), c2, c3]
    unfold bcU
    omega
  have e3 : (256 * bcU (bcT b) + bcU (bcT a) + (256 * bcU (bcT b) + bcU (bcT a)) / 16) &&& 252645135 = 256 * bcV (bcU (bcT b)) + bcV (bcU (bcT a)) := by
    rw [show 256 * bcU (bcT b) + bcU (bcT a) + (256 * bcU (bcT b) + bcU (bcT a)) / 16 = 256 * (bcU (bcT b) + bcU (bcT b) / 16) + (bcU (bcT a) + bcU (bcT a) / 16 + 16 * (bcU (bcT b) % 16)) by omega, and_256 (by omega), show 252645135 % 256 = 15 from rfl, show 252645135 / 256 = 986895 from rfl, bc_k3 _ a2 _ (by omega), c4]
  unfold bcN
  rw [e1]; dsimp only
  rw [e2, e3]
  generalize bcV (bcU (bcT a)) = p at a3 ⊢
  generalize bcV (bcU (bcT b)) = q at b3 ⊢
  exact bc_k7 q (by omega) p (by omega)
theorem bc_pc {x : Nat} (h : x < 65536) : bcN x = pc16 x := by
  have e := bc_ab (a := x % 256) (b := x / 256) (by omega) (by omega)
  rw [show 256 * (x / 256) + x % 256 = x by omega, bc_k5 _ (by omega), bc_k5 _ (by omega)] at e
  rw [e]
  unfold pc16
  rw [fb_ct_split (fun i => x.testBit i) 8 8]
  congr 1
  · refine fb_ct_cong (fun k hk => ?_)
    rw [show (256 : Nat) = 2 ^ 8 from rfl, Nat.testBit_mod_two_pow]
    simp [hk]
  · refine fb_ct_cong (fun k hk => ?_)
    rw [show (256 : Nat) = 2 ^ 8 from rfl, Nat.testBit_div_two_pow, Nat.add_comm]
theorem ush_n {n j : Nat} (hn : n < 2147483648) (hj : j < 32) : jush (nI n) (nI j) = nI (n / 2 ^ j) := pk_ushrN (by omega) _ j (by
  have : ∀ j : Fin 32, (((nI j.val).toUInt32 &&& Int32.toUInt32 31).toBitVec % 32).toNat = j.val := by decide +kernel
  exact this ⟨j, hj⟩)
theorem bitCount_n {x : Nat} (h : x < 65536) : fJ6_bitCount_0f7a4 (nI x) = nI (pc16 x) := by
  rw [← bc_pc h]
  unfold fJ6_bitCount_0f7a4; dsimp only [lett]
  have e1 : nI x - (jush (nI x) 1 &&& 1431655765) = nI (x - ((x / 2) &&& 1431655765)) := by
    rw [show (1 : Int32) = nI 1 from rfl, ush_n (by omega) (by decide), show (1431655765 : Int32) = nI 1431655765 from rfl, fa_and, pk_sub (Nat.le_trans Nat.and_le_left (by omega))]
  have l1 : x - ((x / 2) &&& 1431655765) < 65536 := by omega
  rw [e1]
  unfold bcN
  generalize x - ((x / 2) &&& 1431655765) = t1 at l1 ⊢
  have e2 : (nI t1 &&& 858993459) + (jush (nI t1) 2 &&& 858993459) = nI ((t1 &&& 858993459) + ((t1 / 4) &&& 858993459)) := by
    rw [show (2 : Int32) = nI 2 from rfl, ush_n (by omega) (by decide), show (858993459 : Int32) = nI 858993459 from rfl, fa_and, fa_and, nI_add]
  have l2 : (t1 &&& 858993459) + ((t1 / 4) &&& 858993459) < 131072 := by
    have h1 : t1 &&& 858993459 ≤ t1 := Nat.and_le_left
    have h2 : (t1 / 4) &&& 858993459 ≤ t1 / 4 := Nat.and_le_left
    omega
  rw [e2]
  dsimp only
  generalize (t1 &&& 858993459) + ((t1 / 4) &&& 858993459) = t2 at l2 ⊢
  have e3 : (nI t2 + jush (nI t2) 4) &&& 252645135 = nI ((t2 + t2 / 16) &&& 252645135) := by
    rw [show (4 : Int32) = nI 4 from rfl, ush_n (by omega) (by decide), show (252645135 : Int32) = nI 252645135 from rfl, nI_add, fa_and]
  have l3 : (t2 + t2 / 16) &&& 252645135 < 262144 := by
    have h1 : (t2 + t2 / 16) &&& 252645135 ≤ t2 + t2 / 16 := Nat.and_le_left
    omega
  rw [e3]
  generalize (t2 + t2 / 16) &&& 252645135 = t3 at l3 ⊢
  have e4 : nI t3 + jush (nI t3) 8 = nI (t3 + t3 / 256) := by
    rw [show (8 : Int32) = nI 8 from rfl, ush_n (by omega) (by decide), nI_add]
  rw [e4, show (16 : Int32) = nI 16 from rfl, ush_n (by omega) (by decide), nI_add, show (63 : Int32) = nI 63 from rfl, fa_and]
theorem knows_n {w : St} {N : Nat → Nat → Nat} (h : WkC N w) (ok : N 4 0 < 65536) {p : Nat} (hp : p < 16) : fX9_knows w (nI p) = some (nI (b01 ((N 4 0).testBit p))) := by
  unfold fX9_knows; dsimp only [lett]
  rw [isWalker_eq, sbind, in_n (lo := 0) (hi := 15) (a := 0) (b := 15) rfl rfl (by omega) (by omega) (by decide), if_neg (by decide), h.1, has11_n (by omega) (by omega)]
  cases (N 4 0).testBit p <;> rfl
theorem knows_o {w : St} {x : Int32} (h : fX12_in x 0 15 = 0) : fX9_knows w x = some 0 := by
  unfold fX9_knows
  rw [isWalker_eq, sbind, h, if_pos rfl]
