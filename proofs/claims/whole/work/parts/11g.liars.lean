/-! ===== liars, share ===== -/
theorem size_ab (x : Int32) : fX12_size x = ab x := by
  unfold fX12_size ab
  split
  · rfl
  · rw [show (0 : Int32) - x = -x from by simp]
theorem abs_n {a b : Nat} (ha : a < 1073741824) (hb : b < 1073741824) : ab (nI a - nI b) = nI ((a - b) + (b - a)) := by
  unfold ab
  by_cases h : b ≤ a
  · rw [pk_sub h, if_pos (nI_pos' (by omega)), show a - b + (b - a) = a - b by omega]
  · rw [if_neg (fun q => (fa_of_lt (pk_sneg (a := a) (b := b) (by omega) (by omega))).2.1 q)]
    have e : (0 : Int32) - (nI a - nI b) = nI b - nI a := by simp
    rw [e, pk_sub (by omega), show a - b + (b - a) = b - a by omega]
def lieN (N : Nat → Nat → Nat) (p : Nat) : Nat := if (N 4 0).testBit p then (N 1 p - N 0 p) + (N 0 p - N 1 p) else 0
theorem lieN_b {N : Nat → Nat → Nat} (ok : WkOk N) {p : Nat} (hp : p < 16) : lieN N p ≤ 999 := by
  have := ok.2.2.2.2 p hp
  unfold lieN; split <;> omega
theorem lieOf_n {w : St} {N : Nat → Nat → Nat} (c : WkC N w) (ok : WkOk N) {p : Nat} (hp : p < 16) : fX9_lieOf w (nI p) = some (nI (lieN N p)) := by
  have := ok.2.2.2.2 p hp
  have := ok.1
  obtain ⟨c0, c1, c2, c3⟩ := c.2.2.2.2 p hp
  unfold fX9_lieOf lieN; dsimp only [lett]
  rw [c.1, has11_n (by omega) (by omega), gd_n (by omega) (by decide), gd_n (by omega) (by decide), ix_n (by omega), c0, c1, abs_n (by omega) (by omega)]
  cases (N 4 0).testBit p
  · simp only [dF, if_true, Bool.false_eq_true, if_false]; rfl
  · simp only [dT, if_true, if_false]
def gm (L : Nat → Nat) : Nat → Nat
  | 0 => 0
  | k + 1 => if gm L k < L k then L k else gm L k
def gwd (L : Nat → Nat) (d : Int32) : Nat → Int32
  | 0 => d
  | k + 1 => if gm L k < L k then nI k else gwd L d k
theorem gm_b {L : Nat → Nat} : ∀ {k : Nat}, (∀ p, p < k → L p ≤ 999) → gm L k ≤ 999
  | 0, _ => by rw [gm]; omega
  | k + 1, h => by
    have := gm_b (L := L) (k := k) (fun p hp => h p (by omega))
    have := h k (by omega)
    rw [gm]; split <;> omega
theorem gw_c (L : Nat → Nat) : ∀ k, (gm L k = 0 ∧ ∀ d, gwd L d k = d) ∨ (0 < gm L k ∧ ∃ j, j < k ∧ L j = gm L k ∧ ∀ d, gwd L d k = nI j)
  | 0 => Or.inl ⟨rfl, fun _ => rfl⟩
  | k + 1 => by
    by_cases h : gm L k < L k
    · right
      refine ⟨by rw [gm, if_pos h]; omega, k, by omega, by rw [gm, if_pos h], fun d => by rw [gwd, if_pos h]⟩
    · rcases gw_c L k with ⟨h1, h2⟩ | ⟨h1, j, h2, h3, h4⟩
      · left; exact ⟨by rw [gm, if_neg h, h1], fun d => by rw [gwd, if_neg h, h2]⟩
      · right; exact ⟨by rw [gm, if_neg h]; exact h1, j, by omega, by rw [gm, if_neg h, h3], fun d => by rw [gwd, if_neg h, h4]⟩
theorem whoLies_n {w : St} {N : Nat → Nat → Nat} (c : WkC N w) (ok : WkOk N) : fX9_whoLies w = some (nI (setOf (fun p => decide (0 < lieN N p)) 16)) := by
  refine for_all (fun n (a : Nat) k => fX9_whoLies_L4 w n (nI a) (nI k)) 16 (fun k => setOf (fun p => decide (0 < lieN N p)) k) _ (fun n => ?_) (fun n k hk => ?_) (by decide)
  · show bX9_whoLies_L4 w _ _ _ = _
    unfold bX9_whoLies_L4
    simp (disch := omega) only [l_0, l_1, l_2, l_3, l_4, l_5, l_6, l_7, l_8, l_9, l_10, l_11, l_12, l_15, l_16, l_20, l_24, l_32, l_37, l_38, l_40, l_41, l_42, l_43, l_45, l_47, l_48, l_57, l_59, l_60, l_61, l_62, l_63, l_64, l_80, l_91, l_93, l_96, l_97, l_98, l_99, l_100, l_101, l_102, l_103, l_108, l_110, l_114, l_119, l_120, l_124, l_200, l_240, l_255, l_256, l_260, l_999, l_1000, l_1023, l_2040, l_4080, l_6375, l_9999, l_13849, l_25173, l_65535, l_65536, l_99999, l_1000000, l_1048576, lett_s, sbind, gd_n, ix_n, nI_add, pk_mul, c_le, c_lt, c_eq, b01_0, b01_1, fa_and, fa_or, has11_n, has12_n, sub_n, div_n, rem_n, m1_n, if_pos, if_neg, if_true, if_false, reduceCtorEq, eq_self]
  · show bX9_whoLies_L4 w _ _ _ = fX9_whoLies_L4 w n _ _
    unfold bX9_whoLies_L4
    rw [lieOf_n c ok hk, shl1 k (by omega)]
    have := lieN_b ok hk
    by_cases h : 0 < lieN N k
    · rw [setOf_t (P := fun p => decide (0 < lieN N p)) (by simp [h])]
      simp (disch := omega) only [l_0, l_1, l_2, l_3, l_4, l_5, l_6, l_7, l_8, l_9, l_10, l_11, l_12, l_15, l_16, l_20, l_24, l_32, l_37, l_38, l_40, l_41, l_42, l_43, l_45, l_47, l_48, l_57, l_59, l_60, l_61, l_62, l_63, l_64, l_80, l_91, l_93, l_96, l_97, l_98, l_99, l_100, l_101, l_102, l_103, l_108, l_110, l_114, l_119, l_120, l_124, l_200, l_240, l_255, l_256, l_260, l_999, l_1000, l_1023, l_2040, l_4080, l_6375, l_9999, l_13849, l_25173, l_65535, l_65536, l_99999, l_1000000, l_1048576, lett_s, sbind, gd_n, ix_n, nI_add, pk_mul, c_le, c_lt, c_eq, b01_0, b01_1, fa_and, fa_or, has11_n, has12_n, sub_n, div_n, rem_n, m1_n, if_pos, if_neg, if_true, if_false, reduceCtorEq, eq_self]
    · rw [setOf_f (P := fun p => decide (0 < lieN N p)) (by simp [h])]
      simp (disch := omega) only [l_0, l_1, l_2, l_3, l_4, l_5, l_6, l_7, l_8, l_9, l_10, l_11, l_12, l_15, l_16, l_20, l_24, l_32, l_37, l_38, l_40, l_41, l_42, l_43, l_45, l_47, l_48, l_57, l_59, l_60, l_61, l_62, l_63, l_64, l_80, l_91, l_93, l_96, l_97, l_98, l_99, l_100, l_101, l_102, l_103, l_108, l_110, l_114, l_119, l_120, l_124, l_200, l_240, l_255, l_256, l_260, l_999, l_1000, l_1023, l_2040, l_4080, l_6375, l_9999, l_13849, l_25173, l_65535, l_65536, l_99999, l_1000000, l_1048576, lett_s, sbind, gd_n, ix_n, nI_add, pk_mul, c_le, c_lt, c_eq, b01_0, b01_1, fa_and, fa_or, has11_n, has12_n, sub_n, div_n, rem_n, m1_n, if_pos, if_neg, if_true, if_false, reduceCtorEq, eq_self, Nat.or_zero]
theorem greatest_n {w : St} {N : Nat → Nat → Nat} (c : WkC N w) (ok : WkOk N) : fX9_greatestLiar w = some (gwd (lieN N) (-1) 16) := by
  refine for_all (fun n (a : Nat × Int32) k => fX9_greatestLiar_L6 w n (nI a.1) a.2 (nI k)) 16 (fun k => (gm (lieN N) k, gwd (lieN N) (-1) k)) _ (fun n => ?_) (fun n k hk => ?_) (by decide)
  · show bX9_greatestLiar_L6 w _ _ _ _ = _
    unfold bX9_greatestLiar_L6
    simp (disch := omega) only [l_0, l_1, l_2, l_3, l_4, l_5, l_6, l_7, l_8, l_9, l_10, l_11, l_12, l_15, l_16, l_20, l_24, l_32, l_37, l_38, l_40, l_41, l_42, l_43, l_45, l_47, l_48, l_57, l_59, l_60, l_61, l_62, l_63, l_64, l_80, l_91, l_93, l_96, l_97, l_98, l_99, l_100, l_101, l_102, l_103, l_108, l_110, l_114, l_119, l_120, l_124, l_200, l_240, l_255, l_256, l_260, l_999, l_1000, l_1023, l_2040, l_4080, l_6375, l_9999, l_13849, l_25173, l_65535, l_65536, l_99999, l_1000000, l_1048576, lett_s, sbind, gd_n, ix_n, nI_add, pk_mul, c_le, c_lt, c_eq, b01_0, b01_1, fa_and, fa_or, has11_n, has12_n, sub_n, div_n, rem_n, m1_n, if_pos, if_neg, if_true, if_false, reduceCtorEq, eq_self]
  · show bX9_greatestLiar_L6 w _ _ _ _ = fX9_greatestLiar_L6 w n _ _ _
    unfold bX9_greatestLiar_L6
    rw [lieOf_n c ok hk, gm, gwd]
    have := lieN_b ok hk
    have := gm_b (L := lieN N) (k := k) (fun p hp => lieN_b ok (by omega))
    by_cases h : gm (lieN N) k < lieN N k
    · simp (disch := omega) only [l_0, l_1, l_2, l_3, l_4, l_5, l_6, l_7, l_8, l_9, l_10, l_11, l_12, l_15, l_16, l_20, l_24, l_32, l_37, l_38, l_40, l_41, l_42, l_43, l_45, l_47, l_48, l_57, l_59, l_60, l_61, l_62, l_63, l_64, l_80, l_91, l_93, l_96, l_97, l_98, l_99, l_100, l_101, l_102, l_103, l_108, l_110, l_114, l_119, l_120, l_124, l_200, l_240, l_255, l_256, l_260, l_999, l_1000, l_1023, l_2040, l_4080, l_6375, l_9999, l_13849, l_25173, l_65535, l_65536, l_99999, l_1000000, l_1048576, lett_s, sbind, gd_n, ix_n, nI_add, pk_mul, c_le, c_lt, c_eq, b01_0, b01_1, fa_and, fa_or, has11_n, has12_n, sub_n, div_n, rem_n, m1_n, if_pos, if_neg, if_true, if_false, reduceCtorEq, eq_self]
    · simp (disch := omega) only [l_0, l_1, l_2, l_3, l_4, l_5, l_6, l_7, l_8, l_9, l_10, l_11, l_12, l_15, l_16, l_20, l_24, l_32, l_37, l_38, l_40, l_41, l_42, l_43, l_45, l_47, l_48, l_57, l_59, l_60, l_61, l_62, l_63, l_64, l_80, l_91, l_93, l_96, l_97, l_98, l_99, l_100, l_101, l_102, l_103, l_108, l_110, l_114, l_119, l_120, l_124, l_200, l_240, l_255, l_256, l_260, l_999, l_1000, l_1023, l_2040, l_4080, l_6375, l_9999, l_13849, l_25173, l_65535, l_65536, l_99999, l_1000000, l_1048576, lett_s, sbind, gd_n, ix_n, nI_add, pk_mul, c_le, c_lt, c_eq, b01_0, b01_1, fa_and, fa_or, has11_n, has12_n, sub_n, div_n, rem_n, m1_n, if_pos, if_neg, if_true, if_false, reduceCtorEq, eq_self]
theorem liars12 {v : St} {N : Nat → Nat → Nat} (r : WkR N (v 0)) (ok : WkOk N) (x : Int32) : fX12_liars_L22 v FU x 0 0 (-2) 0 = some (if x = 0 then nI (setOf (fun p => decide (0 < lieN N p)) 16) else if x = 1 then nI (gm (lieN N) 16) else gwd (lieN N) (-2) 16) := by
  refine for_all (fun n (a : Nat × Nat × Int32) k => fX12_liars_L22 v n x (nI a.1) (nI a.2.1) a.2.2 (nI k)) 16 (fun k => (setOf (fun p => decide (0 < lieN N p)) k, gm (lieN N) k, gwd (lieN N) (-2) k)) _ (fun n => ?_) (fun n k hk => ?_) (by decide)
  · show bX12_liars_L22 v _ _ _ _ _ _ = _
    unfold bX12_liars_L22
    rw [if_pos (yle_n (x := 16) (a := 16) rfl (by omega) (by decide))]
    split
    · rfl
    · split <;> rfl
  · show bX12_liars_L22 v _ _ _ _ _ _ = fX12_liars_L22 v n _ _ _ _ _
    unfold bX12_liars_L22; dsimp only [lett]
    obtain ⟨r0, r1, r2, r3, r4, r5⟩ := r.2.2 k hk
    have := ok.2.2.2.2 k hk
    rw [if_neg (nle_n (x := 16) (a := 16) rfl hk (by decide)), a32, a16, gd_n (by omega) (by decide), gd_n (by omega) (by decide), ix_n (by omega), ix_n (by omega), r1, r2, isTold_n r hk, sbind, size_ab, abs_n (by omega) (by omega), shl1 k (by omega), fa_or, n1, gm, gwd]
    have hb := lieN_b ok hk
    have := gm_b (L := lieN N) (k := k) (fun p hp => lieN_b ok (by omega))
    cases ht : (N 4 0).testBit k
    · have hl : lieN N k = 0 := by unfold lieN; rw [ht]; rfl
      simp only [dF, if_true]
      rw [hl, if_neg (by omega), if_neg (by omega), setOf_f (P := fun p => decide (0 < lieN N p)) (by simp [hl])]
    · have hl : lieN N k = N 1 k - N 0 k + (N 0 k - N 1 k) := by unfold lieN; rw [ht]; rfl
      rw [← hl]
      simp only [dT, if_false]
      by_cases q : 0 < lieN N k
      · rw [setOf_t (P := fun p => decide (0 < lieN N p)) (by simp [q]), if_neg (nI_ne0 q (by omega))]
        by_cases h : gm (lieN N) k < lieN N k
        · rw [if_pos (nI_lt h (by omega)), if_pos h, if_pos h]
        · rw [if_neg (nI_nlt (by omega) (by omega)), if_neg h, if_neg h]
      · have q0 : lieN N k = 0 := by omega
        rw [setOf_f (P := fun p => decide (0 < lieN N p)) (by simp [q0]), q0, if_pos (show nI 0 = 0 from rfl), if_neg (by omega), if_neg (by omega)]
theorem eq_liars (g : Nat → St) (w : Nat → Int64) (v : St) (hr : Rel g v) (p1 : Int32) : ∃ (z : Int32) (y : Int32), fX11_liars (g 3) p1 = some z ∧ fX12_liars v p1 = some y ∧ z = y ∧ Rel g v := by
  obtain ⟨t1, ⟨N, ok, c, r⟩, t3, t4, t5, t6⟩ := id hr
  unfold fX11_liars fX12_liars; dsimp only [lett]
  rcases in_cases p1 0 2 0 2 rfl rfl (by decide) (by decide) with ⟨x, -, x2, rfl, e⟩ | e
  · rw [e, if_neg (show ¬ (1 : Int32) = 0 from by decide), liars12 r ok, whoLies_n c ok, greatest_n c ok, sbind, sbind, sbind, sbind]
    rcases (show x = 0 ∨ x = 1 ∨ x = 2 by omega) with rfl | rfl | rfl
    · exact ⟨_, _, rfl, rfl, rfl, hr⟩
    · rcases gw_c (lieN N) 16 with ⟨h1, h2⟩ | ⟨h1, j, h2, h3, h4⟩
      · rw [h1, h2, h2]; exact ⟨_, _, rfl, rfl, rfl, hr⟩
      · rw [h4, h4, if_neg (by decide), if_pos (by decide), if_neg (show ¬ nI j = -1 from fun q => by
          have := congrArg Int32.toInt q
          rw [nI_toInt (by omega), show (-1 : Int32).toInt = -1 from by decide] at this
          omega), lieOf_n c ok h2, sbind, h3]
        exact ⟨_, _, rfl, rfl, rfl, hr⟩
    · rcases gw_c (lieN N) 16 with ⟨h1, h2⟩ | ⟨h1, j, h2, h3, h4⟩
      · rw [h1, h2, h2]; exact ⟨_, _, rfl, rfl, rfl, hr⟩
      · rw [h4, h4, if_neg (by decide), if_neg (by decide), if_pos (by decide), if_neg (show ¬ nI j = -1 from fun q => by
          have := congrArg Int32.toInt q
          rw [nI_toInt (by omega), show (-1 : Int32).toInt = -1 from by decide] at this
          omega)]
        exact ⟨_, _, rfl, rfl, rfl, hr⟩
  · have hne : ∀ k : Nat, k ≤ 2 → ¬ p1 = nI k := fun k hk => in_ne (a := 0) (b := 2) rfl rfl (by decide) e (by omega) hk
    rw [e, if_pos rfl, if_neg (show ¬ p1 = 0 from hne 0 (by omega)), if_neg (show ¬ p1 = 1 from hne 1 (by omega)), if_neg (show ¬ p1 = 2 from hne 2 (by omega))]
    exact ⟨_, _, rfl, rfl, rfl, hr⟩

/-! share -/
def shP (t : Nat) (f : Nat → Int32) (x a : Int32) : Nat → Int32
  | 0 => x
  | k + 1 => if t.testBit k then shP t f x a k - x * f k / a else shP t f x a k
def shA (t : Nat) (f : Nat → Int32) (x a : Int32) (p : Nat) : Nat → Int32
  | 0 => 0
  | k + 1 => if t.testBit k then (if jrem (x * f p) a < jrem (x * f k) a then shA t f x a p k + 1 else if jrem (x * f k) a = jrem (x * f p) a then (if nI p ≤ nI k then shA t f x a p k else shA t f x a p k + 1) else shA t f x a p k) else shA t f x a p k
def shR (t : Nat) (f : Nat → Int32) (x a : Int32) (p : Nat) : Int32 := if shP t f x a 16 ≤ shA t f x a p 16 then x * f p / a else x * f p / a + 1
theorem dz_n {α : Type} {y : Int32} {k : Option α} (h : ¬ y = 0) : dz y k = k := if_neg h
theorem part_n {w : St} {N : Nat → Nat → Nat} (c : WkC N w) (ok : WkOk N) {p : Nat} (hp : p < 16) {x a : Int32} (ha : ¬ a = 0) : fX9_partOf_L36 w FU x (nI p) a (jrem (x * w 0 p) a) x 0 0 = some (shR (N 4 0) (w 0) x a p) := by
  refine for_all (fun n (s : Int32 × Int32) k => fX9_partOf_L36 w n x (nI p) a (jrem (x * w 0 p) a) s.1 s.2 (nI k)) 16 (fun k => (shP (N 4 0) (w 0) x a k, shA (N 4 0) (w 0) x a p k)) _ (fun n => ?_) (fun n k hk => ?_) (by decide)
  · show bX9_partOf_L36 w _ _ _ _ _ _ _ _ = _
    unfold bX9_partOf_L36 shR
    rw [if_pos (yle_n (x := 16) (a := 16) rfl (by omega) (by decide)), gd_n (by omega) (by decide), ix_n (by omega), dz_n ha, add0]
    split <;> rfl
  · show bX9_partOf_L36 w _ _ _ _ _ _ _ _ = fX9_partOf_L36 w n _ _ _ _ _ _ _
    unfold bX9_partOf_L36; dsimp only [lett]
    have := ok.1
    rw [if_neg (nle_n (x := 16) (a := 16) rfl hk (by decide)), c.1, has11_n (by omega) (by omega), gd_n (by omega) (by decide), ix_n (by omega), dz_n ha, gd_n (by omega) (by decide), dz_n ha, n1, add0, shP, shA]
    cases hb : (N 4 0).testBit k
    · simp only [dF, if_true, Bool.false_eq_true, if_false]
    · simp only [dT, if_true, if_false]
      split
      · rfl
      · split
        · split <;> rfl
        · rfl
theorem sumOf_n {v : St} {F : Nat → Nat} {t : Nat} (ht : t < 65536) (hf : ∀ p, p < 16 → v 0 (16 + p) = nI (F p)) : fX12_sumOf v (nI t) = some (nI (sumB t F 16)) := by
  refine for_all (fun n (s : Nat) k => fX12_sumOf_L4 v n (nI t) (nI s) (nI k)) 16 (fun k => sumB t F k) _ (fun n => ?_) (fun n k hk => ?_) (by decide)
  · show bX12_sumOf_L4 v _ _ _ _ = _
    unfold bX12_sumOf_L4
    simp (disch := omega) only [l_0, l_1, l_2, l_3, l_4, l_5, l_6, l_7, l_8, l_9, l_10, l_11, l_12, l_15, l_16, l_20, l_24, l_32, l_37, l_38, l_40, l_41, l_42, l_43, l_45, l_47, l_48, l_57, l_59, l_60, l_61, l_62, l_63, l_64, l_80, l_91, l_93, l_96, l_97, l_98, l_99, l_100, l_101, l_102, l_103, l_108, l_110, l_114, l_119, l_120, l_124, l_200, l_240, l_255, l_256, l_260, l_999, l_1000, l_1023, l_2040, l_4080, l_6375, l_9999, l_13849, l_25173, l_65535, l_65536, l_99999, l_1000000, l_1048576, lett_s, sbind, gd_n, ix_n, nI_add, pk_mul, c_le, c_lt, c_eq, b01_0, b01_1, fa_and, fa_or, has11_n, has12_n, sub_n, div_n, rem_n, m1_n, if_pos, if_neg, if_true, if_false, reduceCtorEq, eq_self]
  · show bX12_sumOf_L4 v _ _ _ _ = fX12_sumOf_L4 v n _ _ _
    unfold bX12_sumOf_L4
    cases hb : t.testBit k
    · simp (disch := omega) only [l_0, l_1, l_2, l_3, l_4, l_5, l_6, l_7, l_8, l_9, l_10, l_11, l_12, l_15, l_16, l_20, l_24, l_32, l_37, l_38, l_40, l_41, l_42, l_43, l_45, l_47, l_48, l_57, l_59, l_60, l_61, l_62, l_63, l_64, l_80, l_91, l_93, l_96, l_97, l_98, l_99, l_100, l_101, l_102, l_103, l_108, l_110, l_114, l_119, l_120, l_124, l_200, l_240, l_255, l_256, l_260, l_999, l_1000, l_1023, l_2040, l_4080, l_6375, l_9999, l_13849, l_25173, l_65535, l_65536, l_99999, l_1000000, l_1048576, lett_s, sbind, gd_n, ix_n, nI_add, pk_mul, c_le, c_lt, c_eq, b01_0, b01_1, fa_and, fa_or, has11_n, has12_n, sub_n, div_n, rem_n, m1_n, if_pos, if_neg, if_true, if_false, reduceCtorEq, eq_self, hb, sumB_s, Nat.add_zero]
    · simp (disch := omega) only [l_0, l_1, l_2, l_3, l_4, l_5, l_6, l_7, l_8, l_9, l_10, l_11, l_12, l_15, l_16, l_20, l_24, l_32, l_37, l_38, l_40, l_41, l_42, l_43, l_45, l_47, l_48, l_57, l_59, l_60, l_61, l_62, l_63, l_64, l_80, l_91, l_93, l_96, l_97, l_98, l_99, l_100, l_101, l_102, l_103, l_108, l_110, l_114, l_119, l_120, l_124, l_200, l_240, l_255, l_256, l_260, l_999, l_1000, l_1023, l_2040, l_4080, l_6375, l_9999, l_13849, l_25173, l_65535, l_65536, l_99999, l_1000000, l_1048576, lett_s, sbind, gd_n, ix_n, nI_add, pk_mul, c_le, c_lt, c_eq, b01_0, b01_1, fa_and, fa_or, has11_n, has12_n, sub_n, div_n, rem_n, m1_n, if_pos, if_neg, if_true, if_false, reduceCtorEq, eq_self, hb, sumB_s, hf]
theorem share12b {v : St} {N : Nat → Nat → Nat} (r : WkR N (v 0)) {f : Nat → Int32} (hf : ∀ p, p < 16 → v 0 (16 + p) = f p) {p : Nat} (hp : p < 16) {x a : Int32} (ha : ¬ a = 0) : fX12_share_L98 v FU x (nI p) a (shP (N 4 0) f x a 16) (jrem (x * f p) a) 0 0 = some (shR (N 4 0) f x a p) := by
  refine for_all (fun n (s : Int32) k => fX12_share_L98 v n x (nI p) a (shP (N 4 0) f x a 16) (jrem (x * f p) a) s (nI k)) 16 (fun k => shA (N 4 0) f x a p k) _ (fun n => ?_) (fun n k hk => ?_) (by decide)
  · show bX12_share_L98 v _ _ _ _ _ _ _ _ = _
    unfold bX12_share_L98 shR
    rw [if_pos (yle_n (x := 16) (a := 16) rfl (by omega) (by decide)), a16, gd_n (by omega) (by decide), ix_n (by omega), dz_n ha, hf p hp, add0]
    split <;> rfl
  · show bX12_share_L98 v _ _ _ _ _ _ _ _ = fX12_share_L98 v n _ _ _ _ _ _ _
    unfold bX12_share_L98; dsimp only [lett]
    rw [if_neg (nle_n (x := 16) (a := 16) rfl hk (by decide)), isTold_n r hk, sbind, a16, gd_n (by omega) (by decide), ix_n (by omega), dz_n ha, hf k hk, n1, shA]
    cases hb : (N 4 0).testBit k
    · simp only [dF, if_true, Bool.false_eq_true, if_false]
    · simp only [dT, if_true, if_false]
      by_cases q : k = p
      · subst q
        rw [if_pos rfl, if_neg (fun e => (fa_of_lt e).2.2.2.1 rfl), if_pos rfl, if_pos (nI_le (Nat.le_refl k) (by omega))]
      · rw [if_neg (fun e => q ((nI_eq (by omega) (by omega)).mp e))]
        split
        · rfl
        · split
          · split <;> rfl
          · rfl
theorem share12 {v : St} {N : Nat → Nat → Nat} (r : WkR N (v 0)) {f : Nat → Int32} (hf : ∀ p, p < 16 → v 0 (16 + p) = f p) {p : Nat} (hp : p < 16) {x a : Int32} (ha : ¬ a = 0) : fX12_share_L36 v FU x (nI p) a x 0 = some (shR (N 4 0) f x a p) := by
  refine for_all (fun n (s : Int32) k => fX12_share_L36 v n x (nI p) a s (nI k)) 16 (fun k => shP (N 4 0) f x a k) _ (fun n => ?_) (fun n k hk => ?_) (by decide)
  · show bX12_share_L36 v _ _ _ _ _ _ = _
    unfold bX12_share_L36; dsimp only [lett]
    rw [if_pos (yle_n (x := 16) (a := 16) rfl (by omega) (by decide)), a16, gd_n (by omega) (by decide), ix_n (by omega), dz_n ha, hf p hp, share12b r hf hp ha]
  · show bX12_share_L36 v _ _ _ _ _ _ = fX12_share_L36 v n _ _ _ _ _
    unfold bX12_share_L36; dsimp only [lett]
    rw [if_neg (nle_n (x := 16) (a := 16) rfl hk (by decide)), isTold_n r hk, sbind, a16, gd_n (by omega) (by decide), ix_n (by omega), dz_n ha, hf k hk, n1, shP]
    cases hb : (N 4 0).testBit k
    · simp only [dF, if_true, Bool.false_eq_true, if_false]
    · simp only [dT, if_true, if_false]
theorem shR_cong {t p : Nat} {f h : Nat → Int32} {x a : Int32} (e : ∀ k, k < 16 → f k = h k) (hp : p < 16) : shR t f x a p = shR t h x a p := by
  have e1 : ∀ n, n ≤ 16 → shP t f x a n = shP t h x a n := by
    intro n
    induction n with
    | zero => intro _; rfl
    | succ n ih => intro hn; rw [shP, shP, ih (by omega), e n (by omega)]
  have e2 : ∀ n, n ≤ 16 → shA t f x a p n = shA t h x a p n := by
    intro n
    induction n with
    | zero => intro _; rfl
    | succ n ih => intro hn; rw [shA, shA, ih (by omega), e n (by omega), e p hp]
  unfold shR
  rw [e1 16 (by omega), e2 16 (by omega), e p hp]
theorem sumB_pos {t : Nat} {F : Nat → Nat} {p n : Nat} (hb : t.testBit p = true) (hF : 1 ≤ F p) (hp : p < n) : 1 ≤ sumB t F n := by
  have := fb_sm_part (fun p => if t.testBit p then F p else 0) hp
  unfold sumB
  simp only [hb, if_true] at this
  omega
theorem sumB_le {t : Nat} {F : Nat → Nat} {n c : Nat} (h : ∀ p, p < n → F p ≤ c) : sumB t F n ≤ n * c := by
  unfold sumB
  refine fb_sm_bound (fun k hk => ?_)
  have := h k hk
  split <;> omega
theorem eq_share (g : Nat → St) (w : Nat → Int64) (v : St) (hr : Rel g v) (p1 p2 : Int32) : ∃ (z : Int32) (y : Int32), fX11_share (g 3) p1 p2 = some z ∧ fX12_share v p1 p2 = some y ∧ z = y ∧ Rel g v := by
  obtain ⟨t1, ⟨N, ok, c, r⟩, t3, t4, t5, t6⟩ := id hr
  unfold fX11_share fX12_share; dsimp only [lett]
  rw [within_eq]
  rcases in_cases p2 0 15 0 15 rfl rfl (by decide) (by decide) with ⟨p, -, hp, rfl, h1⟩ | h1
  · have hp16 : p < 16 := by omega
    rw [knows_n c ok.1 hp16, isTold_n r hp16, sbind, sbind]
    cases hb : (N 4 0).testBit p
    · simp only [dF, if_true]
      refine ⟨_, -1, rfl, ?_, rfl, hr⟩
      split <;> rfl
    · simp only [dT, if_false]
      rcases in_cases p1 0 99999 0 99999 rfl rfl (by decide) (by decide) with ⟨x, -, x2, rfl, h2⟩ | h2
      · rw [h2, if_neg (show ¬ (1 : Int32) = 0 from by decide), if_neg (show ¬ (1 : Int32) = 0 from by decide), toldSet_n r ok.1, sbind, sumOf_n (F := N 0) ok.1 (fun p hp => (r.2.2 p hp).2.1), sbind]
        unfold fX9_partOf; dsimp only [lett]
        rw [total_n (F := N 0) c.1 ok.1 (fun p hp => (c.2.2.2.2 p hp).1), sbind]
        have ha : ¬ nI (sumB (N 4 0) (N 0) 16) = 0 := by
          have h1 := sumB_pos (F := N 0) hb ((ok.2.2.2.2 p hp16).2.2.2.2.1 hb).1 hp16
          have h2 := sumB_le (t := N 4 0) (F := N 0) (n := 16) (c := 999) (fun p hp => (ok.2.2.2.2 p hp).1)
          exact nI_ne0 h1 (by omega)
        rw [if_neg ha, gd_n (by omega) (by decide), dz_n ha, ix_n (by omega), part_n c ok hp16 ha, sbind, share12 r (f := fun p => v 0 (16 + p)) (fun p hp => rfl) hp16 ha]
        refine ⟨_, _, rfl, rfl, ?_, hr⟩
        exact shR_cong (fun k hk => (c.2.2.2.2 k hk).1.trans (r.2.2 k hk).2.1.symm) hp16
      · rw [h2, if_pos rfl, if_pos rfl]
        exact ⟨_, _, rfl, rfl, rfl, hr⟩
  · rw [knows_o h1, isTold_o h1, sbind, sbind, if_pos rfl, if_pos rfl]
    refine ⟨_, -1, rfl, ?_, rfl, hr⟩
    split <;> rfl
