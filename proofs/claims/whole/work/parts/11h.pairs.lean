/-! ===== pairs ===== -/
/-- puts x into the row, from place a downwards -/
def insF (x : Int32) : Nat → (Nat → Int32) → (Nat → Int32)
  | 0, r => upd r 0 x
  | a + 1, r => if r a ≤ x then upd r (a + 1) x else insF x a (upd r (a + 1) (r a))
theorem insF_cong (x : Int32) : ∀ (a : Nat) (r s : Nat → Int32), (∀ j, j < a → r j = s j) → ∀ j, j ≤ a → insF x a r j = insF x a s j := by
  have hc : ∀ (a : Nat) (r s : Nat → Int32) (b : Nat), a ≤ b → (∀ j, j ≤ b → j ≠ a → r j = s j) → ∀ j, j ≤ b → insF x a r j = insF x a s j := by
    intro a
    induction a with
    | zero =>
      intro r s b _ h j hj
      rw [insF, insF]
      by_cases q : j = 0
      · subst q; rw [upd_s, upd_s]
      · rw [upd_n q, upd_n q, h j hj q]
    | succ a ih =>
      intro r s b hb h j hj
      rw [insF, insF, h a (by omega) (by omega)]
      split
      · by_cases q : j = a + 1
        · subst q; rw [upd_s, upd_s]
        · rw [upd_n q, upd_n q, h j hj q]
      · refine ih _ _ b (by omega) (fun i hi hia => ?_) j hj
        by_cases q : i = a + 1
        · subst q; rw [upd_s, upd_s]
        · rw [upd_n q, upd_n q, h i hi q]
  intro a r s h j hj
  exact hc a r s a (Nat.le_refl a) (fun i hi hia => h i (by omega)) j hj
def szT (t : Nat) (k : Nat) : Nat := fb_ct (fun i => t.testBit i) k
def srA (t : Nat) (f : Nat → Int32) (r : Nat → Int32) : Nat → Nat → Int32
  | 0 => r
  | k + 1 => if t.testBit k then insF (f k) (szT t k) (srA t f r k) else srA t f r k
theorem szT_s (t k : Nat) : szT t (k + 1) = szT t k + (if t.testBit k then 1 else 0) := rfl
theorem szT_le (t k : Nat) : szT t k ≤ k := fb_ct_le _ k
theorem srA_cong {t : Nat} {f h r s : Nat → Int32} : ∀ k, (∀ j, j < k → f j = h j) → ∀ j, j < szT t k → srA t f r k j = srA t h s k j := by
  intro k
  induction k with
  | zero => intro _ j hj; exact absurd hj (Nat.not_lt_zero j)
  | succ k ih =>
    intro e j hj
    rw [srA, srA, e k (by omega)]
    rw [szT_s] at hj
    cases hb : t.testBit k
    · rw [hb] at hj
      exact ih (fun j hj => e j (by omega)) j (by simpa using hj)
    · rw [hb] at hj
      simp only [if_true] at hj ⊢
      exact insF_cong _ _ _ _ (fun i hi => ih (fun j hj => e j (by omega)) i hi) j (by omega)
theorem ins11 {uw v : St} {p : Nat} (hp : p < 16) (lp : St → Int32 → Int32 → Option (Int32 × St)) (x2 : Int32) : ∀ (a m : Nat) (r : Nat → Int32), a < 16 → a < m → fX0_sortWeights_L24 uw lp m (sa v 2 r) x2 (nI p) (nI a) = lp (sa v 2 (insF (uw 0 p) a r)) (x2 + 1) (nI (p + 1)) := by
  intro a
  induction a with
  | zero =>
    intro m r _ hm
    obtain ⟨m, rfl⟩ : ∃ q, m = q + 1 := ⟨m - 1, by omega⟩
    show bX0_sortWeights_L24 _ _ _ _ _ _ _ = _
    unfold bX0_sortWeights_L24 fX0_sortWeights_J69; dsimp only [lett]
    rw [if_pos (by decide), gd_n (by omega) (by decide), gd_n (by omega) (by decide), ix_n (by omega), ix_n (by omega), st_sa, n1, insF]
  | succ a ih =>
    intro m r ha hm
    obtain ⟨m, rfl⟩ : ∃ q, m = q + 1 := ⟨m - 1, by omega⟩
    show bX0_sortWeights_L24 _ _ _ _ _ _ _ = _
    unfold bX0_sortWeights_L24 fX0_sortWeights_J69; dsimp only [lett]
    rw [if_neg (nI_nle (by omega) (by omega)), nI_pred, pk_m1, gd_n (by omega) (by decide), gd_n (by omega) (by decide), gd_n (by omega) (by decide), gd_n (by omega) (by decide), gd_n (by omega) (by decide), gd_n (by omega) (by decide), ix_n (by omega), ix_n (by omega), ix_n (by omega), st_sa, st_sa, sa_s, n1, insF]
    split
    · rfl
    · exact ih m _ (by omega) (by omega)
theorem ins12 {v : St} {p : Nat} (hp : p < 16) (lp : St → Int32 → Int32 → Option (Int32 × St)) (x2 : Int32) : ∀ (a m : Nat) (r : Nat → Int32), a < 16 → a < m → fX12_sorts_L23 lp m (sa v 46 r) x2 (nI p) (nI a) = lp (sa v 46 (insF (v 0 (16 + p)) a r)) (x2 + 1) (nI (p + 1)) := by
  intro a
  induction a with
  | zero =>
    intro m r _ hm
    obtain ⟨m, rfl⟩ : ∃ q, m = q + 1 := ⟨m - 1, by omega⟩
    show bX12_sorts_L23 _ _ _ _ _ _ = _
    unfold bX12_sorts_L23 fX12_sorts_J68; dsimp only [lett]
    rw [if_pos (by decide), a16, gd_n (by omega) (by decide), gd_n (by omega) (by decide), ix_n (by omega), ix_n (by omega), st_sa, n1, insF]
    rfl
  | succ a ih =>
    intro m r ha hm
    obtain ⟨m, rfl⟩ : ∃ q, m = q + 1 := ⟨m - 1, by omega⟩
    show bX12_sorts_L23 _ _ _ _ _ _ = _
    unfold bX12_sorts_L23 fX12_sorts_J68; dsimp only [lett]
    rw [if_neg (nI_nle (by omega) (by omega)), nI_pred, a16, gd_n (by omega) (by decide), gd_n (by omega) (by decide), gd_n (by omega) (by decide), gd_n (by omega) (by decide), gd_n (by omega) (by decide), ix_n (by omega), ix_n (by omega), ix_n (by omega), st_sa, st_sa, sa_s, n1, insF, sa_i (by decide)]
    split
    · rfl
    · rw [gd_n (by omega) (by decide)]
      exact ih m _ (by omega) (by omega)
theorem sa_self (u : St) (k : Nat) : sa u k (u k) = u := by
  funext a
  by_cases q : a = k
  · subst q; exact sa_s
  · exact sa_i q
theorem sort11 {uw v : St} {t : Nat} (h4 : uw 4 0 = nI t) (ht : t < 65536) : fX0_sortWeights v uw = some (nI (szT t 16), sa v 2 (srA t (uw 0) (v 2) 16)) := by
  have e : fX0_sortWeights_L4 uw FU (sa v 2 (srA t (uw 0) (v 2) 0)) (nI (szT t 0)) (nI 0) = some (nI (szT t 16), sa v 2 (srA t (uw 0) (v 2) 16)) := by
    refine for_all (fun n (a : St × Nat) k => fX0_sortWeights_L4 uw n a.1 (nI a.2) (nI k)) 16 (fun k => (sa v 2 (srA t (uw 0) (v 2) k), szT t k)) _ (fun n => ?_) (fun n k hk => ?_) (by decide)
    · show bX0_sortWeights_L4 uw _ _ _ _ = _
      unfold bX0_sortWeights_L4
      simp (disch := omega) only [l_0, l_1, l_2, l_3, l_4, l_5, l_6, l_7, l_8, l_9, l_10, l_11, l_12, l_15, l_16, l_20, l_24, l_32, l_37, l_38, l_40, l_41, l_42, l_43, l_45, l_47, l_48, l_57, l_59, l_60, l_61, l_62, l_63, l_64, l_80, l_91, l_93, l_96, l_97, l_98, l_99, l_100, l_101, l_102, l_103, l_108, l_110, l_114, l_119, l_120, l_124, l_200, l_240, l_255, l_256, l_260, l_999, l_1000, l_1023, l_2040, l_4080, l_6375, l_9999, l_13849, l_25173, l_65535, l_65536, l_99999, l_1000000, l_1048576, lett_s, sbind, gd_n, ix_n, nI_add, pk_mul, c_le, c_lt, c_eq, b01_0, b01_1, fa_and, fa_or, has11_n, has12_n, sub_n, div_n, rem_n, m1_n, if_pos, if_neg, if_true, if_false, reduceCtorEq, eq_self]
    · show bX0_sortWeights_L4 uw _ _ _ _ = fX0_sortWeights_L4 uw n _ _ _
      unfold bX0_sortWeights_L4; dsimp only [lett]
      have := szT_le t k
      rw [if_neg (nle_n (x := 16) (a := 16) rfl hk (by decide)), h4, has11_n (by omega) (by omega), ins11 hk _ _ _ _ _ (by omega) (by show szT t k < 1000000; omega), n1, n1, szT_s, srA]
      cases hb : t.testBit k
      · simp only [dF, if_true, Bool.false_eq_true, if_false, Nat.add_zero]
      · simp only [dT, if_true, if_false]
  rw [srA, sa_self] at e
  exact e
theorem sort12 {v : St} {N : Nat → Nat → Nat} (r : WkR N (v 0)) : fX12_sorts v = some (nI (szT (N 4 0) 16), sa v 46 (srA (N 4 0) (fun p => v 0 (16 + p)) (v 46) 16)) := by
  have e : fX12_sorts_L4 FU (sa v 46 (srA (N 4 0) (fun p => v 0 (16 + p)) (v 46) 0)) (nI (szT (N 4 0) 0)) (nI 0) = some (nI (szT (N 4 0) 16), sa v 46 (srA (N 4 0) (fun p => v 0 (16 + p)) (v 46) 16)) := by
    refine for_all (fun n (a : St × Nat) k => fX12_sorts_L4 n a.1 (nI a.2) (nI k)) 16 (fun k => (sa v 46 (srA (N 4 0) (fun p => v 0 (16 + p)) (v 46) k), szT (N 4 0) k)) _ (fun n => ?_) (fun n k hk => ?_) (by decide)
    · show bX12_sorts_L4 _ _ _ _ = _
      unfold bX12_sorts_L4
      simp (disch := omega) only [l_0, l_1, l_2, l_3, l_4, l_5, l_6, l_7, l_8, l_9, l_10, l_11, l_12, l_15, l_16, l_20, l_24, l_32, l_37, l_38, l_40, l_41, l_42, l_43, l_45, l_47, l_48, l_57, l_59, l_60, l_61, l_62, l_63, l_64, l_80, l_91, l_93, l_96, l_97, l_98, l_99, l_100, l_101, l_102, l_103, l_108, l_110, l_114, l_119, l_120, l_124, l_200, l_240, l_255, l_256, l_260, l_999, l_1000, l_1023, l_2040, l_4080, l_6375, l_9999, l_13849, l_25173, l_65535, l_65536, l_99999, l_1000000, l_1048576, lett_s, sbind, gd_n, ix_n, nI_add, pk_mul, c_le, c_lt, c_eq, b01_0, b01_1, fa_and, fa_or, has11_n, has12_n, sub_n, div_n, rem_n, m1_n, if_pos, if_neg, if_true, if_false, reduceCtorEq, eq_self]
    · show bX12_sorts_L4 _ _ _ _ = fX12_sorts_L4 n _ _ _
      unfold bX12_sorts_L4; dsimp only [lett]
      have := szT_le (N 4 0) k
      rw [if_neg (nle_n (x := 16) (a := 16) rfl hk (by decide)), isTold_n (v := sa v 46 _) r hk, sbind, ins12 hk _ _ _ _ _ (by omega) (by show szT (N 4 0) k < 1000000; omega), n1, n1, szT_s, srA]
      cases hb : (N 4 0).testBit k
      · simp only [dF, if_true, Bool.false_eq_true, if_false, Nat.add_zero]
      · simp only [dT, if_true, if_false]
  rw [srA, sa_self] at e
  exact e
theorem twos {u v : St} {n : Nat} (hn : n ≤ 16) (hA : ∀ j, j < n → u 2 j = v 46 j) (p : Int32) : ∀ d i tw fr m m2, 1 ≤ i → i ≤ 32 → n - i ≤ d → fr ≤ i - 1 → n - i + 1 < m → n - i + 1 < m2 → tw ≤ i → ∃ z, fX0_mostTwos_L15 m u p (nI n) (nI tw) (nI fr) (nI i) = some (z, u) ∧ fX12_pairs_L23 m2 v p (nI n) (nI tw) (nI (i - 1)) = some (z, v) := by
  intro d
  induction d using Nat.strongRecOn with
  | ind d ih =>
    intro i tw fr m m2 h1 h32 hd hf hm hm2 htw
    obtain ⟨m, rfl⟩ : ∃ q, m = q + 1 := ⟨m - 1, by omega⟩
    obtain ⟨m2, rfl⟩ : ∃ q, m2 = q + 1 := ⟨m2 - 1, by omega⟩
    have e1 : fX0_mostTwos_L15 (m + 1) u p (nI n) (nI tw) (nI fr) (nI i) = bX0_mostTwos_L15 (fX0_mostTwos_L15 m) u p (nI n) (nI tw) (nI fr) (nI i) := rfl
    have e2 : fX12_pairs_L23 (m2 + 1) v p (nI n) (nI tw) (nI (i - 1)) = bX12_pairs_L23 (fX12_pairs_L23 m2) v p (nI n) (nI tw) (nI (i - 1)) := rfl
    rw [e1, e2]
    unfold bX0_mostTwos_L15 bX12_pairs_L23 fX12_pairs_J57 fX12_pairs_J68
    obtain ⟨i, rfl⟩ : ∃ q, i = q + 1 := ⟨i - 1, by omega⟩
    by_cases hi : n ≤ i + 1
    · simp (disch := omega) only [l_0, l_1, l_2, l_3, l_4, l_5, l_6, l_7, l_8, l_9, l_10, l_11, l_12, l_15, l_16, l_20, l_24, l_32, l_37, l_38, l_40, l_41, l_42, l_43, l_45, l_47, l_48, l_57, l_59, l_60, l_61, l_62, l_63, l_64, l_80, l_91, l_93, l_96, l_97, l_98, l_99, l_100, l_101, l_102, l_103, l_108, l_110, l_114, l_119, l_120, l_124, l_200, l_240, l_255, l_256, l_260, l_999, l_1000, l_1023, l_2040, l_4080, l_6375, l_9999, l_13849, l_25173, l_65535, l_65536, l_99999, l_1000000, l_1048576, lett_s, sbind, gd_n, ix_n, nI_add, pk_mul, c_le, c_lt, c_eq, b01_0, b01_1, fa_and, fa_or, has11_n, has12_n, sub_n, div_n, rem_n, m1_n, if_pos, if_neg, if_true, if_false, reduceCtorEq, eq_self, Nat.add_sub_cancel]
      exact ⟨_, rfl, rfl⟩
    · have hA1 := hA (i + 1) (by omega)
      have hA2 := hA i (by omega)
      simp (disch := omega) only [l_0, l_1, l_2, l_3, l_4, l_5, l_6, l_7, l_8, l_9, l_10, l_11, l_12, l_15, l_16, l_20, l_24, l_32, l_37, l_38, l_40, l_41, l_42, l_43, l_45, l_47, l_48, l_57, l_59, l_60, l_61, l_62, l_63, l_64, l_80, l_91, l_93, l_96, l_97, l_98, l_99, l_100, l_101, l_102, l_103, l_108, l_110, l_114, l_119, l_120, l_124, l_200, l_240, l_255, l_256, l_260, l_999, l_1000, l_1023, l_2040, l_4080, l_6375, l_9999, l_13849, l_25173, l_65535, l_65536, l_99999, l_1000000, l_1048576, lett_s, sbind, gd_n, ix_n, nI_add, pk_mul, c_le, c_lt, c_eq, b01_0, b01_1, fa_and, fa_or, has11_n, has12_n, sub_n, div_n, rem_n, m1_n, if_pos, if_neg, if_true, if_false, reduceCtorEq, eq_self, Nat.add_sub_cancel, hA1, hA2]
      by_cases q : p < v 46 (i + 1) - v 46 i
      · simp (disch := omega) only [l_0, l_1, l_2, l_3, l_4, l_5, l_6, l_7, l_8, l_9, l_10, l_11, l_12, l_15, l_16, l_20, l_24, l_32, l_37, l_38, l_40, l_41, l_42, l_43, l_45, l_47, l_48, l_57, l_59, l_60, l_61, l_62, l_63, l_64, l_80, l_91, l_93, l_96, l_97, l_98, l_99, l_100, l_101, l_102, l_103, l_108, l_110, l_114, l_119, l_120, l_124, l_200, l_240, l_255, l_256, l_260, l_999, l_1000, l_1023, l_2040, l_4080, l_6375, l_9999, l_13849, l_25173, l_65535, l_65536, l_99999, l_1000000, l_1048576, lett_s, sbind, gd_n, ix_n, nI_add, pk_mul, c_le, c_lt, c_eq, b01_0, b01_1, fa_and, fa_or, has11_n, has12_n, sub_n, div_n, rem_n, m1_n, if_pos, if_neg, if_true, if_false, reduceCtorEq, eq_self, q]
        have := ih (d - 1) (by omega) (i + 2) tw fr m m2 (by omega) (by omega) (by omega) (by omega) (by omega) (by omega) (by omega)
        exact this
      · simp (disch := omega) only [l_0, l_1, l_2, l_3, l_4, l_5, l_6, l_7, l_8, l_9, l_10, l_11, l_12, l_15, l_16, l_20, l_24, l_32, l_37, l_38, l_40, l_41, l_42, l_43, l_45, l_47, l_48, l_57, l_59, l_60, l_61, l_62, l_63, l_64, l_80, l_91, l_93, l_96, l_97, l_98, l_99, l_100, l_101, l_102, l_103, l_108, l_110, l_114, l_119, l_120, l_124, l_200, l_240, l_255, l_256, l_260, l_999, l_1000, l_1023, l_2040, l_4080, l_6375, l_9999, l_13849, l_25173, l_65535, l_65536, l_99999, l_1000000, l_1048576, lett_s, sbind, gd_n, ix_n, nI_add, pk_mul, c_le, c_lt, c_eq, b01_0, b01_1, fa_and, fa_or, has11_n, has12_n, sub_n, div_n, rem_n, m1_n, if_pos, if_neg, if_true, if_false, reduceCtorEq, eq_self, q]
        obtain ⟨m, rfl⟩ : ∃ q, m = q + 1 := ⟨m - 1, by omega⟩
        have e3 : ∀ a b c, fX0_mostTwos_L15 (m + 1) u p (nI n) a b c = bX0_mostTwos_L15 (fX0_mostTwos_L15 m) u p (nI n) a b c := fun _ _ _ => rfl
        rw [e3]
        unfold bX0_mostTwos_L15
        by_cases hj : n ≤ i + 2
        · obtain ⟨m2, rfl⟩ : ∃ q, m2 = q + 1 := ⟨m2 - 1, by omega⟩
          have e4 : ∀ a b, fX12_pairs_L23 (m2 + 1) v p (nI n) a b = bX12_pairs_L23 (fX12_pairs_L23 m2) v p (nI n) a b := fun _ _ => rfl
          rw [e4]
          unfold bX12_pairs_L23
          simp (disch := omega) only [l_0, l_1, l_2, l_3, l_4, l_5, l_6, l_7, l_8, l_9, l_10, l_11, l_12, l_15, l_16, l_20, l_24, l_32, l_37, l_38, l_40, l_41, l_42, l_43, l_45, l_47, l_48, l_57, l_59, l_60, l_61, l_62, l_63, l_64, l_80, l_91, l_93, l_96, l_97, l_98, l_99, l_100, l_101, l_102, l_103, l_108, l_110, l_114, l_119, l_120, l_124, l_200, l_240, l_255, l_256, l_260, l_999, l_1000, l_1023, l_2040, l_4080, l_6375, l_9999, l_13849, l_25173, l_65535, l_65536, l_99999, l_1000000, l_1048576, lett_s, sbind, gd_n, ix_n, nI_add, pk_mul, c_le, c_lt, c_eq, b01_0, b01_1, fa_and, fa_or, has11_n, has12_n, sub_n, div_n, rem_n, m1_n, if_pos, if_neg, if_true, if_false, reduceCtorEq, eq_self]
          exact ⟨_, rfl, rfl⟩
        · simp (disch := omega) only [l_0, l_1, l_2, l_3, l_4, l_5, l_6, l_7, l_8, l_9, l_10, l_11, l_12, l_15, l_16, l_20, l_24, l_32, l_37, l_38, l_40, l_41, l_42, l_43, l_45, l_47, l_48, l_57, l_59, l_60, l_61, l_62, l_63, l_64, l_80, l_91, l_93, l_96, l_97, l_98, l_99, l_100, l_101, l_102, l_103, l_108, l_110, l_114, l_119, l_120, l_124, l_200, l_240, l_255, l_256, l_260, l_999, l_1000, l_1023, l_2040, l_4080, l_6375, l_9999, l_13849, l_25173, l_65535, l_65536, l_99999, l_1000000, l_1048576, lett_s, sbind, gd_n, ix_n, nI_add, pk_mul, c_le, c_lt, c_eq, b01_0, b01_1, fa_and, fa_or, has11_n, has12_n, sub_n, div_n, rem_n, m1_n, if_pos, if_neg, if_true, if_false, reduceCtorEq, eq_self]
          have := ih (d - 2) (by omega) (i + 3) (tw + 1) (i + 2) m m2 (by omega) (by omega) (by omega) (by omega) (by omega) (by omega) (by omega)
          exact this
theorem eq_pairs (g : Nat → St) (w : Nat → Int64) (v : St) (hr : Rel g v) (p1 : Int32) : ∃ (z : Int32 × St) (y : Int32 × St), fX11_pairs (g 3) (g 9) p1 = some z ∧ fX12_pairs v p1 = some y ∧ z.1 = y.1 ∧ Rel (sg g 9 z.2) y.2 := by
  obtain ⟨t1, ⟨N, ok, c, r⟩, t3, t4, t5, t6⟩ := id hr
  unfold fX11_pairs fX12_pairs fX0_mostTwos; dsimp only [lett]
  rw [within_eq, sort11 c.1 ok.1, sort12 r, sbind, sbind]
  rcases in_cases p1 0 999 0 999 rfl rfl (by decide) (by decide) with ⟨x, -, x2, rfl, e⟩ | e
  · rw [e, if_neg (show ¬ (1 : Int32) = 0 from by decide), if_neg (show ¬ (1 : Int32) = 0 from by decide)]
    have hs := szT_le (N 4 0) 16
    obtain ⟨z, e1, e2⟩ := twos (u := sa (g 9) 2 (srA (N 4 0) (g 3 0) (g 9 2) 16)) (v := sa v 46 (srA (N 4 0) (fun p => v 0 (16 + p)) (v 46) 16)) hs (fun j hj => srA_cong 16 (fun k hk => (c.2.2.2.2 k hk).1.trans (r.2.2 k hk).2.1.symm) j hj) (nI x) 16 1 0 0 FU FU (by omega) (by omega) (by omega) (by omega) (by show _ < 1000000; omega) (by show _ < 1000000; omega) (by omega)
    have e3 : fX0_mostTwos_L15 FU (sa (g 9) 2 (srA (N 4 0) (g 3 0) (g 9 2) 16)) (nI x) (nI (szT (N 4 0) 16)) 0 0 1 = _ := e1
    have e4 : fX12_pairs_L23 FU (sa v 46 (srA (N 4 0) (fun p => v 0 (16 + p)) (v 46) 16)) (nI x) (nI (szT (N 4 0) 16)) 0 0 = _ := e2
    rw [e3, e4, sbind]
    exact ⟨(_, _), (_, _), rfl, rfl, rfl, ⟨t1, ⟨N, ok, c, r⟩, t3, t4, t5, t6⟩⟩
  · rw [e, if_pos rfl, if_pos rfl]
    exact ⟨_, _, rfl, rfl, rfl, hr⟩
