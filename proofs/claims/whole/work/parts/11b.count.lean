/-! ===== count: sums over the told ===== -/
/-- the sum of the facts of those in a set, by walker -/
def sumB (t : Nat) (f : Nat → Nat) : Nat → Nat := fun n => fb_sm (fun p => if t.testBit p then f p else 0) n
theorem sumB_s (t : Nat) (f : Nat → Nat) (n : Nat) : sumB t f (n + 1) = sumB t f n + (if t.testBit n then f n else 0) := rfl
theorem total_n {w : St} {f : Nat → Int32} {t : Nat} {F : Nat → Nat} (h4 : w 4 0 = nI t) (ht : t < 65536) (hf : ∀ p, p < 16 → f p = nI (F p)) : fX9_total w f = some (nI (sumB t F 16)) := by
  have e : fX9_total_L4 w f FU (nI (sumB t F 0)) (nI 0) = some (nI (sumB t F 16)) := by
    refine for_all (fun n (a : Nat) k => fX9_total_L4 w f n (nI a) (nI k)) 16 (fun k => sumB t F k) _ (fun n => ?_) (fun n k hk => ?_) (by decide)
    · show bX9_total_L4 w f _ _ _ = _
      unfold bX9_total_L4
      simp (disch := omega) only [l_0, l_1, l_2, l_3, l_4, l_5, l_6, l_7, l_8, l_9, l_10, l_11, l_12, l_15, l_16, l_20, l_24, l_32, l_37, l_38, l_40, l_41, l_42, l_43, l_45, l_47, l_48, l_57, l_59, l_60, l_61, l_62, l_63, l_64, l_80, l_91, l_93, l_96, l_97, l_98, l_99, l_100, l_101, l_102, l_103, l_108, l_110, l_114, l_119, l_120, l_124, l_200, l_240, l_255, l_256, l_260, l_999, l_1000, l_1023, l_2040, l_4080, l_6375, l_9999, l_13849, l_25173, l_65535, l_65536, l_99999, l_1000000, l_1048576, lett_s, sbind, gd_n, ix_n, nI_add, pk_mul, c_le, c_lt, c_eq, b01_0, b01_1, fa_and, fa_or, has11_n, has12_n, sub_n, div_n, rem_n, m1_n, if_pos, if_neg, if_true, if_false, reduceCtorEq, eq_self]
    · show bX9_total_L4 w f _ _ _ = fX9_total_L4 w f n _ _
      unfold bX9_total_L4
      cases hb : t.testBit k
      · simp (disch := omega) only [l_0, l_1, l_2, l_3, l_4, l_5, l_6, l_7, l_8, l_9, l_10, l_11, l_12, l_15, l_16, l_20, l_24, l_32, l_37, l_38, l_40, l_41, l_42, l_43, l_45, l_47, l_48, l_57, l_59, l_60, l_61, l_62, l_63, l_64, l_80, l_91, l_93, l_96, l_97, l_98, l_99, l_100, l_101, l_102, l_103, l_108, l_110, l_114, l_119, l_120, l_124, l_200, l_240, l_255, l_256, l_260, l_999, l_1000, l_1023, l_2040, l_4080, l_6375, l_9999, l_13849, l_25173, l_65535, l_65536, l_99999, l_1000000, l_1048576, lett_s, sbind, gd_n, ix_n, nI_add, pk_mul, c_le, c_lt, c_eq, b01_0, b01_1, fa_and, fa_or, has11_n, has12_n, sub_n, div_n, rem_n, m1_n, if_pos, if_neg, if_true, if_false, reduceCtorEq, eq_self, h4, hb, sumB_s]
      · simp (disch := omega) only [l_0, l_1, l_2, l_3, l_4, l_5, l_6, l_7, l_8, l_9, l_10, l_11, l_12, l_15, l_16, l_20, l_24, l_32, l_37, l_38, l_40, l_41, l_42, l_43, l_45, l_47, l_48, l_57, l_59, l_60, l_61, l_62, l_63, l_64, l_80, l_91, l_93, l_96, l_97, l_98, l_99, l_100, l_101, l_102, l_103, l_108, l_110, l_114, l_119, l_120, l_124, l_200, l_240, l_255, l_256, l_260, l_999, l_1000, l_1023, l_2040, l_4080, l_6375, l_9999, l_13849, l_25173, l_65535, l_65536, l_99999, l_1000000, l_1048576, lett_s, sbind, gd_n, ix_n, nI_add, pk_mul, c_le, c_lt, c_eq, b01_0, b01_1, fa_and, fa_or, has11_n, has12_n, sub_n, div_n, rem_n, m1_n, if_pos, if_neg, if_true, if_false, reduceCtorEq, eq_self, h4, hb, sumB_s, hf]
  exact e
theorem allOf_n {v : St} {N : Nat → Nat → Nat} (h : WkR N (v 0)) {r : Nat} {F : Nat → Nat} (hr : r ≤ 80) (hf : ∀ p, p < 16 → v 0 (r + p) = nI (F p)) : fX12_allOf v (nI r) = some (nI (sumB (N 4 0) F 16)) := by
  have e : fX12_allOf_L4 v FU (nI r) (nI (sumB (N 4 0) F 0)) (nI 0) = some (nI (sumB (N 4 0) F 16)) := by
    refine for_all (fun n (a : Nat) k => fX12_allOf_L4 v n (nI r) (nI a) (nI k)) 16 (fun k => sumB (N 4 0) F k) _ (fun n => ?_) (fun n k hk => ?_) (by decide)
    · show bX12_allOf_L4 v _ _ _ _ = _
      unfold bX12_allOf_L4
      simp (disch := omega) only [l_0, l_1, l_2, l_3, l_4, l_5, l_6, l_7, l_8, l_9, l_10, l_11, l_12, l_15, l_16, l_20, l_24, l_32, l_37, l_38, l_40, l_41, l_42, l_43, l_45, l_47, l_48, l_57, l_59, l_60, l_61, l_62, l_63, l_64, l_80, l_91, l_93, l_96, l_97, l_98, l_99, l_100, l_101, l_102, l_103, l_108, l_110, l_114, l_119, l_120, l_124, l_200, l_240, l_255, l_256, l_260, l_999, l_1000, l_1023, l_2040, l_4080, l_6375, l_9999, l_13849, l_25173, l_65535, l_65536, l_99999, l_1000000, l_1048576, lett_s, sbind, gd_n, ix_n, nI_add, pk_mul, c_le, c_lt, c_eq, b01_0, b01_1, fa_and, fa_or, has11_n, has12_n, sub_n, div_n, rem_n, m1_n, if_pos, if_neg, if_true, if_false, reduceCtorEq, eq_self]
    · show bX12_allOf_L4 v _ _ _ _ = fX12_allOf_L4 v n _ _ _
      unfold bX12_allOf_L4
      rw [isTold_n h hk]
      cases hb : (N 4 0).testBit k
      · simp (disch := omega) only [l_0, l_1, l_2, l_3, l_4, l_5, l_6, l_7, l_8, l_9, l_10, l_11, l_12, l_15, l_16, l_20, l_24, l_32, l_37, l_38, l_40, l_41, l_42, l_43, l_45, l_47, l_48, l_57, l_59, l_60, l_61, l_62, l_63, l_64, l_80, l_91, l_93, l_96, l_97, l_98, l_99, l_100, l_101, l_102, l_103, l_108, l_110, l_114, l_119, l_120, l_124, l_200, l_240, l_255, l_256, l_260, l_999, l_1000, l_1023, l_2040, l_4080, l_6375, l_9999, l_13849, l_25173, l_65535, l_65536, l_99999, l_1000000, l_1048576, lett_s, sbind, gd_n, ix_n, nI_add, pk_mul, c_le, c_lt, c_eq, b01_0, b01_1, fa_and, fa_or, has11_n, has12_n, sub_n, div_n, rem_n, m1_n, if_pos, if_neg, if_true, if_false, reduceCtorEq, eq_self, hb, sumB_s, Nat.add_zero]
      · simp (disch := omega) only [l_0, l_1, l_2, l_3, l_4, l_5, l_6, l_7, l_8, l_9, l_10, l_11, l_12, l_15, l_16, l_20, l_24, l_32, l_37, l_38, l_40, l_41, l_42, l_43, l_45, l_47, l_48, l_57, l_59, l_60, l_61, l_62, l_63, l_64, l_80, l_91, l_93, l_96, l_97, l_98, l_99, l_100, l_101, l_102, l_103, l_108, l_110, l_114, l_119, l_120, l_124, l_200, l_240, l_255, l_256, l_260, l_999, l_1000, l_1023, l_2040, l_4080, l_6375, l_9999, l_13849, l_25173, l_65535, l_65536, l_99999, l_1000000, l_1048576, lett_s, sbind, gd_n, ix_n, nI_add, pk_mul, c_le, c_lt, c_eq, b01_0, b01_1, fa_and, fa_or, has11_n, has12_n, sub_n, div_n, rem_n, m1_n, if_pos, if_neg, if_true, if_false, reduceCtorEq, eq_self, hb, sumB_s, hf]
  exact e
/-- all letters of the first n lines -/
def orB (a b : Nat → Nat) : Nat → Nat
  | 0 => 0
  | n + 1 => orB a b n ||| (a n ||| b n)
theorem orB_lt {a b : Nat → Nat} : ∀ {n : Nat}, (∀ k, k < n → a k < 65536 ∧ b k < 65536) → orB a b n < 65536
  | 0, _ => by rw [orB]; decide
  | n + 1, h => Nat.or_lt_two_pow (n := 16) (orB_lt (fun k hk => h k (by omega))) (Nat.or_lt_two_pow (n := 16) (h n (by omega)).1 (h n (by omega)).2)
theorem letters_n {w : St} {n : Nat} {a b : Nat → Nat} (hn : n ≤ 16) (h3 : w 3 0 = nI n) (ha : ∀ k, k < n → w 0 k = nI (a k)) (hb : ∀ k, k < n → w 1 k = nI (b k)) : fX10_letters w = some (nI (orB a b n)) := by
  have e : fX10_letters_L4 w FU (nI (orB a b 0)) (nI 0) = some (nI (orB a b n)) := by
    refine for_all (fun m (s : Nat) k => fX10_letters_L4 w m (nI s) (nI k)) n (fun k => orB a b k) _ (fun m => ?_) (fun m k hk => ?_) (by omega)
    · show bX10_letters_L4 w _ _ _ = _
      unfold bX10_letters_L4
      simp (disch := omega) only [l_0, l_1, l_2, l_3, l_4, l_5, l_6, l_7, l_8, l_9, l_10, l_11, l_12, l_15, l_16, l_20, l_24, l_32, l_37, l_38, l_40, l_41, l_42, l_43, l_45, l_47, l_48, l_57, l_59, l_60, l_61, l_62, l_63, l_64, l_80, l_91, l_93, l_96, l_97, l_98, l_99, l_100, l_101, l_102, l_103, l_108, l_110, l_114, l_119, l_120, l_124, l_200, l_240, l_255, l_256, l_260, l_999, l_1000, l_1023, l_2040, l_4080, l_6375, l_9999, l_13849, l_25173, l_65535, l_65536, l_99999, l_1000000, l_1048576, lett_s, sbind, gd_n, ix_n, nI_add, pk_mul, c_le, c_lt, c_eq, b01_0, b01_1, fa_and, fa_or, has11_n, has12_n, sub_n, div_n, rem_n, m1_n, if_pos, if_neg, if_true, if_false, reduceCtorEq, eq_self, h3, Nat.le_refl]
    · show bX10_letters_L4 w _ _ _ = fX10_letters_L4 w m _ _
      unfold bX10_letters_L4
      simp (disch := omega) only [l_0, l_1, l_2, l_3, l_4, l_5, l_6, l_7, l_8, l_9, l_10, l_11, l_12, l_15, l_16, l_20, l_24, l_32, l_37, l_38, l_40, l_41, l_42, l_43, l_45, l_47, l_48, l_57, l_59, l_60, l_61, l_62, l_63, l_64, l_80, l_91, l_93, l_96, l_97, l_98, l_99, l_100, l_101, l_102, l_103, l_108, l_110, l_114, l_119, l_120, l_124, l_200, l_240, l_255, l_256, l_260, l_999, l_1000, l_1023, l_2040, l_4080, l_6375, l_9999, l_13849, l_25173, l_65535, l_65536, l_99999, l_1000000, l_1048576, lett_s, sbind, gd_n, ix_n, nI_add, pk_mul, c_le, c_lt, c_eq, b01_0, b01_1, fa_and, fa_or, has11_n, has12_n, sub_n, div_n, rem_n, m1_n, if_pos, if_neg, if_true, if_false, reduceCtorEq, eq_self, h3, ha, hb, orB]
  exact e
theorem named_n {w : St} {n : Nat} {a b : Nat → Nat} (hn : n ≤ 16) (h3 : w 36 0 = nI n) (ha : ∀ k, k < n → w 30 k = nI (a k)) (hb : ∀ k, k < n → w 31 k = nI (b k)) : fX12_named w = some (nI (orB a b n)) := by
  have e : fX12_named_L4 w FU (nI (orB a b 0)) (nI 0) = some (nI (orB a b n)) := by
    refine for_all (fun m (s : Nat) k => fX12_named_L4 w m (nI s) (nI k)) n (fun k => orB a b k) _ (fun m => ?_) (fun m k hk => ?_) (by omega)
    · show bX12_named_L4 w _ _ _ = _
      unfold bX12_named_L4
      simp (disch := omega) only [l_0, l_1, l_2, l_3, l_4, l_5, l_6, l_7, l_8, l_9, l_10, l_11, l_12, l_15, l_16, l_20, l_24, l_32, l_37, l_38, l_40, l_41, l_42, l_43, l_45, l_47, l_48, l_57, l_59, l_60, l_61, l_62, l_63, l_64, l_80, l_91, l_93, l_96, l_97, l_98, l_99, l_100, l_101, l_102, l_103, l_108, l_110, l_114, l_119, l_120, l_124, l_200, l_240, l_255, l_256, l_260, l_999, l_1000, l_1023, l_2040, l_4080, l_6375, l_9999, l_13849, l_25173, l_65535, l_65536, l_99999, l_1000000, l_1048576, lett_s, sbind, gd_n, ix_n, nI_add, pk_mul, c_le, c_lt, c_eq, b01_0, b01_1, fa_and, fa_or, has11_n, has12_n, sub_n, div_n, rem_n, m1_n, if_pos, if_neg, if_true, if_false, reduceCtorEq, eq_self, h3, Nat.le_refl]
    · show bX12_named_L4 w _ _ _ = fX12_named_L4 w m _ _
      unfold bX12_named_L4
      simp (disch := omega) only [l_0, l_1, l_2, l_3, l_4, l_5, l_6, l_7, l_8, l_9, l_10, l_11, l_12, l_15, l_16, l_20, l_24, l_32, l_37, l_38, l_40, l_41, l_42, l_43, l_45, l_47, l_48, l_57, l_59, l_60, l_61, l_62, l_63, l_64, l_80, l_91, l_93, l_96, l_97, l_98, l_99, l_100, l_101, l_102, l_103, l_108, l_110, l_114, l_119, l_120, l_124, l_200, l_240, l_255, l_256, l_260, l_999, l_1000, l_1023, l_2040, l_4080, l_6375, l_9999, l_13849, l_25173, l_65535, l_65536, l_99999, l_1000000, l_1048576, lett_s, sbind, gd_n, ix_n, nI_add, pk_mul, c_le, c_lt, c_eq, b01_0, b01_1, fa_and, fa_or, has11_n, has12_n, sub_n, div_n, rem_n, m1_n, if_pos, if_neg, if_true, if_false, reduceCtorEq, eq_self, h3, ha, hb, orB, Nat.or_assoc]
  exact e
theorem eq_count (g : Nat → St) (w : Nat → Int64) (v : St) (hr : Rel g v) (p1 : Int32) : ∃ (z : Int32) (y : Int32), fX11_count (g 1) (g 3) (g 6) (g 13) (g 15) p1 = some z ∧ fX12_count v p1 = some y ∧ z = y ∧ Rel g v := by
  obtain ⟨⟨t, c, t1, t2, t3, t4⟩, ⟨N, ok, wc, wr⟩, hk, ⟨a, b, r1, r2, r3, r4, r5, r6⟩, ⟨ln, lc, K, A, B, E, S, O, q1, q2, q3, q4, q5⟩, ⟨vn, va, vb, vs, u1, u2, u3, u4⟩⟩ := id hr
  have hover : (nI (N 4 0)) &&& (nI (ndiff (N 4 0) (N 5 0)) ^^^ (-1)) = nI (N 5 0) := by
    rw [ndiff_eq, diff_over ok.1 ok.2.1 (fun p hp => (ok.2.2.2.2 p hp).2.2.2.2.2)]
  have hl := letters_n (w := g 15) (a := va) (b := vb) u1 u2 (fun k hk => (u4 k hk).2.2.2.2.2.2.1) (fun k hk => (u4 k hk).2.2.2.2.2.2.2.2.1)
  have hl2 := named_n (w := v) (a := va) (b := vb) u1 u3 (fun k hk => (u4 k hk).2.2.2.2.2.2.2.1) (fun k hk => (u4 k hk).2.2.2.2.2.2.2.2.2.1)
  have s1 := total_n (w := g 3) (f := g 3 2) (F := N 2) wc.1 ok.1 (fun p hp => (wc.2.2.2.2 p hp).2.2.1)
  have s2 := total_n (w := g 3) (f := g 3 0) (F := N 0) wc.1 ok.1 (fun p hp => (wc.2.2.2.2 p hp).1)
  have s3 : fX12_allOf v 64 = _ := allOf_n (v := v) (r := 64) (F := N 2) wr (by decide) (fun p hp => (wr.2.2 p hp).2.2.2.2.1)
  have s4 : fX12_allOf v 16 = _ := allOf_n (v := v) (r := 16) (F := N 0) wr (by decide) (fun p hp => (wr.2.2 p hp).2.1)
  have k96 : v 0 (ix 96) = nI (N 6 0) := wr.1
  have k97 : v 0 (ix 97) = nI (N 7 0) := wr.2.1
  unfold fX11_count fX12_count
  by_cases h0 : p1 = 0
  · subst h0; exact ⟨_, _, rfl, congrArg some k96, wc.2.2.1, hr⟩
  by_cases h1 : p1 = 1
  · subst h1; rw [toldSet_n wr ok.1]; exact ⟨_, _, rfl, rfl, wc.1, hr⟩
  by_cases h2 : p1 = 2
  · subst h2; rw [toldSet_n wr ok.1, hereSet_n wr ok.1]; exact ⟨_, _, rfl, congrArg some hover, wc.2.1, hr⟩
  by_cases h3 : p1 = 3
  · subst h3; exact ⟨_, _, rfl, rfl, u2.trans u3.symm, hr⟩
  by_cases h4 : p1 = 4
  · subst h4; exact ⟨_, _, rfl, rfl, q3.trans q4.symm, hr⟩
  by_cases h5 : p1 = 5
  · subst h5; exact ⟨_, _, rfl, rfl, t2.trans t3.symm, hr⟩
  by_cases h6 : p1 = 6
  · subst h6; exact ⟨_, _, rfl, congrArg some k97, wc.2.2.2.1, hr⟩
  by_cases h7 : p1 = 7
  · subst h7; exact ⟨_, _, rfl, rfl, r3.trans r4.symm, hr⟩
  by_cases h8 : p1 = 8
  · subst h8; exact ⟨_, _, rfl, rfl, r5.trans r6.symm, hr⟩
  by_cases h9 : p1 = 9
  · subst h9; rw [hl, hl2]; exact ⟨_, _, rfl, rfl, rfl, hr⟩
  by_cases h10 : p1 = 10
  · subst h10; rw [s1, s3]; exact ⟨_, _, rfl, rfl, rfl, hr⟩
  by_cases h11 : p1 = 11
  · subst h11; rw [s2, s4]; exact ⟨_, _, rfl, rfl, rfl, hr⟩
  simp only [h0, h1, h2, h3, h4, h5, h6, h7, h8, h9, h10, h11, if_false]
  exact ⟨_, _, rfl, rfl, rfl, hr⟩
