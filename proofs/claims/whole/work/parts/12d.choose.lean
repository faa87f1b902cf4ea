/-! ===== colonel, standsFor ===== -/
def colC (F : Nat → Nat) (W tol k : Int32) (s : Nat) : Bool := !decide (tol < ab (nI (sumB s F 16) - W)) && decide (nI (pc16 s) = k)
def colG (F : Nat → Nat) (W tol k : Int32) (a : Int32) (s : Nat) : Int32 := if colC F W tol k s then a + 1 else a
theorem lt_of_le {a b c : Nat} (h : a ≤ b) (h2 : b < c) : a < c := Nat.lt_of_le_of_lt h h2
theorem col11 {ch : St} {F : Nat → Nat} (hS : SumT F ch) {B : Nat} (hB : B < 65536) (W tol k : Int32) : fX0_ways ch (nI B) k W tol = some (subF B (colG F W tol k) 0 (B + 1)) := by
  unfold fX0_ways; dsimp only [lett]
  have hp := pow16 B
  rw [bitCount_n hB, shl1 _ (by have := pc16_le B; omega)]
  refine enum hB (fun n (a : Int32) s j => fX0_ways_L17 ch n (nI B) k W tol a (nI (2 ^ pc16 B)) s (nI j)) (colG F W tol k) (fun _ => True) (fun a => some a) 0 trivial (fun _ _ _ _ _ => trivial) (fun n a s _ => ?_) (fun n a s j _ hs hsB hj => ?_)
  · show bX0_ways_L17 ch _ _ _ _ _ _ _ _ _ = _
    unfold bX0_ways_L17
    rw [if_pos (nI_le (Nat.le_refl _) (by omega))]
  · show bX0_ways_L17 ch _ _ _ _ _ _ _ _ _ = fX0_ways_L17 ch n _ _ _ _ _ _ _ _
    unfold bX0_ways_L17 fX0_ways_J52 colG colC; dsimp only [lett]
    rw [if_neg (nI_ge hj (by omega)), sum_n hS (by omega), sbind, bitCount_n (by omega), n1]
    by_cases c1 : tol < ab (nI (sumB s F 16) - W)
    · rw [if_pos c1, decide_eq_true c1]; rfl
    · rw [if_neg c1, decide_eq_false c1]
      by_cases c2 : nI (pc16 s) = k
      · rw [if_pos c2, decide_eq_true c2]; rfl
      · rw [if_neg c2, decide_eq_false c2]; rfl
theorem col12 {v : St} {F : Nat → Nat} (hF : ∀ p, p < 16 → v 0 (16 + p) = nI (F p)) {p : Nat} (hp : p < 16) {B : Nat} (hB : B < 65536) (k : Int32) : fX12_colonel_L37 v FU (nI p) k (nI B) 0 0 = some (subF B (colG F (nI (F p)) (v 3 0) k) 0 (B + 1)) := by
  refine enum12 hB (fun n (a : Int32) s => fX12_colonel_L37 v n (nI p) k (nI B) a (nI s)) (colG F (nI (F p)) (v 3 0) k) (fun _ => True) (fun a => some a) 0 trivial (fun _ _ _ _ _ => trivial) (fun n a _ => ?_) (fun n a s _ hsB => ?_)
  · show bX12_colonel_L37 v _ _ _ _ _ _ = _
    unfold bX12_colonel_L37
    rw [if_pos (nI_lt (Nat.lt_succ_self B) (by omega))]
  · show bX12_colonel_L37 v _ _ _ _ _ _ = fX12_colonel_L37 v n _ _ _ _ _
    unfold bX12_colonel_L37; dsimp only [lett]
    rw [if_neg (nI_nlt hsB (by omega)), ndiff_eq, n1, bits_n (by omega), sbind, sumOf_n (by omega) hF, sbind, a16, gd_n (by omega) (by decide), ix_n (by omega), hF p hp, size_ab]
    have hnd : (nI (ndiff s B) = 0) ↔ subm B s = true := by
      have := ndiff_le s B
      constructor
      · intro h
        exact decide_eq_true ((nd0 (by omega)).mp ((nI_eq (b := 0) (by omega) (by omega)).mp h))
      · intro h
        rw [(nd0 (by omega)).mpr (of_decide_eq_true h)]; rfl
    cases hs : subm B s
    · rw [if_neg (fun e => by rw [hnd.mp e] at hs; cases hs)]; rfl
    · rw [if_pos (hnd.mpr hs), if_pos rfl]
      unfold colG colC
      by_cases c2 : nI (pc16 s) = k
      · rw [if_pos c2, decide_eq_true c2]
        by_cases c1 : v 3 0 < ab (nI (sumB s F 16) - nI (F p))
        · rw [if_pos c1, decide_eq_true c1]; rfl
        · rw [if_neg c1, decide_eq_false c1]; rfl
      · rw [if_neg c2, decide_eq_false c2, Bool.and_false]; rfl
theorem nd_sub {s B : Nat} (hs : s < 2147483648) : (nI (ndiff s B) = 0) ↔ subm B s = true := by
  have := ndiff_le s B
  constructor
  · intro h
    exact decide_eq_true ((nd0 (by omega)).mp ((nI_eq (b := 0) (by omega) (by omega)).mp h))
  · intro h
    rw [(nd0 (by omega)).mpr (of_decide_eq_true h)]; rfl
theorem others_n {w : St} {N : Nat → Nat → Nat} (c : WkC N w) {p : Nat} (hp : p < 16) : fX9_othersHere w (nI p) = nI (ndiff (ndiff (N 4 0) (N 5 0)) (2 ^ p)) := by
  unfold fX9_othersHere fX9_here; dsimp only [lett]
  rw [c.1, c.2.1, ndiff_eq, shl1 p (by omega), ndiff_eq]
theorem eq_colonel (g : Nat → St) (w : Nat → Int64) (v : St) (hr : Rel g v) (p1 p2 : Int32) : ∃ (z : Int32 × St) (y : Int32), fX11_colonel (g 3) (g 6) (g 9) p1 p2 = some z ∧ fX12_colonel v p1 p2 = some y ∧ z.1 = y ∧ Rel (sg g 9 z.2) v := by
  obtain ⟨t1, ⟨N, ok, c, r⟩, t3, ⟨ra, rb, r1, r2, r3, r4, r5, r6⟩, t5, t6⟩ := id hr
  unfold fX11_colonel fX12_colonel; dsimp only [lett]
  rw [within_eq]
  rcases in_cases p1 0 15 0 15 rfl rfl (by decide) (by decide) with ⟨p, -, hp, rfl, h1⟩ | h1
  · have hp16 : p < 16 := by omega
    rw [knows_n c ok.1 hp16, isTold_n r hp16, sbind, sbind]
    cases hb : (N 4 0).testBit p
    · simp only [dF, if_true]
      exact ⟨(_, _), _, rfl, rfl, rfl, hr⟩
    · simp only [dT, if_false]
      rcases in_cases p2 1 15 1 15 rfl rfl (by decide) (by decide) with ⟨x, -, x2, rfl, h2⟩ | h2
      · obtain ⟨ch2, e1, s1⟩ := weigh_n (ch := g 9) (uw := g 3 0) (F := N 0) (fun j hj => (c.2.2.2.2 j hj).1)
        have hB : ndiff (ndiff (N 4 0) (N 5 0)) (2 ^ p) < 65536 := lt_of_le (Nat.le_trans (ndiff_le _ _) (ndiff_le _ _)) ok.1
        rw [h2, if_neg (show ¬ (1 : Int32) = 0 from by decide), if_neg (show ¬ (1 : Int32) = 0 from by decide), e1, sbind, gd_n (by omega) (by decide), ix_n (by omega), others_n c hp16, (c.2.2.2.2 p hp16).1, r3, col11 s1 hB, sbind, hereSet_n r ok.1, sbind, shl1 p (by omega), ndiff_eq, col12 (F := N 0) (fun p hp => (r.2.2 p hp).2.1) hp16 hB, r4]
        exact ⟨(_, _), _, rfl, rfl, rfl, hr⟩
      · rw [h2, if_pos rfl, if_pos rfl]
        exact ⟨(_, _), _, rfl, rfl, rfl, hr⟩
  · rw [knows_o h1, isTold_o h1, sbind, sbind, if_pos rfl, if_pos rfl]
    exact ⟨(_, _), _, rfl, rfl, rfl, hr⟩
def nrG (F : Nat → Nat) (W : Nat) (a : Nat × Nat) (s : Nat) : Nat × Nat :=
  if (sumB s F 16 - W) + (W - sumB s F 16) < a.2 then (s, (sumB s F 16 - W) + (W - sumB s F 16)) else if (sumB s F 16 - W) + (W - sumB s F 16) = a.2 then (if pc16 a.1 ≤ pc16 s then a else (s, (sumB s F 16 - W) + (W - sumB s F 16))) else a
def nrI (F : Nat → Nat) (W : Nat) (a : Nat × Nat) : Prop := a.1 < 65536 ∧ a.2 < 1073741824 ∧ a.2 = (sumB a.1 F 16 - W) + (W - sumB a.1 F 16)
theorem nrI_G {F : Nat → Nat} {W : Nat} (hF : ∀ p, p < 16 → F p ≤ 999) (hW : W ≤ 999) {B : Nat} (hB : B < 65536) : ∀ a s, nrI F W a → subm B s = true → s ≤ B → nrI F W (nrG F W a s) := by
  intro a s h _ hs
  have hl := sumB_le (t := s) (F := F) (n := 16) (c := 999) hF
  have hn : nrI F W (s, (sumB s F 16 - W) + (W - sumB s F 16)) := ⟨by show s < _; omega, by show _ + _ < _; omega, rfl⟩
  unfold nrG
  split
  · exact hn
  · split
    · split
      · exact h
      · exact hn
    · exact h
theorem near11 {ch : St} {F : Nat → Nat} (hS : SumT F ch) (hF : ∀ p, p < 16 → F p ≤ 999) {W : Nat} (hW : W ≤ 999) {B : Nat} (hB : B < 65536) : fX0_nearest ch (nI B) (nI W) = some (nI (subF B (nrG F W) (0, W) (B + 1)).1) := by
  unfold fX0_nearest; dsimp only [lett]
  have hp := pow16 B
  rw [bitCount_n hB, shl1 _ (by have := pc16_le B; omega)]
  have h0 : nrI F W (0, W) := ⟨by show 0 < _; omega, by show W < _; omega, by show W = _; rw [sumB_0]; omega⟩
  refine enum hB (fun n (a : Nat × Nat) s j => fX0_nearest_L19 ch n (nI B) (nI W) (nI a.1) (nI a.2) (nI (2 ^ pc16 B)) s (nI j)) (nrG F W) (nrI F W) (fun a => some (nI a.1)) (0, W) h0 (nrI_G hF hW hB) (fun n a s _ => ?_) (fun n a s j hI hs hsB hj => ?_)
  · show bX0_nearest_L19 ch _ _ _ _ _ _ _ _ = _
    unfold bX0_nearest_L19
    rw [if_pos (nI_le (Nat.le_refl _) (by omega))]
  · show bX0_nearest_L19 ch _ _ _ _ _ _ _ _ = fX0_nearest_L19 ch n _ _ _ _ _ _ _
    unfold bX0_nearest_L19 fX0_nearest_J65 fX0_nearest_J72 nrG; dsimp only [lett]
    have hl := sumB_le (t := s) (F := F) (n := 16) (c := 999) hF
    obtain ⟨i1, i2, i3⟩ := hI
    rw [if_neg (nI_ge hj (by omega)), sum_n hS (by omega), sbind, bitCount_n (x := s) (by omega), bitCount_n i1, n1, abs_n (by omega) (by omega)]
    have q1 := pc16_le s
    have q2 := pc16_le a.1
    have hD : (sumB s F 16 - W) + (W - sumB s F 16) < 100000 := by omega
    generalize (sumB s F 16 - W) + (W - sumB s F 16) = D at *
    by_cases c1 : D < a.2
    · simp (disch := omega) only [l_0, l_1, l_2, l_3, l_4, l_5, l_6, l_7, l_8, l_9, l_10, l_11, l_12, l_15, l_16, l_20, l_24, l_32, l_37, l_38, l_40, l_41, l_42, l_43, l_45, l_47, l_48, l_57, l_59, l_60, l_61, l_62, l_63, l_64, l_80, l_91, l_93, l_96, l_97, l_98, l_99, l_100, l_101, l_102, l_103, l_108, l_110, l_114, l_119, l_120, l_124, l_200, l_240, l_255, l_256, l_260, l_999, l_1000, l_1023, l_2040, l_4080, l_6375, l_9999, l_13849, l_25173, l_65535, l_65536, l_99999, l_1000000, l_1048576, lett_s, sbind, gd_n, ix_n, nI_add, pk_mul, c_le, c_lt, c_eq, b01_0, b01_1, fa_and, fa_or, has11_n, has12_n, sub_n, div_n, rem_n, m1_n, if_pos, if_neg, if_true, if_false, reduceCtorEq, eq_self]
    · by_cases c2 : D = a.2
      · by_cases c3 : pc16 a.1 ≤ pc16 s
        · simp (disch := omega) only [l_0, l_1, l_2, l_3, l_4, l_5, l_6, l_7, l_8, l_9, l_10, l_11, l_12, l_15, l_16, l_20, l_24, l_32, l_37, l_38, l_40, l_41, l_42, l_43, l_45, l_47, l_48, l_57, l_59, l_60, l_61, l_62, l_63, l_64, l_80, l_91, l_93, l_96, l_97, l_98, l_99, l_100, l_101, l_102, l_103, l_108, l_110, l_114, l_119, l_120, l_124, l_200, l_240, l_255, l_256, l_260, l_999, l_1000, l_1023, l_2040, l_4080, l_6375, l_9999, l_13849, l_25173, l_65535, l_65536, l_99999, l_1000000, l_1048576, lett_s, sbind, gd_n, ix_n, nI_add, pk_mul, c_le, c_lt, c_eq, b01_0, b01_1, fa_and, fa_or, has11_n, has12_n, sub_n, div_n, rem_n, m1_n, if_pos, if_neg, if_true, if_false, reduceCtorEq, eq_self]
        · simp (disch := omega) only [l_0, l_1, l_2, l_3, l_4, l_5, l_6, l_7, l_8, l_9, l_10, l_11, l_12, l_15, l_16, l_20, l_24, l_32, l_37, l_38, l_40, l_41, l_42, l_43, l_45, l_47, l_48, l_57, l_59, l_60, l_61, l_62, l_63, l_64, l_80, l_91, l_93, l_96, l_97, l_98, l_99, l_100, l_101, l_102, l_103, l_108, l_110, l_114, l_119, l_120, l_124, l_200, l_240, l_255, l_256, l_260, l_999, l_1000, l_1023, l_2040, l_4080, l_6375, l_9999, l_13849, l_25173, l_65535, l_65536, l_99999, l_1000000, l_1048576, lett_s, sbind, gd_n, ix_n, nI_add, pk_mul, c_le, c_lt, c_eq, b01_0, b01_1, fa_and, fa_or, has11_n, has12_n, sub_n, div_n, rem_n, m1_n, if_pos, if_neg, if_true, if_false, reduceCtorEq, eq_self]
      · simp (disch := omega) only [l_0, l_1, l_2, l_3, l_4, l_5, l_6, l_7, l_8, l_9, l_10, l_11, l_12, l_15, l_16, l_20, l_24, l_32, l_37, l_38, l_40, l_41, l_42, l_43, l_45, l_47, l_48, l_57, l_59, l_60, l_61, l_62, l_63, l_64, l_80, l_91, l_93, l_96, l_97, l_98, l_99, l_100, l_101, l_102, l_103, l_108, l_110, l_114, l_119, l_120, l_124, l_200, l_240, l_255, l_256, l_260, l_999, l_1000, l_1023, l_2040, l_4080, l_6375, l_9999, l_13849, l_25173, l_65535, l_65536, l_99999, l_1000000, l_1048576, lett_s, sbind, gd_n, ix_n, nI_add, pk_mul, c_le, c_lt, c_eq, b01_0, b01_1, fa_and, fa_or, has11_n, has12_n, sub_n, div_n, rem_n, m1_n, if_pos, if_neg, if_true, if_false, reduceCtorEq, eq_self]
theorem near12 {v : St} {F : Nat → Nat} (hF : ∀ p, p < 16 → v 0 (16 + p) = nI (F p)) (hF2 : ∀ p, p < 16 → F p ≤ 999) {p : Nat} (hp : p < 16) {B : Nat} (hB : B < 65536) (x : Int32) : fX12_standsFor_L47 v FU (nI p) x (nI B) 0 (nI (F p)) 0 = some (if x = 0 then nI (subF B (nrG F (F p)) (0, F p) (B + 1)).1 else nI (subF B (nrG F (F p)) (0, F p) (B + 1)).2) := by
  have hW := hF2 p hp
  have h0 : nrI F (F p) (0, F p) := ⟨by show 0 < _; omega, by show F p < _; omega, by show F p = _; rw [sumB_0]; omega⟩
  refine enum12 hB (fun n (a : Nat × Nat) s => fX12_standsFor_L47 v n (nI p) x (nI B) (nI a.1) (nI a.2) (nI s)) (nrG F (F p)) (nrI F (F p)) (fun a => some (if x = 0 then nI a.1 else nI a.2)) (0, F p) h0 (nrI_G hF2 hW hB) (fun n a _ => ?_) (fun n a s hI hsB => ?_)
  · show bX12_standsFor_L47 v _ _ _ _ _ _ _ = _
    unfold bX12_standsFor_L47
    rw [if_pos (nI_lt (Nat.lt_succ_self B) (by omega))]
    split <;> rfl
  · show bX12_standsFor_L47 v _ _ _ _ _ _ _ = fX12_standsFor_L47 v n _ _ _ _ _ _
    unfold bX12_standsFor_L47; dsimp only [lett]
    obtain ⟨i1, i2, i3⟩ := hI
    have hl := sumB_le (t := s) (F := F) (n := 16) (c := 999) hF2
    rw [if_neg (nI_nlt hsB (by omega)), ndiff_eq, n1, sumOf_n (by omega) hF, sbind, bits_n (x := s) (by omega), sbind, bits_n (x := a.1) (by omega), sbind, a16, gd_n (by omega) (by decide), ix_n (by omega), hF p hp, size_ab, abs_n (by omega) (by omega)]
    cases hs : subm B s
    · rw [if_neg (fun e => by rw [(nd_sub (by omega)).mp e] at hs; cases hs)]; rfl
    · rw [if_pos ((nd_sub (by omega)).mpr hs), if_pos rfl]
      unfold nrG
      have q1 := pc16_le s
      have q2 := pc16_le a.1
      have hD : (sumB s F 16 - F p) + (F p - sumB s F 16) < 100000 := by omega
      generalize (sumB s F 16 - F p) + (F p - sumB s F 16) = D at *
      by_cases c1 : D < a.2
      · simp (disch := omega) only [l_0, l_1, l_2, l_3, l_4, l_5, l_6, l_7, l_8, l_9, l_10, l_11, l_12, l_15, l_16, l_20, l_24, l_32, l_37, l_38, l_40, l_41, l_42, l_43, l_45, l_47, l_48, l_57, l_59, l_60, l_61, l_62, l_63, l_64, l_80, l_91, l_93, l_96, l_97, l_98, l_99, l_100, l_101, l_102, l_103, l_108, l_110, l_114, l_119, l_120, l_124, l_200, l_240, l_255, l_256, l_260, l_999, l_1000, l_1023, l_2040, l_4080, l_6375, l_9999, l_13849, l_25173, l_65535, l_65536, l_99999, l_1000000, l_1048576, lett_s, sbind, gd_n, ix_n, nI_add, pk_mul, c_le, c_lt, c_eq, b01_0, b01_1, fa_and, fa_or, has11_n, has12_n, sub_n, div_n, rem_n, m1_n, if_pos, if_neg, if_true, if_false, reduceCtorEq, eq_self]
      · by_cases c2 : D = a.2
        · by_cases c3 : pc16 a.1 ≤ pc16 s
          · simp (disch := omega) only [l_0, l_1, l_2, l_3, l_4, l_5, l_6, l_7, l_8, l_9, l_10, l_11, l_12, l_15, l_16, l_20, l_24, l_32, l_37, l_38, l_40, l_41, l_42, l_43, l_45, l_47, l_48, l_57, l_59, l_60, l_61, l_62, l_63, l_64, l_80, l_91, l_93, l_96, l_97, l_98, l_99, l_100, l_101, l_102, l_103, l_108, l_110, l_114, l_119, l_120, l_124, l_200, l_240, l_255, l_256, l_260, l_999, l_1000, l_1023, l_2040, l_4080, l_6375, l_9999, l_13849, l_25173, l_65535, l_65536, l_99999, l_1000000, l_1048576, lett_s, sbind, gd_n, ix_n, nI_add, pk_mul, c_le, c_lt, c_eq, b01_0, b01_1, fa_and, fa_or, has11_n, has12_n, sub_n, div_n, rem_n, m1_n, if_pos, if_neg, if_true, if_false, reduceCtorEq, eq_self]
          · simp (disch := omega) only [l_0, l_1, l_2, l_3, l_4, l_5, l_6, l_7, l_8, l_9, l_10, l_11, l_12, l_15, l_16, l_20, l_24, l_32, l_37, l_38, l_40, l_41, l_42, l_43, l_45, l_47, l_48, l_57, l_59, l_60, l_61, l_62, l_63, l_64, l_80, l_91, l_93, l_96, l_97, l_98, l_99, l_100, l_101, l_102, l_103, l_108, l_110, l_114, l_119, l_120, l_124, l_200, l_240, l_255, l_256, l_260, l_999, l_1000, l_1023, l_2040, l_4080, l_6375, l_9999, l_13849, l_25173, l_65535, l_65536, l_99999, l_1000000, l_1048576, lett_s, sbind, gd_n, ix_n, nI_add, pk_mul, c_le, c_lt, c_eq, b01_0, b01_1, fa_and, fa_or, has11_n, has12_n, sub_n, div_n, rem_n, m1_n, if_pos, if_neg, if_true, if_false, reduceCtorEq, eq_self]
        · simp (disch := omega) only [l_0, l_1, l_2, l_3, l_4, l_5, l_6, l_7, l_8, l_9, l_10, l_11, l_12, l_15, l_16, l_20, l_24, l_32, l_37, l_38, l_40, l_41, l_42, l_43, l_45, l_47, l_48, l_57, l_59, l_60, l_61, l_62, l_63, l_64, l_80, l_91, l_93, l_96, l_97, l_98, l_99, l_100, l_101, l_102, l_103, l_108, l_110, l_114, l_119, l_120, l_124, l_200, l_240, l_255, l_256, l_260, l_999, l_1000, l_1023, l_2040, l_4080, l_6375, l_9999, l_13849, l_25173, l_65535, l_65536, l_99999, l_1000000, l_1048576, lett_s, sbind, gd_n, ix_n, nI_add, pk_mul, c_le, c_lt, c_eq, b01_0, b01_1, fa_and, fa_or, has11_n, has12_n, sub_n, div_n, rem_n, m1_n, if_pos, if_neg, if_true, if_false, reduceCtorEq, eq_self]
theorem eq_standsFor (g : Nat → St) (w : Nat → Int64) (v : St) (hr : Rel g v) (p1 p2 : Int32) : ∃ (z : Int32 × St) (y : Int32), fX11_standsFor (g 3) (g 9) p1 p2 = some z ∧ fX12_standsFor v p1 p2 = some y ∧ z.1 = y ∧ Rel (sg g 9 z.2) v := by
  obtain ⟨t1, ⟨N, ok, c, r⟩, t3, t4, t5, t6⟩ := id hr
  unfold fX11_standsFor fX12_standsFor; dsimp only [lett]
  rw [within_eq]
  rcases in_cases p1 0 15 0 15 rfl rfl (by decide) (by decide) with ⟨p, -, hp, rfl, h1⟩ | h1
  · have hp16 : p < 16 := by omega
    rw [knows_n c ok.1 hp16, isTold_n r hp16, sbind, sbind]
    cases hb : (N 4 0).testBit p
    · simp only [dF, if_true]
      exact ⟨(_, _), _, rfl, rfl, rfl, hr⟩
    · simp only [dT, if_false]
      rcases in_cases p2 0 1 0 1 rfl rfl (by decide) (by decide) with ⟨x, -, x2, rfl, h2⟩ | h2
      · obtain ⟨ch2, e1, s1⟩ := weigh_n (ch := g 9) (uw := g 3 0) (F := N 0) (fun j hj => (c.2.2.2.2 j hj).1)
        have hB : ndiff (ndiff (N 4 0) (N 5 0)) (2 ^ p) < 65536 := lt_of_le (Nat.le_trans (ndiff_le _ _) (ndiff_le _ _)) ok.1
        have hF2 : ∀ p, p < 16 → N 0 p ≤ 999 := fun p hp => (ok.2.2.2.2 p hp).1
        rw [h2, if_neg (show ¬ (1 : Int32) = 0 from by decide), if_neg (show ¬ (1 : Int32) = 0 from by decide), e1, sbind, gd_n (by omega) (by decide), ix_n (by omega), others_n c hp16, (c.2.2.2.2 p hp16).1, near11 s1 hF2 (hF2 p hp16) hB, sbind, hereSet_n r ok.1, sbind, shl1 p (by omega), ndiff_eq, a16, gd_n (by omega) (by decide), ix_n (by omega), (r.2.2 p hp16).2.1, near12 (F := N 0) (fun p hp => (r.2.2 p hp).2.1) hF2 hp16 hB]
        have h0 : nrI (N 0) (N 0 p) (0, N 0 p) := ⟨by show 0 < _; omega, by have := hF2 p hp16; show N 0 p < _; omega, by show N 0 p = _; rw [sumB_0]; omega⟩
        obtain ⟨i1, i2, i3⟩ := subF_inv (B := ndiff (ndiff (N 4 0) (N 5 0)) (2 ^ p)) (G := nrG (N 0) (N 0 p)) (nrI (N 0) (N 0 p)) h0 (nrI_G hF2 (hF2 p hp16) hB) (ndiff (ndiff (N 4 0) (N 5 0)) (2 ^ p) + 1)
        have hl := sumB_le (t := (subF (ndiff (ndiff (N 4 0) (N 5 0)) (2 ^ p)) (nrG (N 0) (N 0 p)) (0, N 0 p) (ndiff (ndiff (N 4 0) (N 5 0)) (2 ^ p) + 1)).1) (F := N 0) (n := 16) (c := 999) hF2
        have hW := hF2 p hp16
        rw [sum_n s1 i1, sbind, gd_n (by omega) (by decide), abs_n (by omega) (by omega), ← i3]
        rcases (show x = 0 ∨ x = 1 by omega) with rfl | rfl
        · exact ⟨(_, _), _, rfl, rfl, rfl, hr⟩
        · exact ⟨(_, _), _, rfl, rfl, rfl, hr⟩
      · rw [h2, if_pos rfl, if_pos rfl]
        exact ⟨(_, _), _, rfl, rfl, rfl, hr⟩
  · rw [knows_o h1, isTold_o h1, sbind, sbind, if_pos rfl, if_pos rfl]
    exact ⟨(_, _), _, rfl, rfl, rfl, hr⟩
