/-! ===== falseOne, check, scales, row ===== -/
theorem pow3 {m : Nat} (hm : m ≤ 59049) : ∃ N, N ≤ 10 ∧ m ≤ 3 ^ N ∧ ∀ j, j < N → 3 ^ j < m := by
  obtain ⟨N, h1, h2⟩ := pk_least (fun k => m ≤ 3 ^ k) ⟨10, by show m ≤ 3 ^ 10; omega⟩
  refine ⟨N, ?_, h1, fun j hj => Nat.not_le.mp (h2 j hj)⟩
  by_cases c : N ≤ 10
  · exact c
  · exact absurd (show m ≤ 3 ^ 10 by omega) (h2 10 (by omega))
theorem pow3_lt {k : Nat} (h : k ≤ 10) : 3 ^ k ≤ 59049 := Nat.le_trans (Nat.pow_le_pow_right (by decide) h) (by decide)
theorem false11 {m N : Nat} (hN : N ≤ 10) (h1 : m ≤ 3 ^ N) (h2 : ∀ j, j < N → 3 ^ j < m) (hm : m ≤ 59049) : fX11_falseOne_L45 FU (nI m) 0 1 = some (nI N) := by
  refine for_all (fun n (a : Nat) k => fX11_falseOne_L45 n (nI m) (nI k) (nI a)) N (fun k => 3 ^ k) _ (fun n => ?_) (fun n k hk => ?_) (by omega)
  · show bX11_falseOne_L45 _ _ _ _ = _
    unfold bX11_falseOne_L45
    have := pow3_lt hN
    simp (disch := omega) only [l_0, l_1, l_2, l_3, l_4, l_5, l_6, l_7, l_8, l_9, l_10, l_11, l_12, l_15, l_16, l_20, l_24, l_32, l_37, l_38, l_40, l_41, l_42, l_43, l_45, l_47, l_48, l_57, l_59, l_60, l_61, l_62, l_63, l_64, l_80, l_91, l_93, l_96, l_97, l_98, l_99, l_100, l_101, l_102, l_103, l_108, l_110, l_114, l_119, l_120, l_124, l_200, l_240, l_255, l_256, l_260, l_999, l_1000, l_1023, l_2040, l_4080, l_6375, l_9999, l_13849, l_25173, l_65535, l_65536, l_99999, l_1000000, l_1048576, lett_s, sbind, gd_n, ix_n, nI_add, pk_mul, c_le, c_lt, c_eq, b01_0, b01_1, fa_and, fa_or, has11_n, has12_n, sub_n, div_n, rem_n, m1_n, if_pos, if_neg, if_true, if_false, reduceCtorEq, eq_self]
  · show bX11_falseOne_L45 _ _ _ _ = fX11_falseOne_L45 n _ _ _
    unfold bX11_falseOne_L45
    have := pow3_lt (k := k) (by omega)
    have := h2 k hk
    simp (disch := omega) only [l_0, l_1, l_2, l_3, l_4, l_5, l_6, l_7, l_8, l_9, l_10, l_11, l_12, l_15, l_16, l_20, l_24, l_32, l_37, l_38, l_40, l_41, l_42, l_43, l_45, l_47, l_48, l_57, l_59, l_60, l_61, l_62, l_63, l_64, l_80, l_91, l_93, l_96, l_97, l_98, l_99, l_100, l_101, l_102, l_103, l_108, l_110, l_114, l_119, l_120, l_124, l_200, l_240, l_255, l_256, l_260, l_999, l_1000, l_1023, l_2040, l_4080, l_6375, l_9999, l_13849, l_25173, l_65535, l_65536, l_99999, l_1000000, l_1048576, lett_s, sbind, gd_n, ix_n, nI_add, pk_mul, c_le, c_lt, c_eq, b01_0, b01_1, fa_and, fa_or, has11_n, has12_n, sub_n, div_n, rem_n, m1_n, if_pos, if_neg, if_true, if_false, reduceCtorEq, eq_self, Nat.pow_succ]
theorem false12h {m N : Nat} (hN : N ≤ 10) (h1 : m ≤ 3 ^ N) (h2 : ∀ j, j < N → 3 ^ j < m) (hm : m ≤ 59049) : fX12_falseOne_L30 FU (nI m) 1 0 1 = some (nI N) := by
  refine for_all (fun n (a : Nat) k => fX12_falseOne_L30 n (nI m) 1 (nI k) (nI a)) N (fun k => 3 ^ k) _ (fun n => ?_) (fun n k hk => ?_) (by omega)
  · show bX12_falseOne_L30 _ _ _ _ _ = _
    unfold bX12_falseOne_L30
    have := pow3_lt hN
    simp (disch := omega) only [l_0, l_1, l_2, l_3, l_4, l_5, l_6, l_7, l_8, l_9, l_10, l_11, l_12, l_15, l_16, l_20, l_24, l_32, l_37, l_38, l_40, l_41, l_42, l_43, l_45, l_47, l_48, l_57, l_59, l_60, l_61, l_62, l_63, l_64, l_80, l_91, l_93, l_96, l_97, l_98, l_99, l_100, l_101, l_102, l_103, l_108, l_110, l_114, l_119, l_120, l_124, l_200, l_240, l_255, l_256, l_260, l_999, l_1000, l_1023, l_2040, l_4080, l_6375, l_9999, l_13849, l_25173, l_65535, l_65536, l_99999, l_1000000, l_1048576, lett_s, sbind, gd_n, ix_n, nI_add, pk_mul, c_le, c_lt, c_eq, b01_0, b01_1, fa_and, fa_or, has11_n, has12_n, sub_n, div_n, rem_n, m1_n, if_pos, if_neg, if_true, if_false, reduceCtorEq, eq_self]
  · show bX12_falseOne_L30 _ _ _ _ _ = fX12_falseOne_L30 n _ _ _ _
    unfold bX12_falseOne_L30 fX12_falseOne_J53
    have := pow3_lt (k := k) (by omega)
    have := h2 k hk
    simp (disch := omega) only [l_0, l_1, l_2, l_3, l_4, l_5, l_6, l_7, l_8, l_9, l_10, l_11, l_12, l_15, l_16, l_20, l_24, l_32, l_37, l_38, l_40, l_41, l_42, l_43, l_45, l_47, l_48, l_57, l_59, l_60, l_61, l_62, l_63, l_64, l_80, l_91, l_93, l_96, l_97, l_98, l_99, l_100, l_101, l_102, l_103, l_108, l_110, l_114, l_119, l_120, l_124, l_200, l_240, l_255, l_256, l_260, l_999, l_1000, l_1023, l_2040, l_4080, l_6375, l_9999, l_13849, l_25173, l_65535, l_65536, l_99999, l_1000000, l_1048576, lett_s, sbind, gd_n, ix_n, nI_add, pk_mul, c_le, c_lt, c_eq, b01_0, b01_1, fa_and, fa_or, has11_n, has12_n, sub_n, div_n, rem_n, m1_n, if_pos, if_neg, if_true, if_false, reduceCtorEq, eq_self, Nat.pow_succ, Nat.mul_comm]
theorem half3 {n k : Nat} (hn : n ≤ 9999) (hk : k ≤ 10) : nI n ≤ (nI (3 ^ k) - 3) / 2 ↔ 2 * n + 3 ≤ 3 ^ k := by
  have := pow3_lt hk
  cases k with
  | zero =>
    have e : ((nI (3 ^ 0) - 3) / 2 : Int32) = -1 := by decide
    rw [e]
    refine ⟨fun h => ?_, fun h => by have : (3 : Nat) ^ 0 = 1 := rfl; omega⟩
    have q := Int32.le_iff_toInt_le.mp h
    rw [nI_toInt (by omega)] at q
    have e2 : (-1 : Int32).toInt = -1 := by decide
    omega
  | succ k =>
    have h3 : 3 ≤ 3 ^ (k + 1) := by
      have : 0 < 3 ^ k := Nat.pow_pos (by decide)
      rw [Nat.pow_succ]; omega
    simp (disch := omega) only [l_0, l_1, l_2, l_3, l_4, l_5, l_6, l_7, l_8, l_9, l_10, l_11, l_12, l_15, l_16, l_20, l_24, l_32, l_37, l_38, l_40, l_41, l_42, l_43, l_45, l_47, l_48, l_57, l_59, l_60, l_61, l_62, l_63, l_64, l_80, l_91, l_93, l_96, l_97, l_98, l_99, l_100, l_101, l_102, l_103, l_108, l_110, l_114, l_119, l_120, l_124, l_200, l_240, l_255, l_256, l_260, l_999, l_1000, l_1023, l_2040, l_4080, l_6375, l_9999, l_13849, l_25173, l_65535, l_65536, l_99999, l_1000000, l_1048576, lett_s, sbind, gd_n, ix_n, nI_add, pk_mul, c_le, c_lt, c_eq, b01_0, b01_1, fa_and, fa_or, has11_n, has12_n, sub_n, div_n, rem_n, m1_n, if_pos, if_neg, if_true, if_false, reduceCtorEq, eq_self]
    exact ⟨fun h => by omega, fun h => by omega⟩
theorem false12l {m N : Nat} (hN : N ≤ 10) (h1 : 2 * m + 3 ≤ 3 ^ N) (h2 : ∀ j, j < N → 3 ^ j < 2 * m + 3) (hm : m ≤ 9999) : fX12_falseOne_L30 FU (nI m) 0 0 1 = some (nI N) := by
  refine for_all (fun n (a : Nat) k => fX12_falseOne_L30 n (nI m) 0 (nI k) (nI a)) N (fun k => 3 ^ k) _ (fun n => ?_) (fun n k hk => ?_) (by omega)
  · show bX12_falseOne_L30 _ _ _ _ _ = _
    unfold bX12_falseOne_L30
    rw [if_pos rfl, if_pos ((half3 hm hN).mpr h1)]
  · show bX12_falseOne_L30 _ _ _ _ _ = fX12_falseOne_L30 n _ _ _ _
    unfold bX12_falseOne_L30 fX12_falseOne_J53
    have := h2 k hk
    rw [if_pos rfl, if_neg (fun q => by have := (half3 hm (by omega)).mp q; omega)]
    simp (disch := omega) only [l_0, l_1, l_2, l_3, l_4, l_5, l_6, l_7, l_8, l_9, l_10, l_11, l_12, l_15, l_16, l_20, l_24, l_32, l_37, l_38, l_40, l_41, l_42, l_43, l_45, l_47, l_48, l_57, l_59, l_60, l_61, l_62, l_63, l_64, l_80, l_91, l_93, l_96, l_97, l_98, l_99, l_100, l_101, l_102, l_103, l_108, l_110, l_114, l_119, l_120, l_124, l_200, l_240, l_255, l_256, l_260, l_999, l_1000, l_1023, l_2040, l_4080, l_6375, l_9999, l_13849, l_25173, l_65535, l_65536, l_99999, l_1000000, l_1048576, lett_s, sbind, gd_n, ix_n, nI_add, pk_mul, c_le, c_lt, c_eq, b01_0, b01_1, fa_and, fa_or, has11_n, has12_n, sub_n, div_n, rem_n, m1_n, if_pos, if_neg, if_true, if_false, reduceCtorEq, eq_self, Nat.pow_succ, Nat.mul_comm]
theorem eq_falseOne (g : Nat → St) (w : Nat → Int64) (v : St) (hr : Rel g v) (p1 p2 : Int32) (hp2 : p2 = 0 ∨ p2 = 1) : ∃ (z : Int32) (y : Int32), fX11_falseOne p1 p2 = some z ∧ fX12_falseOne p1 p2 = some y ∧ z = y ∧ Rel g v := by
  unfold fX11_falseOne fX12_falseOne; dsimp only [lett]
  rw [within_eq]
  rcases in_cases p1 1 9999 1 9999 rfl rfl (by decide) (by decide) with ⟨n, h1, h2, rfl, e⟩ | e
  · rw [e]
    unfold fX11_falseOne_J25; dsimp only [lett]
    rcases hp2 with rfl | rfl
    · have d1 : ¬ (1 : Int32) = 0 := by decide
      rw [if_neg d1, if_neg d1, if_pos rfl, if_pos rfl, if_pos rfl]
      by_cases c : 3 ≤ n
      · obtain ⟨N, a1, a2, a3⟩ := pow3 (m := 2 * n + 3) (by omega)
        have q : (3 : Int32) ≤ nI n := nI_le (a := 3) c (by omega)
        rw [if_pos q, if_pos q, false12l a1 a2 a3 h2]
        have q2 : (2 : Int32) * nI n + 3 = nI (2 * n + 3) := by simp (disch := omega) only [l_0, l_1, l_2, l_3, l_4, l_5, l_6, l_7, l_8, l_9, l_10, l_11, l_12, l_15, l_16, l_20, l_24, l_32, l_37, l_38, l_40, l_41, l_42, l_43, l_45, l_47, l_48, l_57, l_59, l_60, l_61, l_62, l_63, l_64, l_80, l_91, l_93, l_96, l_97, l_98, l_99, l_100, l_101, l_102, l_103, l_108, l_110, l_114, l_119, l_120, l_124, l_200, l_240, l_255, l_256, l_260, l_999, l_1000, l_1023, l_2040, l_4080, l_6375, l_9999, l_13849, l_25173, l_65535, l_65536, l_99999, l_1000000, l_1048576, lett_s, sbind, gd_n, ix_n, nI_add, pk_mul, c_le, c_lt, c_eq, b01_0, b01_1, fa_and, fa_or, has11_n, has12_n, sub_n, div_n, rem_n, m1_n, if_pos, if_neg, if_true, if_false, reduceCtorEq, eq_self]
        rw [q2, false11 a1 a2 a3 (by omega)]
        exact ⟨_, _, rfl, rfl, rfl, hr⟩
      · have q : ¬ (3 : Int32) ≤ nI n := nI_ge (a := n) (b := 3) (by omega) (by decide)
        rw [if_neg q, if_neg q]
        exact ⟨_, _, rfl, rfl, rfl, hr⟩
    · obtain ⟨N, a1, a2, a3⟩ := pow3 (m := n) (by omega)
      rw [if_neg (by decide), if_neg (by decide), if_neg (by decide), if_neg (by decide), if_neg (by decide), false12h a1 a2 a3 (by omega), false11 a1 a2 a3 (by omega)]
      exact ⟨_, _, rfl, rfl, rfl, hr⟩
  · rw [e, if_pos rfl, if_pos rfl]
    exact ⟨_, _, rfl, rfl, rfl, hr⟩

/-! check -/
/-- the first of the n first places where P, or none: -1 -/
def low1 (P : Nat → Bool) (n : Nat) : Nat → Int32
  | 0 => -1
  | k + 1 => if P (n - (k + 1)) then nI (n - (k + 1)) else low1 P n k
theorem check11 {tp w : St} {t n : Nat} {W : Nat → Nat} {c : Nat → Nat} (h1 : tp 1 0 = nI t) (ht : t ≤ 260) (hn : n ≤ t) (hn2 : n ≤ 16) (hc : ∀ k, k < n → tp 0 k = nI (c k) ∧ c k < 256) (hw : ∀ k, k < 16 → ∃ z y, fX9_knows w (nI k) = some z ∧ (if z = 0 then W k = 0 else y < 2147483648 ∧ w 0 k = nI y ∧ W k = y % 256)) : fX11_check_L23 w FU tp (-1) (nI n - 1) = some (low1 (fun p => !decide (c p = W p)) n n, st tp 1 0 0) := by
  have hs : ∀ m k, k ≤ n → k < m → fX11_check_L23 w m tp (low1 (fun p => !decide (c p = W p)) n (n - k)) (nI k - 1) = some (low1 (fun p => !decide (c p = W p)) n n, st tp 1 0 0) := by
    intro m
    induction m with
    | zero => intro k _ h; omega
    | succ m ih =>
      intro k hk hm
      show bX11_check_L23 w _ _ _ _ = _
      unfold bX11_check_L23
      cases k with
      | zero =>
        rw [if_pos (by decide)]
        rfl
      | succ k =>
        rw [show nI (k + 1) - 1 = nI k from nI_pred k, if_neg (nlt0 (by omega))]
        obtain ⟨z, y, e1, e2⟩ := hw k (by omega)
        rw [e1, sbind]
        have key : fX11_check_J55 (fX11_check_L23 w m) tp (low1 (fun p => !decide (c p = W p)) n (n - (k + 1))) (nI k) (nI (W k)) = some (low1 (fun p => !decide (c p = W p)) n n, st tp 1 0 0) := by
          unfold fX11_check_J55
          have hW : W k < 2147483648 := by
            by_cases q : z = 0
            · rw [if_pos q] at e2; omega
            · rw [if_neg q] at e2; omega
          have := (hc k (by omega)).2
          rw [at_n h1 ht (by omega) (hc k (by omega)).1, sbind]
          dsimp only [lett]
          rw [show nI k + (-1) = nI k - 1 from (Int32.sub_eq_add_neg _ _).symm]
          have hl : low1 (fun p => !decide (c p = W p)) n (n - k) = if !decide (c k = W k) then nI k else low1 (fun p => !decide (c p = W p)) n (n - (k + 1)) := by
            rw [show n - k = (n - (k + 1)) + 1 by omega, low1, show n - (n - (k + 1) + 1) = k by omega]
          have ihk := ih k (by omega) (by omega)
          rw [hl] at ihk
          by_cases q : c k = W k
          · rw [if_pos (by rw [q])]
            simpa [q] using ihk
          · rw [if_neg (fun e => q ((nI_eq (by omega) (by omega)).mp e))]
            simpa [q] using ihk
        by_cases q : z = 0
        · rw [if_pos q] at e2
          rw [if_pos q]
          rw [e2] at key
          exact key
        · rw [if_neg q] at e2
          rw [if_neg q, gd_n (by omega) (by decide), ix_n (by omega), e2.2.1, show (256 : Int32) = nI 256 from rfl, rem_n e2.1 (by decide) (by decide), ← e2.2.2]
          exact key
  have := hs FU n (Nat.le_refl n) (by show n < 1000000; omega)
  rw [Nat.sub_self] at this
  exact this
theorem check12 {v : St} {n : Nat} {W : Nat → Nat} {c : Nat → Nat} (hn2 : n ≤ 16) (hc : ∀ k, k < n → v 5 k = (nI (c k)).toInt8.toInt32 ∧ c k < 256) (hw : ∀ k, k < 16 → ∃ z y, fX12_isTold v (nI k) = some z ∧ (if z = 0 then W k = 0 else y < 2147483648 ∧ v 0 (16 + k) = nI y ∧ W k = y % 256)) : fX12_check_L28 FU v (nI n) 0 = some (low1 (fun p => !decide (c p = W p)) n n, v) := by
  have hs : ∀ m k, k ≤ n → n - k < m → fX12_check_L28 m v (nI n) (nI k) = some (low1 (fun p => !decide (c p = W p)) n (n - k), v) := by
    intro m
    induction m with
    | zero => intro k _ h; omega
    | succ m ih =>
      intro k hk hm
      show bX12_check_L28 _ _ _ _ = _
      unfold bX12_check_L28
      by_cases hkn : k = n
      · subst hkn
        rw [if_pos (nI_le (Nat.le_refl k) (by omega)), Nat.sub_self]
        rfl
      · rw [if_neg (nI_ge (by omega) (by omega))]
        obtain ⟨z, y, e1, e2⟩ := hw k (by omega)
        rw [octet_n (hc k (by omega)).1 (hc k (by omega)).2 (by omega), sbind, e1, sbind]
        have key : fX12_check_J63 (fX12_check_L28 m) v (nI n) (nI k) (nI (W k)) (nI (c k)) = some (low1 (fun p => !decide (c p = W p)) n (n - k), v) := by
          unfold fX12_check_J63
          have hW : W k < 2147483648 := by
            by_cases q : z = 0
            · rw [if_pos q] at e2; omega
            · rw [if_neg q] at e2; omega
          have := (hc k (by omega)).2
          dsimp only [lett]
          have hl : low1 (fun p => !decide (c p = W p)) n (n - k) = if !decide (c k = W k) then nI k else low1 (fun p => !decide (c p = W p)) n (n - (k + 1)) := by
            rw [show n - k = (n - (k + 1)) + 1 by omega, low1, show n - (n - (k + 1) + 1) = k by omega]
          rw [hl, n1]
          by_cases q : c k = W k
          · rw [if_pos (by rw [q]), ih (k + 1) (by omega) (by omega)]
            simp [q]
          · rw [if_neg (fun e => q ((nI_eq (by omega) (by omega)).mp e))]
            simp [q]
        by_cases q : z = 0
        · rw [if_pos q] at e2
          rw [if_pos q]
          rw [e2] at key
          exact key
        · rw [if_neg q] at e2
          rw [if_neg q, a16, gd_n (by omega) (by decide), ix_n (by omega), e2.2.1, show (256 : Int32) = nI 256 from rfl, rem_n e2.1 (by decide) (by decide), ← e2.2.2]
          exact key
  have := hs FU 0 (by omega) (by show n - 0 < 1000000; omega)
  exact this
theorem eq_check (g : Nat → St) (w : Nat → Int64) (v : St) (hr : Rel g v) (p1 : Int32) : ∃ (z : Int32 × St) (y : Int32 × St), fX11_check (g 1) (g 3) p1 = some z ∧ fX12_check v p1 = some y ∧ z.1 = y.1 ∧ Rel (sg g 1 z.2) y.2 := by
  obtain ⟨⟨t, c, ht, h2, h3, h4⟩, ⟨N, ok, wc, wr⟩, t3, t4, t5, t6⟩ := id hr
  unfold fX11_check fX12_check; dsimp only [lett]
  rw [h3]
  rcases offers_c h2 ht p1 0 16 (a := 0) (b := 16) rfl rfl (by decide) (by decide) with ⟨n, -, n2, n3, rfl, e1, e2, e3⟩ | ⟨e1, e2⟩
  · rw [e1, e2, if_neg (by decide), if_neg (by decide), if_pos e3]
    let W : Nat → Nat := fun k => if (N 4 0).testBit k then N 0 k % 256 else 0
    rw [check11 (W := W) (c := c) h2 ht n3 n2 (fun k hk => ⟨(h4 k (by omega)).2.1, (h4 k (by omega)).1⟩) ?_, check12 (v := st v 6 0 0) (W := W) (c := c) n2 (fun k hk => ⟨(h4 k (by omega)).2.2, (h4 k (by omega)).1⟩) ?_]
    · refine ⟨_, _, rfl, rfl, rfl, ?_⟩
      exact ⟨⟨0, fun _ => 0, by omega, rfl, rfl, fun j hj => by omega⟩, ⟨N, ok, wc, wr⟩, KR_ref t3 rfl rfl, RR_ref t4 rfl rfl, LR_ref t5 rfl rfl rfl rfl rfl rfl, VR_ref t6 rfl rfl rfl rfl⟩
    · intro k hk
      refine ⟨_, N 0 k, isTold_n (v := st v 6 0 0) wr hk, ?_⟩
      have := (ok.2.2.2.2 k hk).1
      cases hb : (N 4 0).testBit k
      · rw [if_pos (by decide)]; simp [W, hb]
      · rw [if_neg (by decide)]; exact ⟨by omega, (wr.2.2 k hk).2.1, by simp [W, hb]⟩
    · intro k hk
      refine ⟨_, N 0 k, knows_n wc ok.1 hk, ?_⟩
      have := (ok.2.2.2.2 k hk).1
      cases hb : (N 4 0).testBit k
      · rw [if_pos (by decide)]; simp [W, hb]
      · rw [if_neg (by decide)]; exact ⟨by omega, (wc.2.2.2.2 k hk).1, by simp [W, hb]⟩
  · rw [e1, if_pos rfl]
    rcases e2 with e | ⟨e, e3⟩
    · rw [e, if_pos rfl]; exact ⟨_, _, rfl, rfl, rfl, hr⟩
    · rw [e, if_neg (by decide), if_neg e3]; exact ⟨_, _, rfl, rfl, rfl, hr⟩
