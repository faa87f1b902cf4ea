/-! ===== odd ===== -/
def outc (s : Nat) (x y : Int32) : Bool := decide (nI s = fX10_outcomeOf x y)
/-- whether a line that is fair comes out as told, with so much added on p -/
def oddOk (a b s : Nat → Nat) (p : Nat) (y : Int32) (k : Nat) : Bool := decide (pc16 (a k) ≠ pc16 (b k)) || outc (s k) (if (a k).testBit p then y else 0) (if (b k).testBit p then y else 0)
def oddAll (a b s : Nat → Nat) (p : Nat) (y : Int32) (n : Nat) : Nat → Bool
  | 0 => true
  | k + 1 => oddOk a b s p y (n - (k + 1)) && oddAll a b s p y n k
def Wg (n : Nat) (a b s : Nat → Nat) (to v : St) : Prop := n ≤ 16 ∧ to 3 0 = nI n ∧ v 36 0 = nI n ∧ ∀ k, k < n → a k < 65536 ∧ b k < 65536 ∧ a k ≠ 0 ∧ b k ≠ 0 ∧ a k &&& b k = 0 ∧ (s k = 60 ∨ s k = 61 ∨ s k = 62) ∧ to 0 k = nI (a k) ∧ v 30 k = nI (a k) ∧ to 1 k = nI (b k) ∧ v 31 k = nI (b k) ∧ to 2 k = nI (s k) ∧ v 32 k = nI (s k)
theorem and_bit {x p : Nat} (hp : p < 31) : (nI x &&& nI (2 ^ p) = 0) ↔ x.testBit p = false := fa_bit hp
theorem fair_n {n : Nat} {a b s : Nat → Nat} {to v : St} (h : Wg n a b s to v) {k : Nat} (hk : k < n) : fX10_isFair to (nI k) = some (nI (b01 (decide (pc16 (a k) = pc16 (b k))))) := by
  obtain ⟨h1, h2, h3, h4⟩ := h
  obtain ⟨a1, b1, -, -, -, -, e1, -, e2, -, -, -⟩ := h4 k hk
  unfold fX10_isFair; dsimp only [lett]
  rw [gd_n (by omega) (by decide), gd_n (by omega) (by decide), ix_n (by omega), e1, e2, bitCount_n a1, bitCount_n b1]
  have l1 : pc16 (a k) ≤ 16 := fb_ct_le _ 16
  have l2 : pc16 (b k) ≤ 16 := fb_ct_le _ 16
  by_cases q : pc16 (a k) = pc16 (b k)
  · rw [q, if_pos rfl, decide_eq_true rfl]; rfl
  · rw [if_neg (fun e => q ((nI_eq (by omega) (by omega)).mp e)), decide_eq_false q]; rfl
theorem agree_n {n : Nat} {a b s : Nat → Nat} {to v : St} (h : Wg n a b s to v) {p : Nat} (hp : p < 16) (x y : Int32) (hx : (x = nI (2 ^ p)) ∨ (x = 0 ∧ y = 0)) : fX10_agree to x y = some (nI (b01 (oddAll a b s p y n n))) := by
  have hs : ∀ m k, k ≤ n → n - k < m → fX10_agree_L2 to m x y (nI k) = some (nI (b01 (oddAll a b s p y n (n - k)))) := by
    intro m
    induction m with
    | zero => intro k _ h; omega
    | succ m ih =>
      intro k hk hm
      have := h.1
      show bX10_agree_L2 to _ _ _ _ = _
      unfold bX10_agree_L2
      rw [h.2.1]
      by_cases hkn : k = n
      · subst hkn
        rw [if_pos (nI_le (Nat.le_refl k) (by omega)), Nat.sub_self]; rfl
      · have hk2 : k < n := by omega
        obtain ⟨a1, b1, -, -, -, s1, e1, -, e2, -, e3, -⟩ := h.2.2.2 k hk2
        rw [if_neg (nI_ge (by omega) (by omega)), gd_n (by omega) (by decide), ix_n (by omega), e1]
        have key : ∀ u w, fX10_agree_J44 to (fX10_agree_L2 to m) x y (nI k) u w = some (nI (b01 ((decide (pc16 (a k) ≠ pc16 (b k)) || outc (s k) u w) && oddAll a b s p y n (n - (k + 1))))) := by
          intro u w
          unfold fX10_agree_J44; dsimp only [lett]
          rw [fair_n h hk2, sbind, gd_n (by omega) (by decide), ix_n (by omega), e3, n1, ih (k + 1) (by omega) (by omega)]
          unfold outc
          by_cases q : pc16 (a k) = pc16 (b k)
          · rw [decide_eq_true q]
            simp only [dT, if_false, ne_eq, q, not_true_eq_false, decide_false, Bool.false_or]
            by_cases q2 : nI (s k) = fX10_outcomeOf u w
            · rw [if_pos q2, decide_eq_true q2, Bool.true_and]
            · rw [if_neg q2, decide_eq_false q2, Bool.false_and]; rfl
          · rw [decide_eq_false q]
            simp only [dF, if_true, ne_eq, q, not_false_eq_true, decide_true, Bool.true_or, Bool.true_and]
        have hl : oddAll a b s p y n (n - k) = (oddOk a b s p y k && oddAll a b s p y n (n - (k + 1))) := by
          rw [show n - k = (n - (k + 1)) + 1 by omega, oddAll, show n - (n - (k + 1) + 1) = k by omega]
        rw [hl]
        unfold oddOk fX10_agree_J26
        rw [gd_n (by omega) (by decide), gd_n (by omega) (by decide), ix_n (by omega), e2, key, key, key, key]
        rcases hx with rfl | ⟨rfl, rfl⟩
        · cases qa : (a k).testBit p <;> cases qb : (b k).testBit p
          · rw [if_pos ((and_bit (by omega)).mpr qa), if_pos ((and_bit (by omega)).mpr qb)]; rfl
          · rw [if_pos ((and_bit (by omega)).mpr qa), if_neg (fun e => by rw [(and_bit (by omega)).mp e] at qb; cases qb)]; rfl
          · rw [if_neg (fun e => by rw [(and_bit (by omega)).mp e] at qa; cases qa), if_pos ((and_bit (by omega)).mpr qb)]; rfl
          · rw [if_neg (fun e => by rw [(and_bit (by omega)).mp e] at qa; cases qa), if_neg (fun e => by rw [(and_bit (by omega)).mp e] at qb; cases qb)]; rfl
        · simp only [ite_self]
  have := hs FU 0 (by omega) (by have := h.1; show n - 0 < 1000000; omega)
  exact this
theorem fits_n {n : Nat} {a b s : Nat → Nat} {to v : St} (h : Wg n a b s to v) {p : Nat} (hp : p < 16) (y : Int32) (hy : y = 1 ∨ y = -1 ∨ y = 0) : fX12_fits v (nI p) y = some (nI (b01 (oddAll a b s p y n n))) := by
  have hs : ∀ m k, k ≤ n → n - k < m → fX12_fits_L2 v m (nI p) y (nI k) = some (nI (b01 (oddAll a b s p y n (n - k)))) := by
    intro m
    induction m with
    | zero => intro k _ h; omega
    | succ m ih =>
      intro k hk hm
      have := h.1
      show bX12_fits_L2 v _ _ _ _ = _
      unfold bX12_fits_L2; dsimp only [lett]
      rw [h.2.2.1]
      by_cases hkn : k = n
      · subst hkn
        rw [if_pos (nI_le (Nat.le_refl k) (by omega)), Nat.sub_self]; rfl
      · have hk2 : k < n := by omega
        obtain ⟨a1, b1, a2, b2, ab, s1, -, e1, -, e2, -, e3⟩ := h.2.2.2 k hk2
        have l1 : pc16 (a k) ≤ 16 := fb_ct_le _ 16
        have l2 : pc16 (b k) ≤ 16 := fb_ct_le _ 16
        rw [if_neg (nI_ge (by omega) (by omega)), gd_n (by omega) (by decide), ix_n (by omega), e1, bits_n (by omega), sbind, gd_n (by omega) (by decide), e2, bits_n (by omega), sbind, has12_n (by omega) (by omega), has12_n (by omega) (by omega), gd_n (by omega) (by decide), gd_n (by omega) (by decide), n1, ih (k + 1) (by omega) (by omega)]
        have hl : oddAll a b s p y n (n - k) = (oddOk a b s p y k && oddAll a b s p y n (n - (k + 1))) := by
          rw [show n - k = (n - (k + 1)) + 1 by omega, oddAll, show n - (n - (k + 1) + 1) = k by omega]
        rw [hl]
        unfold oddOk
        by_cases q : pc16 (a k) = pc16 (b k)
        · rw [if_pos (by rw [q])]
          simp only [ne_eq, q, not_true_eq_false, decide_false, Bool.false_or]
          have nab : ¬ ((a k).testBit p = true ∧ (b k).testBit p = true) := fun e => by
            have := Nat.testBit_and (a k) (b k) p
            rw [ab, e.1, e.2, Nat.zero_testBit] at this
            cases this
          unfold fX12_fits_J70 fX12_fits_J130 outc fX10_outcomeOf; dsimp only [lett]
          rw [gd_n (by omega) (by decide), gd_n (by omega) (by decide), gd_n (by omega) (by decide), gd_n (by omega) (by decide), gd_n (by omega) (by decide), gd_n (by omega) (by decide), ix_n (by omega), e3, n1, ih (k + 1) (by omega) (by omega)]
          cases qa : (a k).testBit p <;> cases qb : (b k).testBit p
          · rcases hy with rfl | rfl | rfl <;> rcases s1 with s1 | s1 | s1 <;> rw [s1] <;> rfl
          · rcases hy with rfl | rfl | rfl <;> rcases s1 with s1 | s1 | s1 <;> rw [s1] <;> rfl
          · rcases hy with rfl | rfl | rfl <;> rcases s1 with s1 | s1 | s1 <;> rw [s1] <;> rfl
          · exact absurd ⟨qa, qb⟩ nab
        · rw [if_neg (fun e => q ((nI_eq (by omega) (by omega)).mp e))]
          simp only [ne_eq, q, not_false_eq_true, decide_true, Bool.true_or, Bool.true_and]
  have := hs FU 0 (by omega) (by have := h.1; show n - 0 < 1000000; omega)
  exact this
theorem oddAll_0 {a b s : Nat → Nat} {n p : Nat} : ∀ k, oddAll a b s p 0 n k = oddAll a b s 0 0 n k
  | 0 => rfl
  | k + 1 => by rw [oddAll, oddAll, oddAll_0 k]; unfold oddOk; simp only [ite_self]
def oddSet (a b s : Nat → Nat) (n : Nat) (y : Int32) : Nat → Nat := setOf (fun p => (orB a b n).testBit p && oddAll a b s p y n n)
theorem odd11 {n : Nat} {a b s : Nat → Nat} {to v : St} (h : Wg n a b s to v) (x : Int32) : fX10_couldBeOdd to x = some (nI (oddSet a b s n (if x = 0 then -1 else 1) 16)) := by
  unfold fX10_couldBeOdd
  have hlt : orB a b n < 65536 := orB_lt (fun k hk => ⟨(h.2.2.2 k hk).1, (h.2.2.2 k hk).2.1⟩)
  rw [letters_n h.1 h.2.1 (fun k hk => (h.2.2.2 k hk).2.2.2.2.2.2.1) (fun k hk => (h.2.2.2 k hk).2.2.2.2.2.2.2.2.1), sbind]
  refine for_all (fun m (c : Nat) k => fX10_couldBeOdd_L10 to m x (nI (orB a b n)) (nI c) (nI k)) 16 (fun k => oddSet a b s n (if x = 0 then -1 else 1) k) _ (fun m => ?_) (fun m k hk => ?_) (by decide)
  · show bX10_couldBeOdd_L10 to _ _ _ _ _ = _
    unfold bX10_couldBeOdd_L10
    simp (disch := omega) only [l_0, l_1, l_2, l_3, l_4, l_5, l_6, l_7, l_8, l_9, l_10, l_11, l_12, l_15, l_16, l_20, l_24, l_32, l_37, l_38, l_40, l_41, l_42, l_43, l_45, l_47, l_48, l_57, l_59, l_60, l_61, l_62, l_63, l_64, l_80, l_91, l_93, l_96, l_97, l_98, l_99, l_100, l_101, l_102, l_103, l_108, l_110, l_114, l_119, l_120, l_124, l_200, l_240, l_255, l_256, l_260, l_999, l_1000, l_1023, l_2040, l_4080, l_6375, l_9999, l_13849, l_25173, l_65535, l_65536, l_99999, l_1000000, l_1048576, lett_s, sbind, gd_n, ix_n, nI_add, pk_mul, c_le, c_lt, c_eq, b01_0, b01_1, fa_and, fa_or, has11_n, has12_n, sub_n, div_n, rem_n, m1_n, if_pos, if_neg, if_true, if_false, reduceCtorEq, eq_self]
  · show bX10_couldBeOdd_L10 to _ _ _ _ _ = fX10_couldBeOdd_L10 to m _ _ _ _
    unfold bX10_couldBeOdd_L10 fX10_couldBeOdd_J40; dsimp only [lett]
    rw [if_neg (nle_n (x := 16) (a := 16) rfl hk (by decide)), has11_n (by omega) (by omega), shl1 k (by omega), agree_n h hk _ _ (Or.inl rfl), agree_n h hk _ _ (Or.inl rfl), sbind, sbind, fa_or, n1]
    unfold oddSet
    cases hb : (orB a b n).testBit k
    · rw [setOf_f (P := fun p => (orB a b n).testBit p && oddAll a b s p (if x = 0 then -1 else 1) n n) (by rw [hb]; rfl)]
      simp only [dF, if_true]
    · simp only [dT, if_false]
      by_cases hx : x = 0
      · simp only [hx, if_true]
        cases ho : oddAll a b s k (-1) n n
        · rw [setOf_f (P := fun p => (orB a b n).testBit p && oddAll a b s p (-1) n n) (by rw [hb, ho]; rfl)]
          simp only [dF, if_true]
        · rw [setOf_t (P := fun p => (orB a b n).testBit p && oddAll a b s p (-1) n n) (by rw [hb, ho]; rfl)]
          simp only [dT, if_false]
      · simp only [hx, if_false]
        cases ho : oddAll a b s k 1 n n
        · rw [setOf_f (P := fun p => (orB a b n).testBit p && oddAll a b s p 1 n n) (by rw [hb, ho]; rfl)]
          simp only [dF, if_true]
        · rw [setOf_t (P := fun p => (orB a b n).testBit p && oddAll a b s p 1 n n) (by rw [hb, ho]; rfl)]
          simp only [dT, if_false]
theorem odd12 {n : Nat} {a b s : Nat → Nat} {to v : St} (h : Wg n a b s to v) (x : Int32) : fX12_odd_L35 v FU x 0 0 = some (nI (oddSet a b s n (if x = 0 then 1 else -1) 16)) := by
  have hlt : orB a b n < 65536 := orB_lt (fun k hk => ⟨(h.2.2.2 k hk).1, (h.2.2.2 k hk).2.1⟩)
  refine for_all (fun m (c : Nat) k => fX12_odd_L35 v m x (nI c) (nI k)) 16 (fun k => oddSet a b s n (if x = 0 then 1 else -1) k) _ (fun m => ?_) (fun m k hk => ?_) (by decide)
  · show bX12_odd_L35 v _ _ _ _ = _
    unfold bX12_odd_L35
    simp (disch := omega) only [l_0, l_1, l_2, l_3, l_4, l_5, l_6, l_7, l_8, l_9, l_10, l_11, l_12, l_15, l_16, l_20, l_24, l_32, l_37, l_38, l_40, l_41, l_42, l_43, l_45, l_47, l_48, l_57, l_59, l_60, l_61, l_62, l_63, l_64, l_80, l_91, l_93, l_96, l_97, l_98, l_99, l_100, l_101, l_102, l_103, l_108, l_110, l_114, l_119, l_120, l_124, l_200, l_240, l_255, l_256, l_260, l_999, l_1000, l_1023, l_2040, l_4080, l_6375, l_9999, l_13849, l_25173, l_65535, l_65536, l_99999, l_1000000, l_1048576, lett_s, sbind, gd_n, ix_n, nI_add, pk_mul, c_le, c_lt, c_eq, b01_0, b01_1, fa_and, fa_or, has11_n, has12_n, sub_n, div_n, rem_n, m1_n, if_pos, if_neg, if_true, if_false, reduceCtorEq, eq_self]
  · show bX12_odd_L35 v _ _ _ _ = fX12_odd_L35 v m _ _ _
    unfold bX12_odd_L35 fX12_odd_J63; dsimp only [lett]
    rw [if_neg (nle_n (x := 16) (a := 16) rfl hk (by decide)), named_n h.1 h.2.2.1 (fun k hk => (h.2.2.2 k hk).2.2.2.2.2.2.2.1) (fun k hk => (h.2.2.2 k hk).2.2.2.2.2.2.2.2.2.1), sbind, has12_n (by omega) (by omega), shl1 k (by omega), fits_n h hk _ (Or.inl rfl), fits_n h hk _ (Or.inr (Or.inl rfl)), sbind, sbind, fa_or, n1]
    unfold oddSet
    cases hb : (orB a b n).testBit k
    · rw [setOf_f (P := fun p => (orB a b n).testBit p && oddAll a b s p (if x = 0 then 1 else -1) n n) (by rw [hb]; rfl)]
      simp only [dF, if_true]
    · simp only [dT, if_false]
      by_cases hx : x = 0
      · simp only [hx, if_true]
        cases ho : oddAll a b s k 1 n n
        · rw [setOf_f (P := fun p => (orB a b n).testBit p && oddAll a b s p 1 n n) (by rw [hb, ho]; rfl)]
          simp only [dF, if_true]
        · rw [setOf_t (P := fun p => (orB a b n).testBit p && oddAll a b s p 1 n n) (by rw [hb, ho]; rfl)]
          simp only [dT, if_false]
      · simp only [hx, if_false]
        cases ho : oddAll a b s k (-1) n n
        · rw [setOf_f (P := fun p => (orB a b n).testBit p && oddAll a b s p (-1) n n) (by rw [hb, ho]; rfl)]
          simp only [dF, if_true]
        · rw [setOf_t (P := fun p => (orB a b n).testBit p && oddAll a b s p (-1) n n) (by rw [hb, ho]; rfl)]
          simp only [dT, if_false]
theorem eq_odd (g : Nat → St) (w : Nat → Int64) (v : St) (hr : Rel g v) (p1 : Int32) : ∃ (z : Int32) (y : Int32), fX11_odd (g 15) p1 = some z ∧ fX12_odd v p1 = some y ∧ z = y ∧ Rel g v := by
  obtain ⟨t1, t2, t3, t4, t5, ⟨n, a, b, s, h⟩⟩ := id hr
  have h : Wg n a b s (g 15) v := h
  unfold fX11_odd fX12_odd; dsimp only [lett]
  rcases in_cases p1 0 2 0 2 rfl rfl (by decide) (by decide) with ⟨x, -, x2, rfl, e⟩ | e
  · rw [e, if_neg (show ¬ (1 : Int32) = 0 from by decide), odd11 h, odd11 h, odd12 h, sbind, sbind]
    unfold fX10_couldBeAlike
    rw [agree_n h (p := 0) (by decide) 0 0 (Or.inr ⟨rfl, rfl⟩), sbind]
    have ef : fX12_fits v 0 0 = _ := fits_n h (p := 0) (by decide) 0 (Or.inr (Or.inr rfl))
    rw [ef, sbind]
    rcases (show x = 0 ∨ x = 1 ∨ x = 2 by omega) with rfl | rfl | rfl
    · exact ⟨_, _, rfl, rfl, rfl, hr⟩
    · exact ⟨_, _, rfl, rfl, rfl, hr⟩
    · cases oddAll a b s 0 0 n n
      · exact ⟨_, _, rfl, rfl, rfl, hr⟩
      · exact ⟨_, _, rfl, rfl, rfl, hr⟩
  · have hne : ∀ k : Nat, k ≤ 2 → ¬ p1 = nI k := fun k hk => in_ne (a := 0) (b := 2) rfl rfl (by decide) e (by omega) hk
    rw [e, if_pos rfl, if_neg (show ¬ p1 = 0 from hne 0 (by omega)), if_neg (show ¬ p1 = 1 from hne 1 (by omega)), if_neg (show ¬ p1 = 2 from hne 2 (by omega))]
    exact ⟨_, _, rfl, rfl, rfl, hr⟩
