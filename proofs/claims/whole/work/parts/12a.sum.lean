/-! ===== the tables of sums ===== -/
theorem sumB_or {i k : Nat} {F : Nat → Nat} (h : i.testBit k = false) : ∀ n, sumB (i ||| 2 ^ k) F n = sumB i F n + (if k < n then F k else 0) := by
  intro n
  induction n with
  | zero => rfl
  | succ n ih =>
    rw [sumB_s, sumB_s, ih, bit_or]
    by_cases q : k = n
    · subst q
      rw [h]
      simp
    · simp only [q, decide_false, Bool.or_false]
      by_cases q2 : k < n
      · rw [if_pos q2, if_pos (show k < n + 1 by omega)]; omega
      · rw [if_neg q2, if_neg (show ¬ k < n + 1 by omega)]; omega
theorem sumB_two {i k : Nat} {F : Nat → Nat} (h : i < 2 ^ k) (hk : k < 8) : sumB (2 ^ k + i) F 8 = sumB i F 8 + F k := by
  have e := Nat.two_pow_add_eq_or_of_lt h 1
  rw [Nat.mul_one] at e
  rw [e, Nat.or_comm, sumB_or (Nat.testBit_lt_two_pow h), if_pos hk]
theorem sumB_0 (F : Nat → Nat) : ∀ n, sumB 0 F n = 0
  | 0 => rfl
  | n + 1 => by rw [sumB_s, sumB_0 F n]; simp
theorem sumB_cut {x : Nat} {F : Nat → Nat} (hx : x < 65536) : sumB x F 16 = sumB (x % 256) F 8 + sumB (x / 256) (fun j => F (8 + j)) 8 := by
  unfold sumB
  rw [fb_sm_split (fun p => if x.testBit p then F p else 0) 8 8]
  congr 1
  · refine fb_sm_cong (fun k hk => ?_)
    rw [show (256 : Nat) = 2 ^ 8 from rfl, Nat.testBit_mod_two_pow]
    simp [hk]
  · refine fb_sm_cong (fun k hk => ?_)
    rw [show (256 : Nat) = 2 ^ 8 from rfl, Nat.testBit_div_two_pow, Nat.add_comm 8 k]
    show _ = if x.testBit (k + 8) = true then F (8 + k) else 0
    rw [Nat.add_comm 8 k]
theorem pow8 {k : Nat} (h : k < 8) : 2 ^ k ≤ 128 := Nat.le_trans (Nat.pow_le_pow_right (by decide) (show k ≤ 7 by omega)) (by decide)
def tabS (F : Nat → Nat) : Nat → Int32 := fun s => nI (sumB s F 8)
theorem addUp_n {us uw : Nat → Int32} {F : Nat → Nat} {fr : Nat} (hfr : fr ≤ 8) (hF : ∀ j, j < 8 → uw (fr + j) = nI (F j)) : fX0_addUp us uw (nI fr) = some (fa_fill (tabS F) us 256) := by
  have e : fX0_addUp_L6 uw FU (fa_fill (tabS F) us (2 ^ 0)) (nI fr) (nI 0) = some (fa_fill (tabS F) us (2 ^ 8)) := by
    refine for_all (fun n (a : Nat → Int32) k => fX0_addUp_L6 uw n a (nI fr) (nI k)) 8 (fun k => fa_fill (tabS F) us (2 ^ k)) _ (fun n => ?_) (fun n k hk => ?_) (by decide)
    · show bX0_addUp_L6 uw _ _ _ _ = _
      unfold bX0_addUp_L6
      simp (disch := omega) only [l_0, l_1, l_2, l_3, l_4, l_5, l_6, l_7, l_8, l_9, l_10, l_11, l_12, l_15, l_16, l_20, l_24, l_32, l_37, l_38, l_40, l_41, l_42, l_43, l_45, l_47, l_48, l_57, l_59, l_60, l_61, l_62, l_63, l_64, l_80, l_91, l_93, l_96, l_97, l_98, l_99, l_100, l_101, l_102, l_103, l_108, l_110, l_114, l_119, l_120, l_124, l_200, l_240, l_255, l_256, l_260, l_999, l_1000, l_1023, l_2040, l_4080, l_6375, l_9999, l_13849, l_25173, l_65535, l_65536, l_99999, l_1000000, l_1048576, lett_s, sbind, gd_n, ix_n, nI_add, pk_mul, c_le, c_lt, c_eq, b01_0, b01_1, fa_and, fa_or, has11_n, has12_n, sub_n, div_n, rem_n, m1_n, if_pos, if_neg, if_true, if_false, reduceCtorEq, eq_self]
    · show bX0_addUp_L6 uw _ _ _ _ = fX0_addUp_L6 uw n _ _ _
      unfold bX0_addUp_L6
      rw [if_neg (nle_n (x := 8) (a := 8) rfl hk (by decide))]
      have hp := pow8 hk
      have e2 : fX0_addUp_L15 uw (fX0_addUp_L6 uw n) FU (fa_fill (tabS F) us (2 ^ k + 0)) (nI fr) (nI k) (nI 0) = fX0_addUp_L6 uw n (fa_fill (tabS F) us (2 ^ (k + 1))) (nI fr) (nI (k + 1)) := by
        refine for_all (fun m (a : Nat → Int32) i => fX0_addUp_L15 uw (fX0_addUp_L6 uw n) m a (nI fr) (nI k) (nI i)) (2 ^ k) (fun i => fa_fill (tabS F) us (2 ^ k + i)) _ (fun m => ?_) (fun m i hi => ?_) (by omega)
        · show bX0_addUp_L15 uw _ _ _ _ _ _ = _
          unfold bX0_addUp_L15; dsimp only [lett]
          rw [shl1 k (by omega), if_pos (nI_le (Nat.le_refl _) (by omega)), n1, show 2 ^ (k + 1) = 2 ^ k + 2 ^ k by rw [Nat.pow_succ]; omega]
        · show bX0_addUp_L15 uw _ _ _ _ _ _ = fX0_addUp_L15 uw (fX0_addUp_L6 uw n) m _ _ _ _
          unfold bX0_addUp_L15; dsimp only [lett]
          rw [shl1 k (by omega), if_neg (nI_ge hi (by omega)), nI_add, nI_add]
          simp (disch := omega) only [l_0, l_1, l_2, l_3, l_4, l_5, l_6, l_7, l_8, l_9, l_10, l_11, l_12, l_15, l_16, l_20, l_24, l_32, l_37, l_38, l_40, l_41, l_42, l_43, l_45, l_47, l_48, l_57, l_59, l_60, l_61, l_62, l_63, l_64, l_80, l_91, l_93, l_96, l_97, l_98, l_99, l_100, l_101, l_102, l_103, l_108, l_110, l_114, l_119, l_120, l_124, l_200, l_240, l_255, l_256, l_260, l_999, l_1000, l_1023, l_2040, l_4080, l_6375, l_9999, l_13849, l_25173, l_65535, l_65536, l_99999, l_1000000, l_1048576, lett_s, sbind, gd_n, ix_n, nI_add, pk_mul, c_le, c_lt, c_eq, b01_0, b01_1, fa_and, fa_or, has11_n, has12_n, sub_n, div_n, rem_n, m1_n, if_pos, if_neg, if_true, if_false, reduceCtorEq, eq_self, fa_fill_in, hF k hk]
          have eT : tabS F i + nI (F k) = tabS F (2 ^ k + i) := by
            unfold tabS
            rw [nI_add, sumB_two hi hk]
          rw [eT, fa_fill_succ]
          rfl
      exact e2
  unfold fX0_addUp; dsimp only [lett]
  rw [show gd (0 : Int32) 256 = gd (nI 0) 256 from rfl, gd_n (by decide) (by decide)]
  have e0 : upd us (ix 0) 0 = fa_fill (tabS F) us (2 ^ 0) := by
    have q := fa_fill_succ (tabS F) us 0
    rw [fa_fill_0] at q
    have : tabS F 0 = 0 := by unfold tabS; rw [sumB_0]; rfl
    rw [this] at q
    exact q
  rw [e0]
  exact e
/-- the tables are those of F -/
def SumT (F : Nat → Nat) (ch : St) : Prop := ∀ s, s < 256 → ch 0 s = nI (sumB s F 8) ∧ ch 1 s = nI (sumB s (fun j => F (8 + j)) 8)
theorem weigh_n {ch : St} {uw : Nat → Int32} {F : Nat → Nat} (hF : ∀ j, j < 16 → uw j = nI (F j)) : ∃ ch2, fX0_weigh ch uw = some ch2 ∧ SumT F ch2 := by
  have e1 : fX0_addUp (ch 0) uw 0 = _ := addUp_n (us := ch 0) (uw := uw) (fr := 0) (F := F) (by decide) (fun j hj => by rw [Nat.zero_add]; exact hF j (by omega))
  have e2 : ∀ us, fX0_addUp us uw 8 = _ := fun us => addUp_n (us := us) (uw := uw) (fr := 8) (F := fun j => F (8 + j)) (by decide) (fun j hj => hF (8 + j) (by omega))
  unfold fX0_weigh; dsimp only [lett]
  rw [e1, sbind, e2, sbind]
  refine ⟨_, rfl, fun s hs => ⟨?_, ?_⟩⟩
  · rw [sa_i (by decide), sa_s, fa_fill_in hs]; rfl
  · rw [sa_s, fa_fill_in hs]; rfl
theorem sum_n {ch : St} {F : Nat → Nat} (h : SumT F ch) {x : Nat} (hx : x < 65536) : fX0_sum ch (nI x) = some (nI (sumB x F 16)) := by
  unfold fX0_sum
  have e1 : nI x &&& 255 = nI (x % 256) := fa_mask x 8
  have e2 : jshr (nI x) 8 &&& 255 = nI (x / 256 % 256) := by
    rw [show (8 : Int32) = nI 8 from rfl, shr_n (by omega) (by decide)]
    exact fa_mask _ 8
  rw [e1, e2, gd_n (by omega) (by decide), gd_n (by omega) (by decide), ix_n (by omega), ix_n (by omega), (h _ (by omega)).1, (h _ (by omega)).2, nI_add, sumB_cut hx, show x / 256 % 256 = x / 256 by omega]
