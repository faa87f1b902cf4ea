/-! ===== one walker's turn: what the law sees, what it says, going over ===== -/
theorem VFr_rfl (v : St) : VFr v v := fun _ _ => rfl
theorem LFr_rfl (v : St) : LFr v v := fun _ _ => rfl
def optI (d : Int32) : Option Nat → Int32
  | none => d
  | some x => nI x
/-- what the law says of this kind, asked at any time: the answer hangs on the law and the facts alone -/
theorem say_all {n c : Nat} {K A B E S O : Nat → Nat} {lw0 v0 : St} (h : LRn n c K A B E S O lw0 v0) (hf : ∀ j, j < 8 → lw0 8 j = v0 28 j) {κ hi : Nat} (hκ : κ < 256) (hκ1 : κ ≠ 103) (hκ2 : κ ≠ 114) (hh : hi < 2147483648) : ∃ o : Option Nat, (∀ x, o = some x → x ≤ hi) ∧ (∀ lw, LFr lw0 lw → ∃ lw', LFr lw0 lw' ∧ fX2_say lw (nI κ) (nI hi) = some (optI (-1) o, lw')) ∧ ∀ v, VFr v0 v → ∀ x3, ∃ v', VFr v0 v' ∧ fX12_byLaw v (nI κ) (nI hi) x3 = some (optI x3 o, v') := by
  have key : ∀ lw v x3, LFr lw0 lw → VFr v0 v → ∃ (o : Option Nat) (lw' v' : St), (∀ x, o = some x → x ≤ hi) ∧ LFr lw0 lw' ∧ VFr v0 v' ∧ fX2_say lw (nI κ) (nI hi) = some (optI (-1) o, lw') ∧ fX12_byLaw v (nI κ) (nI hi) x3 = some (optI x3 o, v') := by
    intro lw v x3 hl hv
    have hf' : ∀ j, j < 8 → lw 8 j = v 28 j := fun j hj => by rw [hl 8 (by decide), hv 28 (by decide)]; exact hf j hj
    obtain ⟨lw', v', e1, e2, e3⟩ := say_n (LRn_fr h hl hv) hf' hκ hκ1 hκ2 hh x3
    have g1 : LFr lw0 lw' := fun k hk => (e1 k hk).trans (hl k hk)
    have g2 : VFr v0 v' := fun k hk => (e2 k hk).trans (hv k hk)
    rcases e3 with ⟨a, b⟩ | ⟨x, x1, a, b⟩
    · exact ⟨none, lw', v', fun x e => (by cases e), g1, g2, a, b⟩
    · exact ⟨some x, lw', v', fun y e => (by cases e; exact x1), g1, g2, a, b⟩
  obtain ⟨o, lw1, v1, o1, o2, o3, o4, o5⟩ := key lw0 v0 (-1) (LFr_rfl _) (VFr_rfl _)
  have inj : ∀ o2 : Option Nat, (∀ x, o2 = some x → x ≤ hi) → optI (-1) o2 = optI (-1) o → o2 = o := by
    intro o2 q e
    have ne : ∀ x : Nat, x ≤ hi → ¬ nI x = -1 := fun x hx e => by
      have := nI_toInt (n := x) (by omega)
      rw [e] at this
      exact absurd this (by rw [show (-1 : Int32).toInt = -1 from by decide]; omega)
    cases o2 with
    | none =>
      cases o with
      | none => rfl
      | some x => exact absurd (show nI x = -1 from e.symm) (ne x (o1 x rfl))
    | some y =>
      cases o with
      | none => exact absurd (show nI y = -1 from e) (ne y (q y rfl))
      | some x => rw [(nI_eq (by have := q y rfl; omega) (by have := o1 x rfl; omega)).mp (show nI y = nI x from e)]
  refine ⟨o, o1, fun lw hl => ?_, fun v hv x3 => ?_⟩
  · obtain ⟨p, lw', v', p1, p2, p3, p4, p5⟩ := key lw v0 (-1) hl (VFr_rfl _)
    rw [o5] at p5
    have e : optI (-1) p = optI (-1) o := (congrArg Prod.fst (Option.some.inj p5)).symm
    rw [inj p p1 e] at p4
    exact ⟨lw', p2, p4⟩
  · obtain ⟨p, lw', v', p1, p2, p3, p4, p5⟩ := key lw0 v x3 (LFr_rfl _) hv
    rw [o4] at p4
    have e : optI (-1) p = optI (-1) o := (congrArg Prod.fst (Option.some.inj p4)).symm
    rw [inj p p1 e] at p5
    exact ⟨v', p3, p5⟩
/-- the eight facts of a walker -/
def FV (N : Nat → Nat → Nat) (p j : Nat) : Nat := if j = 0 then p else if j = 1 then N 0 p else if j = 2 then N 1 p else if j = 3 then b01 ((N 5 0).testBit p) else if j = 4 then pc16 (N 5 0) else if j = 5 then N 2 p else if j = 6 then N 3 p else N 6 0 % 100
theorem eight {P : Nat → Prop} (h0 : P 0) (h1 : P 1) (h2 : P 2) (h3 : P 3) (h4 : P 4) (h5 : P 5) (h6 : P 6) (h7 : P 7) : ∀ j, j < 8 → P j := by
  intro j hj
  rcases (show j = 0 ∨ j = 1 ∨ j = 2 ∨ j = 3 ∨ j = 4 ∨ j = 5 ∨ j = 6 ∨ j = 7 by omega) with rfl | rfl | rfl | rfl | rfl | rfl | rfl | rfl <;> assumption
theorem look_n {N : Nat → Nat → Nat} {lw w : St} (ok : WkOk N) (c : WkC N w) {p : Nat} (hp : p < 16) : ∃ lw', fX2_look lw w (nI p) = some lw' ∧ (∀ k, k ≠ 8 → lw' k = lw k) ∧ ∀ j, j < 8 → lw' 8 j = nI (FV N p j) := by
  obtain ⟨c4, c5, c6, c7, ca⟩ := c
  obtain ⟨k0, k1, k2, k3⟩ := ca p hp
  obtain ⟨o4, o5, o6, o7, oa⟩ := ok
  unfold fX2_look
  rw [c5, c6, shr1_n (by omega) (by omega), bitCount_n o5, show (100 : Int32) = nI 100 from rfl, rem_n (by omega) (by decide) (by decide)]
  simp (disch := omega) only [l_0, l_1, l_2, l_3, l_4, l_5, l_6, l_7, l_8, l_9, l_10, l_11, l_12, l_15, l_16, l_20, l_24, l_32, l_37, l_38, l_40, l_41, l_42, l_43, l_45, l_47, l_48, l_57, l_59, l_60, l_61, l_62, l_63, l_64, l_80, l_91, l_93, l_96, l_97, l_98, l_99, l_100, l_101, l_102, l_103, l_108, l_110, l_114, l_119, l_120, l_124, l_200, l_240, l_255, l_256, l_260, l_999, l_1000, l_1023, l_2040, l_4080, l_6375, l_9999, l_13849, l_25173, l_65535, l_65536, l_99999, l_1000000, l_1048576, lett_s, sbind, gd_n, ix_n, nI_add, pk_mul, c_le, c_lt, c_eq, b01_0, b01_1, fa_and, fa_or, has11_n, has12_n, sub_n, div_n, rem_n, m1_n, if_pos, if_neg, if_true, if_false, reduceCtorEq, eq_self, k0, k1, k2, k3]
  refine ⟨_, rfl, fun k hk => ?_, eight rfl rfl rfl rfl rfl rfl rfl rfl⟩
  rw [st_i hk, st_i hk, st_i hk, st_i hk, st_i hk, st_i hk, st_i hk, st_i hk]
theorem feels_n {N : Nat → Nat → Nat} {v : St} (ok : WkOk N) (r : WkR N (v 0)) {p : Nat} (hp : p < 16) : ∃ v', fX12_feels v (nI p) = some v' ∧ (∀ k, k ≠ 28 → v' k = v k) ∧ ∀ j, j < 8 → v' 28 j = nI (FV N p j) := by
  obtain ⟨r6, r7, ra⟩ := id r
  obtain ⟨k0, k1, k2, k3, k4, k5⟩ := ra p hp
  have om : ∀ u : St, u 0 = v 0 → fX12_overMany u = some (nI (pc16 (N 5 0))) := fun u e => overMany_n (by rw [e]; exact r) ok
  have o6 := ok.2.2.1
  unfold fX12_feels
  simp (disch := omega) only [l_0, l_1, l_2, l_3, l_4, l_5, l_6, l_7, l_8, l_9, l_10, l_11, l_12, l_15, l_16, l_20, l_24, l_32, l_37, l_38, l_40, l_41, l_42, l_43, l_45, l_47, l_48, l_57, l_59, l_60, l_61, l_62, l_63, l_64, l_80, l_91, l_93, l_96, l_97, l_98, l_99, l_100, l_101, l_102, l_103, l_108, l_110, l_114, l_119, l_120, l_124, l_200, l_240, l_255, l_256, l_260, l_999, l_1000, l_1023, l_2040, l_4080, l_6375, l_9999, l_13849, l_25173, l_65535, l_65536, l_99999, l_1000000, l_1048576, lett_s, sbind, gd_n, ix_n, nI_add, pk_mul, c_le, c_lt, c_eq, b01_0, b01_1, fa_and, fa_or, has11_n, has12_n, sub_n, div_n, rem_n, m1_n, if_pos, if_neg, if_true, if_false, reduceCtorEq, eq_self, st_i, k0, k1, k2, k3, k4, k5, r6]
  rw [om _ (by rfl), sbind]
  refine ⟨_, rfl, fun k hk => ?_, eight rfl rfl rfl rfl rfl rfl rfl rfl⟩
  rw [st_i hk, st_i hk, st_i hk, st_i hk, st_i hk, st_i hk, st_i hk, st_i hk]
theorem clamp_n (z : Int32) {lo hi : Nat} (hl : lo ≤ hi) (hh : hi < 2147483648) : ∃ x : Nat, lo ≤ x ∧ x ≤ hi ∧ mx (nI lo) (mn (nI hi) z) = nI x := by
  unfold mx mn
  by_cases h0 : z < nI hi
  · rw [if_pos h0]
    by_cases h1 : nI lo < z
    · rw [if_pos h1]
      have e1 := Int32.lt_iff_toInt_lt.mp h1
      have e2 := Int32.lt_iff_toInt_lt.mp h0
      rw [nI_toInt (by omega)] at e1 e2
      obtain ⟨k, hk, rfl⟩ := nI_of (x := z) (fun e => by have := Int32.lt_iff_toInt_lt.mp e; have e3 : (0 : Int32).toInt = 0 := rfl; omega)
      rw [nI_toInt (by omega)] at e1 e2
      exact ⟨k, by omega, by omega, rfl⟩
    · rw [if_neg h1]; exact ⟨lo, by omega, by omega, rfl⟩
  · rw [if_neg h0]
    by_cases h1 : lo = hi
    · subst h1; rw [if_neg (nI_nlt (Nat.le_refl lo) (by omega))]; exact ⟨lo, by omega, by omega, rfl⟩
    · rw [if_pos (nI_lt (by omega) (by omega))]; exact ⟨hi, by omega, by omega, rfl⟩
def HR (N : Nat → Nat → Nat) (ta tb : Nat) (ro w v : St) : Prop := WkOk N ∧ WkC N w ∧ WkR N (v 0) ∧ ta ≤ 99 ∧ tb ≤ 99 ∧ ro 0 0 = nI ta ∧ v 3 0 = nI ta ∧ ro 1 0 = nI tb ∧ v 4 0 = nI tb ∧ ro 2 0 = v 39 0 ∧ ro 3 0 = v 40 0 ∧ ro 4 0 = v 41 0 ∧ ro 5 0 = v 42 0
/-- of the reference's words, those that the hours leave as they are -/
def HFr (v0 v : St) : Prop := ∀ k, k ≠ 0 → k ≠ 27 → k ≠ 28 → k ≠ 39 → k ≠ 40 → k ≠ 41 → k ≠ 42 → v k = v0 k
theorem WkOk_w {N : Nat → Nat → Nat} (ok : WkOk N) {p x : Nat} (h1 : 1 ≤ x) (h2 : x ≤ 999) : WkOk (nset N 0 p x) := by
  obtain ⟨o4, o5, o6, o7, oa⟩ := ok
  refine ⟨o4, o5, o6, o7, fun q hq => ?_⟩
  obtain ⟨a0, a1, a2, a3, a4, a5⟩ := oa q hq
  refine ⟨?_, a1, a2, a3, fun h => ⟨?_, (a4 h).2⟩, a5⟩
  · by_cases e : q = p
    · subst e; rw [nset_s]; exact h2
    · rw [nset_j e]; exact a0
  · by_cases e : q = p
    · subst e; rw [nset_s]; exact h1
    · rw [nset_j e]; exact (a4 h).1
theorem WkOk_c {N : Nat → Nat → Nat} (ok : WkOk N) {p x : Nat} (h1 : 1 ≤ x) (h2 : x ≤ 999) : WkOk (nset N 1 p x) := by
  obtain ⟨o4, o5, o6, o7, oa⟩ := ok
  refine ⟨o4, o5, o6, o7, fun q hq => ?_⟩
  obtain ⟨a0, a1, a2, a3, a4, a5⟩ := oa q hq
  refine ⟨a0, ?_, a2, a3, fun h => ⟨(a4 h).1, ?_⟩, a5⟩
  · by_cases e : q = p
    · subst e; rw [nset_s]; exact h2
    · rw [nset_j e]; exact a1
  · by_cases e : q = p
    · subst e; rw [nset_s]; exact h1
    · rw [nset_j e]; exact (a4 h).2
theorem WkOk_b {N : Nat → Nat → Nat} (ok : WkOk N) {p x : Nat} (h2 : x ≤ 999) : WkOk (nset N 2 p x) := by
  obtain ⟨o4, o5, o6, o7, oa⟩ := ok
  refine ⟨o4, o5, o6, o7, fun q hq => ?_⟩
  obtain ⟨a0, a1, a2, a3, a4, a5⟩ := oa q hq
  refine ⟨a0, a1, ?_, a3, a4, a5⟩
  by_cases e : q = p
  · subst e; rw [nset_s]; exact h2
  · rw [nset_j e]; exact a2
theorem WkOk_h {N : Nat → Nat → Nat} (ok : WkOk N) {p x : Nat} (h2 : x ≤ 9999) : WkOk (nset N 3 p x) := by
  obtain ⟨o4, o5, o6, o7, oa⟩ := ok
  refine ⟨o4, o5, o6, o7, fun q hq => ?_⟩
  obtain ⟨a0, a1, a2, a3, a4, a5⟩ := oa q hq
  refine ⟨a0, a1, a2, ?_, a4, a5⟩
  by_cases e : q = p
  · subst e; rw [nset_s]; exact h2
  · rw [nset_j e]; exact a3
theorem WkOk_1 {N : Nat → Nat → Nat} (ok : WkOk N) {p : Nat} (hp : p < 16) (ht : (N 4 0).testBit p = true) : WkOk (nset N 5 0 (N 5 0 ||| 2 ^ p)) := by
  obtain ⟨o4, o5, o6, o7, oa⟩ := ok
  refine ⟨o4, by rw [nset_s]; exact or_lt o5 hp, o6, o7, fun q hq => ?_⟩
  obtain ⟨a0, a1, a2, a3, a4, a5⟩ := oa q hq
  refine ⟨a0, a1, a2, a3, a4, fun h => ?_⟩
  rw [nset_s, bit_or] at h
  by_cases e : p = q
  · subst e; exact ht
  · rw [decide_eq_false e, Bool.or_false] at h; exact a5 h
theorem WkOk_0 {N : Nat → Nat → Nat} (ok : WkOk N) {p : Nat} : WkOk (nset N 5 0 (ndiff (N 5 0) (2 ^ p))) := by
  obtain ⟨o4, o5, o6, o7, oa⟩ := ok
  refine ⟨o4, by rw [nset_s]; exact Nat.lt_of_le_of_lt (ndiff_le _ _) o5, o6, o7, fun q hq => ?_⟩
  obtain ⟨a0, a1, a2, a3, a4, a5⟩ := oa q hq
  refine ⟨a0, a1, a2, a3, a4, fun h => ?_⟩
  rw [nset_s, bit_not (by omega)] at h
  exact a5 (by revert h; cases (N 5 0).testBit q <;> simp)
