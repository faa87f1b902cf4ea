/-! ===== weighings: a side, a line ===== -/
theorem pc_or {s p : Nat} (hp : p < 16) (h : s.testBit p = false) : pc16 (s ||| 2 ^ p) = pc16 s + 1 := by
  have e := fb_ct_upd (fun i => s.testBit i) true (i := p) (n := 16) hp
  rw [h] at e
  have e2 : pc16 (s ||| 2 ^ p) = fb_ct (fun k => if k = p then true else s.testBit k) 16 := by
    refine fb_ct_cong (fun k _ => ?_)
    rw [bit_or]
    by_cases q : k = p
    · subst q; simp
    · rw [if_neg q, decide_eq_false (fun e => q e.symm), Bool.or_false]
  rw [e2]
  simp only [if_true, Bool.false_eq_true, if_false, Nat.add_zero] at e
  exact e
/-- the reference's words that a side leaves as they are -/
def SFr (v0 v : St) : Prop := ∀ k, k ≠ 7 → k ≠ 9 → k ≠ 38 → v k = v0 k
theorem side_f {n : Nat} {c : Nat → Nat} {tp : St} (tx : Tx n c tp) {F : Int32} (hF : ¬ F = 0) (x1 : Int32) : ∀ (m k i : Nat) (u : St) (x2 : Int32), k ≤ 17 → 17 - k < m → Cu n c i F u → ∃ x u' i', fX10_readSide_L4 tp m u x1 x2 (nI k) = some (x, u') ∧ Cu n c i' F u' := by
  intro m
  induction m with
  | zero => intro k i u x2 _ h; omega
  | succ m ih =>
    intro k i u x2 hk hm h
    have J : ∃ x u' i', fX10_readSide_J58 u x2 = some (x, u') ∧ Cu n c i' F u' := by
      unfold fX10_readSide_J58
      by_cases q : x2 = 0
      · rw [if_pos q, lett_s, fail_f h hF]; exact ⟨_, _, i, rfl, h⟩
      · rw [if_neg q]; exact ⟨_, _, i, rfl, h⟩
    show ∃ x u' i', bX10_readSide_L4 tp (fX10_readSide_L4 tp m) u x1 x2 (nI k) = some (x, u') ∧ Cu n c i' F u'
    unfold bX10_readSide_L4
    by_cases q : k = 17
    · rw [if_pos (show (16 : Int32) < nI k from nI_lt (a := 16) (by omega) (by omega))]; exact J
    · rw [if_neg (show ¬ (16 : Int32) < nI k from nI_nlt (a := 16) (by omega) (by omega))]
      rcases seen_c (fun j hj => (tx.2.2 j hj).1) h with ⟨p, p1, p2, p3, p4, p5, p6⟩ | ⟨p5, p6⟩
      · rw [p5, sbind, if_neg (fun e => m1_ne (by omega) e.symm), sbind, lett_s, lett_s, fail_f h hF, ite_self]
        unfold fX10_readSide_J41
        obtain ⟨u', e1, e2⟩ := next_t tx h
        rw [lett_s, e1, sbind, lett_s, n1]
        exact ih (k + 1) _ u' _ (by omega) (by omega) e2
      · rw [p5, sbind, if_pos rfl]; exact J
theorem side_n {n : Nat} {c : Nat → Nat} {tp : St} (tx : Tx n c tp) {o : Nat} (ho : o < 65536) : ∀ (mB mA i s : Nat) (u v : St), n - i < mB → 17 - pc16 s < mA → TxR n c v → Cu n c i 0 u → v 7 0 = nI i → v 38 0 = nI s → s < 65536 → s &&& o = 0 → (∃ s' i' u' v', fX10_readSide_L4 tp mA u (nI o) (nI s) (nI (pc16 s)) = some (nI s', u') ∧ fX12_readsLetters_L5 mB v (nI o) = some (1, v') ∧ Cu n c i' 0 u' ∧ i ≤ i' ∧ v' 7 0 = nI i' ∧ v' 38 0 = nI s' ∧ s' < 65536 ∧ s' ≠ 0 ∧ s' &&& o = 0 ∧ SFr v v') ∨ (∃ x F i' u' v', ¬ F = 0 ∧ fX10_readSide_L4 tp mA u (nI o) (nI s) (nI (pc16 s)) = some (x, u') ∧ fX12_readsLetters_L5 mB v (nI o) = some (0, v') ∧ Cu n c i' F u' ∧ v' 9 0 = F ∧ SFr v v') := by
  intro mB
  induction mB with
  | zero => intro mA i s u v h; omega
  | succ mB ih =>
    intro mA i s u v hB hA txr h h7 h38 hs hso
    obtain ⟨mA, rfl⟩ : ∃ m, mA = m + 1 := ⟨mA - 1, by omega⟩
    have hn := tx.1
    have hk : pc16 s ≤ 16 := pc16_le s
    have hi := h.1
    have nle : ¬ (16 : Int32) < nI (pc16 s) := nI_nlt (a := 16) (by omega) (by omega)
    rcases seen_c (fun j hj => (tx.2.2 j hj).1) h with ⟨p, p1, p2, p3, p4, p5, p6⟩ | ⟨p5, p6⟩
    · have eA : fX10_readSide_L4 tp (mA + 1) u (nI o) (nI s) (nI (pc16 s)) = if (s ||| o).testBit p = false then fX10_readSide_J41 tp (fX10_readSide_L4 tp mA) u (nI o) (nI s) (nI (pc16 s)) (nI p) else fX10_readSide_J41 tp (fX10_readSide_L4 tp mA) (fX1_failHere u 6) (nI o) (nI s) (nI (pc16 s)) (nI p) := by
        show bX10_readSide_L4 tp (fX10_readSide_L4 tp mA) u (nI o) (nI s) (nI (pc16 s)) = _
        unfold bX10_readSide_L4
        rw [if_neg nle, p5, sbind, if_neg (fun e => m1_ne (by omega) e.symm), sbind, lett_s, lett_s, fa_or, has11_n (Nat.lt_trans (Nat.or_lt_two_pow (n := 16) hs ho) (by decide)) (by omega)]
        cases (s ||| o).testBit p
        · rw [if_pos (by decide), if_pos rfl]
        · rw [if_neg (by decide), if_neg (by decide)]
      have eB : fX12_readsLetters_L5 (mB + 1) v (nI o) = if (s ||| o).testBit p = false then fX12_readsLetters_L5 mB (st (st v 38 0 (nI (s ||| 2 ^ p))) 7 0 (nI (i + 1))) (nI o) else some (0, st v 9 0 (fo 6 i)) := by
        show bX12_readsLetters_L5 (fX12_readsLetters_L5 mB) v (nI o) = _
        unfold bX12_readsLetters_L5
        rw [here_n txr h7 hi, sbind, p6, lett_s, if_neg (by decide), sbind, p4, shl1 p (by omega), lett_s, h38, fa_or, Nat.or_comm o s]
        cases hb : (s ||| o).testBit p
        · rw [if_pos ((and_bit (by omega)).mpr hb), if_pos rfl, fa_or, lett_s, lett_s, show st v 38 0 (nI (s ||| 2 ^ p)) 7 0 = nI i from h7, n1]
        · rw [if_neg (fun e => by rw [(and_bit (by omega)).mp e] at hb; cases hb), if_neg (by decide), wrong_n (x := 6) (k := 6) h7 rfl, lett_s]
          dsimp only
          rw [zb_0]
      cases hb : (s ||| o).testBit p
      · have hb2 := hb
        rw [Nat.testBit_or, Bool.or_eq_false_iff] at hb2
        rw [hb, if_pos rfl] at eA eB
        obtain ⟨u', e1, e2⟩ := next_n tx h p2
        have eA2 : fX10_readSide_J41 tp (fX10_readSide_L4 tp mA) u (nI o) (nI s) (nI (pc16 s)) (nI p) = fX10_readSide_L4 tp mA u' (nI o) (nI (s ||| 2 ^ p)) (nI (pc16 (s ||| 2 ^ p))) := by
          unfold fX10_readSide_J41
          rw [shl1 p (by omega), fa_or, lett_s, e1, sbind, lett_s, n1, pc_or p1 hb2.1]
        rw [eA2] at eA
        rw [eA, eB]
        have e9 : 2 ^ p < 65536 := Nat.pow_lt_pow_right (m := p) (n := 16) (by decide) p1
        have ho2 : (s ||| 2 ^ p) &&& o = 0 := by
          refine Nat.eq_of_testBit_eq (fun j => ?_)
          rw [Nat.testBit_and, bit_or, Nat.zero_testBit]
          have := congrArg (fun x => x.testBit j) hso
          simp only [Nat.testBit_and, Nat.zero_testBit] at this
          by_cases q : p = j
          · subst q; rw [hb2.2, Bool.and_false]
          · rw [decide_eq_false q, Bool.or_false]; exact this
        rcases ih mA (i + 1) (s ||| 2 ^ p) u' (st (st v 38 0 (nI (s ||| 2 ^ p))) 7 0 (nI (i + 1))) (by omega) (by rw [pc_or p1 hb2.1]; omega) txr e2 rfl rfl (Nat.or_lt_two_pow (n := 16) hs e9) ho2 with ⟨s', i', u2, v2, r1, r2, r3, r4, r5, r6, r7, r8, r9, r10⟩ | ⟨x, F, i', u2, v2, r0, r1, r2, r3, r4, r5⟩
        · exact Or.inl ⟨s', i', u2, v2, r1, r2, r3, by omega, r5, r6, r7, r8, r9, fun k h1 h2 h3 => (r10 k h1 h2 h3).trans ((st_i h1).trans (st_i h3))⟩
        · exact Or.inr ⟨x, F, i', u2, v2, r0, r1, r2, r3, r4, fun k h1 h2 h3 => (r5 k h1 h2 h3).trans ((st_i h1).trans (st_i h3))⟩
      · rw [hb, if_neg (by decide)] at eA eB
        have hF : ¬ fo 6 i = 0 := fo_ne (by decide) (by decide) (by omega)
        have h2 := fail_n (x := 6) (k := 6) h rfl
        obtain ⟨u', e1, e2⟩ := next_t tx h2
        have eA2 : fX10_readSide_J41 tp (fX10_readSide_L4 tp mA) (fX1_failHere u 6) (nI o) (nI s) (nI (pc16 s)) (nI p) = fX10_readSide_L4 tp mA u' (nI o) (nI (s ||| 2 ^ p)) (nI (pc16 s + 1)) := by
          unfold fX10_readSide_J41
          rw [shl1 p (by omega), fa_or, lett_s, e1, sbind, lett_s, n1]
        obtain ⟨x, u2, i2, f1, f2⟩ := side_f tx hF (nI o) mA (pc16 s + 1) _ u' (nI (s ||| 2 ^ p)) (by omega) (by omega) e2
        exact Or.inr ⟨x, fo 6 i, i2, u2, _, hF, eA.trans (eA2.trans f1), eB, f2, rfl, fun k h1 h2 h3 => st_i h2⟩
    · have eA : fX10_readSide_L4 tp (mA + 1) u (nI o) (nI s) (nI (pc16 s)) = fX10_readSide_J58 u (nI s) := by
        show bX10_readSide_L4 tp (fX10_readSide_L4 tp mA) u (nI o) (nI s) (nI (pc16 s)) = _
        unfold bX10_readSide_L4
        rw [if_neg nle, p5, sbind, if_pos rfl]
      by_cases q : s = 0
      · have hF : ¬ fo 1 i = 0 := fo_ne (by decide) (by decide) (by omega)
        refine Or.inr ⟨0, fo 1 i, i, fX1_failHere u 1, st v 9 0 (fo 1 i), hF, eA.trans ?_, ?_, fail_n h rfl, rfl, fun k h1 h2 h3 => st_i h2⟩
        · unfold fX10_readSide_J58
          rw [q, if_pos (by decide), lett_s]; rfl
        · show bX12_readsLetters_L5 (fX12_readsLetters_L5 mB) v (nI o) = _
          unfold bX12_readsLetters_L5
          rw [here_n txr h7 hi, sbind, p6, lett_s, if_pos rfl, h38, q, if_pos (by decide), wrong_n (x := 1) (k := 1) h7 rfl, lett_s]
          exact if_pos rfl
      · have ne : ¬ nI s = 0 := fun e => q ((nI_eq (b := 0) (by omega) (by omega)).mp e)
        refine Or.inl ⟨s, i, u, v, eA.trans ?_, ?_, h, Nat.le_refl i, h7, h38, hs, q, hso, fun _ _ _ _ => rfl⟩
        · unfold fX10_readSide_J58
          rw [if_neg ne]
        · show bX12_readsLetters_L5 (fX12_readsLetters_L5 mB) v (nI o) = _
          unfold bX12_readsLetters_L5
          rw [here_n txr h7 hi, sbind, p6, lett_s, if_pos rfl, h38, if_neg ne]
