/-! ===== weighings: lines, the whole text ===== -/
def WFr (v0 v : St) : Prop := ∀ k, k ≠ 7 → k ≠ 9 → k ≠ 38 → k ≠ 33 → k ≠ 34 → k ≠ 35 → k ≠ 37 → v k = v0 k
theorem WFr_S {v0 v v2 : St} (h : WFr v0 v) (f : SFr v v2) : WFr v0 v2 := fun k a b c d e f' g => (f k a b c).trans (h k a b c d e f' g)
theorem WFr_t {v0 v v2 : St} (h : WFr v0 v) (f : WFr v v2) : WFr v0 v2 := fun k a b c d e f' g => (f k a b c d e f' g).trans (h k a b c d e f' g)
theorem WFr_rfl (v : St) : WFr v v := fun _ _ _ _ _ _ _ _ => rfl
theorem WFr_7 {v0 v : St} (h : WFr v0 v) {x : Int32} : WFr v0 (st v 7 0 x) := fun k a b c d e f g => (st_i a).trans (h k a b c d e f g)
theorem WFr_9 {v0 v : St} (h : WFr v0 v) {x : Int32} : WFr v0 (st v 9 0 x) := fun k a b c d e f g => (st_i b).trans (h k a b c d e f g)
theorem WFr_38 {v0 v : St} (h : WFr v0 v) {x : Int32} : WFr v0 (st v 38 0 x) := fun k a b c d e f g => (st_i c).trans (h k a b c d e f g)
theorem TxR_W {n : Nat} {c : Nat → Nat} {v v2 : St} (h : TxR n c v) (f : WFr v v2) : TxR n c v2 := by
  unfold TxR at *
  rw [f 8 (by decide) (by decide) (by decide) (by decide) (by decide) (by decide) (by decide), f 5 (by decide) (by decide) (by decide) (by decide) (by decide) (by decide) (by decide)]
  exact h
/-- the class's line behind its first side -/
def lineT (sw tp : St) (k : Nat) (x : Int32) (u1 : St) : Option (St × St) := if fX10_isOutcome (u1 3 0) = 0 then fX10_readLine_J91 (st (st sw 0 k x) 2 k (u1 3 0)) (fX1_failHere u1 1) (nI k) else (fX1_next u1 tp).bind fun z11 => (fX10_readSide z11 tp x).bind fun z12 => fX10_readLine_J91 (st (st (st sw 0 k x) 2 k (u1 3 0)) 1 k z12.1) z12.2 (nI k)
theorem line_a {n : Nat} {c : Nat → Nat} {tp sw u u1 : St} {i k p : Nat} {x : Int32} (h5 : fX1_seenWalker u = some (nI p)) (hp : p < 16) (hk : k < 16) (hs : fX10_readSide u tp 0 = some (x, u1)) : fX10_readLine sw u tp (nI k) = lineT sw tp k x u1 := by
  unfold fX10_readLine
  rw [h5, sbind, if_neg (fun e => m1_ne (by omega) e.symm), if_pos (show nI k < 16 from nI_lt (b := 16) hk (by decide)), hs, sbind]
  dsimp only
  rw [gd_n (by omega) (by decide), lett_s, gd_n (by omega) (by decide), lett_s, gd_n (by omega) (by decide), lett_s, ix_n (by omega)]
  have e1 : st (st sw 0 k x) 2 k (u1 3 0) 2 k = u1 3 0 := by rw [st_s, upd_s]
  have e2 : st (st sw 0 k x) 2 k (u1 3 0) 0 k = x := by rw [st_i (by decide), st_s, upd_s]
  rw [e1, e2]
  unfold lineT
  simp only [gd_n (show k < 16 by omega) (show 16 < 2147483648 by decide), lett_s]
theorem line_f {n : Nat} {c : Nat → Nat} {tp sw u1 : St} {i k : Nat} {x F : Int32} (tx : Tx n c tp) (h : Cu n c i F u1) (hF : ¬ F = 0) : ∃ sw' u' i', lineT sw tp k x u1 = some (sw', u') ∧ Cu n c i' F u' := by
  unfold lineT
  by_cases q : fX10_isOutcome (u1 3 0) = 0
  · rw [if_pos q, fail_f h hF]
    unfold fX10_readLine_J91
    rw [lett_s]
    exact ⟨_, _, i, rfl, h⟩
  · rw [if_neg q]
    obtain ⟨u2, e1, e2⟩ := next_t tx h
    obtain ⟨y, u3, i3, f1, f2⟩ := side_f tx hF x FU 0 _ u2 0 (by omega) (by decide) e2
    rw [e1, sbind]
    unfold fX10_readSide
    rw [show fX10_readSide_L4 tp FU u2 x 0 0 = _ from f1, sbind]
    unfold fX10_readLine_J91
    rw [lett_s]
    exact ⟨_, _, i3, rfl, f2⟩
theorem pc16_0 : pc16 0 = 0 := by decide
/-- both read a side from its first letter on -/
theorem side_s {n : Nat} {c : Nat → Nat} {tp u v : St} (tx : Tx n c tp) {o i : Nat} (ho : o < 65536) (txr : TxR n c v) (h : Cu n c i 0 u) (h7 : v 7 0 = nI i) : (∃ s' i' u' v', fX10_readSide u tp (nI o) = some (nI s', u') ∧ fX12_readsLetters v (nI o) = some (1, v') ∧ Cu n c i' 0 u' ∧ i ≤ i' ∧ v' 7 0 = nI i' ∧ v' 38 0 = nI s' ∧ s' < 65536 ∧ s' ≠ 0 ∧ s' &&& o = 0 ∧ SFr v v') ∨ (∃ x F i' u' v', ¬ F = 0 ∧ fX10_readSide u tp (nI o) = some (x, u') ∧ fX12_readsLetters v (nI o) = some (0, v') ∧ Cu n c i' F u' ∧ v' 9 0 = F ∧ SFr v v') := by
  have hn := tx.1
  have key := side_n tx ho FU FU i 0 u (st v 38 0 0) (show n - i < 1000000 by omega) (show 17 - pc16 0 < 1000000 by omega) txr h h7 rfl (by decide) (Nat.zero_and o)
  have f : ∀ k, k ≠ 7 → k ≠ 9 → k ≠ 38 → st v 38 0 0 k = v k := fun k _ _ h => st_i h
  rw [pc16_0] at key
  unfold fX10_readSide fX12_readsLetters
  rw [lett_s]
  rcases key with ⟨s', i', u2, v2, r1, r2, r3, r4, r5, r6, r7, r8, r9, r10⟩ | ⟨x, F, i', u2, v2, r0, r1, r2, r3, r4, r5⟩
  · exact Or.inl ⟨s', i', u2, v2, r1, r2, r3, r4, r5, r6, r7, r8, r9, fun k a b c => (r10 k a b c).trans (f k a b c)⟩
  · exact Or.inr ⟨x, F, i', u2, v2, r0, r1, r2, r3, r4, fun k a b c => (r5 k a b c).trans (f k a b c)⟩
/-- one line that is read well -/
def LineG (n : Nat) (c : Nat → Nat) (i k : Nat) (sw v sw' u' v' : St) : Prop := ∃ a b s i' : Nat, k < 16 ∧ a < 65536 ∧ b < 65536 ∧ a ≠ 0 ∧ b ≠ 0 ∧ a &&& b = 0 ∧ (s = 60 ∨ s = 61 ∨ s = 62) ∧ Cu n c i' 0 u' ∧ i < i' ∧ v' 7 0 = nI i' ∧ sw' 3 0 = nI (k + 1) ∧ v' 37 0 = nI (k + 1) ∧ sw' 0 = upd (sw 0) k (nI a) ∧ sw' 1 = upd (sw 1) k (nI b) ∧ sw' 2 = upd (sw 2) k (nI s) ∧ v' 33 = upd (v 33) k (nI a) ∧ v' 34 = upd (v 34) k (nI b) ∧ v' 35 = upd (v 35) k (nI s)
theorem line_n {n : Nat} {c : Nat → Nat} {tp sw u v : St} (tx : Tx n c tp) {i k : Nat} (hk : k ≤ 16) (txr : TxR n c v) (h : Cu n c i 0 u) (h7 : v 7 0 = nI i) (h37 : v 37 0 = nI k) : (∃ sw' u' v', fX10_readLine sw u tp (nI k) = some (sw', u') ∧ fX12_readsWeighing v = some (1, v') ∧ LineG n c i k sw v sw' u' v' ∧ WFr v v') ∨ (∃ F sw' u' i' v', ¬ F = 0 ∧ fX10_readLine sw u tp (nI k) = some (sw', u') ∧ fX12_readsWeighing v = some (0, v') ∧ Cu n c i' F u' ∧ v' 9 0 = F ∧ WFr v v') := by
  have hn := tx.1
  have hi := h.1
  rcases seen_c (fun j hj => (tx.2.2 j hj).1) h with ⟨p, p1, p2, p3, p4, p5, p6⟩ | ⟨p5, p6⟩
  · by_cases q : k = 16
    · subst q
      have hF : ¬ fo 4 i = 0 := fo_ne (by decide) (by decide) (by omega)
      refine Or.inr ⟨fo 4 i, sw, fX1_failHere u 4, i, st v 9 0 (fo 4 i), hF, ?_, ?_, fail_n h rfl, rfl, WFr_9 (WFr_rfl v)⟩
      · unfold fX10_readLine
        rw [p5, sbind, if_neg (fun e => m1_ne (by omega) e.symm), if_neg (by decide), lett_s]
      · unfold fX12_readsWeighing
        rw [here_n txr h7 hi, sbind, p6, lett_s, if_neg (by decide), h37, if_pos (by decide), wrong_n (x := 4) (k := 4) h7 rfl, lett_s]
        dsimp only
        rw [zb_0]
    · have hk2 : k < 16 := by omega
      have rB : fX12_readsWeighing v = fX12_readsWeighing_J35 v := by
        unfold fX12_readsWeighing
        rw [here_n txr h7 hi, sbind, p6, lett_s, if_neg (by decide), h37, if_neg (show ¬ nI k = 16 from fun e => q ((nI_eq (b := 16) (by omega) (by omega)).mp e))]
      rcases side_s tx (o := 0) (by decide) txr h h7 with ⟨a, i1, u1, v1, r1, r2, r3, r4, r5, r6, r7, r8, -, r10⟩ | ⟨x, F, i1, u1, v1, r0, r1, r2, r3, r4, r5⟩
      · have eA := line_a (sw := sw) (n := n) (c := c) (i := i) p5 p1 hk2 (show fX10_readSide u tp 0 = _ from r1)
        have wf1 : WFr v v1 := WFr_S (WFr_rfl v) r10
        have txr1 := TxR_W txr wf1
        have hi1 := r3.1
        have jB : fX12_readsWeighing v = if sgn n c i1 = 60 then fX12_readsWeighing_J83 v1 (nI a) (sgn n c i1) else if sgn n c i1 = 62 then fX12_readsWeighing_J83 v1 (nI a) (sgn n c i1) else if sgn n c i1 = 61 then fX12_readsWeighing_J83 v1 (nI a) (sgn n c i1) else some (0, st v1 9 0 (fo 1 i1)) := by
          rw [rB]
          unfold fX12_readsWeighing_J35
          rw [show fX12_readsLetters v 0 = _ from r2, sbind]
          dsimp only
          rw [if_neg (by decide), lett_s, here_n txr1 r5 hi1, sbind, r6, wrong_n (x := 1) (k := 1) r5 rfl, lett_s]
          dsimp only
          rw [zb_0]
        have good : ∀ s : Nat, (s = 60 ∨ s = 61 ∨ s = 62) → sgn n c i1 = nI s → fX12_readsWeighing v = fX12_readsWeighing_J83 v1 (nI a) (nI s) → (∃ sw' u' v', fX10_readLine sw u tp (nI k) = some (sw', u') ∧ fX12_readsWeighing v = some (1, v') ∧ LineG n c i k sw v sw' u' v' ∧ WFr v v') ∨ (∃ F sw' u' i' v', ¬ F = 0 ∧ fX10_readLine sw u tp (nI k) = some (sw', u') ∧ fX12_readsWeighing v = some (0, v') ∧ Cu n c i' F u' ∧ v' 9 0 = F ∧ WFr v v') := by
          intro s hs es eB
          obtain ⟨l1, l2⟩ := sgn_is (fun j hj => (tx.2.2 j hj).1) (by omega) es
          obtain ⟨u2, e1, e2⟩ := next_n tx r3 l1
          have io : ¬ fX10_isOutcome (nI s) = 0 := by rcases hs with rfl | rfl | rfl <;> decide
          have eT : lineT sw tp k (nI a) u1 = (fX10_readSide u2 tp (nI a)).bind fun z12 => fX10_readLine_J91 (st (st (st sw 0 k (nI a)) 2 k (nI s)) 1 k z12.1) z12.2 (nI k) := by
            unfold lineT
            rw [r3.2.2.2.1, es, if_neg io, e1, sbind]
          have wf2 : WFr v (st v1 7 0 (nI (i1 + 1))) := WFr_7 wf1
          have J : fX12_readsWeighing_J83 v1 (nI a) (nI s) = (fX12_readsLetters (st v1 7 0 (nI (i1 + 1))) (nI a)).bind fun z2 => if z2.1 = 0 then some (0, z2.2) else gd (z2.2 37 0) 16 <| lett (st z2.2 33 (ix (z2.2 37 0)) (nI a)) fun u4 => gd (u4 37 0) 16 <| lett (st u4 34 (ix (u4 37 0)) (u4 38 0)) fun u5 => gd (u5 37 0) 16 <| lett (st u5 35 (ix (u5 37 0)) (nI s)) fun u6 => lett (st u6 37 0 ((u6 37 0) + 1)) fun u7 => some (1, u7) := by
            unfold fX12_readsWeighing_J83
            rw [r5, n1, lett_s]
          rcases side_s tx (o := a) r7 (TxR_W txr wf2) e2 rfl with ⟨b, i3, u3, v3, t1, t2, t3, t4, t5, t6, t7, t8, t9, t10⟩ | ⟨x, F, i3, u3, v3, t0, t1, t2, t3, t4, t5⟩
          · have wf3 : WFr v v3 := WFr_S wf2 t10
            have h373 : v3 37 0 = nI k := by rw [t10 37 (by decide) (by decide) (by decide)]; show v1 37 0 = nI k; rw [r10 37 (by decide) (by decide) (by decide)]; exact h37
            refine Or.inl ⟨st (st (st (st sw 0 k (nI a)) 2 k (nI s)) 1 k (nI b)) 3 0 (nI (k + 1)), u3, st (st (st (st v3 33 k (nI a)) 34 k (nI b)) 35 k (nI s)) 37 0 (nI (k + 1)), ?_, ?_, ⟨a, b, s, i3, hk2, r7, t7, r8, t8, by rw [Nat.and_comm]; exact t9, hs, t3, by omega, t5, rfl, rfl, rfl, rfl, rfl, ?_, ?_, ?_⟩, ?_⟩
            · rw [eA, eT, t1, sbind]
              unfold fX10_readLine_J91
              rw [lett_s, n1]
            · rw [eB, J, t2, sbind]
              dsimp only
              rw [if_neg (by decide), h373, gd_n (by omega) (by decide), lett_s, ix_n (by omega), show st v3 33 k (nI a) 37 0 = nI k from h373, gd_n (by omega) (by decide), lett_s, ix_n (by omega), show st v3 33 k (nI a) 38 0 = nI b from t6, show st (st v3 33 k (nI a)) 34 k (nI b) 37 0 = nI k from h373, gd_n (by omega) (by decide), lett_s, ix_n (by omega), show st (st (st v3 33 k (nI a)) 34 k (nI b)) 35 k (nI s) 37 0 = nI k from h373, n1, lett_s]
            · show upd (v3 33) k (nI a) = _
              rw [t10 33 (by decide) (by decide) (by decide)]
              show upd (v1 33) k (nI a) = _
              rw [r10 33 (by decide) (by decide) (by decide)]
            · show upd (v3 34) k (nI b) = _
              rw [t10 34 (by decide) (by decide) (by decide)]
              show upd (v1 34) k (nI b) = _
              rw [r10 34 (by decide) (by decide) (by decide)]
            · show upd (v3 35) k (nI s) = _
              rw [t10 35 (by decide) (by decide) (by decide)]
              show upd (v1 35) k (nI s) = _
              rw [r10 35 (by decide) (by decide) (by decide)]
            · intro j a1 a2 a3 a4 a5 a6 a7
              rw [st_i a7, st_i a6, st_i a5, st_i a4]
              exact wf3 j a1 a2 a3 a4 a5 a6 a7
          · refine Or.inr ⟨F, st (st (st (st sw 0 k (nI a)) 2 k (nI s)) 1 k x) 3 0 (nI (k + 1)), u3, i3, v3, t0, ?_, ?_, t3, t4, WFr_S wf2 t5⟩
            · rw [eA, eT, t1, sbind]
              unfold fX10_readLine_J91
              rw [lett_s, n1]
            · rw [eB, J, t2, sbind]
              exact if_pos rfl
        by_cases s1 : sgn n c i1 = 60
        · exact good 60 (by omega) s1 (by rw [jB, if_pos s1, s1]; rfl)
        · by_cases s2 : sgn n c i1 = 62
          · exact good 62 (by omega) s2 (by rw [jB, if_neg s1, if_pos s2, s2]; rfl)
          · by_cases s3 : sgn n c i1 = 61
            · exact good 61 (by omega) s3 (by rw [jB, if_neg s1, if_neg s2, if_pos s3, s3]; rfl)
            · have hF : ¬ fo 1 i1 = 0 := fo_ne (by decide) (by decide) (by omega)
              refine Or.inr ⟨fo 1 i1, st (st (st sw 0 k (nI a)) 2 k (u1 3 0)) 3 0 (nI (k + 1)), fX1_failHere u1 1, i1, st v1 9 0 (fo 1 i1), hF, ?_, ?_, fail_n r3 rfl, rfl, WFr_9 wf1⟩
              · rw [eA]
                unfold lineT
                have io : fX10_isOutcome (u1 3 0) = 0 := by
                  unfold fX10_isOutcome
                  rw [r3.2.2.2.1, if_neg s1, if_neg s2, if_neg s3]
                rw [if_pos io]
                unfold fX10_readLine_J91
                rw [lett_s, n1]
              · rw [jB, if_neg s1, if_neg s2, if_neg s3]
      · have eA := line_a (sw := sw) (n := n) (c := c) (i := i) p5 p1 hk2 (show fX10_readSide u tp 0 = _ from r1)
        obtain ⟨sw', u', i', f1, f2⟩ := line_f (sw := sw) (k := k) (x := x) tx r3 r0
        refine Or.inr ⟨F, sw', u', i', v1, r0, eA.trans f1, ?_, f2, r4, WFr_S (WFr_rfl v) r5⟩
        rw [rB]
        unfold fX12_readsWeighing_J35
        rw [show fX12_readsLetters v 0 = _ from r2, sbind]
        exact if_pos rfl
  · have hF : ¬ fo 1 i = 0 := fo_ne (by decide) (by decide) (by omega)
    refine Or.inr ⟨fo 1 i, sw, fX1_failHere u 1, i, st (st v 38 0 0) 9 0 (fo 1 i), hF, ?_, ?_, fail_n h rfl, rfl, WFr_9 (WFr_38 (WFr_rfl v))⟩
    · unfold fX10_readLine
      rw [p5, sbind, if_pos rfl, lett_s]
    · unfold fX12_readsWeighing
      rw [here_n txr h7 hi, sbind, p6, lett_s, if_pos rfl]
      unfold fX12_readsWeighing_J35 fX12_readsLetters
      have e : fX12_readsLetters_L5 FU (st v 38 0 0) 0 = some (0, st (st v 38 0 0) 9 0 (fo 1 i)) := by
        show bX12_readsLetters_L5 (fX12_readsLetters_L5 999999) (st v 38 0 0) 0 = _
        unfold bX12_readsLetters_L5
        rw [here_n (v := st v 38 0 0) txr h7 hi, sbind, p6, lett_s, if_pos rfl, if_pos (show st v 38 0 0 38 0 = 0 from rfl), wrong_n (v := st v 38 0 0) (y := st v 38 0 0 7 0) (x := 1) (k := 1) h7 rfl, lett_s]
        exact if_pos rfl
      rw [lett_s, e, sbind]
      exact if_pos rfl
