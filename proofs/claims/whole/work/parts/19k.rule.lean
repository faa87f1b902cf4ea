/-! ===== a rule ===== -/
def RFr (v0 v : St) : Prop := ∀ k, k ≠ 7 → k ≠ 9 → k ≠ 10 → k ≠ 11 → k ≠ 12 → k ≠ 13 → k ≠ 14 → k ≠ 16 → k ≠ 17 → k ≠ 18 → k ≠ 19 → k ≠ 20 → k ≠ 21 → v k = v0 k
theorem RFr_rfl (v : St) : RFr v v := fun _ _ _ _ _ _ _ _ _ _ _ _ _ _ => rfl
theorem RFr_t {a b c : St} (h : RFr a b) (g : RFr b c) : RFr a c := fun k a1 a2 a3 a4 a5 a6 a7 a8 a9 b1 b2 b3 b4 => (g k a1 a2 a3 a4 a5 a6 a7 a8 a9 b1 b2 b3 b4).trans (h k a1 a2 a3 a4 a5 a6 a7 a8 a9 b1 b2 b3 b4)
theorem RFr_Q {a b c : St} (h : RFr a b) (g : QFr b c) : RFr a c := fun k a1 a2 a3 a4 a5 a6 a7 a8 a9 b1 b2 b3 b4 => (g k a1 a2 a3 a4 a5 a6 a8 a9).trans (h k a1 a2 a3 a4 a5 a6 a7 a8 a9 b1 b2 b3 b4)
theorem RFr_La {a b c : St} (h : RFr a b) (g : LaFr b c) : RFr a c := fun k a1 a2 a3 a4 a5 a6 a7 a8 a9 b1 b2 b3 b4 => (g k a6 a8).trans (h k a1 a2 a3 a4 a5 a6 a7 a8 a9 b1 b2 b3 b4)
theorem RFr_st {a b : St} (h : RFr a b) {q j : Nat} {x : Int32} (hq : q = 7 ∨ q = 9 ∨ q = 10 ∨ q = 11 ∨ q = 12 ∨ q = 13 ∨ q = 14 ∨ q = 16 ∨ q = 17 ∨ q = 18 ∨ q = 19 ∨ q = 20 ∨ q = 21) : RFr a (st b q j x) := fun k a1 a2 a3 a4 a5 a6 a7 a8 a9 b1 b2 b3 b4 => (st_i (by omega)).trans (h k a1 a2 a3 a4 a5 a6 a7 a8 a9 b1 b2 b3 b4)
def CB (n : Nat) (c : Nat → Nat) (i m : Nat) (S O : Nat → Nat) (v : St) : Prop := TxR n c v ∧ v 7 0 = nI i ∧ v 12 0 = nI m ∧ ∀ j, j < m → v 16 j = nI (1048576 * encS (S j) + O j)
theorem Hs_CB {n : Nat} {c : Nat → Nat} {i m : Nat} {S O : Nat → Nat} {w op : Nat} {v : St} (h : Hs n c i m S O w op 0 0 v) : CB n c i m S O v := ⟨h.1, h.2.1, h.2.2.2.2.2.2.1, h.2.2.2.2.2.2.2.2.1⟩
theorem CB_Hs {n : Nat} {c : Nat → Nat} {i m : Nat} {S O : Nat → Nat} {v : St} (h : CB n c i m S O v) {w op : Nat} (h11 : v 11 0 = nI op) (h13 : v 13 0 = nI w) : Hs n c i m S O w op 0 0 v := ⟨h.1, h.2.1, h11, by omega, by omega, by omega, h.2.2.1, h13, h.2.2.2, fun e => by omega, fun e => by omega⟩
def BadR (n : Nat) (c : Nat → Nat) (v : St) (r : Option (St × St)) (q : Option (Int32 × St)) : Prop := ∃ F i' u' lw' v', ¬ F = 0 ∧ r = some (u', lw') ∧ q = some (0, v') ∧ Cu n c i' F u' ∧ LwK lw' ∧ v' 9 0 = F ∧ RFr v v'
/-- both read the bracket of a rule -/
theorem brack_n {n : Nat} {c : Nat → Nat} {tp : St} (tx : Tx n c tp) {i m q : Nat} {S O : Nat → Nat} {u lw v : St} (hq : q < 16) (hmi : m ≤ i) (h : Cu n c i 0 u) (ca : CA m S O lw) (cb : CB n c i m S O v) : (∃ i' m' S' O' u' lw' v', fX3_readRule_J93 tp u lw (nI q) = some (u', lw') ∧ fX12_readsCondition v = some (1, v') ∧ Cu n c i' 0 u' ∧ CA m' S' O' lw' ∧ CB n c i' m' S' O' v' ∧ i < i' ∧ m ≤ m' ∧ m' ≤ i' ∧ (∀ j, j < m → S' j = S j ∧ O' j = O j) ∧ Seg S' O' m m' [] [true] ∧ lw' 0 = lw 0 ∧ lw' 1 = lw 1 ∧ lw' 2 = upd (lw 2) q (nI m) ∧ lw' 3 = upd (lw 3) q (nI m') ∧ lw' 4 0 = nI (q + 1) ∧ QFr v v') ∨ BadO n c v (fX3_readRule_J93 tp u lw (nI q)) (fX12_readsCondition v) := by
  have hn := tx.1
  have hin := h.1
  obtain ⟨s1, s2, s3, s4⟩ := id cb
  have J : ∀ (u' lw' : St) (m' : Nat), lw' 7 0 = nI m' → fX3_readRule_J131 u' lw' (nI q) = some (u', st (st lw' 3 q (nI m')) 4 0 (nI (q + 1))) := fun u' lw' m' e => by
    unfold fX3_readRule_J131
    rw [gd_n hq (by decide), lett_s, ix_n (by omega), e, n1, lett_s]
  have uA : fX3_readRule_J93 tp u lw (nI q) = (fX1_take u tp 40).bind fun z6 => if z6.1 = 0 then fX3_readRule_J131 z6.2 (st lw 2 q (nI m)) (nI q) else (fX3_readCondition (fX3_readTest 8) z6.2 tp (st lw 2 q (nI m)) 1).bind fun z8 => (fX1_take z8.1 tp 41).bind fun z9 => fX3_readRule_J131 z9.2 z8.2 (nI q) := by
    unfold fX3_readRule_J93
    rw [gd_n hq (by decide), lett_s, ix_n (by omega), ca.1]
  have ca2 : CA m S O (st lw 2 q (nI m)) := ca
  by_cases q40 : sgn n c i = 40
  · obtain ⟨l1, l2⟩ := sgn_is (k := 40) (fun j hj => (tx.2.2 j hj).1) (by omega) q40
    obtain ⟨u1, t1, t2⟩ := take_y tx h l1 q40
    rw [t1, sbind, if_neg n10] at uA
    dsimp only at uA
    have hs0 : Hs n c i m S O 0 0 0 0 (st (st v 11 0 0) 13 0 0) := ⟨TxR_c s1 rfl rfl, s2, rfl, by omega, by omega, by omega, s3, rfl, s4, fun e => by omega, fun e => by omega⟩
    obtain ⟨v1, b1, b2, b3, b4, b5⟩ := opens_y (x := 13) (e := 13) hs0 (by decide) (by decide) rfl
    have qf1 : QFr v v1 := QFr_t (QFr_st (QFr_st (QFr_rfl v) (by omega)) (by omega)) b5
    have uB : fX12_readsCondition v = fX12_readsCondition_L40 FU v1 := by
      unfold fX12_readsCondition
      rw [here_n s1 s2 hin, sbind, if_pos q40, lett_s, lett_s, b1, sbind, if_neg n10]
    rcases condC_n tx (test_all tx 8 1 (by decide) (by decide)) (i := i + 1) (m := m) (w := 1) (S := S) (O := O) (u := u1) (lw := st lw 2 q (nI m)) (v := v1) (k := FU) (by omega) (by omega) t2 ca2 b2 ⟨by decide, b3⟩ (show n - (i + 1) < 1000000 by omega) with ⟨i2, m2, S2, O2, u2, lw2, v3, k2, f2, po, jo, pn, jn, r1, r2, ⟨r3, r4, r5, r6, r7, r8, r9, r10⟩, r11, r17, r12, r13, r14, r15, r16, r18⟩ | ⟨F, i2, u2, lw2, v3, r0, r1, r2, r3, r4, r5, r6⟩
    · have hi2 := r3.1
      obtain ⟨f2, rfl⟩ : ∃ f, f2 = f + 1 := ⟨f2 - 1, by omega⟩
      obtain ⟨g1, g2, -⟩ := id r11
      rw [show fX3_readCondition (fX3_readTest 8) u1 tp (st lw 2 q (nI m)) 1 = _ from r1, sbind] at uA
      dsimp only at uA
      by_cases q41 : sgn n c i2 = 41
      · obtain ⟨l3, l4⟩ := sgn_is (k := 41) (fun j hj => (tx.2.2 j hj).1) (by omega) q41
        obtain ⟨u3, t3, t4⟩ := take_y tx r3 l3 q41
        obtain ⟨v4, c1, c2, c3⟩ := land_1 r11 r17 (by decide) ⟨by decide, (r10 0 (by decide)).trans b3⟩
        obtain ⟨v5, d1, d2, d3, d4⟩ := LL_close (w := 0) (op := 0) (k := k2) (f := f2) g1 g2 hi2 q41 c1 c2
        rw [if_pos (by decide)] at d1
        rw [t3, sbind, J u3 lw2 m2 r4.1] at uA
        refine Or.inl ⟨i2 + 1, m2, S2, O2, u3, _, v5, uA, uB.trans (r2.trans d1), t4, r4, Hs_CB d2, by omega, r5, by omega, r7, r13, ?_, ?_, ?_, ?_, rfl, QFr_t (QFr_La (QFr_t qf1 r9) c3) d4⟩
        · show lw2 0 = lw 0
          rw [r8 0 (by decide) (by decide) (by decide)]; rfl
        · show lw2 1 = lw 1
          rw [r8 1 (by decide) (by decide) (by decide)]; rfl
        · show lw2 2 = _
          rw [r8 2 (by decide) (by decide) (by decide)]; rfl
        · show upd (lw2 3) q _ = _
          rw [r8 3 (by decide) (by decide) (by decide)]; rfl
      · obtain ⟨u3, t3, t4⟩ := take_x (tp := tp) r3 q41
        rw [t3, sbind, J u3 lw2 m2 r4.1] at uA
        have d1 := LL_bad (k := k2) (f := f2) g1 g2 hi2 q41 r16 r18
        exact Or.inr ⟨fo 1 i2, i2, _, _, _, fo_ne (by decide) (by decide) (by omega), uA, uB.trans (r2.trans d1), t4, ⟨m2, r4.2.1, r4.1⟩, rfl, QFr_st (QFr_t qf1 r9) (by omega)⟩
    · obtain ⟨m3, m31, m32⟩ := r4
      rw [show fX3_readCondition (fX3_readTest 8) u1 tp (st lw 2 q (nI m)) 1 = _ from r1, sbind] at uA
      dsimp only at uA
      rw [take_f r3 r0, sbind, J u2 lw2 m3 m32] at uA
      exact Or.inr ⟨F, i2, _, _, _, r0, uA, uB.trans r2, r3, ⟨m3, m31, m32⟩, r5, QFr_t qf1 r6⟩
  · obtain ⟨u1, t1, t2⟩ := take_x (tp := tp) h q40
    rw [t1, sbind, if_pos rfl] at uA
    dsimp only at uA
    rw [J u1 (st lw 2 q (nI m)) m ca.1] at uA
    have uB : fX12_readsCondition v = some (0, st v 9 0 (fo 1 i)) := by
      unfold fX12_readsCondition
      rw [here_n s1 s2 hin, sbind, if_neg q40, wrong_n (x := 1) (k := 1) s2 rfl, lett_s]
      dsimp only
      rw [zb_0]
    exact Or.inr ⟨fo 1 i, i, _, _, _, fo_ne (by decide) (by decide) (by omega), uA, uB, t2, ⟨m, ca.2.1, ca.1⟩, rfl, QFr_st (QFr_rfl v) (by omega)⟩
def isKd (b : Nat) : Prop := b = 103 ∨ b = 114 ∨ b = 102 ∨ b = 101 ∨ b = 98 ∨ b = 119 ∨ b = 108
def RuG (n : Nat) (c : Nat → Nat) (i m q : Nat) (S O : Nat → Nat) (lw v u' lw' v' : St) : Prop := ∃ K B i' m' : Nat, ∃ S' O' : Nat → Nat, q < 16 ∧ Cu n c i' 0 u' ∧ CA m' S' O' lw' ∧ CB n c i' m' S' O' v' ∧ i < i' ∧ m ≤ B ∧ B ≤ m' ∧ m' ≤ i' ∧ (∀ j, j < m → S' j = S j ∧ O' j = O j) ∧ K < 256 ∧ Seg S' O' B m' [] [true] ∧ (K ≠ 103 → K ≠ 114 → Seg S' O' m B [] [false]) ∧ lw' 0 = upd (lw 0) q (nI K) ∧ lw' 1 = upd (lw 1) q (nI m) ∧ lw' 2 = upd (lw 2) q (nI B) ∧ lw' 3 = upd (lw 3) q (nI m') ∧ lw' 4 0 = nI (q + 1) ∧ v' 18 = upd (v 18) q (nI K) ∧ v' 19 = upd (v 19) q (nI m) ∧ v' 20 = upd (v 20) q (nI B) ∧ v' 21 = upd (v 21) q (nI m') ∧ v' 14 0 = nI (q + 1)
/-- behind the rule's sum, if it has one -/
theorem rule_b {n : Nat} {c : Nat → Nat} {tp : St} (tx : Tx n c tp) {i0 i m q K B : Nat} {S O S1 O1 : Nat → Nat} {lw v u1 lw1 v1 : St} (hq : q < 16) (hK : K < 256) (h : Cu n c i 0 u1) (ca : CA B S1 O1 lw1) (cb : CB n c i B S1 O1 v1) (hi0 : i0 < i) (hmB : m ≤ B) (hBi : B ≤ i) (ag : ∀ j, j < m → S1 j = S j ∧ O1 j = O j) (sg : K ≠ 103 → K ≠ 114 → Seg S1 O1 m B [] [false]) (l0 : lw1 0 = upd (lw 0) q (nI K)) (l1 : lw1 1 = upd (lw 1) q (nI m)) (l2 : lw1 2 = lw 2) (l3 : lw1 3 = lw 3) (v18 : v1 18 = upd (v 18) q (nI K)) (v19 : v1 19 = upd (v 19) q (nI m)) (v20 : v1 20 = v 20) (v21 : v1 21 = v 21) (v14 : v1 14 0 = nI q) (fr : RFr v v1) : (∃ u' lw' v', fX3_readRule_J93 tp u1 lw1 (nI q) = some (u', lw') ∧ fX12_readsRule_J140 v1 = some (1, v') ∧ RuG n c i0 m q S O lw v u' lw' v' ∧ RFr v v') ∨ BadR n c v (fX3_readRule_J93 tp u1 lw1 (nI q)) (fX12_readsRule_J140 v1) := by
  have uB : fX12_readsRule_J140 v1 = (fX12_readsCondition (st v1 20 q (nI B))).bind fun z2 => if z2.1 = 0 then some (0, z2.2) else gd (z2.2 14 0) 16 <| lett (st z2.2 21 (ix (z2.2 14 0)) (z2.2 12 0)) fun u4 => lett (st u4 14 0 ((u4 14 0) + 1)) fun u5 => some (1, u5) := by
    unfold fX12_readsRule_J140
    rw [v14, gd_n hq (by decide), lett_s, ix_n (by omega), cb.2.2.1]
  have cb2 : CB n c i B S1 O1 (st v1 20 q (nI B)) := ⟨TxR_c cb.1 rfl rfl, cb.2.1, cb.2.2.1, cb.2.2.2⟩
  have fr2 : RFr v (st v1 20 q (nI B)) := RFr_st fr (by omega)
  rcases brack_n tx (v := st v1 20 q (nI B)) hq hBi h ca cb2 with ⟨i2, m2, S2, O2, u2, lw2, v2, r1, r2, r3, r4, r5, r6, r7, r8, r9, r10, r11, r12, r13, r14, r15, r16⟩ | ⟨F, i2, u2, lw2, v2, r0, r1, r2, r3, r4, r5, r6⟩
  · have w14 : v2 14 0 = nI q := by rw [r16 14 (by decide) (by decide) (by decide) (by decide) (by decide) (by decide) (by decide) (by decide)]; exact v14
    rw [r2, sbind, if_neg n10] at uB
    dsimp only at uB
    rw [w14, gd_n hq (by decide), lett_s, ix_n (by omega), r5.2.2.1, show st v2 21 q (nI m2) 14 0 = nI q from w14, n1, lett_s] at uB
    refine Or.inl ⟨u2, lw2, _, r1, uB, ⟨K, B, i2, m2, S2, O2, hq, r3, r4, ⟨TxR_c r5.1 rfl rfl, r5.2.1, r5.2.2.1, r5.2.2.2⟩, by omega, hmB, r7, r8, fun j hj => ?_, hK, r10, fun a b => Seg_cong (sg a b) (fun j _ hj => r9 j hj), ?_, ?_, ?_, ?_, r15, ?_, ?_, ?_, ?_, rfl⟩, RFr_st (RFr_st (RFr_Q fr2 r16) (by omega)) (by omega)⟩
    · obtain ⟨a1, a2⟩ := r9 j (by omega)
      obtain ⟨b1, b2⟩ := ag j hj
      exact ⟨a1.trans b1, a2.trans b2⟩
    · rw [r11]; exact l0
    · rw [r12]; exact l1
    · rw [r13, l2]
    · rw [r14, l3]
    · show v2 18 = _
      rw [r16 18 (by decide) (by decide) (by decide) (by decide) (by decide) (by decide) (by decide) (by decide)]; exact v18
    · show v2 19 = _
      rw [r16 19 (by decide) (by decide) (by decide) (by decide) (by decide) (by decide) (by decide) (by decide)]; exact v19
    · show v2 20 = _
      rw [r16 20 (by decide) (by decide) (by decide) (by decide) (by decide) (by decide) (by decide) (by decide)]
      show upd (v1 20) q (nI B) = _
      rw [v20]
    · show upd (v2 21) q (nI m2) = _
      rw [r16 21 (by decide) (by decide) (by decide) (by decide) (by decide) (by decide) (by decide) (by decide)]
      show upd (v1 21) q (nI m2) = _
      rw [v21]
  · rw [r2, sbind, if_pos rfl] at uB
    exact Or.inr ⟨F, i2, u2, lw2, v2, r0, r1, uB, r3, r4, r5, RFr_Q fr2 r6⟩
theorem kind_c {n : Nat} {c : Nat → Nat} {i : Nat} (hc : ∀ j, j < n → c j < 256) : (∃ b, isKd b ∧ i < n ∧ sgn n c i = nI b) ∨ ¬ (sgn n c i = 103 ∨ sgn n c i = 114 ∨ sgn n c i = 102 ∨ sgn n c i = 101 ∨ sgn n c i = 98 ∨ sgn n c i = 119 ∨ sgn n c i = 108) := by
  by_cases q : sgn n c i = 103 ∨ sgn n c i = 114 ∨ sgn n c i = 102 ∨ sgn n c i = 101 ∨ sgn n c i = 98 ∨ sgn n c i = 119 ∨ sgn n c i = 108
  · left
    have key : ∀ b : Nat, b < 256 → isKd b → sgn n c i = nI b → ∃ b, isKd b ∧ i < n ∧ sgn n c i = nI b := fun b h1 h2 h3 => ⟨b, h2, (sgn_is hc h1 h3).1, h3⟩
    rcases q with e | e | e | e | e | e | e
    · exact key 103 (by decide) (by unfold isKd; omega) e
    · exact key 114 (by decide) (by unfold isKd; omega) e
    · exact key 102 (by decide) (by unfold isKd; omega) e
    · exact key 101 (by decide) (by unfold isKd; omega) e
    · exact key 98 (by decide) (by unfold isKd; omega) e
    · exact key 119 (by decide) (by unfold isKd; omega) e
    · exact key 108 (by decide) (by unfold isKd; omega) e
  · exact Or.inr q
theorem kind_y {b : Nat} (h : isKd b) : ∃ x : Int32, fJ0_indexOf_0f7a4 0 (ji2c (nI b)) = some x ∧ 0 ≤ x := by
  rcases h with rfl | rfl | rfl | rfl | rfl | rfl | rfl
  · exact ⟨0, idx0' 103 (by decide), by decide⟩
  · exact ⟨1, idx0' 114 (by decide), by decide⟩
  · exact ⟨2, idx0' 102 (by decide), by decide⟩
  · exact ⟨3, idx0' 101 (by decide), by decide⟩
  · exact ⟨4, idx0' 98 (by decide), by decide⟩
  · exact ⟨5, idx0' 119 (by decide), by decide⟩
  · exact ⟨6, idx0' 108 (by decide), by decide⟩
theorem kind_r {n : Nat} {c : Nat → Nat} {i b : Nat} {v : St} (h : isKd b) (txr : TxR n c v) (h7 : v 7 0 = nI i) (hi : i ≤ n) (es : sgn n c i = nI b) : fX12_readsRule v = fX12_readsRule_J57 v (nI b) := by
  unfold fX12_readsRule
  rw [here_n txr h7 hi, sbind, es]
  rcases h with rfl | rfl | rfl | rfl | rfl | rfl | rfl
  · rw [if_pos (by decide)]
  · rw [if_neg (by decide), if_pos (by decide)]
  · rw [if_neg (by decide), if_neg (by decide), if_pos (by decide)]
  · rw [if_neg (by decide), if_neg (by decide), if_neg (by decide), if_pos (by decide)]
  · rw [if_neg (by decide), if_neg (by decide), if_neg (by decide), if_neg (by decide), if_pos (by decide)]
  · rw [if_neg (by decide), if_neg (by decide), if_neg (by decide), if_neg (by decide), if_neg (by decide), if_pos (by decide)]
  · rw [if_neg (by decide), if_neg (by decide), if_neg (by decide), if_neg (by decide), if_neg (by decide), if_neg (by decide), if_pos (by decide)]
theorem ruleC_n {n : Nat} {c : Nat → Nat} {tp : St} (tx : Tx n c tp) {i m q : Nat} {S O : Nat → Nat} {u lw v : St} (hq : q ≤ 16) (hmi : m ≤ i) (h : Cu n c i 0 u) (ca : CA m S O lw) (cb : CB n c i m S O v) (h14 : v 14 0 = nI q) : (∃ u' lw' v', fX3_readRule u tp lw (nI q) = some (u', lw') ∧ fX12_readsRule v = some (1, v') ∧ RuG n c i m q S O lw v u' lw' v' ∧ RFr v v') ∨ BadR n c v (fX3_readRule u tp lw (nI q)) (fX12_readsRule v) := by
  have hn := tx.1
  have hin := h.1
  obtain ⟨s1, s2, s3, s4⟩ := id cb
  rcases kind_c (n := n) (c := c) (i := i) (fun j hj => (tx.2.2 j hj).1) with ⟨b, hb, l1, es⟩ | hno
  · have hb256 : b < 256 := by unfold isKd at hb; omega
    obtain ⟨x, x1, x2⟩ := kind_y hb
    have uB := kind_r hb s1 s2 hin es
    by_cases q16 : q = 16
    · subst q16
      have uA : fX3_readRule u tp lw (nI 16) = some (fX1_failHere u 4, lw) := by
        unfold fX3_readRule
        rw [lett_s, h.2.2.2.1, es, if_neg (fun e => m1_ne (by omega) e.symm), x1, sbind, if_pos x2, if_neg (by decide), lett_s]
      have uB2 : fX12_readsRule_J57 v (nI b) = some (0, st v 9 0 (fo 4 i)) := by
        unfold fX12_readsRule_J57
        rw [h14, if_pos (by decide), wrong_n (x := 4) (k := 4) s2 rfl, lett_s]
        dsimp only
        rw [zb_0]
      exact Or.inr ⟨fo 4 i, i, _, _, _, fo_ne (by decide) (by decide) (by omega), uA, uB.trans uB2, fail_n h rfl, CA_K ca, rfl, RFr_st (RFr_rfl v) (by omega)⟩
    · have hq2 : q < 16 := by omega
      obtain ⟨u1, e1, e2⟩ := next_n tx h l1
      have uA : fX3_readRule u tp lw (nI q) = if nI b = 103 then fX3_readRule_J93 tp u1 (st (st lw 0 q (nI b)) 1 q (nI m)) (nI q) else if nI b = 114 then fX3_readRule_J93 tp u1 (st (st lw 0 q (nI b)) 1 q (nI m)) (nI q) else (fX3_readSum 8 u1 tp (st (st lw 0 q (nI b)) 1 q (nI m)) 0).bind fun z21 => fX3_readRule_J93 tp z21.1 z21.2 (nI q) := by
        unfold fX3_readRule
        rw [lett_s, h.2.2.2.1, es, if_neg (fun e => m1_ne (by omega) e.symm), x1, sbind, if_pos x2, if_pos (show nI q < 16 from nI_lt (b := 16) hq2 (by decide)), e1, sbind, gd_n hq2 (by decide), lett_s, gd_n hq2 (by decide), lett_s, ix_n (by omega), show st lw 0 q (nI b) 7 0 = nI m from ca.1]
      obtain ⟨v1, ev1⟩ : ∃ v1, v1 = st (st (st (st (st v 18 q (nI b)) 7 0 (nI (i + 1))) 19 q (nI m)) 11 0 0) 13 0 0 := ⟨_, rfl⟩
      have uB2 : fX12_readsRule_J57 v (nI b) = if nI b = 103 then fX12_readsRule_J140 v1 else if nI b = 114 then fX12_readsRule_J140 v1 else (fX12_readsSum v1).bind fun z16 => if z16.1 = 0 then some (0, z16.2) else fX12_readsRule_J140 z16.2 := by
        unfold fX12_readsRule_J57
        rw [h14, if_neg (show ¬ nI q = 16 from fun e => q16 ((nI_eq (b := 16) (by omega) (by omega)).mp e)), gd_n hq2 (by decide), lett_s, ix_n (by omega), show st v 18 q (nI b) 7 0 = nI i from s2, n1, lett_s, show st (st v 18 q (nI b)) 7 0 (nI (i + 1)) 14 0 = nI q from h14, gd_n hq2 (by decide), lett_s, ix_n (by omega), show st (st v 18 q (nI b)) 7 0 (nI (i + 1)) 12 0 = nI m from s3, lett_s, lett_s, ev1]
      have cb1 : CB n c (i + 1) m S O v1 := by
        rw [ev1]
        exact ⟨TxR_c s1 rfl rfl, rfl, s3, s4⟩
      have fr1 : RFr v v1 := by
        rw [ev1]
        exact RFr_st (RFr_st (RFr_st (RFr_st (RFr_st (RFr_rfl v) (by omega)) (by omega)) (by omega)) (by omega)) (by omega)
      have v18 : v1 18 = upd (v 18) q (nI b) := by rw [ev1]; rfl
      have v19 : v1 19 = upd (v 19) q (nI m) := by rw [ev1]; rfl
      have v20 : v1 20 = v 20 := by rw [ev1]; rfl
      have v21 : v1 21 = v 21 := by rw [ev1]; rfl
      have v14 : v1 14 0 = nI q := by rw [ev1]; exact h14
      have h11 : v1 11 0 = nI 0 := by rw [ev1]; rfl
      have h13 : v1 13 0 = nI 0 := by rw [ev1]; rfl
      have gr : b = 103 ∨ b = 114 → (fX3_readRule u tp lw (nI q) = fX3_readRule_J93 tp u1 (st (st lw 0 q (nI b)) 1 q (nI m)) (nI q) ∧ fX12_readsRule v = fX12_readsRule_J140 v1) := fun e => by
        rcases e with rfl | rfl
        · rw [if_pos (by decide)] at uA uB2
          exact ⟨uA, uB.trans uB2⟩
        · rw [if_neg (by decide), if_pos (by decide)] at uA uB2
          exact ⟨uA, uB.trans uB2⟩
      by_cases qg : b = 103 ∨ b = 114
      · obtain ⟨g1, g2⟩ := gr qg
        rw [g1, g2]
        exact rule_b tx (i0 := i) (m := m) (S := S) (O := O) (lw := lw) (v := v) hq2 hb256 e2 ca cb1 (by omega) (Nat.le_refl m) (by omega) (fun _ _ => ⟨rfl, rfl⟩) (fun a b => by omega) rfl rfl rfl rfl v18 v19 v20 v21 v14 fr1
      · have nb1 : ¬ nI b = 103 := fun e => qg (Or.inl ((nI_eq (b := 103) (by omega) (by omega)).mp e))
        have nb2 : ¬ nI b = 114 := fun e => qg (Or.inr ((nI_eq (b := 114) (by omega) (by omega)).mp e))
        rw [if_neg nb1, if_neg nb2] at uA uB2
        rw [uB2] at uB
        have ca1 : CA m S O (st (st lw 0 q (nI b)) 1 q (nI m)) := ca
        rcases sumC_n tx (op := 0) (by decide) (T := []) (by decide) (i := i + 1) (m := m) (w := 0) (S := S) (O := O) (u := u1) (lw := st (st lw 0 q (nI b)) 1 q (nI m)) (v := v1) (by omega) (by omega) e2 ca1 (CB_Hs cb1 h11 h13) (Or.inl rfl) with ⟨i2, m2, S2, O2, u2, lw2, v2, r1, r2, ⟨r3, r4, r5, r6, r7, r8, r9, r10⟩, r11, r12, r13⟩ | ⟨F, i2, u2, lw2, v2, r0, r1, r2, r3, r4, r5, r6⟩
        · rw [show fX3_readSum 8 u1 tp (st (st lw 0 q (nI b)) 1 q (nI m)) 0 = _ from r1, sbind] at uA
          rw [r2, sbind, if_neg n10] at uB
          dsimp only at uA uB
          rw [uA, uB]
          refine rule_b tx (i0 := i) (m := m) (S := S) (O := O) (lw := lw) (v := v) hq2 hb256 r3 r4 (Hs_CB r11) (by omega) r5 (by omega) r7 (fun _ _ => r13) ?_ ?_ ?_ ?_ ?_ ?_ ?_ ?_ ?_ (RFr_Q fr1 r9)
          · rw [r8 0 (by decide) (by decide) (by decide)]; rfl
          · rw [r8 1 (by decide) (by decide) (by decide)]; rfl
          · rw [r8 2 (by decide) (by decide) (by decide)]; rfl
          · rw [r8 3 (by decide) (by decide) (by decide)]; rfl
          · rw [r9 18 (by decide) (by decide) (by decide) (by decide) (by decide) (by decide) (by decide) (by decide)]; exact v18
          · rw [r9 19 (by decide) (by decide) (by decide) (by decide) (by decide) (by decide) (by decide) (by decide)]; exact v19
          · rw [r9 20 (by decide) (by decide) (by decide) (by decide) (by decide) (by decide) (by decide) (by decide)]; exact v20
          · rw [r9 21 (by decide) (by decide) (by decide) (by decide) (by decide) (by decide) (by decide) (by decide)]; exact v21
          · rw [r9 14 (by decide) (by decide) (by decide) (by decide) (by decide) (by decide) (by decide) (by decide)]; exact v14
        · obtain ⟨m3, m31, m32⟩ := r4
          rw [show fX3_readSum 8 u1 tp (st (st lw 0 q (nI b)) 1 q (nI m)) 0 = _ from r1, sbind] at uA
          rw [r2, sbind, if_pos rfl] at uB
          dsimp only at uA
          have J : fX3_readRule_J93 tp u2 lw2 (nI q) = some (u2, st (st (st lw2 2 q (nI m3)) 3 q (nI m3)) 4 0 (nI (q + 1))) := by
            unfold fX3_readRule_J93 fX3_readRule_J131
            rw [gd_n hq2 (by decide), lett_s, ix_n (by omega), m32, take_f r3 r0, sbind, if_pos rfl]
            dsimp only
            rw [gd_n hq2 (by decide), lett_s, show st lw2 2 q (nI m3) 7 0 = nI m3 from m32, n1, lett_s]
          exact Or.inr ⟨F, i2, _, _, _, r0, uA.trans J, uB, r3, ⟨m3, m31, m32⟩, r5, RFr_Q fr1 r6⟩
  · have uB : fX12_readsRule v = some (0, st v 9 0 (fo 1 i)) := by
      unfold fX12_readsRule
      rw [here_n s1 s2 hin, sbind, if_neg (fun e => hno (Or.inl e)), if_neg (fun e => hno (Or.inr (Or.inl e))), if_neg (fun e => hno (Or.inr (Or.inr (Or.inl e)))), if_neg (fun e => hno (Or.inr (Or.inr (Or.inr (Or.inl e))))), if_neg (fun e => hno (Or.inr (Or.inr (Or.inr (Or.inr (Or.inl e)))))), if_neg (fun e => hno (Or.inr (Or.inr (Or.inr (Or.inr (Or.inr (Or.inl e))))))), if_neg (fun e => hno (Or.inr (Or.inr (Or.inr (Or.inr (Or.inr (Or.inr e))))))), wrong_n (x := 1) (k := 1) s2 rfl, lett_s]
      dsimp only
      rw [zb_0]
    have uA : fX3_readRule u tp lw (nI q) = some (fX1_failHere u 1, lw) := by
      unfold fX3_readRule fX3_readRule_J23
      rw [lett_s, h.2.2.2.1, lett_s]
      by_cases qi : i < n
      · have hb := (tx.2.2 i qi).1
        rw [sgn_in qi] at hno ⊢
        have nk : ∀ b : Nat, b < 256 → c i = b → nI (c i) = nI b := fun b _ e => by rw [e]
        rw [if_neg (fun e => m1_ne (by omega) e.symm), idx0' _ hb, sbind, if_neg (fun e => hno (Or.inl (nk 103 (by decide) e))), if_neg (fun e => hno (Or.inr (Or.inl (nk 114 (by decide) e)))), if_neg (fun e => hno (Or.inr (Or.inr (Or.inl (nk 102 (by decide) e))))), if_neg (fun e => hno (Or.inr (Or.inr (Or.inr (Or.inl (nk 101 (by decide) e)))))), if_neg (fun e => hno (Or.inr (Or.inr (Or.inr (Or.inr (Or.inl (nk 98 (by decide) e))))))), if_neg (fun e => hno (Or.inr (Or.inr (Or.inr (Or.inr (Or.inr (Or.inl (nk 119 (by decide) e)))))))), if_neg (fun e => hno (Or.inr (Or.inr (Or.inr (Or.inr (Or.inr (Or.inr (nk 108 (by decide) e)))))))), if_neg (by decide)]
      · rw [sgn_out qi, if_pos rfl]
    exact Or.inr ⟨fo 1 i, i, _, _, _, fo_ne (by decide) (by decide) (by omega), uA, uB, fail_n h rfl, CA_K ca, rfl, RFr_st (RFr_rfl v) (by omega)⟩
