/-! ===== a factor ===== -/
theorem facJ {n : Nat} {c : Nat → Nat} {u : St} {i : Nat} (h : Cu n c i 0 u) (rc : St → St → St → Int32 → Option (St × St)) (tp lw : St) (x y : Int32) : fX3_readFactor_J24 rc tp u lw x y = if sgn n c i = 91 then (fX3_opens u tp x).bind fun z11 => if z11.1 = 0 then some (z11.2, lw) else (rc z11.2 tp lw (x + 1)).bind fun z13 => (fX1_take z13.1 tp 93).bind fun z14 => some (z14.2, z13.2) else if fX12_in (sgn n c i) 48 57 = 0 then if y < 0 then some (fX1_failHere u 1, lw) else (fX2_put lw 1 y).bind fun z7 => (fX1_next u tp).bind fun z8 => some (z8, z7.2) else (fX1_readNumber u tp 5).bind fun z9 => (fX2_put lw 0 z9.1).bind fun z10 => some (z9.2, z10.2) := by
  unfold fX3_readFactor_J24
  rw [sees_n h, seesD_t h, lett_s, sbind]
  by_cases q : sgn n c i = 91
  · rw [if_pos q, if_neg (by decide), if_pos q]
  · rw [if_neg q, if_pos rfl, if_neg q]
    rfl
theorem fac_n {n : Nat} {c : Nat → Nat} {tp : St} (tx : Tx n c tp) {op : Nat} (hop : op ≤ 6) {rc : St → St → St → Int32 → Option (St × St)} (hrc : op < 6 → SumP n c tp (op + 1) rc) : FacP n c tp op rc := by
  intro i m S O w T u lw v f k base hT hmi hwi hbw h ca hs hf hk
  have hn := tx.1
  have hin := h.1
  obtain ⟨f, rfl⟩ : ∃ f', f = f' + 1 := ⟨f - 1, by omega⟩
  obtain ⟨s1, s2, s3, -, -, -, s7, s8, s9, -, -⟩ := id hs
  rw [fac_y (fun j hj => (tx.2.2 j hj).1) h, facJ h, RF_s]
  unfold bX12_readsFactor_L0
  rw [here_n s1 s2 hin, sbind]
  by_cases q91 : sgn n c i = 91
  · obtain ⟨l1, l2⟩ := sgn_is (k := 91) (fun j hj => (tx.2.2 j hj).1) (by omega) q91
    rw [if_pos q91, if_pos q91]
    by_cases q6 : op = 6
    · have eA : fX3_opens u tp (nI op) = some (0, fX1_failHere u 5) := by
        unfold fX3_opens
        rw [q6, if_neg (by decide), lett_s]
      have eB : fX12_opens v 14 = some (0, st v 9 0 (fo 5 i)) := by
        unfold fX12_opens
        rw [s3, q6, if_pos (by decide), wrong_n (x := 5) (k := 5) s2 rfl, lett_s]
        dsimp only
        rw [zb_0]
      rw [eA, eB, sbind, sbind]
      dsimp only
      rw [if_pos rfl, if_pos rfl, sbind]
      dsimp only
      rw [if_pos rfl]
      exact Or.inr ⟨fo 5 i, i, _, _, _, fo_ne (by decide) (by decide) (by omega), rfl, rfl, fail_n h rfl, CA_K ca, rfl, QFr_st (QFr_rfl v) (by omega)⟩
    · have hop2 : op < 6 := by omega
      obtain ⟨u1, e1, e2⟩ := next_n tx h l1
      have eA : fX3_opens u tp (nI op) = some (1, u1) := by
        unfold fX3_opens
        rw [if_pos (show nI op < 6 from nI_lt (b := 6) hop2 (by decide)), e1, sbind]
      obtain ⟨v1, ev1⟩ : ∃ v1, v1 = st (st (st (st v 11 0 (nI (op + 1))) 17 w (nI (1048576 * 14 + 0))) 13 0 (nI (w + 1))) 7 0 (nI (i + 1)) := ⟨_, rfl⟩
      have eB : fX12_opens v 14 = some (1, v1) := by
        unfold fX12_opens
        rw [s3, if_neg (show ¬ nI op = 6 from fun e => q6 ((nI_eq (b := 6) (by omega) (by omega)).mp e)), lett_s, n1, show st v 11 0 (nI (op + 1)) 13 0 = nI w from s8, gd_n (by omega) (by decide), lett_s, ix_n (by omega), show (1048576 : Int32) * 14 = nI (1048576 * 14 + 0) from by decide, show st (st v 11 0 (nI (op + 1))) 17 w (nI (1048576 * 14 + 0)) 13 0 = nI w from s8, n1, lett_s, show st (st (st v 11 0 (nI (op + 1))) 17 w (nI (1048576 * 14 + 0))) 13 0 (nI (w + 1)) 7 0 = nI i from s2, n1, lett_s, ev1]
      rw [eA, eB, sbind, sbind]
      dsimp only
      rw [if_neg n10, if_neg n10, n1]
      have hs1 : Hs n c (i + 1) m S O (w + 1) (op + 1) 0 0 v1 := by
        rw [ev1]
        exact ⟨TxR_c s1 rfl rfl, rfl, rfl, by omega, by omega, by omega, s7, rfl, s9, fun e => by omega, fun e => by omega⟩
      have v1w : v1 17 w = nI (1048576 * 14 + 0) := by rw [ev1]; show upd (v 17) w _ w = _; rw [upd_s]
      have v1l : ∀ j, j < w → v1 17 j = v 17 j := fun j hj => by rw [ev1]; show upd (v 17) w _ j = _; rw [upd_n (by omega)]
      have qf1 : QFr v v1 := by
        rw [ev1]
        exact QFr_st (QFr_st (QFr_st (QFr_st (QFr_rfl v) (by omega)) (by omega)) (by omega)) (by omega)
      rcases hrc hop2 (i + 1) m S O (w + 1) T u1 lw v1 f k base (by omega) (by omega) (by omega) (by omega) e2 ca hs1 (Or.inr ⟨14, 0, v1w, by decide, by decide, by decide⟩) (by omega) (by omega) with ⟨i2, m2, S2, O2, u2, lw2, v2, k2, et, eq, r1, r2, ⟨r3, r4, r5, r6, r7, r8, r9, r10⟩, r11, r12, r13, r14, r15, r16⟩ | ⟨F, i2, u2, lw2, v2, r0, r1, r2, r3, r4, r5, r6⟩
      · rw [r1, sbind]
        dsimp only
        rw [show ((fX12_readsFactor_L0 f v1).bind fun z => if z.1 = 0 then some (0, z.2) else fX12_readsSum_L14 k z.2 (nI base)) = fX12_readsSum_L14 k2 v2 (nI base) from r2]
        obtain ⟨k2, rfl⟩ : ∃ k', k2 = k' + 1 := ⟨k2 - 1, by omega⟩
        obtain ⟨g1, g2, g3, g4, g5, g6, g7, g8, -, -, -⟩ := id r11
        have hi2 := r3.1
        have hm2 := r4.2.1
        have v2w : v2 17 w = nI (1048576 * 14 + 0) := (r10 w (by omega)).trans v1w
        have ho : fX12_hasOpenSum v2 (nI base) = some 1 := hos_1 (base := base) (k := w) g8 (by omega) (by omega) v2w FU base hbw (show w - base < 1000000 by omega)
        have ss : fX12_sumSign (sgn n c i2) = -1 := by
          unfold fX12_sumSign
          rw [if_neg r16.1, if_neg r16.2, if_neg r15.1, if_neg r15.2.1, if_neg r15.2.2]
        have eL : fX12_readsSum_L14 (k2 + 1) v2 (nI base) = if sgn n c i2 = 93 then (fX12_closesSums v2 1).bind fun z19 => lett (st z19 13 0 ((z19 13 0) - 1)) fun u20 => lett (st u20 11 0 ((u20 11 0) - 1)) fun u21 => lett (st u21 7 0 ((u21 7 0) + 1)) fun u22 => fX12_readsSum_L14 k2 u22 (nI base) else some (0, st v2 9 0 (fo 1 i2)) := by
          show bX12_readsSum_L14 _ _ _ = _
          unfold bX12_readsSum_L14
          rw [here_n g1 g2 hi2, sbind, ss, lett_s, if_pos rfl, sbind]
          by_cases q : sgn n c i2 = 93
          · rw [if_pos q, if_pos q, ho, sbind, if_neg (by decide)]
          · rw [if_neg q, if_neg q]
            unfold fX12_readsSum_J138
            rw [ho, sbind, if_neg (by decide), wrong_n (x := 1) (k := 1) g2 rfl, lett_s]
            dsimp only
            rw [zb_0]
        rw [eL]
        by_cases q93 : sgn n c i2 = 93
        · obtain ⟨l3, l4⟩ := sgn_is (k := 93) (fun j hj => (tx.2.2 j hj).1) (by omega) q93
          obtain ⟨u3, t1, t2⟩ := take_y tx r3 l3 q93
          obtain ⟨v3, c1, c2, c3⟩ := close_1 r11 hm2 (by omega) (Or.inr ⟨14, 0, v2w, by decide, by decide, by decide⟩)
          obtain ⟨d1, d2, d3, -, -, -, d7, d8, d9, -, -⟩ := id c2
          rw [t1, sbind, if_pos q93, c1, sbind]
          rw [show v3 13 0 = nI (w + 1) from d8, tps, lett_s, show st v3 13 0 (nI w) 11 0 = nI (op + 1) from d3, tps, lett_s, show st (st v3 13 0 (nI w)) 11 0 (nI op) 7 0 = nI i2 from d2, n1, lett_s]
          refine Or.inl ⟨i2 + 1, m2, S2, O2, u3, lw2, st (st (st v3 13 0 (nI w)) 11 0 (nI op)) 7 0 (nI (i2 + 1)), k2, rfl, rfl, ⟨t2, r4, r5, by omega, r7, r8, QFr_st (QFr_st (QFr_st (QFr_Cl (QFr_t qf1 r9) c3) (by omega)) (by omega)) (by omega), fun j hj => ?_⟩, ⟨TxR_c d1 rfl rfl, rfl, rfl, by omega, by omega, by omega, d7, rfl, d9, fun e => by omega, fun e => by omega⟩, by omega, r13, by omega⟩
          show v3 17 j = v 17 j
          rw [c3 17 (by decide) (by decide) (by decide), r10 j (by omega), v1l j hj]
        · obtain ⟨u3, t1, t2⟩ := take_x (tp := tp) r3 q93
          rw [t1, sbind, if_neg q93]
          exact Or.inr ⟨fo 1 i2, i2, _, _, _, fo_ne (by decide) (by decide) (by omega), rfl, rfl, t2, CA_K r4, rfl, QFr_st (QFr_t qf1 r9) (by omega)⟩
      · rw [r1, sbind]
        dsimp only
        rw [take_f r3 r0, sbind]
        exact Or.inr ⟨F, i2, _, _, _, r0, rfl, r2, r3, r4, r5, QFr_t qf1 r6⟩
  · rw [if_neg q91, if_neg q91]
    rcases dig_c s1 h s2 with ⟨y, y1, y2, y3, y4, y5, y6⟩ | ⟨y4, y5, y6⟩
    · have inD : ¬ fX12_in (sgn n c i) 48 57 = 0 := by rw [y4, show fX12_in (nI (48 + y)) 48 57 = 1 from in_n (a := 48) (b := 57) rfl rfl (by omega) (by omega) (by decide)]; decide
      rw [if_neg inD, y6, sbind, if_neg (by decide)]
      have hm240 : m < 240 := by omega
      rcases num5 tx s1 h s2 y6 with ⟨i', x', u', v', r1, r2, r3, r4, r5, r6, r7, r8⟩ | ⟨F, i', x', u', v', r0, r1, r2, r3, r4, r5⟩
      · rw [r1, r2, sbind, sbind]
        dsimp only
        obtain ⟨lw', p1, p2, p3⟩ := put_n (x := 0) (s := 0) (o := x') ca hm240 rfl rfl
        rw [p1, sbind, if_neg n10]
        have e12 : v' 12 0 = nI m := by rw [r8 12 (by decide) (by decide) (by decide)]; exact s7
        rw [notes_n (x := 0) (e := 0) e12 (by omega) rfl r6, sbind, sbind, if_neg n10]
        refine Or.inl ⟨i', m + 1, upN S m 0, upN O m x', u', lw', _, k, rfl, rfl, ⟨r3, p2, by omega, by omega, agr, p3, QFr_st (QFr_st (QFr_N (QFr_rfl v) r8) (by omega)) (by omega), fun j _ => ?_⟩, Hs_put hs (i' := i') (s := 0) (o := x') r5 rfl ?_ ?_ ?_ ?_ ?_, r4, Seg_one (by omega) (Or.inl ⟨upN_s _ _ _, by rw [upN_s]; exact r7, rfl⟩), by omega⟩
        · show v' 17 j = v 17 j
          rw [r8 17 (by decide) (by decide) (by decide)]
        · show upd (v' 16) m _ = _
          rw [r8 16 (by decide) (by decide) (by decide)]; rfl
        · exact r8 5 (by decide) (by decide) (by decide)
        · exact r8 8 (by decide) (by decide) (by decide)
        · exact r8 11 (by decide) (by decide) (by decide)
        · exact r8 13 (by decide) (by decide) (by decide)
      · rw [r1, r2, sbind, sbind]
        dsimp only
        obtain ⟨z, lw', p1, p2⟩ := put_f (CA_K ca) 0 x'
        rw [p1, sbind, if_pos rfl, sbind, if_pos rfl]
        exact Or.inr ⟨F, i', _, _, _, r0, rfl, rfl, r3, p2, r4, QFr_N (QFr_rfl v) r5⟩
    · rw [if_pos y4, y6, sbind, if_pos rfl, sbind, lett_s]
      have bad : fX12_factOf (sgn n c i) = -1 → (if sgn n c i = -1 then (-1 : Int32) else fX12_factOf (sgn n c i)) = -1 := fun e => by rw [e, ite_self]
      by_cases qi : i < n
      · have hb := (tx.2.2 i qi).1
        rw [if_neg (show ¬ sgn n c i = -1 by rw [sgn_in qi]; exact fun e => m1_ne (by omega) e.symm)]
        rcases fact_n hb with e | ⟨l, l1, e⟩
        · rw [sgn_in qi, e, if_pos (by decide), if_pos rfl, wrong_n (x := 1) (k := 1) s2 rfl, lett_s]
          dsimp only
          rw [zb_0, sbind, if_pos rfl]
          exact Or.inr ⟨fo 1 i, i, _, _, _, fo_ne (by decide) (by decide) (by omega), rfl, rfl, fail_n h rfl, CA_K ca, rfl, QFr_st (QFr_rfl v) (by omega)⟩
        · obtain ⟨u1, e1, e2⟩ := next_n tx h qi
          obtain ⟨lw', p1, p2, p3⟩ := put_n (x := 1) (s := 1) (o := l) ca (by omega) rfl rfl
          rw [sgn_in qi, e, if_neg (nlt0 (by omega)), p1, sbind, e1, sbind, if_neg (fun q => m1_ne (by omega) q.symm), notes_n (x := 1) (e := 1) (o := l) s7 (by omega) rfl rfl, sbind, lett_s, sbind, if_neg n10]
          rw [show st (st v 16 (m - 0 - 0) (nI (1048576 * 1 + l))) 12 0 (nI (m - 0 - 0 + 1)) 7 0 = nI i from s2, n1]
          refine Or.inl ⟨i + 1, m + 1, upN S m 1, upN O m l, u1, lw', _, k, rfl, rfl, ⟨e2, p2, by omega, by omega, agr, p3, QFr_st (QFr_st (QFr_st (QFr_rfl v) (by omega)) (by omega)) (by omega), fun j _ => rfl⟩, Hs_put hs (i' := i + 1) (s := 1) (o := l) rfl rfl rfl rfl rfl rfl rfl, by omega, Seg_one (by omega) (Or.inr (Or.inl ⟨upN_s _ _ _, by rw [upN_s]; exact l1, rfl⟩)), by omega⟩
      · rw [sgn_out qi, if_pos rfl, if_pos (by decide), show fX12_factOf (-1) = -1 from by decide, if_pos rfl, wrong_n (x := 1) (k := 1) s2 rfl, lett_s]
        dsimp only
        rw [zb_0, sbind, if_pos rfl]
        exact Or.inr ⟨fo 1 i, i, _, _, _, fo_ne (by decide) (by decide) (by omega), rfl, rfl, fail_n h rfl, CA_K ca, rfl, QFr_st (QFr_rfl v) (by omega)⟩
