/-! ===== tests ===== -/
theorem test_c {n : Nat} {c : Nat → Nat} {u : St} {i : Nat} (h : Cu n c i 0 u) (rc : St → St → St → Int32 → Option (St × St)) (tp lw : St) (x : Int32) : bX3_readTest rc u tp lw x = if sgn n c i = 33 then (fX3_opens u tp x).bind fun z19 => if z19.1 = 0 then some (z19.2, lw) else (rc z19.2 tp lw (x + 1)).bind fun z21 => (fX2_put z21.2 33 0).bind fun z22 => some (z21.1, z22.2) else if sgn n c i = 40 then (fX3_opens u tp x).bind fun z15 => if z15.1 = 0 then some (z15.2, lw) else (fX3_readCondition rc z15.2 tp lw (x + 1)).bind fun z17 => (fX1_take z17.1 tp 41).bind fun z18 => some (z18.2, z17.2) else (fX3_readSum 8 u tp lw x).bind fun z6 => if fX1_isFaulty z6.1 = 0 then if fX10_isOutcome (z6.1 3 0) = 0 then some (fX1_failHere z6.1 1, z6.2) else (fX1_next z6.1 tp).bind fun z12 => (fX3_readSum 8 z12 tp z6.2 x).bind fun z13 => (fX2_put z13.2 (z6.1 3 0) 0).bind fun z14 => some (z13.1, z14.2) else some (fX1_failHere z6.1 1, z6.2) := by
  unfold bX3_readTest
  rw [sees_n h, sees_n h]
  by_cases q : sgn n c i = 33
  · rw [if_pos q, if_pos q, lett_s, if_neg (by decide)]
  · rw [if_neg q, if_neg q, lett_s, if_pos rfl]
    by_cases q2 : sgn n c i = 40
    · rw [if_pos q2, if_pos q2, lett_s, if_neg (by decide)]
    · rw [if_neg q2, if_neg q2, lett_s, if_pos rfl]
      rfl
theorem L40_c {n : Nat} {c : Nat → Nat} {i : Nat} {v : St} {k : Nat} (txr : TxR n c v) (h7 : v 7 0 = nI i) (hi : i ≤ n) : fX12_readsCondition_L40 (k + 1) v = if sgn n c i = 33 then (fX12_opens v 10).bind fun z1 => if z1.1 = 0 then some (0, z1.2) else fX12_readsCondition_L40 k z1.2 else if sgn n c i = 40 then (fX12_opens v 13).bind fun z1 => if z1.1 = 0 then some (0, z1.2) else fX12_readsCondition_L40 k z1.2 else (fX12_readsCompared v).bind fun z28 => if z28.1 = 0 then some (0, z28.2) else LL k FU z28.2 := by
  show bX12_readsCondition_L40 _ _ = _
  unfold bX12_readsCondition_L40 fX12_readsCondition_J58 fX12_readsCondition_J75
  rw [here_n txr h7 hi, sbind, sbind, sbind]
  by_cases q : sgn n c i = 33
  · rw [if_pos q, if_pos q, if_pos q]
  · rw [if_neg q, if_neg q, if_neg q]
    rfl
theorem comp_c {v v1 : St} {s : Int32} (hr : fX12_readsSum v = some (1, v1)) (hh : fX12_here v1 = some s) : fX12_readsCompared v = fX12_readsCompared_J52 v1 (if s = 60 then 7 else if s = 62 then 8 else if s = 61 then 9 else -1) := by
  unfold fX12_readsCompared
  rw [hr, sbind, if_neg n10]
  dsimp only
  rw [hh, sbind]
  by_cases q1 : s = 60
  · rw [if_pos q1, if_pos q1]
  · rw [if_neg q1, if_neg q1, sbind]
    by_cases q2 : s = 62
    · rw [if_pos q2, if_pos q2]
    · rw [if_neg q2, if_neg q2, sbind]
      by_cases q3 : s = 61
      · rw [if_pos q3, if_pos q3]
      · rw [if_neg q3, if_neg q3]
theorem Hs_7 {n : Nat} {c : Nat → Nat} {i m : Nat} {S O : Nat → Nat} {w op : Nat} {v : St} (h : Hs n c i m S O w op 0 0 v) (i' : Nat) : Hs n c i' m S O w op 0 0 (st v 7 0 (nI i')) := by
  obtain ⟨h1, h2, h3, h4, h5, h6, h7, h8, h9, h10, h11⟩ := h
  exact ⟨TxR_c h1 rfl rfl, rfl, h3, h4, h5, h6, h7, h8, h9, h10, h11⟩
theorem test_cmp {n : Nat} {c : Nat → Nat} {tp : St} (tx : Tx n c tp) {op : Nat} (hop : op ≤ 6) {i m w : Nat} {S O : Nat → Nat} {u lw v : St} {k : Nat} (hmi : m ≤ i) (hwi : w ≤ i) (h : Cu n c i 0 u) (ca : CA m S O lw) (hs : Hs n c i m S O w op 0 0 v) (hst : Stop w v) (hk : n - i < k + 1) (r : Option (St × St)) (q : Option (Int32 × St)) (er : r = (fX3_readSum 8 u tp lw (nI op)).bind fun z6 => if fX1_isFaulty z6.1 = 0 then if fX10_isOutcome (z6.1 3 0) = 0 then some (fX1_failHere z6.1 1, z6.2) else (fX1_next z6.1 tp).bind fun z12 => (fX3_readSum 8 z12 tp z6.2 (nI op)).bind fun z13 => (fX2_put z13.2 (z6.1 3 0) 0).bind fun z14 => some (z13.1, z14.2) else some (fX1_failHere z6.1 1, z6.2)) (eq : q = (fX12_readsCompared v).bind fun z28 => if z28.1 = 0 then some (0, z28.2) else LL k FU z28.2) : (∃ i' m' S' O' u' lw' v' k' f' e', r = some (u', lw') ∧ q = EP e' k' f' v' ∧ Pc n c i m S O w lw v i' m' S' O' u' lw' v' ∧ Hs n c i' m' S' O' w op 0 0 v' ∧ i < i' ∧ Seg S' O' m m' [] [true] ∧ n - i' < k' ∧ n - i' < f' ∧ w < e') ∨ BadO n c v r q := by
  have hn := tx.1
  have hin := h.1
  rcases sumC_n tx hop (T := []) (by show 0 ≤ _; omega) hmi hwi h ca hs hst with ⟨i1, m1, S1, O1, u1, lw1, v1, r1, r2, ⟨r3, r4, r5, r6, r7, r8, r9, r10⟩, r11, r12, r13⟩ | ⟨F, i1, u1, lw1, v1, r0, r1, r2, r3, r4, r5, r6⟩
  · have hi1 := r3.1
    have hm1 := r4.2.1
    obtain ⟨g1, g2, g3, -, -, -, g7, g8, g9, -, -⟩ := id r11
    rw [r1, sbind] at er
    dsimp only at er
    rw [faulty_n r3, if_pos rfl] at er
    have u13 := r3.2.2.2.1
    rw [comp_c r2 (here_n g1 g2 hi1)] at eq
    have good : ∀ s e : Nat, (s = 60 ∨ s = 62 ∨ s = 61) → sgn n c i1 = nI s → encS s = e → 7 ≤ e → e ≤ 9 → ¬ fX10_isOutcome (nI s) = 0 → q = (fX12_readsCompared_J52 v1 (nI e)).bind (fun z28 => if z28.1 = 0 then some (0, z28.2) else LL k FU z28.2) → (∃ i' m' S' O' u' lw' v' k' f' e', r = some (u', lw') ∧ q = EP e' k' f' v' ∧ Pc n c i m S O w lw v i' m' S' O' u' lw' v' ∧ Hs n c i' m' S' O' w op 0 0 v' ∧ i < i' ∧ Seg S' O' m m' [] [true] ∧ n - i' < k' ∧ n - i' < f' ∧ w < e') ∨ BadO n c v r q := by
      intro s e hse es ee e7 e9 io eq2
      obtain ⟨l1, l2⟩ := sgn_is (fun j hj => (tx.2.2 j hj).1) (by omega) es
      obtain ⟨u2, n1', n2'⟩ := next_n tx r3 l1
      rw [if_neg (show ¬ fX10_isOutcome (u1 3 0) = 0 by rw [u13, es]; exact io), n1', sbind] at er
      have J : fX12_readsCompared_J52 v1 (nI e) = (fX12_readsSum (st v1 7 0 (nI (i1 + 1)))).bind fun z3 => if z3.1 = 0 then some (0, z3.2) else (fX12_notes z3.2 (nI e) 0).bind fun z5 => (fX12_endsPiece z5).bind fun z6 => some (1, z6) := by
        unfold fX12_readsCompared_J52
        rw [if_neg (fun x => m1_ne (by omega) x.symm), g2, n1, lett_s]
      rw [J] at eq2
      have qf1 : QFr v (st v1 7 0 (nI (i1 + 1))) := QFr_st r9 (by omega)
      rcases sumC_n tx hop (T := [false]) (by show 1 ≤ _; omega) (i := i1 + 1) (m := m1) (w := w) (S := S1) (O := O1) (u := u2) (lw := lw1) (v := st v1 7 0 (nI (i1 + 1))) (by omega) (by omega) n2' r4 (Hs_7 r11 (i1 + 1)) (Stop_w hst r10) with ⟨i2, m2, S2, O2, u3, lw2, v2, t1, t2, ⟨t3, t4, t5, t6, t7, t8, t9, t10⟩, t11, t12, t13⟩ | ⟨F, i2, u3, lw2, v2, t0, t1, t2, t3, t4, t5, t6⟩
      · have hi2 := t3.1
        obtain ⟨lw3, p1, p2, p3⟩ := put_n (s := s) (o := 0) t4 (by omega) rfl (show (0 : Int32) = nI 0 from rfl)
        rw [t1, sbind] at er
        dsimp only at er
        rw [u13, es, p1, sbind] at er
        rw [t2, sbind, if_neg n10] at eq2
        dsimp only at eq2
        have nn := notes_n (v := v2) (x := nI e) (y := 0) (m := m2) (e := e) (o := 0) t11.2.2.2.2.2.2.1 (by omega) rfl rfl
        rw [nn, sbind] at eq2
        have eE : q = EP FU k FU (st (st v2 16 m2 (nI (1048576 * e + 0))) 12 0 (nI (m2 + 1))) := by
          rw [eq2]
          unfold EP fX12_endsPiece
          cases fX12_endsPiece_L0 FU (st (st v2 16 m2 (nI (1048576 * e + 0))) 12 0 (nI (m2 + 1))) with
          | none => rfl
          | some z => rw [sbind, sbind, sbind, if_neg n10]
        refine Or.inl ⟨i2, m2 + 1, upN S2 m2 s, upN O2 m2 0, u3, lw3, _, k, FU, FU, er, eE, ⟨t3, p2, by omega, by omega, fun j hj => ?_, LKFr_t r8 (LKFr_t t8 p3), QFr_st (QFr_st (QFr_t qf1 t9) (by omega)) (by omega), fun j hj => ?_⟩, Hs_put t11 (s := s) (o := 0) t11.2.1 rfl (by rw [ee]; rfl) rfl rfl rfl rfl, by omega, ?_, by omega, show n - i2 < 1000000 by omega, show w < 1000000 by omega⟩
        · obtain ⟨a1, a2⟩ := agr (S := S2) (O := O2) (s := s) (o := 0) j (show j < m2 by omega)
          obtain ⟨b1, b2⟩ := t7 j (by omega)
          obtain ⟨c1, c2⟩ := r7 j hj
          exact ⟨a1.trans (b1.trans c1), a2.trans (b2.trans c2)⟩
        · show v2 17 j = v 17 j
          rw [t10 j hj]
          exact r10 j hj
        · refine Seg_comp (Seg_cong (Seg_comp (Seg_cong r13 (fun j _ hj => t7 j hj)) t13) (fun j _ hj => agr j hj)) (Seg_one (by decide) (Or.inr (Or.inr (Or.inr (Or.inr ⟨?_, upN_s _ _ _, [], rfl, rfl⟩)))))
          rw [upN_s]; exact hse
      · obtain ⟨z, lw3, p1, p2⟩ := put_f t4 (u1 3 0) 0
        rw [t1, sbind] at er
        dsimp only at er
        rw [p1, sbind] at er
        rw [t2, sbind, if_pos rfl, sbind, if_pos rfl] at eq2
        exact Or.inr ⟨F, i2, u3, lw3, v2, t0, er, eq2, t3, p2, t5, QFr_t qf1 t6⟩
    by_cases q1 : sgn n c i1 = 60
    · rw [if_pos q1] at eq
      exact good 60 7 (Or.inl rfl) q1 rfl (by decide) (by decide) (by decide) eq
    · by_cases q2 : sgn n c i1 = 62
      · rw [if_neg q1, if_pos q2] at eq
        exact good 62 8 (Or.inr (Or.inl rfl)) q2 rfl (by decide) (by decide) (by decide) eq
      · by_cases q3 : sgn n c i1 = 61
        · rw [if_neg q1, if_neg q2, if_pos q3] at eq
          exact good 61 9 (Or.inr (Or.inr rfl)) q3 rfl (by decide) (by decide) (by decide) eq
        · have io : fX10_isOutcome (sgn n c i1) = 0 := by
            unfold fX10_isOutcome
            rw [if_neg q1, if_neg q2, if_neg q3]
          rw [if_neg q1, if_neg q2, if_neg q3] at eq
          rw [if_pos (show fX10_isOutcome (u1 3 0) = 0 by rw [u13]; exact io)] at er
          have J : fX12_readsCompared_J52 v1 (-1) = some (0, st v1 9 0 (fo 1 i1)) := by
            unfold fX12_readsCompared_J52
            rw [if_pos rfl, wrong_n (x := 1) (k := 1) g2 rfl, lett_s]
            dsimp only
            rw [zb_0]
          rw [J, sbind, if_pos rfl] at eq
          exact Or.inr ⟨fo 1 i1, i1, _, _, _, fo_ne (by decide) (by decide) (by omega), er, eq, fail_n r3 rfl, CA_K r4, rfl, QFr_st r9 (by omega)⟩
  · rw [r1, sbind] at er
    dsimp only at er
    rw [faulty_f r3 r0, if_neg (by decide), fail_f r3 r0] at er
    have e2 : fX12_readsCompared v = some (0, v1) := by
      unfold fX12_readsCompared
      rw [r2, sbind]
      exact if_pos rfl
    rw [e2, sbind, if_pos rfl] at eq
    exact Or.inr ⟨F, i1, u1, lw1, v1, r0, er, eq, r3, r4, r5, r6⟩
theorem test_all {n : Nat} {c : Nat → Nat} {tp : St} (tx : Tx n c tp) : ∀ (d op : Nat), 7 ≤ d + op → op ≤ 6 → TestP n c tp op (fX3_readTest d) := by
  have hn := tx.1
  intro d
  induction d with
  | zero => intro op h1 h2; omega
  | succ d ih =>
    intro op h1 hop i m S O w u lw v k hmi hwi hw1 h ca hs hst hk
    have hin := h.1
    obtain ⟨k, rfl⟩ : ∃ k', k = k' + 1 := ⟨k - 1, by omega⟩
    obtain ⟨s1, s2, s3, -, -, -, s7, s8, s9, -, -⟩ := id hs
    have uA : fX3_readTest (d + 1) u tp lw (nI op) = bX3_readTest (fX3_readTest d) u tp lw (nI op) := rfl
    rw [test_c h] at uA
    have uB := L40_c (k := k) s1 s2 hin
    by_cases q33 : sgn n c i = 33
    · obtain ⟨l1, l2⟩ := sgn_is (k := 33) (fun j hj => (tx.2.2 j hj).1) (by omega) q33
      rw [if_pos q33] at uA uB
      by_cases q6 : op = 6
      · subst q6
        rw [opens3_x, sbind, if_pos rfl] at uA
        rw [opens_x s3 s2, sbind, if_pos rfl] at uB
        exact Or.inr ⟨fo 5 i, i, _, _, _, fo_ne (by decide) (by decide) (by omega), uA, uB, fail_n h rfl, CA_K ca, rfl, QFr_st (QFr_rfl v) (by omega)⟩
      · obtain ⟨u1, a1, a2⟩ := opens3_y tx h l1 (show op < 6 by omega)
        obtain ⟨v1, b1, b2, b3, b4, b5⟩ := opens_y (x := 10) (e := 10) hs (show op < 6 by omega) (by omega) rfl
        rw [a1, sbind, if_neg n10, n1] at uA
        rw [b1, sbind, if_neg n10] at uB
        dsimp only at uA uB
        rcases ih (op + 1) (by omega) (by omega) (i + 1) m S O (w + 1) u1 lw v1 k (by omega) (by omega) (by omega) a2 ca b2 (Or.inr ⟨10, 0, b3, by decide, by decide, by decide⟩) (by omega) with ⟨i2, m2, S2, O2, u2, lw2, v3, k2, f2, e', r1, r2, ⟨r3, r4, r5, r6, r7, r8, r9, r10⟩, r11, r12, r13, r14, r15, r16⟩ | ⟨F, i2, u2, lw2, v3, r0, r1, r2, r3, r4, r5, r6⟩
        · have hi2 := r3.1
          obtain ⟨e', rfl⟩ : ∃ e, e' = e + 1 := ⟨e' - 1, by omega⟩
          obtain ⟨lw3, p1, p2, p3⟩ := put_n (x := 33) (y := 0) (s := 33) (o := 0) r4 (by omega) rfl rfl
          obtain ⟨v4, d1, d2, d3, d4⟩ := ends_n r11 (by omega) (by omega) ((r10 w (by omega)).trans b3) e' k2 f2
          rw [r1, sbind] at uA
          dsimp only at uA
          rw [p1, sbind] at uA
          refine Or.inl ⟨i2, m2 + 1, upN S2 m2 33, upN O2 m2 0, u2, lw3, v4, k2, f2, e', uA, uB.trans (r2.trans d1), ⟨r3, p2, by omega, by omega, fun j hj => ?_, LKFr_t r8 p3, QFr_t (QFr_t b5 r9) d4, fun j hj => by rw [d3, r10 j (by omega), b4 j hj]⟩, d2, by omega, ?_, by omega, by omega, by omega⟩
          · obtain ⟨x1, x2⟩ := agr (S := S2) (O := O2) (s := 33) (o := 0) j (show j < m2 by omega)
            obtain ⟨y1, y2⟩ := r7 j hj
            exact ⟨x1.trans y1, x2.trans y2⟩
          · exact Seg_comp (Seg_cong r13 (fun j _ hj => agr j hj)) (Seg_one (by decide) (Or.inr (Or.inr (Or.inl ⟨upN_s _ _ _, upN_s _ _ _, [], rfl, rfl⟩))))
        · obtain ⟨z, lw3, p1, p2⟩ := put_f r4 33 0
          rw [r1, sbind] at uA
          dsimp only at uA
          rw [p1, sbind] at uA
          exact Or.inr ⟨F, i2, u2, lw3, v3, r0, uA, uB.trans r2, r3, p2, r5, QFr_t b5 r6⟩
    · rw [if_neg q33] at uA uB
      by_cases q40 : sgn n c i = 40
      · obtain ⟨l1, l2⟩ := sgn_is (k := 40) (fun j hj => (tx.2.2 j hj).1) (by omega) q40
        rw [if_pos q40] at uA uB
        by_cases q6 : op = 6
        · subst q6
          rw [opens3_x, sbind, if_pos rfl] at uA
          rw [opens_x s3 s2, sbind, if_pos rfl] at uB
          exact Or.inr ⟨fo 5 i, i, _, _, _, fo_ne (by decide) (by decide) (by omega), uA, uB, fail_n h rfl, CA_K ca, rfl, QFr_st (QFr_rfl v) (by omega)⟩
        · obtain ⟨u1, a1, a2⟩ := opens3_y tx h l1 (show op < 6 by omega)
          obtain ⟨v1, b1, b2, b3, b4, b5⟩ := opens_y (x := 13) (e := 13) hs (show op < 6 by omega) (by omega) rfl
          rw [a1, sbind, if_neg n10, n1] at uA
          rw [b1, sbind, if_neg n10] at uB
          dsimp only at uA uB
          rcases condC_n tx (ih (op + 1) (by omega) (by omega)) (i := i + 1) (m := m) (w := w + 1) (S := S) (O := O) (u := u1) (lw := lw) (v := v1) (k := k) (by omega) (by omega) a2 ca b2 ⟨by omega, b3⟩ (by omega) with ⟨i2, m2, S2, O2, u2, lw2, v3, k2, f2, po, jo, pn, jn, r1, r2, ⟨r3, r4, r5, r6, r7, r8, r9, r10⟩, r11, r17, r12, r13, r14, r15, r16, r18⟩ | ⟨F, i2, u2, lw2, v3, r0, r1, r2, r3, r4, r5, r6⟩
          · have hi2 := r3.1
            obtain ⟨f2, rfl⟩ : ∃ f, f2 = f + 1 := ⟨f2 - 1, by omega⟩
            obtain ⟨g1, g2, -⟩ := id r11
            rw [r1, sbind] at uA
            dsimp only at uA
            by_cases q41 : sgn n c i2 = 41
            · obtain ⟨l3, l4⟩ := sgn_is (k := 41) (fun j hj => (tx.2.2 j hj).1) (by omega) q41
              obtain ⟨u3, t1, t2⟩ := take_y tx r3 l3 q41
              have v3w : v3 17 w = nI (1048576 * 13 + 0) := (r10 w (by omega)).trans b3
              obtain ⟨v4, c1, c2, c3⟩ := land_1 r11 r17 (by omega) ⟨by omega, v3w⟩
              obtain ⟨v5, d1, d2, d3, d4⟩ := LL_close (k := k2) (f := f2) g1 g2 hi2 q41 c1 c2
              rw [if_neg (fun e => by have := (nI_eq (b := 0) (by omega) (by omega)).mp e; omega)] at d1
              rw [t1, sbind] at uA
              refine Or.inl ⟨i2 + 1, m2, S2, O2, u3, lw2, v5, k2, f2, FU, uA, uB.trans (r2.trans d1), ⟨t2, r4, by omega, by omega, r7, r8, QFr_t (QFr_La (QFr_t b5 r9) c3) d4, fun j hj => ?_⟩, d2, by omega, r13, by omega, by omega, show w < 1000000 by omega⟩
              rw [d3, c3 17 (by decide) (by decide), r10 j (by omega), b4 j hj]
            · obtain ⟨u3, t1, t2⟩ := take_x (tp := tp) r3 q41
              rw [t1, sbind] at uA
              have d1 := LL_bad (k := k2) (f := f2) g1 g2 hi2 q41 r16 r18
              exact Or.inr ⟨fo 1 i2, i2, _, _, _, fo_ne (by decide) (by decide) (by omega), uA, uB.trans (r2.trans d1), t2, CA_K r4, rfl, QFr_st (QFr_t b5 r9) (by omega)⟩
          · rw [r1, sbind] at uA
            dsimp only at uA
            rw [take_f r3 r0, sbind] at uA
            exact Or.inr ⟨F, i2, _, _, _, r0, uA, uB.trans r2, r3, r4, r5, QFr_t b5 r6⟩
      · rw [if_neg q40] at uA uB
        exact test_cmp tx hop hmi hwi h ca hs hst hk _ _ uA uB
