/-! ===== parts and conditions ===== -/
theorem LL_and {n : Nat} {c : Nat → Nat} {i : Nat} {v v1 v2 : St} {k f : Nat} (txr : TxR n c v) (h7 : v 7 0 = nI i) (hi : i ≤ n) (hs : sgn n c i = 38) (hl : fX12_lands v 0 = some v1) (txr1 : TxR n c v1) (h71 : v1 7 0 = nI i) (hj : fX12_jumps v1 11 = some v2) : LL k (f + 1) v = fX12_readsCondition_L40 k v2 := by
  show bX12_readsCondition_L92 _ _ _ = _
  unfold bX12_readsCondition_L92 fX12_readsCondition_J180 fX12_readsCondition_J195 fX12_readsCondition_J215
  rw [here_n txr h7 hi, sbind, hs, if_neg (by decide), sbind, if_pos rfl, sbind, if_neg (by decide), hl, sbind, here_n txr1 h71 hi, sbind, hs, if_pos rfl, hj, sbind]
theorem LL_or {n : Nat} {c : Nat → Nat} {i : Nat} {v v1 v2 : St} {k f : Nat} (txr : TxR n c v) (h7 : v 7 0 = nI i) (hi : i ≤ n) (hs : sgn n c i = 124) (hl : fX12_lands v 1 = some v1) (txr1 : TxR n c v1) (h71 : v1 7 0 = nI i) (hj : fX12_jumps v1 12 = some v2) : LL k (f + 1) v = fX12_readsCondition_L40 k v2 := by
  show bX12_readsCondition_L92 _ _ _ = _
  unfold bX12_readsCondition_L92 fX12_readsCondition_J180 fX12_readsCondition_J195 fX12_readsCondition_J215
  rw [here_n txr h7 hi, sbind, hs, if_neg (by decide), sbind, if_neg (by decide), sbind, if_pos rfl, sbind, if_pos rfl, hl, sbind, here_n txr1 h71 hi, sbind, hs, if_neg (by decide), hj, sbind]
theorem LL_bad {n : Nat} {c : Nat → Nat} {i : Nat} {v : St} {k f : Nat} (txr : TxR n c v) (h7 : v 7 0 = nI i) (hi : i ≤ n) (h1 : ¬ sgn n c i = 41) (h2 : ¬ sgn n c i = 38) (h3 : ¬ sgn n c i = 124) : LL k (f + 1) v = some (0, st v 9 0 (fo 1 i)) := by
  show bX12_readsCondition_L92 _ _ _ = _
  unfold bX12_readsCondition_L92
  rw [here_n txr h7 hi, sbind, if_neg h1, sbind, if_neg h2, sbind, if_neg h3, wrong_n (x := 1) (k := 1) h7 rfl, lett_s]
  dsimp only
  rw [zb_0]
/-- ) : what waits lands, the bracket is closed -/
theorem LL_close {n : Nat} {c : Nat → Nat} {i m : Nat} {S O : Nat → Nat} {w op : Nat} {v v1 : St} {k f : Nat} (txr : TxR n c v) (h7 : v 7 0 = nI i) (hi : i ≤ n) (hs : sgn n c i = 41) (hl : fX12_lands v 1 = some v1) (h : Hs n c i m S O (w + 1) (op + 1) 0 0 v1) : ∃ v2, LL k (f + 1) v = (if nI w = 0 then some (1, v2) else EP FU k f v2) ∧ Hs n c (i + 1) m S O w op 0 0 v2 ∧ v2 17 = v1 17 ∧ QFr v1 v2 := by
  obtain ⟨h1, h2, h3, h4, h5, h6, h77, h8, h9, h10, h11⟩ := id h
  refine ⟨st (st (st v1 13 0 (nI w)) 11 0 (nI op)) 7 0 (nI (i + 1)), ?_, ⟨TxR_c h1 rfl rfl, rfl, rfl, by omega, by omega, by omega, h77, rfl, h9, fun e => by omega, fun e => by omega⟩, rfl, QFr_st (QFr_st (QFr_st (QFr_rfl v1) (by omega)) (by omega)) (by omega)⟩
  show bX12_readsCondition_L92 _ _ _ = _
  unfold bX12_readsCondition_L92
  rw [here_n txr h7 hi, sbind, if_pos hs, hl, sbind, show v1 13 0 = nI (w + 1) from h8, tps, lett_s, show st v1 13 0 (nI w) 11 0 = nI (op + 1) from h3, tps, lett_s, show st (st v1 13 0 (nI w)) 11 0 (nI op) 7 0 = nI i from h2, n1, lett_s]
  rfl
def TestP (n : Nat) (c : Nat → Nat) (tp : St) (op : Nat) (rd : St → St → St → Int32 → Option (St × St)) : Prop := ∀ (i m : Nat) (S O : Nat → Nat) (w : Nat) (u lw v : St) (k : Nat), m ≤ i → w ≤ i → 1 ≤ w → Cu n c i 0 u → CA m S O lw → Hs n c i m S O w op 0 0 v → Stop w v → n - i < k → (∃ i' m' S' O' u' lw' v' k' f' e', rd u tp lw (nI op) = some (u', lw') ∧ fX12_readsCondition_L40 k v = EP e' k' f' v' ∧ Pc n c i m S O w lw v i' m' S' O' u' lw' v' ∧ Hs n c i' m' S' O' w op 0 0 v' ∧ i < i' ∧ Seg S' O' m m' [] [true] ∧ n - i' < k' ∧ n - i' < f' ∧ w < e') ∨ BadO n c v (rd u tp lw (nI op)) (fX12_readsCondition_L40 k v)
theorem EP_LL {w e k f : Nat} {v : St} (h13 : v 13 0 = nI w) (hw : w ≤ 250) (hs : 1 ≤ w ∧ ∃ x o, v 17 (w - 1) = nI (1048576 * x + o) ∧ 11 ≤ x ∧ x ≤ 14 ∧ o < 1048576) (he : w < e) : EP e k f v = LL k f v := by
  obtain ⟨e, rfl⟩ : ∃ e', e = e' + 1 := ⟨e - 1, by omega⟩
  obtain ⟨h1, x, o, h2, h3, h4, h5⟩ := hs
  exact ends_s (top_w h13 h1 hw h2 h4 h5) (fun q => by have := (nI_eq (b := 10) (by omega) (by omega)).mp q; omega) k f
/-- more tests -/
theorem partC_L {n : Nat} {c : Nat → Nat} {tp : St} (tx : Tx n c tp) {op : Nat} {rd : St → St → St → Int32 → Option (St × St)} (htest : TestP n c tp op rd) {m0 w : Nat} : ∀ (mf i m : Nat) (S O : Nat → Nat) (u lw v : St) (k f pn jn x3 : Nat), n - i < mf → n - i < k → n - i < f → x3 ≤ i → m ≤ i → w ≤ i → m0 ≤ m → Cu n c i 0 u → CA m S O lw → Hc n c i m S O w op m0 0 0 pn jn v → StopN w v → Seg S O m0 m [] [true] → (∃ i' m' S' O' u' lw' v' k' f' pn' jn', fX3_readPart_L8 rd tp mf u lw (nI op) (nI x3) = some (u', lw') ∧ LL k f v = LL k' f' v' ∧ Pc n c i m S O w lw v i' m' S' O' u' lw' v' ∧ Hc n c i' m' S' O' w op m0 0 0 pn' jn' v' ∧ i ≤ i' ∧ Seg S' O' m0 m' [] [true] ∧ n - i' < k' ∧ n - i' < f' ∧ ¬ sgn n c i' = 38) ∨ BadO n c v (fX3_readPart_L8 rd tp mf u lw (nI op) (nI x3)) (LL k f v) := by
  have hn := tx.1
  intro mf
  induction mf with
  | zero => intro i m S O u lw v k f pn jn x3 h; omega
  | succ mf ih =>
    intro i m S O u lw v k f pn jn x3 hmf hk hf hx3 hmi hwi hm0 h ca hc hst sg
    have hin := h.1
    obtain ⟨s1, s2, s3, -, -, -, -, s8, -, -, -⟩ := id hc
    have uA : fX3_readPart_L8 rd tp (mf + 1) u lw (nI op) (nI x3) = bX3_readPart_L8 rd tp (fX3_readPart_L8 rd tp mf) u lw (nI op) (nI x3) := rfl
    unfold bX3_readPart_L8 at uA
    rw [sees_n h] at uA
    by_cases q : sgn n c i = 38
    · obtain ⟨l1, l2⟩ := sgn_is (k := 38) (fun j hj => (tx.2.2 j hj).1) (by omega) q
      obtain ⟨f, rfl⟩ : ∃ f', f = f' + 1 := ⟨f - 1, by omega⟩
      obtain ⟨lw1, p1, p2, p3⟩ := put_n (x := 38) (y := 0) (s := 38) (o := 0) ca (by omega) rfl rfl
      obtain ⟨u1, e1, e2⟩ := next_n tx h l1
      rw [if_pos q, lett_s, if_neg (show ¬ (240 : Int32) ≤ nI x3 from nI_ge (b := 240) (by omega) (by decide)), if_neg (by decide), p1, sbind, e1, sbind] at uA
      dsimp only at uA
      obtain ⟨v1, c1, c2, c3⟩ := land_0 hc (by omega) hst
      obtain ⟨v2, d1, d2, d3, d4, d5⟩ := jumps_n (x := 11) (s := 38) (e := 11) c2 (by omega) (by omega) rfl rfl
      have uB := LL_and (k := k) (f := f) s1 s2 hin q c1 c2.1 c2.2.1 d1
      have v17 : ∀ j, j < w → v2 17 j = v 17 j := fun j hj => by rw [d4 j hj, c3 17 (by decide) (by decide)]
      have qf2 : QFr v v2 := QFr_t (QFr_La (QFr_rfl v) c3) d5
      rw [uB]
      rcases htest (i + 1) (m + 1) (upN S m 38) (upN O m 0) (w + 1) u1 lw1 v2 k (by omega) (by omega) (by omega) e2 p2 d2 (Or.inr ⟨11, m, d3, by decide, by decide, by omega⟩) (by omega) with ⟨i2, m2, S2, O2, u2, lw2, v3, k2, f2, e', r1, r2, ⟨r3, r4, r5, r6, r7, r8, r9, r10⟩, r11, r12, r13, r14, r15, r16⟩ | ⟨F, i2, u2, lw2, v3, r0, r1, r2, r3, r4, r5, r6⟩
      · have hi2 := r3.1
        obtain ⟨lw3, g1, g2, g3⟩ := leadC_n (j := m) r4 (by omega)
        rw [r1, sbind] at uA
        dsimp only at uA
        rw [g1, sbind, lett_s, n1] at uA
        have v3w : v3 17 w = nI (1048576 * 11 + m) := (r10 w (by omega)).trans d3
        have eE : EP e' k2 f2 v3 = LL k2 f2 v3 := EP_LL (w := w + 1) r11.2.2.2.2.2.2.2.1 (by omega) ⟨by omega, 11, m, v3w, by decide, by decide, by omega⟩ (by omega)
        rw [r2, eE, uA]
        obtain ⟨a1, a2⟩ := r7 m (by omega)
        rw [upN_s] at a1 a2
        obtain ⟨b1, b2, b3, -, -, -, b7, b8, b9, -, -⟩ := id r11
        have hc2 : Hc n c i2 m2 S2 (upN O2 m m2) w op m0 0 0 1 m v3 := by
          refine ⟨b1, b2, b3, by omega, by omega, r4.2.1, b7, b8, fun j hj _ hne => ?_, fun e => by omega, fun _ => ⟨hm0, by omega, a1, upN_s _ _ _, ?_, v3w⟩⟩
          · rw [upN_n (hne rfl)]; exact b9 j (by omega)
          · rw [b9 m (by omega), a1, a2]; rfl
        have agr2 : ∀ j, j < m → S2 j = S j ∧ upN O2 m m2 j = O j := fun j hj => by
          obtain ⟨x1, x2⟩ := r7 j (by omega)
          obtain ⟨y1, y2⟩ := agr (S := S) (O := O) (s := 38) (o := 0) j hj
          exact ⟨x1.trans y1, (upN_n (by omega)).trans (x2.trans y2)⟩
        have sg2 : Seg S2 (upN O2 m m2) m0 m2 [] [true] := by
          refine Seg_comp (Seg_cong sg (fun j _ hj => agr2 j hj)) (Seg_jmp (Or.inl a1) (upN_s _ _ _) (by decide) (Seg_cong r13 (fun j h1 _ => ⟨rfl, upN_n (by omega)⟩)))
        rcases ih i2 m2 S2 (upN O2 m m2) u2 lw3 v3 k2 f2 1 m (x3 + 1) (by omega) r14 r15 (by omega) (by omega) (by omega) (by omega) r3 g2 hc2 (StopN_w hst (fun j hj => by rw [r10 j (by omega), v17 j hj])) sg2 with ⟨i', m', S', O', u', lw', v', k', f', pn', jn', t1, t2, ⟨t3, t4, t5, t6, t7, t8, t9, t10⟩, t11, t12, t13, t14, t15, t16⟩ | ⟨F, i', u', lw', v', t0, t1, t2, t3, t4, t5, t6⟩
        · refine Or.inl ⟨i', m', S', O', u', lw', v', k', f', pn', jn', t1, t2, ⟨t3, t4, by omega, by omega, fun j hj => ?_, LKFr_t p3 (LKFr_t r8 (LKFr_t g3 t8)), QFr_t (QFr_t qf2 r9) t9, fun j hj => ?_⟩, t11, by omega, t13, t14, t15, t16⟩
          · obtain ⟨x1, x2⟩ := t7 j (by omega)
            obtain ⟨y1, y2⟩ := agr2 j hj
            exact ⟨x1.trans y1, x2.trans y2⟩
          · rw [t10 j hj, r10 j (by omega), v17 j hj]
        · exact Or.inr ⟨F, i', u', lw', v', t0, t1, t2, t3, t4, t5, QFr_t (QFr_t qf2 r9) t6⟩
      · obtain ⟨lw3, g1, g2⟩ := leadC_f r4 (nI m)
        rw [r1, sbind] at uA
        dsimp only at uA
        rw [g1, sbind, lett_s, partL_f r0 r3 rd _ _ (show 1 ≤ mf by omega)] at uA
        exact Or.inr ⟨F, i2, u2, lw3, v3, r0, uA, r2, r3, g2, r5, QFr_t qf2 r6⟩
    · rw [if_neg q, lett_s, if_pos rfl, ite_self] at uA
      exact Or.inl ⟨i, m, S, O, u, lw, v, k, f, pn, jn, uA, rfl, Pc_rfl h ca, hc, Nat.le_refl i, sg, hk, hf, q⟩
theorem partC_n {n : Nat} {c : Nat → Nat} {tp : St} (tx : Tx n c tp) {op : Nat} {rd : St → St → St → Int32 → Option (St × St)} (htest : TestP n c tp op rd) {i m w : Nat} {S O : Nat → Nat} {u lw v : St} {k : Nat} (hmi : m ≤ i) (hwi : w ≤ i) (h : Cu n c i 0 u) (ca : CA m S O lw) (hs : Hs n c i m S O w op 0 0 v) (hst : StopN w v) (hk : n - i < k) : (∃ i' m' S' O' u' lw' v' k' f' pn' jn', fX3_readPart rd u tp lw (nI op) = some (u', lw') ∧ fX12_readsCondition_L40 k v = LL k' f' v' ∧ Pc n c i m S O w lw v i' m' S' O' u' lw' v' ∧ Hc n c i' m' S' O' w op m 0 0 pn' jn' v' ∧ i < i' ∧ Seg S' O' m m' [] [true] ∧ n - i' < k' ∧ n - i' < f' ∧ ¬ sgn n c i' = 38) ∨ BadO n c v (fX3_readPart rd u tp lw (nI op)) (fX12_readsCondition_L40 k v) := by
  have hn := tx.1
  have uA : fX3_readPart rd u tp lw (nI op) = (rd u tp lw (nI op)).bind fun z9 => fX3_readPart_L8 rd tp FU z9.1 z9.2 (nI op) 1 := rfl
  rcases htest i m S O w u lw v k hmi hwi hst.1 h ca hs (StopN_S hst) hk with ⟨i2, m2, S2, O2, u2, lw2, v3, k2, f2, e', r1, r2, ⟨r3, r4, r5, r6, r7, r8, r9, r10⟩, r11, r12, r13, r14, r15, r16⟩ | ⟨F, i2, u2, lw2, v3, r0, r1, r2, r3, r4, r5, r6⟩
  · have hi2 := r3.1
    obtain ⟨q1, x, o, q2, q3, q4⟩ := StopN_w hst r10
    have eE : EP e' k2 f2 v3 = LL k2 f2 v3 := EP_LL (w := w) r11.2.2.2.2.2.2.2.1 (by omega) ⟨q1, x, o, q2, by omega, by omega, q4⟩ r16
    rw [uA, r1, sbind, r2, eE]
    dsimp only
    rcases partC_L tx htest (m0 := m) (w := w) FU i2 m2 S2 O2 u2 lw2 v3 k2 f2 0 0 1 (show n - i2 < 1000000 by omega) r14 r15 (by omega) (by omega) (by omega) (by omega) r3 r4 (Hs_Hc m 0 0 r4.2.1 r11) ⟨q1, x, o, q2, q3, q4⟩ r13 with ⟨i', m', S', O', u', lw', v', k', f', pn', jn', t1, t2, ⟨t3, t4, t5, t6, t7, t8, t9, t10⟩, t11, t12, t13, t14, t15, t16⟩ | ⟨F, i', u', lw', v', t0, t1, t2, t3, t4, t5, t6⟩
    · refine Or.inl ⟨i', m', S', O', u', lw', v', k', f', pn', jn', t1, t2, ⟨t3, t4, by omega, by omega, fun j hj => ?_, LKFr_t r8 t8, QFr_t r9 t9, fun j hj => by rw [t10 j hj, r10 j hj]⟩, t11, by omega, t13, t14, t15, t16⟩
      obtain ⟨x1, x2⟩ := t7 j (by omega)
      obtain ⟨y1, y2⟩ := r7 j hj
      exact ⟨x1.trans y1, x2.trans y2⟩
    · exact Or.inr ⟨F, i', u', lw', v', t0, t1, t2, t3, t4, t5, QFr_t r9 t6⟩
  · rw [uA, r1, sbind]
    dsimp only
    rw [partL_f r0 r3 rd _ _ (show 1 ≤ FU by decide)]
    exact Or.inr ⟨F, i2, u2, lw2, v3, r0, rfl, r2, r3, r4, r5, r6⟩
/-- more parts -/
theorem condC_L {n : Nat} {c : Nat → Nat} {tp : St} (tx : Tx n c tp) {op : Nat} {rd : St → St → St → Int32 → Option (St × St)} (htest : TestP n c tp op rd) {m0 w : Nat} : ∀ (mf i m : Nat) (S O : Nat → Nat) (u lw v : St) (k f po jo pn jn x3 : Nat), n - i < mf → n - i < k → n - i < f → x3 ≤ i → m ≤ i → w ≤ i → m0 ≤ m → Cu n c i 0 u → CA m S O lw → Hc n c i m S O w op m0 po jo pn jn v → (po = 1 → pn = 1 → jo ≠ jn) → Stop13 w v → Seg S O m0 m [] [true] → ¬ sgn n c i = 38 → (∃ i' m' S' O' u' lw' v' k' f' po' jo' pn' jn', fX3_readCondition_L8 rd tp mf u lw (nI op) (nI x3) = some (u', lw') ∧ LL k f v = LL k' f' v' ∧ Pc n c i m S O w lw v i' m' S' O' u' lw' v' ∧ Hc n c i' m' S' O' w op m0 po' jo' pn' jn' v' ∧ (po' = 1 → pn' = 1 → jo' ≠ jn') ∧ i ≤ i' ∧ Seg S' O' m0 m' [] [true] ∧ n - i' < k' ∧ n - i' < f' ∧ ¬ sgn n c i' = 38 ∧ ¬ sgn n c i' = 124) ∨ BadO n c v (fX3_readCondition_L8 rd tp mf u lw (nI op) (nI x3)) (LL k f v) := by
  have hn := tx.1
  intro mf
  induction mf with
  | zero => intro i m S O u lw v k f po jo pn jn x3 h; omega
  | succ mf ih =>
    intro i m S O u lw v k f po jo pn jn x3 hmf hk hf hx3 hmi hwi hm0 h ca hc hne hst sg n38
    have hin := h.1
    obtain ⟨s1, s2, s3, -, -, -, -, s8, -, -, -⟩ := id hc
    have uA : fX3_readCondition_L8 rd tp (mf + 1) u lw (nI op) (nI x3) = bX3_readCondition_L8 rd tp (fX3_readCondition_L8 rd tp mf) u lw (nI op) (nI x3) := rfl
    unfold bX3_readCondition_L8 at uA
    rw [sees_n h] at uA
    by_cases q : sgn n c i = 124
    · obtain ⟨l1, l2⟩ := sgn_is (k := 124) (fun j hj => (tx.2.2 j hj).1) (by omega) q
      obtain ⟨f, rfl⟩ : ∃ f', f = f' + 1 := ⟨f - 1, by omega⟩
      obtain ⟨lw1, p1, p2, p3⟩ := put_n (x := 124) (y := 0) (s := 124) (o := 0) ca (by omega) rfl rfl
      obtain ⟨u1, e1, e2⟩ := next_n tx h l1
      rw [if_pos q, lett_s, if_neg (show ¬ (240 : Int32) ≤ nI x3 from nI_ge (b := 240) (by omega) (by decide)), if_neg (by decide), p1, sbind, e1, sbind] at uA
      dsimp only at uA
      obtain ⟨v1, c1, c2, c3⟩ := land_1 hc hne (by omega) hst
      obtain ⟨v2, d1, d2, d3, d4, d5⟩ := jumps_n (x := 12) (s := 124) (e := 12) c2 (by omega) (by omega) rfl rfl
      have uB := LL_or (k := k) (f := f) s1 s2 hin q c1 c2.1 c2.2.1 d1
      have v17 : ∀ j, j < w → v2 17 j = v 17 j := fun j hj => by rw [d4 j hj, c3 17 (by decide) (by decide)]
      have qf2 : QFr v v2 := QFr_t (QFr_La (QFr_rfl v) c3) d5
      rw [uB]
      rcases partC_n tx htest (i := i + 1) (m := m + 1) (S := upN S m 124) (O := upN O m 0) (w := w + 1) (u := u1) (lw := lw1) (v := v2) (k := k) (by omega) (by omega) e2 p2 d2 ⟨by omega, 12, m, d3, Or.inl rfl, by omega⟩ (by omega) with ⟨i2, m2, S2, O2, u2, lw2, v3, k2, f2, pn2, jn2, r1, r2, ⟨r3, r4, r5, r6, r7, r8, r9, r10⟩, r11, r12, r13, r14, r15, r16⟩ | ⟨F, i2, u2, lw2, v3, r0, r1, r2, r3, r4, r5, r6⟩
      · have hi2 := r3.1
        obtain ⟨lw3, g1, g2, g3⟩ := leadC_n (j := m) r4 (by omega)
        rw [r1, sbind] at uA
        dsimp only at uA
        rw [g1, sbind, lett_s, n1] at uA
        have v3w : v3 17 w = nI (1048576 * 12 + m) := (r10 w (by omega)).trans d3
        rw [r2, uA]
        obtain ⟨a1, a2⟩ := r7 m (by omega)
        rw [upN_s] at a1 a2
        obtain ⟨b1, b2, b3, b4, b5, b6, b7, b8, b9, b10, b11⟩ := id r11
        have hc2 : Hc n c i2 m2 S2 (upN O2 m m2) w op m0 1 m pn2 jn2 v3 := by
          refine ⟨b1, b2, b3, by omega, b5, b6, b7, b8, fun j hj hne hne2 => ?_, fun _ => ⟨hm0, by omega, a1, upN_s _ _ _, ?_, v3w⟩, fun e => ?_⟩
          · rw [upN_n (hne rfl)]; exact b9 j hj (fun e => by omega) hne2
          · rw [b9 m (by omega) (fun e => by omega) (fun e q => by have := (b11 e).1; omega), a1, a2]; rfl
          · obtain ⟨y1, y2, y3, y4, y5, y6⟩ := b11 e
            exact ⟨by omega, y2, y3, (upN_n (by omega)).trans y4, y5, y6⟩
        have agr2 : ∀ j, j < m → S2 j = S j ∧ upN O2 m m2 j = O j := fun j hj => by
          obtain ⟨x1, x2⟩ := r7 j (by omega)
          obtain ⟨y1, y2⟩ := agr (S := S) (O := O) (s := 124) (o := 0) j hj
          exact ⟨x1.trans y1, (upN_n (by omega)).trans (x2.trans y2)⟩
        have sg2 : Seg S2 (upN O2 m m2) m0 m2 [] [true] := by
          refine Seg_comp (Seg_cong sg (fun j _ hj => agr2 j hj)) (Seg_jmp (Or.inr a1) (upN_s _ _ _) (by decide) (Seg_cong r13 (fun j h1 _ => ⟨rfl, upN_n (by omega)⟩)))
        rcases ih i2 m2 S2 (upN O2 m m2) u2 lw3 v3 k2 f2 1 m pn2 jn2 (x3 + 1) (by omega) r14 r15 (by omega) (by omega) (by omega) (by omega) r3 g2 hc2 (fun _ e q => by have := (b11 e).1; omega) (Stop13_w hst (fun j hj => by rw [r10 j (by omega), v17 j hj])) sg2 r16 with ⟨i', m', S', O', u', lw', v', k', f', po', jo', pn', jn', t1, t2, ⟨t3, t4, t5, t6, t7, t8, t9, t10⟩, t11, t17, t12, t13, t14, t15, t16⟩ | ⟨F, i', u', lw', v', t0, t1, t2, t3, t4, t5, t6⟩
        · refine Or.inl ⟨i', m', S', O', u', lw', v', k', f', po', jo', pn', jn', t1, t2, ⟨t3, t4, by omega, by omega, fun j hj => ?_, LKFr_t p3 (LKFr_t r8 (LKFr_t g3 t8)), QFr_t (QFr_t qf2 r9) t9, fun j hj => ?_⟩, t11, t17, by omega, t13, t14, t15, t16⟩
          · obtain ⟨x1, x2⟩ := t7 j (by omega)
            obtain ⟨y1, y2⟩ := agr2 j hj
            exact ⟨x1.trans y1, x2.trans y2⟩
          · rw [t10 j hj, r10 j (by omega), v17 j hj]
        · exact Or.inr ⟨F, i', u', lw', v', t0, t1, t2, t3, t4, t5, QFr_t (QFr_t qf2 r9) t6⟩
      · obtain ⟨lw3, g1, g2⟩ := leadC_f r4 (nI m)
        rw [r1, sbind] at uA
        dsimp only at uA
        rw [g1, sbind, lett_s, condL_f r0 r3 rd _ _ (show 1 ≤ mf by omega)] at uA
        exact Or.inr ⟨F, i2, u2, lw3, v3, r0, uA, r2, r3, g2, r5, QFr_t qf2 r6⟩
    · rw [if_neg q, lett_s, if_pos rfl, ite_self] at uA
      exact Or.inl ⟨i, m, S, O, u, lw, v, k, f, po, jo, pn, jn, uA, rfl, Pc_rfl h ca, hc, hne, Nat.le_refl i, sg, hk, hf, n38, q⟩
theorem condC_n {n : Nat} {c : Nat → Nat} {tp : St} (tx : Tx n c tp) {op : Nat} {rd : St → St → St → Int32 → Option (St × St)} (htest : TestP n c tp op rd) {i m w : Nat} {S O : Nat → Nat} {u lw v : St} {k : Nat} (hmi : m ≤ i) (hwi : w ≤ i) (h : Cu n c i 0 u) (ca : CA m S O lw) (hs : Hs n c i m S O w op 0 0 v) (hst : Stop13 w v) (hk : n - i < k) : (∃ i' m' S' O' u' lw' v' k' f' po' jo' pn' jn', fX3_readCondition rd u tp lw (nI op) = some (u', lw') ∧ fX12_readsCondition_L40 k v = LL k' f' v' ∧ Pc n c i m S O w lw v i' m' S' O' u' lw' v' ∧ Hc n c i' m' S' O' w op m po' jo' pn' jn' v' ∧ (po' = 1 → pn' = 1 → jo' ≠ jn') ∧ i < i' ∧ Seg S' O' m m' [] [true] ∧ n - i' < k' ∧ n - i' < f' ∧ ¬ sgn n c i' = 38 ∧ ¬ sgn n c i' = 124) ∨ BadO n c v (fX3_readCondition rd u tp lw (nI op)) (fX12_readsCondition_L40 k v) := by
  have hn := tx.1
  have uA : fX3_readCondition rd u tp lw (nI op) = (fX3_readPart rd u tp lw (nI op)).bind fun z9 => fX3_readCondition_L8 rd tp FU z9.1 z9.2 (nI op) 1 := rfl
  rcases partC_n tx htest hmi hwi h ca hs (Stop13_N hst) hk with ⟨i2, m2, S2, O2, u2, lw2, v3, k2, f2, pn2, jn2, r1, r2, ⟨r3, r4, r5, r6, r7, r8, r9, r10⟩, r11, r12, r13, r14, r15, r16⟩ | ⟨F, i2, u2, lw2, v3, r0, r1, r2, r3, r4, r5, r6⟩
  · have hi2 := r3.1
    rw [uA, r1, sbind, r2]
    dsimp only
    rcases condC_L tx htest (m0 := m) (w := w) FU i2 m2 S2 O2 u2 lw2 v3 k2 f2 0 0 pn2 jn2 1 (show n - i2 < 1000000 by omega) r14 r15 (by omega) (by omega) (by omega) (by omega) r3 r4 r11 (fun e => by omega) (Stop13_w hst r10) r13 r16 with ⟨i', m', S', O', u', lw', v', k', f', po', jo', pn', jn', t1, t2, ⟨t3, t4, t5, t6, t7, t8, t9, t10⟩, t11, t17, t12, t13, t14, t15, t16⟩ | ⟨F, i', u', lw', v', t0, t1, t2, t3, t4, t5, t6⟩
    · refine Or.inl ⟨i', m', S', O', u', lw', v', k', f', po', jo', pn', jn', t1, t2, ⟨t3, t4, by omega, by omega, fun j hj => ?_, LKFr_t r8 t8, QFr_t r9 t9, fun j hj => by rw [t10 j hj, r10 j hj]⟩, t11, t17, by omega, t13, t14, t15, t16⟩
      obtain ⟨x1, x2⟩ := t7 j (by omega)
      obtain ⟨y1, y2⟩ := r7 j hj
      exact ⟨x1.trans y1, x2.trans y2⟩
    · exact Or.inr ⟨F, i', u', lw', v', t0, t1, t2, t3, t4, t5, QFr_t r9 t6⟩
  · rw [uA, r1, sbind]
    dsimp only
    rw [condL_f r0 r3 rd _ _ (show 1 ≤ FU by decide)]
    exact Or.inr ⟨F, i2, u2, lw2, v3, r0, rfl, r2, r3, r4, r5, r6⟩
