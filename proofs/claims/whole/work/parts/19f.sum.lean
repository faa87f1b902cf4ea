/-! ===== products, sums ===== -/
theorem timesC_n {n : Nat} {c : Nat → Nat} {u : St} {i : Nat} (h : Cu n c i 0 u) : (noTi n c i ∧ fX3_seesTimes u = 0) ∨ (∃ s, isTi s ∧ sgn n c i = nI s ∧ fX3_seesTimes u = 1 ∧ fX12_sumSign (sgn n c i) = nI (encS s)) := by
  unfold fX3_seesTimes
  rw [sees_n h, sees_n h, sees_n h]
  by_cases q1 : sgn n c i = 42
  · refine Or.inr ⟨42, Or.inl rfl, q1, ?_, by rw [q1]; decide⟩
    rw [if_pos q1, lett_s, if_neg (by decide)]
  · by_cases q2 : sgn n c i = 47
    · refine Or.inr ⟨47, Or.inr (Or.inl rfl), q2, ?_, by rw [q2]; decide⟩
      rw [if_neg q1, lett_s, if_pos rfl, if_pos q2, lett_s, if_neg (by decide)]
    · by_cases q3 : sgn n c i = 37
      · refine Or.inr ⟨37, Or.inr (Or.inr rfl), q3, ?_, by rw [q3]; decide⟩
        rw [if_neg q1, lett_s, if_pos rfl, if_neg q2, lett_s, if_pos rfl, if_pos q3, lett_s, if_neg (by decide)]
      · refine Or.inl ⟨⟨q1, q2, q3⟩, ?_⟩
        rw [if_neg q1, lett_s, if_pos rfl, if_neg q2, lett_s, if_pos rfl, if_neg q3, lett_s, if_pos rfl]
/-- a sign is read: what must be closed is, and it waits -/
theorem J38_n {n : Nat} {c : Nat → Nat} {i m : Nat} {S O : Nat → Nat} {w op : Nat} {v v1 : St} {t base k : Nat} {y x : Int32} (e : fX12_closesSums v y = some v1) (h : Hs n c i m S O w op 0 0 v1) (hw : w ≤ 250) (hx : x = nI t) : ∃ v2, fX12_readsSum_J38 (fX12_readsSum_L14 k) v (nI base) x y = RF FU k v2 base ∧ Hs n c (i + 1) m S O (w + 1) op 0 0 v2 ∧ v2 17 w = nI (1048576 * t + 0) ∧ (∀ j, j < w → v2 17 j = v1 17 j) ∧ QFr v1 v2 := by
  obtain ⟨s1, s2, s3, -, -, -, s7, s8, s9, -, -⟩ := id h
  subst hx
  refine ⟨st (st (st v1 17 w (nI (1048576 * t + 0))) 13 0 (nI (w + 1))) 7 0 (nI (i + 1)), ?_, ⟨TxR_c s1 rfl rfl, rfl, s3, by omega, by omega, by omega, s7, rfl, s9, fun e => by omega, fun e => by omega⟩, ?_, fun j hj => ?_, QFr_st (QFr_st (QFr_st (QFr_rfl v1) (by omega)) (by omega)) (by omega)⟩
  · unfold fX12_readsSum_J38 RF
    rw [e, sbind, show v1 13 0 = nI w from s8, gd_n (by omega) (by decide), lett_s, ix_n (by omega), show (1048576 : Int32) * nI t = nI (1048576 * t + 0) from pk_mul 1048576 t, show st v1 17 w (nI (1048576 * t + 0)) 13 0 = nI w from s8, n1, lett_s, show st (st v1 17 w (nI (1048576 * t + 0))) 13 0 (nI (w + 1)) 7 0 = nI i from s2, n1, lett_s]
    rfl
  · show upd (v1 17) w _ w = _
    rw [upd_s]
  · show upd (v1 17) w _ j = _
    rw [upd_n (by omega)]
theorem L14_sign {n : Nat} {c : Nat → Nat} {i : Nat} {v : St} (txr : TxR n c v) (h7 : v 7 0 = nI i) (hi : i ≤ n) {t base k : Nat} (ht : fX12_sumSign (sgn n c i) = nI t) (ht2 : t ≤ 6) : fX12_readsSum_L14 (k + 1) v (nI base) = fX12_readsSum_J38 (fX12_readsSum_L14 k) v (nI base) (nI t) (if 4 ≤ t then 0 else 1) := by
  show bX12_readsSum_L14 _ _ _ = _
  unfold bX12_readsSum_L14
  rw [here_n txr h7 hi, sbind, ht, lett_s, if_neg (fun e => m1_ne (by omega) e.symm)]
  by_cases q : 4 ≤ t
  · rw [if_pos (show (4 : Int32) ≤ nI t from nI_le (a := 4) q (by omega)), if_pos q]
  · rw [if_neg (show ¬ (4 : Int32) ≤ nI t from nI_ge (b := 4) (by omega) (by decide)), if_neg q]
theorem Hs_wait {n : Nat} {c : Nat → Nat} {i m : Nat} {S O : Nat → Nat} {w op et : Nat} {v : St} {s : Nat} (h : Hs n c i m S O (w + 1) op et 0 v) (hs : isPl s) (h17 : v 17 w = nI (1048576 * encS s + 0)) : Hs n c i (m + 1) (upN S m s) (upN O m 0) w op et 1 v := by
  obtain ⟨h1, h2, h3, h4, h5, h6, h7, h8, h9, h10, h11⟩ := h
  refine ⟨h1, h2, h3, h4, by omega, by omega, h7.trans (congrArg nI (by omega)), h8, fun j hj => ?_, fun _ => ?_, fun e => ?_⟩
  · rw [upN_n (by omega), upN_n (by omega)]; exact h9 j (by omega)
  · rw [show m + 1 - 1 = m from rfl, upN_s, upN_s]; exact ⟨hs, rfl, h17⟩
  · obtain ⟨q1, q2, q3⟩ := h11 e
    rw [show m + 1 - 1 - 1 = m - 1 - 0 by omega, upN_n (by omega), upN_n (by omega)]
    exact ⟨q1, q2, q3⟩
theorem Hs_waitT {n : Nat} {c : Nat → Nat} {i m : Nat} {S O : Nat → Nat} {w op : Nat} {v : St} {s : Nat} (h : Hs n c i m S O (w + 1) op 0 0 v) (hs : isTi s) (h17 : v 17 w = nI (1048576 * encS s + 0)) : Hs n c i (m + 1) (upN S m s) (upN O m 0) w op 1 0 v := by
  obtain ⟨h1, h2, h3, h4, h5, h6, h7, h8, h9, h10, h11⟩ := h
  refine ⟨h1, h2, h3, by omega, by omega, by omega, h7.trans (congrArg nI (by omega)), h8, fun j hj => ?_, fun e => by omega, fun e => ?_⟩
  · rw [upN_n (by omega), upN_n (by omega)]; exact h9 j (by omega)
  · rw [show m + 1 - 1 - 0 = m from rfl, upN_s, upN_s]; exact ⟨hs, rfl, h17⟩
theorem Pc_rfl {n : Nat} {c : Nat → Nat} {i m : Nat} {S O : Nat → Nat} {w : Nat} {u lw v : St} (h : Cu n c i 0 u) (ca : CA m S O lw) : Pc n c i m S O w lw v i m S O u lw v := ⟨h, ca, Nat.le_refl m, Nat.le_refl _, fun _ _ => ⟨rfl, rfl⟩, LKFr_rfl lw, QFr_rfl v, fun _ _ => rfl⟩
/-- more factors -/
theorem times_L {n : Nat} {c : Nat → Nat} {tp : St} (tx : Tx n c tp) {op : Nat} (hop : op ≤ 6) {rc : St → St → St → Int32 → Option (St × St)} (hfac : FacP n c tp op rc) {T : List Bool} (hT : T.length ≤ 2 * op + 2) {m0 w base : Nat} (hbw : base ≤ w) : ∀ (mf i m : Nat) (S O : Nat → Nat) (u lw v : St) (k et x3 : Nat), n - i < mf → n - i < k → x3 ≤ i → m ≤ i → w ≤ i → m0 ≤ m → Cu n c i 0 u → CA m S O lw → Hs n c i m S O w op et 0 v → Stop0 w v → Seg S O m0 m T (false :: T) → (∃ i' m' S' O' u' lw' v' k' et', fX3_readProduct_L8 rc tp mf u lw (nI op) (nI x3) = some (u', lw') ∧ fX12_readsSum_L14 k v (nI base) = fX12_readsSum_L14 k' v' (nI base) ∧ Pc n c i m S O w lw v i' m' S' O' u' lw' v' ∧ Hs n c i' m' S' O' w op et' 0 v' ∧ i ≤ i' ∧ Seg S' O' m0 m' T (false :: T) ∧ n - i' < k' ∧ noTi n c i') ∨ BadO n c v (fX3_readProduct_L8 rc tp mf u lw (nI op) (nI x3)) (fX12_readsSum_L14 k v (nI base)) := by
  have hn := tx.1
  intro mf
  induction mf with
  | zero => intro i m S O u lw v k et x3 h; omega
  | succ mf ih =>
    intro i m S O u lw v k et x3 hmf hk hx3 hmi hwi hm0 h ca hs hst sg
    have hin := h.1
    obtain ⟨s1, s2, s3, -, -, -, s7, s8, s9, -, -⟩ := id hs
    have uA : fX3_readProduct_L8 rc tp (mf + 1) u lw (nI op) (nI x3) = bX3_readProduct_L8 rc tp (fX3_readProduct_L8 rc tp mf) u lw (nI op) (nI x3) := rfl
    unfold bX3_readProduct_L8 at uA
    rcases timesC_n h with ⟨nt, et0⟩ | ⟨s, hs1, es, es1, es2⟩
    · rw [et0, lett_s, if_pos rfl, ite_self] at uA
      exact Or.inl ⟨i, m, S, O, u, lw, v, k, et, uA, rfl, Pc_rfl h ca, hs, Nat.le_refl i, sg, hk, nt⟩
    · have sl : s < 256 := by rcases hs1 with rfl | rfl | rfl <;> decide
      obtain ⟨l1, l2⟩ := sgn_is (fun j hj => (tx.2.2 j hj).1) sl es
      obtain ⟨k, rfl⟩ : ∃ k', k = k' + 1 := ⟨k - 1, by omega⟩
      obtain ⟨u1, e1, e2⟩ := next_n tx h l1
      have enc := encTi hs1
      rw [es1, lett_s, if_neg (show ¬ (240 : Int32) ≤ nI x3 from nI_ge (b := 240) (by omega) (by decide)), if_neg (by decide), h.2.2.2.1, es, lett_s, e1, sbind] at uA
      have uB := L14_sign (base := base) (k := k) s1 s2 hin es2 (by omega)
      rw [if_pos enc.1] at uB
      obtain ⟨v1, c1, c2, c3⟩ := close_0 hs (by omega) (by omega) hst
      obtain ⟨v2, d1, d2, d3, d4, d5⟩ := J38_n (base := base) (k := k) c1 c2 (by omega) rfl
      rw [d1] at uB
      have v17 : ∀ j, j < w → v2 17 j = v 17 j := fun j hj => by rw [d4 j hj, c3 17 (by decide) (by decide) (by decide)]
      have qf2 : QFr v v2 := QFr_t (QFr_Cl (QFr_rfl v) c3) d5
      rw [uB]
      rcases hfac (i + 1) m S O (w + 1) (false :: T) u1 lw v2 FU k base (by rw [List.length_cons]; omega) (by omega) (by omega) (by omega) e2 ca d2 (show n - (i + 1) < 1000000 by omega) (by omega) with ⟨i2, m2, S2, O2, u2, lw2, v3, k2, r1, r2, ⟨r3, r4, r5, r6, r7, r8, r9, r10⟩, r11, r12, r13, r14⟩ | ⟨F, i2, u2, lw2, v3, r0, r1, r2, r3, r4, r5, r6⟩
      · obtain ⟨lw3, p1, p2, p3⟩ := put_n (s := s) (o := 0) r4 (by have := r3.1; omega) rfl (show (0 : Int32) = nI 0 from rfl)
        rw [r1, sbind] at uA
        dsimp only at uA
        rw [p1, sbind, lett_s, n1] at uA
        rw [r2, uA]
        have hs2 := Hs_waitT r11 hs1 ((r10 w (by omega)).trans d3)
        have st2 : Stop0 w v3 := by
          unfold Stop0 at *
          rcases hst with q | ⟨e, o, q1, q2⟩
          · exact Or.inl q
          · by_cases q0 : w = 0
            · exact Or.inl q0
            · exact Or.inr ⟨e, o, by rw [r10 (w - 1) (by omega), v17 (w - 1) (by omega)]; exact q1, q2⟩
        have sg2 : Seg (upN S2 m2 s) (upN O2 m2 0) m0 (m2 + 1) T (false :: T) := by
          refine Seg_comp (Seg_cong (Seg_comp (Seg_cong sg (fun j _ hj => r7 j hj)) r13) (fun j _ hj => agr j hj)) (Seg_one (by rw [List.length_cons, List.length_cons]; omega) (Or.inr (Or.inr (Or.inr (Or.inl ⟨?_, upN_s _ _ _, T, rfl, rfl⟩)))))
          rw [upN_s]
          rcases hs1 with q | q | q
          · exact Or.inr (Or.inr (Or.inl q))
          · exact Or.inr (Or.inr (Or.inr (Or.inl q)))
          · exact Or.inr (Or.inr (Or.inr (Or.inr q)))
        rcases ih i2 (m2 + 1) (upN S2 m2 s) (upN O2 m2 0) u2 lw3 v3 k2 1 (x3 + 1) (by omega) (by omega) (by omega) (by omega) (by omega) (by omega) r3 p2 hs2 st2 sg2 with ⟨i', m', S', O', u', lw', v', k', et', t1, t2, ⟨t3, t4, t5, t6, t7, t8, t9, t10⟩, t11, t12, t13, t14, t15⟩ | ⟨F, i', u', lw', v', t0, t1, t2, t3, t4, t5, t6⟩
        · refine Or.inl ⟨i', m', S', O', u', lw', v', k', et', t1, t2, ⟨t3, t4, by omega, by omega, fun j hj => ?_, LKFr_t r8 (LKFr_t p3 t8), QFr_t (QFr_t qf2 r9) t9, fun j hj => ?_⟩, t11, by omega, t13, t14, t15⟩
          · obtain ⟨a1, a2⟩ := t7 j (by omega)
            obtain ⟨b1, b2⟩ := agr (S := S2) (O := O2) (s := s) (o := 0) j (show j < m2 by omega)
            obtain ⟨c1, c2⟩ := r7 j hj
            exact ⟨a1.trans (b1.trans c1), a2.trans (b2.trans c2)⟩
          · rw [t10 j hj, r10 j (by omega), v17 j hj]
        · exact Or.inr ⟨F, i', u', lw', v', t0, t1, t2, t3, t4, t5, QFr_t (QFr_t qf2 r9) t6⟩
      · obtain ⟨z, lw3, p1, p2⟩ := put_f r4 (nI s) 0
        rw [r1, sbind] at uA
        dsimp only at uA
        rw [p1, sbind, lett_s] at uA
        dsimp only at uA
        have hi2 : 1 ≤ mf := by omega
        rw [prodL_f r0 r3 rc _ _ hi2] at uA
        exact Or.inr ⟨F, i2, u2, lw3, v3, r0, uA, r2, r3, p2, r5, QFr_t qf2 r6⟩
theorem prod_n {n : Nat} {c : Nat → Nat} {tp : St} (tx : Tx n c tp) {op : Nat} (hop : op ≤ 6) {rc : St → St → St → Int32 → Option (St × St)} (hfac : FacP n c tp op rc) {T : List Bool} (hT : T.length ≤ 2 * op + 2) {i m w base : Nat} {S O : Nat → Nat} {u lw v : St} {f k : Nat} (hbw : base ≤ w) (hmi : m ≤ i) (hwi : w ≤ i) (h : Cu n c i 0 u) (ca : CA m S O lw) (hs : Hs n c i m S O w op 0 0 v) (hst : Stop0 w v) (hf : n - i < f) (hk : n - i < k) : (∃ i' m' S' O' u' lw' v' k' et', fX3_readProduct rc u tp lw (nI op) = some (u', lw') ∧ RF f k v base = fX12_readsSum_L14 k' v' (nI base) ∧ Pc n c i m S O w lw v i' m' S' O' u' lw' v' ∧ Hs n c i' m' S' O' w op et' 0 v' ∧ i < i' ∧ Seg S' O' m m' T (false :: T) ∧ n - i' < k' ∧ noTi n c i') ∨ BadO n c v (fX3_readProduct rc u tp lw (nI op)) (RF f k v base) := by
  have hn := tx.1
  have uA : fX3_readProduct rc u tp lw (nI op) = (fX3_readFactor rc u tp lw (nI op)).bind fun z9 => fX3_readProduct_L8 rc tp FU z9.1 z9.2 (nI op) 1 := rfl
  rcases hfac i m S O w T u lw v f k base (by omega) hmi hwi hbw h ca hs hf hk with ⟨i2, m2, S2, O2, u2, lw2, v3, k2, r1, r2, ⟨r3, r4, r5, r6, r7, r8, r9, r10⟩, r11, r12, r13, r14⟩ | ⟨F, i2, u2, lw2, v3, r0, r1, r2, r3, r4, r5, r6⟩
  · rw [r1, sbind] at uA
    dsimp only at uA
    have st2 : Stop0 w v3 := by
      unfold Stop0 at *
      rcases hst with q | ⟨e, o, q1, q2⟩
      · exact Or.inl q
      · by_cases q0 : w = 0
        · exact Or.inl q0
        · exact Or.inr ⟨e, o, by rw [r10 (w - 1) (by omega)]; exact q1, q2⟩
    rw [uA, r2]
    rcases times_L tx hop hfac hT (m0 := m) hbw FU i2 m2 S2 O2 u2 lw2 v3 k2 0 1 (show n - i2 < 1000000 by omega) (by omega) (by omega) (by omega) (by omega) (by omega) r3 r4 r11 st2 r13 with ⟨i', m', S', O', u', lw', v', k', et', t1, t2, ⟨t3, t4, t5, t6, t7, t8, t9, t10⟩, t11, t12, t13, t14, t15⟩ | ⟨F, i', u', lw', v', t0, t1, t2, t3, t4, t5, t6⟩
    · refine Or.inl ⟨i', m', S', O', u', lw', v', k', et', t1, t2, ⟨t3, t4, by omega, by omega, fun j hj => ?_, LKFr_t r8 t8, QFr_t r9 t9, fun j hj => ?_⟩, t11, by omega, t13, t14, t15⟩
      · obtain ⟨a1, a2⟩ := t7 j (by omega)
        obtain ⟨c1, c2⟩ := r7 j hj
        exact ⟨a1.trans c1, a2.trans c2⟩
      · rw [t10 j hj, r10 j hj]
    · exact Or.inr ⟨F, i', u', lw', v', t0, t1, t2, t3, t4, t5, QFr_t r9 t6⟩
  · rw [r1, sbind] at uA
    dsimp only at uA
    rw [prodL_f r0 r3 rc _ _ (show 1 ≤ FU by decide)] at uA
    exact Or.inr ⟨F, i2, u2, lw2, v3, r0, uA, r2, r3, r4, r5, r6⟩
