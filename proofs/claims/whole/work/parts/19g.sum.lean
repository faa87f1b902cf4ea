/-! ===== sums, whole ===== -/
theorem plus_c {n : Nat} {c : Nat → Nat} {i : Nat} : noPl n c i ∨ ∃ s, isPl s ∧ sgn n c i = nI s ∧ fX12_sumSign (sgn n c i) = nI (encS s) := by
  by_cases q1 : sgn n c i = 43
  · exact Or.inr ⟨43, Or.inl rfl, q1, by rw [q1]; decide⟩
  · by_cases q2 : sgn n c i = 45
    · exact Or.inr ⟨45, Or.inr rfl, q2, by rw [q2]; decide⟩
    · exact Or.inl ⟨q1, q2⟩
theorem Stop_w {w : Nat} {v v2 : St} (h : Stop w v) (e : ∀ j, j < w → v2 17 j = v 17 j) : Stop w v2 := by
  unfold Stop at *
  rcases h with q | ⟨x, o, q1, q2⟩
  · exact Or.inl q
  · by_cases q0 : w = 0
    · exact Or.inl q0
    · exact Or.inr ⟨x, o, by rw [e (w - 1) (by omega)]; exact q1, q2⟩
/-- more terms -/
theorem plus_L {n : Nat} {c : Nat → Nat} {tp : St} (tx : Tx n c tp) {op : Nat} (hop : op ≤ 6) {rc : St → St → St → Int32 → Option (St × St)} (hfac : FacP n c tp op rc) {T : List Bool} (hT : T.length ≤ 2 * op + 1) {m0 w base : Nat} (hbw : base ≤ w) : ∀ (mf i m : Nat) (S O : Nat → Nat) (u lw v : St) (k et eq x3 : Nat), n - i < mf → n - i < k → x3 ≤ i → m ≤ i → w ≤ i → m0 ≤ m → Cu n c i 0 u → CA m S O lw → Hs n c i m S O w op et eq v → Stop w v → noTi n c i → Seg S O m0 m T (false :: T) → (∃ i' m' S' O' u' lw' v' k' et' eq', fX3_readSum_L8 rc tp mf u lw (nI op) (nI x3) = some (u', lw') ∧ fX12_readsSum_L14 k v (nI base) = fX12_readsSum_L14 k' v' (nI base) ∧ Pc n c i m S O w lw v i' m' S' O' u' lw' v' ∧ Hs n c i' m' S' O' w op et' eq' v' ∧ i ≤ i' ∧ Seg S' O' m0 m' T (false :: T) ∧ n - i' < k' ∧ noTi n c i' ∧ noPl n c i') ∨ BadO n c v (fX3_readSum_L8 rc tp mf u lw (nI op) (nI x3)) (fX12_readsSum_L14 k v (nI base)) := by
  have hn := tx.1
  intro mf
  induction mf with
  | zero => intro i m S O u lw v k et eq x3 h; omega
  | succ mf ih =>
    intro i m S O u lw v k et eq x3 hmf hk hx3 hmi hwi hm0 h ca hs hst nti sg
    have hin := h.1
    obtain ⟨s1, s2, s3, -, -, -, s7, s8, s9, -, -⟩ := id hs
    have uA : fX3_readSum_L8 rc tp (mf + 1) u lw (nI op) (nI x3) = bX3_readSum_L8 rc tp (fX3_readSum_L8 rc tp mf) u lw (nI op) (nI x3) := rfl
    unfold bX3_readSum_L8 at uA
    rw [sees_n h, sees_n h] at uA
    rcases plus_c (n := n) (c := c) (i := i) with np | ⟨s, hs1, es, es2⟩
    · rw [if_neg np.1, if_neg np.2, lett_s, if_pos rfl, lett_s, if_pos rfl, ite_self] at uA
      exact Or.inl ⟨i, m, S, O, u, lw, v, k, et, eq, uA, rfl, Pc_rfl h ca, hs, Nat.le_refl i, sg, hk, nti, np⟩
    · have sl : s < 256 := by rcases hs1 with rfl | rfl <;> decide
      obtain ⟨l1, l2⟩ := sgn_is (fun j hj => (tx.2.2 j hj).1) sl es
      obtain ⟨k, rfl⟩ : ∃ k', k = k' + 1 := ⟨k - 1, by omega⟩
      obtain ⟨u1, e1, e2⟩ := next_n tx h l1
      have enc := encPl hs1
      have uA2 : fX3_readSum_L8 rc tp (mf + 1) u lw (nI op) (nI x3) = (fX3_readProduct rc u1 tp lw (nI op)).bind fun z3 => (fX2_put z3.2 (nI s) 0).bind fun z4 => fX3_readSum_L8 rc tp mf z3.1 z4.2 (nI op) (nI (x3 + 1)) := by
        have J : fX3_readSum_J39 rc tp (fX3_readSum_L8 rc tp mf) u lw (nI op) (nI x3) = (fX3_readProduct rc u1 tp lw (nI op)).bind fun z3 => (fX2_put z3.2 (nI s) 0).bind fun z4 => fX3_readSum_L8 rc tp mf z3.1 z4.2 (nI op) (nI (x3 + 1)) := by
          unfold fX3_readSum_J39
          rw [lett_s, h.2.2.2.1, es, e1, sbind]
          simp only [lett_s, n1]
        rw [uA, if_neg (show ¬ (240 : Int32) ≤ nI x3 from nI_ge (b := 240) (by omega) (by decide)), J]
        rcases hs1 with rfl | rfl
        · rw [if_pos (show sgn n c i = 43 from es), lett_s, if_neg (by decide)]
        · rw [if_neg (show ¬ sgn n c i = 43 by rw [es]; decide), lett_s, if_pos rfl, if_pos (show sgn n c i = 45 from es), lett_s, if_neg (by decide)]
      have uB := L14_sign (base := base) (k := k) s1 s2 hin es2 (by omega)
      rw [if_neg (show ¬ 4 ≤ encS s by omega)] at uB
      obtain ⟨v1, c1, c2, c3⟩ := close_1 hs (by omega) (by omega) hst
      obtain ⟨v2, d1, d2, d3, d4, d5⟩ := J38_n (base := base) (k := k) c1 c2 (by omega) rfl
      rw [d1] at uB
      have v17 : ∀ j, j < w → v2 17 j = v 17 j := fun j hj => by rw [d4 j hj, c3 17 (by decide) (by decide) (by decide)]
      have qf2 : QFr v v2 := QFr_t (QFr_Cl (QFr_rfl v) c3) d5
      rw [uB, uA2]
      rcases prod_n tx hop hfac (T := false :: T) (by rw [List.length_cons]; omega) (i := i + 1) (m := m) (w := w + 1) (base := base) (f := FU) (k := k) (by omega) (by omega) (by omega) e2 ca d2 (Or.inr ⟨encS s, 0, d3, by omega, by omega, by decide⟩) (show n - (i + 1) < 1000000 by omega) (by omega) with ⟨i2, m2, S2, O2, u2, lw2, v3, k2, et2, r1, r2, ⟨r3, r4, r5, r6, r7, r8, r9, r10⟩, r11, r12, r13, r14, r15⟩ | ⟨F, i2, u2, lw2, v3, r0, r1, r2, r3, r4, r5, r6⟩
      · obtain ⟨lw3, p1, p2, p3⟩ := put_n (s := s) (o := 0) r4 (by have := r3.1; omega) rfl (show (0 : Int32) = nI 0 from rfl)
        rw [r1, sbind]
        dsimp only
        rw [p1, sbind, r2]
        dsimp only
        have hs2 := Hs_wait r11 hs1 ((r10 w (by omega)).trans d3)
        have st2 : Stop w v3 := Stop_w hst (fun j hj => by rw [r10 j (by omega), v17 j hj])
        have sg2 : Seg (upN S2 m2 s) (upN O2 m2 0) m0 (m2 + 1) T (false :: T) := by
          refine Seg_comp (Seg_cong (Seg_comp (Seg_cong sg (fun j _ hj => r7 j hj)) r13) (fun j _ hj => agr j hj)) (Seg_one (by rw [List.length_cons, List.length_cons]; omega) (Or.inr (Or.inr (Or.inr (Or.inl ⟨?_, upN_s _ _ _, T, rfl, rfl⟩)))))
          rw [upN_s]
          rcases hs1 with q | q
          · exact Or.inl q
          · exact Or.inr (Or.inl q)
        rcases ih i2 (m2 + 1) (upN S2 m2 s) (upN O2 m2 0) u2 lw3 v3 k2 et2 1 (x3 + 1) (by omega) (by omega) (by omega) (by omega) (by omega) (by omega) r3 p2 hs2 st2 r15 sg2 with ⟨i', m', S', O', u', lw', v', k', et', eq', t1, t2, ⟨t3, t4, t5, t6, t7, t8, t9, t10⟩, t11, t12, t13, t14, t15, t16⟩ | ⟨F, i', u', lw', v', t0, t1, t2, t3, t4, t5, t6⟩
        · refine Or.inl ⟨i', m', S', O', u', lw', v', k', et', eq', t1, t2, ⟨t3, t4, by omega, by omega, fun j hj => ?_, LKFr_t r8 (LKFr_t p3 t8), QFr_t (QFr_t qf2 r9) t9, fun j hj => ?_⟩, t11, by omega, t13, t14, t15, t16⟩
          · obtain ⟨a1, a2⟩ := t7 j (by omega)
            obtain ⟨b1, b2⟩ := agr (S := S2) (O := O2) (s := s) (o := 0) j (show j < m2 by omega)
            obtain ⟨c1, c2⟩ := r7 j hj
            exact ⟨a1.trans (b1.trans c1), a2.trans (b2.trans c2)⟩
          · rw [t10 j hj, r10 j (by omega), v17 j hj]
        · exact Or.inr ⟨F, i', u', lw', v', t0, t1, t2, t3, t4, t5, QFr_t (QFr_t qf2 r9) t6⟩
      · obtain ⟨z, lw3, p1, p2⟩ := put_f r4 (nI s) 0
        rw [r1, sbind]
        dsimp only
        rw [p1, sbind]
        dsimp only
        rw [sumL_f r0 r3 rc _ _ (show 1 ≤ mf by omega)]
        exact Or.inr ⟨F, i2, u2, lw3, v3, r0, rfl, r2, r3, p2, r5, QFr_t qf2 r6⟩
theorem sum_all {n : Nat} {c : Nat → Nat} {tp : St} (tx : Tx n c tp) : ∀ (d op : Nat), 7 ≤ d + op → op ≤ 6 → SumP n c tp op (fX3_readSum d) := by
  have hn := tx.1
  intro d
  induction d with
  | zero => intro op h1 h2; omega
  | succ d ih =>
    intro op h1 hop
    have hfac : FacP n c tp op (fX3_readSum d) := fac_n tx hop (fun q => ih (op + 1) (by omega) (by omega))
    intro i m S O w T u lw v f k base hT hmi hwi hbw h ca hs hst hf hk
    have uA : fX3_readSum (d + 1) u tp lw (nI op) = (fX3_readProduct (fX3_readSum d) u tp lw (nI op)).bind fun z11 => fX3_readSum_L8 (fX3_readSum d) tp FU z11.1 z11.2 (nI op) 1 := rfl
    rw [uA]
    rcases prod_n tx hop hfac (T := T) (by omega) (base := base) (f := f) (k := k) hbw hmi hwi h ca hs (Stop_0 hst) hf hk with ⟨i2, m2, S2, O2, u2, lw2, v3, k2, et2, r1, r2, ⟨r3, r4, r5, r6, r7, r8, r9, r10⟩, r11, r12, r13, r14, r15⟩ | ⟨F, i2, u2, lw2, v3, r0, r1, r2, r3, r4, r5, r6⟩
    · rw [r1, sbind, r2]
      dsimp only
      rcases plus_L tx hop hfac hT (m0 := m) hbw FU i2 m2 S2 O2 u2 lw2 v3 k2 et2 0 1 (show n - i2 < 1000000 by omega) (by omega) (by omega) (by omega) (by omega) (by omega) r3 r4 r11 (Stop_w hst r10) r15 r13 with ⟨i', m', S', O', u', lw', v', k', et', eq', t1, t2, ⟨t3, t4, t5, t6, t7, t8, t9, t10⟩, t11, t12, t13, t14, t15, t16⟩ | ⟨F, i', u', lw', v', t0, t1, t2, t3, t4, t5, t6⟩
      · refine Or.inl ⟨i', m', S', O', u', lw', v', k', et', eq', t1, t2, ⟨t3, t4, by omega, by omega, fun j hj => ?_, LKFr_t r8 t8, QFr_t r9 t9, fun j hj => ?_⟩, t11, by omega, t13, t14, t15, t16⟩
        · obtain ⟨a1, a2⟩ := t7 j (by omega)
          obtain ⟨c1, c2⟩ := r7 j hj
          exact ⟨a1.trans c1, a2.trans c2⟩
        · rw [t10 j hj, r10 j hj]
      · exact Or.inr ⟨F, i', u', lw', v', t0, t1, t2, t3, t4, t5, QFr_t r9 t6⟩
    · rw [r1, sbind]
      dsimp only
      rw [sumL_f r0 r3 _ _ _ (show 1 ≤ FU by decide)]
      exact Or.inr ⟨F, i2, u2, lw2, v3, r0, rfl, r2, r3, r4, r5, r6⟩
/-- a sum that stands in no bracket of its own -/
theorem sumC_n {n : Nat} {c : Nat → Nat} {tp : St} (tx : Tx n c tp) {op : Nat} (hop : op ≤ 6) {T : List Bool} (hT : T.length ≤ 2 * op + 1) {i m w : Nat} {S O : Nat → Nat} {u lw v : St} (hmi : m ≤ i) (hwi : w ≤ i) (h : Cu n c i 0 u) (ca : CA m S O lw) (hs : Hs n c i m S O w op 0 0 v) (hst : Stop w v) : (∃ i' m' S' O' u' lw' v', fX3_readSum 8 u tp lw (nI op) = some (u', lw') ∧ fX12_readsSum v = some (1, v') ∧ Pc n c i m S O w lw v i' m' S' O' u' lw' v' ∧ Hs n c i' m' S' O' w op 0 0 v' ∧ i < i' ∧ Seg S' O' m m' T (false :: T)) ∨ BadO n c v (fX3_readSum 8 u tp lw (nI op)) (fX12_readsSum v) := by
  have hn := tx.1
  have uB : fX12_readsSum v = RF FU FU v w := by
    unfold fX12_readsSum
    rw [lett_s, show v 13 0 = nI w from hs.2.2.2.2.2.2.2.1]
    rfl
  rw [uB]
  rcases sum_all tx 8 op (by omega) hop i m S O w T u lw v FU FU w hT hmi hwi (Nat.le_refl w) h ca hs hst (show n - i < 1000000 by omega) (show n - i < 1000000 by omega) with ⟨i2, m2, S2, O2, u2, lw2, v2, k2, et, eq, r1, r2, ⟨r3, r4, r5, r6, r7, r8, r9, r10⟩, r11, r12, r13, r14, r15, r16⟩ | r
  · have hi2 := r3.1
    have hm2 := r4.2.1
    obtain ⟨g1, g2, g3, g4, g5, g6, g7, g8, g9, g10, g11⟩ := id r11
    obtain ⟨k2, rfl⟩ : ∃ k', k2 = k' + 1 := ⟨k2 - 1, by omega⟩
    obtain ⟨v3, c1, c2, c3⟩ := close_1 r11 hm2 (by omega) (Stop_w hst r10)
    have ho : fX12_hasOpenSum v2 (nI w) = some 0 := hos_0 g8 (by omega) FU w (by omega) (show w + eq + et - w < 1000000 by omega) (fun k a b => by
      by_cases q : eq = 1
      · by_cases q2 : k = w
        · subst q2
          obtain ⟨q3, -, q4⟩ := g10 q
          have := encPl q3
          exact ⟨_, _, q4, by omega, by decide⟩
        · obtain ⟨q3, -, q4⟩ := g11 (by omega)
          have := encTi q3
          exact ⟨_, _, by rw [show k = w + eq by omega]; exact q4, by omega, by decide⟩
      · obtain ⟨q3, -, q4⟩ := g11 (by omega)
        have := encTi q3
        exact ⟨_, _, by rw [show k = w + eq by omega]; exact q4, by omega, by decide⟩)
    have ss : fX12_sumSign (sgn n c i2) = -1 := by
      unfold fX12_sumSign
      rw [if_neg r16.1, if_neg r16.2, if_neg r15.1, if_neg r15.2.1, if_neg r15.2.2]
    have J : fX12_readsSum_J138 v2 (nI w) = some (1, v3) := by
      unfold fX12_readsSum_J138
      rw [ho, sbind, if_pos rfl, c1, sbind]
    have eL : fX12_readsSum_L14 (k2 + 1) v2 (nI w) = some (1, v3) := by
      show bX12_readsSum_L14 _ _ _ = _
      unfold bX12_readsSum_L14
      rw [here_n g1 g2 hi2, sbind, ss, lett_s, if_pos rfl, sbind, ho, sbind, if_pos rfl, J, ite_self]
    exact Or.inl ⟨i2, m2, S2, O2, u2, lw2, v3, r1, r2.trans eL, ⟨r3, r4, r5, r6, r7, r8, QFr_Cl r9 c3, fun j hj => by rw [c3 17 (by decide) (by decide) (by decide), r10 j hj]⟩, c2, r12, r13⟩
  · exact Or.inr r
