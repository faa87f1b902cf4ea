/-! ===== the law, the call ===== -/
def RLn (n : Nat) (c : Nat → Nat) (i q m : Nat) (S O : Nat → Nat) (lw v : St) : Prop := q ≤ 16 ∧ lw 4 0 = nI q ∧ v 14 0 = nI q ∧ CA m S O lw ∧ CB n c i m S O v ∧ m ≤ i ∧ ∀ j, j < q → ∃ K A B E : Nat, K < 256 ∧ lw 0 j = nI K ∧ v 18 j = nI K ∧ lw 1 j = nI A ∧ v 19 j = nI A ∧ lw 2 j = nI B ∧ v 20 j = nI B ∧ lw 3 j = nI E ∧ v 21 j = nI E ∧ A ≤ B ∧ B ≤ E ∧ E ≤ m ∧ Seg S O B E [] [true] ∧ (K ≠ 103 → K ≠ 114 → Seg S O A B [] [false])
theorem RLn_step {n : Nat} {c : Nat → Nat} {i q m : Nat} {S O : Nat → Nat} {lw v u' lw' v' : St} (h : RLn n c i q m S O lw v) (g : RuG n c i m q S O lw v u' lw' v') : ∃ i' m' S' O', Cu n c i' 0 u' ∧ i < i' ∧ RLn n c i' (q + 1) m' S' O' lw' v' := by
  obtain ⟨h1, h2, h3, h4, h5, h6, h7⟩ := h
  obtain ⟨K, B, i', m', S', O', g1, g2, g3, g4, g5, g6, g7, g8, g9, g10, g11, g12, g13, g14, g15, g16, g17, g18, g19, g20, g21, g22⟩ := g
  refine ⟨i', m', S', O', g2, g5, by omega, g17, g22, g3, g4, g8, fun j hj => ?_⟩
  rw [g13, g14, g15, g16, g18, g19, g20, g21]
  by_cases q2 : j = q
  · subst q2
    exact ⟨K, m, B, m', g10, upd_s, upd_s, upd_s, upd_s, upd_s, upd_s, upd_s, upd_s, g6, g7, Nat.le_refl m', g11, g12⟩
  · obtain ⟨K2, A2, B2, E2, a1, a2, a3, a4, a5, a6, a7, a8, a9, a10, a11, a12, a13, a14⟩ := h7 j (by omega)
    rw [upd_n q2, upd_n q2, upd_n q2, upd_n q2, upd_n q2, upd_n q2, upd_n q2, upd_n q2]
    exact ⟨K2, A2, B2, E2, a1, a2, a3, a4, a5, a6, a7, a8, a9, a10, a11, by omega, Seg_cong a13 (fun j _ hj => g9 j (by omega)), fun x y => Seg_cong (a14 x y) (fun j _ hj => g9 j (by omega))⟩
theorem lloop_n {n : Nat} {c : Nat → Nat} {tp : St} (tx : Tx n c tp) : ∀ (mB mA q i m : Nat) (S O : Nat → Nat) (lw u v : St), n - i < mB → 17 - q < mA → 1 ≤ q → RLn n c i q m S O lw v → Cu n c i 0 u → (∃ q' i' m' S' O' lw' u' v', fX3_read_L6 tp mA u lw (nI q) = some (u', lw') ∧ fX12_law_L31 mB v 1 = fX12_law_J71 v' 1 ∧ Cu n c i' 0 u' ∧ RLn n c i' q' m' S' O' lw' v' ∧ RFr v v') ∨ (∃ F lw' u' i' v', ¬ F = 0 ∧ fX3_read_L6 tp mA u lw (nI q) = some (u', lw') ∧ fX12_law_L31 mB v 1 = fX12_law_J71 v' 0 ∧ Cu n c i' F u' ∧ v' 9 0 = F ∧ RFr v v') := by
  have hn := tx.1
  have stopA : ∀ (m k : Nat) (u lw : St) (i : Nat) (F : Int32), ¬ F = 0 → Cu n c i F u → k ≤ 17 → 1 ≤ m → fX3_read_L6 tp m u lw (nI k) = some (u, lw) := by
    intro m k u lw i F hF h hk hm
    obtain ⟨m, rfl⟩ : ∃ m', m = m' + 1 := ⟨m - 1, by omega⟩
    show bX3_read_L6 tp _ _ _ _ = _
    unfold bX3_read_L6
    by_cases q : k = 17
    · rw [if_pos (show (16 : Int32) < nI k from nI_lt (a := 16) (by omega) (by omega))]
    · rw [if_neg (show ¬ (16 : Int32) < nI k from nI_nlt (a := 16) (by omega) (by omega)), begins_f h hF, sbind]
      exact if_pos rfl
  have stopB : ∀ (m : Nat) (v : St), 1 ≤ m → fX12_law_L31 m v 0 = fX12_law_J71 v 0 := by
    intro m v hm
    obtain ⟨m, rfl⟩ : ∃ m', m = m' + 1 := ⟨m - 1, by omega⟩
    show bX12_law_L31 _ _ _ = _
    unfold bX12_law_L31
    rw [if_pos rfl]
  intro mB
  induction mB with
  | zero => intro mA q i m S O lw u v h; omega
  | succ mB ih =>
    intro mA q i m S O lw u v hB hA hq1 hw h
    obtain ⟨mA, rfl⟩ : ∃ m, mA = m + 1 := ⟨mA - 1, by omega⟩
    obtain ⟨w1, w2, w3, w4, w5, w6, w7⟩ := id hw
    obtain ⟨txr, h7, c3, c4⟩ := id w5
    have hi := h.1
    have nle : ¬ (16 : Int32) < nI q := nI_nlt (a := 16) (by omega) (by omega)
    by_cases he : i = n
    · refine Or.inl ⟨q, i, m, S, O, lw, u, v, ?_, ?_, h, hw, RFr_rfl v⟩
      · show bX3_read_L6 tp _ _ _ _ = _
        unfold bX3_read_L6
        rw [if_neg nle, begins_e (by rw [he] at h; exact h) hq1 (by omega), sbind]
        exact if_pos rfl
      · show bX12_law_L31 _ _ _ = _
        unfold bX12_law_L31
        rw [if_neg (by decide), txr.2.1, h7, if_pos (nI_le (by omega) (by omega))]
    · have hin : i < n := by omega
      have eB : fX12_law_L31 (mB + 1) v 1 = (fX12_takes v 59).bind fun z17 => if z17.1 = 0 then fX12_law_L31 mB z17.2 0 else (fX12_readsRule z17.2).bind fun z19 => if z19.1 = 0 then fX12_law_L31 mB z19.2 0 else fX12_law_L31 mB z19.2 1 := by
        show bX12_law_L31 _ _ _ = _
        unfold bX12_law_L31
        rw [if_neg (by decide), txr.2.1, h7, if_neg (nI_ge hin (by omega))]
      have eA : fX3_read_L6 tp (mA + 1) u lw (nI q) = (fX1_take u tp 59).bind fun z => if z.1 = 0 then some (z.2, lw) else (fX3_readRule z.2 tp lw (nI q)).bind fun z4 => fX3_read_L6 tp mA z4.1 z4.2 (nI (q + 1)) := by
        show bX3_read_L6 tp _ _ _ _ = _
        unfold bX3_read_L6
        rw [if_neg nle, begins_k hn h hin hq1 (by omega)]
        cases fX1_take u tp 59 with
        | none => rfl
        | some z =>
          rw [sbind, sbind]
          by_cases q : z.1 = 0
          · rw [if_pos q, if_pos q, sbind]; exact if_pos rfl
          · rw [if_neg q, if_neg q, sbind, if_neg n10]
            simp only [lett_s, n1]
      by_cases hs : sgn n c i = 59
      · obtain ⟨u1, a1, a2⟩ := take_y tx h hin hs
        have b1 := takes_y txr h7 hi hs
        rw [a1, sbind, if_neg n10] at eA
        rw [b1, sbind, if_neg n10] at eB
        dsimp only at eA eB
        have wf1 : RFr v (st v 7 0 (nI (i + 1))) := RFr_st (RFr_rfl v) (by omega)
        have cb1 : CB n c (i + 1) m S O (st v 7 0 (nI (i + 1))) := ⟨TxR_c txr rfl rfl, rfl, c3, c4⟩
        have hw1 : RLn n c (i + 1) q m S O lw (st v 7 0 (nI (i + 1))) := ⟨w1, w2, w3, w4, cb1, by omega, w7⟩
        rcases ruleC_n (lw := lw) tx w1 (show m ≤ i + 1 by omega) a2 w4 cb1 w3 with ⟨u', lw', v', l1, l2, l3, l4⟩ | ⟨F, i', u', lw', v', l0, l1, l2, l3, l4, l5, l6⟩
        · rw [l1, sbind] at eA
          rw [l2, sbind, if_neg n10] at eB
          obtain ⟨i', m', S', O', g1, g2, g3⟩ := RLn_step hw1 l3
          have wf2 := RFr_t wf1 l4
          rcases ih mA (q + 1) i' m' S' O' lw' u' v' (by omega) (by omega) (by omega) g3 g1 with ⟨q2, i2, m2, S2, O2, lw2, u2, v2, r1, r2, r3, r4, r5⟩ | ⟨F, lw2, u2, i2, v2, r0, r1, r2, r3, r4, r5⟩
          · exact Or.inl ⟨q2, i2, m2, S2, O2, lw2, u2, v2, eA.trans r1, eB.trans r2, r3, r4, RFr_t wf2 r5⟩
          · exact Or.inr ⟨F, lw2, u2, i2, v2, r0, eA.trans r1, eB.trans r2, r3, r4, RFr_t wf2 r5⟩
        · rw [l1, sbind] at eA
          rw [l2, sbind, if_pos rfl] at eB
          exact Or.inr ⟨F, lw', u', i', v', l0, eA.trans (stopA mA (q + 1) u' lw' i' F l0 l3 (by omega) (by omega)), eB.trans (stopB mB v' (by omega)), l3, l5, RFr_t wf1 l6⟩
      · obtain ⟨u1, a1, a2⟩ := take_x (tp := tp) h hs
        have b1 := takes_x txr h7 hi hs
        rw [a1, sbind, if_pos rfl] at eA
        rw [b1, sbind, if_pos rfl] at eB
        have hF : ¬ fo 1 i = 0 := fo_ne (by decide) (by decide) (by omega)
        exact Or.inr ⟨fo 1 i, lw, u1, i, st v 9 0 (fo 1 i), hF, eA, eB.trans (stopB mB _ (by omega)), a2, rfl, RFr_st (RFr_rfl v) (by omega)⟩
theorem lcopy_1 {m : Nat} (hm : m ≤ 240) : ∀ (f k : Nat) (v : St), k ≤ m → m - k < f → v 12 0 = nI m → ∃ v', fX12_law_L95 f v (nI k) = fX12_law_L123 FU v' 0 ∧ (∀ j, j ≠ 22 → v' j = v j) ∧ (∀ j, k ≤ j → j < m → v' 22 j = v 16 j) ∧ ∀ j, j < k → v' 22 j = v 22 j := by
  intro f
  induction f with
  | zero => intro k v _ h; omega
  | succ f ih =>
    intro k v hk hf h12
    have e : fX12_law_L95 (f + 1) v (nI k) = bX12_law_L95 (fX12_law_L95 f) v (nI k) := rfl
    rw [e]
    unfold bX12_law_L95
    rw [h12]
    by_cases he : k = m
    · rw [if_pos (nI_le (by omega) (by omega))]
      exact ⟨v, rfl, fun _ _ => rfl, fun j h1 h2 => by omega, fun _ _ => rfl⟩
    · rw [if_neg (nI_ge (by omega) (by omega)), gd_n (by omega) (by decide), gd_n (by omega) (by decide), lett_s, lett_s, n1, ix_n (by omega)]
      obtain ⟨v', i1, i2, i3, i4⟩ := ih (k + 1) (st v 22 k (v 16 k)) (by omega) (by omega) h12
      refine ⟨v', i1, fun j h1 => (i2 j h1).trans (st_i h1), fun j h1 h2 => ?_, fun j h1 => ?_⟩
      · by_cases q : j = k
        · subst q
          rw [i4 j (by omega), st_s, upd_s]
        · rw [i3 j (by omega) h2]; rfl
      · rw [i4 j (by omega), st_s, upd_n (by omega)]
theorem lcopy_2 {k : Nat} (hk : k ≤ 16) : ∀ (m q : Nat) (v : St), q ≤ k → k - q < m → v 14 0 = nI k → ∃ v', fX12_law_L123 m v (nI q) = some (nI k, v') ∧ (∀ j, j ≠ 23 → j ≠ 24 → j ≠ 25 → j ≠ 26 → v' j = v j) ∧ (∀ j, q ≤ j → j < k → v' 23 j = v 18 j ∧ v' 24 j = v 19 j ∧ v' 25 j = v 20 j ∧ v' 26 j = v 21 j) ∧ ∀ j, j < q → v' 23 j = v 23 j ∧ v' 24 j = v 24 j ∧ v' 25 j = v 25 j ∧ v' 26 j = v 26 j := by
  intro m
  induction m with
  | zero => intro q v _ h; omega
  | succ m ih =>
    intro q v hq hm h14
    have e : fX12_law_L123 (m + 1) v (nI q) = bX12_law_L123 (fX12_law_L123 m) v (nI q) := rfl
    rw [e]
    unfold bX12_law_L123
    rw [h14]
    by_cases he : q = k
    · rw [if_pos (nI_le (by omega) (by omega))]
      exact ⟨v, rfl, fun _ _ _ _ _ => rfl, fun j h1 h2 => by omega, fun j _ => ⟨rfl, rfl, rfl, rfl⟩⟩
    · have hq2 : q < k := by omega
      rw [if_neg (nI_ge hq2 (by omega)), gd_n (by omega) (by decide), gd_n (by omega) (by decide), lett_s, gd_n (by omega) (by decide), gd_n (by omega) (by decide), lett_s, gd_n (by omega) (by decide), gd_n (by omega) (by decide), lett_s, gd_n (by omega) (by decide), gd_n (by omega) (by decide), lett_s, lett_s, n1, ix_n (by omega)]
      rw [show st v 23 q (v 18 q) 19 q = v 19 q from rfl, show st (st v 23 q (v 18 q)) 24 q (v 19 q) 20 q = v 20 q from rfl, show st (st (st v 23 q (v 18 q)) 24 q (v 19 q)) 25 q (v 20 q) 21 q = v 21 q from rfl]
      obtain ⟨v', i1, i2, i3, i4⟩ := ih (q + 1) (st (st (st (st v 23 q (v 18 q)) 24 q (v 19 q)) 25 q (v 20 q)) 26 q (v 21 q)) (by omega) (by omega) h14
      refine ⟨v', i1, fun j h1 h2 h3 h4 => ?_, fun j h1 h2 => ?_, fun j h1 => ?_⟩
      · rw [i2 j h1 h2 h3 h4, st_i h4, st_i h3, st_i h2, st_i h1]
      · by_cases qj : j = q
        · subst qj
          obtain ⟨w1, w2, w3, w4⟩ := i4 j (by omega)
          rw [w1, w2, w3, w4]
          refine ⟨?_, ?_, ?_, ?_⟩
          · show upd (v 23) j (v 18 j) j = _
            rw [upd_s]
          · show upd (v 24) j (v 19 j) j = _
            rw [upd_s]
          · show upd (v 25) j (v 20 j) j = _
            rw [upd_s]
          · show upd (v 26) j (v 21 j) j = _
            rw [upd_s]
        · exact i3 j (by omega) h2
      · obtain ⟨w1, w2, w3, w4⟩ := i4 j (by omega)
        rw [w1, w2, w3, w4]
        refine ⟨?_, ?_, ?_, ?_⟩
        · show upd (v 23) q (v 18 q) j = _
          rw [upd_n (by omega)]
        · show upd (v 24) q (v 19 q) j = _
          rw [upd_n (by omega)]
        · show upd (v 25) q (v 20 q) j = _
          rw [upd_n (by omega)]
        · show upd (v 26) q (v 21 q) j = _
          rw [upd_n (by omega)]
theorem eq_law (g : Nat → St) (w : Nat → Int64) (v : St) (hr : Rel g v) (p1 : Int32) : ∃ (z : Int32 × St × St × St × St) (y : Int32 × St), fX11_law (g 1) (g 2) (g 13) (g 14) p1 = some z ∧ fX12_law v p1 = some y ∧ z.1 = y.1 ∧ Rel (sg (sg (sg (sg g 1 z.2.1) 2 z.2.2.1) 13 z.2.2.2.1) 14 z.2.2.2.2) y.2 := by
  obtain ⟨⟨t, c, ht, h2, h3, h4⟩, t2, t3, t4, t5, t6⟩ := id hr
  rcases offers_c h2 ht p1 1 240 (a := 1) (b := 240) rfl rfl (by decide) (by decide) with ⟨n, n1', n2, n3, rfl, e1, e2, e3⟩ | ⟨e1, e2⟩
  · have tx : Tx n c (g 1) := Tx_of ⟨ht, h2, h3, h4⟩ n3 n2
    obtain ⟨u0, s1, s2⟩ := start_n (u := g 2) tx n1'
    obtain ⟨v0, ev0⟩ : ∃ v0, v0 = fX12_beginsText v (nI n) := ⟨_, rfl⟩
    have bt : v0 = st (st (st (st v 7 0 0) 8 0 (nI n)) 12 0 0) 14 0 0 := by rw [ev0]; rfl
    have cb0 : CB n c 0 0 (fun _ => 0) (fun _ => 0) v0 := by
      rw [bt]
      exact ⟨⟨n2, rfl, fun j hj => ⟨(h4 j (by omega)).1, (h4 j (by omega)).2.2⟩⟩, rfl, rfl, fun j hj => by omega⟩
    have frA : ∀ k, k ≠ 7 → k ≠ 8 → k ≠ 12 → k ≠ 14 → v0 k = v k := fun k a1 a2 a3 a4 => by
      rw [bt, st_i a4, st_i a3, st_i a2, st_i a1]
    have ca0 : CA 0 (fun _ => 0) (fun _ => 0) (fX2_clear (g 14)) := ⟨rfl, by omega, fun j hj => by omega⟩
    have v014 : v0 14 0 = nI 0 := by rw [bt]; rfl
    have z0 : RLn n c 0 0 0 (fun _ => 0) (fun _ => 0) (fX2_clear (g 14)) v0 := ⟨by omega, rfl, v014, ca0, cb0, by omega, fun j hj => by omega⟩
    have hA : ∀ (r : Option (St × St)), fX3_read u0 (g 1) (g 14) = r → fX11_law (g 1) (g 2) (g 13) (g 14) (nI n) = r.bind fun z4 => if fX1_isFaulty z4.1 = 0 then some (z4.2 4 0, st (g 1) 1 0 0, z4.1, z4.2, g 13) else some (z4.1 4 0, st (g 1) 1 0 0, z4.1, g 13, z4.2) := fun r er => by
      unfold fX11_law
      rw [e1, lett_s, if_neg (by decide), s1, sbind, er]
      rfl
    have hB : fX12_law v (nI n) = (fX12_readsRule v0).bind fun z33 => fX12_law_L31 FU z33.2 z33.1 := by
      unfold fX12_law
      rw [e2, lett_s, if_neg (by decide), h3, if_pos e3, lett_s, ev0]
    have rd0 : fX3_read u0 (g 1) (g 14) = (fX3_readRule u0 (g 1) (fX2_clear (g 14)) (nI 0)).bind fun z4 => fX3_read_L6 (g 1) 999999 z4.1 z4.2 (nI (0 + 1)) := by
      unfold fX3_read
      rw [lett_s]
      show bX3_read_L6 (g 1) (fX3_read_L6 (g 1) 999999) u0 (fX2_clear (g 14)) 0 = _
      unfold bX3_read_L6
      rw [if_neg (by decide), begins_0 s2, sbind, if_neg n10]
      rfl
    have fin_bad : ∀ (lw' u' v' : St) (i' : Nat) (F : Int32), ¬ F = 0 → Cu n c i' F u' → v' 9 0 = F → RFr v0 v' → fX3_read u0 (g 1) (g 14) = some (u', lw') → fX12_law v (nI n) = fX12_law_J71 v' 0 → ∃ (z : Int32 × St × St × St × St) (y : Int32 × St), fX11_law (g 1) (g 2) (g 13) (g 14) (nI n) = some z ∧ fX12_law v (nI n) = some y ∧ z.1 = y.1 ∧ Rel (sg (sg (sg (sg g 1 z.2.1) 2 z.2.2.1) 13 z.2.2.2.1) 14 z.2.2.2.2) y.2 := by
      intro lw' u' v' i' F hF hc h9 wf er eB
      have eJ : fX12_law_J71 v' 0 = some (v' 9 0, st v' 6 0 0) := by
        unfold fX12_law_J71
        rw [lett_s, if_pos rfl]
        rfl
      rw [hA _ er, sbind, eB, eJ]
      dsimp only
      rw [faulty_f hc hF, if_neg (by decide)]
      have k : ∀ k, (k < 6 ∨ k = 15 ∨ 22 ≤ k) → st v' 6 0 0 k = v k := fun k hk => by
        rw [st_i (by omega), wf k (by omega) (by omega) (by omega) (by omega) (by omega) (by omega) (by omega) (by omega) (by omega) (by omega) (by omega) (by omega) (by omega), frA k (by omega) (by omega) (by omega) (by omega)]
      refine ⟨(_, _, _, _, _), (_, _), rfl, rfl, ?_, ?_⟩
      · show u' 4 0 = v' 9 0
        rw [hc.2.2.2.2]; exact h9.symm
      · refine ⟨⟨0, fun _ => 0, by omega, rfl, rfl, fun j hj => by omega⟩, ?_, KR_ref t3 (k 51 (by omega)) (k 2 (by omega)), RR_ref t4 (k 3 (by omega)) (k 4 (by omega)), LR_ref t5 (k 15 (by omega)) (k 22 (by omega)) (k 23 (by omega)) (k 24 (by omega)) (k 25 (by omega)) (k 26 (by omega)), VR_ref t6 (k 36 (by omega)) (k 30 (by omega)) (k 31 (by omega)) (k 32 (by omega))⟩
        show WR (g 3) (st v' 6 0 0 0)
        rw [k 0 (by omega)]
        exact t2
    have fin_good : ∀ (q i' m' : Nat) (S' O' : Nat → Nat) (lw' u' v' : St), Cu n c i' 0 u' → RLn n c i' q m' S' O' lw' v' → RFr v0 v' → fX3_read u0 (g 1) (g 14) = some (u', lw') → fX12_law v (nI n) = fX12_law_J71 v' 1 → ∃ (z : Int32 × St × St × St × St) (y : Int32 × St), fX11_law (g 1) (g 2) (g 13) (g 14) (nI n) = some z ∧ fX12_law v (nI n) = some y ∧ z.1 = y.1 ∧ Rel (sg (sg (sg (sg g 1 z.2.1) 2 z.2.2.1) 13 z.2.2.2.1) 14 z.2.2.2.2) y.2 := by
      intro q i' m' S' O' lw' u' v' hc wl wf er eB
      obtain ⟨w1, w2, w3, w4, w5, w6, w7⟩ := wl
      obtain ⟨x1, x2, x3, x4⟩ := w5
      obtain ⟨va, a1, a2, a3, -⟩ := lcopy_1 w4.2.1 FU 0 (st (st v' 6 0 0) 15 0 (nI q)) (by omega) (show m' - 0 < 1000000 by have := w4.2.1; omega) x3
      obtain ⟨vb, b1, b2, b3, -⟩ := lcopy_2 w1 FU 0 va (by omega) (show q - 0 < 1000000 by omega) (by rw [a2 14 (by decide)]; exact w3)
      have eJ : fX12_law_J71 v' 1 = some (nI q, vb) := by
        unfold fX12_law_J71
        rw [lett_s, if_neg (by decide), show st v' 6 0 0 14 0 = nI q from w3, lett_s]
        exact (show fX12_law_L95 FU (st (st v' 6 0 0) 15 0 (nI q)) 0 = _ from a1).trans b1
      rw [hA _ er, sbind, eB, eJ]
      dsimp only
      rw [faulty_n hc, if_pos rfl]
      have kb : ∀ k, k ≠ 15 → k ≠ 6 → k ≠ 22 → k ≠ 23 → k ≠ 24 → k ≠ 25 → k ≠ 26 → vb k = v' k := fun k c15 c6 c22 c23 c24 c25 c26 => by
        rw [b2 k c23 c24 c25 c26, a2 k c22, st_i c15, st_i c6]
      have k : ∀ k, (k < 6 ∨ 27 ≤ k) → vb k = v k := fun k hk => by
        rw [kb k (by omega) (by omega) (by omega) (by omega) (by omega) (by omega) (by omega), wf k (by omega) (by omega) (by omega) (by omega) (by omega) (by omega) (by omega) (by omega) (by omega) (by omega) (by omega) (by omega) (by omega), frA k (by omega) (by omega) (by omega) (by omega)]
      refine ⟨(_, _, _, _, _), (_, _), rfl, rfl, w2, ?_⟩
      refine ⟨⟨0, fun _ => 0, by omega, rfl, ?_, fun j hj => by omega⟩, ?_, KR_ref t3 (k 51 (by omega)) (k 2 (by omega)), RR_ref t4 (k 3 (by omega)) (k 4 (by omega)), ?_, VR_ref t6 (k 36 (by omega)) (k 30 (by omega)) (k 31 (by omega)) (k 32 (by omega))⟩
      · show vb 6 0 = nI 0
        rw [b2 6 (by decide) (by decide) (by decide) (by decide), a2 6 (by decide)]; rfl
      · show WR (g 3) (vb 0)
        rw [k 0 (by omega)]
        exact t2
      · refine ⟨q, m', fun j => ix (lw' 0 j), fun j => ix (lw' 1 j), fun j => ix (lw' 2 j), fun j => ix (lw' 3 j), S', O', w1, w4.2.1, w2, ?_, fun j hj => ⟨(w4.2.2 j hj).1, (w4.2.2 j hj).2, ?_⟩, fun j hj => ?_⟩
        · show vb 15 0 = nI q
          rw [b2 15 (by decide) (by decide) (by decide) (by decide), a2 15 (by decide)]; rfl
        · show vb 22 j = _
          rw [b2 22 (by decide) (by decide) (by decide) (by decide), a3 j (by omega) hj]
          exact x4 j hj
        · obtain ⟨K, A, B, E, k1, k2, k3, k4, k5, k6, k7, k8, k9, k10, k11, k12, k13, k14⟩ := w7 j hj
          obtain ⟨d1, d2, d3, d4⟩ := b3 j (by omega) hj
          have hm := w4.2.1
          show _ ∧ lw' 0 j = _ ∧ vb 23 j = _ ∧ lw' 1 j = _ ∧ vb 24 j = _ ∧ lw' 2 j = _ ∧ vb 25 j = _ ∧ lw' 3 j = _ ∧ vb 26 j = _ ∧ _ ∧ _ ∧ _ ∧ (∃ ty, CodeOk S' O' (ix (lw' 2 j)) (ix (lw' 3 j)) true ty) ∧ (ix (lw' 0 j) ≠ 103 → ix (lw' 0 j) ≠ 114 → ∃ ty, CodeOk S' O' (ix (lw' 1 j)) (ix (lw' 2 j)) false ty)
          rw [d1, d2, d3, d4, a2 18 (by decide), a2 19 (by decide), a2 20 (by decide), a2 21 (by decide)]
          dsimp only
          rw [k2, k4, k6, k8, ix_n (by omega), ix_n (by omega), ix_n (by omega), ix_n (by omega)]
          exact ⟨k1, rfl, k3, rfl, k5, rfl, k7, rfl, k9, k10, k11, k12, Seg_code k13, fun x y => Seg_code (k14 x y)⟩
    rcases ruleC_n (lw := fX2_clear (g 14)) tx (q := 0) (by omega) (show 0 ≤ 0 by omega) s2 ca0 cb0 v014 with ⟨u', lw', v', l1, l2, l3, l4⟩ | ⟨F, i', u', lw', v', l0, l1, l2, l3, l4, l5, l6⟩
    · obtain ⟨i', m', S', O', g1, g2, g3⟩ := RLn_step z0 l3
      rw [l1, sbind] at rd0
      rw [l2, sbind] at hB
      rcases lloop_n tx FU 999999 (0 + 1) i' m' S' O' lw' u' v' (show n - i' < 1000000 by omega) (by omega) (by omega) g3 g1 with ⟨q2, i2, m2, S2, O2, lw2, u2, v2, r1, r2, r3, r4, r5⟩ | ⟨F, lw2, u2, i2, v2, r0, r1, r2, r3, r4, r5⟩
      · exact fin_good q2 i2 m2 S2 O2 lw2 u2 v2 r3 r4 (RFr_t l4 r5) (rd0.trans r1) (hB.trans r2)
      · exact fin_bad lw2 u2 v2 i2 F r0 r3 r4 (RFr_t l4 r5) (rd0.trans r1) (hB.trans r2)
    · rw [l1, sbind] at rd0
      rw [l2, sbind] at hB
      refine fin_bad lw' u' v' i' F l0 l3 l5 l6 (rd0.trans ?_) (hB.trans ?_)
      · show bX3_read_L6 (g 1) (fX3_read_L6 (g 1) 999998) u' lw' (nI (0 + 1)) = _
        unfold bX3_read_L6
        rw [if_neg (by decide), begins_f l3 l0, sbind]
        exact if_pos rfl
      · show bX12_law_L31 (fX12_law_L31 999999) v' 0 = _
        unfold bX12_law_L31
        rw [if_pos rfl]
  · unfold fX11_law fX12_law
    rw [e1, lett_s, if_pos rfl]
    refine ⟨(_, _, _, _, _), (-1, v), rfl, ?_, rfl, hr⟩
    rcases e2 with e | ⟨e, e3⟩
    · rw [e, lett_s, if_pos rfl]
    · rw [e, lett_s, if_neg (by decide), h3, if_neg e3]
