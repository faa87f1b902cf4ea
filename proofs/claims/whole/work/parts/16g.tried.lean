/-! ===== tried ===== -/
theorem triedJ (v : St) (x : Int32) : fX12_tried_J172 v x = some (x, sa v 0 (fa_fill (v 1) (v 0) 98)) := by
  unfold fX12_tried_J172
  rw [copies_n, sbind, lett_s]
/-- whether something can be tried: what class and reference say of it -/
theorem tried_acc {N : Nat → Nat → Nat} {w v : St} (ok : WkOk N) (wc : WkC N w) (wr : WkR N (v 0)) (hn p2 : Int32) : (fX11_canBeTried w p2 = some 0 ∧ (if fX12_in p2 0 4 = 0 then (fX12_isTold v (p2 - 100)).bind fun z23 => if z23 = 0 then (fX12_isTold v (p2 - 200)).bind fun z25 => if z25 = 0 then some ((-1), v) else fX12_tried_J45 v hn p2 else fX12_tried_J45 v hn p2 else fX12_tried_J45 v hn p2) = some (-1, v)) ∨ (fX11_canBeTried w p2 = some 1 ∧ (if fX12_in p2 0 4 = 0 then (fX12_isTold v (p2 - 100)).bind fun z23 => if z23 = 0 then (fX12_isTold v (p2 - 200)).bind fun z25 => if z25 = 0 then some ((-1), v) else fX12_tried_J45 v hn p2 else fX12_tried_J45 v hn p2 else fX12_tried_J45 v hn p2) = fX12_tried_J45 v hn p2 ∧ ((∃ q, q ≤ 4 ∧ p2 = nI q) ∨ (∃ q, q < 16 ∧ (N 4 0).testBit q = true ∧ p2 = nI (100 + q)) ∨ ∃ q, q < 16 ∧ (N 4 0).testBit q = true ∧ p2 = nI (200 + q))) := by
  unfold fX11_canBeTried
  rw [within_eq, lett_s]
  have back : ∀ (x : Int32) (a q : Nat), p2 - x = nI q → x = nI a → p2 = nI (a + q) := fun x a q h1 h2 => by
    have : p2 - x + x = p2 := Int32.sub_add_cancel _ _
    rw [← this, h1, h2, nI_add, Nat.add_comm]
  rcases in_cases p2 0 4 0 4 rfl rfl (by decide) (by decide) with ⟨q, -, q2, q3, e⟩ | e
  · rw [e, if_neg (by decide), if_neg (by decide)]
    exact Or.inr ⟨rfl, rfl, Or.inl ⟨q, q2, q3⟩⟩
  · rw [e, if_pos rfl, if_pos rfl]
    have second : ((fX9_knows w (p2 - 200)).bind fun z5 => if z5 = 0 then some (0 : Int32) else some 1) = some 0 ∧ ((fX12_isTold v (p2 - 200)).bind fun z25 => if z25 = 0 then some ((-1), v) else fX12_tried_J45 v hn p2) = some (-1, v) ∨ ((fX9_knows w (p2 - 200)).bind fun z5 => if z5 = 0 then some (0 : Int32) else some 1) = some 1 ∧ ((fX12_isTold v (p2 - 200)).bind fun z25 => if z25 = 0 then some ((-1), v) else fX12_tried_J45 v hn p2) = fX12_tried_J45 v hn p2 ∧ ∃ q, q < 16 ∧ (N 4 0).testBit q = true ∧ p2 = nI (200 + q) := by
      rcases in_cases (p2 - 200) 0 15 0 15 rfl rfl (by decide) (by decide) with ⟨q, -, q2, q3, -⟩ | e2
      · rw [q3, knows_n wc ok.1 (by omega), isTold_n wr (by omega), sbind, sbind]
        cases hb : (N 4 0).testBit q
        · rw [if_pos (by decide), if_pos (by decide)]; exact Or.inl ⟨rfl, rfl⟩
        · rw [if_neg (by decide), if_neg (by decide)]; exact Or.inr ⟨rfl, rfl, q, by omega, hb, back 200 200 q q3 rfl⟩
      · rw [knows_o e2, isTold_o e2, sbind, sbind, if_pos rfl, if_pos rfl]; exact Or.inl ⟨rfl, rfl⟩
    rcases in_cases (p2 - 100) 0 15 0 15 rfl rfl (by decide) (by decide) with ⟨q, -, q2, q3, -⟩ | e2
    · rw [q3, knows_n wc ok.1 (by omega), isTold_n wr (by omega), sbind, sbind]
      cases hb : (N 4 0).testBit q
      · rw [if_pos (by decide), if_pos (by decide)]
        rcases second with ⟨s1, s2⟩ | ⟨s1, s2, s3⟩
        · exact Or.inl ⟨s1, s2⟩
        · exact Or.inr ⟨s1, s2, Or.inr (Or.inr s3)⟩
      · rw [if_neg (by decide), if_neg (by decide)]
        exact Or.inr ⟨rfl, rfl, Or.inr (Or.inl ⟨q, by omega, hb, back 100 100 q q3 rfl⟩)⟩
    · rw [knows_o e2, isTold_o e2, sbind, sbind, if_pos rfl, if_pos rfl]
      rcases second with ⟨s1, s2⟩ | ⟨s1, s2, s3⟩
      · exact Or.inl ⟨s1, s2⟩
      · exact Or.inr ⟨s1, s2, Or.inr (Or.inr s3)⟩
theorem eq_tried (g : Nat → St) (w : Nat → Int64) (v : St) (hr : Rel g v) (p1 p2 : Int32) : ∃ (z : Int32 × St × St × St) (y : Int32 × St), fX11_tried (g 3) (g 5) (g 6) (g 13) p1 p2 = some z ∧ fX12_tried v p1 p2 = some y ∧ z.1 = y.1 ∧ Rel (sg (sg (sg g 5 z.2.1) 6 z.2.2.1) 13 z.2.2.2) y.2 := by
  obtain ⟨t1, ⟨N, ok, wc, wr⟩, t3, ⟨ta, tb, r1, r2, r3, r4, r5, r6⟩, ⟨n, c, K, A, B, E, S, O, hl⟩, t6⟩ := id hr
  unfold fX11_tried fX12_tried
  rw [within_eq]
  rcases in_cases p1 1 240 1 240 rfl rfl (by decide) (by decide) with ⟨hn, n1, n2, rfl, e⟩ | e
  · rw [e, lett_s, lett_s, if_neg (by decide), lett_s, if_neg (by decide), lett_s]
    rcases tried_acc ok wc wr (nI hn) p2 with ⟨s1, s2⟩ | ⟨s1, s2, s3⟩
    · rw [s1, s2, sbind, if_pos rfl]
      refine ⟨(_, _, _, _), (_, _), rfl, rfl, rfl, ?_⟩
      exact hr
    · rw [s1, s2, sbind, if_neg (by decide)]
      have hv1 : LRn n c K A B E S O (g 13) (sa v 1 (fa_fill (v 0) (v 1) 98)) := hl
      obtain ⟨N', ro', w', lw', v', i1, i2, i3, i4, i5, i6⟩ := pass_n (ro := g 6) (w := fX9_copyFrom (g 5) (g 3)) (lw := g 13) (v := sa v 1 (fa_fill (v 0) (v 1) 98)) hv1 ok (WkC_copy wc) wr r1 r2 r3 r4 r5 r6 n2
      obtain ⟨ok', wc', wr', u1, u2, u3, u4, u5, u6, c1, c2, c3, c4⟩ := id i3
      have k : ∀ k, k ≠ 0 → k ≠ 1 → k ≠ 27 → k ≠ 28 → k ≠ 39 → k ≠ 40 → k ≠ 41 → k ≠ 42 → sa v' 0 (fa_fill (v' 1) (v' 0) 98) k = v k := fun k h0 h1 h2 h3 h4 h5 h6 h7 => by
        rw [sa_i h0, i6 k h0 h2 h3 h4 h5 h6 h7, sa_i h1]
      have hv11 : v' 1 = fa_fill (v 0) (v 1) 98 := by
        rw [i6 1 (by decide) (by decide) (by decide) (by decide) (by decide) (by decide) (by decide), sa_s]
      have fin : Rel (sg (sg (sg g 5 w') 6 ro') 13 lw') (sa v' 0 (fa_fill (v' 1) (v' 0) 98)) := by
        refine ⟨TR_ref t1 (k 5 (by decide) (by decide) (by decide) (by decide) (by decide) (by decide) (by decide) (by decide)) (k 6 (by decide) (by decide) (by decide) (by decide) (by decide) (by decide) (by decide) (by decide)), ⟨N, ok, wc, ?_⟩, KR_ref t3 (k 51 (by decide) (by decide) (by decide) (by decide) (by decide) (by decide) (by decide) (by decide)) (k 2 (by decide) (by decide) (by decide) (by decide) (by decide) (by decide) (by decide) (by decide)), ⟨ta, tb, u1, u2, u3, u4, u5, u6⟩, LR_of (LRn_cong hl (fun q hq => i5 q (by omega)) ?_ ?_ ?_ ?_ ?_ ?_), VR_ref t6 (k 36 (by decide) (by decide) (by decide) (by decide) (by decide) (by decide) (by decide) (by decide)) (k 30 (by decide) (by decide) (by decide) (by decide) (by decide) (by decide) (by decide) (by decide)) (k 31 (by decide) (by decide) (by decide) (by decide) (by decide) (by decide) (by decide) (by decide)) (k 32 (by decide) (by decide) (by decide) (by decide) (by decide) (by decide) (by decide) (by decide))⟩
        · rw [sa_s, hv11]; exact WkR_fill (WkR_fill wr)
        · exact k 15 (by decide) (by decide) (by decide) (by decide) (by decide) (by decide) (by decide) (by decide)
        · exact k 22 (by decide) (by decide) (by decide) (by decide) (by decide) (by decide) (by decide) (by decide)
        · exact k 23 (by decide) (by decide) (by decide) (by decide) (by decide) (by decide) (by decide) (by decide)
        · exact k 24 (by decide) (by decide) (by decide) (by decide) (by decide) (by decide) (by decide) (by decide)
        · exact k 25 (by decide) (by decide) (by decide) (by decide) (by decide) (by decide) (by decide) (by decide)
        · exact k 26 (by decide) (by decide) (by decide) (by decide) (by decide) (by decide) (by decide) (by decide)
      rw [i1, sbind]
      unfold fX12_tried_J45
      rw [copies_n, sbind, lett_s, lett_s, i2, sbind]
      dsimp only
      rcases s3 with ⟨q, q1, rfl⟩ | ⟨q, q1, q2, rfl⟩ | ⟨q, q1, q2, rfl⟩
      · rw [if_pos (show nI q < 200 from nI_lt (b := 200) (by omega) (by decide)), if_pos (show nI q < 100 from nI_lt (b := 100) (by omega) (by decide))]
        rcases (show q = 0 ∨ q = 1 ∨ q = 2 ∨ q = 3 ∨ q = 4 by omega) with rfl | rfl | rfl | rfl | rfl
        · rw [if_pos (by decide), if_pos (by decide), lett_s, triedJ]
          exact ⟨(_, _, _, _), (_, _), rfl, rfl, c1, fin⟩
        · rw [if_neg (by decide), if_pos (by decide), if_neg (by decide), if_pos (by decide), lett_s, triedJ]
          exact ⟨(_, _, _, _), (_, _), rfl, rfl, c2, fin⟩
        · rw [if_neg (by decide), if_neg (by decide), if_pos (by decide), if_neg (by decide), if_neg (by decide), if_pos (by decide), lett_s, triedJ]
          exact ⟨(_, _, _, _), (_, _), rfl, rfl, c3, fin⟩
        · rw [if_neg (by decide), if_neg (by decide), if_neg (by decide), if_pos (by decide), if_neg (by decide), if_neg (by decide), if_neg (by decide), if_pos (by decide), wc'.2.1, bitCount_n ok'.2.1, overMany_n wr' ok', sbind, triedJ]
          exact ⟨(_, _, _, _), (_, _), rfl, rfl, rfl, fin⟩
        · rw [if_neg (by decide), if_neg (by decide), if_neg (by decide), if_neg (by decide), if_neg (by decide), if_neg (by decide), if_neg (by decide), if_neg (by decide), if_pos (by decide), lett_s, triedJ]
          exact ⟨(_, _, _, _), (_, _), rfl, rfl, c4, fin⟩
      · have ne : ∀ a : Nat, a < 100 → ¬ nI (100 + q) = nI a := fun a ha e => by
          have := (nI_eq (by omega) (by omega)).mp e; omega
        rw [← i4] at q2
        rw [if_pos (show nI (100 + q) < 200 from nI_lt (b := 200) (by omega) (by decide)), if_neg (show ¬ nI (100 + q) < 100 from nI_nlt (b := 100) (by omega) (by omega)), if_neg (show ¬ nI (100 + q) = 0 from ne 0 (by decide)), if_neg (show ¬ nI (100 + q) = 1 from ne 1 (by decide)), if_neg (show ¬ nI (100 + q) = 2 from ne 2 (by decide)), if_neg (show ¬ nI (100 + q) = 3 from ne 3 (by decide)), if_neg (show ¬ nI (100 + q) = 4 from ne 4 (by decide)), if_neg (show ¬ (200 : Int32) ≤ nI (100 + q) from nI_ge (b := 200) (by omega) (by decide)), show (100 : Int32) = nI 100 from rfl, sub_n (by omega), show 100 + q - 100 = q by omega, show fX9_factOf w' (nI q) 0 = _ from factOf_t wc' ok' (q := 0) q1 (by omega) q2, sbind, a16, sub_n (by omega), show 16 + (100 + q) - 100 = 16 + q by omega, gd_n (by omega) (by decide), ix_n (by omega), (wr'.2.2 q q1).2.1]
        unfold fX12_tried_J171
        rw [triedJ]
        exact ⟨(_, _, _, _), (_, _), rfl, rfl, rfl, fin⟩
      · have ne : ∀ a : Nat, a < 100 → ¬ nI (200 + q) = nI a := fun a ha e => by
          have := (nI_eq (by omega) (by omega)).mp e; omega
        rw [← i4] at q2
        rw [if_neg (show ¬ nI (200 + q) < 200 from nI_nlt (b := 200) (by omega) (by omega)), if_neg (show ¬ nI (200 + q) = 0 from ne 0 (by decide)), if_neg (show ¬ nI (200 + q) = 1 from ne 1 (by decide)), if_neg (show ¬ nI (200 + q) = 2 from ne 2 (by decide)), if_neg (show ¬ nI (200 + q) = 3 from ne 3 (by decide)), if_neg (show ¬ nI (200 + q) = 4 from ne 4 (by decide)), if_pos (show (200 : Int32) ≤ nI (200 + q) from nI_le (a := 200) (by omega) (by omega)), show (200 : Int32) = nI 200 from rfl, sub_n (by omega), show 200 + q - 200 = q by omega, show fX9_factOf w' (nI q) 4 = _ from factOf_t wc' ok' (q := 4) q1 (by omega) q2, sbind, a80, sub_n (by omega), show 80 + (200 + q) - 200 = 80 + q by omega, gd_n (by omega) (by decide), ix_n (by omega), (wr'.2.2 q q1).2.2.2.2.2]
        unfold fX12_tried_J171
        rw [triedJ]
        exact ⟨(_, _, _, _), (_, _), rfl, rfl, rfl, fin⟩
  · rw [e, lett_s, lett_s, if_pos rfl, lett_s, if_pos rfl]
    refine ⟨(_, _, _, _), (_, _), rfl, rfl, rfl, ?_⟩
    exact hr
