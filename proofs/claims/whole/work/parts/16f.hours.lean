/-! ===== hours, tried ===== -/
theorem LRn_h {n c : Nat} {K A B E S O : Nat → Nat} {lw0 v0 lw v : St} (h : LRn n c K A B E S O lw0 v0) (hl : ∀ k, k < 8 → lw k = lw0 k) (hv : HFr v0 v) : LRn n c K A B E S O lw v := LRn_cong h (fun k hk => hl k (by omega)) (hv 15 (by decide) (by decide) (by decide) (by decide) (by decide) (by decide) (by decide)) (hv 22 (by decide) (by decide) (by decide) (by decide) (by decide) (by decide) (by decide)) (hv 23 (by decide) (by decide) (by decide) (by decide) (by decide) (by decide) (by decide)) (hv 24 (by decide) (by decide) (by decide) (by decide) (by decide) (by decide) (by decide)) (hv 25 (by decide) (by decide) (by decide) (by decide) (by decide) (by decide) (by decide)) (hv 26 (by decide) (by decide) (by decide) (by decide) (by decide) (by decide) (by decide))
theorem inner_n {n c : Nat} {K A B E S O : Nat → Nat} {ta tb : Nat} (lpA : St → St → St → Int32 → Int32 → Option (St × St × St)) (lpB : St → Int32 → Int32 → Option St) (x4 x5 x1 x2 : Int32) : ∀ (m q : Nat) (N : Nat → Nat → Nat) (ro w lw v : St), q ≤ 16 → 16 - q < m → LRn n c K A B E S O lw v → HR N ta tb ro w v → N 6 0 ≤ 9998 → ∃ N' ro' w' lw' v', fX7_pass_L47 lpA m ro w lw x4 x5 (nI q) = lpA ro' w' lw' x4 (x5 + 1) ∧ fX12_hoursGo_L42 lpB m v x1 x2 (nI q) = lpB v' x1 (x2 + 1) ∧ HR N' ta tb ro' w' v' ∧ N' 4 0 = N 4 0 ∧ N' 6 0 = N 6 0 + 1 ∧ (∀ k, k < 8 → lw' k = lw k) ∧ HFr v v' := by
  intro m
  induction m with
  | zero => intro q N ro w lw v _ h; omega
  | succ m ih =>
    intro q N ro w lw v hq hm h hr h6
    have g96 : ∀ {α : Type} (x : Option α), gd 96 98 x = x := fun x => gd_n (k := 96) (by decide) (by decide)
    have i96 : ix 96 = 96 := ix_n (k := 96) (by decide)
    have uA : fX7_pass_L47 lpA (m + 1) ro w lw x4 x5 (nI q) = bX7_pass_L47 lpA (fX7_pass_L47 lpA m) ro w lw x4 x5 (nI q) := rfl
    have uB : fX12_hoursGo_L42 lpB (m + 1) v x1 x2 (nI q) = bX12_hoursGo_L42 lpB (fX12_hoursGo_L42 lpB m) v x1 x2 (nI q) := rfl
    obtain ⟨ok, wc, wr, -⟩ := id hr
    by_cases hq16 : q = 16
    · subst hq16
      refine ⟨_, ro, st w 6 0 (nI (N 6 0 + 1)), lw, st v 0 96 (nI (N 6 0 + 1)), ?_, ?_, HR_hour hr h6, rfl, nset_s _ _ _ _, fun _ _ => rfl, HFr_0 (HFr_rfl v)⟩
      · rw [uA]; unfold bX7_pass_L47
        rw [if_pos (show (16 : Int32) ≤ nI 16 by decide), lett_s, lett_s, wc.2.2.1, n1]
      · rw [uB]; unfold bX12_hoursGo_L42
        rw [if_pos (show (16 : Int32) ≤ nI 16 by decide), g96, g96, lett_s, lett_s, i96, wr.1, n1]
    · have hq2 : q < 16 := by omega
      have nle : ¬ (16 : Int32) ≤ nI q := nI_ge (b := 16) hq2 (by decide)
      have eA : fX7_pass_L47 lpA (m + 1) ro w lw x4 x5 (nI q) = if (N 4 0).testBit q = false then fX7_pass_L47 lpA m ro w lw x4 x5 (nI (q + 1)) else (fX7_visit ro w lw (nI q)).bind fun z7 => fX7_pass_L47 lpA m z7.1 z7.2.1 z7.2.2 x4 x5 (nI (q + 1)) := by
        rw [uA]; unfold bX7_pass_L47
        rw [if_neg nle, wc.1, has11_n (by have := ok.1; omega) (by omega), lett_s]
        simp only [lett_s, n1]
        cases (N 4 0).testBit q
        · rw [if_pos (by decide), if_pos rfl]
        · rw [if_neg (by decide), if_neg (by decide)]
      have eB : fX12_hoursGo_L42 lpB (m + 1) v x1 x2 (nI q) = if (N 4 0).testBit q = false then fX12_hoursGo_L42 lpB m v x1 x2 (nI (q + 1)) else (fX12_turnOf v (nI q)).bind fun z9 => fX12_hoursGo_L42 lpB m z9 x1 x2 (nI (q + 1)) := by
        rw [uB]; unfold bX12_hoursGo_L42
        rw [if_neg nle, isTold_n wr hq2, sbind]
        simp only [lett_s, n1]
        cases (N 4 0).testBit q
        · rw [if_pos (by decide), if_pos rfl]
        · rw [if_neg (by decide), if_neg (by decide)]
      rw [eA, eB]
      cases ht : (N 4 0).testBit q
      · rw [if_pos rfl, if_pos rfl]
        exact ih (q + 1) N ro w lw v (by omega) (by omega) h hr h6
      · rw [if_neg (by decide), if_neg (by decide)]
        obtain ⟨N1, ro1, w1, lw1, v1, y1, y2, y3, y4, y5, y6, y7⟩ := turn_n h hr hq2 ht
        obtain ⟨N', ro', w', lw', v', i1, i2, i3, i4, i5, i6, i7⟩ := ih (q + 1) N1 ro1 w1 lw1 v1 (by omega) (by omega) (LRn_h h y6 y7) y3 (by omega)
        rw [y1, y2, sbind, sbind]
        exact ⟨N', ro', w', lw', v', i1, i2, i3, i4.trans y4, by omega, fun k hk => (i6 k hk).trans (y6 k hk), HFr_t y7 i7⟩
theorem outer_n {n c : Nat} {K A B E S O : Nat → Nat} {ta tb hn M h0 : Nat} (hM : M = min hn (9999 - h0)) (hh0 : h0 ≤ 9999) (hhn : hn ≤ 240) : ∀ (m k : Nat) (N : Nat → Nat → Nat) (ro w lw v : St), k ≤ M → M - k < m → LRn n c K A B E S O lw v → HR N ta tb ro w v → N 6 0 = h0 + k → ∃ N' ro' w' lw' v', fX7_pass_L37 m ro w lw (nI M) (nI k) = some (ro', w', lw') ∧ fX12_hoursGo_L22 m v (nI hn) (nI k) = some v' ∧ HR N' ta tb ro' w' v' ∧ N' 4 0 = N 4 0 ∧ (∀ k, k < 8 → lw' k = lw k) ∧ HFr v v' := by
  intro m
  induction m with
  | zero => intro k N ro w lw v _ h; omega
  | succ m ih =>
    intro k N ro w lw v hk hm h hr h6
    have g96 : ∀ {α : Type} (x : Option α), gd 96 98 x = x := fun x => gd_n (k := 96) (by decide) (by decide)
    have i96 : ix 96 = 96 := ix_n (k := 96) (by decide)
    have uA : fX7_pass_L37 (m + 1) ro w lw (nI M) (nI k) = bX7_pass_L37 (fX7_pass_L37 m) ro w lw (nI M) (nI k) := rfl
    have uB : fX12_hoursGo_L22 (m + 1) v (nI hn) (nI k) = bX12_hoursGo_L22 (fX12_hoursGo_L22 m) v (nI hn) (nI k) := rfl
    obtain ⟨ok, wc, wr, -⟩ := id hr
    rw [uA, uB]
    unfold bX7_pass_L37 bX12_hoursGo_L22
    by_cases hkM : k = M
    · refine ⟨N, ro, w, lw, v, ?_, ?_, hr, rfl, fun _ _ => rfl, HFr_rfl v⟩
      · rw [if_pos (nI_le (by omega) (by omega))]
      · by_cases q : hn ≤ k
        · rw [if_pos (nI_le q (by omega))]
        · rw [if_neg (nI_ge (by omega) (by omega)), g96, i96, wr.1, if_pos (show (9999 : Int32) ≤ nI (N 6 0) from nI_le (a := 9999) (by omega) (by omega))]
    · rw [if_neg (nI_ge (show k < M by omega) (by omega)), if_neg (nI_ge (show k < hn by omega) (by omega)), g96, i96, wr.1, if_neg (show ¬ (9999 : Int32) ≤ nI (N 6 0) from nI_ge (b := 9999) (by omega) (by decide))]
      obtain ⟨N1, ro1, w1, lw1, v1, y1, y2, y3, y4, y5, y6, y7⟩ := inner_n (fX7_pass_L37 m) (fX12_hoursGo_L22 m) (nI M) (nI k) (nI hn) (nI k) FU 0 N ro w lw v (by omega) (by decide) h hr (by omega)
      rw [show fX7_pass_L47 (fX7_pass_L37 m) FU ro w lw (nI M) (nI k) 0 = _ from y1, show fX12_hoursGo_L42 (fX12_hoursGo_L22 m) FU v (nI hn) (nI k) 0 = _ from y2, n1]
      obtain ⟨N', ro', w', lw', v', i1, i2, i3, i4, i5, i6⟩ := ih (k + 1) N1 ro1 w1 lw1 v1 (by omega) (by omega) (LRn_h h y6 y7) y3 (by omega)
      exact ⟨N', ro', w', lw', v', i1, i2, i3, i4.trans y4, fun k hk => (i5 k hk).trans (y6 k hk), HFr_t y7 i6⟩
theorem pass_n {n c : Nat} {K A B E S O : Nat → Nat} {N : Nat → Nat → Nat} {ta tb hn : Nat} {ro w lw v : St} (h : LRn n c K A B E S O lw v) (ok : WkOk N) (wc : WkC N w) (wr : WkR N (v 0)) (t1 : ta ≤ 99) (t2 : tb ≤ 99) (t3 : ro 0 0 = nI ta) (t4 : v 3 0 = nI ta) (t5 : ro 1 0 = nI tb) (t6 : v 4 0 = nI tb) (hhn : hn ≤ 240) : ∃ N' ro' w' lw' v', fX7_pass ro w lw (nI hn) = some (ro', w', lw') ∧ fX12_hoursGo v (nI hn) = some v' ∧ HR N' ta tb ro' w' v' ∧ N' 4 0 = N 4 0 ∧ (∀ k, k < 8 → lw' k = lw k) ∧ HFr v v' := by
  have o6 := ok.2.2.1
  have hr0 : HR N ta tb (st (st (st (st ro 2 0 0) 3 0 0) 4 0 0) 5 0 0) w (st (st (st (st v 39 0 0) 40 0 0) 41 0 0) 42 0 0) := ⟨ok, wc, wr, t1, t2, t3, t4, t5, t6, rfl, rfl, rfl, rfl⟩
  have hv0 : HFr v (st (st (st (st v 39 0 0) 40 0 0) 41 0 0) 42 0 0) := HFr_42 (HFr_41 (HFr_40 (HFr_39 (HFr_rfl v))))
  obtain ⟨N', ro', w', lw', v', i1, i2, i3, i4, i5, i6⟩ := outer_n (M := min hn (9999 - N 6 0)) (h0 := N 6 0) (hn := hn) rfl o6 hhn FU 0 N _ w lw _ (by omega) (show min hn (9999 - N 6 0) - 0 < 1000000 by omega) (LRn_h h (fun _ _ => rfl) hv0) hr0 rfl
  refine ⟨N', ro', w', lw', v', ?_, ?_, i3, i4, i5, HFr_t hv0 i6⟩
  · unfold fX7_pass
    rw [lett_s, lett_s, lett_s, lett_s, wc.2.2.1, show (9999 : Int32) = nI 9999 from rfl, sub_n (by omega), mn_n (by omega) (by omega), lett_s]
    exact i1
  · unfold fX12_hoursGo
    rw [lett_s, lett_s, lett_s, lett_s]
    exact i2
theorem LR_of {n c : Nat} {K A B E S O : Nat → Nat} {lw v : St} (h : LRn n c K A B E S O lw v) : LR lw v := ⟨n, c, K, A, B, E, S, O, h⟩
theorem eq_hours (g : Nat → St) (w : Nat → Int64) (v : St) (hr : Rel g v) (p1 : Int32) : ∃ (z : Int32 × St × St × St) (y : Int32 × St), fX11_hours (g 3) (g 6) (g 13) p1 = some z ∧ fX12_hours v p1 = some y ∧ z.1 = y.1 ∧ Rel (sg (sg (sg g 3 z.2.1) 6 z.2.2.1) 13 z.2.2.2) y.2 := by
  obtain ⟨t1, ⟨N, ok, wc, wr⟩, t3, ⟨ta, tb, r1, r2, r3, r4, r5, r6⟩, ⟨n, c, K, A, B, E, S, O, hl⟩, t6⟩ := id hr
  unfold fX11_hours fX12_hours
  rw [within_eq]
  rcases in_cases p1 1 240 1 240 rfl rfl (by decide) (by decide) with ⟨hn, n1, n2, rfl, e⟩ | e
  · obtain ⟨N', ro', w', lw', v', i1, i2, i3, i4, i5, i6⟩ := pass_n (ro := g 6) (w := g 3) (lw := g 13) (v := v) hl ok wc wr r1 r2 r3 r4 r5 r6 n2
    rw [e, lett_s, lett_s, if_neg (by decide), if_neg (by decide), i1, i2, sbind, sbind]
    obtain ⟨ok', wc', wr', u1, u2, u3, u4, u5, u6, c1, c2, c3, c4⟩ := id i3
    have k : ∀ k, k ≠ 0 → k ≠ 27 → k ≠ 28 → k ≠ 39 → k ≠ 40 → k ≠ 41 → k ≠ 42 → v' k = v k := i6
    refine ⟨(_, _, _, _), (_, _), rfl, rfl, c1, ?_⟩
    refine ⟨TR_ref t1 (k 5 (by decide) (by decide) (by decide) (by decide) (by decide) (by decide) (by decide)) (k 6 (by decide) (by decide) (by decide) (by decide) (by decide) (by decide) (by decide)), ⟨N', ok', wc', wr'⟩, KR_ref t3 (k 51 (by decide) (by decide) (by decide) (by decide) (by decide) (by decide) (by decide)) (k 2 (by decide) (by decide) (by decide) (by decide) (by decide) (by decide) (by decide)), ⟨ta, tb, u1, u2, u3, u4, u5, u6⟩, LR_of (LRn_h hl i5 i6), VR_ref t6 (k 36 (by decide) (by decide) (by decide) (by decide) (by decide) (by decide) (by decide)) (k 30 (by decide) (by decide) (by decide) (by decide) (by decide) (by decide) (by decide)) (k 31 (by decide) (by decide) (by decide) (by decide) (by decide) (by decide) (by decide)) (k 32 (by decide) (by decide) (by decide) (by decide) (by decide) (by decide) (by decide))⟩
  · rw [e, lett_s, lett_s, if_pos rfl, if_pos rfl]
    refine ⟨(_, _, _, _), (_, _), rfl, rfl, rfl, ?_⟩
    exact hr
