/-! ===== fewest ===== -/
theorem tbI_done {c : Nat → Nat} {b : Bool} {k : Nat} (hk : k < 8) (hs : fb_sm c k ≤ 2040) : ∀ j, j ≤ 4080 → tbI (fun j => hF c b 0 k ((j : Int) - 2040)) b (fb_sm c k) (c k) (2 * fb_sm c k + 1) j = hF c b 0 (k + 1) ((j : Int) - 2040) := by
  intro j hj
  rw [hF_back, Nat.zero_add]
  unfold tbI
  have h0 : hF c b 0 k ((j : Int) - 2040) ≤ 1000000 := hF_le c b (by omega)
  have e1 : min (hF c b 0 k ((j : Int) - 2040)) (if 2040 - fb_sm c k + c k ≤ j ∧ j < 2040 - fb_sm c k + c k + (2 * fb_sm c k + 1) then 1 + hF c b 0 k (((j - c k : Nat) : Int) - 2040) else 1000000) = min (hF c b 0 k ((j : Int) - 2040)) (1 + hF c b 0 k ((j : Int) - 2040 - c k)) := by
    by_cases q : 2040 - fb_sm c k + c k ≤ j ∧ j < 2040 - fb_sm c k + c k + (2 * fb_sm c k + 1)
    · rw [if_pos q, show ((j - c k : Nat) : Int) - 2040 = (j : Int) - 2040 - c k by omega]
    · rw [if_neg q, hF_far c b k ((j : Int) - 2040 - c k) (by omega) (by omega)]
      omega
  have e2 : b = true → min (hF c b 0 k ((j : Int) - 2040)) (if b = true ∧ 2040 - fb_sm c k ≤ j + c k ∧ j + c k < 2040 - fb_sm c k + (2 * fb_sm c k + 1) then 1 + hF c b 0 k (((j + c k : Nat) : Int) - 2040) else 1000000) = min (hF c b 0 k ((j : Int) - 2040)) (1 + hF c b 0 k ((j : Int) - 2040 + c k)) := by
    intro hb
    by_cases q : 2040 - fb_sm c k ≤ j + c k ∧ j + c k < 2040 - fb_sm c k + (2 * fb_sm c k + 1)
    · rw [if_pos ⟨hb, q⟩, show ((j + c k : Nat) : Int) - 2040 = (j : Int) - 2040 + c k by omega]
    · rw [if_neg (fun h => q h.2), hF_far c b k ((j : Int) - 2040 + c k) (by omega) (by omega)]
      omega
  cases b
  · simp only [Bool.false_eq_true, if_false, false_and] at *
    omega
  · have e2 := e2 rfl
    simp only [if_true, true_and] at *
    omega
theorem hF_T {c : Nat → Nat} {b : Bool} {k : Nat} (hk : k ≤ 8) : ∀ j : Nat, (fun j : Nat => hF c b 0 k ((j : Int) - 2040)) j ≤ 1000000 := fun j => hF_le c b (by omega)
theorem l38_n {v : St} {c : Nat → Nat} {b : Bool} {n : Nat} (hn : n ≤ 8) (hc : ∀ k, k < n → c k < 256 ∧ v 5 k = (nI (c k)).toInt8.toInt32) : ∀ l k m V, k + l = n → l < m → Tb (fun j => hF c b 0 k ((j : Int) - 2040)) V → (∀ j, j ≠ 47 → j ≠ 48 → V j = v j) → ∃ V2, fX12_laysFewest_L38 m V (nI n) (nI (b01 b)) (nI (fb_sm c k)) (nI k) = some V2 ∧ Tb (fun j => hF c b 0 n ((j : Int) - 2040)) V2 ∧ (∀ j, j ≠ 47 → j ≠ 48 → V2 j = v j) := by
  intro l
  induction l with
  | zero =>
    intro k m V hk hm hT hV
    obtain ⟨m, rfl⟩ : ∃ e, m = e + 1 := ⟨m - 1, by omega⟩
    have : k = n := by omega
    subst this
    refine ⟨V, ?_, hT, hV⟩
    show bX12_laysFewest_L38 _ _ _ _ _ _ = _
    unfold bX12_laysFewest_L38
    rw [if_pos (nI_le (by omega) (by omega))]
  | succ l ih =>
    intro k m V hk hm hT hV
    obtain ⟨m, rfl⟩ : ∃ e, m = e + 1 := ⟨m - 1, by omega⟩
    have h5 : V 5 k = (nI (c k)).toInt8.toInt32 := by rw [hV 5 (by decide) (by decide)]; exact (hc k (by omega)).2
    have hb : fb_sm c k ≤ k * 255 := fb_sm_bound (fun i hi => by have := (hc i (by omega)).1; omega)
    have hck := (hc k (by omega)).1
    obtain ⟨V2, f1, f2, f3⟩ := l59_n (lp := fX12_laysFewest_L38 m) (V := V) (r := fb_sm c k) (by omega) (nI n) (nI (b01 b)) (nI k) (nI (c k))
    have hT2 : Tb (fun j => hF c b 0 k ((j : Int) - 2040)) V2 := fun j hj => by rw [f1 47 (by decide)]; exact hT j hj
    have f4 := l96_n (lp := fX12_laysFewest_L38 m) (V := V2) (T := fun j => hF c b 0 k ((j : Int) - 2040)) (b := b) (r := fb_sm c k) (w := c k) (k := k) (hF_T (by omega)) hT2 (fun j h1 h2 => by rw [f2 j h1 h2, f1 47 (by decide)]) (by omega) (nI n) (by omega)
    obtain ⟨V3, g1, g2, g3⟩ := ih (k + 1) m (tS V2 (tbI (fun j => hF c b 0 k ((j : Int) - 2040)) b (fb_sm c k) (c k) (2 * fb_sm c k + 1))) (by omega) (by omega) (fun j hj => by rw [tS_47 hj, tbI_done (by omega) (by omega) j hj]) (fun j h1 h2 => by rw [tS_o h1, f1 j h2, hV j h1 h2])
    refine ⟨V3, ?_, g2, g3⟩
    show bX12_laysFewest_L38 _ _ _ _ _ _ = _
    unfold bX12_laysFewest_L38; dsimp only [lett]
    rw [if_neg (nI_ge (by omega) (by omega)), octet_n h5 hck (by omega), sbind, show (2040 : Int32) = nI 2040 from rfl, sub_n (by omega), f3, f4, ← fb_sm_succ]
    exact g1
theorem laysF_n {v : St} {c : Nat → Nat} {b : Bool} {n : Nat} (hn : n ≤ 8) (hc : ∀ k, k < n → c k < 256 ∧ v 5 k = (nI (c k)).toInt8.toInt32) : ∃ V2, fX12_laysFewest v (nI n) (nI (b01 b)) = some V2 ∧ Tb (fun j => hF c b 0 n ((j : Int) - 2040)) V2 ∧ (∀ j, j ≠ 47 → j ≠ 48 → V2 j = v j) := by
  have e := for_all (fun m (s : St) i => fX12_laysFewest_L2 m s (nI n) (nI (b01 b)) (nI i)) 4081 (fun i => sa v 47 (fun j => if j < i then nI 1000000 else v 47 j)) (fX12_laysFewest_L38 FU (st (sa v 47 (fun j => if j < 4081 then nI 1000000 else v 47 j)) 47 2040 0) (nI n) (nI (b01 b)) (nI 0) (nI 0)) (fun m => ?_) (fun m i hi => ?_) (by omega)
  · have e0 : sa v 47 (fun j => if j < 0 then nI 1000000 else v 47 j) = v := by
      funext a
      by_cases q : a = 47
      · subst q; rw [sa_s]; funext j; rw [if_neg (by omega)]
      · rw [sa_i q]
    rw [e0] at e
    have hA : Tb (fun j => hF c b 0 0 ((j : Int) - 2040)) (st (sa v 47 (fun j => if j < 4081 then nI 1000000 else v 47 j)) 47 2040 0) := by
      intro j hj
      rw [st_s, sa_s]
      show _ = nI (hF c b 0 0 ((j : Int) - 2040))
      rw [hF_z]
      by_cases q : j = 2040
      · subst q; rw [upd_s, if_pos (by decide)]; rfl
      · rw [upd_n q, if_pos (by omega), if_neg (by omega)]
    have hB : ∀ j, j ≠ 47 → j ≠ 48 → st (sa v 47 (fun j => if j < 4081 then nI 1000000 else v 47 j)) 47 2040 0 j = v j := fun j h1 h2 => by rw [st_i h1, sa_i h1]
    obtain ⟨V2, g1, g2, g3⟩ := l38_n (v := v) (c := c) (b := b) hn hc n 0 FU _ (by omega) (by show n < 1000000; omega) hA hB
    refine ⟨V2, ?_, g2, g3⟩
    rw [← g1]
    exact e
  · show bX12_laysFewest_L2 _ _ _ _ _ = _
    unfold bX12_laysFewest_L2; dsimp only [lett]
    rw [show (4080 : Int32) = nI 4080 from rfl, if_pos (nI_lt (by omega) (by omega)), show (2040 : Int32) = nI 2040 from rfl, gd_n (by omega) (by decide), ix_n (by omega)]
    rfl
  · show bX12_laysFewest_L2 _ _ _ _ _ = fX12_laysFewest_L2 m _ _ _ _
    unfold bX12_laysFewest_L2; dsimp only [lett]
    rw [show (4080 : Int32) = nI 4080 from rfl, if_neg (nI_nlt (by omega) (by omega)), gd_n (by omega) (by decide), ix_n (by omega), n1, st_sa]
    congr 2
    funext j
    unfold upd
    by_cases q : j = i
    · rw [if_pos q, if_pos (by omega)]; rfl
    · rw [if_neg q]
      dsimp only
      by_cases q2 : j < i
      · rw [if_pos q2, if_pos (by omega)]
      · rw [if_neg q2, if_neg (by omega)]
theorem Kp_47 {v V : St} (h : ∀ j, j ≠ 47 → j ≠ 48 → V j = v j) : Kp v V := ⟨h _ (by decide) (by decide), h _ (by decide) (by decide), h _ (by decide) (by decide), h _ (by decide) (by decide), h _ (by decide) (by decide), h _ (by decide) (by decide), h _ (by decide) (by decide), h _ (by decide) (by decide), h _ (by decide) (by decide), h _ (by decide) (by decide), h _ (by decide) (by decide), h _ (by decide) (by decide), h _ (by decide) (by decide), h _ (by decide) (by decide), h _ (by decide) (by decide)⟩
theorem eq_fewest (g : Nat → St) (w : Nat → Int64) (v : St) (hr : Rel g v) (p1 p2 : Int32) : ∃ (z : Int32 × St × St) (y : Int32 × St), fX11_fewest (g 1) (g 11) p1 p2 = some z ∧ fX12_fewest v p1 p2 = some y ∧ z.1 = y.1 ∧ Rel (sg (sg g 1 z.2.1) 11 z.2.2) y.2 := by
  obtain ⟨⟨t, c, ht, h2, h3, h4⟩, t2, t3, t4, t5, t6⟩ := id hr
  unfold fX11_fewest fX12_fewest; dsimp only [lett]
  rw [h3, within_eq]
  rcases in_cases p2 1 2040 1 2040 rfl rfl (by decide) (by decide) with ⟨x, x1, x2, rfl, ex⟩ | ex
  · rw [ex]
    rcases offers_c h2 ht p1 1 8 (a := 1) (b := 8) rfl rfl (by decide) (by decide) with ⟨n, -, n2, n3, rfl, e1, e2, e3⟩ | ⟨e1, e2⟩
    · obtain ⟨pa2, e4, e5⟩ := take_n (pa := g 11) (c := c) (tp := g 1) (v := v) ⟨ht, h2, h3, h4⟩ n3 (by omega)
      rw [e1, e2, if_neg (by decide), if_neg (by decide), if_neg (by decide), if_neg (by decide), if_pos e3, e4, sbind, hasZero_n e5, sbind, areAll_n (v := st v 6 0 0) (c := c) (by omega) (fun k hk => ⟨(h4 k (by omega)).1, (h4 k (by omega)).2.2⟩), sbind]
      cases hz : zf c 0 n
      · obtain ⟨pa3, e6⟩ := fewestFor_n e5 (by omega) (x := x) (by omega)
        obtain ⟨V2, l1, l2, l3⟩ := laysF_n (v := st v 6 0 0) (c := c) (b := true) (n := n) (by omega) (fun k hk => ⟨(h4 k (by omega)).1, (h4 k (by omega)).2.2⟩)
        have e7 : V2 47 (2040 + x) = nI (hF c true 0 n x) := by
          rw [l2 (2040 + x) (by omega)]
          show nI (hF c true 0 n (((2040 + x : Nat) : Int) - 2040)) = _
          rw [show ((2040 + x : Nat) : Int) - 2040 = x by omega]
        have l1' : fX12_laysFewest (st v 6 0 0) (nI n) 1 = some V2 := l1
        have hle : hF c true 0 n x ≤ 1000000 := hF_le c true (by omega)
        rw [if_pos (by decide), if_neg (by decide), e6, sbind, l1', sbind, show (2040 : Int32) = nI 2040 from rfl, nI_add, gd_n (by omega) (by decide), gd_n (by omega) (by decide), ix_n (by omega), e7]
        have h6 : V2 6 0 = nI 0 := by rw [l3 6 (by decide) (by decide)]; rfl
        by_cases q : hF c true 0 n x < 1000000
        · rw [if_pos q, show (1000000 : Int32) = nI 1000000 from rfl, if_pos (nI_lt q (by omega))]
          dsimp only
          rw [if_neg (fun e => ?_)]
          · exact ⟨(_, _, _), (_, _), rfl, rfl, rfl, Rel_clear hr rfl h6 (show Kp (st v 6 0 0) V2 from Kp_47 l3)⟩
          · have e := congrArg Int32.toInt e
            rw [nI_toInt (by omega)] at e
            have e2 : (-1 : Int32).toInt = -1 := rfl
            omega
        · rw [if_neg q, show (1000000 : Int32) = nI 1000000 from rfl, if_neg (nI_nlt (by omega) (by omega)), if_pos rfl]
          exact ⟨(_, _, _), (_, _), rfl, rfl, rfl, Rel_clear hr rfl h6 (show Kp (st v 6 0 0) V2 from Kp_47 l3)⟩
      · rw [if_neg (by decide), if_pos (by decide)]
        exact ⟨(_, _, _), (_, _), rfl, rfl, rfl, Rel_clear hr rfl rfl (Kp_rfl _)⟩
    · rw [e1, if_neg (by decide), if_pos rfl]
      rcases e2 with e | ⟨e, e3⟩
      · rw [e, if_pos rfl]; exact ⟨_, _, rfl, rfl, rfl, hr⟩
      · rw [e, if_neg (by decide), if_neg (by decide), if_neg e3]; exact ⟨_, _, rfl, rfl, rfl, hr⟩
  · rw [ex, if_pos rfl]
    refine ⟨_, (-1, v), rfl, ?_, rfl, hr⟩
    split
    · rfl
    · rfl
