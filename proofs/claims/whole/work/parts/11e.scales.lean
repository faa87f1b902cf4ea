/-! ===== scales, row ===== -/
/-- how much heavier the left is after k stones -/
def scL (s : Nat) (c : Nat → Nat) : Nat → Int32
  | 0 => 0
  | k + 1 => scL s c k + (if s.testBit k then nI (c k) else -nI (c k))
def scT (s : Nat) (c : Nat → Nat) : Nat → Int32
  | 0 => 0
  | k + 1 => if scL s c (k + 1) ≤ 0 then scT s c k else scT s c k + 1
def scM (s : Nat) (c : Nat → Nat) : Nat → Int32
  | 0 => 0
  | k + 1 => mx (scM s c k) (scL s c (k + 1))
theorem add0 (x : Int32) : x + 0 = x := by simp
theorem dF : (nI (b01 false) = 0) = True := eq_true (by decide)
theorem dT : (nI (b01 true) = 0) = False := eq_false (by decide)
theorem times_n {pa : St} {n s : Nat} {c : Nat → Nat} (h : Pn n c pa) (hs : s < 1024) : fX5_timesLeftHeavier pa (nI s) = some (scT s c n) := by
  obtain ⟨h1, h2, h3⟩ := h
  refine for_all (fun m (a : Int32 × Int32) k => fX5_timesLeftHeavier_L7 pa m (nI s) a.1 a.2 (nI k)) n (fun k => (scL s c k, scT s c k)) _ (fun m => ?_) (fun m k hk => ?_) (by omega)
  · show bX5_timesLeftHeavier_L7 pa _ _ _ _ _ = _
    unfold bX5_timesLeftHeavier_L7
    rw [h2, if_pos (nI_le (Nat.le_refl n) (by omega))]
  · show bX5_timesLeftHeavier_L7 pa _ _ _ _ _ = fX5_timesLeftHeavier_L7 pa m _ _ _ _
    unfold bX5_timesLeftHeavier_L7 fX5_timesLeftHeavier_J44; dsimp only [lett]
    rw [h2, if_neg (nI_ge hk (by omega)), has11_n (by omega) (by omega), gd_n (by omega) (by decide), gd_n (by omega) (by decide), ix_n (by omega), (h3 k hk).2, n1, add0, scT, scL]
    cases hb : s.testBit k
    · simp only [dF, dT, if_true, if_false, Bool.false_eq_true]
      split <;> rfl
    · simp only [dF, dT, if_true, if_false, Bool.false_eq_true]
      split <;> rfl
theorem mostL_n {pa : St} {n s : Nat} {c : Nat → Nat} (h : Pn n c pa) (hs : s < 1024) : fX5_mostLeftHeavier pa (nI s) = some (scM s c n) := by
  obtain ⟨h1, h2, h3⟩ := h
  refine for_all (fun m (a : Int32 × Int32) k => fX5_mostLeftHeavier_L7 pa m (nI s) a.1 a.2 (nI k)) n (fun k => (scL s c k, scM s c k)) _ (fun m => ?_) (fun m k hk => ?_) (by omega)
  · show bX5_mostLeftHeavier_L7 pa _ _ _ _ _ = _
    unfold bX5_mostLeftHeavier_L7
    rw [h2, if_pos (nI_le (Nat.le_refl n) (by omega))]
  · show bX5_mostLeftHeavier_L7 pa _ _ _ _ _ = fX5_mostLeftHeavier_L7 pa m _ _ _ _
    unfold bX5_mostLeftHeavier_L7 fX5_mostLeftHeavier_J44; dsimp only [lett]
    rw [h2, if_neg (nI_ge hk (by omega)), has11_n (by omega) (by omega), gd_n (by omega) (by decide), gd_n (by omega) (by decide), ix_n (by omega), (h3 k hk).2, n1, scM, scL]
    cases hb : s.testBit k
    · simp only [dF, dT, if_true, if_false, Bool.false_eq_true]
    · simp only [dF, dT, if_true, if_false, Bool.false_eq_true]
theorem scales12 {v : St} {n s : Nat} {c : Nat → Nat} {x : Int32} (hn : n ≤ 16) (hc : ∀ k, k < n → c k < 256 ∧ v 5 k = (nI (c k)).toInt8.toInt32) (hs : s < 1024) : fX12_scales_L57 FU v (nI n) (nI s) x 0 0 0 0 = some (if x = 0 then scT s c n else scM s c n, v) := by
  refine for_all (fun m (a : Int32 × Int32 × Int32) k => fX12_scales_L57 m v (nI n) (nI s) x a.1 a.2.1 a.2.2 (nI k)) n (fun k => (scL s c k, scT s c k, scM s c k)) _ (fun m => ?_) (fun m k hk => ?_) (by omega)
  · show bX12_scales_L57 _ _ _ _ _ _ _ _ _ = _
    unfold bX12_scales_L57
    rw [if_pos (nI_le (Nat.le_refl n) (by omega))]
    split <;> rfl
  · show bX12_scales_L57 _ _ _ _ _ _ _ _ _ = fX12_scales_L57 m _ _ _ _ _ _ _ _
    unfold bX12_scales_L57 fX12_scales_J90 fX12_scales_J104; dsimp only [lett]
    rw [if_neg (nI_ge hk (by omega)), has12_n (by omega) (by omega), octet_n (hc k hk).2 (hc k hk).1 (by omega), sbind, sbind, n1, scT, scM, scL, max_mx, max_mx]
    cases hb : s.testBit k
    · simp only [dF, dT, if_true, if_false, Bool.false_eq_true]
      split <;> rfl
    · simp only [dF, dT, if_true, if_false, Bool.false_eq_true]
      split <;> rfl
theorem eq_scales (g : Nat → St) (w : Nat → Int64) (v : St) (hr : Rel g v) (p1 p2 p3 : Int32) : ∃ (z : Int32 × St × St) (y : Int32 × St), fX11_scales (g 1) (g 11) p1 p2 p3 = some z ∧ fX12_scales v p1 p2 p3 = some y ∧ z.1 = y.1 ∧ Rel (sg (sg g 1 z.2.1) 11 z.2.2) y.2 := by
  obtain ⟨⟨t, c, ht, h2, h3, h4⟩, t2, t3, t4, t5, t6⟩ := id hr
  unfold fX11_scales fX12_scales; dsimp only [lett]
  rw [h3, within_eq, within_eq]
  rcases in_cases p2 0 1023 0 1023 rfl rfl (by decide) (by decide) with ⟨s, -, s2, rfl, es⟩ | es
  · rw [es]
    rcases in_cases p3 0 1 0 1 rfl rfl (by decide) (by decide) with ⟨x, -, x2, rfl, ex⟩ | ex
    · rw [ex]
      rcases offers_c h2 ht p1 1 10 (a := 1) (b := 10) rfl rfl (by decide) (by decide) with ⟨n, -, n2, n3, rfl, e1, e2, e3⟩ | ⟨e1, e2⟩
      · obtain ⟨pa2, e4, e5⟩ := take_n (pa := g 11) (c := c) (tp := g 1) (v := v) ⟨ht, h2, h3, h4⟩ n3 (by omega)
        rw [e1, e2, if_neg (by decide), if_neg (by decide), if_neg (by decide), if_neg (by decide), if_pos e3, e4, sbind, times_n e5 (by omega), mostL_n e5 (by omega), sbind, sbind, scales12 (v := st v 6 0 0) (c := c) (by omega) (fun k hk => ⟨(h4 k (by omega)).1, (h4 k (by omega)).2.2⟩) (by omega)]
        rcases (show x = 0 ∨ x = 1 by omega) with rfl | rfl
        · exact ⟨(_, _, _), (_, _), rfl, rfl, rfl, Rel_clear hr rfl rfl (Kp_rfl _)⟩
        · exact ⟨(_, _, _), (_, _), rfl, rfl, rfl, Rel_clear hr rfl rfl (Kp_rfl _)⟩
      · rw [e1, if_neg (by decide), if_neg (by decide), if_pos rfl]
        rcases e2 with e | ⟨e, e3⟩
        · rw [e, if_pos rfl]; exact ⟨_, _, rfl, rfl, rfl, hr⟩
        · rw [e, if_neg (by decide), if_neg (by decide), if_neg (by decide), if_neg e3]; exact ⟨_, _, rfl, rfl, rfl, hr⟩
    · rw [ex, if_neg (by decide), if_pos rfl]
      refine ⟨_, (-1, v), rfl, ?_, rfl, hr⟩
      split <;> rfl
  · rw [es, if_pos rfl]
    refine ⟨_, (-1, v), rfl, ?_, rfl, hr⟩
    split
    · rfl
    · rfl
