/-! ===== row ===== -/
/-- the inner loop at k: the best over those ahead, given their own -/
def rsI (c : Nat → Nat) (f : Nat → Int32) (k : Nat) : Nat → Int32
  | 0 => 1
  | j + 1 => if c j ≤ c k then mx (rsI c f k j) (f j + 1) else rsI c f k j
def rsT (c : Nat → Nat) : Nat → Nat → Int32
  | 0 => fun _ => 0
  | k + 1 => fun j => if j = k then rsI c (rsT c k) k k else rsT c k j
def rsM (c : Nat → Nat) : Nat → Int32
  | 0 => 0
  | k + 1 => mx (rsM c k) (rsI c (rsT c k) k k)
/-- how long the rise is that ends at k -/
def rsR (c : Nat → Nat) : Nat → Nat
  | 0 => 1
  | k + 1 => if c k ≤ c (k + 1) then rsR c k + 1 else 1
theorem rsR_b (c : Nat → Nat) : ∀ k, 1 ≤ rsR c k ∧ rsR c k ≤ k + 1
  | 0 => by simp [rsR]
  | k + 1 => by
    have := rsR_b c k
    rw [rsR]; split <;> omega
def rsX (c : Nat → Nat) : Nat → Int32
  | 0 => 0
  | k + 1 => mx (rsX c k) (nI (rsR c k))
theorem rsI_cong {c : Nat → Nat} {f h : Nat → Int32} {k : Nat} : ∀ {j : Nat}, (∀ i, i < j → f i = h i) → rsI c f k j = rsI c h k j
  | 0, _ => rfl
  | j + 1, e => by rw [rsI, rsI, rsI_cong (fun i hi => e i (by omega)), e j (by omega)]
/-- the class's inner loop -/
theorem rise_in {pa : St} {n k : Nat} {c : Nat → Nat} (h : Pn n c pa) (hk : k < n) (lp : St → Int32 → Int32 → Int32 → Option (Int32 × St)) (x1 x2 : Int32) (r : Nat → Int32) : fX5_mostThatRise_L36 lp FU (sa pa 1 (upd r k 1)) x1 x2 (nI k) 0 = lp (sa pa 1 (upd r k (rsI c r k k))) x1 (mx x2 (rsI c r k k)) (nI (k + 1)) := by
  obtain ⟨h1, h2, h3⟩ := h
  refine for_all (fun m (a : St) j => fX5_mostThatRise_L36 lp m a x1 x2 (nI k) (nI j)) k (fun j => sa pa 1 (upd r k (rsI c r k j))) _ (fun m => ?_) (fun m j hj => ?_) (by omega)
  · show bX5_mostThatRise_L36 _ _ _ _ _ _ _ = _
    unfold bX5_mostThatRise_L36; dsimp only [lett]
    rw [if_pos (nI_le (Nat.le_refl k) (by omega)), gd_n (by omega) (by decide), ix_n (by omega), sa_s, upd_s, n1]
  · show bX5_mostThatRise_L36 _ _ _ _ _ _ _ = fX5_mostThatRise_L36 lp m _ _ _ _ _
    unfold bX5_mostThatRise_L36; dsimp only [lett]
    rw [if_neg (nI_ge hj (by omega)), gd_n (by omega) (by decide), gd_n (by omega) (by decide), gd_n (by omega) (by decide), gd_n (by omega) (by decide), gd_n (by omega) (by decide), ix_n (by omega), ix_n (by omega), sa_i (by decide), sa_s, upd_s, upd_n (by omega), (h3 k hk).2, (h3 j (by omega)).2, st_sa, fa_upd_twice, n1, rsI]
    have := (h3 k hk).1
    have := (h3 j (by omega)).1
    by_cases q : c j ≤ c k
    · rw [if_neg (nI_nlt q (by omega)), if_pos q]
    · rw [if_pos (nI_lt (by omega) (by omega)), if_neg q]
theorem rise_0 {pa : St} {n : Nat} {c : Nat → Nat} (h : Pn n c pa) : ∃ pa2, fX5_mostThatRise pa 0 = some (rsM c n, pa2) := by
  have hP : ∀ r, Pn n c (sa pa 1 r) := fun r => h
  have hs : ∀ m k r, k ≤ n → n - k < m → (∀ j, j < k → r j = rsT c k j) → ∃ pa2, fX5_mostThatRise_L4 m (sa pa 1 r) 0 (rsM c k) (nI k) = some (rsM c n, pa2) := by
    intro m
    induction m with
    | zero => intro k r _ h; omega
    | succ m ih =>
      intro k r hk hm hr
      have e : fX5_mostThatRise_L4 (m + 1) (sa pa 1 r) 0 (rsM c k) (nI k) = bX5_mostThatRise_L4 (fX5_mostThatRise_L4 m) (sa pa 1 r) 0 (rsM c k) (nI k) := rfl
      rw [e]
      unfold bX5_mostThatRise_L4; dsimp only [lett]
      rw [sa_i (by decide), h.2.1]
      have := h.1
      by_cases hkn : k = n
      · subst hkn
        rw [if_pos (nI_le (Nat.le_refl k) (by omega))]
        exact ⟨_, rfl⟩
      · rw [if_neg (nI_ge (by omega) (by omega)), gd_n (by omega) (by decide), ix_n (by omega), if_pos rfl, st_sa, rise_in h (by omega), rsI_cong hr]
        refine ih (k + 1) _ (by omega) (by omega) (fun j hj => ?_)
        rw [rsT]
        by_cases q : j = k
        · subst q; rw [upd_s]; simp
        · rw [upd_n q, hr j (by omega)]; simp [q]
  have e : sa pa 1 (pa 1) = pa := by
    funext a
    by_cases q : a = 1
    · subst q; exact sa_s
    · exact sa_i q
  have := hs FU 0 (pa 1) (by omega) (by have := h.1; show n - 0 < 1000000; omega) (fun j hj => by omega)
  rw [e] at this
  exact this
theorem rise_1 {pa : St} {n : Nat} {c : Nat → Nat} (h : Pn n c pa) : ∃ pa2, fX5_mostThatRise pa 1 = some (rsX c n, pa2) := by
  have hs : ∀ m k r, k ≤ n → n - k < m → (∀ j, j < k → r j = nI (rsR c j)) → ∃ pa2, fX5_mostThatRise_L4 m (sa pa 1 r) 1 (rsX c k) (nI k) = some (rsX c n, pa2) := by
    intro m
    induction m with
    | zero => intro k r _ h; omega
    | succ m ih =>
      intro k r hk hm hr
      have e : fX5_mostThatRise_L4 (m + 1) (sa pa 1 r) 1 (rsX c k) (nI k) = bX5_mostThatRise_L4 (fX5_mostThatRise_L4 m) (sa pa 1 r) 1 (rsX c k) (nI k) := rfl
      rw [e]
      unfold bX5_mostThatRise_L4; dsimp only [lett]
      rw [sa_i (by decide), h.2.1]
      have := h.1
      by_cases hkn : k = n
      · subst hkn
        rw [if_pos (nI_le (Nat.le_refl k) (by omega))]
        exact ⟨_, rfl⟩
      · rw [if_neg (nI_ge (by omega) (by omega)), gd_n (by omega) (by decide), ix_n (by omega), if_neg (by decide), st_sa]
        have key : fX5_mostThatRise_L36 (fX5_mostThatRise_L4 m) FU (sa pa 1 (upd r k 1)) 1 (rsX c k) (nI k) (mx 0 (nI k - 1)) = fX5_mostThatRise_L4 m (sa pa 1 (upd r k (nI (rsR c k)))) 1 (rsX c (k + 1)) (nI (k + 1)) := by
          have hlast : ∀ q x, fX5_mostThatRise_L36 (fX5_mostThatRise_L4 m) (q + 1) (sa pa 1 (upd r k x)) 1 (rsX c k) (nI k) (nI k) = fX5_mostThatRise_L4 m (sa pa 1 (upd r k x)) 1 (mx (rsX c k) x) (nI (k + 1)) := by
            intro q x
            show bX5_mostThatRise_L36 _ _ _ _ _ _ _ = _
            unfold bX5_mostThatRise_L36; dsimp only [lett]
            rw [if_pos (nI_le (Nat.le_refl k) (by omega)), gd_n (by omega) (by decide), ix_n (by omega), sa_s, upd_s, n1]
          cases k with
          | zero => exact hlast 999999 1
          | succ j =>
            have e0 : mx 0 (nI (j + 1) - 1) = nI j := by
              rw [nI_pred]
              unfold mx
              by_cases q : (0 : Int32) < nI j
              · rw [if_pos q]
              · rw [if_neg q]
                by_cases q2 : j = 0
                · subst q2; rfl
                · exact absurd (nI_lt (a := 0) (b := j) (by omega) (by omega)) q
            rw [e0]
            show bX5_mostThatRise_L36 _ (fX5_mostThatRise_L36 (fX5_mostThatRise_L4 m) (999998 + 1)) _ _ _ _ _ = _
            unfold bX5_mostThatRise_L36; dsimp only [lett]
            rw [if_neg (nI_ge (by omega) (by omega)), gd_n (by omega) (by decide), gd_n (by omega) (by decide), gd_n (by omega) (by decide), gd_n (by omega) (by decide), gd_n (by omega) (by decide), ix_n (by omega), ix_n (by omega), sa_i (by decide), sa_s, upd_s, upd_n (by omega), (h.2.2 (j + 1) (by omega)).2, (h.2.2 j (by omega)).2, st_sa, fa_upd_twice, n1, hr j (by omega), hlast, hlast]
            have := (h.2.2 (j + 1) (by omega)).1
            have := (h.2.2 j (by omega)).1
            have hb := rsR_b c j
            have em : mx 1 (nI (rsR c j) + 1) = nI (rsR c j + 1) := by
              rw [n1]; unfold mx
              rw [if_pos (show (1 : Int32) < nI (rsR c j + 1) from nI_lt (a := 1) (by omega) (by omega))]
            have ex : rsX c (j + 1 + 1) = mx (rsX c (j + 1)) (nI (rsR c (j + 1))) := rfl
            rw [em, ex, rsR]
            by_cases q : c j ≤ c (j + 1)
            · rw [if_neg (nI_nlt q (by omega)), if_pos q]
            · rw [if_pos (nI_lt (by omega) (by omega)), if_neg q]
              rfl
        rw [key]
        refine ih (k + 1) _ (by omega) (by omega) (fun j hj => ?_)
        by_cases q : j = k
        · subst q; rw [upd_s]
        · rw [upd_n q, hr j (by omega)]
  have e : sa pa 1 (pa 1) = pa := by
    funext a
    by_cases q : a = 1
    · subst q; exact sa_s
    · exact sa_i q
  have := hs FU 0 (pa 1) (by omega) (by have := h.1; show n - 0 < 1000000; omega) (fun j hj => by omega)
  rw [e] at this
  exact this

/-- the reference's inner loop -/
theorem rise12_in {v : St} {n k : Nat} {c : Nat → Nat} (hn : n ≤ 16) (hc : ∀ k, k < n → c k < 256 ∧ v 5 k = (nI (c k)).toInt8.toInt32) (hk : k < n) (lp : St → Int32 → Int32 → Int32 → Int32 → Int32 → Int32 → Option (Int32 × St)) (x1 x2 x3 x5 x4 : Int32) (r : Nat → Int32) (hx : x4 = if k = 0 then 0 else nI (rsR c (k - 1))) : fX12_row_L62 lp FU (sa v 50 (upd r k 1)) x1 x2 x3 x4 x5 (nI k) 0 = lp (sa v 50 (upd r k (rsI c r k k))) x1 x2 (mx x3 (rsI c r k k)) (nI (rsR c k)) (mx x5 (nI (rsR c k))) (nI (k + 1)) := by
  have ho : ∀ r j, j < n → fX12_octet (sa v 50 r) (nI j) = some (nI (c j)) := fun r j hj => octet_n (v := sa v 50 r) (hc j hj).2 (hc j hj).1 (by omega)
  refine for_all (fun m (a : St) j => fX12_row_L62 lp m a x1 x2 x3 x4 x5 (nI k) (nI j)) k (fun j => sa v 50 (upd r k (rsI c r k j))) _ (fun m => ?_) (fun m j hj => ?_) (by omega)
  · show bX12_row_L62 _ _ _ _ _ _ _ _ _ _ = _
    unfold bX12_row_L62 fX12_row_J157 fX12_row_J158; dsimp only [lett]
    rw [if_pos (nI_le (Nat.le_refl k) (by omega)), gd_n (by omega) (by decide), ix_n (by omega), sa_s, upd_s, max_mx, max_mx, max_mx, n1]
    cases k with
    | zero =>
      rw [if_pos (by decide)]; rfl
    | succ k =>
      rw [if_neg (nI_nle (by omega) (by omega)), nI_pred, ho _ _ (by omega), ho _ _ (by omega), sbind, sbind, hx, rsR]
      have := (hc (k + 1) (by omega)).1
      have := (hc k (by omega)).1
      by_cases q : c k ≤ c (k + 1)
      · rw [if_neg (nI_nlt q (by omega)), if_pos q, if_neg (by omega), n1]; rfl
      · rw [if_pos (nI_lt (by omega) (by omega)), if_neg q]; rfl
  · show bX12_row_L62 _ _ _ _ _ _ _ _ _ _ = fX12_row_L62 lp m _ _ _ _ _ _ _ _
    unfold bX12_row_L62; dsimp only [lett]
    rw [if_neg (nI_ge hj (by omega)), ho _ _ (by omega), ho _ _ (by omega), sbind, sbind, gd_n (by omega) (by decide), gd_n (by omega) (by decide), gd_n (by omega) (by decide), ix_n (by omega), ix_n (by omega), sa_s, upd_s, upd_n (by omega), st_sa, fa_upd_twice, n1, rsI, max_mx]
    have := (hc k hk).1
    have := (hc j (by omega)).1
    by_cases q : c j ≤ c k
    · rw [if_neg (nI_nlt q (by omega)), if_pos q]
    · rw [if_pos (nI_lt (by omega) (by omega)), if_neg q]
theorem row12 {v : St} {n : Nat} {c : Nat → Nat} {x2 : Int32} (hn : n ≤ 16) (hc : ∀ k, k < n → c k < 256 ∧ v 5 k = (nI (c k)).toInt8.toInt32) : ∃ r, fX12_row_L45 FU v (nI n) x2 0 0 0 0 = some (if x2 = 0 then nI n - rsM c n else rsX c n, sa v 50 r) := by
  have hs : ∀ m k r, k ≤ n → n - k < m → (∀ j, j < k → r j = rsT c k j) → ∃ r2, fX12_row_L45 m (sa v 50 r) (nI n) x2 (rsM c k) (if k = 0 then 0 else nI (rsR c (k - 1))) (rsX c k) (nI k) = some (if x2 = 0 then nI n - rsM c n else rsX c n, sa v 50 r2) := by
    intro m
    induction m with
    | zero => intro k r _ h; omega
    | succ m ih =>
      intro k r hk hm hr
      have e : ∀ y, fX12_row_L45 (m + 1) (sa v 50 r) (nI n) x2 (rsM c k) y (rsX c k) (nI k) = bX12_row_L45 (fX12_row_L45 m) (sa v 50 r) (nI n) x2 (rsM c k) y (rsX c k) (nI k) := fun _ => rfl
      rw [e]
      unfold bX12_row_L45; dsimp only [lett]
      by_cases hkn : k = n
      · subst hkn
        rw [if_pos (nI_le (Nat.le_refl k) (by omega))]
        refine ⟨r, ?_⟩
        split <;> rfl
      · rw [if_neg (nI_ge (by omega) (by omega)), gd_n (by omega) (by decide), ix_n (by omega), st_sa, rise12_in hn hc (by omega) _ _ _ _ _ _ _ rfl, rsI_cong hr]
        have hq := ih (k + 1) (upd r k (rsI c (rsT c k) k k)) (by omega) (by omega) (fun j hj => by
          rw [rsT]
          by_cases q : j = k
          · subst q; rw [upd_s]; simp
          · rw [upd_n q, hr j (by omega)]; simp [q])
        rw [if_neg (by omega)] at hq
        exact hq
  have e : sa v 50 (v 50) = v := by
    funext a
    by_cases q : a = 50
    · subst q; exact sa_s
    · exact sa_i q
  have := hs FU 0 (v 50) (by omega) (by show n - 0 < 1000000; omega) (fun j hj => by omega)
  rw [e] at this
  exact this
theorem eq_row (g : Nat → St) (w : Nat → Int64) (v : St) (hr : Rel g v) (p1 p2 : Int32) : ∃ (z : Int32 × St × St) (y : Int32 × St), fX11_row (g 1) (g 11) p1 p2 = some z ∧ fX12_row v p1 p2 = some y ∧ z.1 = y.1 ∧ Rel (sg (sg g 1 z.2.1) 11 z.2.2) y.2 := by
  obtain ⟨⟨t, c, ht, h2, h3, h4⟩, t2, t3, t4, t5, t6⟩ := id hr
  unfold fX11_row fX12_row; dsimp only [lett]
  rw [h3, within_eq]
  rcases in_cases p2 0 1 0 1 rfl rfl (by decide) (by decide) with ⟨x, -, x2, rfl, ex⟩ | ex
  · rw [ex]
    rcases offers_c h2 ht p1 1 16 (a := 1) (b := 16) rfl rfl (by decide) (by decide) with ⟨n, -, n2, n3, rfl, e1, e2, e3⟩ | ⟨e1, e2⟩
    · obtain ⟨pa2, e4, e5⟩ := take_n (pa := g 11) (c := c) (tp := g 1) (v := v) ⟨ht, h2, h3, h4⟩ n3 (by omega)
      obtain ⟨r, e6⟩ := row12 (v := st v 6 0 0) (c := c) (x2 := nI x) n2 (fun k hk => ⟨(h4 k (by omega)).1, (h4 k (by omega)).2.2⟩)
      obtain ⟨pa3, e7⟩ := rise_0 e5
      obtain ⟨pa4, e8⟩ := rise_1 e5
      rw [e1, e2, if_neg (by decide), if_neg (by decide), if_pos e3, e4, sbind, e6, e7, e8, sbind, sbind]
      rcases (show x = 0 ∨ x = 1 by omega) with rfl | rfl
      · exact ⟨(_, _, _), (_, _), rfl, rfl, rfl, Rel_clear hr rfl rfl (Kp_rfl _)⟩
      · exact ⟨(_, _, _), (_, _), rfl, rfl, rfl, Rel_clear hr rfl rfl (Kp_rfl _)⟩
    · rw [e1, if_neg (by decide), if_pos rfl]
      rcases e2 with e | ⟨e, e3⟩
      · rw [e, if_pos rfl]; exact ⟨_, _, rfl, rfl, rfl, hr⟩
      · rw [e, if_neg (by decide), if_neg (by decide), if_neg e3]; exact ⟨_, _, rfl, rfl, rfl, hr⟩
  · rw [ex, if_pos rfl]
    refine ⟨_, (-1, v), rfl, ?_, rfl, hr⟩
    split
    · rfl
    · rfl
