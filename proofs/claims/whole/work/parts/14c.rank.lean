/-! ===== heavier: the class's find ===== -/
theorem allAlike_n {u : St} {A : Nat → Nat} (h : ∀ p, p < 16 → u 1 p = nI (A p)) {i : Nat} (hi : i < 16) : fX6_allAlike u (nI (2 ^ i)) = some (nI (A i)) := by
  have hpi : 2 ^ i < 65536 := Nat.pow_lt_pow_right (n := 16) (by decide) hi
  refine for_all (fun m (_ : Unit) k => fX6_allAlike_L2 u m (nI (2 ^ i)) (nI k)) i (fun _ => ()) _ (fun m => ?_) (fun m k hk => ?_) (by omega)
  · show bX6_allAlike_L2 u _ _ _ = _
    unfold bX6_allAlike_L2
    rw [if_neg (nle_n (x := 16) (a := 16) rfl hi (by decide)), shl1 i (by omega), if_pos rfl, gd_n (by omega) (by decide), ix_n (by omega), h i hi]
  · show bX6_allAlike_L2 u _ _ _ = fX6_allAlike_L2 u m _ _
    unfold bX6_allAlike_L2
    have hlt : 2 ^ k < 2 ^ i := Nat.pow_lt_pow_right (by decide) hk
    rw [if_neg (nle_n (x := 16) (a := 16) rfl (by omega) (by decide)), shl1 k (by omega), if_neg (fun e => by have := (nI_eq (by omega) (by omega)).mp e; omega), lett_s, n1]
theorem find3 {n : Nat} {a b s : Nat → Nat} {to v : St} (h : Wg n a b s to v) : ∀ m k u, k ≤ n → n - k < m → Rows (aN a b s n) (u 1) → Rows (dR a b s n k) (u 0) → ∃ u2, fX6_find_L112 to m u (nI k) = some u2 ∧ Rows (aN a b s n) (u2 1) ∧ Rows (lgN a b s n) (u2 0) := by
  have hg : Gd n a b s := fun k hk => ⟨(h.2.2.2 k hk).1, (h.2.2.2 k hk).2.1⟩
  have hn := h.1
  intro m
  induction m with
  | zero => intro k u _ q; omega
  | succ m ih =>
    intro k u hk hm hA hD
    have e : fX6_find_L112 to (m + 1) u (nI k) = bX6_find_L112 to (fX6_find_L112 to m) u (nI k) := rfl
    rw [e]
    unfold bX6_find_L112
    rw [h.2.1]
    by_cases q : k = n
    · subst q
      obtain ⟨r2, e1, e2⟩ := close_n hD
      rw [if_pos (nI_le (Nat.le_refl k) (by omega)), e1, sbind, lett_s]
      exact ⟨_, rfl, by rw [sa_i (by decide)]; exact hA, by rw [sa_s]; exact e2⟩
    · have hk2 : k < n := by omega
      obtain ⟨a1, b1, -, -, -, s1, e1, -, e2, -, e3, -⟩ := h.2.2.2 k hk2
      rw [if_neg (nI_ge hk2 (by omega)), oneEach_n h hk2, sbind, gd_n (by omega) (by decide), ix_n (by omega), e3, gd_n (by omega) (by decide)]
      simp only [lett_s]
      rw [n1]
      have hd : dR a b s n (k + 1) = if dfK a b s k then (fun p => if (aN a b s n (ixB (hvK a b s k))).testBit p then dR a b s n k p ||| aN a b s n (ixB (ltK a b s k)) else dR a b s n k p) else dR a b s n k := rfl
      cases ho : oneK a b k
      · have hdf : dfK a b s k = false := by unfold dfK; rw [ho]; rfl
        rw [hdf] at hd
        simp only [dF, if_true]
        exact ih (k + 1) u (by omega) (by omega) hA (by rw [hd]; exact hD)
      · simp only [dT, if_false]
        by_cases c1 : s k = 61
        · have hdf : dfK a b s k = false := by unfold dfK; rw [ho, c1]; rfl
          rw [hdf] at hd
          rw [c1, if_pos (show nI 61 = 61 from rfl)]
          exact ih (k + 1) u (by omega) (by omega) hA (by rw [hd]; exact hD)
        · have hdf : dfK a b s k = true := by unfold dfK; rw [ho, decide_eq_false c1]; rfl
          rw [hdf] at hd
          obtain ⟨i, j, hi, hj, ei, ej⟩ := df_one hg hk2 hdf
          rw [ei, ej, ixB_pow hi, ixB_pow hj] at hd
          rw [if_neg (ne_n (x := 61) (b := 61) rfl c1 (by omega) (by omega))]
          have key : ∃ u2, fX6_find_J196 (fX6_find_L112 to m) u (nI k) (nI (hvK a b s k)) (nI (ltK a b s k)) = some u2 ∧ Rows (aN a b s n) (u2 1) ∧ Rows (lgN a b s n) (u2 0) := by
            unfold fX6_find_J196
            simp only [lett_s]
            obtain ⟨r2, f1, f2⟩ := join_n hD (aN_lt hg hi) (aN_lt hg hj)
            rw [ei, ej, allAlike_n (fun p hp => (hA p hp).2) hi, sbind, allAlike_n (fun p hp => (hA p hp).2) hj, sbind, f1, sbind, n1]
            exact ih (k + 1) _ (by omega) (by omega) (by rw [sa_i (by decide)]; exact hA) (by rw [sa_s, hd]; exact f2)
          have hh : hvK a b s k = if s k = 60 then b k else a k := rfl
          have hl : ltK a b s k = if s k = 60 then a k else b k := rfl
          unfold fX6_find_J155 fX6_find_J175
          rw [gd_n (by omega) (by decide), gd_n (by omega) (by decide), gd_n (by omega) (by decide), gd_n (by omega) (by decide), gd_n (by omega) (by decide), gd_n (by omega) (by decide), gd_n (by omega) (by decide), gd_n (by omega) (by decide), ix_n (by omega), e1, e2]
          by_cases c2 : s k = 60
          · rw [hh, hl, if_pos c2, if_pos c2] at key
            rw [if_neg (ne_n (x := 62) (b := 62) rfl (by omega) (by omega) (by omega)), if_pos rfl, if_pos rfl]
            exact key
          · rw [hh, hl, if_neg c2, if_neg c2] at key
            have c3 : s k = 62 := by omega
            rw [c3, if_pos (show nI 62 = 62 from rfl), if_neg (show ¬ (1 : Int32) = 0 from by decide), if_neg (show ¬ (1 : Int32) = 0 from by decide)]
            exact key
theorem find2 {n : Nat} {a b s : Nat → Nat} {to v : St} (h : Wg n a b s to v) : ∀ m k u, k ≤ n → n - k < m → Rows (eR a b s k) (u 1) → Rows (fun _ => 0) (u 0) → ∃ u2, fX6_find_L32 to m u (nI k) = some u2 ∧ Rows (aN a b s n) (u2 1) ∧ Rows (lgN a b s n) (u2 0) := by
  have hg : Gd n a b s := fun k hk => ⟨(h.2.2.2 k hk).1, (h.2.2.2 k hk).2.1⟩
  have hn := h.1
  intro m
  induction m with
  | zero => intro k u _ q; omega
  | succ m ih =>
    intro k u hk hm hE hD
    have e : fX6_find_L32 to (m + 1) u (nI k) = bX6_find_L32 to (fX6_find_L32 to m) u (nI k) := rfl
    rw [e]
    unfold bX6_find_L32
    rw [h.2.1]
    by_cases q : k = n
    · subst q
      obtain ⟨r2, e1, e2⟩ := close_n hE
      rw [if_pos (nI_le (Nat.le_refl k) (by omega)), e1, sbind, lett_s]
      have := find3 h FU 0 (sa u 1 r2) (by omega) (by show _ - 0 < 1000000; omega) (by rw [sa_s]; exact e2) (by rw [sa_i (by decide)]; exact hD)
      exact this
    · have hk2 : k < n := by omega
      obtain ⟨a1, b1, -, -, -, s1, e1, -, e2, -, e3, -⟩ := h.2.2.2 k hk2
      rw [if_neg (nI_ge hk2 (by omega)), oneEach_n h hk2, sbind, gd_n (by omega) (by decide), ix_n (by omega), e3, gd_n (by omega) (by decide), gd_n (by omega) (by decide), e1, e2]
      have hd : eR a b s (k + 1) = if eqK a b s k then (fun p => if (b k).testBit p then (if (a k).testBit p then eR a b s k p ||| b k else eR a b s k p) ||| a k else (if (a k).testBit p then eR a b s k p ||| b k else eR a b s k p)) else eR a b s k := rfl
      cases ho : oneK a b k
      · have hdf : eqK a b s k = false := by unfold eqK; rw [ho]; rfl
        rw [hdf] at hd
        simp only [dF, if_true, lett_s]
        rw [n1]
        exact ih (k + 1) u (by omega) (by omega) (by rw [hd]; exact hE) hD
      · simp only [dT, if_false]
        by_cases c1 : s k = 61
        · have hdf : eqK a b s k = true := by unfold eqK; rw [ho, c1]; rfl
          rw [hdf] at hd
          obtain ⟨r2, f1, f2⟩ := join_n hE a1 b1
          obtain ⟨r3, f3, f4⟩ := join_n f2 b1 a1
          rw [c1, if_pos (show nI 61 = 61 from rfl), f1, sbind, lett_s, gd_n (by omega) (by decide), gd_n (by omega) (by decide), sa_s, f3, sbind, lett_s, lett_s, n1]
          exact ih (k + 1) _ (by omega) (by omega) (by rw [sa_s, hd]; exact f4) (by rw [sa_i (by decide), sa_i (by decide)]; exact hD)
        · have hdf : eqK a b s k = false := by unfold eqK; rw [ho, decide_eq_false c1]; rfl
          rw [hdf] at hd
          rw [if_neg (ne_n (x := 61) (b := 61) rfl c1 (by omega) (by omega)), lett_s, n1]
          exact ih (k + 1) u (by omega) (by omega) (by rw [hd]; exact hE) hD
theorem find_n {n : Nat} {a b s : Nat → Nat} {to v rk : St} (h : Wg n a b s to v) : ∃ u2, fX6_find rk to = some u2 ∧ Rows (aN a b s n) (u2 1) ∧ Rows (lgN a b s n) (u2 0) := by
  have key : ∀ m p u, p ≤ 16 → 16 - p < m → (∀ q, q < p → u 1 q = nI (2 ^ q) ∧ u 0 q = nI 0) → ∃ u2, fX6_find_L2 to m u (nI p) = some u2 ∧ Rows (aN a b s n) (u2 1) ∧ Rows (lgN a b s n) (u2 0) := by
    intro m
    induction m with
    | zero => intro p u _ q; omega
    | succ m ih =>
      intro p u hp hm hr
      have e : fX6_find_L2 to (m + 1) u (nI p) = bX6_find_L2 to (fX6_find_L2 to m) u (nI p) := rfl
      rw [e]
      unfold bX6_find_L2
      by_cases q : p = 16
      · subst q
        rw [if_pos (by decide)]
        have hn := h.1
        have := find2 h FU 0 u (by omega) (by show _ - 0 < 1000000; omega) (fun p hp => ⟨Nat.pow_lt_pow_right (n := 16) (by decide) hp, (hr p hp).1⟩) (fun p hp => ⟨by show 0 < 65536; omega, (hr p hp).2⟩)
        exact this
      · rw [if_neg (nle_n (x := 16) (a := 16) rfl (by omega) (by decide)), gd_n (by omega) (by decide), lett_s, gd_n (by omega) (by decide), lett_s, lett_s, ix_n (by omega), shl1 p (by omega), n1]
        refine ih (p + 1) _ (by omega) (by omega) (fun q hq => ?_)
        by_cases q2 : q = p
        · subst q2
          exact ⟨by rw [st_i (by decide), st_s, upd_s], by rw [st_s, upd_s]; rfl⟩
        · refine ⟨?_, ?_⟩
          · rw [st_i (by decide), st_s, upd_n q2]; exact (hr q (by omega)).1
          · rw [st_s, upd_n q2, st_i (by decide)]; exact (hr q (by omega)).2
  have := key FU 0 rk (by omega) (by show 16 - 0 < 1000000; omega) (fun q hq => by omega)
  exact this
/-- whether someone is lighter than himself, from k on -/
def cirK (L : Nat → Nat) : Nat → Bool
  | 0 => false
  | j + 1 => (L (16 - (j + 1))).testBit (16 - (j + 1)) || cirK L j
theorem contra_n {u : St} {L : Nat → Nat} (h : Rows L (u 0)) : fX6_contradictsItself u = some (nI (b01 (cirK L 16))) := by
  have key : ∀ m p, p ≤ 16 → 16 - p < m → fX6_contradictsItself_L2 u m (nI p) = some (nI (b01 (cirK L (16 - p)))) := by
    intro m
    induction m with
    | zero => intro p _ q; omega
    | succ m ih =>
      intro p hp hm
      show bX6_contradictsItself_L2 u _ _ = _
      unfold bX6_contradictsItself_L2
      by_cases q : p = 16
      · subst q
        rw [if_pos (by decide)]; rfl
      · have hl := (h p (by omega)).1
        rw [if_neg (nle_n (x := 16) (a := 16) rfl (by omega) (by decide)), gd_n (by omega) (by decide), lett_s, ix_n (by omega), (h p (by omega)).2, has11_n (by omega) (by omega), lett_s, n1, ih (p + 1) (by omega) (by omega), show 16 - p = (16 - (p + 1)) + 1 by omega, cirK, show 16 - (16 - (p + 1) + 1) = p by omega]
        cases (L p).testBit p
        · simp only [dF, if_true, Bool.false_or]
        · simp only [dT, if_false, Bool.true_or]; rfl
  have := key FU 0 (by omega) (by show 16 - 0 < 1000000; omega)
  exact this
theorem heavy12 {n : Nat} {a b s : Nat → Nat} {to v : St} (h : Wg n a b s to v) {p : Nat} (hp : p < 16) (x : Int32) : fX12_heavier_L23 v FU (nI p) x 0 = some (if cirK (lgN a b s n) 16 then -3 else if x = 0 then nI (lgN a b s n p) else nI (aN a b s n p)) := by
  have hg : Gd n a b s := fun k hk => ⟨(h.2.2.2 k hk).1, (h.2.2.2 k hk).2.1⟩
  have key : ∀ m q, q ≤ 16 → 16 - q < m → fX12_heavier_L23 v m (nI p) x (nI q) = some (if cirK (lgN a b s n) (16 - q) then -3 else if x = 0 then nI (lgN a b s n p) else nI (aN a b s n p)) := by
    intro m
    induction m with
    | zero => intro q _ e; omega
    | succ m ih =>
      intro q hq hm
      show bX12_heavier_L23 v _ _ _ _ = _
      unfold bX12_heavier_L23
      by_cases c : q = 16
      · subst c
        rw [if_pos (by decide), alike12 h hp, light12 h hp, sbind, sbind]
        show _ = some (if x = 0 then nI (lgN a b s n p) else nI (aN a b s n p))
        split <;> rfl
      · have hl := lgN_lt hg (show q < 16 by omega)
        rw [if_neg (nle_n (x := 16) (a := 16) rfl (by omega) (by decide)), light12 h (by omega), sbind, lett_s, has12_n (by omega) (by omega), lett_s, n1, ih (q + 1) (by omega) (by omega), show 16 - q = (16 - (q + 1)) + 1 by omega, cirK, show 16 - (16 - (q + 1) + 1) = q by omega]
        cases (lgN a b s n q).testBit q
        · simp only [dF, if_true, Bool.false_or]
        · simp only [dT, if_false, Bool.true_or, if_true]
  have := key FU 0 (by omega) (by show 16 - 0 < 1000000; omega)
  exact this
theorem eq_heavier (g : Nat → St) (w : Nat → Int64) (v : St) (hr : Rel g v) (p1 p2 : Int32) : ∃ (z : Int32 × St) (y : Int32), fX11_heavier (g 10) (g 15) p1 p2 = some z ∧ fX12_heavier v p1 p2 = some y ∧ z.1 = y ∧ Rel (sg g 10 z.2) v := by
  obtain ⟨t1, t2, t3, t4, t5, ⟨n, a, b, s, h⟩⟩ := id hr
  have h : Wg n a b s (g 15) v := h
  unfold fX11_heavier fX12_heavier
  rw [isWalker_eq, sbind, lett_s, lett_s, lett_s, within_eq]
  rcases in_cases p1 0 15 0 15 rfl rfl (by decide) (by decide) with ⟨p, -, hp, rfl, h1⟩ | h1
  · rcases in_cases p2 0 1 0 1 rfl rfl (by decide) (by decide) with ⟨x, -, x2, rfl, h2⟩ | h2
    · obtain ⟨u, e1, e2, e3⟩ := find_n (rk := g 10) h
      have d1 : ¬ (1 : Int32) = 0 := by decide
      rw [h1, h2, if_neg d1, if_neg d1, if_neg d1, if_neg d1, e1, sbind, contra_n e3, sbind, heavy12 h (by omega), gd_n (by omega) (by decide), gd_n (by omega) (by decide), ix_n (by omega), (e2 p (by omega)).2, (e3 p (by omega)).2]
      cases cirK (lgN a b s n) 16
      · rcases (show x = 0 ∨ x = 1 by omega) with rfl | rfl
        · exact ⟨(_, _), _, rfl, rfl, rfl, hr⟩
        · exact ⟨(_, _), _, rfl, rfl, rfl, hr⟩
      · exact ⟨(_, _), _, rfl, rfl, rfl, hr⟩
    · have d1 : ¬ (1 : Int32) = 0 := by decide
      rw [h1, h2, if_neg d1, if_neg d1, if_pos rfl, if_pos rfl]
      exact ⟨(_, _), _, rfl, rfl, rfl, hr⟩
  · rw [h1, if_pos rfl, if_pos rfl]
    exact ⟨(_, _), _, rfl, rfl, rfl, hr⟩
