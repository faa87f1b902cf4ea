/-! ===== the law's code: stretches that are well typed ===== -/
def StpC (S O : Nat → Nat) (b : Nat) (ty : Nat → List Bool) (i : Nat) : Prop := (ty i).length ≤ 30 ∧
  ((S i = 0 ∧ O i < 100000 ∧ ty (i + 1) = false :: ty i) ∨ (S i = 1 ∧ O i < 8 ∧ ty (i + 1) = false :: ty i) ∨ (S i = 33 ∧ O i = 0 ∧ ∃ t, ty i = true :: t ∧ ty (i + 1) = ty i) ∨ ((S i = 38 ∨ S i = 124) ∧ i < O i ∧ O i ≤ b ∧ ∃ t, ty i = true :: t ∧ ty (i + 1) = t ∧ ty (O i) = ty i) ∨
   ((S i = 43 ∨ S i = 45 ∨ S i = 42 ∨ S i = 47 ∨ S i = 37) ∧ O i = 0 ∧ ∃ t, ty i = false :: false :: t ∧ ty (i + 1) = false :: t) ∨ ((S i = 60 ∨ S i = 62 ∨ S i = 61) ∧ O i = 0 ∧ ∃ t, ty i = false :: false :: t ∧ ty (i + 1) = true :: t))
def Seg (S O : Nat → Nat) (a b : Nat) (T T' : List Bool) : Prop := a ≤ b ∧ ∃ ty : Nat → List Bool, ty a = T ∧ ty b = T' ∧ ∀ i, a ≤ i → i < b → StpC S O b ty i
theorem Seg_code {S O : Nat → Nat} {a b : Nat} {r : Bool} (h : Seg S O a b [] [r]) : ∃ ty, CodeOk S O a b r ty := by
  obtain ⟨-, ty, h1, h2, h3⟩ := h
  exact ⟨ty, h1, h2, h3⟩
theorem StpC_cong {S O S2 O2 : Nat → Nat} {b b2 : Nat} {ty ty2 : Nat → List Bool} {i : Nat} (h : StpC S O b ty i) (hS : S2 i = S i) (hO : O2 i = O i) (h0 : ty2 i = ty i) (h1 : ty2 (i + 1) = ty (i + 1)) (h2 : i < O i → O i ≤ b → ty2 (O i) = ty (O i)) (hb : b ≤ b2) : StpC S2 O2 b2 ty2 i := by
  unfold StpC at *
  rw [hS, hO, h0, h1]
  refine ⟨h.1, ?_⟩
  rcases h.2 with q | q | q | ⟨q1, q2, q3, t, q4, q5, q6⟩ | q | q
  · exact Or.inl q
  · exact Or.inr (Or.inl q)
  · exact Or.inr (Or.inr (Or.inl q))
  · exact Or.inr (Or.inr (Or.inr (Or.inl ⟨q1, q2, by omega, t, q4, q5, (h2 q2 q3).trans q6⟩)))
  · exact Or.inr (Or.inr (Or.inr (Or.inr (Or.inl q))))
  · exact Or.inr (Or.inr (Or.inr (Or.inr (Or.inr q))))
theorem Seg_cong {S O S2 O2 : Nat → Nat} {a b : Nat} {T T' : List Bool} (h : Seg S O a b T T') (hc : ∀ i, a ≤ i → i < b → S2 i = S i ∧ O2 i = O i) : Seg S2 O2 a b T T' := by
  obtain ⟨h0, ty, h1, h2, h3⟩ := h
  exact ⟨h0, ty, h1, h2, fun i a1 a2 => StpC_cong (h3 i a1 a2) (hc i a1 a2).1 (hc i a1 a2).2 rfl rfl (fun _ _ => rfl) (Nat.le_refl b)⟩
theorem Seg_comp {S O : Nat → Nat} {a m b : Nat} {T T1 T2 : List Bool} (h : Seg S O a m T T1) (g : Seg S O m b T1 T2) : Seg S O a b T T2 := by
  obtain ⟨h0, ty, h1, h2, h3⟩ := h
  obtain ⟨g0, tz, g1, g2, g3⟩ := g
  have lo : ∀ x, x ≤ m → (fun i => if i < m then ty i else tz i) x = ty x := fun x hx => by
    dsimp only
    by_cases q : x < m
    · rw [if_pos q]
    · rw [if_neg q, show x = m by omega, g1, h2]
  have hi : ∀ x, m ≤ x → (fun i => if i < m then ty i else tz i) x = tz x := fun x hx => if_neg (by omega)
  refine ⟨by omega, fun i => if i < m then ty i else tz i, (lo a h0).trans h1, (hi b g0).trans g2, fun i a1 a2 => ?_⟩
  by_cases q : i < m
  · exact StpC_cong (h3 i a1 q) rfl rfl (lo i (by omega)) (lo (i + 1) (by omega)) (fun _ q2 => lo _ q2) g0
  · exact StpC_cong (g3 i (by omega) a2) rfl rfl (hi i (by omega)) (hi (i + 1) (by omega)) (fun q1 _ => hi _ (by omega)) (Nat.le_refl b)
theorem Seg_one {S O : Nat → Nat} {a : Nat} {T T' : List Bool} (hT : T.length ≤ 30) (h : (S a = 0 ∧ O a < 100000 ∧ T' = false :: T) ∨ (S a = 1 ∧ O a < 8 ∧ T' = false :: T) ∨ (S a = 33 ∧ O a = 0 ∧ ∃ t, T = true :: t ∧ T' = T) ∨ ((S a = 43 ∨ S a = 45 ∨ S a = 42 ∨ S a = 47 ∨ S a = 37) ∧ O a = 0 ∧ ∃ t, T = false :: false :: t ∧ T' = false :: t) ∨ ((S a = 60 ∨ S a = 62 ∨ S a = 61) ∧ O a = 0 ∧ ∃ t, T = false :: false :: t ∧ T' = true :: t)) : Seg S O a (a + 1) T T' := by
  have e0 : (fun i => if i ≤ a then T else T') a = T := if_pos (Nat.le_refl a)
  have e1 : (fun i => if i ≤ a then T else T') (a + 1) = T' := if_neg (by omega)
  refine ⟨by omega, fun i => if i ≤ a then T else T', e0, e1, fun i a1 a2 => ?_⟩
  obtain rfl : i = a := by omega
  unfold StpC
  rw [e0, e1]
  refine ⟨hT, ?_⟩
  rcases h with q | q | q | q | q
  · exact Or.inl q
  · exact Or.inr (Or.inl q)
  · exact Or.inr (Or.inr (Or.inl q))
  · exact Or.inr (Or.inr (Or.inr (Or.inr (Or.inl q))))
  · exact Or.inr (Or.inr (Or.inr (Or.inr (Or.inr q))))
/-- a jump over what need not be asked -/
theorem Seg_jmp {S O : Nat → Nat} {j e : Nat} {t : List Bool} (hS : S j = 38 ∨ S j = 124) (hO : O j = e) (ht : t.length ≤ 29) (h : Seg S O (j + 1) e t (true :: t)) : Seg S O j e (true :: t) (true :: t) := by
  obtain ⟨h0, ty, h1, h2, h3⟩ := h
  have ej : (fun i => if i = j then true :: t else ty i) j = true :: t := if_pos rfl
  have en : ∀ x, x ≠ j → (fun i => if i = j then true :: t else ty i) x = ty x := fun x hx => if_neg hx
  refine ⟨by omega, fun i => if i = j then true :: t else ty i, ej, (en e (by omega)).trans h2, fun i a1 a2 => ?_⟩
  by_cases q : i = j
  · subst q
    unfold StpC
    rw [ej, en (i + 1) (by omega), h1, hO, en e (by omega), h2]
    exact ⟨by rw [List.length_cons]; omega, Or.inr (Or.inr (Or.inr (Or.inl ⟨hS, by omega, Nat.le_refl e, t, rfl, rfl, rfl⟩)))⟩
  · exact StpC_cong (h3 i (by omega) a2) rfl rfl (en i q) (en (i + 1) (by omega)) (fun q1 _ => en _ (by omega)) (Nat.le_refl e)
/-! ===== code that the two hold ===== -/
def upN (f : Nat → Nat) (k x : Nat) : Nat → Nat := fun j => if j = k then x else f j
theorem upN_s (f : Nat → Nat) (k x : Nat) : upN f k x k = x := if_pos rfl
theorem upN_n {f : Nat → Nat} {k x j : Nat} (h : j ≠ k) : upN f k x j = f j := if_neg h
def CA (m : Nat) (S O : Nat → Nat) (lw : St) : Prop := lw 7 0 = nI m ∧ m ≤ 240 ∧ ∀ j, j < m → lw 5 j = nI (S j) ∧ lw 6 j = nI (O j)
def LwK (lw : St) : Prop := ∃ m, m ≤ 240 ∧ lw 7 0 = nI m
theorem CA_K {m : Nat} {S O : Nat → Nat} {lw : St} (h : CA m S O lw) : LwK lw := ⟨m, h.2.1, h.1⟩
def LKFr (lw0 lw : St) : Prop := ∀ k, k ≠ 5 → k ≠ 6 → k ≠ 7 → lw k = lw0 k
theorem LKFr_rfl (lw : St) : LKFr lw lw := fun _ _ _ _ => rfl
theorem LKFr_t {a b c : St} (h : LKFr a b) (g : LKFr b c) : LKFr a c := fun k h1 h2 h3 => (g k h1 h2 h3).trans (h k h1 h2 h3)
theorem put_n {m s o : Nat} {S O : Nat → Nat} {lw : St} {x y : Int32} (h : CA m S O lw) (hm : m < 240) (hx : x = nI s) (hy : y = nI o) : ∃ lw', fX2_put lw x y = some (nI m, lw') ∧ CA (m + 1) (upN S m s) (upN O m o) lw' ∧ LKFr lw lw' := by
  obtain ⟨h1, h2, h3⟩ := h
  subst hx; subst hy
  refine ⟨st (st (st lw 5 m (nI s)) 6 m (nI o)) 7 0 (nI (m + 1)), ?_, ⟨rfl, by omega, fun j hj => ?_⟩, fun k a1 a2 a3 => ?_⟩
  · unfold fX2_put
    rw [h1, if_neg (show ¬ (240 : Int32) ≤ nI m from nI_ge (b := 240) hm (by decide)), gd_n hm (by decide), lett_s, ix_n (by omega), show st lw 5 m (nI s) 7 0 = nI m from h1, gd_n hm (by decide), lett_s, ix_n (by omega), show st (st lw 5 m (nI s)) 6 m (nI o) 7 0 = nI m from h1, lett_s, n1, show st (st (st lw 5 m (nI s)) 6 m (nI o)) 7 0 (nI (m + 1)) 7 0 = nI (m + 1) from rfl, tps]
  · show upd (lw 5) m (nI s) j = _ ∧ upd (lw 6) m (nI o) j = _
    by_cases q : j = m
    · subst q; rw [upd_s, upd_s, upN_s, upN_s]; exact ⟨rfl, rfl⟩
    · rw [upd_n q, upd_n q, upN_n q, upN_n q]; exact h3 j (by omega)
  · rw [st_i a3, st_i a2, st_i a1]
theorem put_f {lw : St} (h : LwK lw) (x y : Int32) : ∃ z lw', fX2_put lw x y = some (z, lw') ∧ LwK lw' := by
  obtain ⟨m, h1, h2⟩ := h
  by_cases q : m < 240
  · obtain ⟨lw', e1, e2⟩ : ∃ lw', fX2_put lw x y = some (nI m, lw') ∧ lw' 7 0 = nI (m + 1) := by
      refine ⟨st (st (st lw 5 m x) 6 m y) 7 0 (nI (m + 1)), ?_, rfl⟩
      unfold fX2_put
      rw [h2, if_neg (show ¬ (240 : Int32) ≤ nI m from nI_ge (b := 240) q (by decide)), gd_n q (by decide), lett_s, ix_n (by omega), show st lw 5 m x 7 0 = nI m from h2, gd_n q (by decide), lett_s, ix_n (by omega), show st (st lw 5 m x) 6 m y 7 0 = nI m from h2, lett_s, n1, show st (st (st lw 5 m x) 6 m y) 7 0 (nI (m + 1)) 7 0 = nI (m + 1) from rfl, tps]
    exact ⟨_, lw', e1, m + 1, by omega, e2⟩
  · refine ⟨nI m - 1, lw, ?_, m, h1, h2⟩
    unfold fX2_put
    rw [h2, if_pos (show (240 : Int32) ≤ nI m from nI_le (a := 240) (by omega) (by omega))]
theorem leadC_n {m j : Nat} {S O : Nat → Nat} {lw : St} (h : CA m S O lw) (hj : j < m) : ∃ lw', fX2_leadHere lw (nI j) = some lw' ∧ CA m S (upN O j m) lw' ∧ LKFr lw lw' := by
  obtain ⟨h1, h2, h3⟩ := h
  refine ⟨st lw 6 j (nI m), ?_, ⟨h1, h2, fun q hq => ⟨(h3 q hq).1, ?_⟩⟩, fun k _ a2 _ => st_i a2⟩
  · unfold fX2_leadHere
    rw [within_eq, h1, show nI m - 1 = nI (m - 1) by rw [show (1 : Int32) = nI 1 from rfl, sub_n (by omega)], show fX12_in (nI j) 0 (nI (m - 1)) = 1 from in_n (a := 0) (b := m - 1) rfl rfl (by omega) (by omega) (by omega), lett_s, if_neg (by decide), gd_n (by omega) (by decide), lett_s, ix_n (by omega)]
  · show upd (lw 6) j (nI m) q = _
    by_cases e : q = j
    · subst e; rw [upd_s, upN_s]
    · rw [upd_n e, upN_n e]; exact (h3 q hq).2
theorem leadC_f {lw : St} (h : LwK lw) (x : Int32) : ∃ lw', fX2_leadHere lw x = some lw' ∧ LwK lw' := by
  obtain ⟨m, h1, h2⟩ := h
  unfold fX2_leadHere
  rw [within_eq, lett_s]
  by_cases q : fX12_in x 0 (lw 7 0 - 1) = 0
  · rw [if_pos q]; exact ⟨lw, rfl, m, h1, h2⟩
  · rw [if_neg q]
    have q1 : ¬ x < 0 := fun e => q (by unfold fX12_in; rw [if_pos e])
    obtain ⟨j, j1, rfl⟩ := nI_of q1
    have q2 : ¬ lw 7 0 - 1 < nI j := fun e => q (by unfold fX12_in; rw [if_neg q1, if_pos e])
    rw [h2] at q2
    have hj : j < 240 := by
      refine Nat.lt_of_not_le (fun e => q2 ?_)
      rw [Int32.lt_iff_toInt_lt, show (1 : Int32) = nI 1 from rfl, pk_sub_toInt (by omega) (by omega), nI_toInt (by omega)]
      omega
    rw [gd_n hj (by decide), lett_s]
    exact ⟨_, rfl, m, h1, h2⟩
/-! ===== the reference's notes and what waits ===== -/
theorem notes_n {v : St} {m e o : Nat} {x y : Int32} (h : v 12 0 = nI m) (hm : m < 260) (hx : x = nI e) (hy : y = nI o) : fX12_notes v x y = some (st (st v 16 m (nI (1048576 * e + o))) 12 0 (nI (m + 1))) := by
  subst hx; subst hy
  unfold fX12_notes
  rw [h, gd_n hm (by decide), lett_s, ix_n (by omega), show (1048576 : Int32) = nI 1048576 from rfl, pk_mul, nI_add, show st v 16 m (nI (1048576 * e + o)) 12 0 = nI m from h, n1, lett_s]
theorem top_n {v : St} {w e o : Nat} (h : v 13 0 = nI (w + 1)) (hw : w < 260) (h17 : v 17 w = nI (1048576 * e + o)) (he : e ≤ 14) (ho : o < 1048576) : fX12_waitTop v = some (nI e) := by
  unfold fX12_waitTop
  rw [h, if_neg (fun q => by have := (nI_eq (b := 0) (by omega) (by omega)).mp q; omega), tps, gd_n hw (by decide), ix_n (by omega), h17, show (1048576 : Int32) = nI 1048576 from rfl, div_n (by omega) (by decide) (by decide), show (1048576 * e + o) / 1048576 = e by omega]
theorem top_0 {v : St} (h : v 13 0 = nI 0) : fX12_waitTop v = some (-1) := by
  unfold fX12_waitTop
  rw [h]
  exact if_pos rfl
