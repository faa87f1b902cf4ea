/-! ===== texts: the cursor and the reference's place ===== -/
def sgn (n : Nat) (c : Nat → Nat) (i : Nat) : Int32 := if i < n then nI (c i) else -1
/-- the tape holds the text -/
def Tx (n : Nat) (c : Nat → Nat) (tp : St) : Prop := n ≤ 240 ∧ (∃ t, n ≤ t ∧ t ≤ 260 ∧ tp 1 0 = nI t) ∧ ∀ j, j < n → c j < 256 ∧ tp 0 j = nI (c j)
def TxR (n : Nat) (c : Nat → Nat) (v : St) : Prop := n ≤ 240 ∧ v 8 0 = nI n ∧ ∀ j, j < n → c j < 256 ∧ v 5 j = (nI (c j)).toInt8.toInt32
/-- the cursor at place i, with its fault -/
def Cu (n : Nat) (c : Nat → Nat) (i : Nat) (F : Int32) (u : St) : Prop := i ≤ n ∧ u 1 0 = nI n ∧ u 2 0 = nI i ∧ u 3 0 = sgn n c i ∧ u 4 0 = F
theorem sgn_in {n : Nat} {c : Nat → Nat} {i : Nat} (h : i < n) : sgn n c i = nI (c i) := if_pos h
theorem sgn_out {n : Nat} {c : Nat → Nat} {i : Nat} (h : ¬ i < n) : sgn n c i = -1 := if_neg h
theorem m1_ne {k : Nat} (h : k < 2147483648) : ¬ (-1 : Int32) = nI k := fun e => by
  have := nI_toInt (n := k) (by omega)
  rw [← e] at this
  exact absurd this (by rw [show (-1 : Int32).toInt = -1 from by decide]; omega)
/-- which byte stands here, if its number is known -/
theorem sgn_is {n : Nat} {c : Nat → Nat} {i k : Nat} (hc : ∀ j, j < n → c j < 256) (hk : k < 256) (h : sgn n c i = nI k) : i < n ∧ c i = k := by
  by_cases q : i < n
  · rw [sgn_in q] at h
    exact ⟨q, (nI_eq (by have := hc i q; omega) (by omega)).mp h⟩
  · rw [sgn_out q] at h
    exact absurd h (m1_ne (by omega))
theorem next_t {n : Nat} {c : Nat → Nat} {tp u : St} {i : Nat} {F : Int32} (tx : Tx n c tp) (h : Cu n c i F u) : ∃ u', fX1_next u tp = some u' ∧ Cu n c (min (i + 1) n) F u' := by
  obtain ⟨hn, ⟨t, t1, t2, t3⟩, tb⟩ := tx
  obtain ⟨h0, h1, h2, h3, h4⟩ := h
  have e0 : mn (u 2 0 + 1) (u 1 0) = nI (min (i + 1) n) := by rw [h1, h2, n1, mn_n (by omega) (by omega)]
  have J : ∀ y : Int32, fX1_next_J44 (st u 2 0 (nI (min (i + 1) n))) y = some (st (st u 2 0 (nI (min (i + 1) n))) 3 0 y) := fun y => by
    unfold fX1_next_J44; rw [lett_s]
  have e1 : st u 2 0 (nI (min (i + 1) n)) 1 0 = nI n := h1
  have e2 : st u 2 0 (nI (min (i + 1) n)) 2 0 = nI (min (i + 1) n) := by rw [st_s, upd_s]
  unfold fX1_next
  rw [e0, lett_s, e1, e2]
  by_cases q : i + 1 < n
  · rw [show min (i + 1) n = i + 1 by omega] at J ⊢
    rw [if_neg (nI_ge q (by omega)), at_n t3 t2 (show i + 1 < t by omega) (tb (i + 1) q).2, sbind, J]
    refine ⟨_, rfl, by omega, h1, rfl, ?_, h4⟩
    rw [sgn_in q]; rfl
  · rw [show min (i + 1) n = n by omega] at J ⊢
    rw [if_pos (nI_le (Nat.le_refl n) (by omega)), J]
    refine ⟨_, rfl, Nat.le_refl n, h1, rfl, ?_, h4⟩
    rw [sgn_out (by omega)]; rfl
theorem next_n {n : Nat} {c : Nat → Nat} {tp u : St} {i : Nat} {F : Int32} (tx : Tx n c tp) (h : Cu n c i F u) (hi : i < n) : ∃ u', fX1_next u tp = some u' ∧ Cu n c (i + 1) F u' := by
  obtain ⟨u', e1, e2⟩ := next_t tx h
  rw [show min (i + 1) n = i + 1 by omega] at e2
  exact ⟨u', e1, e2⟩
theorem start_n {n : Nat} {c : Nat → Nat} {tp u : St} (tx : Tx n c tp) (h1 : 1 ≤ n) : ∃ u', fX1_start u tp (nI n) = some u' ∧ Cu n c 0 0 u' := by
  obtain ⟨hn, ⟨t, t1, t2, t3⟩, tb⟩ := tx
  unfold fX1_start
  rw [lett_s, lett_s, lett_s]
  have e0 : mn (st (st (st u 1 0 (nI n)) 4 0 0) 2 0 (-1) 2 0 + 1) (st (st (st u 1 0 (nI n)) 4 0 0) 2 0 (-1) 1 0) = nI 0 := by
    rw [show st (st (st u 1 0 (nI n)) 4 0 0) 2 0 (-1) 2 0 = -1 from rfl, show st (st (st u 1 0 (nI n)) 4 0 0) 2 0 (-1) 1 0 = nI n from rfl, show (-1 : Int32) + 1 = nI 0 from by decide, mn_n (by decide) (by omega), show min 0 n = 0 by omega]
  unfold fX1_next
  rw [e0, lett_s]
  rw [show st (st (st (st u 1 0 (nI n)) 4 0 0) 2 0 (-1)) 2 0 (nI 0) 1 0 = nI n from rfl, show st (st (st (st u 1 0 (nI n)) 4 0 0) 2 0 (-1)) 2 0 (nI 0) 2 0 = nI 0 from rfl, if_neg (nI_ge (by omega) (by omega)), at_n t3 t2 (show 0 < t by omega) (tb 0 (by omega)).2, sbind]
  unfold fX1_next_J44
  rw [lett_s, sbind]
  refine ⟨_, rfl, by omega, rfl, rfl, ?_, rfl⟩
  rw [sgn_in (by omega)]; rfl
theorem here_n {n : Nat} {c : Nat → Nat} {v : St} {i : Nat} (h : TxR n c v) (h7 : v 7 0 = nI i) (hi : i ≤ n) : fX12_here v = some (sgn n c i) := by
  obtain ⟨hn, h8, hb⟩ := h
  unfold fX12_here
  rw [h7, h8]
  by_cases q : i < n
  · rw [if_neg (nI_ge q (by omega)), gd_n (by omega) (by decide), ix_n (by omega), (hb i q).2, oct_b _ (hb i q).1, sgn_in q]
  · rw [if_pos (nI_le (by omega) (by omega)), sgn_out q]
/-- a fault's number: what, where -/
def fo (k i : Nat) : Int32 := (-1000) * nI k - nI i
theorem fo_ne' : ∀ k, k < 8 → 1 ≤ k → ∀ i, i < 250 → ¬ (-1000) * nI k - nI i = 0 := by decide +kernel
theorem fo_ne {k i : Nat} (h1 : 1 ≤ k) (h2 : k < 8) (hi : i < 250) : ¬ fo k i = 0 := fo_ne' k h2 h1 i hi
theorem fail_n {n : Nat} {c : Nat → Nat} {u : St} {i k : Nat} {x : Int32} (h : Cu n c i 0 u) (hx : x = nI k) : Cu n c i (fo k i) (fX1_failHere u x) := by
  obtain ⟨h0, h1, h2, h3, h4⟩ := h
  subst hx
  unfold fX1_failHere fX1_fail
  rw [lett_s, if_pos h4, lett_s, h2]
  exact ⟨h0, h1, h2, h3, rfl⟩
theorem failAt_n {n : Nat} {c : Nat → Nat} {u : St} {i j k : Nat} {x y : Int32} (h : Cu n c i 0 u) (hx : x = nI k) (hy : y = nI j) : Cu n c i (fo k j) (fX1_fail u x y) := by
  obtain ⟨h0, h1, h2, h3, h4⟩ := h
  subst hx; subst hy
  unfold fX1_fail
  rw [if_pos h4, lett_s]
  exact ⟨h0, h1, h2, h3, rfl⟩
theorem fail_f {n : Nat} {c : Nat → Nat} {u : St} {i : Nat} {F : Int32} (h : Cu n c i F u) (hF : ¬ F = 0) (x : Int32) : fX1_failHere u x = u := by
  unfold fX1_failHere fX1_fail
  rw [lett_s, if_neg (by rw [h.2.2.2.2]; exact hF)]
theorem failAt_f {n : Nat} {c : Nat → Nat} {u : St} {i : Nat} {F : Int32} (h : Cu n c i F u) (hF : ¬ F = 0) (x y : Int32) : fX1_fail u x y = u := by
  unfold fX1_fail
  rw [if_neg (by rw [h.2.2.2.2]; exact hF)]
theorem faulty_n {n : Nat} {c : Nat → Nat} {u : St} {i : Nat} (h : Cu n c i 0 u) : fX1_isFaulty u = 0 := if_pos h.2.2.2.2
theorem faulty_f {n : Nat} {c : Nat → Nat} {u : St} {i : Nat} {F : Int32} (h : Cu n c i F u) (hF : ¬ F = 0) : fX1_isFaulty u = 1 := if_neg (by rw [h.2.2.2.2]; exact hF)
theorem sees_n {n : Nat} {c : Nat → Nat} {u : St} {i : Nat} (h : Cu n c i 0 u) (x : Int32) : fX1_sees u x = if sgn n c i = x then 1 else 0 := by
  unfold fX1_sees
  rw [if_pos h.2.2.2.2, h.2.2.2.1]
theorem sees_f {n : Nat} {c : Nat → Nat} {u : St} {i : Nat} {F : Int32} (h : Cu n c i F u) (hF : ¬ F = 0) (x : Int32) : fX1_sees u x = 0 := by
  unfold fX1_sees
  rw [if_neg (by rw [h.2.2.2.2]; exact hF)]
theorem take_y {n : Nat} {c : Nat → Nat} {tp u : St} {i : Nat} {x : Int32} (tx : Tx n c tp) (h : Cu n c i 0 u) (hi : i < n) (hs : sgn n c i = x) : ∃ u', fX1_take u tp x = some (1, u') ∧ Cu n c (i + 1) 0 u' := by
  obtain ⟨u', e1, e2⟩ := next_n tx h hi
  refine ⟨u', ?_, e2⟩
  unfold fX1_take
  rw [sees_n h, if_pos hs, lett_s, if_neg (by decide), e1, sbind]
theorem take_x {n : Nat} {c : Nat → Nat} {tp u : St} {i : Nat} {x : Int32} (h : Cu n c i 0 u) (hs : ¬ sgn n c i = x) : ∃ u', fX1_take u tp x = some (0, u') ∧ Cu n c i (fo 1 i) u' := by
  refine ⟨_, ?_, fail_n h rfl⟩
  unfold fX1_take
  rw [sees_n h, if_neg hs, lett_s, if_pos rfl, lett_s]; rfl
theorem take_f {n : Nat} {c : Nat → Nat} {tp u : St} {i : Nat} {F : Int32} (h : Cu n c i F u) (hF : ¬ F = 0) (x : Int32) : fX1_take u tp x = some (0, u) := by
  unfold fX1_take
  rw [sees_f h hF, lett_s, if_pos rfl, lett_s, fail_f h hF]
/-- what the reference's takes says -/
theorem takes_y {n : Nat} {c : Nat → Nat} {v : St} {i : Nat} {x : Int32} (h : TxR n c v) (h7 : v 7 0 = nI i) (hi : i ≤ n) (hs : sgn n c i = x) : fX12_takes v x = some (1, st v 7 0 (nI (i + 1))) := by
  unfold fX12_takes
  rw [here_n h h7 hi, sbind, if_pos hs, lett_s, h7, n1]
theorem wrong_n {v : St} {i k : Nat} {x y : Int32} (hy : y = nI i) (hx : x = nI k) : fX12_wrongAt v x y = (0, st v 9 0 (fo k i)) := by
  subst hx; subst hy
  unfold fX12_wrongAt
  rw [lett_s]; rfl
theorem zb_0 {α : Type} (k : Option α) : zb 0 k = k := if_pos (Or.inl rfl)
theorem zb_1 {α : Type} (k : Option α) : zb 1 k = k := if_pos (Or.inr rfl)
theorem takes_x {n : Nat} {c : Nat → Nat} {v : St} {i : Nat} {x : Int32} (h : TxR n c v) (h7 : v 7 0 = nI i) (hi : i ≤ n) (hs : ¬ sgn n c i = x) : fX12_takes v x = some (0, st v 9 0 (fo 1 i)) := by
  unfold fX12_takes
  rw [here_n h h7 hi, sbind, if_neg hs, wrong_n (x := 1) (k := 1) h7 rfl, lett_s]
  dsimp only
  rw [zb_0]
/-- a walker's letter, or none -/
theorem seen_c {n : Nat} {c : Nat → Nat} {u : St} {i : Nat} {F : Int32} (hc : ∀ j, j < n → c j < 256) (h : Cu n c i F u) : (∃ p, p < 16 ∧ i < n ∧ c i = 97 + p ∧ sgn n c i - 97 = nI p ∧ fX1_seenWalker u = some (nI p) ∧ fX12_in (sgn n c i - 97) 0 15 = 1) ∨ (fX1_seenWalker u = some (-1) ∧ fX12_in (sgn n c i - 97) 0 15 = 0) := by
  unfold fX1_seenWalker
  rw [h.2.2.2.1, lett_s, isWalker_eq, sbind]
  rcases in_cases (sgn n c i - 97) 0 15 0 15 rfl rfl (by decide) (by decide) with ⟨p, -, p2, p3, e⟩ | e
  · have : sgn n c i = nI (97 + p) := by
      rw [← Int32.sub_add_cancel (sgn n c i) 97, p3, show (97 : Int32) = nI 97 from rfl, nI_add, Nat.add_comm]
    obtain ⟨q1, q2⟩ := sgn_is hc (by omega) this
    refine Or.inl ⟨p, by omega, q1, q2, p3, ?_, e⟩
    rw [e, if_neg (by decide), p3]
  · refine Or.inr ⟨?_, e⟩
    rw [e, if_pos rfl]
/-- whether a line begins here -/
theorem begins_0 {n : Nat} {c : Nat → Nat} {tp u : St} {i : Nat} (h : Cu n c i 0 u) : fX1_begins u tp 0 = some (1, u) := by
  unfold fX1_begins fX1_begins_J24
  rw [faulty_n h, lett_s, if_pos rfl, if_pos (by decide), if_pos rfl]
theorem begins_f {n : Nat} {c : Nat → Nat} {tp u : St} {i : Nat} {F : Int32} (h : Cu n c i F u) (hF : ¬ F = 0) (x : Int32) : fX1_begins u tp x = some (0, u) := by
  unfold fX1_begins
  rw [faulty_f h hF, lett_s, if_neg (by decide)]
theorem begins_e {n : Nat} {c : Nat → Nat} {tp u : St} {k : Nat} (h : Cu n c n 0 u) (hk : 1 ≤ k) (hk2 : k < 100) : fX1_begins u tp (nI k) = some (0, u) := by
  unfold fX1_begins
  rw [faulty_n h, lett_s, if_pos rfl, if_neg (show ¬ nI k ≤ 0 from nI_ge (a := 0) (by omega) (by omega)), h.2.1, h.2.2.1, if_pos rfl]
theorem begins_k {n : Nat} {c : Nat → Nat} {tp u : St} {i k : Nat} (hn : n ≤ 240) (h : Cu n c i 0 u) (hi : i < n) (hk : 1 ≤ k) (hk2 : k < 100) : fX1_begins u tp (nI k) = (fX1_take u tp 59).bind fun z2 => if z2.1 = 0 then some (0, z2.2) else some (1, z2.2) := by
  unfold fX1_begins fX1_begins_J24
  rw [faulty_n h, lett_s, if_pos rfl, if_neg (show ¬ nI k ≤ 0 from nI_ge (a := 0) (by omega) (by omega)), h.2.1, h.2.2.1, if_neg (fun e => by have := (nI_eq (by omega) (by omega)).mp e; omega), if_neg (fun e => by have := (nI_eq (b := 0) (by omega) (by omega)).mp e; omega)]
