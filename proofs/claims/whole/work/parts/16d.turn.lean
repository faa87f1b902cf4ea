/-! ===== going over; a walker's turn ===== -/
theorem asub (a b c : Int32) : a + b - c = a + (b - c) := by rw [Int32.sub_eq_add_neg, Int32.sub_eq_add_neg, Int32.add_assoc]
theorem sle_n {a b t : Nat} (ha : a < 1073741824) (hb : b < 1073741824) (ht : t < 1073741824) : (nI a - nI b ≤ nI t) = (a ≤ b + t) := by
  rw [Int32.le_iff_toInt_le, pk_sub_toInt (by omega) (by omega), nI_toInt (by omega)]
  exact propext ⟨fun h => by omega, fun h => by omega⟩
theorem HR_go {N : Nat → Nat → Nat} {ta tb : Nat} {ro w v : St} (h : HR N ta tb ro w v) {p : Nat} (hp : p < 16) (ht : (N 4 0).testBit p = true) : HR (nset N 5 0 (N 5 0 ||| 2 ^ p)) ta tb (st ro 2 0 (ro 2 0 + 1)) (st w 5 0 (nI (N 5 0 ||| 2 ^ p))) (st (st v 0 (48 + p) 1) 39 0 (v 39 0 + 1)) := by
  obtain ⟨ok, c, r, t1, t2, t3, t4, t5, t6, c1, c2, c3, c4⟩ := h
  exact ⟨WkOk_1 ok hp ht, WkC_set c 5 0 _, WkR_ov1 r hp, t1, t2, t3, t4, t5, t6, congrArg (· + 1) c1, c2, c3, c4⟩
theorem HR_hurt {N : Nat → Nat → Nat} {ta tb : Nat} {ro w v : St} (h : HR N ta tb ro w v) {p x : Nat} (hp : p < 16) (hx : x ≤ 9999) : HR (nset N 3 p x) ta tb (st ro 4 0 (ro 4 0 + 1)) (st w 3 p (nI x)) (st (st v 0 (80 + p) (nI x)) 41 0 (v 41 0 + 1)) := by
  obtain ⟨ok, c, r, t1, t2, t3, t4, t5, t6, c1, c2, c3, c4⟩ := h
  exact ⟨WkOk_h ok hx, WkC_set c 3 p _, WkR_a3 r hp x, t1, t2, t3, t4, t5, t6, c1, c2, congrArg (· + 1) c3, c4⟩
theorem HR_bath {N : Nat → Nat → Nat} {ta tb : Nat} {ro w v : St} (h : HR N ta tb ro w v) {p x : Nat} (hp : p < 16) (hx : x ≤ 999) : HR (nset N 2 p x) ta tb (st ro 3 0 (ro 3 0 + 1)) (st w 2 p (nI x)) (st (st v 0 (64 + p) (nI x)) 40 0 (v 40 0 + 1)) := by
  obtain ⟨ok, c, r, t1, t2, t3, t4, t5, t6, c1, c2, c3, c4⟩ := h
  exact ⟨WkOk_b ok hx, WkC_set c 2 p _, WkR_a2 r hp x, t1, t2, t3, t4, t5, t6, c1, congrArg (· + 1) c2, c3, c4⟩
theorem crossJ {ro w : St} {p o : Nat} (hp : p < 16) (h : w 5 0 = nI o) : fX7_cross_J91 ro w (nI p) = some (st ro 2 0 (ro 2 0 + 1), st w 5 0 (nI (o ||| 2 ^ p))) := by
  unfold fX7_cross_J91
  rw [lett_s, lett_s, h, shl1 p (by omega), fa_or]
theorem goesJ {v : St} {p : Nat} (hp : p < 16) : fX12_goesOver_J105 v (nI p) = some (st (st v 0 (48 + p) 1) 39 0 (v 39 0 + 1)) := by
  unfold fX12_goesOver_J105
  rw [a48, gd_n (by omega) (by decide), lett_s, lett_s, ix_n (by omega)]
  rfl
theorem HFr_0 {v0 v : St} (h : HFr v0 v) {j : Nat} {x : Int32} : HFr v0 (st v 0 j x) := fun k h0 h1 h2 h3 h4 h5 h6 => (st_i h0).trans (h k h0 h1 h2 h3 h4 h5 h6)
theorem HFr_39 {v0 v : St} (h : HFr v0 v) {j : Nat} {x : Int32} : HFr v0 (st v 39 j x) := fun k h0 h1 h2 h3 h4 h5 h6 => (st_i h3).trans (h k h0 h1 h2 h3 h4 h5 h6)
theorem HFr_40 {v0 v : St} (h : HFr v0 v) {j : Nat} {x : Int32} : HFr v0 (st v 40 j x) := fun k h0 h1 h2 h3 h4 h5 h6 => (st_i h4).trans (h k h0 h1 h2 h3 h4 h5 h6)
theorem HFr_41 {v0 v : St} (h : HFr v0 v) {j : Nat} {x : Int32} : HFr v0 (st v 41 j x) := fun k h0 h1 h2 h3 h4 h5 h6 => (st_i h5).trans (h k h0 h1 h2 h3 h4 h5 h6)
theorem HFr_42 {v0 v : St} (h : HFr v0 v) {j : Nat} {x : Int32} : HFr v0 (st v 42 j x) := fun k h0 h1 h2 h3 h4 h5 h6 => (st_i h6).trans (h k h0 h1 h2 h3 h4 h5 h6)
theorem HFr_rfl (v : St) : HFr v v := fun _ _ _ _ _ _ _ _ => rfl
theorem cross_a {N : Nat → Nat → Nat} {ta tb : Nat} {ro w v : St} (h : HR N ta tb ro w v) {p L : Nat} (hp : p < 16) (hL : L ≤ 3000) : fX7_cross ro w (nI p) (nI L) = if N 0 p ≤ L + ta then if L ≤ N 0 p + ta then fX7_cross_J91 ro w (nI p) else fX7_cross_J91 (st ro 4 0 (ro 4 0 + 1)) (st w 3 p (nI (min 9999 (N 3 p + (L - N 0 p))))) (nI p) else some (st ro 3 0 (ro 3 0 + 1), st w 2 p (nI (min 999 (N 2 p + 1)))) := by
  obtain ⟨ok, c, r, t1, t2, t3, t4, t5, t6, c1, c2, c3, c4⟩ := id h
  obtain ⟨k0, -, k2, k3⟩ := c.2.2.2.2 p hp
  obtain ⟨o0, -, o2, o3, -, -⟩ := ok.2.2.2.2 p hp
  have s1 : (nI (N 0 p) - nI L ≤ nI ta) ↔ N 0 p ≤ L + ta := iff_of_eq (sle_n (by omega) (by omega) (by omega))
  have s2 : (nI L - nI (N 0 p) ≤ nI ta) ↔ L ≤ N 0 p + ta := iff_of_eq (sle_n (by omega) (by omega) (by omega))
  unfold fX7_cross
  rw [gd_n (by omega) (by decide), lett_s, ix_n (show p < 2147483648 by omega), k0, t3, Int32.neg_sub]
  by_cases q1 : N 0 p ≤ L + ta
  · rw [if_pos (s1.mpr q1), if_pos q1]
    by_cases q2 : L ≤ N 0 p + ta
    · rw [if_pos (s2.mpr q2), if_pos q2]
    · rw [if_neg (fun e => q2 (s2.mp e)), if_neg q2, gd_n (by omega) (by decide), gd_n (by omega) (by decide), lett_s, lett_s, k3, sub_n (by omega), nI_add, show (9999 : Int32) = nI 9999 from rfl, mn_n (by omega) (by omega)]
  · rw [if_neg (fun e => q1 (s1.mp e)), if_neg q1, gd_n (by omega) (by decide), gd_n (by omega) (by decide), lett_s, lett_s, k2, n1, show (999 : Int32) = nI 999 from rfl, mn_n (by omega) (by omega)]
theorem cross_b {N : Nat → Nat → Nat} {ta tb : Nat} {ro w v : St} (h : HR N ta tb ro w v) {p L : Nat} (hp : p < 16) (hL : L ≤ 3000) : fX12_goesOver v (nI p) (nI L) = if N 0 p ≤ L + ta then if L ≤ N 0 p + ta then fX12_goesOver_J105 v (nI p) else fX12_goesOver_J105 (st (st v 0 (80 + p) (nI (min 9999 (N 3 p + (L - N 0 p))))) 41 0 (v 41 0 + 1)) (nI p) else some (st (st v 0 (64 + p) (nI (min 999 (N 2 p + 1)))) 40 0 (v 40 0 + 1)) := by
  obtain ⟨ok, c, r, t1, t2, t3, t4, t5, t6, c1, c2, c3, c4⟩ := id h
  obtain ⟨-, r1, -, -, r4, r5⟩ := r.2.2 p hp
  obtain ⟨o0, -, o2, o3, -, -⟩ := ok.2.2.2.2 p hp
  have s1 : (nI (N 0 p) - nI L ≤ nI ta) ↔ N 0 p ≤ L + ta := iff_of_eq (sle_n (by omega) (by omega) (by omega))
  have s2 : (nI L - nI (N 0 p) ≤ nI ta) ↔ L ≤ N 0 p + ta := iff_of_eq (sle_n (by omega) (by omega) (by omega))
  unfold fX12_goesOver
  rw [a16, gd_n (by omega) (by decide), lett_s, ix_n (show 16 + p < 2147483648 by omega), r1, t4]
  by_cases q1 : N 0 p ≤ L + ta
  · rw [if_pos (s1.mpr q1), if_pos q1]
    by_cases q2 : L ≤ N 0 p + ta
    · rw [if_pos (s2.mpr q2), if_pos q2]
    · rw [if_neg (fun e => q2 (s2.mp e)), if_neg q2, a80, gd_n (by omega) (by decide), lett_s, gd_n (by omega) (by decide), lett_s, lett_s, ix_n (show 80 + p < 2147483648 by omega), r5, nI_add, sub_n (by omega), min_mn, show (9999 : Int32) = nI 9999 from rfl, mn_n (by omega) (by omega), show N 3 p + L - N 0 p = N 3 p + (L - N 0 p) by omega]
      rfl
  · rw [if_neg (fun e => q1 (s1.mp e)), if_neg q1, a64, gd_n (by omega) (by decide), lett_s, gd_n (by omega) (by decide), lett_s, lett_s, ix_n (show 64 + p < 2147483648 by omega), r4, n1, min_mn, show (999 : Int32) = nI 999 from rfl, mn_n (by omega) (by omega)]
    rfl
theorem cross_n {N : Nat → Nat → Nat} {ta tb : Nat} {ro w v : St} (h : HR N ta tb ro w v) {p L : Nat} (hp : p < 16) (ht : (N 4 0).testBit p = true) (hL : L ≤ 3000) : ∃ N' ro' w' v', fX7_cross ro w (nI p) (nI L) = some (ro', w') ∧ fX12_goesOver v (nI p) (nI L) = some v' ∧ HR N' ta tb ro' w' v' ∧ N' 4 0 = N 4 0 ∧ N' 6 0 = N 6 0 ∧ HFr v v' := by
  rw [cross_a h hp hL, cross_b h hp hL]
  by_cases q1 : N 0 p ≤ L + ta
  · rw [if_pos q1, if_pos q1]
    by_cases q2 : L ≤ N 0 p + ta
    · rw [if_pos q2, if_pos q2]
      exact ⟨_, _, _, _, crossJ hp h.2.1.2.1, goesJ hp, HR_go h hp ht, rfl, rfl, HFr_39 (HFr_0 (HFr_rfl v))⟩
    · rw [if_neg q2, if_neg q2]
      have h2 := HR_hurt h (p := p) hp (show min 9999 (N 3 p + (L - N 0 p)) ≤ 9999 by omega)
      exact ⟨_, _, _, _, crossJ hp h2.2.1.2.1, goesJ hp, HR_go h2 hp ht, rfl, rfl, HFr_39 (HFr_0 (HFr_41 (HFr_0 (HFr_rfl v))))⟩
  · rw [if_neg q1, if_neg q1]
    exact ⟨_, _, _, _, rfl, rfl, HR_bath h hp (show min 999 (N 2 p + 1) ≤ 999 by omega), rfl, rfl, HFr_40 (HFr_0 (HFr_rfl v))⟩
theorem LRn_cong {n c : Nat} {K A B E S O : Nat → Nat} {lw0 v0 lw v : St} (h : LRn n c K A B E S O lw0 v0) (hl : ∀ k, k < 7 → lw k = lw0 k) (e15 : v 15 = v0 15) (e22 : v 22 = v0 22) (e23 : v 23 = v0 23) (e24 : v 24 = v0 24) (e25 : v 25 = v0 25) (e26 : v 26 = v0 26) : LRn n c K A B E S O lw v := by
  unfold LRn at *
  rw [hl 0 (by decide), hl 1 (by decide), hl 2 (by decide), hl 3 (by decide), hl 4 (by decide), hl 5 (by decide), hl 6 (by decide), e15, e22, e23, e24, e25, e26]
  exact h
theorem optI_0 (o : Option Nat) : optI 0 o = nI (o.getD 0) := by cases o <;> rfl
theorem optI_m {o : Option Nat} {hi : Nat} (h : ∀ x, o = some x → x ≤ hi) (hh : hi < 2147483648) : mx 0 (optI (-1) o) = nI (o.getD 0) := by
  cases o with
  | none => decide
  | some x =>
    have := h x rfl
    show mx (nI 0) (nI x) = nI x
    rw [mx_n (by omega) (by omega)]; exact congrArg nI (by omega)
theorem optI_d {o : Option Nat} {hi d : Nat} (h : ∀ x, o = some x → x ≤ hi) (hh : hi < 2147483648) (hd : d < 2147483648) : (optI (-1) o ≤ nI d) = (o.getD 0 ≤ d) := by
  cases o with
  | none =>
    refine propext ⟨fun _ => Nat.zero_le d, fun _ => ?_⟩
    show (-1 : Int32) ≤ nI d
    rw [Int32.le_iff_toInt_le, nI_toInt (by omega), show (-1 : Int32).toInt = -1 from by decide]; omega
  | some x =>
    have := h x rfl
    exact c_le (by omega) (by omega)
theorem getD_le {o : Option Nat} {hi : Nat} (h : ∀ x, o = some x → x ≤ hi) : o.getD 0 ≤ hi := by
  cases o with
  | none => exact Nat.zero_le _
  | some x => exact h x rfl
def nextX (X : Nat) : Nat := (25173 * X + 13849) % 65536
theorem draw_n {w : St} {X : Nat} (h : w 7 0 = nI X) (hX : X < 65536) : fX9_draw w = (nI (nextX X % 10), st w 7 0 (nI (nextX X))) := by
  unfold fX9_draw
  have e : (25173 * w 7 0 + 13849) &&& 65535 = nI (nextX X) := by
    rw [h, show (25173 : Int32) = nI 25173 from rfl, show (13849 : Int32) = nI 13849 from rfl, pk_mul, nI_add, show (65535 : Int32) = nI (2 ^ 16 - 1) from rfl, fa_mask]; rfl
  rw [e, lett_s]
  have e2 : jrem (st w 7 0 (nI (nextX X)) 7 0) 10 = nI (nextX X % 10) := by
    rw [st_s, upd_s, show (10 : Int32) = nI 10 from rfl, rem_n (by unfold nextX; omega) (by decide) (by decide)]
  rw [e2]
theorem HR_lot {N : Nat → Nat → Nat} {ta tb : Nat} {ro w v : St} (h : HR N ta tb ro w v) : HR (nset N 7 0 (nextX (N 7 0))) ta tb (st ro 5 0 (ro 5 0 + 0)) (st w 7 0 (nI (nextX (N 7 0)))) (st v 0 97 (nI (nextX (N 7 0)))) := by
  obtain ⟨ok, c, r, t1, t2, t3, t4, t5, t6, c1, c2, c3, c4⟩ := h
  refine ⟨⟨ok.1, ok.2.1, ok.2.2.1, ?_, ok.2.2.2.2⟩, WkC_set c 7 0 _, WkR_lot r _, t1, t2, t3, t4, t5, t6, c1, c2, c3, ?_⟩
  · rw [nset_s]; unfold nextX; omega
  · show ro 5 0 + 0 = v 42 0
    rw [Int32.add_zero]; exact c4
theorem HR_lot1 {N : Nat → Nat → Nat} {ta tb : Nat} {ro w v : St} (h : HR N ta tb ro w v) : HR (nset N 7 0 (nextX (N 7 0))) ta tb (st ro 5 0 (ro 5 0 + 1)) (st w 7 0 (nI (nextX (N 7 0)))) (st (st v 0 97 (nI (nextX (N 7 0)))) 42 0 (v 42 0 + 1)) := by
  obtain ⟨ok, c, r, t1, t2, t3, t4, t5, t6, c1, c2, c3, c4⟩ := h
  refine ⟨⟨ok.1, ok.2.1, ok.2.2.1, ?_, ok.2.2.2.2⟩, WkC_set c 7 0 _, WkR_lot r _, t1, t2, t3, t4, t5, t6, c1, c2, c3, congrArg (· + 1) c4⟩
  rw [nset_s]; unfold nextX; omega
/-- the class's scale, once the friend and the stones are known -/
theorem scA {N : Nat → Nat → Nat} {ta tb : Nat} {ro w v lw lw' : St} (h : HR N ta tb ro w v) {ob : Option Nat} (hb : ∀ x, ob = some x → x ≤ 10) (hs : fX2_say lw (nI 98) (nI 10) = some (optI (-1) ob, lw')) {e fw : Nat} {x5 y : Int32} (hy : (y = 0 ∧ fw = 0) ∨ ∃ f, f < 16 ∧ y = 1 ∧ x5 = nI f ∧ fw = N 0 f) : fX7_onScale_J51 ro w lw (nI e) x5 y = if ob.getD 0 ≤ nextX (N 7 0) % 10 then some (nI (e + fw), st ro 5 0 (ro 5 0 + 0), st w 7 0 (nI (nextX (N 7 0))), lw') else some (nI (e + fw + tb), st ro 5 0 (ro 5 0 + 1), st w 7 0 (nI (nextX (N 7 0))), lw') := by
  obtain ⟨ok, c, r, t1, t2, t3, t4, t5, t6, c1, c2, c3, c4⟩ := id h
  have hd : nextX (N 7 0) % 10 < 10 := Nat.mod_lt _ (by decide)
  unfold fX7_onScale_J51
  rw [draw_n c.2.2.2.1 ok.2.2.2.1, lett_s, show fX2_say lw 98 10 = _ from hs, sbind]
  dsimp only
  have sd : (optI (-1) ob ≤ nI (nextX (N 7 0) % 10)) ↔ ob.getD 0 ≤ nextX (N 7 0) % 10 := iff_of_eq (optI_d hb (by decide) (by omega))
  have K : ∀ (z x7 : Int32) (T : Int32), (x7 = 0 ∧ T = 0 ∨ x7 = 1 ∧ T = nI tb) → fX7_onScale_J90 ro (st w 7 0 (nI (nextX (N 7 0)))) lw' (nI e) x5 y x7 z (ro 5 0) = some (nI (e + fw) + T, st ro 5 0 (ro 5 0 + z), st w 7 0 (nI (nextX (N 7 0))), lw') := by
    intro z x7 T hx
    have J112 : ∀ (u vw : St) (y0 : Int32), u 1 0 = nI tb → fX7_onScale_J112 u vw lw' x7 y0 (nI e) = some (nI e + y0 + T, u, vw, lw') := by
      intro u vw y0 hu
      unfold fX7_onScale_J112
      rcases hx with ⟨rfl, rfl⟩ | ⟨rfl, rfl⟩
      · rw [if_pos rfl]
      · rw [if_neg (by decide), hu]
    unfold fX7_onScale_J90
    rw [lett_s]
    rcases hy with ⟨rfl, rfl⟩ | ⟨f, f1, rfl, rfl, rfl⟩
    · rw [if_pos rfl, J112 _ _ _ (show st ro 5 0 _ 1 0 = _ from t5), Int32.add_zero, Nat.add_zero]
    · rw [if_neg (by decide), gd_n (by omega) (by decide), J112 _ _ _ (show st ro 5 0 _ 1 0 = _ from t5), ix_n (by omega), show st w 7 0 (nI (nextX (N 7 0))) 0 f = nI (N 0 f) from (c.2.2.2.2 f f1).1, nI_add]
  unfold fX7_onScale_J73
  by_cases q : ob.getD 0 ≤ nextX (N 7 0) % 10
  · rw [if_pos (sd.mpr q), if_pos q, if_pos rfl, K 0 0 0 (Or.inl ⟨rfl, rfl⟩), Int32.add_zero]
  · rw [if_neg (fun e => q (sd.mp e)), if_neg q, if_neg (by decide), K 1 1 (nI tb) (Or.inr ⟨rfl, rfl⟩), nI_add]
/-- the reference's scale likewise -/
theorem scB {N : Nat → Nat → Nat} {ta tb : Nat} {ro w v : St} (h : HR N ta tb ro w v) (p : Int32) {b e : Nat} (hb : b ≤ 10) : fX12_turnOf_J175 v p (nI e) (nI b) = if b ≤ nextX (N 7 0) % 10 then fX12_turnOf_J235 (st v 0 97 (nI (nextX (N 7 0)))) p (nI e) else fX12_turnOf_J235 (st (st v 0 97 (nI (nextX (N 7 0)))) 42 0 (v 42 0 + 1)) p (nI (e + tb)) := by
  obtain ⟨ok, c, r, t1, t2, t3, t4, t5, t6, c1, c2, c3, c4⟩ := id h
  have o7 := ok.2.2.2.1
  have g97 : ∀ {α : Type} (x : Option α), gd 97 98 x = x := fun x => gd_n (k := 97) (by decide) (by decide)
  have i97 : ix 97 = 97 := ix_n (k := 97) (by decide)
  have e1 : jrem (25173 * v 0 97 + 13849) 65536 = nI (nextX (N 7 0)) := by
    rw [r.2.1, show (25173 : Int32) = nI 25173 from rfl, show (13849 : Int32) = nI 13849 from rfl, pk_mul, nI_add, show (65536 : Int32) = nI 65536 from rfl, rem_n (by omega) (by decide) (by decide)]; rfl
  have hd : nextX (N 7 0) % 10 < 10 := Nat.mod_lt _ (by decide)
  have e2 : jrem (st v 0 97 (nI (nextX (N 7 0))) 0 97) 10 = nI (nextX (N 7 0) % 10) := by
    rw [st_s, upd_s, show (10 : Int32) = nI 10 from rfl, rem_n (by unfold nextX; omega) (by decide) (by decide)]
  unfold fX12_turnOf_J175
  rw [g97, g97, i97, e1, lett_s, g97, e2]
  have sd : (nI b ≤ nI (nextX (N 7 0) % 10)) ↔ b ≤ nextX (N 7 0) % 10 := nI_leI (by omega) (by omega)
  by_cases q : b ≤ nextX (N 7 0) % 10
  · rw [if_pos (sd.mpr q), if_pos q]
  · rw [if_neg (fun e => q (sd.mp e)), if_neg q, lett_s, lett_s, show st v 0 97 (nI (nextX (N 7 0))) 4 0 = nI tb from t6, nI_add]
    rfl
