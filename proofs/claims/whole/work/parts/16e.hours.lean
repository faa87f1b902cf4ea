/-! ===== the hours ===== -/
theorem HR_cong {N : Nat → Nat → Nat} {ta tb : Nat} {ro w v v2 : St} (h : HR N ta tb ro w v) (e0 : v2 0 = v 0) (e3 : v2 3 = v 3) (e4 : v2 4 = v 4) (e39 : v2 39 = v 39) (e40 : v2 40 = v 40) (e41 : v2 41 = v 41) (e42 : v2 42 = v 42) : HR N ta tb ro w v2 := by
  unfold HR at *
  rw [e0, e3, e4, e39, e40, e41, e42]; exact h
theorem HR_VFr {N : Nat → Nat → Nat} {ta tb : Nat} {ro w v v2 : St} (h : HR N ta tb ro w v) (f : VFr v v2) : HR N ta tb ro w v2 := HR_cong h (f 0 (by decide)) (f 3 (by decide)) (f 4 (by decide)) (f 39 (by decide)) (f 40 (by decide)) (f 41 (by decide)) (f 42 (by decide))
theorem HFr_V {v0 v v2 : St} (h : HFr v0 v) (f : VFr v v2) : HFr v0 v2 := fun k h0 h1 h2 h3 h4 h5 h6 => (f k h1).trans (h k h0 h1 h2 h3 h4 h5 h6)
theorem HFr_28 {v0 v v2 : St} (h : HFr v0 v) (f : ∀ k, k ≠ 28 → v2 k = v k) : HFr v0 v2 := fun k h0 h1 h2 h3 h4 h5 h6 => (f k h2).trans (h k h0 h1 h2 h3 h4 h5 h6)
theorem HFr_t {v0 v v2 : St} (h : HFr v0 v) (f : HFr v v2) : HFr v0 v2 := fun k h0 h1 h2 h3 h4 h5 h6 => (f k h0 h1 h2 h3 h4 h5 h6).trans (h k h0 h1 h2 h3 h4 h5 h6)
theorem oh_n {N : Nat → Nat → Nat} {w : St} (c : WkC N w) {p : Nat} (hp : p < 16) : fX9_othersHere w (nI p) = nI (ndiff (ndiff (N 4 0) (N 5 0)) (2 ^ p)) := by
  unfold fX9_othersHere fX9_here
  rw [lett_s, c.1, c.2.1, ndiff_eq, shl1 p (by omega), ndiff_eq]
theorem go_n {n c : Nat} {K A B E S O : Nat → Nat} {N : Nat → Nat → Nat} {ta tb : Nat} {ro w lw v : St} (h : LRn n c K A B E S O lw v) (hf : ∀ j, j < 8 → lw 8 j = v 28 j) (hr : HR N ta tb ro w v) {p : Nat} (hp : p < 16) (ht : (N 4 0).testBit p = true) : ∃ N' ro' w' lw' v', ((fX7_onScale ro w lw (nI p)).bind fun z12 => (fX7_cross z12.2.1 z12.2.2.1 (nI p) z12.1).bind fun z13 => some (z13.1, z13.2, z12.2.2.2)) = some (ro', w', lw') ∧ ((fX12_byLaw v 102 15 (-1)).bind fun z19 => (fX12_byLaw z19.2 101 999 0).bind fun z20 => (fX12_byLaw z20.2 98 10 0).bind fun z21 => if z19.1 = (-1) then fX12_turnOf_J175 z21.2 (nI p) z20.1 z21.1 else if z19.1 = (nI p) then fX12_turnOf_J175 z21.2 (nI p) z20.1 z21.1 else (fX12_isHere z21.2 z19.1).bind fun z24 => if z24 = 0 then fX12_turnOf_J175 z21.2 (nI p) z20.1 z21.1 else gd (16 + z19.1) 98 <| lett (z20.1 + (z21.2 0 (ix (16 + z19.1)))) fun t26 => fX12_turnOf_J175 z21.2 (nI p) t26 z21.1) = some v' ∧ HR N' ta tb ro' w' v' ∧ N' 4 0 = N 4 0 ∧ N' 6 0 = N 6 0 ∧ LFr lw lw' ∧ HFr v v' := by
  obtain ⟨oe, oe1, oe2, oe3⟩ := say_all h hf (κ := 101) (hi := 999) (by decide) (by decide) (by decide) (by decide)
  obtain ⟨of, of1, of2, of3⟩ := say_all h hf (κ := 102) (hi := 15) (by decide) (by decide) (by decide) (by decide)
  obtain ⟨ob, ob1, ob2, ob3⟩ := say_all h hf (κ := 98) (hi := 10) (by decide) (by decide) (by decide) (by decide)
  obtain ⟨lw1, l1, a1⟩ := oe2 lw (LFr_rfl _)
  obtain ⟨lw2, l2, a2⟩ := of2 lw1 l1
  obtain ⟨lw3, l3, a3⟩ := ob2 lw2 l2
  obtain ⟨v1, v1f, b1⟩ := of3 v (VFr_rfl _) (-1)
  obtain ⟨v2, v2f, b2⟩ := oe3 v1 v1f 0
  obtain ⟨v3, v3f, b3⟩ := ob3 v2 v2f 0
  have hr3 := HR_VFr hr v3f
  have he := getD_le oe1
  have hbb := getD_le ob1
  obtain ⟨ok, wc, wr, t1, t2, t3, t4, t5, t6, c1, c2, c3, c4⟩ := id hr3
  rw [show fX12_byLaw v 102 15 (-1) = _ from b1, sbind]
  dsimp only
  rw [show fX12_byLaw v1 101 999 0 = _ from b2, sbind]
  dsimp only
  rw [show fX12_byLaw v2 98 10 0 = _ from b3, sbind]
  dsimp only
  rw [optI_0, optI_0]
  have key : ∀ (fw : Nat) (x5 y : Int32) (R : Option St), ((y = 0 ∧ fw = 0) ∨ ∃ f, f < 16 ∧ y = 1 ∧ x5 = nI f ∧ fw = N 0 f) → fX7_onScale ro w lw (nI p) = fX7_onScale_J51 ro w lw2 (nI (oe.getD 0)) x5 y → R = fX12_turnOf_J175 v3 (nI p) (nI (oe.getD 0 + fw)) (nI (ob.getD 0)) → ∃ N' ro' w' lw' v', ((fX7_onScale ro w lw (nI p)).bind fun z12 => (fX7_cross z12.2.1 z12.2.2.1 (nI p) z12.1).bind fun z13 => some (z13.1, z13.2, z12.2.2.2)) = some (ro', w', lw') ∧ R = some v' ∧ HR N' ta tb ro' w' v' ∧ N' 4 0 = N 4 0 ∧ N' 6 0 = N 6 0 ∧ LFr lw lw' ∧ HFr v v' := by
    intro fw x5 y R hy eA eB
    have hfw : fw ≤ 999 := by
      rcases hy with ⟨-, q⟩ | ⟨f, f1, -, -, q⟩
      · omega
      · have := (ok.2.2.2.2 f f1).1; omega
    rw [eA, eB, scA hr3 ob1 a3 hy, scB hr3 (nI p) hbb]
    by_cases q : ob.getD 0 ≤ nextX (N 7 0) % 10
    · rw [if_pos q, if_pos q, sbind]
      dsimp only
      obtain ⟨N', ro', w', v', x1, x2, x3, x4, x5, x6⟩ := cross_n (HR_lot hr3) (L := oe.getD 0 + fw) hp ht (by omega)
      refine ⟨N', ro', w', lw3, v', ?_, ?_, x3, x4, x5, l3, HFr_t (HFr_0 (HFr_V (HFr_rfl v) v3f)) x6⟩
      · rw [x1, sbind]
      · unfold fX12_turnOf_J235
        rw [x2, sbind]
    · rw [if_neg q, if_neg q, sbind]
      dsimp only
      obtain ⟨N', ro', w', v', x1, x2, x3, x4, x5, x6⟩ := cross_n (HR_lot1 hr3) (L := oe.getD 0 + fw + tb) hp ht (by omega)
      refine ⟨N', ro', w', lw3, v', ?_, ?_, x3, x4, x5, l3, HFr_t (HFr_42 (HFr_0 (HFr_V (HFr_rfl v) v3f))) x6⟩
      · rw [x1, sbind]
      · unfold fX12_turnOf_J235
        rw [x2, sbind]
  have pre : fX7_onScale ro w lw (nI p) = (fX11_isWalker (optI (-1) of)).bind fun z12 => if z12 = 0 then fX7_onScale_J50 ro w lw2 (nI (oe.getD 0)) (optI (-1) of) else lett (fX9_othersHere w (nI p)) fun z14 => lett (fX11_has z14 (optI (-1) of)) fun z15 => if z15 = 0 then fX7_onScale_J50 ro w lw2 (nI (oe.getD 0)) (optI (-1) of) else fX7_onScale_J51 ro w lw2 (nI (oe.getD 0)) (optI (-1) of) 1 := by
    unfold fX7_onScale
    rw [show fX2_say lw 101 999 = _ from a1, sbind]
    dsimp only
    rw [optI_m oe1 (by decide), lett_s, show fX2_say lw1 102 15 = _ from a2, sbind]
  cases of with
  | none =>
    refine key 0 (-1) 0 _ (Or.inl ⟨rfl, rfl⟩) ?_ ?_
    · rw [pre, show optI (-1) none = -1 from rfl, isWalker_eq, sbind, show fX12_in (-1) 0 15 = 0 from by decide, if_pos rfl]
      rfl
    · rw [show optI (-1) none = -1 from rfl, if_pos rfl, Nat.add_zero]
  | some f =>
    have hf15 := of1 f rfl
    have hf16 : f < 16 := by omega
    have o4 := ok.1
    have ndl : ndiff (ndiff (N 4 0) (N 5 0)) (2 ^ p) < 65536 := Nat.lt_of_le_of_lt (ndiff_le _ _) (Nat.lt_of_le_of_lt (ndiff_le _ _) o4)
    have pre2 : fX7_onScale ro w lw (nI p) = if ((N 4 0).testBit f && !(N 5 0).testBit f && !decide (p = f)) = false then fX7_onScale_J51 ro w lw2 (nI (oe.getD 0)) (nI f) 0 else fX7_onScale_J51 ro w lw2 (nI (oe.getD 0)) (nI f) 1 := by
      rw [pre, show optI (-1) (some f) = nI f from rfl, isWalker_eq, sbind, show fX12_in (nI f) 0 15 = 1 from in_n (a := 0) (b := 15) rfl rfl (by omega) hf15 (by decide), if_neg (by decide), lett_s, lett_s, oh_n wc hp, has11_n (by omega) (by omega), bit_not (by omega), ndiff_bit (by omega)]
      cases ((N 4 0).testBit f && !(N 5 0).testBit f && !decide (p = f))
      · rw [if_pos (by decide), if_pos rfl]; rfl
      · rw [if_neg (by decide), if_neg (by decide)]
    have nm1 : ¬ nI f = -1 := fun e => by
      have := nI_toInt (n := f) (by omega)
      rw [e] at this
      exact absurd this (by rw [show (-1 : Int32).toInt = -1 from by decide]; omega)
    rw [show optI (-1) (some f) = nI f from rfl, if_neg nm1]
    by_cases fp : f = p
    · subst fp
      rw [if_pos rfl]
      refine key 0 (nI f) 0 _ (Or.inl ⟨rfl, rfl⟩) ?_ (by rw [Nat.add_zero])
      rw [pre2, if_pos (by simp)]
    · rw [if_neg (fun e => fp ((nI_eq (by omega) (by omega)).mp e)), isHere_n wr hf16, sbind]
      have pf : decide (p = f) = false := decide_eq_false (fun e => fp e.symm)
      rw [pf, Bool.not_false, Bool.and_true] at pre2
      cases hq : ((N 4 0).testBit f && !(N 5 0).testBit f)
      · rw [hq, if_pos rfl] at pre2
        rw [if_pos (by decide)]
        exact key 0 (nI f) 0 _ (Or.inl ⟨rfl, rfl⟩) pre2 (by rw [Nat.add_zero])
      · rw [hq, if_neg (by decide)] at pre2
        rw [if_neg (by decide), a16, gd_n (by omega) (by decide), lett_s, ix_n (by omega), (wr.2.2 f hf16).2.1, nI_add]
        exact key (N 0 f) (nI f) 1 _ (Or.inr ⟨f, hf16, rfl, rfl, rfl⟩) pre2 rfl
theorem HR_w {N : Nat → Nat → Nat} {ta tb : Nat} {ro w v : St} (h : HR N ta tb ro w v) {p x : Nat} (hp : p < 16) (h1 : 1 ≤ x) (h2 : x ≤ 999) : HR (nset N 0 p x) ta tb ro (st w 0 p (nI x)) (st v 0 (16 + p) (nI x)) := by
  obtain ⟨ok, c, r, t1, t2, t3, t4, t5, t6, c1, c2, c3, c4⟩ := h
  exact ⟨WkOk_w ok h1 h2, WkC_set c 0 p _, WkR_a0 r hp x, t1, t2, t3, t4, t5, t6, c1, c2, c3, c4⟩
theorem HR_0 {N : Nat → Nat → Nat} {ta tb : Nat} {ro w v : St} (h : HR N ta tb ro w v) {p : Nat} (hp : p < 16) : HR (nset N 5 0 (ndiff (N 5 0) (2 ^ p))) ta tb ro (st w 5 0 (nI (ndiff (N 5 0) (2 ^ p)))) (st v 0 (48 + p) 0) := by
  obtain ⟨ok, c, r, t1, t2, t3, t4, t5, t6, c1, c2, c3, c4⟩ := h
  exact ⟨WkOk_0 ok, WkC_set c 5 0 _, WkR_ov0 r hp, t1, t2, t3, t4, t5, t6, c1, c2, c3, c4⟩
theorem HR_hour {N : Nat → Nat → Nat} {ta tb : Nat} {ro w v : St} (h : HR N ta tb ro w v) (h6 : N 6 0 ≤ 9998) : HR (nset N 6 0 (N 6 0 + 1)) ta tb ro (st w 6 0 (nI (N 6 0 + 1))) (st v 0 96 (nI (N 6 0 + 1))) := by
  obtain ⟨ok, c, r, t1, t2, t3, t4, t5, t6, c1, c2, c3, c4⟩ := h
  refine ⟨⟨ok.1, ok.2.1, ?_, ok.2.2.2.1, ok.2.2.2.2⟩, WkC_set c 6 0 _, WkR_hour r _, t1, t2, t3, t4, t5, t6, c1, c2, c3, c4⟩
  rw [nset_s]; omega
theorem FV_w {N : Nat → Nat → Nat} {p x j : Nat} (hj : j ≠ 1) : FV (nset N 0 p x) p j = FV N p j := by
  unfold FV
  rw [if_neg hj, if_neg hj]
  rfl
theorem setW_n {lw : St} {x : Int32} : fX2_setWeight lw x = some (st lw 8 1 x) := by
  unfold fX2_setWeight
  rw [show gd 1 8 = gd (α := St) (nI 1) 8 from rfl, gd_n (by decide) (by decide), lett_s, show ix 1 = 1 from ix_n (k := 1) (by decide)]
theorem turn_n {n c : Nat} {K A B E S O : Nat → Nat} {N : Nat → Nat → Nat} {ta tb : Nat} {ro w lw v : St} (h : LRn n c K A B E S O lw v) (hr : HR N ta tb ro w v) {p : Nat} (hp : p < 16) (ht : (N 4 0).testBit p = true) : ∃ N' ro' w' lw' v', fX7_visit ro w lw (nI p) = some (ro', w', lw') ∧ fX12_turnOf v (nI p) = some v' ∧ HR N' ta tb ro' w' v' ∧ N' 4 0 = N 4 0 ∧ N' 6 0 = N 6 0 ∧ (∀ k, k < 8 → lw' k = lw k) ∧ HFr v v' := by
  obtain ⟨ok, wc, wr, -⟩ := id hr
  obtain ⟨lw1, e1, f1, g1⟩ := look_n (lw := lw) ok wc hp
  obtain ⟨v1, e2, f2, g2⟩ := feels_n ok wr hp
  have h1 : LRn n c K A B E S O lw1 v1 := LRn_cong h (fun k hk => f1 k (by omega)) (f2 15 (by decide)) (f2 22 (by decide)) (f2 23 (by decide)) (f2 24 (by decide)) (f2 25 (by decide)) (f2 26 (by decide))
  have hf1 : ∀ j, j < 8 → lw1 8 j = v1 28 j := fun j hj => (g1 j hj).trans (g2 j hj).symm
  obtain ⟨om, om1, om2, om3⟩ := say_all h1 hf1 (κ := 119) (hi := 99) (by decide) (by decide) (by decide) (by decide)
  obtain ⟨ol, ol1, ol2, ol3⟩ := say_all h1 hf1 (κ := 108) (hi := 99) (by decide) (by decide) (by decide) (by decide)
  obtain ⟨lw2, l2, a2⟩ := om2 lw1 (LFr_rfl _)
  obtain ⟨lw3, l3, a3⟩ := ol2 lw2 l2
  obtain ⟨v2, m2, b2⟩ := om3 v1 (VFr_rfl _) 0
  obtain ⟨v3, m3, b3⟩ := ol3 v2 m2 0
  obtain ⟨x, x1, x2, x3⟩ := clamp_n (nI (N 0 p) + (nI (om.getD 0) - nI (ol.getD 0))) (lo := 1) (hi := 999) (by decide) (by decide)
  have cw : fX9_changeWeight w (nI p) (nI (om.getD 0) - nI (ol.getD 0)) = some (st w 0 p (nI x)) := by
    unfold fX9_changeWeight fX11_bounded
    rw [gd_n (by omega) (by decide), lett_s, gd_n (by omega) (by decide), lett_s, ix_n (by omega), (wc.2.2.2.2 p hp).1, show (1 : Int32) = nI 1 from rfl, show (999 : Int32) = nI 999 from rfl, x3]
  have v30 : v3 0 = v 0 := (m3 0 (by decide)).trans (f2 0 (by decide))
  have hr1 : HR N ta tb ro w v1 := HR_cong hr (f2 0 (by decide)) (f2 3 (by decide)) (f2 4 (by decide)) (f2 39 (by decide)) (f2 40 (by decide)) (f2 41 (by decide)) (f2 42 (by decide))
  have hr3 := HR_w (HR_VFr hr1 m3) hp x1 x2
  obtain ⟨v4, e4, f4, g4⟩ := feels_n hr3.1 hr3.2.2.1 hp
  have hr4 := HR_cong hr3 (f4 0 (by decide)) (f4 3 (by decide)) (f4 4 (by decide)) (f4 39 (by decide)) (f4 40 (by decide)) (f4 41 (by decide)) (f4 42 (by decide))
  have hfr4 : HFr v v4 := HFr_28 (HFr_0 (HFr_V (HFr_28 (HFr_rfl v) f2) m3)) f4
  have hl4 : ∀ k, k < 8 → st lw3 8 1 (nI x) k = lw k := fun k hk => by
    rw [st_i (by omega), l3 k (by omega), f1 k (by omega)]
  have h4 : LRn n c K A B E S O (st lw3 8 1 (nI x)) v4 := LRn_cong h (fun k hk => hl4 k (by omega)) (hfr4 15 (by decide) (by decide) (by decide) (by decide) (by decide) (by decide) (by decide)) (hfr4 22 (by decide) (by decide) (by decide) (by decide) (by decide) (by decide) (by decide)) (hfr4 23 (by decide) (by decide) (by decide) (by decide) (by decide) (by decide) (by decide)) (hfr4 24 (by decide) (by decide) (by decide) (by decide) (by decide) (by decide) (by decide)) (hfr4 25 (by decide) (by decide) (by decide) (by decide) (by decide) (by decide) (by decide)) (hfr4 26 (by decide) (by decide) (by decide) (by decide) (by decide) (by decide) (by decide))
  have hf4 : ∀ j, j < 8 → st lw3 8 1 (nI x) 8 j = v4 28 j := fun j hj => by
    rw [g4 j hj, st_s]
    by_cases q : j = 1
    · subst q; rw [upd_s]; exact congrArg nI (nset_s N 0 p x).symm
    · rw [upd_n q, l3 8 (by decide), g1 j hj, FV_w q]
  have vis : fX7_visit ro w lw (nI p) = if (N 5 0).testBit p = false then (fX2_anyHolds (st lw3 8 1 (nI x)) 103).bind fun z10 => if z10.1 = 0 then some (ro, st w 0 p (nI x), z10.2) else (fX7_onScale ro (st w 0 p (nI x)) z10.2 (nI p)).bind fun z12 => (fX7_cross z12.2.1 z12.2.2.1 (nI p) z12.1).bind fun z13 => some (z13.1, z13.2, z12.2.2.2) else (fX2_anyHolds (st lw3 8 1 (nI x)) 114).bind fun z14 => if z14.1 = 0 then some (ro, st w 0 p (nI x), z14.2) else some (ro, st (st w 0 p (nI x)) 5 0 (nI (ndiff (N 5 0) (2 ^ p))), z14.2) := by
    unfold fX7_visit
    rw [e1, sbind, show fX2_say lw1 119 99 = _ from a2, sbind]
    dsimp only
    rw [optI_m om1 (by decide), lett_s, show fX2_say lw2 108 99 = _ from a3, sbind]
    dsimp only
    rw [optI_m ol1 (by decide), lett_s, cw, sbind, gd_n (by omega) (by decide), ix_n (by omega), show st w 0 p (nI x) 0 p = nI x from by rw [st_s, upd_s], setW_n, sbind, lett_s, show st w 0 p (nI x) 5 0 = nI (N 5 0) from wc.2.1, has11_n (by have := ok.2.1; omega) (by omega), shl1 p (by omega), ndiff_eq]
    cases (N 5 0).testBit p
    · rw [if_pos (by decide), if_pos rfl]
    · rw [if_neg (by decide), if_neg (by decide)]
      rfl
  have trn : fX12_turnOf v (nI p) = if (N 5 0).testBit p = false then (fX12_holdsAny v4 103).bind fun z17 => if z17.1 = 0 then some z17.2 else (fX12_byLaw z17.2 102 15 (-1)).bind fun z19 => (fX12_byLaw z19.2 101 999 0).bind fun z20 => (fX12_byLaw z20.2 98 10 0).bind fun z21 => if z19.1 = (-1) then fX12_turnOf_J175 z21.2 (nI p) z20.1 z21.1 else if z19.1 = (nI p) then fX12_turnOf_J175 z21.2 (nI p) z20.1 z21.1 else (fX12_isHere z21.2 z19.1).bind fun z24 => if z24 = 0 then fX12_turnOf_J175 z21.2 (nI p) z20.1 z21.1 else gd (16 + z19.1) 98 <| lett (z20.1 + (z21.2 0 (ix (16 + z19.1)))) fun t26 => fX12_turnOf_J175 z21.2 (nI p) t26 z21.1 else (fX12_holdsAny v4 114).bind fun z28 => if z28.1 = 0 then some z28.2 else some (st z28.2 0 (48 + p) 0) := by
    unfold fX12_turnOf
    rw [e2, sbind, show fX12_byLaw v1 119 99 0 = _ from b2, sbind]
    dsimp only
    rw [show fX12_byLaw v2 108 99 0 = _ from b3, sbind]
    dsimp only
    rw [optI_0, optI_0, a16, gd_n (by omega) (by decide), lett_s, lett_s, gd_n (by omega) (by decide), lett_s, ix_n (by omega), v30, (wr.2.2 p hp).2.1, asub, max_mx, min_mn, show mx 1 (mn 999 (nI (N 0 p) + (nI (om.getD 0) - nI (ol.getD 0)))) = _ from x3, e4, sbind, a48, gd_n (by omega) (by decide), ix_n (by omega), (hr4.2.2.1.2.2 p hp).2.2.2.1, show nset N 0 p x 5 0 = N 5 0 from rfl]
    cases (N 5 0).testBit p
    · rw [if_neg (by decide), if_pos rfl]
    · rw [if_pos (by decide), if_neg (by decide)]
      simp only [gd_n (show 48 + p < 98 by omega) (show 98 < 2147483648 by decide), lett_s]
  rw [vis, trn]
  cases hq : (N 5 0).testBit p
  · rw [if_pos rfl, if_pos rfl]
    obtain ⟨β, lw5, v5, j1, j2, j3, j4⟩ := any_n h4 hf4 (κ := 103) (by decide)
    rw [show fX2_anyHolds (st lw3 8 1 (nI x)) 103 = _ from j1, show fX12_holdsAny v4 103 = _ from j2, sbind, sbind]
    dsimp only
    cases β
    · rw [if_pos (by decide), if_pos (by decide)]
      exact ⟨_, _, _, _, _, rfl, rfl, HR_VFr hr4 j4, rfl, rfl, fun k hk => (j3 k (by omega)).trans (hl4 k hk), HFr_V hfr4 j4⟩
    · rw [if_neg (by decide), if_neg (by decide)]
      obtain ⟨N', ro', w', lw', v', y1, y2, y3, y4, y5, y6, y7⟩ := go_n (LRn_fr h4 j3 j4) (fun j hj => by rw [j3 8 (by decide), j4 28 (by decide)]; exact hf4 j hj) (HR_VFr hr4 j4) hp ht
      exact ⟨N', ro', w', lw', v', y1, y2, y3, y4, y5, fun k hk => ((y6 k (by omega)).trans (j3 k (by omega))).trans (hl4 k hk), HFr_t (HFr_V hfr4 j4) y7⟩
  · rw [if_neg (by decide), if_neg (by decide)]
    obtain ⟨β, lw5, v5, j1, j2, j3, j4⟩ := any_n h4 hf4 (κ := 114) (by decide)
    rw [show fX2_anyHolds (st lw3 8 1 (nI x)) 114 = _ from j1, show fX12_holdsAny v4 114 = _ from j2, sbind, sbind]
    dsimp only
    cases β
    · rw [if_pos (by decide), if_pos (by decide)]
      exact ⟨_, _, _, _, _, rfl, rfl, HR_VFr hr4 j4, rfl, rfl, fun k hk => (j3 k (by omega)).trans (hl4 k hk), HFr_V hfr4 j4⟩
    · rw [if_neg (by decide), if_neg (by decide)]
      exact ⟨_, _, _, _, _, rfl, rfl, HR_0 (HR_VFr hr4 j4) hp, rfl, rfl, fun k hk => (j3 k (by omega)).trans (hl4 k hk), HFr_0 (HFr_V hfr4 j4)⟩
