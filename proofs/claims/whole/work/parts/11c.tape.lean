/-! ===== the tape: feed, check, what is taken off it ===== -/
def TRn (t : Nat) (c : Nat → Nat) (tp v : St) : Prop := t ≤ 260 ∧ tp 1 0 = nI t ∧ v 6 0 = nI t ∧ ∀ j, j < t → c j < 256 ∧ tp 0 j = nI (c j) ∧ v 5 j = (nI (c j)).toInt8.toInt32
theorem TR_step {t : Nat} {tp v : St} (h : ∃ c, TRn t c tp v) (ht : t < 260) (y : Int32) : ∃ c, TRn (t + 1) c (st (st tp 0 t (y &&& 255)) 1 0 (nI (t + 1))) (st (st v 5 t (vp_nar .byte (ji2b y))) 6 0 (nI (t + 1))) := by
  obtain ⟨c, h1, h2, h3, h4⟩ := h
  obtain ⟨b, hb, e⟩ := pk_andE y (m := 255) 8 rfl
  refine ⟨fun j => if j = t then b else c j, by omega, rfl, rfl, fun j hj => ?_⟩
  dsimp only
  by_cases q : j = t
  · subst q
    rw [if_pos rfl]
    refine ⟨by omega, ?_, ?_⟩
    · rw [st_i (by decide), st_s, upd_s, e]
    · rw [st_i (by decide), st_s, upd_s, ← e, fa_byte_low, pk_vb]
  · rw [if_neg q]
    obtain ⟨g1, g2, g3⟩ := h4 j (by omega)
    refine ⟨g1, ?_, ?_⟩
    · rw [st_i (by decide), st_s, upd_n q]; exact g2
    · rw [st_i (by decide), st_s, upd_n q]; exact g3
theorem app_step {n t : Nat} {tp : St} {x : Int32} {s : Nat} (h : tp 1 0 = nI t) (ht : t < 260) (hs : s ≤ 24) : fX8_append_L3 (n + 1) tp x (nI s) = fX8_append_L3 n (st (st tp 0 t (jshr x (nI s) &&& 255)) 1 0 (nI (t + 1))) x (nI s + (-8)) := by
  show bX8_append_L3 _ _ _ _ = _
  unfold bX8_append_L3
  rw [h]
  have e : st tp 0 (ix (nI t)) (jshr x (nI s) &&& 255) 1 0 = nI t := by rw [st_i (by decide)]; exact h
  rw [if_neg (nlt0 (by omega))]
  dsimp only [lett]
  rw [e]
  simp (disch := omega) only [l_0, l_1, l_2, l_3, l_4, l_5, l_6, l_7, l_8, l_9, l_10, l_11, l_12, l_15, l_16, l_20, l_24, l_32, l_37, l_38, l_40, l_41, l_42, l_43, l_45, l_47, l_48, l_57, l_59, l_60, l_61, l_62, l_63, l_64, l_80, l_91, l_93, l_96, l_97, l_98, l_99, l_100, l_101, l_102, l_103, l_108, l_110, l_114, l_119, l_120, l_124, l_200, l_240, l_255, l_256, l_260, l_999, l_1000, l_1023, l_2040, l_4080, l_6375, l_9999, l_13849, l_25173, l_65535, l_65536, l_99999, l_1000000, l_1048576, lett_s, sbind, gd_n, ix_n, nI_add, pk_mul, c_le, c_lt, c_eq, b01_0, b01_1, fa_and, fa_or, has11_n, has12_n, sub_n, div_n, rem_n, m1_n, if_pos, if_neg, if_true, if_false, reduceCtorEq, eq_self]
theorem types_step {n t : Nat} {v : St} {x : Int32} {k : Nat} (h : v 6 0 = nI t) (ht : t < 260) (hk : k ≤ 3) : fX12_types_L2 (n + 1) v x (nI k) = fX12_types_L2 n (st (st v 5 t (vp_nar .byte (ji2b (jshr x (nI (8 * k)))))) 6 0 (nI (t + 1))) x (nI k + (-1)) := by
  show bX12_types_L2 _ _ _ _ = _
  unfold bX12_types_L2
  rw [h]
  have e : ∀ y, st v 5 (ix (nI t)) y 6 0 = nI t := fun y => by rw [st_i (by decide)]; exact h
  rw [if_neg (nlt0 (by omega))]
  dsimp only [lett]
  rw [e]
  simp (disch := omega) only [l_0, l_1, l_2, l_3, l_4, l_5, l_6, l_7, l_8, l_9, l_10, l_11, l_12, l_15, l_16, l_20, l_24, l_32, l_37, l_38, l_40, l_41, l_42, l_43, l_45, l_47, l_48, l_57, l_59, l_60, l_61, l_62, l_63, l_64, l_80, l_91, l_93, l_96, l_97, l_98, l_99, l_100, l_101, l_102, l_103, l_108, l_110, l_114, l_119, l_120, l_124, l_200, l_240, l_255, l_256, l_260, l_999, l_1000, l_1023, l_2040, l_4080, l_6375, l_9999, l_13849, l_25173, l_65535, l_65536, l_99999, l_1000000, l_1048576, lett_s, sbind, gd_n, ix_n, nI_add, pk_mul, c_le, c_lt, c_eq, b01_0, b01_1, fa_and, fa_or, has11_n, has12_n, sub_n, div_n, rem_n, m1_n, if_pos, if_neg, if_true, if_false, reduceCtorEq, eq_self]
theorem app_all {t : Nat} {tp v : St} (h : ∃ c, TRn t c tp v) (ht : t ≤ 256) (x : Int32) : ∃ tp2 v2, fX8_append tp x = some tp2 ∧ fX12_types v x = some v2 ∧ (∃ c, TRn (t + 4) c tp2 v2) ∧ ∀ k, k ≠ 5 → k ≠ 6 → v2 k = v k := by
  have a1 := TR_step h (by omega) (jshr x (nI 24))
  have a2 := TR_step a1 (by omega) (jshr x (nI 16))
  have a3 := TR_step a2 (by omega) (jshr x (nI 8))
  have a4 := TR_step a3 (by omega) (jshr x (nI 0))
  refine ⟨_, _, ?_, ?_, a4, fun k h5 h6 => ?_⟩
  · show fX8_append_L3 (999995 + 1 + 1 + 1 + 1 + 1) tp x (nI 24) = _
    obtain ⟨c, h1, h2, h3⟩ := h
    rw [app_step h2 (by omega) (by omega), show nI 24 + (-8) = nI 16 from by decide, app_step rfl (by omega) (by omega), show nI 16 + (-8) = nI 8 from by decide, app_step rfl (by omega) (by omega), show nI 8 + (-8) = nI 0 from by decide, app_step rfl (by omega) (by omega)]
    rfl
  · show fX12_types_L2 (999995 + 1 + 1 + 1 + 1 + 1) v x (nI 3) = _
    obtain ⟨c, h1, h2, h3, h4⟩ := h
    rw [types_step h3 (by omega) (by omega), show nI 3 + (-1) = nI 2 from by decide, types_step rfl (by omega) (by omega), show nI 2 + (-1) = nI 1 from by decide, types_step rfl (by omega) (by omega), show nI 1 + (-1) = nI 0 from by decide, types_step rfl (by omega) (by omega)]
    rfl
  · rw [st_i h6, st_i h5, st_i h6, st_i h5, st_i h6, st_i h5, st_i h6, st_i h5]
theorem eq_feed (g : Nat → St) (w : Nat → Int64) (v : St) (hr : Rel g v) (p1 p2 p3 p4 p5 : Int32) : ∃ (z : Int32 × St) (y : Int32 × St), fX11_feed (g 1) p1 p2 p3 p4 p5 = some z ∧ fX12_feed v p1 p2 p3 p4 p5 = some y ∧ z.1 = y.1 ∧ Rel (sg g 1 z.2) y.2 := by
  obtain ⟨⟨t, c, ht, h2, h3, h4⟩, t2, t3, t4, t5, t6⟩ := id hr
  unfold fX11_feed fX12_feed fX8_hasRoom
  rw [h2, h3]
  by_cases hc : t ≤ 240
  · simp (disch := omega) only [l_0, l_1, l_2, l_3, l_4, l_5, l_6, l_7, l_8, l_9, l_10, l_11, l_12, l_15, l_16, l_20, l_24, l_32, l_37, l_38, l_40, l_41, l_42, l_43, l_45, l_47, l_48, l_57, l_59, l_60, l_61, l_62, l_63, l_64, l_80, l_91, l_93, l_96, l_97, l_98, l_99, l_100, l_101, l_102, l_103, l_108, l_110, l_114, l_119, l_120, l_124, l_200, l_240, l_255, l_256, l_260, l_999, l_1000, l_1023, l_2040, l_4080, l_6375, l_9999, l_13849, l_25173, l_65535, l_65536, l_99999, l_1000000, l_1048576, lett_s, sbind, gd_n, ix_n, nI_add, pk_mul, c_le, c_lt, c_eq, b01_0, b01_1, fa_and, fa_or, has11_n, has12_n, sub_n, div_n, rem_n, m1_n, if_pos, if_neg, if_true, if_false, reduceCtorEq, eq_self]
    obtain ⟨b1, u1, e1, f1, i1, k1⟩ := app_all ⟨c, ht, h2, h3, h4⟩ (by omega) p1
    obtain ⟨b2, u2, e2, f2, i2, k2⟩ := app_all i1 (by omega) p2
    obtain ⟨b3, u3, e3, f3, i3, k3⟩ := app_all i2 (by omega) p3
    obtain ⟨b4, u4, e4, f4, i4, k4⟩ := app_all i3 (by omega) p4
    obtain ⟨b5, u5, e5, f5, i5, k5⟩ := app_all i4 (by omega) p5
    rw [e1, f1, sbind, sbind, e2, f2, sbind, sbind, e3, f3, sbind, sbind, e4, f4, sbind, sbind, e5, f5, sbind, sbind]
    have k : ∀ k, k ≠ 5 → k ≠ 6 → u5 k = v k := fun k h5 h6 => by rw [k5 k h5 h6, k4 k h5 h6, k3 k h5 h6, k2 k h5 h6, k1 k h5 h6]
    obtain ⟨c5, i6, i7, i8, i9⟩ := i5
    refine ⟨_, _, rfl, rfl, i7.trans i8.symm, ⟨_, c5, i6, i7, i8, i9⟩, ?_, ?_, ?_, ?_, ?_⟩
    · show WR (g 3) (u5 0); rw [k 0 (by decide) (by decide)]; exact t2
    · exact KR_ref t3 (k 51 (by decide) (by decide)) (k 2 (by decide) (by decide))
    · exact RR_ref t4 (k 3 (by decide) (by decide)) (k 4 (by decide) (by decide))
    · exact LR_ref t5 (k 15 (by decide) (by decide)) (k 22 (by decide) (by decide)) (k 23 (by decide) (by decide)) (k 24 (by decide) (by decide)) (k 25 (by decide) (by decide)) (k 26 (by decide) (by decide))
    · exact VR_ref t6 (k 36 (by decide) (by decide)) (k 30 (by decide) (by decide)) (k 31 (by decide) (by decide)) (k 32 (by decide) (by decide))
  · simp (disch := omega) only [l_0, l_1, l_2, l_3, l_4, l_5, l_6, l_7, l_8, l_9, l_10, l_11, l_12, l_15, l_16, l_20, l_24, l_32, l_37, l_38, l_40, l_41, l_42, l_43, l_45, l_47, l_48, l_57, l_59, l_60, l_61, l_62, l_63, l_64, l_80, l_91, l_93, l_96, l_97, l_98, l_99, l_100, l_101, l_102, l_103, l_108, l_110, l_114, l_119, l_120, l_124, l_200, l_240, l_255, l_256, l_260, l_999, l_1000, l_1023, l_2040, l_4080, l_6375, l_9999, l_13849, l_25173, l_65535, l_65536, l_99999, l_1000000, l_1048576, lett_s, sbind, gd_n, ix_n, nI_add, pk_mul, c_le, c_lt, c_eq, b01_0, b01_1, fa_and, fa_or, has11_n, has12_n, sub_n, div_n, rem_n, m1_n, if_pos, if_neg, if_true, if_false, reduceCtorEq, eq_self]
    exact ⟨_, _, rfl, rfl, rfl, hr⟩

/-! ===== what is taken off the tape ===== -/
theorem oct_b : ∀ c, c < 256 → (nI c).toInt8.toInt32 &&& 255 = nI c := by decide +kernel
theorem octet_n {v : St} {k c : Nat} (h : v 5 k = (nI c).toInt8.toInt32) (hc : c < 256) (hk : k < 260) : fX12_octet v (nI k) = some (nI c) := by
  unfold fX12_octet
  rw [gd_n hk (by decide), ix_n (by omega), h, oct_b c hc]
theorem at_n {u : St} {t k : Nat} {x : Int32} (h : u 1 0 = nI t) (ht : t ≤ 260) (hk : k < t) (hx : u 0 k = x) : fX8_at u (nI k) = some x := by
  unfold fX8_at
  rw [if_neg (nlt0 (by omega)), h, if_neg (nI_ge hk (by omega)), gd_n (by omega) (by decide), ix_n (by omega), hx]
theorem offers_c {u : St} {t a b : Nat} (h : u 1 0 = nI t) (ht : t ≤ 260) (p lo hi : Int32) (hlo : lo = nI a) (hhi : hi = nI b) (ha : a < 1000) (hb : b < 1000) : (∃ n : Nat, a ≤ n ∧ n ≤ b ∧ n ≤ t ∧ p = nI n ∧ fX8_offers u p lo hi = 1 ∧ fX12_in p lo hi = 1 ∧ p ≤ nI t) ∨ (fX8_offers u p lo hi = 0 ∧ (fX12_in p lo hi = 0 ∨ fX12_in p lo hi = 1 ∧ ¬ p ≤ nI t)) := by
  rcases in_cases p lo hi a b hlo hhi (by omega) (by omega) with ⟨n, h1, h2, rfl, e⟩ | e
  · by_cases c : n ≤ t
    · left
      refine ⟨n, h1, h2, c, rfl, ?_, e, (nI_leI (by omega) (by omega)).mpr c⟩
      unfold fX8_offers; dsimp only [lett]
      rw [within_eq, e, if_neg (by decide), h, if_neg (nI_nlt c (by omega))]
    · right
      refine ⟨?_, Or.inr ⟨e, fun q => c ((nI_leI (by omega) (by omega)).mp q)⟩⟩
      unfold fX8_offers; dsimp only [lett]
      rw [within_eq, e, if_neg (by decide), h, if_pos (nI_lt (by omega) (by omega))]
  · right
    refine ⟨?_, Or.inl e⟩
    unfold fX8_offers; dsimp only [lett]
    rw [within_eq, e, if_pos rfl]
theorem st_sa (u : St) (k : Nat) (f : Nat → Int32) (j : Nat) (x : Int32) : st (sa u k f) k j x = sa u k (upd f j x) := by
  funext a
  unfold st sa
  by_cases h : a = k
  · rw [if_pos h, if_pos h, if_pos rfl]
  · rw [if_neg h, if_neg h, if_neg h]
/-- what stands on the pans after a taking -/
def Pn (n : Nat) (c : Nat → Nat) (pa : St) : Prop := n ≤ 16 ∧ pa 3 0 = nI n ∧ ∀ k, k < n → c k < 256 ∧ pa 0 k = nI (c k)
theorem take_n {t n : Nat} {c : Nat → Nat} {tp v pa : St} (h : TRn t c tp v) (hn : n ≤ t) (hn2 : n ≤ 16) : ∃ pa2, fX5_take pa tp (nI n) = some (pa2, st tp 1 0 0) ∧ Pn n c pa2 := by
  obtain ⟨h1, h2, h3, h4⟩ := h
  have e : fX5_take_L12 FU (sa (st pa 3 0 (nI n)) 0 (fa_fill (tp 0) (pa 0) 0)) tp (nI 0) = some (sa (st pa 3 0 (nI n)) 0 (fa_fill (tp 0) (pa 0) n), st tp 1 0 0) := by
    refine for_all (fun m (s : St) k => fX5_take_L12 m s tp (nI k)) n (fun k => sa (st pa 3 0 (nI n)) 0 (fa_fill (tp 0) (pa 0) k)) _ (fun m => ?_) (fun m k hk => ?_) (by omega)
    · show bX5_take_L12 _ _ _ _ = _
      unfold bX5_take_L12
      rw [sa_i (by decide), st_s, upd_s, if_pos (nI_le (Nat.le_refl n) (by omega))]; rfl
    · show bX5_take_L12 _ _ _ _ = fX5_take_L12 m _ _ _
      unfold bX5_take_L12; dsimp only [lett]
      rw [sa_i (by decide), st_s, upd_s, if_neg (nI_ge hk (by omega)), at_n h2 h1 (by omega) rfl, sbind, gd_n (by omega) (by decide), ix_n (by omega), st_sa, fa_fill_succ, n1]
  refine ⟨sa (st pa 3 0 (nI n)) 0 (fa_fill (tp 0) (pa 0) n), ?_, hn2, ?_, fun k hk => ⟨(h4 k (by omega)).1, ?_⟩⟩
  · unfold fX5_take; dsimp only [lett]
    have em : mn (nI n) 16 = nI n := by
      unfold mn
      rw [if_neg (show ¬ (16 : Int32) < nI n from nI_nlt (b := n) hn2 (by decide))]
    rw [em]
    rw [fa_fill_0] at e
    have es : sa (st pa 3 0 (nI n)) 0 (pa 0) = st pa 3 0 (nI n) := by
      funext a
      by_cases q : a = 0
      · subst q; rfl
      · exact sa_i q
    rw [es] at e
    exact e
  · rw [sa_i (by decide), st_s, upd_s]
  · rw [sa_s, fa_fill_in hk]; exact (h4 k (by omega)).2.1
/-- the reference's words that the relation speaks of, the tape's apart -/
def Kp (v v2 : St) : Prop := v2 0 = v 0 ∧ v2 51 = v 51 ∧ v2 2 = v 2 ∧ v2 3 = v 3 ∧ v2 4 = v 4 ∧ v2 15 = v 15 ∧ v2 22 = v 22 ∧ v2 23 = v 23 ∧ v2 24 = v 24 ∧ v2 25 = v 25 ∧ v2 26 = v 26 ∧ v2 36 = v 36 ∧ v2 30 = v 30 ∧ v2 31 = v 31 ∧ v2 32 = v 32
theorem Kp_rfl (v : St) : Kp v v := ⟨rfl, rfl, rfl, rfl, rfl, rfl, rfl, rfl, rfl, rfl, rfl, rfl, rfl, rfl, rfl⟩
theorem Rel_clear {g : Nat → St} {v v2 tp pa : St} (hr : Rel g v) (h1 : tp 1 0 = nI 0) (h2 : v2 6 0 = nI 0) (k : Kp v v2) : Rel (sg (sg g 1 tp) 11 pa) v2 := by
  obtain ⟨e0, e51, e2, e3, e4, e15, e22, e23, e24, e25, e26, e36, e30, e31, e32⟩ := k
  obtain ⟨t1, t2, t3, t4, t5, t6⟩ := hr
  refine ⟨⟨0, fun _ => 0, by omega, h1, h2, fun j hj => by omega⟩, ?_, KR_ref t3 e51 e2, RR_ref t4 e3 e4, LR_ref t5 e15 e22 e23 e24 e25 e26, VR_ref t6 e36 e30 e31 e32⟩
  show WR (g 3) (v2 0)
  rw [e0]; exact t2
theorem max_mx (a b : Int32) : fX12_max a b = mx a b := by
  unfold fX12_max mx
  by_cases h : a < b
  · rw [if_pos h]; first | rw [if_pos (fa_of_lt h).1] | rw [if_neg (fa_of_lt h).2.2.1]
  · rw [if_neg h]
    by_cases q : a = b
    · subst q; simp
    · have : b < a := fa_le_ne (fa_of_nlt h) (fun e => q e.symm)
      first | rw [if_neg (fa_of_lt this).2.1] | rw [if_pos this]
theorem min_mn (a b : Int32) : fX12_min a b = mn a b := by
  unfold fX12_min mn
  by_cases h : b < a
  · rw [if_pos h]; first | rw [if_pos (fa_of_lt h).1] | rw [if_neg (fa_of_lt h).2.2.1]
  · rw [if_neg h]
    by_cases q : a = b
    · subst q; simp
    · have : a < b := fa_le_ne (fa_of_nlt h) q
      first | rw [if_neg (fa_of_lt this).2.1] | rw [if_pos this]
