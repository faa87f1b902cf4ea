/-! ===== conditions: what the reference lands, ends, jumps ===== -/
def LL (k f : Nat) (v : St) : Option (Int32 × St) := fX12_readsCondition_L92 (fX12_readsCondition_L40 k) f v
def EP (e k f : Nat) (v : St) : Option (Int32 × St) := (fX12_endsPiece_L0 e v).bind fun z => LL k f z
/-- the reference behind a test: jumps that the class has led here already wait still, above w -/
def Hc (n : Nat) (c : Nat → Nat) (i m : Nat) (S O : Nat → Nat) (w op lo po jo pn jn : Nat) (v : St) : Prop := TxR n c v ∧ v 7 0 = nI i ∧ v 11 0 = nI op ∧ po ≤ 1 ∧ pn ≤ 1 ∧ m ≤ 240 ∧ v 12 0 = nI m ∧ v 13 0 = nI (w + po + pn) ∧ (∀ j, j < m → (po = 1 → j ≠ jo) → (pn = 1 → j ≠ jn) → v 16 j = nI (1048576 * encS (S j) + O j)) ∧ (po = 1 → lo ≤ jo ∧ jo < m ∧ S jo = 124 ∧ O jo = m ∧ v 16 jo = nI (1048576 * 12 + 0) ∧ v 17 w = nI (1048576 * 12 + jo)) ∧ (pn = 1 → lo ≤ jn ∧ jn < m ∧ S jn = 38 ∧ O jn = m ∧ v 16 jn = nI (1048576 * 11 + 0) ∧ v 17 (w + po) = nI (1048576 * 11 + jn))
theorem Hc_Hs {n : Nat} {c : Nat → Nat} {i m : Nat} {S O : Nat → Nat} {w op lo jo jn : Nat} {v : St} (h : Hc n c i m S O w op lo 0 jo 0 jn v) : Hs n c i m S O w op 0 0 v := by
  obtain ⟨h1, h2, h3, h4, h5, h6, h7, h8, h9, h10, h11⟩ := h
  exact ⟨h1, h2, h3, by omega, by omega, by omega, h7, h8, fun j hj => h9 j hj (fun e => by omega) (fun e => by omega), fun e => by omega, fun e => by omega⟩
theorem Hs_Hc {n : Nat} {c : Nat → Nat} {i m : Nat} {S O : Nat → Nat} {w op : Nat} (lo jo jn : Nat) {v : St} (hm : m ≤ 240) (h : Hs n c i m S O w op 0 0 v) : Hc n c i m S O w op lo 0 jo 0 jn v := by
  obtain ⟨h1, h2, h3, h4, h5, h6, h7, h8, h9, h10, h11⟩ := h
  exact ⟨h1, h2, h3, by omega, by omega, hm, h7, h8, fun j hj _ _ => h9 j hj, fun e => by omega, fun e => by omega⟩
def LaFr (v0 v : St) : Prop := ∀ k, k ≠ 13 → k ≠ 16 → v k = v0 k
theorem LaFr_rfl (v : St) : LaFr v v := fun _ _ _ => rfl
theorem LaFr_t {a b c : St} (h : LaFr a b) (g : LaFr b c) : LaFr a c := fun k h1 h2 => (g k h1 h2).trans (h k h1 h2)
theorem QFr_La {a b c : St} (h : QFr a b) (g : LaFr b c) : QFr a c := fun k a1 a2 a3 a4 a5 a6 a7 a8 => (g k a6 a7).trans (h k a1 a2 a3 a4 a5 a6 a7 a8)
theorem dec_d' {e o : Nat} (he : e ≤ 14) (ho : o < 1048576) : nI (1048576 * e + o) / 1048576 = nI e := by
  rw [show (1048576 : Int32) = nI 1048576 from rfl, div_n (by omega) (by decide) (by decide), show (1048576 * e + o) / 1048576 = e by omega]
theorem dec_r' {e o : Nat} (he : e ≤ 14) (ho : o < 1048576) : jrem (nI (1048576 * e + o)) 1048576 = nI o := by
  rw [show (1048576 : Int32) = nI 1048576 from rfl, rem_n (by omega) (by decide) (by decide), show (1048576 * e + o) % 1048576 = o by omega]
/-- one jump is led here -/
theorem J22_n {v : St} {W j e m : Nat} (h13 : v 13 0 = nI (W + 1)) (hW : W ≤ 250) (h17 : v 17 W = nI (1048576 * e + j)) (he : e ≤ 14) (hj : j < 240) (h16 : v 16 j = nI (1048576 * e + 0)) (h12 : v 12 0 = nI m) (lp : St → Int32 → Option St) (x : Int32) : fX12_lands_J22 lp v x = lp (st (st v 16 j (nI (1048576 * e + m))) 13 0 (nI W)) x := by
  unfold fX12_lands_J22
  rw [h13, tps, gd_n (by omega) (by decide), ix_n (by omega), h17, dec_r' he (by omega), lett_s, gd_n (by omega) (by decide), gd_n (by omega) (by decide), ix_n (by omega), h16, h12, dec_d' he (by decide), show (1048576 : Int32) * nI e = nI (1048576 * e) from pk_mul 1048576 e, nI_add, lett_s, show st v 16 j (nI (1048576 * e + m)) 13 0 = nI (W + 1) from h13, tps, lett_s]
theorem lands_n {n : Nat} {c : Nat → Nat} {i m : Nat} {S O : Nat → Nat} {w op lo jo jn : Nat} {v : St} (h : Hc n c i m S O w op lo 0 jo 1 jn v) (hw : w ≤ 245) (f : Nat) (x : Int32) : ∃ v', fX12_lands_L0 (f + 1) v x = fX12_lands_L0 f v' x ∧ Hc n c i m S O w op lo 0 jo 0 jn v' ∧ LaFr v v' := by
  obtain ⟨h1, h2, h3, h4, h5, h6, h7, h8, h9, h10, h11⟩ := id h
  obtain ⟨q1, q2, q3, q4, q5, q6⟩ := h11 rfl
  refine ⟨st (st v 16 jn (nI (1048576 * 11 + m))) 13 0 (nI w), ?_, ⟨TxR_c h1 rfl rfl, h2, h3, by omega, by omega, h6, h7, rfl, fun j hj _ _ => ?_, fun e => by omega, fun e => by omega⟩, fun k a b => by rw [st_i a, st_i b]⟩
  · show bX12_lands_L0 _ _ _ = _
    unfold bX12_lands_L0
    rw [top_n h8 (by omega) q6 (by decide) (by omega), sbind, if_pos (by decide), J22_n h8 (by omega) q6 (by decide) (by omega) q5 h7]
  · show upd (v 16) jn _ j = _
    by_cases q : j = jn
    · subst q; rw [upd_s, q3, q4]; rfl
    · rw [upd_n q]; exact h9 j hj (fun e => by omega) (fun _ => q)
theorem lands_c {n : Nat} {c : Nat → Nat} {i m : Nat} {S O : Nat → Nat} {w op lo jo jn : Nat} {v : St} (h : Hc n c i m S O w op lo 1 jo 1 jn v) (hne : jo ≠ jn) (hw : w ≤ 245) (f : Nat) (x : Int32) : ∃ v', fX12_lands_L0 (f + 1) v x = fX12_lands_L0 f v' x ∧ Hc n c i m S O w op lo 1 jo 0 jn v' ∧ LaFr v v' := by
  obtain ⟨h1, h2, h3, h4, h5, h6, h7, h8, h9, h10, h11⟩ := id h
  obtain ⟨q1, q2, q3, q4, q5, q6⟩ := h11 rfl
  obtain ⟨o1, o2, o3, o4, o5, o6⟩ := h10 rfl
  refine ⟨st (st v 16 jn (nI (1048576 * 11 + m))) 13 0 (nI (w + 1)), ?_, ⟨TxR_c h1 rfl rfl, h2, h3, by omega, by omega, h6, h7, rfl, fun j hj a _ => ?_, fun e => ⟨o1, o2, o3, o4, ?_, o6⟩, fun e => by omega⟩, fun k a b => by rw [st_i a, st_i b]⟩
  · show bX12_lands_L0 _ _ _ = _
    unfold bX12_lands_L0
    rw [top_n h8 (by omega) q6 (by decide) (by omega), sbind, if_pos (by decide), J22_n h8 (by omega) q6 (by decide) (by omega) q5 h7]
  · show upd (v 16) jn _ j = _
    by_cases q : j = jn
    · subst q; rw [upd_s, q3, q4]; rfl
    · rw [upd_n q]; exact h9 j hj a (fun _ => q)
  · show upd (v 16) jn _ jo = _
    rw [upd_n hne]; exact o5
theorem lands_o {n : Nat} {c : Nat → Nat} {i m : Nat} {S O : Nat → Nat} {w op lo jo jn : Nat} {v : St} (h : Hc n c i m S O w op lo 1 jo 0 jn v) (hw : w ≤ 245) (f : Nat) : ∃ v', fX12_lands_L0 (f + 1) v 1 = fX12_lands_L0 f v' 1 ∧ Hc n c i m S O w op lo 0 jo 0 jn v' ∧ LaFr v v' := by
  obtain ⟨h1, h2, h3, h4, h5, h6, h7, h8, h9, h10, h11⟩ := id h
  obtain ⟨o1, o2, o3, o4, o5, o6⟩ := h10 rfl
  refine ⟨st (st v 16 jo (nI (1048576 * 12 + m))) 13 0 (nI w), ?_, ⟨TxR_c h1 rfl rfl, h2, h3, by omega, by omega, h6, h7, rfl, fun j hj _ _ => ?_, fun e => by omega, fun e => by omega⟩, fun k a b => by rw [st_i a, st_i b]⟩
  · have tp := top_n h8 (by omega) o6 (by decide) (by omega)
    show bX12_lands_L0 _ _ _ = _
    unfold bX12_lands_L0
    rw [tp, sbind, if_neg (by decide), if_neg (by decide), sbind, if_pos (by decide), J22_n h8 (by omega) o6 (by decide) (by omega) o5 h7]
  · show upd (v 16) jo _ j = _
    by_cases q : j = jo
    · subst q; rw [upd_s, o3, o4]; rfl
    · rw [upd_n q]; exact h9 j hj (fun _ => q) (fun e => by omega)
/-- below w stands what no landing takes -/
def StopN (w : Nat) (v : St) : Prop := 1 ≤ w ∧ ∃ e o, v 17 (w - 1) = nI (1048576 * e + o) ∧ (e = 12 ∨ e = 13) ∧ o < 1048576
def Stop13 (w : Nat) (v : St) : Prop := 1 ≤ w ∧ v 17 (w - 1) = nI (1048576 * 13 + 0)
theorem Stop13_N {w : Nat} {v : St} (h : Stop13 w v) : StopN w v := ⟨h.1, 13, 0, h.2, Or.inr rfl, by decide⟩
theorem StopN_S {w : Nat} {v : St} (h : StopN w v) : Stop w v := by
  obtain ⟨h1, e, o, h2, h3, h4⟩ := h
  exact Or.inr ⟨e, o, h2, by omega, by omega, h4⟩
theorem StopN_w {w : Nat} {v v2 : St} (h : StopN w v) (e : ∀ j, j < w → v2 17 j = v 17 j) : StopN w v2 := by
  obtain ⟨h1, x, o, h2, h3⟩ := h
  exact ⟨h1, x, o, by rw [e (w - 1) (by omega)]; exact h2, h3⟩
theorem Stop13_w {w : Nat} {v v2 : St} (h : Stop13 w v) (e : ∀ j, j < w → v2 17 j = v 17 j) : Stop13 w v2 := ⟨h.1, by rw [e (w - 1) (by have := h.1; omega)]; exact h.2⟩
theorem top_w {v : St} {w e o : Nat} (h : v 13 0 = nI w) (h1 : 1 ≤ w) (hw : w ≤ 250) (h17 : v 17 (w - 1) = nI (1048576 * e + o)) (he : e ≤ 14) (ho : o < 1048576) : fX12_waitTop v = some (nI e) := top_n (w := w - 1) (h.trans (congrArg nI (by omega))) (by omega) h17 he ho
theorem land_0 {n : Nat} {c : Nat → Nat} {i m : Nat} {S O : Nat → Nat} {w op lo jo pn jn : Nat} {v : St} (h : Hc n c i m S O w op lo 0 jo pn jn v) (hw : w ≤ 245) (hs : StopN w v) : ∃ v', fX12_lands v 0 = some v' ∧ Hs n c i m S O w op 0 0 v' ∧ LaFr v v' := by
  have stp : ∀ (f : Nat) (v : St), Hc n c i m S O w op lo 0 jo 0 jn v → StopN w v → fX12_lands_L0 (f + 1) v 0 = some v := by
    intro f v h hs
    obtain ⟨h1, e, o, h2, h3, h4⟩ := hs
    show bX12_lands_L0 _ _ _ = _
    unfold bX12_lands_L0
    rw [top_w h.2.2.2.2.2.2.2.1 h1 (by omega) h2 (by omega) h4, sbind, if_neg (show ¬ nI e = 11 from fun q => by have := (nI_eq (b := 11) (by omega) (by omega)).mp q; omega), if_pos rfl]
  unfold fX12_lands
  by_cases q : pn = 1
  · subst q
    obtain ⟨v1, a1, a2, a3⟩ := lands_n h hw 999999 0
    exact ⟨v1, (show fX12_lands_L0 FU v 0 = _ from a1).trans (stp 999998 v1 a2 (StopN_w hs (fun j _ => by rw [a3 17 (by decide) (by decide)]))), Hc_Hs a2, a3⟩
  · have : pn = 0 := by have := h.2.2.2.2.1; omega
    subst this
    exact ⟨v, stp 999999 v h hs, Hc_Hs h, LaFr_rfl v⟩
theorem land_1 {n : Nat} {c : Nat → Nat} {i m : Nat} {S O : Nat → Nat} {w op lo po jo pn jn : Nat} {v : St} (h : Hc n c i m S O w op lo po jo pn jn v) (hne : po = 1 → pn = 1 → jo ≠ jn) (hw : w ≤ 245) (hs : Stop13 w v) : ∃ v', fX12_lands v 1 = some v' ∧ Hs n c i m S O w op 0 0 v' ∧ LaFr v v' := by
  have stp : ∀ (f : Nat) (v : St), Hc n c i m S O w op lo 0 jo 0 jn v → Stop13 w v → fX12_lands_L0 (f + 1) v 1 = some v := by
    intro f v h hs
    have tp := top_w h.2.2.2.2.2.2.2.1 hs.1 (by omega) hs.2 (by decide) (by decide)
    show bX12_lands_L0 _ _ _ = _
    unfold bX12_lands_L0
    rw [tp, sbind, if_neg (by decide), if_neg (by decide), sbind, if_neg (by decide)]
  have s17 : ∀ {a b : St}, Stop13 w a → LaFr a b → Stop13 w b := fun hs f => Stop13_w hs (fun j _ => by rw [f 17 (by decide) (by decide)])
  have mid : ∀ (f : Nat) (v : St), Hc n c i m S O w op lo po jo 0 jn v → Stop13 w v → ∃ v', fX12_lands_L0 (f + 2) v 1 = some v' ∧ Hs n c i m S O w op 0 0 v' ∧ LaFr v v' := by
    intro f v h hs
    by_cases q : po = 1
    · subst q
      obtain ⟨v1, a1, a2, a3⟩ := lands_o h hw (f + 1)
      exact ⟨v1, a1.trans (stp f v1 a2 (s17 hs a3)), Hc_Hs a2, a3⟩
    · have : po = 0 := by have := h.2.2.2.1; omega
      subst this
      exact ⟨v, stp (f + 1) v h hs, Hc_Hs h, LaFr_rfl v⟩
  unfold fX12_lands
  by_cases q : pn = 1
  · subst q
    obtain ⟨v1, a1, a2, a3⟩ : ∃ v', fX12_lands_L0 (999999 + 1) v 1 = fX12_lands_L0 999999 v' 1 ∧ Hc n c i m S O w op lo po jo 0 jn v' ∧ LaFr v v' := by
      by_cases q : po = 1
      · subst q; exact lands_c h (hne rfl rfl) hw 999999 1
      · have : po = 0 := by have := h.2.2.2.1; omega
        subst this
        exact lands_n h hw 999999 1
    obtain ⟨v2, b1, b2, b3⟩ := mid 999997 v1 a2 (s17 hs a3)
    exact ⟨v2, (show fX12_lands_L0 FU v 1 = _ from a1).trans b1, b2, LaFr_t a3 b3⟩
  · have : pn = 0 := by have := h.2.2.2.2.1; omega
    subst this
    exact mid 999998 v h hs
/-- a jump is noted and waits -/
theorem jumps_n {n : Nat} {c : Nat → Nat} {i m : Nat} {S O : Nat → Nat} {w op s e : Nat} {v : St} {x : Int32} (h : Hs n c i m S O w op 0 0 v) (hm : m < 240) (hw : w ≤ 245) (hx : x = nI e) (he : encS s = e) : ∃ v', fX12_jumps v x = some v' ∧ Hs n c (i + 1) (m + 1) (upN S m s) (upN O m 0) (w + 1) op 0 0 v' ∧ v' 17 w = nI (1048576 * e + m) ∧ (∀ j, j < w → v' 17 j = v 17 j) ∧ QFr v v' := by
  obtain ⟨h1, h2, h3, h4, h5, h6, h7, h8, h9, h10, h11⟩ := id h
  subst hx
  refine ⟨st (st (st (st (st v 17 w (nI (1048576 * e + m))) 13 0 (nI (w + 1))) 16 m (nI (1048576 * e + 0))) 12 0 (nI (m + 1))) 7 0 (nI (i + 1)), ?_, ?_, ?_, fun j hj => ?_, QFr_st (QFr_st (QFr_st (QFr_st (QFr_st (QFr_rfl v) (by omega)) (by omega)) (by omega)) (by omega)) (by omega)⟩
  · unfold fX12_jumps
    rw [show v 13 0 = nI w from h8, gd_n (by omega) (by decide), lett_s, ix_n (by omega), show v 12 0 = nI m from h7, show (1048576 : Int32) * nI e = nI (1048576 * e) from pk_mul 1048576 e, nI_add, show st v 17 w (nI (1048576 * e + m)) 13 0 = nI w from h8, n1, lett_s, notes_n (v := st (st v 17 w (nI (1048576 * e + m))) 13 0 (nI (w + 1))) (x := nI e) (y := 0) (m := m) (e := e) (o := 0) h7 (by omega) rfl rfl, sbind, show st (st (st (st v 17 w (nI (1048576 * e + m))) 13 0 (nI (w + 1))) 16 m (nI (1048576 * e + 0))) 12 0 (nI (m + 1)) 7 0 = nI i from h2, n1, lett_s]
  · refine ⟨TxR_c h1 rfl rfl, rfl, h3, by omega, by omega, by omega, rfl, rfl, fun j hj => ?_, fun e => by omega, fun e => by omega⟩
    show upd (v 16) m _ j = _
    by_cases q : j = m
    · subst q; rw [upd_s, upN_s, upN_s, he]
    · rw [upd_n q, upN_n q, upN_n q]; exact h9 j (by omega)
  · show upd (v 17) w _ w = _
    rw [upd_s]
  · show upd (v 17) w _ j = _
    rw [upd_n (by omega)]
theorem ends_s {v : St} {e : Nat} {x : Int32} (h : fX12_waitTop v = some x) (hx : ¬ x = 10) (k f : Nat) : EP (e + 1) k f v = LL k f v := by
  unfold EP
  show (bX12_endsPiece_L0 _ _).bind _ = _
  unfold bX12_endsPiece_L0
  rw [h, sbind, if_neg hx, sbind]
/-- a ! ends -/
theorem ends_n {n : Nat} {c : Nat → Nat} {i m : Nat} {S O : Nat → Nat} {w op : Nat} {v : St} (h : Hs n c i m S O (w + 1) (op + 1) 0 0 v) (hm : m < 240) (hw : w ≤ 245) (h17 : v 17 w = nI (1048576 * 10 + 0)) (e k f : Nat) : ∃ v', EP (e + 1) k f v = EP e k f v' ∧ Hs n c i (m + 1) (upN S m 33) (upN O m 0) w op 0 0 v' ∧ v' 17 = v 17 ∧ QFr v v' := by
  obtain ⟨h1, h2, h3, h4, h5, h6, h7, h8, h9, h10, h11⟩ := id h
  refine ⟨st (st (st (st v 16 m (nI (1048576 * 10 + 0))) 12 0 (nI (m + 1))) 13 0 (nI w)) 11 0 (nI op), ?_, ⟨TxR_c h1 rfl rfl, h2, rfl, by omega, by omega, by omega, rfl, rfl, fun j hj => ?_, fun e => by omega, fun e => by omega⟩, rfl, QFr_st (QFr_st (QFr_st (QFr_st (QFr_rfl v) (by omega)) (by omega)) (by omega)) (by omega)⟩
  · unfold EP
    show (bX12_endsPiece_L0 _ _).bind _ = _
    unfold bX12_endsPiece_L0
    rw [top_n h8 (by omega) h17 (by decide) (by decide), sbind, if_pos (by decide), notes_n (x := 10) (y := 0) (e := 10) (o := 0) (show v 12 0 = nI m from h7) (by omega) rfl rfl, sbind, show st (st v 16 m (nI (1048576 * 10 + 0))) 12 0 (nI (m + 1)) 13 0 = nI (w + 1) from h8, tps, lett_s, show st (st (st v 16 m (nI (1048576 * 10 + 0))) 12 0 (nI (m + 1))) 13 0 (nI w) 11 0 = nI (op + 1) from h3, tps, lett_s]
  · show upd (v 16) m _ j = _
    by_cases q : j = m
    · subst q; rw [upd_s, upN_s, upN_s]; rfl
    · rw [upd_n q, upN_n q, upN_n q]; exact h9 j (by omega)
/-- a bracket, a ! -/
theorem opens_y {n : Nat} {c : Nat → Nat} {i m : Nat} {S O : Nat → Nat} {w op e : Nat} {v : St} {x : Int32} (h : Hs n c i m S O w op 0 0 v) (hop : op < 6) (hw : w ≤ 245) (hx : x = nI e) : ∃ v', fX12_opens v x = some (1, v') ∧ Hs n c (i + 1) m S O (w + 1) (op + 1) 0 0 v' ∧ v' 17 w = nI (1048576 * e + 0) ∧ (∀ j, j < w → v' 17 j = v 17 j) ∧ QFr v v' := by
  obtain ⟨h1, h2, h3, h4, h5, h6, h7, h8, h9, h10, h11⟩ := id h
  subst hx
  refine ⟨st (st (st (st v 11 0 (nI (op + 1))) 17 w (nI (1048576 * e + 0))) 13 0 (nI (w + 1))) 7 0 (nI (i + 1)), ?_, ⟨TxR_c h1 rfl rfl, rfl, rfl, by omega, by omega, by omega, h7, rfl, h9, fun e => by omega, fun e => by omega⟩, ?_, fun j hj => ?_, QFr_st (QFr_st (QFr_st (QFr_st (QFr_rfl v) (by omega)) (by omega)) (by omega)) (by omega)⟩
  · unfold fX12_opens
    rw [h3, if_neg (show ¬ nI op = 6 from fun q => by have := (nI_eq (b := 6) (by omega) (by omega)).mp q; omega), n1, lett_s, show st v 11 0 (nI (op + 1)) 13 0 = nI w from h8, gd_n (by omega) (by decide), lett_s, ix_n (by omega), show (1048576 : Int32) * nI e = nI (1048576 * e + 0) from pk_mul 1048576 e, show st (st v 11 0 (nI (op + 1))) 17 w (nI (1048576 * e + 0)) 13 0 = nI w from h8, n1, lett_s, show st (st (st v 11 0 (nI (op + 1))) 17 w (nI (1048576 * e + 0))) 13 0 (nI (w + 1)) 7 0 = nI i from h2, n1, lett_s]
  · show upd (v 17) w _ w = _
    rw [upd_s]
  · show upd (v 17) w _ j = _
    rw [upd_n (by omega)]
theorem opens_x {v : St} {i : Nat} (h11 : v 11 0 = nI 6) (h7 : v 7 0 = nI i) (x : Int32) : fX12_opens v x = some (0, st v 9 0 (fo 5 i)) := by
  unfold fX12_opens
  rw [h11, if_pos (by decide), wrong_n (x := 5) (k := 5) h7 rfl, lett_s]
  dsimp only
  rw [zb_0]
theorem opens3_y {n : Nat} {c : Nat → Nat} {tp u : St} (tx : Tx n c tp) {i op : Nat} (h : Cu n c i 0 u) (hi : i < n) (hop : op < 6) : ∃ u', fX3_opens u tp (nI op) = some (1, u') ∧ Cu n c (i + 1) 0 u' := by
  obtain ⟨u1, e1, e2⟩ := next_n tx h hi
  refine ⟨u1, ?_, e2⟩
  unfold fX3_opens
  rw [if_pos (show nI op < 6 from nI_lt (b := 6) hop (by decide)), e1, sbind]
theorem opens3_x {tp u : St} : fX3_opens u tp (nI 6) = some (0, fX1_failHere u 5) := by
  unfold fX3_opens
  rw [if_neg (by decide), lett_s]
