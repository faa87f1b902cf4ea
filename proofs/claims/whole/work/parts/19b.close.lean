/-! ===== sums: what waits is closed ===== -/
def isPl (s : Nat) : Prop := s = 43 ∨ s = 45
def isTi (s : Nat) : Prop := s = 42 ∨ s = 47 ∨ s = 37
/-- the reference at the head of its sum's loop: of the code S, O the last et + eq steps wait still, above w -/
def Hs (n : Nat) (c : Nat → Nat) (i m : Nat) (S O : Nat → Nat) (w op et eq : Nat) (v : St) : Prop := TxR n c v ∧ v 7 0 = nI i ∧ v 11 0 = nI op ∧ et ≤ 1 ∧ eq ≤ 1 ∧ et + eq ≤ m ∧ v 12 0 = nI (m - et - eq) ∧ v 13 0 = nI (w + eq + et) ∧ (∀ j, j < m - et - eq → v 16 j = nI (1048576 * encS (S j) + O j)) ∧ (eq = 1 → isPl (S (m - 1)) ∧ O (m - 1) = 0 ∧ v 17 w = nI (1048576 * encS (S (m - 1)) + 0)) ∧ (et = 1 → isTi (S (m - 1 - eq)) ∧ O (m - 1 - eq) = 0 ∧ v 17 (w + eq) = nI (1048576 * encS (S (m - 1 - eq)) + 0))
def Stop (w : Nat) (v : St) : Prop := w = 0 ∨ ∃ e o, v 17 (w - 1) = nI (1048576 * e + o) ∧ 10 ≤ e ∧ e ≤ 14 ∧ o < 1048576
def Stop0 (w : Nat) (v : St) : Prop := w = 0 ∨ ∃ e o, v 17 (w - 1) = nI (1048576 * e + o) ∧ (e ≤ 3 ∨ 10 ≤ e) ∧ e ≤ 14 ∧ o < 1048576
theorem Stop_0 {w : Nat} {v : St} (h : Stop w v) : Stop0 w v := by
  rcases h with h | ⟨e, o, h1, h2, h3, h4⟩
  · exact Or.inl h
  · exact Or.inr ⟨e, o, h1, Or.inr h2, h3, h4⟩
def ClFr (v0 v : St) : Prop := ∀ k, k ≠ 12 → k ≠ 13 → k ≠ 16 → v k = v0 k
theorem encTi {s : Nat} (h : isTi s) : 4 ≤ encS s ∧ encS s ≤ 6 := by rcases h with rfl | rfl | rfl <;> decide
theorem encPl {s : Nat} (h : isPl s) : encS s = 2 ∨ encS s = 3 := by rcases h with rfl | rfl <;> decide
theorem TxR_c {n : Nat} {c : Nat → Nat} {v v2 : St} (h : TxR n c v) (e8 : v2 8 = v 8) (e5 : v2 5 = v 5) : TxR n c v2 := by
  unfold TxR at *; rw [e8, e5]; exact h
/-- one that waits is noted -/
theorem J37_n {n : Nat} {c : Nat → Nat} {i m : Nat} {S O : Nat → Nat} {w op et eq : Nat} {v : St} (h : Hs n c i m S O w op et eq v) (hm : m ≤ 240) (hw : w ≤ 250) (lp : St → Int32 → Option St) (x : Int32) : (et = 1 → fX12_closesSums_J37 lp v x = lp (st (st (st v 16 (m - 1 - eq) (nI (1048576 * encS (S (m - 1 - eq)) + 0))) 12 0 (nI (m - eq))) 13 0 (nI (w + eq))) x) ∧ (et = 0 → eq = 1 → fX12_closesSums_J37 lp v x = lp (st (st (st v 16 (m - 1) (nI (1048576 * encS (S (m - 1)) + 0))) 12 0 (nI m)) 13 0 (nI w)) x) := by
  obtain ⟨h1, h2, h3, h4, h5, h6, h7, h8, h9, h10, h11⟩ := h
  refine ⟨fun e => ?_, fun e e2 => ?_⟩
  · subst e
    obtain ⟨q1, q2, q3⟩ := h11 rfl
    have q4 := encTi q1
    unfold fX12_closesSums_J37
    rw [top_n h8 (by omega) q3 (by omega) (by decide), sbind, notes_n h7 (by omega) rfl (show (0 : Int32) = nI 0 from rfl), sbind, lett_s, show m - 1 - eq + 1 = m - eq by omega]
    rw [show st (st v 16 (m - 1 - eq) (nI (1048576 * encS (S (m - 1 - eq)) + 0))) 12 0 (nI (m - eq)) 13 0 = nI (w + eq + 1) from h8, tps]
  · subst e; subst e2
    obtain ⟨q1, q2, q3⟩ := h10 rfl
    have q4 := encPl q1
    unfold fX12_closesSums_J37
    rw [top_n h8 (by omega) q3 (by omega) (by decide), sbind, notes_n h7 (by omega) rfl (show (0 : Int32) = nI 0 from rfl), sbind, lett_s, show m - 0 - 1 + 1 = m by omega, show m - 0 - 1 = m - 1 by omega]
    rw [show st (st v 16 (m - 1) (nI (1048576 * encS (S (m - 1)) + 0))) 12 0 (nI m) 13 0 = nI (w + 1 + 0) from h8, show w + 1 + 0 = w + 1 from rfl, tps]
theorem Hs_t {n : Nat} {c : Nat → Nat} {i m : Nat} {S O : Nat → Nat} {w op eq : Nat} {v : St} (h : Hs n c i m S O w op 1 eq v) : Hs n c i m S O w op 0 eq (st (st (st v 16 (m - 1 - eq) (nI (1048576 * encS (S (m - 1 - eq)) + 0))) 12 0 (nI (m - eq))) 13 0 (nI (w + eq))) := by
  obtain ⟨h1, h2, h3, h4, h5, h6, h7, h8, h9, h10, h11⟩ := h
  refine ⟨TxR_c h1 rfl rfl, h2, h3, by omega, h5, by omega, rfl, rfl, fun j hj => ?_, h10, fun e => by omega⟩
  show upd (v 16) (m - 1 - eq) _ j = _
  by_cases q : j = m - 1 - eq
  · rw [q, upd_s, (h11 rfl).2.1]
  · rw [upd_n q]; exact h9 j (by omega)
theorem Hs_q {n : Nat} {c : Nat → Nat} {i m : Nat} {S O : Nat → Nat} {w op : Nat} {v : St} (h : Hs n c i m S O w op 0 1 v) : Hs n c i m S O w op 0 0 (st (st (st v 16 (m - 1) (nI (1048576 * encS (S (m - 1)) + 0))) 12 0 (nI m)) 13 0 (nI w)) := by
  obtain ⟨h1, h2, h3, h4, h5, h6, h7, h8, h9, h10, h11⟩ := h
  refine ⟨TxR_c h1 rfl rfl, h2, h3, by omega, by omega, by omega, rfl, rfl, fun j hj => ?_, fun e => by omega, fun e => by omega⟩
  show upd (v 16) (m - 1) _ j = _
  by_cases q : j = m - 1
  · rw [q, upd_s, (h10 rfl).2.1]
  · rw [upd_n q]; exact h9 j (by omega)
theorem cs_t {n : Nat} {c : Nat → Nat} {i m : Nat} {S O : Nat → Nat} {w op eq : Nat} {v : St} (h : Hs n c i m S O w op 1 eq v) (hm : m ≤ 240) (hw : w ≤ 250) (f : Nat) (x : Int32) : ∃ v', fX12_closesSums_L0 (f + 1) v x = fX12_closesSums_L0 f v' x ∧ Hs n c i m S O w op 0 eq v' ∧ ClFr v v' := by
  obtain ⟨h1, h2, h3, h4, h5, h6, h7, h8, h9, h10, h11⟩ := id h
  obtain ⟨q1, q2, q3⟩ := h11 rfl
  have q4 := encTi q1
  have tp := top_n h8 (by omega) q3 (by omega) (by decide)
  refine ⟨_, ?_, Hs_t h, fun k a b c => by rw [st_i b, st_i a, st_i c]⟩
  show bX12_closesSums_L0 _ _ _ = _
  unfold bX12_closesSums_L0
  rw [tp, sbind, if_neg (show ¬ nI (encS (S (m - 1 - eq))) < 4 from nI_nlt (b := 4) (by omega) (by omega)), sbind, if_pos (show nI (encS (S (m - 1 - eq))) ≤ 6 from nI_le (b := 6) (by omega) (by decide)), (J37_n h hm hw _ _).1 rfl]
theorem cs_q {n : Nat} {c : Nat → Nat} {i m : Nat} {S O : Nat → Nat} {w op : Nat} {v : St} (h : Hs n c i m S O w op 0 1 v) (hm : m ≤ 240) (hw : w ≤ 250) (f : Nat) : ∃ v', fX12_closesSums_L0 (f + 1) v 1 = fX12_closesSums_L0 f v' 1 ∧ Hs n c i m S O w op 0 0 v' ∧ ClFr v v' := by
  obtain ⟨h1, h2, h3, h4, h5, h6, h7, h8, h9, h10, h11⟩ := id h
  obtain ⟨q1, q2, q3⟩ := h10 rfl
  have q4 := encPl q1
  have tp := top_n h8 (by omega) q3 (by omega) (by decide)
  refine ⟨_, ?_, Hs_q h, fun k a b c => by rw [st_i b, st_i a, st_i c]⟩
  show bX12_closesSums_L0 _ _ _ = _
  unfold bX12_closesSums_L0 fX12_closesSums_J17
  rw [tp, sbind, if_pos (show nI (encS (S (m - 1))) < 4 from nI_lt (b := 4) (by omega) (by decide)), if_neg (by decide), sbind, (J37_n h hm hw _ _).2 rfl rfl]
  rcases q4 with e | e
  · rw [e, if_pos (by decide)]
  · rw [e, if_neg (by decide), sbind, if_pos (by decide)]
theorem cs_q0 {n : Nat} {c : Nat → Nat} {i m : Nat} {S O : Nat → Nat} {w op : Nat} {v : St} (h : Hs n c i m S O w op 0 1 v) (hm : m ≤ 240) (hw : w ≤ 250) (f : Nat) : fX12_closesSums_L0 (f + 1) v 0 = some v := by
  obtain ⟨h1, h2, h3, h4, h5, h6, h7, h8, h9, h10, h11⟩ := id h
  obtain ⟨q1, q2, q3⟩ := h10 rfl
  have q4 := encPl q1
  have tp := top_n h8 (by omega) q3 (by omega) (by decide)
  show bX12_closesSums_L0 _ _ _ = _
  unfold bX12_closesSums_L0 fX12_closesSums_J17
  rw [tp, sbind, if_pos (show nI (encS (S (m - 1))) < 4 from nI_lt (b := 4) (by omega) (by decide)), if_pos rfl]
theorem cs_s {n : Nat} {c : Nat → Nat} {i m : Nat} {S O : Nat → Nat} {w op : Nat} {v : St} (h : Hs n c i m S O w op 0 0 v) (hw : w ≤ 250) (hs : Stop w v) (f : Nat) (x : Int32) : fX12_closesSums_L0 (f + 1) v x = some v := by
  obtain ⟨h1, h2, h3, h4, h5, h6, h7, h8, h9, h10, h11⟩ := id h
  show bX12_closesSums_L0 _ _ _ = _
  unfold bX12_closesSums_L0 fX12_closesSums_J17
  rcases hs with rfl | ⟨e, o, e1, e2, e3, e4⟩
  · rw [top_0 h8, sbind, if_pos (show (-1 : Int32) < 4 by decide), sbind, if_neg (show ¬ (-1 : Int32) = 2 by decide), sbind, if_neg (show ¬ (-1 : Int32) = 3 by decide), ite_self]
  · by_cases q : w = 0
    · subst q
      rw [top_0 h8, sbind, if_pos (show (-1 : Int32) < 4 by decide), sbind, if_neg (show ¬ (-1 : Int32) = 2 by decide), sbind, if_neg (show ¬ (-1 : Int32) = 3 by decide), ite_self]
    · rw [top_n (w := w - 1) (h8.trans (congrArg nI (by omega))) (by omega) e1 e3 e4, sbind, if_neg (show ¬ nI e < 4 from nI_nlt (b := 4) (by omega) (by omega)), sbind, if_neg (show ¬ nI e ≤ 6 from nI_ge (a := 6) (by omega) (by omega)), sbind, if_neg (show ¬ nI e = 2 from fun q => by have := (nI_eq (b := 2) (by omega) (by omega)).mp q; omega), sbind, if_neg (show ¬ nI e = 3 from fun q => by have := (nI_eq (b := 3) (by omega) (by omega)).mp q; omega), ite_self]
theorem cs_s0 {n : Nat} {c : Nat → Nat} {i m : Nat} {S O : Nat → Nat} {w op : Nat} {v : St} (h : Hs n c i m S O w op 0 0 v) (hw : w ≤ 250) (hs : Stop0 w v) (f : Nat) : fX12_closesSums_L0 (f + 1) v 0 = some v := by
  obtain ⟨h1, h2, h3, h4, h5, h6, h7, h8, h9, h10, h11⟩ := id h
  show bX12_closesSums_L0 _ _ _ = _
  unfold bX12_closesSums_L0 fX12_closesSums_J17
  by_cases q : w = 0
  · subst q
    rw [top_0 h8, sbind, if_pos (by decide), if_pos rfl]
  · rcases hs with rfl | ⟨e, o, e1, e2, e3, e4⟩
    · exact absurd rfl q
    · rw [top_n (w := w - 1) (h8.trans (congrArg nI (by omega))) (by omega) e1 e3 e4, sbind, sbind]
      by_cases q2 : e < 4
      · rw [if_pos (show nI e < 4 from nI_lt (b := 4) q2 (by decide)), if_pos rfl]
      · rw [if_neg (show ¬ nI e < 4 from nI_nlt (b := 4) (by omega) (by omega)), sbind, if_neg (show ¬ nI e ≤ 6 from nI_ge (a := 6) (by omega) (by omega)), if_pos rfl]
theorem Stop_Cl {w : Nat} {v v2 : St} (h : Stop w v) (e : v2 17 = v 17) : Stop w v2 := by unfold Stop at *; rw [e]; exact h
theorem Stop0_Cl {w : Nat} {v v2 : St} (h : Stop0 w v) (e : v2 17 = v 17) : Stop0 w v2 := by unfold Stop0 at *; rw [e]; exact h
theorem ClFr_rfl (v : St) : ClFr v v := fun _ _ _ _ => rfl
theorem ClFr_t {a b c : St} (h : ClFr a b) (g : ClFr b c) : ClFr a c := fun k h1 h2 h3 => (g k h1 h2 h3).trans (h k h1 h2 h3)
/-- all that wait above w are closed -/
theorem close_1 {n : Nat} {c : Nat → Nat} {i m : Nat} {S O : Nat → Nat} {w op et eq : Nat} {v : St} (h : Hs n c i m S O w op et eq v) (hm : m ≤ 240) (hw : w ≤ 250) (hs : Stop w v) : ∃ v', fX12_closesSums v 1 = some v' ∧ Hs n c i m S O w op 0 0 v' ∧ ClFr v v' := by
  unfold fX12_closesSums
  have s0 : ∀ (f : Nat) (v : St), Hs n c i m S O w op 0 eq v → Stop w v → ∃ v', fX12_closesSums_L0 (f + 2) v 1 = some v' ∧ Hs n c i m S O w op 0 0 v' ∧ ClFr v v' := by
    intro f v h hs
    by_cases q : eq = 1
    · subst q
      obtain ⟨v1, a1, a2, a3⟩ := cs_q h hm hw (f + 1)
      exact ⟨v1, a1.trans (cs_s a2 hw (Stop_Cl hs (a3 17 (by decide) (by decide) (by decide))) f 1), a2, a3⟩
    · have : eq = 0 := by have := h.2.2.2.2.1; omega
      subst this
      exact ⟨v, cs_s h hw hs (f + 1) 1, h, ClFr_rfl v⟩
  by_cases q : et = 1
  · subst q
    obtain ⟨v1, a1, a2, a3⟩ := cs_t h hm hw 999999 1
    obtain ⟨v2, b1, b2, b3⟩ := s0 999997 v1 a2 (Stop_Cl hs (a3 17 (by decide) (by decide) (by decide)))
    exact ⟨v2, (show fX12_closesSums_L0 FU v 1 = _ from a1).trans b1, b2, ClFr_t a3 b3⟩
  · have : et = 0 := by have := h.2.2.2.1; omega
    subst this
    exact s0 999998 v h hs
/-- only products are closed -/
theorem close_0 {n : Nat} {c : Nat → Nat} {i m : Nat} {S O : Nat → Nat} {w op et : Nat} {v : St} (h : Hs n c i m S O w op et 0 v) (hm : m ≤ 240) (hw : w ≤ 250) (hs : Stop0 w v) : ∃ v', fX12_closesSums v 0 = some v' ∧ Hs n c i m S O w op 0 0 v' ∧ ClFr v v' := by
  unfold fX12_closesSums
  by_cases q : et = 1
  · subst q
    obtain ⟨v1, a1, a2, a3⟩ := cs_t h hm hw 999999 0
    exact ⟨v1, (show fX12_closesSums_L0 FU v 0 = _ from a1).trans (cs_s0 a2 hw (Stop0_Cl hs (a3 17 (by decide) (by decide) (by decide))) 999998), a2, a3⟩
  · have : et = 0 := by have := h.2.2.2.1; omega
    subst this
    exact ⟨v, cs_s0 h hw hs 999999, h, ClFr_rfl v⟩
/-- whether a [ is not closed yet -/
theorem hos_1 {v : St} {base k W : Nat} (h13 : v 13 0 = nI W) (hW : W ≤ 255) (hk : k < W) (h17 : v 17 k = nI (1048576 * 14 + 0)) : ∀ (f j : Nat), j ≤ k → k - j < f → fX12_hasOpenSum_L2 v f (nI j) = some 1 := by
  intro f
  induction f with
  | zero => intro j _ h; omega
  | succ f ih =>
    intro j hj hf
    show bX12_hasOpenSum_L2 _ _ _ = _
    unfold bX12_hasOpenSum_L2
    rw [h13, if_neg (nI_ge (by omega) (by omega)), gd_n (by omega) (by decide), ix_n (by omega)]
    by_cases q : j = k
    · subst q
      rw [h17, if_pos (by decide)]
    · by_cases q2 : v 17 j / 1048576 = 14
      · rw [if_pos q2]
      · rw [if_neg q2, lett_s, n1]
        exact ih (j + 1) (by omega) (by omega)
theorem hos_0 {v : St} {W : Nat} (h13 : v 13 0 = nI W) (hW : W ≤ 255) : ∀ (f j : Nat), j ≤ W → W - j < f → (∀ k, j ≤ k → k < W → ∃ e o, v 17 k = nI (1048576 * e + o) ∧ e ≤ 13 ∧ o < 1048576) → fX12_hasOpenSum_L2 v f (nI j) = some 0 := by
  intro f
  induction f with
  | zero => intro j _ h; omega
  | succ f ih =>
    intro j hj hf hk
    show bX12_hasOpenSum_L2 _ _ _ = _
    unfold bX12_hasOpenSum_L2
    rw [h13]
    by_cases q : j = W
    · rw [if_pos (nI_le (by omega) (by omega))]
    · obtain ⟨e, o, e1, e2, e3⟩ := hk j (Nat.le_refl j) (by omega)
      rw [if_neg (nI_ge (by omega) (by omega)), gd_n (by omega) (by decide), ix_n (by omega), e1, show (1048576 : Int32) = nI 1048576 from rfl, div_n (by omega) (by decide) (by decide), show (1048576 * e + o) / 1048576 = e by omega, if_neg (show ¬ nI e = 14 from fun q => by have := (nI_eq (b := 14) (by omega) (by omega)).mp q; omega), lett_s, n1]
      exact ih (j + 1) (by omega) (by omega) (fun k a b => hk k (by omega) b)
