/-! ===== sums: both read alike ===== -/
def RF (f k : Nat) (v : St) (base : Nat) : Option (Int32 × St) := (fX12_readsFactor_L0 f v).bind fun z => if z.1 = 0 then some (0, z.2) else fX12_readsSum_L14 k z.2 (nI base)
def QFr (v0 v : St) : Prop := ∀ k, k ≠ 7 → k ≠ 9 → k ≠ 10 → k ≠ 11 → k ≠ 12 → k ≠ 13 → k ≠ 16 → k ≠ 17 → v k = v0 k
theorem QFr_rfl (v : St) : QFr v v := fun _ _ _ _ _ _ _ _ _ => rfl
theorem QFr_t {a b c : St} (h : QFr a b) (g : QFr b c) : QFr a c := fun k a1 a2 a3 a4 a5 a6 a7 a8 => (g k a1 a2 a3 a4 a5 a6 a7 a8).trans (h k a1 a2 a3 a4 a5 a6 a7 a8)
theorem QFr_Cl {a b c : St} (h : QFr a b) (g : ClFr b c) : QFr a c := fun k a1 a2 a3 a4 a5 a6 a7 a8 => (g k a5 a6 a7).trans (h k a1 a2 a3 a4 a5 a6 a7 a8)
theorem QFr_N {a b c : St} (h : QFr a b) (g : NFr b c) : QFr a c := fun k a1 a2 a3 a4 a5 a6 a7 a8 => (g k a1 a2 a3).trans (h k a1 a2 a3 a4 a5 a6 a7 a8)
theorem QFr_st {a b : St} (h : QFr a b) {q j : Nat} {x : Int32} (hq : q = 7 ∨ q = 9 ∨ q = 10 ∨ q = 11 ∨ q = 12 ∨ q = 13 ∨ q = 16 ∨ q = 17) : QFr a (st b q j x) := fun k a1 a2 a3 a4 a5 a6 a7 a8 => (st_i (by omega)).trans (h k a1 a2 a3 a4 a5 a6 a7 a8)
def BadO (n : Nat) (c : Nat → Nat) (v : St) (r : Option (St × St)) (q : Option (Int32 × St)) : Prop := ∃ F i' u' lw' v', ¬ F = 0 ∧ r = some (u', lw') ∧ q = some (0, v') ∧ Cu n c i' F u' ∧ LwK lw' ∧ v' 9 0 = F ∧ QFr v v'
/-- class and reference stand behind the same piece, the code from m to m' -/
def Pc (n : Nat) (c : Nat → Nat) (i m : Nat) (S O : Nat → Nat) (w : Nat) (lw v : St) (i' m' : Nat) (S' O' : Nat → Nat) (u' lw' v' : St) : Prop := Cu n c i' 0 u' ∧ CA m' S' O' lw' ∧ m ≤ m' ∧ m' + i ≤ m + i' ∧ (∀ j, j < m → S' j = S j ∧ O' j = O j) ∧ LKFr lw lw' ∧ QFr v v' ∧ ∀ j, j < w → v' 17 j = v 17 j
def FacG (n : Nat) (c : Nat → Nat) (i m : Nat) (S O : Nat → Nat) (w op : Nat) (T : List Bool) (lw v : St) (r : Option (St × St)) (q : Option (Int32 × St)) (base : Nat) : Prop := ∃ i' m' S' O' u' lw' v' k', r = some (u', lw') ∧ q = fX12_readsSum_L14 k' v' (nI base) ∧ Pc n c i m S O w lw v i' m' S' O' u' lw' v' ∧ Hs n c i' m' S' O' w op 0 0 v' ∧ i < i' ∧ Seg S' O' m m' T (false :: T) ∧ n - i' < k'
def noTi (n : Nat) (c : Nat → Nat) (i : Nat) : Prop := ¬ sgn n c i = 42 ∧ ¬ sgn n c i = 47 ∧ ¬ sgn n c i = 37
def noPl (n : Nat) (c : Nat → Nat) (i : Nat) : Prop := ¬ sgn n c i = 43 ∧ ¬ sgn n c i = 45
def SumG (n : Nat) (c : Nat → Nat) (i m : Nat) (S O : Nat → Nat) (w op : Nat) (T : List Bool) (lw v : St) (r : Option (St × St)) (q : Option (Int32 × St)) (base : Nat) : Prop := ∃ i' m' S' O' u' lw' v' k' et eq, r = some (u', lw') ∧ q = fX12_readsSum_L14 k' v' (nI base) ∧ Pc n c i m S O w lw v i' m' S' O' u' lw' v' ∧ Hs n c i' m' S' O' w op et eq v' ∧ i < i' ∧ Seg S' O' m m' T (false :: T) ∧ n - i' < k' ∧ noTi n c i' ∧ noPl n c i'
def SumP (n : Nat) (c : Nat → Nat) (tp : St) (op : Nat) (rd : St → St → St → Int32 → Option (St × St)) : Prop := ∀ (i m : Nat) (S O : Nat → Nat) (w : Nat) (T : List Bool) (u lw v : St) (f k base : Nat), T.length ≤ 2 * op + 1 → m ≤ i → w ≤ i → base ≤ w → Cu n c i 0 u → CA m S O lw → Hs n c i m S O w op 0 0 v → Stop w v → n - i < f → n - i < k → SumG n c i m S O w op T lw v (rd u tp lw (nI op)) (RF f k v base) base ∨ BadO n c v (rd u tp lw (nI op)) (RF f k v base)
def FacP (n : Nat) (c : Nat → Nat) (tp : St) (op : Nat) (rc : St → St → St → Int32 → Option (St × St)) : Prop := ∀ (i m : Nat) (S O : Nat → Nat) (w : Nat) (T : List Bool) (u lw v : St) (f k base : Nat), T.length ≤ 2 * op + 3 → m ≤ i → w ≤ i → base ≤ w → Cu n c i 0 u → CA m S O lw → Hs n c i m S O w op 0 0 v → n - i < f → n - i < k → FacG n c i m S O w op T lw v (fX3_readFactor rc u tp lw (nI op)) (RF f k v base) base ∨ BadO n c v (fX3_readFactor rc u tp lw (nI op)) (RF f k v base)
theorem RF_s (f k : Nat) (v : St) (base : Nat) : RF (f + 1) k v base = (bX12_readsFactor_L0 (fX12_readsFactor_L0 f) v).bind fun z => if z.1 = 0 then some (0, z.2) else fX12_readsSum_L14 k z.2 (nI base) := rfl
/-- the class's and the reference's numbers -/
theorem num5 {n : Nat} {c : Nat → Nat} {tp u v : St} (tx : Tx n c tp) {i : Nat} (txr : TxR n c v) (h : Cu n c i 0 u) (h7 : v 7 0 = nI i) (hd : fX12_isDigit v = some 1) : (∃ i' x' u' v', fX1_readNumber u tp 5 = some (nI x', u') ∧ fX12_readsNumber v = some (1, v') ∧ Cu n c i' 0 u' ∧ i < i' ∧ v' 7 0 = nI i' ∧ v' 10 0 = nI x' ∧ x' < 100000 ∧ NFr v v') ∨ (∃ F i' x' u' v', ¬ F = 0 ∧ fX1_readNumber u tp 5 = some (x', u') ∧ fX12_readsNumber v = some (0, v') ∧ Cu n c i' F u' ∧ v' 9 0 = F ∧ NFr v v') := by
  have hn := tx.1
  have hin := h.1
  have hR : fX12_readsNumber v = fX12_readsNumber_L10 FU (st v 10 0 0) (nI i) := by
    unfold fX12_readsNumber
    rw [lett_s, lett_s, h7]
  have key := num_j tx (K := 5) (a := i) (by decide) (by decide) (fun m v => fX12_readsNumber_L10 m v (nI i)) (fun v => some (1, v)) (fun m v j x y t1 t2 t3 t4 t5 t6 t7 t8 t9 => by
      show bX12_readsNumber_L10 _ _ _ = _
      unfold bX12_readsNumber_L10
      rw [t7, sbind, if_neg (by decide), t2, show nI i + 5 = nI (i + 5) from nI_add i 5, if_neg (fun e => by have := (nI_eq (by omega) (by omega)).mp e; omega), here_n t1 t2 t4, sbind, t6, t3, (acc_n t9 t5).2, lett_s, lett_s, show st v 10 0 (nI (10 * x + y)) 7 0 = nI j from t2, n1]) (fun m v j t1 t2 t3 t4 t5 => by
      show bX12_readsNumber_L10 _ _ _ = _
      unfold bX12_readsNumber_L10
      rw [t4, sbind, if_neg (by decide), t2, show nI i + 5 = nI (i + 5) from nI_add i 5, if_pos (by rw [t5]), wrong_n (x := 2) (k := 2) rfl rfl, lett_s]
      dsimp only
      rw [zb_0]) (fun m v t1 => by
      show bX12_readsNumber_L10 _ _ _ = _
      unfold bX12_readsNumber_L10
      rw [t1, sbind, if_pos rfl]) FU FU i 0 u (st v 10 0 0) (Nat.le_refl i) (by omega) (show i + 5 - i < 1000000 by omega) (show i + 5 - i < 1000000 by omega) txr h h7 rfl (Nat.pow_pos (by decide)) (fun _ => hd)
  rw [Nat.sub_self] at key
  rcases key with ⟨i', x', u2, v2, r1, r2, r3, r4, r5, r6, r7, r8⟩ | ⟨i', x', u2, v2, r1, r2, r3, r4, r5⟩
  · exact Or.inl ⟨i', x', u2, v2, r1, hR.trans r2, r3, r4, r5, r6, r7, fun k a1 a2 a3 => (r8 k a1 a2 a3).trans (st_i a3)⟩
  · have hi' := r3.1
    have hF : ¬ fo 2 i' = 0 := fo_ne (by decide) (by decide) (by omega)
    exact Or.inr ⟨fo 2 i', i', nI x', u2, v2, hF, r1, hR.trans r2, r3, r4, fun k a1 a2 a3 => (r5 k a1 a2 a3).trans (st_i a3)⟩
theorem fact_v' : ∀ b, b < 256 → fX12_factOf (nI b) = -1 ∨ fX12_factOf (nI b) = 0 ∨ fX12_factOf (nI b) = 1 ∨ fX12_factOf (nI b) = 2 ∨ fX12_factOf (nI b) = 3 ∨ fX12_factOf (nI b) = 4 ∨ fX12_factOf (nI b) = 5 ∨ fX12_factOf (nI b) = 6 ∨ fX12_factOf (nI b) = 7 := by decide +kernel
theorem fact_n {b : Nat} (h : b < 256) : fX12_factOf (nI b) = -1 ∨ ∃ l, l < 8 ∧ fX12_factOf (nI b) = nI l := by
  rcases fact_v' b h with e | e | e | e | e | e | e | e | e
  · exact Or.inl e
  · exact Or.inr ⟨0, by decide, e⟩
  · exact Or.inr ⟨1, by decide, e⟩
  · exact Or.inr ⟨2, by decide, e⟩
  · exact Or.inr ⟨3, by decide, e⟩
  · exact Or.inr ⟨4, by decide, e⟩
  · exact Or.inr ⟨5, by decide, e⟩
  · exact Or.inr ⟨6, by decide, e⟩
  · exact Or.inr ⟨7, by decide, e⟩
theorem Hs_put {n : Nat} {c : Nat → Nat} {i m : Nat} {S O : Nat → Nat} {w op : Nat} {v : St} {i' s o : Nat} {v' : St} (h : Hs n c i m S O w op 0 0 v) (e7 : v' 7 0 = nI i') (e12 : v' 12 0 = nI (m + 1)) (e16 : v' 16 = upd (v 16) m (nI (1048576 * encS s + o))) (e5 : v' 5 = v 5) (e8 : v' 8 = v 8) (e11 : v' 11 = v 11) (e13 : v' 13 = v 13) : Hs n c i' (m + 1) (upN S m s) (upN O m o) w op 0 0 v' := by
  obtain ⟨h1, h2, h3, h4, h5, h6, h7, h8, h9, h10, h11⟩ := h
  refine ⟨TxR_c h1 e8 e5, e7, by rw [e11]; exact h3, by omega, by omega, by omega, e12, by rw [e13]; exact h8, fun j hj => ?_, fun e => by omega, fun e => by omega⟩
  rw [e16]
  by_cases q : j = m
  · subst q; rw [upd_s, upN_s, upN_s]
  · rw [upd_n q, upN_n q, upN_n q]; exact h9 j (by omega)
theorem agr {S O : Nat → Nat} {m s o : Nat} : ∀ j, j < m → upN S m s j = S j ∧ upN O m o j = O j := fun j hj => ⟨upN_n (by omega), upN_n (by omega)⟩
