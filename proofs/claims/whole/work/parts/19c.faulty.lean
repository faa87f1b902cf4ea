/-! ===== the reader behind a fault: it ends, and the fault stays ===== -/
theorem idx1' : ∀ b, b < 256 → fJ0_indexOf_0f7a4 1 (ji2c (nI b)) = some (fX12_factOf (nI b)) := by decide +kernel
theorem idx0' : ∀ b, b < 256 → fJ0_indexOf_0f7a4 0 (ji2c (nI b)) = some (if b = 103 then 0 else if b = 114 then 1 else if b = 102 then 2 else if b = 101 then 3 else if b = 98 then 4 else if b = 119 then 5 else if b = 108 then 6 else -1) := by decide +kernel
theorem fact_c' : ∀ b, b < 256 → fX12_factOf (nI b) = -1 ∨ (b = 112 ∨ b = 118 ∨ b = 99 ∨ b = 111 ∨ b = 110 ∨ b = 100 ∨ b = 104 ∨ b = 116) := by decide +kernel
def FT (n : Nat) (c : Nat → Nat) (F : Int32) (r : Option (St × St)) : Prop := ∃ u' lw' i', r = some (u', lw') ∧ Cu n c i' F u' ∧ LwK lw'
theorem seesD_t {n : Nat} {c : Nat → Nat} {u : St} {i : Nat} {F : Int32} (h : Cu n c i F u) : fX1_seesDigit u = some (fX12_in (sgn n c i) 48 57) := by
  unfold fX1_seesDigit
  rw [h.2.2.2.1, within_eq, lett_s]
  exact if_pos (in_01 _ _ _)
theorem num_f {n : Nat} {c : Nat → Nat} {tp : St} (tx : Tx n c tp) {F : Int32} (hF : ¬ F = 0) {K : Nat} (hK : K ≤ 5) : ∀ (m k i : Nat) (u : St) (x : Int32), k ≤ K → K - k < m → Cu n c i F u → ∃ x' u' i', fX1_readNumber_L4 tp m u (nI K) x (nI k) = some (x', u') ∧ Cu n c i' F u' := by
  intro m
  induction m with
  | zero => intro k i u x _ h; omega
  | succ m ih =>
    intro k i u x hk hm h
    have J : ∃ x' u' i', fX1_readNumber_J39 u x (nI k) = some (x', u') ∧ Cu n c i' F u' := by
      unfold fX1_readNumber_J39
      rw [seesD_t h, sbind, fail_f h hF, fail_f h hF, lett_s]
      by_cases q : nI k = 0
      · rw [if_pos q]; exact ⟨_, _, i, rfl, h⟩
      · rw [if_neg q, ite_self]; exact ⟨_, _, i, rfl, h⟩
    show ∃ x' u' i', bX1_readNumber_L4 tp (fX1_readNumber_L4 tp m) u (nI K) x (nI k) = some (x', u') ∧ Cu n c i' F u'
    unfold bX1_readNumber_L4
    by_cases q : k = K
    · rw [if_pos (nI_le (by omega) (by omega))]; exact J
    · rw [if_neg (nI_ge (by omega) (by omega)), seesD_t h, sbind]
      by_cases q2 : fX12_in (sgn n c i) 48 57 = 0
      · rw [if_pos q2]; exact J
      · obtain ⟨u', e1, e2⟩ := next_t tx h
        rw [if_neg q2, lett_s, lett_s, e1, sbind, n1]
        exact ih (k + 1) _ u' _ (by omega) (by omega) e2
theorem times_f {n : Nat} {c : Nat → Nat} {u : St} {i : Nat} {F : Int32} (h : Cu n c i F u) (hF : ¬ F = 0) : fX3_seesTimes u = 0 := by
  unfold fX3_seesTimes
  rw [sees_f h hF, sees_f h hF, sees_f h hF]
  rfl
/-- the letter's number, if it is one -/
theorem fac_y {n : Nat} {c : Nat → Nat} {u : St} {i : Nat} {F : Int32} (hc : ∀ j, j < n → c j < 256) (h : Cu n c i F u) (rc : St → St → St → Int32 → Option (St × St)) (tp lw : St) (x : Int32) : fX3_readFactor rc u tp lw x = fX3_readFactor_J24 rc tp u lw x (if sgn n c i = -1 then -1 else fX12_factOf (sgn n c i)) := by
  unfold fX3_readFactor
  rw [lett_s, h.2.2.2.1]
  by_cases q : i < n
  · rw [sgn_in q, if_neg (fun e => m1_ne (by have := hc i q; omega) e.symm), if_neg (fun e => m1_ne (by have := hc i q; omega) e.symm), idx1' _ (hc i q), sbind]
  · rw [sgn_out q, if_pos rfl, if_pos rfl]
theorem fac_f {n : Nat} {c : Nat → Nat} {tp u lw : St} (tx : Tx n c tp) {i : Nat} {F : Int32} (hF : ¬ F = 0) (h : Cu n c i F u) (hl : LwK lw) (rc : St → St → St → Int32 → Option (St × St)) (x : Int32) : FT n c F (fX3_readFactor rc u tp lw x) := by
  rw [fac_y (fun j hj => (tx.2.2 j hj).1) h]
  unfold fX3_readFactor_J24
  rw [sees_f h hF, lett_s, if_pos rfl, seesD_t h, sbind]
  by_cases q : fX12_in (sgn n c i) 48 57 = 0
  · rw [if_pos q]
    by_cases q2 : (if sgn n c i = -1 then -1 else fX12_factOf (sgn n c i)) < 0
    · rw [if_pos q2, fail_f h hF, lett_s]; exact ⟨_, _, i, rfl, h, hl⟩
    · obtain ⟨z, lw', p1, p2⟩ := put_f hl 1 (if sgn n c i = -1 then -1 else fX12_factOf (sgn n c i))
      obtain ⟨u', e1, e2⟩ := next_t tx h
      rw [if_neg q2, p1, sbind, e1, sbind]
      exact ⟨_, _, _, rfl, e2, p2⟩
  · obtain ⟨x', u', i', e1, e2⟩ := num_f tx hF (K := 5) (by decide) FU 0 i u 0 (by omega) (by decide) h
    obtain ⟨z, lw', p1, p2⟩ := put_f hl 0 x'
    unfold fX1_readNumber
    rw [if_neg q, show fX1_readNumber_L4 tp FU u 5 0 0 = _ from e1, sbind]
    dsimp only
    rw [p1, sbind]
    exact ⟨_, _, _, rfl, e2, p2⟩
theorem prodL_f {n : Nat} {c : Nat → Nat} {tp u lw : St} {i : Nat} {F : Int32} (hF : ¬ F = 0) (h : Cu n c i F u) (rc : St → St → St → Int32 → Option (St × St)) (x y : Int32) {m : Nat} (hm : 1 ≤ m) : fX3_readProduct_L8 rc tp m u lw x y = some (u, lw) := by
  obtain ⟨m, rfl⟩ : ∃ m', m = m' + 1 := ⟨m - 1, by omega⟩
  show bX3_readProduct_L8 _ _ _ _ _ _ _ = _
  unfold bX3_readProduct_L8
  rw [times_f h hF, lett_s, if_pos rfl, ite_self]
theorem prod_f {n : Nat} {c : Nat → Nat} {tp u lw : St} (tx : Tx n c tp) {i : Nat} {F : Int32} (hF : ¬ F = 0) (h : Cu n c i F u) (hl : LwK lw) (rc : St → St → St → Int32 → Option (St × St)) (x : Int32) : FT n c F (fX3_readProduct rc u tp lw x) := by
  obtain ⟨u', lw', i', e1, e2, e3⟩ := fac_f tx hF h hl rc x
  unfold fX3_readProduct
  rw [e1, sbind]
  dsimp only
  rw [prodL_f hF e2 rc x 1 (show 1 ≤ FU by decide)]
  exact ⟨_, _, _, rfl, e2, e3⟩
theorem sumL_f {n : Nat} {c : Nat → Nat} {tp u lw : St} {i : Nat} {F : Int32} (hF : ¬ F = 0) (h : Cu n c i F u) (rc : St → St → St → Int32 → Option (St × St)) (x y : Int32) {m : Nat} (hm : 1 ≤ m) : fX3_readSum_L8 rc tp m u lw x y = some (u, lw) := by
  obtain ⟨m, rfl⟩ : ∃ m', m = m' + 1 := ⟨m - 1, by omega⟩
  show bX3_readSum_L8 _ _ _ _ _ _ _ = _
  unfold bX3_readSum_L8
  rw [sees_f h hF, sees_f h hF, lett_s, if_pos rfl, lett_s, if_pos rfl, ite_self]
theorem sum_f {n : Nat} {c : Nat → Nat} {tp u lw : St} (tx : Tx n c tp) {i : Nat} {F : Int32} (hF : ¬ F = 0) (h : Cu n c i F u) (hl : LwK lw) (d : Nat) (x : Int32) : FT n c F (fX3_readSum (d + 1) u tp lw x) := by
  obtain ⟨u', lw', i', e1, e2, e3⟩ := prod_f tx hF h hl (fX3_readSum d) x
  show FT n c F (bX3_readSum (fX3_readSum d) u tp lw x)
  unfold bX3_readSum
  rw [e1, sbind]
  dsimp only
  rw [sumL_f hF e2 (fX3_readSum d) x 1 (show 1 ≤ FU by decide)]
  exact ⟨_, _, _, rfl, e2, e3⟩
theorem test_f {n : Nat} {c : Nat → Nat} {tp u lw : St} (tx : Tx n c tp) {i : Nat} {F : Int32} (hF : ¬ F = 0) (h : Cu n c i F u) (hl : LwK lw) (d : Nat) (x : Int32) : FT n c F (fX3_readTest (d + 1) u tp lw x) := by
  obtain ⟨u', lw', i', e1, e2, e3⟩ := sum_f tx hF h hl 7 x
  show FT n c F (bX3_readTest (fX3_readTest d) u tp lw x)
  unfold bX3_readTest
  rw [sees_f h hF, sees_f h hF, lett_s, if_pos rfl, lett_s, if_pos rfl, e1, sbind, lett_s]
  dsimp only
  rw [faulty_f e2 hF, lett_s, if_neg (by decide)]
  unfold fX3_readTest_J111
  rw [fail_f e2 hF, lett_s]
  exact ⟨_, _, _, rfl, e2, e3⟩
theorem partL_f {n : Nat} {c : Nat → Nat} {tp u lw : St} {i : Nat} {F : Int32} (hF : ¬ F = 0) (h : Cu n c i F u) (rc : St → St → St → Int32 → Option (St × St)) (x y : Int32) {m : Nat} (hm : 1 ≤ m) : fX3_readPart_L8 rc tp m u lw x y = some (u, lw) := by
  obtain ⟨m, rfl⟩ : ∃ m', m = m' + 1 := ⟨m - 1, by omega⟩
  show bX3_readPart_L8 _ _ _ _ _ _ _ = _
  unfold bX3_readPart_L8
  rw [sees_f h hF, lett_s, if_pos rfl, ite_self]
theorem part_f {n : Nat} {c : Nat → Nat} {tp u lw : St} (tx : Tx n c tp) {i : Nat} {F : Int32} (hF : ¬ F = 0) (h : Cu n c i F u) (hl : LwK lw) (d : Nat) (x : Int32) : FT n c F (fX3_readPart (fX3_readTest (d + 1)) u tp lw x) := by
  obtain ⟨u', lw', i', e1, e2, e3⟩ := test_f tx hF h hl d x
  unfold fX3_readPart
  rw [e1, sbind]
  dsimp only
  rw [partL_f hF e2 _ x 1 (show 1 ≤ FU by decide)]
  exact ⟨_, _, _, rfl, e2, e3⟩
theorem condL_f {n : Nat} {c : Nat → Nat} {tp u lw : St} {i : Nat} {F : Int32} (hF : ¬ F = 0) (h : Cu n c i F u) (rc : St → St → St → Int32 → Option (St × St)) (x y : Int32) {m : Nat} (hm : 1 ≤ m) : fX3_readCondition_L8 rc tp m u lw x y = some (u, lw) := by
  obtain ⟨m, rfl⟩ : ∃ m', m = m' + 1 := ⟨m - 1, by omega⟩
  show bX3_readCondition_L8 _ _ _ _ _ _ _ = _
  unfold bX3_readCondition_L8
  rw [sees_f h hF, lett_s, if_pos rfl, ite_self]
