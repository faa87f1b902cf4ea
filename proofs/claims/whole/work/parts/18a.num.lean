/-! ===== numbers in texts ===== -/
theorem dig_c {n : Nat} {c : Nat → Nat} {u v : St} {i : Nat} {F : Int32} (txr : TxR n c v) (h : Cu n c i F u) (h7 : v 7 0 = nI i) : (∃ y, y < 10 ∧ i < n ∧ c i = 48 + y ∧ sgn n c i = nI (48 + y) ∧ fX1_seesDigit u = some 1 ∧ fX12_isDigit v = some 1) ∨ (fX12_in (sgn n c i) 48 57 = 0 ∧ fX1_seesDigit u = some 0 ∧ fX12_isDigit v = some 0) := by
  have e1 : fX1_seesDigit u = some (fX12_in (sgn n c i) 48 57) := by
    unfold fX1_seesDigit
    rw [h.2.2.2.1, within_eq, lett_s]
    exact if_pos (in_01 _ _ _)
  have e2 : fX12_isDigit v = some (fX12_in (sgn n c i) 48 57) := by
    unfold fX12_isDigit fX12_in
    rw [here_n txr h7 h.1, sbind, sbind]
    by_cases q : sgn n c i < 48
    · rw [if_pos q, if_pos q]
    · rw [if_neg q, if_neg q]
      by_cases q2 : 57 < sgn n c i
      · rw [if_pos q2, if_pos q2]
      · rw [if_neg q2, if_neg q2]
  rw [e1, e2]
  rcases in_cases (sgn n c i) 48 57 48 57 rfl rfl (by decide) (by decide) with ⟨k, k1, k2, k3, e⟩ | e
  · obtain ⟨q1, q2⟩ := sgn_is (fun j hj => (txr.2.2 j hj).1) (by omega) k3
    refine Or.inl ⟨k - 48, by omega, q1, by omega, by rw [k3]; exact congrArg nI (by omega), by rw [e], by rw [e]⟩
  · exact Or.inr ⟨e, by rw [e], by rw [e]⟩
def NFr (v0 v : St) : Prop := ∀ k, k ≠ 7 → k ≠ 9 → k ≠ 10 → v k = v0 k
theorem TxR_N {n : Nat} {c : Nat → Nat} {v v2 : St} (h : TxR n c v) (f : NFr v v2) : TxR n c v2 := by
  unfold TxR at *
  rw [f 8 (by decide) (by decide) (by decide), f 5 (by decide) (by decide) (by decide)]
  exact h
theorem acc_n {x y : Nat} (hx : x < 1000000) (hy : y < 10) : nI x * 10 + nI (48 + y) - 48 = nI (10 * x + y) ∧ 10 * nI x + nI (48 + y) - 48 = nI (10 * x + y) := by
  refine ⟨?_, ?_⟩
  · rw [show (10 : Int32) = nI 10 from rfl, pk_mul, nI_add, show (48 : Int32) = nI 48 from rfl, sub_n (by omega)]; exact congrArg nI (by omega)
  · rw [show (10 : Int32) = nI 10 from rfl, pk_mul, nI_add, show (48 : Int32) = nI 48 from rfl, sub_n (by omega)]; exact congrArg nI (by omega)
theorem ten_5 {d K : Nat} (h : d ≤ K) (hK : K ≤ 5) : 10 ^ d ≤ 100000 := Nat.le_trans (Nat.pow_le_pow_right (by decide) (show d ≤ 5 by omega)) (by decide)
/-- both read a number of at most K digits; the reference's loop G ends as E says -/
theorem num_j {n : Nat} {c : Nat → Nat} {tp : St} (tx : Tx n c tp) {K a : Nat} (hK1 : 1 ≤ K) (hK : K ≤ 5) (G : Nat → St → Option (Int32 × St)) (E : St → Option (Int32 × St)) (hd : ∀ m v i x y, TxR n c v → v 7 0 = nI i → v 10 0 = nI x → i ≤ n → y < 10 → sgn n c i = nI (48 + y) → fX12_isDigit v = some 1 → i < a + K → x < 1000000 → G (m + 1) v = G m (st (st v 10 0 (nI (10 * x + y))) 7 0 (nI (i + 1)))) (hdK : ∀ m v i, TxR n c v → v 7 0 = nI i → i ≤ n → fX12_isDigit v = some 1 → i = a + K → G (m + 1) v = some (0, st v 9 0 (fo 2 i))) (hE : ∀ m v, fX12_isDigit v = some 0 → G (m + 1) v = E v) : ∀ (mB mA i x : Nat) (u v : St), a ≤ i → i ≤ a + K → a + K - i < mB → a + K - i < mA → TxR n c v → Cu n c i 0 u → v 7 0 = nI i → v 10 0 = nI x → x < 10 ^ (i - a) → (i = a → fX12_isDigit v = some 1) → (∃ i' x' u' v', fX1_readNumber_L4 tp mA u (nI K) (nI x) (nI (i - a)) = some (nI x', u') ∧ G mB v = E v' ∧ Cu n c i' 0 u' ∧ a < i' ∧ v' 7 0 = nI i' ∧ v' 10 0 = nI x' ∧ x' < 10 ^ K ∧ NFr v v') ∨ (∃ i' x' u' v', fX1_readNumber_L4 tp mA u (nI K) (nI x) (nI (i - a)) = some (nI x', u') ∧ G mB v = some (0, v') ∧ Cu n c i' (fo 2 i') u' ∧ v' 9 0 = fo 2 i' ∧ NFr v v') := by
  have hn := tx.1
  intro mB
  induction mB with
  | zero => intro mA i x u v _ _ h; omega
  | succ mB ih =>
    intro mA i x u v hi1 hi2 hB hA txr h h7 h10 hx hfirst
    obtain ⟨mA, rfl⟩ : ∃ m, mA = m + 1 := ⟨mA - 1, by omega⟩
    have hin := h.1
    have h5 := ten_5 (d := i - a) (K := K) (by omega) hK
    have uA : fX1_readNumber_L4 tp (mA + 1) u (nI K) (nI x) (nI (i - a)) = bX1_readNumber_L4 tp (fX1_readNumber_L4 tp mA) u (nI K) (nI x) (nI (i - a)) := rfl
    unfold bX1_readNumber_L4 at uA
    have hJ : 1 ≤ i - a → fX1_readNumber_J39 u (nI x) (nI (i - a)) = (fX1_seesDigit u).bind fun z2 => if z2 = 0 then some (nI x, u) else some (nI x, fX1_failHere u 2) := fun h1 => by
      unfold fX1_readNumber_J39
      rw [if_neg (fun e => by have := (nI_eq (b := 0) (by omega) (by omega)).mp e; omega)]
      rfl
    rcases dig_c txr h h7 with ⟨y, y1, y2, y3, y4, y5, y6⟩ | ⟨y4, y5, y6⟩
    · by_cases q : i = a + K
      · rw [if_pos (show nI K ≤ nI (i - a) from nI_le (by omega) (by omega)), hJ (by omega), y5, sbind, if_neg (by decide)] at uA
        exact Or.inr ⟨i, x, _, _, uA, hdK mB v i txr h7 hin y6 q, fail_n h rfl, rfl, fun k _ h9 _ => st_i h9⟩
      · obtain ⟨u', e1, e2⟩ := next_n tx h y2
        rw [if_neg (show ¬ nI K ≤ nI (i - a) from nI_ge (by omega) (by omega)), y5, sbind, if_neg (by decide), h.2.2.2.1, y4, (acc_n (by omega) y1).1, lett_s, lett_s, e1, sbind, n1, show i - a + 1 = i + 1 - a by omega] at uA
        have eB := hd mB v i x y txr h7 h10 hin y1 y4 y6 (by omega) (by omega)
        have hx2 : 10 * x + y < 10 ^ (i + 1 - a) := by
          rw [show i + 1 - a = (i - a) + 1 by omega, Nat.pow_succ]; omega
        rw [uA, eB]
        rcases ih mA (i + 1) (10 * x + y) u' (st (st v 10 0 (nI (10 * x + y))) 7 0 (nI (i + 1))) (by omega) (by omega) (by omega) (by omega) txr e2 rfl rfl hx2 (fun e => by omega) with ⟨i', x', u2, v2, r1, r2, r3, r4, r5, r6, r7, r8⟩ | ⟨i', x', u2, v2, r1, r2, r3, r4, r5⟩
        · exact Or.inl ⟨i', x', u2, v2, r1, r2, r3, r4, r5, r6, r7, fun k a1 a2 a3 => (r8 k a1 a2 a3).trans ((st_i a1).trans (st_i a3))⟩
        · exact Or.inr ⟨i', x', u2, v2, r1, r2, r3, r4, fun k a1 a2 a3 => (r5 k a1 a2 a3).trans ((st_i a1).trans (st_i a3))⟩
    · have hia : a < i := by
        by_cases q : i = a
        · rw [hfirst q] at y6; cases y6
        · omega
      have e : fX1_readNumber_L4 tp (mA + 1) u (nI K) (nI x) (nI (i - a)) = some (nI x, u) := by
        rw [uA]
        by_cases q : nI K ≤ nI (i - a)
        · rw [if_pos q, hJ (by omega), y5, sbind, if_pos rfl]
        · rw [if_neg q, y5, sbind, if_pos rfl, hJ (by omega), y5, sbind, if_pos rfl]
      refine Or.inl ⟨i, x, u, v, e, hE mB v y6, h, hia, h7, h10, ?_, fun _ _ _ _ => rfl⟩
      exact Nat.lt_of_lt_of_le hx (Nat.pow_le_pow_right (by decide) (by omega))
/-- no digit at all -/
theorem num_x {n : Nat} {c : Nat → Nat} {tp u : St} {i K : Nat} (hK1 : 1 ≤ K) (hK : K ≤ 5) (h : Cu n c i 0 u) (hs : fX1_seesDigit u = some 0) : fX1_readNumber u tp (nI K) = some (0, fX1_failHere u 1) := by
  unfold fX1_readNumber
  show bX1_readNumber_L4 tp (fX1_readNumber_L4 tp 999999) u (nI K) 0 0 = _
  unfold bX1_readNumber_L4
  rw [if_neg (show ¬ nI K ≤ 0 from nI_ge (a := 0) (by omega) (by omega)), hs, sbind, if_pos rfl]
  unfold fX1_readNumber_J39
  rw [if_pos rfl]
  rfl
