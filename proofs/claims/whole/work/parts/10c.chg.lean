/-! ===== how the two walks change together ===== -/
/-- an abstract walk with one number changed -/
def nset (N : Nat → Nat → Nat) (k j x : Nat) : Nat → Nat → Nat := fun a b => if a = k ∧ b = j then x else N a b
theorem nset_s (N : Nat → Nat → Nat) (k j x : Nat) : nset N k j x k j = x := if_pos ⟨rfl, rfl⟩
theorem nset_k {N : Nat → Nat → Nat} {k j x a b : Nat} (h : a ≠ k) : nset N k j x a b = N a b := if_neg (fun e => h e.1)
theorem nset_j {N : Nat → Nat → Nat} {k j x a b : Nat} (h : b ≠ j) : nset N k j x a b = N a b := if_neg (fun e => h e.2)
theorem bit_or (t p i : Nat) : (t ||| 2 ^ p).testBit i = (t.testBit i || decide (p = i)) := by rw [Nat.testBit_or, Nat.testBit_two_pow]
theorem bit_not {t p i : Nat} (hi : i < 32) : (ndiff t (2 ^ p)).testBit i = (t.testBit i && !decide (p = i)) := by rw [ndiff_bit hi, Nat.testBit_two_pow]
theorem or_lt {t p : Nat} (ht : t < 65536) (hp : p < 16) : t ||| 2 ^ p < 65536 := Nat.or_lt_two_pow (n := 16) (by omega) (Nat.pow_lt_pow_right (by decide) hp)
theorem WkC_key {N : Nat → Nat → Nat} {w : St} {k j x a b : Nat} (h : w a b = nI (N a b)) : st w k j (nI x) a b = nI (nset N k j x a b) := by
  by_cases e : a = k
  · subst e
    rw [st_s]
    by_cases e2 : b = j
    · subst e2; rw [upd_s, nset_s]
    · rw [upd_n e2, nset_j e2]; exact h
  · rw [st_i e, nset_k e]; exact h
theorem WkC_set {N : Nat → Nat → Nat} {w : St} (h : WkC N w) (k j x : Nat) : WkC (nset N k j x) (st w k j (nI x)) := by
  obtain ⟨h4, h5, h6, h7, h⟩ := h
  refine ⟨WkC_key h4, WkC_key h5, WkC_key h6, WkC_key h7, fun q hq => ?_⟩
  obtain ⟨c0, c1, c2, c3⟩ := h q hq
  exact ⟨WkC_key c0, WkC_key c1, WkC_key c2, WkC_key c3⟩
theorem WkR_a0 {N : Nat → Nat → Nat} {f : Nat → Int32} (h : WkR N f) {p : Nat} (hp : p < 16) (x : Nat) : WkR (nset N 0 p x) (upd f (16 + p) (nI x)) := by
  refine ⟨((upd_n (by omega)).trans h.1).trans (by rw [nset_k (by omega)]), ((upd_n (by omega)).trans h.2.1).trans (by rw [nset_k (by omega)]), fun q hq => ?_⟩
  obtain ⟨r0, r1, r2, r3, r4, r5⟩ := h.2.2 q hq
  refine ⟨?_, ?_, ?_, ?_, ?_, ?_⟩
  · exact ((upd_n (by omega)).trans r0).trans (by rw [nset_k (by omega)])
  · show upd f (16 + p) (nI x) (16 + q) = nI (nset N 0 p x 0 q)
    by_cases e : q = p
    · subst e; rw [upd_s, nset_s]
    · rw [upd_n (by omega), nset_j e]; exact r1
  · exact ((upd_n (by omega)).trans r2).trans (by rw [nset_k (by omega)])
  · exact ((upd_n (by omega)).trans r3).trans (by rw [nset_k (by omega)])
  · exact ((upd_n (by omega)).trans r4).trans (by rw [nset_k (by omega)])
  · exact ((upd_n (by omega)).trans r5).trans (by rw [nset_k (by omega)])
theorem WkR_a1 {N : Nat → Nat → Nat} {f : Nat → Int32} (h : WkR N f) {p : Nat} (hp : p < 16) (x : Nat) : WkR (nset N 1 p x) (upd f (32 + p) (nI x)) := by
  refine ⟨((upd_n (by omega)).trans h.1).trans (by rw [nset_k (by omega)]), ((upd_n (by omega)).trans h.2.1).trans (by rw [nset_k (by omega)]), fun q hq => ?_⟩
  obtain ⟨r0, r1, r2, r3, r4, r5⟩ := h.2.2 q hq
  refine ⟨?_, ?_, ?_, ?_, ?_, ?_⟩
  · exact ((upd_n (by omega)).trans r0).trans (by rw [nset_k (by omega)])
  · exact ((upd_n (by omega)).trans r1).trans (by rw [nset_k (by omega)])
  · show upd f (32 + p) (nI x) (32 + q) = nI (nset N 1 p x 1 q)
    by_cases e : q = p
    · subst e; rw [upd_s, nset_s]
    · rw [upd_n (by omega), nset_j e]; exact r2
  · exact ((upd_n (by omega)).trans r3).trans (by rw [nset_k (by omega)])
  · exact ((upd_n (by omega)).trans r4).trans (by rw [nset_k (by omega)])
  · exact ((upd_n (by omega)).trans r5).trans (by rw [nset_k (by omega)])
theorem WkR_a2 {N : Nat → Nat → Nat} {f : Nat → Int32} (h : WkR N f) {p : Nat} (hp : p < 16) (x : Nat) : WkR (nset N 2 p x) (upd f (64 + p) (nI x)) := by
  refine ⟨((upd_n (by omega)).trans h.1).trans (by rw [nset_k (by omega)]), ((upd_n (by omega)).trans h.2.1).trans (by rw [nset_k (by omega)]), fun q hq => ?_⟩
  obtain ⟨r0, r1, r2, r3, r4, r5⟩ := h.2.2 q hq
  refine ⟨?_, ?_, ?_, ?_, ?_, ?_⟩
  · exact ((upd_n (by omega)).trans r0).trans (by rw [nset_k (by omega)])
  · exact ((upd_n (by omega)).trans r1).trans (by rw [nset_k (by omega)])
  · exact ((upd_n (by omega)).trans r2).trans (by rw [nset_k (by omega)])
  · exact ((upd_n (by omega)).trans r3).trans (by rw [nset_k (by omega)])
  · show upd f (64 + p) (nI x) (64 + q) = nI (nset N 2 p x 2 q)
    by_cases e : q = p
    · subst e; rw [upd_s, nset_s]
    · rw [upd_n (by omega), nset_j e]; exact r4
  · exact ((upd_n (by omega)).trans r5).trans (by rw [nset_k (by omega)])
theorem WkR_a3 {N : Nat → Nat → Nat} {f : Nat → Int32} (h : WkR N f) {p : Nat} (hp : p < 16) (x : Nat) : WkR (nset N 3 p x) (upd f (80 + p) (nI x)) := by
  refine ⟨((upd_n (by omega)).trans h.1).trans (by rw [nset_k (by omega)]), ((upd_n (by omega)).trans h.2.1).trans (by rw [nset_k (by omega)]), fun q hq => ?_⟩
  obtain ⟨r0, r1, r2, r3, r4, r5⟩ := h.2.2 q hq
  refine ⟨?_, ?_, ?_, ?_, ?_, ?_⟩
  · exact ((upd_n (by omega)).trans r0).trans (by rw [nset_k (by omega)])
  · exact ((upd_n (by omega)).trans r1).trans (by rw [nset_k (by omega)])
  · exact ((upd_n (by omega)).trans r2).trans (by rw [nset_k (by omega)])
  · exact ((upd_n (by omega)).trans r3).trans (by rw [nset_k (by omega)])
  · exact ((upd_n (by omega)).trans r4).trans (by rw [nset_k (by omega)])
  · show upd f (80 + p) (nI x) (80 + q) = nI (nset N 3 p x 3 q)
    by_cases e : q = p
    · subst e; rw [upd_s, nset_s]
    · rw [upd_n (by omega), nset_j e]; exact r5
theorem WkR_told {N : Nat → Nat → Nat} {f : Nat → Int32} (h : WkR N f) {p : Nat} (hp : p < 16) : WkR (nset N 4 0 (N 4 0 ||| 2 ^ p)) (upd f (p) 1) := by
  refine ⟨((upd_n (by omega)).trans h.1).trans (by rw [nset_k (by omega)]), ((upd_n (by omega)).trans h.2.1).trans (by rw [nset_k (by omega)]), fun q hq => ?_⟩
  obtain ⟨r0, r1, r2, r3, r4, r5⟩ := h.2.2 q hq
  refine ⟨?_, ?_, ?_, ?_, ?_, ?_⟩
  · show upd f (p) 1 (q) = nI (b01 ((nset N 4 0 (N 4 0 ||| 2 ^ p) 4 0).testBit q))
    rw [nset_s, bit_or]
    by_cases e : q = p
    · subst e; rw [upd_s]; simp [b01]; rfl
    · rw [upd_n (by omega), r0]; simp [show ¬ p = q from fun h => e h.symm]
  · exact ((upd_n (by omega)).trans r1).trans (by rw [nset_k (by omega)])
  · exact ((upd_n (by omega)).trans r2).trans (by rw [nset_k (by omega)])
  · exact ((upd_n (by omega)).trans r3).trans (by rw [nset_k (by omega)])
  · exact ((upd_n (by omega)).trans r4).trans (by rw [nset_k (by omega)])
  · exact ((upd_n (by omega)).trans r5).trans (by rw [nset_k (by omega)])
theorem WkR_ov1 {N : Nat → Nat → Nat} {f : Nat → Int32} (h : WkR N f) {p : Nat} (hp : p < 16) : WkR (nset N 5 0 (N 5 0 ||| 2 ^ p)) (upd f (48 + p) 1) := by
  refine ⟨((upd_n (by omega)).trans h.1).trans (by rw [nset_k (by omega)]), ((upd_n (by omega)).trans h.2.1).trans (by rw [nset_k (by omega)]), fun q hq => ?_⟩
  obtain ⟨r0, r1, r2, r3, r4, r5⟩ := h.2.2 q hq
  refine ⟨?_, ?_, ?_, ?_, ?_, ?_⟩
  · exact ((upd_n (by omega)).trans r0).trans (by rw [nset_k (by omega)])
  · exact ((upd_n (by omega)).trans r1).trans (by rw [nset_k (by omega)])
  · exact ((upd_n (by omega)).trans r2).trans (by rw [nset_k (by omega)])
  · show upd f (48 + p) 1 (48 + q) = nI (b01 ((nset N 5 0 (N 5 0 ||| 2 ^ p) 5 0).testBit q))
    rw [nset_s, bit_or]
    by_cases e : q = p
    · subst e; rw [upd_s]; simp [b01]; rfl
    · rw [upd_n (by omega), r3]; simp [show ¬ p = q from fun h => e h.symm]
  · exact ((upd_n (by omega)).trans r4).trans (by rw [nset_k (by omega)])
  · exact ((upd_n (by omega)).trans r5).trans (by rw [nset_k (by omega)])
theorem WkR_ov0 {N : Nat → Nat → Nat} {f : Nat → Int32} (h : WkR N f) {p : Nat} (hp : p < 16) : WkR (nset N 5 0 (ndiff (N 5 0) (2 ^ p))) (upd f (48 + p) 0) := by
  refine ⟨((upd_n (by omega)).trans h.1).trans (by rw [nset_k (by omega)]), ((upd_n (by omega)).trans h.2.1).trans (by rw [nset_k (by omega)]), fun q hq => ?_⟩
  obtain ⟨r0, r1, r2, r3, r4, r5⟩ := h.2.2 q hq
  refine ⟨?_, ?_, ?_, ?_, ?_, ?_⟩
  · exact ((upd_n (by omega)).trans r0).trans (by rw [nset_k (by omega)])
  · exact ((upd_n (by omega)).trans r1).trans (by rw [nset_k (by omega)])
  · exact ((upd_n (by omega)).trans r2).trans (by rw [nset_k (by omega)])
  · show upd f (48 + p) 0 (48 + q) = nI (b01 ((nset N 5 0 (ndiff (N 5 0) (2 ^ p)) 5 0).testBit q))
    rw [nset_s, bit_not (by omega)]
    by_cases e : q = p
    · subst e; rw [upd_s]; simp [b01]; rfl
    · rw [upd_n (by omega), r3]; simp [show ¬ p = q from fun h => e h.symm]
  · exact ((upd_n (by omega)).trans r4).trans (by rw [nset_k (by omega)])
  · exact ((upd_n (by omega)).trans r5).trans (by rw [nset_k (by omega)])
theorem WkR_hour {N : Nat → Nat → Nat} {f : Nat → Int32} (h : WkR N f) (x : Nat) : WkR (nset N 6 0 x) (upd f 96 (nI x)) := by
  refine ⟨upd_s.trans (by rw [nset_s]), ((upd_n (by omega)).trans h.2.1).trans (by rw [nset_k (by omega)]), fun q hq => ?_⟩
  obtain ⟨r0, r1, r2, r3, r4, r5⟩ := h.2.2 q hq
  exact ⟨((upd_n (by omega)).trans r0).trans (by rw [nset_k (by omega)]), ((upd_n (by omega)).trans r1).trans (by rw [nset_k (by omega)]), ((upd_n (by omega)).trans r2).trans (by rw [nset_k (by omega)]), ((upd_n (by omega)).trans r3).trans (by rw [nset_k (by omega)]), ((upd_n (by omega)).trans r4).trans (by rw [nset_k (by omega)]), ((upd_n (by omega)).trans r5).trans (by rw [nset_k (by omega)])⟩
theorem WkR_lot {N : Nat → Nat → Nat} {f : Nat → Int32} (h : WkR N f) (x : Nat) : WkR (nset N 7 0 x) (upd f 97 (nI x)) := by
  refine ⟨((upd_n (by omega)).trans h.1).trans (by rw [nset_k (by omega)]), upd_s.trans (by rw [nset_s]), fun q hq => ?_⟩
  obtain ⟨r0, r1, r2, r3, r4, r5⟩ := h.2.2 q hq
  exact ⟨((upd_n (by omega)).trans r0).trans (by rw [nset_k (by omega)]), ((upd_n (by omega)).trans r1).trans (by rw [nset_k (by omega)]), ((upd_n (by omega)).trans r2).trans (by rw [nset_k (by omega)]), ((upd_n (by omega)).trans r3).trans (by rw [nset_k (by omega)]), ((upd_n (by omega)).trans r4).trans (by rw [nset_k (by omega)]), ((upd_n (by omega)).trans r5).trans (by rw [nset_k (by omega)])⟩
