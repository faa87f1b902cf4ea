/-! ===== numbers, sets as numbers, loops ===== -/
theorem in_n {k a b : Nat} {lo hi : Int32} (hlo : lo = nI a) (hhi : hi = nI b) (h1 : a ≤ k) (h2 : k ≤ b) (hb : b < 2147483648) : fX12_in (nI k) lo hi = 1 := by
  subst hlo; subst hhi
  unfold fX12_in
  rw [if_neg (nI_nlt h1 (by omega)), if_neg (nI_nlt h2 (by omega))]
theorem in_cases (x lo hi : Int32) (a b : Nat) (hlo : lo = nI a) (hhi : hi = nI b) (ha : a < 2147483648) (hb : b < 2147483648) : (∃ k : Nat, a ≤ k ∧ k ≤ b ∧ x = nI k ∧ fX12_in x lo hi = 1) ∨ fX12_in x lo hi = 0 := by
  subst hlo; subst hhi
  by_cases h1 : x < nI a
  · right; unfold fX12_in; rw [if_pos h1]
  · by_cases h2 : nI b < x
    · right; unfold fX12_in; rw [if_neg h1, if_pos h2]
    · left
      have h0 : ¬ x < 0 := by
        intro h
        have e1 := Int32.lt_iff_toInt_lt.mp h
        have e2 : ¬ x.toInt < (nI a).toInt := fun e => h1 (Int32.lt_iff_toInt_lt.mpr e)
        rw [nI_toInt (by omega)] at e2
        have e3 : (0 : Int32).toInt = 0 := rfl
        omega
      obtain ⟨k, hk, rfl⟩ := nI_of h0
      have e1 : ¬ k < a := fun e => h1 ((nI_ltI hk (by omega)).mpr e)
      have e2 : ¬ b < k := fun e => h2 ((nI_ltI (by omega) hk).mpr e)
      exact ⟨k, by omega, by omega, rfl, in_n rfl rfl (by omega) (by omega) hb⟩
theorem within_eq (a b c : Int32) : fX11_isWithin a b c = fX12_in a b c := rfl
theorem in_01 (a b c : Int32) : fX12_in a b c = 0 ∨ fX12_in a b c = 1 := by
  unfold fX12_in
  split
  · exact Or.inl rfl
  · split
    · exact Or.inl rfl
    · exact Or.inr rfl
theorem isWalker_eq (x : Int32) : fX11_isWalker x = some (fX12_in x 0 15) := by
  unfold fX11_isWalker zb; dsimp only [lett]
  rw [within_eq, if_pos (in_01 _ _ _)]
theorem gd_n {α : Type} {k n : Nat} {x : Option α} (h : k < n) (hn : n < 2147483648) : gd (nI k) n x = x := by
  unfold gd
  exact if_neg (vp_in_nI h (by omega))
theorem ix_n {k : Nat} (h : k < 2147483648) : ix (nI k) = k := nI_clamp (by omega)
theorem a0 (p : Nat) : (0 : Int32) + nI p = nI p := by rw [show (0 : Int32) = nI 0 from rfl, nI_add, Nat.zero_add]
theorem a16 (p : Nat) : (16 : Int32) + nI p = nI (16 + p) := nI_add 16 p
theorem a32 (p : Nat) : (32 : Int32) + nI p = nI (32 + p) := nI_add 32 p
theorem a48 (p : Nat) : (48 : Int32) + nI p = nI (48 + p) := nI_add 48 p
theorem a64 (p : Nat) : (64 : Int32) + nI p = nI (64 + p) := nI_add 64 p
theorem a80 (p : Nat) : (80 : Int32) + nI p = nI (80 + p) := nI_add 80 p
theorem n1 (p : Nat) : nI p + 1 = nI (p + 1) := nI_1 p
theorem nle_n {a k : Nat} {x : Int32} (hx : x = nI a) (h : k < a) (ha : a < 2147483648) : ¬ x ≤ nI k := by subst hx; exact nI_ge h (by omega)
theorem yle_n {a k : Nat} {x : Int32} (hx : x = nI a) (h : a ≤ k) (hk : k < 2147483648) : x ≤ nI k := by subst hx; exact nI_le h (by omega)
/-- a loop that counts up: I k is what its variables hold at k -/
theorem for_up {A R : Type} (F : Nat → A → Nat → Option R) (N : Nat) (I : Nat → A) (out : Option R) (hend : ∀ n, F (n + 1) (I N) N = out) (hstep : ∀ n k, k < N → F (n + 1) (I k) k = F n (I (k + 1)) (k + 1)) : ∀ n k, k ≤ N → N - k < n → F n (I k) k = out := by
  intro n
  induction n with
  | zero => intro k _ h; omega
  | succ n ih =>
    intro k hk hn
    by_cases h : k < N
    · rw [hstep n k h]; exact ih (k + 1) (by omega) (by omega)
    · have e : k = N := by omega
      subst e
      exact hend n
theorem for_all {A R : Type} (F : Nat → A → Nat → Option R) (N : Nat) (I : Nat → A) (out : Option R) (hend : ∀ n, F (n + 1) (I N) N = out) (hstep : ∀ n k, k < N → F (n + 1) (I k) k = F n (I (k + 1)) (k + 1)) (hN : N < 1000000) : F FU (I 0) 0 = out := for_up F N I out hend hstep FU 0 (Nat.zero_le N) (by show N - 0 < 1000000; omega)
/-- the set of those below n with P, as a number -/
def setOf (P : Nat → Bool) : Nat → Nat
  | 0 => 0
  | n + 1 => setOf P n ||| (if P n then 2 ^ n else 0)
theorem setOf_bit (P : Nat → Bool) : ∀ n i, (setOf P n).testBit i = (decide (i < n) && P i) := by
  intro n
  induction n with
  | zero => intro i; simp [setOf]
  | succ n ih =>
    intro i
    rw [setOf, Nat.testBit_or, ih]
    by_cases h : P n = true
    · rw [if_pos h, Nat.testBit_two_pow]
      by_cases e : n = i
      · subst e; simp [h]
      · have : decide (n = i) = false := by simp [e]
        rw [this, Bool.or_false]
        have e2 : decide (i < n) = decide (i < n + 1) := by
          rw [decide_eq_decide]; omega
        rw [e2]
    · rw [if_neg h, Nat.zero_testBit, Bool.or_false]
      by_cases e : n = i
      · subst e
        have : P n = false := by simpa using h
        simp [this]
      · have e2 : decide (i < n) = decide (i < n + 1) := by
          rw [decide_eq_decide]; omega
        rw [e2]
theorem setOf_lt (P : Nat → Bool) (n : Nat) : setOf P n < 2 ^ n := by
  refine Nat.lt_pow_two_of_testBit _ (fun i hi => ?_)
  rw [setOf_bit]
  simp [Nat.not_lt.mpr hi]
theorem setOf_cong {P Q : Nat → Bool} : ∀ {n : Nat}, (∀ i, i < n → P i = Q i) → setOf P n = setOf Q n := by
  intro n h
  refine Nat.eq_of_testBit_eq (fun i => ?_)
  rw [setOf_bit, setOf_bit]
  by_cases e : i < n
  · rw [h i e]
  · simp [e]
theorem setOf_self {t n : Nat} (h : t < 2 ^ n) : setOf (fun i => t.testBit i) n = t := by
  refine Nat.eq_of_testBit_eq (fun i => ?_)
  rw [setOf_bit]
  by_cases e : i < n
  · simp [e]
  · have : t.testBit i = false := Nat.testBit_lt_two_pow (Nat.lt_of_lt_of_le h (Nat.pow_le_pow_right (by decide) (by omega)))
    simp [e, this]
/-- the members of a set that are not in another -/
def ndiff (t m : Nat) : Nat := t &&& (m ^^^ 4294967295)
theorem ndiff_bit {t m p : Nat} (hp : p < 32) : (ndiff t m).testBit p = (t.testBit p && !m.testBit p) := by
  unfold ndiff
  rw [Nat.testBit_and, Nat.testBit_xor, show (4294967295 : Nat) = 2 ^ 32 - 1 from rfl, Nat.testBit_two_pow_sub_one]
  simp [hp]
theorem ndiff_le (t m : Nat) : ndiff t m ≤ t := Nat.and_le_left
theorem ndiff_eq (t m : Nat) : nI t &&& (nI m ^^^ (-1)) = nI (ndiff t m) := by
  rw [show (-1 : Int32) = nI 4294967295 from by decide, fb_xorI, fa_and]
  rfl
theorem shl1 : ∀ p, p < 31 → jshl 1 (nI p) = nI (2 ^ p) := by decide +kernel
theorem shr_n {t p : Nat} (ht : t < 2147483648) (hp : p < 32) : jshr (nI t) (nI p) = nI (t / 2 ^ p) := pk_shrN (by omega) _ p (s_l p hp)
theorem bit_div (t p : Nat) : t / 2 ^ p % 2 = b01 (t.testBit p) := by
  rw [Nat.testBit_eq_decide_div_mod_eq]
  unfold b01
  rcases Nat.mod_two_eq_zero_or_one (t / 2 ^ p) with h | h <;> simp [h]
theorem shr1_n {t p : Nat} (ht : t < 2147483648) (hp : p < 32) : jshr (nI t) (nI p) &&& 1 = nI (b01 (t.testBit p)) := by
  rw [shr_n ht hp, show (1 : Int32) = nI (2 ^ 1 - 1) from rfl, fa_mask, ← bit_div]
theorem has11_n {t p : Nat} (ht : t < 2147483648) (hp : p < 32) : fX11_has (nI t) (nI p) = nI (b01 (t.testBit p)) := by
  unfold fX11_has
  rw [shr1_n ht hp]
  cases t.testBit p <;> rfl
theorem has12_n {t p : Nat} (ht : t < 2147483648) (hp : p < 32) : fX12_has (nI t) (nI p) = nI (b01 (t.testBit p)) := by
  unfold fX12_has
  rw [shr1_n ht hp]
  cases t.testBit p <;> rfl
theorem n01 (b : Bool) : (nI (b01 b) = 0) = (b = false) := by cases b <;> simp [b01, nI] <;> decide
theorem st_i {u : St} {k j : Nat} {x : Int32} {k2 : Nat} (h : k2 ≠ k) : st u k j x k2 = u k2 := if_neg h
theorem st_s {u : St} {k j : Nat} {x : Int32} : st u k j x k = upd (u k) j x := if_pos rfl
theorem upd_s {f : Nat → Int32} {k : Nat} {x : Int32} : upd f k x k = x := if_pos rfl
theorem upd_n {f : Nat → Int32} {k j : Nat} {x : Int32} (h : j ≠ k) : upd f k x j = f j := if_neg h
theorem sa_s {u : St} {k : Nat} {f : Nat → Int32} : sa u k f k = f := if_pos rfl
theorem sa_i {u : St} {k : Nat} {f : Nat → Int32} {k2 : Nat} (h : k2 ≠ k) : sa u k f k2 = u k2 := if_neg h
