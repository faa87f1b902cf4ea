/-! ===== heavier ===== -/
theorem ne_n {a b : Nat} {x : Int32} (hx : x = nI b) (h : ¬ a = b) (ha : a < 2147483648) (hb : b < 2147483648) : ¬ nI a = x := fun e => h ((nI_eq (by omega) (by omega)).mp (e.trans hx))
theorem bit_lt {x q : Nat} (hx : x < 65536) (h : x.testBit q = true) : q < 16 := by
  by_cases c : q < 16
  · exact c
  · rw [bit_hi hx (by omega)] at h; cases h
def oneK (a b : Nat → Nat) (k : Nat) : Bool := decide (pc16 (a k) = 1) && decide (pc16 (b k) = 1)
def eqK (a b s : Nat → Nat) (k : Nat) : Bool := oneK a b k && decide (s k = 61)
def dfK (a b s : Nat → Nat) (k : Nat) : Bool := oneK a b k && !decide (s k = 61)
def hvK (a b s : Nat → Nat) (k : Nat) : Nat := if s k = 60 then b k else a k
def ltK (a b s : Nat → Nat) (k : Nat) : Nat := if s k = 60 then a k else b k
def ixB (x : Nat) : Nat := fa_first (fun i => x.testBit i) 16
theorem pow_bit {i j : Nat} : (2 ^ i).testBit j = decide (i = j) := Nat.testBit_two_pow
theorem ixB_pow {i : Nat} (hi : i < 16) : ixB (2 ^ i) = i := by
  have h1 : fa_first (fun j => (2 ^ i).testBit j) 16 ≤ i := by
    by_cases q : fa_first (fun j => (2 ^ i).testBit j) 16 ≤ i
    · exact q
    · have := fa_first_no (fun j => (2 ^ i).testBit j) 16 i (by omega)
      rw [pow_bit] at this; simp at this
  have h2 := fa_first_yes (fun j => (2 ^ i).testBit j) 16 (by omega)
  rw [pow_bit] at h2
  simp at h2
  exact h2.symm
def eR (a b s : Nat → Nat) : Nat → Nat → Nat
  | 0 => fun p => 2 ^ p
  | k + 1 => if eqK a b s k then (fun p => if (b k).testBit p then (if (a k).testBit p then eR a b s k p ||| b k else eR a b s k p) ||| a k else (if (a k).testBit p then eR a b s k p ||| b k else eR a b s k p)) else eR a b s k
theorem eR_bit {a b s : Nat → Nat} {p q : Nat} : ∀ n, (eR a b s n p).testBit q = true ↔ (p = q ∨ ∃ k, k < n ∧ eqK a b s k = true ∧ (((a k).testBit p = true ∧ (b k).testBit q = true) ∨ ((b k).testBit p = true ∧ (a k).testBit q = true)))
  | 0 => by
    rw [eR, pow_bit]
    constructor
    · intro h; exact Or.inl (of_decide_eq_true h)
    · rintro (h | ⟨k, h, -⟩)
      · exact decide_eq_true h
      · omega
  | n + 1 => by
    have ih := eR_bit (a := a) (b := b) (s := s) (p := p) (q := q) n
    have ex : (∃ k, k < n + 1 ∧ eqK a b s k = true ∧ (((a k).testBit p = true ∧ (b k).testBit q = true) ∨ ((b k).testBit p = true ∧ (a k).testBit q = true))) ↔ ((∃ k, k < n ∧ eqK a b s k = true ∧ (((a k).testBit p = true ∧ (b k).testBit q = true) ∨ ((b k).testBit p = true ∧ (a k).testBit q = true))) ∨ (eqK a b s n = true ∧ (((a n).testBit p = true ∧ (b n).testBit q = true) ∨ ((b n).testBit p = true ∧ (a n).testBit q = true)))) := by
      constructor
      · rintro ⟨k, h1, h2, h3⟩
        by_cases e : k = n
        · subst e; exact Or.inr ⟨h2, h3⟩
        · exact Or.inl ⟨k, by omega, h2, h3⟩
      · rintro (⟨k, h1, h2, h3⟩ | ⟨h2, h3⟩)
        · exact ⟨k, by omega, h2, h3⟩
        · exact ⟨n, by omega, h2, h3⟩
    rw [ex, ← or_assoc, ← ih, eR]
    cases he : eqK a b s n
    · simp
    · simp only [if_true, true_and]
      cases h1 : (b n).testBit p <;> cases h2 : (a n).testBit p <;> simp [Nat.testBit_or]
      rw [or_assoc]
theorem eR_lt {a b s : Nat → Nat} {n : Nat} (h : ∀ k, k < n → a k < 65536 ∧ b k < 65536) : ∀ p, p < 16 → eR a b s n p < 65536 := by
  intro p hp
  refine Nat.lt_pow_two_of_testBit (n := 16) _ (fun i hi => ?_)
  cases hb : (eR a b s n p).testBit i
  · rfl
  · rcases (eR_bit n).mp hb with e | ⟨k, h1, h2, ⟨h3, h4⟩ | ⟨h3, h4⟩⟩
    · omega
    · have := bit_lt (h k h1).2 h4; omega
    · have := bit_lt (h k h1).1 h4; omega
def aN (a b s : Nat → Nat) (n p : Nat) : Nat := clo (eR a b s n) 16 p
/-- lines that are good -/
def Gd (n : Nat) (a b s : Nat → Nat) : Prop := ∀ k, k < n → a k < 65536 ∧ b k < 65536
theorem aN_lt {a b s : Nat → Nat} {n : Nat} (h : Gd n a b s) {p : Nat} (hp : p < 16) : aN a b s n p < 65536 := clo_lt (eR_lt h) 16 (Nat.le_refl 16) p hp
theorem aN_refl {a b s : Nat → Nat} {n p : Nat} : (aN a b s n p).testBit p = true := clo_mono ((eR_bit n).mpr (Or.inl rfl)) 16
theorem aN_trans {a b s : Nat → Nat} {n p m q : Nat} (hm : m < 16) (h1 : (aN a b s n p).testBit m = true) (h2 : (aN a b s n m).testBit q = true) : (aN a b s n p).testBit q = true := clo_trans hm h1 h2
theorem aN_sym {a b s : Nat → Nat} {n p q : Nat} (hp : p < 16) (h1 : (aN a b s n p).testBit q = true) : (aN a b s n q).testBit p = true := by
  refine clo_min (ρ := eR a b s n) (fun x y => (aN a b s n y).testBit x = true) (fun x y hx h => ?_) (fun x m y hx hm h2 h3 => aN_trans hm h3 h2) 16 (Nat.le_refl 16) p q hp h1
  refine clo_mono ((eR_bit n).mpr ?_) 16
  rcases (eR_bit n).mp h with e | ⟨k, h1, h2, h3 | h3⟩
  · exact Or.inl e.symm
  · exact Or.inr ⟨k, h1, h2, Or.inr ⟨h3.2, h3.1⟩⟩
  · exact Or.inr ⟨k, h1, h2, Or.inl ⟨h3.2, h3.1⟩⟩
theorem one_same {x i j : Nat} (hx : x < 65536) (h : pc16 x = 1) (h1 : x.testBit i = true) (h2 : x.testBit j = true) : i = j := by
  obtain ⟨k, hk, rfl⟩ := one_bit hx h
  rw [pow_bit] at h1 h2
  have := of_decide_eq_true h1
  have := of_decide_eq_true h2
  omega
theorem aN_line {a b s : Nat → Nat} {n k x y : Nat} (hg : Gd n a b s) (hk : k < n) (he : eqK a b s k = true) (hx : (a k ||| b k).testBit x = true) (hy : (a k ||| b k).testBit y = true) : (aN a b s n x).testBit y = true := by
  rw [Nat.testBit_or, Bool.or_eq_true] at hx hy
  have he2 := he
  unfold eqK oneK at he2
  simp only [Bool.and_eq_true, decide_eq_true_eq] at he2
  rcases hx with hx | hx <;> rcases hy with hy | hy
  · rw [one_same (hg k hk).1 he2.1.1 hx hy]; exact aN_refl
  · exact clo_mono ((eR_bit n).mpr (Or.inr ⟨k, hk, he, Or.inl ⟨hx, hy⟩⟩)) 16
  · exact clo_mono ((eR_bit n).mpr (Or.inr ⟨k, hk, he, Or.inr ⟨hx, hy⟩⟩)) 16
  · rw [one_same (hg k hk).2 he2.1.2 hx hy]; exact aN_refl
theorem and_some {x y : Nat} (h : x &&& y ≠ 0) : ∃ i, x.testBit i = true ∧ y.testBit i = true := by
  by_cases c : ∃ i, x.testBit i = true ∧ y.testBit i = true
  · exact c
  · refine absurd (Nat.eq_of_testBit_eq (fun i => ?_)) h
    rw [Nat.zero_testBit, Nat.testBit_and]
    cases h1 : x.testBit i
    · rfl
    · cases h2 : y.testBit i
      · rfl
      · exact absurd ⟨i, h1, h2⟩ c
theorem and_ne {x y i : Nat} (h1 : x.testBit i = true) (h2 : y.testBit i = true) : x &&& y ≠ 0 := fun e => by
  have := Nat.testBit_and x y i
  rw [e, h1, h2, Nat.zero_testBit] at this
  cases this
/-! the reference's alikeTo -/
def alF (a b s : Nat → Nat) (f : Nat) : Nat → Nat
  | 0 => f
  | k + 1 => if eqK a b s k && decide ((a k ||| b k) &&& f ≠ 0) then (alF a b s f k ||| a k) ||| b k else alF a b s f k
theorem alF_bit {a b s : Nat → Nat} {f q : Nat} : ∀ n, (alF a b s f n).testBit q = true ↔ (f.testBit q = true ∨ ∃ k, k < n ∧ eqK a b s k = true ∧ (a k ||| b k) &&& f ≠ 0 ∧ (a k ||| b k).testBit q = true)
  | 0 => by
    rw [alF]
    constructor
    · exact Or.inl
    · rintro (h | ⟨k, h, -⟩)
      · exact h
      · omega
  | n + 1 => by
    have ih := alF_bit (a := a) (b := b) (s := s) (f := f) (q := q) n
    have ex : (∃ k, k < n + 1 ∧ eqK a b s k = true ∧ (a k ||| b k) &&& f ≠ 0 ∧ (a k ||| b k).testBit q = true) ↔ ((∃ k, k < n ∧ eqK a b s k = true ∧ (a k ||| b k) &&& f ≠ 0 ∧ (a k ||| b k).testBit q = true) ∨ (eqK a b s n = true ∧ (a n ||| b n) &&& f ≠ 0 ∧ (a n ||| b n).testBit q = true)) := by
      constructor
      · rintro ⟨k, h1, h2, h3⟩
        by_cases e : k = n
        · subst e; exact Or.inr ⟨h2, h3⟩
        · exact Or.inl ⟨k, by omega, h2, h3⟩
      · rintro (⟨k, h1, h2, h3⟩ | ⟨h2, h3⟩)
        · exact ⟨k, by omega, h2, h3⟩
        · exact ⟨n, by omega, h2, h3⟩
    rw [ex, ← or_assoc, ← ih, alF]
    by_cases h1 : eqK a b s n = true
    · by_cases h2 : (a n ||| b n) &&& f ≠ 0
      · rw [h1, decide_eq_true h2]
        simp only [Bool.and_self, if_true, true_and, Nat.testBit_or, Bool.or_eq_true]
        have : ((a n ||| b n) &&& f ≠ 0) = True := eq_true h2
        rw [this, true_and, or_assoc]
      · rw [decide_eq_false h2]
        have : ((a n ||| b n) &&& f ≠ 0) = False := eq_false h2
        simp [this]
    · have : eqK a b s n = false := by simpa using h1
      simp [this]
theorem alF_lt {a b s : Nat → Nat} {n f : Nat} (hg : Gd n a b s) (hf : f < 65536) : alF a b s f n < 65536 := by
  refine Nat.lt_pow_two_of_testBit (n := 16) _ (fun i hi => ?_)
  cases hb : (alF a b s f n).testBit i
  · rfl
  · rcases (alF_bit n).mp hb with e | ⟨k, h1, -, -, h4⟩
    · have := bit_lt hf e; omega
    · rw [Nat.testBit_or, Bool.or_eq_true] at h4
      rcases h4 with h4 | h4
      · have := bit_lt (hg k h1).1 h4; omega
      · have := bit_lt (hg k h1).2 h4; omega
theorem sup_le {x y : Nat} (h : ∀ i, x.testBit i = true → y.testBit i = true) : x ≤ y := by
  have : x ||| y = y := Nat.eq_of_testBit_eq (fun i => by
    rw [Nat.testBit_or]
    cases hx : x.testBit i
    · rfl
    · rw [h i hx]; rfl)
  rw [← this]; exact Nat.left_le_or
theorem oneOne_n {n : Nat} {a b s : Nat → Nat} {to v : St} (h : Wg n a b s to v) {k : Nat} (hk : k < n) : fX12_isOneAndOne v (nI k) = some (nI (b01 (oneK a b k))) := by
  obtain ⟨h1, h2, h3, h4⟩ := h
  obtain ⟨a1, b1, -, -, -, -, -, e1, -, e2, -, -⟩ := h4 k hk
  have l1 := pc16_le (a k)
  have l2 := pc16_le (b k)
  unfold fX12_isOneAndOne oneK
  rw [gd_n (by omega) (by decide), ix_n (by omega), e1, bits_n (by omega), sbind, gd_n (by omega) (by decide), e2, bits_n (by omega), sbind]
  by_cases c1 : pc16 (a k) = 1
  · rw [c1, if_pos (show nI 1 = 1 from rfl)]
    by_cases c2 : pc16 (b k) = 1
    · rw [c2, if_pos (show nI 1 = 1 from rfl)]; rfl
    · rw [if_neg (ne_n (x := 1) (b := 1) rfl c2 (by omega) (by omega)), decide_eq_false c2]; rfl
  · rw [if_neg (ne_n (x := 1) (b := 1) rfl c1 (by omega) (by omega)), decide_eq_false c1]; rfl
theorem oneEach_n {n : Nat} {a b s : Nat → Nat} {to v : St} (h : Wg n a b s to v) {k : Nat} (hk : k < n) : fX6_isOneEach to (nI k) = some (nI (b01 (oneK a b k))) := by
  obtain ⟨h1, h2, h3, h4⟩ := h
  obtain ⟨a1, b1, -, -, -, -, e1, -, e2, -, -, -⟩ := h4 k hk
  have l1 := pc16_le (a k)
  have l2 := pc16_le (b k)
  unfold fX6_isOneEach oneK
  simp only [lett_s]
  rw [gd_n (by omega) (by decide), ix_n (by omega), e1, bitCount_n (by omega), gd_n (by omega) (by decide), e2, bitCount_n (by omega)]
  by_cases c1 : pc16 (a k) = 1
  · rw [c1, if_pos (show nI 1 = 1 from rfl)]
    by_cases c2 : pc16 (b k) = 1
    · rw [c2, if_pos (show nI 1 = 1 from rfl)]; rfl
    · rw [if_neg (ne_n (x := 1) (b := 1) rfl c2 (by omega) (by omega)), decide_eq_false c2]; rfl
  · rw [if_neg (ne_n (x := 1) (b := 1) rfl c1 (by omega) (by omega)), decide_eq_false c1]; rfl
theorem al_in {n : Nat} {a b s : Nat → Nat} {to v : St} (h : Wg n a b s to v) {f : Nat} (hf : f < 65536) (lp : Int32 → Int32 → Option Int32) : fX12_alikeTo_L16 v lp FU (nI f) (nI f) 0 = lp (nI (alF a b s f n)) (nI f) := by
  have hn := h.1
  refine for_all (fun m (c : Nat) k => fX12_alikeTo_L16 v lp m (nI c) (nI f) (nI k)) n (fun k => alF a b s f k) _ (fun m => ?_) (fun m k hk => ?_) (by omega)
  · show bX12_alikeTo_L16 v _ _ _ _ _ = _
    unfold bX12_alikeTo_L16
    rw [h.2.2.1, if_pos (nI_le (Nat.le_refl n) (by omega))]
  · show bX12_alikeTo_L16 v _ _ _ _ _ = fX12_alikeTo_L16 v lp m _ _ _
    unfold bX12_alikeTo_L16
    obtain ⟨a1, b1, -, -, -, s1, -, e1, -, e2, -, e3⟩ := h.2.2.2 k hk
    have l1 : a k ||| b k < 65536 := Nat.or_lt_two_pow (n := 16) a1 b1
    rw [h.2.2.1, if_neg (nI_ge hk (by omega)), oneOne_n h hk, sbind]
    simp only [lett_s]
    rw [gd_n (by omega) (by decide), ix_n (by omega), e3, gd_n (by omega) (by decide), gd_n (by omega) (by decide), gd_n (by omega) (by decide), gd_n (by omega) (by decide), e1, e2, fa_or, fa_and, n1, fa_or, fa_or]
    have hle : (a k ||| b k) &&& f ≤ f := Nat.and_le_right
    have hd : alF a b s f (k + 1) = if eqK a b s k && decide ((a k ||| b k) &&& f ≠ 0) then (alF a b s f k ||| a k) ||| b k else alF a b s f k := rfl
    rw [hd]
    unfold eqK
    cases ho : oneK a b k
    · simp only [dF, if_true, Bool.false_and, Bool.false_eq_true, if_false]
    · simp only [dT, if_false, Bool.true_and]
      by_cases c1 : s k = 61
      · rw [c1, if_pos (show nI 61 = 61 from rfl), decide_eq_true rfl, Bool.true_and]
        by_cases c2 : (a k ||| b k) &&& f = 0
        · rw [c2, if_pos (show nI 0 = 0 from rfl)]; rfl
        · rw [if_neg (nI_ne0 (by omega) (by omega)), decide_eq_true c2]; rfl
      · rw [if_neg (ne_n (x := 61) (b := 61) rfl c1 (by omega) (by omega)), decide_eq_false c1]; rfl
theorem al_end {n : Nat} {a b s : Nat → Nat} (hg : Gd n a b s) {p S : Nat} (hp : p < 16) (hS : S < 65536) (h1 : S.testBit p = true) (h2 : ∀ q, S.testBit q = true → (aN a b s n p).testBit q = true) (h3 : alF a b s S n = S) : S = aN a b s n p := by
  refine Nat.eq_of_testBit_eq (fun q => ?_)
  cases hb : (aN a b s n p).testBit q
  · cases hc : S.testBit q
    · rfl
    · rw [h2 q hc] at hb; cases hb
  · refine clo_min (ρ := eR a b s n) (fun x y => S.testBit x = true → S.testBit y = true) (fun x y hx h hs => ?_) (fun x m y _ _ e1 e2 e => e2 (e1 e)) 16 (Nat.le_refl 16) p q hp hb h1
    rcases (eR_bit n).mp h with e | ⟨k, g1, g2, g3⟩
    · rw [← e]; exact hs
    · have : (a k ||| b k).testBit x = true ∧ (a k ||| b k).testBit y = true := by
        rw [Nat.testBit_or, Nat.testBit_or]
        rcases g3 with ⟨g3, g4⟩ | ⟨g3, g4⟩ <;> rw [g3, g4] <;> simp
      rw [← h3]
      exact (alF_bit n).mpr (Or.inr ⟨k, g1, g2, and_ne this.1 hs, this.2⟩)
theorem alike12 {n : Nat} {a b s : Nat → Nat} {to v : St} (h : Wg n a b s to v) {p : Nat} (hp : p < 16) : fX12_alikeTo v (nI p) = some (nI (aN a b s n p)) := by
  have hg : Gd n a b s := fun k hk => ⟨(h.2.2.2 k hk).1, (h.2.2.2 k hk).2.1⟩
  have key : ∀ m S f, S < 65536 → f < 65536 → S.testBit p = true → (∀ q, S.testBit q = true → (aN a b s n p).testBit q = true) → (f = 0 ∨ S = alF a b s f n) → 65536 - S < m → fX12_alikeTo_L6 v m (nI S) (nI f) = some (nI (aN a b s n p)) := by
    intro m
    induction m with
    | zero => intro S f _ _ _ _ _ q; omega
    | succ m ih =>
      intro S f hS hf h1 h2 h3 hm
      show bX12_alikeTo_L6 v _ _ _ = _
      unfold bX12_alikeTo_L6
      by_cases c : S = f
      · subst c
        have h4 : alF a b s S n = S := by
          rcases h3 with h3 | h3
          · subst h3; rw [Nat.zero_testBit] at h1; cases h1
          · exact h3.symm
        rw [if_pos rfl, ← al_end hg hp hS h1 h2 h4]
      · rw [if_neg (fun e => c ((nI_eq (by omega) (by omega)).mp e)), al_in h hS]
        have hlt := alF_lt (s := s) hg hS
        have hsup : S ≤ alF a b s S n := sup_le (fun i hi => (alF_bit n).mpr (Or.inl hi))
        have h2' : ∀ q, (alF a b s S n).testBit q = true → (aN a b s n p).testBit q = true := fun q hq => by
          rcases (alF_bit n).mp hq with e | ⟨k, g1, g2, g3, g4⟩
          · exact h2 q e
          · obtain ⟨x, x1, x2⟩ := and_some g3
            exact aN_trans (bit_lt hS x2) (h2 x x2) (aN_line hg g1 g2 x1 g4)
        by_cases c2 : alF a b s S n = S
        · rw [c2]
          obtain ⟨m, rfl⟩ : ∃ q, m = q + 1 := ⟨m - 1, by omega⟩
          show bX12_alikeTo_L6 v _ _ _ = _
          unfold bX12_alikeTo_L6
          rw [if_pos rfl, ← al_end hg hp hS h1 h2 c2]
        · exact ih (alF a b s S n) S hlt hS ((alF_bit n).mpr (Or.inl h1)) h2' (Or.inr rfl) (by omega)
  unfold fX12_alikeTo
  rw [lett_s, shl1 p (by omega)]
  exact key FU (2 ^ p) 0 (Nat.pow_lt_pow_right (n := 16) (by decide) hp) (by decide) (by rw [pow_bit]; simp) (fun q hq => by
    rw [pow_bit] at hq
    have := of_decide_eq_true hq
    subst this
    exact aN_refl) (Or.inl rfl) (by have := Nat.two_pow_pos p; show _ < 1000000; omega)

/-! who is lighter -/
def dR (a b s : Nat → Nat) (n : Nat) : Nat → Nat → Nat
  | 0 => fun _ => 0
  | k + 1 => if dfK a b s k then (fun p => if (aN a b s n (ixB (hvK a b s k))).testBit p then dR a b s n k p ||| aN a b s n (ixB (ltK a b s k)) else dR a b s n k p) else dR a b s n k
theorem ex_succ {P : Nat → Prop} {n : Nat} : (∃ k, k < n + 1 ∧ P k) ↔ ((∃ k, k < n ∧ P k) ∨ P n) := by
  constructor
  · rintro ⟨k, h1, h2⟩
    by_cases e : k = n
    · subst e; exact Or.inr h2
    · exact Or.inl ⟨k, by omega, h2⟩
  · rintro (⟨k, h1, h2⟩ | h2)
    · exact ⟨k, by omega, h2⟩
    · exact ⟨n, by omega, h2⟩
theorem dR_bit {a b s : Nat → Nat} {n p q : Nat} : ∀ m, (dR a b s n m p).testBit q = true ↔ ∃ k, k < m ∧ (dfK a b s k = true ∧ (aN a b s n (ixB (hvK a b s k))).testBit p = true ∧ (aN a b s n (ixB (ltK a b s k))).testBit q = true)
  | 0 => by
    rw [dR, Nat.zero_testBit]
    constructor
    · intro h; cases h
    · rintro ⟨k, h, -⟩; omega
  | m + 1 => by
    have ih := dR_bit (a := a) (b := b) (s := s) (n := n) (p := p) (q := q) m
    rw [ex_succ, ← ih, dR]
    cases h1 : dfK a b s m
    · simp
    · simp only [if_true, true_and]
      cases h2 : (aN a b s n (ixB (hvK a b s m))).testBit p <;> simp [Nat.testBit_or]
theorem df_one {a b s : Nat → Nat} {n k : Nat} (hg : Gd n a b s) (hk : k < n) (h : dfK a b s k = true) : ∃ i j, i < 16 ∧ j < 16 ∧ hvK a b s k = 2 ^ i ∧ ltK a b s k = 2 ^ j := by
  unfold dfK oneK at h
  simp only [Bool.and_eq_true, decide_eq_true_eq] at h
  obtain ⟨i, hi, ei⟩ := one_bit (hg k hk).1 h.1.1
  obtain ⟨j, hj, ej⟩ := one_bit (hg k hk).2 h.1.2
  unfold hvK ltK
  by_cases c : s k = 60
  · rw [if_pos c, if_pos c]; exact ⟨j, i, hj, hi, ej, ei⟩
  · rw [if_neg c, if_neg c]; exact ⟨i, j, hi, hj, ei, ej⟩
theorem dR_lt {a b s : Nat → Nat} {n : Nat} (hg : Gd n a b s) {m : Nat} (hm : m ≤ n) : ∀ p, p < 16 → dR a b s n m p < 65536 := by
  intro p hp
  refine Nat.lt_pow_two_of_testBit (n := 16) _ (fun i hi => ?_)
  cases hb : (dR a b s n m p).testBit i
  · rfl
  · obtain ⟨k, h1, h2, -, h4⟩ := (dR_bit m).mp hb
    obtain ⟨x, y, hx, hy, ex, ey⟩ := df_one hg (by omega) h2
    rw [ey, ixB_pow hy] at h4
    have := bit_lt (aN_lt hg hy) h4; omega
def lgN (a b s : Nat → Nat) (n p : Nat) : Nat := clo (dR a b s n n) 16 p
theorem lgN_lt {a b s : Nat → Nat} {n : Nat} (hg : Gd n a b s) {p : Nat} (hp : p < 16) : lgN a b s n p < 65536 := clo_lt (dR_lt hg (Nat.le_refl n)) 16 (Nat.le_refl 16) p hp
def liF (a b s : Nat → Nat) (n p f : Nat) : Nat → Nat
  | 0 => f
  | k + 1 => if dfK a b s k && decide ((f ||| aN a b s n p) &&& hvK a b s k ≠ 0) then liF a b s n p f k ||| aN a b s n (ixB (ltK a b s k)) else liF a b s n p f k
theorem liF_bit {a b s : Nat → Nat} {n p f q : Nat} : ∀ m, (liF a b s n p f m).testBit q = true ↔ (f.testBit q = true ∨ ∃ k, k < m ∧ (dfK a b s k = true ∧ (f ||| aN a b s n p) &&& hvK a b s k ≠ 0 ∧ (aN a b s n (ixB (ltK a b s k))).testBit q = true))
  | 0 => by
    rw [liF]
    constructor
    · exact Or.inl
    · rintro (h | ⟨k, h, -⟩)
      · exact h
      · omega
  | m + 1 => by
    have ih := liF_bit (a := a) (b := b) (s := s) (n := n) (p := p) (f := f) (q := q) m
    rw [ex_succ, ← or_assoc, ← ih, liF]
    by_cases h1 : dfK a b s m = true
    · by_cases h2 : (f ||| aN a b s n p) &&& hvK a b s m ≠ 0
      · have : ((f ||| aN a b s n p) &&& hvK a b s m ≠ 0) = True := eq_true h2
        rw [h1, decide_eq_true h2, this]
        simp only [Bool.and_self, if_true, true_and, Nat.testBit_or, Bool.or_eq_true]
      · have : ((f ||| aN a b s n p) &&& hvK a b s m ≠ 0) = False := eq_false h2
        rw [decide_eq_false h2, this]; simp
    · have : dfK a b s m = false := by simpa using h1
      simp [this]
theorem liF_lt {a b s : Nat → Nat} {n p f : Nat} (hg : Gd n a b s) (hf : f < 65536) : liF a b s n p f n < 65536 := by
  refine Nat.lt_pow_two_of_testBit (n := 16) _ (fun i hi => ?_)
  cases hb : (liF a b s n p f n).testBit i
  · rfl
  · rcases (liF_bit n).mp hb with e | ⟨k, h1, h2, -, h4⟩
    · have := bit_lt hf e; omega
    · obtain ⟨x, y, hx, hy, ex, ey⟩ := df_one hg h1 h2
      rw [ey, ixB_pow hy] at h4
      have := bit_lt (aN_lt hg hy) h4; omega
theorem li_end {n : Nat} {a b s : Nat → Nat} (hg : Gd n a b s) {p S : Nat} (hp : p < 16) (hS : S < 65536) (h2 : ∀ q, S.testBit q = true → (lgN a b s n p).testBit q = true) (h4 : ∀ x y, S.testBit x = true → (aN a b s n x).testBit y = true → S.testBit y = true) (h3 : liF a b s n p S n = S) : S = lgN a b s n p := by
  refine Nat.eq_of_testBit_eq (fun q => ?_)
  cases hb : (lgN a b s n p).testBit q
  · cases hc : S.testBit q
    · rfl
    · rw [h2 q hc] at hb; cases hb
  · refine clo_min (ρ := dR a b s n n) (fun x y => ((aN a b s n p).testBit x = true ∨ S.testBit x = true) → S.testBit y = true) (fun x y hx h hs => ?_) (fun x m y _ _ e1 e2 e => e2 (Or.inr (e1 e))) 16 (Nat.le_refl 16) p q hp hb (Or.inl aN_refl)
    obtain ⟨k, g1, g2, g3, g4⟩ := (dR_bit n).mp h
    obtain ⟨i, j, hi, hj, ei, ej⟩ := df_one hg g1 g2
    rw [ei, ixB_pow hi] at g3
    have hxi := aN_sym hi g3
    rw [← h3]
    refine (liF_bit n).mpr (Or.inr ⟨k, g1, g2, ?_, g4⟩)
    refine and_ne (i := i) ?_ (by rw [ei, pow_bit]; simp)
    rw [Nat.testBit_or, Bool.or_eq_true]
    rcases hs with hs | hs
    · exact Or.inr (aN_trans hx hs hxi)
    · exact Or.inl (h4 x i hs hxi)
theorem li_in {n : Nat} {a b s : Nat → Nat} {to v : St} (h : Wg n a b s to v) {p f : Nat} (hp : p < 16) (hf : f < 65536) (lp : Int32 → Int32 → Int32 → Option Int32) : fX12_lighterThan_L14 v lp FU (nI p) (nI f) (nI f) 0 = lp (nI p) (nI (liF a b s n p f n)) (nI f) := by
  have hn := h.1
  have hg : Gd n a b s := fun k hk => ⟨(h.2.2.2 k hk).1, (h.2.2.2 k hk).2.1⟩
  refine for_all (fun m (c : Nat) k => fX12_lighterThan_L14 v lp m (nI p) (nI c) (nI f) (nI k)) n (fun k => liF a b s n p f k) _ (fun m => ?_) (fun m k hk => ?_) (by omega)
  · show bX12_lighterThan_L14 v _ _ _ _ _ _ = _
    unfold bX12_lighterThan_L14
    rw [h.2.2.1, if_pos (nI_le (Nat.le_refl n) (by omega))]
  · show bX12_lighterThan_L14 v _ _ _ _ _ _ = fX12_lighterThan_L14 v lp m _ _ _ _
    unfold bX12_lighterThan_L14
    obtain ⟨a1, b1, -, -, -, s1, -, e1, -, e2, -, e3⟩ := h.2.2.2 k hk
    rw [h.2.2.1, if_neg (nI_ge hk (by omega)), oneOne_n h hk, sbind, gd_n (by omega) (by decide), ix_n (by omega), e3, gd_n (by omega) (by decide), gd_n (by omega) (by decide), gd_n (by omega) (by decide), e1, e2]
    simp only [lett_s]
    rw [n1]
    have hd : liF a b s n p f (k + 1) = if dfK a b s k && decide ((f ||| aN a b s n p) &&& hvK a b s k ≠ 0) then liF a b s n p f k ||| aN a b s n (ixB (ltK a b s k)) else liF a b s n p f k := rfl
    rw [hd]
    cases ho : oneK a b k
    · have : dfK a b s k = false := by unfold dfK; rw [ho]; rfl
      rw [this]
      simp only [dF, if_true, Bool.false_and, Bool.false_eq_true, if_false]
    · simp only [dT, if_false]
      by_cases c1 : s k = 61
      · have : dfK a b s k = false := by unfold dfK; rw [ho, c1]; rfl
        rw [this, c1, if_pos (show nI 61 = 61 from rfl)]; rfl
      · have hdf : dfK a b s k = true := by unfold dfK; rw [ho, decide_eq_false c1]; rfl
        rw [if_neg (ne_n (x := 61) (b := 61) rfl c1 (by omega) (by omega)), hdf, Bool.true_and]
        obtain ⟨i, j, hi, hj, ei, ej⟩ := df_one hg hk hdf
        have hai := aN_lt hg hp
        have key : ∀ lp14 x5 y0, x5 = ltK a b s k → y0 = hvK a b s k → lp14 = fX12_lighterThan_L14 v lp m → fX12_lighterThan_J107 v lp lp14 (nI p) (nI (liF a b s n p f k)) (nI f) (nI k) (nI y0) (nI x5) = fX12_lighterThan_L14 v lp m (nI p) (nI (if decide ((f ||| aN a b s n p) &&& hvK a b s k ≠ 0) = true then liF a b s n p f k ||| aN a b s n (ixB (ltK a b s k)) else liF a b s n p f k)) (nI f) (nI (k + 1)) := by
          intro lp14 x5 y0 hx hy hlp
          subst hx; subst hy; subst hlp
          unfold fX12_lighterThan_J107
          simp only [lett_s]
          have hpj : 2 ^ j < 65536 := Nat.pow_lt_pow_right (n := 16) (by decide) hj
          rw [alike12 h hp, sbind, fa_or, fa_and, ej, lowest_n (t := 2 ^ j) (p := j) (by omega) (by omega) (by rw [pow_bit]; simp) (fun i hi => by rw [pow_bit]; exact decide_eq_false (by omega)), sbind, alike12 h hj, sbind, fa_or, n1, ixB_pow hj]
          have hle : (f ||| aN a b s n p) &&& hvK a b s k ≤ f ||| aN a b s n p := Nat.and_le_left
          have hlo : f ||| aN a b s n p < 65536 := Nat.or_lt_two_pow (n := 16) hf hai
          by_cases c2 : (f ||| aN a b s n p) &&& hvK a b s k = 0
          · rw [c2, if_pos (show nI 0 = 0 from rfl)]; rfl
          · rw [if_neg (nI_ne0 (by omega) (by omega)), decide_eq_true c2]; rfl
        have hh : hvK a b s k = if s k = 60 then b k else a k := rfl
        have hl : ltK a b s k = if s k = 60 then a k else b k := rfl
        unfold fX12_lighterThan_J76
        rw [gd_n (by omega) (by decide), gd_n (by omega) (by decide), gd_n (by omega) (by decide), gd_n (by omega) (by decide), gd_n (by omega) (by decide), gd_n (by omega) (by decide), ix_n (by omega), e3, e1, e2]
        by_cases c2 : s k = 60
        · have c3 : nI (s k) = 60 := by rw [c2]; rfl
          rw [if_pos c3, if_pos c3]
          exact key _ _ _ (by rw [hl, if_pos c2]) (by rw [hh, if_pos c2]) rfl
        · have c3 : ¬ nI (s k) = 60 := ne_n (x := 60) (b := 60) rfl c2 (by omega) (by omega)
          rw [if_neg c3, if_neg c3]
          exact key _ _ _ (by rw [hl, if_neg c2]) (by rw [hh, if_neg c2]) rfl
theorem light12 {n : Nat} {a b s : Nat → Nat} {to v : St} (h : Wg n a b s to v) {p : Nat} (hp : p < 16) : fX12_lighterThan v (nI p) = some (nI (lgN a b s n p)) := by
  have hg : Gd n a b s := fun k hk => ⟨(h.2.2.2 k hk).1, (h.2.2.2 k hk).2.1⟩
  have key : ∀ m S f, S < 65536 → (∀ q, S.testBit q = true → (lgN a b s n p).testBit q = true) → (∀ x y, S.testBit x = true → (aN a b s n x).testBit y = true → S.testBit y = true) → (f = -1 ∨ ∃ f' : Nat, f' < 65536 ∧ f = nI f' ∧ S = liF a b s n p f' n) → 65536 - S < m → fX12_lighterThan_L4 v m (nI p) (nI S) f = some (nI (lgN a b s n p)) := by
    intro m
    induction m with
    | zero => intro S f _ _ _ _ q; omega
    | succ m ih =>
      intro S f hS h2 h4 h3 hm
      show bX12_lighterThan_L4 v _ _ _ _ = _
      unfold bX12_lighterThan_L4
      by_cases c : nI S = f
      · rw [if_pos c]
        rcases h3 with h3 | ⟨f', q1, q2, q3⟩
        · rw [h3] at c
          have := congrArg Int32.toInt c
          rw [nI_toInt (by omega), show (-1 : Int32).toInt = -1 from by decide] at this
          omega
        · rw [q2] at c
          have := (nI_eq (by omega) (by omega)).mp c
          subst this
          rw [← li_end hg hp hS h2 h4 q3.symm]
      · rw [if_neg c, li_in h hp hS]
        have hlt := liF_lt (s := s) (p := p) hg hS
        have hsup : S ≤ liF a b s n p S n := sup_le (fun i hi => (liF_bit n).mpr (Or.inl hi))
        have h2' : ∀ q, (liF a b s n p S n).testBit q = true → (lgN a b s n p).testBit q = true := fun q hq => by
          rcases (liF_bit n).mp hq with e | ⟨k, g1, g2, g3, g4⟩
          · exact h2 q e
          · obtain ⟨i, j, hi, hj, ei, ej⟩ := df_one hg g1 g2
            obtain ⟨x, x1, x2⟩ := and_some g3
            rw [ei, pow_bit] at x2
            have : i = x := of_decide_eq_true x2
            subst this
            rw [Nat.testBit_or, Bool.or_eq_true] at x1
            rcases x1 with x1 | x1
            · exact clo_trans hi (h2 i x1) (clo_mono ((dR_bit n).mpr ⟨k, g1, g2, by rw [ei, ixB_pow hi]; exact aN_refl, g4⟩) 16)
            · exact clo_mono ((dR_bit n).mpr ⟨k, g1, g2, by rw [ei, ixB_pow hi]; exact aN_sym hp x1, g4⟩) 16
        have h4' : ∀ x y, (liF a b s n p S n).testBit x = true → (aN a b s n x).testBit y = true → (liF a b s n p S n).testBit y = true := fun x y hx hy => by
          rcases (liF_bit n).mp hx with e | ⟨k, g1, g2, g3, g4⟩
          · exact (liF_bit n).mpr (Or.inl (h4 x y e hy))
          · obtain ⟨i, j, hi, hj, ei, ej⟩ := df_one hg g1 g2
            have g5 := g4
            rw [ej, ixB_pow hj] at g5
            have hx16 := bit_lt (aN_lt hg hj) g5
            exact (liF_bit n).mpr (Or.inr ⟨k, g1, g2, g3, aN_trans hx16 g4 hy⟩)
        by_cases c2 : liF a b s n p S n = S
        · rw [c2]
          obtain ⟨m, rfl⟩ : ∃ q, m = q + 1 := ⟨m - 1, by omega⟩
          show bX12_lighterThan_L4 v _ _ _ _ = _
          unfold bX12_lighterThan_L4
          rw [if_pos rfl, ← li_end hg hp hS h2 h4 c2]
        · exact ih (liF a b s n p S n) (nI S) hlt h2' h4' (Or.inr ⟨S, hS, rfl, rfl⟩) (by omega)
  unfold fX12_lighterThan
  exact key FU 0 (-1) (by decide) (fun q hq => by rw [Nat.zero_testBit] at hq; cases hq) (fun x y hx _ => by rw [Nat.zero_testBit] at hx; cases hx) (Or.inl rfl) (by show _ < 1000000; omega)
