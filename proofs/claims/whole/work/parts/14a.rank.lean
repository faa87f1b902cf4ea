/-! ===== heavier: rows of sets, closed ===== -/
def stg (ρ : Nat → Nat) (m : Nat) : Nat → Nat := fun p => if (ρ p).testBit m then ρ p ||| ρ m else ρ p
def clo (ρ : Nat → Nat) : Nat → Nat → Nat
  | 0 => ρ
  | m + 1 => stg (clo ρ m) m
theorem stg_self (ρ : Nat → Nat) (m : Nat) : stg ρ m m = ρ m := by
  unfold stg
  split
  · exact Nat.or_self _
  · rfl
theorem stg_bit (ρ : Nat → Nat) (m p q : Nat) : (stg ρ m p).testBit q = ((ρ p).testBit q || ((ρ p).testBit m && (ρ m).testBit q)) := by
  unfold stg
  cases h : (ρ p).testBit m
  · simp
  · simp [Nat.testBit_or]
theorem stg_lt {ρ : Nat → Nat} (h : ∀ p, p < 16 → ρ p < 65536) {m : Nat} (hm : m < 16) : ∀ p, p < 16 → stg ρ m p < 65536 := by
  intro p hp
  unfold stg
  split
  · exact Nat.or_lt_two_pow (n := 16) (h p hp) (h m hm)
  · exact h p hp
theorem clo_lt {ρ : Nat → Nat} (h : ∀ p, p < 16 → ρ p < 65536) : ∀ k, k ≤ 16 → ∀ p, p < 16 → clo ρ k p < 65536
  | 0, _ => h
  | k + 1, hk => stg_lt (clo_lt h k (by omega)) (by omega)
theorem clo_mono {ρ : Nat → Nat} {p q : Nat} (h : (ρ p).testBit q = true) : ∀ k, (clo ρ k p).testBit q = true
  | 0 => h
  | k + 1 => by
    show (stg (clo ρ k) k p).testBit q = true
    rw [stg_bit, clo_mono h k]; rfl
theorem clo_at {ρ : Nat → Nat} : ∀ k m, m < k → ∀ p q, (clo ρ k p).testBit m = true → (clo ρ k m).testBit q = true → (clo ρ k p).testBit q = true
  | 0, m, h => by omega
  | k + 1, m, h => by
    intro p q
    show (stg (clo ρ k) k p).testBit m = true → (stg (clo ρ k) k m).testBit q = true → (stg (clo ρ k) k p).testBit q = true
    have ih := fun m' (hm : m' < k) => clo_at (ρ := ρ) k m' hm
    by_cases e : m = k
    · subst e
      rw [stg_self, stg_bit, stg_bit]
      intro h1 h2
      rw [h2]
      cases h3 : (clo ρ m p).testBit m
      · rw [h3] at h1; simp at h1
      · simp
    · have hm : m < k := by omega
      rw [stg_bit, stg_bit, stg_bit]
      simp only [Bool.or_eq_true, Bool.and_eq_true]
      rintro (h1 | ⟨h1, h2⟩) (h3 | ⟨h3, h4⟩)
      · exact Or.inl (ih m hm p q h1 h3)
      · exact Or.inr ⟨ih m hm p k h1 h3, h4⟩
      · exact Or.inr ⟨h1, ih m hm k q h2 h3⟩
      · exact Or.inr ⟨h1, h4⟩
theorem clo_trans {ρ : Nat → Nat} {p m q : Nat} (hm : m < 16) (h1 : (clo ρ 16 p).testBit m = true) (h2 : (clo ρ 16 m).testBit q = true) : (clo ρ 16 p).testBit q = true := clo_at 16 m hm p q h1 h2
theorem clo_min {ρ : Nat → Nat} (Y : Nat → Nat → Prop) (h1 : ∀ p q, p < 16 → (ρ p).testBit q = true → Y p q) (h2 : ∀ p m q, p < 16 → m < 16 → Y p m → Y m q → Y p q) : ∀ k, k ≤ 16 → ∀ p q, p < 16 → (clo ρ k p).testBit q = true → Y p q
  | 0, _ => h1
  | k + 1, hk => by
    intro p q hp
    show (stg (clo ρ k) k p).testBit q = true → Y p q
    rw [stg_bit]
    simp only [Bool.or_eq_true, Bool.and_eq_true]
    have ih := clo_min Y h1 h2 k (by omega)
    rintro (h | ⟨h3, h4⟩)
    · exact ih p q hp h
    · exact h2 p k q hp (by omega) (ih p k hp h3) (ih k q (by omega) h4)
def Rows (ρ : Nat → Nat) (r : Nat → Int32) : Prop := ∀ p, p < 16 → ρ p < 65536 ∧ r p = nI (ρ p)
theorem join_n {ρ : Nat → Nat} {r : Nat → Int32} (h : Rows ρ r) {a b : Nat} (ha : a < 65536) (hb : b < 65536) : ∃ r2, fX6_join r (nI a) (nI b) = some r2 ∧ Rows (fun p => if a.testBit p then ρ p ||| b else ρ p) r2 := by
  have key : ∀ m p r, p ≤ 16 → 16 - p < m → (∀ q, q < 16 → r q = nI (if q < p ∧ a.testBit q = true then ρ q ||| b else ρ q)) → ∃ r2, fX6_join_L2 m r (nI a) (nI b) (nI p) = some r2 ∧ Rows (fun p => if a.testBit p then ρ p ||| b else ρ p) r2 := by
    intro m
    induction m with
    | zero => intro p r _ q; omega
    | succ m ih =>
      intro p r hp hm hr
      have e : fX6_join_L2 (m + 1) r (nI a) (nI b) (nI p) = bX6_join_L2 (fX6_join_L2 m) r (nI a) (nI b) (nI p) := rfl
      rw [e]
      unfold bX6_join_L2
      by_cases q : p = 16
      · subst q
        rw [if_pos (by decide)]
        refine ⟨r, rfl, fun p hp => ⟨?_, ?_⟩⟩
        · dsimp only
          split
          · exact Nat.or_lt_two_pow (n := 16) (h p hp).1 (by omega)
          · exact (h p hp).1
        · rw [hr p hp]
          congr 1
          simp [hp]
      · rw [if_neg (nle_n (x := 16) (a := 16) rfl (by omega) (by decide)), gd_n (by omega) (by decide), lett_s, has11_n (by omega) (by omega), ix_n (by omega)]
        unfold fX6_join_J25
        simp only [lett_s]
        have hrp : r p = nI (ρ p) := by rw [hr p (by omega), if_neg (fun e => by omega)]
        have e0 : nI (ρ p) ||| 0 = nI (ρ p) := by rw [show (0 : Int32) = nI 0 from rfl, fa_or, Nat.or_zero]
        rw [gd_n (by omega) (by decide), gd_n (by omega) (by decide), ix_n (by omega), hrp, n1, e0, fa_or]
        cases hb2 : a.testBit p
        · rw [if_pos (show nI (b01 false) = 0 from rfl)]
          refine ih (p + 1) _ (by omega) (by omega) (fun q hq => ?_)
          by_cases q2 : q = p
          · subst q2; rw [upd_s, hb2]; simp
          · rw [upd_n q2, hr q hq]
            have : (q < p ∧ a.testBit q = true) ↔ (q < p + 1 ∧ a.testBit q = true) := by
              constructor
              · exact fun e => ⟨by omega, e.2⟩
              · exact fun e => ⟨by omega, e.2⟩
            simp only [this]
        · rw [if_neg (show ¬ nI (b01 true) = 0 from by decide)]
          refine ih (p + 1) _ (by omega) (by omega) (fun q hq => ?_)
          by_cases q2 : q = p
          · subst q2; rw [upd_s, hb2]; simp
          · rw [upd_n q2, hr q hq]
            have : (q < p ∧ a.testBit q = true) ↔ (q < p + 1 ∧ a.testBit q = true) := by
              constructor
              · exact fun e => ⟨by omega, e.2⟩
              · exact fun e => ⟨by omega, e.2⟩
            simp only [this]
  have := key FU 0 r (by omega) (by show 16 - 0 < 1000000; omega) (fun q hq => by rw [if_neg (by omega)]; exact (h q hq).2)
  exact this

theorem close_n {ρ : Nat → Nat} {r : Nat → Int32} (h : Rows ρ r) : ∃ r2, fX6_close r = some r2 ∧ Rows (clo ρ 16) r2 := by
  have hlt : ∀ p, p < 16 → ρ p < 65536 := fun p hp => (h p hp).1
  have inner : ∀ (lp : (Nat → Int32) → Int32 → Option (Nat → Int32)) (τ : Nat → Nat) (m : Nat), m < 16 → (∀ p, p < 16 → τ p < 65536) → ∀ f p r, p ≤ 16 → 16 - p < f → (∀ q, q < 16 → r q = nI (if q < p then stg τ m q else τ q)) → ∃ r2, fX6_close_L10 lp f r (nI m) (nI p) = lp r2 (nI (m + 1)) ∧ Rows (stg τ m) r2 := by
    intro lp τ m hm hτ f
    induction f with
    | zero => intro p r _ q; omega
    | succ f ih =>
      intro p r hp hf hr
      have e : fX6_close_L10 lp (f + 1) r (nI m) (nI p) = bX6_close_L10 lp (fX6_close_L10 lp f) r (nI m) (nI p) := rfl
      rw [e]
      unfold bX6_close_L10
      by_cases q : p = 16
      · subst q
        rw [if_pos (by decide), lett_s, n1]
        exact ⟨r, rfl, fun p hp => ⟨stg_lt hτ hm p hp, by rw [hr p hp, if_pos hp]⟩⟩
      · rw [if_neg (nle_n (x := 16) (a := 16) rfl (by omega) (by decide)), gd_n (by omega) (by decide), gd_n (by omega) (by decide), lett_s, ix_n (by omega)]
        have hrp : r p = nI (τ p) := by rw [hr p (by omega), if_neg (by omega)]
        have hrm : r m = nI (τ m) := by
          rw [hr m hm]
          split
          · rw [stg_self]
          · rfl
        have hlp := hτ p (by omega)
        have e0 : nI (τ p) ||| 0 = nI (τ p) := by rw [show (0 : Int32) = nI 0 from rfl, fa_or, Nat.or_zero]
        rw [hrp, has11_n (by omega) (by omega)]
        unfold fX6_close_J37
        simp only [lett_s]
        rw [gd_n (by omega) (by decide), gd_n (by omega) (by decide), gd_n (by omega) (by decide), ix_n (by omega), ix_n (by omega), hrm, e0, fa_or, n1]
        cases hb2 : (τ p).testBit m
        · rw [if_pos (show nI (b01 false) = 0 from rfl)]
          refine ih (p + 1) _ (by omega) (by omega) (fun q hq => ?_)
          by_cases q2 : q = p
          · subst q2; rw [upd_s, if_pos (by omega)]; unfold stg; rw [hb2]; rfl
          · rw [upd_n q2, hr q hq]
            have : q < p ↔ q < p + 1 := by omega
            simp only [this]
        · rw [if_neg (show ¬ nI (b01 true) = 0 from by decide)]
          refine ih (p + 1) _ (by omega) (by omega) (fun q hq => ?_)
          by_cases q2 : q = p
          · subst q2; rw [upd_s, if_pos (by omega)]; unfold stg; rw [hb2]; rfl
          · rw [upd_n q2, hr q hq]
            have : q < p ↔ q < p + 1 := by omega
            simp only [this]
  have outer : ∀ f m r, m ≤ 16 → 16 - m < f → Rows (clo ρ m) r → ∃ r2, fX6_close_L2 f r (nI m) = some r2 ∧ Rows (clo ρ 16) r2 := by
    intro f
    induction f with
    | zero => intro m r _ q; omega
    | succ f ih =>
      intro m r hm hf hr
      have e : fX6_close_L2 (f + 1) r (nI m) = bX6_close_L2 (fX6_close_L2 f) r (nI m) := rfl
      rw [e]
      unfold bX6_close_L2
      by_cases q : m = 16
      · subst q
        rw [if_pos (by decide)]
        exact ⟨r, rfl, hr⟩
      · rw [if_neg (nle_n (x := 16) (a := 16) rfl (by omega) (by decide))]
        obtain ⟨r2, e1, e2⟩ := inner (fX6_close_L2 f) (clo ρ m) m (by omega) (fun p hp => (hr p hp).1) FU 0 r (by omega) (by show 16 - 0 < 1000000; omega) (fun q hq => by rw [if_neg (by omega)]; exact (hr q hq).2)
        have e3 : fX6_close_L10 (fX6_close_L2 f) FU r (nI m) 0 = _ := e1
        rw [e3]
        exact ih (m + 1) r2 (by omega) (by omega) e2
  have := outer FU 0 r (by omega) (by show 16 - 0 < 1000000; omega) h
  exact this
theorem one_bit {x : Nat} (hx : x < 65536) (h : pc16 x = 1) : ∃ i, i < 16 ∧ x = 2 ^ i := by
  have h0 : x ≠ 0 := fun e => by
    subst e
    have : pc16 0 = 0 := fb_ct_zero.mpr (fun k _ => Nat.zero_testBit k)
    omega
  obtain ⟨i, hi, h1, -⟩ := first_bit hx h0
  refine ⟨i, hi, ?_⟩
  have e := ct_xor hi h1
  have e2 : fb_ct (fun j => x.testBit j) 16 = 1 := h
  have e3 := fb_ct_zero.mp (show fb_ct (fun j => (x ^^^ 2 ^ i).testBit j) 16 = 0 by omega)
  refine Nat.eq_of_testBit_eq (fun j => ?_)
  rw [Nat.testBit_two_pow]
  by_cases hj : j < 16
  · have := e3 j hj
    rw [Nat.testBit_xor, Nat.testBit_two_pow] at this
    cases hb : x.testBit j <;> by_cases q : i = j <;> simp_all
  · rw [bit_hi hx (by omega)]
    have : ¬ i = j := by omega
    simp [this]
