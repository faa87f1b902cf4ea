/-! ===== teams ===== -/
theorem low_split {x p : Nat} (h : x.testBit p = true) (h2 : ∀ j, j < p → x.testBit j = false) : x = 2 ^ (p + 1) * (x / 2 ^ (p + 1)) + 2 ^ p := by
  have e : x % 2 ^ (p + 1) = 2 ^ p := by
    refine Nat.eq_of_testBit_eq (fun i => ?_)
    rw [Nat.testBit_mod_two_pow, Nat.testBit_two_pow]
    by_cases q : p = i
    · subst q; rw [h]; simp
    · by_cases q2 : i < p
      · rw [h2 i q2]; simp [q]
      · have : ¬ i < p + 1 := by omega
        simp [this, q]
  have := Nat.div_add_mod x (2 ^ (p + 1))
  omega
theorem low_none {x p : Nat} (h2 : ∀ j, j < p → x.testBit j = false) : x = 2 ^ p * (x / 2 ^ p) := by
  have e : x % 2 ^ p = 0 := by
    refine Nat.eq_of_testBit_eq (fun i => ?_)
    rw [Nat.testBit_mod_two_pow, Nat.zero_testBit]
    by_cases q2 : i < p
    · rw [h2 i q2]; simp
    · simp [q2]
  have := Nat.div_add_mod x (2 ^ p)
  omega
theorem or_low {m p : Nat} : 2 ^ (p + 1) * m + 2 ^ p = 2 ^ (p + 1) * m ||| 2 ^ p := Nat.two_pow_add_eq_or_of_lt (by rw [Nat.pow_succ]; have := Nat.two_pow_pos p; omega) m
theorem bit_mul {m p i : Nat} (h : i < p) : (2 ^ p * m).testBit i = false := by
  rw [Nat.mul_comm, Nat.testBit_mul_two_pow]
  have : ¬ p ≤ i := by omega
  simp [this]
/-- a set t with its lowest p: the rest of it -/
theorem low_rest {t p : Nat} (h : t.testBit p = true) (h2 : ∀ j, j < p → t.testBit j = false) : ∃ B, t ^^^ 2 ^ p = B ∧ t = B + 2 ^ p ∧ t = B ||| 2 ^ p ∧ (∀ j, j ≤ p → B.testBit j = false) ∧ ∀ y, (subm t (2 ^ p + y) = true ∧ (2 ^ p + y).testBit p = true) ↔ subm B y = true := by
  have e := low_split h h2
  have e2 := or_low (m := t / 2 ^ (p + 1)) (p := p)
  refine ⟨2 ^ (p + 1) * (t / 2 ^ (p + 1)), ?_, e, by omega, fun j hj => bit_mul (by omega), fun y => ?_⟩
  · refine Nat.eq_of_testBit_eq (fun i => ?_)
    rw [Nat.testBit_xor, Nat.testBit_two_pow]
    have e3 : t.testBit i = (2 ^ (p + 1) * (t / 2 ^ (p + 1)) ||| 2 ^ p).testBit i := by rw [← e2, ← e]
    rw [e3, bit_or]
    by_cases q : p = i
    · subst q; rw [bit_mul (by omega)]; simp
    · simp [q]
  · have hB : ∀ i, (2 ^ (p + 1) * (t / 2 ^ (p + 1))).testBit i = (t.testBit i && !decide (p = i)) := by
      intro i
      have e3 : t.testBit i = (2 ^ (p + 1) * (t / 2 ^ (p + 1)) ||| 2 ^ p).testBit i := by rw [← e2, ← e]
      rw [e3, bit_or]
      by_cases q : p = i
      · subst q; rw [bit_mul (by omega)]; simp
      · simp [q]
    have hsub : ∀ s x : Nat, subm s x = true ↔ ∀ i, x.testBit i = true → s.testBit i = true := by
      intro s x
      constructor
      · intro q i hi
        have q2 : x &&& s = x := of_decide_eq_true q
        have := Nat.testBit_and x s i
        rw [q2, hi] at this
        simpa using this.symm
      · intro q
        refine decide_eq_true (Nat.eq_of_testBit_eq (fun i => ?_))
        rw [Nat.testBit_and]
        cases hx : x.testBit i
        · rfl
        · rw [q i hx]; rfl
    constructor
    · rintro ⟨q1, q2⟩
      have hlow : ∀ j, j < p → (2 ^ p + y).testBit j = false := fun j hj => by
        cases hx : (2 ^ p + y).testBit j
        · rfl
        · have := (hsub _ _).mp q1 j hx
          rw [h2 j hj] at this
          cases this
      have e4 := low_split q2 hlow
      have e5 := or_low (m := (2 ^ p + y) / 2 ^ (p + 1)) (p := p)
      have e6 : y = 2 ^ (p + 1) * ((2 ^ p + y) / 2 ^ (p + 1)) := by omega
      rw [hsub]
      intro i hi
      rw [hB]
      have e7 : p ≠ i := fun q => by
        subst q
        rw [e6, bit_mul (by omega)] at hi
        cases hi
      have e8 : (2 ^ p + y).testBit i = true := by
        rw [e4, e5, bit_or, ← e6, hi]; rfl
      rw [(hsub _ _).mp q1 i e8]
      simp [e7]
    · intro q
      have hlow : ∀ j, j < p + 1 → y.testBit j = false := fun j hj => by
        cases hx : y.testBit j
        · rfl
        · have := (hsub _ _).mp q j hx
          rw [bit_mul hj] at this
          cases this
      have e4 := low_none hlow
      have e5 := or_low (m := y / 2 ^ (p + 1)) (p := p)
      have e6 : 2 ^ p + y = y ||| 2 ^ p := by
        rw [← e4] at e5; omega
      rw [e6, hsub]
      refine ⟨fun i hi => ?_, by rw [bit_or]; simp⟩
      rw [bit_or] at hi
      by_cases e7 : p = i
      · subst e7; exact h
      · simp [e7] at hi
        have := (hsub _ _).mp q i hi
        rw [hB] at this
        simp [e7] at this
        exact this
theorem sub_or {B p y : Nat} (hB : ∀ j, j ≤ p → B.testBit j = false) (h : subm B y = true) : 2 ^ p ||| y = 2 ^ p + y := by
  have hlow : ∀ j, j < p + 1 → y.testBit j = false := fun j hj => by
    have q2 : y &&& B = y := of_decide_eq_true h
    have := Nat.testBit_and y B j
    rw [q2, hB j (by omega), Bool.and_false] at this
    exact this
  have e4 := low_none hlow
  have e5 := or_low (m := y / 2 ^ (p + 1)) (p := p)
  rw [← e4] at e5
  rw [Nat.or_comm, ← e5]; omega
theorem low_bit {t p : Nat} (ht : t < 65536) (h : t.testBit p = true) (h2 : ∀ j, j < p → t.testBit j = false) : nI t &&& (-nI t) = nI (2 ^ p) := by
  have ht0 : 0 < t := by
    cases t with
    | zero => rw [Nat.zero_testBit] at h; cases h
    | succ t => omega
  obtain ⟨h3, h4, h5⟩ := sub_next 32 t 0 (by omega) (Nat.zero_and t) ht0
  have e : -nI t = nI (0 + 2 ^ 32 - t) := by
    rw [show -nI t = nI 0 - nI t from by rw [show nI 0 = 0 from rfl]; grind, neg_n (by omega)]
  rw [e, fa_and, Nat.and_comm]
  congr 1
  generalize (0 + 2 ^ 32 - t) &&& t = y at *
  have hp2 : 2 ^ p &&& t = 2 ^ p := by
    refine Nat.eq_of_testBit_eq (fun i => ?_)
    rw [Nat.testBit_and, Nat.testBit_two_pow]
    by_cases q : p = i
    · subst q; rw [h]; simp
    · simp [q]
  have h6 := h5 (2 ^ p) hp2 (Nat.two_pow_pos p)
  have h7 : 2 ^ p ≤ y := by
    by_cases q : 2 ^ p ≤ y
    · exact q
    · have hz : ∀ i, y.testBit i = false := fun i => by
        by_cases hi : i < p
        · have := Nat.testBit_and y t i
          rw [h4, h2 i hi, Bool.and_false] at this
          exact this
        · exact Nat.testBit_lt_two_pow (Nat.lt_of_lt_of_le (Nat.not_le.mp q) (Nat.pow_le_pow_right (by decide) (by omega)))
      have : y = 0 := Nat.eq_of_testBit_eq (fun i => by rw [hz, Nat.zero_testBit])
      omega
  omega
theorem first_bit {t : Nat} (ht : t < 65536) (h0 : t ≠ 0) : ∃ p, p < 16 ∧ t.testBit p = true ∧ ∀ j, j < p → t.testBit j = false := by
  obtain ⟨p, h1, h2, h3⟩ := fb_first (p := fun i => t.testBit i = true) (n := 16) (by
    by_cases q : ∃ i, i < 16 ∧ t.testBit i = true
    · exact q
    · refine absurd (Nat.eq_of_testBit_eq (fun i => ?_)) h0
      rw [Nat.zero_testBit]
      cases hx : t.testBit i
      · rfl
      · by_cases hi : i < 16
        · exact absurd ⟨i, hi, hx⟩ q
        · rw [bit_hi ht (by omega)] at hx; cases hx)
  exact ⟨p, h1, h2, fun j hj => by simpa using h3 j hj⟩
theorem lowest_n {t p : Nat} (ht : t < 2147483648) (hp : p < 31) (h : t.testBit p = true) (h2 : ∀ j, j < p → t.testBit j = false) : fX12_lowest (nI t) = some (nI p) := by
  refine for_all (fun n (_ : Unit) k => fX12_lowest_L2 n (nI t) (nI k)) p (fun _ => ()) _ (fun n => ?_) (fun n k hk => ?_) (by omega)
  · show bX12_lowest_L2 _ _ _ = _
    unfold bX12_lowest_L2; dsimp only [lett]
    rw [has12_n ht (by omega), h]
    simp only [dT, if_false]
  · show bX12_lowest_L2 _ _ _ = fX12_lowest_L2 n _ _
    unfold bX12_lowest_L2; dsimp only [lett]
    rw [has12_n ht (by omega), h2 k hk, n1]
    simp only [dF, if_true]
def tmD (F : Nat → Nat) (A s : Nat) : Nat := (2 * sumB s F 16 - A) + (A - 2 * sumB s F 16)
def tmG (F : Nat → Nat) (A L : Nat) (a : Nat × Nat) (s : Nat) : Nat × Nat := if a.2 ≤ tmD F A (L ||| s) then a else (L ||| s, tmD F A (L ||| s))
def tmI (F : Nat → Nat) (A : Nat) (a : Nat × Nat) : Prop := a.1 < 65536 ∧ a.2 < 1073741824 ∧ a.2 = tmD F A a.1
theorem tmD_b {F : Nat → Nat} {A s : Nat} (hF : ∀ p, p < 16 → F p ≤ 999) (hA : A ≤ 15984) : tmD F A s ≤ 47952 := by
  have := sumB_le (t := s) (F := F) (n := 16) (c := 999) hF
  unfold tmD; omega
theorem uneven_n {ch : St} {F : Nat → Nat} (hS : SumT F ch) (hF : ∀ p, p < 16 → F p ≤ 999) {x t : Nat} (hx : x < 65536) (ht : t < 65536) : fX0_unevenness ch (nI x) (nI t) = some (nI (tmD F (sumB t F 16) x)) := by
  have h1 := sumB_le (t := x) (F := F) (n := 16) (c := 999) hF
  have h2 := sumB_le (t := t) (F := F) (n := 16) (c := 999) hF
  unfold fX0_unevenness tmD
  rw [sum_n hS hx, sbind, sum_n hS ht, sbind, show (2 : Int32) = nI 2 from rfl, pk_mul, abs_n (by omega) (by omega)]
theorem even11 {ch : St} {F : Nat → Nat} (hS : SumT F ch) (hF : ∀ p, p < 16 → F p ≤ 999) {t L B : Nat} (ht : t < 65536) (hL : L < 65536) (hB : B < 65536) : fX0_evenTeam_L33 ch FU (nI t) (nI L) (nI B) (nI t) (nI (sumB t F 16)) (nI (2 ^ pc16 B)) 0 0 = some (nI (subF B (tmG F (sumB t F 16) L) (t, sumB t F 16) (B + 1)).1) ∧ tmI F (sumB t F 16) (subF B (tmG F (sumB t F 16) L) (t, sumB t F 16) (B + 1)) := by
  have hA := sumB_le (t := t) (F := F) (n := 16) (c := 999) hF
  have hp := pow16 B
  have h0 : tmI F (sumB t F 16) (t, sumB t F 16) := ⟨ht, by show sumB t F 16 < _; omega, by show sumB t F 16 = tmD _ _ t; unfold tmD; omega⟩
  have hor : ∀ s, s ≤ B → L ||| s < 65536 := fun s hs => Nat.or_lt_two_pow (n := 16) (by omega) (by omega)
  have hG : ∀ a s, tmI F (sumB t F 16) a → subm B s = true → s ≤ B → tmI F (sumB t F 16) (tmG F (sumB t F 16) L a s) := by
    intro a s h _ hs
    have := tmD_b (A := sumB t F 16) (s := L ||| s) hF (by omega)
    unfold tmG
    split
    · exact h
    · exact ⟨hor s hs, by show tmD F (sumB t F 16) (L ||| s) < _; omega, rfl⟩
  refine ⟨?_, subF_inv _ h0 hG (B + 1)⟩
  refine enum hB (fun n (a : Nat × Nat) s j => fX0_evenTeam_L33 ch n (nI t) (nI L) (nI B) (nI a.1) (nI a.2) (nI (2 ^ pc16 B)) s (nI j)) (tmG F (sumB t F 16) L) (tmI F (sumB t F 16)) (fun a => some (nI a.1)) (t, sumB t F 16) h0 hG (fun n a s _ => ?_) (fun n a s j hI hs hsB hj => ?_)
  · show bX0_evenTeam_L33 ch _ _ _ _ _ _ _ _ _ = _
    unfold bX0_evenTeam_L33
    rw [if_pos (nI_le (Nat.le_refl _) (by omega))]
  · show bX0_evenTeam_L33 ch _ _ _ _ _ _ _ _ _ = fX0_evenTeam_L33 ch n _ _ _ _ _ _ _ _
    unfold bX0_evenTeam_L33 fX0_evenTeam_J68 tmG; dsimp only [lett]
    have hD := tmD_b (A := sumB t F 16) (s := L ||| s) hF (by omega)
    obtain ⟨i1, i2, i3⟩ := hI
    rw [if_neg (nI_ge hj (by omega)), fa_or, uneven_n hS hF (hor s hsB) ht, sbind, n1]
    by_cases c1 : a.2 ≤ tmD F (sumB t F 16) (L ||| s)
    · rw [if_pos (nI_le c1 (by omega)), if_pos c1]
    · rw [if_neg (nI_ge (by omega) (by omega)), if_neg c1]
theorem even12 {v : St} {F : Nat → Nat} (hF : ∀ p, p < 16 → v 0 (16 + p) = nI (F p)) (hF2 : ∀ p, p < 16 → F p ≤ 999) {t p B : Nat} (ht : t < 65536) (hp : p < 16) (hB1 : t = B + 2 ^ p) (hB2 : ∀ j, j ≤ p → B.testBit j = false) (hB3 : ∀ y, (subm t (2 ^ p + y) = true ∧ (2 ^ p + y).testBit p = true) ↔ subm B y = true) (x : Int32) : fX12_teams_L48 v FU x (nI t) (nI (sumB t F 16)) (nI (2 ^ p)) 0 1000000 (nI (2 ^ p)) = some (if x = 0 then nI (subF B (tmG F (sumB t F 16) (2 ^ p)) (0, 1000000) (B + 1)).2 else nI (subF B (tmG F (sumB t F 16) (2 ^ p)) (0, 1000000) (B + 1)).1) := by
  have hA := sumB_le (t := t) (F := F) (n := 16) (c := 999) hF2
  have hpp := Nat.two_pow_pos p
  have hB : B < 65536 := by omega
  have h0 : (fun a : Nat × Nat => a.1 < 65536 ∧ a.2 < 1073741824) (0, 1000000) := ⟨by show 0 < _; omega, by show 1000000 < _; omega⟩
  have e := enum12 hB (fun n (a : Nat × Nat) s => fX12_teams_L48 v n x (nI t) (nI (sumB t F 16)) (nI (2 ^ p)) (nI a.1) (nI a.2) (nI (2 ^ p + s))) (tmG F (sumB t F 16) (2 ^ p)) (fun a => a.1 < 65536 ∧ a.2 < 1073741824) (fun a => some (if x = 0 then nI a.2 else nI a.1)) (0, 1000000) h0 (fun a s h hs hsB => by
    have := tmD_b (A := sumB t F 16) (s := 2 ^ p ||| s) hF2 (by omega)
    unfold tmG
    split
    · exact h
    · exact ⟨by show 2 ^ p ||| s < _; rw [sub_or hB2 hs]; omega, by show tmD F (sumB t F 16) (2 ^ p ||| s) < _; omega⟩) (fun n a _ => by
    show bX12_teams_L48 v _ _ _ _ _ _ _ _ = _
    unfold bX12_teams_L48
    rw [if_pos (nI_lt (by omega) (by omega))]
    split <;> rfl) (fun n a s hI hsB => by
    show bX12_teams_L48 v _ _ _ _ _ _ _ _ = fX12_teams_L48 v n _ _ _ _ _ _ _
    unfold bX12_teams_L48; dsimp only [lett]
    obtain ⟨i1, i2⟩ := hI
    have hl := sumB_le (t := 2 ^ p + s) (F := F) (n := 16) (c := 999) hF2
    rw [if_neg (nI_nlt (by omega) (by omega)), ndiff_eq, n1, sumOf_n (by omega) hF, sbind, show (2 : Int32) = nI 2 from rfl, pk_mul, size_ab, abs_n (by omega) (by omega)]
    have hq := hB3 s
    cases hs : subm B s
    · rw [hs] at hq
      have hq2 : ¬ (subm t (2 ^ p + s) = true ∧ (2 ^ p + s).testBit p = true) := fun q => by have := hq.mp q; cases this
      by_cases c1 : nI (ndiff (2 ^ p + s) t) = 0
      · rw [if_pos c1]
        have c2 : (2 ^ p + s).testBit p = false := by
          cases hx : (2 ^ p + s).testBit p
          · rfl
          · exact absurd ⟨(nd_sub (by omega)).mp c1, hx⟩ hq2
        rw [if_pos ((fa_bit (by omega)).mpr c2)]
        rfl
      · rw [if_neg c1]; rfl
    · obtain ⟨q1, q2⟩ := hq.mpr hs
      rw [if_pos ((nd_sub (by omega)).mpr q1), if_neg (fun e => by rw [(fa_bit (by omega)).mp e] at q2; cases q2), if_pos rfl]
      unfold tmG
      rw [sub_or hB2 hs]
      have hD : sumB t F 16 - 2 * sumB (2 ^ p + s) F 16 + (2 * sumB (2 ^ p + s) F 16 - sumB t F 16) = tmD F (sumB t F 16) (2 ^ p + s) := by unfold tmD; omega
      have hD2 := tmD_b (A := sumB t F 16) (s := 2 ^ p + s) hF2 (by omega)
      rw [hD]
      by_cases c1 : a.2 ≤ tmD F (sumB t F 16) (2 ^ p + s)
      · rw [if_neg (nI_nlt c1 (by omega)), if_pos c1]; rfl
      · rw [if_pos (nI_lt (by omega) (by omega)), if_neg c1]; rfl)
  exact e
theorem subF_s {σ : Type} (B : Nat) (G : σ → Nat → σ) (a : σ) (x : Nat) : subF B G a (x + 1) = if subm B x then G (subF B G a x) x else subF B G a x := rfl
theorem tm_same {F : Nat → Nat} {t p B : Nat} (hp : p < 16) (hF2 : ∀ p, p < 16 → F p ≤ 999) (ht : t < 65536) (hpos : ∀ q, q < 16 → t.testBit q = true → 1 ≤ F q) (htp : t.testBit p = true) (hor : t = B ||| 2 ^ p) (hB2 : ∀ j, j ≤ p → B.testBit j = false) : ∀ x, subF B (tmG F (sumB t F 16) (2 ^ p)) (t, sumB t F 16) (x + 1) = subF B (tmG F (sumB t F 16) (2 ^ p)) (0, 1000000) (x + 1) := by
  intro x
  induction x with
  | zero =>
    rw [subF_s B _ (t, sumB t F 16) 0, subF_s B _ (0, 1000000) 0, subm_0]
    show tmG F (sumB t F 16) (2 ^ p) (t, sumB t F 16) 0 = tmG F (sumB t F 16) (2 ^ p) (0, 1000000) 0
    have hA := sumB_le (t := t) (F := F) (n := 16) (c := 999) hF2
    have hsum : sumB t F 16 = sumB B F 16 + F p := by
      rw [hor, sumB_or (hB2 p (Nat.le_refl p)), if_pos hp]
    have hs1 : sumB (2 ^ p ||| 0) F 16 = F p := by
      have := sumB_or (i := 0) (k := p) (F := F) (Nat.zero_testBit p) 16
      rw [sumB_0, if_pos hp, Nat.zero_or] at this
      rw [Nat.or_zero, this, Nat.zero_add]
    have h1 := hpos p hp htp
    unfold tmG
    have hD := tmD_b (A := sumB t F 16) (s := 2 ^ p ||| 0) hF2 (by omega)
    rw [if_neg (show ¬ (0, 1000000).2 ≤ tmD F (sumB t F 16) (2 ^ p ||| 0) by show ¬ 1000000 ≤ _; omega)]
    by_cases c1 : (t, sumB t F 16).2 ≤ tmD F (sumB t F 16) (2 ^ p ||| 0)
    · rw [if_pos c1]
      have c2 : sumB t F 16 ≤ tmD F (sumB t F 16) (2 ^ p ||| 0) := c1
      unfold tmD at c2 ⊢
      rw [hs1] at c2 ⊢
      have hB0 : B = 0 := by
        by_cases q : B = 0
        · exact q
        · have hBt : B < 65536 := by
            have : B ≤ t := by rw [hor]; exact Nat.left_le_or
            omega
          obtain ⟨q, q1, q2, q3⟩ := first_bit hBt q
          have := sumB_pos (F := F) (n := 16) q2 (hpos q q1 (by rw [hor, Nat.testBit_or, q2]; rfl)) q1
          omega
      rw [Prod.mk.injEq]
      refine ⟨?_, by omega⟩
      rw [hor, hB0, Nat.zero_or, Nat.or_zero]
    · rw [if_neg c1]
  | succ x ih => rw [subF_s B _ (t, sumB t F 16) (x + 1), subF_s B _ (0, 1000000) (x + 1), ih]
theorem eq_teams (g : Nat → St) (w : Nat → Int64) (v : St) (hr : Rel g v) (p1 : Int32) : ∃ (z : Int32 × St) (y : Int32), fX11_teams (g 3) (g 9) p1 = some z ∧ fX12_teams v p1 = some y ∧ z.1 = y ∧ Rel (sg g 9 z.2) v := by
  obtain ⟨t1, ⟨N, ok, c, r⟩, t3, t4, t5, t6⟩ := id hr
  unfold fX11_teams fX12_teams; dsimp only [lett]
  rw [within_eq]
  rcases in_cases p1 0 1 0 1 rfl rfl (by decide) (by decide) with ⟨x, -, x2, rfl, h2⟩ | h2
  · obtain ⟨ch2, e1, s1⟩ := weigh_n (ch := g 9) (uw := g 3 0) (F := N 0) (fun j hj => (c.2.2.2.2 j hj).1)
    have hF2 : ∀ p, p < 16 → N 0 p ≤ 999 := fun p hp => (ok.2.2.2.2 p hp).1
    have hF : ∀ p, p < 16 → v 0 (16 + p) = nI (N 0 p) := fun p hp => (r.2.2 p hp).2.1
    have ht := ok.1
    rw [h2, if_neg (show ¬ (1 : Int32) = 0 from by decide), if_neg (show ¬ (1 : Int32) = 0 from by decide), e1, sbind, toldSet_n r ht, sbind, c.1, sumOf_n ht hF, sbind]
    unfold fX0_evenTeam; dsimp only [lett]
    rw [sum_n s1 ht, sbind]
    by_cases h0 : N 4 0 = 0
    · obtain ⟨e2, e3⟩ := even11 s1 hF2 (t := 0) (L := 0) (B := 0) (by decide) (by decide) (by decide)
      have e4 : subF 0 (tmG (N 0) (sumB 0 (N 0) 16) 0) (0, sumB 0 (N 0) 16) (0 + 1) = (0, 0) := by
        rw [subF, subm_0, if_pos rfl, subF]
        unfold tmG
        rw [sumB_0]
        rfl
      rw [e4] at e2
      have e5 : fX0_evenTeam_L33 ch2 FU (nI 0) (nI 0 &&& -nI 0) (nI 0 ^^^ nI 0 &&& -nI 0) (nI 0) (nI (sumB 0 (N 0) 16)) (jshl 1 (fJ6_bitCount_0f7a4 (nI 0 ^^^ nI 0 &&& -nI 0))) 0 0 = some (nI 0) := e2
      rw [h0, e5, sbind, uneven_n s1 hF2 (by decide) (by decide), sbind]
      have e6 : tmD (N 0) (sumB 0 (N 0) 16) 0 = 0 := by unfold tmD; rw [sumB_0]
      rw [e6]
      rcases (show x = 0 ∨ x = 1 by omega) with rfl | rfl
      · exact ⟨(_, _), _, rfl, rfl, rfl, hr⟩
      · exact ⟨(_, _), _, rfl, rfl, rfl, hr⟩
    · obtain ⟨p, hp, b1, b2⟩ := first_bit ht h0
      obtain ⟨B, a1, a2, a3, a4, a5⟩ := low_rest b1 b2
      have hpp : 2 ^ p < 65536 := Nat.pow_lt_pow_right (n := 16) (by decide) hp
      have hpp0 := Nat.two_pow_pos p
      have hB1 : B < 65536 := by omega
      obtain ⟨e2, e3⟩ := even11 s1 hF2 (t := N 4 0) (L := 2 ^ p) (B := B) ht hpp hB1
      rw [low_bit ht b1 b2, fb_xorI, a1, bitCount_n hB1, shl1 _ (by have := pc16_le B; omega), e2, sbind, if_neg (nI_ne0 (by omega) (by omega)), lowest_n (by omega) (by omega) b1 b2, sbind, shl1 p (by omega), even12 hF hF2 ht hp a2 a4 a5, uneven_n s1 hF2 e3.1 ht, sbind, ← e3.2.2, tm_same hp hF2 ht (fun q hq hb => ((ok.2.2.2.2 q hq).2.2.2.2.1 hb).1) b1 a3 a4 B]
      rcases (show x = 0 ∨ x = 1 by omega) with rfl | rfl
      · exact ⟨(_, _), _, rfl, rfl, rfl, hr⟩
      · exact ⟨(_, _), _, rfl, rfl, rfl, hr⟩
  · rw [h2, if_pos rfl, if_pos rfl]
    exact ⟨(_, _), _, rfl, rfl, rfl, hr⟩
