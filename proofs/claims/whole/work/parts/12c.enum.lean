/-! ===== all subsets of a set, in their order ===== -/
theorem and_2 (x y a b : Nat) (ha : a < 2) (hb : b < 2) : (2 * x + a) &&& (2 * y + b) = 2 * (x &&& y) + a * b := by
  have h1 := Nat.and_mod_two_pow (a := 2 * x + a) (b := 2 * y + b) (n := 1)
  have h2 := Nat.and_div_two_pow (a := 2 * x + a) (b := 2 * y + b) (n := 1)
  have e : (2 : Nat) ^ 1 = 2 := rfl
  rw [e, show (2 * x + a) % 2 = a by omega, show (2 * y + b) % 2 = b by omega] at h1
  rw [e, show (2 * x + a) / 2 = x by omega, show (2 * y + b) / 2 = y by omega] at h2
  have e3 : a &&& b = a * b := by
    rcases (show a = 0 ∨ a = 1 by omega) with rfl | rfl <;> rcases (show b = 0 ∨ b = 1 by omega) with rfl | rfl <;> rfl
  rw [e3] at h1
  omega
theorem half (x : Nat) : ∃ y a, a < 2 ∧ x = 2 * y + a := ⟨x / 2, x % 2, by omega, by omega⟩
theorem sub_fill : ∀ (n B s : Nat), B < 2 ^ n → s &&& B = s → (s + (2 ^ n - 1 - B)) &&& B = s := by
  intro n
  induction n with
  | zero =>
    intro B s hB hs
    have : B = 0 := by simpa using hB
    subst this
    rw [Nat.and_zero] at hs ⊢
    exact hs
  | succ n ih =>
    intro B s hB hs
    obtain ⟨B, b, hb, rfl⟩ := half B
    obtain ⟨s, c, hc, rfl⟩ := half s
    rw [and_2 s B c b hc hb] at hs
    rw [Nat.pow_succ] at hB ⊢
    have hcb : c * b ≤ 1 := by
      rcases (show c = 0 ∨ c = 1 by omega) with rfl | rfl <;> omega
    have h1 : s &&& B = s := by omega
    have h2 : c * b = c := by omega
    have hle : s ≤ B := by rw [← h1]; exact Nat.and_le_right
    have e := ih B s (by omega) h1
    rcases (show b = 0 ∨ b = 1 by omega) with rfl | rfl
    · have : c = 0 := by omega
      subst this
      rw [show 2 * s + 0 + (2 ^ n * 2 - 1 - (2 * B + 0)) = 2 * (s + (2 ^ n - 1 - B)) + 1 by omega, and_2 _ _ _ _ (by omega) (by omega), e]
    · rw [show 2 * s + c + (2 ^ n * 2 - 1 - (2 * B + 1)) = 2 * (s + (2 ^ n - 1 - B)) + c by omega, and_2 _ _ _ _ hc (by omega), e]
      omega
theorem sub_next : ∀ (n B s : Nat), B < 2 ^ n → s &&& B = s → s < B → s < (s + 2 ^ n - B) &&& B ∧ ((s + 2 ^ n - B) &&& B) &&& B = (s + 2 ^ n - B) &&& B ∧ ∀ t, t &&& B = t → s < t → (s + 2 ^ n - B) &&& B ≤ t := by
  intro n
  induction n with
  | zero => intro B s hB _ h; have : B = 0 := by simpa using hB
            omega
  | succ n ih =>
    intro B s hB hs hlt
    refine ⟨?_, by rw [Nat.and_assoc, Nat.and_self], ?_⟩
    all_goals
      obtain ⟨B, b, hb, rfl⟩ := half B
      obtain ⟨s, c, hc, rfl⟩ := half s
      rw [and_2 s B c b hc hb] at hs
      rw [Nat.pow_succ] at hB ⊢
      have hcb : c * b ≤ 1 := by
        rcases (show c = 0 ∨ c = 1 by omega) with rfl | rfl <;> omega
      have h1 : s &&& B = s := by omega
      have h2 : c * b = c := by omega
      have hle : s ≤ B := by rw [← h1]; exact Nat.and_le_right
    · rcases (show b = 0 ∨ b = 1 by omega) with rfl | rfl
      · have : c = 0 := by omega
        subst this
        have := (ih B s (by omega) h1 (by omega)).1
        rw [show 2 * s + 0 + 2 ^ n * 2 - (2 * B + 0) = 2 * (s + 2 ^ n - B) + 0 by omega, and_2 _ _ _ _ (by omega) (by omega)]
        omega
      · rcases (show c = 0 ∨ c = 1 by omega) with rfl | rfl
        · rw [show 2 * s + 0 + 2 ^ n * 2 - (2 * B + 1) = 2 * (s + (2 ^ n - 1 - B)) + 1 by omega, and_2 _ _ _ _ (by omega) (by omega), sub_fill n B s (by omega) h1]
          omega
        · have := (ih B s (by omega) h1 (by omega)).1
          rw [show 2 * s + 1 + 2 ^ n * 2 - (2 * B + 1) = 2 * (s + 2 ^ n - B) + 0 by omega, and_2 _ _ _ _ (by omega) (by omega)]
          omega
    · intro t ht hst
      obtain ⟨t, d, hd, rfl⟩ := half t
      rw [and_2 t B d b hd hb] at ht
      have hdb : d * b ≤ 1 := by
        rcases (show d = 0 ∨ d = 1 by omega) with rfl | rfl <;> omega
      have t1 : t &&& B = t := by omega
      have t2 : d * b = d := by omega
      rcases (show b = 0 ∨ b = 1 by omega) with rfl | rfl
      · have : c = 0 := by omega
        subst this
        have := (ih B s (by omega) h1 (by omega)).2.2 t t1 (by omega)
        rw [show 2 * s + 0 + 2 ^ n * 2 - (2 * B + 0) = 2 * (s + 2 ^ n - B) + 0 by omega, and_2 _ _ _ _ (by omega) (by omega)]
        omega
      · rcases (show c = 0 ∨ c = 1 by omega) with rfl | rfl
        · rw [show 2 * s + 0 + 2 ^ n * 2 - (2 * B + 1) = 2 * (s + (2 ^ n - 1 - B)) + 1 by omega, and_2 _ _ _ _ (by omega) (by omega), sub_fill n B s (by omega) h1]
          omega
        · have := (ih B s (by omega) h1 (by omega)).2.2 t t1 (by omega)
          rw [show 2 * s + 1 + 2 ^ n * 2 - (2 * B + 1) = 2 * (s + 2 ^ n - B) + 0 by omega, and_2 _ _ _ _ (by omega) (by omega)]
          omega
def subm (B : Nat) (s : Nat) : Bool := decide (s &&& B = s)
theorem ct_two (p : Nat → Bool) : ∀ m, fb_ct p (2 * m) = fb_ct (fun k => p (2 * k)) m + fb_ct (fun k => p (2 * k + 1)) m
  | 0 => rfl
  | m + 1 => by
    rw [show 2 * (m + 1) = 2 * m + 1 + 1 by omega, fb_ct_succ, fb_ct_succ, ct_two p m, fb_ct_succ, fb_ct_succ]
    omega
theorem subm_many : ∀ (n B : Nat), B < 2 ^ n → fb_ct (subm B) (2 ^ n) = 2 ^ fb_ct (fun i => B.testBit i) n := by
  intro n
  induction n with
  | zero => intro B hB; have : B = 0 := by simpa using hB
            subst this; rfl
  | succ n ih =>
    intro B hB
    obtain ⟨B, b, hb, rfl⟩ := half B
    rw [Nat.pow_succ] at hB
    have e := ih B (by omega)
    rw [Nat.pow_succ, Nat.mul_comm (2 ^ n) 2, ct_two, show n + 1 = 1 + n by omega, fb_ct_split (fun i => (2 * B + b).testBit i) 1 n]
    have e1 : fb_ct (fun k => subm (2 * B + b) (2 * k)) (2 ^ n) = fb_ct (subm B) (2 ^ n) := by
      refine fb_ct_cong (fun k _ => ?_)
      unfold subm
      have := and_2 k B 0 b (by omega) hb
      rw [Nat.add_zero] at this
      rw [this, decide_eq_decide]
      omega
    have e2 : fb_ct (fun k => subm (2 * B + b) (2 * k + 1)) (2 ^ n) = b * fb_ct (subm B) (2 ^ n) := by
      rcases (show b = 0 ∨ b = 1 by omega) with rfl | rfl
      · rw [Nat.zero_mul]
        refine fb_ct_zero.mpr (fun k _ => ?_)
        unfold subm
        rw [and_2 k B 1 0 (by omega) (by omega)]
        exact decide_eq_false (by omega)
      · rw [Nat.one_mul]
        refine fb_ct_cong (fun k _ => ?_)
        unfold subm
        rw [and_2 k B 1 1 (by omega) (by omega), decide_eq_decide]
        omega
    have e3 : fb_ct (fun k => (2 * B + b).testBit (1 + k)) n = fb_ct (fun i => B.testBit i) n := by
      refine fb_ct_cong (fun k _ => ?_)
      rw [Nat.add_comm 1 k, Nat.testBit_succ, show (2 * B + b) / 2 = B by omega]
    have e4 : fb_ct (fun i => (2 * B + b).testBit i) 1 = b := by
      rw [show (1 : Nat) = 0 + 1 from rfl, fb_ct_succ, Nat.testBit_zero]
      rcases (show b = 0 ∨ b = 1 by omega) with rfl | rfl
      · rw [show (2 * B + 0) % 2 = 0 by omega]; rfl
      · rw [show (2 * B + 1) % 2 = 1 by omega]; rfl
    rw [e1, e2, e3, e4, e, Nat.pow_add]
    rcases (show b = 0 ∨ b = 1 by omega) with rfl | rfl
    · omega
    · omega
theorem subm_le {B s : Nat} (h : subm B s = true) : s ≤ B := by
  have : s &&& B = s := of_decide_eq_true h
  rw [← this]; exact Nat.and_le_right
theorem subm_self (B : Nat) : subm B B = true := decide_eq_true (Nat.and_self B)
theorem subm_0 (B : Nat) : subm B 0 = true := decide_eq_true (Nat.zero_and B)
theorem subm_all {B : Nat} (hB : B < 65536) : fb_ct (subm B) (B + 1) = 2 ^ pc16 B := by
  rw [pc16, ← subm_many 16 B (by omega), show 2 ^ 16 = (B + 1) + (65536 - (B + 1)) by omega, fb_ct_split (subm B) (B + 1) (65536 - (B + 1))]
  have : fb_ct (fun k => subm B (B + 1 + k)) (65536 - (B + 1)) = 0 := fb_ct_zero.mpr (fun k _ => by
    cases h : subm B (B + 1 + k)
    · rfl
    · have := subm_le h; omega)
  omega
theorem neg_n {s B : Nat} (h : B ≤ 4294967296) : nI s - nI B = nI (s + 4294967296 - B) := by
  have e : nI (s + 4294967296 - B) + nI B = nI s := by
    rw [nI_add, show s + 4294967296 - B + B = s + 4294967296 by omega, ← nI_add, show nI 4294967296 = 0 from by decide]
    grind
  grind
theorem after_n {s B : Nat} (hB : B < 65536) (hs : subm B s = true) (h : s < B) : ∃ t, fX0_setAfter (nI s) (nI B) = nI t ∧ s < t ∧ t ≤ B ∧ subm B t = true ∧ ∀ r, s < r → r < t → subm B r = false := by
  obtain ⟨h1, h2, h3⟩ := sub_next 32 B s (by omega) (of_decide_eq_true hs) h
  refine ⟨(s + 4294967296 - B) &&& B, ?_, h1, Nat.and_le_right, decide_eq_true h2, fun r h4 h5 => ?_⟩
  · unfold fX0_setAfter
    rw [neg_n (by omega), fa_and]
  · cases q : subm B r
    · rfl
    · have := h3 r (of_decide_eq_true q) h4
      rw [show (2 : Nat) ^ 32 = 4294967296 from rfl] at this
      omega
theorem after_l (B : Nat) : fX0_setAfter (nI B) (nI B) = nI 0 := by
  unfold fX0_setAfter
  rw [pk_sub (Nat.le_refl B), Nat.sub_self, fa_and, Nat.zero_and]
/-- the state after all subsets below x -/
def subF {σ : Type} (B : Nat) (G : σ → Nat → σ) (a : σ) : Nat → σ
  | 0 => a
  | x + 1 => if subm B x then G (subF B G a x) x else subF B G a x
theorem subF_gap {σ : Type} {B : Nat} {G : σ → Nat → σ} {a : σ} {x : Nat} : ∀ d, (∀ r, x ≤ r → r < x + d → subm B r = false) → subF B G a (x + d) = subF B G a x
  | 0, _ => rfl
  | d + 1, h => by
    rw [show x + (d + 1) = (x + d) + 1 by omega, subF, h (x + d) (by omega) (by omega)]
    exact subF_gap d (fun r h1 h2 => h r h1 (by omega))
theorem ct_gap {B x : Nat} (d : Nat) (h : ∀ r, x ≤ r → r < x + d → subm B r = false) : fb_ct (subm B) (x + d) = fb_ct (subm B) x := by
  rw [fb_ct_split]
  have : fb_ct (fun k => subm B (x + k)) d = 0 := fb_ct_zero.mpr (fun k hk => h (x + k) (by omega) (by omega))
  omega
theorem subF_inv {σ : Type} {B : Nat} {G : σ → Nat → σ} {a : σ} (I : σ → Prop) (h0 : I a) (hG : ∀ a s, I a → subm B s = true → s ≤ B → I (G a s)) : ∀ x, I (subF B G a x)
  | 0 => h0
  | x + 1 => by
    rw [subF]
    cases h : subm B x
    · exact subF_inv I h0 hG x
    · exact hG _ x (subF_inv I h0 hG x) h (subm_le h)
theorem pc16_le (x : Nat) : pc16 x ≤ 16 := fb_ct_le _ 16
theorem pow16 (x : Nat) : 2 ^ pc16 x ≤ 65536 := Nat.le_trans (Nat.pow_le_pow_right (by decide) (pc16_le x)) (by decide)
/-- the class's loop over all subsets of B -/
theorem enum {σ R : Type} {B : Nat} (hB : B < 65536) (F : Nat → σ → Int32 → Nat → Option R) (G : σ → Nat → σ) (I : σ → Prop) (out : σ → Option R) (a0 : σ) (h0 : I a0) (hG : ∀ a s, I a → subm B s = true → s ≤ B → I (G a s)) (hend : ∀ n a s, I a → F (n + 1) a s (2 ^ pc16 B) = out a) (hstep : ∀ n a s k, I a → subm B s = true → s ≤ B → k < 2 ^ pc16 B → F (n + 1) a (nI s) k = F n (G a s) (fX0_setAfter (nI s) (nI B)) (k + 1)) : F FU a0 (nI 0) 0 = out (subF B G a0 (B + 1)) := by
  have hp := pow16 B
  have key : ∀ n s k, subm B s = true → fb_ct (subm B) s = k → 2 ^ pc16 B - k < n → F n (subF B G a0 s) (nI s) k = out (subF B G a0 (B + 1)) := by
    intro n
    induction n with
    | zero => intro s k _ _ h; omega
    | succ n ih =>
      intro s k hs hk hn
      have hsl := subm_le hs
      have hI := subF_inv (B := B) (G := G) I h0 hG s
      have hc1 : fb_ct (subm B) (s + 1) = k + 1 := by rw [fb_ct_succ, hs, hk]; rfl
      have hm := fb_ct_mono (subm B) (show s + 1 ≤ B + 1 by omega)
      rw [subm_all hB] at hm
      have hG1 : G (subF B G a0 s) s = subF B G a0 (s + 1) := by rw [subF, hs]; rfl
      rw [hstep n _ s k hI hs hsl (by omega), hG1]
      by_cases q : s < B
      · obtain ⟨t, e, h1, h2, h3, h4⟩ := after_n hB hs q
        have g1 : subF B G a0 t = subF B G a0 (s + 1) := by
          have := subF_gap (B := B) (G := G) (a := a0) (x := s + 1) (t - (s + 1)) (fun r h5 h6 => h4 r (by omega) (by omega))
          rw [show s + 1 + (t - (s + 1)) = t by omega] at this
          exact this
        have g2 : fb_ct (subm B) t = k + 1 := by
          have := ct_gap (B := B) (x := s + 1) (t - (s + 1)) (fun r h5 h6 => h4 r (by omega) (by omega))
          rw [show s + 1 + (t - (s + 1)) = t by omega, hc1] at this
          exact this
        rw [e, ← g1]
        exact ih t (k + 1) h3 g2 (by omega)
      · have : s = B := by omega
        subst this
        rw [subm_all hB] at hc1
        rw [after_l, ← hc1]
        obtain ⟨n, rfl⟩ : ∃ q, n = q + 1 := ⟨n - 1, by omega⟩
        exact hend n _ _ (subF_inv (B := s) (G := G) I h0 hG (s + 1))
  exact key FU 0 0 (subm_0 B) rfl (by show _ < 1000000; omega)
/-- the reference's loop over all numbers up to B -/
theorem enum12 {σ R : Type} {B : Nat} (hB : B < 65536) (F : Nat → σ → Nat → Option R) (G : σ → Nat → σ) (I : σ → Prop) (out : σ → Option R) (a0 : σ) (h0 : I a0) (hG : ∀ a s, I a → subm B s = true → s ≤ B → I (G a s)) (hend : ∀ n a, I a → F (n + 1) a (B + 1) = out a) (hstep : ∀ n a s, I a → s ≤ B → F (n + 1) a s = F n (if subm B s then G a s else a) (s + 1)) : F FU a0 0 = out (subF B G a0 (B + 1)) := by
  refine for_all (fun n (a : σ) k => F n a k) (B + 1) (fun k => subF B G a0 k) _ (fun n => ?_) (fun n k hk => ?_) (by omega)
  · exact hend n _ (subF_inv I h0 hG (B + 1))
  · rw [hstep n _ k (subF_inv I h0 hG k) (by omega)]
    rfl
theorem nd0 {s B : Nat} (hs : s < 4294967296) : ndiff s B = 0 ↔ s &&& B = s := by
  constructor
  · intro h
    refine Nat.eq_of_testBit_eq (fun i => ?_)
    rw [Nat.testBit_and]
    by_cases hi : i < 32
    · have := ndiff_bit (t := s) (m := B) hi
      rw [h, Nat.zero_testBit] at this
      cases h1 : s.testBit i <;> cases h2 : B.testBit i <;> simp_all
    · have : s.testBit i = false := Nat.testBit_lt_two_pow (Nat.lt_of_lt_of_le hs (show 4294967296 ≤ 2 ^ i from Nat.pow_le_pow_right (n := 2) (i := 32) (by decide) (by omega)))
      rw [this]; rfl
  · intro h
    refine Nat.eq_of_testBit_eq (fun i => ?_)
    rw [Nat.zero_testBit]
    by_cases hi : i < 32
    · rw [ndiff_bit hi]
      have := Nat.testBit_and s B i
      rw [h] at this
      cases h1 : s.testBit i <;> cases h2 : B.testBit i <;> simp_all
    · unfold ndiff
      have : s.testBit i = false := Nat.testBit_lt_two_pow (Nat.lt_of_lt_of_le hs (show 4294967296 ≤ 2 ^ i from Nat.pow_le_pow_right (n := 2) (i := 32) (by decide) (by omega)))
      rw [Nat.testBit_and, this]; rfl
