/-! ===== signed numbers; the fewest stones ===== -/
def iI (z : Int) : Int32 := Int32.ofInt z
theorem iI_n (n : Nat) : nI n = iI (n : Int) := by
  refine Int32.toBitVec_inj.mp ?_
  show BitVec.ofNat 32 n = BitVec.ofInt 32 (n : Int)
  simp
theorem iI_add (a b : Int) : iI a + iI b = iI (a + b) := (Int32.ofInt_add a b).symm
theorem iI_sub (a b : Int) : iI a - iI b = iI (a - b) := (Int32.ofInt_sub a b).symm
theorem iI_mul (a b : Int) : iI a * iI b = iI (a * b) := (Int32.ofInt_mul a b).symm
theorem iI_neg (a : Int) : -iI a = iI (-a) := (Int32.ofInt_neg a).symm
theorem iI_toInt {a : Int} (h1 : -2147483648 ≤ a) (h2 : a < 2147483648) : (iI a).toInt = a := fb_ofI h1 h2
theorem iI_eq {a b : Int} (h1 : -2147483648 ≤ a) (h2 : a < 2147483648) (h3 : -2147483648 ≤ b) (h4 : b < 2147483648) : iI a = iI b ↔ a = b := by
  constructor
  · intro h
    have := congrArg Int32.toInt h
    rw [iI_toInt h1 h2, iI_toInt h3 h4] at this
    exact this
  · intro h; rw [h]
theorem iI_le {a b : Int} (h1 : -2147483648 ≤ a) (h2 : a < 2147483648) (h3 : -2147483648 ≤ b) (h4 : b < 2147483648) : iI a ≤ iI b ↔ a ≤ b := by
  rw [fa_le, iI_toInt h1 h2, iI_toInt h3 h4]
theorem iI_lt {a b : Int} (h1 : -2147483648 ≤ a) (h2 : a < 2147483648) (h3 : -2147483648 ≤ b) (h4 : b < 2147483648) : iI a < iI b ↔ a < b := by
  rw [fa_lt, iI_toInt h1 h2, iI_toInt h3 h4]
theorem iI_0 : (0 : Int32) = iI 0 := rfl
theorem iI_z {a : Int} (h1 : -2147483648 ≤ a) (h2 : a < 2147483648) : iI a = 0 ↔ a = 0 := by
  rw [iI_0, iI_eq h1 h2 (by decide) (by decide)]
theorem ab_i {a : Int} (h1 : -2147483647 ≤ a) (h2 : a < 2147483648) : ab (iI a) = nI a.natAbs := by
  unfold ab
  rw [iI_0, iI_n]
  by_cases h : 0 ≤ a
  · rw [if_pos ((iI_le (by decide) (by decide) (by omega) h2).mpr h)]
    congr 1; omega
  · rw [if_neg (fun q => h ((iI_le (by decide) (by decide) (by omega) h2).mp q)), iI_sub]
    congr 1; omega
theorem size_i {a : Int} (h1 : -2147483647 ≤ a) (h2 : a < 2147483648) : fX12_size (iI a) = nI a.natAbs := by
  unfold fX12_size
  rw [iI_0, iI_n]
  by_cases h : 0 ≤ a
  · rw [if_pos ((iI_le (by decide) (by decide) (by omega) h2).mpr h)]
    congr 1; omega
  · rw [if_neg (fun q => h ((iI_le (by decide) (by decide) (by omega) h2).mp q)), iI_neg]
    congr 1; omega
theorem mn_n {a b : Nat} (ha : a < 2147483648) (hb : b < 2147483648) : mn (nI a) (nI b) = nI (min a b) := by
  unfold mn
  by_cases h : b < a
  · rw [if_pos ((nI_ltI (by omega) (by omega)).mpr h)]; congr 1; omega
  · rw [if_neg (fun q => h ((nI_ltI (by omega) (by omega)).mp q))]; congr 1; omega
theorem st_st (u : St) (k j : Nat) (x y : Int32) : st (st u k j x) k j y = st u k j y := by
  funext a
  unfold st
  by_cases h : a = k
  · rw [if_pos h, if_pos h, if_pos rfl, fa_upd_twice]
  · rw [if_neg h, if_neg h, if_neg h]
theorem st_at (u : St) (k j : Nat) (x : Int32) : st u k j x k j = x := by rw [st_s, upd_s]
/-- the fewest of the stones i .. i + l - 1 that make x, on one pan or (b) on both; 1000000: it can't be -/
def hF (c : Nat → Nat) (b : Bool) : Nat → Nat → Int → Nat
  | _, 0, x => if x = 0 then 0 else 1000000
  | i, l + 1, x => min (hF c b (i + 1) l x) (min (1 + hF c b (i + 1) l (x - c i)) (if b then 1 + hF c b (i + 1) l (x + c i) else 1000000))
theorem hF_s (c : Nat → Nat) (b : Bool) (i l : Nat) (x : Int) : hF c b i (l + 1) x = min (hF c b (i + 1) l x) (min (1 + hF c b (i + 1) l (x - c i)) (if b then 1 + hF c b (i + 1) l (x + c i) else 1000000)) := rfl
theorem hF_z (c : Nat → Nat) (b : Bool) (i : Nat) (x : Int) : hF c b i 0 x = if x = 0 then 0 else 1000000 := rfl
theorem hF_sm (c : Nat → Nat) (b : Bool) : ∀ l i x, hF c b i l x ≤ l ∨ hF c b i l x = 1000000 := by
  intro l
  induction l with
  | zero => intro i x; rw [hF_z]; split <;> omega
  | succ l ih =>
    intro i x
    rw [hF_s]
    have h1 := ih (i + 1) x
    have h2 := ih (i + 1) (x - c i)
    have h3 := ih (i + 1) (x + c i)
    cases b
    · simp only [Bool.false_eq_true, if_false] at *
      omega
    · simp only [if_true] at *
      omega
theorem hF_le (c : Nat → Nat) (b : Bool) {l i : Nat} {x : Int} (h : l ≤ 100) : hF c b i l x ≤ 1000000 := by
  have := hF_sm c b l i x
  omega
theorem hF_0 (c : Nat → Nat) (b : Bool) : ∀ l i, hF c b i l 0 = 0 := by
  intro l
  induction l with
  | zero => intro i; rfl
  | succ l ih => intro i; rw [hF_s, ih]; omega
theorem hF_back (c : Nat → Nat) (b : Bool) : ∀ l i x, hF c b i (l + 1) x = min (hF c b i l x) (min (1 + hF c b i l (x - c (i + l))) (if b then 1 + hF c b i l (x + c (i + l)) else 1000000)) := by
  intro l
  induction l with
  | zero => intro i x; rfl
  | succ l ih =>
    intro i x
    rw [hF_s, ih (i + 1) x, ih (i + 1) (x - c i), ih (i + 1) (x + c i), hF_s c b i l x, hF_s c b i l (x - c (i + (l + 1))), hF_s c b i l (x + c (i + (l + 1))), show i + 1 + l = i + (l + 1) by omega]
    rw [show x - (c (i + (l + 1)) : Int) - c i = x - c i - c (i + (l + 1)) by omega, show x + (c (i + (l + 1)) : Int) + c i = x + c i + c (i + (l + 1)) by omega, show x - (c (i + (l + 1)) : Int) + c i = x + c i - c (i + (l + 1)) by omega, show x + (c (i + (l + 1)) : Int) - c i = x - c i + c (i + (l + 1)) by omega]
    cases b
    · simp only [Bool.false_eq_true, if_false]
      omega
    · simp only [if_true, ← Nat.add_min_add_left]
      ac_rfl
theorem hF_far (c : Nat → Nat) (b : Bool) : ∀ l x, l ≤ 100 → (x < -(fb_sm c l : Int) ∨ (fb_sm c l : Int) < x) → hF c b 0 l x = 1000000 := by
  intro l
  induction l with
  | zero =>
    intro x _ h
    rw [hF_z, if_neg (by intro e; subst e; simp [fb_sm] at h)]
  | succ l ih =>
    intro x hl h
    rw [fb_sm_succ] at h
    rw [hF_back, Nat.zero_add, ih x (by omega) (by omega), ih (x - c l) (by omega) (by omega), ih (x + c l) (by omega) (by omega)]
    split <;> omega
theorem try_n {u : St} {n : Nat} {c : Nat → Nat} (hn : n ≤ 8) (h3 : u 3 0 = nI n) (h0 : ∀ k, k < n → c k < 256 ∧ u 0 k = nI (c k)) : ∀ l d k x s best, k + l = n → l < d → best ≤ 9 → s ≤ k → -(2040 + 255 * (k : Int)) ≤ x → x ≤ 2040 + 255 * (k : Int) → fX5_tryStones d (st u 4 0 (nI best)) (nI k) (iI x) (nI s) = some (st u 4 0 (nI (min best (s + hF c true k l x)))) := by
  intro l
  induction l with
  | zero =>
    intro d k x s best hk hd hb hs hx1 hx2
    obtain ⟨d, rfl⟩ : ∃ e, d = e + 1 := ⟨d - 1, by omega⟩
    show bX5_tryStones _ _ _ _ _ = _
    unfold bX5_tryStones fX5_tryStones_J16; dsimp only [lett]
    simp only [st_st, st_at]
    have e3 : ∀ y, st u 4 0 y 3 0 = nI n := fun y => by rw [st_i (by decide)]; exact h3
    simp only [e3]
    rw [mn_n (by omega) (by omega), hF_z]
    by_cases hx : x = 0
    · subst hx
      rw [if_pos (by rfl), if_pos (nI_le (by omega) (by omega)), if_pos rfl, Nat.add_zero]
    · rw [if_neg (fun q => hx ((iI_z (by omega) (by omega)).mp q)), if_pos (nI_le (by omega) (by omega)), if_neg hx]
      congr 3; omega
  | succ l ih =>
    intro d k x s best hk hd hb hs hx1 hx2
    obtain ⟨d, rfl⟩ : ∃ e, d = e + 1 := ⟨d - 1, by omega⟩
    have hcl := (h0 k (by omega)).1
    have J : ∀ b2, b2 ≤ 9 → (x = 0 → b2 ≤ s) → fX5_tryStones_J16 (fX5_tryStones d) (st u 4 0 (nI b2)) (nI k) (iI x) (nI s) = some (st u 4 0 (nI (min b2 (s + hF c true k (l + 1) x)))) := by
      intro b2 hb2 hz
      unfold fX5_tryStones_J16
      have e3 : ∀ y, st u 4 0 y 3 0 = nI n := fun y => by rw [st_i (by decide)]; exact h3
      have e0 : ∀ y, st u 4 0 y 0 k = nI (c k) := fun y => by rw [st_i (by decide)]; exact (h0 k (by omega)).2
      rw [e3, if_neg (nI_ge (by omega) (by omega)), if_neg (show ¬ (8 : Int32) ≤ nI k from nI_ge (a := k) (b := 8) (by omega) (by omega)), st_at]
      by_cases hu : s < b2
      · rw [if_pos (nI_lt hu (by omega)), n1, ih d (k + 1) x s b2 (by omega) (by omega) hb2 (by omega) (by omega) (by omega), sbind, gd_n (by omega) (by decide), ix_n (by omega), e0, iI_n (c k), iI_sub, n1, ih d (k + 1) (x - c k) (s + 1) _ (by omega) (by omega) (by omega) (by omega) (by omega) (by omega), sbind, gd_n (by omega) (by decide), e0, iI_n (c k), iI_add, ih d (k + 1) (x + c k) (s + 1) _ (by omega) (by omega) (by omega) (by omega) (by omega) (by omega), sbind, hF_s, if_pos rfl]
        congr 3; omega
      · rw [if_neg (nI_nlt (by omega) (by omega))]
        congr 3; omega
    show bX5_tryStones _ _ _ _ _ = _
    unfold bX5_tryStones; dsimp only [lett]
    rw [st_st, st_at, mn_n (by omega) (by omega)]
    by_cases hx : x = 0
    · subst hx
      rw [if_pos (by rfl), J _ (by omega) (by omega), hF_0]
      congr 3; omega
    · rw [if_neg (fun q => hx ((iI_z (by omega) (by omega)).mp q)), J _ hb (fun e => absurd e hx)]
theorem fewestFor_n {pa : St} {n : Nat} {c : Nat → Nat} (h : Pn n c pa) (hn : n ≤ 8) {x : Nat} (hx : x ≤ 2040) : ∃ pa2, fX5_fewestFor pa (nI x) = some (if hF c true 0 n x < 1000000 then nI (hF c true 0 n x) else (-1), pa2) := by
  obtain ⟨h1, h2, h3⟩ := h
  have e := try_n (u := pa) hn h2 h3 n 10 0 x 0 9 (by omega) (by omega) (by omega) (by omega) (by omega) (by omega)
  have hs := hF_sm c true n 0 x
  refine ⟨st pa 4 0 (nI (min 9 (hF c true 0 n x))), ?_⟩
  · unfold fX5_fewestFor; dsimp only [lett]
    rw [show (0 : Int32) = nI 0 from rfl, show (9 : Int32) = nI 9 from rfl, iI_n x, e, sbind, Nat.zero_add, st_at]
    by_cases q : hF c true 0 n x < 1000000
    · rw [if_pos q, show (8 : Int32) = nI 8 from rfl, if_pos ((nI_leI (by omega) (by omega)).mpr (by omega)), show min 9 (hF c true 0 n x) = hF c true 0 n x by omega]
    · rw [if_neg q, show (8 : Int32) = nI 8 from rfl, if_neg (fun q2 => by have := (nI_leI (by omega) (by omega)).mp q2; omega)]
