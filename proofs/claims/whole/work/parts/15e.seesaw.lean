/-! ===== seesaw ===== -/
def minOv (f : Nat → Nat) : Nat → Nat
  | 0 => 1000000
  | n + 1 => min (minOv f n) (f n)
theorem minOv_le {f : Nat → Nat} {x : Nat} : ∀ n, x ≤ minOv f n ↔ x ≤ 1000000 ∧ ∀ i, i < n → x ≤ f i := by
  intro n
  induction n with
  | zero => exact ⟨fun h => ⟨h, fun i hi => by omega⟩, fun h => h.1⟩
  | succ n ih =>
    rw [minOv, Nat.le_min, ih]
    constructor
    · rintro ⟨⟨h1, h2⟩, h3⟩
      refine ⟨h1, fun i hi => ?_⟩
      by_cases q : i = n
      · subst q; exact h3
      · exact h2 i (by omega)
    · rintro ⟨h1, h2⟩
      exact ⟨⟨h1, fun i hi => h2 i (by omega)⟩, h2 n (by omega)⟩
theorem eq_of_le {a b : Nat} (h : ∀ x, x ≤ a ↔ x ≤ b) : a = b := Nat.le_antisymm ((h a).mp (Nat.le_refl a)) ((h b).mpr (Nat.le_refl b))
theorem minOv_anti (f : Nat → Nat) {a b : Nat} (h : a ≤ b) : minOv f b ≤ minOv f a := by
  rw [minOv_le]
  have := (minOv_le (f := f) (x := minOv f b) b).mp (Nat.le_refl _)
  exact ⟨this.1, fun i hi => this.2 i (by omega)⟩
theorem minOv_ten (f : Nat → Nat) (N : Nat) : minOv f (10 * N) = minOv (fun d => minOv (fun e => f (10 * e + d)) N) 10 := by
  refine eq_of_le (fun x => ?_)
  rw [minOv_le, minOv_le]
  constructor
  · rintro ⟨h1, h2⟩
    refine ⟨h1, fun d hd => ?_⟩
    show x ≤ minOv _ _
    rw [minOv_le]
    exact ⟨h1, fun e he => h2 (10 * e + d) (by omega)⟩
  · rintro ⟨h1, h2⟩
    refine ⟨h1, fun i hi => ?_⟩
    have := (minOv_le N).mp (h2 (i % 10) (by omega))
    have := this.2 (i / 10) (by omega)
    rw [show 10 * (i / 10) + i % 10 = i by omega] at this
    exact this
theorem minOv_cong {f f2 : Nat → Nat} : ∀ {n : Nat}, (∀ i, i < n → f i = f2 i) → minOv f n = minOv f2 n := by
  intro n h
  refine eq_of_le (fun x => ?_)
  rw [minOv_le, minOv_le]
  constructor
  · rintro ⟨h1, h2⟩; exact ⟨h1, fun i hi => by rw [← h i hi]; exact h2 i hi⟩
  · rintro ⟨h1, h2⟩; exact ⟨h1, fun i hi => by rw [h i hi]; exact h2 i hi⟩
def arm (p : Nat) : Int := if p < 5 then (p : Int) + 1 else 4 - (p : Int)
/-- the evenest of what is left -/
def sM (c : Nat → Nat) : Nat → Nat → Nat → Int → Nat
  | 0, _, _, s => s.natAbs
  | l + 1, k, t, s => minOv (fun p => if t.testBit p then 1000000 else sM c l (k + 1) (t ||| 2 ^ p) (s + arm p * c k)) 10
/-- how even it is with places by the digits of a number -/
def tlt (c : Nat → Nat) : Nat → Nat → Nat → Int → Nat → Nat
  | 0, _, _, s, _ => s.natAbs
  | l + 1, k, t, s, e => if t.testBit (e % 10) then 1000000 else tlt c l (k + 1) (t ||| 2 ^ (e % 10)) (s + arm (e % 10) * c k) (e / 10)
theorem arm_b {p : Nat} (h : p < 10) {w : Nat} (hw : w < 256) : -1275 ≤ arm p * (w : Int) ∧ arm p * (w : Int) ≤ 1275 := by
  unfold arm
  rcases (show p = 0 ∨ p = 1 ∨ p = 2 ∨ p = 3 ∨ p = 4 ∨ p = 5 ∨ p = 6 ∨ p = 7 ∨ p = 8 ∨ p = 9 by omega) with rfl | rfl | rfl | rfl | rfl | rfl | rfl | rfl | rfl | rfl <;> simp <;> omega
theorem tlt_min {c : Nat → Nat} (hc : ∀ k, k < 5 → c k < 256) : ∀ (l k t : Nat) (s : Int), k + l ≤ 5 → -(1275 * (k : Int)) ≤ s → s ≤ 1275 * (k : Int) → minOv (fun e => tlt c l k t s e) (10 ^ l) = sM c l k t s := by
  intro l
  induction l with
  | zero =>
    intro k t s hk h1 h2
    show min 1000000 s.natAbs = s.natAbs
    omega
  | succ l ih =>
    intro k t s hk h1 h2
    rw [Nat.pow_succ, Nat.mul_comm, minOv_ten, sM]
    refine minOv_cong (fun d hd => ?_)
    by_cases q : t.testBit d = true
    · rw [if_pos q]
      refine eq_of_le (fun x => ?_)
      rw [minOv_le]
      constructor
      · exact fun h => h.1
      · intro h
        refine ⟨h, fun e _ => ?_⟩
        rw [tlt, show (10 * e + d) % 10 = d by omega, if_pos q]; exact h
    · rw [if_neg q]
      have hb := arm_b hd (hc k (by omega))
      rw [← ih (k + 1) (t ||| 2 ^ d) (s + arm d * c k) (by omega) (by omega) (by omega)]
      refine minOv_cong (fun e _ => ?_)
      rw [tlt, show (10 * e + d) % 10 = d by omega, if_neg q, show (10 * e + d) / 10 = e by omega]
theorem seat_n {u : St} {n : Nat} {c : Nat → Nat} (hn : n ≤ 5) (h3 : u 3 0 = nI n) (h0 : ∀ k, k < n → c k < 256 ∧ u 0 k = nI (c k)) : ∀ l d k t s best, k + l = n → l < d → best ≤ 6375 → t < 1024 → -(1275 * (k : Int)) ≤ s → s ≤ 1275 * (k : Int) → fX5_seat d (st u 4 0 (nI best)) (nI k) (nI t) (iI s) = some (st u 4 0 (nI (min best (sM c l k t s)))) := by
  have e3 : ∀ y, st u 4 0 y 3 0 = nI n := fun y => by rw [st_i (by decide)]; exact h3
  intro l
  induction l with
  | zero =>
    intro d k t s best hk hd hb ht hs1 hs2
    obtain ⟨d, rfl⟩ : ∃ e, d = e + 1 := ⟨d - 1, by omega⟩
    show bX5_seat _ _ _ _ _ = _
    unfold bX5_seat fX5_seat_J13; dsimp only [lett]
    rw [e3, if_pos (nI_le (by omega) (by omega)), st_at, st_st, ab_i (by omega) (by omega), mn_n (by omega) (by omega)]
    rfl
  | succ l ih =>
    intro d k t s best hk hd hb ht hs1 hs2
    obtain ⟨d, rfl⟩ : ∃ e, d = e + 1 := ⟨d - 1, by omega⟩
    have hck := (h0 k (by omega)).1
    have e0 : ∀ y, st u 4 0 y 0 k = nI (c k) := fun y => by rw [st_i (by decide)]; exact (h0 k (by omega)).2
    have L : ∀ r p m b2, p + r = 10 → r < m → b2 = min best (minOv (fun p => if t.testBit p then 1000000 else sM c l (k + 1) (t ||| 2 ^ p) (s + arm p * c k)) p) → fX5_seat_L32 (fX5_seat d) m (st u 4 0 (nI b2)) (nI k) (nI t) (iI s) (nI p) = some (st u 4 0 (nI (min best (minOv (fun p => if t.testBit p then 1000000 else sM c l (k + 1) (t ||| 2 ^ p) (s + arm p * c k)) 10)))) := by
      intro r
      induction r with
      | zero =>
        intro p m b2 hp hm hb2
        obtain ⟨m, rfl⟩ : ∃ e, m = e + 1 := ⟨m - 1, by omega⟩
        have : p = 10 := by omega
        subst this
        show bX5_seat_L32 _ _ _ _ _ _ _ = _
        unfold bX5_seat_L32
        rw [if_pos (show (10 : Int32) ≤ nI 10 by decide), hb2]
      | succ r ihr =>
        intro p m b2 hp hm hb2
        obtain ⟨m, rfl⟩ : ∃ e, m = e + 1 := ⟨m - 1, by omega⟩
        show bX5_seat_L32 _ _ _ _ _ _ _ = _
        unfold bX5_seat_L32; dsimp only [lett]
        rw [if_neg (show ¬ (10 : Int32) ≤ nI p from nI_ge (a := p) (b := 10) (by omega) (by omega)), st_at]
        by_cases qz : b2 = 0
        · rw [qz, if_pos (by decide)]
          have := minOv_anti (fun p => if t.testBit p then 1000000 else sM c l (k + 1) (t ||| 2 ^ p) (s + arm p * c k)) (show p ≤ 10 by omega)
          congr 3; omega
        · rw [if_neg (show ¬ nI b2 ≤ (0 : Int32) from nI_ge (a := 0) (b := b2) (by omega) (by omega)), has11_n (by omega) (by omega)]
          cases qt : t.testBit p
          · have hab := arm_b (show p < 10 by omega) hck
            have hor : t ||| 2 ^ p < 1024 := Nat.or_lt_two_pow (n := 10) ht (Nat.pow_lt_pow_right (by decide) (by omega))
            have J : ∀ y, y = iI (arm p * c k) → fX5_seat_J91 (fX5_seat d) (fX5_seat_L32 (fX5_seat d) m) (st u 4 0 (nI b2)) (nI k) (nI t) (iI s) (nI p) y = some (st u 4 0 (nI (min best (minOv (fun p => if t.testBit p then 1000000 else sM c l (k + 1) (t ||| 2 ^ p) (s + arm p * c k)) 10)))) := by
              intro y hy
              subst hy
              unfold fX5_seat_J91; dsimp only [lett]
              rw [n1, shl1 p (by omega), fa_or, iI_add, ih d (k + 1) (t ||| 2 ^ p) (s + arm p * c k) b2 (by omega) (by omega) (by omega) hor (by omega) (by omega), sbind, n1]
              refine ihr (p + 1) m _ (by omega) (by omega) ?_
              rw [minOv, if_neg (by rw [qt]; decide)]
              omega
            rw [if_pos (by decide), show (5 : Int32) = nI 5 from rfl, rem_n (by omega) (by decide) (by decide), n1, gd_n (by omega) (by decide), ix_n (by omega), e0]
            by_cases q5 : p < 5
            · rw [if_neg (nI_ge q5 (by omega)), gd_n (by omega) (by decide), J _ ?_]
              unfold arm
              rw [if_pos q5, pk_mul, iI_n]
              congr 1
              rw [show p % 5 = p by omega]
              rw [Int.natCast_mul, Int.natCast_add]; rfl
            · rw [if_pos (nI_le (by omega) (by omega)), J _ ?_]
              unfold arm
              rw [if_neg q5, iI_n (p % 5 + 1), iI_neg, iI_n (c k), iI_mul]
              congr 2
              omega
          · rw [if_neg (by decide), n1]
            refine ihr (p + 1) m _ (by omega) (by omega) ?_
            rw [minOv, if_pos qt]
            have := (minOv_le (f := fun p => if t.testBit p then 1000000 else sM c l (k + 1) (t ||| 2 ^ p) (s + arm p * c k)) p).mp (Nat.le_refl _)
            omega
    show bX5_seat _ _ _ _ _ = _
    unfold bX5_seat
    rw [e3, if_neg (nI_ge (by omega) (by omega)), if_pos (show nI k < (5 : Int32) from nI_lt (b := 5) (by omega) (by omega))]
    refine (L 10 0 FU best (by omega) (by decide) ?_).trans ?_
    · show best = min best 1000000
      omega
    · rw [sM]
theorem even_n {pa : St} {n : Nat} {c : Nat → Nat} (h : Pn n c pa) (hn : n ≤ 5) : ∃ pa2, fX5_evenAtBest pa = some (nI (min 6375 (sM c n 0 0 0)), pa2) := by
  obtain ⟨h1, h2, h3⟩ := h
  have e := seat_n (u := pa) hn h2 h3 n 8 0 0 0 6375 (by omega) (by omega) (by omega) (by omega) (by omega) (by omega)
  refine ⟨st pa 4 0 (nI (min 6375 (sM c n 0 0 0))), ?_⟩
  unfold fX5_evenAtBest; dsimp only [lett]
  have e' : fX5_seat 8 (st pa 4 0 6375) 0 0 0 = some (st pa 4 0 (nI (min 6375 (sM c n 0 0 0)))) := e
  rw [e', sbind, st_at]
