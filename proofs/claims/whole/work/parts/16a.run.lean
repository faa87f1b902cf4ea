/-! ===== the law's code: both machines run it alike ===== -/
def StkOk : List Bool → (Nat → Int32) → (Nat → Int32) → Prop
  | [], _, _ => True
  | b :: t, f, h => f t.length = h t.length ∧ (b = true → f t.length = 0 ∨ f t.length = 1) ∧ StkOk t f h
theorem StkOk_upd {k : Nat} {x y : Int32} {f h : Nat → Int32} : ∀ {t : List Bool}, StkOk t f h → t.length ≤ k → StkOk t (upd f k x) (upd h k y) := by
  intro t
  induction t with
  | nil => intro _ _; trivial
  | cons b t ih =>
    intro hs hk
    obtain ⟨h1, h2, h3⟩ := hs
    rw [List.length_cons] at hk
    refine ⟨?_, ?_, ih h3 (by omega)⟩
    · rw [upd_n (by omega), upd_n (by omega)]; exact h1
    · rw [upd_n (by omega)]; exact h2
theorem StkOk_push {t : List Bool} {f h : Nat → Int32} {x : Int32} {b : Bool} (hs : StkOk t f h) (hb : b = true → x = 0 ∨ x = 1) : StkOk (b :: t) (upd f t.length x) (upd h t.length x) := by
  refine ⟨?_, ?_, StkOk_upd hs (Nat.le_refl _)⟩
  · rw [upd_s, upd_s]
  · rw [upd_s]; exact hb
theorem dec_d {e o : Nat} (he : e ≤ 12) (ho : o < 1048576) : nI (1048576 * e + o) / 1048576 = nI e := by
  rw [show (1048576 : Int32) = nI 1048576 from rfl, div_n (by omega) (by decide) (by decide), show (1048576 * e + o) / 1048576 = e by omega]
theorem dec_r {e o : Nat} (he : e ≤ 12) (ho : o < 1048576) : jrem (nI (1048576 * e + o)) 1048576 = nI o := by
  rw [show (1048576 : Int32) = nI 1048576 from rfl, rem_n (by omega) (by decide) (by decide), show (1048576 * e + o) % 1048576 = o by omega]
theorem tps (n : Nat) : nI (n + 1) - 1 = nI n := by rw [show (1 : Int32) = nI 1 from rfl, sub_n (by omega), Nat.add_sub_cancel]
theorem tp1 (n : Nat) : nI n - 1 + 1 = nI n := Int32.sub_add_cancel _ _
theorem tpm (n : Nat) : nI n + (-1) = nI n - 1 := (Int32.sub_eq_add_neg (nI n) 1).symm
/-- both runs from here on -/
def RunEq (m b L i : Nat) (r : Bool) (lw0 v0 lw v : St) : Prop := ∃ (x : Int32) (lw' v' : St), fX2_reckon_L5 m lw (nI b) (nI L - 1) (nI i) = some (x, lw') ∧ fX12_comesTo_L16 m v (nI b) (nI L) 0 (nI i) = some (x, v') ∧ (∀ k, k ≠ 9 → lw' k = lw0 k) ∧ (∀ k, k ≠ 27 → v' k = v0 k) ∧ (r = true → x = 0 ∨ x = 1)
theorem RunEq_step {m b L i : Nat} {r : Bool} {lw0 v0 lw v : St} (L2 i2 : Nat) (lw2 v2 : St) (eA : fX2_reckon_L5 (m + 1) lw (nI b) (nI L - 1) (nI i) = fX2_reckon_L5 m lw2 (nI b) (nI L2 - 1) (nI i2)) (eB : fX12_comesTo_L16 (m + 1) v (nI b) (nI L) 0 (nI i) = fX12_comesTo_L16 m v2 (nI b) (nI L2) 0 (nI i2)) (h : RunEq m b L2 i2 r lw0 v0 lw2 v2) : RunEq (m + 1) b L i r lw0 v0 lw v := by
  obtain ⟨x, lw', v', h1, h2, h3⟩ := h
  exact ⟨x, lw', v', eA.trans h1, eB.trans h2, h3⟩
theorem div_if {α : Type} {q s : Int32} {z J : α} (h : ¬ (q = 0 ∧ (s = 47 ∨ s = 37))) : (if q = 0 then if s = 47 then z else if s = 37 then z else J else J) = J := by
  by_cases h1 : q = 0
  · rw [if_pos h1, if_neg (fun e => h ⟨h1, Or.inl e⟩), if_neg (fun e => h ⟨h1, Or.inr e⟩)]
  · rw [if_neg h1]
theorem joined_n {s e : Nat} (hop : (s = 43 ∧ e = 2) ∨ (s = 45 ∧ e = 3) ∨ (s = 42 ∧ e = 4) ∨ (s = 47 ∧ e = 5) ∨ (s = 37 ∧ e = 6) ∨ (s = 60 ∧ e = 7) ∨ (s = 62 ∧ e = 8) ∨ (s = 61 ∧ e = 9)) (x y : Int32) (h : ¬ (y = 0 ∧ (s = 47 ∨ s = 37))) : ∃ z, fX2_joined (nI s) x y = some z ∧ fX12_reckon (nI e) x y = some z ∧ ((s = 60 ∨ s = 62 ∨ s = 61) → z = 0 ∨ z = 1) := by
  unfold fX2_joined fX12_reckon
  rcases hop with ⟨rfl, rfl⟩ | ⟨rfl, rfl⟩ | ⟨rfl, rfl⟩ | ⟨rfl, rfl⟩ | ⟨rfl, rfl⟩ | ⟨rfl, rfl⟩ | ⟨rfl, rfl⟩ | ⟨rfl, rfl⟩
  · exact ⟨x + y, rfl, rfl, fun q => by omega⟩
  · exact ⟨x - y, rfl, rfl, fun q => by omega⟩
  · exact ⟨x * y, rfl, rfl, fun q => by omega⟩
  · have hy : ¬ y = 0 := fun e => h ⟨e, Or.inl rfl⟩
    refine ⟨x / y, ?_, ?_, fun q => by omega⟩
    · show (if y = 0 then some 0 else dz y (some (x / y))) = _
      rw [if_neg hy]; exact if_neg hy
    · show dz y (some (x / y)) = _
      exact if_neg hy
  · have hy : ¬ y = 0 := fun e => h ⟨e, Or.inr rfl⟩
    refine ⟨jrem x y, ?_, ?_, fun q => by omega⟩
    · show (if y = 0 then some 0 else dz y (some (jrem x y))) = _
      rw [if_neg hy]; exact if_neg hy
    · show dz y (some (jrem x y)) = _
      exact if_neg hy
  · refine ⟨if y ≤ x then 0 else 1, ?_, ?_, fun _ => ?_⟩
    · show (if y ≤ x then some (0 : Int32) else some 1) = _
      split <;> rfl
    · show (if y ≤ x then some (0 : Int32) else some 1) = _
      split <;> rfl
    · split
      · exact Or.inl rfl
      · exact Or.inr rfl
  · refine ⟨if x ≤ y then 0 else 1, ?_, ?_, fun _ => ?_⟩
    · show (if x ≤ y then some (0 : Int32) else some 1) = _
      split <;> rfl
    · show (if x ≤ y then some (0 : Int32) else some 1) = _
      split <;> rfl
    · split
      · exact Or.inl rfl
      · exact Or.inr rfl
  · refine ⟨if x = y then 1 else 0, ?_, ?_, fun _ => ?_⟩
    · show (if x = y then some (1 : Int32) else some 0) = _
      split <;> rfl
    · show (if x = y then some (1 : Int32) else some 0) = _
      split <;> rfl
    · split
      · exact Or.inr rfl
      · exact Or.inl rfl
/-- a step that joins two values -/
theorem bin_a {m b i n s e : Nat} {lw : St} (hop : (s = 43 ∧ e = 2) ∨ (s = 45 ∧ e = 3) ∨ (s = 42 ∧ e = 4) ∨ (s = 47 ∧ e = 5) ∨ (s = 37 ∧ e = 6) ∨ (s = 60 ∧ e = 7) ∨ (s = 62 ∧ e = 8) ∨ (s = 61 ∧ e = 9)) (hi : i < b) (hb : b ≤ 240) (hn : n ≤ 28) (l5 : lw 5 i = nI s) : fX2_reckon_L5 (m + 1) lw (nI b) (nI (n + 2) - 1) (nI i) = if lw 9 (n + 1) = 0 then if nI s = 47 then some (0, lw) else if nI s = 37 then some (0, lw) else fX2_reckon_J200 (fX2_reckon_L5 m) lw (nI b) (nI (n + 1)) (nI i) (nI s) else fX2_reckon_J200 (fX2_reckon_L5 m) lw (nI b) (nI (n + 1)) (nI i) (nI s) := by
  show bX2_reckon_L5 _ _ _ _ _ = _
  unfold bX2_reckon_L5; dsimp only [lett]
  rw [tps (n + 1), if_neg (nI_ge hi (by omega)), gd_n (by omega) (by decide), gd_n (by omega) (by decide), ix_n (show i < 2147483648 by omega), l5]
  have p1 : (0 : Int32) ≤ nI (n + 1) := nI_le (a := 0) (by omega) (by omega)
  have p2 : ¬ nI (n + 1) < 1 := nI_nlt (b := 1) (by omega) (by omega)
  rcases hop with ⟨rfl, rfl⟩ | ⟨rfl, rfl⟩ | ⟨rfl, rfl⟩ | ⟨rfl, rfl⟩ | ⟨rfl, rfl⟩ | ⟨rfl, rfl⟩ | ⟨rfl, rfl⟩ | ⟨rfl, rfl⟩ <;>
    rw [if_neg (by decide), if_neg (by decide), if_pos p1, if_neg (by decide), if_neg (by decide), if_neg (by decide), if_neg p2, gd_n (by omega) (by decide), ix_n (show n + 1 < 2147483648 by omega)]
theorem bin_b {m b i n s e : Nat} {v : St} (hop : (s = 43 ∧ e = 2) ∨ (s = 45 ∧ e = 3) ∨ (s = 42 ∧ e = 4) ∨ (s = 47 ∧ e = 5) ∨ (s = 37 ∧ e = 6) ∨ (s = 60 ∧ e = 7) ∨ (s = 62 ∧ e = 8) ∨ (s = 61 ∧ e = 9)) (hi : i < b) (hb : b ≤ 240) (hn : n ≤ 28) (v22 : v 22 i = nI (1048576 * e + 0)) : fX12_comesTo_L16 (m + 1) v (nI b) (nI (n + 2)) 0 (nI i) = if v 27 (n + 1) = 0 then if nI s = 47 then some (0, v) else if nI s = 37 then some (0, v) else fX12_comesTo_J203 (fX12_comesTo_L16 m) v (nI b) (nI (n + 1)) 0 (nI (i + 1)) (nI e) else fX12_comesTo_J203 (fX12_comesTo_L16 m) v (nI b) (nI (n + 1)) 0 (nI (i + 1)) (nI e) := by
  show bX12_comesTo_L16 _ _ _ _ _ _ = _
  unfold bX12_comesTo_L16; dsimp only [lett]
  rw [tps (n + 1), if_neg (nI_ge hi (by omega)), gd_n (by omega) (by decide), gd_n (by omega) (by decide), ix_n (show i < 2147483648 by omega), v22, dec_d (by omega) (by decide), dec_r (by omega) (by decide), n1]
  have q1 : fX12_comesTo_J192 (fX12_comesTo_L16 m) v (nI b) (nI (n + 1)) 0 (nI (i + 1)) (nI e) = if v 27 (n + 1) = 0 then some (0, v) else fX12_comesTo_J203 (fX12_comesTo_L16 m) v (nI b) (nI (n + 1)) 0 (nI (i + 1)) (nI e) := by
    unfold fX12_comesTo_J192
    rw [gd_n (by omega) (by decide), ix_n (show n + 1 < 2147483648 by omega)]
  rw [q1]
  rcases hop with ⟨rfl, rfl⟩ | ⟨rfl, rfl⟩ | ⟨rfl, rfl⟩ | ⟨rfl, rfl⟩ | ⟨rfl, rfl⟩ | ⟨rfl, rfl⟩ | ⟨rfl, rfl⟩ | ⟨rfl, rfl⟩
  · rw [if_neg (by decide), if_neg (by decide), if_neg (by decide), if_neg (by decide), if_neg (by decide), if_neg (by decide), if_neg (by decide), div_if (fun q => absurd q.2 (by decide))]
  · rw [if_neg (by decide), if_neg (by decide), if_neg (by decide), if_neg (by decide), if_neg (by decide), if_neg (by decide), if_neg (by decide), div_if (fun q => absurd q.2 (by decide))]
  · rw [if_neg (by decide), if_neg (by decide), if_neg (by decide), if_neg (by decide), if_neg (by decide), if_neg (by decide), if_neg (by decide), div_if (fun q => absurd q.2 (by decide))]
  · rw [if_neg (by decide), if_neg (by decide), if_neg (by decide), if_neg (by decide), if_neg (by decide), if_pos (by decide)]
    rw [if_pos (show nI 47 = 47 by decide)]
  · rw [if_neg (by decide), if_neg (by decide), if_neg (by decide), if_neg (by decide), if_neg (by decide), if_neg (by decide), if_pos (by decide)]
    rw [if_neg (show ¬ nI 37 = 47 by decide), if_pos (show nI 37 = 37 by decide)]
  · rw [if_neg (by decide), if_neg (by decide), if_neg (by decide), if_neg (by decide), if_neg (by decide), if_neg (by decide), if_neg (by decide), div_if (fun q => absurd q.2 (by decide))]
  · rw [if_neg (by decide), if_neg (by decide), if_neg (by decide), if_neg (by decide), if_neg (by decide), if_neg (by decide), if_neg (by decide), div_if (fun q => absurd q.2 (by decide))]
  · rw [if_neg (by decide), if_neg (by decide), if_neg (by decide), if_neg (by decide), if_neg (by decide), if_neg (by decide), if_neg (by decide), div_if (fun q => absurd q.2 (by decide))]
theorem end_r {m b : Nat} {r : Bool} {lw0 v0 lw v : St} (hb : b ≤ 240) (hl : ∀ k, k ≠ 9 → lw k = lw0 k) (hv : ∀ k, k ≠ 27 → v k = v0 k) (s1 : lw 9 0 = v 27 0) (s2 : r = true → lw 9 0 = 0 ∨ lw 9 0 = 1) : RunEq (m + 1) b 1 b r lw0 v0 lw v := by
  refine ⟨lw 9 0, lw, v, ?_, ?_, hl, hv, s2⟩
  · show bX2_reckon_L5 _ _ _ _ _ = _
    unfold bX2_reckon_L5
    rw [if_pos (nI_le (Nat.le_refl b) (by omega)), if_pos (show nI 1 - 1 = 0 by decide)]
    exact gd_n (k := 0) (by decide) (by decide)
  · show bX12_comesTo_L16 _ _ _ _ _ _ = _
    unfold bX12_comesTo_L16
    rw [if_pos (nI_le (Nat.le_refl b) (by omega)), s1]
    exact gd_n (k := 0) (by decide) (by decide)
theorem num_r {m b i L o : Nat} {r : Bool} {lw0 v0 lw v : St} (hi : i < b) (hb : b ≤ 240) (hL : L ≤ 30) (l5 : lw 5 i = nI 0) (l6 : lw 6 i = nI o) (v22 : v 22 i = nI (1048576 * 0 + o)) (ho : o < 100000) (k : RunEq m b (L + 1) (i + 1) r lw0 v0 (st lw 9 L (nI o)) (st v 27 L (nI o))) : RunEq (m + 1) b L i r lw0 v0 lw v := by
  have nb : ¬ nI b ≤ nI i := nI_ge hi (by omega)
  refine RunEq_step (L + 1) (i + 1) _ _ ?_ ?_ k
  · show bX2_reckon_L5 _ _ _ _ _ = _
    unfold bX2_reckon_L5; dsimp only [lett]
    rw [if_neg nb, gd_n (by omega) (by decide), gd_n (by omega) (by decide), ix_n (show i < 2147483648 by omega), l5, l6, if_pos (by decide)]
    unfold fX2_reckon_J40 fX2_reckon_J73; dsimp only [lett]
    rw [tp1, if_pos (show nI L < 32 from nI_lt (b := 32) (by omega) (by decide)), if_pos (by decide), gd_n (by omega) (by decide), ix_n (by omega), n1, tps]
  · show bX12_comesTo_L16 _ _ _ _ _ _ = _
    unfold bX12_comesTo_L16; dsimp only [lett]
    rw [if_neg nb, gd_n (by omega) (by decide), gd_n (by omega) (by decide), ix_n (show i < 2147483648 by omega), v22, dec_d (by decide) (by omega), dec_r (by decide) (by omega), if_pos (by decide), n1]
    unfold fX12_comesTo_J63 fX12_comesTo_J85; dsimp only [lett]
    rw [if_pos (by decide), gd_n (by omega) (by decide), ix_n (by omega), n1]
theorem let_r {m b i L o : Nat} {r : Bool} {lw0 v0 lw v : St} (hi : i < b) (hb : b ≤ 240) (hL : L ≤ 30) (l5 : lw 5 i = nI 1) (l6 : lw 6 i = nI o) (v22 : v 22 i = nI (1048576 * 1 + o)) (ho : o < 8) (ef : lw 8 o = v 28 o) (k : RunEq m b (L + 1) (i + 1) r lw0 v0 (st lw 9 L (v 28 o)) (st v 27 L (v 28 o))) : RunEq (m + 1) b L i r lw0 v0 lw v := by
  have nb : ¬ nI b ≤ nI i := nI_ge hi (by omega)
  refine RunEq_step (L + 1) (i + 1) _ _ ?_ ?_ k
  · show bX2_reckon_L5 _ _ _ _ _ = _
    unfold bX2_reckon_L5; dsimp only [lett]
    rw [if_neg nb, gd_n (by omega) (by decide), gd_n (by omega) (by decide), ix_n (show i < 2147483648 by omega), l5, l6, if_neg (by decide), if_pos (by decide)]
    unfold fX2_reckon_J40 fX2_reckon_J73; dsimp only [lett]
    rw [tp1, if_pos (show nI L < 32 from nI_lt (b := 32) (by omega) (by decide)), if_neg (by decide), gd_n (by omega) (by decide), gd_n (by omega) (by decide), ix_n (show o < 2147483648 by omega), ix_n (show L < 2147483648 by omega), n1, tps, ef]
  · show bX12_comesTo_L16 _ _ _ _ _ _ = _
    unfold bX12_comesTo_L16; dsimp only [lett]
    rw [if_neg nb, gd_n (by omega) (by decide), gd_n (by omega) (by decide), ix_n (show i < 2147483648 by omega), v22, dec_d (by decide) (by omega), dec_r (by decide) (by omega), if_neg (by decide), if_pos (by decide), n1]
    unfold fX12_comesTo_J63 fX12_comesTo_J85; dsimp only [lett]
    rw [if_neg (by decide), gd_n (by omega) (by decide), gd_n (by omega) (by decide), ix_n (show o < 2147483648 by omega), ix_n (show L < 2147483648 by omega), n1]
theorem not_r {m b i n : Nat} {r : Bool} {lw0 v0 lw v : St} (hi : i < b) (hb : b ≤ 240) (hL : n + 1 ≤ 30) (l5 : lw 5 i = nI 33) (v22 : v 22 i = nI (1048576 * 10 + 0)) (s1 : lw 9 n = v 27 n) (k : RunEq m b (n + 1) (i + 1) r lw0 v0 (st lw 9 n (1 - lw 9 n)) (st v 27 n (1 - lw 9 n))) : RunEq (m + 1) b (n + 1) i r lw0 v0 lw v := by
  have nb : ¬ nI b ≤ nI i := nI_ge hi (by omega)
  have p0 : (0 : Int32) ≤ nI n := nI_le (a := 0) (by omega) (by omega)
  refine RunEq_step (n + 1) (i + 1) _ _ ?_ ?_ k
  · show bX2_reckon_L5 _ _ _ _ _ = _
    unfold bX2_reckon_L5; dsimp only [lett]
    rw [tps, if_neg nb, gd_n (by omega) (by decide), gd_n (by omega) (by decide), ix_n (show i < 2147483648 by omega), l5, if_neg (by decide), if_neg (by decide), if_pos p0, if_pos (by decide), gd_n (by omega) (by decide), gd_n (by omega) (by decide), ix_n (show n < 2147483648 by omega), n1]
  · show bX12_comesTo_L16 _ _ _ _ _ _ = _
    unfold bX12_comesTo_L16; dsimp only [lett]
    rw [tps, if_neg nb, gd_n (by omega) (by decide), gd_n (by omega) (by decide), ix_n (show i < 2147483648 by omega), v22, dec_d (by decide) (by omega), if_neg (by decide), if_neg (by decide), if_pos (by decide), gd_n (by omega) (by decide), gd_n (by omega) (by decide), ix_n (show n < 2147483648 by omega), n1, s1]
theorem jmp_a {m b i n s o : Nat} {lw : St} (hi : i < b) (hb : b ≤ 240) (hL : n + 1 ≤ 30) (hS : s = 38 ∨ s = 124) (l5 : lw 5 i = nI s) (l6 : lw 6 i = nI o) : fX2_reckon_L5 (m + 1) lw (nI b) (nI (n + 1) - 1) (nI i) = fX2_reckon_J121 (fX2_reckon_L5 m) lw (nI b) (nI n) (nI i) (nI s) (nI o) := by
  have nb : ¬ nI b ≤ nI i := nI_ge hi (by omega)
  have p0 : (0 : Int32) ≤ nI n := nI_le (a := 0) (by omega) (by omega)
  show bX2_reckon_L5 _ _ _ _ _ = _
  unfold bX2_reckon_L5; dsimp only [lett]
  rw [tps, if_neg nb, gd_n (by omega) (by decide), gd_n (by omega) (by decide), ix_n (show i < 2147483648 by omega), l5, l6]
  rcases hS with rfl | rfl
  · rw [if_neg (by decide), if_neg (by decide), if_pos p0, if_neg (by decide), if_pos (by decide)]
  · rw [if_neg (by decide), if_neg (by decide), if_pos p0, if_neg (by decide), if_neg (by decide), if_pos (by decide)]
theorem jmp_b {m b i n e o : Nat} {v : St} (hi : i < b) (hb : b ≤ 240) (hL : n + 1 ≤ 30) (ho : o ≤ 240) (hS : e = 11 ∨ e = 12) (v22 : v 22 i = nI (1048576 * e + o)) : fX12_comesTo_L16 (m + 1) v (nI b) (nI (n + 1)) 0 (nI i) = fX12_comesTo_J135 (fX12_comesTo_L16 m) v (nI b) (nI (n + 1)) 0 (nI (i + 1)) (nI e) (nI o) := by
  have nb : ¬ nI b ≤ nI i := nI_ge hi (by omega)
  show bX12_comesTo_L16 _ _ _ _ _ _ = _
  unfold bX12_comesTo_L16; dsimp only [lett]
  rw [if_neg nb, gd_n (by omega) (by decide), gd_n (by omega) (by decide), ix_n (show i < 2147483648 by omega), v22, n1, dec_d (by omega) (by omega), dec_r (by omega) (by omega)]
  rcases hS with rfl | rfl
  · rw [if_neg (by decide), if_neg (by decide), if_neg (by decide), if_pos (by decide)]
  · rw [if_neg (by decide), if_neg (by decide), if_neg (by decide), if_neg (by decide), if_pos (by decide)]
theorem jmp_a1 {m b i n o : Nat} {lw : St} (hio : i < o) (ho : o ≤ 240) (y : Int32) : fX2_reckon_J147 (fX2_reckon_L5 m) lw (nI b) (nI n) (nI i) (nI o) y y = fX2_reckon_L5 m lw (nI b) (nI n) (nI o) := by
  unfold fX2_reckon_J147; dsimp only [lett]
  have e1 : nI o - 1 = nI (o - 1) := by rw [show (1 : Int32) = nI 1 from rfl, sub_n (by omega)]
  have e2 : mx (nI i) (nI (o - 1)) = nI (o - 1) := by
    unfold mx
    by_cases q : i < o - 1
    · rw [if_pos (nI_lt q (by omega))]
    · rw [if_neg (nI_nlt (by omega) (by omega))]; exact congrArg nI (by omega)
  rw [if_pos rfl, e1, e2, n1, show o - 1 + 1 = o by omega]
theorem jmp_a0 {m b i n o : Nat} {lw : St} {y z : Int32} (h : ¬ z = y) : fX2_reckon_J147 (fX2_reckon_L5 m) lw (nI b) (nI n) (nI i) (nI o) y z = fX2_reckon_L5 m lw (nI b) (nI n - 1) (nI (i + 1)) := by
  unfold fX2_reckon_J147; dsimp only [lett]
  rw [if_neg h, tpm, n1]
theorem jmp_b1 {m b i n o : Nat} {v : St} (y : Int32) : fX12_comesTo_J155 (fX12_comesTo_L16 m) v (nI b) (nI n) 0 (nI i) (nI o) y y = fX12_comesTo_L16 m v (nI b) (nI n) 0 (nI o) := by
  unfold fX12_comesTo_J155; dsimp only [lett]
  rw [if_pos rfl, a0]
theorem jmp_b0 {m b i n o : Nat} {v : St} {y z : Int32} (h : ¬ z = y) : fX12_comesTo_J155 (fX12_comesTo_L16 m) v (nI b) (nI (n + 1)) 0 (nI i) (nI o) y z = fX12_comesTo_L16 m v (nI b) (nI n) 0 (nI i) := by
  unfold fX12_comesTo_J155; dsimp only [lett]
  rw [if_neg h, tps]
theorem jmp_r {m b i n s e o : Nat} {r : Bool} {lw0 v0 lw v : St} (hi : i < b) (hb : b ≤ 240) (hL : n + 1 ≤ 30) (hio : i < o) (ho : o ≤ b) (hS : (s = 38 ∧ e = 11) ∨ (s = 124 ∧ e = 12)) (l5 : lw 5 i = nI s) (l6 : lw 6 i = nI o) (v22 : v 22 i = nI (1048576 * e + o)) (s1 : lw 9 n = v 27 n) (s2 : lw 9 n = 0 ∨ lw 9 n = 1) (k1 : RunEq m b (n + 1) o r lw0 v0 lw v) (k2 : RunEq m b n (i + 1) r lw0 v0 lw v) : RunEq (m + 1) b (n + 1) i r lw0 v0 lw v := by
  have eA := jmp_a (m := m) hi hb hL (hS.elim (fun h => Or.inl h.1) (fun h => Or.inr h.1)) l5 l6
  have eB := jmp_b (m := m) hi hb hL (show o ≤ 240 by omega) (hS.elim (fun h => Or.inl h.2) (fun h => Or.inr h.2)) v22
  have jumps : fX2_reckon_J121 (fX2_reckon_L5 m) lw (nI b) (nI n) (nI i) (nI s) (nI o) = fX2_reckon_L5 m lw (nI b) (nI n) (nI o) → fX12_comesTo_J135 (fX12_comesTo_L16 m) v (nI b) (nI (n + 1)) 0 (nI (i + 1)) (nI e) (nI o) = fX12_comesTo_L16 m v (nI b) (nI (n + 1)) 0 (nI o) → RunEq (m + 1) b (n + 1) i r lw0 v0 lw v := fun a b => RunEq_step _ _ _ _ (eA.trans (a.trans (by rw [tps]))) (eB.trans b) k1
  have pops : fX2_reckon_J121 (fX2_reckon_L5 m) lw (nI b) (nI n) (nI i) (nI s) (nI o) = fX2_reckon_L5 m lw (nI b) (nI n - 1) (nI (i + 1)) → fX12_comesTo_J135 (fX12_comesTo_L16 m) v (nI b) (nI (n + 1)) 0 (nI (i + 1)) (nI e) (nI o) = fX12_comesTo_L16 m v (nI b) (nI n) 0 (nI (i + 1)) → RunEq (m + 1) b (n + 1) i r lw0 v0 lw v := fun a b => RunEq_step _ _ _ _ (eA.trans a) (eB.trans b) k2
  unfold fX2_reckon_J121 fX2_reckon_J135 fX12_comesTo_J135 at jumps pops
  rw [tps, gd_n (show n < 32 by omega) (by decide), gd_n (show n < 260 by omega) (by decide), ix_n (show n < 2147483648 by omega), ← s1] at jumps pops
  rcases hS with ⟨rfl, rfl⟩ | ⟨rfl, rfl⟩ <;> rcases s2 with e | e
  · refine jumps ?_ ?_
    · rw [e, if_pos rfl, if_neg (by decide), jmp_a1 hio (by omega)]
    · rw [e, if_neg (by decide), jmp_b1]
  · refine pops ?_ ?_
    · rw [e, if_neg (by decide), if_neg (by decide), jmp_a0 (by decide)]
    · rw [e, if_neg (by decide), jmp_b0 (by decide)]
  · refine pops ?_ ?_
    · rw [e, if_pos rfl, if_pos (by decide), jmp_a0 (by decide)]
    · rw [e, if_pos (by decide), jmp_b0 (by decide)]
  · refine jumps ?_ ?_
    · rw [e, if_neg (by decide), if_pos (by decide), jmp_a1 hio (by omega)]
    · rw [e, if_pos (by decide), jmp_b1]
theorem bin_ja {m b i n s : Nat} {lw : St} {z : Int32} (hn : n ≤ 28) (z1 : fX2_joined (nI s) (lw 9 n) (lw 9 (n + 1)) = some z) : fX2_reckon_J200 (fX2_reckon_L5 m) lw (nI b) (nI (n + 1)) (nI i) (nI s) = fX2_reckon_L5 m (st lw 9 n z) (nI b) (nI n) (nI (i + 1)) := by
  unfold fX2_reckon_J200
  rw [lett_s, tpm, tps, gd_n (by omega) (by decide), n1, gd_n (by omega) (by decide), ix_n (show n < 2147483648 by omega), ix_n (show n + 1 < 2147483648 by omega), z1, sbind, gd_n (by omega) (by decide), lett_s, lett_s, n1]
theorem bin_jb {m b i n e : Nat} {v : St} {z : Int32} (hn : n ≤ 28) (z2 : fX12_reckon (nI e) (v 27 n) (v 27 (n + 1)) = some z) : fX12_comesTo_J203 (fX12_comesTo_L16 m) v (nI b) (nI (n + 1)) 0 (nI i) (nI e) = fX12_comesTo_L16 m (st v 27 n z) (nI b) (nI (n + 1)) 0 (nI i) := by
  unfold fX12_comesTo_J203; dsimp only [lett]
  rw [tps, gd_n (by omega) (by decide), gd_n (by omega) (by decide), ix_n (show n < 2147483648 by omega), ix_n (show n + 1 < 2147483648 by omega), z2, sbind, gd_n (by omega) (by decide)]
theorem div_z {α : Type} {q s : Int32} {z J : α} (h : q = 0 ∧ (s = 47 ∨ s = 37)) : (if q = 0 then if s = 47 then z else if s = 37 then z else J else J) = z := by
  rw [if_pos h.1]
  by_cases q : s = 47
  · rw [if_pos q]
  · rw [if_neg q, if_pos (h.2.resolve_left q)]
theorem op_z {s : Nat} {q : Int32} (hz : ¬ (q = 0 ∧ (nI s = 47 ∨ nI s = 37))) : ¬ (q = 0 ∧ (s = 47 ∨ s = 37)) := fun h => hz ⟨h.1, h.2.elim (fun h => Or.inl (h ▸ rfl)) (fun h => Or.inr (h ▸ rfl))⟩
theorem bin_r {m b i n s e : Nat} {r : Bool} {lw0 v0 lw v : St} (hop : (s = 43 ∧ e = 2) ∨ (s = 45 ∧ e = 3) ∨ (s = 42 ∧ e = 4) ∨ (s = 47 ∧ e = 5) ∨ (s = 37 ∧ e = 6) ∨ (s = 60 ∧ e = 7) ∨ (s = 62 ∧ e = 8) ∨ (s = 61 ∧ e = 9)) (hi : i < b) (hb : b ≤ 240) (hn : n ≤ 28) (hl : ∀ k, k ≠ 9 → lw k = lw0 k) (hv : ∀ k, k ≠ 27 → v k = v0 k) (l5 : lw 5 i = nI s) (v22 : v 22 i = nI (1048576 * e + 0)) (s1 : lw 9 (n + 1) = v 27 (n + 1)) (s3 : lw 9 n = v 27 n) (k : ∀ z, ((s = 60 ∨ s = 62 ∨ s = 61) → z = 0 ∨ z = 1) → RunEq m b (n + 1) (i + 1) r lw0 v0 (st lw 9 n z) (st v 27 n z)) : RunEq (m + 1) b (n + 2) i r lw0 v0 lw v := by
  have eA := bin_a (m := m) hop hi hb hn l5
  have eB := bin_b (m := m) hop hi hb hn v22
  rw [← s1] at eB
  by_cases hz : lw 9 (n + 1) = 0 ∧ (nI s = 47 ∨ nI s = 37)
  · rw [div_z hz] at eA eB
    exact ⟨0, lw, v, eA, eB, hl, hv, fun _ => Or.inl rfl⟩
  · rw [div_if hz] at eA eB
    obtain ⟨z, z1, z2, z3⟩ := joined_n hop (lw 9 n) (lw 9 (n + 1)) (op_z hz)
    have jA := bin_ja (m := m) (b := b) (i := i) hn z1
    rw [s1, s3] at z2
    have jB := bin_jb (m := m) (b := b) (i := i + 1) hn z2
    obtain ⟨x, lw', v', q1, q2, q3⟩ := k z z3
    rw [tps] at q1
    exact ⟨x, lw', v', eA.trans (jA.trans q1), eB.trans (jB.trans q2), q3⟩
theorem run_n {c : Nat} {S O : Nat → Nat} {a b : Nat} {r : Bool} {ty : Nat → List Bool} (hc : c ≤ 240) (hb : b ≤ c) (hk : CodeOk S O a b r ty) {lw0 v0 : St} (hcd : ∀ i, i < c → lw0 5 i = nI (S i) ∧ lw0 6 i = nI (O i) ∧ v0 22 i = nI (1048576 * encS (S i) + O i)) (hf : ∀ j, j < 8 → lw0 8 j = v0 28 j) : ∀ (m i : Nat) (lw v : St), a ≤ i → i ≤ b → b - i < m → (∀ k, k ≠ 9 → lw k = lw0 k) → (∀ k, k ≠ 27 → v k = v0 k) → StkOk (ty i) (lw 9) (v 27) → RunEq m b (ty i).length i r lw0 v0 lw v := by
  intro m
  induction m with
  | zero => intro i lw v _ _ h; omega
  | succ m ih =>
    intro i lw v h1 h2 h3 hl hv hs
    have ih' : ∀ (i' : Nat) (T : List Bool) (n : Nat) (lw v : St), ty i' = T → T.length = n → i < i' → i' ≤ b → (∀ k, k ≠ 9 → lw k = lw0 k) → (∀ k, k ≠ 27 → v k = v0 k) → StkOk T (lw 9) (v 27) → RunEq m b n i' r lw0 v0 lw v := by
      intro i' T n lw v e e2 g1 g2 g3 g4 g5
      subst e2; subst e
      exact ih i' lw v (by omega) g2 (by omega) g3 g4 g5
    by_cases hib : i = b
    · rw [hib] at hs ⊢
      rw [hk.2.1] at hs ⊢
      obtain ⟨s1, s2, -⟩ := hs
      exact end_r (by omega) hl hv s1 s2
    · have hi : i < b := by omega
      have hb2 : b ≤ 240 := by omega
      obtain ⟨hlen, hst⟩ := hk.2.2 i h1 hi
      obtain ⟨c5, c6, c22⟩ := hcd i (by omega)
      have l5 : lw 5 i = nI (S i) := by rw [hl 5 (by decide)]; exact c5
      have l6 : lw 6 i = nI (O i) := by rw [hl 6 (by decide)]; exact c6
      have v22 : v 22 i = nI (1048576 * encS (S i) + O i) := by rw [hv 22 (by decide)]; exact c22
      have fl : ∀ n x k, k ≠ 9 → st lw 9 n x k = lw0 k := fun n x k q => by rw [st_i q]; exact hl k q
      have fv : ∀ n x k, k ≠ 27 → st v 27 n x k = v0 k := fun n x k q => by rw [st_i q]; exact hv k q
      rcases hst with ⟨hS, hO, hT⟩ | ⟨hS, hO, hT⟩ | ⟨hS, hO, t, hT, hT2⟩ | ⟨hS, hO, hO2, t, hT, hT2, hT3⟩ | ⟨hS, hO, t, hT, hT2⟩ | ⟨hS, hO, t, hT, hT2⟩
      · rw [hS] at l5 v22
        refine num_r hi hb2 hlen l5 l6 v22 hO (ih' (i + 1) (false :: ty i) _ _ _ hT (List.length_cons ..) (by omega) (by omega) (fl _ _) (fv _ _) ?_)
        rw [st_s, st_s]
        exact StkOk_push hs (fun q => by cases q)
      · rw [hS] at l5 v22
        refine let_r hi hb2 hlen l5 l6 v22 hO (by rw [hl 8 (by decide), hv 28 (by decide)]; exact hf _ hO) (ih' (i + 1) (false :: ty i) _ _ _ hT (List.length_cons ..) (by omega) (by omega) (fl _ _) (fv _ _) ?_)
        rw [st_s, st_s]
        exact StkOk_push hs (fun q => by cases q)
      · rw [hT] at hs hlen ⊢
        obtain ⟨s1, s2, s3⟩ := hs
        rw [List.length_cons] at hlen ⊢
        rw [hS, hO] at v22
        rw [hS] at l5
        refine not_r hi hb2 hlen l5 v22 s1 (ih' (i + 1) (true :: t) _ _ _ (hT2.trans hT) (List.length_cons ..) (by omega) (by omega) (fl _ _) (fv _ _) ?_)
        rw [st_s, st_s]
        refine StkOk_push s3 (fun _ => ?_)
        rcases s2 rfl with e | e
        · rw [e]; exact Or.inr (by decide)
        · rw [e]; exact Or.inl (by decide)
      · rw [hT] at hs hlen ⊢
        have hs0 := hs
        obtain ⟨s1, s2, s3⟩ := hs
        rw [List.length_cons] at hlen ⊢
        have hop : (S i = 38 ∧ encS (S i) = 11) ∨ (S i = 124 ∧ encS (S i) = 12) := by
          rcases hS with q | q <;> rw [q] <;> decide
        exact jmp_r hi hb2 hlen hO hO2 hop l5 l6 v22 s1 (s2 rfl) (ih' (O i) (true :: t) _ _ _ (hT3.trans hT) (List.length_cons ..) hO hO2 hl hv hs0) (ih' (i + 1) t _ _ _ hT2 rfl (by omega) (by omega) hl hv s3)
      · rw [hT] at hs hlen ⊢
        obtain ⟨s1, -, s3, -, s5⟩ := hs
        rw [List.length_cons, List.length_cons] at hlen ⊢
        rw [List.length_cons] at s1
        have hop : ((S i = 43 ∧ encS (S i) = 2) ∨ (S i = 45 ∧ encS (S i) = 3) ∨ (S i = 42 ∧ encS (S i) = 4) ∨ (S i = 47 ∧ encS (S i) = 5) ∨ (S i = 37 ∧ encS (S i) = 6) ∨ (S i = 60 ∧ encS (S i) = 7) ∨ (S i = 62 ∧ encS (S i) = 8) ∨ (S i = 61 ∧ encS (S i) = 9)) := by
          rcases hS with q | q | q | q | q <;> rw [q] <;> decide
        rw [hO] at v22
        refine bin_r hop hi hb2 (show t.length ≤ 28 by omega) hl hv l5 v22 s1 s3 (fun z _ => ih' (i + 1) (false :: t) _ _ _ hT2 (List.length_cons ..) (by omega) (by omega) (fl _ _) (fv _ _) ?_)
        rw [st_s, st_s]
        exact StkOk_push s5 (fun q => by cases q)
      · rw [hT] at hs hlen ⊢
        obtain ⟨s1, -, s3, -, s5⟩ := hs
        rw [List.length_cons, List.length_cons] at hlen ⊢
        rw [List.length_cons] at s1
        have hop : ((S i = 43 ∧ encS (S i) = 2) ∨ (S i = 45 ∧ encS (S i) = 3) ∨ (S i = 42 ∧ encS (S i) = 4) ∨ (S i = 47 ∧ encS (S i) = 5) ∨ (S i = 37 ∧ encS (S i) = 6) ∨ (S i = 60 ∧ encS (S i) = 7) ∨ (S i = 62 ∧ encS (S i) = 8) ∨ (S i = 61 ∧ encS (S i) = 9)) := by
          rcases hS with q | q | q <;> rw [q] <;> decide
        rw [hO] at v22
        refine bin_r hop hi hb2 (show t.length ≤ 28 by omega) hl hv l5 v22 s1 s3 (fun z hz => ih' (i + 1) (true :: t) _ _ _ hT2 (List.length_cons ..) (by omega) (by omega) (fl _ _) (fv _ _) ?_)
        rw [st_s, st_s]
        exact StkOk_push s5 (fun _ => hz hS)
