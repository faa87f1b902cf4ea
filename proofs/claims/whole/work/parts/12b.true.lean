/-! ===== areTrue ===== -/
theorem cmp_ge {a b : Nat} (ha : a < 1073741824) (hb : b < 1073741824) : (0 ≤ nI a - nI b) ↔ b ≤ a := by
  constructor
  · intro h
    by_cases q : b ≤ a
    · exact q
    · exact absurd h (fa_of_lt (pk_sneg (by omega) (by omega))).2.1
  · intro h
    rw [pk_sub h]; exact nI_pos' (by omega)
theorem cmp_eq {a b : Nat} (ha : a < 1073741824) (hb : b < 1073741824) : (nI a - nI b = 0) ↔ a = b := by
  constructor
  · intro h
    have h2 : b ≤ a := (cmp_ge ha hb).mp (by rw [h]; decide)
    rw [pk_sub h2] at h
    have := (nI_eq (a := a - b) (b := 0) (by omega) (by omega)).mp h
    omega
  · intro h; subst h; rw [pk_sub (Nat.le_refl a), Nat.sub_self]; rfl
theorem cmp_le {a b : Nat} (ha : a < 1073741824) (hb : b < 1073741824) : (nI a - nI b ≤ 0) ↔ a ≤ b := by
  by_cases q : b < a
  · rw [pk_sub (by omega)]
    exact ⟨fun h => absurd h (nI_nle (by omega) (by omega)), fun h => by omega⟩
  · refine ⟨fun _ => by omega, fun _ => ?_⟩
    by_cases e : a = b
    · rw [(cmp_eq ha hb).mpr e]; decide
    · exact (fa_of_lt (pk_sneg (by omega) (by omega))).1
theorem ir1 (x y z : Int32) : x - y - z = x - (y + z) := by grind
theorem ir2 (x y z : Int32) : x - y + z = x + z - y := by grind
def soL (a b s F : Nat → Nat) (k : Nat) : Bool := outc (s k) (nI (sumB (a k) F 16)) (nI (sumB (b k) F 16))
def asL (a b : Nat → Nat) (t : Nat) (k : Nat) : Bool := decide (ndiff (a k ||| b k) t ≠ 0)
theorem aside_n {n : Nat} {a b s : Nat → Nat} {to v : St} (h : Wg n a b s to v) {k t : Nat} (hk : k < n) : fX10_isAside to (nI k) (nI t) = some (nI (b01 (asL a b t k))) := by
  obtain ⟨h1, h2, h3, h4⟩ := h
  obtain ⟨a1, b1, -, -, -, -, e1, -, e2, -, -, -⟩ := h4 k hk
  unfold fX10_isAside asL
  rw [gd_n (by omega) (by decide), gd_n (by omega) (by decide), ix_n (by omega), e1, e2, fa_or, ndiff_eq]
  have l1 : a k ||| b k < 65536 := Nat.or_lt_two_pow (n := 16) a1 b1
  have l2 := ndiff_le (a k ||| b k) t
  by_cases q : ndiff (a k ||| b k) t = 0
  · rw [q, if_pos (show nI 0 = 0 from rfl)]; rfl
  · rw [if_neg (nI_ne0 (by omega) (by omega)), decide_eq_true q]; rfl
theorem so11 {n : Nat} {a b s F : Nat → Nat} {to v ch : St} (h : Wg n a b s to v) (hS : SumT F ch) {k : Nat} (hk : k < n) : fX10_isSo to ch (nI k) = some (nI (b01 (soL a b s F k))) := by
  obtain ⟨h1, h2, h3, h4⟩ := h
  obtain ⟨a1, b1, -, -, -, -, e1, -, e2, -, e3, -⟩ := h4 k hk
  unfold fX10_isSo soL outc; dsimp only [lett]
  rw [gd_n (by omega) (by decide), gd_n (by omega) (by decide), ix_n (by omega), e1, sum_n hS a1, sbind, gd_n (by omega) (by decide), e2, sum_n hS b1, sbind, e3]
  by_cases q : nI (s k) = fX10_outcomeOf (nI (sumB (a k) F 16)) (nI (sumB (b k) F 16))
  · rw [if_pos q, decide_eq_true q]; rfl
  · rw [if_neg q, decide_eq_false q]; rfl
theorem many_n {n : Nat} {a b s F : Nat → Nat} {to v ch : St} (h : Wg n a b s to v) (hS : SumT F ch) (t : Nat) : fX10_howManySo to ch (nI t) = some (nI (fb_ct (fun k => !asL a b t k && soL a b s F k) n)) := by
  have := h.1
  refine for_all (fun m (c : Nat) k => fX10_howManySo_L5 to ch m (nI t) (nI c) (nI k)) n (fun k => fb_ct (fun k => !asL a b t k && soL a b s F k) k) _ (fun m => ?_) (fun m k hk => ?_) (by omega)
  · show bX10_howManySo_L5 to ch _ _ _ _ = _
    unfold bX10_howManySo_L5
    rw [h.2.1, if_pos (nI_le (Nat.le_refl n) (by omega))]
  · show bX10_howManySo_L5 to ch _ _ _ _ = fX10_howManySo_L5 to ch m _ _ _
    unfold bX10_howManySo_L5; dsimp only [lett]
    rw [h.2.1, if_neg (nI_ge hk (by omega)), aside_n h hk, sbind, so11 h hS hk, sbind, fb_ct_succ, add0, n1, n1]
    cases asL a b t k <;> cases soL a b s F k <;> rfl
/-- the first of n places where P, else d -/
def lowD (d : Int32) (P : Nat → Bool) (n : Nat) : Nat → Int32
  | 0 => d
  | k + 1 => if P (n - (k + 1)) then nI (n - (k + 1)) else lowD d P n k
def cntU (P : Nat → Bool) (n : Nat) : Nat → Nat
  | 0 => 0
  | k + 1 => cntU P n k + (if P (n - (k + 1)) then 1 else 0)
theorem cntU_ct {P : Nat → Bool} {n : Nat} : ∀ k, k ≤ n → cntU P n k + fb_ct P (n - k) = fb_ct P n
  | 0, _ => by rw [cntU]; simp
  | k + 1, hk => by
    have := cntU_ct (P := P) (n := n) k (by omega)
    rw [cntU]
    rw [show n - k = (n - (k + 1)) + 1 by omega, fb_ct_succ] at this
    omega
theorem first_n {n : Nat} {a b s F : Nat → Nat} {to v ch : St} (h : Wg n a b s to v) (hS : SumT F ch) (t : Nat) : fX10_firstNotSo to ch (nI t) = some (lowD (-2) (fun k => !asL a b t k && !soL a b s F k) n n) := by
  have hs : ∀ m k, k ≤ n → n - k < m → fX10_firstNotSo_L2 to ch m (nI t) (nI k) = some (lowD (-2) (fun k => !asL a b t k && !soL a b s F k) n (n - k)) := by
    intro m
    induction m with
    | zero => intro k _ h; omega
    | succ m ih =>
      intro k hk hm
      have := h.1
      show bX10_firstNotSo_L2 to ch _ _ _ = _
      unfold bX10_firstNotSo_L2; dsimp only [lett]
      rw [h.2.1]
      by_cases hkn : k = n
      · subst hkn
        rw [if_pos (nI_le (Nat.le_refl k) (by omega)), Nat.sub_self]; rfl
      · have hk2 : k < n := by omega
        rw [if_neg (nI_ge (by omega) (by omega)), aside_n h hk2, sbind, so11 h hS hk2, sbind, n1, ih (k + 1) (by omega) (by omega)]
        rw [show n - k = (n - (k + 1)) + 1 by omega, lowD, show n - (n - (k + 1) + 1) = k by omega]
        cases asL a b t k <;> cases soL a b s F k <;> rfl
  have := hs FU 0 (by omega) (by have := h.1; show n - 0 < 1000000; omega)
  exact this
theorem apart_n {n : Nat} {a b s F : Nat → Nat} {to v : St} (h : Wg n a b s to v) {k r : Nat} (hk : k < n) (hr : r ≤ 80) (hF : ∀ p, p < 16 → v 0 (r + p) = nI (F p)) : fX12_apartBy v (nI k) (nI r) = some (nI (sumB (a k) F 16) - nI (sumB (b k) F 16)) := by
  obtain ⟨h1, h2, h3, h4⟩ := h
  obtain ⟨a1, b1, -, -, -, -, -, e1, -, e2, -, -⟩ := h4 k hk
  have e : fX12_apartBy_L5 v FU (nI k) (nI r) (nI (sumB (a k) F 0) - nI (sumB (b k) F 0)) (nI 0) = some (nI (sumB (a k) F 16) - nI (sumB (b k) F 16)) := by
    refine for_all (fun m (c : Int32) j => fX12_apartBy_L5 v m (nI k) (nI r) c (nI j)) 16 (fun j => nI (sumB (a k) F j) - nI (sumB (b k) F j)) _ (fun m => ?_) (fun m j hj => ?_) (by decide)
    · show bX12_apartBy_L5 v _ _ _ _ _ = _
      unfold bX12_apartBy_L5
      simp (disch := omega) only [l_0, l_1, l_2, l_3, l_4, l_5, l_6, l_7, l_8, l_9, l_10, l_11, l_12, l_15, l_16, l_20, l_24, l_32, l_37, l_38, l_40, l_41, l_42, l_43, l_45, l_47, l_48, l_57, l_59, l_60, l_61, l_62, l_63, l_64, l_80, l_91, l_93, l_96, l_97, l_98, l_99, l_100, l_101, l_102, l_103, l_108, l_110, l_114, l_119, l_120, l_124, l_200, l_240, l_255, l_256, l_260, l_999, l_1000, l_1023, l_2040, l_4080, l_6375, l_9999, l_13849, l_25173, l_65535, l_65536, l_99999, l_1000000, l_1048576, lett_s, sbind, gd_n, ix_n, nI_add, pk_mul, c_le, c_lt, c_eq, b01_0, b01_1, fa_and, fa_or, has11_n, has12_n, sub_n, div_n, rem_n, m1_n, if_pos, if_neg, if_true, if_false, reduceCtorEq, eq_self]
    · show bX12_apartBy_L5 v _ _ _ _ _ = fX12_apartBy_L5 v m _ _ _ _
      unfold bX12_apartBy_L5 fX12_apartBy_J38; dsimp only [lett]
      rw [if_neg (nle_n (x := 16) (a := 16) rfl hj (by decide)), gd_n (by omega) (by decide), ix_n (by omega), e1, has12_n (by omega) (by omega), nI_add, gd_n (by omega) (by decide), gd_n (by omega) (by decide), e2, has12_n (by omega) (by omega), gd_n (by omega) (by decide), ix_n (by omega), hF j hj, n1, sumB_s, sumB_s]
      cases (a k).testBit j <;> cases (b k).testBit j
      · simp only [dF, if_true, Bool.false_eq_true, if_false, Nat.add_zero]
      · simp only [dF, dT, if_true, Bool.false_eq_true, if_false, Nat.add_zero]
        rw [ir1, nI_add]
      · simp only [dF, dT, if_true, Bool.false_eq_true, if_false, Nat.add_zero]
        rw [ir2, nI_add, gd_n (by omega) (by decide)]
      · simp only [dT, if_true, if_false]
        rw [ir2, nI_add, ir1, nI_add, gd_n (by omega) (by decide), gd_n (by omega) (by decide)]
  have z : nI (sumB (a k) F 0) - nI (sumB (b k) F 0) = 0 := by rw [show sumB (a k) F 0 = 0 from rfl, show sumB (b k) F 0 = 0 from rfl]; decide
  rw [z] at e
  exact e
theorem so12 {n : Nat} {a b s F : Nat → Nat} {to v : St} (h : Wg n a b s to v) {k r : Nat} (hk : k < n) (hr : r ≤ 80) (hF : ∀ p, p < 16 → v 0 (r + p) = nI (F p)) (hF2 : ∀ p, p < 16 → F p ≤ 999) : fX12_isSo v (nI k) (nI r) = some (nI (b01 (soL a b s F k))) := by
  unfold fX12_isSo
  rw [apart_n h hk hr hF, sbind]
  obtain ⟨h1, h2, h3, h4⟩ := h
  obtain ⟨-, -, -, -, -, s1, -, -, -, -, -, e3⟩ := h4 k hk
  have l1 := sumB_le (t := a k) (F := F) (n := 16) (c := 999) hF2
  have l2 := sumB_le (t := b k) (F := F) (n := 16) (c := 999) hF2
  rw [gd_n (by omega) (by decide), gd_n (by omega) (by decide), ix_n (by omega), e3]
  unfold soL outc fX10_outcomeOf
  generalize sumB (a k) F 16 = A at l1 ⊢
  generalize sumB (b k) F 16 = B at l2 ⊢
  rcases Nat.lt_trichotomy A B with q | q | q
  · have c1 : ¬ 0 ≤ nI A - nI B := fun e => by have := (cmp_ge (by omega) (by omega)).mp e; omega
    have c2 : nI A - nI B ≤ 0 := (cmp_le (by omega) (by omega)).mpr (by omega)
    have c3 : ¬ nI A - nI B = 0 := fun e => by have := (cmp_eq (by omega) (by omega)).mp e; omega
    have c4 : ¬ nI A = nI B := fun e => by have := (nI_eq (by omega) (by omega)).mp e; omega
    have c5 : ¬ nI B ≤ nI A := nI_ge q (by omega)
    rw [if_neg c1, if_pos c2, if_neg c3, if_neg c4, if_neg c5]
    rcases s1 with s1 | s1 | s1 <;> rw [s1] <;> rfl
  · subst q
    have c1 : 0 ≤ nI A - nI A := (cmp_ge (by omega) (by omega)).mpr (by omega)
    have c2 : nI A - nI A ≤ 0 := (cmp_le (by omega) (by omega)).mpr (by omega)
    have c3 : nI A - nI A = 0 := (cmp_eq (by omega) (by omega)).mpr rfl
    rw [if_pos c1, if_pos c2, if_pos c3, if_pos rfl]
    rcases s1 with s1 | s1 | s1 <;> rw [s1] <;> rfl
  · have c1 : 0 ≤ nI A - nI B := (cmp_ge (by omega) (by omega)).mpr (by omega)
    have c2 : ¬ nI A - nI B ≤ 0 := fun e => by have := (cmp_le (by omega) (by omega)).mp e; omega
    have c3 : ¬ nI A - nI B = 0 := fun e => by have := (cmp_eq (by omega) (by omega)).mp e; omega
    have c4 : ¬ nI A = nI B := fun e => by have := (nI_eq (by omega) (by omega)).mp e; omega
    have c5 : nI B ≤ nI A := nI_le (by omega) (by omega)
    rw [if_pos c1, if_neg c2, if_neg c3, if_neg c4, if_pos c5]
    rcases s1 with s1 | s1 | s1 <;> rw [s1] <;> rfl
theorem true12 {n : Nat} {a b s F : Nat → Nat} {to v : St} {N : Nat → Nat → Nat} (h : Wg n a b s to v) (wr : WkR N (v 0)) (ok : WkOk N) {r : Nat} (hr : r ≤ 80) (hF : ∀ p, p < 16 → v 0 (r + p) = nI (F p)) (hF2 : ∀ p, p < 16 → F p ≤ 999) (x : Int32) : fX12_areTrue_J24 v x (nI r) = some (if 2 ≤ x then lowD (-2) (fun k => !asL a b (N 4 0) k && !soL a b s F k) n n else nI (fb_ct (fun k => !asL a b (N 4 0) k && soL a b s F k) n)) := by
  have hs : ∀ m j, j ≤ n → n - j < m → fX12_areTrue_L39 v m x (nI r) (nI (cntU (fun k => !asL a b (N 4 0) k && soL a b s F k) n j)) (lowD (-2) (fun k => !asL a b (N 4 0) k && !soL a b s F k) n j) (nI (n - j) - 1) = some (if 2 ≤ x then lowD (-2) (fun k => !asL a b (N 4 0) k && !soL a b s F k) n n else nI (cntU (fun k => !asL a b (N 4 0) k && soL a b s F k) n n)) := by
    intro m
    induction m with
    | zero => intro k _ h; omega
    | succ m ih =>
      intro j hj hm
      have := h.1
      show bX12_areTrue_L39 v _ _ _ _ _ _ = _
      unfold bX12_areTrue_L39; dsimp only [lett]
      by_cases hjn : j = n
      · subst hjn
        rw [Nat.sub_self, if_pos (by decide)]
        split <;> rfl
      · obtain ⟨k, hk⟩ : ∃ k, n - j = k + 1 := ⟨n - j - 1, by omega⟩
        obtain ⟨a1, b1, -, -, -, -, -, e1, -, e2, -, -⟩ := h.2.2.2 k (by omega)
        rw [hk, nI_pred, if_neg (nlt0 (by omega)), gd_n (by omega) (by decide), gd_n (by omega) (by decide), ix_n (by omega), toldSet_n wr ok.1, sbind, e1, e2, fa_or, ndiff_eq, so12 h (by omega) hr hF hF2, sbind]
        have ihj := ih (j + 1) (by omega) (by omega)
        rw [cntU, lowD, show n - (j + 1) = k by omega] at ihj
        rw [show nI k + (-1) = nI k - 1 from (Int32.sub_eq_add_neg _ _).symm, n1]
        have l1 : a k ||| b k < 65536 := Nat.or_lt_two_pow (n := 16) a1 b1
        have l2 := ndiff_le (a k ||| b k) (N 4 0)
        unfold asL at ihj ⊢
        by_cases q : ndiff (a k ||| b k) (N 4 0) = 0
        · rw [q, if_pos (show nI 0 = 0 from rfl)]
          have qd : decide (ndiff (a k ||| b k) (N 4 0) ≠ 0) = false := by rw [q]; rfl
          rw [qd] at ihj
          cases hs : soL a b s F k
          · rw [hs] at ihj; exact ihj
          · rw [hs] at ihj; exact ihj
        · have qd : decide (ndiff (a k ||| b k) (N 4 0) ≠ 0) = true := decide_eq_true q
          rw [qd] at ihj
          rw [if_neg (nI_ne0 (by omega) (by omega))]
          exact ihj
  have h0 := hs FU 0 (by omega) (by have := h.1; show n - 0 < 1000000; omega)
  have h1 := cntU_ct (P := fun k => !asL a b (N 4 0) k && soL a b s F k) (n := n) n (Nat.le_refl n)
  rw [Nat.sub_self] at h1
  rw [show cntU (fun k => !asL a b (N 4 0) k && soL a b s F k) n n = fb_ct (fun k => !asL a b (N 4 0) k && soL a b s F k) n from h1] at h0
  unfold fX12_areTrue_J24; dsimp only [lett]
  rw [h.2.2.1]
  exact h0
theorem eq_areTrue (g : Nat → St) (w : Nat → Int64) (v : St) (hr : Rel g v) (p1 : Int32) : ∃ (z : Int32 × St) (y : Int32), fX11_areTrue (g 3) (g 9) (g 15) p1 = some z ∧ fX12_areTrue v p1 = some y ∧ z.1 = y ∧ Rel (sg g 9 z.2) v := by
  obtain ⟨t1, ⟨N, ok, c, r⟩, t3, t4, t5, ⟨n, a, b, s, h⟩⟩ := id hr
  have h : Wg n a b s (g 15) v := h
  unfold fX11_areTrue fX12_areTrue; dsimp only [lett]
  rw [within_eq]
  rcases in_cases p1 0 3 0 3 rfl rfl (by decide) (by decide) with ⟨x, -, x2, rfl, e⟩ | e
  · obtain ⟨ch1, e1, s1⟩ := weigh_n (ch := g 9) (uw := g 3 0) (F := N 0) (fun j hj => (c.2.2.2.2 j hj).1)
    obtain ⟨ch2, e2, s2⟩ := weigh_n (ch := g 9) (uw := g 3 1) (F := N 1) (fun j hj => (c.2.2.2.2 j hj).2.1)
    have k1 : ∀ x, fX12_areTrue_J24 v x 16 = _ := fun x => true12 (r := 16) (F := N 0) h r ok (by decide) (fun p hp => (r.2.2 p hp).2.1) (fun p hp => (ok.2.2.2.2 p hp).1) x
    have k2 : ∀ x, fX12_areTrue_J24 v x 32 = _ := fun x => true12 (r := 32) (F := N 1) h r ok (by decide) (fun p hp => (r.2.2 p hp).2.2.1) (fun p hp => (ok.2.2.2.2 p hp).2.1) x
    rw [e, k1, k2, e1, e2, sbind, sbind, c.1, many_n h s1, many_n h s2, first_n h s1, first_n h s2, sbind, sbind, sbind, sbind]
    rcases (show x = 0 ∨ x = 1 ∨ x = 2 ∨ x = 3 by omega) with rfl | rfl | rfl | rfl
    · exact ⟨(_, _), _, rfl, rfl, rfl, hr⟩
    · exact ⟨(_, _), _, rfl, rfl, rfl, hr⟩
    · exact ⟨(_, _), _, rfl, rfl, rfl, hr⟩
    · exact ⟨(_, _), _, rfl, rfl, rfl, hr⟩
  · rw [e, if_pos rfl, if_pos rfl]
    exact ⟨(_, _), _, rfl, rfl, rfl, hr⟩
