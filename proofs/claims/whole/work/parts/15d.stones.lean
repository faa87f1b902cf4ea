/-! ===== stones: the bits of the weights that can be weighed ===== -/
def lbit (w : Nat → Int64) (j : Nat) : Bool := (w (j / 64)).toBitVec.getLsbD (j % 64)
theorem lbit_set {w : Nat → Int64} {j i : Nat} : lbit (vp_updL w (j / 64) (w (j / 64) ||| (lN 1 <<< ((nI (j % 64)).toInt64 &&& 63)))) i = (lbit w i || decide (i = j)) := by
  unfold lbit
  have h64 : j % 64 < 64 := Nat.mod_lt _ (by decide)
  rw [wb_shl 1 h64, Nat.one_mul]
  by_cases q : i / 64 = j / 64
  · rw [q, pk_uLs, Int64.toBitVec_or, BitVec.getLsbD_or, wb_tb, BitVec.getLsbD_ofNat, Nat.testBit_two_pow]
    have h2 : i % 64 < 64 := Nat.mod_lt _ (by decide)
    have e : decide (j % 64 = i % 64) = decide (i = j) := by
      rw [decide_eq_decide]; omega
    rw [e]
    simp [h2]
  · rw [pk_uLn q, show decide (i = j) = false from by rw [decide_eq_false_iff_not]; intro e; exact q (by rw [e]), Bool.or_false]
theorem lbit_get {x : Int64} {j : Nat} (hj : j < 64) : (lg_cmp ((x >>> ((nI j).toInt64 &&& 63)) &&& 1) 0 = 0) ↔ x.toBitVec.getLsbD j = false := by
  rw [lg_cmp_eq, ← Int64.toBitVec_inj, Int64.toBitVec_and, Int64.toBitVec_shiftRight, wb_c j hj, wb_tb, wb_sm j hj, BitVec.getLsbD_eq_getElem hj]
  constructor
  · intro h
    have := congrArg (fun b => BitVec.getLsbD b 0) h
    simp only [BitVec.getLsbD_and] at this
    rw [BitVec.sshiftRight_eq', BitVec.getLsbD_sshiftRight] at this
    simp [Nat.mod_eq_of_lt (show j < 2 ^ 64 by omega), hj] at this
    simpa using this
  · intro h
    refine BitVec.eq_of_getLsbD_eq (fun i hi => ?_)
    rw [BitVec.getLsbD_and, BitVec.sshiftRight_eq', BitVec.getLsbD_sshiftRight]
    by_cases q : i = 0
    · subst q
      simp [Nat.mod_eq_of_lt (show j < 2 ^ 64 by omega), hj, h]
    · have : (1 : Int64).toBitVec.getLsbD i = false := by
        show (BitVec.ofNat 64 1).getLsbD i = false
        rw [BitVec.getLsbD_ofNat, show (1 : Nat) = 2 ^ 0 from rfl, Nat.testBit_two_pow]
        simp; omega
      rw [this]
      simp
theorem mark_n {u : St} {n : Nat} {c : Nat → Nat} {b : Bool} (hn : n ≤ 8) (h3 : u 3 0 = nI n) (h0 : ∀ k, k < n → c k < 256 ∧ u 0 k = nI (c k)) : ∀ l d k s vw, k + l = n → l < d → -(255 * (k : Int)) ≤ s → s ≤ 255 * (k : Int) → ∃ vw2, fX5_markFrom d u vw (nI k) (iI s) (nI (b01 b)) = some vw2 ∧ ∀ j : Nat, lbit vw2 j = (lbit vw j || decide (hF c b k l ((j : Int) - s) < 1000000) || decide (hF c b k l (-(j : Int) - s) < 1000000)) := by
  intro l
  induction l with
  | zero =>
    intro d k s vw hk hd hs1 hs2
    obtain ⟨d, rfl⟩ : ∃ e, d = e + 1 := ⟨d - 1, by omega⟩
    have hj : s.natAbs ≤ 2040 := by omega
    refine ⟨vp_updL vw (s.natAbs / 64) (vw (s.natAbs / 64) ||| (lN 1 <<< ((nI (s.natAbs % 64)).toInt64 &&& 63))), ?_, ?_⟩
    · show bX5_markFrom _ _ _ _ _ _ = _
      unfold bX5_markFrom fX5_markFrom_J14; dsimp only [lett]
      rw [h3, if_pos (nI_le (by omega) (by omega)), ab_i (by omega) (by omega), show (2040 : Int32) = nI 2040 from rfl, mn_n (by omega) (by omega), show min s.natAbs 2040 = s.natAbs by omega, show (64 : Int32) = nI 64 from rfl, div_n (by omega) (by decide) (by decide), rem_n (by omega) (by decide) (by decide), gd_n (by omega) (by decide), gd_n (by omega) (by decide), ix_n (by omega)]; rfl
    · intro j
      have e := lbit_set (w := vw) (j := s.natAbs) (i := j)
      refine Eq.trans e ?_
      rw [hF_z, hF_z, Bool.or_assoc]
      congr 1
      by_cases q : j = s.natAbs
      · rw [decide_eq_true q]
        by_cases q2 : (j : Int) - s = 0
        · rw [if_pos q2]; rfl
        · rw [if_neg q2, if_pos (by omega)]; rfl
      · rw [decide_eq_false q, if_neg (by omega), if_neg (by omega)]; rfl
  | succ l ih =>
    intro d k s vw hk hd hs1 hs2
    obtain ⟨d, rfl⟩ : ∃ e, d = e + 1 := ⟨d - 1, by omega⟩
    have hck := (h0 k (by omega)).1
    obtain ⟨w1, a1, a2⟩ := ih d (k + 1) s vw (by omega) (by omega) (by omega) (by omega)
    obtain ⟨w2, b1, b2⟩ := ih d (k + 1) (s + c k) w1 (by omega) (by omega) (by omega) (by omega)
    obtain ⟨w3, c1, c2⟩ := ih d (k + 1) (s - c k) w2 (by omega) (by omega) (by omega) (by omega)
    have t1 : ∀ x, hF c b (k + 1) l x ≤ l ∨ hF c b (k + 1) l x = 1000000 := hF_sm c b l (k + 1)
    cases b
    · refine ⟨w2, ?_, fun j => ?_⟩
      · show bX5_markFrom _ _ _ _ _ _ = _
        unfold bX5_markFrom
        rw [h3, if_neg (nI_ge (by omega) (by omega)), if_pos (show nI k < (8 : Int32) from nI_lt (b := 8) (by omega) (by omega)), n1, a1, sbind, gd_n (by omega) (by decide), ix_n (by omega), (h0 k (by omega)).2, iI_n (c k), iI_add, b1, sbind, if_pos (by decide)]
      · rw [b2, a2, hF_s, hF_s, if_neg (by decide), if_neg (by decide), show (j : Int) - (s + c k) = j - s - c k by omega, show -(j : Int) - (s + c k) = -j - s - c k by omega]
        have q1 := t1 ((j : Int) - s)
        have q2 := t1 ((j : Int) - s - c k)
        have q3 := t1 (-(j : Int) - s)
        have q4 := t1 (-(j : Int) - s - c k)
        cases lbit vw j
        · rw [Bool.eq_iff_iff]
          simp only [Bool.or_eq_true, decide_eq_true_eq, Bool.false_eq_true, false_or]
          omega
        · rfl
    · refine ⟨w3, ?_, fun j => ?_⟩
      · show bX5_markFrom _ _ _ _ _ _ = _
        unfold bX5_markFrom
        rw [h3, if_neg (nI_ge (by omega) (by omega)), if_pos (show nI k < (8 : Int32) from nI_lt (b := 8) (by omega) (by omega)), n1, a1, sbind, gd_n (by omega) (by decide), ix_n (by omega), (h0 k (by omega)).2, iI_n (c k), iI_add, b1, sbind, if_neg (by decide), gd_n (by omega) (by decide), iI_sub, c1, sbind]
      · rw [c2, b2, a2, hF_s, hF_s, if_pos rfl, if_pos rfl, show (j : Int) - (s + c k) = j - s - c k by omega, show -(j : Int) - (s + c k) = -j - s - c k by omega, show (j : Int) - (s - c k) = j - s + c k by omega, show -(j : Int) - (s - c k) = -j - s + c k by omega]
        have q1 := t1 ((j : Int) - s)
        have q2 := t1 ((j : Int) - s - c k)
        have q3 := t1 (-(j : Int) - s)
        have q4 := t1 (-(j : Int) - s - c k)
        have q5 := t1 ((j : Int) - s + c k)
        have q6 := t1 (-(j : Int) - s + c k)
        cases lbit vw j
        · rw [Bool.eq_iff_iff]
          simp only [Bool.or_eq_true, decide_eq_true_eq, Bool.false_eq_true, false_or]
          omega
        · rfl
theorem hF_sym (c : Nat → Nat) : ∀ l k x, hF c true k l (-x) = hF c true k l x := by
  intro l
  induction l with
  | zero =>
    intro k x
    rw [hF_z, hF_z]
    by_cases q : x = 0
    · rw [if_pos q, if_pos (by omega)]
    · rw [if_neg q, if_neg (by omega)]
  | succ l ih =>
    intro k x
    rw [hF_s, hF_s, ih, show -x - (c k : Int) = -(x + c k) by omega, show -x + (c k : Int) = -(x - c k) by omega, ih, ih, if_pos rfl, if_pos rfl]
    omega
theorem hF_pos (c : Nat → Nat) : ∀ l k x, l ≤ 100 → x < 0 → hF c false k l x = 1000000 := by
  intro l
  induction l with
  | zero => intro k x _ h; rw [hF_z, if_neg (by omega)]
  | succ l ih =>
    intro k x hl h
    rw [hF_s, ih (k + 1) x (by omega) h, ih (k + 1) (x - c k) (by omega) (by omega), if_neg (by decide)]
    omega
theorem fillL_n (w : Nat → Int64) : ∃ w2, fJ7_fill_d0a16 w 0 = some w2 ∧ ∀ j : Nat, j < 2048 → lbit w2 j = false := by
  refine ⟨fun j => if j < 32 then 0 else w j, ?_, fun j hj => ?_⟩
  · have e := for_all (fun m (s : Nat → Int64) i => fJ7_fill_d0a16_L6 m s 0 (nI i) (nI 32)) 32 (fun i => (fun j => if j < i then 0 else w j)) (some (fun j => if j < 32 then 0 else w j)) (fun m => ?_) (fun m i hi => ?_) (by omega)
    · have e0 : (fun j => if j < 0 then (0 : Int64) else w j) = w := by
        funext j; rw [if_neg (by omega)]
      rw [e0] at e
      exact e
    · show bJ7_fill_d0a16_L6 _ _ _ _ _ = _
      unfold bJ7_fill_d0a16_L6
      rw [if_pos (nI_le (by omega) (by omega))]
    · show bJ7_fill_d0a16_L6 _ _ _ _ _ = fJ7_fill_d0a16_L6 m _ _ _ _
      unfold bJ7_fill_d0a16_L6; dsimp only [lett]
      rw [if_neg (nI_ge (by omega) (by omega)), gd_n (by omega) (by decide), ix_n (by omega), n1]
      congr 1
      funext j
      unfold vp_updL
      by_cases q : j = i
      · rw [if_pos q, if_pos (by omega)]
      · rw [if_neg q]
        dsimp only
        by_cases q2 : j < i
        · rw [if_pos q2, if_pos (by omega)]
        · rw [if_neg q2, if_neg (by omega)]
  · unfold lbit
    dsimp only
    rw [if_pos (by omega)]
    show (0#64).getLsbD _ = false
    simp
/-- both climb alike -/
theorem upTo_n {vw : Nat → Int64} {V : St} {P : Nat → Bool} (h1 : ∀ j, 1 ≤ j → j ≤ 2040 → lbit vw j = P j) (h2 : ∀ j, 1 ≤ j → j ≤ 2040 → ∃ x : Nat, x ≤ 1000000 ∧ V 47 (2040 + j) = nI x ∧ P j = decide (x < 1000000)) : ∀ l x m m2, x + l = 2040 → l < m → l < m2 → ∃ r, fX5_weighsUpTo_L17 m vw (nI x) = some (r, vw) ∧ fX12_stones_L44 m2 V (nI x) = some (r, V) := by
  intro l
  induction l with
  | zero =>
    intro x m m2 hx hm hm2
    obtain ⟨m, rfl⟩ : ∃ e, m = e + 1 := ⟨m - 1, by omega⟩
    obtain ⟨m2, rfl⟩ : ∃ e, m2 = e + 1 := ⟨m2 - 1, by omega⟩
    refine ⟨nI x, ?_, ?_⟩
    · show bX5_weighsUpTo_L17 _ _ _ = _
      unfold bX5_weighsUpTo_L17
      rw [if_pos (show (2040 : Int32) ≤ nI x from nI_le (a := 2040) (by omega) (by omega))]
    · show bX12_stones_L44 _ _ _ = _
      unfold bX12_stones_L44
      rw [if_pos (show (2040 : Int32) ≤ nI x from nI_le (a := 2040) (by omega) (by omega))]
  | succ l ih =>
    intro x m m2 hx hm hm2
    obtain ⟨m, rfl⟩ : ∃ e, m = e + 1 := ⟨m - 1, by omega⟩
    obtain ⟨m2, rfl⟩ : ∃ e, m2 = e + 1 := ⟨m2 - 1, by omega⟩
    obtain ⟨y, y1, y2, y3⟩ := h2 (x + 1) (by omega) (by omega)
    have hb := h1 (x + 1) (by omega) (by omega)
    have hm64 : (x + 1) % 64 < 64 := Nat.mod_lt _ (by decide)
    obtain ⟨r, r1, r2⟩ := ih (x + 1) m m2 (by omega) (by omega) (by omega)
    have eA : fX5_weighsUpTo_L17 (m + 1) vw (nI x) = if P (x + 1) = false then some (nI x, vw) else fX5_weighsUpTo_L17 m vw (nI (x + 1)) := by
      show bX5_weighsUpTo_L17 _ _ _ = _
      unfold bX5_weighsUpTo_L17; dsimp only [lett]
      rw [if_neg (show ¬ (2040 : Int32) ≤ nI x from nI_ge (a := x) (b := 2040) (by omega) (by omega)), n1, show (64 : Int32) = nI 64 from rfl, div_n (by omega) (by decide) (by decide), rem_n (by omega) (by decide) (by decide), gd_n (by omega) (by decide), ix_n (by omega)]
      unfold lbit at hb
      rw [← hb]
      by_cases q : (vw ((x + 1) / 64)).toBitVec.getLsbD ((x + 1) % 64) = false
      · rw [if_pos q, if_pos ((lbit_get hm64).mpr q)]
      · rw [if_neg q, if_neg (fun e => q ((lbit_get hm64).mp e))]
    have eB : fX12_stones_L44 (m2 + 1) V (nI x) = if P (x + 1) = false then some (nI x, V) else fX12_stones_L44 m2 V (nI (x + 1)) := by
      show bX12_stones_L44 _ _ _ = _
      unfold bX12_stones_L44; dsimp only [lett]
      rw [if_neg (show ¬ (2040 : Int32) ≤ nI x from nI_ge (a := x) (b := 2040) (by omega) (by omega)), show (2040 : Int32) = nI 2040 from rfl, nI_add, n1, n1, gd_n (by omega) (by decide), ix_n (by omega), show 2040 + x + 1 = 2040 + (x + 1) by omega, y2, y3]
      by_cases q : y < 1000000
      · rw [if_neg (show ¬ (1000000 : Int32) ≤ nI y from nI_ge (a := y) (b := 1000000) (by omega) (by omega)), if_neg (by simp [q])]
      · rw [if_pos (show (1000000 : Int32) ≤ nI y from nI_le (a := 1000000) (by omega) (by omega)), if_pos (by simp [q])]
    rw [eA, eB]
    cases P (x + 1)
    · exact ⟨nI x, by rw [if_pos rfl], by rw [if_pos rfl]⟩
    · exact ⟨r, by rw [if_neg (by decide)]; exact r1, by rw [if_neg (by decide)]; exact r2⟩
theorem eq_stones (g : Nat → St) (w : Nat → Int64) (v : St) (hr : Rel g v) (p1 p2 : Int32) (hp2 : p2 = 0 ∨ p2 = 1) : ∃ (z : Int32 × St × St × (Nat → Int64)) (y : Int32 × St), fX11_stones (g 1) (g 11) w p1 p2 = some z ∧ fX12_stones v p1 p2 = some y ∧ z.1 = y.1 ∧ Rel (sg (sg g 1 z.2.1) 11 z.2.2.1) y.2 := by
  obtain ⟨⟨t, c, ht, h2, h3, h4⟩, t2, t3, t4, t5, t6⟩ := id hr
  obtain ⟨b, rfl⟩ : ∃ b, p2 = nI (b01 b) := by
    rcases hp2 with rfl | rfl
    · exact ⟨false, rfl⟩
    · exact ⟨true, rfl⟩
  unfold fX11_stones fX12_stones; dsimp only [lett]
  rw [h3]
  rcases offers_c h2 ht p1 1 8 (a := 1) (b := 8) rfl rfl (by decide) (by decide) with ⟨n, -, n2, n3, rfl, e1, e2, e3⟩ | ⟨e1, e2⟩
  · obtain ⟨pa2, e4, e5⟩ := take_n (pa := g 11) (c := c) (tp := g 1) (v := v) ⟨ht, h2, h3, h4⟩ n3 (by omega)
    rw [e1, e2, if_neg (by decide), if_neg (by decide), if_pos e3, e4, sbind, hasZero_n e5, sbind, areAll_n (v := st v 6 0 0) (c := c) (by omega) (fun k hk => ⟨(h4 k (by omega)).1, (h4 k (by omega)).2.2⟩), sbind]
    cases hz : zf c 0 n
    · obtain ⟨V2, l1, l2, l3⟩ := laysF_n (v := st v 6 0 0) (c := c) (b := b) (n := n) (by omega) (fun k hk => ⟨(h4 k (by omega)).1, (h4 k (by omega)).2.2⟩)
      obtain ⟨w1, f1, f2⟩ := fillL_n w
      obtain ⟨w2, m1, m2⟩ := mark_n (u := pa2) (b := b) (c := c) (n := n) (by omega) e5.2.1 e5.2.2 n 10 0 0 w1 (by omega) (by omega) (by omega) (by omega)
      have h6 : V2 6 0 = nI 0 := by rw [l3 6 (by decide) (by decide)]; rfl
      have hP : ∀ j, 1 ≤ j → j ≤ 2040 → lbit w2 j = decide (hF c b 0 n j < 1000000) := by
        intro j j1 j2
        rw [m2 j, f2 j (by omega), Bool.false_or, Int.sub_zero, Int.sub_zero]
        cases b
        · rw [hF_pos c n 0 (-(j : Int)) (by omega) (by omega)]; simp
        · rw [hF_sym, Bool.or_self]
      obtain ⟨r, r1, r2⟩ := upTo_n (vw := w2) (V := V2) (P := fun j => decide (hF c b 0 n j < 1000000)) hP (fun j j1 j2 => ⟨hF c b 0 n j, hF_le c b (by omega), by
        rw [l2 (2040 + j) (by omega)]
        show nI (hF c b 0 n (((2040 + j : Nat) : Int) - 2040)) = _
        rw [show ((2040 + j : Nat) : Int) - 2040 = j by omega], rfl⟩) 2040 0 FU FU (by omega) (by decide) (by decide)
      have eU : fX5_weighsUpTo pa2 w (nI (b01 b)) = some (r, w2) := by
        unfold fX5_weighsUpTo
        have m1' : fX5_markFrom 10 pa2 w1 0 0 (nI (b01 b)) = some w2 := m1
        have r1' : fX5_weighsUpTo_L17 FU w2 0 = some (r, w2) := r1
        rw [f1, sbind, m1', sbind, r1']
      have r2' : fX12_stones_L44 FU V2 0 = some (r, V2) := r2
      rw [if_pos (by decide), if_neg (by decide), eU, sbind, l1, sbind, r2']
      exact ⟨(_, _, _, _), (_, _), rfl, rfl, rfl, Rel_clear hr rfl h6 (show Kp (st v 6 0 0) V2 from Kp_47 l3)⟩
    · rw [if_neg (by decide), if_pos (by decide)]
      exact ⟨(_, _, _, _), (_, _), rfl, rfl, rfl, Rel_clear hr rfl rfl (Kp_rfl _)⟩
  · rw [e1, if_pos rfl]
    rcases e2 with e | ⟨e, e3⟩
    · rw [e, if_pos rfl]; exact ⟨_, _, rfl, rfl, rfl, hr⟩
    · rw [e, if_neg (by decide), if_neg e3]; exact ⟨_, _, rfl, rfl, rfl, hr⟩
