/-! ===== seesaw: the reference goes over all places ===== -/
theorem arm12 {p : Nat} (h : p < 10) : fX12_armOf (nI p) = iI (-(arm p)) := by
  unfold fX12_armOf arm
  by_cases q : p < 5
  · rw [if_neg (show ¬ (5 : Int32) ≤ nI p from nI_ge (a := p) (b := 5) q (by omega)), if_pos q, iI_n, show (-1 : Int32) = iI (-1) from rfl, iI_sub]
    congr 1; omega
  · rw [if_pos (show (5 : Int32) ≤ nI p from nI_le (a := 5) (by omega) (by omega)), if_neg q, iI_n, show (4 : Int32) = iI 4 from rfl, iI_sub]
    congr 1; omega
theorem tilt_n {v : St} {c : Nat → Nat} {n e : Nat} (hn : n ≤ 5) (hc : ∀ k, k < n → c k < 256 ∧ v 5 k = (nI (c k)).toInt8.toInt32) (hs : ∀ k, k < n → v 49 k = nI (e / 10 ^ k % 10)) : ∀ (l m k t : Nat) (s : Int), k + l = n → l < m → t < 1024 → -(1275 * (k : Int)) ≤ s → s ≤ 1275 * (k : Int) → fX12_tiltOf_L7 v m (nI n) (iI (-s)) (nI t) (nI k) = some (nI (tlt c l k t s (e / 10 ^ k))) := by
  intro l
  induction l with
  | zero =>
    intro m k t s hk hm ht h1 h2
    obtain ⟨m, rfl⟩ : ∃ e, m = e + 1 := ⟨m - 1, by omega⟩
    show bX12_tiltOf_L7 _ _ _ _ _ _ = _
    unfold bX12_tiltOf_L7; dsimp only [lett]
    rw [if_pos (nI_le (by omega) (by omega)), size_i (by omega) (by omega), tlt, Int.natAbs_neg]
  | succ l ih =>
    intro m k t s hk hm ht h1 h2
    obtain ⟨m, rfl⟩ : ∃ e, m = e + 1 := ⟨m - 1, by omega⟩
    have hp : e / 10 ^ k % 10 < 10 := Nat.mod_lt _ (by decide)
    have hck := (hc k (by omega)).1
    have hor : t ||| 2 ^ (e / 10 ^ k % 10) < 1024 := Nat.or_lt_two_pow (n := 10) ht (Nat.pow_lt_pow_right (by decide) hp)
    have hab := arm_b hp hck
    show bX12_tiltOf_L7 _ _ _ _ _ _ = _
    unfold bX12_tiltOf_L7; dsimp only [lett]
    rw [if_neg (nI_ge (by omega) (by omega)), gd_n (by omega) (by decide), gd_n (by omega) (by decide), ix_n (by omega), hs k (by omega), has12_n (by omega) (by omega), octet_n (hc k (by omega)).2 hck (by omega), sbind, gd_n (by omega) (by decide), arm12 hp, shl1 _ (by omega), fa_or, n1, tlt]
    cases q : t.testBit (e / 10 ^ k % 10)
    · rw [if_pos (by decide), if_neg (by decide), iI_n (c k), iI_mul, iI_add, show -s + (c k : Int) * -(arm (e / 10 ^ k % 10)) = -(s + arm (e / 10 ^ k % 10) * c k) by rw [Int.mul_neg, Int.mul_comm]; omega, ih m (k + 1) _ _ (by omega) (by omega) hor (by omega) (by omega), Nat.pow_succ, Nat.div_div_eq_div_mul]
    · rw [if_neg (by decide), if_pos rfl]; rfl
def dgS (v : St) (n : Nat) : Nat → St
  | 0 => v
  | e + 1 => sa v 49 (fa_fill (fun j => nI (e / 10 ^ j % 10)) (v 49) n)
theorem fill_fill {f f2 g : Nat → Int32} {n k : Nat} (h : k ≤ n) : fa_fill f (fa_fill f2 g n) k = fun j => if j < k then f j else fa_fill f2 g n j := rfl
theorem sa_sa (u : St) (k : Nat) (f f2 : Nat → Int32) : sa (sa u k f) k f2 = sa u k f2 := by
  funext a
  unfold sa
  by_cases h : a = k
  · rw [if_pos h, if_pos h]
  · rw [if_neg h, if_neg h, if_neg h]
theorem l75_n {lp : St → Int32 → Int32 → Int32 → Int32 → Option (Int32 × St)} {V v : St} {n e : Nat} (hn : n ≤ 5) (he : e < 1000000) {x2 x3 x4 : Int32} : fX12_seesaw_L75 lp FU V (nI n) x2 x3 x4 (nI e) 0 = (fX12_tiltOf (sa V 49 (fa_fill (fun j => nI (e / 10 ^ j % 10)) (V 49) n)) (nI n)).bind fun z2 => lett (fX12_min x3 z2) fun z3 => lett (x4 + 1) fun t4 => lp (sa V 49 (fa_fill (fun j => nI (e / 10 ^ j % 10)) (V 49) n)) (nI n) x2 z3 t4 := by
  have E := for_all (fun m (s : St × Nat) i => fX12_seesaw_L75 lp m s.1 (nI n) x2 x3 x4 (nI s.2) (nI i)) n (fun i => (sa V 49 (fa_fill (fun j => nI (e / 10 ^ j % 10)) (V 49) i), e / 10 ^ i)) ((fX12_tiltOf (sa V 49 (fa_fill (fun j => nI (e / 10 ^ j % 10)) (V 49) n)) (nI n)).bind fun z2 => lett (fX12_min x3 z2) fun z3 => lett (x4 + 1) fun t4 => lp (sa V 49 (fa_fill (fun j => nI (e / 10 ^ j % 10)) (V 49) n)) (nI n) x2 z3 t4) (fun m => ?_) (fun m i hi => ?_) (by omega)
  · dsimp only at E
    rw [fa_fill_0, sa_self, Nat.pow_zero, Nat.div_one] at E
    exact E
  · show bX12_seesaw_L75 _ _ _ _ _ _ _ _ _ = _
    unfold bX12_seesaw_L75
    rw [if_pos (nI_le (Nat.le_refl n) (by omega))]
  · show bX12_seesaw_L75 _ _ _ _ _ _ _ _ _ = fX12_seesaw_L75 lp m _ _ _ _ _ _ _
    have hl : e / 10 ^ i ≤ e := Nat.div_le_self _ _
    unfold bX12_seesaw_L75; dsimp only [lett]
    rw [if_neg (nI_ge hi (by omega)), gd_n (by omega) (by decide), ix_n (by omega), show (10 : Int32) = nI 10 from rfl, rem_n (by omega) (by decide) (by decide), div_n (by omega) (by decide) (by decide), n1, st_sa, Nat.pow_succ, ← Nat.div_div_eq_div_mul, ← fa_fill_succ]
theorem l62_n {v : St} {c : Nat → Nat} {n : Nat} (hn : n ≤ 5) (hc : ∀ k, k < n → c k < 256 ∧ v 5 k = (nI (c k)).toInt8.toInt32) : fX12_seesaw_L62 FU v (nI n) (nI (10 ^ n)) 1000000 0 = some (nI (minOv (fun e => tlt c n 0 0 0 e) (10 ^ n)), dgS v n (10 ^ n)) := by
  have hp : 10 ^ n ≤ 100000 := Nat.le_trans (Nat.pow_le_pow_right (by decide) hn) (by decide)
  have hm : ∀ k, minOv (fun e => tlt c n 0 0 0 e) k ≤ 1000000 := fun k => ((minOv_le k).mp (Nat.le_refl _)).1
  refine for_all (fun m (s : St × Nat) i => fX12_seesaw_L62 m s.1 (nI n) (nI (10 ^ n)) (nI s.2) (nI i)) (10 ^ n) (fun i => (dgS v n i, minOv (fun e => tlt c n 0 0 0 e) i)) _ (fun m => ?_) (fun m i hi => ?_) (by omega)
  · show bX12_seesaw_L62 _ _ _ _ _ _ = _
    unfold bX12_seesaw_L62
    rw [if_pos (nI_le (Nat.le_refl _) (by omega))]
  · show bX12_seesaw_L62 _ _ _ _ _ _ = fX12_seesaw_L62 m _ _ _ _ _
    unfold bX12_seesaw_L62
    have es : sa (dgS v n i) 49 (fa_fill (fun j => nI (i / 10 ^ j % 10)) (dgS v n i 49) n) = dgS v n (i + 1) := by
      cases i with
      | zero => rfl
      | succ i =>
        show sa (sa v 49 _) 49 _ = sa v 49 _
        rw [sa_sa]
        congr 1
        funext j
        show fa_fill _ (sa v 49 _ 49) n j = _
        rw [sa_s]
        by_cases q : j < n
        · rw [fa_fill_in q, fa_fill_in q]
        · rw [fa_fill_out (by omega), fa_fill_out (by omega), fa_fill_out (by omega)]
    have h5 : ∀ k, k < n → c k < 256 ∧ dgS v n (i + 1) 5 k = (nI (c k)).toInt8.toInt32 := fun k hk => ⟨(hc k hk).1, by
      show sa v 49 _ 5 k = _
      rw [sa_i (by decide)]; exact (hc k hk).2⟩
    have h49 : ∀ k, k < n → dgS v n (i + 1) 49 k = nI (i / 10 ^ k % 10) := fun k hk => by
      show sa v 49 _ 49 k = _
      rw [sa_s, fa_fill_in hk]
    have T := tilt_n (v := dgS v n (i + 1)) (e := i) hn h5 h49 n FU 0 0 0 (by omega) (by show n < 1000000; omega) (by omega) (by omega) (by omega)
    have T' : fX12_tiltOf (dgS v n (i + 1)) (nI n) = some (nI (tlt c n 0 0 0 i)) := by
      unfold fX12_tiltOf
      rw [Nat.pow_zero, Nat.div_one] at T
      exact T
    have hmi := hm i
    have hti : tlt c n 0 0 0 i ≤ 1000000 := by
      have : ∀ (l k t : Nat) (s : Int) (e : Nat), k + l ≤ 5 → k + l = n → -(1275 * (k : Int)) ≤ s → s ≤ 1275 * (k : Int) → tlt c l k t s e ≤ 1000000 := by
        intro l
        induction l with
        | zero => intro k t s e h1 h2 h3 h4; rw [tlt]; omega
        | succ l ih =>
          intro k t s e h1 h2 h3 h4
          rw [tlt]
          have hab := arm_b (show e % 10 < 10 by omega) (hc k (by omega)).1
          split
          · omega
          · exact ih (k + 1) _ _ _ (by omega) (by omega) (by omega) (by omega)
      exact this n 0 0 0 i (by omega) (by omega) (by omega) (by omega)
    rw [if_neg (nI_ge hi (by omega)), l75_n (v := v) hn (by omega), es, T', sbind]
    dsimp only [lett]
    rw [min_mn, mn_n (by omega) (by omega), n1]
    rfl
theorem l39_n {v : St} {n : Nat} (hn : n ≤ 5) : fX12_seesaw_L39 FU v (nI n) 1 0 = fX12_seesaw_L62 FU v (nI n) (nI (10 ^ n)) 1000000 0 := by
  refine for_all (fun m (s : Nat) i => fX12_seesaw_L39 m v (nI n) (nI s) (nI i)) n (fun i => 10 ^ i) _ (fun m => ?_) (fun m i hi => ?_) (by omega)
  · show bX12_seesaw_L39 _ _ _ _ _ = _
    unfold bX12_seesaw_L39
    rw [if_pos (nI_le (Nat.le_refl n) (by omega))]
  · show bX12_seesaw_L39 _ _ _ _ _ = fX12_seesaw_L39 m _ _ _ _
    unfold bX12_seesaw_L39; dsimp only [lett]
    rw [if_neg (nI_ge hi (by omega)), show (10 : Int32) = nI 10 from rfl, pk_mul, n1, Nat.pow_succ]
/-- there is a way to sit: one behind the other on the left -/
theorem sM_b {c : Nat → Nat} (hc : ∀ k, k < 5 → c k < 256) : ∀ (l k t : Nat) (s : Int), k + l ≤ 5 → (∀ p, k ≤ p → t.testBit p = false) → -(1275 * (k : Int)) ≤ s → s ≤ 1275 * (k : Int) → sM c l k t s ≤ 6375 := by
  intro l
  induction l with
  | zero => intro k t s h1 h2 h3 h4; rw [sM]; omega
  | succ l ih =>
    intro k t s h1 h2 h3 h4
    rw [sM]
    have := ((minOv_le (f := fun p => if t.testBit p then 1000000 else sM c l (k + 1) (t ||| 2 ^ p) (s + arm p * c k)) 10).mp (Nat.le_refl _)).2 k (by omega)
    rw [if_neg (by rw [h2 k (Nat.le_refl k)]; decide)] at this
    have hab := arm_b (show k < 10 by omega) (hc k (by omega))
    refine Nat.le_trans this (ih (k + 1) _ _ (by omega) (fun p hp => ?_) (by omega) (by omega))
    rw [Nat.testBit_or, h2 p (by omega), Nat.testBit_two_pow, Bool.false_or, decide_eq_false_iff_not]
    omega
theorem eq_seesaw (g : Nat → St) (w : Nat → Int64) (v : St) (hr : Rel g v) (p1 : Int32) : ∃ (z : Int32 × St × St) (y : Int32 × St), fX11_seesaw (g 1) (g 11) p1 = some z ∧ fX12_seesaw v p1 = some y ∧ z.1 = y.1 ∧ Rel (sg (sg g 1 z.2.1) 11 z.2.2) y.2 := by
  obtain ⟨⟨t, c, ht, h2, h3, h4⟩, t2, t3, t4, t5, t6⟩ := id hr
  unfold fX11_seesaw fX12_seesaw; dsimp only [lett]
  rw [h3]
  rcases offers_c h2 ht p1 1 5 (a := 1) (b := 5) rfl rfl (by decide) (by decide) with ⟨n, -, n2, n3, rfl, e1, e2, e3⟩ | ⟨e1, e2⟩
  · obtain ⟨pa2, e4, e5⟩ := take_n (pa := g 11) (c := c) (tp := g 1) (v := v) ⟨ht, h2, h3, h4⟩ n3 (by omega)
    have hcc : ∀ k, k < n → c k < 256 ∧ st v 6 0 0 5 k = (nI (c k)).toInt8.toInt32 := fun k hk => ⟨(h4 k (by omega)).1, (h4 k (by omega)).2.2⟩
    rw [e1, e2, if_neg (by decide), if_neg (by decide), if_pos e3, e4, sbind, hasZero_n e5, sbind, areAll_n (v := st v 6 0 0) (c := c) (by omega) hcc, sbind]
    cases hz : zf c 0 n
    · obtain ⟨pa3, e6⟩ := even_n e5 (by omega)
      have eS : sM c n 0 0 0 = minOv (fun e => tlt c n 0 0 0 e) (10 ^ n) ∧ sM c n 0 0 0 ≤ 6375 := by
        have cg : ∀ (l k t : Nat) (s : Int), k + l = n → sM c l k t s = sM (fun j => if j < n then c j else 0) l k t s := by
          intro l
          induction l with
          | zero => intro k t s _; rfl
          | succ l ih =>
            intro k t s hk
            rw [sM, sM]
            refine minOv_cong (fun p _ => ?_)
            rw [if_pos (show k < n by omega), ih (k + 1) _ _ (by omega)]
        have cg2 : ∀ (l k t : Nat) (s : Int) (e : Nat), k + l = n → tlt c l k t s e = tlt (fun j => if j < n then c j else 0) l k t s e := by
          intro l
          induction l with
          | zero => intro k t s e _; rfl
          | succ l ih =>
            intro k t s e hk
            rw [tlt, tlt]
            rw [if_pos (show k < n by omega), ih (k + 1) _ _ _ (by omega)]
        have hc5 : ∀ k, k < 5 → (fun j => if j < n then c j else 0) k < 256 := fun k _ => by
          dsimp only
          split
          · exact (h4 k (by omega)).1
          · omega
        refine ⟨?_, ?_⟩
        · rw [cg n 0 0 0 (by omega), ← tlt_min hc5 n 0 0 0 (by omega) (by omega) (by omega)]
          exact minOv_cong (fun e _ => (cg2 n 0 0 0 e (by omega)).symm)
        · rw [cg n 0 0 0 (by omega)]
          exact sM_b hc5 n 0 0 0 (by omega) (fun p _ => Nat.zero_testBit p) (by omega) (by omega)
      rw [if_pos (by decide), if_neg (by decide), e6, sbind, l39_n (by omega), l62_n (by omega) hcc, ← eS.1, show min 6375 (sM c n 0 0 0) = sM c n 0 0 0 by omega]
      have hq : ∀ N j, j ≠ 49 → dgS (st v 6 0 0) n N j = st v 6 0 0 j := fun N j hj => by
        cases N with
        | zero => rfl
        | succ N => show sa _ 49 _ j = _; rw [sa_i hj]
      refine ⟨(_, _, _), (_, _), rfl, rfl, rfl, Rel_clear hr rfl ?_ (show Kp (st v 6 0 0) _ from ⟨hq _ _ (by decide), hq _ _ (by decide), hq _ _ (by decide), hq _ _ (by decide), hq _ _ (by decide), hq _ _ (by decide), hq _ _ (by decide), hq _ _ (by decide), hq _ _ (by decide), hq _ _ (by decide), hq _ _ (by decide), hq _ _ (by decide), hq _ _ (by decide), hq _ _ (by decide), hq _ _ (by decide)⟩)⟩
      show dgS (st v 6 0 0) n (10 ^ n) 6 0 = nI 0
      rw [hq _ _ (by decide)]; rfl
    · rw [if_neg (by decide), if_pos (by decide)]
      exact ⟨(_, _, _), (_, _), rfl, rfl, rfl, Rel_clear hr rfl rfl (Kp_rfl _)⟩
  · rw [e1, if_pos rfl]
    rcases e2 with e | ⟨e, e3⟩
    · rw [e, if_pos rfl]; exact ⟨_, _, rfl, rfl, rfl, hr⟩
    · rw [e, if_neg (by decide), if_neg e3]; exact ⟨_, _, rfl, rfl, rfl, hr⟩
