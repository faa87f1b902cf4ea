/-! ===== orders: amounts, deeds ===== -/
theorem amt_n {n : Nat} {c : Nat → Nat} {tp u v : St} (tx : Tx n c tp) {i low : Nat} (hlow : low ≤ 1) (txr : TxR n c v) (h : Cu n c i 0 u) (h7 : v 7 0 = nI i) : (∃ i' x' u' v', fX4_readDeed_J82 tp u (nI low) = some (nI x', u') ∧ fX12_readsAmount v (nI low) = some (1, v') ∧ Cu n c i' 0 u' ∧ i < i' ∧ v' 7 0 = nI i' ∧ v' 10 0 = nI x' ∧ low ≤ x' ∧ x' ≤ 999 ∧ NFr v v') ∨ (∃ F i' x' u' v', ¬ F = 0 ∧ fX4_readDeed_J82 tp u (nI low) = some (x', u') ∧ fX12_readsAmount v (nI low) = some (0, v') ∧ Cu n c i' F u' ∧ v' 9 0 = F ∧ NFr v v') := by
  have hn := tx.1
  have hin := h.1
  have pre : ∀ x u2, fX1_readNumber u tp 3 = some (x, u2) → fX4_readDeed_J82 tp u (nI low) = if low = 0 then some (x, u2) else if x = 0 then some (x, fX1_fail u2 3 (nI i)) else some (x, u2) := fun x u2 e => by
    unfold fX4_readDeed_J82
    rw [lett_s, e, sbind, h.2.2.1]
    dsimp only
    by_cases q : low = 0
    · rw [if_pos q, q, if_pos (by decide)]
    · rw [if_neg q, if_neg (show ¬ nI low = 0 from fun e => q ((nI_eq (b := 0) (by omega) (by omega)).mp e))]
      rfl
  rcases dig_c txr h h7 with ⟨y, y1, y2, y3, y4, y5, y6⟩ | ⟨y4, y5, y6⟩
  · have hR : fX12_readsAmount v (nI low) = fX12_readsAmount_L27 FU (st v 10 0 0) (nI low) (nI i) := by
      unfold fX12_readsAmount
      rw [lett_s, y6, sbind, if_neg (by decide), lett_s, h7]
    have key := num_j tx (K := 3) (a := i) (by decide) (by decide) (fun m v => fX12_readsAmount_L27 m v (nI low) (nI i)) (fun v => if nI low ≤ v 10 0 then some (1, v) else some (0, st v 9 0 (fo 3 i))) (fun m v j x y t1 t2 t3 t4 t5 t6 t7 t8 t9 => by
        show bX12_readsAmount_L27 _ _ _ _ = _
        unfold bX12_readsAmount_L27
        rw [t7, sbind, if_neg (by decide), t2, show nI i + 3 = nI (i + 3) from nI_add i 3, if_neg (fun e => by have := (nI_eq (by omega) (by omega)).mp e; omega), here_n t1 t2 t4, sbind, t6, t3, (acc_n t9 t5).2, lett_s, lett_s, show st v 10 0 (nI (10 * x + y)) 7 0 = nI j from t2, n1]) (fun m v j t1 t2 t3 t4 t5 => by
        show bX12_readsAmount_L27 _ _ _ _ = _
        unfold bX12_readsAmount_L27
        rw [t4, sbind, if_neg (by decide), t2, show nI i + 3 = nI (i + 3) from nI_add i 3, if_pos (by rw [t5]), wrong_n (x := 2) (k := 2) rfl rfl, lett_s]
        dsimp only
        rw [zb_0]) (fun m v t1 => by
        show bX12_readsAmount_L27 _ _ _ _ = _
        unfold bX12_readsAmount_L27
        rw [t1, sbind, if_pos rfl, wrong_n (x := 3) (k := 3) rfl rfl, lett_s]
        rfl) FU FU i 0 u (st v 10 0 0) (Nat.le_refl i) (by omega) (show i + 3 - i < 1000000 by omega) (show i + 3 - i < 1000000 by omega) txr h h7 rfl (Nat.pow_pos (by decide)) (fun _ => y6)
    rw [Nat.sub_self] at key
    rcases key with ⟨i', x', u2, v2, r1, r2, r3, r4, r5, r6, r7, r8⟩ | ⟨i', x', u2, v2, r1, r2, r3, r4, r5⟩
    · have eA := pre (nI x') u2 r1
      have nf : NFr v v2 := fun k a1 a2 a3 => (r8 k a1 a2 a3).trans (st_i a3)
      have r7' : x' < 1000 := r7
      have hB : fX12_readsAmount v (nI low) = if nI low ≤ v2 10 0 then some (1, v2) else some (0, st v2 9 0 (fo 3 i)) := hR.trans r2
      rw [r6] at hB
      by_cases q : low ≤ x'
      · rw [if_pos (nI_le q (by omega))] at hB
        refine Or.inl ⟨i', x', u2, v2, eA.trans ?_, hB, r3, r4, r5, r6, q, by omega, nf⟩
        by_cases q0 : low = 0
        · rw [if_pos q0]
        · rw [if_neg q0, if_neg (show ¬ nI x' = 0 from fun e => by have := (nI_eq (b := 0) (by omega) (by omega)).mp e; omega)]
      · rw [if_neg (nI_ge (by omega) (by omega))] at hB
        have hF : ¬ fo 3 i = 0 := fo_ne (by decide) (by decide) (by omega)
        refine Or.inr ⟨fo 3 i, i', nI x', _, _, hF, eA.trans ?_, hB, failAt_n (x := 3) (k := 3) r3 rfl rfl, rfl, fun k a1 a2 a3 => (st_i a2).trans (nf k a1 a2 a3)⟩
        rw [if_neg (show ¬ low = 0 by omega), if_pos (show nI x' = 0 by rw [show x' = 0 by omega]; rfl)]
    · have eA := pre (nI x') u2 r1
      have hi' := r3.1
      have hF : ¬ fo 2 i' = 0 := fo_ne (by decide) (by decide) (by omega)
      refine Or.inr ⟨fo 2 i', i', nI x', u2, v2, hF, eA.trans ?_, hR.trans r2, r3, r4, fun k a1 a2 a3 => (r5 k a1 a2 a3).trans (st_i a3)⟩
      rw [failAt_f r3 hF, ite_self, ite_self]
  · have hF : ¬ fo 1 i = 0 := fo_ne (by decide) (by decide) (by omega)
    have eA := pre 0 _ (num_x (tp := tp) (K := 3) (by decide) (by decide) h y5)
    have h2 := fail_n (x := 1) (k := 1) h rfl
    refine Or.inr ⟨fo 1 i, i, 0, fX1_failHere u 1, st v 9 0 (fo 1 i), hF, eA.trans ?_, ?_, h2, rfl, fun k _ a2 _ => st_i a2⟩
    · rw [failAt_f h2 hF, ite_self, ite_self]
    · unfold fX12_readsAmount
      rw [lett_s, y6, sbind, if_pos rfl, wrong_n (x := 1) (k := 1) h7 rfl, lett_s]
      dsimp only
      rw [zb_0]
theorem J82_eq {tp u : St} {s : Int32} (h : u 3 0 = s) : fX4_readDeed u tp = if s = 61 ∨ s = 63 then (fX1_next u tp).bind fun z => fX4_readDeed_J82 tp z 1 else if s = 43 ∨ s = 45 then (fX1_next u tp).bind fun z => fX4_readDeed_J82 tp z 0 else if s = 62 ∨ s = 60 then (fX1_next u tp).bind fun z => some (0, z) else some (0, fX1_failHere u 1) := by
  have j1 : fX4_readDeed_J68 tp u 1 0 = (fX1_next u tp).bind fun z => fX4_readDeed_J82 tp z 1 := by
    unfold fX4_readDeed_J68
    cases fX1_next u tp with
    | none => rfl
    | some z => rw [sbind, sbind, if_neg (by decide)]
  have j2 : fX4_readDeed_J68 tp u 0 1 = (fX1_next u tp).bind fun z => fX4_readDeed_J82 tp z 0 := by
    unfold fX4_readDeed_J68
    cases fX1_next u tp with
    | none => rfl
    | some z => rw [sbind, sbind, if_pos rfl, if_neg (by decide)]
  have j3 : fX4_readDeed_J68 tp u 0 0 = (fX1_next u tp).bind fun z => some (0, z) := by
    unfold fX4_readDeed_J68
    cases fX1_next u tp with
    | none => rfl
    | some z => rw [sbind, sbind, if_pos rfl, if_pos rfl]
  unfold fX4_readDeed
  rw [lett_s, h]
  unfold fX4_readDeed_J17 fX4_readDeed_J22 fX4_readDeed_J35 fX4_readDeed_J40
  rw [j1, j2, j3]
  by_cases s1 : s = 61
  · subst s1
    rw [if_pos rfl, if_neg (by decide), if_neg (by decide), if_neg (by decide), if_pos (by decide)]
  · by_cases s2 : s = 63
    · subst s2
      rw [if_neg (by decide), if_pos rfl, if_neg (by decide), if_neg (by decide), if_neg (by decide), if_pos (by decide)]
    · rw [if_neg s1, if_neg s2, if_neg (show ¬ (s = 61 ∨ s = 63) from fun e => e.elim s1 s2)]
      by_cases s3 : s = 43
      · rw [if_pos s3, if_pos rfl, if_neg (by decide), if_pos (Or.inl s3)]
      · by_cases s4 : s = 45
        · rw [if_neg s3, if_pos s4, if_pos rfl, if_neg (by decide), if_pos (Or.inr s4)]
        · rw [if_neg s3, if_neg s4, if_pos rfl, if_pos rfl, if_neg (show ¬ (s = 43 ∨ s = 45) from fun e => e.elim s3 s4)]
          by_cases s5 : s = 62
          · rw [if_pos s5, if_pos (Or.inl s5)]
          · by_cases s6 : s = 60
            · rw [if_neg s5, if_pos s6, if_pos (Or.inr s6)]
            · rw [if_neg s5, if_neg s6, if_neg (show ¬ (s = 62 ∨ s = 60) from fun e => e.elim s5 s6)]
              rfl
/-- an order that may be carried out, and what it does -/
def Ord (N : Nat → Nat → Nat) (p d x : Nat) : Prop := p < 16 ∧ (N 4 0).testBit p = true ∧ x ≤ 999 ∧ ((d = 61 ∧ 1 ≤ x) ∨ (d = 63 ∧ 1 ≤ x) ∨ d = 43 ∨ d = 45 ∨ d = 62 ∨ d = 60)
def eff (N : Nat → Nat → Nat) (p d x : Nat) : Nat → Nat → Nat := if d = 61 then nset N 0 p x else if d = 63 then nset N 1 p x else if d = 43 then nset N 0 p (min 999 (N 0 p + x)) else if d = 45 then nset N 0 p (max 1 (N 0 p - x)) else if d = 62 then nset N 5 0 (N 5 0 ||| 2 ^ p) else nset N 5 0 (ndiff (N 5 0) (2 ^ p))
theorem eff_ok {N : Nat → Nat → Nat} {p d x : Nat} (ok : WkOk N) (h : Ord N p d x) : WkOk (eff N p d x) := by
  obtain ⟨h1, h2, h3, h4⟩ := h
  obtain ⟨w1, -, -, -, w2, -⟩ := ok.2.2.2.2 p h1
  have := (w2 h2).1
  unfold eff
  rcases h4 with ⟨rfl, q⟩ | ⟨rfl, q⟩ | rfl | rfl | rfl | rfl
  · exact WkOk_w ok q h3
  · exact WkOk_c ok q h3
  · exact WkOk_w ok (by omega) (by omega)
  · exact WkOk_w ok (by omega) (by omega)
  · exact WkOk_1 ok h1 h2
  · exact WkOk_0 ok
theorem eff_t {N : Nat → Nat → Nat} {p d x : Nat} : eff N p d x 4 0 = N 4 0 := by
  unfold eff
  repeat' split
  all_goals rfl
theorem mx_sub {W x : Nat} (hW : W ≤ 999) (hx : x ≤ 999) : mx 1 (nI W - nI x) = nI (max 1 (W - x)) := by
  by_cases q : x ≤ W
  · rw [sub_n q, show (1 : Int32) = nI 1 from rfl, mx_n (by omega) (by omega)]
  · unfold mx
    have e := pk_sub_toInt (a := W) (b := x) (by omega) (by omega)
    rw [if_neg (fun e2 => by
      have := Int32.lt_iff_toInt_lt.mp e2
      rw [e, show (1 : Int32).toInt = 1 from by decide] at this; omega), show max 1 (W - x) = 1 by omega]
    rfl
theorem mn_sub {W x : Nat} (hW : W ≤ 999) (hx : x ≤ 999) : mn 999 (nI W - nI x) = nI W - nI x := by
  unfold mn
  have e := pk_sub_toInt (a := W) (b := x) (by omega) (by omega)
  by_cases q : nI W - nI x < 999
  · rw [if_pos q]
  · rw [if_neg q]
    have : ¬ (nI W - nI x).toInt < (999 : Int32).toInt := fun e2 => q (Int32.lt_iff_toInt_lt.mpr e2)
    rw [e, show (999 : Int32).toInt = 999 from by decide] at this
    have e1 : W = 999 := by omega
    have e2 : x = 0 := by omega
    rw [e1, e2]; decide
/-- the class carries one order out -/
theorem carry_1 {N : Nat → Nat → Nat} {gi w : St} {k p d x : Nat} (ok : WkOk N) (c : WkC N w) (h : Ord N p d x) {L : Nat} (hL : L ≤ 20) (hk : k < L) (g0 : gi 0 k = nI p) (g1 : gi 1 k = nI d) (g2 : gi 2 k = nI x) (g3 : gi 3 0 = nI L) (m : Nat) : ∃ w', fX4_carryOut_L2 gi (m + 1) w (nI k) = fX4_carryOut_L2 gi m w' (nI (k + 1)) ∧ WkC (eff N p d x) w' := by
  obtain ⟨h1, h2, h3, h4⟩ := h
  obtain ⟨w1, -, -, -, w2, -⟩ := ok.2.2.2.2 p h1
  have w3 := (w2 h2).1
  obtain ⟨c0, -⟩ := c.2.2.2.2 p h1
  have e : fX4_carryOut_L2 gi (m + 1) w (nI k) = bX4_carryOut_L2 gi (fX4_carryOut_L2 gi m) w (nI k) := rfl
  rw [e]
  unfold bX4_carryOut_L2 eff
  rw [g3, if_neg (nI_ge hk (by omega)), gd_n (by omega) (by decide), ix_n (by omega), g0, lett_s, gd_n (by omega) (by decide), g1, g2]
  rcases h4 with ⟨rfl, q⟩ | ⟨rfl, q⟩ | rfl | rfl | rfl | rfl
  · rw [if_neg (by decide), if_neg (by decide), if_pos (by decide), gd_n (by omega) (by decide), gd_n (by omega) (by decide), lett_s, lett_s, ix_n (by omega), n1]
    exact ⟨_, rfl, WkC_set c 0 p _⟩
  · rw [if_neg (by decide), if_neg (by decide), if_neg (by decide), if_neg (by decide), if_pos (by decide), gd_n (by omega) (by decide), gd_n (by omega) (by decide), lett_s, lett_s, ix_n (by omega), n1]
    exact ⟨_, rfl, WkC_set c 1 p _⟩
  · have cw : fX9_changeWeight w (nI p) (nI x) = some (st w 0 p (nI (min 999 (N 0 p + x)))) := by
      unfold fX9_changeWeight fX11_bounded
      rw [gd_n (by omega) (by decide), lett_s, gd_n (by omega) (by decide), lett_s, ix_n (by omega), c0, nI_add, show (999 : Int32) = nI 999 from rfl, mn_n (by omega) (by omega), show (1 : Int32) = nI 1 from rfl, mx_n (by omega) (by omega), show max 1 (min 999 (N 0 p + x)) = min 999 (N 0 p + x) by omega]
    rw [if_pos (by decide), gd_n (by omega) (by decide), cw, sbind, lett_s, n1]
    exact ⟨_, rfl, WkC_set c 0 p _⟩
  · have cw : fX9_changeWeight w (nI p) (-nI x) = some (st w 0 p (nI (max 1 (N 0 p - x)))) := by
      unfold fX9_changeWeight fX11_bounded
      rw [gd_n (by omega) (by decide), lett_s, gd_n (by omega) (by decide), lett_s, ix_n (by omega), c0, ← Int32.sub_eq_add_neg, mn_sub w1 h3, mx_sub w1 h3]
    rw [if_neg (by decide), if_pos (by decide), gd_n (by omega) (by decide), cw, sbind, lett_s, n1]
    exact ⟨_, rfl, WkC_set c 0 p _⟩
  · rw [if_neg (by decide), if_neg (by decide), if_neg (by decide), if_pos (by decide), lett_s, lett_s, n1, c.2.1, shl1 p (by omega), fa_or]
    exact ⟨_, rfl, WkC_set c 5 0 _⟩
  · rw [if_neg (by decide), if_neg (by decide), if_neg (by decide), if_neg (by decide), if_neg (by decide), lett_s, lett_s, n1, c.2.1, shl1 p (by omega), ndiff_eq]
    exact ⟨_, rfl, WkC_set c 5 0 _⟩
