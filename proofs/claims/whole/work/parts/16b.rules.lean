/-! ===== asking the law: the first rule that holds ===== -/
/-- the law as both hold it, and the facts of whom it is asked -/
def LRn (n c : Nat) (K A B E S O : Nat → Nat) (lw v : St) : Prop := n ≤ 16 ∧ c ≤ 240 ∧ lw 4 0 = nI n ∧ v 15 0 = nI n ∧ (∀ i, i < c → lw 5 i = nI (S i) ∧ lw 6 i = nI (O i) ∧ v 22 i = nI (1048576 * encS (S i) + O i)) ∧
  ∀ q, q < n → K q < 256 ∧ lw 0 q = nI (K q) ∧ v 23 q = nI (K q) ∧ lw 1 q = nI (A q) ∧ v 24 q = nI (A q) ∧ lw 2 q = nI (B q) ∧ v 25 q = nI (B q) ∧ lw 3 q = nI (E q) ∧ v 26 q = nI (E q) ∧ A q ≤ B q ∧ B q ≤ E q ∧ E q ≤ c ∧ (∃ ty, CodeOk S O (B q) (E q) true ty) ∧ (K q ≠ 103 → K q ≠ 114 → ∃ ty, CodeOk S O (A q) (B q) false ty)
def LFr (lw0 lw : St) : Prop := ∀ k, k ≠ 9 → lw k = lw0 k
def VFr (v0 v : St) : Prop := ∀ k, k ≠ 27 → v k = v0 k
theorem LRn_fr {n c : Nat} {K A B E S O : Nat → Nat} {lw0 v0 lw v : St} (h : LRn n c K A B E S O lw0 v0) (hl : LFr lw0 lw) (hv : VFr v0 v) : LRn n c K A B E S O lw v := by
  unfold LRn at *
  rw [hl 0 (by decide), hl 1 (by decide), hl 2 (by decide), hl 3 (by decide), hl 4 (by decide), hl 5 (by decide), hl 6 (by decide), hv 15 (by decide), hv 22 (by decide), hv 23 (by decide), hv 24 (by decide), hv 25 (by decide), hv 26 (by decide)]
  exact h
theorem rec_n {n c : Nat} {K A B E S O : Nat → Nat} {lw v : St} (h : LRn n c K A B E S O lw v) (hf : ∀ j, j < 8 → lw 8 j = v 28 j) {a b : Nat} {r : Bool} (hab : a ≤ b) (hb : b ≤ c) (hk : ∃ ty, CodeOk S O a b r ty) : ∃ (x : Int32) (lw' v' : St), fX2_reckon lw (nI a) (nI b) = some (x, lw') ∧ fX12_comesTo v (nI a) (nI b) = some (x, v') ∧ LFr lw lw' ∧ VFr v v' ∧ (r = true → x = 0 ∨ x = 1) := by
  obtain ⟨ty, hk⟩ := hk
  have hc := h.2.1
  have e := run_n hc hb hk h.2.2.2.2.1 hf FU a lw v (Nat.le_refl a) hab (show b - a < 1000000 by omega) (fun _ _ => rfl) (fun _ _ => rfl) (by rw [hk.1]; trivial)
  rw [hk.1] at e
  obtain ⟨x, lw', v', e1, e2, e3, e4, e5⟩ := e
  refine ⟨x, lw', v', e1, ?_, e3, e4, e5⟩
  unfold fX12_comesTo; dsimp only [lett]
  rw [show (260 : Int32) = nI 260 from rfl, div_n (by omega) (by decide) (by decide), show a / 260 = 0 by omega, show nI 260 * nI 0 = 0 from by decide]
  exact e2
/-- where a rule of this kind holds first, or nowhere -/
theorem rule_n {n c : Nat} {K A B E S O : Nat → Nat} {lw0 v0 : St} (h : LRn n c K A B E S O lw0 v0) (hf : ∀ j, j < 8 → lw0 8 j = v0 28 j) {κ : Nat} (hκ : κ < 256) : ∀ (m q : Nat) (lw v : St), q ≤ n → n - q < m → LFr lw0 lw → VFr v0 v → ∃ (lw' v' : St), LFr lw0 lw' ∧ VFr v0 v' ∧ ((fX2_ruleThatHolds_L2 m lw (nI κ) (nI q) = some (-1, lw') ∧ fX12_holdsAny_L2 m v (nI κ) (nI q) = some (0, v') ∧ ∀ x2 x3, fX12_byLaw_L3 m v (nI κ) x2 x3 (nI q) = some (x3, v')) ∨ ∃ j, j < n ∧ K j = κ ∧ fX2_ruleThatHolds_L2 m lw (nI κ) (nI q) = some (nI j, lw') ∧ fX12_holdsAny_L2 m v (nI κ) (nI q) = some (1, v') ∧ ∀ x2 x3, fX12_byLaw_L3 m v (nI κ) x2 x3 (nI q) = (fX12_comesTo v' (nI (A j)) (nI (B j))).bind fun z6 => if 0 ≤ z6.1 then if z6.1 ≤ x2 then some (z6.1, z6.2) else some (x2, z6.2) else some (0, z6.2)) := by
  intro m
  induction m with
  | zero => intro q lw v _ h; omega
  | succ m ih =>
    intro q lw v hq hm hl hv
    have hn := h.1
    have h' := LRn_fr h hl hv
    have hf' : ∀ j, j < 8 → lw 8 j = v 28 j := fun j hj => by rw [hl 8 (by decide), hv 28 (by decide)]; exact hf j hj
    have uA : fX2_ruleThatHolds_L2 (m + 1) lw (nI κ) (nI q) = bX2_ruleThatHolds_L2 (fX2_ruleThatHolds_L2 m) lw (nI κ) (nI q) := rfl
    have uB : fX12_holdsAny_L2 (m + 1) v (nI κ) (nI q) = bX12_holdsAny_L2 (fX12_holdsAny_L2 m) v (nI κ) (nI q) := rfl
    have uC : ∀ x2 x3, fX12_byLaw_L3 (m + 1) v (nI κ) x2 x3 (nI q) = bX12_byLaw_L3 (fX12_byLaw_L3 m) v (nI κ) x2 x3 (nI q) := fun _ _ => rfl
    rw [uA, uB]
    unfold bX2_ruleThatHolds_L2 bX12_holdsAny_L2
    unfold bX12_byLaw_L3 at uC
    dsimp only [lett] at uC ⊢
    by_cases hqn : q = n
    · subst hqn
      have le : nI q ≤ nI q := nI_le (Nat.le_refl q) (by omega)
      rw [h'.2.2.1, h'.2.2.2.1, if_pos le, if_pos le]
      refine ⟨lw, v, hl, hv, Or.inl ⟨rfl, rfl, fun x2 x3 => ?_⟩⟩
      rw [uC, h'.2.2.2.1, if_pos le]
    · have hq2 : q < n := by omega
      obtain ⟨k0, k1, k2, k3, k4, k5, k6, k7, k8, k9, k10, k11, k12, k13⟩ := h'.2.2.2.2.2 q hq2
      have nle : ¬ nI n ≤ nI q := nI_ge hq2 (by omega)
      have eix : ix (nI q) = q := ix_n (by omega)
      rw [h'.2.2.1, h'.2.2.2.1, if_neg nle, if_neg nle, gd_n (by omega) (by decide), gd_n (by omega) (by decide), eix, k1, k2]
      have uC2 : ∀ x2 x3, fX12_byLaw_L3 (m + 1) v (nI κ) x2 x3 (nI q) = if nI (K q) = nI κ then (fX12_comesTo v (v 25 q) (v 26 q)).bind fun z4 => if z4.1 = 1 then (fX12_comesTo z4.2 (z4.2 24 q) (z4.2 25 q)).bind fun z6 => if 0 ≤ z6.1 then if z6.1 ≤ x2 then some (z6.1, z6.2) else some (x2, z6.2) else some (0, z6.2) else fX12_byLaw_L3 m z4.2 (nI κ) x2 x3 (nI q + 1) else fX12_byLaw_L3 m v (nI κ) x2 x3 (nI q + 1) := fun x2 x3 => by
        rw [uC, h'.2.2.2.1, if_neg nle, gd_n (by omega) (by decide), eix, k2, gd_n (by omega) (by decide), gd_n (by omega) (by decide)]
        simp only [gd_n (show q < 16 by omega) (show 16 < 2147483648 by decide)]
      by_cases hκq : K q = κ
      · have e1 : nI (K q) = nI κ := by rw [hκq]
        rw [if_pos e1, if_pos e1, gd_n (by omega) (by decide), gd_n (by omega) (by decide), gd_n (by omega) (by decide), gd_n (by omega) (by decide), k5, k6, k7, k8]
        obtain ⟨x, lw1, v1, r1, r2, r3, r4, r5⟩ := rec_n h' hf' k10 k11 k12
        rw [r1, r2, sbind, sbind]
        have hl1 : LFr lw0 lw1 := fun k hk => (r3 k hk).trans (hl k hk)
        have hv1 : VFr v0 v1 := fun k hk => (r4 k hk).trans (hv k hk)
        rcases r5 rfl with e | e
        · dsimp only
          rw [e, if_pos rfl, if_neg (show ¬ (0 : Int32) = 1 by decide), n1]
          obtain ⟨lw', v', i1, i2, i3⟩ := ih (q + 1) lw1 v1 (by omega) (by omega) hl1 hv1
          have uC3 : ∀ x2 x3, fX12_byLaw_L3 (m + 1) v (nI κ) x2 x3 (nI q) = fX12_byLaw_L3 m v1 (nI κ) x2 x3 (nI (q + 1)) := fun x2 x3 => by
            rw [uC2, if_pos e1, k6, k8, r2, sbind]
            dsimp only
            rw [e, if_neg (show ¬ (0 : Int32) = 1 by decide), n1]
          refine ⟨lw', v', i1, i2, ?_⟩
          rcases i3 with ⟨j1, j2, j3⟩ | ⟨j, j0, j1, j2, j3, j4⟩
          · exact Or.inl ⟨j1, j2, fun x2 x3 => (uC3 x2 x3).trans (j3 x2 x3)⟩
          · exact Or.inr ⟨j, j0, j1, j2, j3, fun x2 x3 => (uC3 x2 x3).trans (j4 x2 x3)⟩
        · dsimp only
          rw [e, if_neg (show ¬ (1 : Int32) = 0 by decide), if_pos rfl]
          refine ⟨lw1, v1, hl1, hv1, Or.inr ⟨q, hq2, hκq, rfl, rfl, fun x2 x3 => ?_⟩⟩
          rw [uC2, if_pos e1, k6, k8, r2, sbind]
          dsimp only
          rw [e, if_pos rfl, r4 24 (by decide), r4 25 (by decide), k4, k6]
      · have e1 : ¬ nI (K q) = nI κ := fun e => hκq ((nI_eq (by omega) (by omega)).mp e)
        rw [if_neg e1, if_neg e1, n1, gd_n (by omega) (by decide)]
        obtain ⟨lw', v', i1, i2, i3⟩ := ih (q + 1) lw v (by omega) (by omega) hl hv
        have uC3 : ∀ x2 x3, fX12_byLaw_L3 (m + 1) v (nI κ) x2 x3 (nI q) = fX12_byLaw_L3 m v (nI κ) x2 x3 (nI (q + 1)) := fun x2 x3 => by
          rw [uC2, if_neg e1, n1]
        refine ⟨lw', v', i1, i2, ?_⟩
        rcases i3 with ⟨j1, j2, j3⟩ | ⟨j, j0, j1, j2, j3, j4⟩
        · exact Or.inl ⟨j1, j2, fun x2 x3 => (uC3 x2 x3).trans (j3 x2 x3)⟩
        · exact Or.inr ⟨j, j0, j1, j2, j3, fun x2 x3 => (uC3 x2 x3).trans (j4 x2 x3)⟩
theorem any_n {n c : Nat} {K A B E S O : Nat → Nat} {lw v : St} (h : LRn n c K A B E S O lw v) (hf : ∀ j, j < 8 → lw 8 j = v 28 j) {κ : Nat} (hκ : κ < 256) : ∃ (β : Bool) (lw' v' : St), fX2_anyHolds lw (nI κ) = some (nI (b01 β), lw') ∧ fX12_holdsAny v (nI κ) = some (nI (b01 β), v') ∧ LFr lw lw' ∧ VFr v v' := by
  have hn := h.1
  obtain ⟨lw', v', i1, i2, i3⟩ := rule_n h hf hκ FU 0 lw v (by omega) (show n - 0 < 1000000 by omega) (fun _ _ => rfl) (fun _ _ => rfl)
  unfold fX2_anyHolds fX2_ruleThatHolds fX12_holdsAny
  rcases i3 with ⟨j1, j2, j3⟩ | ⟨j, j0, j1, j2, j3, j4⟩
  · refine ⟨false, lw', v', ?_, j2, i1, i2⟩
    rw [show (0 : Int32) = nI 0 from rfl, j1, sbind]
    exact if_pos rfl
  · refine ⟨true, lw', v', ?_, j3, i1, i2⟩
    rw [show fX2_ruleThatHolds_L2 FU lw (nI κ) 0 = _ from j2, sbind]
    exact if_neg (fun e => by
      have := nI_toInt (n := j) (by omega)
      rw [show nI j = -1 from e] at this
      exact absurd this (by rw [show (-1 : Int32).toInt = -1 from by decide]; omega))
theorem bnd_n (z : Int32) {hi : Nat} (hh : hi < 2147483648) : ∃ x : Nat, x ≤ hi ∧ fX11_bounded z 0 (nI hi) = nI x ∧ ∀ w : St, (if 0 ≤ z then if z ≤ nI hi then some (z, w) else some (nI hi, w) else some (0, w)) = some (nI x, w) := by
  unfold fX11_bounded mx mn
  by_cases h0 : z < 0
  · have e2 := Int32.lt_iff_toInt_lt.mp h0
    have e3 : (0 : Int32).toInt = 0 := rfl
    have q : z < nI hi := Int32.lt_iff_toInt_lt.mpr (by rw [nI_toInt (by omega)]; omega)
    refine ⟨0, by omega, ?_, fun w => ?_⟩
    · rw [if_pos q, if_neg (fun e => by have := Int32.lt_iff_toInt_lt.mp e; omega)]; rfl
    · rw [if_neg (fun e => by have := Int32.le_iff_toInt_le.mp e; omega)]; rfl
  · obtain ⟨k, hk, rfl⟩ := nI_of h0
    by_cases q : k < hi
    · refine ⟨k, by omega, ?_, fun w => ?_⟩
      · rw [if_pos (nI_lt q (by omega))]
        by_cases q2 : k = 0
        · subst q2; rw [if_neg (show ¬ (0 : Int32) < nI 0 by decide)]; rfl
        · rw [if_pos (show (0 : Int32) < nI k from nI_lt (a := 0) (by omega) (by omega))]
      · rw [if_pos (show (0 : Int32) ≤ nI k from nI_le (a := 0) (by omega) hk), if_pos (nI_le (by omega) (by omega))]
    · refine ⟨hi, by omega, ?_, fun w => ?_⟩
      · rw [if_neg (nI_nlt (by omega) (by omega))]
        by_cases q2 : hi = 0
        · subst q2; rw [if_neg (show ¬ (0 : Int32) < nI 0 by decide)]; rfl
        · rw [if_pos (show (0 : Int32) < nI hi from nI_lt (a := 0) (by omega) (by omega))]
      · rw [if_pos (show (0 : Int32) ≤ nI k from nI_le (a := 0) (by omega) hk)]
        by_cases q2 : k = hi
        · subst q2; rw [if_pos (nI_le (Nat.le_refl k) (by omega))]
        · rw [if_neg (nI_ge (by omega) hk)]
/-- what the first rule says; none: -1 of the class, its own word of the reference -/
theorem say_n {n c : Nat} {K A B E S O : Nat → Nat} {lw v : St} (h : LRn n c K A B E S O lw v) (hf : ∀ j, j < 8 → lw 8 j = v 28 j) {κ hi : Nat} (hκ : κ < 256) (hκ1 : κ ≠ 103) (hκ2 : κ ≠ 114) (hh : hi < 2147483648) (x3 : Int32) : ∃ (lw' v' : St), LFr lw lw' ∧ VFr v v' ∧ ((fX2_say lw (nI κ) (nI hi) = some (-1, lw') ∧ fX12_byLaw v (nI κ) (nI hi) x3 = some (x3, v')) ∨ ∃ x : Nat, x ≤ hi ∧ fX2_say lw (nI κ) (nI hi) = some (nI x, lw') ∧ fX12_byLaw v (nI κ) (nI hi) x3 = some (nI x, v')) := by
  have hn := h.1
  obtain ⟨lw', v', i1, i2, i3⟩ := rule_n h hf hκ FU 0 lw v (by omega) (show n - 0 < 1000000 by omega) (fun _ _ => rfl) (fun _ _ => rfl)
  unfold fX2_say fX2_ruleThatHolds fX12_byLaw
  rcases i3 with ⟨j1, j2, j3⟩ | ⟨j, j0, j1, j2, j3, j4⟩
  · refine ⟨lw', v', i1, i2, Or.inl ⟨?_, j3 _ _⟩⟩
    rw [show fX2_ruleThatHolds_L2 FU lw (nI κ) 0 = _ from j1, sbind]
    exact if_pos rfl
  · have h' := LRn_fr h i1 i2
    have hf' : ∀ j, j < 8 → lw' 8 j = v' 28 j := fun j hj => by rw [i1 8 (by decide), i2 28 (by decide)]; exact hf j hj
    obtain ⟨k0, k1, k2, k3, k4, k5, k6, k7, k8, k9, k10, k11, k12, k13⟩ := h'.2.2.2.2.2 j j0
    obtain ⟨x, lw1, v1, r1, r2, r3, r4, -⟩ := rec_n h' hf' k9 (by omega) (k13 (by omega) (by omega))
    obtain ⟨y, y1, y2, y3⟩ := bnd_n x hh
    refine ⟨lw1, v1, fun k hk => (r3 k hk).trans (i1 k hk), fun k hk => (r4 k hk).trans (i2 k hk), Or.inr ⟨y, y1, ?_, ?_⟩⟩
    · rw [show fX2_ruleThatHolds_L2 FU lw (nI κ) 0 = _ from j2, sbind]
      dsimp only [lett]
      rw [if_neg (fun e => by
        have := nI_toInt (n := j) (by omega)
        rw [e] at this
        exact absurd this (by rw [show (-1 : Int32).toInt = -1 from by decide]; omega)), gd_n (by omega) (by decide), gd_n (by omega) (by decide), ix_n (by omega), k3, k5, r1, sbind]
      dsimp only
      rw [y2]
    · refine (j4 (nI hi) x3).trans ?_
      rw [r2, sbind]
      exact y3 v1
