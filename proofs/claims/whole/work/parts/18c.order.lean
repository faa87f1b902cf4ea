/-! ===== orders: a line ===== -/
def OFr (v0 v : St) : Prop := ∀ k, k ≠ 0 → k ≠ 7 → k ≠ 9 → k ≠ 10 → k ≠ 29 → v k = v0 k
theorem OFr_rfl (v : St) : OFr v v := fun _ _ _ _ _ _ => rfl
theorem OFr_t {v0 v v2 : St} (h : OFr v0 v) (f : OFr v v2) : OFr v0 v2 := fun k a b c d e => (f k a b c d e).trans (h k a b c d e)
theorem OFr_N {v0 v v2 : St} (h : OFr v0 v) (f : NFr v v2) : OFr v0 v2 := fun k a b c d e => (f k b c d).trans (h k a b c d e)
theorem OFr_0 {v0 v : St} (h : OFr v0 v) {j : Nat} {x : Int32} : OFr v0 (st v 0 j x) := fun k a b c d e => (st_i a).trans (h k a b c d e)
theorem OFr_7 {v0 v : St} (h : OFr v0 v) {x : Int32} : OFr v0 (st v 7 0 x) := fun k a b c d e => (st_i b).trans (h k a b c d e)
theorem OFr_9 {v0 v : St} (h : OFr v0 v) {x : Int32} : OFr v0 (st v 9 0 x) := fun k a b c d e => (st_i c).trans (h k a b c d e)
theorem OFr_29 {v0 v : St} (h : OFr v0 v) {x : Int32} : OFr v0 (st v 29 0 x) := fun k a b c d e => (st_i e).trans (h k a b c d e)
theorem TxR_O {n : Nat} {c : Nat → Nat} {v v2 : St} (h : TxR n c v) (f : OFr v v2) : TxR n c v2 := by
  unfold TxR at *
  rw [f 8 (by decide) (by decide) (by decide) (by decide) (by decide), f 5 (by decide) (by decide) (by decide) (by decide) (by decide)]
  exact h
def LineO (n : Nat) (c : Nat → Nat) (i k : Nat) (M : Nat → Nat → Nat) (gi gi' u' v' : St) : Prop := ∃ p d x i' : Nat, k < 20 ∧ Ord M p d x ∧ Cu n c i' 0 u' ∧ i < i' ∧ v' 7 0 = nI i' ∧ v' 29 0 = nI (k + 1) ∧ WkR (eff M p d x) (v' 0) ∧ gi' 0 = upd (gi 0) k (nI p) ∧ gi' 1 = upd (gi 1) k (nI d) ∧ gi' 2 = upd (gi 2) k (nI x) ∧ gi' 3 0 = nI (k + 1)
theorem oline_a {tp gi u u1 : St} {k p T : Nat} {s : Int32} (h5 : fX1_seenWalker u = some (nI p)) (hp : p < 16) (hk : k < 20) (hT : T < 65536) (ht : T.testBit p = true) (e1 : fX1_next u tp = some u1) (es : u1 3 0 = s) : fX4_readLine gi u tp (nI T) (nI k) = (fX4_readDeed u1 tp).bind fun z9 => some (st (st (st (st gi 0 k (nI p)) 1 k s) 2 k z9.1) 3 0 (nI (k + 1)), z9.2) := by
  unfold fX4_readLine
  rw [h5, sbind, if_neg (fun e => m1_ne (by omega) e.symm), if_pos (show nI k < 20 from nI_lt (b := 20) hk (by decide)), has11_n (by omega) (by omega), ht, lett_s, if_neg (by decide), e1, sbind, gd_n (by omega) (by decide), lett_s, gd_n (by omega) (by decide), lett_s, ix_n (by omega), es]
  simp only [gd_n (show k < 20 by omega) (show 20 < 2147483648 by decide), lett_s, n1]
/-- the reference's line, once its walker is known -/
def oT (v3 : St) (p : Nat) (s : Int32) : Option (Int32 × St) := if s = 43 then (fX12_readsAmount v3 0).bind fun z13 => if z13.1 = 0 then some (0, z13.2) else some (1, st z13.2 0 (16 + p) (mn 999 (z13.2 0 (16 + p) + z13.2 10 0))) else if s = 45 then (fX12_readsAmount v3 0).bind fun z20 => if z20.1 = 0 then some (0, z20.2) else some (1, st z20.2 0 (16 + p) (mx 1 (z20.2 0 (16 + p) - z20.2 10 0))) else if s = 60 then some (1, st v3 0 (48 + p) 0) else if s = 61 then (fX12_readsAmount v3 1).bind fun z30 => if z30.1 = 0 then some (0, z30.2) else some (1, st z30.2 0 (16 + p) (z30.2 10 0)) else if s = 62 then some (1, st v3 0 (48 + p) 1) else if s = 63 then (fX12_readsAmount v3 1).bind fun z38 => if z38.1 = 0 then some (0, z38.2) else some (1, st z38.2 0 (32 + p) (z38.2 10 0)) else some (0, st v3 9 0 ((-1000) * 1 - (v3 7 0 - 1)))
theorem oline_b {n : Nat} {c : Nat → Nat} {v : St} {M : Nat → Nat → Nat} {i k p : Nat} (txr : TxR n c v) (hi : i < n) (h7 : v 7 0 = nI i) (h29 : v 29 0 = nI k) (hk : k < 20) (wr : WkR M (v 0)) (hp : p < 16) (p4 : sgn n c i - 97 = nI p) (p6 : fX12_in (sgn n c i - 97) 0 15 = 1) (ht : (M 4 0).testBit p = true) : fX12_readsLine v = oT (st (st (st v 29 0 (nI (k + 1))) 7 0 (nI (i + 1))) 7 0 (nI (i + 2))) p (sgn n c (i + 1)) := by
  unfold fX12_readsLine
  rw [here_n txr h7 (by omega), sbind, lett_s, p6, lett_s, if_neg (by decide), h29, if_neg (show ¬ nI k = 20 from fun e => by have := (nI_eq (b := 20) (by omega) (by omega)).mp e; omega), p4, isTold_n wr hp, sbind, ht, if_neg (by decide), lett_s, lett_s, n1, show st v 29 0 (nI (k + 1)) 7 0 = nI i from h7, n1, here_n (v := st (st v 29 0 (nI (k + 1))) 7 0 (nI (i + 1))) txr rfl (by omega), sbind, lett_s, show st (st v 29 0 (nI (k + 1))) 7 0 (nI (i + 1)) 7 0 = nI (i + 1) from rfl, n1]
  unfold oT
  rw [a16, a32, a48]
  simp only [gd_n (show 16 + p < 98 by omega) (show 98 < 2147483648 by decide), gd_n (show 32 + p < 98 by omega) (show 98 < 2147483648 by decide), gd_n (show 48 + p < 98 by omega) (show 98 < 2147483648 by decide), ix_n (show 16 + p < 2147483648 by omega), ix_n (show 32 + p < 2147483648 by omega), ix_n (show 48 + p < 2147483648 by omega), lett_s, max_mx, min_mn]
  rfl
theorem oline_n {n : Nat} {c : Nat → Nat} {tp gi u v : St} {M : Nat → Nat → Nat} (tx : Tx n c tp) {i k : Nat} (hk : k ≤ 20) (ok : WkOk M) (txr : TxR n c v) (h : Cu n c i 0 u) (h7 : v 7 0 = nI i) (h29 : v 29 0 = nI k) (wr : WkR M (v 0)) : (∃ gi' u' v', fX4_readLine gi u tp (nI (M 4 0)) (nI k) = some (gi', u') ∧ fX12_readsLine v = some (1, v') ∧ LineO n c i k M gi gi' u' v' ∧ OFr v v') ∨ (∃ F gi' u' i' v', ¬ F = 0 ∧ fX4_readLine gi u tp (nI (M 4 0)) (nI k) = some (gi', u') ∧ fX12_readsLine v = some (0, v') ∧ Cu n c i' F u' ∧ v' 9 0 = F ∧ OFr v v') := by
  have hn := tx.1
  have hi := h.1
  have o4 := ok.1
  rcases seen_c (fun j hj => (tx.2.2 j hj).1) h with ⟨p, p1, p2, p3, p4, p5, p6⟩ | ⟨p5, p6⟩
  · by_cases q : k = 20
    · subst q
      have hF : ¬ fo 4 i = 0 := fo_ne (by decide) (by decide) (by omega)
      refine Or.inr ⟨fo 4 i, gi, fX1_failHere u 4, i, st v 9 0 (fo 4 i), hF, ?_, ?_, fail_n h rfl, rfl, OFr_9 (OFr_rfl v)⟩
      · unfold fX4_readLine
        rw [p5, sbind, if_neg (fun e => m1_ne (by omega) e.symm), if_neg (by decide), lett_s]
      · unfold fX12_readsLine
        rw [here_n txr h7 hi, sbind, lett_s, p6, lett_s, if_neg (by decide), h29, if_pos (by decide), wrong_n (x := 4) (k := 4) h7 rfl, lett_s]
        dsimp only
        rw [zb_0]
    · have hk2 : k < 20 := by omega
      cases ht : (M 4 0).testBit p
      · have hF : ¬ fo 7 i = 0 := fo_ne (by decide) (by decide) (by omega)
        refine Or.inr ⟨fo 7 i, gi, fX1_failHere u 7, i, st v 9 0 (fo 7 i), hF, ?_, ?_, fail_n h rfl, rfl, OFr_9 (OFr_rfl v)⟩
        · unfold fX4_readLine
          rw [p5, sbind, if_neg (fun e => m1_ne (by omega) e.symm), if_pos (show nI k < 20 from nI_lt (b := 20) hk2 (by decide)), has11_n (by omega) (by omega), ht, lett_s, if_pos (by decide), lett_s]
        · unfold fX12_readsLine
          rw [here_n txr h7 hi, sbind, lett_s, p6, lett_s, if_neg (by decide), h29, if_neg (show ¬ nI k = 20 from fun e => by have := (nI_eq (b := 20) (by omega) (by omega)).mp e; omega), p4, isTold_n wr p1, sbind, ht, if_pos (by decide), wrong_n (x := 7) (k := 7) h7 rfl, lett_s]
          dsimp only
          rw [zb_0]
      · obtain ⟨u1, e1, e2⟩ := next_n tx h p2
        have eA := oline_a (gi := gi) p5 p1 hk2 o4 ht e1 e2.2.2.2.1
        have eB := oline_b txr p2 h7 h29 hk2 wr p1 p4 p6 ht
        rw [J82_eq e2.2.2.2.1] at eA
        have hi1 := e2.1
        have of3 : OFr v (st (st (st v 29 0 (nI (k + 1))) 7 0 (nI (i + 1))) 7 0 (nI (i + 2))) := OFr_7 (OFr_7 (OFr_29 (OFr_rfl v)))
        have amt : ∀ (d low : Nat) (eA' : fX4_readLine gi u tp (nI (M 4 0)) (nI k) = ((fX1_next u1 tp).bind fun z => fX4_readDeed_J82 tp z (nI low)).bind fun z9 => some (st (st (st (st gi 0 k (nI p)) 1 k (sgn n c (i + 1))) 2 k z9.1) 3 0 (nI (k + 1)), z9.2)) (f : St → St) (eB' : fX12_readsLine v = (fX12_readsAmount (st (st (st v 29 0 (nI (k + 1))) 7 0 (nI (i + 1))) 7 0 (nI (i + 2))) (nI low)).bind fun z13 => if z13.1 = 0 then some (0, z13.2) else some (1, f z13.2)), sgn n c (i + 1) = nI d → d < 256 → low ≤ 1 → ((d = 61 ∧ low = 1) ∨ (d = 63 ∧ low = 1) ∨ d = 43 ∨ d = 45) → (∀ (x : Nat) (v4 : St), x ≤ 999 → v4 10 0 = nI x → v4 0 = v 0 → WkR (eff M p d x) (f v4 0)) → (∀ v4, OFr v4 (f v4)) → (∀ v4, f v4 7 = v4 7 ∧ f v4 29 = v4 29) → (∃ gi' u' v', fX4_readLine gi u tp (nI (M 4 0)) (nI k) = some (gi', u') ∧ fX12_readsLine v = some (1, v') ∧ LineO n c i k M gi gi' u' v' ∧ OFr v v') ∨ (∃ F gi' u' i' v', ¬ F = 0 ∧ fX4_readLine gi u tp (nI (M 4 0)) (nI k) = some (gi', u') ∧ fX12_readsLine v = some (0, v') ∧ Cu n c i' F u' ∧ v' 9 0 = F ∧ OFr v v') := by
          intro d low eA' f eB' sd hd256 hlow hd hf hf2 hf3
          obtain ⟨l1, l2⟩ := sgn_is (fun j hj => (tx.2.2 j hj).1) hd256 sd
          obtain ⟨u2, n1', n2'⟩ := next_n tx e2 l1
          rw [n1', sbind] at eA'
          rcases amt_n tx hlow (TxR_O txr of3) n2' rfl with ⟨i', x', u3, v3, r1, r2, r3, r4, r5, r6, r7, r8, r9⟩ | ⟨F, i', x', u3, v3, r0, r1, r2, r3, r4, r5⟩
          · rw [r1, sbind, sd] at eA'
            rw [r2, sbind, if_neg n10] at eB'
            refine Or.inl ⟨_, u3, f v3, eA', eB', ⟨p, d, x', i', hk2, ⟨p1, ht, r8, ?_⟩, r3, by omega, ?_, ?_, hf x' v3 r8 r6 ?_, rfl, rfl, rfl, rfl⟩, OFr_t (OFr_N of3 r9) (hf2 v3)⟩
            · rcases hd with ⟨rfl, rfl⟩ | ⟨rfl, rfl⟩ | rfl | rfl
              · exact Or.inl ⟨rfl, r7⟩
              · exact Or.inr (Or.inl ⟨rfl, r7⟩)
              · exact Or.inr (Or.inr (Or.inl rfl))
              · exact Or.inr (Or.inr (Or.inr (Or.inl rfl)))
            · rw [(hf3 v3).1]; exact r5
            · rw [(hf3 v3).2, r9 29 (by decide) (by decide) (by decide)]; rfl
            · rw [r9 0 (by decide) (by decide) (by decide)]; rfl
          · rw [r1, sbind] at eA'
            rw [r2, sbind, if_pos rfl] at eB'
            exact Or.inr ⟨F, _, u3, i', v3, r0, eA', eB', r3, r4, OFr_N of3 r5⟩
        have flag : ∀ (d : Nat) (y : Int32) (eA' : fX4_readLine gi u tp (nI (M 4 0)) (nI k) = ((fX1_next u1 tp).bind fun z => some ((0 : Int32), z)).bind fun z9 => some (st (st (st (st gi 0 k (nI p)) 1 k (sgn n c (i + 1))) 2 k z9.1) 3 0 (nI (k + 1)), z9.2)) (eB' : fX12_readsLine v = some (1, st (st (st (st v 29 0 (nI (k + 1))) 7 0 (nI (i + 1))) 7 0 (nI (i + 2))) 0 (48 + p) y)), sgn n c (i + 1) = nI d → d < 256 → (d = 62 ∨ d = 60) → WkR (eff M p d 0) (upd (v 0) (48 + p) y) → (∃ gi' u' v', fX4_readLine gi u tp (nI (M 4 0)) (nI k) = some (gi', u') ∧ fX12_readsLine v = some (1, v') ∧ LineO n c i k M gi gi' u' v' ∧ OFr v v') ∨ (∃ F gi' u' i' v', ¬ F = 0 ∧ fX4_readLine gi u tp (nI (M 4 0)) (nI k) = some (gi', u') ∧ fX12_readsLine v = some (0, v') ∧ Cu n c i' F u' ∧ v' 9 0 = F ∧ OFr v v') := by
          intro d y eA' eB' sd hd256 hd hw
          obtain ⟨l1, l2⟩ := sgn_is (fun j hj => (tx.2.2 j hj).1) hd256 sd
          obtain ⟨u2, n1', n2'⟩ := next_n tx e2 l1
          rw [n1', sbind, sbind, sd] at eA'
          refine Or.inl ⟨_, u2, _, eA', eB', ⟨p, d, 0, i + 1 + 1, hk2, ⟨p1, ht, by omega, ?_⟩, n2', by omega, rfl, rfl, hw, rfl, rfl, rfl, rfl⟩, OFr_0 of3⟩
          rcases hd with rfl | rfl
          · exact Or.inr (Or.inr (Or.inr (Or.inr (Or.inl rfl))))
          · exact Or.inr (Or.inr (Or.inr (Or.inr (Or.inr rfl))))
        obtain ⟨-, wr1, -⟩ := wr.2.2 p p1
        obtain ⟨w1, -⟩ := ok.2.2.2.2 p p1
        unfold oT at eB
        by_cases s1 : sgn n c (i + 1) = 43
        · rw [if_pos s1] at eB
          rw [s1, if_neg (by decide), if_pos (by decide), ← s1] at eA
          refine amt 43 0 eA (fun z => st z 0 (16 + p) (mn 999 (z 0 (16 + p) + z 10 0))) eB s1 (by decide) (by decide) (by omega) (fun x v4 hx h10 h0 => ?_) (fun v4 => OFr_0 (OFr_rfl v4)) (fun v4 => ⟨rfl, rfl⟩)
          show WkR (eff M p 43 x) (upd (v4 0) (16 + p) (mn 999 (v4 0 (16 + p) + v4 10 0)))
          rw [h0, h10, wr1, nI_add, show (999 : Int32) = nI 999 from rfl, mn_n (by omega) (by omega)]
          exact WkR_a0 wr p1 _
        · rw [if_neg s1] at eB
          by_cases s2 : sgn n c (i + 1) = 45
          · rw [if_pos s2] at eB
            rw [s2, if_neg (by decide), if_pos (by decide), ← s2] at eA
            refine amt 45 0 eA (fun z => st z 0 (16 + p) (mx 1 (z 0 (16 + p) - z 10 0))) eB s2 (by decide) (by decide) (by omega) (fun x v4 hx h10 h0 => ?_) (fun v4 => OFr_0 (OFr_rfl v4)) (fun v4 => ⟨rfl, rfl⟩)
            show WkR (eff M p 45 x) (upd (v4 0) (16 + p) (mx 1 (v4 0 (16 + p) - v4 10 0)))
            rw [h0, h10, wr1, mx_sub w1 hx]
            exact WkR_a0 wr p1 _
          · rw [if_neg s2] at eB
            by_cases s3 : sgn n c (i + 1) = 60
            · rw [if_pos s3] at eB
              rw [s3, if_neg (by decide), if_neg (by decide), if_pos (by decide), ← s3] at eA
              exact flag 60 0 eA eB s3 (by decide) (by omega) (WkR_ov0 wr p1)
            · rw [if_neg s3] at eB
              by_cases s4 : sgn n c (i + 1) = 61
              · rw [if_pos s4] at eB
                rw [s4, if_pos (by decide), ← s4] at eA
                refine amt 61 1 eA (fun z => st z 0 (16 + p) (z 10 0)) eB s4 (by decide) (by decide) (by omega) (fun x v4 hx h10 h0 => ?_) (fun v4 => OFr_0 (OFr_rfl v4)) (fun v4 => ⟨rfl, rfl⟩)
                show WkR (eff M p 61 x) (upd (v4 0) (16 + p) (v4 10 0))
                rw [h0, h10]
                exact WkR_a0 wr p1 _
              · rw [if_neg s4] at eB
                by_cases s5 : sgn n c (i + 1) = 62
                · rw [if_pos s5] at eB
                  rw [s5, if_neg (by decide), if_neg (by decide), if_pos (by decide), ← s5] at eA
                  exact flag 62 1 eA eB s5 (by decide) (by omega) (WkR_ov1 wr p1)
                · rw [if_neg s5] at eB
                  by_cases s6 : sgn n c (i + 1) = 63
                  · rw [if_pos s6] at eB
                    rw [s6, if_pos (by decide), ← s6] at eA
                    refine amt 63 1 eA (fun z => st z 0 (32 + p) (z 10 0)) eB s6 (by decide) (by decide) (by omega) (fun x v4 hx h10 h0 => ?_) (fun v4 => OFr_0 (OFr_rfl v4)) (fun v4 => ⟨rfl, rfl⟩)
                    show WkR (eff M p 63 x) (upd (v4 0) (32 + p) (v4 10 0))
                    rw [h0, h10]
                    exact WkR_a1 wr p1 _
                  · rw [if_neg s6] at eB
                    rw [if_neg (show ¬ (sgn n c (i + 1) = 61 ∨ sgn n c (i + 1) = 63) from fun e => e.elim s4 s6), if_neg (show ¬ (sgn n c (i + 1) = 43 ∨ sgn n c (i + 1) = 45) from fun e => e.elim s1 s2), if_neg (show ¬ (sgn n c (i + 1) = 62 ∨ sgn n c (i + 1) = 60) from fun e => e.elim s5 s3), sbind] at eA
                    have hF : ¬ fo 1 (i + 1) = 0 := fo_ne (by decide) (by decide) (by omega)
                    refine Or.inr ⟨fo 1 (i + 1), _, _, i + 1, _, hF, eA, eB, fail_n (x := 1) (k := 1) e2 rfl, ?_, OFr_9 of3⟩
                    show (-1000) * 1 - (nI (i + 2) - 1) = fo 1 (i + 1)
                    rw [show nI (i + 2) - 1 = nI (i + 1) from tps (i + 1)]
                    rfl
  · have hF : ¬ fo 1 i = 0 := fo_ne (by decide) (by decide) (by omega)
    refine Or.inr ⟨fo 1 i, gi, fX1_failHere u 1, i, st v 9 0 (fo 1 i), hF, ?_, ?_, fail_n h rfl, rfl, OFr_9 (OFr_rfl v)⟩
    · unfold fX4_readLine
      rw [p5, sbind, if_pos rfl, lett_s]
    · unfold fX12_readsLine
      rw [here_n txr h7 hi, sbind, lett_s, p6, lett_s, if_pos rfl, wrong_n (x := 1) (k := 1) h7 rfl, lett_s]
      dsimp only
      rw [zb_0]
