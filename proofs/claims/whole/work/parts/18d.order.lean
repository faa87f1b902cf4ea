/-! ===== orders, the call ===== -/
def effs (N : Nat → Nat → Nat) (P D X : Nat → Nat) : Nat → Nat → Nat → Nat
  | 0 => N
  | k + 1 => eff (effs N P D X k) (P k) (D k) (X k)
theorem effs_cong {N : Nat → Nat → Nat} {P D X P2 D2 X2 : Nat → Nat} : ∀ {k : Nat}, (∀ j, j < k → P j = P2 j ∧ D j = D2 j ∧ X j = X2 j) → effs N P D X k = effs N P2 D2 X2 k := by
  intro k
  induction k with
  | zero => intro _; rfl
  | succ k ih =>
    intro h
    obtain ⟨h1, h2, h3⟩ := h k (by omega)
    rw [effs, effs, ih (fun j hj => h j (by omega)), h1, h2, h3]
def OLn (N : Nat → Nat → Nat) (k : Nat) (gi v : St) (M : Nat → Nat → Nat) : Prop := k ≤ 20 ∧ gi 3 0 = nI k ∧ v 29 0 = nI k ∧ WkOk M ∧ WkR M (v 0) ∧ M 4 0 = N 4 0 ∧ ∃ P D X : Nat → Nat, M = effs N P D X k ∧ ∀ j, j < k → gi 0 j = nI (P j) ∧ gi 1 j = nI (D j) ∧ gi 2 j = nI (X j) ∧ Ord (effs N P D X j) (P j) (D j) (X j)
theorem OLn_step {n : Nat} {c : Nat → Nat} {i k : Nat} {N M : Nat → Nat → Nat} {gi v gi' u' v' : St} (h : OLn N k gi v M) (g : LineO n c i k M gi gi' u' v') : ∃ M', OLn N (k + 1) gi' v' M' := by
  obtain ⟨h1, h2, h3, h4, h5, h6, P, D, X, h7, h8⟩ := h
  obtain ⟨p, d, x, i', g1, g2, -, -, -, g3, g4, g5, g6, g7, g8⟩ := g
  have hc : ∀ j, j ≤ k → effs N (fun j => if j = k then p else P j) (fun j => if j = k then d else D j) (fun j => if j = k then x else X j) j = effs N P D X j := fun j hj => effs_cong (fun q hq => by
    rw [if_neg (by omega), if_neg (by omega), if_neg (by omega)]
    exact ⟨rfl, rfl, rfl⟩)
  refine ⟨eff M p d x, by omega, g8, g3, eff_ok h4 g2, g4, eff_t.trans h6, fun j => if j = k then p else P j, fun j => if j = k then d else D j, fun j => if j = k then x else X j, ?_, fun j hj => ?_⟩
  · rw [effs, hc k (Nat.le_refl k), if_pos rfl, if_pos rfl, if_pos rfl, h7]
  · rw [hc j (by omega), g5, g6, g7]
    dsimp only
    by_cases q : j = k
    · subst q
      rw [upd_s, upd_s, upd_s, if_pos rfl, if_pos rfl, if_pos rfl, ← h7]
      exact ⟨rfl, rfl, rfl, g2⟩
    · rw [upd_n q, upd_n q, upd_n q, if_neg q, if_neg q, if_neg q]
      exact h8 j (by omega)
theorem carry_n {N : Nat → Nat → Nat} {gi : St} {P D X : Nat → Nat} {L : Nat} (hL : L ≤ 20) (g3 : gi 3 0 = nI L) (hg : ∀ j, j < L → gi 0 j = nI (P j) ∧ gi 1 j = nI (D j) ∧ gi 2 j = nI (X j) ∧ Ord (effs N P D X j) (P j) (D j) (X j)) : ∀ (m k : Nat) (w : St), k ≤ L → L - k < m → WkOk (effs N P D X k) → WkC (effs N P D X k) w → ∃ w', fX4_carryOut_L2 gi m w (nI k) = some w' ∧ WkC (effs N P D X L) w' := by
  intro m
  induction m with
  | zero => intro k w _ h; omega
  | succ m ih =>
    intro k w hk hm ok c
    by_cases q : k = L
    · subst q
      refine ⟨w, ?_, c⟩
      show bX4_carryOut_L2 _ _ _ _ = _
      unfold bX4_carryOut_L2
      rw [g3, if_pos (nI_le (Nat.le_refl k) (by omega))]
    · obtain ⟨g0, g1, g2, go⟩ := hg k (by omega)
      obtain ⟨w', e1, e2⟩ := carry_1 ok c go hL (show k < L by omega) g0 g1 g2 g3 m
      obtain ⟨w2, i1, i2⟩ := ih (k + 1) w' (by omega) (by omega) (eff_ok ok go) e2
      exact ⟨w2, e1.trans i1, i2⟩
theorem oloop_n {n : Nat} {c : Nat → Nat} {tp : St} {N : Nat → Nat → Nat} (tx : Tx n c tp) : ∀ (mB mA k i : Nat) (gi u v : St) (M : Nat → Nat → Nat), n - i < mB → 21 - k < mA → 1 ≤ k → OLn N k gi v M → TxR n c v → Cu n c i 0 u → v 7 0 = nI i → (∃ k' M' gi' u' i' v', fX4_read_L7 tp mA gi u (nI (N 4 0)) (nI k) = some (gi', u') ∧ fX12_orders_L46 mB v 1 = fX12_orders_J86 v' 1 ∧ Cu n c i' 0 u' ∧ OLn N k' gi' v' M' ∧ OFr v v') ∨ (∃ F gi' u' i' v', ¬ F = 0 ∧ fX4_read_L7 tp mA gi u (nI (N 4 0)) (nI k) = some (gi', u') ∧ fX12_orders_L46 mB v 1 = fX12_orders_J86 v' 0 ∧ Cu n c i' F u' ∧ v' 9 0 = F ∧ OFr v v') := by
  have hn := tx.1
  have stopA : ∀ (m k : Nat) (sw u : St) (i : Nat) (F x : Int32), ¬ F = 0 → Cu n c i F u → k ≤ 21 → 1 ≤ m → fX4_read_L7 tp m sw u x (nI k) = some (sw, u) := by
    intro m k sw u i F x hF h hk hm
    obtain ⟨m, rfl⟩ : ∃ m', m = m' + 1 := ⟨m - 1, by omega⟩
    show bX4_read_L7 tp _ _ _ _ _ = _
    unfold bX4_read_L7
    by_cases q : k = 21
    · rw [if_pos (show (20 : Int32) < nI k from nI_lt (a := 20) (by omega) (by omega))]
    · rw [if_neg (show ¬ (20 : Int32) < nI k from nI_nlt (a := 20) (by omega) (by omega)), begins_f h hF, sbind]
      exact if_pos rfl
  have stopB : ∀ (m : Nat) (v : St), 1 ≤ m → fX12_orders_L46 m v 0 = fX12_orders_J86 v 0 := by
    intro m v hm
    obtain ⟨m, rfl⟩ : ∃ m', m = m' + 1 := ⟨m - 1, by omega⟩
    show bX12_orders_L46 _ _ _ = _
    unfold bX12_orders_L46
    rw [if_pos rfl]
  intro mB
  induction mB with
  | zero => intro mA k i gi u v M h; omega
  | succ mB ih =>
    intro mA k i gi u v M hB hA hk1 hw txr h h7
    obtain ⟨mA, rfl⟩ : ∃ m, mA = m + 1 := ⟨mA - 1, by omega⟩
    have hk20 := hw.1
    have hi := h.1
    have nle : ¬ (20 : Int32) < nI k := nI_nlt (a := 20) (by omega) (by omega)
    by_cases he : i = n
    · refine Or.inl ⟨k, M, gi, u, i, v, ?_, ?_, h, hw, OFr_rfl v⟩
      · show bX4_read_L7 tp _ _ _ _ _ = _
        unfold bX4_read_L7
        rw [if_neg nle, begins_e (by rw [he] at h; exact h) hk1 (by omega), sbind]
        exact if_pos rfl
      · show bX12_orders_L46 _ _ _ = _
        unfold bX12_orders_L46
        rw [if_neg (by decide), txr.2.1, h7, if_pos (nI_le (by omega) (by omega))]
    · have hin : i < n := by omega
      have eB : fX12_orders_L46 (mB + 1) v 1 = (fX12_takes v 59).bind fun z17 => if z17.1 = 0 then fX12_orders_L46 mB z17.2 0 else (fX12_readsLine z17.2).bind fun z19 => if z19.1 = 0 then fX12_orders_L46 mB z19.2 0 else fX12_orders_L46 mB z19.2 1 := by
        show bX12_orders_L46 _ _ _ = _
        unfold bX12_orders_L46
        rw [if_neg (by decide), txr.2.1, h7, if_neg (nI_ge hin (by omega))]
      have eA : fX4_read_L7 tp (mA + 1) gi u (nI (N 4 0)) (nI k) = (fX1_take u tp 59).bind fun z => if z.1 = 0 then some (gi, z.2) else (fX4_readLine gi z.2 tp (nI (N 4 0)) (nI k)).bind fun z4 => fX4_read_L7 tp mA z4.1 z4.2 (nI (N 4 0)) (nI (k + 1)) := by
        show bX4_read_L7 tp _ _ _ _ _ = _
        unfold bX4_read_L7
        rw [if_neg nle, begins_k hn h hin hk1 (by omega)]
        cases fX1_take u tp 59 with
        | none => rfl
        | some z =>
          rw [sbind, sbind]
          by_cases q : z.1 = 0
          · rw [if_pos q, if_pos q, sbind]; exact if_pos rfl
          · rw [if_neg q, if_neg q, sbind, if_neg n10]
            simp only [lett_s, n1]
      by_cases hs : sgn n c i = 59
      · obtain ⟨u1, a1, a2⟩ := take_y tx h hin hs
        have b1 := takes_y txr h7 hi hs
        rw [a1, sbind, if_neg n10] at eA
        rw [b1, sbind, if_neg n10] at eB
        dsimp only at eA eB
        have wf1 : OFr v (st v 7 0 (nI (i + 1))) := OFr_7 (OFr_rfl v)
        obtain ⟨w1, w2, w3, w4, w5, w6, w7⟩ := id hw
        rw [← w6] at eA
        rcases oline_n (gi := gi) tx hk20 w4 (TxR_O txr wf1) a2 rfl (show st v 7 0 (nI (i + 1)) 29 0 = nI k from w3) (show WkR M (st v 7 0 (nI (i + 1)) 0) from w5) with ⟨sw', u', v', l1, l2, l3, l4⟩ | ⟨F, sw', u', i', v', l0, l1, l2, l3, l4, l5⟩
        · rw [l1, sbind, w6] at eA
          rw [l2, sbind, if_neg n10] at eB
          have hw0 : OLn N k gi (st v 7 0 (nI (i + 1))) M := hw
          obtain ⟨M', hw'⟩ := OLn_step hw0 l3
          obtain ⟨a, b, s, i', g1, g2, g3, g4, g5, g6⟩ := l3
          have wf2 := OFr_t wf1 l4
          rcases ih mA (k + 1) i' sw' u' v' M' (by omega) (by omega) (by omega) hw' (TxR_O txr wf2) g3 g5 with ⟨k2, M2, sw2, u2, i2, v2, r1, r2, r3, r4, r5⟩ | ⟨F, sw2, u2, i2, v2, r0, r1, r2, r3, r4, r5⟩
          · exact Or.inl ⟨k2, M2, sw2, u2, i2, v2, eA.trans r1, eB.trans r2, r3, r4, OFr_t wf2 r5⟩
          · exact Or.inr ⟨F, sw2, u2, i2, v2, r0, eA.trans r1, eB.trans r2, r3, r4, OFr_t wf2 r5⟩
        · rw [l1, sbind, w6] at eA
          rw [l2, sbind, if_pos rfl] at eB
          exact Or.inr ⟨F, sw', u', i', v', l0, eA.trans (stopA mA (k + 1) sw' u' i' F _ l0 l3 (by omega) (by omega)), eB.trans (stopB mB v' (by omega)), l3, l4, OFr_t wf1 l5⟩
      · obtain ⟨u1, a1, a2⟩ := take_x (tp := tp) h hs
        have b1 := takes_x txr h7 hi hs
        rw [a1, sbind, if_pos rfl] at eA
        rw [b1, sbind, if_pos rfl] at eB
        have hF : ¬ fo 1 i = 0 := fo_ne (by decide) (by decide) (by omega)
        exact Or.inr ⟨fo 1 i, gi, u1, i, st v 9 0 (fo 1 i), hF, eA, eB.trans (stopB mB _ (by omega)), a2, rfl, OFr_9 (OFr_rfl v)⟩
theorem eq_orders (g : Nat → St) (w : Nat → Int64) (v : St) (hr : Rel g v) (p1 : Int32) : ∃ (z : Int32 × St × St × St × St) (y : Int32 × St), fX11_orders (g 1) (g 2) (g 3) (g 7) p1 = some z ∧ fX12_orders v p1 = some y ∧ z.1 = y.1 ∧ Rel (sg (sg (sg (sg g 1 z.2.1) 2 z.2.2.1) 3 z.2.2.2.1) 7 z.2.2.2.2) y.2 := by
  obtain ⟨⟨t, c, ht, h2, h3, h4⟩, ⟨N, ok, wc, wr⟩, t3, t4, t5, t6⟩ := id hr
  rcases offers_c h2 ht p1 1 120 (a := 1) (b := 120) rfl rfl (by decide) (by decide) with ⟨n, n1', n2, n3, rfl, e1, e2, e3⟩ | ⟨e1, e2⟩
  · have tx : Tx n c (g 1) := Tx_of ⟨ht, h2, h3, h4⟩ n3 (by omega)
    obtain ⟨u0, s1, s2⟩ := start_n (u := g 2) tx n1'
    have bt : fX12_beginsText v (nI n) = st (st (st (st v 7 0 0) 8 0 (nI n)) 12 0 0) 14 0 0 := rfl
    obtain ⟨v0, ev0⟩ : ∃ v0, v0 = sa (st (fX12_beginsText v (nI n)) 29 0 0) 1 (fa_fill (v 0) (v 1) 98) := ⟨_, rfl⟩
    have txr : TxR n c v0 := by
      rw [ev0]
      exact ⟨by omega, rfl, fun j hj => ⟨(h4 j (by omega)).1, (h4 j (by omega)).2.2⟩⟩
    have frA : ∀ k, k ≠ 1 → k ≠ 7 → k ≠ 8 → k ≠ 12 → k ≠ 14 → k ≠ 29 → v0 k = v k := fun k a0 a1 a2 a3 a4 a5 => by
      rw [ev0, sa_i a0, st_i a5, bt, st_i a4, st_i a3, st_i a2, st_i a1]
    have v01 : v0 1 = fa_fill (v 0) (v 1) 98 := by rw [ev0, sa_s]
    have v07 : v0 7 0 = nI 0 := by rw [ev0]; rfl
    have v029 : v0 29 0 = nI 0 := by rw [ev0]; rfl
    have v00 : v0 0 = v 0 := by rw [ev0]; rfl
    have hA : ∀ (r : Option (St × St)), fX4_read (g 7) u0 (g 1) (nI (N 4 0)) = r → fX11_orders (g 1) (g 2) (g 3) (g 7) (nI n) = r.bind fun z4 => if fX1_isFaulty z4.2 = 0 then (fX4_carryOut z4.1 (g 3)).bind fun z8 => some (z4.1 3 0, st (g 1) 1 0 0, z4.2, z8, z4.1) else some (z4.2 4 0, st (g 1) 1 0 0, z4.2, g 3, z4.1) := fun r er => by
      unfold fX11_orders
      rw [e1, lett_s, if_neg (by decide), s1, sbind, wc.1, er]
      rfl
    have hB : fX12_orders v (nI n) = (fX12_readsLine v0).bind fun z26 => fX12_orders_L46 FU z26.2 z26.1 := by
      unfold fX12_orders
      rw [e2, lett_s, if_neg (by decide), h3, if_pos e3, lett_s, lett_s, copies_n, sbind, lett_s, ev0]
      rfl
    have rd0 : fX4_read (g 7) u0 (g 1) (nI (N 4 0)) = (fX4_readLine (st (g 7) 3 0 0) u0 (g 1) (nI (N 4 0)) (nI 0)).bind fun z4 => fX4_read_L7 (g 1) 999999 z4.1 z4.2 (nI (N 4 0)) (nI (0 + 1)) := by
      unfold fX4_read
      rw [lett_s]
      show bX4_read_L7 (g 1) (fX4_read_L7 (g 1) 999999) (st (g 7) 3 0 0) u0 (nI (N 4 0)) 0 = _
      unfold bX4_read_L7
      rw [if_neg (by decide), begins_0 s2, sbind, if_neg n10]
      rfl
    have fin_bad : ∀ (sw' u' v' : St) (i' : Nat) (F : Int32), ¬ F = 0 → Cu n c i' F u' → v' 9 0 = F → OFr v0 v' → fX4_read (g 7) u0 (g 1) (nI (N 4 0)) = some (sw', u') → fX12_orders v (nI n) = fX12_orders_J86 v' 0 → ∃ (z : Int32 × St × St × St × St) (y : Int32 × St), fX11_orders (g 1) (g 2) (g 3) (g 7) (nI n) = some z ∧ fX12_orders v (nI n) = some y ∧ z.1 = y.1 ∧ Rel (sg (sg (sg (sg g 1 z.2.1) 2 z.2.2.1) 3 z.2.2.2.1) 7 z.2.2.2.2) y.2 := by
      intro sw' u' v' i' F hF hc h9 wf er eB
      have eJ : fX12_orders_J86 v' 0 = some (v' 9 0, sa (st v' 6 0 0) 0 (fa_fill (v' 1) (v' 0) 98)) := by
        unfold fX12_orders_J86
        rw [lett_s, if_pos rfl, copies_n, sbind, lett_s]
        rfl
      rw [hA _ er, sbind, eB, eJ]
      dsimp only
      rw [faulty_f hc hF, if_neg (by decide)]
      have k : ∀ k, k ≠ 0 → k ≠ 1 → k ≠ 6 → k ≠ 7 → k ≠ 8 → k ≠ 9 → k ≠ 10 → k ≠ 12 → k ≠ 14 → k ≠ 29 → sa (st v' 6 0 0) 0 (fa_fill (v' 1) (v' 0) 98) k = v k := fun k b0 b1 b6 b7 b8 b9 b10 b12 b14 b29 => by
        rw [sa_i b0, st_i b6, wf k b0 b7 b9 b10 b29, frA k b1 b7 b8 b12 b14 b29]
      refine ⟨(_, _, _, _, _), (_, _), rfl, rfl, ?_, ?_⟩
      · show u' 4 0 = v' 9 0
        rw [hc.2.2.2.2]; exact h9.symm
      · refine ⟨⟨0, fun _ => 0, by omega, rfl, rfl, fun j hj => by omega⟩, ?_, KR_ref t3 (k 51 (by decide) (by decide) (by decide) (by decide) (by decide) (by decide) (by decide) (by decide) (by decide) (by decide)) (k 2 (by decide) (by decide) (by decide) (by decide) (by decide) (by decide) (by decide) (by decide) (by decide) (by decide)), RR_ref t4 (k 3 (by decide) (by decide) (by decide) (by decide) (by decide) (by decide) (by decide) (by decide) (by decide) (by decide)) (k 4 (by decide) (by decide) (by decide) (by decide) (by decide) (by decide) (by decide) (by decide) (by decide) (by decide)), LR_ref t5 (k 15 (by decide) (by decide) (by decide) (by decide) (by decide) (by decide) (by decide) (by decide) (by decide) (by decide)) (k 22 (by decide) (by decide) (by decide) (by decide) (by decide) (by decide) (by decide) (by decide) (by decide) (by decide)) (k 23 (by decide) (by decide) (by decide) (by decide) (by decide) (by decide) (by decide) (by decide) (by decide) (by decide)) (k 24 (by decide) (by decide) (by decide) (by decide) (by decide) (by decide) (by decide) (by decide) (by decide) (by decide)) (k 25 (by decide) (by decide) (by decide) (by decide) (by decide) (by decide) (by decide) (by decide) (by decide) (by decide)) (k 26 (by decide) (by decide) (by decide) (by decide) (by decide) (by decide) (by decide) (by decide) (by decide) (by decide)), VR_ref t6 (k 36 (by decide) (by decide) (by decide) (by decide) (by decide) (by decide) (by decide) (by decide) (by decide) (by decide)) (k 30 (by decide) (by decide) (by decide) (by decide) (by decide) (by decide) (by decide) (by decide) (by decide) (by decide)) (k 31 (by decide) (by decide) (by decide) (by decide) (by decide) (by decide) (by decide) (by decide) (by decide) (by decide)) (k 32 (by decide) (by decide) (by decide) (by decide) (by decide) (by decide) (by decide) (by decide) (by decide) (by decide))⟩
        refine ⟨N, ok, wc, ?_⟩
        show WkR N (fa_fill (v' 1) (v' 0) 98)
        rw [wf 1 (by decide) (by decide) (by decide) (by decide) (by decide), v01]
        exact WkR_fill (WkR_fill wr)
    have fin_good : ∀ (kk : Nat) (M : Nat → Nat → Nat) (sw' u' v' : St) (i' : Nat), Cu n c i' 0 u' → OLn N kk sw' v' M → OFr v0 v' → fX4_read (g 7) u0 (g 1) (nI (N 4 0)) = some (sw', u') → fX12_orders v (nI n) = fX12_orders_J86 v' 1 → ∃ (z : Int32 × St × St × St × St) (y : Int32 × St), fX11_orders (g 1) (g 2) (g 3) (g 7) (nI n) = some z ∧ fX12_orders v (nI n) = some y ∧ z.1 = y.1 ∧ Rel (sg (sg (sg (sg g 1 z.2.1) 2 z.2.2.1) 3 z.2.2.2.1) 7 z.2.2.2.2) y.2 := by
      intro kk M sw' u' v' i' hc wl wf er eB
      obtain ⟨w1, w2, w3, w4, w5, w6, P, D, X, w7, w8⟩ := wl
      obtain ⟨w', c1, c2⟩ := carry_n w1 w2 w8 FU 0 (g 3) (by omega) (show kk - 0 < 1000000 by omega) ok wc
      have eJ : fX12_orders_J86 v' 1 = some (v' 29 0, st v' 6 0 0) := by
        unfold fX12_orders_J86
        rw [lett_s, if_neg (by decide)]
        rfl
      rw [hA _ er, sbind, eB, eJ]
      dsimp only
      unfold fX4_carryOut
      rw [faulty_n hc, if_pos rfl, show fX4_carryOut_L2 sw' FU (g 3) 0 = _ from c1, sbind]
      have k : ∀ k, k ≠ 0 → k ≠ 1 → k ≠ 6 → k ≠ 7 → k ≠ 8 → k ≠ 9 → k ≠ 10 → k ≠ 12 → k ≠ 14 → k ≠ 29 → st v' 6 0 0 k = v k := fun k b0 b1 b6 b7 b8 b9 b10 b12 b14 b29 => by
        rw [st_i b6, wf k b0 b7 b9 b10 b29, frA k b1 b7 b8 b12 b14 b29]
      refine ⟨(_, _, _, _, _), (_, _), rfl, rfl, w2.trans w3.symm, ?_⟩
      refine ⟨⟨0, fun _ => 0, by omega, rfl, rfl, fun j hj => by omega⟩, ⟨M, w4, ?_, w5⟩, KR_ref t3 (k 51 (by decide) (by decide) (by decide) (by decide) (by decide) (by decide) (by decide) (by decide) (by decide) (by decide)) (k 2 (by decide) (by decide) (by decide) (by decide) (by decide) (by decide) (by decide) (by decide) (by decide) (by decide)), RR_ref t4 (k 3 (by decide) (by decide) (by decide) (by decide) (by decide) (by decide) (by decide) (by decide) (by decide) (by decide)) (k 4 (by decide) (by decide) (by decide) (by decide) (by decide) (by decide) (by decide) (by decide) (by decide) (by decide)), LR_ref t5 (k 15 (by decide) (by decide) (by decide) (by decide) (by decide) (by decide) (by decide) (by decide) (by decide) (by decide)) (k 22 (by decide) (by decide) (by decide) (by decide) (by decide) (by decide) (by decide) (by decide) (by decide) (by decide)) (k 23 (by decide) (by decide) (by decide) (by decide) (by decide) (by decide) (by decide) (by decide) (by decide) (by decide)) (k 24 (by decide) (by decide) (by decide) (by decide) (by decide) (by decide) (by decide) (by decide) (by decide) (by decide)) (k 25 (by decide) (by decide) (by decide) (by decide) (by decide) (by decide) (by decide) (by decide) (by decide) (by decide)) (k 26 (by decide) (by decide) (by decide) (by decide) (by decide) (by decide) (by decide) (by decide) (by decide) (by decide)), VR_ref t6 (k 36 (by decide) (by decide) (by decide) (by decide) (by decide) (by decide) (by decide) (by decide) (by decide) (by decide)) (k 30 (by decide) (by decide) (by decide) (by decide) (by decide) (by decide) (by decide) (by decide) (by decide) (by decide)) (k 31 (by decide) (by decide) (by decide) (by decide) (by decide) (by decide) (by decide) (by decide) (by decide) (by decide)) (k 32 (by decide) (by decide) (by decide) (by decide) (by decide) (by decide) (by decide) (by decide) (by decide) (by decide))⟩
      rw [w7]; exact c2
    have z0 : OLn N 0 (st (g 7) 3 0 0) v0 N := ⟨by omega, rfl, v029, ok, by rw [v00]; exact wr, rfl, fun _ => 0, fun _ => 0, fun _ => 0, rfl, fun j hj => by omega⟩
    rcases oline_n (gi := st (g 7) 3 0 0) (k := 0) (i := 0) (M := N) tx (by omega) ok txr s2 v07 v029 (by rw [v00]; exact wr) with ⟨sw', u', v', l1, l2, l3, l4⟩ | ⟨F, sw', u', i', v', l0, l1, l2, l3, l4, l5⟩
    · obtain ⟨M', hw'⟩ := OLn_step z0 l3
      obtain ⟨a, b, s, i', g1, g2, g3, g4, g5, g6⟩ := l3
      rw [l1, sbind] at rd0
      rw [l2, sbind] at hB
      rcases oloop_n tx FU 999999 (0 + 1) i' sw' u' v' M' (show n - i' < 1000000 by omega) (by omega) (by omega) hw' (TxR_O txr l4) g3 g5 with ⟨k2, M2, sw2, u2, i2, v2, r1, r2, r3, r4, r5⟩ | ⟨F, sw2, u2, i2, v2, r0, r1, r2, r3, r4, r5⟩
      · exact fin_good k2 M2 sw2 u2 v2 i2 r3 r4 (OFr_t l4 r5) (rd0.trans r1) (hB.trans r2)
      · exact fin_bad sw2 u2 v2 i2 F r0 r3 r4 (OFr_t l4 r5) (rd0.trans r1) (hB.trans r2)
    · rw [l1, sbind] at rd0
      rw [l2, sbind] at hB
      refine fin_bad sw' u' v' i' F l0 l3 l4 l5 (rd0.trans ?_) (hB.trans ?_)
      · show bX4_read_L7 (g 1) (fX4_read_L7 (g 1) 999998) sw' u' (nI (N 4 0)) (nI (0 + 1)) = _
        unfold bX4_read_L7
        rw [if_neg (by decide), begins_f l3 l0, sbind]
        exact if_pos rfl
      · show bX12_orders_L46 (fX12_orders_L46 999999) v' 0 = _
        unfold bX12_orders_L46
        rw [if_pos rfl]
  · unfold fX11_orders fX12_orders
    rw [e1, lett_s, if_pos rfl]
    refine ⟨(_, _, _, _, _), (-1, v), rfl, ?_, rfl, hr⟩
    rcases e2 with e | ⟨e, e3⟩
    · rw [e, lett_s, if_pos rfl]
    · rw [e, lett_s, if_neg (by decide), h3, if_neg e3]
