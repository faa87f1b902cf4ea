/-! ===== weighings, the call ===== -/
theorem n10 : ¬ (1 : Int32) = 0 := by decide
/-- k lines that both hold, the reference in its new words -/
def WLn (k : Nat) (sw v : St) : Prop := k ≤ 16 ∧ sw 3 0 = nI k ∧ v 37 0 = nI k ∧ ∀ j, j < k → ∃ a b s : Nat, a < 65536 ∧ b < 65536 ∧ a ≠ 0 ∧ b ≠ 0 ∧ a &&& b = 0 ∧ (s = 60 ∨ s = 61 ∨ s = 62) ∧ sw 0 j = nI a ∧ v 33 j = nI a ∧ sw 1 j = nI b ∧ v 34 j = nI b ∧ sw 2 j = nI s ∧ v 35 j = nI s
theorem WLn_step {n : Nat} {c : Nat → Nat} {i k : Nat} {sw v sw' u' v' : St} (h : WLn k sw v) (g : LineG n c i k sw v sw' u' v') : WLn (k + 1) sw' v' := by
  obtain ⟨h1, h2, h3, h4⟩ := h
  obtain ⟨a, b, s, i', g1, g2, g3, g4, g5, g6, g7, -, -, -, g8, g9, g10, g11, g12, g13, g14, g15⟩ := g
  refine ⟨by omega, g8, g9, fun j hj => ?_⟩
  rw [g10, g11, g12, g13, g14, g15]
  by_cases q : j = k
  · subst q
    exact ⟨a, b, s, g2, g3, g4, g5, g6, g7, upd_s, upd_s, upd_s, upd_s, upd_s, upd_s⟩
  · rw [upd_n q, upd_n q, upd_n q, upd_n q, upd_n q, upd_n q]
    exact h4 j (by omega)
theorem wloop_n {n : Nat} {c : Nat → Nat} {tp : St} (tx : Tx n c tp) : ∀ (mB mA k i : Nat) (sw u v : St), n - i < mB → 17 - k < mA → 1 ≤ k → WLn k sw v → TxR n c v → Cu n c i 0 u → v 7 0 = nI i → (∃ k' sw' u' i' v', fX10_read_L7 tp mA sw u (nI k) = some (sw', u') ∧ fX12_weighings_L35 mB v 1 = fX12_weighings_J75 v' 1 ∧ Cu n c i' 0 u' ∧ WLn k' sw' v' ∧ WFr v v') ∨ (∃ F sw' u' i' v', ¬ F = 0 ∧ fX10_read_L7 tp mA sw u (nI k) = some (sw', u') ∧ fX12_weighings_L35 mB v 1 = fX12_weighings_J75 v' 0 ∧ Cu n c i' F u' ∧ v' 9 0 = F ∧ WFr v v') := by
  have hn := tx.1
  have stopA : ∀ (m k : Nat) (sw u : St) (i : Nat) (F : Int32), ¬ F = 0 → Cu n c i F u → k ≤ 17 → 1 ≤ m → fX10_read_L7 tp m sw u (nI k) = some (sw, u) := by
    intro m k sw u i F hF h hk hm
    obtain ⟨m, rfl⟩ : ∃ m', m = m' + 1 := ⟨m - 1, by omega⟩
    show bX10_read_L7 tp _ _ _ _ = _
    unfold bX10_read_L7
    by_cases q : k = 17
    · rw [if_pos (show (16 : Int32) < nI k from nI_lt (a := 16) (by omega) (by omega))]
    · rw [if_neg (show ¬ (16 : Int32) < nI k from nI_nlt (a := 16) (by omega) (by omega)), begins_f h hF, sbind]
      exact if_pos rfl
  have stopB : ∀ (m : Nat) (v : St), 1 ≤ m → fX12_weighings_L35 m v 0 = fX12_weighings_J75 v 0 := by
    intro m v hm
    obtain ⟨m, rfl⟩ : ∃ m', m = m' + 1 := ⟨m - 1, by omega⟩
    show bX12_weighings_L35 _ _ _ = _
    unfold bX12_weighings_L35
    rw [if_pos rfl]
  intro mB
  induction mB with
  | zero => intro mA k i sw u v h; omega
  | succ mB ih =>
    intro mA k i sw u v hB hA hk1 hw txr h h7
    obtain ⟨mA, rfl⟩ : ∃ m, mA = m + 1 := ⟨mA - 1, by omega⟩
    have hk16 := hw.1
    have hi := h.1
    have nle : ¬ (16 : Int32) < nI k := nI_nlt (a := 16) (by omega) (by omega)
    by_cases he : i = n
    · refine Or.inl ⟨k, sw, u, i, v, ?_, ?_, h, hw, WFr_rfl v⟩
      · show bX10_read_L7 tp _ _ _ _ = _
        unfold bX10_read_L7
        rw [if_neg nle, begins_e (by rw [he] at h; exact h) hk1 (by omega), sbind]
        exact if_pos rfl
      · show bX12_weighings_L35 _ _ _ = _
        unfold bX12_weighings_L35
        rw [if_neg (by decide), txr.2.1, h7, if_pos (nI_le (by omega) (by omega))]
    · have hin : i < n := by omega
      have eB : fX12_weighings_L35 (mB + 1) v 1 = (fX12_takes v 59).bind fun z17 => if z17.1 = 0 then fX12_weighings_L35 mB z17.2 0 else (fX12_readsWeighing z17.2).bind fun z19 => if z19.1 = 0 then fX12_weighings_L35 mB z19.2 0 else fX12_weighings_L35 mB z19.2 1 := by
        show bX12_weighings_L35 _ _ _ = _
        unfold bX12_weighings_L35
        rw [if_neg (by decide), txr.2.1, h7, if_neg (nI_ge hin (by omega))]
      have eA : fX10_read_L7 tp (mA + 1) sw u (nI k) = (fX1_take u tp 59).bind fun z => if z.1 = 0 then some (sw, z.2) else (fX10_readLine sw z.2 tp (nI k)).bind fun z4 => fX10_read_L7 tp mA z4.1 z4.2 (nI (k + 1)) := by
        show bX10_read_L7 tp _ _ _ _ = _
        unfold bX10_read_L7
        rw [if_neg nle, begins_k hn h hin hk1 (by omega)]
        cases fX1_take u tp 59 with
        | none => rfl
        | some z =>
          rw [sbind, sbind]
          by_cases q : z.1 = 0
          · rw [if_pos q, if_pos q, sbind]; exact if_pos rfl
          · rw [if_neg q, if_neg q, sbind, if_neg n10]
            simp only [lett_s, n1]
      by_cases hs : sgn n c i = 59
      · obtain ⟨u1, a1, a2⟩ := take_y tx h hin hs
        have b1 := takes_y txr h7 hi hs
        rw [a1, sbind, if_neg n10] at eA
        rw [b1, sbind, if_neg n10] at eB
        dsimp only at eA eB
        have wf1 : WFr v (st v 7 0 (nI (i + 1))) := WFr_7 (WFr_rfl v)
        rcases line_n (sw := sw) tx hk16 (TxR_W txr wf1) a2 rfl (show st v 7 0 (nI (i + 1)) 37 0 = nI k from hw.2.2.1) with ⟨sw', u', v', l1, l2, l3, l4⟩ | ⟨F, sw', u', i', v', l0, l1, l2, l3, l4, l5⟩
        · rw [l1, sbind] at eA
          rw [l2, sbind, if_neg n10] at eB
          have hw0 : WLn k sw (st v 7 0 (nI (i + 1))) := hw
          have hw' := WLn_step hw0 l3
          obtain ⟨a, b, s, i', g1, g2, g3, g4, g5, g6, g7, g8, g9, g10, g11⟩ := l3
          have wf2 := WFr_t wf1 l4
          rcases ih mA (k + 1) i' sw' u' v' (by omega) (by omega) (by omega) hw' (TxR_W txr wf2) g8 g10 with ⟨k2, sw2, u2, i2, v2, r1, r2, r3, r4, r5⟩ | ⟨F, sw2, u2, i2, v2, r0, r1, r2, r3, r4, r5⟩
          · exact Or.inl ⟨k2, sw2, u2, i2, v2, eA.trans r1, eB.trans r2, r3, r4, WFr_t wf2 r5⟩
          · exact Or.inr ⟨F, sw2, u2, i2, v2, r0, eA.trans r1, eB.trans r2, r3, r4, WFr_t wf2 r5⟩
        · rw [l1, sbind] at eA
          rw [l2, sbind, if_pos rfl] at eB
          exact Or.inr ⟨F, sw', u', i', v', l0, eA.trans (stopA mA (k + 1) sw' u' i' F l0 l3 (by omega) (by omega)), eB.trans (stopB mB v' (by omega)), l3, l4, WFr_t wf1 l5⟩
      · obtain ⟨u1, a1, a2⟩ := take_x (tp := tp) h hs
        have b1 := takes_x txr h7 hi hs
        rw [a1, sbind, if_pos rfl] at eA
        rw [b1, sbind, if_pos rfl] at eB
        have hF : ¬ fo 1 i = 0 := fo_ne (by decide) (by decide) (by omega)
        exact Or.inr ⟨fo 1 i, sw, u1, i, st v 9 0 (fo 1 i), hF, eA, eB.trans (stopB mB _ (by omega)), a2, rfl, WFr_9 (WFr_rfl v)⟩
/-- the new lines come in place of those before -/
theorem wcopy_n {k : Nat} (hk : k ≤ 16) : ∀ (m q : Nat) (v : St), q ≤ k → k - q < m → v 37 0 = nI k → ∃ v', fX12_weighings_L99 m v (nI q) = some (nI k, v') ∧ (∀ j, j ≠ 30 → j ≠ 31 → j ≠ 32 → v' j = v j) ∧ (∀ j, q ≤ j → j < k → v' 30 j = v 33 j ∧ v' 31 j = v 34 j ∧ v' 32 j = v 35 j) ∧ ∀ j, j < q → v' 30 j = v 30 j ∧ v' 31 j = v 31 j ∧ v' 32 j = v 32 j := by
  intro m
  induction m with
  | zero => intro q v _ h; omega
  | succ m ih =>
    intro q v hq hm h37
    have e : fX12_weighings_L99 (m + 1) v (nI q) = bX12_weighings_L99 (fX12_weighings_L99 m) v (nI q) := rfl
    rw [e]
    unfold bX12_weighings_L99
    rw [h37]
    by_cases he : q = k
    · rw [if_pos (nI_le (by omega) (by omega))]
      exact ⟨v, rfl, fun _ _ _ _ => rfl, fun j h1 h2 => by omega, fun j _ => ⟨rfl, rfl, rfl⟩⟩
    · have hq2 : q < k := by omega
      rw [if_neg (nI_ge hq2 (by omega)), gd_n (by omega) (by decide), gd_n (by omega) (by decide), lett_s, gd_n (by omega) (by decide), gd_n (by omega) (by decide), lett_s, gd_n (by omega) (by decide), gd_n (by omega) (by decide), lett_s, lett_s, n1, ix_n (by omega)]
      obtain ⟨v', i1, i2, i3, i4⟩ := ih (q + 1) (st (st (st v 30 q (v 33 q)) 31 q (st v 30 q (v 33 q) 34 q)) 32 q (st (st v 30 q (v 33 q)) 31 q (st v 30 q (v 33 q) 34 q) 35 q)) (by omega) (by omega) h37
      refine ⟨v', i1, fun j h1 h2 h3 => ?_, fun j h1 h2 => ?_, fun j h1 => ?_⟩
      · rw [i2 j h1 h2 h3, st_i h3, st_i h2, st_i h1]
      · by_cases qj : j = q
        · subst qj
          obtain ⟨w1, w2, w3⟩ := i4 j (by omega)
          rw [w1, w2, w3]
          refine ⟨?_, ?_, ?_⟩
          · rw [st_i (by decide), st_i (by decide), st_s, upd_s]
          · rw [st_i (by decide), st_s, upd_s]; rfl
          · rw [st_s, upd_s]; rfl
        · exact i3 j (by omega) h2
      · obtain ⟨w1, w2, w3⟩ := i4 j (by omega)
        rw [w1, w2, w3]
        refine ⟨?_, ?_, ?_⟩
        · rw [st_i (by decide), st_i (by decide), st_s, upd_n (by omega)]
        · rw [st_i (by decide), st_s, upd_n (by omega)]; rfl
        · rw [st_s, upd_n (by omega)]; rfl
theorem Tx_of {t n : Nat} {c : Nat → Nat} {tp v : St} (h : TRn t c tp v) (hn : n ≤ t) (hn2 : n ≤ 240) : Tx n c tp := ⟨hn2, ⟨t, hn, h.1, h.2.1⟩, fun j hj => ⟨(h.2.2.2 j (by omega)).1, (h.2.2.2 j (by omega)).2.1⟩⟩
theorem eq_weighings (g : Nat → St) (w : Nat → Int64) (v : St) (hr : Rel g v) (p1 : Int32) : ∃ (z : Int32 × St × St × St × St) (y : Int32 × St), fX11_weighings (g 1) (g 2) (g 15) (g 16) p1 = some z ∧ fX12_weighings v p1 = some y ∧ z.1 = y.1 ∧ Rel (sg (sg (sg (sg g 1 z.2.1) 2 z.2.2.1) 15 z.2.2.2.1) 16 z.2.2.2.2) y.2 := by
  obtain ⟨⟨t, c, ht, h2, h3, h4⟩, t2, t3, t4, t5, t6⟩ := id hr
  unfold fX11_weighings fX12_weighings
  rcases offers_c h2 ht p1 1 120 (a := 1) (b := 120) rfl rfl (by decide) (by decide) with ⟨n, n1', n2, n3, rfl, e1, e2, e3⟩ | ⟨e1, e2⟩
  · have tx : Tx n c (g 1) := Tx_of ⟨ht, h2, h3, h4⟩ n3 (by omega)
    obtain ⟨u0, s1, s2⟩ := start_n (u := g 2) tx n1'
    have bt : fX12_beginsText v (nI n) = st (st (st (st v 7 0 0) 8 0 (nI n)) 12 0 0) 14 0 0 := rfl
    have txr : TxR n c (st (fX12_beginsText v (nI n)) 37 0 0) := ⟨by omega, rfl, fun j hj => ⟨(h4 j (by omega)).1, (h4 j (by omega)).2.2⟩⟩
    have frA : ∀ k, k ≠ 7 → k ≠ 8 → k ≠ 12 → k ≠ 14 → k ≠ 37 → st (fX12_beginsText v (nI n)) 37 0 0 k = v k := fun k a1 a2 a3 a4 a5 => by
      rw [st_i a5, bt, st_i a4, st_i a3, st_i a2, st_i a1]
    have hA : ∀ (r : Option (St × St)), fX10_read (g 16) u0 (g 1) = r → fX11_weighings (g 1) (g 2) (g 15) (g 16) (nI n) = r.bind fun z4 => if fX1_isFaulty z4.2 = 0 then some (z4.1 3 0, st (g 1) 1 0 0, z4.2, z4.1, g 15) else some (z4.2 4 0, st (g 1) 1 0 0, z4.2, g 15, z4.1) := fun r er => by
      unfold fX11_weighings
      rw [e1, lett_s, if_neg (by decide), s1, sbind, er]
      rfl
    unfold fX11_weighings at hA
    have hB : fX12_weighings v (nI n) = (fX12_readsWeighing (st (fX12_beginsText v (nI n)) 37 0 0)).bind fun z26 => fX12_weighings_L35 FU z26.2 z26.1 := by
      unfold fX12_weighings
      rw [e2, lett_s, if_neg (by decide), h3, if_pos e3, lett_s, lett_s]
    unfold fX12_weighings at hB
    rw [hB]
    have rd0 : fX10_read (g 16) u0 (g 1) = (fX10_readLine (st (g 16) 3 0 0) u0 (g 1) (nI 0)).bind fun z4 => fX10_read_L7 (g 1) 999999 z4.1 z4.2 (nI (0 + 1)) := by
      unfold fX10_read
      rw [lett_s]
      show bX10_read_L7 (g 1) (fX10_read_L7 (g 1) 999999) (st (g 16) 3 0 0) u0 0 = _
      unfold bX10_read_L7
      rw [if_neg (by decide), begins_0 s2, sbind, if_neg n10]
      rfl
    have fin_bad : ∀ (sw' u' v' : St) (i' : Nat) (F : Int32), ¬ F = 0 → Cu n c i' F u' → v' 9 0 = F → WFr (st (fX12_beginsText v (nI n)) 37 0 0) v' → fX10_read (g 16) u0 (g 1) = some (sw', u') → ((fX12_readsWeighing (st (fX12_beginsText v (nI n)) 37 0 0)).bind fun z26 => fX12_weighings_L35 FU z26.2 z26.1) = fX12_weighings_J75 v' 0 → ∃ (z : Int32 × St × St × St × St) (y : Int32 × St), (lett (fX8_offers (g 1) (nI n) 1 120) fun z1 => if z1 = 0 then some ((-1), (g 1), (g 2), (g 15), (g 16)) else (fX1_start (g 2) (g 1) (nI n)).bind fun z3 => (fX10_read (g 16) z3 (g 1)).bind fun z4 => lett (fX8_clear (g 1)) fun z5 => lett (fX1_isFaulty z4.2) fun z6 => if z6 = 0 then some (z4.1 3 0, z5, z4.2, z4.1, (g 15)) else some (z4.2 4 0, z5, z4.2, (g 15), z4.1)) = some z ∧ ((fX12_readsWeighing (st (fX12_beginsText v (nI n)) 37 0 0)).bind fun z26 => fX12_weighings_L35 FU z26.2 z26.1) = some y ∧ z.1 = y.1 ∧ Rel (sg (sg (sg (sg g 1 z.2.1) 2 z.2.2.1) 15 z.2.2.2.1) 16 z.2.2.2.2) y.2 := by
      intro sw' u' v' i' F hF hc h9 wf er eB
      rw [hA _ er, sbind]
      dsimp only
      rw [faulty_f hc hF, if_neg (by decide), eB]
      unfold fX12_weighings_J75
      rw [lett_s, if_pos rfl]
      have k : ∀ k, k ≠ 6 → k ≠ 7 → k ≠ 8 → k ≠ 9 → k ≠ 12 → k ≠ 14 → k ≠ 33 → k ≠ 34 → k ≠ 35 → k ≠ 37 → k ≠ 38 → st v' 6 0 0 k = v k := fun k b6 b7 b8 b9 b12 b14 b33 b34 b35 b37 b38 => by
        rw [st_i b6, wf k b7 b9 b38 b33 b34 b35 b37, frA k b7 b8 b12 b14 b37]
      refine ⟨(_, _, _, _, _), (_, _), rfl, rfl, ?_, ?_⟩
      · show u' 4 0 = st v' 6 0 0 9 0
        rw [hc.2.2.2.2]; exact h9.symm
      · refine ⟨⟨0, fun _ => 0, by omega, rfl, rfl, fun j hj => by omega⟩, ?_, KR_ref t3 (k 51 (by decide) (by decide) (by decide) (by decide) (by decide) (by decide) (by decide) (by decide) (by decide) (by decide) (by decide)) (k 2 (by decide) (by decide) (by decide) (by decide) (by decide) (by decide) (by decide) (by decide) (by decide) (by decide) (by decide)), RR_ref t4 (k 3 (by decide) (by decide) (by decide) (by decide) (by decide) (by decide) (by decide) (by decide) (by decide) (by decide) (by decide)) (k 4 (by decide) (by decide) (by decide) (by decide) (by decide) (by decide) (by decide) (by decide) (by decide) (by decide) (by decide)), LR_ref t5 (k 15 (by decide) (by decide) (by decide) (by decide) (by decide) (by decide) (by decide) (by decide) (by decide) (by decide) (by decide)) (k 22 (by decide) (by decide) (by decide) (by decide) (by decide) (by decide) (by decide) (by decide) (by decide) (by decide) (by decide)) (k 23 (by decide) (by decide) (by decide) (by decide) (by decide) (by decide) (by decide) (by decide) (by decide) (by decide) (by decide)) (k 24 (by decide) (by decide) (by decide) (by decide) (by decide) (by decide) (by decide) (by decide) (by decide) (by decide) (by decide)) (k 25 (by decide) (by decide) (by decide) (by decide) (by decide) (by decide) (by decide) (by decide) (by decide) (by decide) (by decide)) (k 26 (by decide) (by decide) (by decide) (by decide) (by decide) (by decide) (by decide) (by decide) (by decide) (by decide) (by decide)), VR_ref t6 (k 36 (by decide) (by decide) (by decide) (by decide) (by decide) (by decide) (by decide) (by decide) (by decide) (by decide) (by decide)) (k 30 (by decide) (by decide) (by decide) (by decide) (by decide) (by decide) (by decide) (by decide) (by decide) (by decide) (by decide)) (k 31 (by decide) (by decide) (by decide) (by decide) (by decide) (by decide) (by decide) (by decide) (by decide) (by decide) (by decide)) (k 32 (by decide) (by decide) (by decide) (by decide) (by decide) (by decide) (by decide) (by decide) (by decide) (by decide) (by decide))⟩
        show WR (g 3) (st v' 6 0 0 0)
        rw [k 0 (by decide) (by decide) (by decide) (by decide) (by decide) (by decide) (by decide) (by decide) (by decide) (by decide) (by decide)]
        exact t2
    have fin_good : ∀ (kk : Nat) (sw' u' v' : St) (i' : Nat), Cu n c i' 0 u' → WLn kk sw' v' → WFr (st (fX12_beginsText v (nI n)) 37 0 0) v' → fX10_read (g 16) u0 (g 1) = some (sw', u') → ((fX12_readsWeighing (st (fX12_beginsText v (nI n)) 37 0 0)).bind fun z26 => fX12_weighings_L35 FU z26.2 z26.1) = fX12_weighings_J75 v' 1 → ∃ (z : Int32 × St × St × St × St) (y : Int32 × St), (lett (fX8_offers (g 1) (nI n) 1 120) fun z1 => if z1 = 0 then some ((-1), (g 1), (g 2), (g 15), (g 16)) else (fX1_start (g 2) (g 1) (nI n)).bind fun z3 => (fX10_read (g 16) z3 (g 1)).bind fun z4 => lett (fX8_clear (g 1)) fun z5 => lett (fX1_isFaulty z4.2) fun z6 => if z6 = 0 then some (z4.1 3 0, z5, z4.2, z4.1, (g 15)) else some (z4.2 4 0, z5, z4.2, (g 15), z4.1)) = some z ∧ ((fX12_readsWeighing (st (fX12_beginsText v (nI n)) 37 0 0)).bind fun z26 => fX12_weighings_L35 FU z26.2 z26.1) = some y ∧ z.1 = y.1 ∧ Rel (sg (sg (sg (sg g 1 z.2.1) 2 z.2.2.1) 15 z.2.2.2.1) 16 z.2.2.2.2) y.2 := by
      intro kk sw' u' v' i' hc wl wf er eB
      rw [hA _ er, sbind]
      dsimp only
      rw [faulty_n hc, if_pos rfl, eB]
      obtain ⟨w1, w2, w3, w4⟩ := wl
      obtain ⟨v2, c1, c2, c3, -⟩ := wcopy_n w1 FU 0 (st (st v' 6 0 0) 36 0 (nI kk)) (by omega) (show kk - 0 < 1000000 by omega) w3
      have eJ : fX12_weighings_J75 v' 1 = some (nI kk, v2) := by
        unfold fX12_weighings_J75
        rw [lett_s, if_neg (by decide), show st v' 6 0 0 37 0 = nI kk from w3, lett_s]
        exact c1
      rw [eJ]
      have k : ∀ k, k ≠ 6 → k ≠ 7 → k ≠ 8 → k ≠ 9 → k ≠ 12 → k ≠ 14 → k ≠ 33 → k ≠ 34 → k ≠ 35 → k ≠ 37 → k ≠ 38 → k ≠ 30 → k ≠ 31 → k ≠ 32 → k ≠ 36 → v2 k = v k := fun k b6 b7 b8 b9 b12 b14 b33 b34 b35 b37 b38 b30 b31 b32 b36 => by
        rw [c2 k b30 b31 b32, st_i b36, st_i b6, wf k b7 b9 b38 b33 b34 b35 b37, frA k b7 b8 b12 b14 b37]
      have K : ∀ k, k < 28 → k ≠ 6 → k ≠ 7 → k ≠ 8 → k ≠ 9 → k ≠ 12 → k ≠ 14 → v2 k = v k := fun j hk b6 b7 b8 b9 b12 b14 => k j b6 b7 b8 b9 b12 b14 (by omega) (by omega) (by omega) (by omega) (by omega) (by omega) (by omega) (by omega) (by omega)
      refine ⟨(_, _, _, _, _), (_, _), rfl, rfl, w2, ?_⟩
      refine ⟨⟨0, fun _ => 0, by omega, rfl, ?_, fun j hj => by omega⟩, ?_, KR_ref t3 (k 51 (by decide) (by decide) (by decide) (by decide) (by decide) (by decide) (by decide) (by decide) (by decide) (by decide) (by decide) (by decide) (by decide) (by decide) (by decide)) (K 2 (by decide) (by decide) (by decide) (by decide) (by decide) (by decide) (by decide)), RR_ref t4 (K 3 (by decide) (by decide) (by decide) (by decide) (by decide) (by decide) (by decide)) (K 4 (by decide) (by decide) (by decide) (by decide) (by decide) (by decide) (by decide)), LR_ref t5 (K 15 (by decide) (by decide) (by decide) (by decide) (by decide) (by decide) (by decide)) (K 22 (by decide) (by decide) (by decide) (by decide) (by decide) (by decide) (by decide)) (K 23 (by decide) (by decide) (by decide) (by decide) (by decide) (by decide) (by decide)) (K 24 (by decide) (by decide) (by decide) (by decide) (by decide) (by decide) (by decide)) (K 25 (by decide) (by decide) (by decide) (by decide) (by decide) (by decide) (by decide)) (K 26 (by decide) (by decide) (by decide) (by decide) (by decide) (by decide) (by decide)), ?_⟩
      · show v2 6 0 = nI 0
        rw [c2 6 (by decide) (by decide) (by decide)]; rfl
      · show WR (g 3) (v2 0)
        rw [K 0 (by decide) (by decide) (by decide) (by decide) (by decide) (by decide) (by decide)]
        exact t2
      · refine ⟨kk, fun j => ix (sw' 0 j), fun j => ix (sw' 1 j), fun j => ix (sw' 2 j), w1, w2, ?_, fun j hj => ?_⟩
        · show v2 36 0 = nI kk
          rw [c2 36 (by decide) (by decide) (by decide)]; rfl
        · obtain ⟨a, b, s, a1, a2, a3, a4, a5, a6, a7, a8, a9, a10, a11, a12⟩ := w4 j hj
          obtain ⟨d1, d2, d3⟩ := c3 j (by omega) hj
          dsimp only
          show _ ∧ _ ∧ _ ∧ _ ∧ _ ∧ _ ∧ sw' 0 j = _ ∧ v2 30 j = _ ∧ sw' 1 j = _ ∧ v2 31 j = _ ∧ sw' 2 j = _ ∧ v2 32 j = _
          rw [d1, d2, d3, a7, a9, a11, ix_n (by omega), ix_n (by omega), ix_n (by omega)]
          exact ⟨a1, a2, a3, a4, a5, a6, rfl, a8, rfl, a10, rfl, a12⟩
    have z0 : WLn 0 (st (g 16) 3 0 0) (st (fX12_beginsText v (nI n)) 37 0 0) := ⟨by omega, rfl, rfl, fun j hj => by omega⟩
    rcases line_n (sw := st (g 16) 3 0 0) (k := 0) (i := 0) tx (by omega) txr s2 rfl rfl with ⟨sw', u', v', l1, l2, l3, l4⟩ | ⟨F, sw', u', i', v', l0, l1, l2, l3, l4, l5⟩
    · have hw' := WLn_step z0 l3
      obtain ⟨a, b, s, i', g1, g2, g3, g4, g5, g6, g7, g8, g9, g10, g11⟩ := l3
      rw [l1, sbind] at rd0
      rcases wloop_n tx FU 999999 (0 + 1) i' sw' u' v' (show n - i' < 1000000 by omega) (by omega) (by omega) hw' (TxR_W txr l4) g8 g10 with ⟨k2, sw2, u2, i2, v2, r1, r2, r3, r4, r5⟩ | ⟨F, sw2, u2, i2, v2, r0, r1, r2, r3, r4, r5⟩
      · exact fin_good k2 sw2 u2 v2 i2 r3 r4 (WFr_t l4 r5) (rd0.trans r1) (by rw [l2, sbind]; exact r2)
      · exact fin_bad sw2 u2 v2 i2 F r0 r3 r4 (WFr_t l4 r5) (rd0.trans r1) (by rw [l2, sbind]; exact r2)
    · rw [l1, sbind] at rd0
      refine fin_bad sw' u' v' i' F l0 l3 l4 l5 (rd0.trans ?_) ?_
      · show bX10_read_L7 (g 1) (fX10_read_L7 (g 1) 999998) sw' u' (nI (0 + 1)) = _
        unfold bX10_read_L7
        rw [if_neg (by decide), begins_f l3 l0, sbind]
        exact if_pos rfl
      · rw [l2, sbind]
        show bX12_weighings_L35 (fX12_weighings_L35 999999) v' 0 = _
        unfold bX12_weighings_L35
        rw [if_pos rfl]
  · rw [e1, lett_s, if_pos rfl]
    refine ⟨(_, _, _, _, _), (-1, v), rfl, ?_, rfl, hr⟩
    rcases e2 with e | ⟨e, e3⟩
    · rw [e, lett_s, if_pos rfl]
    · rw [e, lett_s, if_neg (by decide), h3, if_neg e3]
