/-! ===== calls that are near: walker, rules, walkerIs, seed ===== -/
theorem Rel_ref {g : Nat → St} {v v2 : St} (h : Rel g v) (e5 : v2 5 = v 5) (e6 : v2 6 = v 6) (e0 : v2 0 = v 0) (e51 : v2 51 = v 51) (e2 : v2 2 = v 2) (e3 : v2 3 = v 3) (e4 : v2 4 = v 4) (e15 : v2 15 = v 15) (e22 : v2 22 = v 22) (e23 : v2 23 = v 23) (e24 : v2 24 = v 24) (e25 : v2 25 = v 25) (e26 : v2 26 = v 26) (e36 : v2 36 = v 36) (e30 : v2 30 = v 30) (e31 : v2 31 = v 31) (e32 : v2 32 = v 32) : Rel g v2 := by
  unfold Rel TR KR RR LR VR at *
  rw [e5, e6, e0, e51, e2, e3, e4, e15, e22, e23, e24, e25, e26, e36, e30, e31, e32]
  exact h
theorem KR_ref {u kp v v2 : St} (h : KR u kp v) (e51 : v2 51 = v 51) (e2 : v2 2 = v 2) : KR u kp v2 := by
  unfold KR at *; rw [e51, e2]; exact h
theorem TR_ref {tp v v2 : St} (h : TR tp v) (e5 : v2 5 = v 5) (e6 : v2 6 = v 6) : TR tp v2 := by
  unfold TR at *; rw [e5, e6]; exact h
theorem RR_ref {ro v v2 : St} (h : RR ro v) (e3 : v2 3 = v 3) (e4 : v2 4 = v 4) : RR ro v2 := by
  unfold RR at *; rw [e3, e4]; exact h
theorem LR_ref {lw v v2 : St} (h : LR lw v) (e15 : v2 15 = v 15) (e22 : v2 22 = v 22) (e23 : v2 23 = v 23) (e24 : v2 24 = v 24) (e25 : v2 25 = v 25) (e26 : v2 26 = v 26) : LR lw v2 := by
  unfold LR at *; rw [e15, e22, e23, e24, e25, e26]; exact h
theorem VR_ref {to v v2 : St} (h : VR to v) (e36 : v2 36 = v 36) (e30 : v2 30 = v 30) (e31 : v2 31 = v 31) (e32 : v2 32 = v 32) : VR to v2 := by
  unfold VR at *; rw [e36, e30, e31, e32]; exact h
theorem eq_rules (g : Nat → St) (w : Nat → Int64) (v : St) (hr : Rel g v) (p1 p2 : Int32) : ∃ (z : Int32 × St) (y : Int32 × St), fX11_rules (g 6) p1 p2 = z ∧ fX12_rules v p1 p2 = y ∧ z.1 = y.1 ∧ Rel (sg g 6 z.2) y.2 := by
  refine ⟨_, _, rfl, rfl, ?_⟩
  unfold fX11_rules fX12_rules; dsimp only [lett]
  rw [within_eq, within_eq]
  rcases in_cases p1 0 99 0 99 rfl rfl (by decide) (by decide) with ⟨a, -, ha, rfl, h1⟩ | h1
  · rcases in_cases p2 0 99 0 99 rfl rfl (by decide) (by decide) with ⟨b, -, hb, rfl, h2⟩ | h2
    · rw [h1, h2, if_neg (by decide), if_neg (by decide), if_neg (by decide), if_neg (by decide)]
      refine ⟨rfl, ?_⟩
      obtain ⟨h1, h2, h3, h4, h5, h6⟩ := hr
      exact ⟨h1, h2, h3, ⟨a, b, by omega, by omega, rfl, rfl, rfl, rfl⟩, h5, h6⟩
    · rw [h1, h2, if_neg (by decide), if_pos rfl, if_neg (by decide), if_pos rfl]
      exact ⟨rfl, hr⟩
  · rw [h1, if_pos rfl, if_pos rfl]
    exact ⟨rfl, hr⟩
theorem eq_seed (g : Nat → St) (w : Nat → Int64) (v : St) (hr : Rel g v) (p1 : Int32) : ∃ (z : Int32 × St) (y : Int32 × St), fX11_seed (g 3) p1 = z ∧ fX12_seed v p1 = some y ∧ z.1 = y.1 ∧ Rel (sg g 3 z.2) y.2 := by
  rcases in_cases p1 0 65535 0 65535 rfl rfl (by decide) (by decide) with ⟨a, -, ha, rfl, h1⟩ | h1
  · refine ⟨(1, st (g 3) 7 0 (nI a)), (1, st v 0 97 (nI a)), ?_, ?_, rfl, ?_⟩
    · unfold fX11_seed; dsimp only [lett]; rw [within_eq, h1, if_neg (by decide)]
    · unfold fX12_seed; dsimp only [lett]; rw [h1, if_neg (by decide)]; rfl
    · obtain ⟨t1, ⟨N, ok, c, r⟩, t3, t4, t5, t6⟩ := hr
      refine ⟨TR_ref t1 rfl rfl, ⟨nset N 7 0 a, ?_, WkC_set c 7 0 a, WkR_lot r a⟩, KR_ref t3 rfl rfl, RR_ref t4 rfl rfl, LR_ref t5 rfl rfl rfl rfl rfl rfl, VR_ref t6 rfl rfl rfl rfl⟩
      exact ⟨ok.1, ok.2.1, ok.2.2.1, by rw [nset_s]; omega, fun p hp => ok.2.2.2.2 p hp⟩
  · refine ⟨(0, g 3), (0, v), ?_, ?_, rfl, hr⟩
    · unfold fX11_seed; dsimp only [lett]; rw [within_eq, h1, if_pos rfl]
    · unfold fX12_seed; dsimp only [lett]; rw [h1, if_pos rfl]
theorem WkR_cong {N M : Nat → Nat → Nat} {f : Nat → Int32} (e : ∀ a b, N a b = M a b) (h : WkR M f) : WkR N f := by
  have : N = M := funext fun a => funext fun b => e a b
  rw [this]; exact h
theorem eq_walker (g : Nat → St) (w : Nat → Int64) (v : St) (hr : Rel g v) (p1 p2 : Int32) : ∃ (z : Int32 × St) (y : Int32 × St), fX11_walker (g 3) p1 p2 = some z ∧ fX12_walker v p1 p2 = some y ∧ z.1 = y.1 ∧ Rel (sg g 3 z.2) y.2 := by
  rcases in_cases p1 0 15 0 15 rfl rfl (by decide) (by decide) with ⟨p, -, hp, rfl, h1⟩ | h1
  · rcases in_cases p2 1 999 1 999 rfl rfl (by decide) (by decide) with ⟨x, hx1, hx2, rfl, h2⟩ | h2
    · obtain ⟨t1, ⟨N, ok, c, r⟩, t3, t4, t5, t6⟩ := hr
      have hp16 : p < 16 := by omega
      refine ⟨(1, st (st (st (st (st (st (g 3) 0 p (nI x)) 1 p (nI x)) 2 p 0) 3 p 0) 4 0 (nI (N 4 0 ||| 2 ^ p))) 5 0 (nI (ndiff (N 5 0) (2 ^ p)))), (1, st (st (st (st (st (st v 0 p 1) 0 (16 + p) (nI x)) 0 (32 + p) (nI x)) 0 (48 + p) 0) 0 (64 + p) 0) 0 (80 + p) 0), ?_, ?_, rfl, ?_⟩
      · unfold fX11_walker; dsimp only [lett]
        rw [isWalker_eq, sbind, h1, if_neg (by decide), within_eq, h2, if_neg (by decide)]
        unfold fX9_tell; dsimp only [lett]
        rw [gd_n (by omega) (by decide), gd_n (by omega) (by decide), gd_n (by omega) (by decide), gd_n (by omega) (by decide), ix_n (by omega), shl1 p (by omega)]
        show Option.bind (some (st (st _ 4 0 (g 3 4 0 ||| nI (2 ^ p))) 5 0 (g 3 5 0 &&& (nI (2 ^ p) ^^^ (-1))))) _ = _
        rw [c.1, c.2.1, fa_or, ndiff_eq]
        rfl
      · unfold fX12_walker; dsimp only [lett]
        rw [h1, if_neg (by decide), h2, if_neg (by decide), a0, a16, a32, a48, a64, a80, gd_n (by omega) (by decide), gd_n (by omega) (by decide), gd_n (by omega) (by decide), gd_n (by omega) (by decide), gd_n (by omega) (by decide), gd_n (by omega) (by decide), ix_n (by omega), ix_n (by omega), ix_n (by omega), ix_n (by omega), ix_n (by omega), ix_n (by omega)]
      · refine ⟨TR_ref t1 rfl rfl, ⟨nset (nset (nset (nset (nset (nset N 0 p x) 1 p x) 2 p 0) 3 p 0) 4 0 (N 4 0 ||| 2 ^ p)) 5 0 (ndiff (N 5 0) (2 ^ p)), ?_, ?_, ?_⟩, KR_ref t3 rfl rfl, RR_ref t4 rfl rfl, LR_ref t5 rfl rfl rfl rfl rfl rfl, VR_ref t6 rfl rfl rfl rfl⟩
        · refine ⟨or_lt ok.1 hp16, Nat.lt_of_le_of_lt (ndiff_le _ _) ok.2.1, ok.2.2.1, ok.2.2.2.1, fun q hq => ?_⟩
          obtain ⟨o0, o1, o2, o3, o4, o5⟩ := ok.2.2.2.2 q hq
          show nset _ 5 0 _ 0 q ≤ 999 ∧ nset _ 5 0 _ 1 q ≤ 999 ∧ nset _ 5 0 _ 2 q ≤ 999 ∧ nset _ 5 0 _ 3 q ≤ 9999 ∧ ((N 4 0 ||| 2 ^ p).testBit q = true → 1 ≤ nset _ 5 0 _ 0 q ∧ 1 ≤ nset _ 5 0 _ 1 q) ∧ ((ndiff (N 5 0) (2 ^ p)).testBit q = true → (N 4 0 ||| 2 ^ p).testBit q = true)
          rw [bit_or, bit_not (by omega)]
          by_cases e : q = p
          · subst e
            simp [nset]
            omega
          · have e2 : ¬ p = q := fun h => e h.symm
            simp [nset, e, e2]
            exact ⟨o0, o1, o2, o3, fun h => o4 h, fun h => o5 h⟩
        · exact WkC_set (WkC_set (WkC_set (WkC_set (WkC_set (WkC_set c 0 p x) 1 p x) 2 p 0) 3 p 0) 4 0 _) 5 0 _
        · have e := WkR_a3 (WkR_a2 (WkR_ov0 (WkR_a1 (WkR_a0 (WkR_told r hp16) hp16 x) hp16 x) hp16) hp16 0) hp16 0
          refine WkR_cong (fun a b => ?_) e
          simp only [nset]
          repeat' split
          all_goals first | rfl | omega
    · refine ⟨(0, g 3), (0, v), ?_, ?_, rfl, hr⟩
      · unfold fX11_walker; dsimp only [lett]; rw [isWalker_eq, sbind, h1, if_neg (by decide), within_eq, h2, if_pos rfl]
      · unfold fX12_walker; dsimp only [lett]; rw [h1, if_neg (by decide), h2, if_pos rfl]
  · refine ⟨(0, g 3), (0, v), ?_, ?_, rfl, hr⟩
    · unfold fX11_walker; dsimp only [lett]; rw [isWalker_eq, sbind, h1, if_pos rfl]
    · unfold fX12_walker; dsimp only [lett]; rw [h1, if_pos rfl]
def fact (N : Nat → Nat → Nat) (p q : Nat) : Nat := if q = 0 then N 0 p else if q = 1 then N 1 p else if q = 2 then b01 ((N 5 0).testBit p) else if q = 3 then N 2 p else N 3 p
theorem factOf_t {w : St} {N : Nat → Nat → Nat} (c : WkC N w) (ok : WkOk N) {p q : Nat} (hp : p < 16) (hq : q ≤ 4) (ht : (N 4 0).testBit p = true) : fX9_factOf w (nI p) (nI q) = some (nI (fact N p q)) := by
  unfold fX9_factOf
  rw [knows_n c ok.1 hp, sbind, ht, if_neg (by decide)]
  obtain ⟨c0, c1, c2, c3⟩ := c.2.2.2.2 p hp
  rcases (show q = 0 ∨ q = 1 ∨ q = 2 ∨ q = 3 ∨ q = 4 by omega) with rfl | rfl | rfl | rfl | rfl
  · rw [if_pos (by decide), gd_n (by omega) (by decide), ix_n (by omega), c0]; rfl
  · rw [if_neg (by decide), if_pos (by decide), gd_n (by omega) (by decide), ix_n (by omega), c1]; rfl
  · rw [if_neg (by decide), if_neg (by decide), if_pos (by decide), c.2.1, shr1_n (by have := ok.2.1; omega) (by omega)]; rfl
  · rw [if_neg (by decide), if_neg (by decide), if_neg (by decide), if_pos (by decide), gd_n (by omega) (by decide), ix_n (by omega), c2]; rfl
  · rw [if_neg (by decide), if_neg (by decide), if_neg (by decide), if_neg (by decide), if_pos (by decide), gd_n (by omega) (by decide), ix_n (by omega), c3]; rfl
theorem factOf_u {w : St} {N : Nat → Nat → Nat} (c : WkC N w) (ok : WkOk N) {p : Nat} {x : Int32} (hp : p < 16) (ht : (N 4 0).testBit p = false) : fX9_factOf w (nI p) x = some (-1) := by
  unfold fX9_factOf
  rw [knows_n c ok.1 hp, sbind, ht, if_pos (by decide)]
theorem factOf_o {w : St} {x y : Int32} (h : fX12_in x 0 15 = 0) : fX9_factOf w x y = some (-1) := by
  unfold fX9_factOf
  rw [knows_o h, sbind, if_pos rfl]
theorem in_ne {x lo hi : Int32} {a b : Nat} (hlo : lo = nI a) (hhi : hi = nI b) (hb : b < 2147483648) (h : fX12_in x lo hi = 0) {k : Nat} (h1 : a ≤ k) (h2 : k ≤ b) : ¬ x = nI k := by
  intro e
  rw [e, in_n hlo hhi h1 h2 hb] at h
  exact absurd h (by decide)
theorem factOf_x {w : St} {N : Nat → Nat → Nat} (c : WkC N w) (ok : WkOk N) {p : Nat} {x : Int32} (hp : p < 16) (ht : (N 4 0).testBit p = true) (h : fX12_in x 0 4 = 0) : fX9_factOf w (nI p) x = some (-1) := by
  unfold fX9_factOf
  have hne : ∀ k : Nat, k ≤ 4 → ¬ x = nI k := fun k hk => in_ne (a := 0) (b := 4) rfl rfl (by decide) h (by omega) hk
  rw [knows_n c ok.1 hp, sbind, ht, if_neg (by decide), if_neg (show ¬ x = 0 from hne 0 (by omega)), if_neg (show ¬ x = 1 from hne 1 (by omega)), if_neg (show ¬ x = 2 from hne 2 (by omega)), if_neg (show ¬ x = 3 from hne 3 (by omega)), if_neg (show ¬ x = 4 from hne 4 (by omega))]
theorem eq_walkerIs (g : Nat → St) (w : Nat → Int64) (v : St) (hr : Rel g v) (p1 p2 : Int32) : ∃ (z : Int32) (y : Int32), fX11_walkerIs (g 3) p1 p2 = some z ∧ fX12_walkerIs v p1 p2 = some y ∧ z = y ∧ Rel g v := by
  obtain ⟨t1, ⟨N, ok, c, r⟩, t3, t4, t5, t6⟩ := id hr
  rcases in_cases p1 0 15 0 15 rfl rfl (by decide) (by decide) with ⟨p, -, hp, rfl, h1⟩ | h1
  · have hp16 : p < 16 := by omega
    cases hb : (N 4 0).testBit p
    · refine ⟨-1, -1, ?_, ?_, rfl, hr⟩
      · unfold fX11_walkerIs; rw [factOf_u c ok hp16 hb, sbind]
      · unfold fX12_walkerIs; rw [isTold_n r hp16, sbind, hb, if_pos (by decide)]
    · rcases in_cases p2 0 4 0 4 rfl rfl (by decide) (by decide) with ⟨q, -, hq, rfl, h2⟩ | h2
      · refine ⟨nI (fact N p q), nI (fact N p q), ?_, ?_, rfl, hr⟩
        · unfold fX11_walkerIs; rw [factOf_t c ok hp16 hq hb, sbind]
        · unfold fX12_walkerIs; dsimp only [lett]
          have hi : (16 : Int32) + 16 * nI q + nI p = nI (16 + 16 * q + p) := by
            rw [show (16 : Int32) = nI 16 from rfl, pk_mul, nI_add, nI_add]
          rw [isTold_n r hp16, sbind, hb, if_neg (by decide), h2, if_neg (by decide), hi, gd_n (by omega) (by decide), ix_n (by omega)]
          obtain ⟨r0, r1, r2, r3, r4, r5⟩ := r.2.2 p hp16
          rcases (show q = 0 ∨ q = 1 ∨ q = 2 ∨ q = 3 ∨ q = 4 by omega) with rfl | rfl | rfl | rfl | rfl
          · rw [show 16 + 16 * 0 + p = 16 + p by omega, r1]; rfl
          · rw [show 16 + 16 * 1 + p = 32 + p by omega, r2]; rfl
          · rw [show 16 + 16 * 2 + p = 48 + p by omega, r3]; rfl
          · rw [show 16 + 16 * 3 + p = 64 + p by omega, r4]; rfl
          · rw [show 16 + 16 * 4 + p = 80 + p by omega, r5]; rfl
      · refine ⟨-1, -1, ?_, ?_, rfl, hr⟩
        · unfold fX11_walkerIs; rw [factOf_x c ok hp16 hb h2, sbind]
        · unfold fX12_walkerIs; dsimp only [lett]; rw [isTold_n r hp16, sbind, hb, if_neg (by decide), h2, if_pos rfl]
  · refine ⟨-1, -1, ?_, ?_, rfl, hr⟩
    · unfold fX11_walkerIs; rw [factOf_o h1, sbind]
    · unfold fX12_walkerIs; rw [isTold_o h1, sbind, if_pos rfl]
