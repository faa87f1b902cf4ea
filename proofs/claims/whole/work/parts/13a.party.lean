/-! ===== party: who they are ===== -/
/-- the k-th of the set -/
def kth (t k : Nat) : Nat := fa_first (fun p => t.testBit p && decide (szT t p = k)) 16
theorem kth_sz {t p : Nat} (hp : p < 16) (h : t.testBit p = true) : kth t (szT t p) = p := by
  have hP : (fun q => t.testBit q && decide (szT t q = szT t p)) p = true := by simp [h]
  have h1 : fa_first (fun q => t.testBit q && decide (szT t q = szT t p)) 16 ≤ p := by
    by_cases q : fa_first (fun q => t.testBit q && decide (szT t q = szT t p)) 16 ≤ p
    · exact q
    · have := fa_first_no (fun q => t.testBit q && decide (szT t q = szT t p)) 16 p (by omega)
      rw [h] at this; simp at this
  have h2 := fa_first_yes (fun q => t.testBit q && decide (szT t q = szT t p)) 16 (by omega)
  simp only [Bool.and_eq_true, decide_eq_true_eq] at h2
  exact fb_ct_kth_one (p := fun i => t.testBit i) h2.1 h h2.2
theorem kth_b {t k : Nat} (hk : k < szT t 16) : kth t k < 16 := by
  obtain ⟨i, h1, h2, h3⟩ := fb_ct_kth (p := fun i => t.testBit i) hk
  have := kth_sz h1 h2
  have e : szT t i = k := h3
  rw [e] at this
  omega
theorem kth_t {t k : Nat} (hk : k < szT t 16) : t.testBit (kth t k) = true := by
  obtain ⟨i, h1, h2, h3⟩ := fb_ct_kth (p := fun i => t.testBit i) hk
  have := kth_sz h1 h2
  have e : szT t i = k := h3
  rw [e] at this
  rw [this]; exact h2
def Pty (t : Nat) (F : Nat → Nat) (u : St) (k : Nat) : Prop := (∀ j, j < k → u 3 j = nI (kth t j) ∧ u 2 j = nI (F (kth t j))) ∧ ∀ j, k ≤ j → j < 16 → u 2 j = 0
theorem fill0 (f : Nat → Int32) : fJ7_fill_53178 f 0 = some (fa_fill (fun _ => 0) f 16) := by
  have e : fJ7_fill_53178_L5 FU (fa_fill (fun _ => 0) f 0) 0 (nI 0) (nI 16) = some (fa_fill (fun _ => 0) f 16) := by
    refine for_all (fun n (a : Nat → Int32) k => fJ7_fill_53178_L5 n a 0 (nI k) (nI 16)) 16 (fun k => fa_fill (fun _ => 0) f k) _ (fun n => ?_) (fun n k hk => ?_) (by decide)
    · show bJ7_fill_53178_L5 _ _ _ _ _ = _
      unfold bJ7_fill_53178_L5
      rw [if_pos (by decide)]
    · show bJ7_fill_53178_L5 _ _ _ _ _ = fJ7_fill_53178_L5 n _ _ _ _
      unfold bJ7_fill_53178_L5; dsimp only [lett]
      rw [if_neg (nI_ge hk (by decide)), gd_n hk (by decide), ix_n (by omega), n1]
      have := fa_fill_succ (fun _ => (0 : Int32)) f k
      rw [this]
  rw [fa_fill_0] at e
  exact e
theorem gather_key {uw : Nat → Int32} {F : Nat → Nat} {t : Nat} (ht : t < 65536) (hF : ∀ p, p < 16 → uw p = nI (F p)) (hn : szT t 16 ≤ 8) : ∀ m p u, p ≤ 16 → 16 - p < m → Pty t F u (szT t p) → ∃ u2, fX0_gather_L13 uw m u (nI t) (nI (szT t p)) (nI p) = some (nI (szT t 16), u2) ∧ Pty t F u2 (szT t 16) := by
  intro m
  induction m with
  | zero => intro p u _ h; omega
  | succ m ih =>
    intro p u hp hm hP
    have hsl := szT_le t p
    have hmono : szT t p ≤ szT t 16 := fb_ct_mono _ hp
    have e : fX0_gather_L13 uw (m + 1) u (nI t) (nI (szT t p)) (nI p) = bX0_gather_L13 uw (fX0_gather_L13 uw m) u (nI t) (nI (szT t p)) (nI p) := rfl
    rw [e]
    unfold bX0_gather_L13; dsimp only [lett]
    by_cases hp16 : p = 16
    · subst hp16
      rw [if_pos (by decide)]
      exact ⟨_, rfl, hP⟩
    · rw [if_neg (nle_n (x := 16) (a := 16) rfl (by omega) (by decide))]
      by_cases h8 : szT t p = 8
      · rw [if_pos (yle_n (x := 8) (a := 8) rfl (by omega) (by omega))]
        have : szT t 16 = szT t p := by omega
        rw [this]
        exact ⟨_, rfl, hP⟩
      · rw [if_neg (nle_n (x := 8) (a := 8) rfl (by omega) (by decide)), has11_n (by omega) (by omega), gd_n (by omega) (by decide), gd_n (by omega) (by decide), gd_n (by omega) (by decide), ix_n (by omega), ix_n (by omega), hF p (by omega), n1, n1]
        have hs := szT_s t p
        cases hb : t.testBit p
        · rw [hb] at hs
          simp only [dF, if_true]
          have hs2 : szT t (p + 1) = szT t p := by simpa using hs
          have := ih (p + 1) u (by omega) (by omega) (by rw [hs2]; exact hP)
          rw [hs2] at this
          exact this
        · rw [hb] at hs
          simp only [dT, if_false]
          have hs2 : szT t (p + 1) = szT t p + 1 := by simpa using hs
          have hk := kth_sz (show p < 16 by omega) hb
          have := ih (p + 1) (st (st u 3 (szT t p) (nI p)) 2 (szT t p) (nI (F p))) (by omega) (by omega) (by
            rw [hs2]
            refine ⟨fun j hj => ?_, fun j h1 h2 => ?_⟩
            · by_cases q : j = szT t p
              · subst q
                rw [st_i (by decide), st_s, upd_s, st_s, upd_s, hk]
                exact ⟨rfl, rfl⟩
              · rw [st_i (by decide), st_s, upd_n q, st_s, upd_n q, st_i (by decide)]
                exact hP.1 j (by omega)
            · rw [st_s, upd_n (by omega), st_i (by decide)]
              exact hP.2 j (by omega) h2)
          rw [hs2] at this
          exact this
theorem gather_n {ch : St} {uw : Nat → Int32} {F : Nat → Nat} {t : Nat} (ht : t < 65536) (hF : ∀ p, p < 16 → uw p = nI (F p)) (hn : szT t 16 ≤ 8) : ∃ u, fX0_gather ch uw (nI t) = some (nI (szT t 16), u) ∧ Pty t F u (szT t 16) := by
  obtain ⟨u, e, h⟩ := gather_key ht hF hn FU 0 (sa ch 2 (fa_fill (fun _ => 0) (ch 2) 16)) (by omega) (by show 16 - 0 < 1000000; omega) ⟨fun j hj => absurd hj (Nat.not_lt_zero j), fun j _ h2 => by rw [sa_s, fa_fill_in h2]⟩
  refine ⟨u, ?_, h⟩
  unfold fX0_gather
  rw [fill0, sbind, lett_s]
  exact e
/-- the party's weights by their numbers in it -/
def pW (t : Nat) (F : Nat → Nat) (n : Nat) : Nat → Nat := fun j => if j < n then F (kth t j) else 0
theorem pW_sum {t n s : Nat} {F : Nat → Nat} (hn : n ≤ 8) : sumB s (pW t F n) 8 = sumB s (pW t F n) n := by
  unfold sumB
  rw [show 8 = n + (8 - n) by omega, fb_sm_split]
  have : fb_sm (fun k => if s.testBit (n + k) then pW t F n (n + k) else 0) (8 - n) = 0 := by
    have h2 : ∀ m, fb_sm (fun k => if s.testBit (n + k) then pW t F n (n + k) else 0) m = 0 := by
      intro m
      induction m with
      | zero => rfl
      | succ m ih =>
        rw [fb_sm_succ, ih]
        unfold pW
        rw [if_neg (show ¬ n + m < n by omega)]
        simp
    exact h2 _
  omega
/-- whether P holds of a subset of B below x -/
def anyS (B : Nat) (P : Nat → Bool) : Nat → Bool
  | 0 => false
  | x + 1 => anyS B P x || (subm B x && P x)
theorem anyS_gap {B : Nat} {P : Nat → Bool} {x : Nat} : ∀ d, (∀ r, x ≤ r → r < x + d → subm B r = false) → anyS B P (x + d) = anyS B P x
  | 0, _ => rfl
  | d + 1, h => by
    rw [show x + (d + 1) = (x + d) + 1 by omega, anyS, h (x + d) (by omega) (by omega), Bool.false_and, Bool.or_false]
    exact anyS_gap d (fun r h1 h2 => h r h1 (by omega))
theorem anyS_yes {B : Nat} {P : Nat → Bool} {s : Nat} (h1 : subm B s = true) (h2 : P s = true) : ∀ d, anyS B P (s + 1 + d) = true
  | 0 => by rw [Nat.add_zero, anyS, h1, h2]; simp
  | d + 1 => by rw [show s + 1 + (d + 1) = (s + 1 + d) + 1 by omega, anyS, anyS_yes h1 h2 d]; rfl
/-- the class's loop for one of the subsets of B -/
theorem enumX {B : Nat} (hB : B < 65536) (F : Nat → Int32 → Nat → Option Int32) (P : Nat → Bool) (hend : ∀ n s, F (n + 1) s (2 ^ pc16 B) = some 0) (hstep : ∀ n s k, subm B s = true → s ≤ B → k < 2 ^ pc16 B → F (n + 1) (nI s) k = if P s then some 1 else F n (fX0_setAfter (nI s) (nI B)) (k + 1)) : F FU (nI 0) 0 = some (nI (b01 (anyS B P (B + 1)))) := by
  have hp := pow16 B
  have key : ∀ n s k, subm B s = true → fb_ct (subm B) s = k → anyS B P s = false → 2 ^ pc16 B - k < n → F n (nI s) k = some (nI (b01 (anyS B P (B + 1)))) := by
    intro n
    induction n with
    | zero => intro s k _ _ _ h; omega
    | succ n ih =>
      intro s k hs hk ha hn
      have hsl := subm_le hs
      have hc1 : fb_ct (subm B) (s + 1) = k + 1 := by rw [fb_ct_succ, hs, hk]; rfl
      have hm := fb_ct_mono (subm B) (show s + 1 ≤ B + 1 by omega)
      rw [subm_all hB] at hm
      rw [hstep n s k hs hsl (by omega)]
      cases hPs : P s
      · rw [if_neg (by decide)]
        have ha1 : anyS B P (s + 1) = false := by rw [anyS, ha, hPs]; simp
        by_cases q : s < B
        · obtain ⟨t, e, h1, h2, h3, h4⟩ := after_n hB hs q
          have g1 : anyS B P t = false := by
            have := anyS_gap (B := B) (P := P) (x := s + 1) (t - (s + 1)) (fun r h5 h6 => h4 r (by omega) (by omega))
            rw [show s + 1 + (t - (s + 1)) = t by omega] at this
            rw [this]; exact ha1
          have g2 : fb_ct (subm B) t = k + 1 := by
            have := ct_gap (B := B) (x := s + 1) (t - (s + 1)) (fun r h5 h6 => h4 r (by omega) (by omega))
            rw [show s + 1 + (t - (s + 1)) = t by omega, hc1] at this
            exact this
          rw [e]
          exact ih t (k + 1) h3 g2 g1 (by omega)
        · have : s = B := by omega
          subst this
          rw [subm_all hB] at hc1
          rw [after_l, ← hc1, ha1]
          obtain ⟨n, rfl⟩ : ∃ q, n = q + 1 := ⟨n - 1, by omega⟩
          exact hend n _
      · rw [if_pos rfl]
        have := anyS_yes (B := B) (P := P) hs hPs (B - s)
        rw [show s + 1 + (B - s) = B + 1 by omega] at this
        rw [this]; rfl
  exact key FU 0 0 (subm_0 B) rfl rfl (by show _ < 1000000; omega)
theorem enumX12 {B : Nat} (hB : B < 65536) (F : Nat → Nat → Option Int32) (P : Nat → Bool) (hend : ∀ n, F (n + 1) (B + 1) = some 0) (hstep : ∀ n s, s ≤ B → F (n + 1) s = if subm B s && P s then some 1 else F n (s + 1)) : F FU 0 = some (nI (b01 (anyS B P (B + 1)))) := by
  have key : ∀ n s, s ≤ B + 1 → anyS B P s = false → B + 1 - s < n → F n s = some (nI (b01 (anyS B P (B + 1)))) := by
    intro n
    induction n with
    | zero => intro s _ _ h; omega
    | succ n ih =>
      intro s hs ha hn
      by_cases q : s = B + 1
      · subst q
        rw [hend, ha]; rfl
      · rw [hstep n s (by omega)]
        cases hP : (subm B s && P s)
        · rw [if_neg (by decide)]
          exact ih (s + 1) (by omega) (by rw [anyS, ha, hP]; rfl) (by omega)
        · rw [if_pos rfl]
          rw [Bool.and_eq_true] at hP
          have := anyS_yes (B := B) (P := P) hP.1 hP.2 (B - s)
          rw [show s + 1 + (B - s) = B + 1 by omega] at this
          rw [this]; rfl
  exact key FU 0 (by omega) rfl (by show _ < 1000000; omega)
