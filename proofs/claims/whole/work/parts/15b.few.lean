/-! ===== the reference's table of the fewest ===== -/
theorem n_z {a : Nat} (h : a < 2147483648) : nI a = 0 ↔ a = 0 := by
  rw [show (0 : Int32) = nI 0 from rfl]; exact nI_eq (by omega) (by omega)
def zf (c : Nat → Nat) : Nat → Nat → Bool
  | _, 0 => false
  | k, l + 1 => c k == 0 || zf c (k + 1) l
theorem hasZero_n {pa : St} {n : Nat} {c : Nat → Nat} (h : Pn n c pa) : fX5_hasZero pa = some (nI (b01 (zf c 0 n))) := by
  obtain ⟨h1, h2, h3⟩ := h
  have e : ∀ l k m, k + l = n → l < m → fX5_hasZero_L2 pa m (nI k) = some (nI (b01 (zf c k l))) := by
    intro l
    induction l with
    | zero =>
      intro k m hk hm
      obtain ⟨m, rfl⟩ : ∃ e, m = e + 1 := ⟨m - 1, by omega⟩
      show bX5_hasZero_L2 pa _ _ = _
      unfold bX5_hasZero_L2
      rw [h2, if_pos (nI_le (by omega) (by omega))]; rfl
    | succ l ih =>
      intro k m hk hm
      obtain ⟨m, rfl⟩ : ∃ e, m = e + 1 := ⟨m - 1, by omega⟩
      show bX5_hasZero_L2 pa _ _ = _
      unfold bX5_hasZero_L2; dsimp only [lett]
      rw [h2, if_neg (nI_ge (by omega) (by omega)), gd_n (by omega) (by decide), ix_n (by omega), (h3 k (by omega)).2, n1, ih (k + 1) m (by omega) (by omega), zf]
      have hc := (h3 k (by omega)).1
      by_cases q : c k = 0
      · rw [if_pos ((n_z (by omega)).mpr q), q]; rfl
      · rw [if_neg (fun e => q ((n_z (by omega)).mp e)), show (c k == 0) = false from by simpa using q]; rfl
  exact e n 0 FU (by omega) (by show n < 1000000; omega)
theorem areAll_n {v : St} {n : Nat} {c : Nat → Nat} (hn : n ≤ 16) (hc : ∀ k, k < n → c k < 256 ∧ v 5 k = (nI (c k)).toInt8.toInt32) : fX12_areAll v (nI n) = some (nI (b01 (!zf c 0 n))) := by
  have e : ∀ l k m, k + l = n → l < m → fX12_areAll_L2 v m (nI n) (nI k) = some (nI (b01 (!zf c k l))) := by
    intro l
    induction l with
    | zero =>
      intro k m hk hm
      obtain ⟨m, rfl⟩ : ∃ e, m = e + 1 := ⟨m - 1, by omega⟩
      show bX12_areAll_L2 v _ _ _ = _
      unfold bX12_areAll_L2
      rw [if_pos (nI_le (by omega) (by omega))]; rfl
    | succ l ih =>
      intro k m hk hm
      obtain ⟨m, rfl⟩ : ∃ e, m = e + 1 := ⟨m - 1, by omega⟩
      show bX12_areAll_L2 v _ _ _ = _
      unfold bX12_areAll_L2; dsimp only [lett]
      have h8 := (hc k (by omega)).1
      rw [if_neg (nI_ge (by omega) (by omega)), octet_n (hc k (by omega)).2 h8 (by omega), sbind, n1, ih (k + 1) m (by omega) (by omega), zf]
      by_cases q : c k = 0
      · rw [if_pos ((n_z (by omega)).mpr q), q]; rfl
      · rw [if_neg (fun e => q ((n_z (by omega)).mp e)), show (c k == 0) = false from by simpa using q]; rfl
  exact e n 0 FU (by omega) (by show n < 1000000; omega)
/-- the table of state V is T -/
def Tb (T : Nat → Nat) (V : St) : Prop := ∀ j, j ≤ 4080 → V 47 j = nI (T j)
def tS (V : St) (T : Nat → Nat) : St := sa V 47 (fun j => if j ≤ 4080 then nI (T j) else V 47 j)
theorem tS_47 {V : St} {T : Nat → Nat} {j : Nat} (h : j ≤ 4080) : tS V T 47 j = nI (T j) := by
  unfold tS; rw [sa_s, if_pos h]
theorem tS_o {V : St} {T : Nat → Nat} {k : Nat} (h : k ≠ 47) : tS V T k = V k := by
  unfold tS; rw [sa_i h]
theorem tS_st {V : St} {T : Nat → Nat} {j x : Nat} (h : j ≤ 4080) : st (tS V T) 47 j (nI x) = tS V (fun i => if i = j then x else T i) := by
  funext a
  by_cases e : a = 47
  · subst e
    funext i
    rw [st_s]
    unfold tS
    rw [sa_s, sa_s]
    by_cases q : i = j
    · subst q; rw [upd_s, if_pos h]; dsimp only; rw [if_pos rfl]
    · rw [upd_n q]
      by_cases q2 : i ≤ 4080
      · rw [if_pos q2, if_pos q2]; dsimp only; rw [if_neg q]
      · rw [if_neg q2, if_neg q2]
  · rw [st_i e, tS_o e, tS_o e]
theorem tS_cong {V : St} {T U : Nat → Nat} (h : ∀ j, j ≤ 4080 → T j = U j) : tS V T = tS V U := by
  unfold tS
  congr 1
  funext j
  by_cases q : j ≤ 4080
  · rw [if_pos q, if_pos q, h j q]
  · rw [if_neg q, if_neg q]
theorem tS_self {V : St} {T : Nat → Nat} (h : Tb T V) : tS V T = V := by
  unfold tS
  funext a
  by_cases e : a = 47
  · subst e
    rw [sa_s]
    funext j
    by_cases q : j ≤ 4080
    · rw [if_pos q, h j q]
    · rw [if_neg q]
  · rw [sa_i e]
/-- the old values are copied -/
theorem l59_n {lp : St → Int32 → Int32 → Int32 → Int32 → Option St} {V : St} {r : Nat} (hr : r ≤ 2040) (x1 x2 x4 x5 : Int32) : ∃ V2 : St, (∀ k, k ≠ 48 → V2 k = V k) ∧ (∀ j, 2040 - r ≤ j → j ≤ 2040 + r → V2 48 j = V 47 j) ∧ fX12_laysFewest_L59 lp FU V x1 x2 (nI r) x4 x5 (nI (2040 - r)) = fX12_laysFewest_L96 lp FU V2 x1 x2 (nI r) x4 x5 (nI (2040 - r)) := by
  refine ⟨sa V 48 (fun j => if 2040 - r ≤ j ∧ j < 2040 - r + (2 * r + 1) then V 47 j else V 48 j), fun k hk => sa_i hk, fun j h1 h2 => by rw [sa_s, if_pos (by omega)], ?_⟩
  have e := for_all (fun m (s : St) i => fX12_laysFewest_L59 lp m s x1 x2 (nI r) x4 x5 (nI (2040 - r + i))) (2 * r + 1) (fun i => sa V 48 (fun j => if 2040 - r ≤ j ∧ j < 2040 - r + i then V 47 j else V 48 j)) (fX12_laysFewest_L96 lp FU (sa V 48 (fun j => if 2040 - r ≤ j ∧ j < 2040 - r + (2 * r + 1) then V 47 j else V 48 j)) x1 x2 (nI r) x4 x5 (nI (2040 - r))) (fun m => ?_) (fun m i hi => ?_) (by omega)
  · have e0 : sa V 48 (fun j => if 2040 - r ≤ j ∧ j < 2040 - r + 0 then V 47 j else V 48 j) = V := by
      funext a
      by_cases q : a = 48
      · subst q; rw [sa_s]; funext j; rw [if_neg (by omega)]
      · rw [sa_i q]
    rw [e0] at e
    exact e
  · show bX12_laysFewest_L59 _ _ _ _ _ _ _ _ _ = _
    unfold bX12_laysFewest_L59; dsimp only [lett]
    rw [show (2040 : Int32) = nI 2040 from rfl, nI_add, if_pos (nI_lt (by omega) (by omega)), sub_n hr]
  · show bX12_laysFewest_L59 _ _ _ _ _ _ _ _ _ = fX12_laysFewest_L59 lp m _ _ _ _ _ _ _
    unfold bX12_laysFewest_L59; dsimp only [lett]
    rw [show (2040 : Int32) = nI 2040 from rfl, nI_add, if_neg (nI_nlt (by omega) (by omega)), gd_n (by omega) (by decide), gd_n (by omega) (by decide), ix_n (by omega), n1, sa_i (by decide), st_sa, show 2040 - r + i + 1 = 2040 - r + (i + 1) by omega]
    congr 2
    funext j
    unfold upd
    by_cases q : j = 2040 - r + i
    · rw [if_pos q, if_pos (by omega), q]
    · rw [if_neg q]
      dsimp only
      by_cases q2 : 2040 - r ≤ j ∧ j < 2040 - r + i
      · rw [if_pos q2, if_pos (by omega)]
      · rw [if_neg q2, if_neg (by omega)]
/-- the table while a stone of w is put, i steps on -/
def tbI (T : Nat → Nat) (b : Bool) (r w i : Nat) (j : Nat) : Nat := min (T j) (min (if 2040 - r + w ≤ j ∧ j < 2040 - r + w + i then 1 + T (j - w) else 1000000) (if b = true ∧ 2040 - r ≤ j + w ∧ j + w < 2040 - r + i then 1 + T (j + w) else 1000000))
theorem l96_n {lp : St → Int32 → Int32 → Int32 → Int32 → Option St} {V : St} {T : Nat → Nat} {b : Bool} {r w k : Nat} (hT : ∀ j, T j ≤ 1000000) (hV : Tb T V) (hV2 : ∀ j, 2040 - r ≤ j → j ≤ 2040 + r → V 48 j = V 47 j) (hr : r + w ≤ 2040) (x1 : Int32) (hk : k < 1000) : fX12_laysFewest_L96 lp FU V x1 (nI (b01 b)) (nI r) (nI k) (nI w) (nI (2040 - r)) = lp (tS V (tbI T b r w (2 * r + 1))) x1 (nI (b01 b)) (nI (r + w)) (nI (k + 1)) := by
  have e := for_all (fun m (s : St) i => fX12_laysFewest_L96 lp m s x1 (nI (b01 b)) (nI r) (nI k) (nI w) (nI (2040 - r + i))) (2 * r + 1) (fun i => tS V (tbI T b r w i)) (lp (tS V (tbI T b r w (2 * r + 1))) x1 (nI (b01 b)) (nI (r + w)) (nI (k + 1))) (fun m => ?_) (fun m i hi => ?_) (by omega)
  · have e0 : tS V (tbI T b r w 0) = V := by
      rw [tS_cong (U := T) (fun j hj => ?_), tS_self hV]
      unfold tbI
      rw [if_neg (by omega), if_neg (by omega)]
      have := hT j
      omega
    rw [e0] at e
    exact e
  · show bX12_laysFewest_L96 _ _ _ _ _ _ _ _ _ = _
    unfold bX12_laysFewest_L96; dsimp only [lett]
    rw [show (2040 : Int32) = nI 2040 from rfl, nI_add, if_pos (nI_lt (by omega) (by omega)), nI_add, n1]
  · show bX12_laysFewest_L96 _ _ _ _ _ _ _ _ _ = fX12_laysFewest_L96 lp m _ _ _ _ _ _ _
    unfold bX12_laysFewest_L96; dsimp only [lett]
    have o48 : ∀ U, tS V U 48 (2040 - r + i) = nI (T (2040 - r + i)) := fun U => by
      rw [tS_o (by decide), hV2 _ (by omega) (by omega), hV _ (by omega)]
    have b1 := hT (2040 - r + i)
    have b2 : ∀ j, tbI T b r w i j ≤ 1000000 := fun j => by unfold tbI; have := hT j; omega
    rw [show (2040 : Int32) = nI 2040 from rfl, nI_add, if_neg (nI_nlt (by omega) (by omega)), nI_add, sub_n (by omega), gd_n (by omega) (by decide), gd_n (by omega) (by decide), gd_n (by omega) (by decide), gd_n (by omega) (by decide), ix_n (by omega), ix_n (by omega), ix_n (by omega), o48, tS_47 (by omega), n1, n1, min_mn, mn_n (by have := b2 (2040 - r + i + w); omega) (by omega), tS_st (by omega), gd_n (by omega) (by decide), o48, tS_47 (by omega), n1, min_mn, show 2040 - r + i + 1 = 2040 - r + (i + 1) by omega]
    cases b
    · rw [if_pos (by decide)]
      congr 1
      refine tS_cong (fun j hj => ?_)
      unfold tbI
      by_cases q : j = 2040 - r + i + w
      · subst q
        rw [if_pos rfl, if_neg (by omega), if_neg (by simp), if_pos (by omega), if_neg (by simp), show 2040 - r + i + w - w = 2040 - r + i by omega]
        have := hT (2040 - r + i + w)
        omega
      · rw [if_neg q, if_neg (show ¬ (false = true ∧ _) by simp), if_neg (show ¬ (false = true ∧ _) by simp)]
        by_cases q2 : 2040 - r + w ≤ j ∧ j < 2040 - r + w + i
        · rw [if_pos q2, if_pos (by omega)]
        · rw [if_neg q2, if_neg (by omega)]
    · rw [if_neg (by decide)]
      have b3 : (if 2040 - r + i - w = 2040 - r + i + w then min (tbI T true r w i (2040 - r + i + w)) (T (2040 - r + i) + 1) else tbI T true r w i (2040 - r + i - w)) ≤ 1000000 := by
        have := b2 (2040 - r + i + w)
        have := b2 (2040 - r + i - w)
        split <;> omega
      rw [mn_n (by omega) (by omega), tS_st (by omega), gd_n (by omega) (by decide)]
      congr 1
      refine tS_cong (fun j hj => ?_)
      have h0 := hT j
      by_cases q1 : j = 2040 - r + i - w
      · rw [if_pos q1]
        by_cases q2 : 2040 - r + i - w = 2040 - r + i + w
        · rw [if_pos q2]
          have hw : w = 0 := by omega
          subst hw
          unfold tbI
          have q3 : j = 2040 - r + i := by omega
          subst q3
          simp only [Nat.sub_zero, Nat.add_zero, true_and]
          rw [if_neg (by omega), if_pos (by omega)]
          omega
        · rw [if_neg q2, ← q1]
          unfold tbI
          rw [show j + w = 2040 - r + i by omega]
          rw [if_neg (show ¬ (true = true ∧ 2040 - r ≤ 2040 - r + i ∧ 2040 - r + i < 2040 - r + i) by omega), if_pos (show true = true ∧ 2040 - r ≤ 2040 - r + i ∧ 2040 - r + i < 2040 - r + (i + 1) from ⟨rfl, by omega, by omega⟩)]
          by_cases q3 : 2040 - r + w ≤ j ∧ j < 2040 - r + w + i
          · rw [if_pos q3, if_pos (by omega)]; omega
          · rw [if_neg q3, if_neg (by omega)]; omega
      · rw [if_neg q1]
        by_cases q2 : j = 2040 - r + i + w
        · rw [if_pos q2, ← q2]
          unfold tbI
          rw [show j - w = 2040 - r + i by omega]
          rw [if_neg (show ¬ (2040 - r + w ≤ j ∧ j < 2040 - r + w + i) by omega), if_pos (show 2040 - r + w ≤ j ∧ j < 2040 - r + w + (i + 1) by omega)]
          by_cases q3 : true = true ∧ 2040 - r ≤ j + w ∧ j + w < 2040 - r + i
          · rw [if_pos q3, if_pos (by omega)]; omega
          · rw [if_neg q3, if_neg (by omega)]; omega
        · rw [if_neg q2]
          unfold tbI
          congr 1
          congr 1
          · by_cases q3 : 2040 - r + w ≤ j ∧ j < 2040 - r + w + i
            · rw [if_pos q3, if_pos (by omega)]
            · rw [if_neg q3, if_neg (by omega)]
          · by_cases q3 : true = true ∧ 2040 - r ≤ j + w ∧ j + w < 2040 - r + i
            · rw [if_pos q3, if_pos (show true = true ∧ 2040 - r ≤ j + w ∧ j + w < 2040 - r + (i + 1) from ⟨rfl, q3.2.1, by have := q3.2.2; omega⟩)]
            · rw [if_neg q3, if_neg (show ¬ (true = true ∧ 2040 - r ≤ j + w ∧ j + w < 2040 - r + (i + 1)) from fun h => q3 ⟨rfl, h.2.1, by have := h.2.2; omega⟩)]
