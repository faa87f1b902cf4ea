/-! ===== what the class's state and the reference's have in common ===== -/
def sg (g : Nat → St) (k : Nat) (u : St) : Nat → St := fun j => if j = k then u else g j
/-- an abstract walk N: 0 weights, 1 claims, 2 baths, 3 hurts (by walker), 4 0 told, 5 0 over, 6 0 hour, 7 0 X -/
def WkOk (N : Nat → Nat → Nat) : Prop := N 4 0 < 65536 ∧ N 5 0 < 65536 ∧ N 6 0 ≤ 9999 ∧ N 7 0 < 65536 ∧ ∀ p, p < 16 → N 0 p ≤ 999 ∧ N 1 p ≤ 999 ∧ N 2 p ≤ 999 ∧ N 3 p ≤ 9999 ∧ ((N 4 0).testBit p = true → 1 ≤ N 0 p ∧ 1 ≤ N 1 p) ∧ ((N 5 0).testBit p = true → (N 4 0).testBit p = true)
def WkC (N : Nat → Nat → Nat) (w : St) : Prop := w 4 0 = nI (N 4 0) ∧ w 5 0 = nI (N 5 0) ∧ w 6 0 = nI (N 6 0) ∧ w 7 0 = nI (N 7 0) ∧ ∀ p, p < 16 → w 0 p = nI (N 0 p) ∧ w 1 p = nI (N 1 p) ∧ w 2 p = nI (N 2 p) ∧ w 3 p = nI (N 3 p)
def b01 (b : Bool) : Nat := if b then 1 else 0
def WkR (N : Nat → Nat → Nat) (f : Nat → Int32) : Prop := f 96 = nI (N 6 0) ∧ f 97 = nI (N 7 0) ∧ ∀ p, p < 16 → f p = nI (b01 ((N 4 0).testBit p)) ∧ f (16 + p) = nI (N 0 p) ∧ f (32 + p) = nI (N 1 p) ∧ f (48 + p) = nI (b01 ((N 5 0).testBit p)) ∧ f (64 + p) = nI (N 2 p) ∧ f (80 + p) = nI (N 3 p)
def WR (w : St) (f : Nat → Int32) : Prop := ∃ N : Nat → Nat → Nat, WkOk N ∧ WkC N w ∧ WkR N f
def TR (tp v : St) : Prop := ∃ (t : Nat) (c : Nat → Nat), t ≤ 260 ∧ tp 1 0 = nI t ∧ v 6 0 = nI t ∧ ∀ j, j < t → c j < 256 ∧ tp 0 j = nI (c j) ∧ v 5 j = (nI (c j)).toInt8.toInt32
def RR (ro v : St) : Prop := ∃ a b : Nat, a ≤ 99 ∧ b ≤ 99 ∧ ro 0 0 = nI a ∧ v 3 0 = nI a ∧ ro 1 0 = nI b ∧ v 4 0 = nI b
def KR (u kp v : St) : Prop := ∃ k : Nat, k ≤ 1 ∧ u 15 0 = nI k ∧ v 51 0 = nI k ∧ (k = 1 → WR kp (v 2))
def VR (to v : St) : Prop := ∃ (n : Nat) (a b s : Nat → Nat), n ≤ 16 ∧ to 3 0 = nI n ∧ v 36 0 = nI n ∧ ∀ k, k < n → a k < 65536 ∧ b k < 65536 ∧ a k ≠ 0 ∧ b k ≠ 0 ∧ a k &&& b k = 0 ∧ (s k = 60 ∨ s k = 61 ∨ s k = 62) ∧ to 0 k = nI (a k) ∧ v 30 k = nI (a k) ∧ to 1 k = nI (b k) ∧ v 31 k = nI (b k) ∧ to 2 k = nI (s k) ∧ v 32 k = nI (s k)
/-- the number of a step in the reference, by the class's own -/
def encS (s : Nat) : Nat := if s = 0 then 0 else if s = 1 then 1 else if s = 43 then 2 else if s = 45 then 3 else if s = 42 then 4 else if s = 47 then 5 else if s = 37 then 6 else if s = 60 then 7 else if s = 62 then 8 else if s = 61 then 9 else if s = 33 then 10 else if s = 38 then 11 else 12
/-- a stretch of code [a, b) is well typed by the stacks ty (true: a truth value): it begins with an empty stack and ends with the one value r -/
def CodeOk (S O : Nat → Nat) (a b : Nat) (r : Bool) (ty : Nat → List Bool) : Prop := ty a = [] ∧ ty b = [r] ∧ ∀ i, a ≤ i → i < b → (ty i).length ≤ 30 ∧
  ((S i = 0 ∧ O i < 100000 ∧ ty (i + 1) = false :: ty i) ∨ (S i = 1 ∧ O i < 8 ∧ ty (i + 1) = false :: ty i) ∨ (S i = 33 ∧ O i = 0 ∧ ∃ t, ty i = true :: t ∧ ty (i + 1) = ty i) ∨ ((S i = 38 ∨ S i = 124) ∧ i < O i ∧ O i ≤ b ∧ ∃ t, ty i = true :: t ∧ ty (i + 1) = t ∧ ty (O i) = ty i) ∨
   ((S i = 43 ∨ S i = 45 ∨ S i = 42 ∨ S i = 47 ∨ S i = 37) ∧ O i = 0 ∧ ∃ t, ty i = false :: false :: t ∧ ty (i + 1) = false :: t) ∨ ((S i = 60 ∨ S i = 62 ∨ S i = 61) ∧ O i = 0 ∧ ∃ t, ty i = false :: false :: t ∧ ty (i + 1) = true :: t))
def LR (lw v : St) : Prop := ∃ (n c : Nat) (K A B E S O : Nat → Nat), n ≤ 16 ∧ c ≤ 240 ∧ lw 4 0 = nI n ∧ v 15 0 = nI n ∧ (∀ i, i < c → lw 5 i = nI (S i) ∧ lw 6 i = nI (O i) ∧ v 22 i = nI (1048576 * encS (S i) + O i)) ∧
  ∀ q, q < n → K q < 256 ∧ lw 0 q = nI (K q) ∧ v 23 q = nI (K q) ∧ lw 1 q = nI (A q) ∧ v 24 q = nI (A q) ∧ lw 2 q = nI (B q) ∧ v 25 q = nI (B q) ∧ lw 3 q = nI (E q) ∧ v 26 q = nI (E q) ∧ A q ≤ B q ∧ B q ≤ E q ∧ E q ≤ c ∧ (∃ ty, CodeOk S O (B q) (E q) true ty) ∧ (K q ≠ 103 → K q ≠ 114 → ∃ ty, CodeOk S O (A q) (B q) false ty)
def Rel (g : Nat → St) (v : St) : Prop := TR (g 1) v ∧ WR (g 3) (v 0) ∧ KR (g 0) (g 4) v ∧ RR (g 6) v ∧ LR (g 13) v ∧ VR (g 15) v
/-- the law's world: the class's cells, then the reference's -/
def WG (T : Ty3) (h : Nat) (a : Nat → Nat) (aa : Nat → Nat → Nat) (g : Nat → St) (w : Nat → Int64) : va_W := WX11 T h a a aa (g 0) (g 1) (g 2) (g 3) (g 4) (g 5) (g 6) (g 7) (g 8) (g 9) (g 10) (g 11) w (g 13) (g 14) (g 15) (g 16)
