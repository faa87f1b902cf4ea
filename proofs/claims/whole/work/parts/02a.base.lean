/-! ===== my words: states, guarded steps, the standing context, calls ===== -/
abbrev St : Type := Nat → Nat → Int32
def sa (u : St) (k : Nat) (f : Nat → Int32) : St := fun a => if a = k then f else u a
def st (u : St) (k j : Nat) (x : Int32) : St := fun a => if a = k then upd (u k) j x else u a
def lett {α β : Type} (x : α) (k : α → β) : β := k x
theorem lett_e {α β : Type} {x : α} {k : α → β} {y : β} (h : lett x k = y) : ∃ z, z = x ∧ k z = y := ⟨x, rfl, h⟩
def gd {α : Type} (i : Int32) (n : Nat) (k : Option α) : Option α := if i < 0 ∨ n ≤ i.toNatClampNeg then none else k
theorem gd_e {α : Type} {i : Int32} {n : Nat} {k : Option α} {y : α} (h : gd i n k = some y) : vp_in i n ∧ k = some y := by
  unfold gd at h
  by_cases c : i < 0 ∨ n ≤ i.toNatClampNeg
  · rw [if_pos c] at h; cases h
  · rw [if_neg c] at h; exact ⟨c, h⟩
def dz {α : Type} (y : Int32) (k : Option α) : Option α := if y = 0 then none else k
theorem dz_e {α : Type} {i : Int32} {k : Option α} {y : α} (h : dz i k = some y) : ¬ i = 0 ∧ k = some y := by
  unfold dz at h
  by_cases c : i = 0
  · rw [if_pos c] at h; cases h
  · rw [if_neg c] at h; exact ⟨c, h⟩
def zb {α : Type} (v : Int32) (k : Option α) : Option α := if v = 0 ∨ v = 1 then k else none
theorem zb_n {v : Int32} (h : v = 0 ∨ v = 1) : narrow .boolean (.int v) = .int v := by
  rcases h with rfl | rfl <;> rfl
theorem zb_e {α : Type} {i : Int32} {k : Option α} {y : α} (h : zb i k = some y) : narrow .boolean (.int i) = .int i ∧ k = some y := by
  unfold zb at h
  by_cases c : i = 0 ∨ i = 1
  · rw [if_pos c] at h; exact ⟨zb_n c, h⟩
  · rw [if_neg c] at h; cases h
theorem bnd {α β : Type} {x : Option α} {k : α → Option β} {y : β} (h : x.bind k = some y) : ∃ z, x = some z ∧ k z = some y := Option.bind_eq_some_iff.mp h
theorem ifp {α : Type} {c : Prop} [Decidable c] {a b y : α} (h : c) (e : (if c then a else b) = y) : a = y := by rw [if_pos h] at e; exact e
theorem ifn {α : Type} {c : Prop} [Decidable c] {a b y : α} (h : ¬ c) (e : (if c then a else b) = y) : b = y := by rw [if_neg h] at e; exact e
theorem nns {α : Type} {P : Prop} {y : α} (h : (none : Option α) = some y) : P := by cases h
abbrev jrem (x y : Int32) : Int32 := x - x / y * y
abbrev jshl (x y : Int32) : Int32 := x <<< (y &&& 31)
abbrev jshr (x y : Int32) : Int32 := x >>> (y &&& 31)
abbrev jush (x y : Int32) : Int32 := (x.toUInt32 >>> (y.toUInt32 &&& Int32.toUInt32 31)).toInt32
abbrev ji2b (x : Int32) : Int32 := x.toInt8.toInt32
abbrev ji2c (x : Int32) : Int32 := (x.toUInt32 % 65536).toInt32
abbrev jlshl (x : Int64) (y : Int32) : Int64 := x <<< (y.toInt64 &&& 63)
abbrev jlshr (x : Int64) (y : Int32) : Int64 := x >>> (y.toInt64 &&& 63)
abbrev ix (x : Int32) : Nat := x.toNatClampNeg
def mx (x y : Int32) : Int32 := if x < y then y else x
def mn (x y : Int32) : Int32 := if y < x then y else x
def ab (x : Int32) : Int32 := if 0 ≤ x then x else 0 - x
def FU : Nat := 1000000
theorem sw_out (n : Nat) {x : Int32} {lo hi : Int} (hh : hi < lo + n) (h : ∀ k : Nat, k < n → ¬ x = Int32.ofInt (lo + k)) : x.toInt < lo ∨ hi < x.toInt := by
  by_cases c1 : x.toInt < lo
  · exact Or.inl c1
  · by_cases c2 : hi < x.toInt
    · exact Or.inr c2
    · refine absurd ?_ (h (x.toInt - lo).toNat (by omega))
      rw [show lo + ((x.toInt - lo).toNat : Int) = x.toInt by omega, Int32.ofInt_toInt]
/-- the classes of int, byte and long arrays -/
abbrev Ty3 : Type := ClassId × ClassId × ClassId
def nestL : List (String × Nat × MethodName × String) := [("RopeScale", 9, ⟨"RopeScale$Tape", "<init>", "()V"⟩, "RopeScale"), ("RopeScale", 27, ⟨"RopeScale$Walk", "<init>", "()V"⟩, "RopeScale"), ("RopeScale", 40, ⟨"RopeScale$Rope", "<init>", "()V"⟩, "RopeScale"), ("RopeScale", 47, ⟨"RopeScale$Orders", "<init>", "()V"⟩, "RopeScale"), ("RopeScale", 63, ⟨"RopeScale$Choices", "<init>", "()V"⟩, "RopeScale"), ("RopeScale", 70, ⟨"RopeScale$Rank", "<init>", "()V"⟩, "RopeScale"), ("RopeScale", 77, ⟨"RopeScale$Pans", "<init>", "()V"⟩, "RopeScale"), ("RopeScale", 84, ⟨"RopeScale$Law", "<init>", "()V"⟩, "RopeScale"), ("RopeScale", 94, ⟨"RopeScale$Weighings", "<init>", "()V"⟩, "RopeScale"), ("RopeScale$Tape", 19, ⟨"RopeScale", "isWithin", "(III)Z"⟩, "RopeScale"), ("RopeScale$Cursor", 62, ⟨"RopeScale", "isWithin", "(III)Z"⟩, "RopeScale"), ("RopeScale$Law", 43, ⟨"RopeScale", "isWithin", "(III)Z"⟩, "RopeScale"), ("RopeScale$Cursor", 69, ⟨"RopeScale", "isWalker", "(I)Z"⟩, "RopeScale"), ("RopeScale$Orders", 43, ⟨"RopeScale", "has", "(II)Z"⟩, "RopeScale"), ("RopeScale$Walk", 58, ⟨"RopeScale", "bounded", "(III)I"⟩, "RopeScale"), ("RopeScale$Weighings", 56, ⟨"RopeScale", "has", "(II)Z"⟩, "RopeScale"), ("RopeScale$Rope", 44, ⟨"RopeScale", "has", "(II)Z"⟩, "RopeScale"), ("RopeScale$Law", 80, ⟨"RopeScale", "bounded", "(III)I"⟩, "RopeScale"), ("RopeScale$Rope", 91, ⟨"RopeScale", "isWalker", "(I)Z"⟩, "RopeScale"), ("RopeScale$Walk", 43, ⟨"RopeScale", "isWalker", "(I)Z"⟩, "RopeScale"), ("RopeScale$Walk", 47, ⟨"RopeScale", "has", "(II)Z"⟩, "RopeScale"), ("RopeScale$Choices", 65, ⟨"RopeScale", "has", "(II)Z"⟩, "RopeScale"), ("RopeScale$Choices", 93, ⟨"RopeScale", "isWithin", "(III)Z"⟩, "RopeScale"), ("RopeScale$Rank", 49, ⟨"RopeScale", "has", "(II)Z"⟩, "RopeScale"), ("RopeScale$Pans", 64, ⟨"RopeScale", "has", "(II)Z"⟩, "RopeScale")]
def cK (D : va_G) (T : Ty3) (U : State) : Prop := va_K D vwCl [(T.1, .int), (T.2.1, .byte), (T.2.2, .long)] U ∧ ∀ q ∈ nestL, va_Nw (.methodLinkNest q.1 q.2.1 q.2.2.1 q.2.2.2) U
theorem cK.warm {D : va_G} {T : Ty3} {s U : State} (hW : s.WarmedH U.vm) (h : cK D T s) : cK D T U := ⟨va_K.moved hW.alike h.1, fun q hq => va_Nw.warmM hW (h.2 q hq)⟩
theorem cK.call {D : va_G} {T : Ty3} {U : State} {g : JFrame} {mk : MethodId} {a : Array Value} (h : cK D T U) : cK D T (U.calling g mk a) := ⟨va_K.moved (u := U) (U := U.calling g mk a) (Vm.Alike.refl U.vm) h.1, fun q hq => va_Nw.same rfl rfl (h.2 q hq)⟩
def noA : Nat → Prop := fun _ => False
/-- a method that only reads: its start, its ends -/
def PcR (D : va_G) (T : Ty3) (ws : va_W) (av : List Value) : Array Value → State → Prop := va_Pc av (fun U => va_P D vwCl ws U.heap ∧ cK D T U)
theorem PcR.fb {D : va_G} {T : Ty3} {ws : va_W} {av : List Value} : FrameBlind (PcR D T ws av) := fun _ _ _ _ q => ⟨q.1, q.2.1, q.2.2.call⟩
def QR (r : Int32) : Array Value → State → Outcome → State → Prop := va_Qi (fun r' (_ : Unit) => r' = r) (fun _ _ => True) noA
def QRv : Array Value → State → Outcome → State → Prop := va_Qv (fun (_ : Unit) => True) (fun _ _ => True) noA
/-- a method that writes its world: its start, its ends -/
def PcM (D : va_G) (T : Ty3) (ws : va_W) (sz : Nat) (av : List Value) : Array Value → State → Prop := va_Pc av (fun U => U.heap.size = sz ∧ va_P D vwCl ws U.heap ∧ cK D T U ∧ va_D (fun _ => True) ws)
theorem PcM.fb {D : va_G} {T : Ty3} {ws : va_W} {sz : Nat} {av : List Value} : FrameBlind (PcM D T ws sz av) := fun _ _ _ _ q => ⟨q.1, q.2.1, q.2.2.1, q.2.2.2.1.call, q.2.2.2.2⟩
def QM (D : va_G) (ws : va_W) (sz : Nat) (r : Int32) (ws1 : va_W) : Array Value → State → Outcome → State → Prop := va_Qi (fun r' (_ : Unit) => r' = r) (fun _ t => va_P D vwCl ws1 t.heap ∧ va_D (va_A ws sz) ws1) (va_A ws sz)
def QMv (D : va_G) (ws : va_W) (sz : Nat) (ws1 : va_W) : Array Value → State → Outcome → State → Prop := va_Qv (fun (_ : Unit) => True) (fun _ t => va_P D vwCl ws1 t.heap ∧ va_D (va_A ws sz) ws1) (va_A ws sz)
def pfa (a : Nat → Nat) (k x : Nat) : Nat → Nat := fun j => if j = k then x else a j
def sw2 (f : Nat → Nat → Nat) (i j : Nat) : Nat → Nat → Nat := fun k => if k = i then f j else if k = j then f i else f k
def QMe (D : va_G) (ws : va_W) (sz : Nat) (r : Int32) (F : (Nat → Nat) → (Nat → Nat → Nat) → va_W) : Array Value → State → Outcome → State → Prop := va_Qi (fun r' (_ : Unit) => r' = r) (fun _ t => ∃ (a : Nat → Nat) (aa : Nat → Nat → Nat), va_P D vwCl (F a aa) t.heap ∧ va_D (va_A ws sz) (F a aa)) (va_A ws sz)
/-- a callee's cells put back among the caller's, by their places -/
def putAll : va_W → List Nat → va_W → va_W
  | ws, i :: is, q :: qs => putAll (ws.set i q) is qs
  | ws, _, _ => ws
section MY1
variable {p : Program} {l : Launch} {e : Env} {R : Room} {s : State} {m : MethodId} {args : Array Value} {below : List Frame} {meth : Method} {c : Code} {H : Heap} {locs : List Loc} {cells slots : Nat} {Q : State → Prop}
variable {cc : ByteArray} {pc : Nat} {ls : Array Slot} {rest : List Value} {D : va_G} {T : Ty3} {A : Nat → Prop} {H0 : Heap}
theorem lv_eqi {x y : Int32} (ex : y = x) (k : W p l e R s m args below meth c H locs cells slots Q (F0 m pc ls (.int y :: rest))) : W p l e R s m args below meth c H locs cells slots Q (F0 m pc ls (.int x :: rest)) := by subst ex; exact k
theorem retR {v r : Int32} (hexec : p.tables.exec = Jvm.exec) (hb : c.code = cc) (hr : meth.sig.returnType = some .int) (hlocks : meth.locks = false) (hS : va_S noA s.heap H locs) (hv : v = r) (hdg : decode cc pc = .ok (.ireturn, 1)) : W p l e R s m args below meth c H locs cells slots (MQ below (QR r) args s cells slots noA) (F0 m pc ls [.int v]) :=
  W.iret hexec hb hr (fun t ht hW => ⟨⟨v, (), rfl, hv, trivial⟩, hS.F ht⟩) hS.2.2 hdg hlocks
theorem retRz {v r : Int32} (hexec : p.tables.exec = Jvm.exec) (hb : c.code = cc) (hr : meth.sig.returnType = some .boolean) (hlocks : meth.locks = false) (hS : va_S noA s.heap H locs) (hn : narrow .boolean (.int v) = .int v) (hv : v = r) (hdg : decode cc pc = .ok (.ireturn, 1)) : W p l e R s m args below meth c H locs cells slots (MQ below (QR r) args s cells slots noA) (F0 m pc ls [.int v]) :=
  W.zret hexec hb hr hn (fun t ht hW => ⟨⟨v, (), rfl, hv, trivial⟩, hS.F ht⟩) hS.2.2 hdg hlocks
theorem retRv (hexec : p.tables.exec = Jvm.exec) (hb : c.code = cc) (hr : meth.sig.returnType = none) (hlocks : meth.locks = false) (hS : va_S noA s.heap H locs) (hdg : decode cc pc = .ok (.return_, 1)) : W p l e R s m args below meth c H locs cells slots (MQ below QRv args s cells slots noA) (F0 m pc ls []) :=
  W.vret hexec hb hr (fun t ht hW => ⟨⟨(), rfl, trivial, trivial⟩, hS.F ht⟩) hS.2.2 hdg hlocks
theorem retM {v r : Int32} {ws0 ws ws1 : va_W} {sz : Nat} (hexec : p.tables.exec = Jvm.exec) (hb : c.code = cc) (hr : meth.sig.returnType = some .int) (hlocks : meth.locks = false) (hP : va_P D vwCl ws H) (hD : va_D (va_A ws0 sz) ws) (hS : va_S (va_A ws0 sz) s.heap H locs) (hv : v = r) (hw : ws = ws1) (hdg : decode cc pc = .ok (.ireturn, 1)) : W p l e R s m args below meth c H locs cells slots (MQ below (QM D ws0 sz r ws1) args s cells slots (va_A ws0 sz)) (F0 m pc ls [.int v]) := by
  subst hw
  exact W.iret hexec hb hr (fun t ht hW => ⟨⟨v, (), rfl, hv, by rw [ht]; exact hP, hD⟩, hS.F ht⟩) hS.2.2 hdg hlocks
theorem retMz {v r : Int32} {ws0 ws ws1 : va_W} {sz : Nat} (hexec : p.tables.exec = Jvm.exec) (hb : c.code = cc) (hr : meth.sig.returnType = some .boolean) (hlocks : meth.locks = false) (hP : va_P D vwCl ws H) (hD : va_D (va_A ws0 sz) ws) (hS : va_S (va_A ws0 sz) s.heap H locs) (hn : narrow .boolean (.int v) = .int v) (hv : v = r) (hw : ws = ws1) (hdg : decode cc pc = .ok (.ireturn, 1)) : W p l e R s m args below meth c H locs cells slots (MQ below (QM D ws0 sz r ws1) args s cells slots (va_A ws0 sz)) (F0 m pc ls [.int v]) := by
  subst hw
  exact W.zret hexec hb hr hn (fun t ht hW => ⟨⟨v, (), rfl, hv, by rw [ht]; exact hP, hD⟩, hS.F ht⟩) hS.2.2 hdg hlocks
theorem retMv {ws0 ws ws1 : va_W} {sz : Nat} (hexec : p.tables.exec = Jvm.exec) (hb : c.code = cc) (hr : meth.sig.returnType = none) (hlocks : meth.locks = false) (hP : va_P D vwCl ws H) (hD : va_D (va_A ws0 sz) ws) (hS : va_S (va_A ws0 sz) s.heap H locs) (hw : ws = ws1) (hdg : decode cc pc = .ok (.return_, 1)) : W p l e R s m args below meth c H locs cells slots (MQ below (QMv D ws0 sz ws1) args s cells slots (va_A ws0 sz)) (F0 m pc ls []) := by
  subst hw
  exact W.vret hexec hb hr (fun t ht hW => ⟨⟨(), rfl, trivial, by rw [ht]; exact hP, hD⟩, hS.F ht⟩) hS.2.2 hdg hlocks
theorem retMe {v r : Int32} {ws0 : va_W} {sz : Nat} {F : (Nat → Nat) → (Nat → Nat → Nat) → va_W} (hexec : p.tables.exec = Jvm.exec) (hb : c.code = cc) (hr : meth.sig.returnType = some .int) (hlocks : meth.locks = false) (hS : va_S (va_A ws0 sz) s.heap H locs) (hv : v = r) (hw : ∃ (a : Nat → Nat) (aa : Nat → Nat → Nat), va_P D vwCl (F a aa) H ∧ va_D (va_A ws0 sz) (F a aa)) (hdg : decode cc pc = .ok (.ireturn, 1)) : W p l e R s m args below meth c H locs cells slots (MQ below (QMe D ws0 sz r F) args s cells slots (va_A ws0 sz)) (F0 m pc ls [.int v]) :=
  W.iret hexec hb hr (fun t ht hW => ⟨⟨v, (), rfl, hv, by subst ht; exact hw⟩, hS.F ht⟩) hS.2.2 hdg hlocks
theorem putAll_get {is : List Nat} : ∀ {ws w1 : va_W} {k : Nat}, k ∉ is → (putAll ws is w1)[k]? = ws[k]? := by
  induction is with
  | nil => intro ws w1 k h; cases w1 <;> rfl
  | cons i is ih =>
    intro ws w1 k h
    cases w1 with
    | nil => rfl
    | cons q qs =>
      show (putAll (ws.set i q) is qs)[k]? = _
      rw [ih (fun h2 => h (List.mem_cons_of_mem _ h2)), List.getElem?_set_ne (show i ≠ k from fun h2 => h (by rw [h2]; exact List.mem_cons_self))]
theorem putAll_at {is : List Nat} : ∀ {ws w1 : va_W} {j i : Nat} {q : Nat × va_E}, va_nd is = true → is[j]? = some i → w1[j]? = some q → i < ws.length → (putAll ws is w1)[i]? = some q := by
  induction is with
  | nil => intro ws w1 j i q _ h; simp at h
  | cons i0 is ih =>
    intro ws w1 j i q hn hi hq hl
    cases w1 with
    | nil => simp at hq
    | cons q0 qs =>
      show (putAll (ws.set i0 q0) is qs)[i]? = _
      have hn2 : i0 ∉ is ∧ va_nd is = true := by simpa [va_nd] using hn
      cases j with
      | zero =>
        have e1 : i0 = i := by simpa using hi
        have e2 : q0 = q := by simpa using hq
        subst e1; subst e2
        rw [putAll_get hn2.1, List.getElem?_set_self hl]
      | succ j => exact ih hn2.2 (by simpa using hi) (by simpa using hq) (by rw [List.length_set]; exact hl)
theorem putAll_P {ws wc w1 : va_W} {H H1 : Heap} (hP : va_P D vwCl ws H) (hD : va_D A ws) (is : List Nat) (hC : is.map (fun i => ws[i]?) = wc.map some) (hn : va_nd is = true) (hk : ∀ q : Nat, q < H.size → ¬ va_A wc H.size q → H1[q]? = H[q]?) (hP1 : va_P D vwCl w1 H1) (ha : w1.map (fun q => q.1) = wc.map (fun q => q.1)) :
    va_P D vwCl (putAll ws is w1) H1 ∧ va_D A (putAll ws is w1) := by
  have hlen : is.length = wc.length := by simpa using congrArg List.length hC
  have hlen1 : w1.length = wc.length := by simpa using congrArg List.length ha
  have at' : ∀ (j i : Nat), is[j]? = some i → ∃ q q1, wc[j]? = some q ∧ ws[i]? = some q ∧ w1[j]? = some q1 ∧ q1.1 = q.1 := by
    intro j i hi
    have hj : j < wc.length := by rw [← hlen]; exact (List.getElem?_eq_some_iff.mp hi).1
    have h1 : (is.map (fun i => ws[i]?))[j]? = some (ws[i]?) := by rw [List.getElem?_map, hi]; rfl
    rw [hC, List.getElem?_map, List.getElem?_eq_getElem hj] at h1
    have h2 : ws[i]? = some wc[j] := (Option.some.inj h1).symm
    have hj1 : j < w1.length := by rw [hlen1]; exact hj
    have h3 : (w1.map (fun q => q.1))[j]? = (wc.map (fun q => q.1))[j]? := by rw [ha]
    rw [List.getElem?_map, List.getElem?_map, List.getElem?_eq_getElem hj, List.getElem?_eq_getElem hj1] at h3
    exact ⟨wc[j], w1[j], List.getElem?_eq_getElem hj, h2, List.getElem?_eq_getElem hj1, Option.some.inj h3⟩
  have key : ∀ (k : Nat) (q : Nat × va_E), (putAll ws is w1)[k]? = some q → (∃ j : Nat, w1[j]? = some q ∧ is[j]? = some k ∧ ∃ q0, ws[k]? = some q0 ∧ q0.1 = q.1) ∨ (k ∉ is ∧ ws[k]? = some q) := by
    intro k q hq
    by_cases hk : k ∈ is
    · obtain ⟨j, hj⟩ := List.mem_iff_getElem?.mp hk
      obtain ⟨q0, q1, h1, h2, h3, h4⟩ := at' j k hj
      have h5 := putAll_at hn hj h3 (List.getElem?_eq_some_iff.mp h2).1
      rw [hq] at h5
      have e : q = q1 := Option.some.inj h5
      subst e
      exact Or.inl ⟨j, h3, hj, q0, h2, h4.symm⟩
    · rw [putAll_get hk] at hq
      exact Or.inr ⟨hk, hq⟩
  have adr : ∀ (k : Nat) (q : Nat × va_E), (putAll ws is w1)[k]? = some q → ∃ q0, ws[k]? = some q0 ∧ q0.1 = q.1 := by
    intro k q hq
    rcases key k q hq with ⟨j, -, -, q0, h1, h2⟩ | ⟨-, h⟩
    · exact ⟨q0, h1, h2⟩
    · exact ⟨q, h, rfl⟩
  refine ⟨fun k q hq => ?_, fun i j x y hx hy hxy => ?_, fun k q hq => ?_⟩
  · rcases key k q hq with ⟨j, h1, -⟩ | ⟨hk1, h⟩
    · exact hP1 j q h1
    · refine (hP k q h).kept (hk q.1 (hP k q h).lt (fun hA => ?_))
      rcases hA with ⟨k2, e, h2⟩ | h2
      · have hk2 : k2 < is.length := by rw [hlen]; exact (List.getElem?_eq_some_iff.mp h2).1
        obtain ⟨q0, q1, g1, g2, -, -⟩ := at' k2 is[k2] (List.getElem?_eq_getElem hk2)
        rw [h2] at g1
        have e1 : (q.1, e) = q0 := Option.some.inj g1
        subst e1
        have := hD.1 k is[k2] q (q.1, e) h g2 rfl
        exact hk1 (this ▸ List.getElem_mem hk2)
      · have := (hP k q h).lt
        omega
  · obtain ⟨x0, h1, h2⟩ := adr i x hx
    obtain ⟨y0, h3, h4⟩ := adr j y hy
    exact hD.1 i j x0 y0 h1 h3 (by rw [h2, h4, hxy])
  · obtain ⟨q0, h1, h2⟩ := adr k q hq
    rw [← h2]
    exact hD.2 k q0 h1
theorem vaA_self {ws : va_W} (hD : va_D A ws) (hS : va_S A H0 H locs) (hA : ∀ q, H0.size ≤ q → A q) : ∀ q, va_A ws H.size q → A q := by
  intro q h
  rcases h with ⟨k, e, h⟩ | h
  · exact hD.2 k (q, e) h
  · exact hA q (Nat.le_trans hS.1 h)
theorem P0 : va_P D vwCl [] H := fun k q h => by simp at h
end MY1

section MY2
variable {p : Program} {l : Launch} {e : Env} {R : Room} {s : State} {m : MethodId} {args : Array Value} {below : List Frame} {meth : Method} {c : Code} {H : Heap} {locs : List Loc} {cells slots : Nat} {Q : State → Prop}
variable {cc : ByteArray} {pc : Nat} {ls : Array Slot} {rest st0 : List Value} {D : va_G} {T : Ty3} {A : Nat → Prop} {H0 : Heap}
variable {Ts : List Cond} {own C host : String} {index nL n maxL : Nat} {y : MethodName} {bytes : ByteArray} {ret : Option FieldType} {ws : List Cond} {rm : Room} {wc w1 wsC : va_W} {b : Addr} {As : List Value} {r : Int32}

theorem cVR (S : CallFix p m c cc nL s args Ts own) (hM : Met l y ws rm (PcR D T wc (.ref b :: As)) (QR r) 0 0 noA) (cw : CallW R s args own C index y bytes maxL ret ws rm 0 0 n) (hrec : ∃ cell : Cell, H[b]? = some cell ∧ cell.vm.isStatics = false ∧ s.vm.findClass C = some cell.cls) (hPc : va_P D vwCl wc H) (hK : cK D T s) (hn : As.length = n) (hsize : ls.size = nL) (hst : st0 = As.reverse ++ .ref b :: rest) (hW : (rest.map fun v => v.category).sum ≤ 8) (hdg : decode cc pc = .ok (.invokevirtual index, 3)) (hf : cells + 0 ≤ R.cells ∧ slots + 0 ≤ R.slots) (hP : va_P D vwCl wsC H) (hS : va_S A H0 H locs)
    (kk : ∀ (H1 : Heap) (locs1 : List Loc), va_P D vwCl wsC H1 → va_S A H0 H1 locs1 → W p l e R s m args below meth c H1 locs1 cells slots Q (F0 m (pc + 3) ls (.int r :: rest))) : W p l e R s m args below meth c H locs cells slots Q (F0 m pc ls st0) := by
  subst hst
  refine va_calli (va_runV S hM cw ⟨PcR.fb, hrec, fun U hU hWm => ⟨rfl, by rw [hU]; exact hPc, hK.warm hWm⟩⟩ rfl hn hsize rfl (lv_room hW) hdg hf) hS (fun q _ h => False.elim h) (fun q h => False.elim h) (fun r' u t H1 locs1 ht hvm hw hB hz1 hk1 hS1 => ?_)
  cases hw
  exact kk H1 locs1 (hP.kept (fun k q hk => hk1 q.1 ((hP k q hk).lt) (fun h => h))) hS1

theorem cVRv (S : CallFix p m c cc nL s args Ts own) (hM : Met l y ws rm (PcR D T wc (.ref b :: As)) QRv 0 0 noA) (cw : CallW R s args own C index y bytes maxL ret ws rm 0 0 n) (hrec : ∃ cell : Cell, H[b]? = some cell ∧ cell.vm.isStatics = false ∧ s.vm.findClass C = some cell.cls) (hPc : va_P D vwCl wc H) (hK : cK D T s) (hn : As.length = n) (hsize : ls.size = nL) (hst : st0 = As.reverse ++ .ref b :: rest) (hW : (rest.map fun v => v.category).sum ≤ 8) (hdg : decode cc pc = .ok (.invokevirtual index, 3)) (hf : cells + 0 ≤ R.cells ∧ slots + 0 ≤ R.slots) (hP : va_P D vwCl wsC H) (hS : va_S A H0 H locs)
    (kk : ∀ (H1 : Heap) (locs1 : List Loc), va_P D vwCl wsC H1 → va_S A H0 H1 locs1 → W p l e R s m args below meth c H1 locs1 cells slots Q (F0 m (pc + 3) ls rest)) : W p l e R s m args below meth c H locs cells slots Q (F0 m pc ls st0) := by
  subst hst
  refine va_callv (va_runV S hM cw ⟨PcR.fb, hrec, fun U hU hWm => ⟨rfl, by rw [hU]; exact hPc, hK.warm hWm⟩⟩ rfl hn hsize rfl (lv_room hW) hdg hf) hS (fun q _ h => False.elim h) (fun q h => False.elim h) (fun u t H1 locs1 ht hvm hw hB hz1 hk1 hS1 => ?_)
  skip
  exact kk H1 locs1 (hP.kept (fun k q hk => hk1 q.1 ((hP k q hk).lt) (fun h => h))) hS1

theorem cVM (S : CallFix p m c cc nL s args Ts own) (hM : Met l y ws rm (PcM D T wc H.size (.ref b :: As)) (QM D wc H.size r w1) 0 0 (va_A wc H.size)) (cw : CallW R s args own C index y bytes maxL ret ws rm 0 0 n) (hrec : ∃ cell : Cell, H[b]? = some cell ∧ cell.vm.isStatics = false ∧ s.vm.findClass C = some cell.cls) (hPc : va_P D vwCl wc H) (hK : cK D T s) (hn : As.length = n) (hsize : ls.size = nL) (hst : st0 = As.reverse ++ .ref b :: rest) (hW : (rest.map fun v => v.category).sum ≤ 8) (hdg : decode cc pc = .ok (.invokevirtual index, 3)) (hf : cells + 0 ≤ R.cells ∧ slots + 0 ≤ R.slots) (hDc : va_D A wc) (hFc : ∀ q, va_A wc H.size q → A q) (hS : va_S A H0 H locs)
    (kk : ∀ (H1 : Heap) (locs1 : List Loc), va_P D vwCl w1 H1 → va_D (va_A wc H.size) w1 → (∀ q : Nat, q < H.size → ¬ va_A wc H.size q → H1[q]? = H[q]?) → va_S A H0 H1 locs1 → W p l e R s m args below meth c H1 locs1 cells slots Q (F0 m (pc + 3) ls (.int r :: rest))) : W p l e R s m args below meth c H locs cells slots Q (F0 m pc ls st0) := by
  subst hst
  refine va_calli (va_runV S hM cw ⟨PcM.fb, hrec, fun U hU hWm => ⟨rfl, by rw [hU], by rw [hU]; exact hPc, hK.warm hWm, hDc.weaken (fun _ _ _ _ => trivial)⟩⟩ rfl hn hsize rfl (lv_room hW) hdg hf) hS (fun q _ h => hFc q h) hFc (fun r' u t H1 locs1 ht hvm hw hB hz1 hk1 hS1 => ?_)
  cases hw
  rw [ht] at hB
  exact kk H1 locs1 hB.1 hB.2 hk1 hS1

theorem cVMv (S : CallFix p m c cc nL s args Ts own) (hM : Met l y ws rm (PcM D T wc H.size (.ref b :: As)) (QMv D wc H.size w1) 0 0 (va_A wc H.size)) (cw : CallW R s args own C index y bytes maxL ret ws rm 0 0 n) (hrec : ∃ cell : Cell, H[b]? = some cell ∧ cell.vm.isStatics = false ∧ s.vm.findClass C = some cell.cls) (hPc : va_P D vwCl wc H) (hK : cK D T s) (hn : As.length = n) (hsize : ls.size = nL) (hst : st0 = As.reverse ++ .ref b :: rest) (hW : (rest.map fun v => v.category).sum ≤ 8) (hdg : decode cc pc = .ok (.invokevirtual index, 3)) (hf : cells + 0 ≤ R.cells ∧ slots + 0 ≤ R.slots) (hDc : va_D A wc) (hFc : ∀ q, va_A wc H.size q → A q) (hS : va_S A H0 H locs)
    (kk : ∀ (H1 : Heap) (locs1 : List Loc), va_P D vwCl w1 H1 → va_D (va_A wc H.size) w1 → (∀ q : Nat, q < H.size → ¬ va_A wc H.size q → H1[q]? = H[q]?) → va_S A H0 H1 locs1 → W p l e R s m args below meth c H1 locs1 cells slots Q (F0 m (pc + 3) ls rest)) : W p l e R s m args below meth c H locs cells slots Q (F0 m pc ls st0) := by
  subst hst
  refine va_callv (va_runV S hM cw ⟨PcM.fb, hrec, fun U hU hWm => ⟨rfl, by rw [hU], by rw [hU]; exact hPc, hK.warm hWm, hDc.weaken (fun _ _ _ _ => trivial)⟩⟩ rfl hn hsize rfl (lv_room hW) hdg hf) hS (fun q _ h => hFc q h) hFc (fun u t H1 locs1 ht hvm hw hB hz1 hk1 hS1 => ?_)
  skip
  rw [ht] at hB
  exact kk H1 locs1 hB.1 hB.2 hk1 hS1

theorem cSR (S : CallFix p m c cc nL s args Ts own) (hM : Met l y ws rm (PcR D T wc As) (QR r) 0 0 noA) (cw : CallB R s args own index y bytes maxL ret ws rm 0 0 n ∧ (Cond.static y).before args s = true) (hPc : va_P D vwCl wc H) (hK : cK D T s) (hn : As.length = n) (hsize : ls.size = nL) (hst : st0 = As.reverse ++ rest) (hW : (rest.map fun v => v.category).sum ≤ 8) (hdg : decode cc pc = .ok (.invokestatic index, 3)) (hf : cells + 0 ≤ R.cells ∧ slots + 0 ≤ R.slots) (hP : va_P D vwCl wsC H) (hS : va_S A H0 H locs)
    (kk : ∀ (H1 : Heap) (locs1 : List Loc), va_P D vwCl wsC H1 → va_S A H0 H1 locs1 → W p l e R s m args below meth c H1 locs1 cells slots Q (F0 m (pc + 3) ls (.int r :: rest))) : W p l e R s m args below meth c H locs cells slots Q (F0 m pc ls st0) := by
  subst hst
  refine va_calli (va_runS S hM cw ⟨PcR.fb, fun U hU hWm => ⟨rfl, by rw [hU]; exact hPc, hK.warm hWm⟩⟩ rfl hn hsize rfl (lv_room hW) hdg hf) hS (fun q _ h => False.elim h) (fun q h => False.elim h) (fun r' u t H1 locs1 ht hvm hw hB hz1 hk1 hS1 => ?_)
  cases hw
  exact kk H1 locs1 (hP.kept (fun k q hk => hk1 q.1 ((hP k q hk).lt) (fun h => h))) hS1

theorem cSRv (S : CallFix p m c cc nL s args Ts own) (hM : Met l y ws rm (PcR D T wc As) QRv 0 0 noA) (cw : CallB R s args own index y bytes maxL ret ws rm 0 0 n ∧ (Cond.static y).before args s = true) (hPc : va_P D vwCl wc H) (hK : cK D T s) (hn : As.length = n) (hsize : ls.size = nL) (hst : st0 = As.reverse ++ rest) (hW : (rest.map fun v => v.category).sum ≤ 8) (hdg : decode cc pc = .ok (.invokestatic index, 3)) (hf : cells + 0 ≤ R.cells ∧ slots + 0 ≤ R.slots) (hP : va_P D vwCl wsC H) (hS : va_S A H0 H locs)
    (kk : ∀ (H1 : Heap) (locs1 : List Loc), va_P D vwCl wsC H1 → va_S A H0 H1 locs1 → W p l e R s m args below meth c H1 locs1 cells slots Q (F0 m (pc + 3) ls rest)) : W p l e R s m args below meth c H locs cells slots Q (F0 m pc ls st0) := by
  subst hst
  refine va_callv (va_runS S hM cw ⟨PcR.fb, fun U hU hWm => ⟨rfl, by rw [hU]; exact hPc, hK.warm hWm⟩⟩ rfl hn hsize rfl (lv_room hW) hdg hf) hS (fun q _ h => False.elim h) (fun q h => False.elim h) (fun u t H1 locs1 ht hvm hw hB hz1 hk1 hS1 => ?_)
  skip
  exact kk H1 locs1 (hP.kept (fun k q hk => hk1 q.1 ((hP k q hk).lt) (fun h => h))) hS1

theorem cSM (S : CallFix p m c cc nL s args Ts own) (hM : Met l y ws rm (PcM D T wc H.size As) (QM D wc H.size r w1) 0 0 (va_A wc H.size)) (cw : CallB R s args own index y bytes maxL ret ws rm 0 0 n ∧ (Cond.static y).before args s = true) (hPc : va_P D vwCl wc H) (hK : cK D T s) (hn : As.length = n) (hsize : ls.size = nL) (hst : st0 = As.reverse ++ rest) (hW : (rest.map fun v => v.category).sum ≤ 8) (hdg : decode cc pc = .ok (.invokestatic index, 3)) (hf : cells + 0 ≤ R.cells ∧ slots + 0 ≤ R.slots) (hDc : va_D A wc) (hFc : ∀ q, va_A wc H.size q → A q) (hS : va_S A H0 H locs)
    (kk : ∀ (H1 : Heap) (locs1 : List Loc), va_P D vwCl w1 H1 → va_D (va_A wc H.size) w1 → (∀ q : Nat, q < H.size → ¬ va_A wc H.size q → H1[q]? = H[q]?) → va_S A H0 H1 locs1 → W p l e R s m args below meth c H1 locs1 cells slots Q (F0 m (pc + 3) ls (.int r :: rest))) : W p l e R s m args below meth c H locs cells slots Q (F0 m pc ls st0) := by
  subst hst
  refine va_calli (va_runS S hM cw ⟨PcM.fb, fun U hU hWm => ⟨rfl, by rw [hU], by rw [hU]; exact hPc, hK.warm hWm, hDc.weaken (fun _ _ _ _ => trivial)⟩⟩ rfl hn hsize rfl (lv_room hW) hdg hf) hS (fun q _ h => hFc q h) hFc (fun r' u t H1 locs1 ht hvm hw hB hz1 hk1 hS1 => ?_)
  cases hw
  rw [ht] at hB
  exact kk H1 locs1 hB.1 hB.2 hk1 hS1

theorem cSMv (S : CallFix p m c cc nL s args Ts own) (hM : Met l y ws rm (PcM D T wc H.size As) (QMv D wc H.size w1) 0 0 (va_A wc H.size)) (cw : CallB R s args own index y bytes maxL ret ws rm 0 0 n ∧ (Cond.static y).before args s = true) (hPc : va_P D vwCl wc H) (hK : cK D T s) (hn : As.length = n) (hsize : ls.size = nL) (hst : st0 = As.reverse ++ rest) (hW : (rest.map fun v => v.category).sum ≤ 8) (hdg : decode cc pc = .ok (.invokestatic index, 3)) (hf : cells + 0 ≤ R.cells ∧ slots + 0 ≤ R.slots) (hDc : va_D A wc) (hFc : ∀ q, va_A wc H.size q → A q) (hS : va_S A H0 H locs)
    (kk : ∀ (H1 : Heap) (locs1 : List Loc), va_P D vwCl w1 H1 → va_D (va_A wc H.size) w1 → (∀ q : Nat, q < H.size → ¬ va_A wc H.size q → H1[q]? = H[q]?) → va_S A H0 H1 locs1 → W p l e R s m args below meth c H1 locs1 cells slots Q (F0 m (pc + 3) ls rest)) : W p l e R s m args below meth c H locs cells slots Q (F0 m pc ls st0) := by
  subst hst
  refine va_callv (va_runS S hM cw ⟨PcM.fb, fun U hU hWm => ⟨rfl, by rw [hU], by rw [hU]; exact hPc, hK.warm hWm, hDc.weaken (fun _ _ _ _ => trivial)⟩⟩ rfl hn hsize rfl (lv_room hW) hdg hf) hS (fun q _ h => hFc q h) hFc (fun u t H1 locs1 ht hvm hw hB hz1 hk1 hS1 => ?_)
  skip
  rw [ht] at hB
  exact kk H1 locs1 hB.1 hB.2 hk1 hS1

theorem cNR (S : CallFix p m c cc nL s args Ts own) (hM : Met l y ws rm (PcR D T wc As) (QR r) 0 0 noA) (cw : va_CN R s args own index y host bytes maxL ret ws rm 0 0 n ∧ (Cond.static y).before args s = true ∧ True) (hPc : va_P D vwCl wc H) (hK : cK D T s) (hn : As.length = n) (hsize : ls.size = nL) (hst : st0 = As.reverse ++ rest) (hW : (rest.map fun v => v.category).sum ≤ 8) (hdg : decode cc pc = .ok (.invokestatic index, 3)) (hf : cells + 0 ≤ R.cells ∧ slots + 0 ≤ R.slots) (hP : va_P D vwCl wsC H) (hS : va_S A H0 H locs)
    (kk : ∀ (H1 : Heap) (locs1 : List Loc), va_P D vwCl wsC H1 → va_S A H0 H1 locs1 → W p l e R s m args below meth c H1 locs1 cells slots Q (F0 m (pc + 3) ls (.int r :: rest))) : W p l e R s m args below meth c H locs cells slots Q (F0 m pc ls st0) := by
  subst hst
  refine va_calli (va_runSN S hM cw ⟨PcR.fb, fun U hU hWm => ⟨rfl, by rw [hU]; exact hPc, hK.warm hWm⟩⟩ rfl hn hsize rfl (lv_room hW) hdg hf) hS (fun q _ h => False.elim h) (fun q h => False.elim h) (fun r' u t H1 locs1 ht hvm hw hB hz1 hk1 hS1 => ?_)
  cases hw
  exact kk H1 locs1 (hP.kept (fun k q hk => hk1 q.1 ((hP k q hk).lt) (fun h => h))) hS1

theorem cNRv (S : CallFix p m c cc nL s args Ts own) (hM : Met l y ws rm (PcR D T wc As) QRv 0 0 noA) (cw : va_CN R s args own index y host bytes maxL ret ws rm 0 0 n ∧ (Cond.static y).before args s = true ∧ True) (hPc : va_P D vwCl wc H) (hK : cK D T s) (hn : As.length = n) (hsize : ls.size = nL) (hst : st0 = As.reverse ++ rest) (hW : (rest.map fun v => v.category).sum ≤ 8) (hdg : decode cc pc = .ok (.invokestatic index, 3)) (hf : cells + 0 ≤ R.cells ∧ slots + 0 ≤ R.slots) (hP : va_P D vwCl wsC H) (hS : va_S A H0 H locs)
    (kk : ∀ (H1 : Heap) (locs1 : List Loc), va_P D vwCl wsC H1 → va_S A H0 H1 locs1 → W p l e R s m args below meth c H1 locs1 cells slots Q (F0 m (pc + 3) ls rest)) : W p l e R s m args below meth c H locs cells slots Q (F0 m pc ls st0) := by
  subst hst
  refine va_callv (va_runSN S hM cw ⟨PcR.fb, fun U hU hWm => ⟨rfl, by rw [hU]; exact hPc, hK.warm hWm⟩⟩ rfl hn hsize rfl (lv_room hW) hdg hf) hS (fun q _ h => False.elim h) (fun q h => False.elim h) (fun u t H1 locs1 ht hvm hw hB hz1 hk1 hS1 => ?_)
  skip
  exact kk H1 locs1 (hP.kept (fun k q hk => hk1 q.1 ((hP k q hk).lt) (fun h => h))) hS1

theorem cNM (S : CallFix p m c cc nL s args Ts own) (hM : Met l y ws rm (PcM D T wc H.size As) (QM D wc H.size r w1) 0 0 (va_A wc H.size)) (cw : va_CN R s args own index y host bytes maxL ret ws rm 0 0 n ∧ (Cond.static y).before args s = true ∧ True) (hPc : va_P D vwCl wc H) (hK : cK D T s) (hn : As.length = n) (hsize : ls.size = nL) (hst : st0 = As.reverse ++ rest) (hW : (rest.map fun v => v.category).sum ≤ 8) (hdg : decode cc pc = .ok (.invokestatic index, 3)) (hf : cells + 0 ≤ R.cells ∧ slots + 0 ≤ R.slots) (hDc : va_D A wc) (hFc : ∀ q, va_A wc H.size q → A q) (hS : va_S A H0 H locs)
    (kk : ∀ (H1 : Heap) (locs1 : List Loc), va_P D vwCl w1 H1 → va_D (va_A wc H.size) w1 → (∀ q : Nat, q < H.size → ¬ va_A wc H.size q → H1[q]? = H[q]?) → va_S A H0 H1 locs1 → W p l e R s m args below meth c H1 locs1 cells slots Q (F0 m (pc + 3) ls (.int r :: rest))) : W p l e R s m args below meth c H locs cells slots Q (F0 m pc ls st0) := by
  subst hst
  refine va_calli (va_runSN S hM cw ⟨PcM.fb, fun U hU hWm => ⟨rfl, by rw [hU], by rw [hU]; exact hPc, hK.warm hWm, hDc.weaken (fun _ _ _ _ => trivial)⟩⟩ rfl hn hsize rfl (lv_room hW) hdg hf) hS (fun q _ h => hFc q h) hFc (fun r' u t H1 locs1 ht hvm hw hB hz1 hk1 hS1 => ?_)
  cases hw
  rw [ht] at hB
  exact kk H1 locs1 hB.1 hB.2 hk1 hS1

theorem cNMv (S : CallFix p m c cc nL s args Ts own) (hM : Met l y ws rm (PcM D T wc H.size As) (QMv D wc H.size w1) 0 0 (va_A wc H.size)) (cw : va_CN R s args own index y host bytes maxL ret ws rm 0 0 n ∧ (Cond.static y).before args s = true ∧ True) (hPc : va_P D vwCl wc H) (hK : cK D T s) (hn : As.length = n) (hsize : ls.size = nL) (hst : st0 = As.reverse ++ rest) (hW : (rest.map fun v => v.category).sum ≤ 8) (hdg : decode cc pc = .ok (.invokestatic index, 3)) (hf : cells + 0 ≤ R.cells ∧ slots + 0 ≤ R.slots) (hDc : va_D A wc) (hFc : ∀ q, va_A wc H.size q → A q) (hS : va_S A H0 H locs)
    (kk : ∀ (H1 : Heap) (locs1 : List Loc), va_P D vwCl w1 H1 → va_D (va_A wc H.size) w1 → (∀ q : Nat, q < H.size → ¬ va_A wc H.size q → H1[q]? = H[q]?) → va_S A H0 H1 locs1 → W p l e R s m args below meth c H1 locs1 cells slots Q (F0 m (pc + 3) ls rest)) : W p l e R s m args below meth c H locs cells slots Q (F0 m pc ls st0) := by
  subst hst
  refine va_callv (va_runSN S hM cw ⟨PcM.fb, fun U hU hWm => ⟨rfl, by rw [hU], by rw [hU]; exact hPc, hK.warm hWm, hDc.weaken (fun _ _ _ _ => trivial)⟩⟩ rfl hn hsize rfl (lv_room hW) hdg hf) hS (fun q _ h => hFc q h) hFc (fun u t H1 locs1 ht hvm hw hB hz1 hk1 hS1 => ?_)
  skip
  rw [ht] at hB
  exact kk H1 locs1 hB.1 hB.2 hk1 hS1

theorem mmax {x y : Int32} (hexec : p.tables.exec = Jvm.exec) (hb : c.code = cc) (hml : c.maxLocals = ls.size) {own : String} {index : Nat} (hown : s.vm.findClass own = some m.cls) (hlink : (Cond.methodLink own index Lib.Math.max.name).before args s = true) (hstat : (Cond.static Lib.Math.max.name).before args s = true) (hini : (Cond.initialized "java/lang/Math").before args s = true) (hcode : (Cond.code Lib.Math.max.name Lib.Math.max.code 2 (some .int)).before args s = true) (hframes : 1 ≤ R.frames) (hlocals : (rest.map fun v => v.category).sum + 13 ≤ R.locals) (hc : cells ≤ R.cells) (hs : slots ≤ R.slots) (hdg : decode cc pc = .ok (.invokestatic index, 3)) (kk : W p l e R s m args below meth c H locs cells slots Q (F0 m (pc + 3) ls (.int (mx x y) :: rest))) : W p l e R s m args below meth c H locs cells slots Q (F0 m pc ls (.int y :: .int x :: rest)) :=
  va_mmax hexec hb hml hown hlink hstat hini hcode hframes hlocals hc hs hdg kk
theorem mmin {x y : Int32} (hexec : p.tables.exec = Jvm.exec) (hb : c.code = cc) (hml : c.maxLocals = ls.size) {own : String} {index : Nat} (hown : s.vm.findClass own = some m.cls) (hlink : (Cond.methodLink own index Lib.Math.min.name).before args s = true) (hstat : (Cond.static Lib.Math.min.name).before args s = true) (hini : (Cond.initialized "java/lang/Math").before args s = true) (hcode : (Cond.code Lib.Math.min.name Lib.Math.min.code 2 (some .int)).before args s = true) (hframes : 1 ≤ R.frames) (hlocals : (rest.map fun v => v.category).sum + 13 ≤ R.locals) (hc : cells ≤ R.cells) (hs : slots ≤ R.slots) (hdg : decode cc pc = .ok (.invokestatic index, 3)) (kk : W p l e R s m args below meth c H locs cells slots Q (F0 m (pc + 3) ls (.int (mn x y) :: rest))) : W p l e R s m args below meth c H locs cells slots Q (F0 m pc ls (.int y :: .int x :: rest)) :=
  va_mmin hexec hb hml hown hlink hstat hini hcode hframes hlocals hc hs hdg kk
theorem mabs {x : Int32} (hexec : p.tables.exec = Jvm.exec) (hb : c.code = cc) (hml : c.maxLocals = ls.size) {own : String} {index : Nat} (hown : s.vm.findClass own = some m.cls) (hlink : (Cond.methodLink own index Lib.Math.abs.name).before args s = true) (hstat : (Cond.static Lib.Math.abs.name).before args s = true) (hini : (Cond.initialized "java/lang/Math").before args s = true) (hcode : (Cond.code Lib.Math.abs.name Lib.Math.abs.code 1 (some .int)).before args s = true) (hframes : 1 ≤ R.frames) (hlocals : (rest.map fun v => v.category).sum + 13 ≤ R.locals) (hc : cells ≤ R.cells) (hs : slots ≤ R.slots) (hdg : decode cc pc = .ok (.invokestatic index, 3)) (kk : W p l e R s m args below meth c H locs cells slots Q (F0 m (pc + 3) ls (.int (ab x) :: rest))) : W p l e R s m args below meth c H locs cells slots Q (F0 m pc ls (.int x :: rest)) :=
  va_mabs hexec hb hml hown hlink hstat hini hcode hframes hlocals hc hs hdg kk
end MY2
