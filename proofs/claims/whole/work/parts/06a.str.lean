/-! ===== the string constants of LawReader, and calls of methods that know them ===== -/
def lenS : List Nat := [7, 8]
def bytS : List (List Int32) := [[103, 114, 102, 101, 98, 119, 108], [112, 118, 99, 111, 110, 100, 104, 116]]
def sb (i j : Nat) : Int32 := (bytS.getD i []).getD j 0
def sn (i : Nat) : Int32 := Int32.ofNat (lenS.getD i 0)
def sK (A : Nat → Prop) (kv : (Nat → Nat) × (Nat → Nat)) (U : State) (H : Heap) : Prop := vk_S 2 lenS bytS kv.1 kv.2 A U H ∧ va_Z "java/lang/String" "COMPACT_STRINGS" "Z" (.int 1) A U H ∧ vk_R RX3 34 "grfebwl" (kv.1 0) U ∧ vk_R RX3 114 "pvcondht" (kv.1 1) U
theorem sK.kept {A : Nat → Prop} {kv : (Nat → Nat) × (Nat → Nat)} {U : State} {H H1 : Heap} (h : sK A kv U H) (hq : ∀ a : Nat, a < H.size → ¬ A a → H1[a]? = H[a]?) : sK A kv U H1 := ⟨h.1.kept hq, h.2.1.kept hq, h.2.2⟩
theorem sK.narrow {A B : Nat → Prop} {kv : (Nat → Nat) × (Nat → Nat)} {U : State} {H : Heap} (h : sK A kv U H) (hAB : ∀ q, B q → A q) : sK B kv U H := ⟨h.1.narrow hAB, h.2.1.narrow hAB, h.2.2⟩
theorem sK.warm {A : Nat → Prop} {kv : (Nat → Nat) × (Nat → Nat)} {s U : State} {H : Heap} (hW : s.WarmedH U.vm) (h : sK A kv s H) : sK A kv U H := ⟨h.1.moved hW.alike, h.2.1.moved hW.alike, vk_R.warm hW h.2.2.1, vk_R.warm hW h.2.2.2⟩
theorem sK.call {A : Nat → Prop} {kv : (Nat → Nat) × (Nat → Nat)} {U : State} {H : Heap} {g : JFrame} {mk : MethodId} {a : Array Value} (h : sK A kv U H) : sK A kv (U.calling g mk a) H := ⟨vk_S.moved (u := U) (U := U.calling g mk a) (Vm.Alike.refl U.vm) h.1, va_Z.moved (u := U) (U := U.calling g mk a) (Vm.Alike.refl U.vm) h.2.1, vk_R.same (u := U) (U := U.calling g mk a) rfl h.2.2.1, vk_R.same (u := U) (U := U.calling g mk a) rfl h.2.2.2⟩
def PcS (D : va_G) (T : Ty3) (kv : (Nat → Nat) × (Nat → Nat)) (av : List Value) : Array Value → State → Prop := va_Pc av (fun U => va_P D vwCl [] U.heap ∧ cK D T U ∧ sK noA kv U U.heap)
theorem PcS.fb {D : va_G} {T : Ty3} {kv : (Nat → Nat) × (Nat → Nat)} {av : List Value} : FrameBlind (PcS D T kv av) := fun _ _ _ _ q => ⟨q.1, q.2.1, q.2.2.1.call, q.2.2.2.call⟩
def PcMS (D : va_G) (T : Ty3) (kv : (Nat → Nat) × (Nat → Nat)) (ws : va_W) (sz : Nat) (av : List Value) : Array Value → State → Prop := va_Pc av (fun U => U.heap.size = sz ∧ va_P D vwCl ws U.heap ∧ cK D T U ∧ va_D (fun _ => True) ws ∧ sK (va_A ws sz) kv U U.heap)
theorem PcMS.fb {D : va_G} {T : Ty3} {kv : (Nat → Nat) × (Nat → Nat)} {ws : va_W} {sz : Nat} {av : List Value} : FrameBlind (PcMS D T kv ws sz av) := fun _ _ _ _ q => ⟨q.1, q.2.1, q.2.2.1, q.2.2.2.1.call, q.2.2.2.2.1, q.2.2.2.2.2.call⟩
section MY3
variable {p : Program} {l : Launch} {e : Env} {R : Room} {s : State} {m : MethodId} {args : Array Value} {below : List Frame} {meth : Method} {c : Code} {H : Heap} {locs : List Loc} {cells slots : Nat} {Q : State → Prop}
variable {cc : ByteArray} {pc : Nat} {ls : Array Slot} {rest st0 : List Value} {D : va_G} {T : Ty3} {A : Nat → Prop} {kv : (Nat → Nat) × (Nat → Nat)}
variable {Ts : List Cond} {own C host : String} {index nL n maxL : Nat} {y : MethodName} {bytes : ByteArray} {ret : Option FieldType} {ws : List Cond} {rm : Room} {wc w1 wsC : va_W} {b : Addr} {As : List Value} {r : Int32}
theorem retRb {v r : Int32} (hexec : p.tables.exec = Jvm.exec) (hb : c.code = cc) (hr : meth.sig.returnType = some .byte) (hlocks : meth.locks = false) (hS : va_S noA s.heap H locs) (hn : narrow .byte (.int v) = .int v) (hv : v = r) (hdg : decode cc pc = .ok (.ireturn, 1)) : W p l e R s m args below meth c H locs cells slots (MQ below (QR r) args s cells slots noA) (F0 m pc ls [.int v]) :=
  W.zret hexec hb hr hn (fun t ht hW => ⟨⟨v, (), rfl, hv, trivial⟩, hS.F ht⟩) hS.2.2 hdg hlocks

theorem cVRS (S : CallFix p m c cc nL s args Ts own) (hM : Met l y ws rm (PcS D T kv (.ref b :: As)) (QR r) 0 0 noA) (cw : CallW R s args own C index y bytes maxL ret ws rm 0 0 n) (hrec : ∃ cell : Cell, H[b]? = some cell ∧ cell.vm.isStatics = false ∧ s.vm.findClass C = some cell.cls) (hPc : va_P D vwCl [] H) (hK : cK D T s) (hn : As.length = n) (hsize : ls.size = nL) (hst : st0 = As.reverse ++ .ref b :: rest) (hW : (rest.map fun v => v.category).sum ≤ 8) (hdg : decode cc pc = .ok (.invokevirtual index, 3)) (hf : cells + 0 ≤ R.cells ∧ slots + 0 ≤ R.slots) (hE : sK A kv s s.heap) (hP : va_P D vwCl wsC H) (hS : va_S A s.heap H locs)
    (kk : ∀ (H1 : Heap) (locs1 : List Loc), va_P D vwCl wsC H1 → va_S A s.heap H1 locs1 → W p l e R s m args below meth c H1 locs1 cells slots Q (F0 m (pc + 3) ls (.int r :: rest))) : W p l e R s m args below meth c H locs cells slots Q (F0 m pc ls st0) := by
  subst hst
  refine va_calli (va_runV S hM cw ⟨PcS.fb, hrec, fun U hU hWm => ⟨rfl, by rw [hU]; exact hPc, hK.warm hWm, by rw [hU]; exact ((hE.kept hS.2.1).narrow (fun q h => False.elim h)).warm hWm⟩⟩ rfl hn hsize rfl (lv_room hW) hdg hf) hS (fun q _ h => False.elim h) (fun q h => False.elim h) (fun r' u t H1 locs1 ht hvm hw hB hz1 hk1 hS1 => ?_)
  cases hw
  exact kk H1 locs1 (hP.kept (fun k q hk => hk1 q.1 ((hP k q hk).lt) (fun h => h))) hS1

theorem cVMS (S : CallFix p m c cc nL s args Ts own) (hM : Met l y ws rm (PcMS D T kv wc H.size (.ref b :: As)) (QM D wc H.size r w1) 0 0 (va_A wc H.size)) (cw : CallW R s args own C index y bytes maxL ret ws rm 0 0 n) (hrec : ∃ cell : Cell, H[b]? = some cell ∧ cell.vm.isStatics = false ∧ s.vm.findClass C = some cell.cls) (hPc : va_P D vwCl wc H) (hK : cK D T s) (hn : As.length = n) (hsize : ls.size = nL) (hst : st0 = As.reverse ++ .ref b :: rest) (hW : (rest.map fun v => v.category).sum ≤ 8) (hdg : decode cc pc = .ok (.invokevirtual index, 3)) (hf : cells + 0 ≤ R.cells ∧ slots + 0 ≤ R.slots) (hDc : va_D A wc) (hFc : ∀ q, va_A wc H.size q → A q) (hE : sK A kv s s.heap) (hS : va_S A s.heap H locs)
    (kk : ∀ (H1 : Heap) (locs1 : List Loc), va_P D vwCl w1 H1 → va_D (va_A wc H.size) w1 → (∀ q : Nat, q < H.size → ¬ va_A wc H.size q → H1[q]? = H[q]?) → va_S A s.heap H1 locs1 → W p l e R s m args below meth c H1 locs1 cells slots Q (F0 m (pc + 3) ls (.int r :: rest))) : W p l e R s m args below meth c H locs cells slots Q (F0 m pc ls st0) := by
  subst hst
  refine va_calli (va_runV S hM cw ⟨PcMS.fb, hrec, fun U hU hWm => ⟨rfl, by rw [hU], by rw [hU]; exact hPc, hK.warm hWm, hDc.weaken (fun _ _ _ _ => trivial), by rw [hU]; exact ((hE.kept hS.2.1).narrow hFc).warm hWm⟩⟩ rfl hn hsize rfl (lv_room hW) hdg hf) hS (fun q _ h => hFc q h) hFc (fun r' u t H1 locs1 ht hvm hw hB hz1 hk1 hS1 => ?_)
  cases hw
  rw [ht] at hB
  exact kk H1 locs1 hB.1 hB.2 hk1 hS1

theorem cVMvS (S : CallFix p m c cc nL s args Ts own) (hM : Met l y ws rm (PcMS D T kv wc H.size (.ref b :: As)) (QMv D wc H.size w1) 0 0 (va_A wc H.size)) (cw : CallW R s args own C index y bytes maxL ret ws rm 0 0 n) (hrec : ∃ cell : Cell, H[b]? = some cell ∧ cell.vm.isStatics = false ∧ s.vm.findClass C = some cell.cls) (hPc : va_P D vwCl wc H) (hK : cK D T s) (hn : As.length = n) (hsize : ls.size = nL) (hst : st0 = As.reverse ++ .ref b :: rest) (hW : (rest.map fun v => v.category).sum ≤ 8) (hdg : decode cc pc = .ok (.invokevirtual index, 3)) (hf : cells + 0 ≤ R.cells ∧ slots + 0 ≤ R.slots) (hDc : va_D A wc) (hFc : ∀ q, va_A wc H.size q → A q) (hE : sK A kv s s.heap) (hS : va_S A s.heap H locs)
    (kk : ∀ (H1 : Heap) (locs1 : List Loc), va_P D vwCl w1 H1 → va_D (va_A wc H.size) w1 → (∀ q : Nat, q < H.size → ¬ va_A wc H.size q → H1[q]? = H[q]?) → va_S A s.heap H1 locs1 → W p l e R s m args below meth c H1 locs1 cells slots Q (F0 m (pc + 3) ls rest)) : W p l e R s m args below meth c H locs cells slots Q (F0 m pc ls st0) := by
  subst hst
  refine va_callv (va_runV S hM cw ⟨PcMS.fb, hrec, fun U hU hWm => ⟨rfl, by rw [hU], by rw [hU]; exact hPc, hK.warm hWm, hDc.weaken (fun _ _ _ _ => trivial), by rw [hU]; exact ((hE.kept hS.2.1).narrow hFc).warm hWm⟩⟩ rfl hn hsize rfl (lv_room hW) hdg hf) hS (fun q _ h => hFc q h) hFc (fun u t H1 locs1 ht hvm hw hB hz1 hk1 hS1 => ?_)
  skip
  rw [ht] at hB
  exact kk H1 locs1 hB.1 hB.2 hk1 hS1

theorem cSRS (S : CallFix p m c cc nL s args Ts own) (hM : Met l y ws rm (PcS D T kv As) (QR r) 0 0 noA) (cw : CallB R s args own index y bytes maxL ret ws rm 0 0 n ∧ (Cond.static y).before args s = true) (hPc : va_P D vwCl [] H) (hK : cK D T s) (hn : As.length = n) (hsize : ls.size = nL) (hst : st0 = As.reverse ++ rest) (hW : (rest.map fun v => v.category).sum ≤ 8) (hdg : decode cc pc = .ok (.invokestatic index, 3)) (hf : cells + 0 ≤ R.cells ∧ slots + 0 ≤ R.slots) (hE : sK A kv s s.heap) (hP : va_P D vwCl wsC H) (hS : va_S A s.heap H locs)
    (kk : ∀ (H1 : Heap) (locs1 : List Loc), va_P D vwCl wsC H1 → va_S A s.heap H1 locs1 → W p l e R s m args below meth c H1 locs1 cells slots Q (F0 m (pc + 3) ls (.int r :: rest))) : W p l e R s m args below meth c H locs cells slots Q (F0 m pc ls st0) := by
  subst hst
  refine va_calli (va_runS S hM cw ⟨PcS.fb, fun U hU hWm => ⟨rfl, by rw [hU]; exact hPc, hK.warm hWm, by rw [hU]; exact ((hE.kept hS.2.1).narrow (fun q h => False.elim h)).warm hWm⟩⟩ rfl hn hsize rfl (lv_room hW) hdg hf) hS (fun q _ h => False.elim h) (fun q h => False.elim h) (fun r' u t H1 locs1 ht hvm hw hB hz1 hk1 hS1 => ?_)
  cases hw
  exact kk H1 locs1 (hP.kept (fun k q hk => hk1 q.1 ((hP k q hk).lt) (fun h => h))) hS1

end MY3
