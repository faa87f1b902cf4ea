def fX9_tell  (u : St) (p1 : Int32) (p2 : Int32) : Option (St) := gd p1 16 <| lett (st u 0 (ix p1) p2) fun u1 => gd p1 16 <| lett (st u1 1 (ix p1) p2) fun u2 => gd p1 16 <| lett (st u2 2 (ix p1) 0) fun u3 => gd p1 16 <| lett (st u3 3 (ix p1) 0) fun u4 => lett (st u4 4 0 ((u4 4 0) ||| (jshl 1 p1))) fun u5 => lett (st u5 5 0 ((u5 5 0) &&& ((jshl 1 p1) ^^^ (-1)))) fun u6 => some u6
set_option maxHeartbeats 4000000 in
set_option maxRecDepth 100000 in
theorem mX9_tell (l : Launch) (D : va_G) (T : Ty3) (h : Nat) (a : Nat → Nat) (u : St) (sz : Nat) (p1 : Int32) (p2 : Int32) (res : St) (hf : fX9_tell u p1 p2 = some res) : Met l yX9_tell wsX9_tell ({ frames := 0, cells := 0, slots := 0, locals := 0 }) (PcM D T (kX9 T h a u) sz [.ref h, .int p1, .int p2]) (QMv D (kX9 T h a u) sz (kX9 T h a res)) 0 0 (va_A (kX9 T h a u) sz) := by
  refine Met.ofW (cc := cX9_tell) (maxL := 3) (ret := none) (by decide) rfl ?_
  intro p e s m args below meth c s₁ B hml hv
  obtain ⟨rfl, hsz, hP, hK, hD0⟩ := hv
  have hx := B.exec
  have hb := B.bytes
  have hr := B.returns
  have hts := atoms_spec (ws := wsX9_tell) B.pre
  have hown : s.vm.findClass RX9 = some m.cls := findClass_of_methodNamed B.named
  have hlocks := B.notSynchronized
  subst hsz
  have hD := hD0.self (sz := s.heap.size)
  have hA : ∀ q : Nat, s.heap.size ≤ q → va_A (kX9 T h a u) s.heap.size q := fun q h => Or.inr h
  have hS : va_S (va_A (kX9 T h a u) s.heap.size) s.heap s.heap [] := va_S.rf
  have hinX9 : ∀ w ∈ u_ws RX9 TX9 8, w ∈ wsX9_tell := fun w h => List.mem_cons_of_mem _ (List.mem_append_right _ h)
  have hl := lv_entry ([.ref h, .int p1, .int p2]) (n := 3) (Nat.le_of_ble_eq_true rfl)
  rw [lg_entry_eq]
  generalize (lg_sl ([.ref h, .int p1, .int p2]) ++ List.replicate (3 - (lg_sl ([.ref h, .int p1, .int p2])).length) Slot.unset).toArray = ls at hl ⊢
  have hl : lv_has ls 3 [(0, .ref h), (1, .int p1), (2, .int p2)] := hl
  unfold fX9_tell at hf
  refine lv_aload_n hx hb dX9_tell_0 rfl (lv_at hl 0 rfl) ?_
  refine va_get (D := D) (ci := 9) (v := .ref (a 0)) (C := RX9) (T := TX9) (N := 8) hx hb hts hinX9 hown hK.1 hP 0 rfl rfl 0 (by decide) (hts (.fieldLink RX9 9 "RopeScale$Walk" "weight" "[I") (List.mem_of_getElem? (i := 1) rfl)) (fun _ h9 => h9) rfl dX9_tell_1 ?_
  refine lv_iload_n hx hb dX9_tell_4 rfl (lv_at hl 1 rfl) ?_
  refine lv_iload_n hx hb dX9_tell_5 rfl (lv_at hl 2 rfl) ?_
  obtain ⟨h10, hf⟩ := gd_e hf
  obtain ⟨u1, eu1, hf⟩ := lett_e hf
  refine va_iast hx hb hK.1 hP hD hS 1 0 rfl rfl h10 dX9_tell_6 (fun H locs hP hD hS => ?_)
  have hP : va_P D vwCl (kX9 T h a u1) H := by rw [eu1]; exact hP
  have hD : va_D (va_A (kX9 T h a u) s.heap.size) (kX9 T h a u1) := by rw [eu1]; exact hD
  refine lv_aload_n hx hb dX9_tell_7 rfl (lv_at hl 0 rfl) ?_
  refine va_get (D := D) (ci := 9) (v := .ref (a 1)) (C := RX9) (T := TX9) (N := 8) hx hb hts hinX9 hown hK.1 hP 0 rfl rfl 1 (by decide) (hts (.fieldLink RX9 15 "RopeScale$Walk" "claim" "[I") (List.mem_of_getElem? (i := 2) rfl)) (fun _ h9 => h9) rfl dX9_tell_8 ?_
  refine lv_iload_n hx hb dX9_tell_11 rfl (lv_at hl 1 rfl) ?_
  refine lv_iload_n hx hb dX9_tell_12 rfl (lv_at hl 2 rfl) ?_
  obtain ⟨h9, hf⟩ := gd_e hf
  obtain ⟨u2, eu2, hf⟩ := lett_e hf
  refine va_iast hx hb hK.1 hP hD hS 2 0 rfl rfl h9 dX9_tell_13 (fun H locs hP hD hS => ?_)
  have hP : va_P D vwCl (kX9 T h a u2) H := by rw [eu2]; exact hP
  have hD : va_D (va_A (kX9 T h a u) s.heap.size) (kX9 T h a u2) := by rw [eu2]; exact hD
  refine lv_aload_n hx hb dX9_tell_14 rfl (lv_at hl 0 rfl) ?_
  refine va_get (D := D) (ci := 9) (v := .ref (a 2)) (C := RX9) (T := TX9) (N := 8) hx hb hts hinX9 hown hK.1 hP 0 rfl rfl 2 (by decide) (hts (.fieldLink RX9 18 "RopeScale$Walk" "baths" "[I") (List.mem_of_getElem? (i := 3) rfl)) (fun _ h9 => h9) rfl dX9_tell_15 ?_
  refine lv_iload_n hx hb dX9_tell_18 rfl (lv_at hl 1 rfl) ?_
  refine lv_iconst (v := 0) hx hb dX9_tell_19 (by decide) ?_
  obtain ⟨h8, hf⟩ := gd_e hf
  obtain ⟨u3, eu3, hf⟩ := lett_e hf
  refine va_iast hx hb hK.1 hP hD hS 3 0 rfl rfl h8 dX9_tell_20 (fun H locs hP hD hS => ?_)
  have hP : va_P D vwCl (kX9 T h a u3) H := by rw [eu3]; exact hP
  have hD : va_D (va_A (kX9 T h a u) s.heap.size) (kX9 T h a u3) := by rw [eu3]; exact hD
  refine lv_aload_n hx hb dX9_tell_21 rfl (lv_at hl 0 rfl) ?_
  refine va_get (D := D) (ci := 9) (v := .ref (a 3)) (C := RX9) (T := TX9) (N := 8) hx hb hts hinX9 hown hK.1 hP 0 rfl rfl 3 (by decide) (hts (.fieldLink RX9 21 "RopeScale$Walk" "hurt" "[I") (List.mem_of_getElem? (i := 4) rfl)) (fun _ h9 => h9) rfl dX9_tell_22 ?_
  refine lv_iload_n hx hb dX9_tell_25 rfl (lv_at hl 1 rfl) ?_
  refine lv_iconst (v := 0) hx hb dX9_tell_26 (by decide) ?_
  obtain ⟨h7, hf⟩ := gd_e hf
  obtain ⟨u4, eu4, hf⟩ := lett_e hf
  refine va_iast hx hb hK.1 hP hD hS 4 0 rfl rfl h7 dX9_tell_27 (fun H locs hP hD hS => ?_)
  have hP : va_P D vwCl (kX9 T h a u4) H := by rw [eu4]; exact hP
  have hD : va_D (va_A (kX9 T h a u) s.heap.size) (kX9 T h a u4) := by rw [eu4]; exact hD
  refine lv_aload_n hx hb dX9_tell_28 rfl (lv_at hl 0 rfl) ?_
  refine lv_dup hx hb dX9_tell_29 rfl ?_
  refine va_get (D := D) (ci := 9) (v := .int (u4 4 0)) (C := RX9) (T := TX9) (N := 8) hx hb hts hinX9 hown hK.1 hP 0 rfl rfl 4 (by decide) (hts (.fieldLink RX9 24 "RopeScale$Walk" "told" "I") (List.mem_of_getElem? (i := 5) rfl)) (fun _ h9 => h9) rfl dX9_tell_30 ?_
  refine lv_iconst (v := 1) hx hb dX9_tell_33 (by decide) ?_
  refine lv_iload_n hx hb dX9_tell_34 rfl (lv_at hl 1 rfl) ?_
  refine lv_ishl hx hb dX9_tell_35 ?_
  refine lv_ior hx hb dX9_tell_36 ?_
  obtain ⟨u5, eu5, hf⟩ := lett_e hf
  refine va_put (D := D) (ci := 9) (v := .int ((u4 4 0) ||| (jshl 1 p1))) (ty := .int) (C := RX9) (T := TX9) (N := 8) hx hb hts hinX9 tyX9 tyX9_ok nmX9 hown hK.1 hP hD hS 0 rfl rfl 4 (by decide) (hts (.fieldLink RX9 24 "RopeScale$Walk" "told" "I") (List.mem_of_getElem? (i := 5) rfl)) (fun _ h9 => h9) rfl (tyX9_ok 4 (by decide)) rfl rfl (Nat.le_of_ble_eq_true rfl) dX9_tell_37 (fun H locs hP hD hS => ?_)
  have hP : va_P D vwCl (kX9 T h a u5) H := by rw [eu5]; exact hP
  have hD : va_D (va_A (kX9 T h a u) s.heap.size) (kX9 T h a u5) := by rw [eu5]; exact hD
  refine lv_aload_n hx hb dX9_tell_40 rfl (lv_at hl 0 rfl) ?_
  refine lv_dup hx hb dX9_tell_41 rfl ?_
  refine va_get (D := D) (ci := 9) (v := .int (u5 5 0)) (C := RX9) (T := TX9) (N := 8) hx hb hts hinX9 hown hK.1 hP 0 rfl rfl 5 (by decide) (hts (.fieldLink RX9 28 "RopeScale$Walk" "over" "I") (List.mem_of_getElem? (i := 6) rfl)) (fun _ h9 => h9) rfl dX9_tell_42 ?_
  refine lv_iconst (v := 1) hx hb dX9_tell_45 (by decide) ?_
  refine lv_iload_n hx hb dX9_tell_46 rfl (lv_at hl 1 rfl) ?_
  refine lv_ishl hx hb dX9_tell_47 ?_
  refine lv_iconst (v := (-1)) hx hb dX9_tell_48 (by decide) ?_
  refine lv_ixor hx hb dX9_tell_49 ?_
  refine lv_iand hx hb dX9_tell_50 ?_
  obtain ⟨u6, eu6, hf⟩ := lett_e hf
  refine va_put (D := D) (ci := 9) (v := .int ((u5 5 0) &&& ((jshl 1 p1) ^^^ (-1)))) (ty := .int) (C := RX9) (T := TX9) (N := 8) hx hb hts hinX9 tyX9 tyX9_ok nmX9 hown hK.1 hP hD hS 0 rfl rfl 5 (by decide) (hts (.fieldLink RX9 28 "RopeScale$Walk" "over" "I") (List.mem_of_getElem? (i := 6) rfl)) (fun _ h9 => h9) rfl (tyX9_ok 5 (by decide)) rfl rfl (Nat.le_of_ble_eq_true rfl) dX9_tell_51 (fun H locs hP hD hS => ?_)
  have hP : va_P D vwCl (kX9 T h a u6) H := by rw [eu6]; exact hP
  have hD : va_D (va_A (kX9 T h a u) s.heap.size) (kX9 T h a u6) := by rw [eu6]; exact hD
  have e9 := Option.some.inj hf
  exact retMv hx hb hr hlocks hP hD hS (congrArg (fun z => (kX9 T h a z : va_W)) e9) dX9_tell_54
def fX9_knows  (u : St) (p1 : Int32) : Option (Int32) := (fX11_isWalker p1).bind fun z1 => if z1 = 0 then some 0 else lett (fX11_has (u 4 0) p1) fun z3 => if z3 = 0 then some 0 else some 1
set_option maxHeartbeats 4000000 in
set_option maxRecDepth 100000 in
theorem mX9_knows (l : Launch) (D : va_G) (T : Ty3) (h : Nat) (a : Nat → Nat) (u : St) (p1 : Int32) (res : Int32) (hf : fX9_knows u p1 = some res) : Met l yX9_knows wsX9_knows ({ frames := 2, cells := 0, slots := 0, locals := 42 }) (PcR D T (kX9 T h a u) [.ref h, .int p1]) (QR res) 0 0 noA := by
  refine Met.ofW (cc := cX9_knows) (maxL := 2) (ret := (some .boolean)) (by decide) rfl ?_
  intro p e s m args below meth c s₁ B hml hv
  obtain ⟨rfl, hP, hK⟩ := hv
  have hx := B.exec
  have hb := B.bytes
  have hr := B.returns
  have hts := atoms_spec (ws := wsX9_knows) B.pre
  have hown : s.vm.findClass RX9 = some m.cls := findClass_of_methodNamed B.named
  have hlocks := B.notSynchronized
  have hS : va_S noA s.heap s.heap [] := va_S.rf
  have hinX9 : ∀ w ∈ u_ws RX9 TX9 8, w ∈ wsX9_knows := fun w h => List.mem_cons_of_mem _ (List.mem_append_right _ h)
  have hl := lv_entry ([.ref h, .int p1]) (n := 2) (Nat.le_of_ble_eq_true rfl)
  rw [lg_entry_eq]
  generalize (lg_sl ([.ref h, .int p1]) ++ List.replicate (2 - (lg_sl ([.ref h, .int p1])).length) Slot.unset).toArray = ls at hl ⊢
  have hl : lv_has ls 2 [(0, .ref h), (1, .int p1)] := hl
  unfold fX9_knows at hf
  refine lv_iload_n hx hb dX9_knows_0 rfl (lv_at hl 1 rfl) ?_
  obtain ⟨z1, hz1, hf⟩ := bnd hf
  refine cNR (As := [.int p1]) (rest := []) ⟨hx, hb, hml, hown, hts⟩ (mX11_isWalker l D T p1 z1 hz1) ⟨va_cnB (host := "RopeScale") (index := 43) 1 hts gX9_knows_X11_isWalker_n43 rfl rfl rfl (hK.2 _ (List.mem_of_getElem? (i := 19) rfl)) (hts (.initialized RX11) (List.mem_of_getElem? (i := 3) rfl)) (by decide +kernel) ⟨Nat.le_of_ble_eq_true rfl, Nat.le_of_ble_eq_true rfl⟩, (hts (.static yX11_isWalker) (List.mem_of_getElem? (i := 2) rfl)), trivial⟩ P0 hK rfl hl.1 rfl (Nat.le_of_ble_eq_true rfl) dX9_knows_1 ⟨Nat.le_of_ble_eq_true rfl, Nat.le_of_ble_eq_true rfl⟩ hP hS (fun H locs hP hS => ?_)
  refine lv_if_eq (tgt := 22) hx hb dX9_knows_4 (by decide) (fun c2 => ?_) (fun c2 => ?_)
  · replace hf := ifp c2 hf
    refine lv_iconst (v := 0) hx hb dX9_knows_22 (by decide) ?_
    exact retRz hx hb hr hlocks hS rfl (Option.some.inj hf) dX9_knows_23
  replace hf := ifn c2 hf
  refine lv_aload_n hx hb dX9_knows_7 rfl (lv_at hl 0 rfl) ?_
  refine va_get (D := D) (ci := 9) (v := .int (u 4 0)) (C := RX9) (T := TX9) (N := 8) hx hb hts hinX9 hown hK.1 hP 0 rfl rfl 4 (by decide) (hts (.fieldLink RX9 24 "RopeScale$Walk" "told" "I") (List.mem_of_getElem? (i := 1) rfl)) (fun _ h9 => h9) rfl dX9_knows_8 ?_
  refine lv_iload_n hx hb dX9_knows_11 rfl (lv_at hl 1 rfl) ?_
  obtain ⟨z3, hz3, hf⟩ := lett_e hf
  refine cNR (As := [.int (u 4 0), .int p1]) (rest := []) ⟨hx, hb, hml, hown, hts⟩ (mX11_has l D T (u 4 0) p1 z3 hz3.symm) ⟨va_cnB (host := "RopeScale") (index := 47) 2 hts gX9_knows_X11_has_n47 rfl rfl rfl (hK.2 _ (List.mem_of_getElem? (i := 20) rfl)) (hts (.initialized RX11) (List.mem_of_getElem? (i := 3) rfl)) (by decide +kernel) ⟨Nat.le_of_ble_eq_true rfl, Nat.le_of_ble_eq_true rfl⟩, (hts (.static yX11_has) (List.mem_of_getElem? (i := 8) rfl)), trivial⟩ P0 hK rfl hl.1 rfl (Nat.le_of_ble_eq_true rfl) dX9_knows_12 ⟨Nat.le_of_ble_eq_true rfl, Nat.le_of_ble_eq_true rfl⟩ hP hS (fun H locs hP hS => ?_)
  refine lv_if_eq (tgt := 22) hx hb dX9_knows_15 (by decide) (fun c4 => ?_) (fun c4 => ?_)
  · replace hf := ifp c4 hf
    refine lv_iconst (v := 0) hx hb dX9_knows_22 (by decide) ?_
    exact retRz hx hb hr hlocks hS rfl (Option.some.inj hf) dX9_knows_23
  replace hf := ifn c4 hf
  refine lv_iconst (v := 1) hx hb dX9_knows_18 (by decide) ?_
  refine lv_goto (tgt := 23) hx hb dX9_knows_19 (by decide) ?_
  exact retRz hx hb hr hlocks hS rfl (Option.some.inj hf) dX9_knows_23
def fX9_factOf  (u : St) (p1 : Int32) (p2 : Int32) : Option (Int32) := (fX9_knows u p1).bind fun z1 => if z1 = 0 then some (-1) else if p2 = 0 then gd p1 16 <| some (u 0 (ix p1)) else if p2 = 1 then gd p1 16 <| some (u 1 (ix p1)) else if p2 = 2 then some ((jshr (u 5 0) p1) &&& 1) else if p2 = 3 then gd p1 16 <| some (u 2 (ix p1)) else if p2 = 4 then gd p1 16 <| some (u 3 (ix p1)) else some (-1)
set_option maxHeartbeats 4000000 in
set_option maxRecDepth 100000 in
theorem mX9_factOf (l : Launch) (D : va_G) (T : Ty3) (h : Nat) (a : Nat → Nat) (u : St) (p1 : Int32) (p2 : Int32) (res : Int32) (hf : fX9_factOf u p1 p2 = some res) : Met l yX9_factOf wsX9_factOf ({ frames := 3, cells := 0, slots := 0, locals := 63 }) (PcR D T (kX9 T h a u) [.ref h, .int p1, .int p2]) (QR res) 0 0 noA := by
  refine Met.ofW (cc := cX9_factOf) (maxL := 3) (ret := (some .int)) (by decide) rfl ?_
  intro p e s m args below meth c s₁ B hml hv
  obtain ⟨rfl, hP, hK⟩ := hv
  have hx := B.exec
  have hb := B.bytes
  have hr := B.returns
  have hts := atoms_spec (ws := wsX9_factOf) B.pre
  have hown : s.vm.findClass RX9 = some m.cls := findClass_of_methodNamed B.named
  have hlocks := B.notSynchronized
  have hS : va_S noA s.heap s.heap [] := va_S.rf
  have hinX9 : ∀ w ∈ u_ws RX9 TX9 8, w ∈ wsX9_factOf := fun w h => List.mem_cons_of_mem _ (List.mem_append_right _ h)
  have hl := lv_entry ([.ref h, .int p1, .int p2]) (n := 3) (Nat.le_of_ble_eq_true rfl)
  rw [lg_entry_eq]
  generalize (lg_sl ([.ref h, .int p1, .int p2]) ++ List.replicate (3 - (lg_sl ([.ref h, .int p1, .int p2])).length) Slot.unset).toArray = ls at hl ⊢
  have hl : lv_has ls 3 [(0, .ref h), (1, .int p1), (2, .int p2)] := hl
  unfold fX9_factOf at hf
  refine lv_aload_n hx hb dX9_factOf_0 rfl (lv_at hl 0 rfl) ?_
  refine lv_iload_n hx hb dX9_factOf_1 rfl (lv_at hl 1 rfl) ?_
  obtain ⟨z1, hz1, hf⟩ := bnd hf
  refine cVR (As := [.int p1]) (rest := []) ⟨hx, hb, hml, hown, hts⟩ (mX9_knows l D T h a u p1 z1 hz1) (cwV 1 hts gX9_factOf_X9_knows rfl rfl rfl (by decide +kernel) ⟨Nat.le_of_ble_eq_true rfl, Nat.le_of_ble_eq_true rfl⟩) (va_recv hK.1 hP (ci := 9) (q0 := 0) rfl rfl) hP hK rfl hl.1 rfl (Nat.le_of_ble_eq_true rfl) dX9_factOf_2 ⟨Nat.le_of_ble_eq_true rfl, Nat.le_of_ble_eq_true rfl⟩ hP hS (fun H locs hP hS => ?_)
  refine lv_if_ne (tgt := 10) hx hb dX9_factOf_5 (by decide) (fun c2 => ?_) (fun c2 => ?_)
  · replace hf := ifn c2 hf
    refine lv_iload_n hx hb dX9_factOf_10 rfl (lv_at hl 2 rfl) ?_
    by_cases c3 : p2 = 0
    · replace hf := ifp c3 hf
      refine lv_tableIn (off := 33) (tgt := 44) hx hb dX9_factOf_11 (by rw [c3]; decide) (by rw [c3]; decide) (by rw [c3]; rfl) (by decide) ?_
      refine lv_aload_n hx hb dX9_factOf_44 rfl (lv_at hl 0 rfl) ?_
      refine va_get (D := D) (ci := 9) (v := .ref (a 0)) (C := RX9) (T := TX9) (N := 8) hx hb hts hinX9 hown hK.1 hP 0 rfl rfl 0 (by decide) (hts (.fieldLink RX9 9 "RopeScale$Walk" "weight" "[I") (List.mem_of_getElem? (i := 1) rfl)) (fun _ h9 => h9) rfl dX9_factOf_45 ?_
      refine lv_iload_n hx hb dX9_factOf_48 rfl (lv_at hl 1 rfl) ?_
      obtain ⟨h4, hf⟩ := gd_e hf
      refine va_iald hx hb hK.1 hP 1 0 rfl rfl h4 dX9_factOf_49 ?_
      exact retR hx hb hr hlocks hS (Option.some.inj hf) dX9_factOf_50
    replace hf := ifn c3 hf
    by_cases c5 : p2 = 1
    · replace hf := ifp c5 hf
      refine lv_tableIn (off := 40) (tgt := 51) hx hb dX9_factOf_11 (by rw [c5]; decide) (by rw [c5]; decide) (by rw [c5]; rfl) (by decide) ?_
      refine lv_aload_n hx hb dX9_factOf_51 rfl (lv_at hl 0 rfl) ?_
      refine va_get (D := D) (ci := 9) (v := .ref (a 1)) (C := RX9) (T := TX9) (N := 8) hx hb hts hinX9 hown hK.1 hP 0 rfl rfl 1 (by decide) (hts (.fieldLink RX9 15 "RopeScale$Walk" "claim" "[I") (List.mem_of_getElem? (i := 2) rfl)) (fun _ h9 => h9) rfl dX9_factOf_52 ?_
      refine lv_iload_n hx hb dX9_factOf_55 rfl (lv_at hl 1 rfl) ?_
      obtain ⟨h6, hf⟩ := gd_e hf
      refine va_iald hx hb hK.1 hP 2 0 rfl rfl h6 dX9_factOf_56 ?_
      exact retR hx hb hr hlocks hS (Option.some.inj hf) dX9_factOf_57
    replace hf := ifn c5 hf
    by_cases c7 : p2 = 2
    · replace hf := ifp c7 hf
      refine lv_tableIn (off := 47) (tgt := 58) hx hb dX9_factOf_11 (by rw [c7]; decide) (by rw [c7]; decide) (by rw [c7]; rfl) (by decide) ?_
      refine lv_aload_n hx hb dX9_factOf_58 rfl (lv_at hl 0 rfl) ?_
      refine va_get (D := D) (ci := 9) (v := .int (u 5 0)) (C := RX9) (T := TX9) (N := 8) hx hb hts hinX9 hown hK.1 hP 0 rfl rfl 5 (by decide) (hts (.fieldLink RX9 28 "RopeScale$Walk" "over" "I") (List.mem_of_getElem? (i := 3) rfl)) (fun _ h9 => h9) rfl dX9_factOf_59 ?_
      refine lv_iload_n hx hb dX9_factOf_62 rfl (lv_at hl 1 rfl) ?_
      refine lv_ishr hx hb dX9_factOf_63 ?_
      refine lv_iconst (v := 1) hx hb dX9_factOf_64 (by decide) ?_
      refine lv_iand hx hb dX9_factOf_65 ?_
      exact retR hx hb hr hlocks hS (Option.some.inj hf) dX9_factOf_66
    replace hf := ifn c7 hf
    by_cases c8 : p2 = 3
    · replace hf := ifp c8 hf
      refine lv_tableIn (off := 56) (tgt := 67) hx hb dX9_factOf_11 (by rw [c8]; decide) (by rw [c8]; decide) (by rw [c8]; rfl) (by decide) ?_
      refine lv_aload_n hx hb dX9_factOf_67 rfl (lv_at hl 0 rfl) ?_
      refine va_get (D := D) (ci := 9) (v := .ref (a 2)) (C := RX9) (T := TX9) (N := 8) hx hb hts hinX9 hown hK.1 hP 0 rfl rfl 2 (by decide) (hts (.fieldLink RX9 18 "RopeScale$Walk" "baths" "[I") (List.mem_of_getElem? (i := 4) rfl)) (fun _ h9 => h9) rfl dX9_factOf_68 ?_
      refine lv_iload_n hx hb dX9_factOf_71 rfl (lv_at hl 1 rfl) ?_
      obtain ⟨h9, hf⟩ := gd_e hf
      refine va_iald hx hb hK.1 hP 3 0 rfl rfl h9 dX9_factOf_72 ?_
      exact retR hx hb hr hlocks hS (Option.some.inj hf) dX9_factOf_73
    replace hf := ifn c8 hf
    by_cases c10 : p2 = 4
    · replace hf := ifp c10 hf
      refine lv_tableIn (off := 63) (tgt := 74) hx hb dX9_factOf_11 (by rw [c10]; decide) (by rw [c10]; decide) (by rw [c10]; rfl) (by decide) ?_
      refine lv_aload_n hx hb dX9_factOf_74 rfl (lv_at hl 0 rfl) ?_
      refine va_get (D := D) (ci := 9) (v := .ref (a 3)) (C := RX9) (T := TX9) (N := 8) hx hb hts hinX9 hown hK.1 hP 0 rfl rfl 3 (by decide) (hts (.fieldLink RX9 21 "RopeScale$Walk" "hurt" "[I") (List.mem_of_getElem? (i := 5) rfl)) (fun _ h9 => h9) rfl dX9_factOf_75 ?_
      refine lv_iload_n hx hb dX9_factOf_78 rfl (lv_at hl 1 rfl) ?_
      obtain ⟨h11, hf⟩ := gd_e hf
      refine va_iald hx hb hK.1 hP 4 0 rfl rfl h11 dX9_factOf_79 ?_
      exact retR hx hb hr hlocks hS (Option.some.inj hf) dX9_factOf_80
    replace hf := ifn c10 hf
    refine lv_tableOut (tgt := 81) hx hb dX9_factOf_11 (sw_out (x := p2) 5 (by decide) (fun k9 hk9 => match k9, hk9 with | 0, _ => fun e9 => c3 (e9.trans (by decide)) | 1, _ => fun e9 => c5 (e9.trans (by decide)) | 2, _ => fun e9 => c7 (e9.trans (by decide)) | 3, _ => fun e9 => c8 (e9.trans (by decide)) | 4, _ => fun e9 => c10 (e9.trans (by decide)) | k9 + 5, hk9 => absurd hk9 (by omega))) (by decide) ?_
    refine lv_iconst (v := (-1)) hx hb dX9_factOf_81 (by decide) ?_
    exact retR hx hb hr hlocks hS (Option.some.inj hf) dX9_factOf_82
  replace hf := ifp c2 hf
  refine lv_iconst (v := (-1)) hx hb dX9_factOf_8 (by decide) ?_
  exact retR hx hb hr hlocks hS (Option.some.inj hf) dX9_factOf_9
def bX9_total_L4 (u : St) (uf : Nat → Int32)  (lp4 : Int32 → Int32 → Option (Int32)) (x2 : Int32) (x3 : Int32) : Option (Int32) := if 16 ≤ x3 then some x2 else lett (fX11_has (u 4 0) x3) fun z2 => if z2 = 0 then lett (x2 + 0) fun t4 => lett (x3 + 1) fun t5 => lp4 t4 t5 else gd x3 16 <| lett (x2 + (uf (ix x3))) fun t6 => lett (x3 + 1) fun t7 => lp4 t6 t7
def fX9_total_L4 (u : St) (uf : Nat → Int32)  : Nat → Int32 → Int32 → Option (Int32)
  | 0, _, _ => none
  | n + 1, x2, x3 => bX9_total_L4 u uf (fX9_total_L4 u uf n) x2 x3
def fX9_total  (u : St) (uf : Nat → Int32)  : Option (Int32) := fX9_total_L4 u uf FU 0 0
set_option maxHeartbeats 4000000 in
set_option maxRecDepth 100000 in
theorem mX9_total (l : Launch) (D : va_G) (T : Ty3) (h : Nat) (a : Nat → Nat) (u : St) (qf : Nat) (uf : Nat → Int32)  (res : Int32) (hf : fX9_total u uf = some res) : Met l yX9_total wsX9_total ({ frames := 1, cells := 0, slots := 0, locals := 21 }) (PcR D T (oX9 T h a u ++ [(qf, .inl (T.1, 16, .inl uf))]) [.ref h, .ref qf]) (QR res) 0 0 noA := by
  refine Met.ofW (cc := cX9_total) (maxL := 4) (ret := (some .int)) (by decide) rfl ?_
  intro p e s m args below meth c s₁ B hml hv
  obtain ⟨rfl, hP, hK⟩ := hv
  have hx := B.exec
  have hb := B.bytes
  have hr := B.returns
  have hts := atoms_spec (ws := wsX9_total) B.pre
  have hown : s.vm.findClass RX9 = some m.cls := findClass_of_methodNamed B.named
  have hlocks := B.notSynchronized
  have hS : va_S noA s.heap s.heap [] := va_S.rf
  have hinX9 : ∀ w ∈ u_ws RX9 TX9 8, w ∈ wsX9_total := fun w h => List.mem_cons_of_mem _ (List.mem_append_right _ h)
  have hl := lv_entry ([.ref h, .ref qf]) (n := 4) (Nat.le_of_ble_eq_true rfl)
  rw [lg_entry_eq]
  generalize (lg_sl ([.ref h, .ref qf]) ++ List.replicate (4 - (lg_sl ([.ref h, .ref qf])).length) Slot.unset).toArray = ls at hl ⊢
  have hl : lv_has ls 4 [(0, .ref h), (1, .ref qf)] := hl
  have L4 : ∀ (n4 : Nat), ∀ (x2 : Int32) (x3 : Int32) (H : Heap) (locs : List Loc) (ls : Array Slot), fX9_total_L4 u uf n4 x2 x3 = some res → va_P D vwCl (oX9 T h a u ++ [(qf, .inl (T.1, 16, .inl uf))]) H → va_S noA s.heap H locs → lv_has ls 4 [(0, .ref h), (1, .ref qf), (2, .int x2), (3, .int x3)] → W p l e (headSpec wsX9_total ({ frames := 1, cells := 0, slots := 0, locals := 21 })).room s m ([.ref h, .ref qf] : List Value).toArray below meth c H locs 0 0 (MQ below (QR res) ([.ref h, .ref qf] : List Value).toArray s 0 0 noA) (F0 m 4 ls []) := by
    intro n4
    induction n4 with
    | zero => intro x2 x3 H locs ls hf; exact nns hf
    | succ n4 ih4 =>
      intro x2 x3 H locs ls hf hP hS hl
      replace hf : bX9_total_L4 u uf (fX9_total_L4 u uf n4) x2 x3 = some res := hf
      unfold bX9_total_L4 at hf
      refine lv_iload_n hx hb dX9_total_4 rfl (lv_at hl 3 rfl) ?_
      refine lv_bipush (v := 16) hx hb dX9_total_5 (by decide) ?_
      refine lv_icmp_ge (tgt := 37) hx hb dX9_total_7 (by decide) (fun c1 => ?_) (fun c1 => ?_)
      · replace hf := ifp c1 hf
        refine lv_iload_n hx hb dX9_total_37 rfl (lv_at hl 2 rfl) ?_
        exact retR hx hb hr hlocks hS (Option.some.inj hf) dX9_total_38
      replace hf := ifn c1 hf
      refine lv_iload_n hx hb dX9_total_10 rfl (lv_at hl 2 rfl) ?_
      refine lv_aload_n hx hb dX9_total_11 rfl (lv_at hl 0 rfl) ?_
      refine va_get (D := D) (ci := 9) (v := .int (u 4 0)) (C := RX9) (T := TX9) (N := 8) hx hb hts hinX9 hown hK.1 hP 0 rfl rfl 4 (by decide) (hts (.fieldLink RX9 24 "RopeScale$Walk" "told" "I") (List.mem_of_getElem? (i := 1) rfl)) (fun _ h9 => h9) rfl dX9_total_12 ?_
      refine lv_iload_n hx hb dX9_total_15 rfl (lv_at hl 3 rfl) ?_
      obtain ⟨z2, hz2, hf⟩ := lett_e hf
      refine cNR (As := [.int (u 4 0), .int x3]) (rest := [.int x2]) ⟨hx, hb, hml, hown, hts⟩ (mX11_has l D T (u 4 0) x3 z2 hz2.symm) ⟨va_cnB (host := "RopeScale") (index := 47) 2 hts gX9_total_X11_has_n47 rfl rfl rfl (hK.2 _ (List.mem_of_getElem? (i := 20) rfl)) (hts (.initialized RX11) (List.mem_of_getElem? (i := 3) rfl)) (by decide +kernel) ⟨Nat.le_of_ble_eq_true rfl, Nat.le_of_ble_eq_true rfl⟩, (hts (.static yX11_has) (List.mem_of_getElem? (i := 2) rfl)), trivial⟩ P0 hK rfl hl.1 rfl (Nat.le_of_ble_eq_true rfl) dX9_total_16 ⟨Nat.le_of_ble_eq_true rfl, Nat.le_of_ble_eq_true rfl⟩ hP hS (fun H locs hP hS => ?_)
      refine lv_if_eq (tgt := 28) hx hb dX9_total_19 (by decide) (fun c3 => ?_) (fun c3 => ?_)
      · replace hf := ifp c3 hf
        refine lv_iconst (v := 0) hx hb dX9_total_28 (by decide) ?_
        refine lv_iadd hx hb dX9_total_29 ?_
        obtain ⟨t4, et4, hf⟩ := lett_e hf
        refine lv_eqi et4 ?_
        refine lv_istore_n (lv' := [(2, .int t4), (0, .ref h), (1, .ref qf), (3, .int x3)]) hx hb dX9_total_30 rfl hl (by decide) rfl (fun ls hl => ?_)
        obtain ⟨t5, et5, hf⟩ := lett_e hf
        refine lv_iinc (v := t5) (lv' := [(3, .int t5), (2, .int t4), (0, .ref h), (1, .ref qf)]) hx hb dX9_total_31 hl (k := 3) rfl (by rw [et5]; rfl) (by decide) rfl (fun ls hl => ?_)
        refine lv_goto (tgt := 4) hx hb dX9_total_34 (by decide) ?_
        exact ih4 t4 t5 _ _ _ hf hP hS (lv_sub hl [2, 3, 1, 0] rfl)
      replace hf := ifn c3 hf
      refine lv_aload_n hx hb dX9_total_22 rfl (lv_at hl 1 rfl) ?_
      refine lv_iload_n hx hb dX9_total_23 rfl (lv_at hl 3 rfl) ?_
      obtain ⟨h8, hf⟩ := gd_e hf
      refine va_iald hx hb hK.1 hP 1 0 rfl rfl h8 dX9_total_24 ?_
      refine lv_goto (tgt := 29) hx hb dX9_total_25 (by decide) ?_
      refine lv_iadd hx hb dX9_total_29 ?_
      obtain ⟨t6, et6, hf⟩ := lett_e hf
      refine lv_eqi et6 ?_
      refine lv_istore_n (lv' := [(2, .int t6), (0, .ref h), (1, .ref qf), (3, .int x3)]) hx hb dX9_total_30 rfl hl (by decide) rfl (fun ls hl => ?_)
      obtain ⟨t7, et7, hf⟩ := lett_e hf
      refine lv_iinc (v := t7) (lv' := [(3, .int t7), (2, .int t6), (0, .ref h), (1, .ref qf)]) hx hb dX9_total_31 hl (k := 3) rfl (by rw [et7]; rfl) (by decide) rfl (fun ls hl => ?_)
      refine lv_goto (tgt := 4) hx hb dX9_total_34 (by decide) ?_
      exact ih4 t6 t7 _ _ _ hf hP hS (lv_sub hl [2, 3, 1, 0] rfl)
  unfold fX9_total at hf
  refine lv_iconst (v := 0) hx hb dX9_total_0 (by decide) ?_
  refine lv_istore_n (lv' := [(2, .int 0), (0, .ref h), (1, .ref qf)]) hx hb dX9_total_1 rfl hl (by decide) rfl (fun ls hl => ?_)
  refine lv_iconst (v := 0) hx hb dX9_total_2 (by decide) ?_
  refine lv_istore_n (lv' := [(3, .int 0), (2, .int 0), (0, .ref h), (1, .ref qf)]) hx hb dX9_total_3 rfl hl (by decide) rfl (fun ls hl => ?_)
  exact L4 FU 0 0 _ _ _ hf hP hS (lv_sub hl [2, 3, 1, 0] rfl)
def fX9_lieOf  (u : St) (p1 : Int32) : Option (Int32) := lett (fX11_has (u 4 0) p1) fun z1 => if z1 = 0 then some 0 else gd p1 16 <| gd p1 16 <| some (ab ((u 1 (ix p1)) - (u 0 (ix p1))))
set_option maxHeartbeats 4000000 in
set_option maxRecDepth 100000 in
theorem mX9_lieOf (l : Launch) (D : va_G) (T : Ty3) (h : Nat) (a : Nat → Nat) (u : St) (p1 : Int32) (res : Int32) (hf : fX9_lieOf u p1 = some res) : Met l yX9_lieOf wsX9_lieOf ({ frames := 1, cells := 0, slots := 0, locals := 21 }) (PcR D T (kX9 T h a u) [.ref h, .int p1]) (QR res) 0 0 noA := by
  refine Met.ofW (cc := cX9_lieOf) (maxL := 2) (ret := (some .int)) (by decide) rfl ?_
  intro p e s m args below meth c s₁ B hml hv
  obtain ⟨rfl, hP, hK⟩ := hv
  have hx := B.exec
  have hb := B.bytes
  have hr := B.returns
  have hts := atoms_spec (ws := wsX9_lieOf) B.pre
  have hown : s.vm.findClass RX9 = some m.cls := findClass_of_methodNamed B.named
  have hlocks := B.notSynchronized
  have hS : va_S noA s.heap s.heap [] := va_S.rf
  have hinX9 : ∀ w ∈ u_ws RX9 TX9 8, w ∈ wsX9_lieOf := fun w h => List.mem_cons_of_mem _ (List.mem_append_right _ h)
  have hl := lv_entry ([.ref h, .int p1]) (n := 2) (Nat.le_of_ble_eq_true rfl)
  rw [lg_entry_eq]
  generalize (lg_sl ([.ref h, .int p1]) ++ List.replicate (2 - (lg_sl ([.ref h, .int p1])).length) Slot.unset).toArray = ls at hl ⊢
  have hl : lv_has ls 2 [(0, .ref h), (1, .int p1)] := hl
  unfold fX9_lieOf at hf
  refine lv_aload_n hx hb dX9_lieOf_0 rfl (lv_at hl 0 rfl) ?_
  refine va_get (D := D) (ci := 9) (v := .int (u 4 0)) (C := RX9) (T := TX9) (N := 8) hx hb hts hinX9 hown hK.1 hP 0 rfl rfl 4 (by decide) (hts (.fieldLink RX9 24 "RopeScale$Walk" "told" "I") (List.mem_of_getElem? (i := 1) rfl)) (fun _ h9 => h9) rfl dX9_lieOf_1 ?_
  refine lv_iload_n hx hb dX9_lieOf_4 rfl (lv_at hl 1 rfl) ?_
  obtain ⟨z1, hz1, hf⟩ := lett_e hf
  refine cNR (As := [.int (u 4 0), .int p1]) (rest := []) ⟨hx, hb, hml, hown, hts⟩ (mX11_has l D T (u 4 0) p1 z1 hz1.symm) ⟨va_cnB (host := "RopeScale") (index := 47) 2 hts gX9_lieOf_X11_has_n47 rfl rfl rfl (hK.2 _ (List.mem_of_getElem? (i := 20) rfl)) (hts (.initialized RX11) (List.mem_of_getElem? (i := 9) rfl)) (by decide +kernel) ⟨Nat.le_of_ble_eq_true rfl, Nat.le_of_ble_eq_true rfl⟩, (hts (.static yX11_has) (List.mem_of_getElem? (i := 8) rfl)), trivial⟩ P0 hK rfl hl.1 rfl (Nat.le_of_ble_eq_true rfl) dX9_lieOf_5 ⟨Nat.le_of_ble_eq_true rfl, Nat.le_of_ble_eq_true rfl⟩ hP hS (fun H locs hP hS => ?_)
  refine lv_if_eq (tgt := 30) hx hb dX9_lieOf_8 (by decide) (fun c2 => ?_) (fun c2 => ?_)
  · replace hf := ifp c2 hf
    refine lv_iconst (v := 0) hx hb dX9_lieOf_30 (by decide) ?_
    exact retR hx hb hr hlocks hS (Option.some.inj hf) dX9_lieOf_31
  replace hf := ifn c2 hf
  refine lv_aload_n hx hb dX9_lieOf_11 rfl (lv_at hl 0 rfl) ?_
  refine va_get (D := D) (ci := 9) (v := .ref (a 1)) (C := RX9) (T := TX9) (N := 8) hx hb hts hinX9 hown hK.1 hP 0 rfl rfl 1 (by decide) (hts (.fieldLink RX9 15 "RopeScale$Walk" "claim" "[I") (List.mem_of_getElem? (i := 2) rfl)) (fun _ h9 => h9) rfl dX9_lieOf_12 ?_
  refine lv_iload_n hx hb dX9_lieOf_15 rfl (lv_at hl 1 rfl) ?_
  obtain ⟨h4, hf⟩ := gd_e hf
  refine va_iald hx hb hK.1 hP 2 0 rfl rfl h4 dX9_lieOf_16 ?_
  refine lv_aload_n hx hb dX9_lieOf_17 rfl (lv_at hl 0 rfl) ?_
  refine va_get (D := D) (ci := 9) (v := .ref (a 0)) (C := RX9) (T := TX9) (N := 8) hx hb hts hinX9 hown hK.1 hP 0 rfl rfl 0 (by decide) (hts (.fieldLink RX9 9 "RopeScale$Walk" "weight" "[I") (List.mem_of_getElem? (i := 3) rfl)) (fun _ h9 => h9) rfl dX9_lieOf_18 ?_
  refine lv_iload_n hx hb dX9_lieOf_21 rfl (lv_at hl 1 rfl) ?_
  obtain ⟨h3, hf⟩ := gd_e hf
  refine va_iald hx hb hK.1 hP 1 0 rfl rfl h3 dX9_lieOf_22 ?_
  refine lv_isub hx hb dX9_lieOf_23 ?_
  refine mabs hx hb (hml.trans hl.1.symm) hown (hts (.methodLink RX9 63 Lib.Math.abs.name) (List.mem_of_getElem? (i := 4) rfl)) (hts (.static Lib.Math.abs.name) (List.mem_of_getElem? (i := 5) rfl)) (hts (.initialized "java/lang/Math") (List.mem_of_getElem? (i := 6) rfl)) (hts (.code Lib.Math.abs.name Lib.Math.abs.code 1 (some .int)) (List.mem_of_getElem? (i := 7) rfl)) (Nat.le_of_ble_eq_true rfl) (Nat.le_of_ble_eq_true rfl) (Nat.le_of_ble_eq_true rfl) (Nat.le_of_ble_eq_true rfl) dX9_lieOf_24 ?_
  refine lv_goto (tgt := 31) hx hb dX9_lieOf_27 (by decide) ?_
  exact retR hx hb hr hlocks hS (Option.some.inj hf) dX9_lieOf_31
def bX9_whoLies_L4 (u : St)  (lp4 : Int32 → Int32 → Option (Int32)) (x1 : Int32) (x2 : Int32) : Option (Int32) := if 16 ≤ x2 then some x1 else (fX9_lieOf u x2).bind fun z2 => if z2 ≤ 0 then lett (x1 ||| 0) fun t4 => lett (x2 + 1) fun t5 => lp4 t4 t5 else lett (x1 ||| (jshl 1 x2)) fun t6 => lett (x2 + 1) fun t7 => lp4 t6 t7
def fX9_whoLies_L4 (u : St)  : Nat → Int32 → Int32 → Option (Int32)
  | 0, _, _ => none
  | n + 1, x1, x2 => bX9_whoLies_L4 u (fX9_whoLies_L4 u n) x1 x2
def fX9_whoLies  (u : St)  : Option (Int32) := fX9_whoLies_L4 u FU 0 0
set_option maxHeartbeats 4000000 in
set_option maxRecDepth 100000 in
theorem mX9_whoLies (l : Launch) (D : va_G) (T : Ty3) (h : Nat) (a : Nat → Nat) (u : St)  (res : Int32) (hf : fX9_whoLies u = some res) : Met l yX9_whoLies wsX9_whoLies ({ frames := 2, cells := 0, slots := 0, locals := 42 }) (PcR D T (kX9 T h a u) [.ref h]) (QR res) 0 0 noA := by
  refine Met.ofW (cc := cX9_whoLies) (maxL := 3) (ret := (some .int)) (by decide) rfl ?_
  intro p e s m args below meth c s₁ B hml hv
  obtain ⟨rfl, hP, hK⟩ := hv
  have hx := B.exec
  have hb := B.bytes
  have hr := B.returns
  have hts := atoms_spec (ws := wsX9_whoLies) B.pre
  have hown : s.vm.findClass RX9 = some m.cls := findClass_of_methodNamed B.named
  have hlocks := B.notSynchronized
  have hS : va_S noA s.heap s.heap [] := va_S.rf
  have hinX9 : ∀ w ∈ u_ws RX9 TX9 8, w ∈ wsX9_whoLies := fun w h => List.mem_cons_of_mem _ (List.mem_append_right _ h)
  have hl := lv_entry ([.ref h]) (n := 3) (Nat.le_of_ble_eq_true rfl)
  rw [lg_entry_eq]
  generalize (lg_sl ([.ref h]) ++ List.replicate (3 - (lg_sl ([.ref h])).length) Slot.unset).toArray = ls at hl ⊢
  have hl : lv_has ls 3 [(0, .ref h)] := hl
  have L4 : ∀ (n4 : Nat), ∀ (x1 : Int32) (x2 : Int32) (H : Heap) (locs : List Loc) (ls : Array Slot), fX9_whoLies_L4 u n4 x1 x2 = some res → va_P D vwCl (kX9 T h a u) H → va_S noA s.heap H locs → lv_has ls 3 [(0, .ref h), (1, .int x1), (2, .int x2)] → W p l e (headSpec wsX9_whoLies ({ frames := 2, cells := 0, slots := 0, locals := 42 })).room s m ([.ref h] : List Value).toArray below meth c H locs 0 0 (MQ below (QR res) ([.ref h] : List Value).toArray s 0 0 noA) (F0 m 4 ls []) := by
    intro n4
    induction n4 with
    | zero => intro x1 x2 H locs ls hf; exact nns hf
    | succ n4 ih4 =>
      intro x1 x2 H locs ls hf hP hS hl
      replace hf : bX9_whoLies_L4 u (fX9_whoLies_L4 u n4) x1 x2 = some res := hf
      unfold bX9_whoLies_L4 at hf
      refine lv_iload_n hx hb dX9_whoLies_4 rfl (lv_at hl 2 rfl) ?_
      refine lv_bipush (v := 16) hx hb dX9_whoLies_5 (by decide) ?_
      refine lv_icmp_ge (tgt := 34) hx hb dX9_whoLies_7 (by decide) (fun c1 => ?_) (fun c1 => ?_)
      · replace hf := ifp c1 hf
        refine lv_iload_n hx hb dX9_whoLies_34 rfl (lv_at hl 1 rfl) ?_
        exact retR hx hb hr hlocks hS (Option.some.inj hf) dX9_whoLies_35
      replace hf := ifn c1 hf
      refine lv_iload_n hx hb dX9_whoLies_10 rfl (lv_at hl 1 rfl) ?_
      refine lv_aload_n hx hb dX9_whoLies_11 rfl (lv_at hl 0 rfl) ?_
      refine lv_iload_n hx hb dX9_whoLies_12 rfl (lv_at hl 2 rfl) ?_
      obtain ⟨z2, hz2, hf⟩ := bnd hf
      refine cVR (As := [.int x2]) (rest := [.int x1]) ⟨hx, hb, hml, hown, hts⟩ (mX9_lieOf l D T h a u x2 z2 hz2) (cwV 1 hts gX9_whoLies_X9_lieOf rfl rfl rfl (by decide +kernel) ⟨Nat.le_of_ble_eq_true rfl, Nat.le_of_ble_eq_true rfl⟩) (va_recv hK.1 hP (ci := 9) (q0 := 0) rfl rfl) hP hK rfl hl.1 rfl (Nat.le_of_ble_eq_true rfl) dX9_whoLies_13 ⟨Nat.le_of_ble_eq_true rfl, Nat.le_of_ble_eq_true rfl⟩ hP hS (fun H locs hP hS => ?_)
      refine lv_if_le (tgt := 25) hx hb dX9_whoLies_16 (by decide) (fun c3 => ?_) (fun c3 => ?_)
      · replace hf := ifp c3 hf
        refine lv_iconst (v := 0) hx hb dX9_whoLies_25 (by decide) ?_
        refine lv_ior hx hb dX9_whoLies_26 ?_
        obtain ⟨t4, et4, hf⟩ := lett_e hf
        refine lv_eqi et4 ?_
        refine lv_istore_n (lv' := [(1, .int t4), (0, .ref h), (2, .int x2)]) hx hb dX9_whoLies_27 rfl hl (by decide) rfl (fun ls hl => ?_)
        obtain ⟨t5, et5, hf⟩ := lett_e hf
        refine lv_iinc (v := t5) (lv' := [(2, .int t5), (1, .int t4), (0, .ref h)]) hx hb dX9_whoLies_28 hl (k := 2) rfl (by rw [et5]; rfl) (by decide) rfl (fun ls hl => ?_)
        refine lv_goto (tgt := 4) hx hb dX9_whoLies_31 (by decide) ?_
        exact ih4 t4 t5 _ _ _ hf hP hS (lv_sub hl [2, 1, 0] rfl)
      replace hf := ifn c3 hf
      refine lv_iconst (v := 1) hx hb dX9_whoLies_19 (by decide) ?_
      refine lv_iload_n hx hb dX9_whoLies_20 rfl (lv_at hl 2 rfl) ?_
      refine lv_ishl hx hb dX9_whoLies_21 ?_
      refine lv_goto (tgt := 26) hx hb dX9_whoLies_22 (by decide) ?_
      refine lv_ior hx hb dX9_whoLies_26 ?_
      obtain ⟨t6, et6, hf⟩ := lett_e hf
      refine lv_eqi et6 ?_
      refine lv_istore_n (lv' := [(1, .int t6), (0, .ref h), (2, .int x2)]) hx hb dX9_whoLies_27 rfl hl (by decide) rfl (fun ls hl => ?_)
      obtain ⟨t7, et7, hf⟩ := lett_e hf
      refine lv_iinc (v := t7) (lv' := [(2, .int t7), (1, .int t6), (0, .ref h)]) hx hb dX9_whoLies_28 hl (k := 2) rfl (by rw [et7]; rfl) (by decide) rfl (fun ls hl => ?_)
      refine lv_goto (tgt := 4) hx hb dX9_whoLies_31 (by decide) ?_
      exact ih4 t6 t7 _ _ _ hf hP hS (lv_sub hl [2, 1, 0] rfl)
  unfold fX9_whoLies at hf
  refine lv_iconst (v := 0) hx hb dX9_whoLies_0 (by decide) ?_
  refine lv_istore_n (lv' := [(1, .int 0), (0, .ref h)]) hx hb dX9_whoLies_1 rfl hl (by decide) rfl (fun ls hl => ?_)
  refine lv_iconst (v := 0) hx hb dX9_whoLies_2 (by decide) ?_
  refine lv_istore_n (lv' := [(2, .int 0), (1, .int 0), (0, .ref h)]) hx hb dX9_whoLies_3 rfl hl (by decide) rfl (fun ls hl => ?_)
  exact L4 FU 0 0 _ _ _ hf hP hS (lv_sub hl [2, 1, 0] rfl)
def bX9_greatestLiar_L6 (u : St)  (lp6 : Int32 → Int32 → Int32 → Option (Int32)) (x1 : Int32) (x2 : Int32) (x3 : Int32) : Option (Int32) := if 16 ≤ x3 then some x2 else (fX9_lieOf u x3).bind fun z2 => if z2 ≤ x1 then lett (x3 + 1) fun t4 => lp6 x1 x2 t4 else (fX9_lieOf u x3).bind fun z5 => lett (x3 + 1) fun t6 => lp6 z5 x3 t6
def fX9_greatestLiar_L6 (u : St)  : Nat → Int32 → Int32 → Int32 → Option (Int32)
  | 0, _, _, _ => none
  | n + 1, x1, x2, x3 => bX9_greatestLiar_L6 u (fX9_greatestLiar_L6 u n) x1 x2 x3
def fX9_greatestLiar  (u : St)  : Option (Int32) := fX9_greatestLiar_L6 u FU 0 (-1) 0
set_option maxHeartbeats 4000000 in
set_option maxRecDepth 100000 in
theorem mX9_greatestLiar (l : Launch) (D : va_G) (T : Ty3) (h : Nat) (a : Nat → Nat) (u : St)  (res : Int32) (hf : fX9_greatestLiar u = some res) : Met l yX9_greatestLiar wsX9_greatestLiar ({ frames := 2, cells := 0, slots := 0, locals := 42 }) (PcR D T (kX9 T h a u) [.ref h]) (QR res) 0 0 noA := by
  refine Met.ofW (cc := cX9_greatestLiar) (maxL := 4) (ret := (some .int)) (by decide) rfl ?_
  intro p e s m args below meth c s₁ B hml hv
  obtain ⟨rfl, hP, hK⟩ := hv
  have hx := B.exec
  have hb := B.bytes
  have hr := B.returns
  have hts := atoms_spec (ws := wsX9_greatestLiar) B.pre
  have hown : s.vm.findClass RX9 = some m.cls := findClass_of_methodNamed B.named
  have hlocks := B.notSynchronized
  have hS : va_S noA s.heap s.heap [] := va_S.rf
  have hinX9 : ∀ w ∈ u_ws RX9 TX9 8, w ∈ wsX9_greatestLiar := fun w h => List.mem_cons_of_mem _ (List.mem_append_right _ h)
  have hl := lv_entry ([.ref h]) (n := 4) (Nat.le_of_ble_eq_true rfl)
  rw [lg_entry_eq]
  generalize (lg_sl ([.ref h]) ++ List.replicate (4 - (lg_sl ([.ref h])).length) Slot.unset).toArray = ls at hl ⊢
  have hl : lv_has ls 4 [(0, .ref h)] := hl
  have L6 : ∀ (n6 : Nat), ∀ (x1 : Int32) (x2 : Int32) (x3 : Int32) (H : Heap) (locs : List Loc) (ls : Array Slot), fX9_greatestLiar_L6 u n6 x1 x2 x3 = some res → va_P D vwCl (kX9 T h a u) H → va_S noA s.heap H locs → lv_has ls 4 [(0, .ref h), (1, .int x1), (2, .int x2), (3, .int x3)] → W p l e (headSpec wsX9_greatestLiar ({ frames := 2, cells := 0, slots := 0, locals := 42 })).room s m ([.ref h] : List Value).toArray below meth c H locs 0 0 (MQ below (QR res) ([.ref h] : List Value).toArray s 0 0 noA) (F0 m 6 ls []) := by
    intro n6
    induction n6 with
    | zero => intro x1 x2 x3 H locs ls hf; exact nns hf
    | succ n6 ih6 =>
      intro x1 x2 x3 H locs ls hf hP hS hl
      replace hf : bX9_greatestLiar_L6 u (fX9_greatestLiar_L6 u n6) x1 x2 x3 = some res := hf
      unfold bX9_greatestLiar_L6 at hf
      refine lv_iload_n hx hb dX9_greatestLiar_6 rfl (lv_at hl 3 rfl) ?_
      refine lv_bipush (v := 16) hx hb dX9_greatestLiar_7 (by decide) ?_
      refine lv_icmp_ge (tgt := 35) hx hb dX9_greatestLiar_9 (by decide) (fun c1 => ?_) (fun c1 => ?_)
      · replace hf := ifp c1 hf
        refine lv_iload_n hx hb dX9_greatestLiar_35 rfl (lv_at hl 2 rfl) ?_
        exact retR hx hb hr hlocks hS (Option.some.inj hf) dX9_greatestLiar_36
      replace hf := ifn c1 hf
      refine lv_aload_n hx hb dX9_greatestLiar_12 rfl (lv_at hl 0 rfl) ?_
      refine lv_iload_n hx hb dX9_greatestLiar_13 rfl (lv_at hl 3 rfl) ?_
      obtain ⟨z2, hz2, hf⟩ := bnd hf
      refine cVR (As := [.int x3]) (rest := []) ⟨hx, hb, hml, hown, hts⟩ (mX9_lieOf l D T h a u x3 z2 hz2) (cwV 1 hts gX9_greatestLiar_X9_lieOf rfl rfl rfl (by decide +kernel) ⟨Nat.le_of_ble_eq_true rfl, Nat.le_of_ble_eq_true rfl⟩) (va_recv hK.1 hP (ci := 9) (q0 := 0) rfl rfl) hP hK rfl hl.1 rfl (Nat.le_of_ble_eq_true rfl) dX9_greatestLiar_14 ⟨Nat.le_of_ble_eq_true rfl, Nat.le_of_ble_eq_true rfl⟩ hP hS (fun H locs hP hS => ?_)
      refine lv_iload_n hx hb dX9_greatestLiar_17 rfl (lv_at hl 1 rfl) ?_
      refine lv_icmp_le (tgt := 29) hx hb dX9_greatestLiar_18 (by decide) (fun c3 => ?_) (fun c3 => ?_)
      · replace hf := ifp c3 hf
        obtain ⟨t4, et4, hf⟩ := lett_e hf
        refine lv_iinc (v := t4) (lv' := [(3, .int t4), (0, .ref h), (1, .int x1), (2, .int x2)]) hx hb dX9_greatestLiar_29 hl (k := 3) rfl (by rw [et4]; rfl) (by decide) rfl (fun ls hl => ?_)
        refine lv_goto (tgt := 6) hx hb dX9_greatestLiar_32 (by decide) ?_
        exact ih6 x1 x2 t4 _ _ _ hf hP hS (lv_sub hl [1, 2, 3, 0] rfl)
      replace hf := ifn c3 hf
      refine lv_aload_n hx hb dX9_greatestLiar_21 rfl (lv_at hl 0 rfl) ?_
      refine lv_iload_n hx hb dX9_greatestLiar_22 rfl (lv_at hl 3 rfl) ?_
      obtain ⟨z5, hz5, hf⟩ := bnd hf
      refine cVR (As := [.int x3]) (rest := []) ⟨hx, hb, hml, hown, hts⟩ (mX9_lieOf l D T h a u x3 z5 hz5) (cwV 1 hts gX9_greatestLiar_X9_lieOf rfl rfl rfl (by decide +kernel) ⟨Nat.le_of_ble_eq_true rfl, Nat.le_of_ble_eq_true rfl⟩) (va_recv hK.1 hP (ci := 9) (q0 := 0) rfl rfl) hP hK rfl hl.1 rfl (Nat.le_of_ble_eq_true rfl) dX9_greatestLiar_23 ⟨Nat.le_of_ble_eq_true rfl, Nat.le_of_ble_eq_true rfl⟩ hP hS (fun H locs hP hS => ?_)
      refine lv_istore_n (lv' := [(1, .int z5), (0, .ref h), (2, .int x2), (3, .int x3)]) hx hb dX9_greatestLiar_26 rfl hl (by decide) rfl (fun ls hl => ?_)
      refine lv_iload_n hx hb dX9_greatestLiar_27 rfl (lv_at hl 3 rfl) ?_
      refine lv_istore_n (lv' := [(2, .int x3), (1, .int z5), (0, .ref h), (3, .int x3)]) hx hb dX9_greatestLiar_28 rfl hl (by decide) rfl (fun ls hl => ?_)
      obtain ⟨t6, et6, hf⟩ := lett_e hf
      refine lv_iinc (v := t6) (lv' := [(3, .int t6), (2, .int x3), (1, .int z5), (0, .ref h)]) hx hb dX9_greatestLiar_29 hl (k := 3) rfl (by rw [et6]; rfl) (by decide) rfl (fun ls hl => ?_)
      refine lv_goto (tgt := 6) hx hb dX9_greatestLiar_32 (by decide) ?_
      exact ih6 z5 x3 t6 _ _ _ hf hP hS (lv_sub hl [3, 2, 1, 0] rfl)
  unfold fX9_greatestLiar at hf
  refine lv_iconst (v := 0) hx hb dX9_greatestLiar_0 (by decide) ?_
  refine lv_istore_n (lv' := [(1, .int 0), (0, .ref h)]) hx hb dX9_greatestLiar_1 rfl hl (by decide) rfl (fun ls hl => ?_)
  refine lv_iconst (v := (-1)) hx hb dX9_greatestLiar_2 (by decide) ?_
  refine lv_istore_n (lv' := [(2, .int (-1)), (1, .int 0), (0, .ref h)]) hx hb dX9_greatestLiar_3 rfl hl (by decide) rfl (fun ls hl => ?_)
  refine lv_iconst (v := 0) hx hb dX9_greatestLiar_4 (by decide) ?_
  refine lv_istore_n (lv' := [(3, .int 0), (2, .int (-1)), (1, .int 0), (0, .ref h)]) hx hb dX9_greatestLiar_5 rfl hl (by decide) rfl (fun ls hl => ?_)
  exact L6 FU 0 (-1) 0 _ _ _ hf hP hS (lv_sub hl [3, 2, 1, 0] rfl)
def bX9_partOf_L36 (u : St)  (lp36 : Int32 → Int32 → Int32 → Int32 → Int32 → Int32 → Int32 → Option (Int32)) (x1 : Int32) (x2 : Int32) (x3 : Int32) (x4 : Int32) (x5 : Int32) (x6 : Int32) (x7 : Int32) : Option (Int32) := if 16 ≤ x7 then gd x2 16 <| dz x3 <| if x5 ≤ x6 then some (((x1 * (u 0 (ix x2))) / x3) + 0) else some (((x1 * (u 0 (ix x2))) / x3) + 1) else lett (fX11_has (u 4 0) x7) fun z5 => if z5 = 0 then lett (x7 + 1) fun t7 => lp36 x1 x2 x3 x4 x5 x6 t7 else gd x7 16 <| dz x3 <| lett (jrem (x1 * (u 0 (ix x7))) x3) fun t8 => gd x7 16 <| dz x3 <| lett (x5 - ((x1 * (u 0 (ix x7))) / x3)) fun t9 => if x4 < t8 then lett (x6 + 1) fun t11 => lett (x7 + 1) fun t12 => lp36 x1 x2 x3 x4 t9 t11 t12 else if t8 = x4 then if x2 ≤ x7 then lett (x6 + 0) fun t17 => lett (x7 + 1) fun t18 => lp36 x1 x2 x3 x4 t9 t17 t18 else lett (x6 + 1) fun t19 => lett (x7 + 1) fun t20 => lp36 x1 x2 x3 x4 t9 t19 t20 else lett (x6 + 0) fun t14 => lett (x7 + 1) fun t15 => lp36 x1 x2 x3 x4 t9 t14 t15
def fX9_partOf_L36 (u : St)  : Nat → Int32 → Int32 → Int32 → Int32 → Int32 → Int32 → Int32 → Option (Int32)
  | 0, _, _, _, _, _, _, _ => none
  | n + 1, x1, x2, x3, x4, x5, x6, x7 => bX9_partOf_L36 u (fX9_partOf_L36 u n) x1 x2 x3 x4 x5 x6 x7
def fX9_partOf  (u : St) (p1 : Int32) (p2 : Int32) : Option (Int32) := (fX9_total u (u 0)).bind fun z25 => if z25 = 0 then some 0 else gd p2 16 <| dz z25 <| lett (jrem (p1 * (u 0 (ix p2))) z25) fun t27 => fX9_partOf_L36 u FU p1 p2 z25 t27 p1 0 0
set_option maxHeartbeats 4000000 in
set_option maxRecDepth 100000 in
theorem mX9_partOf (l : Launch) (D : va_G) (T : Ty3) (h : Nat) (a : Nat → Nat) (u : St) (p1 : Int32) (p2 : Int32) (res : Int32) (hf : fX9_partOf u p1 p2 = some res) : Met l yX9_partOf wsX9_partOf ({ frames := 2, cells := 0, slots := 0, locals := 44 }) (PcR D T (kX9 T h a u) [.ref h, .int p1, .int p2]) (QR res) 0 0 noA := by
  refine Met.ofW (cc := cX9_partOf) (maxL := 9) (ret := (some .int)) (by decide) rfl ?_
  intro p e s m args below meth c s₁ B hml hv
  obtain ⟨rfl, hP, hK⟩ := hv
  have hx := B.exec
  have hb := B.bytes
  have hr := B.returns
  have hts := atoms_spec (ws := wsX9_partOf) B.pre
  have hown : s.vm.findClass RX9 = some m.cls := findClass_of_methodNamed B.named
  have hlocks := B.notSynchronized
  have hS : va_S noA s.heap s.heap [] := va_S.rf
  have hinX9 : ∀ w ∈ u_ws RX9 TX9 8, w ∈ wsX9_partOf := fun w h => List.mem_cons_of_mem _ (List.mem_append_right _ h)
  have hl := lv_entry ([.ref h, .int p1, .int p2]) (n := 9) (Nat.le_of_ble_eq_true rfl)
  rw [lg_entry_eq]
  generalize (lg_sl ([.ref h, .int p1, .int p2]) ++ List.replicate (9 - (lg_sl ([.ref h, .int p1, .int p2])).length) Slot.unset).toArray = ls at hl ⊢
  have hl : lv_has ls 9 [(0, .ref h), (1, .int p1), (2, .int p2)] := hl
  have L36 : ∀ (n36 : Nat), ∀ (x1 : Int32) (x2 : Int32) (x3 : Int32) (x4 : Int32) (x5 : Int32) (x6 : Int32) (x7 : Int32) (H : Heap) (locs : List Loc) (ls : Array Slot), fX9_partOf_L36 u n36 x1 x2 x3 x4 x5 x6 x7 = some res → va_P D vwCl (kX9 T h a u) H → va_S noA s.heap H locs → lv_has ls 9 [(0, .ref h), (1, .int x1), (2, .int x2), (3, .int x3), (4, .int x4), (5, .int x5), (6, .int x6), (7, .int x7)] → W p l e (headSpec wsX9_partOf ({ frames := 2, cells := 0, slots := 0, locals := 44 })).room s m ([.ref h, .int p1, .int p2] : List Value).toArray below meth c H locs 0 0 (MQ below (QR res) ([.ref h, .int p1, .int p2] : List Value).toArray s 0 0 noA) (F0 m 36 ls []) := by
    intro n36
    induction n36 with
    | zero => intro x1 x2 x3 x4 x5 x6 x7 H locs ls hf; exact nns hf
    | succ n36 ih36 =>
      intro x1 x2 x3 x4 x5 x6 x7 H locs ls hf hP hS hl
      replace hf : bX9_partOf_L36 u (fX9_partOf_L36 u n36) x1 x2 x3 x4 x5 x6 x7 = some res := hf
      unfold bX9_partOf_L36 at hf
      refine lv_iload hx hb dX9_partOf_36 (lv_at hl 7 rfl) ?_
      refine lv_bipush (v := 16) hx hb dX9_partOf_38 (by decide) ?_
      refine lv_icmp_ge (tgt := 120) hx hb dX9_partOf_40 (by decide) (fun c1 => ?_) (fun c1 => ?_)
      · replace hf := ifp c1 hf
        refine lv_iload_n hx hb dX9_partOf_120 rfl (lv_at hl 1 rfl) ?_
        refine lv_aload_n hx hb dX9_partOf_121 rfl (lv_at hl 0 rfl) ?_
        refine va_get (D := D) (ci := 9) (v := .ref (a 0)) (C := RX9) (T := TX9) (N := 8) hx hb hts hinX9 hown hK.1 hP 0 rfl rfl 0 (by decide) (hts (.fieldLink RX9 9 "RopeScale$Walk" "weight" "[I") (List.mem_of_getElem? (i := 1) rfl)) (fun _ h9 => h9) rfl dX9_partOf_122 ?_
        refine lv_iload_n hx hb dX9_partOf_125 rfl (lv_at hl 2 rfl) ?_
        obtain ⟨h4, hf⟩ := gd_e hf
        refine va_iald hx hb hK.1 hP 1 0 rfl rfl h4 dX9_partOf_126 ?_
        refine lv_imul hx hb dX9_partOf_127 ?_
        refine lv_iload_n hx hb dX9_partOf_128 rfl (lv_at hl 3 rfl) ?_
        obtain ⟨h3, hf⟩ := dz_e hf
        refine lv_idiv hx hb dX9_partOf_129 h3 ?_
        refine lv_iload hx hb dX9_partOf_130 (lv_at hl 6 rfl) ?_
        refine lv_iload hx hb dX9_partOf_132 (lv_at hl 5 rfl) ?_
        refine lv_icmp_ge (tgt := 141) hx hb dX9_partOf_134 (by decide) (fun c2 => ?_) (fun c2 => ?_)
        · replace hf := ifp c2 hf
          refine lv_iconst (v := 0) hx hb dX9_partOf_141 (by decide) ?_
          refine lv_iadd hx hb dX9_partOf_142 ?_
          exact retR hx hb hr hlocks hS (Option.some.inj hf) dX9_partOf_143
        replace hf := ifn c2 hf
        refine lv_iconst (v := 1) hx hb dX9_partOf_137 (by decide) ?_
        refine lv_goto (tgt := 142) hx hb dX9_partOf_138 (by decide) ?_
        refine lv_iadd hx hb dX9_partOf_142 ?_
        exact retR hx hb hr hlocks hS (Option.some.inj hf) dX9_partOf_143
      replace hf := ifn c1 hf
      refine lv_aload_n hx hb dX9_partOf_43 rfl (lv_at hl 0 rfl) ?_
      refine va_get (D := D) (ci := 9) (v := .int (u 4 0)) (C := RX9) (T := TX9) (N := 8) hx hb hts hinX9 hown hK.1 hP 0 rfl rfl 4 (by decide) (hts (.fieldLink RX9 24 "RopeScale$Walk" "told" "I") (List.mem_of_getElem? (i := 2) rfl)) (fun _ h9 => h9) rfl dX9_partOf_44 ?_
      refine lv_iload hx hb dX9_partOf_47 (lv_at hl 7 rfl) ?_
      obtain ⟨z5, hz5, hf⟩ := lett_e hf
      refine cNR (As := [.int (u 4 0), .int x7]) (rest := []) ⟨hx, hb, hml, hown, hts⟩ (mX11_has l D T (u 4 0) x7 z5 hz5.symm) ⟨va_cnB (host := "RopeScale") (index := 47) 2 hts gX9_partOf_X11_has_n47 rfl rfl rfl (hK.2 _ (List.mem_of_getElem? (i := 20) rfl)) (hts (.initialized RX11) (List.mem_of_getElem? (i := 9) rfl)) (by decide +kernel) ⟨Nat.le_of_ble_eq_true rfl, Nat.le_of_ble_eq_true rfl⟩, (hts (.static yX11_has) (List.mem_of_getElem? (i := 8) rfl)), trivial⟩ P0 hK rfl hl.1 rfl (Nat.le_of_ble_eq_true rfl) dX9_partOf_49 ⟨Nat.le_of_ble_eq_true rfl, Nat.le_of_ble_eq_true rfl⟩ hP hS (fun H locs hP hS => ?_)
      refine lv_if_eq (tgt := 114) hx hb dX9_partOf_52 (by decide) (fun c6 => ?_) (fun c6 => ?_)
      · replace hf := ifp c6 hf
        obtain ⟨t7, et7, hf⟩ := lett_e hf
        refine lv_iinc (v := t7) (lv' := [(7, .int t7), (0, .ref h), (1, .int x1), (2, .int x2), (3, .int x3), (4, .int x4), (5, .int x5), (6, .int x6)]) hx hb dX9_partOf_114 hl (k := 7) rfl (by rw [et7]; rfl) (by decide) rfl (fun ls hl => ?_)
        refine lv_goto (tgt := 36) hx hb dX9_partOf_117 (by decide) ?_
        exact ih36 x1 x2 x3 x4 x5 x6 t7 _ _ _ hf hP hS (lv_sub hl [1, 2, 3, 4, 5, 6, 7, 0] rfl)
      replace hf := ifn c6 hf
      refine lv_iload_n hx hb dX9_partOf_55 rfl (lv_at hl 1 rfl) ?_
      refine lv_aload_n hx hb dX9_partOf_56 rfl (lv_at hl 0 rfl) ?_
      refine va_get (D := D) (ci := 9) (v := .ref (a 0)) (C := RX9) (T := TX9) (N := 8) hx hb hts hinX9 hown hK.1 hP 0 rfl rfl 0 (by decide) (hts (.fieldLink RX9 9 "RopeScale$Walk" "weight" "[I") (List.mem_of_getElem? (i := 1) rfl)) (fun _ h9 => h9) rfl dX9_partOf_57 ?_
      refine lv_iload hx hb dX9_partOf_60 (lv_at hl 7 rfl) ?_
      obtain ⟨h24, hf⟩ := gd_e hf
      refine va_iald hx hb hK.1 hP 1 0 rfl rfl h24 dX9_partOf_62 ?_
      refine lv_imul hx hb dX9_partOf_63 ?_
      refine lv_iload_n hx hb dX9_partOf_64 rfl (lv_at hl 3 rfl) ?_
      obtain ⟨h23, hf⟩ := dz_e hf
      refine lv_irem hx hb dX9_partOf_65 h23 ?_
      obtain ⟨t8, et8, hf⟩ := lett_e hf
      refine lv_eqi et8 ?_
      refine lv_istore (lv' := [(8, .int t8), (0, .ref h), (1, .int x1), (2, .int x2), (3, .int x3), (4, .int x4), (5, .int x5), (6, .int x6), (7, .int x7)]) hx hb dX9_partOf_66 hl (by decide) rfl (fun ls hl => ?_)
      refine lv_iload hx hb dX9_partOf_68 (lv_at hl 6 rfl) ?_
      refine lv_iload_n hx hb dX9_partOf_70 rfl (lv_at hl 2 rfl) ?_
      refine lv_aload_n hx hb dX9_partOf_71 rfl (lv_at hl 1 rfl) ?_
      refine va_get (D := D) (ci := 9) (v := .ref (a 0)) (C := RX9) (T := TX9) (N := 8) hx hb hts hinX9 hown hK.1 hP 0 rfl rfl 0 (by decide) (hts (.fieldLink RX9 9 "RopeScale$Walk" "weight" "[I") (List.mem_of_getElem? (i := 1) rfl)) (fun _ h9 => h9) rfl dX9_partOf_72 ?_
      refine lv_iload hx hb dX9_partOf_75 (lv_at hl 8 rfl) ?_
      obtain ⟨h22, hf⟩ := gd_e hf
      refine va_iald hx hb hK.1 hP 1 0 rfl rfl h22 dX9_partOf_77 ?_
      refine lv_imul hx hb dX9_partOf_78 ?_
      refine lv_iload_n hx hb dX9_partOf_79 rfl (lv_at hl 4 rfl) ?_
      obtain ⟨h21, hf⟩ := dz_e hf
      refine lv_idiv hx hb dX9_partOf_80 h21 ?_
      refine lv_isub hx hb dX9_partOf_81 ?_
      obtain ⟨t9, et9, hf⟩ := lett_e hf
      refine lv_eqi et9 ?_
      refine lv_istore (lv' := [(5, .int t9), (8, .int t8), (0, .ref h), (1, .int x1), (2, .int x2), (3, .int x3), (4, .int x4), (6, .int x6), (7, .int x7)]) hx hb dX9_partOf_82 hl (by decide) rfl (fun ls hl => ?_)
      refine lv_iload hx hb dX9_partOf_84 (lv_at hl 7 rfl) ?_
      refine lv_iload hx hb dX9_partOf_86 (lv_at hl 1 rfl) ?_
      refine lv_iload hx hb dX9_partOf_88 (lv_at hl 6 rfl) ?_
      refine lv_icmp_gt (tgt := 106) hx hb dX9_partOf_90 (by decide) (fun c10 => ?_) (fun c10 => ?_)
      · replace hf := ifp c10 hf
        refine lv_iconst (v := 1) hx hb dX9_partOf_106 (by decide) ?_
        refine lv_goto (tgt := 111) hx hb dX9_partOf_107 (by decide) ?_
        refine lv_iadd hx hb dX9_partOf_111 ?_
        obtain ⟨t11, et11, hf⟩ := lett_e hf
        refine lv_eqi et11 ?_
        refine lv_istore (lv' := [(6, .int t11), (5, .int t9), (8, .int t8), (0, .ref h), (1, .int x1), (2, .int x2), (3, .int x3), (4, .int x4), (7, .int x7)]) hx hb dX9_partOf_112 hl (by decide) rfl (fun ls hl => ?_)
        obtain ⟨t12, et12, hf⟩ := lett_e hf
        refine lv_iinc (v := t12) (lv' := [(7, .int t12), (6, .int t11), (5, .int t9), (8, .int t8), (0, .ref h), (1, .int x1), (2, .int x2), (3, .int x3), (4, .int x4)]) hx hb dX9_partOf_114 hl (k := 8) rfl (by rw [et12]; rfl) (by decide) rfl (fun ls hl => ?_)
        refine lv_goto (tgt := 36) hx hb dX9_partOf_117 (by decide) ?_
        exact ih36 x1 x2 x3 x4 t9 t11 t12 _ _ _ hf hP hS (lv_sub hl [4, 5, 6, 7, 8, 2, 1, 0] rfl)
      replace hf := ifn c10 hf
      refine lv_iload hx hb dX9_partOf_93 (lv_at hl 1 rfl) ?_
      refine lv_iload hx hb dX9_partOf_95 (lv_at hl 6 rfl) ?_
      refine lv_icmp_ne (tgt := 110) hx hb dX9_partOf_97 (by decide) (fun c13 => ?_) (fun c13 => ?_)
      · replace hf := ifn c13 hf
        refine lv_iconst (v := 0) hx hb dX9_partOf_110 (by decide) ?_
        refine lv_iadd hx hb dX9_partOf_111 ?_
        obtain ⟨t14, et14, hf⟩ := lett_e hf
        refine lv_eqi et14 ?_
        refine lv_istore (lv' := [(6, .int t14), (5, .int t9), (8, .int t8), (0, .ref h), (1, .int x1), (2, .int x2), (3, .int x3), (4, .int x4), (7, .int x7)]) hx hb dX9_partOf_112 hl (by decide) rfl (fun ls hl => ?_)
        obtain ⟨t15, et15, hf⟩ := lett_e hf
        refine lv_iinc (v := t15) (lv' := [(7, .int t15), (6, .int t14), (5, .int t9), (8, .int t8), (0, .ref h), (1, .int x1), (2, .int x2), (3, .int x3), (4, .int x4)]) hx hb dX9_partOf_114 hl (k := 8) rfl (by rw [et15]; rfl) (by decide) rfl (fun ls hl => ?_)
        refine lv_goto (tgt := 36) hx hb dX9_partOf_117 (by decide) ?_
        exact ih36 x1 x2 x3 x4 t9 t14 t15 _ _ _ hf hP hS (lv_sub hl [4, 5, 6, 7, 8, 2, 1, 0] rfl)
      replace hf := ifp c13 hf
      refine lv_iload hx hb dX9_partOf_100 (lv_at hl 8 rfl) ?_
      refine lv_iload_n hx hb dX9_partOf_102 rfl (lv_at hl 4 rfl) ?_
      refine lv_icmp_ge (tgt := 110) hx hb dX9_partOf_103 (by decide) (fun c16 => ?_) (fun c16 => ?_)
      · replace hf := ifp c16 hf
        refine lv_iconst (v := 0) hx hb dX9_partOf_110 (by decide) ?_
        refine lv_iadd hx hb dX9_partOf_111 ?_
        obtain ⟨t17, et17, hf⟩ := lett_e hf
        refine lv_eqi et17 ?_
        refine lv_istore (lv' := [(6, .int t17), (5, .int t9), (8, .int t8), (0, .ref h), (1, .int x1), (2, .int x2), (3, .int x3), (4, .int x4), (7, .int x7)]) hx hb dX9_partOf_112 hl (by decide) rfl (fun ls hl => ?_)
        obtain ⟨t18, et18, hf⟩ := lett_e hf
        refine lv_iinc (v := t18) (lv' := [(7, .int t18), (6, .int t17), (5, .int t9), (8, .int t8), (0, .ref h), (1, .int x1), (2, .int x2), (3, .int x3), (4, .int x4)]) hx hb dX9_partOf_114 hl (k := 8) rfl (by rw [et18]; rfl) (by decide) rfl (fun ls hl => ?_)
        refine lv_goto (tgt := 36) hx hb dX9_partOf_117 (by decide) ?_
        exact ih36 x1 x2 x3 x4 t9 t17 t18 _ _ _ hf hP hS (lv_sub hl [4, 5, 6, 7, 8, 2, 1, 0] rfl)
      replace hf := ifn c16 hf
      refine lv_iconst (v := 1) hx hb dX9_partOf_106 (by decide) ?_
      refine lv_goto (tgt := 111) hx hb dX9_partOf_107 (by decide) ?_
      refine lv_iadd hx hb dX9_partOf_111 ?_
      obtain ⟨t19, et19, hf⟩ := lett_e hf
      refine lv_eqi et19 ?_
      refine lv_istore (lv' := [(6, .int t19), (5, .int t9), (8, .int t8), (0, .ref h), (1, .int x1), (2, .int x2), (3, .int x3), (4, .int x4), (7, .int x7)]) hx hb dX9_partOf_112 hl (by decide) rfl (fun ls hl => ?_)
      obtain ⟨t20, et20, hf⟩ := lett_e hf
      refine lv_iinc (v := t20) (lv' := [(7, .int t20), (6, .int t19), (5, .int t9), (8, .int t8), (0, .ref h), (1, .int x1), (2, .int x2), (3, .int x3), (4, .int x4)]) hx hb dX9_partOf_114 hl (k := 8) rfl (by rw [et20]; rfl) (by decide) rfl (fun ls hl => ?_)
      refine lv_goto (tgt := 36) hx hb dX9_partOf_117 (by decide) ?_
      exact ih36 x1 x2 x3 x4 t9 t19 t20 _ _ _ hf hP hS (lv_sub hl [4, 5, 6, 7, 8, 2, 1, 0] rfl)
  unfold fX9_partOf at hf
  refine lv_aload_n hx hb dX9_partOf_0 rfl (lv_at hl 0 rfl) ?_
  refine lv_aload_n hx hb dX9_partOf_1 rfl (lv_at hl 0 rfl) ?_
  refine va_get (D := D) (ci := 9) (v := .ref (a 0)) (C := RX9) (T := TX9) (N := 8) hx hb hts hinX9 hown hK.1 hP 0 rfl rfl 0 (by decide) (hts (.fieldLink RX9 9 "RopeScale$Walk" "weight" "[I") (List.mem_of_getElem? (i := 1) rfl)) (fun _ h9 => h9) rfl dX9_partOf_2 ?_
  obtain ⟨z25, hz25, hf⟩ := bnd hf
  refine cVR (As := [.ref (a 0)]) (rest := []) ⟨hx, hb, hml, hown, hts⟩ (mX9_total l D T h a u (a 0) (u 0) z25 hz25) (cwV 1 hts gX9_partOf_X9_total rfl rfl rfl (by decide +kernel) ⟨Nat.le_of_ble_eq_true rfl, Nat.le_of_ble_eq_true rfl⟩) (va_recv hK.1 hP (ci := 9) (q0 := 0) rfl rfl) (hP.sub (ws' := oX9 T h a u ++ [(a 0, .inl (T.1, 16, .inl (u 0)))]) [0, 1] rfl) hK rfl hl.1 rfl (Nat.le_of_ble_eq_true rfl) dX9_partOf_5 ⟨Nat.le_of_ble_eq_true rfl, Nat.le_of_ble_eq_true rfl⟩ hP hS (fun H locs hP hS => ?_)
  refine lv_istore_n (lv' := [(3, .int z25), (0, .ref h), (1, .int p1), (2, .int p2)]) hx hb dX9_partOf_8 rfl hl (by decide) rfl (fun ls hl => ?_)
  refine lv_iload_n hx hb dX9_partOf_9 rfl (lv_at hl 0 rfl) ?_
  refine lv_if_ne (tgt := 15) hx hb dX9_partOf_10 (by decide) (fun c26 => ?_) (fun c26 => ?_)
  · replace hf := ifn c26 hf
    refine lv_iload_n hx hb dX9_partOf_15 rfl (lv_at hl 2 rfl) ?_
    refine lv_aload_n hx hb dX9_partOf_16 rfl (lv_at hl 1 rfl) ?_
    refine va_get (D := D) (ci := 9) (v := .ref (a 0)) (C := RX9) (T := TX9) (N := 8) hx hb hts hinX9 hown hK.1 hP 0 rfl rfl 0 (by decide) (hts (.fieldLink RX9 9 "RopeScale$Walk" "weight" "[I") (List.mem_of_getElem? (i := 1) rfl)) (fun _ h9 => h9) rfl dX9_partOf_17 ?_
    refine lv_iload_n hx hb dX9_partOf_20 rfl (lv_at hl 3 rfl) ?_
    obtain ⟨h29, hf⟩ := gd_e hf
    refine va_iald hx hb hK.1 hP 1 0 rfl rfl h29 dX9_partOf_21 ?_
    refine lv_imul hx hb dX9_partOf_22 ?_
    refine lv_iload_n hx hb dX9_partOf_23 rfl (lv_at hl 0 rfl) ?_
    obtain ⟨h28, hf⟩ := dz_e hf
    refine lv_irem hx hb dX9_partOf_24 h28 ?_
    obtain ⟨t27, et27, hf⟩ := lett_e hf
    refine lv_eqi et27 ?_
    refine lv_istore (lv' := [(4, .int t27), (3, .int z25), (0, .ref h), (1, .int p1), (2, .int p2)]) hx hb dX9_partOf_25 hl (by decide) rfl (fun ls hl => ?_)
    refine lv_iload_n hx hb dX9_partOf_27 rfl (lv_at hl 3 rfl) ?_
    refine lv_istore (lv' := [(5, .int p1), (4, .int t27), (3, .int z25), (0, .ref h), (1, .int p1), (2, .int p2)]) hx hb dX9_partOf_28 hl (by decide) rfl (fun ls hl => ?_)
    refine lv_iconst (v := 0) hx hb dX9_partOf_30 (by decide) ?_
    refine lv_istore (lv' := [(6, .int 0), (5, .int p1), (4, .int t27), (3, .int z25), (0, .ref h), (1, .int p1), (2, .int p2)]) hx hb dX9_partOf_31 hl (by decide) rfl (fun ls hl => ?_)
    refine lv_iconst (v := 0) hx hb dX9_partOf_33 (by decide) ?_
    refine lv_istore (lv' := [(7, .int 0), (6, .int 0), (5, .int p1), (4, .int t27), (3, .int z25), (0, .ref h), (1, .int p1), (2, .int p2)]) hx hb dX9_partOf_34 hl (by decide) rfl (fun ls hl => ?_)
    exact L36 FU p1 p2 z25 t27 p1 0 0 _ _ _ hf hP hS (lv_sub hl [5, 6, 7, 4, 3, 2, 1, 0] rfl)
  replace hf := ifp c26 hf
  refine lv_iconst (v := 0) hx hb dX9_partOf_13 (by decide) ?_
  exact retR hx hb hr hlocks hS (Option.some.inj hf) dX9_partOf_14
def fX10_readSide_J58   (vc : St) (x2 : Int32) : Option (Int32 × St) := if x2 = 0 then lett (fX1_failHere vc 1) fun z2 => some (x2, z2) else some (x2, vc)
def fX10_readSide_J41 (utp : St) (lp4 : St → Int32 → Int32 → Int32 → Option (Int32 × St)) (vc : St) (x1 : Int32) (x2 : Int32) (x3 : Int32) (x4 : Int32) : Option (Int32 × St) := lett (x2 ||| (jshl 1 x4)) fun t3 => (fX1_next vc utp).bind fun z4 => lett (x3 + 1) fun t5 => lp4 z4 x1 t3 t5
def bX10_readSide_L4 (utp : St)  (lp4 : St → Int32 → Int32 → Int32 → Option (Int32 × St)) (vc : St) (x1 : Int32) (x2 : Int32) (x3 : Int32) : Option (Int32 × St) := if 16 < x3 then fX10_readSide_J58 vc x2 else (fX1_seenWalker vc).bind fun z7 => if z7 = (-1) then fX10_readSide_J58 vc x2 else (fX1_seenWalker vc).bind fun z9 => lett (fX11_has (x2 ||| x1) z9) fun z10 => if z10 = 0 then fX10_readSide_J41 utp lp4 vc x1 x2 x3 z9 else lett (fX1_failHere vc 6) fun z12 => fX10_readSide_J41 utp lp4 z12 x1 x2 x3 z9
def fX10_readSide_L4 (utp : St)  : Nat → St → Int32 → Int32 → Int32 → Option (Int32 × St)
  | 0, _, _, _, _ => none
  | n + 1, vc, x1, x2, x3 => bX10_readSide_L4 utp (fX10_readSide_L4 utp n) vc x1 x2 x3
def fX10_readSide  (uc : St) (utp : St) (p1 : Int32) : Option (Int32 × St) := fX10_readSide_L4 utp FU uc p1 0 0
set_option maxHeartbeats 4000000 in
set_option maxRecDepth 100000 in
theorem mX10_readSide (l : Launch) (D : va_G) (T : Ty3) (hc : Nat) (ac : Nat → Nat) (uc : St) (atp : Nat → Nat) (utp : St) (sz : Nat) (p1 : Int32) (res : Int32 × St) (hf : fX10_readSide uc utp p1 = some res) : Met l yX10_readSide wsX10_readSide ({ frames := 3, cells := 0, slots := 0, locals := 63 }) (PcM D T (kX1 T hc ac uc ++ kX8 T (ac 0) atp utp) sz [.ref hc, .int p1]) (QM D (kX1 T hc ac uc ++ kX8 T (ac 0) atp utp) sz res.1 (kX1 T hc ac res.2 ++ kX8 T (ac 0) atp utp)) 0 0 (va_A (kX1 T hc ac uc ++ kX8 T (ac 0) atp utp) sz) := by
  refine Met.ofW (cc := cX10_readSide) (maxL := 5) (ret := (some .int)) (by decide) rfl ?_
  intro p e s m args below meth c s₁ B hml hv
  obtain ⟨rfl, hsz, hP, hK, hD0⟩ := hv
  have hx := B.exec
  have hb := B.bytes
  have hr := B.returns
  have hts := atoms_spec (ws := wsX10_readSide) B.pre
  have hown : s.vm.findClass RX10 = some m.cls := findClass_of_methodNamed B.named
  have hlocks := B.notSynchronized
  subst hsz
  have hD := hD0.self (sz := s.heap.size)
  have hA : ∀ q : Nat, s.heap.size ≤ q → va_A (kX1 T hc ac uc ++ kX8 T (ac 0) atp utp) s.heap.size q := fun q h => Or.inr h
  have hS : va_S (va_A (kX1 T hc ac uc ++ kX8 T (ac 0) atp utp) s.heap.size) s.heap s.heap [] := va_S.rf
  have hinX1 : ∀ w ∈ u_ws RX1 TX1 5, w ∈ wsX10_readSide := fun w h => List.mem_cons_of_mem _ (List.mem_append_left _ (List.mem_append_right _ h))
  have hinX8 : ∀ w ∈ u_ws RX8 TX8 2, w ∈ wsX10_readSide := fun w h => List.mem_cons_of_mem _ (List.mem_append_right _ h)
  have hl := lv_entry ([.ref hc, .int p1]) (n := 5) (Nat.le_of_ble_eq_true rfl)
  rw [lg_entry_eq]
  generalize (lg_sl ([.ref hc, .int p1]) ++ List.replicate (5 - (lg_sl ([.ref hc, .int p1])).length) Slot.unset).toArray = ls at hl ⊢
  have hl : lv_has ls 5 [(0, .ref hc), (1, .int p1)] := hl
  have J58 : ∀ (vc : St) (x2 : Int32) (H : Heap) (locs : List Loc) (ls : Array Slot), fX10_readSide_J58  vc x2 = some res → va_P D vwCl (kX1 T hc ac vc ++ kX8 T (ac 0) atp utp) H → va_D (va_A (kX1 T hc ac uc ++ kX8 T (ac 0) atp utp) s.heap.size) (kX1 T hc ac vc ++ kX8 T (ac 0) atp utp) → va_S (va_A (kX1 T hc ac uc ++ kX8 T (ac 0) atp utp) s.heap.size) s.heap H locs → lv_has ls 5 [(0, .ref hc), (2, .int x2)] → W p l e (headSpec wsX10_readSide ({ frames := 3, cells := 0, slots := 0, locals := 63 })).room s m ([.ref hc, .int p1] : List Value).toArray below meth c H locs 0 0 (MQ below (QM D (kX1 T hc ac uc ++ kX8 T (ac 0) atp utp) s.heap.size res.1 (kX1 T hc ac res.2 ++ kX8 T (ac 0) atp utp)) ([.ref hc, .int p1] : List Value).toArray s 0 0 (va_A (kX1 T hc ac uc ++ kX8 T (ac 0) atp utp) s.heap.size)) (F0 m 58 ls []) := by
    intro vc x2 H locs ls hf hP hD hS hl
    unfold fX10_readSide_J58 at hf
    refine lv_iload_n hx hb dX10_readSide_58 rfl (lv_at hl 1 rfl) ?_
    refine lv_if_ne (tgt := 67) hx hb dX10_readSide_59 (by decide) (fun c1 => ?_) (fun c1 => ?_)
    · replace hf := ifn c1 hf
      refine lv_iload_n hx hb dX10_readSide_67 rfl (lv_at hl 1 rfl) ?_
      have e9 := Option.some.inj hf
      exact retM hx hb hr hlocks hP hD hS (congrArg (fun z => z.1) e9) (congrArg (fun z => (kX1 T hc ac z.2 ++ kX8 T (ac 0) atp utp : va_W)) e9) dX10_readSide_68
    replace hf := ifp c1 hf
    refine lv_aload_n hx hb dX10_readSide_62 rfl (lv_at hl 0 rfl) ?_
    refine lv_iconst (v := 1) hx hb dX10_readSide_63 (by decide) ?_
    obtain ⟨z2, hz2, hf⟩ := lett_e hf
    have hPc := hP.sub (ws' := kX1 T hc ac vc) [0] rfl
    have hDc := hD.sub (ws' := kX1 T hc ac vc) [0] (by decide) rfl
    have hFc9 := va_free (wc := kX1 T hc ac vc) hD hS hA [0] rfl
    refine cVMv (As := [.int 1]) (rest := []) ⟨hx, hb, hml, hown, hts⟩ (mX1_failHere l D T hc ac vc _ 1 z2 hz2.symm) (cwV 1 hts gX10_readSide_X1_failHere rfl rfl rfl (by decide +kernel) ⟨Nat.le_of_ble_eq_true rfl, Nat.le_of_ble_eq_true rfl⟩) (va_recv hK.1 hP (ci := 1) (q0 := 0) rfl rfl) hPc hK rfl hl.1 rfl (Nat.le_of_ble_eq_true rfl) dX10_readSide_64 ⟨Nat.le_of_ble_eq_true rfl, Nat.le_of_ble_eq_true rfl⟩ hDc hFc9 hS (fun H9 locs hP1 hD1 hk1 hS => ?_)
    obtain ⟨hP, hD⟩ := putAll_P (w1 := kX1 T hc ac z2) hP hD [0] rfl (by decide) hk1 hP1 rfl
    generalize H9 = H at hP hS ⊢
    have hP : va_P D vwCl (kX1 T hc ac z2 ++ kX8 T (ac 0) atp utp) H := by exact hP
    have hD : va_D (va_A (kX1 T hc ac uc ++ kX8 T (ac 0) atp utp) s.heap.size) (kX1 T hc ac z2 ++ kX8 T (ac 0) atp utp) := by exact hD
    refine lv_iload_n hx hb dX10_readSide_67 rfl (lv_at hl 1 rfl) ?_
    have e9 := Option.some.inj hf
    exact retM hx hb hr hlocks hP hD hS (congrArg (fun z => z.1) e9) (congrArg (fun z => (kX1 T hc ac z.2 ++ kX8 T (ac 0) atp utp : va_W)) e9) dX10_readSide_68
  have L4 : ∀ (n4 : Nat), ∀ (vc : St) (x1 : Int32) (x2 : Int32) (x3 : Int32) (H : Heap) (locs : List Loc) (ls : Array Slot), fX10_readSide_L4 utp n4 vc x1 x2 x3 = some res → va_P D vwCl (kX1 T hc ac vc ++ kX8 T (ac 0) atp utp) H → va_D (va_A (kX1 T hc ac uc ++ kX8 T (ac 0) atp utp) s.heap.size) (kX1 T hc ac vc ++ kX8 T (ac 0) atp utp) → va_S (va_A (kX1 T hc ac uc ++ kX8 T (ac 0) atp utp) s.heap.size) s.heap H locs → lv_has ls 5 [(0, .ref hc), (1, .int x1), (2, .int x2), (3, .int x3)] → W p l e (headSpec wsX10_readSide ({ frames := 3, cells := 0, slots := 0, locals := 63 })).room s m ([.ref hc, .int p1] : List Value).toArray below meth c H locs 0 0 (MQ below (QM D (kX1 T hc ac uc ++ kX8 T (ac 0) atp utp) s.heap.size res.1 (kX1 T hc ac res.2 ++ kX8 T (ac 0) atp utp)) ([.ref hc, .int p1] : List Value).toArray s 0 0 (va_A (kX1 T hc ac uc ++ kX8 T (ac 0) atp utp) s.heap.size)) (F0 m 4 ls []) := by
    intro n4
    induction n4 with
    | zero => intro vc x1 x2 x3 H locs ls hf; exact nns hf
    | succ n4 ih4 =>
      have J41 : ∀ (vc : St) (x1 : Int32) (x2 : Int32) (x3 : Int32) (x4 : Int32) (H : Heap) (locs : List Loc) (ls : Array Slot), fX10_readSide_J41 utp (fX10_readSide_L4 utp n4) vc x1 x2 x3 x4 = some res → va_P D vwCl (kX1 T hc ac vc ++ kX8 T (ac 0) atp utp) H → va_D (va_A (kX1 T hc ac uc ++ kX8 T (ac 0) atp utp) s.heap.size) (kX1 T hc ac vc ++ kX8 T (ac 0) atp utp) → va_S (va_A (kX1 T hc ac uc ++ kX8 T (ac 0) atp utp) s.heap.size) s.heap H locs → lv_has ls 5 [(0, .ref hc), (1, .int x1), (2, .int x2), (3, .int x3), (4, .int x4)] → W p l e (headSpec wsX10_readSide ({ frames := 3, cells := 0, slots := 0, locals := 63 })).room s m ([.ref hc, .int p1] : List Value).toArray below meth c H locs 0 0 (MQ below (QM D (kX1 T hc ac uc ++ kX8 T (ac 0) atp utp) s.heap.size res.1 (kX1 T hc ac res.2 ++ kX8 T (ac 0) atp utp)) ([.ref hc, .int p1] : List Value).toArray s 0 0 (va_A (kX1 T hc ac uc ++ kX8 T (ac 0) atp utp) s.heap.size)) (F0 m 41 ls []) := by
        intro vc x1 x2 x3 x4 H locs ls hf hP hD hS hl
        unfold fX10_readSide_J41 at hf
        refine lv_iload_n hx hb dX10_readSide_41 rfl (lv_at hl 2 rfl) ?_
        refine lv_iconst (v := 1) hx hb dX10_readSide_42 (by decide) ?_
        refine lv_iload hx hb dX10_readSide_43 (lv_at hl 4 rfl) ?_
        refine lv_ishl hx hb dX10_readSide_45 ?_
        refine lv_ior hx hb dX10_readSide_46 ?_
        obtain ⟨t3, et3, hf⟩ := lett_e hf
        refine lv_eqi et3 ?_
        refine lv_istore_n (lv' := [(2, .int t3), (0, .ref hc), (1, .int x1), (3, .int x3), (4, .int x4)]) hx hb dX10_readSide_47 rfl hl (by decide) rfl (fun ls hl => ?_)
        refine lv_aload_n hx hb dX10_readSide_48 rfl (lv_at hl 1 rfl) ?_
        obtain ⟨z4, hz4, hf⟩ := bnd hf
        have hFc9 := vaA_self hD hS hA
        refine cVMv (As := []) (rest := []) ⟨hx, hb, hml, hown, hts⟩ (mX1_next l D T hc ac vc atp utp _ z4 hz4) (cwV 0 hts gX10_readSide_X1_next rfl rfl rfl (by decide +kernel) ⟨Nat.le_of_ble_eq_true rfl, Nat.le_of_ble_eq_true rfl⟩) (va_recv hK.1 hP (ci := 1) (q0 := 0) rfl rfl) hP hK rfl hl.1 rfl (Nat.le_of_ble_eq_true rfl) dX10_readSide_49 ⟨Nat.le_of_ble_eq_true rfl, Nat.le_of_ble_eq_true rfl⟩ hD hFc9 hS (fun H locs hP hD1 _ hS => ?_)
        have hD := hD1.weaken (fun _ _ _ h9 => hFc9 _ h9)
        obtain ⟨t5, et5, hf⟩ := lett_e hf
        refine lv_iinc (v := t5) (lv' := [(3, .int t5), (2, .int t3), (0, .ref hc), (1, .int x1), (4, .int x4)]) hx hb dX10_readSide_52 hl (k := 3) rfl (by rw [et5]; rfl) (by decide) rfl (fun ls hl => ?_)
        refine lv_goto (tgt := 4) hx hb dX10_readSide_55 (by decide) ?_
        exact ih4 z4 x1 t3 t5 _ _ _ hf hP hD hS (lv_sub hl [2, 3, 1, 0] rfl)
      intro vc x1 x2 x3 H locs ls hf hP hD hS hl
      replace hf : bX10_readSide_L4 utp (fX10_readSide_L4 utp n4) vc x1 x2 x3 = some res := hf
      unfold bX10_readSide_L4 at hf
      refine lv_iload_n hx hb dX10_readSide_4 rfl (lv_at hl 3 rfl) ?_
      refine lv_bipush (v := 16) hx hb dX10_readSide_5 (by decide) ?_
      refine lv_icmp_gt (tgt := 58) hx hb dX10_readSide_7 (by decide) (fun c6 => ?_) (fun c6 => ?_)
      · replace hf := ifp c6 hf
        exact J58 vc x2 _ _ _ hf hP hD hS (lv_sub hl [0, 2] rfl)
      replace hf := ifn c6 hf
      refine lv_aload_n hx hb dX10_readSide_10 rfl (lv_at hl 0 rfl) ?_
      obtain ⟨z7, hz7, hf⟩ := bnd hf
      refine cVR (As := []) (rest := []) ⟨hx, hb, hml, hown, hts⟩ (mX1_seenWalker l D T hc ac vc z7 hz7) (cwV 0 hts gX10_readSide_X1_seenWalker rfl rfl rfl (by decide +kernel) ⟨Nat.le_of_ble_eq_true rfl, Nat.le_of_ble_eq_true rfl⟩) (va_recv hK.1 hP (ci := 1) (q0 := 0) rfl rfl) (hP.sub (ws' := kX1 T hc ac vc) [0] rfl) hK rfl hl.1 rfl (Nat.le_of_ble_eq_true rfl) dX10_readSide_11 ⟨Nat.le_of_ble_eq_true rfl, Nat.le_of_ble_eq_true rfl⟩ hP hS (fun H locs hP hS => ?_)
      refine lv_iconst (v := (-1)) hx hb dX10_readSide_14 (by decide) ?_
      refine lv_icmp_eq (tgt := 58) hx hb dX10_readSide_15 (by decide) (fun c8 => ?_) (fun c8 => ?_)
      · replace hf := ifp c8 hf
        exact J58 vc x2 _ _ _ hf hP hD hS (lv_sub hl [0, 2] rfl)
      replace hf := ifn c8 hf
      refine lv_aload_n hx hb dX10_readSide_18 rfl (lv_at hl 0 rfl) ?_
      obtain ⟨z9, hz9, hf⟩ := bnd hf
      refine cVR (As := []) (rest := []) ⟨hx, hb, hml, hown, hts⟩ (mX1_seenWalker l D T hc ac vc z9 hz9) (cwV 0 hts gX10_readSide_X1_seenWalker rfl rfl rfl (by decide +kernel) ⟨Nat.le_of_ble_eq_true rfl, Nat.le_of_ble_eq_true rfl⟩) (va_recv hK.1 hP (ci := 1) (q0 := 0) rfl rfl) (hP.sub (ws' := kX1 T hc ac vc) [0] rfl) hK rfl hl.1 rfl (Nat.le_of_ble_eq_true rfl) dX10_readSide_19 ⟨Nat.le_of_ble_eq_true rfl, Nat.le_of_ble_eq_true rfl⟩ hP hS (fun H locs hP hS => ?_)
      refine lv_istore (lv' := [(4, .int z9), (0, .ref hc), (1, .int x1), (2, .int x2), (3, .int x3)]) hx hb dX10_readSide_22 hl (by decide) rfl (fun ls hl => ?_)
      refine lv_iload_n hx hb dX10_readSide_24 rfl (lv_at hl 3 rfl) ?_
      refine lv_iload_n hx hb dX10_readSide_25 rfl (lv_at hl 2 rfl) ?_
      refine lv_ior hx hb dX10_readSide_26 ?_
      refine lv_iload hx hb dX10_readSide_27 (lv_at hl 0 rfl) ?_
      obtain ⟨z10, hz10, hf⟩ := lett_e hf
      refine cNR (As := [.int (x2 ||| x1), .int z9]) (rest := []) ⟨hx, hb, hml, hown, hts⟩ (mX11_has l D T (x2 ||| x1) z9 z10 hz10.symm) ⟨va_cnB (host := "RopeScale") (index := 56) 2 hts gX10_readSide_X11_has_n56 rfl rfl rfl (hK.2 _ (List.mem_of_getElem? (i := 15) rfl)) (hts (.initialized RX11) (List.mem_of_getElem? (i := 8) rfl)) (by decide +kernel) ⟨Nat.le_of_ble_eq_true rfl, Nat.le_of_ble_eq_true rfl⟩, (hts (.static yX11_has) (List.mem_of_getElem? (i := 13) rfl)), trivial⟩ P0 hK rfl hl.1 rfl (Nat.le_of_ble_eq_true rfl) dX10_readSide_29 ⟨Nat.le_of_ble_eq_true rfl, Nat.le_of_ble_eq_true rfl⟩ hP hS (fun H locs hP hS => ?_)
      refine lv_if_eq (tgt := 41) hx hb dX10_readSide_32 (by decide) (fun c11 => ?_) (fun c11 => ?_)
      · replace hf := ifp c11 hf
        exact J41 vc x1 x2 x3 z9 _ _ _ hf hP hD hS (lv_sub hl [1, 2, 3, 4, 0] rfl)
      replace hf := ifn c11 hf
      refine lv_aload_n hx hb dX10_readSide_35 rfl (lv_at hl 1 rfl) ?_
      refine lv_bipush (v := 6) hx hb dX10_readSide_36 (by decide) ?_
      obtain ⟨z12, hz12, hf⟩ := lett_e hf
      have hPc := hP.sub (ws' := kX1 T hc ac vc) [0] rfl
      have hDc := hD.sub (ws' := kX1 T hc ac vc) [0] (by decide) rfl
      have hFc9 := va_free (wc := kX1 T hc ac vc) hD hS hA [0] rfl
      refine cVMv (As := [.int 6]) (rest := []) ⟨hx, hb, hml, hown, hts⟩ (mX1_failHere l D T hc ac vc _ 6 z12 hz12.symm) (cwV 1 hts gX10_readSide_X1_failHere rfl rfl rfl (by decide +kernel) ⟨Nat.le_of_ble_eq_true rfl, Nat.le_of_ble_eq_true rfl⟩) (va_recv hK.1 hP (ci := 1) (q0 := 0) rfl rfl) hPc hK rfl hl.1 rfl (Nat.le_of_ble_eq_true rfl) dX10_readSide_38 ⟨Nat.le_of_ble_eq_true rfl, Nat.le_of_ble_eq_true rfl⟩ hDc hFc9 hS (fun H9 locs hP1 hD1 hk1 hS => ?_)
      obtain ⟨hP, hD⟩ := putAll_P (w1 := kX1 T hc ac z12) hP hD [0] rfl (by decide) hk1 hP1 rfl
      generalize H9 = H at hP hS ⊢
      have hP : va_P D vwCl (kX1 T hc ac z12 ++ kX8 T (ac 0) atp utp) H := by exact hP
      have hD : va_D (va_A (kX1 T hc ac uc ++ kX8 T (ac 0) atp utp) s.heap.size) (kX1 T hc ac z12 ++ kX8 T (ac 0) atp utp) := by exact hD
      exact J41 z12 x1 x2 x3 z9 _ _ _ hf hP hD hS (lv_sub hl [1, 2, 3, 4, 0] rfl)
  unfold fX10_readSide at hf
  refine lv_iconst (v := 0) hx hb dX10_readSide_0 (by decide) ?_
  refine lv_istore_n (lv' := [(2, .int 0), (0, .ref hc), (1, .int p1)]) hx hb dX10_readSide_1 rfl hl (by decide) rfl (fun ls hl => ?_)
  refine lv_iconst (v := 0) hx hb dX10_readSide_2 (by decide) ?_
  refine lv_istore_n (lv' := [(3, .int 0), (2, .int 0), (0, .ref hc), (1, .int p1)]) hx hb dX10_readSide_3 rfl hl (by decide) rfl (fun ls hl => ?_)
  exact L4 FU uc p1 0 0 _ _ _ hf hP hD hS (lv_sub hl [2, 3, 1, 0] rfl)
def fX10_isOutcome   (p0 : Int32) : (Int32) := if p0 = 60 then 1 else if p0 = 62 then 1 else if p0 = 61 then 1 else 0
set_option maxHeartbeats 4000000 in
set_option maxRecDepth 100000 in
theorem mX10_isOutcome (l : Launch) (D : va_G) (T : Ty3)  (p0 : Int32) (res : Int32) (hf : fX10_isOutcome p0 = res) : Met l yX10_isOutcome wsX10_isOutcome ({ frames := 0, cells := 0, slots := 0, locals := 0 }) (PcR D T ([]) [.int p0]) (QR res) 0 0 noA := by
  refine Met.ofW (cc := cX10_isOutcome) (maxL := 1) (ret := (some .boolean)) (by decide) rfl ?_
  intro p e s m args below meth c s₁ B hml hv
  obtain ⟨rfl, hP, hK⟩ := hv
  have hx := B.exec
  have hb := B.bytes
  have hr := B.returns
  have hts := atoms_spec (ws := wsX10_isOutcome) B.pre
  have hown : s.vm.findClass RX10 = some m.cls := findClass_of_methodNamed B.named
  have hlocks := B.notSynchronized
  have hS : va_S noA s.heap s.heap [] := va_S.rf
  have hl := lv_entry ([.int p0]) (n := 1) (Nat.le_of_ble_eq_true rfl)
  rw [lg_entry_eq]
  generalize (lg_sl ([.int p0]) ++ List.replicate (1 - (lg_sl ([.int p0])).length) Slot.unset).toArray = ls at hl ⊢
  have hl : lv_has ls 1 [(0, .int p0)] := hl
  unfold fX10_isOutcome at hf
  refine lv_iload_n hx hb dX10_isOutcome_0 rfl (lv_at hl 0 rfl) ?_
  refine lv_bipush (v := 60) hx hb dX10_isOutcome_1 (by decide) ?_
  refine lv_icmp_eq (tgt := 18) hx hb dX10_isOutcome_3 (by decide) (fun c1 => ?_) (fun c1 => ?_)
  · replace hf := ifp c1 hf
    refine lv_iconst (v := 1) hx hb dX10_isOutcome_18 (by decide) ?_
    refine lv_goto (tgt := 23) hx hb dX10_isOutcome_19 (by decide) ?_
    exact retRz hx hb hr hlocks hS rfl hf dX10_isOutcome_23
  replace hf := ifn c1 hf
  refine lv_iload_n hx hb dX10_isOutcome_6 rfl (lv_at hl 0 rfl) ?_
  refine lv_bipush (v := 62) hx hb dX10_isOutcome_7 (by decide) ?_
  refine lv_icmp_eq (tgt := 18) hx hb dX10_isOutcome_9 (by decide) (fun c2 => ?_) (fun c2 => ?_)
  · replace hf := ifp c2 hf
    refine lv_iconst (v := 1) hx hb dX10_isOutcome_18 (by decide) ?_
    refine lv_goto (tgt := 23) hx hb dX10_isOutcome_19 (by decide) ?_
    exact retRz hx hb hr hlocks hS rfl hf dX10_isOutcome_23
  replace hf := ifn c2 hf
  refine lv_iload_n hx hb dX10_isOutcome_12 rfl (lv_at hl 0 rfl) ?_
  refine lv_bipush (v := 61) hx hb dX10_isOutcome_13 (by decide) ?_
  refine lv_icmp_ne (tgt := 22) hx hb dX10_isOutcome_15 (by decide) (fun c3 => ?_) (fun c3 => ?_)
  · replace hf := ifn c3 hf
    refine lv_iconst (v := 0) hx hb dX10_isOutcome_22 (by decide) ?_
    exact retRz hx hb hr hlocks hS rfl hf dX10_isOutcome_23
  replace hf := ifp c3 hf
  refine lv_iconst (v := 1) hx hb dX10_isOutcome_18 (by decide) ?_
  refine lv_goto (tgt := 23) hx hb dX10_isOutcome_19 (by decide) ?_
  exact retRz hx hb hr hlocks hS rfl hf dX10_isOutcome_23
def fX10_readLine_J91   (v : St) (vc : St) (x2 : Int32) : Option (St × St) := lett (st v 3 0 (x2 + 1)) fun u1 => some (u1, vc)
def fX10_readLine  (u : St) (uc : St) (utp : St) (p2 : Int32) : Option (St × St) := (fX1_seenWalker uc).bind fun z2 => if z2 = (-1) then lett (fX1_failHere uc 1) fun z20 => some (u, z20) else if p2 < 16 then (fX10_readSide uc utp 0).bind fun z5 => gd p2 16 <| lett (st u 0 (ix p2) z5.1) fun u6 => gd p2 16 <| lett (st u6 2 (ix p2) (z5.2 3 0)) fun u7 => gd p2 16 <| lett (fX10_isOutcome (u7 2 (ix p2))) fun z8 => if z8 = 0 then lett (fX1_failHere z5.2 1) fun z10 => fX10_readLine_J91 u7 z10 p2 else (fX1_next z5.2 utp).bind fun z11 => gd p2 16 <| (fX10_readSide z11 utp (u7 0 (ix p2))).bind fun z12 => gd p2 16 <| lett (st u7 1 (ix p2) z12.1) fun u13 => fX10_readLine_J91 u13 z12.2 p2 else lett (fX1_failHere uc 4) fun z19 => some (u, z19)
set_option maxHeartbeats 4000000 in
set_option maxRecDepth 100000 in
theorem mX10_readLine (l : Launch) (D : va_G) (T : Ty3) (h : Nat) (a : Nat → Nat) (u : St) (hc : Nat) (ac : Nat → Nat) (uc : St) (atp : Nat → Nat) (utp : St) (sz : Nat) (p2 : Int32) (res : St × St) (hf : fX10_readLine u uc utp p2 = some res) : Met l yX10_readLine wsX10_readLine ({ frames := 4, cells := 0, slots := 0, locals := 87 }) (PcM D T (kX10 T h a u ++ kX1 T hc ac uc ++ kX8 T (ac 0) atp utp) sz [.ref h, .ref hc, .int p2]) (QMv D (kX10 T h a u ++ kX1 T hc ac uc ++ kX8 T (ac 0) atp utp) sz (kX10 T h a res.1 ++ kX1 T hc ac res.2 ++ kX8 T (ac 0) atp utp)) 0 0 (va_A (kX10 T h a u ++ kX1 T hc ac uc ++ kX8 T (ac 0) atp utp) sz) := by
  refine Met.ofW (cc := cX10_readLine) (maxL := 3) (ret := none) (by decide) rfl ?_
  intro p e s m args below meth c s₁ B hml hv
  obtain ⟨rfl, hsz, hP, hK, hD0⟩ := hv
  have hx := B.exec
  have hb := B.bytes
  have hr := B.returns
  have hts := atoms_spec (ws := wsX10_readLine) B.pre
  have hown : s.vm.findClass RX10 = some m.cls := findClass_of_methodNamed B.named
  have hlocks := B.notSynchronized
  subst hsz
  have hD := hD0.self (sz := s.heap.size)
  have hA : ∀ q : Nat, s.heap.size ≤ q → va_A (kX10 T h a u ++ kX1 T hc ac uc ++ kX8 T (ac 0) atp utp) s.heap.size q := fun q h => Or.inr h
  have hS : va_S (va_A (kX10 T h a u ++ kX1 T hc ac uc ++ kX8 T (ac 0) atp utp) s.heap.size) s.heap s.heap [] := va_S.rf
  have hinX10 : ∀ w ∈ u_ws RX10 TX10 4, w ∈ wsX10_readLine := fun w h => List.mem_cons_of_mem _ (List.mem_append_left _ (List.mem_append_left _ (List.mem_append_right _ h)))
  have hinX1 : ∀ w ∈ u_ws RX1 TX1 5, w ∈ wsX10_readLine := fun w h => List.mem_cons_of_mem _ (List.mem_append_left _ (List.mem_append_right _ h))
  have hinX8 : ∀ w ∈ u_ws RX8 TX8 2, w ∈ wsX10_readLine := fun w h => List.mem_cons_of_mem _ (List.mem_append_right _ h)
  have hl := lv_entry ([.ref h, .ref hc, .int p2]) (n := 3) (Nat.le_of_ble_eq_true rfl)
  rw [lg_entry_eq]
  generalize (lg_sl ([.ref h, .ref hc, .int p2]) ++ List.replicate (3 - (lg_sl ([.ref h, .ref hc, .int p2])).length) Slot.unset).toArray = ls at hl ⊢
  have hl : lv_has ls 3 [(0, .ref h), (1, .ref hc), (2, .int p2)] := hl
  have J91 : ∀ (v : St) (vc : St) (x2 : Int32) (H : Heap) (locs : List Loc) (ls : Array Slot), fX10_readLine_J91  v vc x2 = some res → va_P D vwCl (kX10 T h a v ++ kX1 T hc ac vc ++ kX8 T (ac 0) atp utp) H → va_D (va_A (kX10 T h a u ++ kX1 T hc ac uc ++ kX8 T (ac 0) atp utp) s.heap.size) (kX10 T h a v ++ kX1 T hc ac vc ++ kX8 T (ac 0) atp utp) → va_S (va_A (kX10 T h a u ++ kX1 T hc ac uc ++ kX8 T (ac 0) atp utp) s.heap.size) s.heap H locs → lv_has ls 3 [(0, .ref h), (2, .int x2)] → W p l e (headSpec wsX10_readLine ({ frames := 4, cells := 0, slots := 0, locals := 87 })).room s m ([.ref h, .ref hc, .int p2] : List Value).toArray below meth c H locs 0 0 (MQ below (QMv D (kX10 T h a u ++ kX1 T hc ac uc ++ kX8 T (ac 0) atp utp) s.heap.size (kX10 T h a res.1 ++ kX1 T hc ac res.2 ++ kX8 T (ac 0) atp utp)) ([.ref h, .ref hc, .int p2] : List Value).toArray s 0 0 (va_A (kX10 T h a u ++ kX1 T hc ac uc ++ kX8 T (ac 0) atp utp) s.heap.size)) (F0 m 91 ls []) := by
    intro v vc x2 H locs ls hf hP hD hS hl
    unfold fX10_readLine_J91 at hf
    refine lv_aload_n hx hb dX10_readLine_91 rfl (lv_at hl 0 rfl) ?_
    refine lv_iload_n hx hb dX10_readLine_92 rfl (lv_at hl 1 rfl) ?_
    refine lv_iconst (v := 1) hx hb dX10_readLine_93 (by decide) ?_
    refine lv_iadd hx hb dX10_readLine_94 ?_
    obtain ⟨u1, eu1, hf⟩ := lett_e hf
    refine va_put (D := D) (ci := 10) (v := .int (x2 + 1)) (ty := .int) (C := RX10) (T := TX10) (N := 4) hx hb hts hinX10 tyX10 tyX10_ok nmX10 hown hK.1 hP hD hS 0 rfl rfl 3 (by decide) (hts (.fieldLink RX10 21 "RopeScale$Weighings" "lines" "I") (List.mem_of_getElem? (i := 5) rfl)) (fun _ h9 => h9) rfl (tyX10_ok 3 (by decide)) rfl rfl (Nat.le_of_ble_eq_true rfl) dX10_readLine_95 (fun H locs hP hD hS => ?_)
    have hP : va_P D vwCl (kX10 T h a u1 ++ kX1 T hc ac vc ++ kX8 T (ac 0) atp utp) H := by rw [eu1]; exact hP
    have hD : va_D (va_A (kX10 T h a u ++ kX1 T hc ac uc ++ kX8 T (ac 0) atp utp) s.heap.size) (kX10 T h a u1 ++ kX1 T hc ac vc ++ kX8 T (ac 0) atp utp) := by rw [eu1]; exact hD
    have e9 := Option.some.inj hf
    exact retMv hx hb hr hlocks hP hD hS (congrArg (fun z => (kX10 T h a z.1 ++ kX1 T hc ac z.2 ++ kX8 T (ac 0) atp utp : va_W)) e9) dX10_readLine_98
  unfold fX10_readLine at hf
  refine lv_aload_n hx hb dX10_readLine_0 rfl (lv_at hl 1 rfl) ?_
  obtain ⟨z2, hz2, hf⟩ := bnd hf
  refine cVR (As := []) (rest := []) ⟨hx, hb, hml, hown, hts⟩ (mX1_seenWalker l D T hc ac uc z2 hz2) (cwV 0 hts gX10_readLine_X1_seenWalker rfl rfl rfl (by decide +kernel) ⟨Nat.le_of_ble_eq_true rfl, Nat.le_of_ble_eq_true rfl⟩) (va_recv hK.1 hP (ci := 1) (q0 := 4) rfl rfl) (hP.sub (ws' := kX1 T hc ac uc) [4] rfl) hK rfl hl.1 rfl (Nat.le_of_ble_eq_true rfl) dX10_readLine_1 ⟨Nat.le_of_ble_eq_true rfl, Nat.le_of_ble_eq_true rfl⟩ hP hS (fun H locs hP hS => ?_)
  refine lv_iconst (v := (-1)) hx hb dX10_readLine_4 (by decide) ?_
  refine lv_icmp_ne (tgt := 16) hx hb dX10_readLine_5 (by decide) (fun c3 => ?_) (fun c3 => ?_)
  · replace hf := ifn c3 hf
    refine lv_iload_n hx hb dX10_readLine_16 rfl (lv_at hl 2 rfl) ?_
    refine lv_bipush (v := 16) hx hb dX10_readLine_17 (by decide) ?_
    refine lv_icmp_lt (tgt := 30) hx hb dX10_readLine_19 (by decide) (fun c4 => ?_) (fun c4 => ?_)
    · replace hf := ifp c4 hf
      refine lv_aload_n hx hb dX10_readLine_30 rfl (lv_at hl 0 rfl) ?_
      refine va_get (D := D) (ci := 10) (v := .ref (a 0)) (C := RX10) (T := TX10) (N := 4) hx hb hts hinX10 hown hK.1 hP 0 rfl rfl 0 (by decide) (hts (.fieldLink RX10 11 "RopeScale$Weighings" "left" "[I") (List.mem_of_getElem? (i := 1) rfl)) (fun _ h9 => h9) rfl dX10_readLine_31 ?_
      refine lv_iload_n hx hb dX10_readLine_34 rfl (lv_at hl 2 rfl) ?_
      refine lv_aload_n hx hb dX10_readLine_35 rfl (lv_at hl 1 rfl) ?_
      refine lv_iconst (v := 0) hx hb dX10_readLine_36 (by decide) ?_
      obtain ⟨z5, hz5, hf⟩ := bnd hf
      have hPc := hP.sub (ws' := kX1 T hc ac uc ++ kX8 T (ac 0) atp utp) [4, 5, 6] rfl
      have hDc := hD.sub (ws' := kX1 T hc ac uc ++ kX8 T (ac 0) atp utp) [4, 5, 6] (by decide) rfl
      have hFc9 := va_free (wc := kX1 T hc ac uc ++ kX8 T (ac 0) atp utp) hD hS hA [4, 5, 6] rfl
      refine cSM (As := [.ref hc, .int 0]) (rest := [.int p2, .ref (a 0)]) ⟨hx, hb, hml, hown, hts⟩ (mX10_readSide l D T hc ac uc atp utp _ 0 z5 hz5) (va_cwS 2 hts gX10_readLine_X10_readSide rfl rfl rfl (by decide +kernel) ⟨Nat.le_of_ble_eq_true rfl, Nat.le_of_ble_eq_true rfl⟩) hPc hK rfl hl.1 rfl (Nat.le_of_ble_eq_true rfl) dX10_readLine_37 ⟨Nat.le_of_ble_eq_true rfl, Nat.le_of_ble_eq_true rfl⟩ hDc hFc9 hS (fun H9 locs hP1 hD1 hk1 hS => ?_)
      obtain ⟨hP, hD⟩ := putAll_P (w1 := kX1 T hc ac z5.2 ++ kX8 T (ac 0) atp utp) hP hD [4, 5, 6] rfl (by decide) hk1 hP1 rfl
      generalize H9 = H at hP hS ⊢
      have hP : va_P D vwCl (kX10 T h a u ++ kX1 T hc ac z5.2 ++ kX8 T (ac 0) atp utp) H := by exact hP
      have hD : va_D (va_A (kX10 T h a u ++ kX1 T hc ac uc ++ kX8 T (ac 0) atp utp) s.heap.size) (kX10 T h a u ++ kX1 T hc ac z5.2 ++ kX8 T (ac 0) atp utp) := by exact hD
      obtain ⟨h18, hf⟩ := gd_e hf
      obtain ⟨u6, eu6, hf⟩ := lett_e hf
      refine va_iast hx hb hK.1 hP hD hS 1 0 rfl rfl h18 dX10_readLine_40 (fun H locs hP hD hS => ?_)
      have hP : va_P D vwCl (kX10 T h a u6 ++ kX1 T hc ac z5.2 ++ kX8 T (ac 0) atp utp) H := by rw [eu6]; exact hP
      have hD : va_D (va_A (kX10 T h a u ++ kX1 T hc ac uc ++ kX8 T (ac 0) atp utp) s.heap.size) (kX10 T h a u6 ++ kX1 T hc ac z5.2 ++ kX8 T (ac 0) atp utp) := by rw [eu6]; exact hD
      refine lv_aload_n hx hb dX10_readLine_41 rfl (lv_at hl 0 rfl) ?_
      refine va_get (D := D) (ci := 10) (v := .ref (a 2)) (C := RX10) (T := TX10) (N := 4) hx hb hts hinX10 hown hK.1 hP 0 rfl rfl 2 (by decide) (hts (.fieldLink RX10 18 "RopeScale$Weighings" "outcome" "[I") (List.mem_of_getElem? (i := 2) rfl)) (fun _ h9 => h9) rfl dX10_readLine_42 ?_
      refine lv_iload_n hx hb dX10_readLine_45 rfl (lv_at hl 2 rfl) ?_
      refine lv_aload_n hx hb dX10_readLine_46 rfl (lv_at hl 1 rfl) ?_
      refine va_get (D := D) (ci := 1) (v := .int (z5.2 3 0)) (C := RX1) (T := TX1) (N := 5) hx hb hts hinX1 hown hK.1 hP 4 rfl rfl 3 (by decide) (hts (.fieldLink RX10 47 "RopeScale$Cursor" "sign" "I") (List.mem_of_getElem? (i := 3) rfl)) (fun _ h9 => h9) rfl dX10_readLine_47 ?_
      obtain ⟨h17, hf⟩ := gd_e hf
      obtain ⟨u7, eu7, hf⟩ := lett_e hf
      refine va_iast hx hb hK.1 hP hD hS 3 0 rfl rfl h17 dX10_readLine_50 (fun H locs hP hD hS => ?_)
      have hP : va_P D vwCl (kX10 T h a u7 ++ kX1 T hc ac z5.2 ++ kX8 T (ac 0) atp utp) H := by rw [eu7]; exact hP
      have hD : va_D (va_A (kX10 T h a u ++ kX1 T hc ac uc ++ kX8 T (ac 0) atp utp) s.heap.size) (kX10 T h a u7 ++ kX1 T hc ac z5.2 ++ kX8 T (ac 0) atp utp) := by rw [eu7]; exact hD
      refine lv_aload_n hx hb dX10_readLine_51 rfl (lv_at hl 0 rfl) ?_
      refine va_get (D := D) (ci := 10) (v := .ref (a 2)) (C := RX10) (T := TX10) (N := 4) hx hb hts hinX10 hown hK.1 hP 0 rfl rfl 2 (by decide) (hts (.fieldLink RX10 18 "RopeScale$Weighings" "outcome" "[I") (List.mem_of_getElem? (i := 2) rfl)) (fun _ h9 => h9) rfl dX10_readLine_52 ?_
      refine lv_iload_n hx hb dX10_readLine_55 rfl (lv_at hl 2 rfl) ?_
      obtain ⟨h16, hf⟩ := gd_e hf
      refine va_iald hx hb hK.1 hP 3 0 rfl rfl h16 dX10_readLine_56 ?_
      obtain ⟨z8, hz8, hf⟩ := lett_e hf
      refine cSR (As := [.int (u7 2 (ix p2))]) (rest := []) ⟨hx, hb, hml, hown, hts⟩ (mX10_isOutcome l D T (u7 2 (ix p2)) z8 hz8.symm) (va_cwS 1 hts gX10_readLine_X10_isOutcome rfl rfl rfl (by decide +kernel) ⟨Nat.le_of_ble_eq_true rfl, Nat.le_of_ble_eq_true rfl⟩) P0 hK rfl hl.1 rfl (Nat.le_of_ble_eq_true rfl) dX10_readLine_57 ⟨Nat.le_of_ble_eq_true rfl, Nat.le_of_ble_eq_true rfl⟩ hP hS (fun H locs hP hS => ?_)
      refine lv_if_eq (tgt := 86) hx hb dX10_readLine_60 (by decide) (fun c9 => ?_) (fun c9 => ?_)
      · replace hf := ifp c9 hf
        refine lv_aload_n hx hb dX10_readLine_86 rfl (lv_at hl 1 rfl) ?_
        refine lv_iconst (v := 1) hx hb dX10_readLine_87 (by decide) ?_
        obtain ⟨z10, hz10, hf⟩ := lett_e hf
        have hPc := hP.sub (ws' := kX1 T hc ac z5.2) [4] rfl
        have hDc := hD.sub (ws' := kX1 T hc ac z5.2) [4] (by decide) rfl
        have hFc9 := va_free (wc := kX1 T hc ac z5.2) hD hS hA [4] rfl
        refine cVMv (As := [.int 1]) (rest := []) ⟨hx, hb, hml, hown, hts⟩ (mX1_failHere l D T hc ac z5.2 _ 1 z10 hz10.symm) (cwV 1 hts gX10_readLine_X1_failHere rfl rfl rfl (by decide +kernel) ⟨Nat.le_of_ble_eq_true rfl, Nat.le_of_ble_eq_true rfl⟩) (va_recv hK.1 hP (ci := 1) (q0 := 4) rfl rfl) hPc hK rfl hl.1 rfl (Nat.le_of_ble_eq_true rfl) dX10_readLine_88 ⟨Nat.le_of_ble_eq_true rfl, Nat.le_of_ble_eq_true rfl⟩ hDc hFc9 hS (fun H9 locs hP1 hD1 hk1 hS => ?_)
        obtain ⟨hP, hD⟩ := putAll_P (w1 := kX1 T hc ac z10) hP hD [4] rfl (by decide) hk1 hP1 rfl
        generalize H9 = H at hP hS ⊢
        have hP : va_P D vwCl (kX10 T h a u7 ++ kX1 T hc ac z10 ++ kX8 T (ac 0) atp utp) H := by exact hP
        have hD : va_D (va_A (kX10 T h a u ++ kX1 T hc ac uc ++ kX8 T (ac 0) atp utp) s.heap.size) (kX10 T h a u7 ++ kX1 T hc ac z10 ++ kX8 T (ac 0) atp utp) := by exact hD
        exact J91 u7 z10 p2 _ _ _ hf hP hD hS (lv_sub hl [0, 2] rfl)
      replace hf := ifn c9 hf
      refine lv_aload_n hx hb dX10_readLine_63 rfl (lv_at hl 1 rfl) ?_
      obtain ⟨z11, hz11, hf⟩ := bnd hf
      have hPc := hP.sub (ws' := kX1 T hc ac z5.2 ++ kX8 T (ac 0) atp utp) [4, 5, 6] rfl
      have hDc := hD.sub (ws' := kX1 T hc ac z5.2 ++ kX8 T (ac 0) atp utp) [4, 5, 6] (by decide) rfl
      have hFc9 := va_free (wc := kX1 T hc ac z5.2 ++ kX8 T (ac 0) atp utp) hD hS hA [4, 5, 6] rfl
      refine cVMv (As := []) (rest := []) ⟨hx, hb, hml, hown, hts⟩ (mX1_next l D T hc ac z5.2 atp utp _ z11 hz11) (cwV 0 hts gX10_readLine_X1_next rfl rfl rfl (by decide +kernel) ⟨Nat.le_of_ble_eq_true rfl, Nat.le_of_ble_eq_true rfl⟩) (va_recv hK.1 hP (ci := 1) (q0 := 4) rfl rfl) hPc hK rfl hl.1 rfl (Nat.le_of_ble_eq_true rfl) dX10_readLine_64 ⟨Nat.le_of_ble_eq_true rfl, Nat.le_of_ble_eq_true rfl⟩ hDc hFc9 hS (fun H9 locs hP1 hD1 hk1 hS => ?_)
      obtain ⟨hP, hD⟩ := putAll_P (w1 := kX1 T hc ac z11 ++ kX8 T (ac 0) atp utp) hP hD [4, 5, 6] rfl (by decide) hk1 hP1 rfl
      generalize H9 = H at hP hS ⊢
      have hP : va_P D vwCl (kX10 T h a u7 ++ kX1 T hc ac z11 ++ kX8 T (ac 0) atp utp) H := by exact hP
      have hD : va_D (va_A (kX10 T h a u ++ kX1 T hc ac uc ++ kX8 T (ac 0) atp utp) s.heap.size) (kX10 T h a u7 ++ kX1 T hc ac z11 ++ kX8 T (ac 0) atp utp) := by exact hD
      refine lv_aload_n hx hb dX10_readLine_67 rfl (lv_at hl 0 rfl) ?_
      refine va_get (D := D) (ci := 10) (v := .ref (a 1)) (C := RX10) (T := TX10) (N := 4) hx hb hts hinX10 hown hK.1 hP 0 rfl rfl 1 (by decide) (hts (.fieldLink RX10 15 "RopeScale$Weighings" "right" "[I") (List.mem_of_getElem? (i := 4) rfl)) (fun _ h9 => h9) rfl dX10_readLine_68 ?_
      refine lv_iload_n hx hb dX10_readLine_71 rfl (lv_at hl 2 rfl) ?_
      refine lv_aload_n hx hb dX10_readLine_72 rfl (lv_at hl 1 rfl) ?_
      refine lv_aload_n hx hb dX10_readLine_73 rfl (lv_at hl 0 rfl) ?_
      refine va_get (D := D) (ci := 10) (v := .ref (a 0)) (C := RX10) (T := TX10) (N := 4) hx hb hts hinX10 hown hK.1 hP 0 rfl rfl 0 (by decide) (hts (.fieldLink RX10 11 "RopeScale$Weighings" "left" "[I") (List.mem_of_getElem? (i := 1) rfl)) (fun _ h9 => h9) rfl dX10_readLine_74 ?_
      refine lv_iload_n hx hb dX10_readLine_77 rfl (lv_at hl 2 rfl) ?_
      obtain ⟨h15, hf⟩ := gd_e hf
      refine va_iald hx hb hK.1 hP 1 0 rfl rfl h15 dX10_readLine_78 ?_
      obtain ⟨z12, hz12, hf⟩ := bnd hf
      have hPc := hP.sub (ws' := kX1 T hc ac z11 ++ kX8 T (ac 0) atp utp) [4, 5, 6] rfl
      have hDc := hD.sub (ws' := kX1 T hc ac z11 ++ kX8 T (ac 0) atp utp) [4, 5, 6] (by decide) rfl
      have hFc9 := va_free (wc := kX1 T hc ac z11 ++ kX8 T (ac 0) atp utp) hD hS hA [4, 5, 6] rfl
      refine cSM (As := [.ref hc, .int (u7 0 (ix p2))]) (rest := [.int p2, .ref (a 1)]) ⟨hx, hb, hml, hown, hts⟩ (mX10_readSide l D T hc ac z11 atp utp _ (u7 0 (ix p2)) z12 hz12) (va_cwS 2 hts gX10_readLine_X10_readSide rfl rfl rfl (by decide +kernel) ⟨Nat.le_of_ble_eq_true rfl, Nat.le_of_ble_eq_true rfl⟩) hPc hK rfl hl.1 rfl (Nat.le_of_ble_eq_true rfl) dX10_readLine_79 ⟨Nat.le_of_ble_eq_true rfl, Nat.le_of_ble_eq_true rfl⟩ hDc hFc9 hS (fun H9 locs hP1 hD1 hk1 hS => ?_)
      obtain ⟨hP, hD⟩ := putAll_P (w1 := kX1 T hc ac z12.2 ++ kX8 T (ac 0) atp utp) hP hD [4, 5, 6] rfl (by decide) hk1 hP1 rfl
      generalize H9 = H at hP hS ⊢
      have hP : va_P D vwCl (kX10 T h a u7 ++ kX1 T hc ac z12.2 ++ kX8 T (ac 0) atp utp) H := by exact hP
      have hD : va_D (va_A (kX10 T h a u ++ kX1 T hc ac uc ++ kX8 T (ac 0) atp utp) s.heap.size) (kX10 T h a u7 ++ kX1 T hc ac z12.2 ++ kX8 T (ac 0) atp utp) := by exact hD
      obtain ⟨h14, hf⟩ := gd_e hf
      obtain ⟨u13, eu13, hf⟩ := lett_e hf
      refine va_iast hx hb hK.1 hP hD hS 2 0 rfl rfl h14 dX10_readLine_82 (fun H locs hP hD hS => ?_)
      have hP : va_P D vwCl (kX10 T h a u13 ++ kX1 T hc ac z12.2 ++ kX8 T (ac 0) atp utp) H := by rw [eu13]; exact hP
      have hD : va_D (va_A (kX10 T h a u ++ kX1 T hc ac uc ++ kX8 T (ac 0) atp utp) s.heap.size) (kX10 T h a u13 ++ kX1 T hc ac z12.2 ++ kX8 T (ac 0) atp utp) := by rw [eu13]; exact hD
      refine lv_goto (tgt := 91) hx hb dX10_readLine_83 (by decide) ?_
      exact J91 u13 z12.2 p2 _ _ _ hf hP hD hS (lv_sub hl [0, 2] rfl)
    replace hf := ifn c4 hf
    refine lv_aload_n hx hb dX10_readLine_22 rfl (lv_at hl 1 rfl) ?_
    refine lv_iconst (v := 4) hx hb dX10_readLine_23 (by decide) ?_
    obtain ⟨z19, hz19, hf⟩ := lett_e hf
    have hPc := hP.sub (ws' := kX1 T hc ac uc) [4] rfl
    have hDc := hD.sub (ws' := kX1 T hc ac uc) [4] (by decide) rfl
    have hFc9 := va_free (wc := kX1 T hc ac uc) hD hS hA [4] rfl
    refine cVMv (As := [.int 4]) (rest := []) ⟨hx, hb, hml, hown, hts⟩ (mX1_failHere l D T hc ac uc _ 4 z19 hz19.symm) (cwV 1 hts gX10_readLine_X1_failHere rfl rfl rfl (by decide +kernel) ⟨Nat.le_of_ble_eq_true rfl, Nat.le_of_ble_eq_true rfl⟩) (va_recv hK.1 hP (ci := 1) (q0 := 4) rfl rfl) hPc hK rfl hl.1 rfl (Nat.le_of_ble_eq_true rfl) dX10_readLine_24 ⟨Nat.le_of_ble_eq_true rfl, Nat.le_of_ble_eq_true rfl⟩ hDc hFc9 hS (fun H9 locs hP1 hD1 hk1 hS => ?_)
    obtain ⟨hP, hD⟩ := putAll_P (w1 := kX1 T hc ac z19) hP hD [4] rfl (by decide) hk1 hP1 rfl
    generalize H9 = H at hP hS ⊢
    have hP : va_P D vwCl (kX10 T h a u ++ kX1 T hc ac z19 ++ kX8 T (ac 0) atp utp) H := by exact hP
    have hD : va_D (va_A (kX10 T h a u ++ kX1 T hc ac uc ++ kX8 T (ac 0) atp utp) s.heap.size) (kX10 T h a u ++ kX1 T hc ac z19 ++ kX8 T (ac 0) atp utp) := by exact hD
    refine lv_goto (tgt := 98) hx hb dX10_readLine_27 (by decide) ?_
    have e9 := Option.some.inj hf
    exact retMv hx hb hr hlocks hP hD hS (congrArg (fun z => (kX10 T h a z.1 ++ kX1 T hc ac z.2 ++ kX8 T (ac 0) atp utp : va_W)) e9) dX10_readLine_98
  replace hf := ifp c3 hf
  refine lv_aload_n hx hb dX10_readLine_8 rfl (lv_at hl 1 rfl) ?_
  refine lv_iconst (v := 1) hx hb dX10_readLine_9 (by decide) ?_
  obtain ⟨z20, hz20, hf⟩ := lett_e hf
  have hPc := hP.sub (ws' := kX1 T hc ac uc) [4] rfl
  have hDc := hD.sub (ws' := kX1 T hc ac uc) [4] (by decide) rfl
  have hFc9 := va_free (wc := kX1 T hc ac uc) hD hS hA [4] rfl
  refine cVMv (As := [.int 1]) (rest := []) ⟨hx, hb, hml, hown, hts⟩ (mX1_failHere l D T hc ac uc _ 1 z20 hz20.symm) (cwV 1 hts gX10_readLine_X1_failHere rfl rfl rfl (by decide +kernel) ⟨Nat.le_of_ble_eq_true rfl, Nat.le_of_ble_eq_true rfl⟩) (va_recv hK.1 hP (ci := 1) (q0 := 4) rfl rfl) hPc hK rfl hl.1 rfl (Nat.le_of_ble_eq_true rfl) dX10_readLine_10 ⟨Nat.le_of_ble_eq_true rfl, Nat.le_of_ble_eq_true rfl⟩ hDc hFc9 hS (fun H9 locs hP1 hD1 hk1 hS => ?_)
  obtain ⟨hP, hD⟩ := putAll_P (w1 := kX1 T hc ac z20) hP hD [4] rfl (by decide) hk1 hP1 rfl
  generalize H9 = H at hP hS ⊢
  have hP : va_P D vwCl (kX10 T h a u ++ kX1 T hc ac z20 ++ kX8 T (ac 0) atp utp) H := by exact hP
  have hD : va_D (va_A (kX10 T h a u ++ kX1 T hc ac uc ++ kX8 T (ac 0) atp utp) s.heap.size) (kX10 T h a u ++ kX1 T hc ac z20 ++ kX8 T (ac 0) atp utp) := by exact hD
  refine lv_goto (tgt := 98) hx hb dX10_readLine_13 (by decide) ?_
  have e9 := Option.some.inj hf
  exact retMv hx hb hr hlocks hP hD hS (congrArg (fun z => (kX10 T h a z.1 ++ kX1 T hc ac z.2 ++ kX8 T (ac 0) atp utp : va_W)) e9) dX10_readLine_98
def bX10_read_L7 (utp : St)  (lp7 : St → St → Int32 → Option (St × St)) (v : St) (vc : St) (x2 : Int32) : Option (St × St) := if 16 < x2 then some (v, vc) else (fX1_begins vc utp x2).bind fun z2 => if z2.1 = 0 then some (v, z2.2) else (fX10_readLine v z2.2 utp x2).bind fun z4 => lett (x2 + 1) fun t5 => lp7 z4.1 z4.2 t5
def fX10_read_L7 (utp : St)  : Nat → St → St → Int32 → Option (St × St)
  | 0, _, _, _ => none
  | n + 1, v, vc, x2 => bX10_read_L7 utp (fX10_read_L7 utp n) v vc x2
def fX10_read  (u : St) (uc : St) (utp : St)  : Option (St × St) := lett (st u 3 0 0) fun u6 => fX10_read_L7 utp FU u6 uc 0
set_option maxHeartbeats 4000000 in
set_option maxRecDepth 100000 in
theorem mX10_read (l : Launch) (D : va_G) (T : Ty3) (h : Nat) (a : Nat → Nat) (u : St) (hc : Nat) (ac : Nat → Nat) (uc : St) (atp : Nat → Nat) (utp : St) (sz : Nat)  (res : St × St) (hf : fX10_read u uc utp = some res) : Met l yX10_read wsX10_read ({ frames := 5, cells := 0, slots := 0, locals := 109 }) (PcM D T (kX10 T h a u ++ kX1 T hc ac uc ++ kX8 T (ac 0) atp utp) sz [.ref h, .ref hc]) (QMv D (kX10 T h a u ++ kX1 T hc ac uc ++ kX8 T (ac 0) atp utp) sz (kX10 T h a res.1 ++ kX1 T hc ac res.2 ++ kX8 T (ac 0) atp utp)) 0 0 (va_A (kX10 T h a u ++ kX1 T hc ac uc ++ kX8 T (ac 0) atp utp) sz) := by
  refine Met.ofW (cc := cX10_read) (maxL := 3) (ret := none) (by decide) rfl ?_
  intro p e s m args below meth c s₁ B hml hv
  obtain ⟨rfl, hsz, hP, hK, hD0⟩ := hv
  have hx := B.exec
  have hb := B.bytes
  have hr := B.returns
  have hts := atoms_spec (ws := wsX10_read) B.pre
  have hown : s.vm.findClass RX10 = some m.cls := findClass_of_methodNamed B.named
  have hlocks := B.notSynchronized
  subst hsz
  have hD := hD0.self (sz := s.heap.size)
  have hA : ∀ q : Nat, s.heap.size ≤ q → va_A (kX10 T h a u ++ kX1 T hc ac uc ++ kX8 T (ac 0) atp utp) s.heap.size q := fun q h => Or.inr h
  have hS : va_S (va_A (kX10 T h a u ++ kX1 T hc ac uc ++ kX8 T (ac 0) atp utp) s.heap.size) s.heap s.heap [] := va_S.rf
  have hinX10 : ∀ w ∈ u_ws RX10 TX10 4, w ∈ wsX10_read := fun w h => List.mem_cons_of_mem _ (List.mem_append_left _ (List.mem_append_left _ (List.mem_append_right _ h)))
  have hinX1 : ∀ w ∈ u_ws RX1 TX1 5, w ∈ wsX10_read := fun w h => List.mem_cons_of_mem _ (List.mem_append_left _ (List.mem_append_right _ h))
  have hinX8 : ∀ w ∈ u_ws RX8 TX8 2, w ∈ wsX10_read := fun w h => List.mem_cons_of_mem _ (List.mem_append_right _ h)
  have hl := lv_entry ([.ref h, .ref hc]) (n := 3) (Nat.le_of_ble_eq_true rfl)
  rw [lg_entry_eq]
  generalize (lg_sl ([.ref h, .ref hc]) ++ List.replicate (3 - (lg_sl ([.ref h, .ref hc])).length) Slot.unset).toArray = ls at hl ⊢
  have hl : lv_has ls 3 [(0, .ref h), (1, .ref hc)] := hl
  have L7 : ∀ (n7 : Nat), ∀ (v : St) (vc : St) (x2 : Int32) (H : Heap) (locs : List Loc) (ls : Array Slot), fX10_read_L7 utp n7 v vc x2 = some res → va_P D vwCl (kX10 T h a v ++ kX1 T hc ac vc ++ kX8 T (ac 0) atp utp) H → va_D (va_A (kX10 T h a u ++ kX1 T hc ac uc ++ kX8 T (ac 0) atp utp) s.heap.size) (kX10 T h a v ++ kX1 T hc ac vc ++ kX8 T (ac 0) atp utp) → va_S (va_A (kX10 T h a u ++ kX1 T hc ac uc ++ kX8 T (ac 0) atp utp) s.heap.size) s.heap H locs → lv_has ls 3 [(0, .ref h), (1, .ref hc), (2, .int x2)] → W p l e (headSpec wsX10_read ({ frames := 5, cells := 0, slots := 0, locals := 109 })).room s m ([.ref h, .ref hc] : List Value).toArray below meth c H locs 0 0 (MQ below (QMv D (kX10 T h a u ++ kX1 T hc ac uc ++ kX8 T (ac 0) atp utp) s.heap.size (kX10 T h a res.1 ++ kX1 T hc ac res.2 ++ kX8 T (ac 0) atp utp)) ([.ref h, .ref hc] : List Value).toArray s 0 0 (va_A (kX10 T h a u ++ kX1 T hc ac uc ++ kX8 T (ac 0) atp utp) s.heap.size)) (F0 m 7 ls []) := by
    intro n7
    induction n7 with
    | zero => intro v vc x2 H locs ls hf; exact nns hf
    | succ n7 ih7 =>
      intro v vc x2 H locs ls hf hP hD hS hl
      replace hf : bX10_read_L7 utp (fX10_read_L7 utp n7) v vc x2 = some res := hf
      unfold bX10_read_L7 at hf
      refine lv_iload_n hx hb dX10_read_7 rfl (lv_at hl 2 rfl) ?_
      refine lv_bipush (v := 16) hx hb dX10_read_8 (by decide) ?_
      refine lv_icmp_gt (tgt := 33) hx hb dX10_read_10 (by decide) (fun c1 => ?_) (fun c1 => ?_)
      · replace hf := ifp c1 hf
        have e9 := Option.some.inj hf
        exact retMv hx hb hr hlocks hP hD hS (congrArg (fun z => (kX10 T h a z.1 ++ kX1 T hc ac z.2 ++ kX8 T (ac 0) atp utp : va_W)) e9) dX10_read_33
      replace hf := ifn c1 hf
      refine lv_aload_n hx hb dX10_read_13 rfl (lv_at hl 1 rfl) ?_
      refine lv_iload_n hx hb dX10_read_14 rfl (lv_at hl 2 rfl) ?_
      obtain ⟨z2, hz2, hf⟩ := bnd hf
      have hPc := hP.sub (ws' := kX1 T hc ac vc ++ kX8 T (ac 0) atp utp) [4, 5, 6] rfl
      have hDc := hD.sub (ws' := kX1 T hc ac vc ++ kX8 T (ac 0) atp utp) [4, 5, 6] (by decide) rfl
      have hFc9 := va_free (wc := kX1 T hc ac vc ++ kX8 T (ac 0) atp utp) hD hS hA [4, 5, 6] rfl
      refine cVM (As := [.int x2]) (rest := []) ⟨hx, hb, hml, hown, hts⟩ (mX1_begins l D T hc ac vc atp utp _ x2 z2 hz2) (cwV 1 hts gX10_read_X1_begins rfl rfl rfl (by decide +kernel) ⟨Nat.le_of_ble_eq_true rfl, Nat.le_of_ble_eq_true rfl⟩) (va_recv hK.1 hP (ci := 1) (q0 := 4) rfl rfl) hPc hK rfl hl.1 rfl (Nat.le_of_ble_eq_true rfl) dX10_read_15 ⟨Nat.le_of_ble_eq_true rfl, Nat.le_of_ble_eq_true rfl⟩ hDc hFc9 hS (fun H9 locs hP1 hD1 hk1 hS => ?_)
      obtain ⟨hP, hD⟩ := putAll_P (w1 := kX1 T hc ac z2.2 ++ kX8 T (ac 0) atp utp) hP hD [4, 5, 6] rfl (by decide) hk1 hP1 rfl
      generalize H9 = H at hP hS ⊢
      have hP : va_P D vwCl (kX10 T h a v ++ kX1 T hc ac z2.2 ++ kX8 T (ac 0) atp utp) H := by exact hP
      have hD : va_D (va_A (kX10 T h a u ++ kX1 T hc ac uc ++ kX8 T (ac 0) atp utp) s.heap.size) (kX10 T h a v ++ kX1 T hc ac z2.2 ++ kX8 T (ac 0) atp utp) := by exact hD
      refine lv_if_eq (tgt := 33) hx hb dX10_read_18 (by decide) (fun c3 => ?_) (fun c3 => ?_)
      · replace hf := ifp c3 hf
        have e9 := Option.some.inj hf
        exact retMv hx hb hr hlocks hP hD hS (congrArg (fun z => (kX10 T h a z.1 ++ kX1 T hc ac z.2 ++ kX8 T (ac 0) atp utp : va_W)) e9) dX10_read_33
      replace hf := ifn c3 hf
      refine lv_aload_n hx hb dX10_read_21 rfl (lv_at hl 0 rfl) ?_
      refine lv_aload_n hx hb dX10_read_22 rfl (lv_at hl 1 rfl) ?_
      refine lv_iload_n hx hb dX10_read_23 rfl (lv_at hl 2 rfl) ?_
      obtain ⟨z4, hz4, hf⟩ := bnd hf
      have hFc9 := vaA_self hD hS hA
      refine cVMv (As := [.ref hc, .int x2]) (rest := []) ⟨hx, hb, hml, hown, hts⟩ (mX10_readLine l D T h a v hc ac z2.2 atp utp _ x2 z4 hz4) (cwV 2 hts gX10_read_X10_readLine rfl rfl rfl (by decide +kernel) ⟨Nat.le_of_ble_eq_true rfl, Nat.le_of_ble_eq_true rfl⟩) (va_recv hK.1 hP (ci := 10) (q0 := 0) rfl rfl) hP hK rfl hl.1 rfl (Nat.le_of_ble_eq_true rfl) dX10_read_24 ⟨Nat.le_of_ble_eq_true rfl, Nat.le_of_ble_eq_true rfl⟩ hD hFc9 hS (fun H locs hP hD1 _ hS => ?_)
      have hD := hD1.weaken (fun _ _ _ h9 => hFc9 _ h9)
      obtain ⟨t5, et5, hf⟩ := lett_e hf
      refine lv_iinc (v := t5) (lv' := [(2, .int t5), (0, .ref h), (1, .ref hc)]) hx hb dX10_read_27 hl (k := 2) rfl (by rw [et5]; rfl) (by decide) rfl (fun ls hl => ?_)
      refine lv_goto (tgt := 7) hx hb dX10_read_30 (by decide) ?_
      exact ih7 z4.1 z4.2 t5 _ _ _ hf hP hD hS (lv_sub hl [1, 2, 0] rfl)
  unfold fX10_read at hf
  refine lv_aload_n hx hb dX10_read_0 rfl (lv_at hl 0 rfl) ?_
  refine lv_iconst (v := 0) hx hb dX10_read_1 (by decide) ?_
  obtain ⟨u6, eu6, hf⟩ := lett_e hf
  refine va_put (D := D) (ci := 10) (v := .int 0) (ty := .int) (C := RX10) (T := TX10) (N := 4) hx hb hts hinX10 tyX10 tyX10_ok nmX10 hown hK.1 hP hD hS 0 rfl rfl 3 (by decide) (hts (.fieldLink RX10 21 "RopeScale$Weighings" "lines" "I") (List.mem_of_getElem? (i := 1) rfl)) (fun _ h9 => h9) rfl (tyX10_ok 3 (by decide)) rfl rfl (Nat.le_of_ble_eq_true rfl) dX10_read_2 (fun H locs hP hD hS => ?_)
  have hP : va_P D vwCl (kX10 T h a u6 ++ kX1 T hc ac uc ++ kX8 T (ac 0) atp utp) H := by rw [eu6]; exact hP
  have hD : va_D (va_A (kX10 T h a u ++ kX1 T hc ac uc ++ kX8 T (ac 0) atp utp) s.heap.size) (kX10 T h a u6 ++ kX1 T hc ac uc ++ kX8 T (ac 0) atp utp) := by rw [eu6]; exact hD
  refine lv_iconst (v := 0) hx hb dX10_read_5 (by decide) ?_
  refine lv_istore_n (lv' := [(2, .int 0), (0, .ref h), (1, .ref hc)]) hx hb dX10_read_6 rfl hl (by decide) rfl (fun ls hl => ?_)
  exact L7 FU u6 uc 0 _ _ _ hf hP hD hS (lv_sub hl [1, 2, 0] rfl)
def bX10_letters_L4 (u : St)  (lp4 : Int32 → Int32 → Option (Int32)) (x1 : Int32) (x2 : Int32) : Option (Int32) := if (u 3 0) ≤ x2 then some x1 else gd x2 16 <| gd x2 16 <| lett (x1 ||| ((u 0 (ix x2)) ||| (u 1 (ix x2)))) fun t2 => lett (x2 + 1) fun t3 => lp4 t2 t3
def fX10_letters_L4 (u : St)  : Nat → Int32 → Int32 → Option (Int32)
  | 0, _, _ => none
  | n + 1, x1, x2 => bX10_letters_L4 u (fX10_letters_L4 u n) x1 x2
def fX10_letters  (u : St)  : Option (Int32) := fX10_letters_L4 u FU 0 0
set_option maxHeartbeats 4000000 in
set_option maxRecDepth 100000 in
theorem mX10_letters (l : Launch) (D : va_G) (T : Ty3) (h : Nat) (a : Nat → Nat) (u : St)  (res : Int32) (hf : fX10_letters u = some res) : Met l yX10_letters wsX10_letters ({ frames := 0, cells := 0, slots := 0, locals := 0 }) (PcR D T (kX10 T h a u) [.ref h]) (QR res) 0 0 noA := by
  refine Met.ofW (cc := cX10_letters) (maxL := 3) (ret := (some .int)) (by decide) rfl ?_
  intro p e s m args below meth c s₁ B hml hv
  obtain ⟨rfl, hP, hK⟩ := hv
  have hx := B.exec
  have hb := B.bytes
  have hr := B.returns
  have hts := atoms_spec (ws := wsX10_letters) B.pre
  have hown : s.vm.findClass RX10 = some m.cls := findClass_of_methodNamed B.named
  have hlocks := B.notSynchronized
  have hS : va_S noA s.heap s.heap [] := va_S.rf
  have hinX10 : ∀ w ∈ u_ws RX10 TX10 4, w ∈ wsX10_letters := fun w h => List.mem_cons_of_mem _ (List.mem_append_right _ h)
  have hl := lv_entry ([.ref h]) (n := 3) (Nat.le_of_ble_eq_true rfl)
  rw [lg_entry_eq]
  generalize (lg_sl ([.ref h]) ++ List.replicate (3 - (lg_sl ([.ref h])).length) Slot.unset).toArray = ls at hl ⊢
  have hl : lv_has ls 3 [(0, .ref h)] := hl
  have L4 : ∀ (n4 : Nat), ∀ (x1 : Int32) (x2 : Int32) (H : Heap) (locs : List Loc) (ls : Array Slot), fX10_letters_L4 u n4 x1 x2 = some res → va_P D vwCl (kX10 T h a u) H → va_S noA s.heap H locs → lv_has ls 3 [(0, .ref h), (1, .int x1), (2, .int x2)] → W p l e (headSpec wsX10_letters ({ frames := 0, cells := 0, slots := 0, locals := 0 })).room s m ([.ref h] : List Value).toArray below meth c H locs 0 0 (MQ below (QR res) ([.ref h] : List Value).toArray s 0 0 noA) (F0 m 4 ls []) := by
    intro n4
    induction n4 with
    | zero => intro x1 x2 H locs ls hf; exact nns hf
    | succ n4 ih4 =>
      intro x1 x2 H locs ls hf hP hS hl
      replace hf : bX10_letters_L4 u (fX10_letters_L4 u n4) x1 x2 = some res := hf
      unfold bX10_letters_L4 at hf
      refine lv_iload_n hx hb dX10_letters_4 rfl (lv_at hl 2 rfl) ?_
      refine lv_aload_n hx hb dX10_letters_5 rfl (lv_at hl 0 rfl) ?_
      refine va_get (D := D) (ci := 10) (v := .int (u 3 0)) (C := RX10) (T := TX10) (N := 4) hx hb hts hinX10 hown hK.1 hP 0 rfl rfl 3 (by decide) (hts (.fieldLink RX10 21 "RopeScale$Weighings" "lines" "I") (List.mem_of_getElem? (i := 1) rfl)) (fun _ h9 => h9) rfl dX10_letters_6 ?_
      refine lv_icmp_ge (tgt := 34) hx hb dX10_letters_9 (by decide) (fun c1 => ?_) (fun c1 => ?_)
      · replace hf := ifp c1 hf
        refine lv_iload_n hx hb dX10_letters_34 rfl (lv_at hl 1 rfl) ?_
        exact retR hx hb hr hlocks hS (Option.some.inj hf) dX10_letters_35
      replace hf := ifn c1 hf
      refine lv_iload_n hx hb dX10_letters_12 rfl (lv_at hl 1 rfl) ?_
      refine lv_aload_n hx hb dX10_letters_13 rfl (lv_at hl 0 rfl) ?_
      refine va_get (D := D) (ci := 10) (v := .ref (a 0)) (C := RX10) (T := TX10) (N := 4) hx hb hts hinX10 hown hK.1 hP 0 rfl rfl 0 (by decide) (hts (.fieldLink RX10 11 "RopeScale$Weighings" "left" "[I") (List.mem_of_getElem? (i := 2) rfl)) (fun _ h9 => h9) rfl dX10_letters_14 ?_
      refine lv_iload_n hx hb dX10_letters_17 rfl (lv_at hl 2 rfl) ?_
      obtain ⟨h5, hf⟩ := gd_e hf
      refine va_iald hx hb hK.1 hP 1 0 rfl rfl h5 dX10_letters_18 ?_
      refine lv_aload_n hx hb dX10_letters_19 rfl (lv_at hl 0 rfl) ?_
      refine va_get (D := D) (ci := 10) (v := .ref (a 1)) (C := RX10) (T := TX10) (N := 4) hx hb hts hinX10 hown hK.1 hP 0 rfl rfl 1 (by decide) (hts (.fieldLink RX10 15 "RopeScale$Weighings" "right" "[I") (List.mem_of_getElem? (i := 3) rfl)) (fun _ h9 => h9) rfl dX10_letters_20 ?_
      refine lv_iload_n hx hb dX10_letters_23 rfl (lv_at hl 2 rfl) ?_
      obtain ⟨h4, hf⟩ := gd_e hf
      refine va_iald hx hb hK.1 hP 2 0 rfl rfl h4 dX10_letters_24 ?_
      refine lv_ior hx hb dX10_letters_25 ?_
      refine lv_ior hx hb dX10_letters_26 ?_
      obtain ⟨t2, et2, hf⟩ := lett_e hf
      refine lv_eqi et2 ?_
      refine lv_istore_n (lv' := [(1, .int t2), (0, .ref h), (2, .int x2)]) hx hb dX10_letters_27 rfl hl (by decide) rfl (fun ls hl => ?_)
      obtain ⟨t3, et3, hf⟩ := lett_e hf
      refine lv_iinc (v := t3) (lv' := [(2, .int t3), (1, .int t2), (0, .ref h)]) hx hb dX10_letters_28 hl (k := 2) rfl (by rw [et3]; rfl) (by decide) rfl (fun ls hl => ?_)
      refine lv_goto (tgt := 4) hx hb dX10_letters_31 (by decide) ?_
      exact ih4 t2 t3 _ _ _ hf hP hS (lv_sub hl [2, 1, 0] rfl)
  unfold fX10_letters at hf
  refine lv_iconst (v := 0) hx hb dX10_letters_0 (by decide) ?_
  refine lv_istore_n (lv' := [(1, .int 0), (0, .ref h)]) hx hb dX10_letters_1 rfl hl (by decide) rfl (fun ls hl => ?_)
  refine lv_iconst (v := 0) hx hb dX10_letters_2 (by decide) ?_
  refine lv_istore_n (lv' := [(2, .int 0), (1, .int 0), (0, .ref h)]) hx hb dX10_letters_3 rfl hl (by decide) rfl (fun ls hl => ?_)
  exact L4 FU 0 0 _ _ _ hf hP hS (lv_sub hl [2, 1, 0] rfl)
def fX10_isAside  (u : St) (p1 : Int32) (p2 : Int32) : Option (Int32) := gd p1 16 <| gd p1 16 <| if (((u 0 (ix p1)) ||| (u 1 (ix p1))) &&& (p2 ^^^ (-1))) = 0 then some 0 else some 1
set_option maxHeartbeats 4000000 in
set_option maxRecDepth 100000 in
theorem mX10_isAside (l : Launch) (D : va_G) (T : Ty3) (h : Nat) (a : Nat → Nat) (u : St) (p1 : Int32) (p2 : Int32) (res : Int32) (hf : fX10_isAside u p1 p2 = some res) : Met l yX10_isAside wsX10_isAside ({ frames := 0, cells := 0, slots := 0, locals := 0 }) (PcR D T (kX10 T h a u) [.ref h, .int p1, .int p2]) (QR res) 0 0 noA := by
  refine Met.ofW (cc := cX10_isAside) (maxL := 3) (ret := (some .boolean)) (by decide) rfl ?_
  intro p e s m args below meth c s₁ B hml hv
  obtain ⟨rfl, hP, hK⟩ := hv
  have hx := B.exec
  have hb := B.bytes
  have hr := B.returns
  have hts := atoms_spec (ws := wsX10_isAside) B.pre
  have hown : s.vm.findClass RX10 = some m.cls := findClass_of_methodNamed B.named
  have hlocks := B.notSynchronized
  have hS : va_S noA s.heap s.heap [] := va_S.rf
  have hinX10 : ∀ w ∈ u_ws RX10 TX10 4, w ∈ wsX10_isAside := fun w h => List.mem_cons_of_mem _ (List.mem_append_right _ h)
  have hl := lv_entry ([.ref h, .int p1, .int p2]) (n := 3) (Nat.le_of_ble_eq_true rfl)
  rw [lg_entry_eq]
  generalize (lg_sl ([.ref h, .int p1, .int p2]) ++ List.replicate (3 - (lg_sl ([.ref h, .int p1, .int p2])).length) Slot.unset).toArray = ls at hl ⊢
  have hl : lv_has ls 3 [(0, .ref h), (1, .int p1), (2, .int p2)] := hl
  unfold fX10_isAside at hf
  refine lv_aload_n hx hb dX10_isAside_0 rfl (lv_at hl 0 rfl) ?_
  refine va_get (D := D) (ci := 10) (v := .ref (a 0)) (C := RX10) (T := TX10) (N := 4) hx hb hts hinX10 hown hK.1 hP 0 rfl rfl 0 (by decide) (hts (.fieldLink RX10 11 "RopeScale$Weighings" "left" "[I") (List.mem_of_getElem? (i := 1) rfl)) (fun _ h9 => h9) rfl dX10_isAside_1 ?_
  refine lv_iload_n hx hb dX10_isAside_4 rfl (lv_at hl 1 rfl) ?_
  obtain ⟨h3, hf⟩ := gd_e hf
  refine va_iald hx hb hK.1 hP 1 0 rfl rfl h3 dX10_isAside_5 ?_
  refine lv_aload_n hx hb dX10_isAside_6 rfl (lv_at hl 0 rfl) ?_
  refine va_get (D := D) (ci := 10) (v := .ref (a 1)) (C := RX10) (T := TX10) (N := 4) hx hb hts hinX10 hown hK.1 hP 0 rfl rfl 1 (by decide) (hts (.fieldLink RX10 15 "RopeScale$Weighings" "right" "[I") (List.mem_of_getElem? (i := 2) rfl)) (fun _ h9 => h9) rfl dX10_isAside_7 ?_
  refine lv_iload_n hx hb dX10_isAside_10 rfl (lv_at hl 1 rfl) ?_
  obtain ⟨h2, hf⟩ := gd_e hf
  refine va_iald hx hb hK.1 hP 2 0 rfl rfl h2 dX10_isAside_11 ?_
  refine lv_ior hx hb dX10_isAside_12 ?_
  refine lv_iload_n hx hb dX10_isAside_13 rfl (lv_at hl 2 rfl) ?_
  refine lv_iconst (v := (-1)) hx hb dX10_isAside_14 (by decide) ?_
  refine lv_ixor hx hb dX10_isAside_15 ?_
  refine lv_iand hx hb dX10_isAside_16 ?_
  refine lv_if_eq (tgt := 24) hx hb dX10_isAside_17 (by decide) (fun c1 => ?_) (fun c1 => ?_)
  · replace hf := ifp c1 hf
    refine lv_iconst (v := 0) hx hb dX10_isAside_24 (by decide) ?_
    exact retRz hx hb hr hlocks hS rfl (Option.some.inj hf) dX10_isAside_25
  replace hf := ifn c1 hf
  refine lv_iconst (v := 1) hx hb dX10_isAside_20 (by decide) ?_
  refine lv_goto (tgt := 25) hx hb dX10_isAside_21 (by decide) ?_
  exact retRz hx hb hr hlocks hS rfl (Option.some.inj hf) dX10_isAside_25
def fX10_outcomeOf   (p0 : Int32) (p1 : Int32) : (Int32) := if p0 = p1 then 61 else if p1 ≤ p0 then 62 else 60
set_option maxHeartbeats 4000000 in
set_option maxRecDepth 100000 in
theorem mX10_outcomeOf (l : Launch) (D : va_G) (T : Ty3)  (p0 : Int32) (p1 : Int32) (res : Int32) (hf : fX10_outcomeOf p0 p1 = res) : Met l yX10_outcomeOf wsX10_outcomeOf ({ frames := 0, cells := 0, slots := 0, locals := 0 }) (PcR D T ([]) [.int p0, .int p1]) (QR res) 0 0 noA := by
  refine Met.ofW (cc := cX10_outcomeOf) (maxL := 2) (ret := (some .int)) (by decide) rfl ?_
  intro p e s m args below meth c s₁ B hml hv
  obtain ⟨rfl, hP, hK⟩ := hv
  have hx := B.exec
  have hb := B.bytes
  have hr := B.returns
  have hts := atoms_spec (ws := wsX10_outcomeOf) B.pre
  have hown : s.vm.findClass RX10 = some m.cls := findClass_of_methodNamed B.named
  have hlocks := B.notSynchronized
  have hS : va_S noA s.heap s.heap [] := va_S.rf
  have hl := lv_entry ([.int p0, .int p1]) (n := 2) (Nat.le_of_ble_eq_true rfl)
  rw [lg_entry_eq]
  generalize (lg_sl ([.int p0, .int p1]) ++ List.replicate (2 - (lg_sl ([.int p0, .int p1])).length) Slot.unset).toArray = ls at hl ⊢
  have hl : lv_has ls 2 [(0, .int p0), (1, .int p1)] := hl
  unfold fX10_outcomeOf at hf
  refine lv_iload_n hx hb dX10_outcomeOf_0 rfl (lv_at hl 0 rfl) ?_
  refine lv_iload_n hx hb dX10_outcomeOf_1 rfl (lv_at hl 1 rfl) ?_
  refine lv_icmp_ne (tgt := 8) hx hb dX10_outcomeOf_2 (by decide) (fun c1 => ?_) (fun c1 => ?_)
  · replace hf := ifn c1 hf
    refine lv_iload_n hx hb dX10_outcomeOf_8 rfl (lv_at hl 0 rfl) ?_
    refine lv_iload_n hx hb dX10_outcomeOf_9 rfl (lv_at hl 1 rfl) ?_
    refine lv_icmp_ge (tgt := 18) hx hb dX10_outcomeOf_10 (by decide) (fun c2 => ?_) (fun c2 => ?_)
    · replace hf := ifp c2 hf
      refine lv_bipush (v := 62) hx hb dX10_outcomeOf_18 (by decide) ?_
      exact retR hx hb hr hlocks hS hf dX10_outcomeOf_20
    replace hf := ifn c2 hf
    refine lv_bipush (v := 60) hx hb dX10_outcomeOf_13 (by decide) ?_
    refine lv_goto (tgt := 20) hx hb dX10_outcomeOf_15 (by decide) ?_
    exact retR hx hb hr hlocks hS hf dX10_outcomeOf_20
  replace hf := ifp c1 hf
  refine lv_bipush (v := 61) hx hb dX10_outcomeOf_5 (by decide) ?_
  exact retR hx hb hr hlocks hS hf dX10_outcomeOf_7
def fX10_isSo  (u : St) (uc : St) (p1 : Int32) : Option (Int32) := gd p1 16 <| gd p1 16 <| (fX0_sum uc (u 0 (ix p1))).bind fun z1 => gd p1 16 <| (fX0_sum uc (u 1 (ix p1))).bind fun z2 => lett (fX10_outcomeOf z1 z2) fun z3 => if (u 2 (ix p1)) = z3 then some 1 else some 0
set_option maxHeartbeats 4000000 in
set_option maxRecDepth 100000 in
theorem mX10_isSo (l : Launch) (D : va_G) (T : Ty3) (h : Nat) (a : Nat → Nat) (u : St) (hc : Nat) (ac : Nat → Nat) (uc : St) (p1 : Int32) (res : Int32) (hf : fX10_isSo u uc p1 = some res) : Met l yX10_isSo wsX10_isSo ({ frames := 1, cells := 0, slots := 0, locals := 21 }) (PcR D T (kX10 T h a u ++ kX0 T hc ac uc) [.ref h, .int p1, .ref hc]) (QR res) 0 0 noA := by
  refine Met.ofW (cc := cX10_isSo) (maxL := 3) (ret := (some .boolean)) (by decide) rfl ?_
  intro p e s m args below meth c s₁ B hml hv
  obtain ⟨rfl, hP, hK⟩ := hv
  have hx := B.exec
  have hb := B.bytes
  have hr := B.returns
  have hts := atoms_spec (ws := wsX10_isSo) B.pre
  have hown : s.vm.findClass RX10 = some m.cls := findClass_of_methodNamed B.named
  have hlocks := B.notSynchronized
  have hS : va_S noA s.heap s.heap [] := va_S.rf
  have hinX10 : ∀ w ∈ u_ws RX10 TX10 4, w ∈ wsX10_isSo := fun w h => List.mem_cons_of_mem _ (List.mem_append_left _ (List.mem_append_right _ h))
  have hinX0 : ∀ w ∈ u_ws RX0 TX0 6, w ∈ wsX10_isSo := fun w h => List.mem_cons_of_mem _ (List.mem_append_right _ h)
  have hl := lv_entry ([.ref h, .int p1, .ref hc]) (n := 3) (Nat.le_of_ble_eq_true rfl)
  rw [lg_entry_eq]
  generalize (lg_sl ([.ref h, .int p1, .ref hc]) ++ List.replicate (3 - (lg_sl ([.ref h, .int p1, .ref hc])).length) Slot.unset).toArray = ls at hl ⊢
  have hl : lv_has ls 3 [(0, .ref h), (1, .int p1), (2, .ref hc)] := hl
  unfold fX10_isSo at hf
  refine lv_aload_n hx hb dX10_isSo_0 rfl (lv_at hl 0 rfl) ?_
  refine va_get (D := D) (ci := 10) (v := .ref (a 2)) (C := RX10) (T := TX10) (N := 4) hx hb hts hinX10 hown hK.1 hP 0 rfl rfl 2 (by decide) (hts (.fieldLink RX10 18 "RopeScale$Weighings" "outcome" "[I") (List.mem_of_getElem? (i := 1) rfl)) (fun _ h9 => h9) rfl dX10_isSo_1 ?_
  refine lv_iload_n hx hb dX10_isSo_4 rfl (lv_at hl 1 rfl) ?_
  obtain ⟨h7, hf⟩ := gd_e hf
  refine va_iald hx hb hK.1 hP 3 0 rfl rfl h7 dX10_isSo_5 ?_
  refine lv_aload_n hx hb dX10_isSo_6 rfl (lv_at hl 2 rfl) ?_
  refine lv_aload_n hx hb dX10_isSo_7 rfl (lv_at hl 0 rfl) ?_
  refine va_get (D := D) (ci := 10) (v := .ref (a 0)) (C := RX10) (T := TX10) (N := 4) hx hb hts hinX10 hown hK.1 hP 0 rfl rfl 0 (by decide) (hts (.fieldLink RX10 11 "RopeScale$Weighings" "left" "[I") (List.mem_of_getElem? (i := 2) rfl)) (fun _ h9 => h9) rfl dX10_isSo_8 ?_
  refine lv_iload_n hx hb dX10_isSo_11 rfl (lv_at hl 1 rfl) ?_
  obtain ⟨h6, hf⟩ := gd_e hf
  refine va_iald hx hb hK.1 hP 1 0 rfl rfl h6 dX10_isSo_12 ?_
  obtain ⟨z1, hz1, hf⟩ := bnd hf
  refine cVR (As := [.int (u 0 (ix p1))]) (rest := [.int (u 2 (ix p1))]) ⟨hx, hb, hml, hown, hts⟩ (mX0_sum l D T hc ac uc (u 0 (ix p1)) z1 hz1) (cwV 1 hts gX10_isSo_X0_sum rfl rfl rfl (by decide +kernel) ⟨Nat.le_of_ble_eq_true rfl, Nat.le_of_ble_eq_true rfl⟩) (va_recv hK.1 hP (ci := 0) (q0 := 4) rfl rfl) (hP.sub (ws' := kX0 T hc ac uc) [4, 5, 6, 7, 8, 9, 10] rfl) hK rfl hl.1 rfl (Nat.le_of_ble_eq_true rfl) dX10_isSo_13 ⟨Nat.le_of_ble_eq_true rfl, Nat.le_of_ble_eq_true rfl⟩ hP hS (fun H locs hP hS => ?_)
  refine lv_aload_n hx hb dX10_isSo_16 rfl (lv_at hl 2 rfl) ?_
  refine lv_aload_n hx hb dX10_isSo_17 rfl (lv_at hl 0 rfl) ?_
  refine va_get (D := D) (ci := 10) (v := .ref (a 1)) (C := RX10) (T := TX10) (N := 4) hx hb hts hinX10 hown hK.1 hP 0 rfl rfl 1 (by decide) (hts (.fieldLink RX10 15 "RopeScale$Weighings" "right" "[I") (List.mem_of_getElem? (i := 3) rfl)) (fun _ h9 => h9) rfl dX10_isSo_18 ?_
  refine lv_iload_n hx hb dX10_isSo_21 rfl (lv_at hl 1 rfl) ?_
  obtain ⟨h5, hf⟩ := gd_e hf
  refine va_iald hx hb hK.1 hP 2 0 rfl rfl h5 dX10_isSo_22 ?_
  obtain ⟨z2, hz2, hf⟩ := bnd hf
  refine cVR (As := [.int (u 1 (ix p1))]) (rest := [.int z1, .int (u 2 (ix p1))]) ⟨hx, hb, hml, hown, hts⟩ (mX0_sum l D T hc ac uc (u 1 (ix p1)) z2 hz2) (cwV 1 hts gX10_isSo_X0_sum rfl rfl rfl (by decide +kernel) ⟨Nat.le_of_ble_eq_true rfl, Nat.le_of_ble_eq_true rfl⟩) (va_recv hK.1 hP (ci := 0) (q0 := 4) rfl rfl) (hP.sub (ws' := kX0 T hc ac uc) [4, 5, 6, 7, 8, 9, 10] rfl) hK rfl hl.1 rfl (Nat.le_of_ble_eq_true rfl) dX10_isSo_23 ⟨Nat.le_of_ble_eq_true rfl, Nat.le_of_ble_eq_true rfl⟩ hP hS (fun H locs hP hS => ?_)
  obtain ⟨z3, hz3, hf⟩ := lett_e hf
  refine cSR (As := [.int z1, .int z2]) (rest := [.int (u 2 (ix p1))]) ⟨hx, hb, hml, hown, hts⟩ (mX10_outcomeOf l D T z1 z2 z3 hz3.symm) (va_cwS 2 hts gX10_isSo_X10_outcomeOf rfl rfl rfl (by decide +kernel) ⟨Nat.le_of_ble_eq_true rfl, Nat.le_of_ble_eq_true rfl⟩) P0 hK rfl hl.1 rfl (Nat.le_of_ble_eq_true rfl) dX10_isSo_26 ⟨Nat.le_of_ble_eq_true rfl, Nat.le_of_ble_eq_true rfl⟩ hP hS (fun H locs hP hS => ?_)
  refine lv_icmp_ne (tgt := 36) hx hb dX10_isSo_29 (by decide) (fun c4 => ?_) (fun c4 => ?_)
  · replace hf := ifn c4 hf
    refine lv_iconst (v := 0) hx hb dX10_isSo_36 (by decide) ?_
    exact retRz hx hb hr hlocks hS rfl (Option.some.inj hf) dX10_isSo_37
  replace hf := ifp c4 hf
  refine lv_iconst (v := 1) hx hb dX10_isSo_32 (by decide) ?_
  refine lv_goto (tgt := 37) hx hb dX10_isSo_33 (by decide) ?_
  exact retRz hx hb hr hlocks hS rfl (Option.some.inj hf) dX10_isSo_37
def bX10_howManySo_L5 (u : St) (uc : St)  (lp5 : Int32 → Int32 → Int32 → Option (Int32)) (x2 : Int32) (x3 : Int32) (x4 : Int32) : Option (Int32) := if (u 3 0) ≤ x4 then some x3 else (fX10_isAside u x4 x2).bind fun z2 => if z2 = 0 then (fX10_isSo u uc x4).bind fun z6 => if z6 = 0 then lett (x3 + 0) fun t8 => lett (x4 + 1) fun t9 => lp5 x2 t8 t9 else lett (x3 + 1) fun t10 => lett (x4 + 1) fun t11 => lp5 x2 t10 t11 else lett (x3 + 0) fun t4 => lett (x4 + 1) fun t5 => lp5 x2 t4 t5
def fX10_howManySo_L5 (u : St) (uc : St)  : Nat → Int32 → Int32 → Int32 → Option (Int32)
  | 0, _, _, _ => none
  | n + 1, x2, x3, x4 => bX10_howManySo_L5 u uc (fX10_howManySo_L5 u uc n) x2 x3 x4
def fX10_howManySo  (u : St) (uc : St) (p2 : Int32) : Option (Int32) := fX10_howManySo_L5 u uc FU p2 0 0
set_option maxHeartbeats 4000000 in
set_option maxRecDepth 100000 in
theorem mX10_howManySo (l : Launch) (D : va_G) (T : Ty3) (h : Nat) (a : Nat → Nat) (u : St) (hc : Nat) (ac : Nat → Nat) (uc : St) (p2 : Int32) (res : Int32) (hf : fX10_howManySo u uc p2 = some res) : Met l yX10_howManySo wsX10_howManySo ({ frames := 2, cells := 0, slots := 0, locals := 43 }) (PcR D T (kX10 T h a u ++ kX0 T hc ac uc) [.ref h, .ref hc, .int p2]) (QR res) 0 0 noA := by
  refine Met.ofW (cc := cX10_howManySo) (maxL := 5) (ret := (some .int)) (by decide) rfl ?_
  intro p e s m args below meth c s₁ B hml hv
  obtain ⟨rfl, hP, hK⟩ := hv
  have hx := B.exec
  have hb := B.bytes
  have hr := B.returns
  have hts := atoms_spec (ws := wsX10_howManySo) B.pre
  have hown : s.vm.findClass RX10 = some m.cls := findClass_of_methodNamed B.named
  have hlocks := B.notSynchronized
  have hS : va_S noA s.heap s.heap [] := va_S.rf
  have hinX10 : ∀ w ∈ u_ws RX10 TX10 4, w ∈ wsX10_howManySo := fun w h => List.mem_cons_of_mem _ (List.mem_append_left _ (List.mem_append_right _ h))
  have hinX0 : ∀ w ∈ u_ws RX0 TX0 6, w ∈ wsX10_howManySo := fun w h => List.mem_cons_of_mem _ (List.mem_append_right _ h)
  have hl := lv_entry ([.ref h, .ref hc, .int p2]) (n := 5) (Nat.le_of_ble_eq_true rfl)
  rw [lg_entry_eq]
  generalize (lg_sl ([.ref h, .ref hc, .int p2]) ++ List.replicate (5 - (lg_sl ([.ref h, .ref hc, .int p2])).length) Slot.unset).toArray = ls at hl ⊢
  have hl : lv_has ls 5 [(0, .ref h), (1, .ref hc), (2, .int p2)] := hl
  have L5 : ∀ (n5 : Nat), ∀ (x2 : Int32) (x3 : Int32) (x4 : Int32) (H : Heap) (locs : List Loc) (ls : Array Slot), fX10_howManySo_L5 u uc n5 x2 x3 x4 = some res → va_P D vwCl (kX10 T h a u ++ kX0 T hc ac uc) H → va_S noA s.heap H locs → lv_has ls 5 [(0, .ref h), (1, .ref hc), (2, .int x2), (3, .int x3), (4, .int x4)] → W p l e (headSpec wsX10_howManySo ({ frames := 2, cells := 0, slots := 0, locals := 43 })).room s m ([.ref h, .ref hc, .int p2] : List Value).toArray below meth c H locs 0 0 (MQ below (QR res) ([.ref h, .ref hc, .int p2] : List Value).toArray s 0 0 noA) (F0 m 5 ls []) := by
    intro n5
    induction n5 with
    | zero => intro x2 x3 x4 H locs ls hf; exact nns hf
    | succ n5 ih5 =>
      intro x2 x3 x4 H locs ls hf hP hS hl
      replace hf : bX10_howManySo_L5 u uc (fX10_howManySo_L5 u uc n5) x2 x3 x4 = some res := hf
      unfold bX10_howManySo_L5 at hf
      refine lv_iload hx hb dX10_howManySo_5 (lv_at hl 4 rfl) ?_
      refine lv_aload_n hx hb dX10_howManySo_7 rfl (lv_at hl 0 rfl) ?_
      refine va_get (D := D) (ci := 10) (v := .int (u 3 0)) (C := RX10) (T := TX10) (N := 4) hx hb hts hinX10 hown hK.1 hP 0 rfl rfl 3 (by decide) (hts (.fieldLink RX10 21 "RopeScale$Weighings" "lines" "I") (List.mem_of_getElem? (i := 1) rfl)) (fun _ h9 => h9) rfl dX10_howManySo_8 ?_
      refine lv_icmp_ge (tgt := 48) hx hb dX10_howManySo_11 (by decide) (fun c1 => ?_) (fun c1 => ?_)
      · replace hf := ifp c1 hf
        refine lv_iload_n hx hb dX10_howManySo_48 rfl (lv_at hl 3 rfl) ?_
        exact retR hx hb hr hlocks hS (Option.some.inj hf) dX10_howManySo_49
      replace hf := ifn c1 hf
      refine lv_iload_n hx hb dX10_howManySo_14 rfl (lv_at hl 3 rfl) ?_
      refine lv_aload_n hx hb dX10_howManySo_15 rfl (lv_at hl 0 rfl) ?_
      refine lv_iload hx hb dX10_howManySo_16 (lv_at hl 4 rfl) ?_
      refine lv_iload_n hx hb dX10_howManySo_18 rfl (lv_at hl 2 rfl) ?_
      obtain ⟨z2, hz2, hf⟩ := bnd hf
      refine cVR (As := [.int x4, .int x2]) (rest := [.int x3]) ⟨hx, hb, hml, hown, hts⟩ (mX10_isAside l D T h a u x4 x2 z2 hz2) (cwV 2 hts gX10_howManySo_X10_isAside rfl rfl rfl (by decide +kernel) ⟨Nat.le_of_ble_eq_true rfl, Nat.le_of_ble_eq_true rfl⟩) (va_recv hK.1 hP (ci := 10) (q0 := 0) rfl rfl) (hP.sub (ws' := kX10 T h a u) [0, 1, 2, 3] rfl) hK rfl hl.1 rfl (Nat.le_of_ble_eq_true rfl) dX10_howManySo_19 ⟨Nat.le_of_ble_eq_true rfl, Nat.le_of_ble_eq_true rfl⟩ hP hS (fun H locs hP hS => ?_)
      refine lv_if_ne (tgt := 39) hx hb dX10_howManySo_22 (by decide) (fun c3 => ?_) (fun c3 => ?_)
      · replace hf := ifn c3 hf
        refine lv_iconst (v := 0) hx hb dX10_howManySo_39 (by decide) ?_
        refine lv_iadd hx hb dX10_howManySo_40 ?_
        obtain ⟨t4, et4, hf⟩ := lett_e hf
        refine lv_eqi et4 ?_
        refine lv_istore_n (lv' := [(3, .int t4), (0, .ref h), (1, .ref hc), (2, .int x2), (4, .int x4)]) hx hb dX10_howManySo_41 rfl hl (by decide) rfl (fun ls hl => ?_)
        obtain ⟨t5, et5, hf⟩ := lett_e hf
        refine lv_iinc (v := t5) (lv' := [(4, .int t5), (3, .int t4), (0, .ref h), (1, .ref hc), (2, .int x2)]) hx hb dX10_howManySo_42 hl (k := 4) rfl (by rw [et5]; rfl) (by decide) rfl (fun ls hl => ?_)
        refine lv_goto (tgt := 5) hx hb dX10_howManySo_45 (by decide) ?_
        exact ih5 x2 t4 t5 _ _ _ hf hP hS (lv_sub hl [2, 3, 4, 1, 0] rfl)
      replace hf := ifp c3 hf
      refine lv_aload_n hx hb dX10_howManySo_25 rfl (lv_at hl 0 rfl) ?_
      refine lv_iload hx hb dX10_howManySo_26 (lv_at hl 4 rfl) ?_
      refine lv_aload_n hx hb dX10_howManySo_28 rfl (lv_at hl 1 rfl) ?_
      obtain ⟨z6, hz6, hf⟩ := bnd hf
      refine cVR (As := [.int x4, .ref hc]) (rest := [.int x3]) ⟨hx, hb, hml, hown, hts⟩ (mX10_isSo l D T h a u hc ac uc x4 z6 hz6) (cwV 2 hts gX10_howManySo_X10_isSo rfl rfl rfl (by decide +kernel) ⟨Nat.le_of_ble_eq_true rfl, Nat.le_of_ble_eq_true rfl⟩) (va_recv hK.1 hP (ci := 10) (q0 := 0) rfl rfl) hP hK rfl hl.1 rfl (Nat.le_of_ble_eq_true rfl) dX10_howManySo_29 ⟨Nat.le_of_ble_eq_true rfl, Nat.le_of_ble_eq_true rfl⟩ hP hS (fun H locs hP hS => ?_)
      refine lv_if_eq (tgt := 39) hx hb dX10_howManySo_32 (by decide) (fun c7 => ?_) (fun c7 => ?_)
      · replace hf := ifp c7 hf
        refine lv_iconst (v := 0) hx hb dX10_howManySo_39 (by decide) ?_
        refine lv_iadd hx hb dX10_howManySo_40 ?_
        obtain ⟨t8, et8, hf⟩ := lett_e hf
        refine lv_eqi et8 ?_
        refine lv_istore_n (lv' := [(3, .int t8), (0, .ref h), (1, .ref hc), (2, .int x2), (4, .int x4)]) hx hb dX10_howManySo_41 rfl hl (by decide) rfl (fun ls hl => ?_)
        obtain ⟨t9, et9, hf⟩ := lett_e hf
        refine lv_iinc (v := t9) (lv' := [(4, .int t9), (3, .int t8), (0, .ref h), (1, .ref hc), (2, .int x2)]) hx hb dX10_howManySo_42 hl (k := 4) rfl (by rw [et9]; rfl) (by decide) rfl (fun ls hl => ?_)
        refine lv_goto (tgt := 5) hx hb dX10_howManySo_45 (by decide) ?_
        exact ih5 x2 t8 t9 _ _ _ hf hP hS (lv_sub hl [2, 3, 4, 1, 0] rfl)
      replace hf := ifn c7 hf
      refine lv_iconst (v := 1) hx hb dX10_howManySo_35 (by decide) ?_
      refine lv_goto (tgt := 40) hx hb dX10_howManySo_36 (by decide) ?_
      refine lv_iadd hx hb dX10_howManySo_40 ?_
      obtain ⟨t10, et10, hf⟩ := lett_e hf
      refine lv_eqi et10 ?_
      refine lv_istore_n (lv' := [(3, .int t10), (0, .ref h), (1, .ref hc), (2, .int x2), (4, .int x4)]) hx hb dX10_howManySo_41 rfl hl (by decide) rfl (fun ls hl => ?_)
      obtain ⟨t11, et11, hf⟩ := lett_e hf
      refine lv_iinc (v := t11) (lv' := [(4, .int t11), (3, .int t10), (0, .ref h), (1, .ref hc), (2, .int x2)]) hx hb dX10_howManySo_42 hl (k := 4) rfl (by rw [et11]; rfl) (by decide) rfl (fun ls hl => ?_)
      refine lv_goto (tgt := 5) hx hb dX10_howManySo_45 (by decide) ?_
      exact ih5 x2 t10 t11 _ _ _ hf hP hS (lv_sub hl [2, 3, 4, 1, 0] rfl)
  unfold fX10_howManySo at hf
  refine lv_iconst (v := 0) hx hb dX10_howManySo_0 (by decide) ?_
  refine lv_istore_n (lv' := [(3, .int 0), (0, .ref h), (1, .ref hc), (2, .int p2)]) hx hb dX10_howManySo_1 rfl hl (by decide) rfl (fun ls hl => ?_)
  refine lv_iconst (v := 0) hx hb dX10_howManySo_2 (by decide) ?_
  refine lv_istore (lv' := [(4, .int 0), (3, .int 0), (0, .ref h), (1, .ref hc), (2, .int p2)]) hx hb dX10_howManySo_3 hl (by decide) rfl (fun ls hl => ?_)
  exact L5 FU p2 0 0 _ _ _ hf hP hS (lv_sub hl [2, 3, 4, 1, 0] rfl)
def bX10_firstNotSo_L2 (u : St) (uc : St)  (lp2 : Int32 → Int32 → Option (Int32)) (x2 : Int32) (x3 : Int32) : Option (Int32) := if (u 3 0) ≤ x3 then some (-2) else (fX10_isAside u x3 x2).bind fun z2 => if z2 = 0 then (fX10_isSo u uc x3).bind fun z5 => if z5 = 0 then some x3 else lett (x3 + 1) fun t7 => lp2 x2 t7 else lett (x3 + 1) fun t4 => lp2 x2 t4
def fX10_firstNotSo_L2 (u : St) (uc : St)  : Nat → Int32 → Int32 → Option (Int32)
  | 0, _, _ => none
  | n + 1, x2, x3 => bX10_firstNotSo_L2 u uc (fX10_firstNotSo_L2 u uc n) x2 x3
def fX10_firstNotSo  (u : St) (uc : St) (p2 : Int32) : Option (Int32) := fX10_firstNotSo_L2 u uc FU p2 0
set_option maxHeartbeats 4000000 in
set_option maxRecDepth 100000 in
theorem mX10_firstNotSo (l : Launch) (D : va_G) (T : Ty3) (h : Nat) (a : Nat → Nat) (u : St) (hc : Nat) (ac : Nat → Nat) (uc : St) (p2 : Int32) (res : Int32) (hf : fX10_firstNotSo u uc p2 = some res) : Met l yX10_firstNotSo wsX10_firstNotSo ({ frames := 2, cells := 0, slots := 0, locals := 43 }) (PcR D T (kX10 T h a u ++ kX0 T hc ac uc) [.ref h, .ref hc, .int p2]) (QR res) 0 0 noA := by
  refine Met.ofW (cc := cX10_firstNotSo) (maxL := 4) (ret := (some .int)) (by decide) rfl ?_
  intro p e s m args below meth c s₁ B hml hv
  obtain ⟨rfl, hP, hK⟩ := hv
  have hx := B.exec
  have hb := B.bytes
  have hr := B.returns
  have hts := atoms_spec (ws := wsX10_firstNotSo) B.pre
  have hown : s.vm.findClass RX10 = some m.cls := findClass_of_methodNamed B.named
  have hlocks := B.notSynchronized
  have hS : va_S noA s.heap s.heap [] := va_S.rf
  have hinX10 : ∀ w ∈ u_ws RX10 TX10 4, w ∈ wsX10_firstNotSo := fun w h => List.mem_cons_of_mem _ (List.mem_append_left _ (List.mem_append_right _ h))
  have hinX0 : ∀ w ∈ u_ws RX0 TX0 6, w ∈ wsX10_firstNotSo := fun w h => List.mem_cons_of_mem _ (List.mem_append_right _ h)
  have hl := lv_entry ([.ref h, .ref hc, .int p2]) (n := 4) (Nat.le_of_ble_eq_true rfl)
  rw [lg_entry_eq]
  generalize (lg_sl ([.ref h, .ref hc, .int p2]) ++ List.replicate (4 - (lg_sl ([.ref h, .ref hc, .int p2])).length) Slot.unset).toArray = ls at hl ⊢
  have hl : lv_has ls 4 [(0, .ref h), (1, .ref hc), (2, .int p2)] := hl
  have L2 : ∀ (n2 : Nat), ∀ (x2 : Int32) (x3 : Int32) (H : Heap) (locs : List Loc) (ls : Array Slot), fX10_firstNotSo_L2 u uc n2 x2 x3 = some res → va_P D vwCl (kX10 T h a u ++ kX0 T hc ac uc) H → va_S noA s.heap H locs → lv_has ls 4 [(0, .ref h), (1, .ref hc), (2, .int x2), (3, .int x3)] → W p l e (headSpec wsX10_firstNotSo ({ frames := 2, cells := 0, slots := 0, locals := 43 })).room s m ([.ref h, .ref hc, .int p2] : List Value).toArray below meth c H locs 0 0 (MQ below (QR res) ([.ref h, .ref hc, .int p2] : List Value).toArray s 0 0 noA) (F0 m 2 ls []) := by
    intro n2
    induction n2 with
    | zero => intro x2 x3 H locs ls hf; exact nns hf
    | succ n2 ih2 =>
      intro x2 x3 H locs ls hf hP hS hl
      replace hf : bX10_firstNotSo_L2 u uc (fX10_firstNotSo_L2 u uc n2) x2 x3 = some res := hf
      unfold bX10_firstNotSo_L2 at hf
      refine lv_iload_n hx hb dX10_firstNotSo_2 rfl (lv_at hl 3 rfl) ?_
      refine lv_aload_n hx hb dX10_firstNotSo_3 rfl (lv_at hl 0 rfl) ?_
      refine va_get (D := D) (ci := 10) (v := .int (u 3 0)) (C := RX10) (T := TX10) (N := 4) hx hb hts hinX10 hown hK.1 hP 0 rfl rfl 3 (by decide) (hts (.fieldLink RX10 21 "RopeScale$Weighings" "lines" "I") (List.mem_of_getElem? (i := 1) rfl)) (fun _ h9 => h9) rfl dX10_firstNotSo_4 ?_
      refine lv_icmp_ge (tgt := 36) hx hb dX10_firstNotSo_7 (by decide) (fun c1 => ?_) (fun c1 => ?_)
      · replace hf := ifp c1 hf
        refine lv_bipush (v := (-2)) hx hb dX10_firstNotSo_36 (by decide) ?_
        exact retR hx hb hr hlocks hS (Option.some.inj hf) dX10_firstNotSo_38
      replace hf := ifn c1 hf
      refine lv_aload_n hx hb dX10_firstNotSo_10 rfl (lv_at hl 0 rfl) ?_
      refine lv_iload_n hx hb dX10_firstNotSo_11 rfl (lv_at hl 3 rfl) ?_
      refine lv_iload_n hx hb dX10_firstNotSo_12 rfl (lv_at hl 2 rfl) ?_
      obtain ⟨z2, hz2, hf⟩ := bnd hf
      refine cVR (As := [.int x3, .int x2]) (rest := []) ⟨hx, hb, hml, hown, hts⟩ (mX10_isAside l D T h a u x3 x2 z2 hz2) (cwV 2 hts gX10_firstNotSo_X10_isAside rfl rfl rfl (by decide +kernel) ⟨Nat.le_of_ble_eq_true rfl, Nat.le_of_ble_eq_true rfl⟩) (va_recv hK.1 hP (ci := 10) (q0 := 0) rfl rfl) (hP.sub (ws' := kX10 T h a u) [0, 1, 2, 3] rfl) hK rfl hl.1 rfl (Nat.le_of_ble_eq_true rfl) dX10_firstNotSo_13 ⟨Nat.le_of_ble_eq_true rfl, Nat.le_of_ble_eq_true rfl⟩ hP hS (fun H locs hP hS => ?_)
      refine lv_if_ne (tgt := 30) hx hb dX10_firstNotSo_16 (by decide) (fun c3 => ?_) (fun c3 => ?_)
      · replace hf := ifn c3 hf
        obtain ⟨t4, et4, hf⟩ := lett_e hf
        refine lv_iinc (v := t4) (lv' := [(3, .int t4), (0, .ref h), (1, .ref hc), (2, .int x2)]) hx hb dX10_firstNotSo_30 hl (k := 3) rfl (by rw [et4]; rfl) (by decide) rfl (fun ls hl => ?_)
        refine lv_goto (tgt := 2) hx hb dX10_firstNotSo_33 (by decide) ?_
        exact ih2 x2 t4 _ _ _ hf hP hS (lv_sub hl [1, 2, 3, 0] rfl)
      replace hf := ifp c3 hf
      refine lv_aload_n hx hb dX10_firstNotSo_19 rfl (lv_at hl 0 rfl) ?_
      refine lv_iload_n hx hb dX10_firstNotSo_20 rfl (lv_at hl 3 rfl) ?_
      refine lv_aload_n hx hb dX10_firstNotSo_21 rfl (lv_at hl 1 rfl) ?_
      obtain ⟨z5, hz5, hf⟩ := bnd hf
      refine cVR (As := [.int x3, .ref hc]) (rest := []) ⟨hx, hb, hml, hown, hts⟩ (mX10_isSo l D T h a u hc ac uc x3 z5 hz5) (cwV 2 hts gX10_firstNotSo_X10_isSo rfl rfl rfl (by decide +kernel) ⟨Nat.le_of_ble_eq_true rfl, Nat.le_of_ble_eq_true rfl⟩) (va_recv hK.1 hP (ci := 10) (q0 := 0) rfl rfl) hP hK rfl hl.1 rfl (Nat.le_of_ble_eq_true rfl) dX10_firstNotSo_22 ⟨Nat.le_of_ble_eq_true rfl, Nat.le_of_ble_eq_true rfl⟩ hP hS (fun H locs hP hS => ?_)
      refine lv_if_ne (tgt := 30) hx hb dX10_firstNotSo_25 (by decide) (fun c6 => ?_) (fun c6 => ?_)
      · replace hf := ifn c6 hf
        obtain ⟨t7, et7, hf⟩ := lett_e hf
        refine lv_iinc (v := t7) (lv' := [(3, .int t7), (0, .ref h), (1, .ref hc), (2, .int x2)]) hx hb dX10_firstNotSo_30 hl (k := 3) rfl (by rw [et7]; rfl) (by decide) rfl (fun ls hl => ?_)
        refine lv_goto (tgt := 2) hx hb dX10_firstNotSo_33 (by decide) ?_
        exact ih2 x2 t7 _ _ _ hf hP hS (lv_sub hl [1, 2, 3, 0] rfl)
      replace hf := ifp c6 hf
      refine lv_iload_n hx hb dX10_firstNotSo_28 rfl (lv_at hl 3 rfl) ?_
      exact retR hx hb hr hlocks hS (Option.some.inj hf) dX10_firstNotSo_29
  unfold fX10_firstNotSo at hf
  refine lv_iconst (v := 0) hx hb dX10_firstNotSo_0 (by decide) ?_
  refine lv_istore_n (lv' := [(3, .int 0), (0, .ref h), (1, .ref hc), (2, .int p2)]) hx hb dX10_firstNotSo_1 rfl hl (by decide) rfl (fun ls hl => ?_)
  exact L2 FU p2 0 _ _ _ hf hP hS (lv_sub hl [1, 2, 3, 0] rfl)
def fX10_isFair  (u : St) (p1 : Int32) : Option (Int32) := gd p1 16 <| lett (fJ6_bitCount_0f7a4 (u 0 (ix p1))) fun z1 => gd p1 16 <| lett (fJ6_bitCount_0f7a4 (u 1 (ix p1))) fun z2 => if z1 = z2 then some 1 else some 0
set_option maxHeartbeats 4000000 in
set_option maxRecDepth 100000 in
theorem mX10_isFair (l : Launch) (D : va_G) (T : Ty3) (h : Nat) (a : Nat → Nat) (u : St) (p1 : Int32) (res : Int32) (hf : fX10_isFair u p1 = some res) : Met l yX10_isFair wsX10_isFair ({ frames := 1, cells := 0, slots := 0, locals := 20 }) (PcR D T (kX10 T h a u) [.ref h, .int p1]) (QR res) 0 0 noA := by
  refine Met.ofW (cc := cX10_isFair) (maxL := 2) (ret := (some .boolean)) (by decide) rfl ?_
  intro p e s m args below meth c s₁ B hml hv
  obtain ⟨rfl, hP, hK⟩ := hv
  have hx := B.exec
  have hb := B.bytes
  have hr := B.returns
  have hts := atoms_spec (ws := wsX10_isFair) B.pre
  have hown : s.vm.findClass RX10 = some m.cls := findClass_of_methodNamed B.named
  have hlocks := B.notSynchronized
  have hS : va_S noA s.heap s.heap [] := va_S.rf
  have hinX10 : ∀ w ∈ u_ws RX10 TX10 4, w ∈ wsX10_isFair := fun w h => List.mem_cons_of_mem _ (List.mem_append_right _ h)
  have hl := lv_entry ([.ref h, .int p1]) (n := 2) (Nat.le_of_ble_eq_true rfl)
  rw [lg_entry_eq]
  generalize (lg_sl ([.ref h, .int p1]) ++ List.replicate (2 - (lg_sl ([.ref h, .int p1])).length) Slot.unset).toArray = ls at hl ⊢
  have hl : lv_has ls 2 [(0, .ref h), (1, .int p1)] := hl
  unfold fX10_isFair at hf
  refine lv_aload_n hx hb dX10_isFair_0 rfl (lv_at hl 0 rfl) ?_
  refine va_get (D := D) (ci := 10) (v := .ref (a 0)) (C := RX10) (T := TX10) (N := 4) hx hb hts hinX10 hown hK.1 hP 0 rfl rfl 0 (by decide) (hts (.fieldLink RX10 11 "RopeScale$Weighings" "left" "[I") (List.mem_of_getElem? (i := 1) rfl)) (fun _ h9 => h9) rfl dX10_isFair_1 ?_
  refine lv_iload_n hx hb dX10_isFair_4 rfl (lv_at hl 1 rfl) ?_
  obtain ⟨h5, hf⟩ := gd_e hf
  refine va_iald hx hb hK.1 hP 1 0 rfl rfl h5 dX10_isFair_5 ?_
  obtain ⟨z1, hz1, hf⟩ := lett_e hf
  refine cSR (As := [.int (u 0 (ix p1))]) (rest := []) ⟨hx, hb, hml, hown, hts⟩ (mJ6_bitCount_0f7a4 l D T (u 0 (ix p1)) z1 hz1.symm) (va_cwS 1 hts gX10_isFair_J6_bitCount_0f7a4 rfl rfl rfl (by decide +kernel) ⟨Nat.le_of_ble_eq_true rfl, Nat.le_of_ble_eq_true rfl⟩) P0 hK rfl hl.1 rfl (Nat.le_of_ble_eq_true rfl) dX10_isFair_6 ⟨Nat.le_of_ble_eq_true rfl, Nat.le_of_ble_eq_true rfl⟩ hP hS (fun H locs hP hS => ?_)
  refine lv_aload_n hx hb dX10_isFair_9 rfl (lv_at hl 0 rfl) ?_
  refine va_get (D := D) (ci := 10) (v := .ref (a 1)) (C := RX10) (T := TX10) (N := 4) hx hb hts hinX10 hown hK.1 hP 0 rfl rfl 1 (by decide) (hts (.fieldLink RX10 15 "RopeScale$Weighings" "right" "[I") (List.mem_of_getElem? (i := 2) rfl)) (fun _ h9 => h9) rfl dX10_isFair_10 ?_
  refine lv_iload_n hx hb dX10_isFair_13 rfl (lv_at hl 1 rfl) ?_
  obtain ⟨h4, hf⟩ := gd_e hf
  refine va_iald hx hb hK.1 hP 2 0 rfl rfl h4 dX10_isFair_14 ?_
  obtain ⟨z2, hz2, hf⟩ := lett_e hf
  refine cSR (As := [.int (u 1 (ix p1))]) (rest := [.int z1]) ⟨hx, hb, hml, hown, hts⟩ (mJ6_bitCount_0f7a4 l D T (u 1 (ix p1)) z2 hz2.symm) (va_cwS 1 hts gX10_isFair_J6_bitCount_0f7a4 rfl rfl rfl (by decide +kernel) ⟨Nat.le_of_ble_eq_true rfl, Nat.le_of_ble_eq_true rfl⟩) P0 hK rfl hl.1 rfl (Nat.le_of_ble_eq_true rfl) dX10_isFair_15 ⟨Nat.le_of_ble_eq_true rfl, Nat.le_of_ble_eq_true rfl⟩ hP hS (fun H locs hP hS => ?_)
  refine lv_icmp_ne (tgt := 25) hx hb dX10_isFair_18 (by decide) (fun c3 => ?_) (fun c3 => ?_)
  · replace hf := ifn c3 hf
    refine lv_iconst (v := 0) hx hb dX10_isFair_25 (by decide) ?_
    exact retRz hx hb hr hlocks hS rfl (Option.some.inj hf) dX10_isFair_26
  replace hf := ifp c3 hf
  refine lv_iconst (v := 1) hx hb dX10_isFair_21 (by decide) ?_
  refine lv_goto (tgt := 26) hx hb dX10_isFair_22 (by decide) ?_
  exact retRz hx hb hr hlocks hS rfl (Option.some.inj hf) dX10_isFair_26
def fX10_agree_J44 (u : St) (lp2 : Int32 → Int32 → Int32 → Option (Int32)) (x1 : Int32) (x2 : Int32) (x3 : Int32) (x4 : Int32) (y0 : Int32) : Option (Int32) := (fX10_isFair u x3).bind fun z1 => if z1 = 0 then lett (x3 + 1) fun t3 => lp2 x1 x2 t3 else gd x3 16 <| lett (fX10_outcomeOf x4 y0) fun z4 => if (u 2 (ix x3)) = z4 then lett (x3 + 1) fun t6 => lp2 x1 x2 t6 else some 0
def fX10_agree_J26 (u : St) (lp2 : Int32 → Int32 → Int32 → Option (Int32)) (x1 : Int32) (x2 : Int32) (x3 : Int32) (y0 : Int32) : Option (Int32) := gd x3 16 <| if ((u 1 (ix x3)) &&& x1) = 0 then fX10_agree_J44 u lp2 x1 x2 x3 y0 0 else fX10_agree_J44 u lp2 x1 x2 x3 y0 x2
def bX10_agree_L2 (u : St)  (lp2 : Int32 → Int32 → Int32 → Option (Int32)) (x1 : Int32) (x2 : Int32) (x3 : Int32) : Option (Int32) := if (u 3 0) ≤ x3 then some 1 else gd x3 16 <| if ((u 0 (ix x3)) &&& x1) = 0 then fX10_agree_J26 u lp2 x1 x2 x3 0 else fX10_agree_J26 u lp2 x1 x2 x3 x2
def fX10_agree_L2 (u : St)  : Nat → Int32 → Int32 → Int32 → Option (Int32)
  | 0, _, _, _ => none
  | n + 1, x1, x2, x3 => bX10_agree_L2 u (fX10_agree_L2 u n) x1 x2 x3
def fX10_agree  (u : St) (p1 : Int32) (p2 : Int32) : Option (Int32) := fX10_agree_L2 u FU p1 p2 0
set_option maxHeartbeats 4000000 in
set_option maxRecDepth 100000 in
theorem mX10_agree (l : Launch) (D : va_G) (T : Ty3) (h : Nat) (a : Nat → Nat) (u : St) (p1 : Int32) (p2 : Int32) (res : Int32) (hf : fX10_agree u p1 p2 = some res) : Met l yX10_agree wsX10_agree ({ frames := 2, cells := 0, slots := 0, locals := 41 }) (PcR D T (kX10 T h a u) [.ref h, .int p1, .int p2]) (QR res) 0 0 noA := by
  refine Met.ofW (cc := cX10_agree) (maxL := 6) (ret := (some .boolean)) (by decide) rfl ?_
  intro p e s m args below meth c s₁ B hml hv
  obtain ⟨rfl, hP, hK⟩ := hv
  have hx := B.exec
  have hb := B.bytes
  have hr := B.returns
  have hts := atoms_spec (ws := wsX10_agree) B.pre
  have hown : s.vm.findClass RX10 = some m.cls := findClass_of_methodNamed B.named
  have hlocks := B.notSynchronized
  have hS : va_S noA s.heap s.heap [] := va_S.rf
  have hinX10 : ∀ w ∈ u_ws RX10 TX10 4, w ∈ wsX10_agree := fun w h => List.mem_cons_of_mem _ (List.mem_append_right _ h)
  have hl := lv_entry ([.ref h, .int p1, .int p2]) (n := 6) (Nat.le_of_ble_eq_true rfl)
  rw [lg_entry_eq]
  generalize (lg_sl ([.ref h, .int p1, .int p2]) ++ List.replicate (6 - (lg_sl ([.ref h, .int p1, .int p2])).length) Slot.unset).toArray = ls at hl ⊢
  have hl : lv_has ls 6 [(0, .ref h), (1, .int p1), (2, .int p2)] := hl
  have L2 : ∀ (n2 : Nat), ∀ (x1 : Int32) (x2 : Int32) (x3 : Int32) (H : Heap) (locs : List Loc) (ls : Array Slot), fX10_agree_L2 u n2 x1 x2 x3 = some res → va_P D vwCl (kX10 T h a u) H → va_S noA s.heap H locs → lv_has ls 6 [(0, .ref h), (1, .int x1), (2, .int x2), (3, .int x3)] → W p l e (headSpec wsX10_agree ({ frames := 2, cells := 0, slots := 0, locals := 41 })).room s m ([.ref h, .int p1, .int p2] : List Value).toArray below meth c H locs 0 0 (MQ below (QR res) ([.ref h, .int p1, .int p2] : List Value).toArray s 0 0 noA) (F0 m 2 ls []) := by
    intro n2
    induction n2 with
    | zero => intro x1 x2 x3 H locs ls hf; exact nns hf
    | succ n2 ih2 =>
      have J44 : ∀ (x1 : Int32) (x2 : Int32) (x3 : Int32) (x4 : Int32) (y0 : Int32) (H : Heap) (locs : List Loc) (ls : Array Slot), fX10_agree_J44 u (fX10_agree_L2 u n2) x1 x2 x3 x4 y0 = some res → va_P D vwCl (kX10 T h a u) H → va_S noA s.heap H locs → lv_has ls 6 [(0, .ref h), (1, .int x1), (2, .int x2), (3, .int x3), (4, .int x4)] → W p l e (headSpec wsX10_agree ({ frames := 2, cells := 0, slots := 0, locals := 41 })).room s m ([.ref h, .int p1, .int p2] : List Value).toArray below meth c H locs 0 0 (MQ below (QR res) ([.ref h, .int p1, .int p2] : List Value).toArray s 0 0 noA) (F0 m 44 ls [.int y0]) := by
        intro x1 x2 x3 x4 y0 H locs ls hf hP hS hl
        unfold fX10_agree_J44 at hf
        refine lv_istore (lv' := [(5, .int y0), (0, .ref h), (1, .int x1), (2, .int x2), (3, .int x3), (4, .int x4)]) hx hb dX10_agree_44 hl (by decide) rfl (fun ls hl => ?_)
        refine lv_aload_n hx hb dX10_agree_46 rfl (lv_at hl 1 rfl) ?_
        refine lv_iload_n hx hb dX10_agree_47 rfl (lv_at hl 4 rfl) ?_
        obtain ⟨z1, hz1, hf⟩ := bnd hf
        refine cVR (As := [.int x3]) (rest := []) ⟨hx, hb, hml, hown, hts⟩ (mX10_isFair l D T h a u x3 z1 hz1) (cwV 1 hts gX10_agree_X10_isFair rfl rfl rfl (by decide +kernel) ⟨Nat.le_of_ble_eq_true rfl, Nat.le_of_ble_eq_true rfl⟩) (va_recv hK.1 hP (ci := 10) (q0 := 0) rfl rfl) hP hK rfl hl.1 rfl (Nat.le_of_ble_eq_true rfl) dX10_agree_48 ⟨Nat.le_of_ble_eq_true rfl, Nat.le_of_ble_eq_true rfl⟩ hP hS (fun H locs hP hS => ?_)
        refine lv_if_eq (tgt := 72) hx hb dX10_agree_51 (by decide) (fun c2 => ?_) (fun c2 => ?_)
        · replace hf := ifp c2 hf
          obtain ⟨t3, et3, hf⟩ := lett_e hf
          refine lv_iinc (v := t3) (lv' := [(3, .int t3), (5, .int y0), (0, .ref h), (1, .int x1), (2, .int x2), (4, .int x4)]) hx hb dX10_agree_72 hl (k := 4) rfl (by rw [et3]; rfl) (by decide) rfl (fun ls hl => ?_)
          refine lv_goto (tgt := 2) hx hb dX10_agree_75 (by decide) ?_
          exact ih2 x1 x2 t3 _ _ _ hf hP hS (lv_sub hl [2, 3, 4, 0] rfl)
        replace hf := ifn c2 hf
        refine lv_aload_n hx hb dX10_agree_54 rfl (lv_at hl 1 rfl) ?_
        refine va_get (D := D) (ci := 10) (v := .ref (a 2)) (C := RX10) (T := TX10) (N := 4) hx hb hts hinX10 hown hK.1 hP 0 rfl rfl 2 (by decide) (hts (.fieldLink RX10 18 "RopeScale$Weighings" "outcome" "[I") (List.mem_of_getElem? (i := 4) rfl)) (fun _ h9 => h9) rfl dX10_agree_55 ?_
        refine lv_iload_n hx hb dX10_agree_58 rfl (lv_at hl 4 rfl) ?_
        obtain ⟨h7, hf⟩ := gd_e hf
        refine va_iald hx hb hK.1 hP 3 0 rfl rfl h7 dX10_agree_59 ?_
        refine lv_iload hx hb dX10_agree_60 (lv_at hl 5 rfl) ?_
        refine lv_iload hx hb dX10_agree_62 (lv_at hl 0 rfl) ?_
        obtain ⟨z4, hz4, hf⟩ := lett_e hf
        refine cSR (As := [.int x4, .int y0]) (rest := [.int (u 2 (ix x3))]) ⟨hx, hb, hml, hown, hts⟩ (mX10_outcomeOf l D T x4 y0 z4 hz4.symm) (va_cwS 2 hts gX10_agree_X10_outcomeOf rfl rfl rfl (by decide +kernel) ⟨Nat.le_of_ble_eq_true rfl, Nat.le_of_ble_eq_true rfl⟩) P0 hK rfl hl.1 rfl (Nat.le_of_ble_eq_true rfl) dX10_agree_64 ⟨Nat.le_of_ble_eq_true rfl, Nat.le_of_ble_eq_true rfl⟩ hP hS (fun H locs hP hS => ?_)
        refine lv_icmp_eq (tgt := 72) hx hb dX10_agree_67 (by decide) (fun c5 => ?_) (fun c5 => ?_)
        · replace hf := ifp c5 hf
          obtain ⟨t6, et6, hf⟩ := lett_e hf
          refine lv_iinc (v := t6) (lv' := [(3, .int t6), (5, .int y0), (0, .ref h), (1, .int x1), (2, .int x2), (4, .int x4)]) hx hb dX10_agree_72 hl (k := 4) rfl (by rw [et6]; rfl) (by decide) rfl (fun ls hl => ?_)
          refine lv_goto (tgt := 2) hx hb dX10_agree_75 (by decide) ?_
          exact ih2 x1 x2 t6 _ _ _ hf hP hS (lv_sub hl [2, 3, 4, 0] rfl)
        replace hf := ifn c5 hf
        refine lv_iconst (v := 0) hx hb dX10_agree_70 (by decide) ?_
        exact retRz hx hb hr hlocks hS rfl (Option.some.inj hf) dX10_agree_71
      have J26 : ∀ (x1 : Int32) (x2 : Int32) (x3 : Int32) (y0 : Int32) (H : Heap) (locs : List Loc) (ls : Array Slot), fX10_agree_J26 u (fX10_agree_L2 u n2) x1 x2 x3 y0 = some res → va_P D vwCl (kX10 T h a u) H → va_S noA s.heap H locs → lv_has ls 6 [(0, .ref h), (1, .int x1), (2, .int x2), (3, .int x3)] → W p l e (headSpec wsX10_agree ({ frames := 2, cells := 0, slots := 0, locals := 41 })).room s m ([.ref h, .int p1, .int p2] : List Value).toArray below meth c H locs 0 0 (MQ below (QR res) ([.ref h, .int p1, .int p2] : List Value).toArray s 0 0 noA) (F0 m 26 ls [.int y0]) := by
        intro x1 x2 x3 y0 H locs ls hf hP hS hl
        unfold fX10_agree_J26 at hf
        refine lv_istore (lv' := [(4, .int y0), (0, .ref h), (1, .int x1), (2, .int x2), (3, .int x3)]) hx hb dX10_agree_26 hl (by decide) rfl (fun ls hl => ?_)
        refine lv_aload_n hx hb dX10_agree_28 rfl (lv_at hl 1 rfl) ?_
        refine va_get (D := D) (ci := 10) (v := .ref (a 1)) (C := RX10) (T := TX10) (N := 4) hx hb hts hinX10 hown hK.1 hP 0 rfl rfl 1 (by decide) (hts (.fieldLink RX10 15 "RopeScale$Weighings" "right" "[I") (List.mem_of_getElem? (i := 3) rfl)) (fun _ h9 => h9) rfl dX10_agree_29 ?_
        refine lv_iload_n hx hb dX10_agree_32 rfl (lv_at hl 4 rfl) ?_
        obtain ⟨h9, hf⟩ := gd_e hf
        refine va_iald hx hb hK.1 hP 2 0 rfl rfl h9 dX10_agree_33 ?_
        refine lv_iload_n hx hb dX10_agree_34 rfl (lv_at hl 2 rfl) ?_
        refine lv_iand hx hb dX10_agree_35 ?_
        refine lv_if_eq (tgt := 43) hx hb dX10_agree_36 (by decide) (fun c8 => ?_) (fun c8 => ?_)
        · replace hf := ifp c8 hf
          refine lv_iconst (v := 0) hx hb dX10_agree_43 (by decide) ?_
          exact J44 x1 x2 x3 y0 0 _ _ _ hf hP hS (lv_sub hl [1, 2, 3, 4, 0] rfl)
        replace hf := ifn c8 hf
        refine lv_iload_n hx hb dX10_agree_39 rfl (lv_at hl 3 rfl) ?_
        refine lv_goto (tgt := 44) hx hb dX10_agree_40 (by decide) ?_
        exact J44 x1 x2 x3 y0 x2 _ _ _ hf hP hS (lv_sub hl [1, 2, 3, 4, 0] rfl)
      intro x1 x2 x3 H locs ls hf hP hS hl
      replace hf : bX10_agree_L2 u (fX10_agree_L2 u n2) x1 x2 x3 = some res := hf
      unfold bX10_agree_L2 at hf
      refine lv_iload_n hx hb dX10_agree_2 rfl (lv_at hl 3 rfl) ?_
      refine lv_aload_n hx hb dX10_agree_3 rfl (lv_at hl 0 rfl) ?_
      refine va_get (D := D) (ci := 10) (v := .int (u 3 0)) (C := RX10) (T := TX10) (N := 4) hx hb hts hinX10 hown hK.1 hP 0 rfl rfl 3 (by decide) (hts (.fieldLink RX10 21 "RopeScale$Weighings" "lines" "I") (List.mem_of_getElem? (i := 1) rfl)) (fun _ h9 => h9) rfl dX10_agree_4 ?_
      refine lv_icmp_ge (tgt := 78) hx hb dX10_agree_7 (by decide) (fun c10 => ?_) (fun c10 => ?_)
      · replace hf := ifp c10 hf
        refine lv_iconst (v := 1) hx hb dX10_agree_78 (by decide) ?_
        exact retRz hx hb hr hlocks hS rfl (Option.some.inj hf) dX10_agree_79
      replace hf := ifn c10 hf
      refine lv_aload_n hx hb dX10_agree_10 rfl (lv_at hl 0 rfl) ?_
      refine va_get (D := D) (ci := 10) (v := .ref (a 0)) (C := RX10) (T := TX10) (N := 4) hx hb hts hinX10 hown hK.1 hP 0 rfl rfl 0 (by decide) (hts (.fieldLink RX10 11 "RopeScale$Weighings" "left" "[I") (List.mem_of_getElem? (i := 2) rfl)) (fun _ h9 => h9) rfl dX10_agree_11 ?_
      refine lv_iload_n hx hb dX10_agree_14 rfl (lv_at hl 3 rfl) ?_
      obtain ⟨h12, hf⟩ := gd_e hf
      refine va_iald hx hb hK.1 hP 1 0 rfl rfl h12 dX10_agree_15 ?_
      refine lv_iload_n hx hb dX10_agree_16 rfl (lv_at hl 1 rfl) ?_
      refine lv_iand hx hb dX10_agree_17 ?_
      refine lv_if_eq (tgt := 25) hx hb dX10_agree_18 (by decide) (fun c11 => ?_) (fun c11 => ?_)
      · replace hf := ifp c11 hf
        refine lv_iconst (v := 0) hx hb dX10_agree_25 (by decide) ?_
        exact J26 x1 x2 x3 0 _ _ _ hf hP hS (lv_sub hl [0, 1, 2, 3] rfl)
      replace hf := ifn c11 hf
      refine lv_iload_n hx hb dX10_agree_21 rfl (lv_at hl 2 rfl) ?_
      refine lv_goto (tgt := 26) hx hb dX10_agree_22 (by decide) ?_
      exact J26 x1 x2 x3 x2 _ _ _ hf hP hS (lv_sub hl [0, 1, 2, 3] rfl)
  unfold fX10_agree at hf
  refine lv_iconst (v := 0) hx hb dX10_agree_0 (by decide) ?_
  refine lv_istore_n (lv' := [(3, .int 0), (0, .ref h), (1, .int p1), (2, .int p2)]) hx hb dX10_agree_1 rfl hl (by decide) rfl (fun ls hl => ?_)
  exact L2 FU p1 p2 0 _ _ _ hf hP hS (lv_sub hl [1, 2, 3, 0] rfl)
