def fX12_readsWeighing_J83   (v : St) (x1 : Int32) (x2 : Int32) : Option (Int32 × St) := lett (st v 7 0 ((v 7 0) + 1)) fun u1 => (fX12_readsLetters u1 x1).bind fun z2 => if z2.1 = 0 then some (0, z2.2) else gd (z2.2 37 0) 16 <| lett (st z2.2 33 (ix (z2.2 37 0)) x1) fun u4 => gd (u4 37 0) 16 <| lett (st u4 34 (ix (u4 37 0)) (u4 38 0)) fun u5 => gd (u5 37 0) 16 <| lett (st u5 35 (ix (u5 37 0)) x2) fun u6 => lett (st u6 37 0 ((u6 37 0) + 1)) fun u7 => some (1, u7)
def fX12_readsWeighing_J35   (v : St) : Option (Int32 × St) := (fX12_readsLetters v 0).bind fun z11 => if z11.1 = 0 then some (0, z11.2) else lett (z11.2 38 0) fun t13 => (fX12_here z11.2).bind fun z14 => if z14 = 60 then fX12_readsWeighing_J83 z11.2 t13 z14 else if z14 = 62 then fX12_readsWeighing_J83 z11.2 t13 z14 else if z14 = 61 then fX12_readsWeighing_J83 z11.2 t13 z14 else lett (fX12_wrongAt z11.2 1 (z11.2 7 0)) fun z18 => zb z18.1 <| some (z18.1, z18.2)
def fX12_readsWeighing  (u : St)  : Option (Int32 × St) := (fX12_here u).bind fun z19 => lett (fX12_in (z19 - 97) 0 15) fun z20 => if z20 = 0 then fX12_readsWeighing_J35 u else if (u 37 0) = 16 then lett (fX12_wrongAt u 4 (u 7 0)) fun z23 => zb z23.1 <| some (z23.1, z23.2) else fX12_readsWeighing_J35 u
set_option maxHeartbeats 4000000 in
set_option maxRecDepth 100000 in
theorem mX12_readsWeighing (l : Launch) (D : va_G) (T : Ty3) (h : Nat) (a : Nat → Nat) (u : St) (sz : Nat)  (res : Int32 × St) (hf : fX12_readsWeighing u = some res) : Met l yX12_readsWeighing wsX12_readsWeighing ({ frames := 2, cells := 0, slots := 0, locals := 44 }) (PcM D T (kX12 T h a u) sz [.ref h]) (QM D (kX12 T h a u) sz res.1 (kX12 T h a res.2)) 0 0 (va_A (kX12 T h a u) sz) := by
  refine Met.ofW (cc := cX12_readsWeighing) (maxL := 3) (ret := (some .boolean)) (by decide) rfl ?_
  intro p e s m args below meth c s₁ B hml hv
  obtain ⟨rfl, hsz, hP, hK, hD0⟩ := hv
  have hx := B.exec
  have hb := B.bytes
  have hr := B.returns
  have hts := atoms_spec (ws := wsX12_readsWeighing) B.pre
  have hown : s.vm.findClass RX12 = some m.cls := findClass_of_methodNamed B.named
  have hlocks := B.notSynchronized
  subst hsz
  have hD := hD0.self (sz := s.heap.size)
  have hA : ∀ q : Nat, s.heap.size ≤ q → va_A (kX12 T h a u) s.heap.size q := fun q h => Or.inr h
  have hS : va_S (va_A (kX12 T h a u) s.heap.size) s.heap s.heap [] := va_S.rf
  have hinX12 : ∀ w ∈ u_ws RX12 TX12 52, w ∈ wsX12_readsWeighing := fun w h => List.mem_cons_of_mem _ (List.mem_append_right _ h)
  have hl := lv_entry ([.ref h]) (n := 3) (Nat.le_of_ble_eq_true rfl)
  rw [lg_entry_eq]
  generalize (lg_sl ([.ref h]) ++ List.replicate (3 - (lg_sl ([.ref h])).length) Slot.unset).toArray = ls at hl ⊢
  have hl : lv_has ls 3 [(0, .ref h)] := hl
  have J83 : ∀ (v : St) (x1 : Int32) (x2 : Int32) (H : Heap) (locs : List Loc) (ls : Array Slot), fX12_readsWeighing_J83  v x1 x2 = some res → va_P D vwCl (kX12 T h a v) H → va_D (va_A (kX12 T h a u) s.heap.size) (kX12 T h a v) → va_S (va_A (kX12 T h a u) s.heap.size) s.heap H locs → lv_has ls 3 [(0, .ref h), (1, .int x1), (2, .int x2)] → W p l e (headSpec wsX12_readsWeighing ({ frames := 2, cells := 0, slots := 0, locals := 44 })).room s m ([.ref h] : List Value).toArray below meth c H locs 0 0 (MQ below (QM D (kX12 T h a u) s.heap.size res.1 (kX12 T h a res.2)) ([.ref h] : List Value).toArray s 0 0 (va_A (kX12 T h a u) s.heap.size)) (F0 m 83 ls []) := by
    intro v x1 x2 H locs ls hf hP hD hS hl
    unfold fX12_readsWeighing_J83 at hf
    refine lv_aload_n hx hb dX12_readsWeighing_83 rfl (lv_at hl 0 rfl) ?_
    refine lv_aload_n hx hb dX12_readsWeighing_84 rfl (lv_at hl 0 rfl) ?_
    refine va_get (D := D) (ci := 12) (v := .int (v 7 0)) (C := RX12) (T := TX12) (N := 52) hx hb hts hinX12 hown hK.1 hP 0 rfl rfl 7 (by decide) (hts (.fieldLink RX12 126 "RopeScaleModel" "place0" "I") (List.mem_of_getElem? (i := 2) rfl)) (fun _ h9 => h9) rfl dX12_readsWeighing_85 ?_
    refine lv_iconst (v := 1) hx hb dX12_readsWeighing_88 (by decide) ?_
    refine lv_iadd hx hb dX12_readsWeighing_89 ?_
    obtain ⟨u1, eu1, hf⟩ := lett_e hf
    refine va_put (D := D) (ci := 12) (v := .int ((v 7 0) + 1)) (ty := .int) (C := RX12) (T := TX12) (N := 52) hx hb hts hinX12 tyX12 tyX12_ok nmX12 hown hK.1 hP hD hS 0 rfl rfl 7 (by decide) (hts (.fieldLink RX12 126 "RopeScaleModel" "place0" "I") (List.mem_of_getElem? (i := 2) rfl)) (fun _ h9 => h9) rfl (tyX12_ok 7 (by decide)) rfl rfl (Nat.le_of_ble_eq_true rfl) dX12_readsWeighing_90 (fun H locs hP hD hS => ?_)
    have hP : va_P D vwCl (kX12 T h a u1) H := by rw [eu1]; exact hP
    have hD : va_D (va_A (kX12 T h a u) s.heap.size) (kX12 T h a u1) := by rw [eu1]; exact hD
    refine lv_aload_n hx hb dX12_readsWeighing_93 rfl (lv_at hl 0 rfl) ?_
    refine lv_iload_n hx hb dX12_readsWeighing_94 rfl (lv_at hl 1 rfl) ?_
    obtain ⟨z2, hz2, hf⟩ := bnd hf
    have hFc9 := vaA_self hD hS hA
    refine cVM (As := [.int x1]) (rest := []) ⟨hx, hb, hml, hown, hts⟩ (mX12_readsLetters l D T h a u1 _ x1 z2 hz2) (cwV 1 hts gX12_readsWeighing_X12_readsLetters rfl rfl rfl (by decide +kernel) ⟨Nat.le_of_ble_eq_true rfl, Nat.le_of_ble_eq_true rfl⟩) (va_recv hK.1 hP (ci := 12) (q0 := 0) rfl rfl) hP hK rfl hl.1 rfl (Nat.le_of_ble_eq_true rfl) dX12_readsWeighing_95 ⟨Nat.le_of_ble_eq_true rfl, Nat.le_of_ble_eq_true rfl⟩ hD hFc9 hS (fun H locs hP hD1 _ hS => ?_)
    have hD := hD1.weaken (fun _ _ _ h9 => hFc9 _ h9)
    refine lv_if_ne (tgt := 103) hx hb dX12_readsWeighing_98 (by decide) (fun c3 => ?_) (fun c3 => ?_)
    · replace hf := ifn c3 hf
      refine lv_aload_n hx hb dX12_readsWeighing_103 rfl (lv_at hl 0 rfl) ?_
      refine va_get (D := D) (ci := 12) (v := .ref (a 33)) (C := RX12) (T := TX12) (N := 52) hx hb hts hinX12 hown hK.1 hP 0 rfl rfl 33 (by decide) (hts (.fieldLink RX12 71 "RopeScaleModel" "newLeft" "[I") (List.mem_of_getElem? (i := 4) rfl)) (fun _ h9 => h9) rfl dX12_readsWeighing_104 ?_
      refine lv_aload_n hx hb dX12_readsWeighing_107 rfl (lv_at hl 0 rfl) ?_
      refine va_get (D := D) (ci := 12) (v := .int (z2.2 37 0)) (C := RX12) (T := TX12) (N := 52) hx hb hts hinX12 hown hK.1 hP 0 rfl rfl 37 (by decide) (hts (.fieldLink RX12 265 "RopeScaleModel" "newMany" "I") (List.mem_of_getElem? (i := 1) rfl)) (fun _ h9 => h9) rfl dX12_readsWeighing_108 ?_
      refine lv_iload_n hx hb dX12_readsWeighing_111 rfl (lv_at hl 1 rfl) ?_
      obtain ⟨h10, hf⟩ := gd_e hf
      obtain ⟨u4, eu4, hf⟩ := lett_e hf
      refine va_iast hx hb hK.1 hP hD hS 21 0 rfl rfl h10 dX12_readsWeighing_112 (fun H locs hP hD hS => ?_)
      have hP : va_P D vwCl (kX12 T h a u4) H := by rw [eu4]; exact hP
      have hD : va_D (va_A (kX12 T h a u) s.heap.size) (kX12 T h a u4) := by rw [eu4]; exact hD
      refine lv_aload_n hx hb dX12_readsWeighing_113 rfl (lv_at hl 0 rfl) ?_
      refine va_get (D := D) (ci := 12) (v := .ref (a 34)) (C := RX12) (T := TX12) (N := 52) hx hb hts hinX12 hown hK.1 hP 0 rfl rfl 34 (by decide) (hts (.fieldLink RX12 74 "RopeScaleModel" "newRight" "[I") (List.mem_of_getElem? (i := 5) rfl)) (fun _ h9 => h9) rfl dX12_readsWeighing_114 ?_
      refine lv_aload_n hx hb dX12_readsWeighing_117 rfl (lv_at hl 0 rfl) ?_
      refine va_get (D := D) (ci := 12) (v := .int (u4 37 0)) (C := RX12) (T := TX12) (N := 52) hx hb hts hinX12 hown hK.1 hP 0 rfl rfl 37 (by decide) (hts (.fieldLink RX12 265 "RopeScaleModel" "newMany" "I") (List.mem_of_getElem? (i := 1) rfl)) (fun _ h9 => h9) rfl dX12_readsWeighing_118 ?_
      refine lv_aload_n hx hb dX12_readsWeighing_121 rfl (lv_at hl 0 rfl) ?_
      refine va_get (D := D) (ci := 12) (v := .int (u4 38 0)) (C := RX12) (T := TX12) (N := 52) hx hb hts hinX12 hown hK.1 hP 0 rfl rfl 38 (by decide) (hts (.fieldLink RX12 262 "RopeScaleModel" "letters0" "I") (List.mem_of_getElem? (i := 3) rfl)) (fun _ h9 => h9) rfl dX12_readsWeighing_122 ?_
      obtain ⟨h9, hf⟩ := gd_e hf
      obtain ⟨u5, eu5, hf⟩ := lett_e hf
      refine va_iast hx hb hK.1 hP hD hS 22 0 rfl rfl h9 dX12_readsWeighing_125 (fun H locs hP hD hS => ?_)
      have hP : va_P D vwCl (kX12 T h a u5) H := by rw [eu5]; exact hP
      have hD : va_D (va_A (kX12 T h a u) s.heap.size) (kX12 T h a u5) := by rw [eu5]; exact hD
      refine lv_aload_n hx hb dX12_readsWeighing_126 rfl (lv_at hl 0 rfl) ?_
      refine va_get (D := D) (ci := 12) (v := .ref (a 35)) (C := RX12) (T := TX12) (N := 52) hx hb hts hinX12 hown hK.1 hP 0 rfl rfl 35 (by decide) (hts (.fieldLink RX12 77 "RopeScaleModel" "newSign" "[I") (List.mem_of_getElem? (i := 6) rfl)) (fun _ h9 => h9) rfl dX12_readsWeighing_127 ?_
      refine lv_aload_n hx hb dX12_readsWeighing_130 rfl (lv_at hl 0 rfl) ?_
      refine va_get (D := D) (ci := 12) (v := .int (u5 37 0)) (C := RX12) (T := TX12) (N := 52) hx hb hts hinX12 hown hK.1 hP 0 rfl rfl 37 (by decide) (hts (.fieldLink RX12 265 "RopeScaleModel" "newMany" "I") (List.mem_of_getElem? (i := 1) rfl)) (fun _ h9 => h9) rfl dX12_readsWeighing_131 ?_
      refine lv_iload_n hx hb dX12_readsWeighing_134 rfl (lv_at hl 2 rfl) ?_
      obtain ⟨h8, hf⟩ := gd_e hf
      obtain ⟨u6, eu6, hf⟩ := lett_e hf
      refine va_iast hx hb hK.1 hP hD hS 23 0 rfl rfl h8 dX12_readsWeighing_135 (fun H locs hP hD hS => ?_)
      have hP : va_P D vwCl (kX12 T h a u6) H := by rw [eu6]; exact hP
      have hD : va_D (va_A (kX12 T h a u) s.heap.size) (kX12 T h a u6) := by rw [eu6]; exact hD
      refine lv_aload_n hx hb dX12_readsWeighing_136 rfl (lv_at hl 0 rfl) ?_
      refine lv_aload_n hx hb dX12_readsWeighing_137 rfl (lv_at hl 0 rfl) ?_
      refine va_get (D := D) (ci := 12) (v := .int (u6 37 0)) (C := RX12) (T := TX12) (N := 52) hx hb hts hinX12 hown hK.1 hP 0 rfl rfl 37 (by decide) (hts (.fieldLink RX12 265 "RopeScaleModel" "newMany" "I") (List.mem_of_getElem? (i := 1) rfl)) (fun _ h9 => h9) rfl dX12_readsWeighing_138 ?_
      refine lv_iconst (v := 1) hx hb dX12_readsWeighing_141 (by decide) ?_
      refine lv_iadd hx hb dX12_readsWeighing_142 ?_
      obtain ⟨u7, eu7, hf⟩ := lett_e hf
      refine va_put (D := D) (ci := 12) (v := .int ((u6 37 0) + 1)) (ty := .int) (C := RX12) (T := TX12) (N := 52) hx hb hts hinX12 tyX12 tyX12_ok nmX12 hown hK.1 hP hD hS 0 rfl rfl 37 (by decide) (hts (.fieldLink RX12 265 "RopeScaleModel" "newMany" "I") (List.mem_of_getElem? (i := 1) rfl)) (fun _ h9 => h9) rfl (tyX12_ok 37 (by decide)) rfl rfl (Nat.le_of_ble_eq_true rfl) dX12_readsWeighing_143 (fun H locs hP hD hS => ?_)
      have hP : va_P D vwCl (kX12 T h a u7) H := by rw [eu7]; exact hP
      have hD : va_D (va_A (kX12 T h a u) s.heap.size) (kX12 T h a u7) := by rw [eu7]; exact hD
      refine lv_iconst (v := 1) hx hb dX12_readsWeighing_146 (by decide) ?_
      have e9 := Option.some.inj hf
      exact retMz hx hb hr hlocks hP hD hS rfl (congrArg (fun z => z.1) e9) (congrArg (fun z => (kX12 T h a z.2 : va_W)) e9) dX12_readsWeighing_147
    replace hf := ifp c3 hf
    refine lv_iconst (v := 0) hx hb dX12_readsWeighing_101 (by decide) ?_
    have e9 := Option.some.inj hf
    exact retMz hx hb hr hlocks hP hD hS rfl (congrArg (fun z => z.1) e9) (congrArg (fun z => (kX12 T h a z.2 : va_W)) e9) dX12_readsWeighing_102
  have J35 : ∀ (v : St) (H : Heap) (locs : List Loc) (ls : Array Slot), fX12_readsWeighing_J35  v = some res → va_P D vwCl (kX12 T h a v) H → va_D (va_A (kX12 T h a u) s.heap.size) (kX12 T h a v) → va_S (va_A (kX12 T h a u) s.heap.size) s.heap H locs → lv_has ls 3 [(0, .ref h)] → W p l e (headSpec wsX12_readsWeighing ({ frames := 2, cells := 0, slots := 0, locals := 44 })).room s m ([.ref h] : List Value).toArray below meth c H locs 0 0 (MQ below (QM D (kX12 T h a u) s.heap.size res.1 (kX12 T h a res.2)) ([.ref h] : List Value).toArray s 0 0 (va_A (kX12 T h a u) s.heap.size)) (F0 m 35 ls []) := by
    intro v H locs ls hf hP hD hS hl
    unfold fX12_readsWeighing_J35 at hf
    refine lv_aload_n hx hb dX12_readsWeighing_35 rfl (lv_at hl 0 rfl) ?_
    refine lv_iconst (v := 0) hx hb dX12_readsWeighing_36 (by decide) ?_
    obtain ⟨z11, hz11, hf⟩ := bnd hf
    have hFc9 := vaA_self hD hS hA
    refine cVM (As := [.int 0]) (rest := []) ⟨hx, hb, hml, hown, hts⟩ (mX12_readsLetters l D T h a v _ 0 z11 hz11) (cwV 1 hts gX12_readsWeighing_X12_readsLetters rfl rfl rfl (by decide +kernel) ⟨Nat.le_of_ble_eq_true rfl, Nat.le_of_ble_eq_true rfl⟩) (va_recv hK.1 hP (ci := 12) (q0 := 0) rfl rfl) hP hK rfl hl.1 rfl (Nat.le_of_ble_eq_true rfl) dX12_readsWeighing_37 ⟨Nat.le_of_ble_eq_true rfl, Nat.le_of_ble_eq_true rfl⟩ hD hFc9 hS (fun H locs hP hD1 _ hS => ?_)
    have hD := hD1.weaken (fun _ _ _ h9 => hFc9 _ h9)
    refine lv_if_ne (tgt := 45) hx hb dX12_readsWeighing_40 (by decide) (fun c12 => ?_) (fun c12 => ?_)
    · replace hf := ifn c12 hf
      refine lv_aload_n hx hb dX12_readsWeighing_45 rfl (lv_at hl 0 rfl) ?_
      refine va_get (D := D) (ci := 12) (v := .int (z11.2 38 0)) (C := RX12) (T := TX12) (N := 52) hx hb hts hinX12 hown hK.1 hP 0 rfl rfl 38 (by decide) (hts (.fieldLink RX12 262 "RopeScaleModel" "letters0" "I") (List.mem_of_getElem? (i := 3) rfl)) (fun _ h9 => h9) rfl dX12_readsWeighing_46 ?_
      obtain ⟨t13, et13, hf⟩ := lett_e hf
      refine lv_eqi et13 ?_
      refine lv_istore_n (lv' := [(1, .int t13), (0, .ref h)]) hx hb dX12_readsWeighing_49 rfl hl (by decide) rfl (fun ls hl => ?_)
      refine lv_aload_n hx hb dX12_readsWeighing_50 rfl (lv_at hl 1 rfl) ?_
      obtain ⟨z14, hz14, hf⟩ := bnd hf
      refine cVR (As := []) (rest := []) ⟨hx, hb, hml, hown, hts⟩ (mX12_here l D T h a z11.2 z14 hz14) (cwV 0 hts gX12_readsWeighing_X12_here rfl rfl rfl (by decide +kernel) ⟨Nat.le_of_ble_eq_true rfl, Nat.le_of_ble_eq_true rfl⟩) (va_recv hK.1 hP (ci := 12) (q0 := 0) rfl rfl) hP hK rfl hl.1 rfl (Nat.le_of_ble_eq_true rfl) dX12_readsWeighing_51 ⟨Nat.le_of_ble_eq_true rfl, Nat.le_of_ble_eq_true rfl⟩ hP hS (fun H locs hP hS => ?_)
      refine lv_istore_n (lv' := [(2, .int z14), (1, .int t13), (0, .ref h)]) hx hb dX12_readsWeighing_54 rfl hl (by decide) rfl (fun ls hl => ?_)
      refine lv_iload_n hx hb dX12_readsWeighing_55 rfl (lv_at hl 0 rfl) ?_
      refine lv_bipush (v := 60) hx hb dX12_readsWeighing_56 (by decide) ?_
      refine lv_icmp_eq (tgt := 83) hx hb dX12_readsWeighing_58 (by decide) (fun c15 => ?_) (fun c15 => ?_)
      · replace hf := ifp c15 hf
        exact J83 z11.2 t13 z14 _ _ _ hf hP hD hS (lv_sub hl [2, 1, 0] rfl)
      replace hf := ifn c15 hf
      refine lv_iload_n hx hb dX12_readsWeighing_61 rfl (lv_at hl 0 rfl) ?_
      refine lv_bipush (v := 62) hx hb dX12_readsWeighing_62 (by decide) ?_
      refine lv_icmp_eq (tgt := 83) hx hb dX12_readsWeighing_64 (by decide) (fun c16 => ?_) (fun c16 => ?_)
      · replace hf := ifp c16 hf
        exact J83 z11.2 t13 z14 _ _ _ hf hP hD hS (lv_sub hl [2, 1, 0] rfl)
      replace hf := ifn c16 hf
      refine lv_iload_n hx hb dX12_readsWeighing_67 rfl (lv_at hl 0 rfl) ?_
      refine lv_bipush (v := 61) hx hb dX12_readsWeighing_68 (by decide) ?_
      refine lv_icmp_eq (tgt := 83) hx hb dX12_readsWeighing_70 (by decide) (fun c17 => ?_) (fun c17 => ?_)
      · replace hf := ifp c17 hf
        exact J83 z11.2 t13 z14 _ _ _ hf hP hD hS (lv_sub hl [2, 1, 0] rfl)
      replace hf := ifn c17 hf
      refine lv_aload_n hx hb dX12_readsWeighing_73 rfl (lv_at hl 2 rfl) ?_
      refine lv_iconst (v := 1) hx hb dX12_readsWeighing_74 (by decide) ?_
      refine lv_aload_n hx hb dX12_readsWeighing_75 rfl (lv_at hl 2 rfl) ?_
      refine va_get (D := D) (ci := 12) (v := .int (z11.2 7 0)) (C := RX12) (T := TX12) (N := 52) hx hb hts hinX12 hown hK.1 hP 0 rfl rfl 7 (by decide) (hts (.fieldLink RX12 126 "RopeScaleModel" "place0" "I") (List.mem_of_getElem? (i := 2) rfl)) (fun _ h9 => h9) rfl dX12_readsWeighing_76 ?_
      obtain ⟨z18, hz18, hf⟩ := lett_e hf
      have hFc9 := vaA_self hD hS hA
      refine cVM (As := [.int 1, .int (z11.2 7 0)]) (rest := []) ⟨hx, hb, hml, hown, hts⟩ (mX12_wrongAt l D T h a z11.2 _ 1 (z11.2 7 0) z18 hz18.symm) (cwV 2 hts gX12_readsWeighing_X12_wrongAt rfl rfl rfl (by decide +kernel) ⟨Nat.le_of_ble_eq_true rfl, Nat.le_of_ble_eq_true rfl⟩) (va_recv hK.1 hP (ci := 12) (q0 := 0) rfl rfl) hP hK rfl hl.1 rfl (Nat.le_of_ble_eq_true rfl) dX12_readsWeighing_79 ⟨Nat.le_of_ble_eq_true rfl, Nat.le_of_ble_eq_true rfl⟩ hD hFc9 hS (fun H locs hP hD1 _ hS => ?_)
      have hD := hD1.weaken (fun _ _ _ h9 => hFc9 _ h9)
      obtain ⟨hz9, hf⟩ := zb_e hf
      have e9 := Option.some.inj hf
      exact retMz hx hb hr hlocks hP hD hS hz9 (congrArg (fun z => z.1) e9) (congrArg (fun z => (kX12 T h a z.2 : va_W)) e9) dX12_readsWeighing_82
    replace hf := ifp c12 hf
    refine lv_iconst (v := 0) hx hb dX12_readsWeighing_43 (by decide) ?_
    have e9 := Option.some.inj hf
    exact retMz hx hb hr hlocks hP hD hS rfl (congrArg (fun z => z.1) e9) (congrArg (fun z => (kX12 T h a z.2 : va_W)) e9) dX12_readsWeighing_44
  unfold fX12_readsWeighing at hf
  refine lv_aload_n hx hb dX12_readsWeighing_0 rfl (lv_at hl 0 rfl) ?_
  obtain ⟨z19, hz19, hf⟩ := bnd hf
  refine cVR (As := []) (rest := []) ⟨hx, hb, hml, hown, hts⟩ (mX12_here l D T h a u z19 hz19) (cwV 0 hts gX12_readsWeighing_X12_here rfl rfl rfl (by decide +kernel) ⟨Nat.le_of_ble_eq_true rfl, Nat.le_of_ble_eq_true rfl⟩) (va_recv hK.1 hP (ci := 12) (q0 := 0) rfl rfl) hP hK rfl hl.1 rfl (Nat.le_of_ble_eq_true rfl) dX12_readsWeighing_1 ⟨Nat.le_of_ble_eq_true rfl, Nat.le_of_ble_eq_true rfl⟩ hP hS (fun H locs hP hS => ?_)
  refine lv_bipush (v := 97) hx hb dX12_readsWeighing_4 (by decide) ?_
  refine lv_isub hx hb dX12_readsWeighing_6 ?_
  refine lv_iconst (v := 0) hx hb dX12_readsWeighing_7 (by decide) ?_
  refine lv_bipush (v := 15) hx hb dX12_readsWeighing_8 (by decide) ?_
  obtain ⟨z20, hz20, hf⟩ := lett_e hf
  refine cSR (As := [.int (z19 - 97), .int 0, .int 15]) (rest := []) ⟨hx, hb, hml, hown, hts⟩ (mX12_in l D T (z19 - 97) 0 15 z20 hz20.symm) (va_cwS 3 hts gX12_readsWeighing_X12_in rfl rfl rfl (by decide +kernel) ⟨Nat.le_of_ble_eq_true rfl, Nat.le_of_ble_eq_true rfl⟩) P0 hK rfl hl.1 rfl (Nat.le_of_ble_eq_true rfl) dX12_readsWeighing_10 ⟨Nat.le_of_ble_eq_true rfl, Nat.le_of_ble_eq_true rfl⟩ hP hS (fun H locs hP hS => ?_)
  refine lv_if_eq (tgt := 35) hx hb dX12_readsWeighing_13 (by decide) (fun c21 => ?_) (fun c21 => ?_)
  · replace hf := ifp c21 hf
    exact J35 u _ _ _ hf hP hD hS (lv_sub hl [0] rfl)
  replace hf := ifn c21 hf
  refine lv_aload_n hx hb dX12_readsWeighing_16 rfl (lv_at hl 0 rfl) ?_
  refine va_get (D := D) (ci := 12) (v := .int (u 37 0)) (C := RX12) (T := TX12) (N := 52) hx hb hts hinX12 hown hK.1 hP 0 rfl rfl 37 (by decide) (hts (.fieldLink RX12 265 "RopeScaleModel" "newMany" "I") (List.mem_of_getElem? (i := 1) rfl)) (fun _ h9 => h9) rfl dX12_readsWeighing_17 ?_
  refine lv_bipush (v := 16) hx hb dX12_readsWeighing_20 (by decide) ?_
  refine lv_icmp_ne (tgt := 35) hx hb dX12_readsWeighing_22 (by decide) (fun c22 => ?_) (fun c22 => ?_)
  · replace hf := ifn c22 hf
    exact J35 u _ _ _ hf hP hD hS (lv_sub hl [0] rfl)
  replace hf := ifp c22 hf
  refine lv_aload_n hx hb dX12_readsWeighing_25 rfl (lv_at hl 0 rfl) ?_
  refine lv_iconst (v := 4) hx hb dX12_readsWeighing_26 (by decide) ?_
  refine lv_aload_n hx hb dX12_readsWeighing_27 rfl (lv_at hl 0 rfl) ?_
  refine va_get (D := D) (ci := 12) (v := .int (u 7 0)) (C := RX12) (T := TX12) (N := 52) hx hb hts hinX12 hown hK.1 hP 0 rfl rfl 7 (by decide) (hts (.fieldLink RX12 126 "RopeScaleModel" "place0" "I") (List.mem_of_getElem? (i := 2) rfl)) (fun _ h9 => h9) rfl dX12_readsWeighing_28 ?_
  obtain ⟨z23, hz23, hf⟩ := lett_e hf
  have hFc9 := vaA_self hD hS hA
  refine cVM (As := [.int 4, .int (u 7 0)]) (rest := []) ⟨hx, hb, hml, hown, hts⟩ (mX12_wrongAt l D T h a u _ 4 (u 7 0) z23 hz23.symm) (cwV 2 hts gX12_readsWeighing_X12_wrongAt rfl rfl rfl (by decide +kernel) ⟨Nat.le_of_ble_eq_true rfl, Nat.le_of_ble_eq_true rfl⟩) (va_recv hK.1 hP (ci := 12) (q0 := 0) rfl rfl) hP hK rfl hl.1 rfl (Nat.le_of_ble_eq_true rfl) dX12_readsWeighing_31 ⟨Nat.le_of_ble_eq_true rfl, Nat.le_of_ble_eq_true rfl⟩ hD hFc9 hS (fun H locs hP hD1 _ hS => ?_)
  have hD := hD1.weaken (fun _ _ _ h9 => hFc9 _ h9)
  obtain ⟨hz9, hf⟩ := zb_e hf
  have e9 := Option.some.inj hf
  exact retMz hx hb hr hlocks hP hD hS hz9 (congrArg (fun z => z.1) e9) (congrArg (fun z => (kX12 T h a z.2 : va_W)) e9) dX12_readsWeighing_34
def bX12_weighings_L99   (lp99 : St → Int32 → Option (Int32 × St)) (v : St) (x3 : Int32) : Option (Int32 × St) := if (v 37 0) ≤ x3 then some (v 37 0, v) else gd x3 16 <| gd x3 16 <| lett (st v 30 (ix x3) (v 33 (ix x3))) fun u2 => gd x3 16 <| gd x3 16 <| lett (st u2 31 (ix x3) (u2 34 (ix x3))) fun u3 => gd x3 16 <| gd x3 16 <| lett (st u3 32 (ix x3) (u3 35 (ix x3))) fun u4 => lett (x3 + 1) fun t5 => lp99 u4 t5
def fX12_weighings_L99   : Nat → St → Int32 → Option (Int32 × St)
  | 0, _, _ => none
  | n + 1, v, x3 => bX12_weighings_L99  (fX12_weighings_L99  n) v x3
def fX12_weighings_J75   (v : St) (x2 : Int32) : Option (Int32 × St) := lett (st v 6 0 0) fun u12 => if x2 = 0 then some (u12 9 0, u12) else lett (st u12 36 0 (u12 37 0)) fun u14 => fX12_weighings_L99 FU u14 0
def bX12_weighings_L35   (lp35 : St → Int32 → Option (Int32 × St)) (v : St) (x2 : Int32) : Option (Int32 × St) := if x2 = 0 then fX12_weighings_J75 v x2 else if (v 8 0) ≤ (v 7 0) then fX12_weighings_J75 v x2 else (fX12_takes v 59).bind fun z17 => if z17.1 = 0 then lp35 z17.2 0 else (fX12_readsWeighing z17.2).bind fun z19 => if z19.1 = 0 then lp35 z19.2 0 else lp35 z19.2 1
def fX12_weighings_L35   : Nat → St → Int32 → Option (Int32 × St)
  | 0, _, _ => none
  | n + 1, v, x2 => bX12_weighings_L35  (fX12_weighings_L35  n) v x2
def fX12_weighings  (u : St) (p1 : Int32) : Option (Int32 × St) := lett (fX12_in p1 1 120) fun z21 => if z21 = 0 then some ((-1), u) else if p1 ≤ (u 6 0) then lett (fX12_beginsText u p1) fun z24 => lett (st z24 37 0 0) fun u25 => (fX12_readsWeighing u25).bind fun z26 => fX12_weighings_L35 FU z26.2 z26.1 else some ((-1), u)
set_option maxHeartbeats 4000000 in
set_option maxRecDepth 100000 in
theorem mX12_weighings (l : Launch) (D : va_G) (T : Ty3) (h : Nat) (a : Nat → Nat) (u : St) (sz : Nat) (p1 : Int32) (res : Int32 × St) (hf : fX12_weighings u p1 = some res) : Met l yX12_weighings wsX12_weighings ({ frames := 3, cells := 0, slots := 0, locals := 66 }) (PcM D T (kX12 T h a u) sz [.ref h, .int p1]) (QM D (kX12 T h a u) sz res.1 (kX12 T h a res.2)) 0 0 (va_A (kX12 T h a u) sz) := by
  refine Met.ofW (cc := cX12_weighings) (maxL := 4) (ret := (some .int)) (by decide) rfl ?_
  intro p e s m args below meth c s₁ B hml hv
  obtain ⟨rfl, hsz, hP, hK, hD0⟩ := hv
  have hx := B.exec
  have hb := B.bytes
  have hr := B.returns
  have hts := atoms_spec (ws := wsX12_weighings) B.pre
  have hown : s.vm.findClass RX12 = some m.cls := findClass_of_methodNamed B.named
  have hlocks := B.notSynchronized
  subst hsz
  have hD := hD0.self (sz := s.heap.size)
  have hA : ∀ q : Nat, s.heap.size ≤ q → va_A (kX12 T h a u) s.heap.size q := fun q h => Or.inr h
  have hS : va_S (va_A (kX12 T h a u) s.heap.size) s.heap s.heap [] := va_S.rf
  have hinX12 : ∀ w ∈ u_ws RX12 TX12 52, w ∈ wsX12_weighings := fun w h => List.mem_cons_of_mem _ (List.mem_append_right _ h)
  have hl := lv_entry ([.ref h, .int p1]) (n := 4) (Nat.le_of_ble_eq_true rfl)
  rw [lg_entry_eq]
  generalize (lg_sl ([.ref h, .int p1]) ++ List.replicate (4 - (lg_sl ([.ref h, .int p1])).length) Slot.unset).toArray = ls at hl ⊢
  have hl : lv_has ls 4 [(0, .ref h), (1, .int p1)] := hl
  have L99 : ∀ (n99 : Nat), ∀ (v : St) (x3 : Int32) (H : Heap) (locs : List Loc) (ls : Array Slot), fX12_weighings_L99  n99 v x3 = some res → va_P D vwCl (kX12 T h a v) H → va_D (va_A (kX12 T h a u) s.heap.size) (kX12 T h a v) → va_S (va_A (kX12 T h a u) s.heap.size) s.heap H locs → lv_has ls 4 [(0, .ref h), (3, .int x3)] → W p l e (headSpec wsX12_weighings ({ frames := 3, cells := 0, slots := 0, locals := 66 })).room s m ([.ref h, .int p1] : List Value).toArray below meth c H locs 0 0 (MQ below (QM D (kX12 T h a u) s.heap.size res.1 (kX12 T h a res.2)) ([.ref h, .int p1] : List Value).toArray s 0 0 (va_A (kX12 T h a u) s.heap.size)) (F0 m 99 ls []) := by
    intro n99
    induction n99 with
    | zero => intro v x3 H locs ls hf; exact nns hf
    | succ n99 ih99 =>
      intro v x3 H locs ls hf hP hD hS hl
      replace hf : bX12_weighings_L99  (fX12_weighings_L99  n99) v x3 = some res := hf
      unfold bX12_weighings_L99 at hf
      refine lv_iload_n hx hb dX12_weighings_99 rfl (lv_at hl 1 rfl) ?_
      refine lv_aload_n hx hb dX12_weighings_100 rfl (lv_at hl 0 rfl) ?_
      refine va_get (D := D) (ci := 12) (v := .int (v 37 0)) (C := RX12) (T := TX12) (N := 52) hx hb hts hinX12 hown hK.1 hP 0 rfl rfl 37 (by decide) (hts (.fieldLink RX12 265 "RopeScaleModel" "newMany" "I") (List.mem_of_getElem? (i := 2) rfl)) (fun _ h9 => h9) rfl dX12_weighings_101 ?_
      refine lv_icmp_ge (tgt := 149) hx hb dX12_weighings_104 (by decide) (fun c1 => ?_) (fun c1 => ?_)
      · replace hf := ifp c1 hf
        refine lv_aload_n hx hb dX12_weighings_149 rfl (lv_at hl 0 rfl) ?_
        refine va_get (D := D) (ci := 12) (v := .int (v 37 0)) (C := RX12) (T := TX12) (N := 52) hx hb hts hinX12 hown hK.1 hP 0 rfl rfl 37 (by decide) (hts (.fieldLink RX12 265 "RopeScaleModel" "newMany" "I") (List.mem_of_getElem? (i := 2) rfl)) (fun _ h9 => h9) rfl dX12_weighings_150 ?_
        have e9 := Option.some.inj hf
        exact retM hx hb hr hlocks hP hD hS (congrArg (fun z => z.1) e9) (congrArg (fun z => (kX12 T h a z.2 : va_W)) e9) dX12_weighings_153
      replace hf := ifn c1 hf
      refine lv_aload_n hx hb dX12_weighings_107 rfl (lv_at hl 0 rfl) ?_
      refine va_get (D := D) (ci := 12) (v := .ref (a 30)) (C := RX12) (T := TX12) (N := 52) hx hb hts hinX12 hown hK.1 hP 0 rfl rfl 30 (by decide) (hts (.fieldLink RX12 62 "RopeScaleModel" "leftOf" "[I") (List.mem_of_getElem? (i := 7) rfl)) (fun _ h9 => h9) rfl dX12_weighings_108 ?_
      refine lv_iload_n hx hb dX12_weighings_111 rfl (lv_at hl 1 rfl) ?_
      refine lv_aload_n hx hb dX12_weighings_112 rfl (lv_at hl 0 rfl) ?_
      refine va_get (D := D) (ci := 12) (v := .ref (a 33)) (C := RX12) (T := TX12) (N := 52) hx hb hts hinX12 hown hK.1 hP 0 rfl rfl 33 (by decide) (hts (.fieldLink RX12 71 "RopeScaleModel" "newLeft" "[I") (List.mem_of_getElem? (i := 8) rfl)) (fun _ h9 => h9) rfl dX12_weighings_113 ?_
      refine lv_iload_n hx hb dX12_weighings_116 rfl (lv_at hl 1 rfl) ?_
      obtain ⟨h11, hf⟩ := gd_e hf
      refine va_iald hx hb hK.1 hP 21 0 rfl rfl h11 dX12_weighings_117 ?_
      obtain ⟨h10, hf⟩ := gd_e hf
      obtain ⟨u2, eu2, hf⟩ := lett_e hf
      refine va_iast hx hb hK.1 hP hD hS 18 0 rfl rfl h10 dX12_weighings_118 (fun H locs hP hD hS => ?_)
      have hP : va_P D vwCl (kX12 T h a u2) H := by rw [eu2]; exact hP
      have hD : va_D (va_A (kX12 T h a u) s.heap.size) (kX12 T h a u2) := by rw [eu2]; exact hD
      refine lv_aload_n hx hb dX12_weighings_119 rfl (lv_at hl 0 rfl) ?_
      refine va_get (D := D) (ci := 12) (v := .ref (a 31)) (C := RX12) (T := TX12) (N := 52) hx hb hts hinX12 hown hK.1 hP 0 rfl rfl 31 (by decide) (hts (.fieldLink RX12 65 "RopeScaleModel" "rightOf" "[I") (List.mem_of_getElem? (i := 9) rfl)) (fun _ h9 => h9) rfl dX12_weighings_120 ?_
      refine lv_iload_n hx hb dX12_weighings_123 rfl (lv_at hl 1 rfl) ?_
      refine lv_aload_n hx hb dX12_weighings_124 rfl (lv_at hl 0 rfl) ?_
      refine va_get (D := D) (ci := 12) (v := .ref (a 34)) (C := RX12) (T := TX12) (N := 52) hx hb hts hinX12 hown hK.1 hP 0 rfl rfl 34 (by decide) (hts (.fieldLink RX12 74 "RopeScaleModel" "newRight" "[I") (List.mem_of_getElem? (i := 10) rfl)) (fun _ h9 => h9) rfl dX12_weighings_125 ?_
      refine lv_iload_n hx hb dX12_weighings_128 rfl (lv_at hl 1 rfl) ?_
      obtain ⟨h9, hf⟩ := gd_e hf
      refine va_iald hx hb hK.1 hP 22 0 rfl rfl h9 dX12_weighings_129 ?_
      obtain ⟨h8, hf⟩ := gd_e hf
      obtain ⟨u3, eu3, hf⟩ := lett_e hf
      refine va_iast hx hb hK.1 hP hD hS 19 0 rfl rfl h8 dX12_weighings_130 (fun H locs hP hD hS => ?_)
      have hP : va_P D vwCl (kX12 T h a u3) H := by rw [eu3]; exact hP
      have hD : va_D (va_A (kX12 T h a u) s.heap.size) (kX12 T h a u3) := by rw [eu3]; exact hD
      refine lv_aload_n hx hb dX12_weighings_131 rfl (lv_at hl 0 rfl) ?_
      refine va_get (D := D) (ci := 12) (v := .ref (a 32)) (C := RX12) (T := TX12) (N := 52) hx hb hts hinX12 hown hK.1 hP 0 rfl rfl 32 (by decide) (hts (.fieldLink RX12 68 "RopeScaleModel" "signOf" "[I") (List.mem_of_getElem? (i := 11) rfl)) (fun _ h9 => h9) rfl dX12_weighings_132 ?_
      refine lv_iload_n hx hb dX12_weighings_135 rfl (lv_at hl 1 rfl) ?_
      refine lv_aload_n hx hb dX12_weighings_136 rfl (lv_at hl 0 rfl) ?_
      refine va_get (D := D) (ci := 12) (v := .ref (a 35)) (C := RX12) (T := TX12) (N := 52) hx hb hts hinX12 hown hK.1 hP 0 rfl rfl 35 (by decide) (hts (.fieldLink RX12 77 "RopeScaleModel" "newSign" "[I") (List.mem_of_getElem? (i := 12) rfl)) (fun _ h9 => h9) rfl dX12_weighings_137 ?_
      refine lv_iload_n hx hb dX12_weighings_140 rfl (lv_at hl 1 rfl) ?_
      obtain ⟨h7, hf⟩ := gd_e hf
      refine va_iald hx hb hK.1 hP 23 0 rfl rfl h7 dX12_weighings_141 ?_
      obtain ⟨h6, hf⟩ := gd_e hf
      obtain ⟨u4, eu4, hf⟩ := lett_e hf
      refine va_iast hx hb hK.1 hP hD hS 20 0 rfl rfl h6 dX12_weighings_142 (fun H locs hP hD hS => ?_)
      have hP : va_P D vwCl (kX12 T h a u4) H := by rw [eu4]; exact hP
      have hD : va_D (va_A (kX12 T h a u) s.heap.size) (kX12 T h a u4) := by rw [eu4]; exact hD
      obtain ⟨t5, et5, hf⟩ := lett_e hf
      refine lv_iinc (v := t5) (lv' := [(3, .int t5), (0, .ref h)]) hx hb dX12_weighings_143 hl (k := 1) rfl (by rw [et5]; rfl) (by decide) rfl (fun ls hl => ?_)
      refine lv_goto (tgt := 99) hx hb dX12_weighings_146 (by decide) ?_
      exact ih99 u4 t5 _ _ _ hf hP hD hS (lv_sub hl [1, 0] rfl)
  have J75 : ∀ (v : St) (x2 : Int32) (H : Heap) (locs : List Loc) (ls : Array Slot), fX12_weighings_J75  v x2 = some res → va_P D vwCl (kX12 T h a v) H → va_D (va_A (kX12 T h a u) s.heap.size) (kX12 T h a v) → va_S (va_A (kX12 T h a u) s.heap.size) s.heap H locs → lv_has ls 4 [(0, .ref h), (2, .int x2)] → W p l e (headSpec wsX12_weighings ({ frames := 3, cells := 0, slots := 0, locals := 66 })).room s m ([.ref h, .int p1] : List Value).toArray below meth c H locs 0 0 (MQ below (QM D (kX12 T h a u) s.heap.size res.1 (kX12 T h a res.2)) ([.ref h, .int p1] : List Value).toArray s 0 0 (va_A (kX12 T h a u) s.heap.size)) (F0 m 75 ls []) := by
    intro v x2 H locs ls hf hP hD hS hl
    unfold fX12_weighings_J75 at hf
    refine lv_aload_n hx hb dX12_weighings_75 rfl (lv_at hl 0 rfl) ?_
    refine lv_iconst (v := 0) hx hb dX12_weighings_76 (by decide) ?_
    obtain ⟨u12, eu12, hf⟩ := lett_e hf
    refine va_put (D := D) (ci := 12) (v := .int 0) (ty := .int) (C := RX12) (T := TX12) (N := 52) hx hb hts hinX12 tyX12 tyX12_ok nmX12 hown hK.1 hP hD hS 0 rfl rfl 6 (by decide) (hts (.fieldLink RX12 119 "RopeScaleModel" "taped" "I") (List.mem_of_getElem? (i := 1) rfl)) (fun _ h9 => h9) rfl (tyX12_ok 6 (by decide)) rfl rfl (Nat.le_of_ble_eq_true rfl) dX12_weighings_77 (fun H locs hP hD hS => ?_)
    have hP : va_P D vwCl (kX12 T h a u12) H := by rw [eu12]; exact hP
    have hD : va_D (va_A (kX12 T h a u) s.heap.size) (kX12 T h a u12) := by rw [eu12]; exact hD
    refine lv_iload_n hx hb dX12_weighings_80 rfl (lv_at hl 1 rfl) ?_
    refine lv_if_ne (tgt := 89) hx hb dX12_weighings_81 (by decide) (fun c13 => ?_) (fun c13 => ?_)
    · replace hf := ifn c13 hf
      refine lv_aload_n hx hb dX12_weighings_89 rfl (lv_at hl 0 rfl) ?_
      refine lv_aload_n hx hb dX12_weighings_90 rfl (lv_at hl 0 rfl) ?_
      refine va_get (D := D) (ci := 12) (v := .int (u12 37 0)) (C := RX12) (T := TX12) (N := 52) hx hb hts hinX12 hown hK.1 hP 0 rfl rfl 37 (by decide) (hts (.fieldLink RX12 265 "RopeScaleModel" "newMany" "I") (List.mem_of_getElem? (i := 2) rfl)) (fun _ h9 => h9) rfl dX12_weighings_91 ?_
      obtain ⟨u14, eu14, hf⟩ := lett_e hf
      refine va_put (D := D) (ci := 12) (v := .int (u12 37 0)) (ty := .int) (C := RX12) (T := TX12) (N := 52) hx hb hts hinX12 tyX12 tyX12_ok nmX12 hown hK.1 hP hD hS 0 rfl rfl 36 (by decide) (hts (.fieldLink RX12 274 "RopeScaleModel" "weighingMany" "I") (List.mem_of_getElem? (i := 6) rfl)) (fun _ h9 => h9) rfl (tyX12_ok 36 (by decide)) rfl rfl (Nat.le_of_ble_eq_true rfl) dX12_weighings_94 (fun H locs hP hD hS => ?_)
      have hP : va_P D vwCl (kX12 T h a u14) H := by rw [eu14]; exact hP
      have hD : va_D (va_A (kX12 T h a u) s.heap.size) (kX12 T h a u14) := by rw [eu14]; exact hD
      refine lv_iconst (v := 0) hx hb dX12_weighings_97 (by decide) ?_
      refine lv_istore_n (lv' := [(3, .int 0), (0, .ref h), (2, .int x2)]) hx hb dX12_weighings_98 rfl hl (by decide) rfl (fun ls hl => ?_)
      exact L99 FU u14 0 _ _ _ hf hP hD hS (lv_sub hl [1, 0] rfl)
    replace hf := ifp c13 hf
    refine lv_aload_n hx hb dX12_weighings_84 rfl (lv_at hl 0 rfl) ?_
    refine va_get (D := D) (ci := 12) (v := .int (u12 9 0)) (C := RX12) (T := TX12) (N := 52) hx hb hts hinX12 hown hK.1 hP 0 rfl rfl 9 (by decide) (hts (.fieldLink RX12 136 "RopeScaleModel" "fault" "I") (List.mem_of_getElem? (i := 5) rfl)) (fun _ h9 => h9) rfl dX12_weighings_85 ?_
    have e9 := Option.some.inj hf
    exact retM hx hb hr hlocks hP hD hS (congrArg (fun z => z.1) e9) (congrArg (fun z => (kX12 T h a z.2 : va_W)) e9) dX12_weighings_88
  have L35 : ∀ (n35 : Nat), ∀ (v : St) (x2 : Int32) (H : Heap) (locs : List Loc) (ls : Array Slot), fX12_weighings_L35  n35 v x2 = some res → va_P D vwCl (kX12 T h a v) H → va_D (va_A (kX12 T h a u) s.heap.size) (kX12 T h a v) → va_S (va_A (kX12 T h a u) s.heap.size) s.heap H locs → lv_has ls 4 [(0, .ref h), (2, .int x2)] → W p l e (headSpec wsX12_weighings ({ frames := 3, cells := 0, slots := 0, locals := 66 })).room s m ([.ref h, .int p1] : List Value).toArray below meth c H locs 0 0 (MQ below (QM D (kX12 T h a u) s.heap.size res.1 (kX12 T h a res.2)) ([.ref h, .int p1] : List Value).toArray s 0 0 (va_A (kX12 T h a u) s.heap.size)) (F0 m 35 ls []) := by
    intro n35
    induction n35 with
    | zero => intro v x2 H locs ls hf; exact nns hf
    | succ n35 ih35 =>
      intro v x2 H locs ls hf hP hD hS hl
      replace hf : bX12_weighings_L35  (fX12_weighings_L35  n35) v x2 = some res := hf
      unfold bX12_weighings_L35 at hf
      refine lv_iload_n hx hb dX12_weighings_35 rfl (lv_at hl 1 rfl) ?_
      refine lv_if_eq (tgt := 75) hx hb dX12_weighings_36 (by decide) (fun c15 => ?_) (fun c15 => ?_)
      · replace hf := ifp c15 hf
        exact J75 v x2 _ _ _ hf hP hD hS (lv_sub hl [0, 1] rfl)
      replace hf := ifn c15 hf
      refine lv_aload_n hx hb dX12_weighings_39 rfl (lv_at hl 0 rfl) ?_
      refine va_get (D := D) (ci := 12) (v := .int (v 7 0)) (C := RX12) (T := TX12) (N := 52) hx hb hts hinX12 hown hK.1 hP 0 rfl rfl 7 (by decide) (hts (.fieldLink RX12 126 "RopeScaleModel" "place0" "I") (List.mem_of_getElem? (i := 3) rfl)) (fun _ h9 => h9) rfl dX12_weighings_40 ?_
      refine lv_aload_n hx hb dX12_weighings_43 rfl (lv_at hl 0 rfl) ?_
      refine va_get (D := D) (ci := 12) (v := .int (v 8 0)) (C := RX12) (T := TX12) (N := 52) hx hb hts hinX12 hown hK.1 hP 0 rfl rfl 8 (by decide) (hts (.fieldLink RX12 129 "RopeScaleModel" "length0" "I") (List.mem_of_getElem? (i := 4) rfl)) (fun _ h9 => h9) rfl dX12_weighings_44 ?_
      refine lv_icmp_ge (tgt := 75) hx hb dX12_weighings_47 (by decide) (fun c16 => ?_) (fun c16 => ?_)
      · replace hf := ifp c16 hf
        exact J75 v x2 _ _ _ hf hP hD hS (lv_sub hl [0, 1] rfl)
      replace hf := ifn c16 hf
      refine lv_aload_n hx hb dX12_weighings_50 rfl (lv_at hl 0 rfl) ?_
      refine lv_bipush (v := 59) hx hb dX12_weighings_51 (by decide) ?_
      obtain ⟨z17, hz17, hf⟩ := bnd hf
      have hFc9 := vaA_self hD hS hA
      refine cVM (As := [.int 59]) (rest := []) ⟨hx, hb, hml, hown, hts⟩ (mX12_takes l D T h a v _ 59 z17 hz17) (cwV 1 hts gX12_weighings_X12_takes rfl rfl rfl (by decide +kernel) ⟨Nat.le_of_ble_eq_true rfl, Nat.le_of_ble_eq_true rfl⟩) (va_recv hK.1 hP (ci := 12) (q0 := 0) rfl rfl) hP hK rfl hl.1 rfl (Nat.le_of_ble_eq_true rfl) dX12_weighings_53 ⟨Nat.le_of_ble_eq_true rfl, Nat.le_of_ble_eq_true rfl⟩ hD hFc9 hS (fun H locs hP hD1 _ hS => ?_)
      have hD := hD1.weaken (fun _ _ _ h9 => hFc9 _ h9)
      refine lv_if_eq (tgt := 70) hx hb dX12_weighings_56 (by decide) (fun c18 => ?_) (fun c18 => ?_)
      · replace hf := ifp c18 hf
        refine lv_iconst (v := 0) hx hb dX12_weighings_70 (by decide) ?_
        refine lv_istore_n (lv' := [(2, .int 0), (0, .ref h)]) hx hb dX12_weighings_71 rfl hl (by decide) rfl (fun ls hl => ?_)
        refine lv_goto (tgt := 35) hx hb dX12_weighings_72 (by decide) ?_
        exact ih35 z17.2 0 _ _ _ hf hP hD hS (lv_sub hl [1, 0] rfl)
      replace hf := ifn c18 hf
      refine lv_aload_n hx hb dX12_weighings_59 rfl (lv_at hl 0 rfl) ?_
      obtain ⟨z19, hz19, hf⟩ := bnd hf
      have hFc9 := vaA_self hD hS hA
      refine cVM (As := []) (rest := []) ⟨hx, hb, hml, hown, hts⟩ (mX12_readsWeighing l D T h a z17.2 _ z19 hz19) (cwV 0 hts gX12_weighings_X12_readsWeighing rfl rfl rfl (by decide +kernel) ⟨Nat.le_of_ble_eq_true rfl, Nat.le_of_ble_eq_true rfl⟩) (va_recv hK.1 hP (ci := 12) (q0 := 0) rfl rfl) hP hK rfl hl.1 rfl (Nat.le_of_ble_eq_true rfl) dX12_weighings_60 ⟨Nat.le_of_ble_eq_true rfl, Nat.le_of_ble_eq_true rfl⟩ hD hFc9 hS (fun H locs hP hD1 _ hS => ?_)
      have hD := hD1.weaken (fun _ _ _ h9 => hFc9 _ h9)
      refine lv_if_eq (tgt := 70) hx hb dX12_weighings_63 (by decide) (fun c20 => ?_) (fun c20 => ?_)
      · replace hf := ifp c20 hf
        refine lv_iconst (v := 0) hx hb dX12_weighings_70 (by decide) ?_
        refine lv_istore_n (lv' := [(2, .int 0), (0, .ref h)]) hx hb dX12_weighings_71 rfl hl (by decide) rfl (fun ls hl => ?_)
        refine lv_goto (tgt := 35) hx hb dX12_weighings_72 (by decide) ?_
        exact ih35 z19.2 0 _ _ _ hf hP hD hS (lv_sub hl [1, 0] rfl)
      replace hf := ifn c20 hf
      refine lv_iconst (v := 1) hx hb dX12_weighings_66 (by decide) ?_
      refine lv_goto (tgt := 71) hx hb dX12_weighings_67 (by decide) ?_
      refine lv_istore_n (lv' := [(2, .int 1), (0, .ref h)]) hx hb dX12_weighings_71 rfl hl (by decide) rfl (fun ls hl => ?_)
      refine lv_goto (tgt := 35) hx hb dX12_weighings_72 (by decide) ?_
      exact ih35 z19.2 1 _ _ _ hf hP hD hS (lv_sub hl [1, 0] rfl)
  unfold fX12_weighings at hf
  refine lv_iload_n hx hb dX12_weighings_0 rfl (lv_at hl 1 rfl) ?_
  refine lv_iconst (v := 1) hx hb dX12_weighings_1 (by decide) ?_
  refine lv_bipush (v := 120) hx hb dX12_weighings_2 (by decide) ?_
  obtain ⟨z21, hz21, hf⟩ := lett_e hf
  refine cSR (As := [.int p1, .int 1, .int 120]) (rest := []) ⟨hx, hb, hml, hown, hts⟩ (mX12_in l D T p1 1 120 z21 hz21.symm) (va_cwS 3 hts gX12_weighings_X12_in rfl rfl rfl (by decide +kernel) ⟨Nat.le_of_ble_eq_true rfl, Nat.le_of_ble_eq_true rfl⟩) P0 hK rfl hl.1 rfl (Nat.le_of_ble_eq_true rfl) dX12_weighings_4 ⟨Nat.le_of_ble_eq_true rfl, Nat.le_of_ble_eq_true rfl⟩ hP hS (fun H locs hP hS => ?_)
  refine lv_if_eq (tgt := 18) hx hb dX12_weighings_7 (by decide) (fun c22 => ?_) (fun c22 => ?_)
  · replace hf := ifp c22 hf
    refine lv_iconst (v := (-1)) hx hb dX12_weighings_18 (by decide) ?_
    have e9 := Option.some.inj hf
    exact retM hx hb hr hlocks hP hD hS (congrArg (fun z => z.1) e9) (congrArg (fun z => (kX12 T h a z.2 : va_W)) e9) dX12_weighings_19
  replace hf := ifn c22 hf
  refine lv_iload_n hx hb dX12_weighings_10 rfl (lv_at hl 1 rfl) ?_
  refine lv_aload_n hx hb dX12_weighings_11 rfl (lv_at hl 0 rfl) ?_
  refine va_get (D := D) (ci := 12) (v := .int (u 6 0)) (C := RX12) (T := TX12) (N := 52) hx hb hts hinX12 hown hK.1 hP 0 rfl rfl 6 (by decide) (hts (.fieldLink RX12 119 "RopeScaleModel" "taped" "I") (List.mem_of_getElem? (i := 1) rfl)) (fun _ h9 => h9) rfl dX12_weighings_12 ?_
  refine lv_icmp_le (tgt := 20) hx hb dX12_weighings_15 (by decide) (fun c23 => ?_) (fun c23 => ?_)
  · replace hf := ifp c23 hf
    refine lv_aload_n hx hb dX12_weighings_20 rfl (lv_at hl 0 rfl) ?_
    refine lv_iload_n hx hb dX12_weighings_21 rfl (lv_at hl 1 rfl) ?_
    obtain ⟨z24, hz24, hf⟩ := lett_e hf
    have hFc9 := vaA_self hD hS hA
    refine cVMv (As := [.int p1]) (rest := []) ⟨hx, hb, hml, hown, hts⟩ (mX12_beginsText l D T h a u _ p1 z24 hz24.symm) (cwV 1 hts gX12_weighings_X12_beginsText rfl rfl rfl (by decide +kernel) ⟨Nat.le_of_ble_eq_true rfl, Nat.le_of_ble_eq_true rfl⟩) (va_recv hK.1 hP (ci := 12) (q0 := 0) rfl rfl) hP hK rfl hl.1 rfl (Nat.le_of_ble_eq_true rfl) dX12_weighings_22 ⟨Nat.le_of_ble_eq_true rfl, Nat.le_of_ble_eq_true rfl⟩ hD hFc9 hS (fun H locs hP hD1 _ hS => ?_)
    have hD := hD1.weaken (fun _ _ _ h9 => hFc9 _ h9)
    refine lv_aload_n hx hb dX12_weighings_25 rfl (lv_at hl 0 rfl) ?_
    refine lv_iconst (v := 0) hx hb dX12_weighings_26 (by decide) ?_
    obtain ⟨u25, eu25, hf⟩ := lett_e hf
    refine va_put (D := D) (ci := 12) (v := .int 0) (ty := .int) (C := RX12) (T := TX12) (N := 52) hx hb hts hinX12 tyX12 tyX12_ok nmX12 hown hK.1 hP hD hS 0 rfl rfl 37 (by decide) (hts (.fieldLink RX12 265 "RopeScaleModel" "newMany" "I") (List.mem_of_getElem? (i := 2) rfl)) (fun _ h9 => h9) rfl (tyX12_ok 37 (by decide)) rfl rfl (Nat.le_of_ble_eq_true rfl) dX12_weighings_27 (fun H locs hP hD hS => ?_)
    have hP : va_P D vwCl (kX12 T h a u25) H := by rw [eu25]; exact hP
    have hD : va_D (va_A (kX12 T h a u) s.heap.size) (kX12 T h a u25) := by rw [eu25]; exact hD
    refine lv_aload_n hx hb dX12_weighings_30 rfl (lv_at hl 0 rfl) ?_
    obtain ⟨z26, hz26, hf⟩ := bnd hf
    have hFc9 := vaA_self hD hS hA
    refine cVM (As := []) (rest := []) ⟨hx, hb, hml, hown, hts⟩ (mX12_readsWeighing l D T h a u25 _ z26 hz26) (cwV 0 hts gX12_weighings_X12_readsWeighing rfl rfl rfl (by decide +kernel) ⟨Nat.le_of_ble_eq_true rfl, Nat.le_of_ble_eq_true rfl⟩) (va_recv hK.1 hP (ci := 12) (q0 := 0) rfl rfl) hP hK rfl hl.1 rfl (Nat.le_of_ble_eq_true rfl) dX12_weighings_31 ⟨Nat.le_of_ble_eq_true rfl, Nat.le_of_ble_eq_true rfl⟩ hD hFc9 hS (fun H locs hP hD1 _ hS => ?_)
    have hD := hD1.weaken (fun _ _ _ h9 => hFc9 _ h9)
    refine lv_istore_n (lv' := [(2, .int z26.1), (0, .ref h), (1, .int p1)]) hx hb dX12_weighings_34 rfl hl (by decide) rfl (fun ls hl => ?_)
    exact L35 FU z26.2 z26.1 _ _ _ hf hP hD hS (lv_sub hl [1, 0] rfl)
  replace hf := ifn c23 hf
  refine lv_iconst (v := (-1)) hx hb dX12_weighings_18 (by decide) ?_
  have e9 := Option.some.inj hf
  exact retM hx hb hr hlocks hP hD hS (congrArg (fun z => z.1) e9) (congrArg (fun z => (kX12 T h a z.2 : va_W)) e9) dX12_weighings_19
def fX12_goesOver_J105   (v : St) (x1 : Int32) : Option (St) := gd (48 + x1) 98 <| lett (st v 0 (ix (48 + x1)) 1) fun u1 => lett (st u1 39 0 ((u1 39 0) + 1)) fun u2 => some u2
def fX12_goesOver  (u : St) (p1 : Int32) (p2 : Int32) : Option (St) := gd (16 + p1) 98 <| lett (u 0 (ix (16 + p1))) fun t4 => if (t4 - p2) ≤ (u 3 0) then if (p2 - t4) ≤ (u 3 0) then fX12_goesOver_J105 u p1 else gd (80 + p1) 98 <| lett (fX12_min 9999 (((u 0 (ix (80 + p1))) + p2) - t4)) fun z7 => gd (80 + p1) 98 <| lett (st u 0 (ix (80 + p1)) z7) fun u8 => lett (st u8 41 0 ((u8 41 0) + 1)) fun u9 => fX12_goesOver_J105 u9 p1 else gd (64 + p1) 98 <| lett (fX12_min 999 ((u 0 (ix (64 + p1))) + 1)) fun z12 => gd (64 + p1) 98 <| lett (st u 0 (ix (64 + p1)) z12) fun u13 => lett (st u13 40 0 ((u13 40 0) + 1)) fun u14 => some u14
set_option maxHeartbeats 4000000 in
set_option maxRecDepth 100000 in
theorem mX12_goesOver (l : Launch) (D : va_G) (T : Ty3) (h : Nat) (a : Nat → Nat) (u : St) (sz : Nat) (p1 : Int32) (p2 : Int32) (res : St) (hf : fX12_goesOver u p1 p2 = some res) : Met l yX12_goesOver wsX12_goesOver ({ frames := 1, cells := 0, slots := 0, locals := 21 }) (PcM D T (kX12 T h a u) sz [.ref h, .int p1, .int p2]) (QMv D (kX12 T h a u) sz (kX12 T h a res)) 0 0 (va_A (kX12 T h a u) sz) := by
  refine Met.ofW (cc := cX12_goesOver) (maxL := 4) (ret := none) (by decide) rfl ?_
  intro p e s m args below meth c s₁ B hml hv
  obtain ⟨rfl, hsz, hP, hK, hD0⟩ := hv
  have hx := B.exec
  have hb := B.bytes
  have hr := B.returns
  have hts := atoms_spec (ws := wsX12_goesOver) B.pre
  have hown : s.vm.findClass RX12 = some m.cls := findClass_of_methodNamed B.named
  have hlocks := B.notSynchronized
  subst hsz
  have hD := hD0.self (sz := s.heap.size)
  have hA : ∀ q : Nat, s.heap.size ≤ q → va_A (kX12 T h a u) s.heap.size q := fun q h => Or.inr h
  have hS : va_S (va_A (kX12 T h a u) s.heap.size) s.heap s.heap [] := va_S.rf
  have hinX12 : ∀ w ∈ u_ws RX12 TX12 52, w ∈ wsX12_goesOver := fun w h => List.mem_cons_of_mem _ (List.mem_append_right _ h)
  have hl := lv_entry ([.ref h, .int p1, .int p2]) (n := 4) (Nat.le_of_ble_eq_true rfl)
  rw [lg_entry_eq]
  generalize (lg_sl ([.ref h, .int p1, .int p2]) ++ List.replicate (4 - (lg_sl ([.ref h, .int p1, .int p2])).length) Slot.unset).toArray = ls at hl ⊢
  have hl : lv_has ls 4 [(0, .ref h), (1, .int p1), (2, .int p2)] := hl
  have J105 : ∀ (v : St) (x1 : Int32) (H : Heap) (locs : List Loc) (ls : Array Slot), fX12_goesOver_J105  v x1 = some res → va_P D vwCl (kX12 T h a v) H → va_D (va_A (kX12 T h a u) s.heap.size) (kX12 T h a v) → va_S (va_A (kX12 T h a u) s.heap.size) s.heap H locs → lv_has ls 4 [(0, .ref h), (1, .int x1)] → W p l e (headSpec wsX12_goesOver ({ frames := 1, cells := 0, slots := 0, locals := 21 })).room s m ([.ref h, .int p1, .int p2] : List Value).toArray below meth c H locs 0 0 (MQ below (QMv D (kX12 T h a u) s.heap.size (kX12 T h a res)) ([.ref h, .int p1, .int p2] : List Value).toArray s 0 0 (va_A (kX12 T h a u) s.heap.size)) (F0 m 105 ls []) := by
    intro v x1 H locs ls hf hP hD hS hl
    unfold fX12_goesOver_J105 at hf
    refine lv_aload_n hx hb dX12_goesOver_105 rfl (lv_at hl 0 rfl) ?_
    refine va_get (D := D) (ci := 12) (v := .ref (a 0)) (C := RX12) (T := TX12) (N := 52) hx hb hts hinX12 hown hK.1 hP 0 rfl rfl 0 (by decide) (hts (.fieldLink RX12 7 "RopeScaleModel" "now" "[I") (List.mem_of_getElem? (i := 1) rfl)) (fun _ h9 => h9) rfl dX12_goesOver_106 ?_
    refine lv_bipush (v := 48) hx hb dX12_goesOver_109 (by decide) ?_
    refine lv_iload_n hx hb dX12_goesOver_111 rfl (lv_at hl 1 rfl) ?_
    refine lv_iadd hx hb dX12_goesOver_112 ?_
    refine lv_iconst (v := 1) hx hb dX12_goesOver_113 (by decide) ?_
    obtain ⟨h3, hf⟩ := gd_e hf
    obtain ⟨u1, eu1, hf⟩ := lett_e hf
    refine va_iast hx hb hK.1 hP hD hS 1 0 rfl rfl h3 dX12_goesOver_114 (fun H locs hP hD hS => ?_)
    have hP : va_P D vwCl (kX12 T h a u1) H := by rw [eu1]; exact hP
    have hD : va_D (va_A (kX12 T h a u) s.heap.size) (kX12 T h a u1) := by rw [eu1]; exact hD
    refine lv_aload_n hx hb dX12_goesOver_115 rfl (lv_at hl 0 rfl) ?_
    refine lv_aload_n hx hb dX12_goesOver_116 rfl (lv_at hl 0 rfl) ?_
    refine va_get (D := D) (ci := 12) (v := .int (u1 39 0)) (C := RX12) (T := TX12) (N := 52) hx hb hts hinX12 hown hK.1 hP 0 rfl rfl 39 (by decide) (hts (.fieldLink RX12 283 "RopeScaleModel" "gotOver" "I") (List.mem_of_getElem? (i := 5) rfl)) (fun _ h9 => h9) rfl dX12_goesOver_117 ?_
    refine lv_iconst (v := 1) hx hb dX12_goesOver_120 (by decide) ?_
    refine lv_iadd hx hb dX12_goesOver_121 ?_
    obtain ⟨u2, eu2, hf⟩ := lett_e hf
    refine va_put (D := D) (ci := 12) (v := .int ((u1 39 0) + 1)) (ty := .int) (C := RX12) (T := TX12) (N := 52) hx hb hts hinX12 tyX12 tyX12_ok nmX12 hown hK.1 hP hD hS 0 rfl rfl 39 (by decide) (hts (.fieldLink RX12 283 "RopeScaleModel" "gotOver" "I") (List.mem_of_getElem? (i := 5) rfl)) (fun _ h9 => h9) rfl (tyX12_ok 39 (by decide)) rfl rfl (Nat.le_of_ble_eq_true rfl) dX12_goesOver_122 (fun H locs hP hD hS => ?_)
    have hP : va_P D vwCl (kX12 T h a u2) H := by rw [eu2]; exact hP
    have hD : va_D (va_A (kX12 T h a u) s.heap.size) (kX12 T h a u2) := by rw [eu2]; exact hD
    have e9 := Option.some.inj hf
    exact retMv hx hb hr hlocks hP hD hS (congrArg (fun z => (kX12 T h a z : va_W)) e9) dX12_goesOver_125
  unfold fX12_goesOver at hf
  refine lv_aload_n hx hb dX12_goesOver_0 rfl (lv_at hl 0 rfl) ?_
  refine va_get (D := D) (ci := 12) (v := .ref (a 0)) (C := RX12) (T := TX12) (N := 52) hx hb hts hinX12 hown hK.1 hP 0 rfl rfl 0 (by decide) (hts (.fieldLink RX12 7 "RopeScaleModel" "now" "[I") (List.mem_of_getElem? (i := 1) rfl)) (fun _ h9 => h9) rfl dX12_goesOver_1 ?_
  refine lv_bipush (v := 16) hx hb dX12_goesOver_4 (by decide) ?_
  refine lv_iload_n hx hb dX12_goesOver_6 rfl (lv_at hl 1 rfl) ?_
  refine lv_iadd hx hb dX12_goesOver_7 ?_
  obtain ⟨h17, hf⟩ := gd_e hf
  refine va_iald hx hb hK.1 hP 1 0 rfl rfl h17 dX12_goesOver_8 ?_
  obtain ⟨t4, et4, hf⟩ := lett_e hf
  refine lv_eqi et4 ?_
  refine lv_istore_n (lv' := [(3, .int t4), (0, .ref h), (1, .int p1), (2, .int p2)]) hx hb dX12_goesOver_9 rfl hl (by decide) rfl (fun ls hl => ?_)
  refine lv_iload_n hx hb dX12_goesOver_10 rfl (lv_at hl 0 rfl) ?_
  refine lv_iload_n hx hb dX12_goesOver_11 rfl (lv_at hl 3 rfl) ?_
  refine lv_isub hx hb dX12_goesOver_12 ?_
  refine lv_aload_n hx hb dX12_goesOver_13 rfl (lv_at hl 1 rfl) ?_
  refine va_get (D := D) (ci := 12) (v := .int (u 3 0)) (C := RX12) (T := TX12) (N := 52) hx hb hts hinX12 hown hK.1 hP 0 rfl rfl 3 (by decide) (hts (.fieldLink RX12 116 "RopeScaleModel" "toleranceNow" "I") (List.mem_of_getElem? (i := 2) rfl)) (fun _ h9 => h9) rfl dX12_goesOver_14 ?_
  refine lv_icmp_le (tgt := 57) hx hb dX12_goesOver_17 (by decide) (fun c5 => ?_) (fun c5 => ?_)
  · replace hf := ifp c5 hf
    refine lv_iload_n hx hb dX12_goesOver_57 rfl (lv_at hl 3 rfl) ?_
    refine lv_iload_n hx hb dX12_goesOver_58 rfl (lv_at hl 0 rfl) ?_
    refine lv_isub hx hb dX12_goesOver_59 ?_
    refine lv_aload_n hx hb dX12_goesOver_60 rfl (lv_at hl 1 rfl) ?_
    refine va_get (D := D) (ci := 12) (v := .int (u 3 0)) (C := RX12) (T := TX12) (N := 52) hx hb hts hinX12 hown hK.1 hP 0 rfl rfl 3 (by decide) (hts (.fieldLink RX12 116 "RopeScaleModel" "toleranceNow" "I") (List.mem_of_getElem? (i := 2) rfl)) (fun _ h9 => h9) rfl dX12_goesOver_61 ?_
    refine lv_icmp_le (tgt := 105) hx hb dX12_goesOver_64 (by decide) (fun c6 => ?_) (fun c6 => ?_)
    · replace hf := ifp c6 hf
      exact J105 u p1 _ _ _ hf hP hD hS (lv_sub hl [1, 2] rfl)
    replace hf := ifn c6 hf
    refine lv_aload_n hx hb dX12_goesOver_67 rfl (lv_at hl 1 rfl) ?_
    refine va_get (D := D) (ci := 12) (v := .ref (a 0)) (C := RX12) (T := TX12) (N := 52) hx hb hts hinX12 hown hK.1 hP 0 rfl rfl 0 (by decide) (hts (.fieldLink RX12 7 "RopeScaleModel" "now" "[I") (List.mem_of_getElem? (i := 1) rfl)) (fun _ h9 => h9) rfl dX12_goesOver_68 ?_
    refine lv_bipush (v := 80) hx hb dX12_goesOver_71 (by decide) ?_
    refine lv_iload_n hx hb dX12_goesOver_73 rfl (lv_at hl 2 rfl) ?_
    refine lv_iadd hx hb dX12_goesOver_74 ?_
    refine lv_sipush (v := 9999) hx hb dX12_goesOver_75 (by decide) ?_
    refine lv_aload_n hx hb dX12_goesOver_78 rfl (lv_at hl 1 rfl) ?_
    refine va_get (D := D) (ci := 12) (v := .ref (a 0)) (C := RX12) (T := TX12) (N := 52) hx hb hts hinX12 hown hK.1 hP 0 rfl rfl 0 (by decide) (hts (.fieldLink RX12 7 "RopeScaleModel" "now" "[I") (List.mem_of_getElem? (i := 1) rfl)) (fun _ h9 => h9) rfl dX12_goesOver_79 ?_
    refine lv_bipush (v := 80) hx hb dX12_goesOver_82 (by decide) ?_
    refine lv_iload_n hx hb dX12_goesOver_84 rfl (lv_at hl 2 rfl) ?_
    refine lv_iadd hx hb dX12_goesOver_85 ?_
    obtain ⟨h11, hf⟩ := gd_e hf
    refine va_iald hx hb hK.1 hP 1 0 rfl rfl h11 dX12_goesOver_86 ?_
    refine lv_iload_n hx hb dX12_goesOver_87 rfl (lv_at hl 3 rfl) ?_
    refine lv_iadd hx hb dX12_goesOver_88 ?_
    refine lv_iload_n hx hb dX12_goesOver_89 rfl (lv_at hl 0 rfl) ?_
    refine lv_isub hx hb dX12_goesOver_90 ?_
    obtain ⟨z7, hz7, hf⟩ := lett_e hf
    refine cSR (As := [.int 9999, .int (((u 0 (ix (80 + p1))) + p2) - t4)]) (rest := [.int (80 + p1), .ref (a 0)]) ⟨hx, hb, hml, hown, hts⟩ (mX12_min l D T 9999 (((u 0 (ix (80 + p1))) + p2) - t4) z7 hz7.symm) (va_cwS 2 hts gX12_goesOver_X12_min rfl rfl rfl (by decide +kernel) ⟨Nat.le_of_ble_eq_true rfl, Nat.le_of_ble_eq_true rfl⟩) P0 hK rfl hl.1 rfl (Nat.le_of_ble_eq_true rfl) dX12_goesOver_91 ⟨Nat.le_of_ble_eq_true rfl, Nat.le_of_ble_eq_true rfl⟩ hP hS (fun H locs hP hS => ?_)
    obtain ⟨h10, hf⟩ := gd_e hf
    obtain ⟨u8, eu8, hf⟩ := lett_e hf
    refine va_iast hx hb hK.1 hP hD hS 1 0 rfl rfl h10 dX12_goesOver_94 (fun H locs hP hD hS => ?_)
    have hP : va_P D vwCl (kX12 T h a u8) H := by rw [eu8]; exact hP
    have hD : va_D (va_A (kX12 T h a u) s.heap.size) (kX12 T h a u8) := by rw [eu8]; exact hD
    refine lv_aload_n hx hb dX12_goesOver_95 rfl (lv_at hl 1 rfl) ?_
    refine lv_aload_n hx hb dX12_goesOver_96 rfl (lv_at hl 1 rfl) ?_
    refine va_get (D := D) (ci := 12) (v := .int (u8 41 0)) (C := RX12) (T := TX12) (N := 52) hx hb hts hinX12 hown hK.1 hP 0 rfl rfl 41 (by decide) (hts (.fieldLink RX12 280 "RopeScaleModel" "flung" "I") (List.mem_of_getElem? (i := 4) rfl)) (fun _ h9 => h9) rfl dX12_goesOver_97 ?_
    refine lv_iconst (v := 1) hx hb dX12_goesOver_100 (by decide) ?_
    refine lv_iadd hx hb dX12_goesOver_101 ?_
    obtain ⟨u9, eu9, hf⟩ := lett_e hf
    refine va_put (D := D) (ci := 12) (v := .int ((u8 41 0) + 1)) (ty := .int) (C := RX12) (T := TX12) (N := 52) hx hb hts hinX12 tyX12 tyX12_ok nmX12 hown hK.1 hP hD hS 0 rfl rfl 41 (by decide) (hts (.fieldLink RX12 280 "RopeScaleModel" "flung" "I") (List.mem_of_getElem? (i := 4) rfl)) (fun _ h9 => h9) rfl (tyX12_ok 41 (by decide)) rfl rfl (Nat.le_of_ble_eq_true rfl) dX12_goesOver_102 (fun H locs hP hD hS => ?_)
    have hP : va_P D vwCl (kX12 T h a u9) H := by rw [eu9]; exact hP
    have hD : va_D (va_A (kX12 T h a u) s.heap.size) (kX12 T h a u9) := by rw [eu9]; exact hD
    exact J105 u9 p1 _ _ _ hf hP hD hS (lv_sub hl [1, 2] rfl)
  replace hf := ifn c5 hf
  refine lv_aload_n hx hb dX12_goesOver_20 rfl (lv_at hl 1 rfl) ?_
  refine va_get (D := D) (ci := 12) (v := .ref (a 0)) (C := RX12) (T := TX12) (N := 52) hx hb hts hinX12 hown hK.1 hP 0 rfl rfl 0 (by decide) (hts (.fieldLink RX12 7 "RopeScaleModel" "now" "[I") (List.mem_of_getElem? (i := 1) rfl)) (fun _ h9 => h9) rfl dX12_goesOver_21 ?_
  refine lv_bipush (v := 64) hx hb dX12_goesOver_24 (by decide) ?_
  refine lv_iload_n hx hb dX12_goesOver_26 rfl (lv_at hl 2 rfl) ?_
  refine lv_iadd hx hb dX12_goesOver_27 ?_
  refine lv_sipush (v := 999) hx hb dX12_goesOver_28 (by decide) ?_
  refine lv_aload_n hx hb dX12_goesOver_31 rfl (lv_at hl 1 rfl) ?_
  refine va_get (D := D) (ci := 12) (v := .ref (a 0)) (C := RX12) (T := TX12) (N := 52) hx hb hts hinX12 hown hK.1 hP 0 rfl rfl 0 (by decide) (hts (.fieldLink RX12 7 "RopeScaleModel" "now" "[I") (List.mem_of_getElem? (i := 1) rfl)) (fun _ h9 => h9) rfl dX12_goesOver_32 ?_
  refine lv_bipush (v := 64) hx hb dX12_goesOver_35 (by decide) ?_
  refine lv_iload_n hx hb dX12_goesOver_37 rfl (lv_at hl 2 rfl) ?_
  refine lv_iadd hx hb dX12_goesOver_38 ?_
  obtain ⟨h16, hf⟩ := gd_e hf
  refine va_iald hx hb hK.1 hP 1 0 rfl rfl h16 dX12_goesOver_39 ?_
  refine lv_iconst (v := 1) hx hb dX12_goesOver_40 (by decide) ?_
  refine lv_iadd hx hb dX12_goesOver_41 ?_
  obtain ⟨z12, hz12, hf⟩ := lett_e hf
  refine cSR (As := [.int 999, .int ((u 0 (ix (64 + p1))) + 1)]) (rest := [.int (64 + p1), .ref (a 0)]) ⟨hx, hb, hml, hown, hts⟩ (mX12_min l D T 999 ((u 0 (ix (64 + p1))) + 1) z12 hz12.symm) (va_cwS 2 hts gX12_goesOver_X12_min rfl rfl rfl (by decide +kernel) ⟨Nat.le_of_ble_eq_true rfl, Nat.le_of_ble_eq_true rfl⟩) P0 hK rfl hl.1 rfl (Nat.le_of_ble_eq_true rfl) dX12_goesOver_42 ⟨Nat.le_of_ble_eq_true rfl, Nat.le_of_ble_eq_true rfl⟩ hP hS (fun H locs hP hS => ?_)
  obtain ⟨h15, hf⟩ := gd_e hf
  obtain ⟨u13, eu13, hf⟩ := lett_e hf
  refine va_iast hx hb hK.1 hP hD hS 1 0 rfl rfl h15 dX12_goesOver_45 (fun H locs hP hD hS => ?_)
  have hP : va_P D vwCl (kX12 T h a u13) H := by rw [eu13]; exact hP
  have hD : va_D (va_A (kX12 T h a u) s.heap.size) (kX12 T h a u13) := by rw [eu13]; exact hD
  refine lv_aload_n hx hb dX12_goesOver_46 rfl (lv_at hl 1 rfl) ?_
  refine lv_aload_n hx hb dX12_goesOver_47 rfl (lv_at hl 1 rfl) ?_
  refine va_get (D := D) (ci := 12) (v := .int (u13 40 0)) (C := RX12) (T := TX12) (N := 52) hx hb hts hinX12 hown hK.1 hP 0 rfl rfl 40 (by decide) (hts (.fieldLink RX12 277 "RopeScaleModel" "bathed" "I") (List.mem_of_getElem? (i := 3) rfl)) (fun _ h9 => h9) rfl dX12_goesOver_48 ?_
  refine lv_iconst (v := 1) hx hb dX12_goesOver_51 (by decide) ?_
  refine lv_iadd hx hb dX12_goesOver_52 ?_
  obtain ⟨u14, eu14, hf⟩ := lett_e hf
  refine va_put (D := D) (ci := 12) (v := .int ((u13 40 0) + 1)) (ty := .int) (C := RX12) (T := TX12) (N := 52) hx hb hts hinX12 tyX12 tyX12_ok nmX12 hown hK.1 hP hD hS 0 rfl rfl 40 (by decide) (hts (.fieldLink RX12 277 "RopeScaleModel" "bathed" "I") (List.mem_of_getElem? (i := 3) rfl)) (fun _ h9 => h9) rfl (tyX12_ok 40 (by decide)) rfl rfl (Nat.le_of_ble_eq_true rfl) dX12_goesOver_53 (fun H locs hP hD hS => ?_)
  have hP : va_P D vwCl (kX12 T h a u14) H := by rw [eu14]; exact hP
  have hD : va_D (va_A (kX12 T h a u) s.heap.size) (kX12 T h a u14) := by rw [eu14]; exact hD
  have e9 := Option.some.inj hf
  exact retMv hx hb hr hlocks hP hD hS (congrArg (fun z => (kX12 T h a z : va_W)) e9) dX12_goesOver_56
def fX12_turnOf_J235   (v : St) (x1 : Int32) (x5 : Int32) : Option (St) := (fX12_goesOver v x1 x5).bind fun z1 => some z1
def fX12_turnOf_J175   (v : St) (x1 : Int32) (x5 : Int32) (x6 : Int32) : Option (St) := gd 97 98 <| gd 97 98 <| lett (st v 0 (ix 97) (jrem ((25173 * (v 0 (ix 97))) + 13849) 65536)) fun u2 => gd 97 98 <| if x6 ≤ (jrem (u2 0 (ix 97)) 10) then fX12_turnOf_J235 u2 x1 x5 else lett (x5 + (u2 4 0)) fun t4 => lett (st u2 42 0 ((u2 42 0) + 1)) fun u5 => fX12_turnOf_J235 u5 x1 t4
def fX12_turnOf  (u : St) (p1 : Int32) : Option (St) := (fX12_feels u p1).bind fun z9 => (fX12_byLaw z9 119 99 0).bind fun z10 => (fX12_byLaw z10.2 108 99 0).bind fun z11 => gd (16 + p1) 98 <| lett (fX12_min 999 (((z11.2 0 (ix (16 + p1))) + z10.1) - z11.1)) fun z12 => lett (fX12_max 1 z12) fun z13 => gd (16 + p1) 98 <| lett (st z11.2 0 (ix (16 + p1)) z13) fun u14 => (fX12_feels u14 p1).bind fun z15 => gd (48 + p1) 98 <| if (z15 0 (ix (48 + p1))) = 1 then (fX12_holdsAny z15 114).bind fun z28 => if z28.1 = 0 then some z28.2 else gd (48 + p1) 98 <| lett (st z28.2 0 (ix (48 + p1)) 0) fun u30 => some u30 else (fX12_holdsAny z15 103).bind fun z17 => if z17.1 = 0 then some z17.2 else (fX12_byLaw z17.2 102 15 (-1)).bind fun z19 => (fX12_byLaw z19.2 101 999 0).bind fun z20 => (fX12_byLaw z20.2 98 10 0).bind fun z21 => if z19.1 = (-1) then fX12_turnOf_J175 z21.2 p1 z20.1 z21.1 else if z19.1 = p1 then fX12_turnOf_J175 z21.2 p1 z20.1 z21.1 else (fX12_isHere z21.2 z19.1).bind fun z24 => if z24 = 0 then fX12_turnOf_J175 z21.2 p1 z20.1 z21.1 else gd (16 + z19.1) 98 <| lett (z20.1 + (z21.2 0 (ix (16 + z19.1)))) fun t26 => fX12_turnOf_J175 z21.2 p1 t26 z21.1
set_option maxHeartbeats 4000000 in
set_option maxRecDepth 100000 in
theorem mX12_turnOf (l : Launch) (D : va_G) (T : Ty3) (h : Nat) (a : Nat → Nat) (u : St) (sz : Nat) (p1 : Int32) (res : St) (hf : fX12_turnOf u p1 = some res) : Met l yX12_turnOf wsX12_turnOf ({ frames := 6, cells := 0, slots := 0, locals := 127 }) (PcM D T (kX12 T h a u) sz [.ref h, .int p1]) (QMv D (kX12 T h a u) sz (kX12 T h a res)) 0 0 (va_A (kX12 T h a u) sz) := by
  refine Met.ofW (cc := cX12_turnOf) (maxL := 7) (ret := none) (by decide) rfl ?_
  intro p e s m args below meth c s₁ B hml hv
  obtain ⟨rfl, hsz, hP, hK, hD0⟩ := hv
  have hx := B.exec
  have hb := B.bytes
  have hr := B.returns
  have hts := atoms_spec (ws := wsX12_turnOf) B.pre
  have hown : s.vm.findClass RX12 = some m.cls := findClass_of_methodNamed B.named
  have hlocks := B.notSynchronized
  subst hsz
  have hD := hD0.self (sz := s.heap.size)
  have hA : ∀ q : Nat, s.heap.size ≤ q → va_A (kX12 T h a u) s.heap.size q := fun q h => Or.inr h
  have hS : va_S (va_A (kX12 T h a u) s.heap.size) s.heap s.heap [] := va_S.rf
  have hinX12 : ∀ w ∈ u_ws RX12 TX12 52, w ∈ wsX12_turnOf := fun w h => List.mem_cons_of_mem _ (List.mem_append_right _ h)
  have hl := lv_entry ([.ref h, .int p1]) (n := 7) (Nat.le_of_ble_eq_true rfl)
  rw [lg_entry_eq]
  generalize (lg_sl ([.ref h, .int p1]) ++ List.replicate (7 - (lg_sl ([.ref h, .int p1])).length) Slot.unset).toArray = ls at hl ⊢
  have hl : lv_has ls 7 [(0, .ref h), (1, .int p1)] := hl
  have J235 : ∀ (v : St) (x1 : Int32) (x5 : Int32) (H : Heap) (locs : List Loc) (ls : Array Slot), fX12_turnOf_J235  v x1 x5 = some res → va_P D vwCl (kX12 T h a v) H → va_D (va_A (kX12 T h a u) s.heap.size) (kX12 T h a v) → va_S (va_A (kX12 T h a u) s.heap.size) s.heap H locs → lv_has ls 7 [(0, .ref h), (1, .int x1), (5, .int x5)] → W p l e (headSpec wsX12_turnOf ({ frames := 6, cells := 0, slots := 0, locals := 127 })).room s m ([.ref h, .int p1] : List Value).toArray below meth c H locs 0 0 (MQ below (QMv D (kX12 T h a u) s.heap.size (kX12 T h a res)) ([.ref h, .int p1] : List Value).toArray s 0 0 (va_A (kX12 T h a u) s.heap.size)) (F0 m 235 ls []) := by
    intro v x1 x5 H locs ls hf hP hD hS hl
    unfold fX12_turnOf_J235 at hf
    refine lv_aload_n hx hb dX12_turnOf_235 rfl (lv_at hl 0 rfl) ?_
    refine lv_iload_n hx hb dX12_turnOf_236 rfl (lv_at hl 1 rfl) ?_
    refine lv_iload hx hb dX12_turnOf_237 (lv_at hl 2 rfl) ?_
    obtain ⟨z1, hz1, hf⟩ := bnd hf
    have hFc9 := vaA_self hD hS hA
    refine cVMv (As := [.int x1, .int x5]) (rest := []) ⟨hx, hb, hml, hown, hts⟩ (mX12_goesOver l D T h a v _ x1 x5 z1 hz1) (cwV 2 hts gX12_turnOf_X12_goesOver rfl rfl rfl (by decide +kernel) ⟨Nat.le_of_ble_eq_true rfl, Nat.le_of_ble_eq_true rfl⟩) (va_recv hK.1 hP (ci := 12) (q0 := 0) rfl rfl) hP hK rfl hl.1 rfl (Nat.le_of_ble_eq_true rfl) dX12_turnOf_239 ⟨Nat.le_of_ble_eq_true rfl, Nat.le_of_ble_eq_true rfl⟩ hD hFc9 hS (fun H locs hP hD1 _ hS => ?_)
    have hD := hD1.weaken (fun _ _ _ h9 => hFc9 _ h9)
    have e9 := Option.some.inj hf
    exact retMv hx hb hr hlocks hP hD hS (congrArg (fun z => (kX12 T h a z : va_W)) e9) dX12_turnOf_242
  have J175 : ∀ (v : St) (x1 : Int32) (x5 : Int32) (x6 : Int32) (H : Heap) (locs : List Loc) (ls : Array Slot), fX12_turnOf_J175  v x1 x5 x6 = some res → va_P D vwCl (kX12 T h a v) H → va_D (va_A (kX12 T h a u) s.heap.size) (kX12 T h a v) → va_S (va_A (kX12 T h a u) s.heap.size) s.heap H locs → lv_has ls 7 [(0, .ref h), (1, .int x1), (5, .int x5), (6, .int x6)] → W p l e (headSpec wsX12_turnOf ({ frames := 6, cells := 0, slots := 0, locals := 127 })).room s m ([.ref h, .int p1] : List Value).toArray below meth c H locs 0 0 (MQ below (QMv D (kX12 T h a u) s.heap.size (kX12 T h a res)) ([.ref h, .int p1] : List Value).toArray s 0 0 (va_A (kX12 T h a u) s.heap.size)) (F0 m 175 ls []) := by
    intro v x1 x5 x6 H locs ls hf hP hD hS hl
    unfold fX12_turnOf_J175 at hf
    refine lv_aload_n hx hb dX12_turnOf_175 rfl (lv_at hl 0 rfl) ?_
    refine va_get (D := D) (ci := 12) (v := .ref (a 0)) (C := RX12) (T := TX12) (N := 52) hx hb hts hinX12 hown hK.1 hP 0 rfl rfl 0 (by decide) (hts (.fieldLink RX12 7 "RopeScaleModel" "now" "[I") (List.mem_of_getElem? (i := 1) rfl)) (fun _ h9 => h9) rfl dX12_turnOf_176 ?_
    refine lv_bipush (v := 97) hx hb dX12_turnOf_179 (by decide) ?_
    refine lv_sipush (v := 25173) hx hb dX12_turnOf_181 (by decide) ?_
    refine lv_aload_n hx hb dX12_turnOf_184 rfl (lv_at hl 0 rfl) ?_
    refine va_get (D := D) (ci := 12) (v := .ref (a 0)) (C := RX12) (T := TX12) (N := 52) hx hb hts hinX12 hown hK.1 hP 0 rfl rfl 0 (by decide) (hts (.fieldLink RX12 7 "RopeScaleModel" "now" "[I") (List.mem_of_getElem? (i := 1) rfl)) (fun _ h9 => h9) rfl dX12_turnOf_185 ?_
    refine lv_bipush (v := 97) hx hb dX12_turnOf_188 (by decide) ?_
    obtain ⟨h8, hf⟩ := gd_e hf
    refine va_iald hx hb hK.1 hP 1 0 rfl rfl h8 dX12_turnOf_190 ?_
    refine lv_imul hx hb dX12_turnOf_191 ?_
    refine lv_sipush (v := 13849) hx hb dX12_turnOf_192 (by decide) ?_
    refine lv_iadd hx hb dX12_turnOf_195 ?_
    refine lv_ldcw (v := 65536) hx hb hown (hts (.constant RX12 295 (65536)) (List.mem_of_getElem? (i := 2) rfl)) dX12_turnOf_196 ?_
    refine lv_irem hx hb dX12_turnOf_199 (by decide) ?_
    obtain ⟨h7, hf⟩ := gd_e hf
    obtain ⟨u2, eu2, hf⟩ := lett_e hf
    refine va_iast hx hb hK.1 hP hD hS 1 0 rfl rfl h7 dX12_turnOf_200 (fun H locs hP hD hS => ?_)
    have hP : va_P D vwCl (kX12 T h a u2) H := by rw [eu2]; exact hP
    have hD : va_D (va_A (kX12 T h a u) s.heap.size) (kX12 T h a u2) := by rw [eu2]; exact hD
    refine lv_aload_n hx hb dX12_turnOf_201 rfl (lv_at hl 0 rfl) ?_
    refine va_get (D := D) (ci := 12) (v := .ref (a 0)) (C := RX12) (T := TX12) (N := 52) hx hb hts hinX12 hown hK.1 hP 0 rfl rfl 0 (by decide) (hts (.fieldLink RX12 7 "RopeScaleModel" "now" "[I") (List.mem_of_getElem? (i := 1) rfl)) (fun _ h9 => h9) rfl dX12_turnOf_202 ?_
    refine lv_bipush (v := 97) hx hb dX12_turnOf_205 (by decide) ?_
    obtain ⟨h6, hf⟩ := gd_e hf
    refine va_iald hx hb hK.1 hP 1 0 rfl rfl h6 dX12_turnOf_207 ?_
    refine lv_bipush (v := 10) hx hb dX12_turnOf_208 (by decide) ?_
    refine lv_irem hx hb dX12_turnOf_210 (by decide) ?_
    refine lv_iload hx hb dX12_turnOf_211 (lv_at hl 3 rfl) ?_
    refine lv_icmp_ge (tgt := 235) hx hb dX12_turnOf_213 (by decide) (fun c3 => ?_) (fun c3 => ?_)
    · replace hf := ifp c3 hf
      exact J235 u2 x1 x5 _ _ _ hf hP hD hS (lv_sub hl [0, 1, 2] rfl)
    replace hf := ifn c3 hf
    refine lv_iload hx hb dX12_turnOf_216 (lv_at hl 2 rfl) ?_
    refine lv_aload_n hx hb dX12_turnOf_218 rfl (lv_at hl 0 rfl) ?_
    refine va_get (D := D) (ci := 12) (v := .int (u2 4 0)) (C := RX12) (T := TX12) (N := 52) hx hb hts hinX12 hown hK.1 hP 0 rfl rfl 4 (by decide) (hts (.fieldLink RX12 101 "RopeScaleModel" "toeNow" "I") (List.mem_of_getElem? (i := 3) rfl)) (fun _ h9 => h9) rfl dX12_turnOf_219 ?_
    refine lv_iadd hx hb dX12_turnOf_222 ?_
    obtain ⟨t4, et4, hf⟩ := lett_e hf
    refine lv_eqi et4 ?_
    refine lv_istore (lv' := [(5, .int t4), (0, .ref h), (1, .int x1), (6, .int x6)]) hx hb dX12_turnOf_223 hl (by decide) rfl (fun ls hl => ?_)
    refine lv_aload_n hx hb dX12_turnOf_225 rfl (lv_at hl 1 rfl) ?_
    refine lv_aload_n hx hb dX12_turnOf_226 rfl (lv_at hl 1 rfl) ?_
    refine va_get (D := D) (ci := 12) (v := .int (u2 42 0)) (C := RX12) (T := TX12) (N := 52) hx hb hts hinX12 hown hK.1 hP 0 rfl rfl 42 (by decide) (hts (.fieldLink RX12 296 "RopeScaleModel" "toes" "I") (List.mem_of_getElem? (i := 4) rfl)) (fun _ h9 => h9) rfl dX12_turnOf_227 ?_
    refine lv_iconst (v := 1) hx hb dX12_turnOf_230 (by decide) ?_
    refine lv_iadd hx hb dX12_turnOf_231 ?_
    obtain ⟨u5, eu5, hf⟩ := lett_e hf
    refine va_put (D := D) (ci := 12) (v := .int ((u2 42 0) + 1)) (ty := .int) (C := RX12) (T := TX12) (N := 52) hx hb hts hinX12 tyX12 tyX12_ok nmX12 hown hK.1 hP hD hS 0 rfl rfl 42 (by decide) (hts (.fieldLink RX12 296 "RopeScaleModel" "toes" "I") (List.mem_of_getElem? (i := 4) rfl)) (fun _ h9 => h9) rfl (tyX12_ok 42 (by decide)) rfl rfl (Nat.le_of_ble_eq_true rfl) dX12_turnOf_232 (fun H locs hP hD hS => ?_)
    have hP : va_P D vwCl (kX12 T h a u5) H := by rw [eu5]; exact hP
    have hD : va_D (va_A (kX12 T h a u) s.heap.size) (kX12 T h a u5) := by rw [eu5]; exact hD
    exact J235 u5 x1 t4 _ _ _ hf hP hD hS (lv_sub hl [1, 2, 0] rfl)
  unfold fX12_turnOf at hf
  refine lv_aload_n hx hb dX12_turnOf_0 rfl (lv_at hl 0 rfl) ?_
  refine lv_iload_n hx hb dX12_turnOf_1 rfl (lv_at hl 1 rfl) ?_
  obtain ⟨z9, hz9, hf⟩ := bnd hf
  have hFc9 := vaA_self hD hS hA
  refine cVMv (As := [.int p1]) (rest := []) ⟨hx, hb, hml, hown, hts⟩ (mX12_feels l D T h a u _ p1 z9 hz9) (cwV 1 hts gX12_turnOf_X12_feels rfl rfl rfl (by decide +kernel) ⟨Nat.le_of_ble_eq_true rfl, Nat.le_of_ble_eq_true rfl⟩) (va_recv hK.1 hP (ci := 12) (q0 := 0) rfl rfl) hP hK rfl hl.1 rfl (Nat.le_of_ble_eq_true rfl) dX12_turnOf_2 ⟨Nat.le_of_ble_eq_true rfl, Nat.le_of_ble_eq_true rfl⟩ hD hFc9 hS (fun H locs hP hD1 _ hS => ?_)
  have hD := hD1.weaken (fun _ _ _ h9 => hFc9 _ h9)
  refine lv_aload_n hx hb dX12_turnOf_5 rfl (lv_at hl 0 rfl) ?_
  refine lv_bipush (v := 119) hx hb dX12_turnOf_6 (by decide) ?_
  refine lv_bipush (v := 99) hx hb dX12_turnOf_8 (by decide) ?_
  refine lv_iconst (v := 0) hx hb dX12_turnOf_10 (by decide) ?_
  obtain ⟨z10, hz10, hf⟩ := bnd hf
  have hFc9 := vaA_self hD hS hA
  refine cVM (As := [.int 119, .int 99, .int 0]) (rest := []) ⟨hx, hb, hml, hown, hts⟩ (mX12_byLaw l D T h a z9 _ 119 99 0 z10 hz10) (cwV 3 hts gX12_turnOf_X12_byLaw rfl rfl rfl (by decide +kernel) ⟨Nat.le_of_ble_eq_true rfl, Nat.le_of_ble_eq_true rfl⟩) (va_recv hK.1 hP (ci := 12) (q0 := 0) rfl rfl) hP hK rfl hl.1 rfl (Nat.le_of_ble_eq_true rfl) dX12_turnOf_11 ⟨Nat.le_of_ble_eq_true rfl, Nat.le_of_ble_eq_true rfl⟩ hD hFc9 hS (fun H locs hP hD1 _ hS => ?_)
  have hD := hD1.weaken (fun _ _ _ h9 => hFc9 _ h9)
  refine lv_istore_n (lv' := [(2, .int z10.1), (0, .ref h), (1, .int p1)]) hx hb dX12_turnOf_14 rfl hl (by decide) rfl (fun ls hl => ?_)
  refine lv_aload_n hx hb dX12_turnOf_15 rfl (lv_at hl 1 rfl) ?_
  refine lv_bipush (v := 108) hx hb dX12_turnOf_16 (by decide) ?_
  refine lv_bipush (v := 99) hx hb dX12_turnOf_18 (by decide) ?_
  refine lv_iconst (v := 0) hx hb dX12_turnOf_20 (by decide) ?_
  obtain ⟨z11, hz11, hf⟩ := bnd hf
  have hFc9 := vaA_self hD hS hA
  refine cVM (As := [.int 108, .int 99, .int 0]) (rest := []) ⟨hx, hb, hml, hown, hts⟩ (mX12_byLaw l D T h a z10.2 _ 108 99 0 z11 hz11) (cwV 3 hts gX12_turnOf_X12_byLaw rfl rfl rfl (by decide +kernel) ⟨Nat.le_of_ble_eq_true rfl, Nat.le_of_ble_eq_true rfl⟩) (va_recv hK.1 hP (ci := 12) (q0 := 0) rfl rfl) hP hK rfl hl.1 rfl (Nat.le_of_ble_eq_true rfl) dX12_turnOf_21 ⟨Nat.le_of_ble_eq_true rfl, Nat.le_of_ble_eq_true rfl⟩ hD hFc9 hS (fun H locs hP hD1 _ hS => ?_)
  have hD := hD1.weaken (fun _ _ _ h9 => hFc9 _ h9)
  refine lv_istore_n (lv' := [(3, .int z11.1), (2, .int z10.1), (0, .ref h), (1, .int p1)]) hx hb dX12_turnOf_24 rfl hl (by decide) rfl (fun ls hl => ?_)
  refine lv_aload_n hx hb dX12_turnOf_25 rfl (lv_at hl 2 rfl) ?_
  refine va_get (D := D) (ci := 12) (v := .ref (a 0)) (C := RX12) (T := TX12) (N := 52) hx hb hts hinX12 hown hK.1 hP 0 rfl rfl 0 (by decide) (hts (.fieldLink RX12 7 "RopeScaleModel" "now" "[I") (List.mem_of_getElem? (i := 1) rfl)) (fun _ h9 => h9) rfl dX12_turnOf_26 ?_
  refine lv_bipush (v := 16) hx hb dX12_turnOf_29 (by decide) ?_
  refine lv_iload_n hx hb dX12_turnOf_31 rfl (lv_at hl 3 rfl) ?_
  refine lv_iadd hx hb dX12_turnOf_32 ?_
  refine lv_iconst (v := 1) hx hb dX12_turnOf_33 (by decide) ?_
  refine lv_sipush (v := 999) hx hb dX12_turnOf_34 (by decide) ?_
  refine lv_aload_n hx hb dX12_turnOf_37 rfl (lv_at hl 2 rfl) ?_
  refine va_get (D := D) (ci := 12) (v := .ref (a 0)) (C := RX12) (T := TX12) (N := 52) hx hb hts hinX12 hown hK.1 hP 0 rfl rfl 0 (by decide) (hts (.fieldLink RX12 7 "RopeScaleModel" "now" "[I") (List.mem_of_getElem? (i := 1) rfl)) (fun _ h9 => h9) rfl dX12_turnOf_38 ?_
  refine lv_bipush (v := 16) hx hb dX12_turnOf_41 (by decide) ?_
  refine lv_iload_n hx hb dX12_turnOf_43 rfl (lv_at hl 3 rfl) ?_
  refine lv_iadd hx hb dX12_turnOf_44 ?_
  obtain ⟨h34, hf⟩ := gd_e hf
  refine va_iald hx hb hK.1 hP 1 0 rfl rfl h34 dX12_turnOf_45 ?_
  refine lv_iload_n hx hb dX12_turnOf_46 rfl (lv_at hl 1 rfl) ?_
  refine lv_iadd hx hb dX12_turnOf_47 ?_
  refine lv_iload_n hx hb dX12_turnOf_48 rfl (lv_at hl 0 rfl) ?_
  refine lv_isub hx hb dX12_turnOf_49 ?_
  obtain ⟨z12, hz12, hf⟩ := lett_e hf
  refine cSR (As := [.int 999, .int (((z11.2 0 (ix (16 + p1))) + z10.1) - z11.1)]) (rest := [.int 1, .int (16 + p1), .ref (a 0)]) ⟨hx, hb, hml, hown, hts⟩ (mX12_min l D T 999 (((z11.2 0 (ix (16 + p1))) + z10.1) - z11.1) z12 hz12.symm) (va_cwS 2 hts gX12_turnOf_X12_min rfl rfl rfl (by decide +kernel) ⟨Nat.le_of_ble_eq_true rfl, Nat.le_of_ble_eq_true rfl⟩) P0 hK rfl hl.1 rfl (Nat.le_of_ble_eq_true rfl) dX12_turnOf_50 ⟨Nat.le_of_ble_eq_true rfl, Nat.le_of_ble_eq_true rfl⟩ hP hS (fun H locs hP hS => ?_)
  obtain ⟨z13, hz13, hf⟩ := lett_e hf
  refine cSR (As := [.int 1, .int z12]) (rest := [.int (16 + p1), .ref (a 0)]) ⟨hx, hb, hml, hown, hts⟩ (mX12_max l D T 1 z12 z13 hz13.symm) (va_cwS 2 hts gX12_turnOf_X12_max rfl rfl rfl (by decide +kernel) ⟨Nat.le_of_ble_eq_true rfl, Nat.le_of_ble_eq_true rfl⟩) P0 hK rfl hl.1 rfl (Nat.le_of_ble_eq_true rfl) dX12_turnOf_53 ⟨Nat.le_of_ble_eq_true rfl, Nat.le_of_ble_eq_true rfl⟩ hP hS (fun H locs hP hS => ?_)
  obtain ⟨h33, hf⟩ := gd_e hf
  obtain ⟨u14, eu14, hf⟩ := lett_e hf
  refine va_iast hx hb hK.1 hP hD hS 1 0 rfl rfl h33 dX12_turnOf_56 (fun H locs hP hD hS => ?_)
  have hP : va_P D vwCl (kX12 T h a u14) H := by rw [eu14]; exact hP
  have hD : va_D (va_A (kX12 T h a u) s.heap.size) (kX12 T h a u14) := by rw [eu14]; exact hD
  refine lv_aload_n hx hb dX12_turnOf_57 rfl (lv_at hl 2 rfl) ?_
  refine lv_iload_n hx hb dX12_turnOf_58 rfl (lv_at hl 3 rfl) ?_
  obtain ⟨z15, hz15, hf⟩ := bnd hf
  have hFc9 := vaA_self hD hS hA
  refine cVMv (As := [.int p1]) (rest := []) ⟨hx, hb, hml, hown, hts⟩ (mX12_feels l D T h a u14 _ p1 z15 hz15) (cwV 1 hts gX12_turnOf_X12_feels rfl rfl rfl (by decide +kernel) ⟨Nat.le_of_ble_eq_true rfl, Nat.le_of_ble_eq_true rfl⟩) (va_recv hK.1 hP (ci := 12) (q0 := 0) rfl rfl) hP hK rfl hl.1 rfl (Nat.le_of_ble_eq_true rfl) dX12_turnOf_59 ⟨Nat.le_of_ble_eq_true rfl, Nat.le_of_ble_eq_true rfl⟩ hD hFc9 hS (fun H locs hP hD1 _ hS => ?_)
  have hD := hD1.weaken (fun _ _ _ h9 => hFc9 _ h9)
  refine lv_aload_n hx hb dX12_turnOf_62 rfl (lv_at hl 2 rfl) ?_
  refine va_get (D := D) (ci := 12) (v := .ref (a 0)) (C := RX12) (T := TX12) (N := 52) hx hb hts hinX12 hown hK.1 hP 0 rfl rfl 0 (by decide) (hts (.fieldLink RX12 7 "RopeScaleModel" "now" "[I") (List.mem_of_getElem? (i := 1) rfl)) (fun _ h9 => h9) rfl dX12_turnOf_63 ?_
  refine lv_bipush (v := 48) hx hb dX12_turnOf_66 (by decide) ?_
  refine lv_iload_n hx hb dX12_turnOf_68 rfl (lv_at hl 3 rfl) ?_
  refine lv_iadd hx hb dX12_turnOf_69 ?_
  obtain ⟨h32, hf⟩ := gd_e hf
  refine va_iald hx hb hK.1 hP 1 0 rfl rfl h32 dX12_turnOf_70 ?_
  refine lv_iconst (v := 1) hx hb dX12_turnOf_71 (by decide) ?_
  refine lv_icmp_ne (tgt := 95) hx hb dX12_turnOf_72 (by decide) (fun c16 => ?_) (fun c16 => ?_)
  · replace hf := ifn c16 hf
    refine lv_aload_n hx hb dX12_turnOf_95 rfl (lv_at hl 2 rfl) ?_
    refine lv_bipush (v := 103) hx hb dX12_turnOf_96 (by decide) ?_
    obtain ⟨z17, hz17, hf⟩ := bnd hf
    have hFc9 := vaA_self hD hS hA
    refine cVM (As := [.int 103]) (rest := []) ⟨hx, hb, hml, hown, hts⟩ (mX12_holdsAny l D T h a z15 _ 103 z17 hz17) (cwV 1 hts gX12_turnOf_X12_holdsAny rfl rfl rfl (by decide +kernel) ⟨Nat.le_of_ble_eq_true rfl, Nat.le_of_ble_eq_true rfl⟩) (va_recv hK.1 hP (ci := 12) (q0 := 0) rfl rfl) hP hK rfl hl.1 rfl (Nat.le_of_ble_eq_true rfl) dX12_turnOf_98 ⟨Nat.le_of_ble_eq_true rfl, Nat.le_of_ble_eq_true rfl⟩ hD hFc9 hS (fun H locs hP hD1 _ hS => ?_)
    have hD := hD1.weaken (fun _ _ _ h9 => hFc9 _ h9)
    refine lv_if_ne (tgt := 105) hx hb dX12_turnOf_101 (by decide) (fun c18 => ?_) (fun c18 => ?_)
    · replace hf := ifn c18 hf
      refine lv_aload_n hx hb dX12_turnOf_105 rfl (lv_at hl 2 rfl) ?_
      refine lv_bipush (v := 102) hx hb dX12_turnOf_106 (by decide) ?_
      refine lv_bipush (v := 15) hx hb dX12_turnOf_108 (by decide) ?_
      refine lv_iconst (v := (-1)) hx hb dX12_turnOf_110 (by decide) ?_
      obtain ⟨z19, hz19, hf⟩ := bnd hf
      have hFc9 := vaA_self hD hS hA
      refine cVM (As := [.int 102, .int 15, .int (-1)]) (rest := []) ⟨hx, hb, hml, hown, hts⟩ (mX12_byLaw l D T h a z17.2 _ 102 15 (-1) z19 hz19) (cwV 3 hts gX12_turnOf_X12_byLaw rfl rfl rfl (by decide +kernel) ⟨Nat.le_of_ble_eq_true rfl, Nat.le_of_ble_eq_true rfl⟩) (va_recv hK.1 hP (ci := 12) (q0 := 0) rfl rfl) hP hK rfl hl.1 rfl (Nat.le_of_ble_eq_true rfl) dX12_turnOf_111 ⟨Nat.le_of_ble_eq_true rfl, Nat.le_of_ble_eq_true rfl⟩ hD hFc9 hS (fun H locs hP hD1 _ hS => ?_)
      have hD := hD1.weaken (fun _ _ _ h9 => hFc9 _ h9)
      refine lv_istore (lv' := [(4, .int z19.1), (3, .int z11.1), (2, .int z10.1), (0, .ref h), (1, .int p1)]) hx hb dX12_turnOf_114 hl (by decide) rfl (fun ls hl => ?_)
      refine lv_aload_n hx hb dX12_turnOf_116 rfl (lv_at hl 3 rfl) ?_
      refine lv_bipush (v := 101) hx hb dX12_turnOf_117 (by decide) ?_
      refine lv_sipush (v := 999) hx hb dX12_turnOf_119 (by decide) ?_
      refine lv_iconst (v := 0) hx hb dX12_turnOf_122 (by decide) ?_
      obtain ⟨z20, hz20, hf⟩ := bnd hf
      have hFc9 := vaA_self hD hS hA
      refine cVM (As := [.int 101, .int 999, .int 0]) (rest := []) ⟨hx, hb, hml, hown, hts⟩ (mX12_byLaw l D T h a z19.2 _ 101 999 0 z20 hz20) (cwV 3 hts gX12_turnOf_X12_byLaw rfl rfl rfl (by decide +kernel) ⟨Nat.le_of_ble_eq_true rfl, Nat.le_of_ble_eq_true rfl⟩) (va_recv hK.1 hP (ci := 12) (q0 := 0) rfl rfl) hP hK rfl hl.1 rfl (Nat.le_of_ble_eq_true rfl) dX12_turnOf_123 ⟨Nat.le_of_ble_eq_true rfl, Nat.le_of_ble_eq_true rfl⟩ hD hFc9 hS (fun H locs hP hD1 _ hS => ?_)
      have hD := hD1.weaken (fun _ _ _ h9 => hFc9 _ h9)
      refine lv_istore (lv' := [(5, .int z20.1), (4, .int z19.1), (3, .int z11.1), (2, .int z10.1), (0, .ref h), (1, .int p1)]) hx hb dX12_turnOf_126 hl (by decide) rfl (fun ls hl => ?_)
      refine lv_aload_n hx hb dX12_turnOf_128 rfl (lv_at hl 4 rfl) ?_
      refine lv_bipush (v := 98) hx hb dX12_turnOf_129 (by decide) ?_
      refine lv_bipush (v := 10) hx hb dX12_turnOf_131 (by decide) ?_
      refine lv_iconst (v := 0) hx hb dX12_turnOf_133 (by decide) ?_
      obtain ⟨z21, hz21, hf⟩ := bnd hf
      have hFc9 := vaA_self hD hS hA
      refine cVM (As := [.int 98, .int 10, .int 0]) (rest := []) ⟨hx, hb, hml, hown, hts⟩ (mX12_byLaw l D T h a z20.2 _ 98 10 0 z21 hz21) (cwV 3 hts gX12_turnOf_X12_byLaw rfl rfl rfl (by decide +kernel) ⟨Nat.le_of_ble_eq_true rfl, Nat.le_of_ble_eq_true rfl⟩) (va_recv hK.1 hP (ci := 12) (q0 := 0) rfl rfl) hP hK rfl hl.1 rfl (Nat.le_of_ble_eq_true rfl) dX12_turnOf_134 ⟨Nat.le_of_ble_eq_true rfl, Nat.le_of_ble_eq_true rfl⟩ hD hFc9 hS (fun H locs hP hD1 _ hS => ?_)
      have hD := hD1.weaken (fun _ _ _ h9 => hFc9 _ h9)
      refine lv_istore (lv' := [(6, .int z21.1), (5, .int z20.1), (4, .int z19.1), (3, .int z11.1), (2, .int z10.1), (0, .ref h), (1, .int p1)]) hx hb dX12_turnOf_137 hl (by decide) rfl (fun ls hl => ?_)
      refine lv_iload hx hb dX12_turnOf_139 (lv_at hl 2 rfl) ?_
      refine lv_iconst (v := (-1)) hx hb dX12_turnOf_141 (by decide) ?_
      refine lv_icmp_eq (tgt := 175) hx hb dX12_turnOf_142 (by decide) (fun c22 => ?_) (fun c22 => ?_)
      · replace hf := ifp c22 hf
        exact J175 z21.2 p1 z20.1 z21.1 _ _ _ hf hP hD hS (lv_sub hl [5, 6, 1, 0] rfl)
      replace hf := ifn c22 hf
      refine lv_iload hx hb dX12_turnOf_145 (lv_at hl 2 rfl) ?_
      refine lv_iload_n hx hb dX12_turnOf_147 rfl (lv_at hl 6 rfl) ?_
      refine lv_icmp_eq (tgt := 175) hx hb dX12_turnOf_148 (by decide) (fun c23 => ?_) (fun c23 => ?_)
      · replace hf := ifp c23 hf
        exact J175 z21.2 p1 z20.1 z21.1 _ _ _ hf hP hD hS (lv_sub hl [5, 6, 1, 0] rfl)
      replace hf := ifn c23 hf
      refine lv_aload_n hx hb dX12_turnOf_151 rfl (lv_at hl 5 rfl) ?_
      refine lv_iload hx hb dX12_turnOf_152 (lv_at hl 2 rfl) ?_
      obtain ⟨z24, hz24, hf⟩ := bnd hf
      refine cVR (As := [.int z19.1]) (rest := []) ⟨hx, hb, hml, hown, hts⟩ (mX12_isHere l D T h a z21.2 z19.1 z24 hz24) (cwV 1 hts gX12_turnOf_X12_isHere rfl rfl rfl (by decide +kernel) ⟨Nat.le_of_ble_eq_true rfl, Nat.le_of_ble_eq_true rfl⟩) (va_recv hK.1 hP (ci := 12) (q0 := 0) rfl rfl) hP hK rfl hl.1 rfl (Nat.le_of_ble_eq_true rfl) dX12_turnOf_154 ⟨Nat.le_of_ble_eq_true rfl, Nat.le_of_ble_eq_true rfl⟩ hP hS (fun H locs hP hS => ?_)
      refine lv_if_eq (tgt := 175) hx hb dX12_turnOf_157 (by decide) (fun c25 => ?_) (fun c25 => ?_)
      · replace hf := ifp c25 hf
        exact J175 z21.2 p1 z20.1 z21.1 _ _ _ hf hP hD hS (lv_sub hl [5, 6, 1, 0] rfl)
      replace hf := ifn c25 hf
      refine lv_iload hx hb dX12_turnOf_160 (lv_at hl 1 rfl) ?_
      refine lv_aload_n hx hb dX12_turnOf_162 rfl (lv_at hl 5 rfl) ?_
      refine va_get (D := D) (ci := 12) (v := .ref (a 0)) (C := RX12) (T := TX12) (N := 52) hx hb hts hinX12 hown hK.1 hP 0 rfl rfl 0 (by decide) (hts (.fieldLink RX12 7 "RopeScaleModel" "now" "[I") (List.mem_of_getElem? (i := 1) rfl)) (fun _ h9 => h9) rfl dX12_turnOf_163 ?_
      refine lv_bipush (v := 16) hx hb dX12_turnOf_166 (by decide) ?_
      refine lv_iload hx hb dX12_turnOf_168 (lv_at hl 2 rfl) ?_
      refine lv_iadd hx hb dX12_turnOf_170 ?_
      obtain ⟨h27, hf⟩ := gd_e hf
      refine va_iald hx hb hK.1 hP 1 0 rfl rfl h27 dX12_turnOf_171 ?_
      refine lv_iadd hx hb dX12_turnOf_172 ?_
      obtain ⟨t26, et26, hf⟩ := lett_e hf
      refine lv_eqi et26 ?_
      refine lv_istore (lv' := [(5, .int t26), (6, .int z21.1), (4, .int z19.1), (3, .int z11.1), (2, .int z10.1), (0, .ref h), (1, .int p1)]) hx hb dX12_turnOf_173 hl (by decide) rfl (fun ls hl => ?_)
      exact J175 z21.2 p1 t26 z21.1 _ _ _ hf hP hD hS (lv_sub hl [5, 6, 0, 1] rfl)
    replace hf := ifp c18 hf
    have e9 := Option.some.inj hf
    exact retMv hx hb hr hlocks hP hD hS (congrArg (fun z => (kX12 T h a z : va_W)) e9) dX12_turnOf_104
  replace hf := ifp c16 hf
  refine lv_aload_n hx hb dX12_turnOf_75 rfl (lv_at hl 2 rfl) ?_
  refine lv_bipush (v := 114) hx hb dX12_turnOf_76 (by decide) ?_
  obtain ⟨z28, hz28, hf⟩ := bnd hf
  have hFc9 := vaA_self hD hS hA
  refine cVM (As := [.int 114]) (rest := []) ⟨hx, hb, hml, hown, hts⟩ (mX12_holdsAny l D T h a z15 _ 114 z28 hz28) (cwV 1 hts gX12_turnOf_X12_holdsAny rfl rfl rfl (by decide +kernel) ⟨Nat.le_of_ble_eq_true rfl, Nat.le_of_ble_eq_true rfl⟩) (va_recv hK.1 hP (ci := 12) (q0 := 0) rfl rfl) hP hK rfl hl.1 rfl (Nat.le_of_ble_eq_true rfl) dX12_turnOf_78 ⟨Nat.le_of_ble_eq_true rfl, Nat.le_of_ble_eq_true rfl⟩ hD hFc9 hS (fun H locs hP hD1 _ hS => ?_)
  have hD := hD1.weaken (fun _ _ _ h9 => hFc9 _ h9)
  refine lv_if_eq (tgt := 94) hx hb dX12_turnOf_81 (by decide) (fun c29 => ?_) (fun c29 => ?_)
  · replace hf := ifp c29 hf
    have e9 := Option.some.inj hf
    exact retMv hx hb hr hlocks hP hD hS (congrArg (fun z => (kX12 T h a z : va_W)) e9) dX12_turnOf_94
  replace hf := ifn c29 hf
  refine lv_aload_n hx hb dX12_turnOf_84 rfl (lv_at hl 2 rfl) ?_
  refine va_get (D := D) (ci := 12) (v := .ref (a 0)) (C := RX12) (T := TX12) (N := 52) hx hb hts hinX12 hown hK.1 hP 0 rfl rfl 0 (by decide) (hts (.fieldLink RX12 7 "RopeScaleModel" "now" "[I") (List.mem_of_getElem? (i := 1) rfl)) (fun _ h9 => h9) rfl dX12_turnOf_85 ?_
  refine lv_bipush (v := 48) hx hb dX12_turnOf_88 (by decide) ?_
  refine lv_iload_n hx hb dX12_turnOf_90 rfl (lv_at hl 3 rfl) ?_
  refine lv_iadd hx hb dX12_turnOf_91 ?_
  refine lv_iconst (v := 0) hx hb dX12_turnOf_92 (by decide) ?_
  obtain ⟨h31, hf⟩ := gd_e hf
  obtain ⟨u30, eu30, hf⟩ := lett_e hf
  refine va_iast hx hb hK.1 hP hD hS 1 0 rfl rfl h31 dX12_turnOf_93 (fun H locs hP hD hS => ?_)
  have hP : va_P D vwCl (kX12 T h a u30) H := by rw [eu30]; exact hP
  have hD : va_D (va_A (kX12 T h a u) s.heap.size) (kX12 T h a u30) := by rw [eu30]; exact hD
  have e9 := Option.some.inj hf
  exact retMv hx hb hr hlocks hP hD hS (congrArg (fun z => (kX12 T h a z : va_W)) e9) dX12_turnOf_94
def bX12_hoursGo_L42  (lp22 : St → Int32 → Int32 → Option (St)) (lp42 : St → Int32 → Int32 → Int32 → Option (St)) (v : St) (x1 : Int32) (x2 : Int32) (x3 : Int32) : Option (St) := if 16 ≤ x3 then gd 96 98 <| gd 96 98 <| lett (st v 0 (ix 96) ((v 0 (ix 96)) + 1)) fun u2 => lett (x2 + 1) fun t3 => lp22 u2 x1 t3 else (fX12_isTold v x3).bind fun z6 => if z6 = 0 then lett (x3 + 1) fun t8 => lp42 v x1 x2 t8 else (fX12_turnOf v x3).bind fun z9 => lett (x3 + 1) fun t10 => lp42 z9 x1 x2 t10
def fX12_hoursGo_L42  (lp22 : St → Int32 → Int32 → Option (St)) : Nat → St → Int32 → Int32 → Int32 → Option (St)
  | 0, _, _, _, _ => none
  | n + 1, v, x1, x2, x3 => bX12_hoursGo_L42 lp22 (fX12_hoursGo_L42 lp22 n) v x1 x2 x3
def bX12_hoursGo_L22   (lp22 : St → Int32 → Int32 → Option (St)) (v : St) (x1 : Int32) (x2 : Int32) : Option (St) := if x1 ≤ x2 then some v else gd 96 98 <| if 9999 ≤ (v 0 (ix 96)) then some v else fX12_hoursGo_L42 lp22 FU v x1 x2 0
def fX12_hoursGo_L22   : Nat → St → Int32 → Int32 → Option (St)
  | 0, _, _, _ => none
  | n + 1, v, x1, x2 => bX12_hoursGo_L22  (fX12_hoursGo_L22  n) v x1 x2
def fX12_hoursGo  (u : St) (p1 : Int32) : Option (St) := lett (st u 39 0 0) fun u14 => lett (st u14 40 0 0) fun u15 => lett (st u15 41 0 0) fun u16 => lett (st u16 42 0 0) fun u17 => fX12_hoursGo_L22 FU u17 p1 0
set_option maxHeartbeats 4000000 in
set_option maxRecDepth 100000 in
theorem mX12_hoursGo (l : Launch) (D : va_G) (T : Ty3) (h : Nat) (a : Nat → Nat) (u : St) (sz : Nat) (p1 : Int32) (res : St) (hf : fX12_hoursGo u p1 = some res) : Met l yX12_hoursGo wsX12_hoursGo ({ frames := 7, cells := 0, slots := 0, locals := 153 }) (PcM D T (kX12 T h a u) sz [.ref h, .int p1]) (QMv D (kX12 T h a u) sz (kX12 T h a res)) 0 0 (va_A (kX12 T h a u) sz) := by
  refine Met.ofW (cc := cX12_hoursGo) (maxL := 4) (ret := none) (by decide) rfl ?_
  intro p e s m args below meth c s₁ B hml hv
  obtain ⟨rfl, hsz, hP, hK, hD0⟩ := hv
  have hx := B.exec
  have hb := B.bytes
  have hr := B.returns
  have hts := atoms_spec (ws := wsX12_hoursGo) B.pre
  have hown : s.vm.findClass RX12 = some m.cls := findClass_of_methodNamed B.named
  have hlocks := B.notSynchronized
  subst hsz
  have hD := hD0.self (sz := s.heap.size)
  have hA : ∀ q : Nat, s.heap.size ≤ q → va_A (kX12 T h a u) s.heap.size q := fun q h => Or.inr h
  have hS : va_S (va_A (kX12 T h a u) s.heap.size) s.heap s.heap [] := va_S.rf
  have hinX12 : ∀ w ∈ u_ws RX12 TX12 52, w ∈ wsX12_hoursGo := fun w h => List.mem_cons_of_mem _ (List.mem_append_right _ h)
  have hl := lv_entry ([.ref h, .int p1]) (n := 4) (Nat.le_of_ble_eq_true rfl)
  rw [lg_entry_eq]
  generalize (lg_sl ([.ref h, .int p1]) ++ List.replicate (4 - (lg_sl ([.ref h, .int p1])).length) Slot.unset).toArray = ls at hl ⊢
  have hl : lv_has ls 4 [(0, .ref h), (1, .int p1)] := hl
  have L22 : ∀ (n22 : Nat), ∀ (v : St) (x1 : Int32) (x2 : Int32) (H : Heap) (locs : List Loc) (ls : Array Slot), fX12_hoursGo_L22  n22 v x1 x2 = some res → va_P D vwCl (kX12 T h a v) H → va_D (va_A (kX12 T h a u) s.heap.size) (kX12 T h a v) → va_S (va_A (kX12 T h a u) s.heap.size) s.heap H locs → lv_has ls 4 [(0, .ref h), (1, .int x1), (2, .int x2)] → W p l e (headSpec wsX12_hoursGo ({ frames := 7, cells := 0, slots := 0, locals := 153 })).room s m ([.ref h, .int p1] : List Value).toArray below meth c H locs 0 0 (MQ below (QMv D (kX12 T h a u) s.heap.size (kX12 T h a res)) ([.ref h, .int p1] : List Value).toArray s 0 0 (va_A (kX12 T h a u) s.heap.size)) (F0 m 22 ls []) := by
    intro n22
    induction n22 with
    | zero => intro v x1 x2 H locs ls hf; exact nns hf
    | succ n22 ih22 =>
      have L42 : ∀ (n42 : Nat), ∀ (v : St) (x1 : Int32) (x2 : Int32) (x3 : Int32) (H : Heap) (locs : List Loc) (ls : Array Slot), fX12_hoursGo_L42 (fX12_hoursGo_L22  n22) n42 v x1 x2 x3 = some res → va_P D vwCl (kX12 T h a v) H → va_D (va_A (kX12 T h a u) s.heap.size) (kX12 T h a v) → va_S (va_A (kX12 T h a u) s.heap.size) s.heap H locs → lv_has ls 4 [(0, .ref h), (1, .int x1), (2, .int x2), (3, .int x3)] → W p l e (headSpec wsX12_hoursGo ({ frames := 7, cells := 0, slots := 0, locals := 153 })).room s m ([.ref h, .int p1] : List Value).toArray below meth c H locs 0 0 (MQ below (QMv D (kX12 T h a u) s.heap.size (kX12 T h a res)) ([.ref h, .int p1] : List Value).toArray s 0 0 (va_A (kX12 T h a u) s.heap.size)) (F0 m 42 ls []) := by
        intro n42
        induction n42 with
        | zero => intro v x1 x2 x3 H locs ls hf; exact nns hf
        | succ n42 ih42 =>
          intro v x1 x2 x3 H locs ls hf hP hD hS hl
          replace hf : bX12_hoursGo_L42 (fX12_hoursGo_L22  n22) (fX12_hoursGo_L42 (fX12_hoursGo_L22  n22) n42) v x1 x2 x3 = some res := hf
          unfold bX12_hoursGo_L42 at hf
          refine lv_iload_n hx hb dX12_hoursGo_42 rfl (lv_at hl 3 rfl) ?_
          refine lv_bipush (v := 16) hx hb dX12_hoursGo_43 (by decide) ?_
          refine lv_icmp_ge (tgt := 67) hx hb dX12_hoursGo_45 (by decide) (fun c1 => ?_) (fun c1 => ?_)
          · replace hf := ifp c1 hf
            refine lv_aload_n hx hb dX12_hoursGo_67 rfl (lv_at hl 0 rfl) ?_
            refine va_get (D := D) (ci := 12) (v := .ref (a 0)) (C := RX12) (T := TX12) (N := 52) hx hb hts hinX12 hown hK.1 hP 0 rfl rfl 0 (by decide) (hts (.fieldLink RX12 7 "RopeScaleModel" "now" "[I") (List.mem_of_getElem? (i := 5) rfl)) (fun _ h9 => h9) rfl dX12_hoursGo_68 ?_
            refine lv_bipush (v := 96) hx hb dX12_hoursGo_71 (by decide) ?_
            refine lv_aload_n hx hb dX12_hoursGo_73 rfl (lv_at hl 0 rfl) ?_
            refine va_get (D := D) (ci := 12) (v := .ref (a 0)) (C := RX12) (T := TX12) (N := 52) hx hb hts hinX12 hown hK.1 hP 0 rfl rfl 0 (by decide) (hts (.fieldLink RX12 7 "RopeScaleModel" "now" "[I") (List.mem_of_getElem? (i := 5) rfl)) (fun _ h9 => h9) rfl dX12_hoursGo_74 ?_
            refine lv_bipush (v := 96) hx hb dX12_hoursGo_77 (by decide) ?_
            obtain ⟨h5, hf⟩ := gd_e hf
            refine va_iald hx hb hK.1 hP 1 0 rfl rfl h5 dX12_hoursGo_79 ?_
            refine lv_iconst (v := 1) hx hb dX12_hoursGo_80 (by decide) ?_
            refine lv_iadd hx hb dX12_hoursGo_81 ?_
            obtain ⟨h4, hf⟩ := gd_e hf
            obtain ⟨u2, eu2, hf⟩ := lett_e hf
            refine va_iast hx hb hK.1 hP hD hS 1 0 rfl rfl h4 dX12_hoursGo_82 (fun H locs hP hD hS => ?_)
            have hP : va_P D vwCl (kX12 T h a u2) H := by rw [eu2]; exact hP
            have hD : va_D (va_A (kX12 T h a u) s.heap.size) (kX12 T h a u2) := by rw [eu2]; exact hD
            obtain ⟨t3, et3, hf⟩ := lett_e hf
            refine lv_iinc (v := t3) (lv' := [(2, .int t3), (0, .ref h), (1, .int x1), (3, .int x3)]) hx hb dX12_hoursGo_83 hl (k := 2) rfl (by rw [et3]; rfl) (by decide) rfl (fun ls hl => ?_)
            refine lv_goto (tgt := 22) hx hb dX12_hoursGo_86 (by decide) ?_
            exact ih22 u2 x1 t3 _ _ _ hf hP hD hS (lv_sub hl [1, 2, 0] rfl)
          replace hf := ifn c1 hf
          refine lv_aload_n hx hb dX12_hoursGo_48 rfl (lv_at hl 0 rfl) ?_
          refine lv_iload_n hx hb dX12_hoursGo_49 rfl (lv_at hl 3 rfl) ?_
          obtain ⟨z6, hz6, hf⟩ := bnd hf
          refine cVR (As := [.int x3]) (rest := []) ⟨hx, hb, hml, hown, hts⟩ (mX12_isTold l D T h a v x3 z6 hz6) (cwV 1 hts gX12_hoursGo_X12_isTold rfl rfl rfl (by decide +kernel) ⟨Nat.le_of_ble_eq_true rfl, Nat.le_of_ble_eq_true rfl⟩) (va_recv hK.1 hP (ci := 12) (q0 := 0) rfl rfl) hP hK rfl hl.1 rfl (Nat.le_of_ble_eq_true rfl) dX12_hoursGo_50 ⟨Nat.le_of_ble_eq_true rfl, Nat.le_of_ble_eq_true rfl⟩ hP hS (fun H locs hP hS => ?_)
          refine lv_if_eq (tgt := 61) hx hb dX12_hoursGo_53 (by decide) (fun c7 => ?_) (fun c7 => ?_)
          · replace hf := ifp c7 hf
            obtain ⟨t8, et8, hf⟩ := lett_e hf
            refine lv_iinc (v := t8) (lv' := [(3, .int t8), (0, .ref h), (1, .int x1), (2, .int x2)]) hx hb dX12_hoursGo_61 hl (k := 3) rfl (by rw [et8]; rfl) (by decide) rfl (fun ls hl => ?_)
            refine lv_goto (tgt := 42) hx hb dX12_hoursGo_64 (by decide) ?_
            exact ih42 v x1 x2 t8 _ _ _ hf hP hD hS (lv_sub hl [1, 2, 3, 0] rfl)
          replace hf := ifn c7 hf
          refine lv_aload_n hx hb dX12_hoursGo_56 rfl (lv_at hl 0 rfl) ?_
          refine lv_iload_n hx hb dX12_hoursGo_57 rfl (lv_at hl 3 rfl) ?_
          obtain ⟨z9, hz9, hf⟩ := bnd hf
          have hFc9 := vaA_self hD hS hA
          refine cVMv (As := [.int x3]) (rest := []) ⟨hx, hb, hml, hown, hts⟩ (mX12_turnOf l D T h a v _ x3 z9 hz9) (cwV 1 hts gX12_hoursGo_X12_turnOf rfl rfl rfl (by decide +kernel) ⟨Nat.le_of_ble_eq_true rfl, Nat.le_of_ble_eq_true rfl⟩) (va_recv hK.1 hP (ci := 12) (q0 := 0) rfl rfl) hP hK rfl hl.1 rfl (Nat.le_of_ble_eq_true rfl) dX12_hoursGo_58 ⟨Nat.le_of_ble_eq_true rfl, Nat.le_of_ble_eq_true rfl⟩ hD hFc9 hS (fun H locs hP hD1 _ hS => ?_)
          have hD := hD1.weaken (fun _ _ _ h9 => hFc9 _ h9)
          obtain ⟨t10, et10, hf⟩ := lett_e hf
          refine lv_iinc (v := t10) (lv' := [(3, .int t10), (0, .ref h), (1, .int x1), (2, .int x2)]) hx hb dX12_hoursGo_61 hl (k := 3) rfl (by rw [et10]; rfl) (by decide) rfl (fun ls hl => ?_)
          refine lv_goto (tgt := 42) hx hb dX12_hoursGo_64 (by decide) ?_
          exact ih42 z9 x1 x2 t10 _ _ _ hf hP hD hS (lv_sub hl [1, 2, 3, 0] rfl)
      intro v x1 x2 H locs ls hf hP hD hS hl
      replace hf : bX12_hoursGo_L22  (fX12_hoursGo_L22  n22) v x1 x2 = some res := hf
      unfold bX12_hoursGo_L22 at hf
      refine lv_iload_n hx hb dX12_hoursGo_22 rfl (lv_at hl 2 rfl) ?_
      refine lv_iload_n hx hb dX12_hoursGo_23 rfl (lv_at hl 1 rfl) ?_
      refine lv_icmp_ge (tgt := 89) hx hb dX12_hoursGo_24 (by decide) (fun c11 => ?_) (fun c11 => ?_)
      · replace hf := ifp c11 hf
        have e9 := Option.some.inj hf
        exact retMv hx hb hr hlocks hP hD hS (congrArg (fun z => (kX12 T h a z : va_W)) e9) dX12_hoursGo_89
      replace hf := ifn c11 hf
      refine lv_aload_n hx hb dX12_hoursGo_27 rfl (lv_at hl 0 rfl) ?_
      refine va_get (D := D) (ci := 12) (v := .ref (a 0)) (C := RX12) (T := TX12) (N := 52) hx hb hts hinX12 hown hK.1 hP 0 rfl rfl 0 (by decide) (hts (.fieldLink RX12 7 "RopeScaleModel" "now" "[I") (List.mem_of_getElem? (i := 5) rfl)) (fun _ h9 => h9) rfl dX12_hoursGo_28 ?_
      refine lv_bipush (v := 96) hx hb dX12_hoursGo_31 (by decide) ?_
      obtain ⟨h13, hf⟩ := gd_e hf
      refine va_iald hx hb hK.1 hP 1 0 rfl rfl h13 dX12_hoursGo_33 ?_
      refine lv_sipush (v := 9999) hx hb dX12_hoursGo_34 (by decide) ?_
      refine lv_icmp_ge (tgt := 89) hx hb dX12_hoursGo_37 (by decide) (fun c12 => ?_) (fun c12 => ?_)
      · replace hf := ifp c12 hf
        have e9 := Option.some.inj hf
        exact retMv hx hb hr hlocks hP hD hS (congrArg (fun z => (kX12 T h a z : va_W)) e9) dX12_hoursGo_89
      replace hf := ifn c12 hf
      refine lv_iconst (v := 0) hx hb dX12_hoursGo_40 (by decide) ?_
      refine lv_istore_n (lv' := [(3, .int 0), (0, .ref h), (1, .int x1), (2, .int x2)]) hx hb dX12_hoursGo_41 rfl hl (by decide) rfl (fun ls hl => ?_)
      exact L42 FU v x1 x2 0 _ _ _ hf hP hD hS (lv_sub hl [1, 2, 3, 0] rfl)
  unfold fX12_hoursGo at hf
  refine lv_aload_n hx hb dX12_hoursGo_0 rfl (lv_at hl 0 rfl) ?_
  refine lv_iconst (v := 0) hx hb dX12_hoursGo_1 (by decide) ?_
  obtain ⟨u14, eu14, hf⟩ := lett_e hf
  refine va_put (D := D) (ci := 12) (v := .int 0) (ty := .int) (C := RX12) (T := TX12) (N := 52) hx hb hts hinX12 tyX12 tyX12_ok nmX12 hown hK.1 hP hD hS 0 rfl rfl 39 (by decide) (hts (.fieldLink RX12 283 "RopeScaleModel" "gotOver" "I") (List.mem_of_getElem? (i := 1) rfl)) (fun _ h9 => h9) rfl (tyX12_ok 39 (by decide)) rfl rfl (Nat.le_of_ble_eq_true rfl) dX12_hoursGo_2 (fun H locs hP hD hS => ?_)
  have hP : va_P D vwCl (kX12 T h a u14) H := by rw [eu14]; exact hP
  have hD : va_D (va_A (kX12 T h a u) s.heap.size) (kX12 T h a u14) := by rw [eu14]; exact hD
  refine lv_aload_n hx hb dX12_hoursGo_5 rfl (lv_at hl 0 rfl) ?_
  refine lv_iconst (v := 0) hx hb dX12_hoursGo_6 (by decide) ?_
  obtain ⟨u15, eu15, hf⟩ := lett_e hf
  refine va_put (D := D) (ci := 12) (v := .int 0) (ty := .int) (C := RX12) (T := TX12) (N := 52) hx hb hts hinX12 tyX12 tyX12_ok nmX12 hown hK.1 hP hD hS 0 rfl rfl 40 (by decide) (hts (.fieldLink RX12 277 "RopeScaleModel" "bathed" "I") (List.mem_of_getElem? (i := 2) rfl)) (fun _ h9 => h9) rfl (tyX12_ok 40 (by decide)) rfl rfl (Nat.le_of_ble_eq_true rfl) dX12_hoursGo_7 (fun H locs hP hD hS => ?_)
  have hP : va_P D vwCl (kX12 T h a u15) H := by rw [eu15]; exact hP
  have hD : va_D (va_A (kX12 T h a u) s.heap.size) (kX12 T h a u15) := by rw [eu15]; exact hD
  refine lv_aload_n hx hb dX12_hoursGo_10 rfl (lv_at hl 0 rfl) ?_
  refine lv_iconst (v := 0) hx hb dX12_hoursGo_11 (by decide) ?_
  obtain ⟨u16, eu16, hf⟩ := lett_e hf
  refine va_put (D := D) (ci := 12) (v := .int 0) (ty := .int) (C := RX12) (T := TX12) (N := 52) hx hb hts hinX12 tyX12 tyX12_ok nmX12 hown hK.1 hP hD hS 0 rfl rfl 41 (by decide) (hts (.fieldLink RX12 280 "RopeScaleModel" "flung" "I") (List.mem_of_getElem? (i := 3) rfl)) (fun _ h9 => h9) rfl (tyX12_ok 41 (by decide)) rfl rfl (Nat.le_of_ble_eq_true rfl) dX12_hoursGo_12 (fun H locs hP hD hS => ?_)
  have hP : va_P D vwCl (kX12 T h a u16) H := by rw [eu16]; exact hP
  have hD : va_D (va_A (kX12 T h a u) s.heap.size) (kX12 T h a u16) := by rw [eu16]; exact hD
  refine lv_aload_n hx hb dX12_hoursGo_15 rfl (lv_at hl 0 rfl) ?_
  refine lv_iconst (v := 0) hx hb dX12_hoursGo_16 (by decide) ?_
  obtain ⟨u17, eu17, hf⟩ := lett_e hf
  refine va_put (D := D) (ci := 12) (v := .int 0) (ty := .int) (C := RX12) (T := TX12) (N := 52) hx hb hts hinX12 tyX12 tyX12_ok nmX12 hown hK.1 hP hD hS 0 rfl rfl 42 (by decide) (hts (.fieldLink RX12 296 "RopeScaleModel" "toes" "I") (List.mem_of_getElem? (i := 4) rfl)) (fun _ h9 => h9) rfl (tyX12_ok 42 (by decide)) rfl rfl (Nat.le_of_ble_eq_true rfl) dX12_hoursGo_17 (fun H locs hP hD hS => ?_)
  have hP : va_P D vwCl (kX12 T h a u17) H := by rw [eu17]; exact hP
  have hD : va_D (va_A (kX12 T h a u) s.heap.size) (kX12 T h a u17) := by rw [eu17]; exact hD
  refine lv_iconst (v := 0) hx hb dX12_hoursGo_20 (by decide) ?_
  refine lv_istore_n (lv' := [(2, .int 0), (0, .ref h), (1, .int p1)]) hx hb dX12_hoursGo_21 rfl hl (by decide) rfl (fun ls hl => ?_)
  exact L22 FU u17 p1 0 _ _ _ hf hP hD hS (lv_sub hl [1, 2, 0] rfl)
def fX12_hours  (u : St) (p1 : Int32) : Option (Int32 × St) := lett (fX12_in p1 1 240) fun z1 => if z1 = 0 then some ((-1), u) else (fX12_hoursGo u p1).bind fun z3 => some (z3 39 0, z3)
set_option maxHeartbeats 4000000 in
set_option maxRecDepth 100000 in
theorem mX12_hours (l : Launch) (D : va_G) (T : Ty3) (h : Nat) (a : Nat → Nat) (u : St) (sz : Nat) (p1 : Int32) (res : Int32 × St) (hf : fX12_hours u p1 = some res) : Met l yX12_hours wsX12_hours ({ frames := 8, cells := 0, slots := 0, locals := 176 }) (PcM D T (kX12 T h a u) sz [.ref h, .int p1]) (QM D (kX12 T h a u) sz res.1 (kX12 T h a res.2)) 0 0 (va_A (kX12 T h a u) sz) := by
  refine Met.ofW (cc := cX12_hours) (maxL := 2) (ret := (some .int)) (by decide) rfl ?_
  intro p e s m args below meth c s₁ B hml hv
  obtain ⟨rfl, hsz, hP, hK, hD0⟩ := hv
  have hx := B.exec
  have hb := B.bytes
  have hr := B.returns
  have hts := atoms_spec (ws := wsX12_hours) B.pre
  have hown : s.vm.findClass RX12 = some m.cls := findClass_of_methodNamed B.named
  have hlocks := B.notSynchronized
  subst hsz
  have hD := hD0.self (sz := s.heap.size)
  have hA : ∀ q : Nat, s.heap.size ≤ q → va_A (kX12 T h a u) s.heap.size q := fun q h => Or.inr h
  have hS : va_S (va_A (kX12 T h a u) s.heap.size) s.heap s.heap [] := va_S.rf
  have hinX12 : ∀ w ∈ u_ws RX12 TX12 52, w ∈ wsX12_hours := fun w h => List.mem_cons_of_mem _ (List.mem_append_right _ h)
  have hl := lv_entry ([.ref h, .int p1]) (n := 2) (Nat.le_of_ble_eq_true rfl)
  rw [lg_entry_eq]
  generalize (lg_sl ([.ref h, .int p1]) ++ List.replicate (2 - (lg_sl ([.ref h, .int p1])).length) Slot.unset).toArray = ls at hl ⊢
  have hl : lv_has ls 2 [(0, .ref h), (1, .int p1)] := hl
  unfold fX12_hours at hf
  refine lv_iload_n hx hb dX12_hours_0 rfl (lv_at hl 1 rfl) ?_
  refine lv_iconst (v := 1) hx hb dX12_hours_1 (by decide) ?_
  refine lv_sipush (v := 240) hx hb dX12_hours_2 (by decide) ?_
  obtain ⟨z1, hz1, hf⟩ := lett_e hf
  refine cSR (As := [.int p1, .int 1, .int 240]) (rest := []) ⟨hx, hb, hml, hown, hts⟩ (mX12_in l D T p1 1 240 z1 hz1.symm) (va_cwS 3 hts gX12_hours_X12_in rfl rfl rfl (by decide +kernel) ⟨Nat.le_of_ble_eq_true rfl, Nat.le_of_ble_eq_true rfl⟩) P0 hK rfl hl.1 rfl (Nat.le_of_ble_eq_true rfl) dX12_hours_5 ⟨Nat.le_of_ble_eq_true rfl, Nat.le_of_ble_eq_true rfl⟩ hP hS (fun H locs hP hS => ?_)
  refine lv_if_ne (tgt := 13) hx hb dX12_hours_8 (by decide) (fun c2 => ?_) (fun c2 => ?_)
  · replace hf := ifn c2 hf
    refine lv_aload_n hx hb dX12_hours_13 rfl (lv_at hl 0 rfl) ?_
    refine lv_iload_n hx hb dX12_hours_14 rfl (lv_at hl 1 rfl) ?_
    obtain ⟨z3, hz3, hf⟩ := bnd hf
    have hFc9 := vaA_self hD hS hA
    refine cVMv (As := [.int p1]) (rest := []) ⟨hx, hb, hml, hown, hts⟩ (mX12_hoursGo l D T h a u _ p1 z3 hz3) (cwV 1 hts gX12_hours_X12_hoursGo rfl rfl rfl (by decide +kernel) ⟨Nat.le_of_ble_eq_true rfl, Nat.le_of_ble_eq_true rfl⟩) (va_recv hK.1 hP (ci := 12) (q0 := 0) rfl rfl) hP hK rfl hl.1 rfl (Nat.le_of_ble_eq_true rfl) dX12_hours_15 ⟨Nat.le_of_ble_eq_true rfl, Nat.le_of_ble_eq_true rfl⟩ hD hFc9 hS (fun H locs hP hD1 _ hS => ?_)
    have hD := hD1.weaken (fun _ _ _ h9 => hFc9 _ h9)
    refine lv_aload_n hx hb dX12_hours_18 rfl (lv_at hl 0 rfl) ?_
    refine va_get (D := D) (ci := 12) (v := .int (z3 39 0)) (C := RX12) (T := TX12) (N := 52) hx hb hts hinX12 hown hK.1 hP 0 rfl rfl 39 (by decide) (hts (.fieldLink RX12 283 "RopeScaleModel" "gotOver" "I") (List.mem_of_getElem? (i := 1) rfl)) (fun _ h9 => h9) rfl dX12_hours_19 ?_
    have e9 := Option.some.inj hf
    exact retM hx hb hr hlocks hP hD hS (congrArg (fun z => z.1) e9) (congrArg (fun z => (kX12 T h a z.2 : va_W)) e9) dX12_hours_22
  replace hf := ifp c2 hf
  refine lv_iconst (v := (-1)) hx hb dX12_hours_11 (by decide) ?_
  have e9 := Option.some.inj hf
  exact retM hx hb hr hlocks hP hD hS (congrArg (fun z => z.1) e9) (congrArg (fun z => (kX12 T h a z.2 : va_W)) e9) dX12_hours_12
def fX12_tried_J172   (v : St) (x3 : Int32) : Option (Int32 × St) := (fX12_copies (v 1) (v 0)).bind fun z1 => lett (sa v 0 z1) fun u2 => some (x3, u2)
def fX12_tried_J171   (v : St) (y0 : Int32) : Option (Int32 × St) := fX12_tried_J172 v y0
def fX12_tried_J45   (v : St) (x1 : Int32) (x2 : Int32) : Option (Int32 × St) := (fX12_copies (v 0) (v 1)).bind fun z3 => lett (sa v 1 z3) fun u4 => (fX12_hoursGo u4 x1).bind fun z5 => if x2 = 0 then lett (z5 39 0) fun t7 => fX12_tried_J172 z5 t7 else if x2 = 1 then lett (z5 40 0) fun t9 => fX12_tried_J172 z5 t9 else if x2 = 2 then lett (z5 41 0) fun t11 => fX12_tried_J172 z5 t11 else if x2 = 3 then (fX12_overMany z5).bind fun z13 => fX12_tried_J172 z5 z13 else if x2 = 4 then lett (z5 42 0) fun t15 => fX12_tried_J172 z5 t15 else if 200 ≤ x2 then gd ((80 + x2) - 200) 98 <| fX12_tried_J171 z5 (z5 0 (ix ((80 + x2) - 200))) else gd ((16 + x2) - 100) 98 <| fX12_tried_J171 z5 (z5 0 (ix ((16 + x2) - 100)))
def fX12_tried  (u : St) (p1 : Int32) (p2 : Int32) : Option (Int32 × St) := lett (fX12_in p1 1 240) fun z19 => if z19 = 0 then some ((-1), u) else lett (fX12_in p2 0 4) fun z21 => if z21 = 0 then (fX12_isTold u (p2 - 100)).bind fun z23 => if z23 = 0 then (fX12_isTold u (p2 - 200)).bind fun z25 => if z25 = 0 then some ((-1), u) else fX12_tried_J45 u p1 p2 else fX12_tried_J45 u p1 p2 else fX12_tried_J45 u p1 p2
set_option maxHeartbeats 4000000 in
set_option maxRecDepth 100000 in
theorem mX12_tried (l : Launch) (D : va_G) (T : Ty3) (h : Nat) (a : Nat → Nat) (u : St) (sz : Nat) (p1 : Int32) (p2 : Int32) (res : Int32 × St) (hf : fX12_tried u p1 p2 = some res) : Met l yX12_tried wsX12_tried ({ frames := 8, cells := 0, slots := 0, locals := 176 }) (PcM D T (kX12 T h a u) sz [.ref h, .int p1, .int p2]) (QM D (kX12 T h a u) sz res.1 (kX12 T h a res.2)) 0 0 (va_A (kX12 T h a u) sz) := by
  refine Met.ofW (cc := cX12_tried) (maxL := 4) (ret := (some .int)) (by decide) rfl ?_
  intro p e s m args below meth c s₁ B hml hv
  obtain ⟨rfl, hsz, hP, hK, hD0⟩ := hv
  have hx := B.exec
  have hb := B.bytes
  have hr := B.returns
  have hts := atoms_spec (ws := wsX12_tried) B.pre
  have hown : s.vm.findClass RX12 = some m.cls := findClass_of_methodNamed B.named
  have hlocks := B.notSynchronized
  subst hsz
  have hD := hD0.self (sz := s.heap.size)
  have hA : ∀ q : Nat, s.heap.size ≤ q → va_A (kX12 T h a u) s.heap.size q := fun q h => Or.inr h
  have hS : va_S (va_A (kX12 T h a u) s.heap.size) s.heap s.heap [] := va_S.rf
  have hinX12 : ∀ w ∈ u_ws RX12 TX12 52, w ∈ wsX12_tried := fun w h => List.mem_cons_of_mem _ (List.mem_append_right _ h)
  have hl := lv_entry ([.ref h, .int p1, .int p2]) (n := 4) (Nat.le_of_ble_eq_true rfl)
  rw [lg_entry_eq]
  generalize (lg_sl ([.ref h, .int p1, .int p2]) ++ List.replicate (4 - (lg_sl ([.ref h, .int p1, .int p2])).length) Slot.unset).toArray = ls at hl ⊢
  have hl : lv_has ls 4 [(0, .ref h), (1, .int p1), (2, .int p2)] := hl
  have J172 : ∀ (v : St) (x3 : Int32) (H : Heap) (locs : List Loc) (ls : Array Slot), fX12_tried_J172  v x3 = some res → va_P D vwCl (kX12 T h a v) H → va_D (va_A (kX12 T h a u) s.heap.size) (kX12 T h a v) → va_S (va_A (kX12 T h a u) s.heap.size) s.heap H locs → lv_has ls 4 [(0, .ref h), (3, .int x3)] → W p l e (headSpec wsX12_tried ({ frames := 8, cells := 0, slots := 0, locals := 176 })).room s m ([.ref h, .int p1, .int p2] : List Value).toArray below meth c H locs 0 0 (MQ below (QM D (kX12 T h a u) s.heap.size res.1 (kX12 T h a res.2)) ([.ref h, .int p1, .int p2] : List Value).toArray s 0 0 (va_A (kX12 T h a u) s.heap.size)) (F0 m 172 ls []) := by
    intro v x3 H locs ls hf hP hD hS hl
    unfold fX12_tried_J172 at hf
    refine lv_aload_n hx hb dX12_tried_172 rfl (lv_at hl 0 rfl) ?_
    refine va_get (D := D) (ci := 12) (v := .ref (a 1)) (C := RX12) (T := TX12) (N := 52) hx hb hts hinX12 hown hK.1 hP 0 rfl rfl 1 (by decide) (hts (.fieldLink RX12 13 "RopeScaleModel" "aside" "[I") (List.mem_of_getElem? (i := 2) rfl)) (fun _ h9 => h9) rfl dX12_tried_173 ?_
    refine lv_aload_n hx hb dX12_tried_176 rfl (lv_at hl 0 rfl) ?_
    refine va_get (D := D) (ci := 12) (v := .ref (a 0)) (C := RX12) (T := TX12) (N := 52) hx hb hts hinX12 hown hK.1 hP 0 rfl rfl 0 (by decide) (hts (.fieldLink RX12 7 "RopeScaleModel" "now" "[I") (List.mem_of_getElem? (i := 1) rfl)) (fun _ h9 => h9) rfl dX12_tried_177 ?_
    obtain ⟨z1, hz1, hf⟩ := bnd hf
    have hPc := hP.sub (ws' := [(a 1, .inl (T.1, 98, .inl (v 1)))] ++ [(a 0, .inl (T.1, 98, .inl (v 0)))]) [2, 1] rfl
    have hDc := hD.sub (ws' := [(a 1, .inl (T.1, 98, .inl (v 1)))] ++ [(a 0, .inl (T.1, 98, .inl (v 0)))]) [2, 1] (by decide) rfl
    have hFc9 := va_free (wc := [(a 1, .inl (T.1, 98, .inl (v 1)))] ++ [(a 0, .inl (T.1, 98, .inl (v 0)))]) hD hS hA [2, 1] rfl
    refine cSMv (As := [.ref (a 1), .ref (a 0)]) (rest := []) ⟨hx, hb, hml, hown, hts⟩ (mX12_copies l D T (a 1) (v 1) (a 0) (v 0) _ z1 hz1) (va_cwS 2 hts gX12_tried_X12_copies rfl rfl rfl (by decide +kernel) ⟨Nat.le_of_ble_eq_true rfl, Nat.le_of_ble_eq_true rfl⟩) hPc hK rfl hl.1 rfl (Nat.le_of_ble_eq_true rfl) dX12_tried_180 ⟨Nat.le_of_ble_eq_true rfl, Nat.le_of_ble_eq_true rfl⟩ hDc hFc9 hS (fun H9 locs hP1 hD1 hk1 hS => ?_)
    obtain ⟨hP, hD⟩ := putAll_P (w1 := [(a 1, .inl (T.1, 98, .inl (v 1)))] ++ [(a 0, .inl (T.1, 98, .inl z1))]) hP hD [2, 1] rfl (by decide) hk1 hP1 rfl
    generalize H9 = H at hP hS ⊢
    obtain ⟨u2, eu2, hf⟩ := lett_e hf
    have hP : va_P D vwCl (kX12 T h a u2) H := by rw [eu2]; exact hP
    have hD : va_D (va_A (kX12 T h a u) s.heap.size) (kX12 T h a u2) := by rw [eu2]; exact hD
    refine lv_iload_n hx hb dX12_tried_183 rfl (lv_at hl 1 rfl) ?_
    have e9 := Option.some.inj hf
    exact retM hx hb hr hlocks hP hD hS (congrArg (fun z => z.1) e9) (congrArg (fun z => (kX12 T h a z.2 : va_W)) e9) dX12_tried_184
  have J171 : ∀ (v : St) (y0 : Int32) (H : Heap) (locs : List Loc) (ls : Array Slot), fX12_tried_J171  v y0 = some res → va_P D vwCl (kX12 T h a v) H → va_D (va_A (kX12 T h a u) s.heap.size) (kX12 T h a v) → va_S (va_A (kX12 T h a u) s.heap.size) s.heap H locs → lv_has ls 4 [(0, .ref h)] → W p l e (headSpec wsX12_tried ({ frames := 8, cells := 0, slots := 0, locals := 176 })).room s m ([.ref h, .int p1, .int p2] : List Value).toArray below meth c H locs 0 0 (MQ below (QM D (kX12 T h a u) s.heap.size res.1 (kX12 T h a res.2)) ([.ref h, .int p1, .int p2] : List Value).toArray s 0 0 (va_A (kX12 T h a u) s.heap.size)) (F0 m 171 ls [.int y0]) := by
    intro v y0 H locs ls hf hP hD hS hl
    unfold fX12_tried_J171 at hf
    refine lv_istore_n (lv' := [(3, .int y0), (0, .ref h)]) hx hb dX12_tried_171 rfl hl (by decide) rfl (fun ls hl => ?_)
    exact J172 v y0 _ _ _ hf hP hD hS (lv_sub hl [1, 0] rfl)
  have J45 : ∀ (v : St) (x1 : Int32) (x2 : Int32) (H : Heap) (locs : List Loc) (ls : Array Slot), fX12_tried_J45  v x1 x2 = some res → va_P D vwCl (kX12 T h a v) H → va_D (va_A (kX12 T h a u) s.heap.size) (kX12 T h a v) → va_S (va_A (kX12 T h a u) s.heap.size) s.heap H locs → lv_has ls 4 [(0, .ref h), (1, .int x1), (2, .int x2)] → W p l e (headSpec wsX12_tried ({ frames := 8, cells := 0, slots := 0, locals := 176 })).room s m ([.ref h, .int p1, .int p2] : List Value).toArray below meth c H locs 0 0 (MQ below (QM D (kX12 T h a u) s.heap.size res.1 (kX12 T h a res.2)) ([.ref h, .int p1, .int p2] : List Value).toArray s 0 0 (va_A (kX12 T h a u) s.heap.size)) (F0 m 45 ls []) := by
    intro v x1 x2 H locs ls hf hP hD hS hl
    unfold fX12_tried_J45 at hf
    refine lv_aload_n hx hb dX12_tried_45 rfl (lv_at hl 0 rfl) ?_
    refine va_get (D := D) (ci := 12) (v := .ref (a 0)) (C := RX12) (T := TX12) (N := 52) hx hb hts hinX12 hown hK.1 hP 0 rfl rfl 0 (by decide) (hts (.fieldLink RX12 7 "RopeScaleModel" "now" "[I") (List.mem_of_getElem? (i := 1) rfl)) (fun _ h9 => h9) rfl dX12_tried_46 ?_
    refine lv_aload_n hx hb dX12_tried_49 rfl (lv_at hl 0 rfl) ?_
    refine va_get (D := D) (ci := 12) (v := .ref (a 1)) (C := RX12) (T := TX12) (N := 52) hx hb hts hinX12 hown hK.1 hP 0 rfl rfl 1 (by decide) (hts (.fieldLink RX12 13 "RopeScaleModel" "aside" "[I") (List.mem_of_getElem? (i := 2) rfl)) (fun _ h9 => h9) rfl dX12_tried_50 ?_
    obtain ⟨z3, hz3, hf⟩ := bnd hf
    have hPc := hP.sub (ws' := [(a 0, .inl (T.1, 98, .inl (v 0)))] ++ [(a 1, .inl (T.1, 98, .inl (v 1)))]) [1, 2] rfl
    have hDc := hD.sub (ws' := [(a 0, .inl (T.1, 98, .inl (v 0)))] ++ [(a 1, .inl (T.1, 98, .inl (v 1)))]) [1, 2] (by decide) rfl
    have hFc9 := va_free (wc := [(a 0, .inl (T.1, 98, .inl (v 0)))] ++ [(a 1, .inl (T.1, 98, .inl (v 1)))]) hD hS hA [1, 2] rfl
    refine cSMv (As := [.ref (a 0), .ref (a 1)]) (rest := []) ⟨hx, hb, hml, hown, hts⟩ (mX12_copies l D T (a 0) (v 0) (a 1) (v 1) _ z3 hz3) (va_cwS 2 hts gX12_tried_X12_copies rfl rfl rfl (by decide +kernel) ⟨Nat.le_of_ble_eq_true rfl, Nat.le_of_ble_eq_true rfl⟩) hPc hK rfl hl.1 rfl (Nat.le_of_ble_eq_true rfl) dX12_tried_53 ⟨Nat.le_of_ble_eq_true rfl, Nat.le_of_ble_eq_true rfl⟩ hDc hFc9 hS (fun H9 locs hP1 hD1 hk1 hS => ?_)
    obtain ⟨hP, hD⟩ := putAll_P (w1 := [(a 0, .inl (T.1, 98, .inl (v 0)))] ++ [(a 1, .inl (T.1, 98, .inl z3))]) hP hD [1, 2] rfl (by decide) hk1 hP1 rfl
    generalize H9 = H at hP hS ⊢
    obtain ⟨u4, eu4, hf⟩ := lett_e hf
    have hP : va_P D vwCl (kX12 T h a u4) H := by rw [eu4]; exact hP
    have hD : va_D (va_A (kX12 T h a u) s.heap.size) (kX12 T h a u4) := by rw [eu4]; exact hD
    refine lv_aload_n hx hb dX12_tried_56 rfl (lv_at hl 0 rfl) ?_
    refine lv_iload_n hx hb dX12_tried_57 rfl (lv_at hl 1 rfl) ?_
    obtain ⟨z5, hz5, hf⟩ := bnd hf
    have hFc9 := vaA_self hD hS hA
    refine cVMv (As := [.int x1]) (rest := []) ⟨hx, hb, hml, hown, hts⟩ (mX12_hoursGo l D T h a u4 _ x1 z5 hz5) (cwV 1 hts gX12_tried_X12_hoursGo rfl rfl rfl (by decide +kernel) ⟨Nat.le_of_ble_eq_true rfl, Nat.le_of_ble_eq_true rfl⟩) (va_recv hK.1 hP (ci := 12) (q0 := 0) rfl rfl) hP hK rfl hl.1 rfl (Nat.le_of_ble_eq_true rfl) dX12_tried_58 ⟨Nat.le_of_ble_eq_true rfl, Nat.le_of_ble_eq_true rfl⟩ hD hFc9 hS (fun H locs hP hD1 _ hS => ?_)
    have hD := hD1.weaken (fun _ _ _ h9 => hFc9 _ h9)
    refine lv_iload_n hx hb dX12_tried_61 rfl (lv_at hl 2 rfl) ?_
    by_cases c6 : x2 = 0
    · replace hf := ifp c6 hf
      refine lv_tableIn (off := 34) (tgt := 96) hx hb dX12_tried_62 (by rw [c6]; decide) (by rw [c6]; decide) (by rw [c6]; rfl) (by decide) ?_
      refine lv_aload_n hx hb dX12_tried_96 rfl (lv_at hl 0 rfl) ?_
      refine va_get (D := D) (ci := 12) (v := .int (z5 39 0)) (C := RX12) (T := TX12) (N := 52) hx hb hts hinX12 hown hK.1 hP 0 rfl rfl 39 (by decide) (hts (.fieldLink RX12 283 "RopeScaleModel" "gotOver" "I") (List.mem_of_getElem? (i := 3) rfl)) (fun _ h9 => h9) rfl dX12_tried_97 ?_
      obtain ⟨t7, et7, hf⟩ := lett_e hf
      refine lv_eqi et7 ?_
      refine lv_istore_n (lv' := [(3, .int t7), (0, .ref h), (1, .int x1), (2, .int x2)]) hx hb dX12_tried_100 rfl hl (by decide) rfl (fun ls hl => ?_)
      refine lv_goto (tgt := 172) hx hb dX12_tried_101 (by decide) ?_
      exact J172 z5 t7 _ _ _ hf hP hD hS (lv_sub hl [1, 0] rfl)
    replace hf := ifn c6 hf
    by_cases c8 : x2 = 1
    · replace hf := ifp c8 hf
      refine lv_tableIn (off := 42) (tgt := 104) hx hb dX12_tried_62 (by rw [c8]; decide) (by rw [c8]; decide) (by rw [c8]; rfl) (by decide) ?_
      refine lv_aload_n hx hb dX12_tried_104 rfl (lv_at hl 0 rfl) ?_
      refine va_get (D := D) (ci := 12) (v := .int (z5 40 0)) (C := RX12) (T := TX12) (N := 52) hx hb hts hinX12 hown hK.1 hP 0 rfl rfl 40 (by decide) (hts (.fieldLink RX12 277 "RopeScaleModel" "bathed" "I") (List.mem_of_getElem? (i := 4) rfl)) (fun _ h9 => h9) rfl dX12_tried_105 ?_
      obtain ⟨t9, et9, hf⟩ := lett_e hf
      refine lv_eqi et9 ?_
      refine lv_istore_n (lv' := [(3, .int t9), (0, .ref h), (1, .int x1), (2, .int x2)]) hx hb dX12_tried_108 rfl hl (by decide) rfl (fun ls hl => ?_)
      refine lv_goto (tgt := 172) hx hb dX12_tried_109 (by decide) ?_
      exact J172 z5 t9 _ _ _ hf hP hD hS (lv_sub hl [1, 0] rfl)
    replace hf := ifn c8 hf
    by_cases c10 : x2 = 2
    · replace hf := ifp c10 hf
      refine lv_tableIn (off := 50) (tgt := 112) hx hb dX12_tried_62 (by rw [c10]; decide) (by rw [c10]; decide) (by rw [c10]; rfl) (by decide) ?_
      refine lv_aload_n hx hb dX12_tried_112 rfl (lv_at hl 0 rfl) ?_
      refine va_get (D := D) (ci := 12) (v := .int (z5 41 0)) (C := RX12) (T := TX12) (N := 52) hx hb hts hinX12 hown hK.1 hP 0 rfl rfl 41 (by decide) (hts (.fieldLink RX12 280 "RopeScaleModel" "flung" "I") (List.mem_of_getElem? (i := 5) rfl)) (fun _ h9 => h9) rfl dX12_tried_113 ?_
      obtain ⟨t11, et11, hf⟩ := lett_e hf
      refine lv_eqi et11 ?_
      refine lv_istore_n (lv' := [(3, .int t11), (0, .ref h), (1, .int x1), (2, .int x2)]) hx hb dX12_tried_116 rfl hl (by decide) rfl (fun ls hl => ?_)
      refine lv_goto (tgt := 172) hx hb dX12_tried_117 (by decide) ?_
      exact J172 z5 t11 _ _ _ hf hP hD hS (lv_sub hl [1, 0] rfl)
    replace hf := ifn c10 hf
    by_cases c12 : x2 = 3
    · replace hf := ifp c12 hf
      refine lv_tableIn (off := 58) (tgt := 120) hx hb dX12_tried_62 (by rw [c12]; decide) (by rw [c12]; decide) (by rw [c12]; rfl) (by decide) ?_
      refine lv_aload_n hx hb dX12_tried_120 rfl (lv_at hl 0 rfl) ?_
      obtain ⟨z13, hz13, hf⟩ := bnd hf
      refine cVR (As := []) (rest := []) ⟨hx, hb, hml, hown, hts⟩ (mX12_overMany l D T h a z5 z13 hz13) (cwV 0 hts gX12_tried_X12_overMany rfl rfl rfl (by decide +kernel) ⟨Nat.le_of_ble_eq_true rfl, Nat.le_of_ble_eq_true rfl⟩) (va_recv hK.1 hP (ci := 12) (q0 := 0) rfl rfl) hP hK rfl hl.1 rfl (Nat.le_of_ble_eq_true rfl) dX12_tried_121 ⟨Nat.le_of_ble_eq_true rfl, Nat.le_of_ble_eq_true rfl⟩ hP hS (fun H locs hP hS => ?_)
      refine lv_istore_n (lv' := [(3, .int z13), (0, .ref h), (1, .int x1), (2, .int x2)]) hx hb dX12_tried_124 rfl hl (by decide) rfl (fun ls hl => ?_)
      refine lv_goto (tgt := 172) hx hb dX12_tried_125 (by decide) ?_
      exact J172 z5 z13 _ _ _ hf hP hD hS (lv_sub hl [1, 0] rfl)
    replace hf := ifn c12 hf
    by_cases c14 : x2 = 4
    · replace hf := ifp c14 hf
      refine lv_tableIn (off := 66) (tgt := 128) hx hb dX12_tried_62 (by rw [c14]; decide) (by rw [c14]; decide) (by rw [c14]; rfl) (by decide) ?_
      refine lv_aload_n hx hb dX12_tried_128 rfl (lv_at hl 0 rfl) ?_
      refine va_get (D := D) (ci := 12) (v := .int (z5 42 0)) (C := RX12) (T := TX12) (N := 52) hx hb hts hinX12 hown hK.1 hP 0 rfl rfl 42 (by decide) (hts (.fieldLink RX12 296 "RopeScaleModel" "toes" "I") (List.mem_of_getElem? (i := 6) rfl)) (fun _ h9 => h9) rfl dX12_tried_129 ?_
      obtain ⟨t15, et15, hf⟩ := lett_e hf
      refine lv_eqi et15 ?_
      refine lv_istore_n (lv' := [(3, .int t15), (0, .ref h), (1, .int x1), (2, .int x2)]) hx hb dX12_tried_132 rfl hl (by decide) rfl (fun ls hl => ?_)
      refine lv_goto (tgt := 172) hx hb dX12_tried_133 (by decide) ?_
      exact J172 z5 t15 _ _ _ hf hP hD hS (lv_sub hl [1, 0] rfl)
    replace hf := ifn c14 hf
    refine lv_tableOut (tgt := 136) hx hb dX12_tried_62 (sw_out (x := x2) 5 (by decide) (fun k9 hk9 => match k9, hk9 with | 0, _ => fun e9 => c6 (e9.trans (by decide)) | 1, _ => fun e9 => c8 (e9.trans (by decide)) | 2, _ => fun e9 => c10 (e9.trans (by decide)) | 3, _ => fun e9 => c12 (e9.trans (by decide)) | 4, _ => fun e9 => c14 (e9.trans (by decide)) | k9 + 5, hk9 => absurd hk9 (by omega))) (by decide) ?_
    refine lv_iload_n hx hb dX12_tried_136 rfl (lv_at hl 2 rfl) ?_
    refine lv_sipush (v := 200) hx hb dX12_tried_137 (by decide) ?_
    refine lv_icmp_ge (tgt := 158) hx hb dX12_tried_140 (by decide) (fun c16 => ?_) (fun c16 => ?_)
    · replace hf := ifp c16 hf
      refine lv_aload_n hx hb dX12_tried_158 rfl (lv_at hl 0 rfl) ?_
      refine va_get (D := D) (ci := 12) (v := .ref (a 0)) (C := RX12) (T := TX12) (N := 52) hx hb hts hinX12 hown hK.1 hP 0 rfl rfl 0 (by decide) (hts (.fieldLink RX12 7 "RopeScaleModel" "now" "[I") (List.mem_of_getElem? (i := 1) rfl)) (fun _ h9 => h9) rfl dX12_tried_159 ?_
      refine lv_bipush (v := 80) hx hb dX12_tried_162 (by decide) ?_
      refine lv_iload_n hx hb dX12_tried_164 rfl (lv_at hl 2 rfl) ?_
      refine lv_iadd hx hb dX12_tried_165 ?_
      refine lv_sipush (v := 200) hx hb dX12_tried_166 (by decide) ?_
      refine lv_isub hx hb dX12_tried_169 ?_
      obtain ⟨h17, hf⟩ := gd_e hf
      refine va_iald hx hb hK.1 hP 1 0 rfl rfl h17 dX12_tried_170 ?_
      exact J171 z5 (z5 0 (ix ((80 + x2) - 200))) _ _ _ hf hP hD hS (lv_sub hl [0] rfl)
    replace hf := ifn c16 hf
    refine lv_aload_n hx hb dX12_tried_143 rfl (lv_at hl 0 rfl) ?_
    refine va_get (D := D) (ci := 12) (v := .ref (a 0)) (C := RX12) (T := TX12) (N := 52) hx hb hts hinX12 hown hK.1 hP 0 rfl rfl 0 (by decide) (hts (.fieldLink RX12 7 "RopeScaleModel" "now" "[I") (List.mem_of_getElem? (i := 1) rfl)) (fun _ h9 => h9) rfl dX12_tried_144 ?_
    refine lv_bipush (v := 16) hx hb dX12_tried_147 (by decide) ?_
    refine lv_iload_n hx hb dX12_tried_149 rfl (lv_at hl 2 rfl) ?_
    refine lv_iadd hx hb dX12_tried_150 ?_
    refine lv_bipush (v := 100) hx hb dX12_tried_151 (by decide) ?_
    refine lv_isub hx hb dX12_tried_153 ?_
    obtain ⟨h18, hf⟩ := gd_e hf
    refine va_iald hx hb hK.1 hP 1 0 rfl rfl h18 dX12_tried_154 ?_
    refine lv_goto (tgt := 171) hx hb dX12_tried_155 (by decide) ?_
    exact J171 z5 (z5 0 (ix ((16 + x2) - 100))) _ _ _ hf hP hD hS (lv_sub hl [0] rfl)
  unfold fX12_tried at hf
  refine lv_iload_n hx hb dX12_tried_0 rfl (lv_at hl 1 rfl) ?_
  refine lv_iconst (v := 1) hx hb dX12_tried_1 (by decide) ?_
  refine lv_sipush (v := 240) hx hb dX12_tried_2 (by decide) ?_
  obtain ⟨z19, hz19, hf⟩ := lett_e hf
  refine cSR (As := [.int p1, .int 1, .int 240]) (rest := []) ⟨hx, hb, hml, hown, hts⟩ (mX12_in l D T p1 1 240 z19 hz19.symm) (va_cwS 3 hts gX12_tried_X12_in rfl rfl rfl (by decide +kernel) ⟨Nat.le_of_ble_eq_true rfl, Nat.le_of_ble_eq_true rfl⟩) P0 hK rfl hl.1 rfl (Nat.le_of_ble_eq_true rfl) dX12_tried_5 ⟨Nat.le_of_ble_eq_true rfl, Nat.le_of_ble_eq_true rfl⟩ hP hS (fun H locs hP hS => ?_)
  refine lv_if_eq (tgt := 43) hx hb dX12_tried_8 (by decide) (fun c20 => ?_) (fun c20 => ?_)
  · replace hf := ifp c20 hf
    refine lv_iconst (v := (-1)) hx hb dX12_tried_43 (by decide) ?_
    have e9 := Option.some.inj hf
    exact retM hx hb hr hlocks hP hD hS (congrArg (fun z => z.1) e9) (congrArg (fun z => (kX12 T h a z.2 : va_W)) e9) dX12_tried_44
  replace hf := ifn c20 hf
  refine lv_iload_n hx hb dX12_tried_11 rfl (lv_at hl 2 rfl) ?_
  refine lv_iconst (v := 0) hx hb dX12_tried_12 (by decide) ?_
  refine lv_iconst (v := 4) hx hb dX12_tried_13 (by decide) ?_
  obtain ⟨z21, hz21, hf⟩ := lett_e hf
  refine cSR (As := [.int p2, .int 0, .int 4]) (rest := []) ⟨hx, hb, hml, hown, hts⟩ (mX12_in l D T p2 0 4 z21 hz21.symm) (va_cwS 3 hts gX12_tried_X12_in rfl rfl rfl (by decide +kernel) ⟨Nat.le_of_ble_eq_true rfl, Nat.le_of_ble_eq_true rfl⟩) P0 hK rfl hl.1 rfl (Nat.le_of_ble_eq_true rfl) dX12_tried_14 ⟨Nat.le_of_ble_eq_true rfl, Nat.le_of_ble_eq_true rfl⟩ hP hS (fun H locs hP hS => ?_)
  refine lv_if_ne (tgt := 45) hx hb dX12_tried_17 (by decide) (fun c22 => ?_) (fun c22 => ?_)
  · replace hf := ifn c22 hf
    exact J45 u p1 p2 _ _ _ hf hP hD hS (lv_sub hl [0, 1, 2] rfl)
  replace hf := ifp c22 hf
  refine lv_aload_n hx hb dX12_tried_20 rfl (lv_at hl 0 rfl) ?_
  refine lv_iload_n hx hb dX12_tried_21 rfl (lv_at hl 2 rfl) ?_
  refine lv_bipush (v := 100) hx hb dX12_tried_22 (by decide) ?_
  refine lv_isub hx hb dX12_tried_24 ?_
  obtain ⟨z23, hz23, hf⟩ := bnd hf
  refine cVR (As := [.int (p2 - 100)]) (rest := []) ⟨hx, hb, hml, hown, hts⟩ (mX12_isTold l D T h a u (p2 - 100) z23 hz23) (cwV 1 hts gX12_tried_X12_isTold rfl rfl rfl (by decide +kernel) ⟨Nat.le_of_ble_eq_true rfl, Nat.le_of_ble_eq_true rfl⟩) (va_recv hK.1 hP (ci := 12) (q0 := 0) rfl rfl) hP hK rfl hl.1 rfl (Nat.le_of_ble_eq_true rfl) dX12_tried_25 ⟨Nat.le_of_ble_eq_true rfl, Nat.le_of_ble_eq_true rfl⟩ hP hS (fun H locs hP hS => ?_)
  refine lv_if_ne (tgt := 45) hx hb dX12_tried_28 (by decide) (fun c24 => ?_) (fun c24 => ?_)
  · replace hf := ifn c24 hf
    exact J45 u p1 p2 _ _ _ hf hP hD hS (lv_sub hl [0, 1, 2] rfl)
  replace hf := ifp c24 hf
  refine lv_aload_n hx hb dX12_tried_31 rfl (lv_at hl 0 rfl) ?_
  refine lv_iload_n hx hb dX12_tried_32 rfl (lv_at hl 2 rfl) ?_
  refine lv_sipush (v := 200) hx hb dX12_tried_33 (by decide) ?_
  refine lv_isub hx hb dX12_tried_36 ?_
  obtain ⟨z25, hz25, hf⟩ := bnd hf
  refine cVR (As := [.int (p2 - 200)]) (rest := []) ⟨hx, hb, hml, hown, hts⟩ (mX12_isTold l D T h a u (p2 - 200) z25 hz25) (cwV 1 hts gX12_tried_X12_isTold rfl rfl rfl (by decide +kernel) ⟨Nat.le_of_ble_eq_true rfl, Nat.le_of_ble_eq_true rfl⟩) (va_recv hK.1 hP (ci := 12) (q0 := 0) rfl rfl) hP hK rfl hl.1 rfl (Nat.le_of_ble_eq_true rfl) dX12_tried_37 ⟨Nat.le_of_ble_eq_true rfl, Nat.le_of_ble_eq_true rfl⟩ hP hS (fun H locs hP hS => ?_)
  refine lv_if_ne (tgt := 45) hx hb dX12_tried_40 (by decide) (fun c26 => ?_) (fun c26 => ?_)
  · replace hf := ifn c26 hf
    exact J45 u p1 p2 _ _ _ hf hP hD hS (lv_sub hl [0, 1, 2] rfl)
  replace hf := ifp c26 hf
  refine lv_iconst (v := (-1)) hx hb dX12_tried_43 (by decide) ?_
  have e9 := Option.some.inj hf
  exact retM hx hb hr hlocks hP hD hS (congrArg (fun z => z.1) e9) (congrArg (fun z => (kX12 T h a z.2 : va_W)) e9) dX12_tried_44
def fX12_walkerIs  (u : St) (p1 : Int32) (p2 : Int32) : Option (Int32) := (fX12_isTold u p1).bind fun z1 => if z1 = 0 then some (-1) else lett (fX12_in p2 0 4) fun z3 => if z3 = 0 then some (-1) else gd ((16 + (16 * p2)) + p1) 98 <| some (u 0 (ix ((16 + (16 * p2)) + p1)))
set_option maxHeartbeats 4000000 in
set_option maxRecDepth 100000 in
theorem mX12_walkerIs (l : Launch) (D : va_G) (T : Ty3) (h : Nat) (a : Nat → Nat) (u : St) (p1 : Int32) (p2 : Int32) (res : Int32) (hf : fX12_walkerIs u p1 p2 = some res) : Met l yX12_walkerIs wsX12_walkerIs ({ frames := 2, cells := 0, slots := 0, locals := 43 }) (PcR D T (kX12 T h a u) [.ref h, .int p1, .int p2]) (QR res) 0 0 noA := by
  refine Met.ofW (cc := cX12_walkerIs) (maxL := 3) (ret := (some .int)) (by decide) rfl ?_
  intro p e s m args below meth c s₁ B hml hv
  obtain ⟨rfl, hP, hK⟩ := hv
  have hx := B.exec
  have hb := B.bytes
  have hr := B.returns
  have hts := atoms_spec (ws := wsX12_walkerIs) B.pre
  have hown : s.vm.findClass RX12 = some m.cls := findClass_of_methodNamed B.named
  have hlocks := B.notSynchronized
  have hS : va_S noA s.heap s.heap [] := va_S.rf
  have hinX12 : ∀ w ∈ u_ws RX12 TX12 52, w ∈ wsX12_walkerIs := fun w h => List.mem_cons_of_mem _ (List.mem_append_right _ h)
  have hl := lv_entry ([.ref h, .int p1, .int p2]) (n := 3) (Nat.le_of_ble_eq_true rfl)
  rw [lg_entry_eq]
  generalize (lg_sl ([.ref h, .int p1, .int p2]) ++ List.replicate (3 - (lg_sl ([.ref h, .int p1, .int p2])).length) Slot.unset).toArray = ls at hl ⊢
  have hl : lv_has ls 3 [(0, .ref h), (1, .int p1), (2, .int p2)] := hl
  unfold fX12_walkerIs at hf
  refine lv_aload_n hx hb dX12_walkerIs_0 rfl (lv_at hl 0 rfl) ?_
  refine lv_iload_n hx hb dX12_walkerIs_1 rfl (lv_at hl 1 rfl) ?_
  obtain ⟨z1, hz1, hf⟩ := bnd hf
  refine cVR (As := [.int p1]) (rest := []) ⟨hx, hb, hml, hown, hts⟩ (mX12_isTold l D T h a u p1 z1 hz1) (cwV 1 hts gX12_walkerIs_X12_isTold rfl rfl rfl (by decide +kernel) ⟨Nat.le_of_ble_eq_true rfl, Nat.le_of_ble_eq_true rfl⟩) (va_recv hK.1 hP (ci := 12) (q0 := 0) rfl rfl) hP hK rfl hl.1 rfl (Nat.le_of_ble_eq_true rfl) dX12_walkerIs_2 ⟨Nat.le_of_ble_eq_true rfl, Nat.le_of_ble_eq_true rfl⟩ hP hS (fun H locs hP hS => ?_)
  refine lv_if_eq (tgt := 34) hx hb dX12_walkerIs_5 (by decide) (fun c2 => ?_) (fun c2 => ?_)
  · replace hf := ifp c2 hf
    refine lv_iconst (v := (-1)) hx hb dX12_walkerIs_34 (by decide) ?_
    exact retR hx hb hr hlocks hS (Option.some.inj hf) dX12_walkerIs_35
  replace hf := ifn c2 hf
  refine lv_iload_n hx hb dX12_walkerIs_8 rfl (lv_at hl 2 rfl) ?_
  refine lv_iconst (v := 0) hx hb dX12_walkerIs_9 (by decide) ?_
  refine lv_iconst (v := 4) hx hb dX12_walkerIs_10 (by decide) ?_
  obtain ⟨z3, hz3, hf⟩ := lett_e hf
  refine cSR (As := [.int p2, .int 0, .int 4]) (rest := []) ⟨hx, hb, hml, hown, hts⟩ (mX12_in l D T p2 0 4 z3 hz3.symm) (va_cwS 3 hts gX12_walkerIs_X12_in rfl rfl rfl (by decide +kernel) ⟨Nat.le_of_ble_eq_true rfl, Nat.le_of_ble_eq_true rfl⟩) P0 hK rfl hl.1 rfl (Nat.le_of_ble_eq_true rfl) dX12_walkerIs_11 ⟨Nat.le_of_ble_eq_true rfl, Nat.le_of_ble_eq_true rfl⟩ hP hS (fun H locs hP hS => ?_)
  refine lv_if_eq (tgt := 34) hx hb dX12_walkerIs_14 (by decide) (fun c4 => ?_) (fun c4 => ?_)
  · replace hf := ifp c4 hf
    refine lv_iconst (v := (-1)) hx hb dX12_walkerIs_34 (by decide) ?_
    exact retR hx hb hr hlocks hS (Option.some.inj hf) dX12_walkerIs_35
  replace hf := ifn c4 hf
  refine lv_aload_n hx hb dX12_walkerIs_17 rfl (lv_at hl 0 rfl) ?_
  refine va_get (D := D) (ci := 12) (v := .ref (a 0)) (C := RX12) (T := TX12) (N := 52) hx hb hts hinX12 hown hK.1 hP 0 rfl rfl 0 (by decide) (hts (.fieldLink RX12 7 "RopeScaleModel" "now" "[I") (List.mem_of_getElem? (i := 1) rfl)) (fun _ h9 => h9) rfl dX12_walkerIs_18 ?_
  refine lv_bipush (v := 16) hx hb dX12_walkerIs_21 (by decide) ?_
  refine lv_bipush (v := 16) hx hb dX12_walkerIs_23 (by decide) ?_
  refine lv_iload_n hx hb dX12_walkerIs_25 rfl (lv_at hl 2 rfl) ?_
  refine lv_imul hx hb dX12_walkerIs_26 ?_
  refine lv_iadd hx hb dX12_walkerIs_27 ?_
  refine lv_iload_n hx hb dX12_walkerIs_28 rfl (lv_at hl 1 rfl) ?_
  refine lv_iadd hx hb dX12_walkerIs_29 ?_
  obtain ⟨h5, hf⟩ := gd_e hf
  refine va_iald hx hb hK.1 hP 1 0 rfl rfl h5 dX12_walkerIs_30 ?_
  refine lv_goto (tgt := 35) hx hb dX12_walkerIs_31 (by decide) ?_
  exact retR hx hb hr hlocks hS (Option.some.inj hf) dX12_walkerIs_35
def bX12_sumOf_L4 (u : St)  (lp4 : Int32 → Int32 → Int32 → Option (Int32)) (x1 : Int32) (x2 : Int32) (x3 : Int32) : Option (Int32) := if 16 ≤ x3 then some x2 else lett (fX12_has x1 x3) fun z2 => if z2 = 0 then lett (x3 + 1) fun t4 => lp4 x1 x2 t4 else gd (16 + x3) 98 <| lett (x2 + (u 0 (ix (16 + x3)))) fun t5 => lett (x3 + 1) fun t6 => lp4 x1 t5 t6
def fX12_sumOf_L4 (u : St)  : Nat → Int32 → Int32 → Int32 → Option (Int32)
  | 0, _, _, _ => none
  | n + 1, x1, x2, x3 => bX12_sumOf_L4 u (fX12_sumOf_L4 u n) x1 x2 x3
def fX12_sumOf  (u : St) (p1 : Int32) : Option (Int32) := fX12_sumOf_L4 u FU p1 0 0
set_option maxHeartbeats 4000000 in
set_option maxRecDepth 100000 in
theorem mX12_sumOf (l : Launch) (D : va_G) (T : Ty3) (h : Nat) (a : Nat → Nat) (u : St) (p1 : Int32) (res : Int32) (hf : fX12_sumOf u p1 = some res) : Met l yX12_sumOf wsX12_sumOf ({ frames := 1, cells := 0, slots := 0, locals := 21 }) (PcR D T (kX12 T h a u) [.ref h, .int p1]) (QR res) 0 0 noA := by
  refine Met.ofW (cc := cX12_sumOf) (maxL := 4) (ret := (some .int)) (by decide) rfl ?_
  intro p e s m args below meth c s₁ B hml hv
  obtain ⟨rfl, hP, hK⟩ := hv
  have hx := B.exec
  have hb := B.bytes
  have hr := B.returns
  have hts := atoms_spec (ws := wsX12_sumOf) B.pre
  have hown : s.vm.findClass RX12 = some m.cls := findClass_of_methodNamed B.named
  have hlocks := B.notSynchronized
  have hS : va_S noA s.heap s.heap [] := va_S.rf
  have hinX12 : ∀ w ∈ u_ws RX12 TX12 52, w ∈ wsX12_sumOf := fun w h => List.mem_cons_of_mem _ (List.mem_append_right _ h)
  have hl := lv_entry ([.ref h, .int p1]) (n := 4) (Nat.le_of_ble_eq_true rfl)
  rw [lg_entry_eq]
  generalize (lg_sl ([.ref h, .int p1]) ++ List.replicate (4 - (lg_sl ([.ref h, .int p1])).length) Slot.unset).toArray = ls at hl ⊢
  have hl : lv_has ls 4 [(0, .ref h), (1, .int p1)] := hl
  have L4 : ∀ (n4 : Nat), ∀ (x1 : Int32) (x2 : Int32) (x3 : Int32) (H : Heap) (locs : List Loc) (ls : Array Slot), fX12_sumOf_L4 u n4 x1 x2 x3 = some res → va_P D vwCl (kX12 T h a u) H → va_S noA s.heap H locs → lv_has ls 4 [(0, .ref h), (1, .int x1), (2, .int x2), (3, .int x3)] → W p l e (headSpec wsX12_sumOf ({ frames := 1, cells := 0, slots := 0, locals := 21 })).room s m ([.ref h, .int p1] : List Value).toArray below meth c H locs 0 0 (MQ below (QR res) ([.ref h, .int p1] : List Value).toArray s 0 0 noA) (F0 m 4 ls []) := by
    intro n4
    induction n4 with
    | zero => intro x1 x2 x3 H locs ls hf; exact nns hf
    | succ n4 ih4 =>
      intro x1 x2 x3 H locs ls hf hP hS hl
      replace hf : bX12_sumOf_L4 u (fX12_sumOf_L4 u n4) x1 x2 x3 = some res := hf
      unfold bX12_sumOf_L4 at hf
      refine lv_iload_n hx hb dX12_sumOf_4 rfl (lv_at hl 3 rfl) ?_
      refine lv_bipush (v := 16) hx hb dX12_sumOf_5 (by decide) ?_
      refine lv_icmp_ge (tgt := 36) hx hb dX12_sumOf_7 (by decide) (fun c1 => ?_) (fun c1 => ?_)
      · replace hf := ifp c1 hf
        refine lv_iload_n hx hb dX12_sumOf_36 rfl (lv_at hl 2 rfl) ?_
        exact retR hx hb hr hlocks hS (Option.some.inj hf) dX12_sumOf_37
      replace hf := ifn c1 hf
      refine lv_iload_n hx hb dX12_sumOf_10 rfl (lv_at hl 1 rfl) ?_
      refine lv_iload_n hx hb dX12_sumOf_11 rfl (lv_at hl 3 rfl) ?_
      obtain ⟨z2, hz2, hf⟩ := lett_e hf
      refine cSR (As := [.int x1, .int x3]) (rest := []) ⟨hx, hb, hml, hown, hts⟩ (mX12_has l D T x1 x3 z2 hz2.symm) (va_cwS 2 hts gX12_sumOf_X12_has rfl rfl rfl (by decide +kernel) ⟨Nat.le_of_ble_eq_true rfl, Nat.le_of_ble_eq_true rfl⟩) P0 hK rfl hl.1 rfl (Nat.le_of_ble_eq_true rfl) dX12_sumOf_12 ⟨Nat.le_of_ble_eq_true rfl, Nat.le_of_ble_eq_true rfl⟩ hP hS (fun H locs hP hS => ?_)
      refine lv_if_eq (tgt := 30) hx hb dX12_sumOf_15 (by decide) (fun c3 => ?_) (fun c3 => ?_)
      · replace hf := ifp c3 hf
        obtain ⟨t4, et4, hf⟩ := lett_e hf
        refine lv_iinc (v := t4) (lv' := [(3, .int t4), (0, .ref h), (1, .int x1), (2, .int x2)]) hx hb dX12_sumOf_30 hl (k := 3) rfl (by rw [et4]; rfl) (by decide) rfl (fun ls hl => ?_)
        refine lv_goto (tgt := 4) hx hb dX12_sumOf_33 (by decide) ?_
        exact ih4 x1 x2 t4 _ _ _ hf hP hS (lv_sub hl [1, 2, 3, 0] rfl)
      replace hf := ifn c3 hf
      refine lv_iload_n hx hb dX12_sumOf_18 rfl (lv_at hl 2 rfl) ?_
      refine lv_aload_n hx hb dX12_sumOf_19 rfl (lv_at hl 0 rfl) ?_
      refine va_get (D := D) (ci := 12) (v := .ref (a 0)) (C := RX12) (T := TX12) (N := 52) hx hb hts hinX12 hown hK.1 hP 0 rfl rfl 0 (by decide) (hts (.fieldLink RX12 7 "RopeScaleModel" "now" "[I") (List.mem_of_getElem? (i := 1) rfl)) (fun _ h9 => h9) rfl dX12_sumOf_20 ?_
      refine lv_bipush (v := 16) hx hb dX12_sumOf_23 (by decide) ?_
      refine lv_iload_n hx hb dX12_sumOf_25 rfl (lv_at hl 3 rfl) ?_
      refine lv_iadd hx hb dX12_sumOf_26 ?_
      obtain ⟨h7, hf⟩ := gd_e hf
      refine va_iald hx hb hK.1 hP 1 0 rfl rfl h7 dX12_sumOf_27 ?_
      refine lv_iadd hx hb dX12_sumOf_28 ?_
      obtain ⟨t5, et5, hf⟩ := lett_e hf
      refine lv_eqi et5 ?_
      refine lv_istore_n (lv' := [(2, .int t5), (0, .ref h), (1, .int x1), (3, .int x3)]) hx hb dX12_sumOf_29 rfl hl (by decide) rfl (fun ls hl => ?_)
      obtain ⟨t6, et6, hf⟩ := lett_e hf
      refine lv_iinc (v := t6) (lv' := [(3, .int t6), (2, .int t5), (0, .ref h), (1, .int x1)]) hx hb dX12_sumOf_30 hl (k := 3) rfl (by rw [et6]; rfl) (by decide) rfl (fun ls hl => ?_)
      refine lv_goto (tgt := 4) hx hb dX12_sumOf_33 (by decide) ?_
      exact ih4 x1 t5 t6 _ _ _ hf hP hS (lv_sub hl [2, 3, 1, 0] rfl)
  unfold fX12_sumOf at hf
  refine lv_iconst (v := 0) hx hb dX12_sumOf_0 (by decide) ?_
  refine lv_istore_n (lv' := [(2, .int 0), (0, .ref h), (1, .int p1)]) hx hb dX12_sumOf_1 rfl hl (by decide) rfl (fun ls hl => ?_)
  refine lv_iconst (v := 0) hx hb dX12_sumOf_2 (by decide) ?_
  refine lv_istore_n (lv' := [(3, .int 0), (2, .int 0), (0, .ref h), (1, .int p1)]) hx hb dX12_sumOf_3 rfl hl (by decide) rfl (fun ls hl => ?_)
  exact L4 FU p1 0 0 _ _ _ hf hP hS (lv_sub hl [2, 3, 1, 0] rfl)
def bX12_standsFor_L47 (u : St)  (lp47 : Int32 → Int32 → Int32 → Int32 → Int32 → Int32 → Option (Int32)) (x1 : Int32) (x2 : Int32) (x3 : Int32) (x4 : Int32) (x5 : Int32) (x6 : Int32) : Option (Int32) := if x3 < x6 then if x2 = 0 then some x4 else some x5 else if (x6 &&& (x3 ^^^ (-1))) = 0 then (fX12_sumOf u x6).bind fun z4 => gd (16 + x1) 98 <| lett (fX12_size (z4 - (u 0 (ix (16 + x1))))) fun z5 => if x5 < z5 then lett (x6 + 1) fun t7 => lp47 x1 x2 x3 x4 x5 t7 else if z5 = x5 then (fX12_bits x6).bind fun z10 => (fX12_bits x4).bind fun z11 => if z10 < z11 then lett (x6 + 1) fun t13 => lp47 x1 x2 x3 x6 z5 t13 else lett (x6 + 1) fun t14 => lp47 x1 x2 x3 x4 x5 t14 else lett (x6 + 1) fun t9 => lp47 x1 x2 x3 x6 z5 t9 else lett (x6 + 1) fun t16 => lp47 x1 x2 x3 x4 x5 t16
def fX12_standsFor_L47 (u : St)  : Nat → Int32 → Int32 → Int32 → Int32 → Int32 → Int32 → Option (Int32)
  | 0, _, _, _, _, _, _ => none
  | n + 1, x1, x2, x3, x4, x5, x6 => bX12_standsFor_L47 u (fX12_standsFor_L47 u n) x1 x2 x3 x4 x5 x6
def fX12_standsFor  (u : St) (p1 : Int32) (p2 : Int32) : Option (Int32) := (fX12_isTold u p1).bind fun z17 => if z17 = 0 then some (-1) else lett (fX12_in p2 0 1) fun z19 => if z19 = 0 then some (-1) else (fX12_hereSet u).bind fun z21 => lett (z21 &&& ((jshl 1 p1) ^^^ (-1))) fun t22 => gd (16 + p1) 98 <| lett (u 0 (ix (16 + p1))) fun t23 => fX12_standsFor_L47 u FU p1 p2 t22 0 t23 0
set_option maxHeartbeats 4000000 in
set_option maxRecDepth 100000 in
theorem mX12_standsFor (l : Launch) (D : va_G) (T : Ty3) (h : Nat) (a : Nat → Nat) (u : St) (p1 : Int32) (p2 : Int32) (res : Int32) (hf : fX12_standsFor u p1 p2 = some res) : Met l yX12_standsFor wsX12_standsFor ({ frames := 4, cells := 0, slots := 0, locals := 86 }) (PcR D T (kX12 T h a u) [.ref h, .int p1, .int p2]) (QR res) 0 0 noA := by
  refine Met.ofW (cc := cX12_standsFor) (maxL := 8) (ret := (some .int)) (by decide) rfl ?_
  intro p e s m args below meth c s₁ B hml hv
  obtain ⟨rfl, hP, hK⟩ := hv
  have hx := B.exec
  have hb := B.bytes
  have hr := B.returns
  have hts := atoms_spec (ws := wsX12_standsFor) B.pre
  have hown : s.vm.findClass RX12 = some m.cls := findClass_of_methodNamed B.named
  have hlocks := B.notSynchronized
  have hS : va_S noA s.heap s.heap [] := va_S.rf
  have hinX12 : ∀ w ∈ u_ws RX12 TX12 52, w ∈ wsX12_standsFor := fun w h => List.mem_cons_of_mem _ (List.mem_append_right _ h)
  have hl := lv_entry ([.ref h, .int p1, .int p2]) (n := 8) (Nat.le_of_ble_eq_true rfl)
  rw [lg_entry_eq]
  generalize (lg_sl ([.ref h, .int p1, .int p2]) ++ List.replicate (8 - (lg_sl ([.ref h, .int p1, .int p2])).length) Slot.unset).toArray = ls at hl ⊢
  have hl : lv_has ls 8 [(0, .ref h), (1, .int p1), (2, .int p2)] := hl
  have L47 : ∀ (n47 : Nat), ∀ (x1 : Int32) (x2 : Int32) (x3 : Int32) (x4 : Int32) (x5 : Int32) (x6 : Int32) (H : Heap) (locs : List Loc) (ls : Array Slot), fX12_standsFor_L47 u n47 x1 x2 x3 x4 x5 x6 = some res → va_P D vwCl (kX12 T h a u) H → va_S noA s.heap H locs → lv_has ls 8 [(0, .ref h), (1, .int x1), (2, .int x2), (3, .int x3), (4, .int x4), (5, .int x5), (6, .int x6)] → W p l e (headSpec wsX12_standsFor ({ frames := 4, cells := 0, slots := 0, locals := 86 })).room s m ([.ref h, .int p1, .int p2] : List Value).toArray below meth c H locs 0 0 (MQ below (QR res) ([.ref h, .int p1, .int p2] : List Value).toArray s 0 0 noA) (F0 m 47 ls []) := by
    intro n47
    induction n47 with
    | zero => intro x1 x2 x3 x4 x5 x6 H locs ls hf; exact nns hf
    | succ n47 ih47 =>
      intro x1 x2 x3 x4 x5 x6 H locs ls hf hP hS hl
      replace hf : bX12_standsFor_L47 u (fX12_standsFor_L47 u n47) x1 x2 x3 x4 x5 x6 = some res := hf
      unfold bX12_standsFor_L47 at hf
      refine lv_iload hx hb dX12_standsFor_47 (lv_at hl 6 rfl) ?_
      refine lv_iload_n hx hb dX12_standsFor_49 rfl (lv_at hl 3 rfl) ?_
      refine lv_icmp_gt (tgt := 130) hx hb dX12_standsFor_50 (by decide) (fun c1 => ?_) (fun c1 => ?_)
      · replace hf := ifp c1 hf
        refine lv_iload_n hx hb dX12_standsFor_130 rfl (lv_at hl 2 rfl) ?_
        refine lv_if_ne (tgt := 139) hx hb dX12_standsFor_131 (by decide) (fun c2 => ?_) (fun c2 => ?_)
        · replace hf := ifn c2 hf
          refine lv_iload hx hb dX12_standsFor_139 (lv_at hl 5 rfl) ?_
          exact retR hx hb hr hlocks hS (Option.some.inj hf) dX12_standsFor_141
        replace hf := ifp c2 hf
        refine lv_iload hx hb dX12_standsFor_134 (lv_at hl 4 rfl) ?_
        refine lv_goto (tgt := 141) hx hb dX12_standsFor_136 (by decide) ?_
        exact retR hx hb hr hlocks hS (Option.some.inj hf) dX12_standsFor_141
      replace hf := ifn c1 hf
      refine lv_iload hx hb dX12_standsFor_53 (lv_at hl 6 rfl) ?_
      refine lv_iload_n hx hb dX12_standsFor_55 rfl (lv_at hl 3 rfl) ?_
      refine lv_iconst (v := (-1)) hx hb dX12_standsFor_56 (by decide) ?_
      refine lv_ixor hx hb dX12_standsFor_57 ?_
      refine lv_iand hx hb dX12_standsFor_58 ?_
      refine lv_if_eq (tgt := 65) hx hb dX12_standsFor_59 (by decide) (fun c3 => ?_) (fun c3 => ?_)
      · replace hf := ifp c3 hf
        refine lv_aload_n hx hb dX12_standsFor_65 rfl (lv_at hl 0 rfl) ?_
        refine lv_iload hx hb dX12_standsFor_66 (lv_at hl 6 rfl) ?_
        obtain ⟨z4, hz4, hf⟩ := bnd hf
        refine cVR (As := [.int x6]) (rest := []) ⟨hx, hb, hml, hown, hts⟩ (mX12_sumOf l D T h a u x6 z4 hz4) (cwV 1 hts gX12_standsFor_X12_sumOf rfl rfl rfl (by decide +kernel) ⟨Nat.le_of_ble_eq_true rfl, Nat.le_of_ble_eq_true rfl⟩) (va_recv hK.1 hP (ci := 12) (q0 := 0) rfl rfl) hP hK rfl hl.1 rfl (Nat.le_of_ble_eq_true rfl) dX12_standsFor_68 ⟨Nat.le_of_ble_eq_true rfl, Nat.le_of_ble_eq_true rfl⟩ hP hS (fun H locs hP hS => ?_)
        refine lv_aload_n hx hb dX12_standsFor_71 rfl (lv_at hl 0 rfl) ?_
        refine va_get (D := D) (ci := 12) (v := .ref (a 0)) (C := RX12) (T := TX12) (N := 52) hx hb hts hinX12 hown hK.1 hP 0 rfl rfl 0 (by decide) (hts (.fieldLink RX12 7 "RopeScaleModel" "now" "[I") (List.mem_of_getElem? (i := 1) rfl)) (fun _ h9 => h9) rfl dX12_standsFor_72 ?_
        refine lv_bipush (v := 16) hx hb dX12_standsFor_75 (by decide) ?_
        refine lv_iload_n hx hb dX12_standsFor_77 rfl (lv_at hl 1 rfl) ?_
        refine lv_iadd hx hb dX12_standsFor_78 ?_
        obtain ⟨h15, hf⟩ := gd_e hf
        refine va_iald hx hb hK.1 hP 1 0 rfl rfl h15 dX12_standsFor_79 ?_
        refine lv_isub hx hb dX12_standsFor_80 ?_
        obtain ⟨z5, hz5, hf⟩ := lett_e hf
        refine cSR (As := [.int (z4 - (u 0 (ix (16 + x1))))]) (rest := []) ⟨hx, hb, hml, hown, hts⟩ (mX12_size l D T (z4 - (u 0 (ix (16 + x1)))) z5 hz5.symm) (va_cwS 1 hts gX12_standsFor_X12_size rfl rfl rfl (by decide +kernel) ⟨Nat.le_of_ble_eq_true rfl, Nat.le_of_ble_eq_true rfl⟩) P0 hK rfl hl.1 rfl (Nat.le_of_ble_eq_true rfl) dX12_standsFor_81 ⟨Nat.le_of_ble_eq_true rfl, Nat.le_of_ble_eq_true rfl⟩ hP hS (fun H locs hP hS => ?_)
        refine lv_istore (lv' := [(7, .int z5), (0, .ref h), (1, .int x1), (2, .int x2), (3, .int x3), (4, .int x4), (5, .int x5), (6, .int x6)]) hx hb dX12_standsFor_84 hl (by decide) rfl (fun ls hl => ?_)
        refine lv_iload hx hb dX12_standsFor_86 (lv_at hl 0 rfl) ?_
        refine lv_iload hx hb dX12_standsFor_88 (lv_at hl 6 rfl) ?_
        refine lv_icmp_gt (tgt := 124) hx hb dX12_standsFor_90 (by decide) (fun c6 => ?_) (fun c6 => ?_)
        · replace hf := ifp c6 hf
          obtain ⟨t7, et7, hf⟩ := lett_e hf
          refine lv_iinc (v := t7) (lv' := [(6, .int t7), (7, .int z5), (0, .ref h), (1, .int x1), (2, .int x2), (3, .int x3), (4, .int x4), (5, .int x5)]) hx hb dX12_standsFor_124 hl (k := 7) rfl (by rw [et7]; rfl) (by decide) rfl (fun ls hl => ?_)
          refine lv_goto (tgt := 47) hx hb dX12_standsFor_127 (by decide) ?_
          exact ih47 x1 x2 x3 x4 x5 t7 _ _ _ hf hP hS (lv_sub hl [2, 3, 4, 5, 6, 7, 0] rfl)
        replace hf := ifn c6 hf
        refine lv_iload hx hb dX12_standsFor_93 (lv_at hl 0 rfl) ?_
        refine lv_iload hx hb dX12_standsFor_95 (lv_at hl 6 rfl) ?_
        refine lv_icmp_ne (tgt := 116) hx hb dX12_standsFor_97 (by decide) (fun c8 => ?_) (fun c8 => ?_)
        · replace hf := ifn c8 hf
          refine lv_iload hx hb dX12_standsFor_116 (lv_at hl 7 rfl) ?_
          refine lv_istore (lv' := [(4, .int x6), (7, .int z5), (0, .ref h), (1, .int x1), (2, .int x2), (3, .int x3), (5, .int x5), (6, .int x6)]) hx hb dX12_standsFor_118 hl (by decide) rfl (fun ls hl => ?_)
          refine lv_iload hx hb dX12_standsFor_120 (lv_at hl 1 rfl) ?_
          refine lv_istore (lv' := [(5, .int z5), (4, .int x6), (7, .int z5), (0, .ref h), (1, .int x1), (2, .int x2), (3, .int x3), (6, .int x6)]) hx hb dX12_standsFor_122 hl (by decide) rfl (fun ls hl => ?_)
          obtain ⟨t9, et9, hf⟩ := lett_e hf
          refine lv_iinc (v := t9) (lv' := [(6, .int t9), (5, .int z5), (4, .int x6), (7, .int z5), (0, .ref h), (1, .int x1), (2, .int x2), (3, .int x3)]) hx hb dX12_standsFor_124 hl (k := 7) rfl (by rw [et9]; rfl) (by decide) rfl (fun ls hl => ?_)
          refine lv_goto (tgt := 47) hx hb dX12_standsFor_127 (by decide) ?_
          exact ih47 x1 x2 x3 x6 z5 t9 _ _ _ hf hP hS (lv_sub hl [4, 5, 6, 7, 2, 1, 0] rfl)
        replace hf := ifp c8 hf
        refine lv_iload hx hb dX12_standsFor_100 (lv_at hl 7 rfl) ?_
        obtain ⟨z10, hz10, hf⟩ := bnd hf
        refine cSR (As := [.int x6]) (rest := []) ⟨hx, hb, hml, hown, hts⟩ (mX12_bits l D T x6 z10 hz10) (va_cwS 1 hts gX12_standsFor_X12_bits rfl rfl rfl (by decide +kernel) ⟨Nat.le_of_ble_eq_true rfl, Nat.le_of_ble_eq_true rfl⟩) P0 hK rfl hl.1 rfl (Nat.le_of_ble_eq_true rfl) dX12_standsFor_102 ⟨Nat.le_of_ble_eq_true rfl, Nat.le_of_ble_eq_true rfl⟩ hP hS (fun H locs hP hS => ?_)
        refine lv_iload hx hb dX12_standsFor_105 (lv_at hl 5 rfl) ?_
        obtain ⟨z11, hz11, hf⟩ := bnd hf
        refine cSR (As := [.int x4]) (rest := [.int z10]) ⟨hx, hb, hml, hown, hts⟩ (mX12_bits l D T x4 z11 hz11) (va_cwS 1 hts gX12_standsFor_X12_bits rfl rfl rfl (by decide +kernel) ⟨Nat.le_of_ble_eq_true rfl, Nat.le_of_ble_eq_true rfl⟩) P0 hK rfl hl.1 rfl (Nat.le_of_ble_eq_true rfl) dX12_standsFor_107 ⟨Nat.le_of_ble_eq_true rfl, Nat.le_of_ble_eq_true rfl⟩ hP hS (fun H locs hP hS => ?_)
        refine lv_icmp_lt (tgt := 116) hx hb dX12_standsFor_110 (by decide) (fun c12 => ?_) (fun c12 => ?_)
        · replace hf := ifp c12 hf
          refine lv_iload hx hb dX12_standsFor_116 (lv_at hl 7 rfl) ?_
          refine lv_istore (lv' := [(4, .int x6), (7, .int z5), (0, .ref h), (1, .int x1), (2, .int x2), (3, .int x3), (5, .int x5), (6, .int x6)]) hx hb dX12_standsFor_118 hl (by decide) rfl (fun ls hl => ?_)
          refine lv_iload hx hb dX12_standsFor_120 (lv_at hl 1 rfl) ?_
          refine lv_istore (lv' := [(5, .int z5), (4, .int x6), (7, .int z5), (0, .ref h), (1, .int x1), (2, .int x2), (3, .int x3), (6, .int x6)]) hx hb dX12_standsFor_122 hl (by decide) rfl (fun ls hl => ?_)
          obtain ⟨t13, et13, hf⟩ := lett_e hf
          refine lv_iinc (v := t13) (lv' := [(6, .int t13), (5, .int z5), (4, .int x6), (7, .int z5), (0, .ref h), (1, .int x1), (2, .int x2), (3, .int x3)]) hx hb dX12_standsFor_124 hl (k := 7) rfl (by rw [et13]; rfl) (by decide) rfl (fun ls hl => ?_)
          refine lv_goto (tgt := 47) hx hb dX12_standsFor_127 (by decide) ?_
          exact ih47 x1 x2 x3 x6 z5 t13 _ _ _ hf hP hS (lv_sub hl [4, 5, 6, 7, 2, 1, 0] rfl)
        replace hf := ifn c12 hf
        refine lv_goto (tgt := 124) hx hb dX12_standsFor_113 (by decide) ?_
        obtain ⟨t14, et14, hf⟩ := lett_e hf
        refine lv_iinc (v := t14) (lv' := [(6, .int t14), (7, .int z5), (0, .ref h), (1, .int x1), (2, .int x2), (3, .int x3), (4, .int x4), (5, .int x5)]) hx hb dX12_standsFor_124 hl (k := 7) rfl (by rw [et14]; rfl) (by decide) rfl (fun ls hl => ?_)
        refine lv_goto (tgt := 47) hx hb dX12_standsFor_127 (by decide) ?_
        exact ih47 x1 x2 x3 x4 x5 t14 _ _ _ hf hP hS (lv_sub hl [2, 3, 4, 5, 6, 7, 0] rfl)
      replace hf := ifn c3 hf
      refine lv_goto (tgt := 124) hx hb dX12_standsFor_62 (by decide) ?_
      obtain ⟨t16, et16, hf⟩ := lett_e hf
      refine lv_iinc (v := t16) (lv' := [(6, .int t16), (0, .ref h), (1, .int x1), (2, .int x2), (3, .int x3), (4, .int x4), (5, .int x5)]) hx hb dX12_standsFor_124 hl (k := 6) rfl (by rw [et16]; rfl) (by decide) rfl (fun ls hl => ?_)
      refine lv_goto (tgt := 47) hx hb dX12_standsFor_127 (by decide) ?_
      exact ih47 x1 x2 x3 x4 x5 t16 _ _ _ hf hP hS (lv_sub hl [1, 2, 3, 4, 5, 6, 0] rfl)
  unfold fX12_standsFor at hf
  refine lv_aload_n hx hb dX12_standsFor_0 rfl (lv_at hl 0 rfl) ?_
  refine lv_iload_n hx hb dX12_standsFor_1 rfl (lv_at hl 1 rfl) ?_
  obtain ⟨z17, hz17, hf⟩ := bnd hf
  refine cVR (As := [.int p1]) (rest := []) ⟨hx, hb, hml, hown, hts⟩ (mX12_isTold l D T h a u p1 z17 hz17) (cwV 1 hts gX12_standsFor_X12_isTold rfl rfl rfl (by decide +kernel) ⟨Nat.le_of_ble_eq_true rfl, Nat.le_of_ble_eq_true rfl⟩) (va_recv hK.1 hP (ci := 12) (q0 := 0) rfl rfl) hP hK rfl hl.1 rfl (Nat.le_of_ble_eq_true rfl) dX12_standsFor_2 ⟨Nat.le_of_ble_eq_true rfl, Nat.le_of_ble_eq_true rfl⟩ hP hS (fun H locs hP hS => ?_)
  refine lv_if_eq (tgt := 17) hx hb dX12_standsFor_5 (by decide) (fun c18 => ?_) (fun c18 => ?_)
  · replace hf := ifp c18 hf
    refine lv_iconst (v := (-1)) hx hb dX12_standsFor_17 (by decide) ?_
    exact retR hx hb hr hlocks hS (Option.some.inj hf) dX12_standsFor_18
  replace hf := ifn c18 hf
  refine lv_iload_n hx hb dX12_standsFor_8 rfl (lv_at hl 2 rfl) ?_
  refine lv_iconst (v := 0) hx hb dX12_standsFor_9 (by decide) ?_
  refine lv_iconst (v := 1) hx hb dX12_standsFor_10 (by decide) ?_
  obtain ⟨z19, hz19, hf⟩ := lett_e hf
  refine cSR (As := [.int p2, .int 0, .int 1]) (rest := []) ⟨hx, hb, hml, hown, hts⟩ (mX12_in l D T p2 0 1 z19 hz19.symm) (va_cwS 3 hts gX12_standsFor_X12_in rfl rfl rfl (by decide +kernel) ⟨Nat.le_of_ble_eq_true rfl, Nat.le_of_ble_eq_true rfl⟩) P0 hK rfl hl.1 rfl (Nat.le_of_ble_eq_true rfl) dX12_standsFor_11 ⟨Nat.le_of_ble_eq_true rfl, Nat.le_of_ble_eq_true rfl⟩ hP hS (fun H locs hP hS => ?_)
  refine lv_if_ne (tgt := 19) hx hb dX12_standsFor_14 (by decide) (fun c20 => ?_) (fun c20 => ?_)
  · replace hf := ifn c20 hf
    refine lv_aload_n hx hb dX12_standsFor_19 rfl (lv_at hl 0 rfl) ?_
    obtain ⟨z21, hz21, hf⟩ := bnd hf
    refine cVR (As := []) (rest := []) ⟨hx, hb, hml, hown, hts⟩ (mX12_hereSet l D T h a u z21 hz21) (cwV 0 hts gX12_standsFor_X12_hereSet rfl rfl rfl (by decide +kernel) ⟨Nat.le_of_ble_eq_true rfl, Nat.le_of_ble_eq_true rfl⟩) (va_recv hK.1 hP (ci := 12) (q0 := 0) rfl rfl) hP hK rfl hl.1 rfl (Nat.le_of_ble_eq_true rfl) dX12_standsFor_20 ⟨Nat.le_of_ble_eq_true rfl, Nat.le_of_ble_eq_true rfl⟩ hP hS (fun H locs hP hS => ?_)
    refine lv_iconst (v := 1) hx hb dX12_standsFor_23 (by decide) ?_
    refine lv_iload_n hx hb dX12_standsFor_24 rfl (lv_at hl 1 rfl) ?_
    refine lv_ishl hx hb dX12_standsFor_25 ?_
    refine lv_iconst (v := (-1)) hx hb dX12_standsFor_26 (by decide) ?_
    refine lv_ixor hx hb dX12_standsFor_27 ?_
    refine lv_iand hx hb dX12_standsFor_28 ?_
    obtain ⟨t22, et22, hf⟩ := lett_e hf
    refine lv_eqi et22 ?_
    refine lv_istore_n (lv' := [(3, .int t22), (0, .ref h), (1, .int p1), (2, .int p2)]) hx hb dX12_standsFor_29 rfl hl (by decide) rfl (fun ls hl => ?_)
    refine lv_iconst (v := 0) hx hb dX12_standsFor_30 (by decide) ?_
    refine lv_istore (lv' := [(4, .int 0), (3, .int t22), (0, .ref h), (1, .int p1), (2, .int p2)]) hx hb dX12_standsFor_31 hl (by decide) rfl (fun ls hl => ?_)
    refine lv_aload_n hx hb dX12_standsFor_33 rfl (lv_at hl 2 rfl) ?_
    refine va_get (D := D) (ci := 12) (v := .ref (a 0)) (C := RX12) (T := TX12) (N := 52) hx hb hts hinX12 hown hK.1 hP 0 rfl rfl 0 (by decide) (hts (.fieldLink RX12 7 "RopeScaleModel" "now" "[I") (List.mem_of_getElem? (i := 1) rfl)) (fun _ h9 => h9) rfl dX12_standsFor_34 ?_
    refine lv_bipush (v := 16) hx hb dX12_standsFor_37 (by decide) ?_
    refine lv_iload_n hx hb dX12_standsFor_39 rfl (lv_at hl 3 rfl) ?_
    refine lv_iadd hx hb dX12_standsFor_40 ?_
    obtain ⟨h24, hf⟩ := gd_e hf
    refine va_iald hx hb hK.1 hP 1 0 rfl rfl h24 dX12_standsFor_41 ?_
    obtain ⟨t23, et23, hf⟩ := lett_e hf
    refine lv_eqi et23 ?_
    refine lv_istore (lv' := [(5, .int t23), (4, .int 0), (3, .int t22), (0, .ref h), (1, .int p1), (2, .int p2)]) hx hb dX12_standsFor_42 hl (by decide) rfl (fun ls hl => ?_)
    refine lv_iconst (v := 0) hx hb dX12_standsFor_44 (by decide) ?_
    refine lv_istore (lv' := [(6, .int 0), (5, .int t23), (4, .int 0), (3, .int t22), (0, .ref h), (1, .int p1), (2, .int p2)]) hx hb dX12_standsFor_45 hl (by decide) rfl (fun ls hl => ?_)
    exact L47 FU p1 p2 t22 0 t23 0 _ _ _ hf hP hS (lv_sub hl [4, 5, 6, 3, 2, 1, 0] rfl)
  replace hf := ifp c20 hf
  refine lv_iconst (v := (-1)) hx hb dX12_standsFor_17 (by decide) ?_
  exact retR hx hb hr hlocks hS (Option.some.inj hf) dX12_standsFor_18
