def fX11_isWithin   (p0 : Int32) (p1 : Int32) (p2 : Int32) : (Int32) := if p0 < p1 then 0 else if p2 < p0 then 0 else 1
set_option maxHeartbeats 4000000 in
set_option maxRecDepth 100000 in
theorem mX11_isWithin (l : Launch) (D : va_G) (T : Ty3)  (p0 : Int32) (p1 : Int32) (p2 : Int32) (res : Int32) (hf : fX11_isWithin p0 p1 p2 = res) : Met l yX11_isWithin wsX11_isWithin ({ frames := 0, cells := 0, slots := 0, locals := 0 }) (PcR D T ([]) [.int p0, .int p1, .int p2]) (QR res) 0 0 noA := by
  refine Met.ofW (cc := cX11_isWithin) (maxL := 3) (ret := (some .boolean)) (by decide) rfl ?_
  intro p e s m args below meth c s₁ B hml hv
  obtain ⟨rfl, hP, hK⟩ := hv
  have hx := B.exec
  have hb := B.bytes
  have hr := B.returns
  have hts := atoms_spec (ws := wsX11_isWithin) B.pre
  have hown : s.vm.findClass RX11 = some m.cls := findClass_of_methodNamed B.named
  have hlocks := B.notSynchronized
  have hS : va_S noA s.heap s.heap [] := va_S.rf
  have hl := lv_entry ([.int p0, .int p1, .int p2]) (n := 3) (Nat.le_of_ble_eq_true rfl)
  rw [lg_entry_eq]
  generalize (lg_sl ([.int p0, .int p1, .int p2]) ++ List.replicate (3 - (lg_sl ([.int p0, .int p1, .int p2])).length) Slot.unset).toArray = ls at hl ⊢
  have hl : lv_has ls 3 [(0, .int p0), (1, .int p1), (2, .int p2)] := hl
  unfold fX11_isWithin at hf
  refine lv_iload_n hx hb dX11_isWithin_0 rfl (lv_at hl 0 rfl) ?_
  refine lv_iload_n hx hb dX11_isWithin_1 rfl (lv_at hl 1 rfl) ?_
  refine lv_icmp_lt (tgt := 14) hx hb dX11_isWithin_2 (by decide) (fun c1 => ?_) (fun c1 => ?_)
  · replace hf := ifp c1 hf
    refine lv_iconst (v := 0) hx hb dX11_isWithin_14 (by decide) ?_
    exact retRz hx hb hr hlocks hS rfl hf dX11_isWithin_15
  replace hf := ifn c1 hf
  refine lv_iload_n hx hb dX11_isWithin_5 rfl (lv_at hl 0 rfl) ?_
  refine lv_iload_n hx hb dX11_isWithin_6 rfl (lv_at hl 2 rfl) ?_
  refine lv_icmp_gt (tgt := 14) hx hb dX11_isWithin_7 (by decide) (fun c2 => ?_) (fun c2 => ?_)
  · replace hf := ifp c2 hf
    refine lv_iconst (v := 0) hx hb dX11_isWithin_14 (by decide) ?_
    exact retRz hx hb hr hlocks hS rfl hf dX11_isWithin_15
  replace hf := ifn c2 hf
  refine lv_iconst (v := 1) hx hb dX11_isWithin_10 (by decide) ?_
  refine lv_goto (tgt := 15) hx hb dX11_isWithin_11 (by decide) ?_
  exact retRz hx hb hr hlocks hS rfl hf dX11_isWithin_15
def fX11_isWalker   (p0 : Int32) : Option (Int32) := lett (fX11_isWithin p0 0 15) fun z1 => zb z1 <| some z1
set_option maxHeartbeats 4000000 in
set_option maxRecDepth 100000 in
theorem mX11_isWalker (l : Launch) (D : va_G) (T : Ty3)  (p0 : Int32) (res : Int32) (hf : fX11_isWalker p0 = some res) : Met l yX11_isWalker wsX11_isWalker ({ frames := 1, cells := 0, slots := 0, locals := 22 }) (PcR D T ([]) [.int p0]) (QR res) 0 0 noA := by
  refine Met.ofW (cc := cX11_isWalker) (maxL := 1) (ret := (some .boolean)) (by decide) rfl ?_
  intro p e s m args below meth c s₁ B hml hv
  obtain ⟨rfl, hP, hK⟩ := hv
  have hx := B.exec
  have hb := B.bytes
  have hr := B.returns
  have hts := atoms_spec (ws := wsX11_isWalker) B.pre
  have hown : s.vm.findClass RX11 = some m.cls := findClass_of_methodNamed B.named
  have hlocks := B.notSynchronized
  have hS : va_S noA s.heap s.heap [] := va_S.rf
  have hl := lv_entry ([.int p0]) (n := 1) (Nat.le_of_ble_eq_true rfl)
  rw [lg_entry_eq]
  generalize (lg_sl ([.int p0]) ++ List.replicate (1 - (lg_sl ([.int p0])).length) Slot.unset).toArray = ls at hl ⊢
  have hl : lv_has ls 1 [(0, .int p0)] := hl
  unfold fX11_isWalker at hf
  refine lv_iload_n hx hb dX11_isWalker_0 rfl (lv_at hl 0 rfl) ?_
  refine lv_iconst (v := 0) hx hb dX11_isWalker_1 (by decide) ?_
  refine lv_bipush (v := 15) hx hb dX11_isWalker_2 (by decide) ?_
  obtain ⟨z1, hz1, hf⟩ := lett_e hf
  refine cSR (As := [.int p0, .int 0, .int 15]) (rest := []) ⟨hx, hb, hml, hown, hts⟩ (mX11_isWithin l D T p0 0 15 z1 hz1.symm) (va_cwS 3 hts gX11_isWalker_X11_isWithin rfl rfl rfl (by decide +kernel) ⟨Nat.le_of_ble_eq_true rfl, Nat.le_of_ble_eq_true rfl⟩) P0 hK rfl hl.1 rfl (Nat.le_of_ble_eq_true rfl) dX11_isWalker_4 ⟨Nat.le_of_ble_eq_true rfl, Nat.le_of_ble_eq_true rfl⟩ hP hS (fun H locs hP hS => ?_)
  obtain ⟨hz9, hf⟩ := zb_e hf
  exact retRz hx hb hr hlocks hS hz9 (Option.some.inj hf) dX11_isWalker_7
def fX11_has   (p0 : Int32) (p1 : Int32) : (Int32) := if ((jshr p0 p1) &&& 1) = 0 then 0 else 1
set_option maxHeartbeats 4000000 in
set_option maxRecDepth 100000 in
theorem mX11_has (l : Launch) (D : va_G) (T : Ty3)  (p0 : Int32) (p1 : Int32) (res : Int32) (hf : fX11_has p0 p1 = res) : Met l yX11_has wsX11_has ({ frames := 0, cells := 0, slots := 0, locals := 0 }) (PcR D T ([]) [.int p0, .int p1]) (QR res) 0 0 noA := by
  refine Met.ofW (cc := cX11_has) (maxL := 2) (ret := (some .boolean)) (by decide) rfl ?_
  intro p e s m args below meth c s₁ B hml hv
  obtain ⟨rfl, hP, hK⟩ := hv
  have hx := B.exec
  have hb := B.bytes
  have hr := B.returns
  have hts := atoms_spec (ws := wsX11_has) B.pre
  have hown : s.vm.findClass RX11 = some m.cls := findClass_of_methodNamed B.named
  have hlocks := B.notSynchronized
  have hS : va_S noA s.heap s.heap [] := va_S.rf
  have hl := lv_entry ([.int p0, .int p1]) (n := 2) (Nat.le_of_ble_eq_true rfl)
  rw [lg_entry_eq]
  generalize (lg_sl ([.int p0, .int p1]) ++ List.replicate (2 - (lg_sl ([.int p0, .int p1])).length) Slot.unset).toArray = ls at hl ⊢
  have hl : lv_has ls 2 [(0, .int p0), (1, .int p1)] := hl
  unfold fX11_has at hf
  refine lv_iload_n hx hb dX11_has_0 rfl (lv_at hl 0 rfl) ?_
  refine lv_iload_n hx hb dX11_has_1 rfl (lv_at hl 1 rfl) ?_
  refine lv_ishr hx hb dX11_has_2 ?_
  refine lv_iconst (v := 1) hx hb dX11_has_3 (by decide) ?_
  refine lv_iand hx hb dX11_has_4 ?_
  refine lv_if_eq (tgt := 12) hx hb dX11_has_5 (by decide) (fun c1 => ?_) (fun c1 => ?_)
  · replace hf := ifp c1 hf
    refine lv_iconst (v := 0) hx hb dX11_has_12 (by decide) ?_
    exact retRz hx hb hr hlocks hS rfl hf dX11_has_13
  replace hf := ifn c1 hf
  refine lv_iconst (v := 1) hx hb dX11_has_8 (by decide) ?_
  refine lv_goto (tgt := 13) hx hb dX11_has_9 (by decide) ?_
  exact retRz hx hb hr hlocks hS rfl hf dX11_has_13
def fX11_bounded   (p0 : Int32) (p1 : Int32) (p2 : Int32) : (Int32) := mx p1 (mn p2 p0)
set_option maxHeartbeats 4000000 in
set_option maxRecDepth 100000 in
theorem mX11_bounded (l : Launch) (D : va_G) (T : Ty3)  (p0 : Int32) (p1 : Int32) (p2 : Int32) (res : Int32) (hf : fX11_bounded p0 p1 p2 = res) : Met l yX11_bounded wsX11_bounded ({ frames := 1, cells := 0, slots := 0, locals := 14 }) (PcR D T ([]) [.int p0, .int p1, .int p2]) (QR res) 0 0 noA := by
  refine Met.ofW (cc := cX11_bounded) (maxL := 3) (ret := (some .int)) (by decide) rfl ?_
  intro p e s m args below meth c s₁ B hml hv
  obtain ⟨rfl, hP, hK⟩ := hv
  have hx := B.exec
  have hb := B.bytes
  have hr := B.returns
  have hts := atoms_spec (ws := wsX11_bounded) B.pre
  have hown : s.vm.findClass RX11 = some m.cls := findClass_of_methodNamed B.named
  have hlocks := B.notSynchronized
  have hS : va_S noA s.heap s.heap [] := va_S.rf
  have hl := lv_entry ([.int p0, .int p1, .int p2]) (n := 3) (Nat.le_of_ble_eq_true rfl)
  rw [lg_entry_eq]
  generalize (lg_sl ([.int p0, .int p1, .int p2]) ++ List.replicate (3 - (lg_sl ([.int p0, .int p1, .int p2])).length) Slot.unset).toArray = ls at hl ⊢
  have hl : lv_has ls 3 [(0, .int p0), (1, .int p1), (2, .int p2)] := hl
  unfold fX11_bounded at hf
  refine lv_iload_n hx hb dX11_bounded_0 rfl (lv_at hl 1 rfl) ?_
  refine lv_iload_n hx hb dX11_bounded_1 rfl (lv_at hl 2 rfl) ?_
  refine lv_iload_n hx hb dX11_bounded_2 rfl (lv_at hl 0 rfl) ?_
  refine mmin hx hb (hml.trans hl.1.symm) hown (hts (.methodLink RX11 345 Lib.Math.min.name) (List.mem_of_getElem? (i := 1) rfl)) (hts (.static Lib.Math.min.name) (List.mem_of_getElem? (i := 2) rfl)) (hts (.initialized "java/lang/Math") (List.mem_of_getElem? (i := 3) rfl)) (hts (.code Lib.Math.min.name Lib.Math.min.code 2 (some .int)) (List.mem_of_getElem? (i := 4) rfl)) (Nat.le_of_ble_eq_true rfl) (Nat.le_of_ble_eq_true rfl) (Nat.le_of_ble_eq_true rfl) (Nat.le_of_ble_eq_true rfl) dX11_bounded_3 ?_
  refine mmax hx hb (hml.trans hl.1.symm) hown (hts (.methodLink RX11 348 Lib.Math.max.name) (List.mem_of_getElem? (i := 5) rfl)) (hts (.static Lib.Math.max.name) (List.mem_of_getElem? (i := 6) rfl)) (hts (.initialized "java/lang/Math") (List.mem_of_getElem? (i := 3) rfl)) (hts (.code Lib.Math.max.name Lib.Math.max.code 2 (some .int)) (List.mem_of_getElem? (i := 7) rfl)) (Nat.le_of_ble_eq_true rfl) (Nat.le_of_ble_eq_true rfl) (Nat.le_of_ble_eq_true rfl) (Nat.le_of_ble_eq_true rfl) dX11_bounded_6 ?_
  exact retR hx hb hr hlocks hS hf dX11_bounded_9
def fJ6_bitCount_0f7a4   (p0 : Int32) : (Int32) := lett (p0 - ((jush p0 1) &&& 1431655765)) fun t1 => lett ((t1 &&& 858993459) + ((jush t1 2) &&& 858993459)) fun t2 => lett ((t2 + (jush t2 4)) &&& 252645135) fun t3 => lett (t3 + (jush t3 8)) fun t4 => lett (t4 + (jush t4 16)) fun t5 => t5 &&& 63
set_option maxHeartbeats 4000000 in
set_option maxRecDepth 100000 in
theorem mJ6_bitCount_0f7a4 (l : Launch) (D : va_G) (T : Ty3)  (p0 : Int32) (res : Int32) (hf : fJ6_bitCount_0f7a4 p0 = res) : Met l yJ6_bitCount_0f7a4 wsJ6_bitCount_0f7a4 ({ frames := 0, cells := 0, slots := 0, locals := 0 }) (PcR D T ([]) [.int p0]) (QR res) 0 0 noA := by
  refine Met.ofW (cc := cJ6_bitCount_0f7a4) (maxL := 1) (ret := (some .int)) (by decide) rfl ?_
  intro p e s m args below meth c s₁ B hml hv
  obtain ⟨rfl, hP, hK⟩ := hv
  have hx := B.exec
  have hb := B.bytes
  have hr := B.returns
  have hts := atoms_spec (ws := wsJ6_bitCount_0f7a4) B.pre
  have hown : s.vm.findClass RJ6 = some m.cls := findClass_of_methodNamed B.named
  have hlocks := B.notSynchronized
  have hS : va_S noA s.heap s.heap [] := va_S.rf
  have hl := lv_entry ([.int p0]) (n := 1) (Nat.le_of_ble_eq_true rfl)
  rw [lg_entry_eq]
  generalize (lg_sl ([.int p0]) ++ List.replicate (1 - (lg_sl ([.int p0])).length) Slot.unset).toArray = ls at hl ⊢
  have hl : lv_has ls 1 [(0, .int p0)] := hl
  unfold fJ6_bitCount_0f7a4 at hf
  refine lv_iload_n hx hb dJ6_bitCount_0f7a4_0 rfl (lv_at hl 0 rfl) ?_
  refine lv_iload_n hx hb dJ6_bitCount_0f7a4_1 rfl (lv_at hl 0 rfl) ?_
  refine lv_iconst (v := 1) hx hb dJ6_bitCount_0f7a4_2 (by decide) ?_
  refine lv_iushr hx hb dJ6_bitCount_0f7a4_3 rfl ?_
  refine lv_ldcw (v := 1431655765) hx hb hown (hts (.constant RJ6 265 (1431655765)) (List.mem_of_getElem? (i := 1) rfl)) dJ6_bitCount_0f7a4_4 ?_
  refine lv_iand hx hb dJ6_bitCount_0f7a4_7 ?_
  refine lv_isub hx hb dJ6_bitCount_0f7a4_8 ?_
  obtain ⟨t1, et1, hf⟩ := lett_e hf
  refine lv_eqi et1 ?_
  refine lv_istore_n (lv' := [(0, .int t1)]) hx hb dJ6_bitCount_0f7a4_9 rfl hl (by decide) rfl (fun ls hl => ?_)
  refine lv_iload_n hx hb dJ6_bitCount_0f7a4_10 rfl (lv_at hl 0 rfl) ?_
  refine lv_ldcw (v := 858993459) hx hb hown (hts (.constant RJ6 266 (858993459)) (List.mem_of_getElem? (i := 2) rfl)) dJ6_bitCount_0f7a4_11 ?_
  refine lv_iand hx hb dJ6_bitCount_0f7a4_14 ?_
  refine lv_iload_n hx hb dJ6_bitCount_0f7a4_15 rfl (lv_at hl 0 rfl) ?_
  refine lv_iconst (v := 2) hx hb dJ6_bitCount_0f7a4_16 (by decide) ?_
  refine lv_iushr hx hb dJ6_bitCount_0f7a4_17 rfl ?_
  refine lv_ldcw (v := 858993459) hx hb hown (hts (.constant RJ6 266 (858993459)) (List.mem_of_getElem? (i := 2) rfl)) dJ6_bitCount_0f7a4_18 ?_
  refine lv_iand hx hb dJ6_bitCount_0f7a4_21 ?_
  refine lv_iadd hx hb dJ6_bitCount_0f7a4_22 ?_
  obtain ⟨t2, et2, hf⟩ := lett_e hf
  refine lv_eqi et2 ?_
  refine lv_istore_n (lv' := [(0, .int t2)]) hx hb dJ6_bitCount_0f7a4_23 rfl hl (by decide) rfl (fun ls hl => ?_)
  refine lv_iload_n hx hb dJ6_bitCount_0f7a4_24 rfl (lv_at hl 0 rfl) ?_
  refine lv_iload_n hx hb dJ6_bitCount_0f7a4_25 rfl (lv_at hl 0 rfl) ?_
  refine lv_iconst (v := 4) hx hb dJ6_bitCount_0f7a4_26 (by decide) ?_
  refine lv_iushr hx hb dJ6_bitCount_0f7a4_27 rfl ?_
  refine lv_iadd hx hb dJ6_bitCount_0f7a4_28 ?_
  refine lv_ldcw (v := 252645135) hx hb hown (hts (.constant RJ6 267 (252645135)) (List.mem_of_getElem? (i := 3) rfl)) dJ6_bitCount_0f7a4_29 ?_
  refine lv_iand hx hb dJ6_bitCount_0f7a4_32 ?_
  obtain ⟨t3, et3, hf⟩ := lett_e hf
  refine lv_eqi et3 ?_
  refine lv_istore_n (lv' := [(0, .int t3)]) hx hb dJ6_bitCount_0f7a4_33 rfl hl (by decide) rfl (fun ls hl => ?_)
  refine lv_iload_n hx hb dJ6_bitCount_0f7a4_34 rfl (lv_at hl 0 rfl) ?_
  refine lv_iload_n hx hb dJ6_bitCount_0f7a4_35 rfl (lv_at hl 0 rfl) ?_
  refine lv_bipush (v := 8) hx hb dJ6_bitCount_0f7a4_36 (by decide) ?_
  refine lv_iushr hx hb dJ6_bitCount_0f7a4_38 rfl ?_
  refine lv_iadd hx hb dJ6_bitCount_0f7a4_39 ?_
  obtain ⟨t4, et4, hf⟩ := lett_e hf
  refine lv_eqi et4 ?_
  refine lv_istore_n (lv' := [(0, .int t4)]) hx hb dJ6_bitCount_0f7a4_40 rfl hl (by decide) rfl (fun ls hl => ?_)
  refine lv_iload_n hx hb dJ6_bitCount_0f7a4_41 rfl (lv_at hl 0 rfl) ?_
  refine lv_iload_n hx hb dJ6_bitCount_0f7a4_42 rfl (lv_at hl 0 rfl) ?_
  refine lv_bipush (v := 16) hx hb dJ6_bitCount_0f7a4_43 (by decide) ?_
  refine lv_iushr hx hb dJ6_bitCount_0f7a4_45 rfl ?_
  refine lv_iadd hx hb dJ6_bitCount_0f7a4_46 ?_
  obtain ⟨t5, et5, hf⟩ := lett_e hf
  refine lv_eqi et5 ?_
  refine lv_istore_n (lv' := [(0, .int t5)]) hx hb dJ6_bitCount_0f7a4_47 rfl hl (by decide) rfl (fun ls hl => ?_)
  refine lv_iload_n hx hb dJ6_bitCount_0f7a4_48 rfl (lv_at hl 0 rfl) ?_
  refine lv_bipush (v := 63) hx hb dJ6_bitCount_0f7a4_49 (by decide) ?_
  refine lv_iand hx hb dJ6_bitCount_0f7a4_51 ?_
  exact retR hx hb hr hlocks hS hf dJ6_bitCount_0f7a4_52
def bJ7_fill_d0a16_L6   (lp6 : (Nat → Int64) → Int64 → Int32 → Int32 → Option ((Nat → Int64))) (vr : Nat → Int64) (x1 : Int64) (x3 : Int32) (x4 : Int32) : Option ((Nat → Int64)) := if x4 ≤ x3 then some vr else gd x3 32 <| lett (vp_updL vr (ix x3) x1) fun u2 => lett (x3 + 1) fun t3 => lp6 u2 x1 t3 x4
def fJ7_fill_d0a16_L6   : Nat → (Nat → Int64) → Int64 → Int32 → Int32 → Option ((Nat → Int64))
  | 0, _, _, _, _ => none
  | n + 1, vr, x1, x3, x4 => bJ7_fill_d0a16_L6  (fJ7_fill_d0a16_L6  n) vr x1 x3 x4
def fJ7_fill_d0a16  (ur : Nat → Int64) (p1 : Int64) : Option ((Nat → Int64)) := fJ7_fill_d0a16_L6 FU ur p1 0 32
set_option maxHeartbeats 4000000 in
set_option maxRecDepth 100000 in
theorem mJ7_fill_d0a16 (l : Launch) (D : va_G) (T : Ty3) (qr : Nat) (ur : Nat → Int64) (sz : Nat) (p1 : Int64) (res : (Nat → Int64)) (hf : fJ7_fill_d0a16 ur p1 = some res) : Met l yJ7_fill_d0a16 wsJ7_fill_d0a16 ({ frames := 0, cells := 0, slots := 0, locals := 0 }) (PcM D T ([(qr, .inl (T.2.2, 32, .inr (.inl ur)))]) sz [.ref qr, .long p1]) (QMv D ([(qr, .inl (T.2.2, 32, .inr (.inl ur)))]) sz ([(qr, .inl (T.2.2, 32, .inr (.inl res)))])) 0 0 (va_A ([(qr, .inl (T.2.2, 32, .inr (.inl ur)))]) sz) := by
  refine Met.ofW (cc := cJ7_fill_d0a16) (maxL := 5) (ret := none) (by decide) rfl ?_
  intro p e s m args below meth c s₁ B hml hv
  obtain ⟨rfl, hsz, hP, hK, hD0⟩ := hv
  have hx := B.exec
  have hb := B.bytes
  have hr := B.returns
  have hts := atoms_spec (ws := wsJ7_fill_d0a16) B.pre
  have hown : s.vm.findClass RJ7 = some m.cls := findClass_of_methodNamed B.named
  have hlocks := B.notSynchronized
  subst hsz
  have hD := hD0.self (sz := s.heap.size)
  have hA : ∀ q : Nat, s.heap.size ≤ q → va_A ([(qr, .inl (T.2.2, 32, .inr (.inl ur)))]) s.heap.size q := fun q h => Or.inr h
  have hS : va_S (va_A ([(qr, .inl (T.2.2, 32, .inr (.inl ur)))]) s.heap.size) s.heap s.heap [] := va_S.rf
  have hl := lv_entry ([.ref qr, .long p1]) (n := 5) (Nat.le_of_ble_eq_true rfl)
  rw [lg_entry_eq]
  generalize (lg_sl ([.ref qr, .long p1]) ++ List.replicate (5 - (lg_sl ([.ref qr, .long p1])).length) Slot.unset).toArray = ls at hl ⊢
  have hl : lv_has ls 5 [(0, .ref qr), (1, .long p1)] := hl
  have L6 : ∀ (n6 : Nat), ∀ (vr : Nat → Int64) (x1 : Int64) (x3 : Int32) (x4 : Int32) (H : Heap) (locs : List Loc) (ls : Array Slot), fJ7_fill_d0a16_L6  n6 vr x1 x3 x4 = some res → va_P D vwCl ([(qr, .inl (T.2.2, 32, .inr (.inl vr)))]) H → va_D (va_A ([(qr, .inl (T.2.2, 32, .inr (.inl ur)))]) s.heap.size) ([(qr, .inl (T.2.2, 32, .inr (.inl vr)))]) → va_S (va_A ([(qr, .inl (T.2.2, 32, .inr (.inl ur)))]) s.heap.size) s.heap H locs → lv_has ls 5 [(0, .ref qr), (1, .long x1), (3, .int x3), (4, .int x4)] → W p l e (headSpec wsJ7_fill_d0a16 ({ frames := 0, cells := 0, slots := 0, locals := 0 })).room s m ([.ref qr, .long p1] : List Value).toArray below meth c H locs 0 0 (MQ below (QMv D ([(qr, .inl (T.2.2, 32, .inr (.inl ur)))]) s.heap.size ([(qr, .inl (T.2.2, 32, .inr (.inl res)))])) ([.ref qr, .long p1] : List Value).toArray s 0 0 (va_A ([(qr, .inl (T.2.2, 32, .inr (.inl ur)))]) s.heap.size)) (F0 m 6 ls []) := by
    intro n6
    induction n6 with
    | zero => intro vr x1 x3 x4 H locs ls hf; exact nns hf
    | succ n6 ih6 =>
      intro vr x1 x3 x4 H locs ls hf hP hD hS hl
      replace hf : bJ7_fill_d0a16_L6  (fJ7_fill_d0a16_L6  n6) vr x1 x3 x4 = some res := hf
      unfold bJ7_fill_d0a16_L6 at hf
      refine lv_iload_n hx hb dJ7_fill_d0a16_6 rfl (lv_at hl 2 rfl) ?_
      refine lv_iload hx hb dJ7_fill_d0a16_7 (lv_at hl 3 rfl) ?_
      refine lv_icmp_ge (tgt := 22) hx hb dJ7_fill_d0a16_9 (by decide) (fun c1 => ?_) (fun c1 => ?_)
      · replace hf := ifp c1 hf
        have e9 := Option.some.inj hf
        exact retMv hx hb hr hlocks hP hD hS (congrArg (fun z => ([(qr, .inl (T.2.2, 32, .inr (.inl z)))] : va_W)) e9) dJ7_fill_d0a16_22
      replace hf := ifn c1 hf
      refine lv_aload_n hx hb dJ7_fill_d0a16_12 rfl (lv_at hl 0 rfl) ?_
      refine lv_iload_n hx hb dJ7_fill_d0a16_13 rfl (lv_at hl 2 rfl) ?_
      refine lv_lload_n hx hb dJ7_fill_d0a16_14 rfl (lv_at hl 1 rfl) ?_
      obtain ⟨h4, hf⟩ := gd_e hf
      obtain ⟨u2, eu2, hf⟩ := lett_e hf
      refine va_last hx hb hK.1 hP hD hS 0 2 rfl rfl h4 dJ7_fill_d0a16_15 (fun H locs hP hD hS => ?_)
      have hP : va_P D vwCl ([(qr, .inl (T.2.2, 32, .inr (.inl u2)))]) H := by rw [eu2]; exact hP
      have hD : va_D (va_A ([(qr, .inl (T.2.2, 32, .inr (.inl ur)))]) s.heap.size) ([(qr, .inl (T.2.2, 32, .inr (.inl u2)))]) := by rw [eu2]; exact hD
      obtain ⟨t3, et3, hf⟩ := lett_e hf
      refine lv_iinc (v := t3) (lv' := [(3, .int t3), (0, .ref qr), (1, .long x1), (4, .int x4)]) hx hb dJ7_fill_d0a16_16 hl (k := 2) rfl (by rw [et3]; rfl) (by decide) rfl (fun ls hl => ?_)
      refine lv_goto (tgt := 6) hx hb dJ7_fill_d0a16_19 (by decide) ?_
      exact ih6 u2 x1 t3 x4 _ _ _ hf hP hD hS (lv_sub hl [1, 2, 0, 3] rfl)
  unfold fJ7_fill_d0a16 at hf
  refine lv_iconst (v := 0) hx hb dJ7_fill_d0a16_0 (by decide) ?_
  refine lv_istore_n (lv' := [(3, .int 0), (0, .ref qr), (1, .long p1)]) hx hb dJ7_fill_d0a16_1 rfl hl (by decide) rfl (fun ls hl => ?_)
  refine lv_aload_n hx hb dJ7_fill_d0a16_2 rfl (lv_at hl 1 rfl) ?_
  refine va_alen (v := 32) hx hb hK.1 hP 0 2 rfl rfl rfl dJ7_fill_d0a16_3 ?_
  refine lv_istore (lv' := [(4, .int 32), (3, .int 0), (0, .ref qr), (1, .long p1)]) hx hb dJ7_fill_d0a16_4 hl (by decide) rfl (fun ls hl => ?_)
  exact L6 FU ur p1 0 32 _ _ _ hf hP hD hS (lv_sub hl [2, 3, 1, 0] rfl)
def bJ7_fill_53178_L5   (lp5 : (Nat → Int32) → Int32 → Int32 → Int32 → Option ((Nat → Int32))) (vr : Nat → Int32) (x1 : Int32) (x2 : Int32) (x3 : Int32) : Option ((Nat → Int32)) := if x3 ≤ x2 then some vr else gd x2 16 <| lett (upd vr (ix x2) x1) fun u2 => lett (x2 + 1) fun t3 => lp5 u2 x1 t3 x3
def fJ7_fill_53178_L5   : Nat → (Nat → Int32) → Int32 → Int32 → Int32 → Option ((Nat → Int32))
  | 0, _, _, _, _ => none
  | n + 1, vr, x1, x2, x3 => bJ7_fill_53178_L5  (fJ7_fill_53178_L5  n) vr x1 x2 x3
def fJ7_fill_53178  (ur : Nat → Int32) (p1 : Int32) : Option ((Nat → Int32)) := fJ7_fill_53178_L5 FU ur p1 0 16
set_option maxHeartbeats 4000000 in
set_option maxRecDepth 100000 in
theorem mJ7_fill_53178 (l : Launch) (D : va_G) (T : Ty3) (qr : Nat) (ur : Nat → Int32) (sz : Nat) (p1 : Int32) (res : (Nat → Int32)) (hf : fJ7_fill_53178 ur p1 = some res) : Met l yJ7_fill_53178 wsJ7_fill_53178 ({ frames := 0, cells := 0, slots := 0, locals := 0 }) (PcM D T ([(qr, .inl (T.1, 16, .inl ur))]) sz [.ref qr, .int p1]) (QMv D ([(qr, .inl (T.1, 16, .inl ur))]) sz ([(qr, .inl (T.1, 16, .inl res))])) 0 0 (va_A ([(qr, .inl (T.1, 16, .inl ur))]) sz) := by
  refine Met.ofW (cc := cJ7_fill_53178) (maxL := 4) (ret := none) (by decide) rfl ?_
  intro p e s m args below meth c s₁ B hml hv
  obtain ⟨rfl, hsz, hP, hK, hD0⟩ := hv
  have hx := B.exec
  have hb := B.bytes
  have hr := B.returns
  have hts := atoms_spec (ws := wsJ7_fill_53178) B.pre
  have hown : s.vm.findClass RJ7 = some m.cls := findClass_of_methodNamed B.named
  have hlocks := B.notSynchronized
  subst hsz
  have hD := hD0.self (sz := s.heap.size)
  have hA : ∀ q : Nat, s.heap.size ≤ q → va_A ([(qr, .inl (T.1, 16, .inl ur))]) s.heap.size q := fun q h => Or.inr h
  have hS : va_S (va_A ([(qr, .inl (T.1, 16, .inl ur))]) s.heap.size) s.heap s.heap [] := va_S.rf
  have hl := lv_entry ([.ref qr, .int p1]) (n := 4) (Nat.le_of_ble_eq_true rfl)
  rw [lg_entry_eq]
  generalize (lg_sl ([.ref qr, .int p1]) ++ List.replicate (4 - (lg_sl ([.ref qr, .int p1])).length) Slot.unset).toArray = ls at hl ⊢
  have hl : lv_has ls 4 [(0, .ref qr), (1, .int p1)] := hl
  have L5 : ∀ (n5 : Nat), ∀ (vr : Nat → Int32) (x1 : Int32) (x2 : Int32) (x3 : Int32) (H : Heap) (locs : List Loc) (ls : Array Slot), fJ7_fill_53178_L5  n5 vr x1 x2 x3 = some res → va_P D vwCl ([(qr, .inl (T.1, 16, .inl vr))]) H → va_D (va_A ([(qr, .inl (T.1, 16, .inl ur))]) s.heap.size) ([(qr, .inl (T.1, 16, .inl vr))]) → va_S (va_A ([(qr, .inl (T.1, 16, .inl ur))]) s.heap.size) s.heap H locs → lv_has ls 4 [(0, .ref qr), (1, .int x1), (2, .int x2), (3, .int x3)] → W p l e (headSpec wsJ7_fill_53178 ({ frames := 0, cells := 0, slots := 0, locals := 0 })).room s m ([.ref qr, .int p1] : List Value).toArray below meth c H locs 0 0 (MQ below (QMv D ([(qr, .inl (T.1, 16, .inl ur))]) s.heap.size ([(qr, .inl (T.1, 16, .inl res))])) ([.ref qr, .int p1] : List Value).toArray s 0 0 (va_A ([(qr, .inl (T.1, 16, .inl ur))]) s.heap.size)) (F0 m 5 ls []) := by
    intro n5
    induction n5 with
    | zero => intro vr x1 x2 x3 H locs ls hf; exact nns hf
    | succ n5 ih5 =>
      intro vr x1 x2 x3 H locs ls hf hP hD hS hl
      replace hf : bJ7_fill_53178_L5  (fJ7_fill_53178_L5  n5) vr x1 x2 x3 = some res := hf
      unfold bJ7_fill_53178_L5 at hf
      refine lv_iload_n hx hb dJ7_fill_53178_5 rfl (lv_at hl 2 rfl) ?_
      refine lv_iload_n hx hb dJ7_fill_53178_6 rfl (lv_at hl 3 rfl) ?_
      refine lv_icmp_ge (tgt := 20) hx hb dJ7_fill_53178_7 (by decide) (fun c1 => ?_) (fun c1 => ?_)
      · replace hf := ifp c1 hf
        have e9 := Option.some.inj hf
        exact retMv hx hb hr hlocks hP hD hS (congrArg (fun z => ([(qr, .inl (T.1, 16, .inl z))] : va_W)) e9) dJ7_fill_53178_20
      replace hf := ifn c1 hf
      refine lv_aload_n hx hb dJ7_fill_53178_10 rfl (lv_at hl 0 rfl) ?_
      refine lv_iload_n hx hb dJ7_fill_53178_11 rfl (lv_at hl 2 rfl) ?_
      refine lv_iload_n hx hb dJ7_fill_53178_12 rfl (lv_at hl 1 rfl) ?_
      obtain ⟨h4, hf⟩ := gd_e hf
      obtain ⟨u2, eu2, hf⟩ := lett_e hf
      refine va_iast hx hb hK.1 hP hD hS 0 0 rfl rfl h4 dJ7_fill_53178_13 (fun H locs hP hD hS => ?_)
      have hP : va_P D vwCl ([(qr, .inl (T.1, 16, .inl u2))]) H := by rw [eu2]; exact hP
      have hD : va_D (va_A ([(qr, .inl (T.1, 16, .inl ur))]) s.heap.size) ([(qr, .inl (T.1, 16, .inl u2))]) := by rw [eu2]; exact hD
      obtain ⟨t3, et3, hf⟩ := lett_e hf
      refine lv_iinc (v := t3) (lv' := [(2, .int t3), (0, .ref qr), (1, .int x1), (3, .int x3)]) hx hb dJ7_fill_53178_14 hl (k := 2) rfl (by rw [et3]; rfl) (by decide) rfl (fun ls hl => ?_)
      refine lv_goto (tgt := 5) hx hb dJ7_fill_53178_17 (by decide) ?_
      exact ih5 u2 x1 t3 x3 _ _ _ hf hP hD hS (lv_sub hl [1, 2, 0, 3] rfl)
  unfold fJ7_fill_53178 at hf
  refine lv_iconst (v := 0) hx hb dJ7_fill_53178_0 (by decide) ?_
  refine lv_istore_n (lv' := [(2, .int 0), (0, .ref qr), (1, .int p1)]) hx hb dJ7_fill_53178_1 rfl hl (by decide) rfl (fun ls hl => ?_)
  refine lv_aload_n hx hb dJ7_fill_53178_2 rfl (lv_at hl 1 rfl) ?_
  refine va_alen (v := 16) hx hb hK.1 hP 0 0 rfl rfl rfl dJ7_fill_53178_3 ?_
  refine lv_istore_n (lv' := [(3, .int 16), (2, .int 0), (0, .ref qr), (1, .int p1)]) hx hb dJ7_fill_53178_4 rfl hl (by decide) rfl (fun ls hl => ?_)
  exact L5 FU ur p1 0 16 _ _ _ hf hP hD hS (lv_sub hl [2, 3, 1, 0] rfl)
def bX0_addUp_L15 (uw : Nat → Int32) (lp6 : (Nat → Int32) → Int32 → Int32 → Option ((Nat → Int32))) (lp15 : (Nat → Int32) → Int32 → Int32 → Int32 → Option ((Nat → Int32))) (vs : Nat → Int32) (x2 : Int32) (x3 : Int32) (x4 : Int32) : Option ((Nat → Int32)) := if (jshl 1 x3) ≤ x4 then lett (x3 + 1) fun t2 => lp6 vs x2 t2 else gd x4 256 <| gd (x2 + x3) 16 <| gd ((jshl 1 x3) + x4) 256 <| lett (upd vs (ix ((jshl 1 x3) + x4)) ((vs (ix x4)) + (uw (ix (x2 + x3))))) fun u3 => lett (x4 + 1) fun t4 => lp15 u3 x2 x3 t4
def fX0_addUp_L15 (uw : Nat → Int32) (lp6 : (Nat → Int32) → Int32 → Int32 → Option ((Nat → Int32))) : Nat → (Nat → Int32) → Int32 → Int32 → Int32 → Option ((Nat → Int32))
  | 0, _, _, _, _ => none
  | n + 1, vs, x2, x3, x4 => bX0_addUp_L15 uw lp6 (fX0_addUp_L15 uw lp6 n) vs x2 x3 x4
def bX0_addUp_L6 (uw : Nat → Int32)  (lp6 : (Nat → Int32) → Int32 → Int32 → Option ((Nat → Int32))) (vs : Nat → Int32) (x2 : Int32) (x3 : Int32) : Option ((Nat → Int32)) := if 8 ≤ x3 then some vs else fX0_addUp_L15 uw lp6 FU vs x2 x3 0
def fX0_addUp_L6 (uw : Nat → Int32)  : Nat → (Nat → Int32) → Int32 → Int32 → Option ((Nat → Int32))
  | 0, _, _, _ => none
  | n + 1, vs, x2, x3 => bX0_addUp_L6 uw (fX0_addUp_L6 uw n) vs x2 x3
def fX0_addUp  (us : Nat → Int32) (uw : Nat → Int32) (p2 : Int32) : Option ((Nat → Int32)) := gd 0 256 <| lett (upd us (ix 0) 0) fun u9 => fX0_addUp_L6 uw FU u9 p2 0
set_option maxHeartbeats 4000000 in
set_option maxRecDepth 100000 in
theorem mX0_addUp (l : Launch) (D : va_G) (T : Ty3) (qs : Nat) (us : Nat → Int32) (qw : Nat) (uw : Nat → Int32) (sz : Nat) (p2 : Int32) (res : (Nat → Int32)) (hf : fX0_addUp us uw p2 = some res) : Met l yX0_addUp wsX0_addUp ({ frames := 0, cells := 0, slots := 0, locals := 0 }) (PcM D T ([(qs, .inl (T.1, 256, .inl us))] ++ [(qw, .inl (T.1, 16, .inl uw))]) sz [.ref qs, .ref qw, .int p2]) (QMv D ([(qs, .inl (T.1, 256, .inl us))] ++ [(qw, .inl (T.1, 16, .inl uw))]) sz ([(qs, .inl (T.1, 256, .inl res))] ++ [(qw, .inl (T.1, 16, .inl uw))])) 0 0 (va_A ([(qs, .inl (T.1, 256, .inl us))] ++ [(qw, .inl (T.1, 16, .inl uw))]) sz) := by
  refine Met.ofW (cc := cX0_addUp) (maxL := 5) (ret := none) (by decide) rfl ?_
  intro p e s m args below meth c s₁ B hml hv
  obtain ⟨rfl, hsz, hP, hK, hD0⟩ := hv
  have hx := B.exec
  have hb := B.bytes
  have hr := B.returns
  have hts := atoms_spec (ws := wsX0_addUp) B.pre
  have hown : s.vm.findClass RX0 = some m.cls := findClass_of_methodNamed B.named
  have hlocks := B.notSynchronized
  subst hsz
  have hD := hD0.self (sz := s.heap.size)
  have hA : ∀ q : Nat, s.heap.size ≤ q → va_A ([(qs, .inl (T.1, 256, .inl us))] ++ [(qw, .inl (T.1, 16, .inl uw))]) s.heap.size q := fun q h => Or.inr h
  have hS : va_S (va_A ([(qs, .inl (T.1, 256, .inl us))] ++ [(qw, .inl (T.1, 16, .inl uw))]) s.heap.size) s.heap s.heap [] := va_S.rf
  have hl := lv_entry ([.ref qs, .ref qw, .int p2]) (n := 5) (Nat.le_of_ble_eq_true rfl)
  rw [lg_entry_eq]
  generalize (lg_sl ([.ref qs, .ref qw, .int p2]) ++ List.replicate (5 - (lg_sl ([.ref qs, .ref qw, .int p2])).length) Slot.unset).toArray = ls at hl ⊢
  have hl : lv_has ls 5 [(0, .ref qs), (1, .ref qw), (2, .int p2)] := hl
  have L6 : ∀ (n6 : Nat), ∀ (vs : Nat → Int32) (x2 : Int32) (x3 : Int32) (H : Heap) (locs : List Loc) (ls : Array Slot), fX0_addUp_L6 uw n6 vs x2 x3 = some res → va_P D vwCl ([(qs, .inl (T.1, 256, .inl vs))] ++ [(qw, .inl (T.1, 16, .inl uw))]) H → va_D (va_A ([(qs, .inl (T.1, 256, .inl us))] ++ [(qw, .inl (T.1, 16, .inl uw))]) s.heap.size) ([(qs, .inl (T.1, 256, .inl vs))] ++ [(qw, .inl (T.1, 16, .inl uw))]) → va_S (va_A ([(qs, .inl (T.1, 256, .inl us))] ++ [(qw, .inl (T.1, 16, .inl uw))]) s.heap.size) s.heap H locs → lv_has ls 5 [(0, .ref qs), (1, .ref qw), (2, .int x2), (3, .int x3)] → W p l e (headSpec wsX0_addUp ({ frames := 0, cells := 0, slots := 0, locals := 0 })).room s m ([.ref qs, .ref qw, .int p2] : List Value).toArray below meth c H locs 0 0 (MQ below (QMv D ([(qs, .inl (T.1, 256, .inl us))] ++ [(qw, .inl (T.1, 16, .inl uw))]) s.heap.size ([(qs, .inl (T.1, 256, .inl res))] ++ [(qw, .inl (T.1, 16, .inl uw))])) ([.ref qs, .ref qw, .int p2] : List Value).toArray s 0 0 (va_A ([(qs, .inl (T.1, 256, .inl us))] ++ [(qw, .inl (T.1, 16, .inl uw))]) s.heap.size)) (F0 m 6 ls []) := by
    intro n6
    induction n6 with
    | zero => intro vs x2 x3 H locs ls hf; exact nns hf
    | succ n6 ih6 =>
      have L15 : ∀ (n15 : Nat), ∀ (vs : Nat → Int32) (x2 : Int32) (x3 : Int32) (x4 : Int32) (H : Heap) (locs : List Loc) (ls : Array Slot), fX0_addUp_L15 uw (fX0_addUp_L6 uw n6) n15 vs x2 x3 x4 = some res → va_P D vwCl ([(qs, .inl (T.1, 256, .inl vs))] ++ [(qw, .inl (T.1, 16, .inl uw))]) H → va_D (va_A ([(qs, .inl (T.1, 256, .inl us))] ++ [(qw, .inl (T.1, 16, .inl uw))]) s.heap.size) ([(qs, .inl (T.1, 256, .inl vs))] ++ [(qw, .inl (T.1, 16, .inl uw))]) → va_S (va_A ([(qs, .inl (T.1, 256, .inl us))] ++ [(qw, .inl (T.1, 16, .inl uw))]) s.heap.size) s.heap H locs → lv_has ls 5 [(0, .ref qs), (1, .ref qw), (2, .int x2), (3, .int x3), (4, .int x4)] → W p l e (headSpec wsX0_addUp ({ frames := 0, cells := 0, slots := 0, locals := 0 })).room s m ([.ref qs, .ref qw, .int p2] : List Value).toArray below meth c H locs 0 0 (MQ below (QMv D ([(qs, .inl (T.1, 256, .inl us))] ++ [(qw, .inl (T.1, 16, .inl uw))]) s.heap.size ([(qs, .inl (T.1, 256, .inl res))] ++ [(qw, .inl (T.1, 16, .inl uw))])) ([.ref qs, .ref qw, .int p2] : List Value).toArray s 0 0 (va_A ([(qs, .inl (T.1, 256, .inl us))] ++ [(qw, .inl (T.1, 16, .inl uw))]) s.heap.size)) (F0 m 15 ls []) := by
        intro n15
        induction n15 with
        | zero => intro vs x2 x3 x4 H locs ls hf; exact nns hf
        | succ n15 ih15 =>
          intro vs x2 x3 x4 H locs ls hf hP hD hS hl
          replace hf : bX0_addUp_L15 uw (fX0_addUp_L6 uw n6) (fX0_addUp_L15 uw (fX0_addUp_L6 uw n6) n15) vs x2 x3 x4 = some res := hf
          unfold bX0_addUp_L15 at hf
          refine lv_iload hx hb dX0_addUp_15 (lv_at hl 4 rfl) ?_
          refine lv_iconst (v := 1) hx hb dX0_addUp_17 (by decide) ?_
          refine lv_iload_n hx hb dX0_addUp_18 rfl (lv_at hl 3 rfl) ?_
          refine lv_ishl hx hb dX0_addUp_19 ?_
          refine lv_icmp_ge (tgt := 47) hx hb dX0_addUp_20 (by decide) (fun c1 => ?_) (fun c1 => ?_)
          · replace hf := ifp c1 hf
            obtain ⟨t2, et2, hf⟩ := lett_e hf
            refine lv_iinc (v := t2) (lv' := [(3, .int t2), (0, .ref qs), (1, .ref qw), (2, .int x2), (4, .int x4)]) hx hb dX0_addUp_47 hl (k := 3) rfl (by rw [et2]; rfl) (by decide) rfl (fun ls hl => ?_)
            refine lv_goto (tgt := 6) hx hb dX0_addUp_50 (by decide) ?_
            exact ih6 vs x2 t2 _ _ _ hf hP hD hS (lv_sub hl [1, 2, 3, 0] rfl)
          replace hf := ifn c1 hf
          refine lv_aload_n hx hb dX0_addUp_23 rfl (lv_at hl 0 rfl) ?_
          refine lv_iconst (v := 1) hx hb dX0_addUp_24 (by decide) ?_
          refine lv_iload_n hx hb dX0_addUp_25 rfl (lv_at hl 3 rfl) ?_
          refine lv_ishl hx hb dX0_addUp_26 ?_
          refine lv_iload hx hb dX0_addUp_27 (lv_at hl 4 rfl) ?_
          refine lv_iadd hx hb dX0_addUp_29 ?_
          refine lv_aload_n hx hb dX0_addUp_30 rfl (lv_at hl 0 rfl) ?_
          refine lv_iload hx hb dX0_addUp_31 (lv_at hl 4 rfl) ?_
          obtain ⟨h7, hf⟩ := gd_e hf
          refine va_iald hx hb hK.1 hP 0 0 rfl rfl h7 dX0_addUp_33 ?_
          refine lv_aload_n hx hb dX0_addUp_34 rfl (lv_at hl 1 rfl) ?_
          refine lv_iload_n hx hb dX0_addUp_35 rfl (lv_at hl 2 rfl) ?_
          refine lv_iload_n hx hb dX0_addUp_36 rfl (lv_at hl 3 rfl) ?_
          refine lv_iadd hx hb dX0_addUp_37 ?_
          obtain ⟨h6, hf⟩ := gd_e hf
          refine va_iald hx hb hK.1 hP 1 0 rfl rfl h6 dX0_addUp_38 ?_
          refine lv_iadd hx hb dX0_addUp_39 ?_
          obtain ⟨h5, hf⟩ := gd_e hf
          obtain ⟨u3, eu3, hf⟩ := lett_e hf
          refine va_iast hx hb hK.1 hP hD hS 0 0 rfl rfl h5 dX0_addUp_40 (fun H locs hP hD hS => ?_)
          have hP : va_P D vwCl ([(qs, .inl (T.1, 256, .inl u3))] ++ [(qw, .inl (T.1, 16, .inl uw))]) H := by rw [eu3]; exact hP
          have hD : va_D (va_A ([(qs, .inl (T.1, 256, .inl us))] ++ [(qw, .inl (T.1, 16, .inl uw))]) s.heap.size) ([(qs, .inl (T.1, 256, .inl u3))] ++ [(qw, .inl (T.1, 16, .inl uw))]) := by rw [eu3]; exact hD
          obtain ⟨t4, et4, hf⟩ := lett_e hf
          refine lv_iinc (v := t4) (lv' := [(4, .int t4), (0, .ref qs), (1, .ref qw), (2, .int x2), (3, .int x3)]) hx hb dX0_addUp_41 hl (k := 4) rfl (by rw [et4]; rfl) (by decide) rfl (fun ls hl => ?_)
          refine lv_goto (tgt := 15) hx hb dX0_addUp_44 (by decide) ?_
          exact ih15 u3 x2 x3 t4 _ _ _ hf hP hD hS (lv_sub hl [1, 2, 3, 4, 0] rfl)
      intro vs x2 x3 H locs ls hf hP hD hS hl
      replace hf : bX0_addUp_L6 uw (fX0_addUp_L6 uw n6) vs x2 x3 = some res := hf
      unfold bX0_addUp_L6 at hf
      refine lv_iload_n hx hb dX0_addUp_6 rfl (lv_at hl 3 rfl) ?_
      refine lv_bipush (v := 8) hx hb dX0_addUp_7 (by decide) ?_
      refine lv_icmp_ge (tgt := 53) hx hb dX0_addUp_9 (by decide) (fun c8 => ?_) (fun c8 => ?_)
      · replace hf := ifp c8 hf
        have e9 := Option.some.inj hf
        exact retMv hx hb hr hlocks hP hD hS (congrArg (fun z => ([(qs, .inl (T.1, 256, .inl z))] ++ [(qw, .inl (T.1, 16, .inl uw))] : va_W)) e9) dX0_addUp_53
      replace hf := ifn c8 hf
      refine lv_iconst (v := 0) hx hb dX0_addUp_12 (by decide) ?_
      refine lv_istore (lv' := [(4, .int 0), (0, .ref qs), (1, .ref qw), (2, .int x2), (3, .int x3)]) hx hb dX0_addUp_13 hl (by decide) rfl (fun ls hl => ?_)
      exact L15 FU vs x2 x3 0 _ _ _ hf hP hD hS (lv_sub hl [1, 2, 3, 4, 0] rfl)
  unfold fX0_addUp at hf
  refine lv_aload_n hx hb dX0_addUp_0 rfl (lv_at hl 0 rfl) ?_
  refine lv_iconst (v := 0) hx hb dX0_addUp_1 (by decide) ?_
  refine lv_iconst (v := 0) hx hb dX0_addUp_2 (by decide) ?_
  obtain ⟨h10, hf⟩ := gd_e hf
  obtain ⟨u9, eu9, hf⟩ := lett_e hf
  refine va_iast hx hb hK.1 hP hD hS 0 0 rfl rfl h10 dX0_addUp_3 (fun H locs hP hD hS => ?_)
  have hP : va_P D vwCl ([(qs, .inl (T.1, 256, .inl u9))] ++ [(qw, .inl (T.1, 16, .inl uw))]) H := by rw [eu9]; exact hP
  have hD : va_D (va_A ([(qs, .inl (T.1, 256, .inl us))] ++ [(qw, .inl (T.1, 16, .inl uw))]) s.heap.size) ([(qs, .inl (T.1, 256, .inl u9))] ++ [(qw, .inl (T.1, 16, .inl uw))]) := by rw [eu9]; exact hD
  refine lv_iconst (v := 0) hx hb dX0_addUp_4 (by decide) ?_
  refine lv_istore_n (lv' := [(3, .int 0), (0, .ref qs), (1, .ref qw), (2, .int p2)]) hx hb dX0_addUp_5 rfl hl (by decide) rfl (fun ls hl => ?_)
  exact L6 FU u9 p2 0 _ _ _ hf hP hD hS (lv_sub hl [1, 2, 3, 0] rfl)
def fX0_weigh  (u : St) (uw : Nat → Int32)  : Option (St) := (fX0_addUp (u 0) uw 0).bind fun z1 => lett (sa u 0 z1) fun u2 => (fX0_addUp (u2 1) uw 8).bind fun z3 => lett (sa u2 1 z3) fun u4 => some u4
set_option maxHeartbeats 4000000 in
set_option maxRecDepth 100000 in
theorem mX0_weigh (l : Launch) (D : va_G) (T : Ty3) (h : Nat) (a : Nat → Nat) (u : St) (qw : Nat) (uw : Nat → Int32) (sz : Nat)  (res : St) (hf : fX0_weigh u uw = some res) : Met l yX0_weigh wsX0_weigh ({ frames := 1, cells := 0, slots := 0, locals := 24 }) (PcM D T (kX0 T h a u ++ [(qw, .inl (T.1, 16, .inl uw))]) sz [.ref h, .ref qw]) (QMv D (kX0 T h a u ++ [(qw, .inl (T.1, 16, .inl uw))]) sz (kX0 T h a res ++ [(qw, .inl (T.1, 16, .inl uw))])) 0 0 (va_A (kX0 T h a u ++ [(qw, .inl (T.1, 16, .inl uw))]) sz) := by
  refine Met.ofW (cc := cX0_weigh) (maxL := 2) (ret := none) (by decide) rfl ?_
  intro p e s m args below meth c s₁ B hml hv
  obtain ⟨rfl, hsz, hP, hK, hD0⟩ := hv
  have hx := B.exec
  have hb := B.bytes
  have hr := B.returns
  have hts := atoms_spec (ws := wsX0_weigh) B.pre
  have hown : s.vm.findClass RX0 = some m.cls := findClass_of_methodNamed B.named
  have hlocks := B.notSynchronized
  subst hsz
  have hD := hD0.self (sz := s.heap.size)
  have hA : ∀ q : Nat, s.heap.size ≤ q → va_A (kX0 T h a u ++ [(qw, .inl (T.1, 16, .inl uw))]) s.heap.size q := fun q h => Or.inr h
  have hS : va_S (va_A (kX0 T h a u ++ [(qw, .inl (T.1, 16, .inl uw))]) s.heap.size) s.heap s.heap [] := va_S.rf
  have hinX0 : ∀ w ∈ u_ws RX0 TX0 6, w ∈ wsX0_weigh := fun w h => List.mem_cons_of_mem _ (List.mem_append_right _ h)
  have hl := lv_entry ([.ref h, .ref qw]) (n := 2) (Nat.le_of_ble_eq_true rfl)
  rw [lg_entry_eq]
  generalize (lg_sl ([.ref h, .ref qw]) ++ List.replicate (2 - (lg_sl ([.ref h, .ref qw])).length) Slot.unset).toArray = ls at hl ⊢
  have hl : lv_has ls 2 [(0, .ref h), (1, .ref qw)] := hl
  unfold fX0_weigh at hf
  refine lv_aload_n hx hb dX0_weigh_0 rfl (lv_at hl 0 rfl) ?_
  refine va_get (D := D) (ci := 0) (v := .ref (a 0)) (C := RX0) (T := TX0) (N := 6) hx hb hts hinX0 hown hK.1 hP 0 rfl rfl 0 (by decide) (hts (.fieldLink RX0 11 "RopeScale$Choices" "lower" "[I") (List.mem_of_getElem? (i := 1) rfl)) (fun _ h9 => h9) rfl dX0_weigh_1 ?_
  refine lv_aload_n hx hb dX0_weigh_4 rfl (lv_at hl 1 rfl) ?_
  refine lv_iconst (v := 0) hx hb dX0_weigh_5 (by decide) ?_
  obtain ⟨z1, hz1, hf⟩ := bnd hf
  have hPc := hP.sub (ws' := [(a 0, .inl (T.1, 256, .inl (u 0)))] ++ [(qw, .inl (T.1, 16, .inl uw))]) [1, 7] rfl
  have hDc := hD.sub (ws' := [(a 0, .inl (T.1, 256, .inl (u 0)))] ++ [(qw, .inl (T.1, 16, .inl uw))]) [1, 7] (by decide) rfl
  have hFc9 := va_free (wc := [(a 0, .inl (T.1, 256, .inl (u 0)))] ++ [(qw, .inl (T.1, 16, .inl uw))]) hD hS hA [1, 7] rfl
  refine cSMv (As := [.ref (a 0), .ref qw, .int 0]) (rest := []) ⟨hx, hb, hml, hown, hts⟩ (mX0_addUp l D T (a 0) (u 0) qw uw _ 0 z1 hz1) (va_cwS 3 hts gX0_weigh_X0_addUp rfl rfl rfl (by decide +kernel) ⟨Nat.le_of_ble_eq_true rfl, Nat.le_of_ble_eq_true rfl⟩) hPc hK rfl hl.1 rfl (Nat.le_of_ble_eq_true rfl) dX0_weigh_6 ⟨Nat.le_of_ble_eq_true rfl, Nat.le_of_ble_eq_true rfl⟩ hDc hFc9 hS (fun H9 locs hP1 hD1 hk1 hS => ?_)
  obtain ⟨hP, hD⟩ := putAll_P (w1 := [(a 0, .inl (T.1, 256, .inl z1))] ++ [(qw, .inl (T.1, 16, .inl uw))]) hP hD [1, 7] rfl (by decide) hk1 hP1 rfl
  generalize H9 = H at hP hS ⊢
  obtain ⟨u2, eu2, hf⟩ := lett_e hf
  have hP : va_P D vwCl (kX0 T h a u2 ++ [(qw, .inl (T.1, 16, .inl uw))]) H := by rw [eu2]; exact hP
  have hD : va_D (va_A (kX0 T h a u ++ [(qw, .inl (T.1, 16, .inl uw))]) s.heap.size) (kX0 T h a u2 ++ [(qw, .inl (T.1, 16, .inl uw))]) := by rw [eu2]; exact hD
  refine lv_aload_n hx hb dX0_weigh_9 rfl (lv_at hl 0 rfl) ?_
  refine va_get (D := D) (ci := 0) (v := .ref (a 1)) (C := RX0) (T := TX0) (N := 6) hx hb hts hinX0 hown hK.1 hP 0 rfl rfl 1 (by decide) (hts (.fieldLink RX0 15 "RopeScale$Choices" "upper" "[I") (List.mem_of_getElem? (i := 2) rfl)) (fun _ h9 => h9) rfl dX0_weigh_10 ?_
  refine lv_aload_n hx hb dX0_weigh_13 rfl (lv_at hl 1 rfl) ?_
  refine lv_bipush (v := 8) hx hb dX0_weigh_14 (by decide) ?_
  obtain ⟨z3, hz3, hf⟩ := bnd hf
  have hPc := hP.sub (ws' := [(a 1, .inl (T.1, 256, .inl (u2 1)))] ++ [(qw, .inl (T.1, 16, .inl uw))]) [2, 7] rfl
  have hDc := hD.sub (ws' := [(a 1, .inl (T.1, 256, .inl (u2 1)))] ++ [(qw, .inl (T.1, 16, .inl uw))]) [2, 7] (by decide) rfl
  have hFc9 := va_free (wc := [(a 1, .inl (T.1, 256, .inl (u2 1)))] ++ [(qw, .inl (T.1, 16, .inl uw))]) hD hS hA [2, 7] rfl
  refine cSMv (As := [.ref (a 1), .ref qw, .int 8]) (rest := []) ⟨hx, hb, hml, hown, hts⟩ (mX0_addUp l D T (a 1) (u2 1) qw uw _ 8 z3 hz3) (va_cwS 3 hts gX0_weigh_X0_addUp rfl rfl rfl (by decide +kernel) ⟨Nat.le_of_ble_eq_true rfl, Nat.le_of_ble_eq_true rfl⟩) hPc hK rfl hl.1 rfl (Nat.le_of_ble_eq_true rfl) dX0_weigh_16 ⟨Nat.le_of_ble_eq_true rfl, Nat.le_of_ble_eq_true rfl⟩ hDc hFc9 hS (fun H9 locs hP1 hD1 hk1 hS => ?_)
  obtain ⟨hP, hD⟩ := putAll_P (w1 := [(a 1, .inl (T.1, 256, .inl z3))] ++ [(qw, .inl (T.1, 16, .inl uw))]) hP hD [2, 7] rfl (by decide) hk1 hP1 rfl
  generalize H9 = H at hP hS ⊢
  obtain ⟨u4, eu4, hf⟩ := lett_e hf
  have hP : va_P D vwCl (kX0 T h a u4 ++ [(qw, .inl (T.1, 16, .inl uw))]) H := by rw [eu4]; exact hP
  have hD : va_D (va_A (kX0 T h a u ++ [(qw, .inl (T.1, 16, .inl uw))]) s.heap.size) (kX0 T h a u4 ++ [(qw, .inl (T.1, 16, .inl uw))]) := by rw [eu4]; exact hD
  have e9 := Option.some.inj hf
  exact retMv hx hb hr hlocks hP hD hS (congrArg (fun z => (kX0 T h a z ++ [(qw, .inl (T.1, 16, .inl uw))] : va_W)) e9) dX0_weigh_19
def fX0_sum  (u : St) (p1 : Int32) : Option (Int32) := gd (p1 &&& 255) 256 <| gd ((jshr p1 8) &&& 255) 256 <| some ((u 0 (ix (p1 &&& 255))) + (u 1 (ix ((jshr p1 8) &&& 255))))
set_option maxHeartbeats 4000000 in
set_option maxRecDepth 100000 in
theorem mX0_sum (l : Launch) (D : va_G) (T : Ty3) (h : Nat) (a : Nat → Nat) (u : St) (p1 : Int32) (res : Int32) (hf : fX0_sum u p1 = some res) : Met l yX0_sum wsX0_sum ({ frames := 0, cells := 0, slots := 0, locals := 0 }) (PcR D T (kX0 T h a u) [.ref h, .int p1]) (QR res) 0 0 noA := by
  refine Met.ofW (cc := cX0_sum) (maxL := 2) (ret := (some .int)) (by decide) rfl ?_
  intro p e s m args below meth c s₁ B hml hv
  obtain ⟨rfl, hP, hK⟩ := hv
  have hx := B.exec
  have hb := B.bytes
  have hr := B.returns
  have hts := atoms_spec (ws := wsX0_sum) B.pre
  have hown : s.vm.findClass RX0 = some m.cls := findClass_of_methodNamed B.named
  have hlocks := B.notSynchronized
  have hS : va_S noA s.heap s.heap [] := va_S.rf
  have hinX0 : ∀ w ∈ u_ws RX0 TX0 6, w ∈ wsX0_sum := fun w h => List.mem_cons_of_mem _ (List.mem_append_right _ h)
  have hl := lv_entry ([.ref h, .int p1]) (n := 2) (Nat.le_of_ble_eq_true rfl)
  rw [lg_entry_eq]
  generalize (lg_sl ([.ref h, .int p1]) ++ List.replicate (2 - (lg_sl ([.ref h, .int p1])).length) Slot.unset).toArray = ls at hl ⊢
  have hl : lv_has ls 2 [(0, .ref h), (1, .int p1)] := hl
  unfold fX0_sum at hf
  refine lv_aload_n hx hb dX0_sum_0 rfl (lv_at hl 0 rfl) ?_
  refine va_get (D := D) (ci := 0) (v := .ref (a 0)) (C := RX0) (T := TX0) (N := 6) hx hb hts hinX0 hown hK.1 hP 0 rfl rfl 0 (by decide) (hts (.fieldLink RX0 11 "RopeScale$Choices" "lower" "[I") (List.mem_of_getElem? (i := 1) rfl)) (fun _ h9 => h9) rfl dX0_sum_1 ?_
  refine lv_iload_n hx hb dX0_sum_4 rfl (lv_at hl 1 rfl) ?_
  refine lv_sipush (v := 255) hx hb dX0_sum_5 (by decide) ?_
  refine lv_iand hx hb dX0_sum_8 ?_
  obtain ⟨h2, hf⟩ := gd_e hf
  refine va_iald hx hb hK.1 hP 1 0 rfl rfl h2 dX0_sum_9 ?_
  refine lv_aload_n hx hb dX0_sum_10 rfl (lv_at hl 0 rfl) ?_
  refine va_get (D := D) (ci := 0) (v := .ref (a 1)) (C := RX0) (T := TX0) (N := 6) hx hb hts hinX0 hown hK.1 hP 0 rfl rfl 1 (by decide) (hts (.fieldLink RX0 15 "RopeScale$Choices" "upper" "[I") (List.mem_of_getElem? (i := 2) rfl)) (fun _ h9 => h9) rfl dX0_sum_11 ?_
  refine lv_iload_n hx hb dX0_sum_14 rfl (lv_at hl 1 rfl) ?_
  refine lv_bipush (v := 8) hx hb dX0_sum_15 (by decide) ?_
  refine lv_ishr hx hb dX0_sum_17 ?_
  refine lv_sipush (v := 255) hx hb dX0_sum_18 (by decide) ?_
  refine lv_iand hx hb dX0_sum_21 ?_
  obtain ⟨h1, hf⟩ := gd_e hf
  refine va_iald hx hb hK.1 hP 2 0 rfl rfl h1 dX0_sum_22 ?_
  refine lv_iadd hx hb dX0_sum_23 ?_
  exact retR hx hb hr hlocks hS (Option.some.inj hf) dX0_sum_24
def fX0_setAfter   (p0 : Int32) (p1 : Int32) : (Int32) := (p0 - p1) &&& p1
set_option maxHeartbeats 4000000 in
set_option maxRecDepth 100000 in
theorem mX0_setAfter (l : Launch) (D : va_G) (T : Ty3)  (p0 : Int32) (p1 : Int32) (res : Int32) (hf : fX0_setAfter p0 p1 = res) : Met l yX0_setAfter wsX0_setAfter ({ frames := 0, cells := 0, slots := 0, locals := 0 }) (PcR D T ([]) [.int p0, .int p1]) (QR res) 0 0 noA := by
  refine Met.ofW (cc := cX0_setAfter) (maxL := 2) (ret := (some .int)) (by decide) rfl ?_
  intro p e s m args below meth c s₁ B hml hv
  obtain ⟨rfl, hP, hK⟩ := hv
  have hx := B.exec
  have hb := B.bytes
  have hr := B.returns
  have hts := atoms_spec (ws := wsX0_setAfter) B.pre
  have hown : s.vm.findClass RX0 = some m.cls := findClass_of_methodNamed B.named
  have hlocks := B.notSynchronized
  have hS : va_S noA s.heap s.heap [] := va_S.rf
  have hl := lv_entry ([.int p0, .int p1]) (n := 2) (Nat.le_of_ble_eq_true rfl)
  rw [lg_entry_eq]
  generalize (lg_sl ([.int p0, .int p1]) ++ List.replicate (2 - (lg_sl ([.int p0, .int p1])).length) Slot.unset).toArray = ls at hl ⊢
  have hl : lv_has ls 2 [(0, .int p0), (1, .int p1)] := hl
  unfold fX0_setAfter at hf
  refine lv_iload_n hx hb dX0_setAfter_0 rfl (lv_at hl 0 rfl) ?_
  refine lv_iload_n hx hb dX0_setAfter_1 rfl (lv_at hl 1 rfl) ?_
  refine lv_isub hx hb dX0_setAfter_2 ?_
  refine lv_iload_n hx hb dX0_setAfter_3 rfl (lv_at hl 1 rfl) ?_
  refine lv_iand hx hb dX0_setAfter_4 ?_
  exact retR hx hb hr hlocks hS hf dX0_setAfter_5
def fX0_nearest_J72  (lp19 : Int32 → Int32 → Int32 → Int32 → Int32 → Int32 → Int32 → Option (Int32)) (x1 : Int32) (x2 : Int32) (x3 : Int32) (x4 : Int32) (x5 : Int32) (x6 : Int32) (x7 : Int32) : Option (Int32) := lett (fX0_setAfter x6 x1) fun z1 => lett (x7 + 1) fun t2 => lp19 x1 x2 x3 x4 x5 z1 t2
def fX0_nearest_J65  (lp19 : Int32 → Int32 → Int32 → Int32 → Int32 → Int32 → Int32 → Option (Int32)) (x1 : Int32) (x2 : Int32) (x5 : Int32) (x6 : Int32) (x7 : Int32) (x8 : Int32) : Option (Int32) := fX0_nearest_J72 lp19 x1 x2 x6 x8 x5 x6 x7
def bX0_nearest_L19 (u : St)  (lp19 : Int32 → Int32 → Int32 → Int32 → Int32 → Int32 → Int32 → Option (Int32)) (x1 : Int32) (x2 : Int32) (x3 : Int32) (x4 : Int32) (x5 : Int32) (x6 : Int32) (x7 : Int32) : Option (Int32) := if x5 ≤ x7 then some x3 else (fX0_sum u x6).bind fun z4 => lett (ab (z4 - x2)) fun t5 => if t5 < x4 then fX0_nearest_J65 lp19 x1 x2 x5 x6 x7 t5 else if t5 = x4 then lett (fJ6_bitCount_0f7a4 x6) fun z8 => lett (fJ6_bitCount_0f7a4 x3) fun z9 => if z9 ≤ z8 then fX0_nearest_J72 lp19 x1 x2 x3 x4 x5 x6 x7 else fX0_nearest_J65 lp19 x1 x2 x5 x6 x7 t5 else fX0_nearest_J72 lp19 x1 x2 x3 x4 x5 x6 x7
def fX0_nearest_L19 (u : St)  : Nat → Int32 → Int32 → Int32 → Int32 → Int32 → Int32 → Int32 → Option (Int32)
  | 0, _, _, _, _, _, _, _ => none
  | n + 1, x1, x2, x3, x4, x5, x6, x7 => bX0_nearest_L19 u (fX0_nearest_L19 u n) x1 x2 x3 x4 x5 x6 x7
def fX0_nearest  (u : St) (p1 : Int32) (p2 : Int32) : Option (Int32) := lett (fJ6_bitCount_0f7a4 p1) fun z11 => lett (jshl 1 z11) fun t12 => fX0_nearest_L19 u FU p1 p2 0 p2 t12 0 0
set_option maxHeartbeats 4000000 in
set_option maxRecDepth 100000 in
theorem mX0_nearest (l : Launch) (D : va_G) (T : Ty3) (h : Nat) (a : Nat → Nat) (u : St) (p1 : Int32) (p2 : Int32) (res : Int32) (hf : fX0_nearest u p1 p2 = some res) : Met l yX0_nearest wsX0_nearest ({ frames := 1, cells := 0, slots := 0, locals := 21 }) (PcR D T (kX0 T h a u) [.ref h, .int p1, .int p2]) (QR res) 0 0 noA := by
  refine Met.ofW (cc := cX0_nearest) (maxL := 9) (ret := (some .int)) (by decide) rfl ?_
  intro p e s m args below meth c s₁ B hml hv
  obtain ⟨rfl, hP, hK⟩ := hv
  have hx := B.exec
  have hb := B.bytes
  have hr := B.returns
  have hts := atoms_spec (ws := wsX0_nearest) B.pre
  have hown : s.vm.findClass RX0 = some m.cls := findClass_of_methodNamed B.named
  have hlocks := B.notSynchronized
  have hS : va_S noA s.heap s.heap [] := va_S.rf
  have hinX0 : ∀ w ∈ u_ws RX0 TX0 6, w ∈ wsX0_nearest := fun w h => List.mem_cons_of_mem _ (List.mem_append_right _ h)
  have hl := lv_entry ([.ref h, .int p1, .int p2]) (n := 9) (Nat.le_of_ble_eq_true rfl)
  rw [lg_entry_eq]
  generalize (lg_sl ([.ref h, .int p1, .int p2]) ++ List.replicate (9 - (lg_sl ([.ref h, .int p1, .int p2])).length) Slot.unset).toArray = ls at hl ⊢
  have hl : lv_has ls 9 [(0, .ref h), (1, .int p1), (2, .int p2)] := hl
  have L19 : ∀ (n19 : Nat), ∀ (x1 : Int32) (x2 : Int32) (x3 : Int32) (x4 : Int32) (x5 : Int32) (x6 : Int32) (x7 : Int32) (H : Heap) (locs : List Loc) (ls : Array Slot), fX0_nearest_L19 u n19 x1 x2 x3 x4 x5 x6 x7 = some res → va_P D vwCl (kX0 T h a u) H → va_S noA s.heap H locs → lv_has ls 9 [(0, .ref h), (1, .int x1), (2, .int x2), (3, .int x3), (4, .int x4), (5, .int x5), (6, .int x6), (7, .int x7)] → W p l e (headSpec wsX0_nearest ({ frames := 1, cells := 0, slots := 0, locals := 21 })).room s m ([.ref h, .int p1, .int p2] : List Value).toArray below meth c H locs 0 0 (MQ below (QR res) ([.ref h, .int p1, .int p2] : List Value).toArray s 0 0 noA) (F0 m 19 ls []) := by
    intro n19
    induction n19 with
    | zero => intro x1 x2 x3 x4 x5 x6 x7 H locs ls hf; exact nns hf
    | succ n19 ih19 =>
      have J72 : ∀ (x1 : Int32) (x2 : Int32) (x3 : Int32) (x4 : Int32) (x5 : Int32) (x6 : Int32) (x7 : Int32) (H : Heap) (locs : List Loc) (ls : Array Slot), fX0_nearest_J72 (fX0_nearest_L19 u n19) x1 x2 x3 x4 x5 x6 x7 = some res → va_P D vwCl (kX0 T h a u) H → va_S noA s.heap H locs → lv_has ls 9 [(0, .ref h), (1, .int x1), (2, .int x2), (3, .int x3), (4, .int x4), (5, .int x5), (6, .int x6), (7, .int x7)] → W p l e (headSpec wsX0_nearest ({ frames := 1, cells := 0, slots := 0, locals := 21 })).room s m ([.ref h, .int p1, .int p2] : List Value).toArray below meth c H locs 0 0 (MQ below (QR res) ([.ref h, .int p1, .int p2] : List Value).toArray s 0 0 noA) (F0 m 72 ls []) := by
        intro x1 x2 x3 x4 x5 x6 x7 H locs ls hf hP hS hl
        unfold fX0_nearest_J72 at hf
        refine lv_iload hx hb dX0_nearest_72 (lv_at hl 6 rfl) ?_
        refine lv_iload_n hx hb dX0_nearest_74 rfl (lv_at hl 1 rfl) ?_
        obtain ⟨z1, hz1, hf⟩ := lett_e hf
        refine cSR (As := [.int x6, .int x1]) (rest := []) ⟨hx, hb, hml, hown, hts⟩ (mX0_setAfter l D T x6 x1 z1 hz1.symm) (va_cwS 2 hts gX0_nearest_X0_setAfter rfl rfl rfl (by decide +kernel) ⟨Nat.le_of_ble_eq_true rfl, Nat.le_of_ble_eq_true rfl⟩) P0 hK rfl hl.1 rfl (Nat.le_of_ble_eq_true rfl) dX0_nearest_75 ⟨Nat.le_of_ble_eq_true rfl, Nat.le_of_ble_eq_true rfl⟩ hP hS (fun H locs hP hS => ?_)
        refine lv_istore (lv' := [(6, .int z1), (0, .ref h), (1, .int x1), (2, .int x2), (3, .int x3), (4, .int x4), (5, .int x5), (7, .int x7)]) hx hb dX0_nearest_78 hl (by decide) rfl (fun ls hl => ?_)
        obtain ⟨t2, et2, hf⟩ := lett_e hf
        refine lv_iinc (v := t2) (lv' := [(7, .int t2), (6, .int z1), (0, .ref h), (1, .int x1), (2, .int x2), (3, .int x3), (4, .int x4), (5, .int x5)]) hx hb dX0_nearest_80 hl (k := 7) rfl (by rw [et2]; rfl) (by decide) rfl (fun ls hl => ?_)
        refine lv_goto (tgt := 19) hx hb dX0_nearest_83 (by decide) ?_
        exact ih19 x1 x2 x3 x4 x5 z1 t2 _ _ _ hf hP hS (lv_sub hl [2, 3, 4, 5, 6, 7, 1, 0] rfl)
      have J65 : ∀ (x1 : Int32) (x2 : Int32) (x5 : Int32) (x6 : Int32) (x7 : Int32) (x8 : Int32) (H : Heap) (locs : List Loc) (ls : Array Slot), fX0_nearest_J65 (fX0_nearest_L19 u n19) x1 x2 x5 x6 x7 x8 = some res → va_P D vwCl (kX0 T h a u) H → va_S noA s.heap H locs → lv_has ls 9 [(0, .ref h), (1, .int x1), (2, .int x2), (5, .int x5), (6, .int x6), (7, .int x7), (8, .int x8)] → W p l e (headSpec wsX0_nearest ({ frames := 1, cells := 0, slots := 0, locals := 21 })).room s m ([.ref h, .int p1, .int p2] : List Value).toArray below meth c H locs 0 0 (MQ below (QR res) ([.ref h, .int p1, .int p2] : List Value).toArray s 0 0 noA) (F0 m 65 ls []) := by
        intro x1 x2 x5 x6 x7 x8 H locs ls hf hP hS hl
        unfold fX0_nearest_J65 at hf
        refine lv_iload hx hb dX0_nearest_65 (lv_at hl 4 rfl) ?_
        refine lv_istore_n (lv' := [(3, .int x6), (0, .ref h), (1, .int x1), (2, .int x2), (5, .int x5), (6, .int x6), (7, .int x7), (8, .int x8)]) hx hb dX0_nearest_67 rfl hl (by decide) rfl (fun ls hl => ?_)
        refine lv_iload hx hb dX0_nearest_68 (lv_at hl 7 rfl) ?_
        refine lv_istore (lv' := [(4, .int x8), (3, .int x6), (0, .ref h), (1, .int x1), (2, .int x2), (5, .int x5), (6, .int x6), (7, .int x7), (8, .int x8)]) hx hb dX0_nearest_70 hl (by decide) rfl (fun ls hl => ?_)
        exact J72 x1 x2 x6 x8 x5 x6 x7 _ _ _ hf hP hS (lv_sub hl [2, 3, 4, 1, 0, 5, 6, 7] rfl)
      intro x1 x2 x3 x4 x5 x6 x7 H locs ls hf hP hS hl
      replace hf : bX0_nearest_L19 u (fX0_nearest_L19 u n19) x1 x2 x3 x4 x5 x6 x7 = some res := hf
      unfold bX0_nearest_L19 at hf
      refine lv_iload hx hb dX0_nearest_19 (lv_at hl 7 rfl) ?_
      refine lv_iload hx hb dX0_nearest_21 (lv_at hl 5 rfl) ?_
      refine lv_icmp_ge (tgt := 86) hx hb dX0_nearest_23 (by decide) (fun c3 => ?_) (fun c3 => ?_)
      · replace hf := ifp c3 hf
        refine lv_iload_n hx hb dX0_nearest_86 rfl (lv_at hl 3 rfl) ?_
        exact retR hx hb hr hlocks hS (Option.some.inj hf) dX0_nearest_87
      replace hf := ifn c3 hf
      refine lv_aload_n hx hb dX0_nearest_26 rfl (lv_at hl 0 rfl) ?_
      refine lv_iload hx hb dX0_nearest_27 (lv_at hl 6 rfl) ?_
      obtain ⟨z4, hz4, hf⟩ := bnd hf
      refine cVR (As := [.int x6]) (rest := []) ⟨hx, hb, hml, hown, hts⟩ (mX0_sum l D T h a u x6 z4 hz4) (cwV 1 hts gX0_nearest_X0_sum rfl rfl rfl (by decide +kernel) ⟨Nat.le_of_ble_eq_true rfl, Nat.le_of_ble_eq_true rfl⟩) (va_recv hK.1 hP (ci := 0) (q0 := 0) rfl rfl) hP hK rfl hl.1 rfl (Nat.le_of_ble_eq_true rfl) dX0_nearest_29 ⟨Nat.le_of_ble_eq_true rfl, Nat.le_of_ble_eq_true rfl⟩ hP hS (fun H locs hP hS => ?_)
      refine lv_iload_n hx hb dX0_nearest_32 rfl (lv_at hl 2 rfl) ?_
      refine lv_isub hx hb dX0_nearest_33 ?_
      refine mabs hx hb (hml.trans hl.1.symm) hown (hts (.methodLink RX0 43 Lib.Math.abs.name) (List.mem_of_getElem? (i := 1) rfl)) (hts (.static Lib.Math.abs.name) (List.mem_of_getElem? (i := 2) rfl)) (hts (.initialized "java/lang/Math") (List.mem_of_getElem? (i := 3) rfl)) (hts (.code Lib.Math.abs.name Lib.Math.abs.code 1 (some .int)) (List.mem_of_getElem? (i := 4) rfl)) (Nat.le_of_ble_eq_true rfl) (Nat.le_of_ble_eq_true rfl) (Nat.le_of_ble_eq_true rfl) (Nat.le_of_ble_eq_true rfl) dX0_nearest_34 ?_
      obtain ⟨t5, et5, hf⟩ := lett_e hf
      refine lv_eqi et5 ?_
      refine lv_istore (lv' := [(8, .int t5), (0, .ref h), (1, .int x1), (2, .int x2), (3, .int x3), (4, .int x4), (5, .int x5), (6, .int x6), (7, .int x7)]) hx hb dX0_nearest_37 hl (by decide) rfl (fun ls hl => ?_)
      refine lv_iload hx hb dX0_nearest_39 (lv_at hl 0 rfl) ?_
      refine lv_iload hx hb dX0_nearest_41 (lv_at hl 5 rfl) ?_
      refine lv_icmp_lt (tgt := 65) hx hb dX0_nearest_43 (by decide) (fun c6 => ?_) (fun c6 => ?_)
      · replace hf := ifp c6 hf
        exact J65 x1 x2 x5 x6 x7 t5 _ _ _ hf hP hS (lv_sub hl [1, 2, 3, 6, 7, 8, 0] rfl)
      replace hf := ifn c6 hf
      refine lv_iload hx hb dX0_nearest_46 (lv_at hl 0 rfl) ?_
      refine lv_iload hx hb dX0_nearest_48 (lv_at hl 5 rfl) ?_
      refine lv_icmp_ne (tgt := 72) hx hb dX0_nearest_50 (by decide) (fun c7 => ?_) (fun c7 => ?_)
      · replace hf := ifn c7 hf
        exact J72 x1 x2 x3 x4 x5 x6 x7 _ _ _ hf hP hS (lv_sub hl [1, 2, 3, 4, 5, 6, 7, 8] rfl)
      replace hf := ifp c7 hf
      refine lv_iload hx hb dX0_nearest_53 (lv_at hl 7 rfl) ?_
      obtain ⟨z8, hz8, hf⟩ := lett_e hf
      refine cSR (As := [.int x6]) (rest := []) ⟨hx, hb, hml, hown, hts⟩ (mJ6_bitCount_0f7a4 l D T x6 z8 hz8.symm) (va_cwS 1 hts gX0_nearest_J6_bitCount_0f7a4 rfl rfl rfl (by decide +kernel) ⟨Nat.le_of_ble_eq_true rfl, Nat.le_of_ble_eq_true rfl⟩) P0 hK rfl hl.1 rfl (Nat.le_of_ble_eq_true rfl) dX0_nearest_55 ⟨Nat.le_of_ble_eq_true rfl, Nat.le_of_ble_eq_true rfl⟩ hP hS (fun H locs hP hS => ?_)
      refine lv_iload_n hx hb dX0_nearest_58 rfl (lv_at hl 4 rfl) ?_
      obtain ⟨z9, hz9, hf⟩ := lett_e hf
      refine cSR (As := [.int x3]) (rest := [.int z8]) ⟨hx, hb, hml, hown, hts⟩ (mJ6_bitCount_0f7a4 l D T x3 z9 hz9.symm) (va_cwS 1 hts gX0_nearest_J6_bitCount_0f7a4 rfl rfl rfl (by decide +kernel) ⟨Nat.le_of_ble_eq_true rfl, Nat.le_of_ble_eq_true rfl⟩) P0 hK rfl hl.1 rfl (Nat.le_of_ble_eq_true rfl) dX0_nearest_59 ⟨Nat.le_of_ble_eq_true rfl, Nat.le_of_ble_eq_true rfl⟩ hP hS (fun H locs hP hS => ?_)
      refine lv_icmp_ge (tgt := 72) hx hb dX0_nearest_62 (by decide) (fun c10 => ?_) (fun c10 => ?_)
      · replace hf := ifp c10 hf
        exact J72 x1 x2 x3 x4 x5 x6 x7 _ _ _ hf hP hS (lv_sub hl [1, 2, 3, 4, 5, 6, 7, 8] rfl)
      replace hf := ifn c10 hf
      exact J65 x1 x2 x5 x6 x7 t5 _ _ _ hf hP hS (lv_sub hl [1, 2, 3, 6, 7, 8, 0] rfl)
  unfold fX0_nearest at hf
  refine lv_iconst (v := 0) hx hb dX0_nearest_0 (by decide) ?_
  refine lv_istore_n (lv' := [(3, .int 0), (0, .ref h), (1, .int p1), (2, .int p2)]) hx hb dX0_nearest_1 rfl hl (by decide) rfl (fun ls hl => ?_)
  refine lv_iload_n hx hb dX0_nearest_2 rfl (lv_at hl 3 rfl) ?_
  refine lv_istore (lv' := [(4, .int p2), (3, .int 0), (0, .ref h), (1, .int p1), (2, .int p2)]) hx hb dX0_nearest_3 hl (by decide) rfl (fun ls hl => ?_)
  refine lv_iconst (v := 1) hx hb dX0_nearest_5 (by decide) ?_
  refine lv_iload_n hx hb dX0_nearest_6 rfl (lv_at hl 3 rfl) ?_
  obtain ⟨z11, hz11, hf⟩ := lett_e hf
  refine cSR (As := [.int p1]) (rest := [.int 1]) ⟨hx, hb, hml, hown, hts⟩ (mJ6_bitCount_0f7a4 l D T p1 z11 hz11.symm) (va_cwS 1 hts gX0_nearest_J6_bitCount_0f7a4 rfl rfl rfl (by decide +kernel) ⟨Nat.le_of_ble_eq_true rfl, Nat.le_of_ble_eq_true rfl⟩) P0 hK rfl hl.1 rfl (Nat.le_of_ble_eq_true rfl) dX0_nearest_7 ⟨Nat.le_of_ble_eq_true rfl, Nat.le_of_ble_eq_true rfl⟩ hP hS (fun H locs hP hS => ?_)
  refine lv_ishl hx hb dX0_nearest_10 ?_
  obtain ⟨t12, et12, hf⟩ := lett_e hf
  refine lv_eqi et12 ?_
  refine lv_istore (lv' := [(5, .int t12), (4, .int p2), (3, .int 0), (0, .ref h), (1, .int p1), (2, .int p2)]) hx hb dX0_nearest_11 hl (by decide) rfl (fun ls hl => ?_)
  refine lv_iconst (v := 0) hx hb dX0_nearest_13 (by decide) ?_
  refine lv_istore (lv' := [(6, .int 0), (5, .int t12), (4, .int p2), (3, .int 0), (0, .ref h), (1, .int p1), (2, .int p2)]) hx hb dX0_nearest_14 hl (by decide) rfl (fun ls hl => ?_)
  refine lv_iconst (v := 0) hx hb dX0_nearest_16 (by decide) ?_
  refine lv_istore (lv' := [(7, .int 0), (6, .int 0), (5, .int t12), (4, .int p2), (3, .int 0), (0, .ref h), (1, .int p1), (2, .int p2)]) hx hb dX0_nearest_17 hl (by decide) rfl (fun ls hl => ?_)
  exact L19 FU p1 p2 0 p2 t12 0 0 _ _ _ hf hP hS (lv_sub hl [5, 6, 7, 4, 3, 2, 1, 0] rfl)
def fX0_ways_J52  (lp17 : Int32 → Int32 → Int32 → Int32 → Int32 → Int32 → Int32 → Int32 → Option (Int32)) (x1 : Int32) (x2 : Int32) (x3 : Int32) (x4 : Int32) (x5 : Int32) (x6 : Int32) (x7 : Int32) (x8 : Int32) : Option (Int32) := lett (fX0_setAfter x7 x1) fun z1 => lett (x8 + 1) fun t2 => lp17 x1 x2 x3 x4 x5 x6 z1 t2
def bX0_ways_L17 (u : St)  (lp17 : Int32 → Int32 → Int32 → Int32 → Int32 → Int32 → Int32 → Int32 → Option (Int32)) (x1 : Int32) (x2 : Int32) (x3 : Int32) (x4 : Int32) (x5 : Int32) (x6 : Int32) (x7 : Int32) (x8 : Int32) : Option (Int32) := if x6 ≤ x8 then some x5 else (fX0_sum u x7).bind fun z4 => if x4 < (ab (z4 - x3)) then fX0_ways_J52 lp17 x1 x2 x3 x4 x5 x6 x7 x8 else lett (fJ6_bitCount_0f7a4 x7) fun z6 => if z6 = x2 then lett (x5 + 1) fun t8 => fX0_ways_J52 lp17 x1 x2 x3 x4 t8 x6 x7 x8 else fX0_ways_J52 lp17 x1 x2 x3 x4 x5 x6 x7 x8
def fX0_ways_L17 (u : St)  : Nat → Int32 → Int32 → Int32 → Int32 → Int32 → Int32 → Int32 → Int32 → Option (Int32)
  | 0, _, _, _, _, _, _, _, _ => none
  | n + 1, x1, x2, x3, x4, x5, x6, x7, x8 => bX0_ways_L17 u (fX0_ways_L17 u n) x1 x2 x3 x4 x5 x6 x7 x8
def fX0_ways  (u : St) (p1 : Int32) (p2 : Int32) (p3 : Int32) (p4 : Int32) : Option (Int32) := lett (fJ6_bitCount_0f7a4 p1) fun z9 => lett (jshl 1 z9) fun t10 => fX0_ways_L17 u FU p1 p2 p3 p4 0 t10 0 0
set_option maxHeartbeats 4000000 in
set_option maxRecDepth 100000 in
theorem mX0_ways (l : Launch) (D : va_G) (T : Ty3) (h : Nat) (a : Nat → Nat) (u : St) (p1 : Int32) (p2 : Int32) (p3 : Int32) (p4 : Int32) (res : Int32) (hf : fX0_ways u p1 p2 p3 p4 = some res) : Met l yX0_ways wsX0_ways ({ frames := 1, cells := 0, slots := 0, locals := 21 }) (PcR D T (kX0 T h a u) [.ref h, .int p1, .int p2, .int p3, .int p4]) (QR res) 0 0 noA := by
  refine Met.ofW (cc := cX0_ways) (maxL := 9) (ret := (some .int)) (by decide) rfl ?_
  intro p e s m args below meth c s₁ B hml hv
  obtain ⟨rfl, hP, hK⟩ := hv
  have hx := B.exec
  have hb := B.bytes
  have hr := B.returns
  have hts := atoms_spec (ws := wsX0_ways) B.pre
  have hown : s.vm.findClass RX0 = some m.cls := findClass_of_methodNamed B.named
  have hlocks := B.notSynchronized
  have hS : va_S noA s.heap s.heap [] := va_S.rf
  have hinX0 : ∀ w ∈ u_ws RX0 TX0 6, w ∈ wsX0_ways := fun w h => List.mem_cons_of_mem _ (List.mem_append_right _ h)
  have hl := lv_entry ([.ref h, .int p1, .int p2, .int p3, .int p4]) (n := 9) (Nat.le_of_ble_eq_true rfl)
  rw [lg_entry_eq]
  generalize (lg_sl ([.ref h, .int p1, .int p2, .int p3, .int p4]) ++ List.replicate (9 - (lg_sl ([.ref h, .int p1, .int p2, .int p3, .int p4])).length) Slot.unset).toArray = ls at hl ⊢
  have hl : lv_has ls 9 [(0, .ref h), (1, .int p1), (2, .int p2), (3, .int p3), (4, .int p4)] := hl
  have L17 : ∀ (n17 : Nat), ∀ (x1 : Int32) (x2 : Int32) (x3 : Int32) (x4 : Int32) (x5 : Int32) (x6 : Int32) (x7 : Int32) (x8 : Int32) (H : Heap) (locs : List Loc) (ls : Array Slot), fX0_ways_L17 u n17 x1 x2 x3 x4 x5 x6 x7 x8 = some res → va_P D vwCl (kX0 T h a u) H → va_S noA s.heap H locs → lv_has ls 9 [(0, .ref h), (1, .int x1), (2, .int x2), (3, .int x3), (4, .int x4), (5, .int x5), (6, .int x6), (7, .int x7), (8, .int x8)] → W p l e (headSpec wsX0_ways ({ frames := 1, cells := 0, slots := 0, locals := 21 })).room s m ([.ref h, .int p1, .int p2, .int p3, .int p4] : List Value).toArray below meth c H locs 0 0 (MQ below (QR res) ([.ref h, .int p1, .int p2, .int p3, .int p4] : List Value).toArray s 0 0 noA) (F0 m 17 ls []) := by
    intro n17
    induction n17 with
    | zero => intro x1 x2 x3 x4 x5 x6 x7 x8 H locs ls hf; exact nns hf
    | succ n17 ih17 =>
      have J52 : ∀ (x1 : Int32) (x2 : Int32) (x3 : Int32) (x4 : Int32) (x5 : Int32) (x6 : Int32) (x7 : Int32) (x8 : Int32) (H : Heap) (locs : List Loc) (ls : Array Slot), fX0_ways_J52 (fX0_ways_L17 u n17) x1 x2 x3 x4 x5 x6 x7 x8 = some res → va_P D vwCl (kX0 T h a u) H → va_S noA s.heap H locs → lv_has ls 9 [(0, .ref h), (1, .int x1), (2, .int x2), (3, .int x3), (4, .int x4), (5, .int x5), (6, .int x6), (7, .int x7), (8, .int x8)] → W p l e (headSpec wsX0_ways ({ frames := 1, cells := 0, slots := 0, locals := 21 })).room s m ([.ref h, .int p1, .int p2, .int p3, .int p4] : List Value).toArray below meth c H locs 0 0 (MQ below (QR res) ([.ref h, .int p1, .int p2, .int p3, .int p4] : List Value).toArray s 0 0 noA) (F0 m 52 ls []) := by
        intro x1 x2 x3 x4 x5 x6 x7 x8 H locs ls hf hP hS hl
        unfold fX0_ways_J52 at hf
        refine lv_iload hx hb dX0_ways_52 (lv_at hl 7 rfl) ?_
        refine lv_iload_n hx hb dX0_ways_54 rfl (lv_at hl 1 rfl) ?_
        obtain ⟨z1, hz1, hf⟩ := lett_e hf
        refine cSR (As := [.int x7, .int x1]) (rest := []) ⟨hx, hb, hml, hown, hts⟩ (mX0_setAfter l D T x7 x1 z1 hz1.symm) (va_cwS 2 hts gX0_ways_X0_setAfter rfl rfl rfl (by decide +kernel) ⟨Nat.le_of_ble_eq_true rfl, Nat.le_of_ble_eq_true rfl⟩) P0 hK rfl hl.1 rfl (Nat.le_of_ble_eq_true rfl) dX0_ways_55 ⟨Nat.le_of_ble_eq_true rfl, Nat.le_of_ble_eq_true rfl⟩ hP hS (fun H locs hP hS => ?_)
        refine lv_istore (lv' := [(7, .int z1), (0, .ref h), (1, .int x1), (2, .int x2), (3, .int x3), (4, .int x4), (5, .int x5), (6, .int x6), (8, .int x8)]) hx hb dX0_ways_58 hl (by decide) rfl (fun ls hl => ?_)
        obtain ⟨t2, et2, hf⟩ := lett_e hf
        refine lv_iinc (v := t2) (lv' := [(8, .int t2), (7, .int z1), (0, .ref h), (1, .int x1), (2, .int x2), (3, .int x3), (4, .int x4), (5, .int x5), (6, .int x6)]) hx hb dX0_ways_60 hl (k := 8) rfl (by rw [et2]; rfl) (by decide) rfl (fun ls hl => ?_)
        refine lv_goto (tgt := 17) hx hb dX0_ways_63 (by decide) ?_
        exact ih17 x1 x2 x3 x4 x5 x6 z1 t2 _ _ _ hf hP hS (lv_sub hl [2, 3, 4, 5, 6, 7, 8, 1, 0] rfl)
      intro x1 x2 x3 x4 x5 x6 x7 x8 H locs ls hf hP hS hl
      replace hf : bX0_ways_L17 u (fX0_ways_L17 u n17) x1 x2 x3 x4 x5 x6 x7 x8 = some res := hf
      unfold bX0_ways_L17 at hf
      refine lv_iload hx hb dX0_ways_17 (lv_at hl 8 rfl) ?_
      refine lv_iload hx hb dX0_ways_19 (lv_at hl 6 rfl) ?_
      refine lv_icmp_ge (tgt := 66) hx hb dX0_ways_21 (by decide) (fun c3 => ?_) (fun c3 => ?_)
      · replace hf := ifp c3 hf
        refine lv_iload hx hb dX0_ways_66 (lv_at hl 5 rfl) ?_
        exact retR hx hb hr hlocks hS (Option.some.inj hf) dX0_ways_68
      replace hf := ifn c3 hf
      refine lv_aload_n hx hb dX0_ways_24 rfl (lv_at hl 0 rfl) ?_
      refine lv_iload hx hb dX0_ways_25 (lv_at hl 7 rfl) ?_
      obtain ⟨z4, hz4, hf⟩ := bnd hf
      refine cVR (As := [.int x7]) (rest := []) ⟨hx, hb, hml, hown, hts⟩ (mX0_sum l D T h a u x7 z4 hz4) (cwV 1 hts gX0_ways_X0_sum rfl rfl rfl (by decide +kernel) ⟨Nat.le_of_ble_eq_true rfl, Nat.le_of_ble_eq_true rfl⟩) (va_recv hK.1 hP (ci := 0) (q0 := 0) rfl rfl) hP hK rfl hl.1 rfl (Nat.le_of_ble_eq_true rfl) dX0_ways_27 ⟨Nat.le_of_ble_eq_true rfl, Nat.le_of_ble_eq_true rfl⟩ hP hS (fun H locs hP hS => ?_)
      refine lv_iload_n hx hb dX0_ways_30 rfl (lv_at hl 3 rfl) ?_
      refine lv_isub hx hb dX0_ways_31 ?_
      refine mabs hx hb (hml.trans hl.1.symm) hown (hts (.methodLink RX0 43 Lib.Math.abs.name) (List.mem_of_getElem? (i := 1) rfl)) (hts (.static Lib.Math.abs.name) (List.mem_of_getElem? (i := 2) rfl)) (hts (.initialized "java/lang/Math") (List.mem_of_getElem? (i := 3) rfl)) (hts (.code Lib.Math.abs.name Lib.Math.abs.code 1 (some .int)) (List.mem_of_getElem? (i := 4) rfl)) (Nat.le_of_ble_eq_true rfl) (Nat.le_of_ble_eq_true rfl) (Nat.le_of_ble_eq_true rfl) (Nat.le_of_ble_eq_true rfl) dX0_ways_32 ?_
      refine lv_iload hx hb dX0_ways_35 (lv_at hl 4 rfl) ?_
      refine lv_icmp_gt (tgt := 52) hx hb dX0_ways_37 (by decide) (fun c5 => ?_) (fun c5 => ?_)
      · replace hf := ifp c5 hf
        exact J52 x1 x2 x3 x4 x5 x6 x7 x8 _ _ _ hf hP hS (lv_sub hl [0, 1, 2, 3, 4, 5, 6, 7, 8] rfl)
      replace hf := ifn c5 hf
      refine lv_iload hx hb dX0_ways_40 (lv_at hl 7 rfl) ?_
      obtain ⟨z6, hz6, hf⟩ := lett_e hf
      refine cSR (As := [.int x7]) (rest := []) ⟨hx, hb, hml, hown, hts⟩ (mJ6_bitCount_0f7a4 l D T x7 z6 hz6.symm) (va_cwS 1 hts gX0_ways_J6_bitCount_0f7a4 rfl rfl rfl (by decide +kernel) ⟨Nat.le_of_ble_eq_true rfl, Nat.le_of_ble_eq_true rfl⟩) P0 hK rfl hl.1 rfl (Nat.le_of_ble_eq_true rfl) dX0_ways_42 ⟨Nat.le_of_ble_eq_true rfl, Nat.le_of_ble_eq_true rfl⟩ hP hS (fun H locs hP hS => ?_)
      refine lv_iload_n hx hb dX0_ways_45 rfl (lv_at hl 2 rfl) ?_
      refine lv_icmp_ne (tgt := 52) hx hb dX0_ways_46 (by decide) (fun c7 => ?_) (fun c7 => ?_)
      · replace hf := ifn c7 hf
        exact J52 x1 x2 x3 x4 x5 x6 x7 x8 _ _ _ hf hP hS (lv_sub hl [0, 1, 2, 3, 4, 5, 6, 7, 8] rfl)
      replace hf := ifp c7 hf
      obtain ⟨t8, et8, hf⟩ := lett_e hf
      refine lv_iinc (v := t8) (lv' := [(5, .int t8), (0, .ref h), (1, .int x1), (2, .int x2), (3, .int x3), (4, .int x4), (6, .int x6), (7, .int x7), (8, .int x8)]) hx hb dX0_ways_49 hl (k := 5) rfl (by rw [et8]; rfl) (by decide) rfl (fun ls hl => ?_)
      exact J52 x1 x2 x3 x4 t8 x6 x7 x8 _ _ _ hf hP hS (lv_sub hl [1, 2, 3, 4, 5, 0, 6, 7, 8] rfl)
  unfold fX0_ways at hf
  refine lv_iconst (v := 0) hx hb dX0_ways_0 (by decide) ?_
  refine lv_istore (lv' := [(5, .int 0), (0, .ref h), (1, .int p1), (2, .int p2), (3, .int p3), (4, .int p4)]) hx hb dX0_ways_1 hl (by decide) rfl (fun ls hl => ?_)
  refine lv_iconst (v := 1) hx hb dX0_ways_3 (by decide) ?_
  refine lv_iload_n hx hb dX0_ways_4 rfl (lv_at hl 2 rfl) ?_
  obtain ⟨z9, hz9, hf⟩ := lett_e hf
  refine cSR (As := [.int p1]) (rest := [.int 1]) ⟨hx, hb, hml, hown, hts⟩ (mJ6_bitCount_0f7a4 l D T p1 z9 hz9.symm) (va_cwS 1 hts gX0_ways_J6_bitCount_0f7a4 rfl rfl rfl (by decide +kernel) ⟨Nat.le_of_ble_eq_true rfl, Nat.le_of_ble_eq_true rfl⟩) P0 hK rfl hl.1 rfl (Nat.le_of_ble_eq_true rfl) dX0_ways_5 ⟨Nat.le_of_ble_eq_true rfl, Nat.le_of_ble_eq_true rfl⟩ hP hS (fun H locs hP hS => ?_)
  refine lv_ishl hx hb dX0_ways_8 ?_
  obtain ⟨t10, et10, hf⟩ := lett_e hf
  refine lv_eqi et10 ?_
  refine lv_istore (lv' := [(6, .int t10), (5, .int 0), (0, .ref h), (1, .int p1), (2, .int p2), (3, .int p3), (4, .int p4)]) hx hb dX0_ways_9 hl (by decide) rfl (fun ls hl => ?_)
  refine lv_iconst (v := 0) hx hb dX0_ways_11 (by decide) ?_
  refine lv_istore (lv' := [(7, .int 0), (6, .int t10), (5, .int 0), (0, .ref h), (1, .int p1), (2, .int p2), (3, .int p3), (4, .int p4)]) hx hb dX0_ways_12 hl (by decide) rfl (fun ls hl => ?_)
  refine lv_iconst (v := 0) hx hb dX0_ways_14 (by decide) ?_
  refine lv_istore (lv' := [(8, .int 0), (7, .int 0), (6, .int t10), (5, .int 0), (0, .ref h), (1, .int p1), (2, .int p2), (3, .int p3), (4, .int p4)]) hx hb dX0_ways_15 hl (by decide) rfl (fun ls hl => ?_)
  exact L17 FU p1 p2 p3 p4 0 t10 0 0 _ _ _ hf hP hS (lv_sub hl [4, 5, 6, 7, 8, 3, 2, 1, 0] rfl)
def fX0_unevenness  (u : St) (p1 : Int32) (p2 : Int32) : Option (Int32) := (fX0_sum u p1).bind fun z1 => (fX0_sum u p2).bind fun z2 => some (ab ((2 * z1) - z2))
set_option maxHeartbeats 4000000 in
set_option maxRecDepth 100000 in
theorem mX0_unevenness (l : Launch) (D : va_G) (T : Ty3) (h : Nat) (a : Nat → Nat) (u : St) (p1 : Int32) (p2 : Int32) (res : Int32) (hf : fX0_unevenness u p1 p2 = some res) : Met l yX0_unevenness wsX0_unevenness ({ frames := 1, cells := 0, slots := 0, locals := 21 }) (PcR D T (kX0 T h a u) [.ref h, .int p1, .int p2]) (QR res) 0 0 noA := by
  refine Met.ofW (cc := cX0_unevenness) (maxL := 3) (ret := (some .int)) (by decide) rfl ?_
  intro p e s m args below meth c s₁ B hml hv
  obtain ⟨rfl, hP, hK⟩ := hv
  have hx := B.exec
  have hb := B.bytes
  have hr := B.returns
  have hts := atoms_spec (ws := wsX0_unevenness) B.pre
  have hown : s.vm.findClass RX0 = some m.cls := findClass_of_methodNamed B.named
  have hlocks := B.notSynchronized
  have hS : va_S noA s.heap s.heap [] := va_S.rf
  have hinX0 : ∀ w ∈ u_ws RX0 TX0 6, w ∈ wsX0_unevenness := fun w h => List.mem_cons_of_mem _ (List.mem_append_right _ h)
  have hl := lv_entry ([.ref h, .int p1, .int p2]) (n := 3) (Nat.le_of_ble_eq_true rfl)
  rw [lg_entry_eq]
  generalize (lg_sl ([.ref h, .int p1, .int p2]) ++ List.replicate (3 - (lg_sl ([.ref h, .int p1, .int p2])).length) Slot.unset).toArray = ls at hl ⊢
  have hl : lv_has ls 3 [(0, .ref h), (1, .int p1), (2, .int p2)] := hl
  unfold fX0_unevenness at hf
  refine lv_iconst (v := 2) hx hb dX0_unevenness_0 (by decide) ?_
  refine lv_aload_n hx hb dX0_unevenness_1 rfl (lv_at hl 0 rfl) ?_
  refine lv_iload_n hx hb dX0_unevenness_2 rfl (lv_at hl 1 rfl) ?_
  obtain ⟨z1, hz1, hf⟩ := bnd hf
  refine cVR (As := [.int p1]) (rest := [.int 2]) ⟨hx, hb, hml, hown, hts⟩ (mX0_sum l D T h a u p1 z1 hz1) (cwV 1 hts gX0_unevenness_X0_sum rfl rfl rfl (by decide +kernel) ⟨Nat.le_of_ble_eq_true rfl, Nat.le_of_ble_eq_true rfl⟩) (va_recv hK.1 hP (ci := 0) (q0 := 0) rfl rfl) hP hK rfl hl.1 rfl (Nat.le_of_ble_eq_true rfl) dX0_unevenness_3 ⟨Nat.le_of_ble_eq_true rfl, Nat.le_of_ble_eq_true rfl⟩ hP hS (fun H locs hP hS => ?_)
  refine lv_imul hx hb dX0_unevenness_6 ?_
  refine lv_aload_n hx hb dX0_unevenness_7 rfl (lv_at hl 0 rfl) ?_
  refine lv_iload_n hx hb dX0_unevenness_8 rfl (lv_at hl 2 rfl) ?_
  obtain ⟨z2, hz2, hf⟩ := bnd hf
  refine cVR (As := [.int p2]) (rest := [.int (2 * z1)]) ⟨hx, hb, hml, hown, hts⟩ (mX0_sum l D T h a u p2 z2 hz2) (cwV 1 hts gX0_unevenness_X0_sum rfl rfl rfl (by decide +kernel) ⟨Nat.le_of_ble_eq_true rfl, Nat.le_of_ble_eq_true rfl⟩) (va_recv hK.1 hP (ci := 0) (q0 := 0) rfl rfl) hP hK rfl hl.1 rfl (Nat.le_of_ble_eq_true rfl) dX0_unevenness_9 ⟨Nat.le_of_ble_eq_true rfl, Nat.le_of_ble_eq_true rfl⟩ hP hS (fun H locs hP hS => ?_)
  refine lv_isub hx hb dX0_unevenness_12 ?_
  refine mabs hx hb (hml.trans hl.1.symm) hown (hts (.methodLink RX0 43 Lib.Math.abs.name) (List.mem_of_getElem? (i := 1) rfl)) (hts (.static Lib.Math.abs.name) (List.mem_of_getElem? (i := 2) rfl)) (hts (.initialized "java/lang/Math") (List.mem_of_getElem? (i := 3) rfl)) (hts (.code Lib.Math.abs.name Lib.Math.abs.code 1 (some .int)) (List.mem_of_getElem? (i := 4) rfl)) (Nat.le_of_ble_eq_true rfl) (Nat.le_of_ble_eq_true rfl) (Nat.le_of_ble_eq_true rfl) (Nat.le_of_ble_eq_true rfl) dX0_unevenness_13 ?_
  exact retR hx hb hr hlocks hS (Option.some.inj hf) dX0_unevenness_16
def fX0_evenTeam_J68  (lp33 : Int32 → Int32 → Int32 → Int32 → Int32 → Int32 → Int32 → Int32 → Option (Int32)) (x1 : Int32) (x2 : Int32) (x3 : Int32) (x4 : Int32) (x5 : Int32) (x6 : Int32) (x7 : Int32) (x8 : Int32) : Option (Int32) := lett (fX0_setAfter x7 x3) fun z1 => lett (x8 + 1) fun t2 => lp33 x1 x2 x3 x4 x5 x6 z1 t2
def bX0_evenTeam_L33 (u : St)  (lp33 : Int32 → Int32 → Int32 → Int32 → Int32 → Int32 → Int32 → Int32 → Option (Int32)) (x1 : Int32) (x2 : Int32) (x3 : Int32) (x4 : Int32) (x5 : Int32) (x6 : Int32) (x7 : Int32) (x8 : Int32) : Option (Int32) := if x6 ≤ x8 then some x4 else (fX0_unevenness u (x2 ||| x7) x1).bind fun z4 => if x5 ≤ z4 then fX0_evenTeam_J68 lp33 x1 x2 x3 x4 x5 x6 x7 x8 else lett (x2 ||| x7) fun t6 => fX0_evenTeam_J68 lp33 x1 x2 x3 t6 z4 x6 x7 x8
def fX0_evenTeam_L33 (u : St)  : Nat → Int32 → Int32 → Int32 → Int32 → Int32 → Int32 → Int32 → Int32 → Option (Int32)
  | 0, _, _, _, _, _, _, _, _ => none
  | n + 1, x1, x2, x3, x4, x5, x6, x7, x8 => bX0_evenTeam_L33 u (fX0_evenTeam_L33 u n) x1 x2 x3 x4 x5 x6 x7 x8
def fX0_evenTeam  (u : St) (p1 : Int32) : Option (Int32) := lett (p1 &&& (-p1)) fun t7 => lett (p1 ^^^ t7) fun t8 => (fX0_sum u p1).bind fun z9 => lett (fJ6_bitCount_0f7a4 t8) fun z10 => lett (jshl 1 z10) fun t11 => fX0_evenTeam_L33 u FU p1 t7 t8 p1 z9 t11 0 0
set_option maxHeartbeats 4000000 in
set_option maxRecDepth 100000 in
theorem mX0_evenTeam (l : Launch) (D : va_G) (T : Ty3) (h : Nat) (a : Nat → Nat) (u : St) (p1 : Int32) (res : Int32) (hf : fX0_evenTeam u p1 = some res) : Met l yX0_evenTeam wsX0_evenTeam ({ frames := 2, cells := 0, slots := 0, locals := 43 }) (PcR D T (kX0 T h a u) [.ref h, .int p1]) (QR res) 0 0 noA := by
  refine Met.ofW (cc := cX0_evenTeam) (maxL := 10) (ret := (some .int)) (by decide) rfl ?_
  intro p e s m args below meth c s₁ B hml hv
  obtain ⟨rfl, hP, hK⟩ := hv
  have hx := B.exec
  have hb := B.bytes
  have hr := B.returns
  have hts := atoms_spec (ws := wsX0_evenTeam) B.pre
  have hown : s.vm.findClass RX0 = some m.cls := findClass_of_methodNamed B.named
  have hlocks := B.notSynchronized
  have hS : va_S noA s.heap s.heap [] := va_S.rf
  have hinX0 : ∀ w ∈ u_ws RX0 TX0 6, w ∈ wsX0_evenTeam := fun w h => List.mem_cons_of_mem _ (List.mem_append_right _ h)
  have hl := lv_entry ([.ref h, .int p1]) (n := 10) (Nat.le_of_ble_eq_true rfl)
  rw [lg_entry_eq]
  generalize (lg_sl ([.ref h, .int p1]) ++ List.replicate (10 - (lg_sl ([.ref h, .int p1])).length) Slot.unset).toArray = ls at hl ⊢
  have hl : lv_has ls 10 [(0, .ref h), (1, .int p1)] := hl
  have L33 : ∀ (n33 : Nat), ∀ (x1 : Int32) (x2 : Int32) (x3 : Int32) (x4 : Int32) (x5 : Int32) (x6 : Int32) (x7 : Int32) (x8 : Int32) (H : Heap) (locs : List Loc) (ls : Array Slot), fX0_evenTeam_L33 u n33 x1 x2 x3 x4 x5 x6 x7 x8 = some res → va_P D vwCl (kX0 T h a u) H → va_S noA s.heap H locs → lv_has ls 10 [(0, .ref h), (1, .int x1), (2, .int x2), (3, .int x3), (4, .int x4), (5, .int x5), (6, .int x6), (7, .int x7), (8, .int x8)] → W p l e (headSpec wsX0_evenTeam ({ frames := 2, cells := 0, slots := 0, locals := 43 })).room s m ([.ref h, .int p1] : List Value).toArray below meth c H locs 0 0 (MQ below (QR res) ([.ref h, .int p1] : List Value).toArray s 0 0 noA) (F0 m 33 ls []) := by
    intro n33
    induction n33 with
    | zero => intro x1 x2 x3 x4 x5 x6 x7 x8 H locs ls hf; exact nns hf
    | succ n33 ih33 =>
      have J68 : ∀ (x1 : Int32) (x2 : Int32) (x3 : Int32) (x4 : Int32) (x5 : Int32) (x6 : Int32) (x7 : Int32) (x8 : Int32) (H : Heap) (locs : List Loc) (ls : Array Slot), fX0_evenTeam_J68 (fX0_evenTeam_L33 u n33) x1 x2 x3 x4 x5 x6 x7 x8 = some res → va_P D vwCl (kX0 T h a u) H → va_S noA s.heap H locs → lv_has ls 10 [(0, .ref h), (1, .int x1), (2, .int x2), (3, .int x3), (4, .int x4), (5, .int x5), (6, .int x6), (7, .int x7), (8, .int x8)] → W p l e (headSpec wsX0_evenTeam ({ frames := 2, cells := 0, slots := 0, locals := 43 })).room s m ([.ref h, .int p1] : List Value).toArray below meth c H locs 0 0 (MQ below (QR res) ([.ref h, .int p1] : List Value).toArray s 0 0 noA) (F0 m 68 ls []) := by
        intro x1 x2 x3 x4 x5 x6 x7 x8 H locs ls hf hP hS hl
        unfold fX0_evenTeam_J68 at hf
        refine lv_iload hx hb dX0_evenTeam_68 (lv_at hl 7 rfl) ?_
        refine lv_iload_n hx hb dX0_evenTeam_70 rfl (lv_at hl 3 rfl) ?_
        obtain ⟨z1, hz1, hf⟩ := lett_e hf
        refine cSR (As := [.int x7, .int x3]) (rest := []) ⟨hx, hb, hml, hown, hts⟩ (mX0_setAfter l D T x7 x3 z1 hz1.symm) (va_cwS 2 hts gX0_evenTeam_X0_setAfter rfl rfl rfl (by decide +kernel) ⟨Nat.le_of_ble_eq_true rfl, Nat.le_of_ble_eq_true rfl⟩) P0 hK rfl hl.1 rfl (Nat.le_of_ble_eq_true rfl) dX0_evenTeam_71 ⟨Nat.le_of_ble_eq_true rfl, Nat.le_of_ble_eq_true rfl⟩ hP hS (fun H locs hP hS => ?_)
        refine lv_istore (lv' := [(7, .int z1), (0, .ref h), (1, .int x1), (2, .int x2), (3, .int x3), (4, .int x4), (5, .int x5), (6, .int x6), (8, .int x8)]) hx hb dX0_evenTeam_74 hl (by decide) rfl (fun ls hl => ?_)
        obtain ⟨t2, et2, hf⟩ := lett_e hf
        refine lv_iinc (v := t2) (lv' := [(8, .int t2), (7, .int z1), (0, .ref h), (1, .int x1), (2, .int x2), (3, .int x3), (4, .int x4), (5, .int x5), (6, .int x6)]) hx hb dX0_evenTeam_76 hl (k := 8) rfl (by rw [et2]; rfl) (by decide) rfl (fun ls hl => ?_)
        refine lv_goto (tgt := 33) hx hb dX0_evenTeam_79 (by decide) ?_
        exact ih33 x1 x2 x3 x4 x5 x6 z1 t2 _ _ _ hf hP hS (lv_sub hl [2, 3, 4, 5, 6, 7, 8, 1, 0] rfl)
      intro x1 x2 x3 x4 x5 x6 x7 x8 H locs ls hf hP hS hl
      replace hf : bX0_evenTeam_L33 u (fX0_evenTeam_L33 u n33) x1 x2 x3 x4 x5 x6 x7 x8 = some res := hf
      unfold bX0_evenTeam_L33 at hf
      refine lv_iload hx hb dX0_evenTeam_33 (lv_at hl 8 rfl) ?_
      refine lv_iload hx hb dX0_evenTeam_35 (lv_at hl 6 rfl) ?_
      refine lv_icmp_ge (tgt := 82) hx hb dX0_evenTeam_37 (by decide) (fun c3 => ?_) (fun c3 => ?_)
      · replace hf := ifp c3 hf
        refine lv_iload hx hb dX0_evenTeam_82 (lv_at hl 4 rfl) ?_
        exact retR hx hb hr hlocks hS (Option.some.inj hf) dX0_evenTeam_84
      replace hf := ifn c3 hf
      refine lv_aload_n hx hb dX0_evenTeam_40 rfl (lv_at hl 0 rfl) ?_
      refine lv_iload_n hx hb dX0_evenTeam_41 rfl (lv_at hl 2 rfl) ?_
      refine lv_iload hx hb dX0_evenTeam_42 (lv_at hl 7 rfl) ?_
      refine lv_ior hx hb dX0_evenTeam_44 ?_
      refine lv_iload_n hx hb dX0_evenTeam_45 rfl (lv_at hl 1 rfl) ?_
      obtain ⟨z4, hz4, hf⟩ := bnd hf
      refine cVR (As := [.int (x2 ||| x7), .int x1]) (rest := []) ⟨hx, hb, hml, hown, hts⟩ (mX0_unevenness l D T h a u (x2 ||| x7) x1 z4 hz4) (cwV 2 hts gX0_evenTeam_X0_unevenness rfl rfl rfl (by decide +kernel) ⟨Nat.le_of_ble_eq_true rfl, Nat.le_of_ble_eq_true rfl⟩) (va_recv hK.1 hP (ci := 0) (q0 := 0) rfl rfl) hP hK rfl hl.1 rfl (Nat.le_of_ble_eq_true rfl) dX0_evenTeam_46 ⟨Nat.le_of_ble_eq_true rfl, Nat.le_of_ble_eq_true rfl⟩ hP hS (fun H locs hP hS => ?_)
      refine lv_istore (lv' := [(9, .int z4), (0, .ref h), (1, .int x1), (2, .int x2), (3, .int x3), (4, .int x4), (5, .int x5), (6, .int x6), (7, .int x7), (8, .int x8)]) hx hb dX0_evenTeam_49 hl (by decide) rfl (fun ls hl => ?_)
      refine lv_iload hx hb dX0_evenTeam_51 (lv_at hl 0 rfl) ?_
      refine lv_iload hx hb dX0_evenTeam_53 (lv_at hl 6 rfl) ?_
      refine lv_icmp_ge (tgt := 68) hx hb dX0_evenTeam_55 (by decide) (fun c5 => ?_) (fun c5 => ?_)
      · replace hf := ifp c5 hf
        exact J68 x1 x2 x3 x4 x5 x6 x7 x8 _ _ _ hf hP hS (lv_sub hl [1, 2, 3, 4, 5, 6, 7, 8, 9] rfl)
      replace hf := ifn c5 hf
      refine lv_iload_n hx hb dX0_evenTeam_58 rfl (lv_at hl 3 rfl) ?_
      refine lv_iload hx hb dX0_evenTeam_59 (lv_at hl 8 rfl) ?_
      refine lv_ior hx hb dX0_evenTeam_61 ?_
      obtain ⟨t6, et6, hf⟩ := lett_e hf
      refine lv_eqi et6 ?_
      refine lv_istore (lv' := [(4, .int t6), (9, .int z4), (0, .ref h), (1, .int x1), (2, .int x2), (3, .int x3), (5, .int x5), (6, .int x6), (7, .int x7), (8, .int x8)]) hx hb dX0_evenTeam_62 hl (by decide) rfl (fun ls hl => ?_)
      refine lv_iload hx hb dX0_evenTeam_64 (lv_at hl 1 rfl) ?_
      refine lv_istore (lv' := [(5, .int z4), (4, .int t6), (9, .int z4), (0, .ref h), (1, .int x1), (2, .int x2), (3, .int x3), (6, .int x6), (7, .int x7), (8, .int x8)]) hx hb dX0_evenTeam_66 hl (by decide) rfl (fun ls hl => ?_)
      exact J68 x1 x2 x3 t6 z4 x6 x7 x8 _ _ _ hf hP hS (lv_sub hl [3, 4, 5, 6, 1, 0, 7, 8, 9] rfl)
  unfold fX0_evenTeam at hf
  refine lv_iload_n hx hb dX0_evenTeam_0 rfl (lv_at hl 1 rfl) ?_
  refine lv_iload_n hx hb dX0_evenTeam_1 rfl (lv_at hl 1 rfl) ?_
  refine lv_ineg hx hb dX0_evenTeam_2 ?_
  refine lv_iand hx hb dX0_evenTeam_3 ?_
  obtain ⟨t7, et7, hf⟩ := lett_e hf
  refine lv_eqi et7 ?_
  refine lv_istore_n (lv' := [(2, .int t7), (0, .ref h), (1, .int p1)]) hx hb dX0_evenTeam_4 rfl hl (by decide) rfl (fun ls hl => ?_)
  refine lv_iload_n hx hb dX0_evenTeam_5 rfl (lv_at hl 2 rfl) ?_
  refine lv_iload_n hx hb dX0_evenTeam_6 rfl (lv_at hl 0 rfl) ?_
  refine lv_ixor hx hb dX0_evenTeam_7 ?_
  obtain ⟨t8, et8, hf⟩ := lett_e hf
  refine lv_eqi et8 ?_
  refine lv_istore_n (lv' := [(3, .int t8), (2, .int t7), (0, .ref h), (1, .int p1)]) hx hb dX0_evenTeam_8 rfl hl (by decide) rfl (fun ls hl => ?_)
  refine lv_iload_n hx hb dX0_evenTeam_9 rfl (lv_at hl 3 rfl) ?_
  refine lv_istore (lv' := [(4, .int p1), (3, .int t8), (2, .int t7), (0, .ref h), (1, .int p1)]) hx hb dX0_evenTeam_10 hl (by decide) rfl (fun ls hl => ?_)
  refine lv_aload_n hx hb dX0_evenTeam_12 rfl (lv_at hl 3 rfl) ?_
  refine lv_iload_n hx hb dX0_evenTeam_13 rfl (lv_at hl 4 rfl) ?_
  obtain ⟨z9, hz9, hf⟩ := bnd hf
  refine cVR (As := [.int p1]) (rest := []) ⟨hx, hb, hml, hown, hts⟩ (mX0_sum l D T h a u p1 z9 hz9) (cwV 1 hts gX0_evenTeam_X0_sum rfl rfl rfl (by decide +kernel) ⟨Nat.le_of_ble_eq_true rfl, Nat.le_of_ble_eq_true rfl⟩) (va_recv hK.1 hP (ci := 0) (q0 := 0) rfl rfl) hP hK rfl hl.1 rfl (Nat.le_of_ble_eq_true rfl) dX0_evenTeam_14 ⟨Nat.le_of_ble_eq_true rfl, Nat.le_of_ble_eq_true rfl⟩ hP hS (fun H locs hP hS => ?_)
  refine lv_istore (lv' := [(5, .int z9), (4, .int p1), (3, .int t8), (2, .int t7), (0, .ref h), (1, .int p1)]) hx hb dX0_evenTeam_17 hl (by decide) rfl (fun ls hl => ?_)
  refine lv_iconst (v := 1) hx hb dX0_evenTeam_19 (by decide) ?_
  refine lv_iload_n hx hb dX0_evenTeam_20 rfl (lv_at hl 2 rfl) ?_
  obtain ⟨z10, hz10, hf⟩ := lett_e hf
  refine cSR (As := [.int t8]) (rest := [.int 1]) ⟨hx, hb, hml, hown, hts⟩ (mJ6_bitCount_0f7a4 l D T t8 z10 hz10.symm) (va_cwS 1 hts gX0_evenTeam_J6_bitCount_0f7a4 rfl rfl rfl (by decide +kernel) ⟨Nat.le_of_ble_eq_true rfl, Nat.le_of_ble_eq_true rfl⟩) P0 hK rfl hl.1 rfl (Nat.le_of_ble_eq_true rfl) dX0_evenTeam_21 ⟨Nat.le_of_ble_eq_true rfl, Nat.le_of_ble_eq_true rfl⟩ hP hS (fun H locs hP hS => ?_)
  refine lv_ishl hx hb dX0_evenTeam_24 ?_
  obtain ⟨t11, et11, hf⟩ := lett_e hf
  refine lv_eqi et11 ?_
  refine lv_istore (lv' := [(6, .int t11), (5, .int z9), (4, .int p1), (3, .int t8), (2, .int t7), (0, .ref h), (1, .int p1)]) hx hb dX0_evenTeam_25 hl (by decide) rfl (fun ls hl => ?_)
  refine lv_iconst (v := 0) hx hb dX0_evenTeam_27 (by decide) ?_
  refine lv_istore (lv' := [(7, .int 0), (6, .int t11), (5, .int z9), (4, .int p1), (3, .int t8), (2, .int t7), (0, .ref h), (1, .int p1)]) hx hb dX0_evenTeam_28 hl (by decide) rfl (fun ls hl => ?_)
  refine lv_iconst (v := 0) hx hb dX0_evenTeam_30 (by decide) ?_
  refine lv_istore (lv' := [(8, .int 0), (7, .int 0), (6, .int t11), (5, .int z9), (4, .int p1), (3, .int t8), (2, .int t7), (0, .ref h), (1, .int p1)]) hx hb dX0_evenTeam_31 hl (by decide) rfl (fun ls hl => ?_)
  exact L33 FU p1 t7 t8 p1 z9 t11 0 0 _ _ _ hf hP hS (lv_sub hl [7, 8, 6, 5, 4, 3, 2, 1, 0] rfl)
def fX0_sortWeights_J69 (uw : St) (lp4 : St → Int32 → Int32 → Option (Int32 × St)) (v : St) (x2 : Int32) (x3 : Int32) (x4 : Int32) : Option (Int32 × St) := gd x3 16 <| gd x4 16 <| lett (st v 2 (ix x4) (uw 0 (ix x3))) fun u1 => lett (x2 + 1) fun t2 => lett (x3 + 1) fun t3 => lp4 u1 t2 t3
def bX0_sortWeights_L24 (uw : St) (lp4 : St → Int32 → Int32 → Option (Int32 × St)) (lp24 : St → Int32 → Int32 → Int32 → Option (Int32 × St)) (v : St) (x2 : Int32) (x3 : Int32) (x4 : Int32) : Option (Int32 × St) := if x4 ≤ 0 then fX0_sortWeights_J69 uw lp4 v x2 x3 x4 else gd (x4 - 1) 16 <| gd x3 16 <| if (v 2 (ix (x4 - 1))) ≤ (uw 0 (ix x3)) then fX0_sortWeights_J69 uw lp4 v x2 x3 x4 else gd (x4 - 1) 16 <| gd x4 16 <| lett (st v 2 (ix x4) (v 2 (ix (x4 - 1)))) fun u8 => lett (x4 + (-1)) fun t9 => lp24 u8 x2 x3 t9
def fX0_sortWeights_L24 (uw : St) (lp4 : St → Int32 → Int32 → Option (Int32 × St)) : Nat → St → Int32 → Int32 → Int32 → Option (Int32 × St)
  | 0, _, _, _, _ => none
  | n + 1, v, x2, x3, x4 => bX0_sortWeights_L24 uw lp4 (fX0_sortWeights_L24 uw lp4 n) v x2 x3 x4
def bX0_sortWeights_L4 (uw : St)  (lp4 : St → Int32 → Int32 → Option (Int32 × St)) (v : St) (x2 : Int32) (x3 : Int32) : Option (Int32 × St) := if 16 ≤ x3 then some (x2, v) else lett (fX11_has (uw 4 0) x3) fun z15 => if z15 = 0 then lett (x3 + 1) fun t17 => lp4 v x2 t17 else fX0_sortWeights_L24 uw lp4 FU v x2 x3 x2
def fX0_sortWeights_L4 (uw : St)  : Nat → St → Int32 → Int32 → Option (Int32 × St)
  | 0, _, _, _ => none
  | n + 1, v, x2, x3 => bX0_sortWeights_L4 uw (fX0_sortWeights_L4 uw n) v x2 x3
def fX0_sortWeights  (u : St) (uw : St)  : Option (Int32 × St) := fX0_sortWeights_L4 uw FU u 0 0
set_option maxHeartbeats 4000000 in
set_option maxRecDepth 100000 in
theorem mX0_sortWeights (l : Launch) (D : va_G) (T : Ty3) (h : Nat) (a : Nat → Nat) (u : St) (hw : Nat) (aw : Nat → Nat) (uw : St) (sz : Nat)  (res : Int32 × St) (hf : fX0_sortWeights u uw = some res) : Met l yX0_sortWeights wsX0_sortWeights ({ frames := 1, cells := 0, slots := 0, locals := 21 }) (PcM D T (kX0 T h a u ++ kX9 T hw aw uw) sz [.ref h, .ref hw]) (QM D (kX0 T h a u ++ kX9 T hw aw uw) sz res.1 (kX0 T h a res.2 ++ kX9 T hw aw uw)) 0 0 (va_A (kX0 T h a u ++ kX9 T hw aw uw) sz) := by
  refine Met.ofW (cc := cX0_sortWeights) (maxL := 5) (ret := (some .int)) (by decide) rfl ?_
  intro p e s m args below meth c s₁ B hml hv
  obtain ⟨rfl, hsz, hP, hK, hD0⟩ := hv
  have hx := B.exec
  have hb := B.bytes
  have hr := B.returns
  have hts := atoms_spec (ws := wsX0_sortWeights) B.pre
  have hown : s.vm.findClass RX0 = some m.cls := findClass_of_methodNamed B.named
  have hlocks := B.notSynchronized
  subst hsz
  have hD := hD0.self (sz := s.heap.size)
  have hA : ∀ q : Nat, s.heap.size ≤ q → va_A (kX0 T h a u ++ kX9 T hw aw uw) s.heap.size q := fun q h => Or.inr h
  have hS : va_S (va_A (kX0 T h a u ++ kX9 T hw aw uw) s.heap.size) s.heap s.heap [] := va_S.rf
  have hinX9 : ∀ w ∈ u_ws RX9 TX9 8, w ∈ wsX0_sortWeights := fun w h => List.mem_cons_of_mem _ (List.mem_append_left _ (List.mem_append_right _ h))
  have hinX0 : ∀ w ∈ u_ws RX0 TX0 6, w ∈ wsX0_sortWeights := fun w h => List.mem_cons_of_mem _ (List.mem_append_right _ h)
  have hl := lv_entry ([.ref h, .ref hw]) (n := 5) (Nat.le_of_ble_eq_true rfl)
  rw [lg_entry_eq]
  generalize (lg_sl ([.ref h, .ref hw]) ++ List.replicate (5 - (lg_sl ([.ref h, .ref hw])).length) Slot.unset).toArray = ls at hl ⊢
  have hl : lv_has ls 5 [(0, .ref h), (1, .ref hw)] := hl
  have L4 : ∀ (n4 : Nat), ∀ (v : St) (x2 : Int32) (x3 : Int32) (H : Heap) (locs : List Loc) (ls : Array Slot), fX0_sortWeights_L4 uw n4 v x2 x3 = some res → va_P D vwCl (kX0 T h a v ++ kX9 T hw aw uw) H → va_D (va_A (kX0 T h a u ++ kX9 T hw aw uw) s.heap.size) (kX0 T h a v ++ kX9 T hw aw uw) → va_S (va_A (kX0 T h a u ++ kX9 T hw aw uw) s.heap.size) s.heap H locs → lv_has ls 5 [(0, .ref h), (1, .ref hw), (2, .int x2), (3, .int x3)] → W p l e (headSpec wsX0_sortWeights ({ frames := 1, cells := 0, slots := 0, locals := 21 })).room s m ([.ref h, .ref hw] : List Value).toArray below meth c H locs 0 0 (MQ below (QM D (kX0 T h a u ++ kX9 T hw aw uw) s.heap.size res.1 (kX0 T h a res.2 ++ kX9 T hw aw uw)) ([.ref h, .ref hw] : List Value).toArray s 0 0 (va_A (kX0 T h a u ++ kX9 T hw aw uw) s.heap.size)) (F0 m 4 ls []) := by
    intro n4
    induction n4 with
    | zero => intro v x2 x3 H locs ls hf; exact nns hf
    | succ n4 ih4 =>
      have J69 : ∀ (v : St) (x2 : Int32) (x3 : Int32) (x4 : Int32) (H : Heap) (locs : List Loc) (ls : Array Slot), fX0_sortWeights_J69 uw (fX0_sortWeights_L4 uw n4) v x2 x3 x4 = some res → va_P D vwCl (kX0 T h a v ++ kX9 T hw aw uw) H → va_D (va_A (kX0 T h a u ++ kX9 T hw aw uw) s.heap.size) (kX0 T h a v ++ kX9 T hw aw uw) → va_S (va_A (kX0 T h a u ++ kX9 T hw aw uw) s.heap.size) s.heap H locs → lv_has ls 5 [(0, .ref h), (1, .ref hw), (2, .int x2), (3, .int x3), (4, .int x4)] → W p l e (headSpec wsX0_sortWeights ({ frames := 1, cells := 0, slots := 0, locals := 21 })).room s m ([.ref h, .ref hw] : List Value).toArray below meth c H locs 0 0 (MQ below (QM D (kX0 T h a u ++ kX9 T hw aw uw) s.heap.size res.1 (kX0 T h a res.2 ++ kX9 T hw aw uw)) ([.ref h, .ref hw] : List Value).toArray s 0 0 (va_A (kX0 T h a u ++ kX9 T hw aw uw) s.heap.size)) (F0 m 69 ls []) := by
        intro v x2 x3 x4 H locs ls hf hP hD hS hl
        unfold fX0_sortWeights_J69 at hf
        refine lv_aload_n hx hb dX0_sortWeights_69 rfl (lv_at hl 0 rfl) ?_
        refine va_get (D := D) (ci := 0) (v := .ref (a 2)) (C := RX0) (T := TX0) (N := 6) hx hb hts hinX0 hown hK.1 hP 0 rfl rfl 2 (by decide) (hts (.fieldLink RX0 18 "RopeScale$Choices" "row" "[I") (List.mem_of_getElem? (i := 2) rfl)) (fun _ h9 => h9) rfl dX0_sortWeights_70 ?_
        refine lv_iload hx hb dX0_sortWeights_73 (lv_at hl 4 rfl) ?_
        refine lv_aload_n hx hb dX0_sortWeights_75 rfl (lv_at hl 1 rfl) ?_
        refine va_get (D := D) (ci := 9) (v := .ref (aw 0)) (C := RX9) (T := TX9) (N := 8) hx hb hts hinX9 hown hK.1 hP 7 rfl rfl 0 (by decide) (hts (.fieldLink RX0 69 "RopeScale$Walk" "weight" "[I") (List.mem_of_getElem? (i := 3) rfl)) (fun _ h9 => h9) rfl dX0_sortWeights_76 ?_
        refine lv_iload_n hx hb dX0_sortWeights_79 rfl (lv_at hl 3 rfl) ?_
        obtain ⟨h5, hf⟩ := gd_e hf
        refine va_iald hx hb hK.1 hP 8 0 rfl rfl h5 dX0_sortWeights_80 ?_
        obtain ⟨h4, hf⟩ := gd_e hf
        obtain ⟨u1, eu1, hf⟩ := lett_e hf
        refine va_iast hx hb hK.1 hP hD hS 3 0 rfl rfl h4 dX0_sortWeights_81 (fun H locs hP hD hS => ?_)
        have hP : va_P D vwCl (kX0 T h a u1 ++ kX9 T hw aw uw) H := by rw [eu1]; exact hP
        have hD : va_D (va_A (kX0 T h a u ++ kX9 T hw aw uw) s.heap.size) (kX0 T h a u1 ++ kX9 T hw aw uw) := by rw [eu1]; exact hD
        obtain ⟨t2, et2, hf⟩ := lett_e hf
        refine lv_iinc (v := t2) (lv' := [(2, .int t2), (0, .ref h), (1, .ref hw), (3, .int x3), (4, .int x4)]) hx hb dX0_sortWeights_82 hl (k := 2) rfl (by rw [et2]; rfl) (by decide) rfl (fun ls hl => ?_)
        obtain ⟨t3, et3, hf⟩ := lett_e hf
        refine lv_iinc (v := t3) (lv' := [(3, .int t3), (2, .int t2), (0, .ref h), (1, .ref hw), (4, .int x4)]) hx hb dX0_sortWeights_85 hl (k := 3) rfl (by rw [et3]; rfl) (by decide) rfl (fun ls hl => ?_)
        refine lv_goto (tgt := 4) hx hb dX0_sortWeights_88 (by decide) ?_
        exact ih4 u1 t2 t3 _ _ _ hf hP hD hS (lv_sub hl [2, 3, 1, 0] rfl)
      have L24 : ∀ (n24 : Nat), ∀ (v : St) (x2 : Int32) (x3 : Int32) (x4 : Int32) (H : Heap) (locs : List Loc) (ls : Array Slot), fX0_sortWeights_L24 uw (fX0_sortWeights_L4 uw n4) n24 v x2 x3 x4 = some res → va_P D vwCl (kX0 T h a v ++ kX9 T hw aw uw) H → va_D (va_A (kX0 T h a u ++ kX9 T hw aw uw) s.heap.size) (kX0 T h a v ++ kX9 T hw aw uw) → va_S (va_A (kX0 T h a u ++ kX9 T hw aw uw) s.heap.size) s.heap H locs → lv_has ls 5 [(0, .ref h), (1, .ref hw), (2, .int x2), (3, .int x3), (4, .int x4)] → W p l e (headSpec wsX0_sortWeights ({ frames := 1, cells := 0, slots := 0, locals := 21 })).room s m ([.ref h, .ref hw] : List Value).toArray below meth c H locs 0 0 (MQ below (QM D (kX0 T h a u ++ kX9 T hw aw uw) s.heap.size res.1 (kX0 T h a res.2 ++ kX9 T hw aw uw)) ([.ref h, .ref hw] : List Value).toArray s 0 0 (va_A (kX0 T h a u ++ kX9 T hw aw uw) s.heap.size)) (F0 m 24 ls []) := by
        intro n24
        induction n24 with
        | zero => intro v x2 x3 x4 H locs ls hf; exact nns hf
        | succ n24 ih24 =>
          intro v x2 x3 x4 H locs ls hf hP hD hS hl
          replace hf : bX0_sortWeights_L24 uw (fX0_sortWeights_L4 uw n4) (fX0_sortWeights_L24 uw (fX0_sortWeights_L4 uw n4) n24) v x2 x3 x4 = some res := hf
          unfold bX0_sortWeights_L24 at hf
          refine lv_iload hx hb dX0_sortWeights_24 (lv_at hl 4 rfl) ?_
          refine lv_if_le (tgt := 69) hx hb dX0_sortWeights_26 (by decide) (fun c6 => ?_) (fun c6 => ?_)
          · replace hf := ifp c6 hf
            exact J69 v x2 x3 x4 _ _ _ hf hP hD hS (lv_sub hl [0, 1, 2, 3, 4] rfl)
          replace hf := ifn c6 hf
          refine lv_aload_n hx hb dX0_sortWeights_29 rfl (lv_at hl 0 rfl) ?_
          refine va_get (D := D) (ci := 0) (v := .ref (a 2)) (C := RX0) (T := TX0) (N := 6) hx hb hts hinX0 hown hK.1 hP 0 rfl rfl 2 (by decide) (hts (.fieldLink RX0 18 "RopeScale$Choices" "row" "[I") (List.mem_of_getElem? (i := 2) rfl)) (fun _ h9 => h9) rfl dX0_sortWeights_30 ?_
          refine lv_iload hx hb dX0_sortWeights_33 (lv_at hl 4 rfl) ?_
          refine lv_iconst (v := 1) hx hb dX0_sortWeights_35 (by decide) ?_
          refine lv_isub hx hb dX0_sortWeights_36 ?_
          obtain ⟨h13, hf⟩ := gd_e hf
          refine va_iald hx hb hK.1 hP 3 0 rfl rfl h13 dX0_sortWeights_37 ?_
          refine lv_aload_n hx hb dX0_sortWeights_38 rfl (lv_at hl 1 rfl) ?_
          refine va_get (D := D) (ci := 9) (v := .ref (aw 0)) (C := RX9) (T := TX9) (N := 8) hx hb hts hinX9 hown hK.1 hP 7 rfl rfl 0 (by decide) (hts (.fieldLink RX0 69 "RopeScale$Walk" "weight" "[I") (List.mem_of_getElem? (i := 3) rfl)) (fun _ h9 => h9) rfl dX0_sortWeights_39 ?_
          refine lv_iload_n hx hb dX0_sortWeights_42 rfl (lv_at hl 3 rfl) ?_
          obtain ⟨h12, hf⟩ := gd_e hf
          refine va_iald hx hb hK.1 hP 8 0 rfl rfl h12 dX0_sortWeights_43 ?_
          refine lv_icmp_le (tgt := 69) hx hb dX0_sortWeights_44 (by decide) (fun c7 => ?_) (fun c7 => ?_)
          · replace hf := ifp c7 hf
            exact J69 v x2 x3 x4 _ _ _ hf hP hD hS (lv_sub hl [0, 1, 2, 3, 4] rfl)
          replace hf := ifn c7 hf
          refine lv_aload_n hx hb dX0_sortWeights_47 rfl (lv_at hl 0 rfl) ?_
          refine va_get (D := D) (ci := 0) (v := .ref (a 2)) (C := RX0) (T := TX0) (N := 6) hx hb hts hinX0 hown hK.1 hP 0 rfl rfl 2 (by decide) (hts (.fieldLink RX0 18 "RopeScale$Choices" "row" "[I") (List.mem_of_getElem? (i := 2) rfl)) (fun _ h9 => h9) rfl dX0_sortWeights_48 ?_
          refine lv_iload hx hb dX0_sortWeights_51 (lv_at hl 4 rfl) ?_
          refine lv_aload_n hx hb dX0_sortWeights_53 rfl (lv_at hl 0 rfl) ?_
          refine va_get (D := D) (ci := 0) (v := .ref (a 2)) (C := RX0) (T := TX0) (N := 6) hx hb hts hinX0 hown hK.1 hP 0 rfl rfl 2 (by decide) (hts (.fieldLink RX0 18 "RopeScale$Choices" "row" "[I") (List.mem_of_getElem? (i := 2) rfl)) (fun _ h9 => h9) rfl dX0_sortWeights_54 ?_
          refine lv_iload hx hb dX0_sortWeights_57 (lv_at hl 4 rfl) ?_
          refine lv_iconst (v := 1) hx hb dX0_sortWeights_59 (by decide) ?_
          refine lv_isub hx hb dX0_sortWeights_60 ?_
          obtain ⟨h11, hf⟩ := gd_e hf
          refine va_iald hx hb hK.1 hP 3 0 rfl rfl h11 dX0_sortWeights_61 ?_
          obtain ⟨h10, hf⟩ := gd_e hf
          obtain ⟨u8, eu8, hf⟩ := lett_e hf
          refine va_iast hx hb hK.1 hP hD hS 3 0 rfl rfl h10 dX0_sortWeights_62 (fun H locs hP hD hS => ?_)
          have hP : va_P D vwCl (kX0 T h a u8 ++ kX9 T hw aw uw) H := by rw [eu8]; exact hP
          have hD : va_D (va_A (kX0 T h a u ++ kX9 T hw aw uw) s.heap.size) (kX0 T h a u8 ++ kX9 T hw aw uw) := by rw [eu8]; exact hD
          obtain ⟨t9, et9, hf⟩ := lett_e hf
          refine lv_iinc (v := t9) (lv' := [(4, .int t9), (0, .ref h), (1, .ref hw), (2, .int x2), (3, .int x3)]) hx hb dX0_sortWeights_63 hl (k := 4) rfl (by rw [et9]; rfl) (by decide) rfl (fun ls hl => ?_)
          refine lv_goto (tgt := 24) hx hb dX0_sortWeights_66 (by decide) ?_
          exact ih24 u8 x2 x3 t9 _ _ _ hf hP hD hS (lv_sub hl [1, 2, 3, 4, 0] rfl)
      intro v x2 x3 H locs ls hf hP hD hS hl
      replace hf : bX0_sortWeights_L4 uw (fX0_sortWeights_L4 uw n4) v x2 x3 = some res := hf
      unfold bX0_sortWeights_L4 at hf
      refine lv_iload_n hx hb dX0_sortWeights_4 rfl (lv_at hl 3 rfl) ?_
      refine lv_bipush (v := 16) hx hb dX0_sortWeights_5 (by decide) ?_
      refine lv_icmp_ge (tgt := 91) hx hb dX0_sortWeights_7 (by decide) (fun c14 => ?_) (fun c14 => ?_)
      · replace hf := ifp c14 hf
        refine lv_iload_n hx hb dX0_sortWeights_91 rfl (lv_at hl 2 rfl) ?_
        have e9 := Option.some.inj hf
        exact retM hx hb hr hlocks hP hD hS (congrArg (fun z => z.1) e9) (congrArg (fun z => (kX0 T h a z.2 ++ kX9 T hw aw uw : va_W)) e9) dX0_sortWeights_92
      replace hf := ifn c14 hf
      refine lv_aload_n hx hb dX0_sortWeights_10 rfl (lv_at hl 1 rfl) ?_
      refine va_get (D := D) (ci := 9) (v := .int (uw 4 0)) (C := RX9) (T := TX9) (N := 8) hx hb hts hinX9 hown hK.1 hP 7 rfl rfl 4 (by decide) (hts (.fieldLink RX0 59 "RopeScale$Walk" "told" "I") (List.mem_of_getElem? (i := 1) rfl)) (fun _ h9 => h9) rfl dX0_sortWeights_11 ?_
      refine lv_iload_n hx hb dX0_sortWeights_14 rfl (lv_at hl 3 rfl) ?_
      obtain ⟨z15, hz15, hf⟩ := lett_e hf
      refine cNR (As := [.int (uw 4 0), .int x3]) (rest := []) ⟨hx, hb, hml, hown, hts⟩ (mX11_has l D T (uw 4 0) x3 z15 hz15.symm) ⟨va_cnB (host := "RopeScale") (index := 65) 2 hts gX0_sortWeights_X11_has_n65 rfl rfl rfl (hK.2 _ (List.mem_of_getElem? (i := 21) rfl)) (hts (.initialized RX11) (List.mem_of_getElem? (i := 5) rfl)) (by decide +kernel) ⟨Nat.le_of_ble_eq_true rfl, Nat.le_of_ble_eq_true rfl⟩, (hts (.static yX11_has) (List.mem_of_getElem? (i := 4) rfl)), trivial⟩ P0 hK rfl hl.1 rfl (Nat.le_of_ble_eq_true rfl) dX0_sortWeights_15 ⟨Nat.le_of_ble_eq_true rfl, Nat.le_of_ble_eq_true rfl⟩ hP hS (fun H locs hP hS => ?_)
      refine lv_if_eq (tgt := 85) hx hb dX0_sortWeights_18 (by decide) (fun c16 => ?_) (fun c16 => ?_)
      · replace hf := ifp c16 hf
        obtain ⟨t17, et17, hf⟩ := lett_e hf
        refine lv_iinc (v := t17) (lv' := [(3, .int t17), (0, .ref h), (1, .ref hw), (2, .int x2)]) hx hb dX0_sortWeights_85 hl (k := 3) rfl (by rw [et17]; rfl) (by decide) rfl (fun ls hl => ?_)
        refine lv_goto (tgt := 4) hx hb dX0_sortWeights_88 (by decide) ?_
        exact ih4 v x2 t17 _ _ _ hf hP hD hS (lv_sub hl [1, 2, 3, 0] rfl)
      replace hf := ifn c16 hf
      refine lv_iload_n hx hb dX0_sortWeights_21 rfl (lv_at hl 2 rfl) ?_
      refine lv_istore (lv' := [(4, .int x2), (0, .ref h), (1, .ref hw), (2, .int x2), (3, .int x3)]) hx hb dX0_sortWeights_22 hl (by decide) rfl (fun ls hl => ?_)
      exact L24 FU v x2 x3 x2 _ _ _ hf hP hD hS (lv_sub hl [1, 2, 3, 4, 0] rfl)
  unfold fX0_sortWeights at hf
  refine lv_iconst (v := 0) hx hb dX0_sortWeights_0 (by decide) ?_
  refine lv_istore_n (lv' := [(2, .int 0), (0, .ref h), (1, .ref hw)]) hx hb dX0_sortWeights_1 rfl hl (by decide) rfl (fun ls hl => ?_)
  refine lv_iconst (v := 0) hx hb dX0_sortWeights_2 (by decide) ?_
  refine lv_istore_n (lv' := [(3, .int 0), (2, .int 0), (0, .ref h), (1, .ref hw)]) hx hb dX0_sortWeights_3 rfl hl (by decide) rfl (fun ls hl => ?_)
  exact L4 FU u 0 0 _ _ _ hf hP hD hS (lv_sub hl [2, 3, 1, 0] rfl)
def bX0_mostTwos_L15   (lp15 : St → Int32 → Int32 → Int32 → Int32 → Int32 → Option (Int32 × St)) (v : St) (x2 : Int32) (x3 : Int32) (x4 : Int32) (x5 : Int32) (x6 : Int32) : Option (Int32 × St) := if x3 ≤ x6 then some (x4, v) else if x6 ≤ x5 then lett (x6 + 1) fun t3 => lp15 v x2 x3 x4 x5 t3 else gd x6 16 <| gd (x6 - 1) 16 <| if x2 < ((v 2 (ix x6)) - (v 2 (ix (x6 - 1)))) then lett (x6 + 1) fun t5 => lp15 v x2 x3 x4 x5 t5 else lett (x4 + 1) fun t6 => lett (x6 + 1) fun t7 => lett (x6 + 1) fun t8 => lp15 v x2 x3 t6 t7 t8
def fX0_mostTwos_L15   : Nat → St → Int32 → Int32 → Int32 → Int32 → Int32 → Option (Int32 × St)
  | 0, _, _, _, _, _, _ => none
  | n + 1, v, x2, x3, x4, x5, x6 => bX0_mostTwos_L15  (fX0_mostTwos_L15  n) v x2 x3 x4 x5 x6
def fX0_mostTwos  (u : St) (uw : St) (p2 : Int32) : Option (Int32 × St) := (fX0_sortWeights u uw).bind fun z11 => fX0_mostTwos_L15 FU z11.2 p2 z11.1 0 0 1
set_option maxHeartbeats 4000000 in
set_option maxRecDepth 100000 in
theorem mX0_mostTwos (l : Launch) (D : va_G) (T : Ty3) (h : Nat) (a : Nat → Nat) (u : St) (hw : Nat) (aw : Nat → Nat) (uw : St) (sz : Nat) (p2 : Int32) (res : Int32 × St) (hf : fX0_mostTwos u uw p2 = some res) : Met l yX0_mostTwos wsX0_mostTwos ({ frames := 2, cells := 0, slots := 0, locals := 45 }) (PcM D T (kX0 T h a u ++ kX9 T hw aw uw) sz [.ref h, .ref hw, .int p2]) (QM D (kX0 T h a u ++ kX9 T hw aw uw) sz res.1 (kX0 T h a res.2 ++ kX9 T hw aw uw)) 0 0 (va_A (kX0 T h a u ++ kX9 T hw aw uw) sz) := by
  refine Met.ofW (cc := cX0_mostTwos) (maxL := 7) (ret := (some .int)) (by decide) rfl ?_
  intro p e s m args below meth c s₁ B hml hv
  obtain ⟨rfl, hsz, hP, hK, hD0⟩ := hv
  have hx := B.exec
  have hb := B.bytes
  have hr := B.returns
  have hts := atoms_spec (ws := wsX0_mostTwos) B.pre
  have hown : s.vm.findClass RX0 = some m.cls := findClass_of_methodNamed B.named
  have hlocks := B.notSynchronized
  subst hsz
  have hD := hD0.self (sz := s.heap.size)
  have hA : ∀ q : Nat, s.heap.size ≤ q → va_A (kX0 T h a u ++ kX9 T hw aw uw) s.heap.size q := fun q h => Or.inr h
  have hS : va_S (va_A (kX0 T h a u ++ kX9 T hw aw uw) s.heap.size) s.heap s.heap [] := va_S.rf
  have hinX0 : ∀ w ∈ u_ws RX0 TX0 6, w ∈ wsX0_mostTwos := fun w h => List.mem_cons_of_mem _ (List.mem_append_left _ (List.mem_append_right _ h))
  have hinX9 : ∀ w ∈ u_ws RX9 TX9 8, w ∈ wsX0_mostTwos := fun w h => List.mem_cons_of_mem _ (List.mem_append_right _ h)
  have hl := lv_entry ([.ref h, .ref hw, .int p2]) (n := 7) (Nat.le_of_ble_eq_true rfl)
  rw [lg_entry_eq]
  generalize (lg_sl ([.ref h, .ref hw, .int p2]) ++ List.replicate (7 - (lg_sl ([.ref h, .ref hw, .int p2])).length) Slot.unset).toArray = ls at hl ⊢
  have hl : lv_has ls 7 [(0, .ref h), (1, .ref hw), (2, .int p2)] := hl
  have L15 : ∀ (n15 : Nat), ∀ (v : St) (x2 : Int32) (x3 : Int32) (x4 : Int32) (x5 : Int32) (x6 : Int32) (H : Heap) (locs : List Loc) (ls : Array Slot), fX0_mostTwos_L15  n15 v x2 x3 x4 x5 x6 = some res → va_P D vwCl (kX0 T h a v ++ kX9 T hw aw uw) H → va_D (va_A (kX0 T h a u ++ kX9 T hw aw uw) s.heap.size) (kX0 T h a v ++ kX9 T hw aw uw) → va_S (va_A (kX0 T h a u ++ kX9 T hw aw uw) s.heap.size) s.heap H locs → lv_has ls 7 [(0, .ref h), (2, .int x2), (3, .int x3), (4, .int x4), (5, .int x5), (6, .int x6)] → W p l e (headSpec wsX0_mostTwos ({ frames := 2, cells := 0, slots := 0, locals := 45 })).room s m ([.ref h, .ref hw, .int p2] : List Value).toArray below meth c H locs 0 0 (MQ below (QM D (kX0 T h a u ++ kX9 T hw aw uw) s.heap.size res.1 (kX0 T h a res.2 ++ kX9 T hw aw uw)) ([.ref h, .ref hw, .int p2] : List Value).toArray s 0 0 (va_A (kX0 T h a u ++ kX9 T hw aw uw) s.heap.size)) (F0 m 15 ls []) := by
    intro n15
    induction n15 with
    | zero => intro v x2 x3 x4 x5 x6 H locs ls hf; exact nns hf
    | succ n15 ih15 =>
      intro v x2 x3 x4 x5 x6 H locs ls hf hP hD hS hl
      replace hf : bX0_mostTwos_L15  (fX0_mostTwos_L15  n15) v x2 x3 x4 x5 x6 = some res := hf
      unfold bX0_mostTwos_L15 at hf
      refine lv_iload hx hb dX0_mostTwos_15 (lv_at hl 5 rfl) ?_
      refine lv_iload_n hx hb dX0_mostTwos_17 rfl (lv_at hl 2 rfl) ?_
      refine lv_icmp_ge (tgt := 64) hx hb dX0_mostTwos_18 (by decide) (fun c1 => ?_) (fun c1 => ?_)
      · replace hf := ifp c1 hf
        refine lv_iload hx hb dX0_mostTwos_64 (lv_at hl 3 rfl) ?_
        have e9 := Option.some.inj hf
        exact retM hx hb hr hlocks hP hD hS (congrArg (fun z => z.1) e9) (congrArg (fun z => (kX0 T h a z.2 ++ kX9 T hw aw uw : va_W)) e9) dX0_mostTwos_66
      replace hf := ifn c1 hf
      refine lv_iload hx hb dX0_mostTwos_21 (lv_at hl 5 rfl) ?_
      refine lv_iload hx hb dX0_mostTwos_23 (lv_at hl 4 rfl) ?_
      refine lv_icmp_le (tgt := 58) hx hb dX0_mostTwos_25 (by decide) (fun c2 => ?_) (fun c2 => ?_)
      · replace hf := ifp c2 hf
        obtain ⟨t3, et3, hf⟩ := lett_e hf
        refine lv_iinc (v := t3) (lv' := [(6, .int t3), (0, .ref h), (2, .int x2), (3, .int x3), (4, .int x4), (5, .int x5)]) hx hb dX0_mostTwos_58 hl (k := 5) rfl (by rw [et3]; rfl) (by decide) rfl (fun ls hl => ?_)
        refine lv_goto (tgt := 15) hx hb dX0_mostTwos_61 (by decide) ?_
        exact ih15 v x2 x3 x4 x5 t3 _ _ _ hf hP hD hS (lv_sub hl [1, 2, 3, 4, 5, 0] rfl)
      replace hf := ifn c2 hf
      refine lv_aload_n hx hb dX0_mostTwos_28 rfl (lv_at hl 0 rfl) ?_
      refine va_get (D := D) (ci := 0) (v := .ref (a 2)) (C := RX0) (T := TX0) (N := 6) hx hb hts hinX0 hown hK.1 hP 0 rfl rfl 2 (by decide) (hts (.fieldLink RX0 18 "RopeScale$Choices" "row" "[I") (List.mem_of_getElem? (i := 1) rfl)) (fun _ h9 => h9) rfl dX0_mostTwos_29 ?_
      refine lv_iload hx hb dX0_mostTwos_32 (lv_at hl 5 rfl) ?_
      obtain ⟨h10, hf⟩ := gd_e hf
      refine va_iald hx hb hK.1 hP 3 0 rfl rfl h10 dX0_mostTwos_34 ?_
      refine lv_aload_n hx hb dX0_mostTwos_35 rfl (lv_at hl 0 rfl) ?_
      refine va_get (D := D) (ci := 0) (v := .ref (a 2)) (C := RX0) (T := TX0) (N := 6) hx hb hts hinX0 hown hK.1 hP 0 rfl rfl 2 (by decide) (hts (.fieldLink RX0 18 "RopeScale$Choices" "row" "[I") (List.mem_of_getElem? (i := 1) rfl)) (fun _ h9 => h9) rfl dX0_mostTwos_36 ?_
      refine lv_iload hx hb dX0_mostTwos_39 (lv_at hl 5 rfl) ?_
      refine lv_iconst (v := 1) hx hb dX0_mostTwos_41 (by decide) ?_
      refine lv_isub hx hb dX0_mostTwos_42 ?_
      obtain ⟨h9, hf⟩ := gd_e hf
      refine va_iald hx hb hK.1 hP 3 0 rfl rfl h9 dX0_mostTwos_43 ?_
      refine lv_isub hx hb dX0_mostTwos_44 ?_
      refine lv_iload_n hx hb dX0_mostTwos_45 rfl (lv_at hl 1 rfl) ?_
      refine lv_icmp_gt (tgt := 58) hx hb dX0_mostTwos_46 (by decide) (fun c4 => ?_) (fun c4 => ?_)
      · replace hf := ifp c4 hf
        obtain ⟨t5, et5, hf⟩ := lett_e hf
        refine lv_iinc (v := t5) (lv' := [(6, .int t5), (0, .ref h), (2, .int x2), (3, .int x3), (4, .int x4), (5, .int x5)]) hx hb dX0_mostTwos_58 hl (k := 5) rfl (by rw [et5]; rfl) (by decide) rfl (fun ls hl => ?_)
        refine lv_goto (tgt := 15) hx hb dX0_mostTwos_61 (by decide) ?_
        exact ih15 v x2 x3 x4 x5 t5 _ _ _ hf hP hD hS (lv_sub hl [1, 2, 3, 4, 5, 0] rfl)
      replace hf := ifn c4 hf
      obtain ⟨t6, et6, hf⟩ := lett_e hf
      refine lv_iinc (v := t6) (lv' := [(4, .int t6), (0, .ref h), (2, .int x2), (3, .int x3), (5, .int x5), (6, .int x6)]) hx hb dX0_mostTwos_49 hl (k := 3) rfl (by rw [et6]; rfl) (by decide) rfl (fun ls hl => ?_)
      refine lv_iload hx hb dX0_mostTwos_52 (lv_at hl 5 rfl) ?_
      refine lv_iconst (v := 1) hx hb dX0_mostTwos_54 (by decide) ?_
      refine lv_iadd hx hb dX0_mostTwos_55 ?_
      obtain ⟨t7, et7, hf⟩ := lett_e hf
      refine lv_eqi et7 ?_
      refine lv_istore (lv' := [(5, .int t7), (4, .int t6), (0, .ref h), (2, .int x2), (3, .int x3), (6, .int x6)]) hx hb dX0_mostTwos_56 hl (by decide) rfl (fun ls hl => ?_)
      obtain ⟨t8, et8, hf⟩ := lett_e hf
      refine lv_iinc (v := t8) (lv' := [(6, .int t8), (5, .int t7), (4, .int t6), (0, .ref h), (2, .int x2), (3, .int x3)]) hx hb dX0_mostTwos_58 hl (k := 5) rfl (by rw [et8]; rfl) (by decide) rfl (fun ls hl => ?_)
      refine lv_goto (tgt := 15) hx hb dX0_mostTwos_61 (by decide) ?_
      exact ih15 v x2 x3 t6 t7 t8 _ _ _ hf hP hD hS (lv_sub hl [3, 4, 5, 2, 1, 0] rfl)
  unfold fX0_mostTwos at hf
  refine lv_aload_n hx hb dX0_mostTwos_0 rfl (lv_at hl 0 rfl) ?_
  refine lv_aload_n hx hb dX0_mostTwos_1 rfl (lv_at hl 1 rfl) ?_
  obtain ⟨z11, hz11, hf⟩ := bnd hf
  have hFc9 := vaA_self hD hS hA
  refine cVM (As := [.ref hw]) (rest := []) ⟨hx, hb, hml, hown, hts⟩ (mX0_sortWeights l D T h a u hw aw uw _ z11 hz11) (cwV 1 hts gX0_mostTwos_X0_sortWeights rfl rfl rfl (by decide +kernel) ⟨Nat.le_of_ble_eq_true rfl, Nat.le_of_ble_eq_true rfl⟩) (va_recv hK.1 hP (ci := 0) (q0 := 0) rfl rfl) hP hK rfl hl.1 rfl (Nat.le_of_ble_eq_true rfl) dX0_mostTwos_2 ⟨Nat.le_of_ble_eq_true rfl, Nat.le_of_ble_eq_true rfl⟩ hD hFc9 hS (fun H locs hP hD1 _ hS => ?_)
  have hD := hD1.weaken (fun _ _ _ h9 => hFc9 _ h9)
  refine lv_istore_n (lv' := [(3, .int z11.1), (0, .ref h), (1, .ref hw), (2, .int p2)]) hx hb dX0_mostTwos_5 rfl hl (by decide) rfl (fun ls hl => ?_)
  refine lv_iconst (v := 0) hx hb dX0_mostTwos_6 (by decide) ?_
  refine lv_istore (lv' := [(4, .int 0), (3, .int z11.1), (0, .ref h), (1, .ref hw), (2, .int p2)]) hx hb dX0_mostTwos_7 hl (by decide) rfl (fun ls hl => ?_)
  refine lv_iconst (v := 0) hx hb dX0_mostTwos_9 (by decide) ?_
  refine lv_istore (lv' := [(5, .int 0), (4, .int 0), (3, .int z11.1), (0, .ref h), (1, .ref hw), (2, .int p2)]) hx hb dX0_mostTwos_10 hl (by decide) rfl (fun ls hl => ?_)
  refine lv_iconst (v := 1) hx hb dX0_mostTwos_12 (by decide) ?_
  refine lv_istore (lv' := [(6, .int 1), (5, .int 0), (4, .int 0), (3, .int z11.1), (0, .ref h), (1, .ref hw), (2, .int p2)]) hx hb dX0_mostTwos_13 hl (by decide) rfl (fun ls hl => ?_)
  exact L15 FU z11.2 p2 z11.1 0 0 1 _ _ _ hf hP hD hS (lv_sub hl [4, 6, 3, 2, 1, 0] rfl)
def bX0_gather_L13 (uw : Nat → Int32)  (lp13 : St → Int32 → Int32 → Int32 → Option (Int32 × St)) (v : St) (x1 : Int32) (x3 : Int32) (x4 : Int32) : Option (Int32 × St) := if 16 ≤ x4 then some (x3, v) else if 8 ≤ x3 then some (x3, v) else lett (fX11_has x1 x4) fun z3 => if z3 = 0 then lett (x4 + 1) fun t5 => lp13 v x1 x3 t5 else gd x3 8 <| lett (st v 3 (ix x3) x4) fun u6 => gd x4 16 <| gd x3 16 <| lett (st u6 2 (ix x3) (uw (ix x4))) fun u7 => lett (x3 + 1) fun t8 => lett (x4 + 1) fun t9 => lp13 u7 x1 t8 t9
def fX0_gather_L13 (uw : Nat → Int32)  : Nat → St → Int32 → Int32 → Int32 → Option (Int32 × St)
  | 0, _, _, _, _ => none
  | n + 1, v, x1, x3, x4 => bX0_gather_L13 uw (fX0_gather_L13 uw n) v x1 x3 x4
def fX0_gather  (u : St) (uw : Nat → Int32) (p1 : Int32) : Option (Int32 × St) := (fJ7_fill_53178 (u 2) 0).bind fun z13 => lett (sa u 2 z13) fun u14 => fX0_gather_L13 uw FU u14 p1 0 0
set_option maxHeartbeats 4000000 in
set_option maxRecDepth 100000 in
theorem mX0_gather (l : Launch) (D : va_G) (T : Ty3) (h : Nat) (a : Nat → Nat) (u : St) (qw : Nat) (uw : Nat → Int32) (sz : Nat) (p1 : Int32) (res : Int32 × St) (hf : fX0_gather u uw p1 = some res) : Met l yX0_gather wsX0_gather ({ frames := 1, cells := 0, slots := 0, locals := 23 }) (PcM D T (kX0 T h a u ++ [(qw, .inl (T.1, 16, .inl uw))]) sz [.ref h, .int p1, .ref qw]) (QM D (kX0 T h a u ++ [(qw, .inl (T.1, 16, .inl uw))]) sz res.1 (kX0 T h a res.2 ++ [(qw, .inl (T.1, 16, .inl uw))])) 0 0 (va_A (kX0 T h a u ++ [(qw, .inl (T.1, 16, .inl uw))]) sz) := by
  refine Met.ofW (cc := cX0_gather) (maxL := 5) (ret := (some .int)) (by decide) rfl ?_
  intro p e s m args below meth c s₁ B hml hv
  obtain ⟨rfl, hsz, hP, hK, hD0⟩ := hv
  have hx := B.exec
  have hb := B.bytes
  have hr := B.returns
  have hts := atoms_spec (ws := wsX0_gather) B.pre
  have hown : s.vm.findClass RX0 = some m.cls := findClass_of_methodNamed B.named
  have hlocks := B.notSynchronized
  subst hsz
  have hD := hD0.self (sz := s.heap.size)
  have hA : ∀ q : Nat, s.heap.size ≤ q → va_A (kX0 T h a u ++ [(qw, .inl (T.1, 16, .inl uw))]) s.heap.size q := fun q h => Or.inr h
  have hS : va_S (va_A (kX0 T h a u ++ [(qw, .inl (T.1, 16, .inl uw))]) s.heap.size) s.heap s.heap [] := va_S.rf
  have hinX0 : ∀ w ∈ u_ws RX0 TX0 6, w ∈ wsX0_gather := fun w h => List.mem_cons_of_mem _ (List.mem_append_right _ h)
  have hl := lv_entry ([.ref h, .int p1, .ref qw]) (n := 5) (Nat.le_of_ble_eq_true rfl)
  rw [lg_entry_eq]
  generalize (lg_sl ([.ref h, .int p1, .ref qw]) ++ List.replicate (5 - (lg_sl ([.ref h, .int p1, .ref qw])).length) Slot.unset).toArray = ls at hl ⊢
  have hl : lv_has ls 5 [(0, .ref h), (1, .int p1), (2, .ref qw)] := hl
  have L13 : ∀ (n13 : Nat), ∀ (v : St) (x1 : Int32) (x3 : Int32) (x4 : Int32) (H : Heap) (locs : List Loc) (ls : Array Slot), fX0_gather_L13 uw n13 v x1 x3 x4 = some res → va_P D vwCl (kX0 T h a v ++ [(qw, .inl (T.1, 16, .inl uw))]) H → va_D (va_A (kX0 T h a u ++ [(qw, .inl (T.1, 16, .inl uw))]) s.heap.size) (kX0 T h a v ++ [(qw, .inl (T.1, 16, .inl uw))]) → va_S (va_A (kX0 T h a u ++ [(qw, .inl (T.1, 16, .inl uw))]) s.heap.size) s.heap H locs → lv_has ls 5 [(0, .ref h), (1, .int x1), (2, .ref qw), (3, .int x3), (4, .int x4)] → W p l e (headSpec wsX0_gather ({ frames := 1, cells := 0, slots := 0, locals := 23 })).room s m ([.ref h, .int p1, .ref qw] : List Value).toArray below meth c H locs 0 0 (MQ below (QM D (kX0 T h a u ++ [(qw, .inl (T.1, 16, .inl uw))]) s.heap.size res.1 (kX0 T h a res.2 ++ [(qw, .inl (T.1, 16, .inl uw))])) ([.ref h, .int p1, .ref qw] : List Value).toArray s 0 0 (va_A (kX0 T h a u ++ [(qw, .inl (T.1, 16, .inl uw))]) s.heap.size)) (F0 m 13 ls []) := by
    intro n13
    induction n13 with
    | zero => intro v x1 x3 x4 H locs ls hf; exact nns hf
    | succ n13 ih13 =>
      intro v x1 x3 x4 H locs ls hf hP hD hS hl
      replace hf : bX0_gather_L13 uw (fX0_gather_L13 uw n13) v x1 x3 x4 = some res := hf
      unfold bX0_gather_L13 at hf
      refine lv_iload hx hb dX0_gather_13 (lv_at hl 4 rfl) ?_
      refine lv_bipush (v := 16) hx hb dX0_gather_15 (by decide) ?_
      refine lv_icmp_ge (tgt := 62) hx hb dX0_gather_17 (by decide) (fun c1 => ?_) (fun c1 => ?_)
      · replace hf := ifp c1 hf
        refine lv_iload_n hx hb dX0_gather_62 rfl (lv_at hl 3 rfl) ?_
        have e9 := Option.some.inj hf
        exact retM hx hb hr hlocks hP hD hS (congrArg (fun z => z.1) e9) (congrArg (fun z => (kX0 T h a z.2 ++ [(qw, .inl (T.1, 16, .inl uw))] : va_W)) e9) dX0_gather_63
      replace hf := ifn c1 hf
      refine lv_iload_n hx hb dX0_gather_20 rfl (lv_at hl 3 rfl) ?_
      refine lv_bipush (v := 8) hx hb dX0_gather_21 (by decide) ?_
      refine lv_icmp_ge (tgt := 62) hx hb dX0_gather_23 (by decide) (fun c2 => ?_) (fun c2 => ?_)
      · replace hf := ifp c2 hf
        refine lv_iload_n hx hb dX0_gather_62 rfl (lv_at hl 3 rfl) ?_
        have e9 := Option.some.inj hf
        exact retM hx hb hr hlocks hP hD hS (congrArg (fun z => z.1) e9) (congrArg (fun z => (kX0 T h a z.2 ++ [(qw, .inl (T.1, 16, .inl uw))] : va_W)) e9) dX0_gather_63
      replace hf := ifn c2 hf
      refine lv_iload_n hx hb dX0_gather_26 rfl (lv_at hl 1 rfl) ?_
      refine lv_iload hx hb dX0_gather_27 (lv_at hl 4 rfl) ?_
      obtain ⟨z3, hz3, hf⟩ := lett_e hf
      refine cNR (As := [.int x1, .int x4]) (rest := []) ⟨hx, hb, hml, hown, hts⟩ (mX11_has l D T x1 x4 z3 hz3.symm) ⟨va_cnB (host := "RopeScale") (index := 65) 2 hts gX0_gather_X11_has_n65 rfl rfl rfl (hK.2 _ (List.mem_of_getElem? (i := 21) rfl)) (hts (.initialized RX11) (List.mem_of_getElem? (i := 8) rfl)) (by decide +kernel) ⟨Nat.le_of_ble_eq_true rfl, Nat.le_of_ble_eq_true rfl⟩, (hts (.static yX11_has) (List.mem_of_getElem? (i := 7) rfl)), trivial⟩ P0 hK rfl hl.1 rfl (Nat.le_of_ble_eq_true rfl) dX0_gather_29 ⟨Nat.le_of_ble_eq_true rfl, Nat.le_of_ble_eq_true rfl⟩ hP hS (fun H locs hP hS => ?_)
      refine lv_if_eq (tgt := 56) hx hb dX0_gather_32 (by decide) (fun c4 => ?_) (fun c4 => ?_)
      · replace hf := ifp c4 hf
        obtain ⟨t5, et5, hf⟩ := lett_e hf
        refine lv_iinc (v := t5) (lv' := [(4, .int t5), (0, .ref h), (1, .int x1), (2, .ref qw), (3, .int x3)]) hx hb dX0_gather_56 hl (k := 4) rfl (by rw [et5]; rfl) (by decide) rfl (fun ls hl => ?_)
        refine lv_goto (tgt := 13) hx hb dX0_gather_59 (by decide) ?_
        exact ih13 v x1 x3 t5 _ _ _ hf hP hD hS (lv_sub hl [1, 2, 3, 4, 0] rfl)
      replace hf := ifn c4 hf
      refine lv_aload_n hx hb dX0_gather_35 rfl (lv_at hl 0 rfl) ?_
      refine va_get (D := D) (ci := 0) (v := .ref (a 3)) (C := RX0) (T := TX0) (N := 6) hx hb hts hinX0 hown hK.1 hP 0 rfl rfl 3 (by decide) (hts (.fieldLink RX0 21 "RopeScale$Choices" "member" "[I") (List.mem_of_getElem? (i := 2) rfl)) (fun _ h9 => h9) rfl dX0_gather_36 ?_
      refine lv_iload_n hx hb dX0_gather_39 rfl (lv_at hl 3 rfl) ?_
      refine lv_iload hx hb dX0_gather_40 (lv_at hl 4 rfl) ?_
      obtain ⟨h12, hf⟩ := gd_e hf
      obtain ⟨u6, eu6, hf⟩ := lett_e hf
      refine va_iast hx hb hK.1 hP hD hS 4 0 rfl rfl h12 dX0_gather_42 (fun H locs hP hD hS => ?_)
      have hP : va_P D vwCl (kX0 T h a u6 ++ [(qw, .inl (T.1, 16, .inl uw))]) H := by rw [eu6]; exact hP
      have hD : va_D (va_A (kX0 T h a u ++ [(qw, .inl (T.1, 16, .inl uw))]) s.heap.size) (kX0 T h a u6 ++ [(qw, .inl (T.1, 16, .inl uw))]) := by rw [eu6]; exact hD
      refine lv_aload_n hx hb dX0_gather_43 rfl (lv_at hl 0 rfl) ?_
      refine va_get (D := D) (ci := 0) (v := .ref (a 2)) (C := RX0) (T := TX0) (N := 6) hx hb hts hinX0 hown hK.1 hP 0 rfl rfl 2 (by decide) (hts (.fieldLink RX0 18 "RopeScale$Choices" "row" "[I") (List.mem_of_getElem? (i := 1) rfl)) (fun _ h9 => h9) rfl dX0_gather_44 ?_
      refine lv_iload_n hx hb dX0_gather_47 rfl (lv_at hl 3 rfl) ?_
      refine lv_aload_n hx hb dX0_gather_48 rfl (lv_at hl 2 rfl) ?_
      refine lv_iload hx hb dX0_gather_49 (lv_at hl 4 rfl) ?_
      obtain ⟨h11, hf⟩ := gd_e hf
      refine va_iald hx hb hK.1 hP 7 0 rfl rfl h11 dX0_gather_51 ?_
      obtain ⟨h10, hf⟩ := gd_e hf
      obtain ⟨u7, eu7, hf⟩ := lett_e hf
      refine va_iast hx hb hK.1 hP hD hS 3 0 rfl rfl h10 dX0_gather_52 (fun H locs hP hD hS => ?_)
      have hP : va_P D vwCl (kX0 T h a u7 ++ [(qw, .inl (T.1, 16, .inl uw))]) H := by rw [eu7]; exact hP
      have hD : va_D (va_A (kX0 T h a u ++ [(qw, .inl (T.1, 16, .inl uw))]) s.heap.size) (kX0 T h a u7 ++ [(qw, .inl (T.1, 16, .inl uw))]) := by rw [eu7]; exact hD
      obtain ⟨t8, et8, hf⟩ := lett_e hf
      refine lv_iinc (v := t8) (lv' := [(3, .int t8), (0, .ref h), (1, .int x1), (2, .ref qw), (4, .int x4)]) hx hb dX0_gather_53 hl (k := 3) rfl (by rw [et8]; rfl) (by decide) rfl (fun ls hl => ?_)
      obtain ⟨t9, et9, hf⟩ := lett_e hf
      refine lv_iinc (v := t9) (lv' := [(4, .int t9), (3, .int t8), (0, .ref h), (1, .int x1), (2, .ref qw)]) hx hb dX0_gather_56 hl (k := 4) rfl (by rw [et9]; rfl) (by decide) rfl (fun ls hl => ?_)
      refine lv_goto (tgt := 13) hx hb dX0_gather_59 (by decide) ?_
      exact ih13 u7 x1 t8 t9 _ _ _ hf hP hD hS (lv_sub hl [2, 3, 4, 1, 0] rfl)
  unfold fX0_gather at hf
  refine lv_aload_n hx hb dX0_gather_0 rfl (lv_at hl 0 rfl) ?_
  refine va_get (D := D) (ci := 0) (v := .ref (a 2)) (C := RX0) (T := TX0) (N := 6) hx hb hts hinX0 hown hK.1 hP 0 rfl rfl 2 (by decide) (hts (.fieldLink RX0 18 "RopeScale$Choices" "row" "[I") (List.mem_of_getElem? (i := 1) rfl)) (fun _ h9 => h9) rfl dX0_gather_1 ?_
  refine lv_iconst (v := 0) hx hb dX0_gather_4 (by decide) ?_
  obtain ⟨z13, hz13, hf⟩ := bnd hf
  have hPc := hP.sub (ws' := [(a 2, .inl (T.1, 16, .inl (u 2)))]) [3] rfl
  have hDc := hD.sub (ws' := [(a 2, .inl (T.1, 16, .inl (u 2)))]) [3] (by decide) rfl
  have hFc9 := va_free (wc := [(a 2, .inl (T.1, 16, .inl (u 2)))]) hD hS hA [3] rfl
  refine cSMv (As := [.ref (a 2), .int 0]) (rest := []) ⟨hx, hb, hml, hown, hts⟩ (mJ7_fill_53178 l D T (a 2) (u 2) _ 0 z13 hz13) (va_cwS 2 hts gX0_gather_J7_fill_53178 rfl rfl rfl (by decide +kernel) ⟨Nat.le_of_ble_eq_true rfl, Nat.le_of_ble_eq_true rfl⟩) hPc hK rfl hl.1 rfl (Nat.le_of_ble_eq_true rfl) dX0_gather_5 ⟨Nat.le_of_ble_eq_true rfl, Nat.le_of_ble_eq_true rfl⟩ hDc hFc9 hS (fun H9 locs hP1 hD1 hk1 hS => ?_)
  obtain ⟨hP, hD⟩ := putAll_P (w1 := [(a 2, .inl (T.1, 16, .inl z13))]) hP hD [3] rfl (by decide) hk1 hP1 rfl
  generalize H9 = H at hP hS ⊢
  obtain ⟨u14, eu14, hf⟩ := lett_e hf
  have hP : va_P D vwCl (kX0 T h a u14 ++ [(qw, .inl (T.1, 16, .inl uw))]) H := by rw [eu14]; exact hP
  have hD : va_D (va_A (kX0 T h a u ++ [(qw, .inl (T.1, 16, .inl uw))]) s.heap.size) (kX0 T h a u14 ++ [(qw, .inl (T.1, 16, .inl uw))]) := by rw [eu14]; exact hD
  refine lv_iconst (v := 0) hx hb dX0_gather_8 (by decide) ?_
  refine lv_istore_n (lv' := [(3, .int 0), (0, .ref h), (1, .int p1), (2, .ref qw)]) hx hb dX0_gather_9 rfl hl (by decide) rfl (fun ls hl => ?_)
  refine lv_iconst (v := 0) hx hb dX0_gather_10 (by decide) ?_
  refine lv_istore (lv' := [(4, .int 0), (3, .int 0), (0, .ref h), (1, .int p1), (2, .ref qw)]) hx hb dX0_gather_11 hl (by decide) rfl (fun ls hl => ?_)
  exact L13 FU u14 p1 0 0 _ _ _ hf hP hD hS (lv_sub hl [2, 3, 4, 1, 0] rfl)
def bX0_canGo_L14 (u : St)  (lp14 : Int32 → Int32 → Int32 → Int32 → Int32 → Int32 → Int32 → Option (Int32)) (x1 : Int32) (x2 : Int32) (x3 : Int32) (x4 : Int32) (x5 : Int32) (x6 : Int32) (x7 : Int32) : Option (Int32) := if x5 ≤ x7 then some 0 else gd x6 256 <| lett (x2 - (u 0 (ix x6))) fun t2 => if (ab t2) ≤ x4 then some 1 else if x4 < (ab (t2 - x3)) then lett (fX0_setAfter x6 x1) fun z5 => lett (x7 + 1) fun t6 => lp14 x1 x2 x3 x4 x5 z5 t6 else some 1
def fX0_canGo_L14 (u : St)  : Nat → Int32 → Int32 → Int32 → Int32 → Int32 → Int32 → Int32 → Option (Int32)
  | 0, _, _, _, _, _, _, _ => none
  | n + 1, x1, x2, x3, x4, x5, x6, x7 => bX0_canGo_L14 u (fX0_canGo_L14 u n) x1 x2 x3 x4 x5 x6 x7
def fX0_canGo  (u : St) (p1 : Int32) (p2 : Int32) (p3 : Int32) (p4 : Int32) : Option (Int32) := lett (fJ6_bitCount_0f7a4 p1) fun z8 => lett (jshl 1 z8) fun t9 => fX0_canGo_L14 u FU p1 p2 p3 p4 t9 0 0
set_option maxHeartbeats 4000000 in
set_option maxRecDepth 100000 in
theorem mX0_canGo (l : Launch) (D : va_G) (T : Ty3) (h : Nat) (a : Nat → Nat) (u : St) (p1 : Int32) (p2 : Int32) (p3 : Int32) (p4 : Int32) (res : Int32) (hf : fX0_canGo u p1 p2 p3 p4 = some res) : Met l yX0_canGo wsX0_canGo ({ frames := 1, cells := 0, slots := 0, locals := 21 }) (PcR D T (kX0 T h a u) [.ref h, .int p1, .int p2, .int p3, .int p4]) (QR res) 0 0 noA := by
  refine Met.ofW (cc := cX0_canGo) (maxL := 9) (ret := (some .boolean)) (by decide) rfl ?_
  intro p e s m args below meth c s₁ B hml hv
  obtain ⟨rfl, hP, hK⟩ := hv
  have hx := B.exec
  have hb := B.bytes
  have hr := B.returns
  have hts := atoms_spec (ws := wsX0_canGo) B.pre
  have hown : s.vm.findClass RX0 = some m.cls := findClass_of_methodNamed B.named
  have hlocks := B.notSynchronized
  have hS : va_S noA s.heap s.heap [] := va_S.rf
  have hinX0 : ∀ w ∈ u_ws RX0 TX0 6, w ∈ wsX0_canGo := fun w h => List.mem_cons_of_mem _ (List.mem_append_right _ h)
  have hl := lv_entry ([.ref h, .int p1, .int p2, .int p3, .int p4]) (n := 9) (Nat.le_of_ble_eq_true rfl)
  rw [lg_entry_eq]
  generalize (lg_sl ([.ref h, .int p1, .int p2, .int p3, .int p4]) ++ List.replicate (9 - (lg_sl ([.ref h, .int p1, .int p2, .int p3, .int p4])).length) Slot.unset).toArray = ls at hl ⊢
  have hl : lv_has ls 9 [(0, .ref h), (1, .int p1), (2, .int p2), (3, .int p3), (4, .int p4)] := hl
  have L14 : ∀ (n14 : Nat), ∀ (x1 : Int32) (x2 : Int32) (x3 : Int32) (x4 : Int32) (x5 : Int32) (x6 : Int32) (x7 : Int32) (H : Heap) (locs : List Loc) (ls : Array Slot), fX0_canGo_L14 u n14 x1 x2 x3 x4 x5 x6 x7 = some res → va_P D vwCl (kX0 T h a u) H → va_S noA s.heap H locs → lv_has ls 9 [(0, .ref h), (1, .int x1), (2, .int x2), (3, .int x3), (4, .int x4), (5, .int x5), (6, .int x6), (7, .int x7)] → W p l e (headSpec wsX0_canGo ({ frames := 1, cells := 0, slots := 0, locals := 21 })).room s m ([.ref h, .int p1, .int p2, .int p3, .int p4] : List Value).toArray below meth c H locs 0 0 (MQ below (QR res) ([.ref h, .int p1, .int p2, .int p3, .int p4] : List Value).toArray s 0 0 noA) (F0 m 14 ls []) := by
    intro n14
    induction n14 with
    | zero => intro x1 x2 x3 x4 x5 x6 x7 H locs ls hf; exact nns hf
    | succ n14 ih14 =>
      intro x1 x2 x3 x4 x5 x6 x7 H locs ls hf hP hS hl
      replace hf : bX0_canGo_L14 u (fX0_canGo_L14 u n14) x1 x2 x3 x4 x5 x6 x7 = some res := hf
      unfold bX0_canGo_L14 at hf
      refine lv_iload hx hb dX0_canGo_14 (lv_at hl 7 rfl) ?_
      refine lv_iload hx hb dX0_canGo_16 (lv_at hl 5 rfl) ?_
      refine lv_icmp_ge (tgt := 70) hx hb dX0_canGo_18 (by decide) (fun c1 => ?_) (fun c1 => ?_)
      · replace hf := ifp c1 hf
        refine lv_iconst (v := 0) hx hb dX0_canGo_70 (by decide) ?_
        exact retRz hx hb hr hlocks hS rfl (Option.some.inj hf) dX0_canGo_71
      replace hf := ifn c1 hf
      refine lv_iload_n hx hb dX0_canGo_21 rfl (lv_at hl 2 rfl) ?_
      refine lv_aload_n hx hb dX0_canGo_22 rfl (lv_at hl 0 rfl) ?_
      refine va_get (D := D) (ci := 0) (v := .ref (a 0)) (C := RX0) (T := TX0) (N := 6) hx hb hts hinX0 hown hK.1 hP 0 rfl rfl 0 (by decide) (hts (.fieldLink RX0 11 "RopeScale$Choices" "lower" "[I") (List.mem_of_getElem? (i := 1) rfl)) (fun _ h9 => h9) rfl dX0_canGo_23 ?_
      refine lv_iload hx hb dX0_canGo_26 (lv_at hl 6 rfl) ?_
      obtain ⟨h7, hf⟩ := gd_e hf
      refine va_iald hx hb hK.1 hP 1 0 rfl rfl h7 dX0_canGo_28 ?_
      refine lv_isub hx hb dX0_canGo_29 ?_
      obtain ⟨t2, et2, hf⟩ := lett_e hf
      refine lv_eqi et2 ?_
      refine lv_istore (lv' := [(8, .int t2), (0, .ref h), (1, .int x1), (2, .int x2), (3, .int x3), (4, .int x4), (5, .int x5), (6, .int x6), (7, .int x7)]) hx hb dX0_canGo_30 hl (by decide) rfl (fun ls hl => ?_)
      refine lv_iload hx hb dX0_canGo_32 (lv_at hl 0 rfl) ?_
      refine mabs hx hb (hml.trans hl.1.symm) hown (hts (.methodLink RX0 43 Lib.Math.abs.name) (List.mem_of_getElem? (i := 2) rfl)) (hts (.static Lib.Math.abs.name) (List.mem_of_getElem? (i := 3) rfl)) (hts (.initialized "java/lang/Math") (List.mem_of_getElem? (i := 4) rfl)) (hts (.code Lib.Math.abs.name Lib.Math.abs.code 1 (some .int)) (List.mem_of_getElem? (i := 5) rfl)) (Nat.le_of_ble_eq_true rfl) (Nat.le_of_ble_eq_true rfl) (Nat.le_of_ble_eq_true rfl) (Nat.le_of_ble_eq_true rfl) dX0_canGo_34 ?_
      refine lv_iload hx hb dX0_canGo_37 (lv_at hl 5 rfl) ?_
      refine lv_icmp_le (tgt := 54) hx hb dX0_canGo_39 (by decide) (fun c3 => ?_) (fun c3 => ?_)
      · replace hf := ifp c3 hf
        refine lv_iconst (v := 1) hx hb dX0_canGo_54 (by decide) ?_
        exact retRz hx hb hr hlocks hS rfl (Option.some.inj hf) dX0_canGo_55
      replace hf := ifn c3 hf
      refine lv_iload hx hb dX0_canGo_42 (lv_at hl 0 rfl) ?_
      refine lv_iload_n hx hb dX0_canGo_44 rfl (lv_at hl 4 rfl) ?_
      refine lv_isub hx hb dX0_canGo_45 ?_
      refine mabs hx hb (hml.trans hl.1.symm) hown (hts (.methodLink RX0 43 Lib.Math.abs.name) (List.mem_of_getElem? (i := 2) rfl)) (hts (.static Lib.Math.abs.name) (List.mem_of_getElem? (i := 3) rfl)) (hts (.initialized "java/lang/Math") (List.mem_of_getElem? (i := 4) rfl)) (hts (.code Lib.Math.abs.name Lib.Math.abs.code 1 (some .int)) (List.mem_of_getElem? (i := 5) rfl)) (Nat.le_of_ble_eq_true rfl) (Nat.le_of_ble_eq_true rfl) (Nat.le_of_ble_eq_true rfl) (Nat.le_of_ble_eq_true rfl) dX0_canGo_46 ?_
      refine lv_iload hx hb dX0_canGo_49 (lv_at hl 5 rfl) ?_
      refine lv_icmp_gt (tgt := 56) hx hb dX0_canGo_51 (by decide) (fun c4 => ?_) (fun c4 => ?_)
      · replace hf := ifp c4 hf
        refine lv_iload hx hb dX0_canGo_56 (lv_at hl 7 rfl) ?_
        refine lv_iload_n hx hb dX0_canGo_58 rfl (lv_at hl 2 rfl) ?_
        obtain ⟨z5, hz5, hf⟩ := lett_e hf
        refine cSR (As := [.int x6, .int x1]) (rest := []) ⟨hx, hb, hml, hown, hts⟩ (mX0_setAfter l D T x6 x1 z5 hz5.symm) (va_cwS 2 hts gX0_canGo_X0_setAfter rfl rfl rfl (by decide +kernel) ⟨Nat.le_of_ble_eq_true rfl, Nat.le_of_ble_eq_true rfl⟩) P0 hK rfl hl.1 rfl (Nat.le_of_ble_eq_true rfl) dX0_canGo_59 ⟨Nat.le_of_ble_eq_true rfl, Nat.le_of_ble_eq_true rfl⟩ hP hS (fun H locs hP hS => ?_)
        refine lv_istore (lv' := [(6, .int z5), (8, .int t2), (0, .ref h), (1, .int x1), (2, .int x2), (3, .int x3), (4, .int x4), (5, .int x5), (7, .int x7)]) hx hb dX0_canGo_62 hl (by decide) rfl (fun ls hl => ?_)
        obtain ⟨t6, et6, hf⟩ := lett_e hf
        refine lv_iinc (v := t6) (lv' := [(7, .int t6), (6, .int z5), (8, .int t2), (0, .ref h), (1, .int x1), (2, .int x2), (3, .int x3), (4, .int x4), (5, .int x5)]) hx hb dX0_canGo_64 hl (k := 8) rfl (by rw [et6]; rfl) (by decide) rfl (fun ls hl => ?_)
        refine lv_goto (tgt := 14) hx hb dX0_canGo_67 (by decide) ?_
        exact ih14 x1 x2 x3 x4 x5 z5 t6 _ _ _ hf hP hS (lv_sub hl [3, 4, 5, 6, 7, 8, 1, 0] rfl)
      replace hf := ifn c4 hf
      refine lv_iconst (v := 1) hx hb dX0_canGo_54 (by decide) ?_
      exact retRz hx hb hr hlocks hS rfl (Option.some.inj hf) dX0_canGo_55
  unfold fX0_canGo at hf
  refine lv_iconst (v := 1) hx hb dX0_canGo_0 (by decide) ?_
  refine lv_iload_n hx hb dX0_canGo_1 rfl (lv_at hl 1 rfl) ?_
  obtain ⟨z8, hz8, hf⟩ := lett_e hf
  refine cSR (As := [.int p1]) (rest := [.int 1]) ⟨hx, hb, hml, hown, hts⟩ (mJ6_bitCount_0f7a4 l D T p1 z8 hz8.symm) (va_cwS 1 hts gX0_canGo_J6_bitCount_0f7a4 rfl rfl rfl (by decide +kernel) ⟨Nat.le_of_ble_eq_true rfl, Nat.le_of_ble_eq_true rfl⟩) P0 hK rfl hl.1 rfl (Nat.le_of_ble_eq_true rfl) dX0_canGo_2 ⟨Nat.le_of_ble_eq_true rfl, Nat.le_of_ble_eq_true rfl⟩ hP hS (fun H locs hP hS => ?_)
  refine lv_ishl hx hb dX0_canGo_5 ?_
  obtain ⟨t9, et9, hf⟩ := lett_e hf
  refine lv_eqi et9 ?_
  refine lv_istore (lv' := [(5, .int t9), (0, .ref h), (1, .int p1), (2, .int p2), (3, .int p3), (4, .int p4)]) hx hb dX0_canGo_6 hl (by decide) rfl (fun ls hl => ?_)
  refine lv_iconst (v := 0) hx hb dX0_canGo_8 (by decide) ?_
  refine lv_istore (lv' := [(6, .int 0), (5, .int t9), (0, .ref h), (1, .int p1), (2, .int p2), (3, .int p3), (4, .int p4)]) hx hb dX0_canGo_9 hl (by decide) rfl (fun ls hl => ?_)
  refine lv_iconst (v := 0) hx hb dX0_canGo_11 (by decide) ?_
  refine lv_istore (lv' := [(7, .int 0), (6, .int 0), (5, .int t9), (0, .ref h), (1, .int p1), (2, .int p2), (3, .int p3), (4, .int p4)]) hx hb dX0_canGo_12 hl (by decide) rfl (fun ls hl => ?_)
  exact L14 FU p1 p2 p3 p4 t9 0 0 _ _ _ hf hP hS (lv_sub hl [3, 4, 5, 6, 7, 2, 1, 0] rfl)
def bX0_followLeast_L24  (lp14 : St → Int32 → Int32 → Int32 → Int32 → Int32 → Int32 → Option (St)) (lp24 : St → Int32 → Int32 → Int32 → Int32 → Int32 → Int32 → Int32 → Option (St)) (v : St) (x2 : Int32) (x3 : Int32) (x4 : Int32) (x5 : Int32) (x6 : Int32) (x7 : Int32) (x8 : Int32) : Option (St) := if x2 ≤ x8 then lett (x7 + 1) fun t2 => lp14 v x2 x3 x4 x5 x6 t2 else lett (x5 ^^^ (jshl 1 x8)) fun t3 => lett (fX11_has x5 x8) fun z4 => if z4 = 0 then lett (x8 + 1) fun t6 => lp24 v x2 x3 x4 x5 x6 x7 t6 else gd x5 256 <| gd t3 256 <| if (v 4 (ix x5)) = (1 + (v 4 (ix t3))) then gd x8 16 <| (fX0_canGo v t3 (v 2 (ix x8)) x3 x4).bind fun z9 => if z9 = 0 then lett (x8 + 1) fun t11 => lp24 v x2 x3 x4 x5 x6 x7 t11 else gd x8 8 <| gd x7 8 <| lett (st v 5 (ix x7) (v 3 (ix x8))) fun u12 => lett (x7 + 1) fun t13 => lp14 u12 x2 x3 x4 t3 x6 t13 else lett (x8 + 1) fun t8 => lp24 v x2 x3 x4 x5 x6 x7 t8
def fX0_followLeast_L24  (lp14 : St → Int32 → Int32 → Int32 → Int32 → Int32 → Int32 → Option (St)) : Nat → St → Int32 → Int32 → Int32 → Int32 → Int32 → Int32 → Int32 → Option (St)
  | 0, _, _, _, _, _, _, _, _ => none
  | n + 1, v, x2, x3, x4, x5, x6, x7, x8 => bX0_followLeast_L24 lp14 (fX0_followLeast_L24 lp14 n) v x2 x3 x4 x5 x6 x7 x8
def bX0_followLeast_L14   (lp14 : St → Int32 → Int32 → Int32 → Int32 → Int32 → Int32 → Option (St)) (v : St) (x2 : Int32) (x3 : Int32) (x4 : Int32) (x5 : Int32) (x6 : Int32) (x7 : Int32) : Option (St) := if x6 ≤ x7 then some v else fX0_followLeast_L24 lp14 FU v x2 x3 x4 x5 x6 x7 0
def fX0_followLeast_L14   : Nat → St → Int32 → Int32 → Int32 → Int32 → Int32 → Int32 → Option (St)
  | 0, _, _, _, _, _, _, _ => none
  | n + 1, v, x2, x3, x4, x5, x6, x7 => bX0_followLeast_L14  (fX0_followLeast_L14  n) v x2 x3 x4 x5 x6 x7
def fX0_followLeast  (u : St) (p1 : Int32) (p2 : Int32) (p3 : Int32) (p4 : Int32) : Option (St) := gd p1 256 <| lett (u 4 (ix p1)) fun t20 => fX0_followLeast_L14 FU u p2 p3 p4 p1 t20 0
set_option maxHeartbeats 4000000 in
set_option maxRecDepth 100000 in
theorem mX0_followLeast (l : Launch) (D : va_G) (T : Ty3) (h : Nat) (a : Nat → Nat) (u : St) (sz : Nat) (p1 : Int32) (p2 : Int32) (p3 : Int32) (p4 : Int32) (res : St) (hf : fX0_followLeast u p1 p2 p3 p4 = some res) : Met l yX0_followLeast wsX0_followLeast ({ frames := 2, cells := 0, slots := 0, locals := 49 }) (PcM D T (kX0 T h a u) sz [.ref h, .int p1, .int p2, .int p3, .int p4]) (QMv D (kX0 T h a u) sz (kX0 T h a res)) 0 0 (va_A (kX0 T h a u) sz) := by
  refine Met.ofW (cc := cX0_followLeast) (maxL := 10) (ret := none) (by decide) rfl ?_
  intro p e s m args below meth c s₁ B hml hv
  obtain ⟨rfl, hsz, hP, hK, hD0⟩ := hv
  have hx := B.exec
  have hb := B.bytes
  have hr := B.returns
  have hts := atoms_spec (ws := wsX0_followLeast) B.pre
  have hown : s.vm.findClass RX0 = some m.cls := findClass_of_methodNamed B.named
  have hlocks := B.notSynchronized
  subst hsz
  have hD := hD0.self (sz := s.heap.size)
  have hA : ∀ q : Nat, s.heap.size ≤ q → va_A (kX0 T h a u) s.heap.size q := fun q h => Or.inr h
  have hS : va_S (va_A (kX0 T h a u) s.heap.size) s.heap s.heap [] := va_S.rf
  have hinX0 : ∀ w ∈ u_ws RX0 TX0 6, w ∈ wsX0_followLeast := fun w h => List.mem_cons_of_mem _ (List.mem_append_right _ h)
  have hl := lv_entry ([.ref h, .int p1, .int p2, .int p3, .int p4]) (n := 10) (Nat.le_of_ble_eq_true rfl)
  rw [lg_entry_eq]
  generalize (lg_sl ([.ref h, .int p1, .int p2, .int p3, .int p4]) ++ List.replicate (10 - (lg_sl ([.ref h, .int p1, .int p2, .int p3, .int p4])).length) Slot.unset).toArray = ls at hl ⊢
  have hl : lv_has ls 10 [(0, .ref h), (1, .int p1), (2, .int p2), (3, .int p3), (4, .int p4)] := hl
  have L14 : ∀ (n14 : Nat), ∀ (v : St) (x2 : Int32) (x3 : Int32) (x4 : Int32) (x5 : Int32) (x6 : Int32) (x7 : Int32) (H : Heap) (locs : List Loc) (ls : Array Slot), fX0_followLeast_L14  n14 v x2 x3 x4 x5 x6 x7 = some res → va_P D vwCl (kX0 T h a v) H → va_D (va_A (kX0 T h a u) s.heap.size) (kX0 T h a v) → va_S (va_A (kX0 T h a u) s.heap.size) s.heap H locs → lv_has ls 10 [(0, .ref h), (2, .int x2), (3, .int x3), (4, .int x4), (5, .int x5), (6, .int x6), (7, .int x7)] → W p l e (headSpec wsX0_followLeast ({ frames := 2, cells := 0, slots := 0, locals := 49 })).room s m ([.ref h, .int p1, .int p2, .int p3, .int p4] : List Value).toArray below meth c H locs 0 0 (MQ below (QMv D (kX0 T h a u) s.heap.size (kX0 T h a res)) ([.ref h, .int p1, .int p2, .int p3, .int p4] : List Value).toArray s 0 0 (va_A (kX0 T h a u) s.heap.size)) (F0 m 14 ls []) := by
    intro n14
    induction n14 with
    | zero => intro v x2 x3 x4 x5 x6 x7 H locs ls hf; exact nns hf
    | succ n14 ih14 =>
      have L24 : ∀ (n24 : Nat), ∀ (v : St) (x2 : Int32) (x3 : Int32) (x4 : Int32) (x5 : Int32) (x6 : Int32) (x7 : Int32) (x8 : Int32) (H : Heap) (locs : List Loc) (ls : Array Slot), fX0_followLeast_L24 (fX0_followLeast_L14  n14) n24 v x2 x3 x4 x5 x6 x7 x8 = some res → va_P D vwCl (kX0 T h a v) H → va_D (va_A (kX0 T h a u) s.heap.size) (kX0 T h a v) → va_S (va_A (kX0 T h a u) s.heap.size) s.heap H locs → lv_has ls 10 [(0, .ref h), (2, .int x2), (3, .int x3), (4, .int x4), (5, .int x5), (6, .int x6), (7, .int x7), (8, .int x8)] → W p l e (headSpec wsX0_followLeast ({ frames := 2, cells := 0, slots := 0, locals := 49 })).room s m ([.ref h, .int p1, .int p2, .int p3, .int p4] : List Value).toArray below meth c H locs 0 0 (MQ below (QMv D (kX0 T h a u) s.heap.size (kX0 T h a res)) ([.ref h, .int p1, .int p2, .int p3, .int p4] : List Value).toArray s 0 0 (va_A (kX0 T h a u) s.heap.size)) (F0 m 24 ls []) := by
        intro n24
        induction n24 with
        | zero => intro v x2 x3 x4 x5 x6 x7 x8 H locs ls hf; exact nns hf
        | succ n24 ih24 =>
          intro v x2 x3 x4 x5 x6 x7 x8 H locs ls hf hP hD hS hl
          replace hf : bX0_followLeast_L24 (fX0_followLeast_L14  n14) (fX0_followLeast_L24 (fX0_followLeast_L14  n14) n24) v x2 x3 x4 x5 x6 x7 x8 = some res := hf
          unfold bX0_followLeast_L24 at hf
          refine lv_iload hx hb dX0_followLeast_24 (lv_at hl 7 rfl) ?_
          refine lv_iload_n hx hb dX0_followLeast_26 rfl (lv_at hl 1 rfl) ?_
          refine lv_icmp_ge (tgt := 114) hx hb dX0_followLeast_27 (by decide) (fun c1 => ?_) (fun c1 => ?_)
          · replace hf := ifp c1 hf
            obtain ⟨t2, et2, hf⟩ := lett_e hf
            refine lv_iinc (v := t2) (lv' := [(7, .int t2), (0, .ref h), (2, .int x2), (3, .int x3), (4, .int x4), (5, .int x5), (6, .int x6), (8, .int x8)]) hx hb dX0_followLeast_114 hl (k := 6) rfl (by rw [et2]; rfl) (by decide) rfl (fun ls hl => ?_)
            refine lv_goto (tgt := 14) hx hb dX0_followLeast_117 (by decide) ?_
            exact ih14 v x2 x3 x4 x5 x6 t2 _ _ _ hf hP hD hS (lv_sub hl [1, 2, 3, 4, 5, 6, 0] rfl)
          replace hf := ifn c1 hf
          refine lv_iload hx hb dX0_followLeast_30 (lv_at hl 4 rfl) ?_
          refine lv_iconst (v := 1) hx hb dX0_followLeast_32 (by decide) ?_
          refine lv_iload hx hb dX0_followLeast_33 (lv_at hl 7 rfl) ?_
          refine lv_ishl hx hb dX0_followLeast_35 ?_
          refine lv_ixor hx hb dX0_followLeast_36 ?_
          obtain ⟨t3, et3, hf⟩ := lett_e hf
          refine lv_eqi et3 ?_
          refine lv_istore (lv' := [(9, .int t3), (0, .ref h), (2, .int x2), (3, .int x3), (4, .int x4), (5, .int x5), (6, .int x6), (7, .int x7), (8, .int x8)]) hx hb dX0_followLeast_37 hl (by decide) rfl (fun ls hl => ?_)
          refine lv_iload hx hb dX0_followLeast_39 (lv_at hl 5 rfl) ?_
          refine lv_iload hx hb dX0_followLeast_41 (lv_at hl 8 rfl) ?_
          obtain ⟨z4, hz4, hf⟩ := lett_e hf
          refine cNR (As := [.int x5, .int x8]) (rest := []) ⟨hx, hb, hml, hown, hts⟩ (mX11_has l D T x5 x8 z4 hz4.symm) ⟨va_cnB (host := "RopeScale") (index := 65) 2 hts gX0_followLeast_X11_has_n65 rfl rfl rfl (hK.2 _ (List.mem_of_getElem? (i := 21) rfl)) (hts (.initialized RX11) (List.mem_of_getElem? (i := 6) rfl)) (by decide +kernel) ⟨Nat.le_of_ble_eq_true rfl, Nat.le_of_ble_eq_true rfl⟩, (hts (.static yX11_has) (List.mem_of_getElem? (i := 5) rfl)), trivial⟩ P0 hK rfl hl.1 rfl (Nat.le_of_ble_eq_true rfl) dX0_followLeast_43 ⟨Nat.le_of_ble_eq_true rfl, Nat.le_of_ble_eq_true rfl⟩ hP hS (fun H locs hP hS => ?_)
          refine lv_if_eq (tgt := 108) hx hb dX0_followLeast_46 (by decide) (fun c5 => ?_) (fun c5 => ?_)
          · replace hf := ifp c5 hf
            obtain ⟨t6, et6, hf⟩ := lett_e hf
            refine lv_iinc (v := t6) (lv' := [(8, .int t6), (9, .int t3), (0, .ref h), (2, .int x2), (3, .int x3), (4, .int x4), (5, .int x5), (6, .int x6), (7, .int x7)]) hx hb dX0_followLeast_108 hl (k := 8) rfl (by rw [et6]; rfl) (by decide) rfl (fun ls hl => ?_)
            refine lv_goto (tgt := 24) hx hb dX0_followLeast_111 (by decide) ?_
            exact ih24 v x2 x3 x4 x5 x6 x7 t6 _ _ _ hf hP hD hS (lv_sub hl [2, 3, 4, 5, 6, 7, 8, 0] rfl)
          replace hf := ifn c5 hf
          refine lv_aload_n hx hb dX0_followLeast_49 rfl (lv_at hl 1 rfl) ?_
          refine va_get (D := D) (ci := 0) (v := .ref (a 4)) (C := RX0) (T := TX0) (N := 6) hx hb hts hinX0 hown hK.1 hP 0 rfl rfl 4 (by decide) (hts (.fieldLink RX0 24 "RopeScale$Choices" "mostOver" "[I") (List.mem_of_getElem? (i := 1) rfl)) (fun _ h9 => h9) rfl dX0_followLeast_50 ?_
          refine lv_iload hx hb dX0_followLeast_53 (lv_at hl 5 rfl) ?_
          obtain ⟨h18, hf⟩ := gd_e hf
          refine va_iald hx hb hK.1 hP 5 0 rfl rfl h18 dX0_followLeast_55 ?_
          refine lv_iconst (v := 1) hx hb dX0_followLeast_56 (by decide) ?_
          refine lv_aload_n hx hb dX0_followLeast_57 rfl (lv_at hl 1 rfl) ?_
          refine va_get (D := D) (ci := 0) (v := .ref (a 4)) (C := RX0) (T := TX0) (N := 6) hx hb hts hinX0 hown hK.1 hP 0 rfl rfl 4 (by decide) (hts (.fieldLink RX0 24 "RopeScale$Choices" "mostOver" "[I") (List.mem_of_getElem? (i := 1) rfl)) (fun _ h9 => h9) rfl dX0_followLeast_58 ?_
          refine lv_iload hx hb dX0_followLeast_61 (lv_at hl 0 rfl) ?_
          obtain ⟨h17, hf⟩ := gd_e hf
          refine va_iald hx hb hK.1 hP 5 0 rfl rfl h17 dX0_followLeast_63 ?_
          refine lv_iadd hx hb dX0_followLeast_64 ?_
          refine lv_icmp_ne (tgt := 108) hx hb dX0_followLeast_65 (by decide) (fun c7 => ?_) (fun c7 => ?_)
          · replace hf := ifn c7 hf
            obtain ⟨t8, et8, hf⟩ := lett_e hf
            refine lv_iinc (v := t8) (lv' := [(8, .int t8), (9, .int t3), (0, .ref h), (2, .int x2), (3, .int x3), (4, .int x4), (5, .int x5), (6, .int x6), (7, .int x7)]) hx hb dX0_followLeast_108 hl (k := 8) rfl (by rw [et8]; rfl) (by decide) rfl (fun ls hl => ?_)
            refine lv_goto (tgt := 24) hx hb dX0_followLeast_111 (by decide) ?_
            exact ih24 v x2 x3 x4 x5 x6 x7 t8 _ _ _ hf hP hD hS (lv_sub hl [2, 3, 4, 5, 6, 7, 8, 0] rfl)
          replace hf := ifp c7 hf
          refine lv_aload_n hx hb dX0_followLeast_68 rfl (lv_at hl 1 rfl) ?_
          refine lv_iload hx hb dX0_followLeast_69 (lv_at hl 0 rfl) ?_
          refine lv_aload_n hx hb dX0_followLeast_71 rfl (lv_at hl 1 rfl) ?_
          refine va_get (D := D) (ci := 0) (v := .ref (a 2)) (C := RX0) (T := TX0) (N := 6) hx hb hts hinX0 hown hK.1 hP 0 rfl rfl 2 (by decide) (hts (.fieldLink RX0 18 "RopeScale$Choices" "row" "[I") (List.mem_of_getElem? (i := 2) rfl)) (fun _ h9 => h9) rfl dX0_followLeast_72 ?_
          refine lv_iload hx hb dX0_followLeast_75 (lv_at hl 8 rfl) ?_
          obtain ⟨h16, hf⟩ := gd_e hf
          refine va_iald hx hb hK.1 hP 3 0 rfl rfl h16 dX0_followLeast_77 ?_
          refine lv_iload_n hx hb dX0_followLeast_78 rfl (lv_at hl 3 rfl) ?_
          refine lv_iload hx hb dX0_followLeast_79 (lv_at hl 4 rfl) ?_
          obtain ⟨z9, hz9, hf⟩ := bnd hf
          refine cVR (As := [.int t3, .int (v 2 (ix x8)), .int x3, .int x4]) (rest := []) ⟨hx, hb, hml, hown, hts⟩ (mX0_canGo l D T h a v t3 (v 2 (ix x8)) x3 x4 z9 hz9) (cwV 4 hts gX0_followLeast_X0_canGo rfl rfl rfl (by decide +kernel) ⟨Nat.le_of_ble_eq_true rfl, Nat.le_of_ble_eq_true rfl⟩) (va_recv hK.1 hP (ci := 0) (q0 := 0) rfl rfl) hP hK rfl hl.1 rfl (Nat.le_of_ble_eq_true rfl) dX0_followLeast_81 ⟨Nat.le_of_ble_eq_true rfl, Nat.le_of_ble_eq_true rfl⟩ hP hS (fun H locs hP hS => ?_)
          refine lv_if_eq (tgt := 108) hx hb dX0_followLeast_84 (by decide) (fun c10 => ?_) (fun c10 => ?_)
          · replace hf := ifp c10 hf
            obtain ⟨t11, et11, hf⟩ := lett_e hf
            refine lv_iinc (v := t11) (lv' := [(8, .int t11), (9, .int t3), (0, .ref h), (2, .int x2), (3, .int x3), (4, .int x4), (5, .int x5), (6, .int x6), (7, .int x7)]) hx hb dX0_followLeast_108 hl (k := 8) rfl (by rw [et11]; rfl) (by decide) rfl (fun ls hl => ?_)
            refine lv_goto (tgt := 24) hx hb dX0_followLeast_111 (by decide) ?_
            exact ih24 v x2 x3 x4 x5 x6 x7 t11 _ _ _ hf hP hD hS (lv_sub hl [2, 3, 4, 5, 6, 7, 8, 0] rfl)
          replace hf := ifn c10 hf
          refine lv_aload_n hx hb dX0_followLeast_87 rfl (lv_at hl 1 rfl) ?_
          refine va_get (D := D) (ci := 0) (v := .ref (a 5)) (C := RX0) (T := TX0) (N := 6) hx hb hts hinX0 hown hK.1 hP 0 rfl rfl 5 (by decide) (hts (.fieldLink RX0 27 "RopeScale$Choices" "goesAt" "[I") (List.mem_of_getElem? (i := 3) rfl)) (fun _ h9 => h9) rfl dX0_followLeast_88 ?_
          refine lv_iload hx hb dX0_followLeast_91 (lv_at hl 7 rfl) ?_
          refine lv_aload_n hx hb dX0_followLeast_93 rfl (lv_at hl 1 rfl) ?_
          refine va_get (D := D) (ci := 0) (v := .ref (a 3)) (C := RX0) (T := TX0) (N := 6) hx hb hts hinX0 hown hK.1 hP 0 rfl rfl 3 (by decide) (hts (.fieldLink RX0 21 "RopeScale$Choices" "member" "[I") (List.mem_of_getElem? (i := 4) rfl)) (fun _ h9 => h9) rfl dX0_followLeast_94 ?_
          refine lv_iload hx hb dX0_followLeast_97 (lv_at hl 8 rfl) ?_
          obtain ⟨h15, hf⟩ := gd_e hf
          refine va_iald hx hb hK.1 hP 4 0 rfl rfl h15 dX0_followLeast_99 ?_
          obtain ⟨h14, hf⟩ := gd_e hf
          obtain ⟨u12, eu12, hf⟩ := lett_e hf
          refine va_iast hx hb hK.1 hP hD hS 6 0 rfl rfl h14 dX0_followLeast_100 (fun H locs hP hD hS => ?_)
          have hP : va_P D vwCl (kX0 T h a u12) H := by rw [eu12]; exact hP
          have hD : va_D (va_A (kX0 T h a u) s.heap.size) (kX0 T h a u12) := by rw [eu12]; exact hD
          refine lv_iload hx hb dX0_followLeast_101 (lv_at hl 0 rfl) ?_
          refine lv_istore (lv' := [(5, .int t3), (9, .int t3), (0, .ref h), (2, .int x2), (3, .int x3), (4, .int x4), (6, .int x6), (7, .int x7), (8, .int x8)]) hx hb dX0_followLeast_103 hl (by decide) rfl (fun ls hl => ?_)
          refine lv_goto (tgt := 114) hx hb dX0_followLeast_105 (by decide) ?_
          obtain ⟨t13, et13, hf⟩ := lett_e hf
          refine lv_iinc (v := t13) (lv' := [(7, .int t13), (5, .int t3), (9, .int t3), (0, .ref h), (2, .int x2), (3, .int x3), (4, .int x4), (6, .int x6), (8, .int x8)]) hx hb dX0_followLeast_114 hl (k := 7) rfl (by rw [et13]; rfl) (by decide) rfl (fun ls hl => ?_)
          refine lv_goto (tgt := 14) hx hb dX0_followLeast_117 (by decide) ?_
          exact ih14 u12 x2 x3 x4 t3 x6 t13 _ _ _ hf hP hD hS (lv_sub hl [3, 4, 5, 6, 1, 7, 0] rfl)
      intro v x2 x3 x4 x5 x6 x7 H locs ls hf hP hD hS hl
      replace hf : bX0_followLeast_L14  (fX0_followLeast_L14  n14) v x2 x3 x4 x5 x6 x7 = some res := hf
      unfold bX0_followLeast_L14 at hf
      refine lv_iload hx hb dX0_followLeast_14 (lv_at hl 6 rfl) ?_
      refine lv_iload hx hb dX0_followLeast_16 (lv_at hl 5 rfl) ?_
      refine lv_icmp_ge (tgt := 120) hx hb dX0_followLeast_18 (by decide) (fun c19 => ?_) (fun c19 => ?_)
      · replace hf := ifp c19 hf
        have e9 := Option.some.inj hf
        exact retMv hx hb hr hlocks hP hD hS (congrArg (fun z => (kX0 T h a z : va_W)) e9) dX0_followLeast_120
      replace hf := ifn c19 hf
      refine lv_iconst (v := 0) hx hb dX0_followLeast_21 (by decide) ?_
      refine lv_istore (lv' := [(8, .int 0), (0, .ref h), (2, .int x2), (3, .int x3), (4, .int x4), (5, .int x5), (6, .int x6), (7, .int x7)]) hx hb dX0_followLeast_22 hl (by decide) rfl (fun ls hl => ?_)
      exact L24 FU v x2 x3 x4 x5 x6 x7 0 _ _ _ hf hP hD hS (lv_sub hl [1, 2, 3, 4, 5, 6, 7, 0] rfl)
  unfold fX0_followLeast at hf
  refine lv_iload_n hx hb dX0_followLeast_0 rfl (lv_at hl 1 rfl) ?_
  refine lv_istore (lv' := [(5, .int p1), (0, .ref h), (1, .int p1), (2, .int p2), (3, .int p3), (4, .int p4)]) hx hb dX0_followLeast_1 hl (by decide) rfl (fun ls hl => ?_)
  refine lv_aload_n hx hb dX0_followLeast_3 rfl (lv_at hl 1 rfl) ?_
  refine va_get (D := D) (ci := 0) (v := .ref (a 4)) (C := RX0) (T := TX0) (N := 6) hx hb hts hinX0 hown hK.1 hP 0 rfl rfl 4 (by decide) (hts (.fieldLink RX0 24 "RopeScale$Choices" "mostOver" "[I") (List.mem_of_getElem? (i := 1) rfl)) (fun _ h9 => h9) rfl dX0_followLeast_4 ?_
  refine lv_iload_n hx hb dX0_followLeast_7 rfl (lv_at hl 2 rfl) ?_
  obtain ⟨h21, hf⟩ := gd_e hf
  refine va_iald hx hb hK.1 hP 5 0 rfl rfl h21 dX0_followLeast_8 ?_
  obtain ⟨t20, et20, hf⟩ := lett_e hf
  refine lv_eqi et20 ?_
  refine lv_istore (lv' := [(6, .int t20), (5, .int p1), (0, .ref h), (1, .int p1), (2, .int p2), (3, .int p3), (4, .int p4)]) hx hb dX0_followLeast_9 hl (by decide) rfl (fun ls hl => ?_)
  refine lv_iconst (v := 0) hx hb dX0_followLeast_11 (by decide) ?_
  refine lv_istore (lv' := [(7, .int 0), (6, .int t20), (5, .int p1), (0, .ref h), (1, .int p1), (2, .int p2), (3, .int p3), (4, .int p4)]) hx hb dX0_followLeast_12 hl (by decide) rfl (fun ls hl => ?_)
  exact L14 FU u p2 p3 p4 p1 t20 0 _ _ _ hf hP hD hS (lv_sub hl [3, 5, 6, 7, 2, 1, 0] rfl)
