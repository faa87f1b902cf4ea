set_option maxHeartbeats 4000000 in
set_option maxRecDepth 100000 in
theorem mX11_falseOne (l : Launch) (D : va_G) (T : Ty3) (aa : Nat → Nat → Nat) (h : Nat) (a : Nat → Nat) (u : St) (utp : St) (ucu : St) (unw : St) (ukp : St) (utr : St) (uro : St) (ugi : St) (urd : St) (uch : St) (urk : St) (upa : St) (uwl : Nat → Int64) (uva : St) (usl : St) (uto : St) (usw : St) (p1 : Int32) (p2 : Int32) (res : Int32) (hf : fX11_falseOne p1 p2 = some res) : Met l yX11_falseOne wsX11_falseOne ({ frames := 1, cells := 0, slots := 0, locals := 22 }) (PcR D T (WX11 T h a a aa u utp ucu unw ukp utr uro ugi urd uch urk upa uwl uva usl uto usw) [.ref h, .int p1, .int p2]) (QR res) 0 0 noA := by
  refine Met.ofW (cc := cX11_falseOne) (maxL := 6) (ret := (some .int)) (by decide) rfl ?_
  intro p e s m args below meth c s₁ B hml hv
  obtain ⟨rfl, hP, hK⟩ := hv
  have hx := B.exec
  have hb := B.bytes
  have hr := B.returns
  have hts := atoms_spec (ws := wsX11_falseOne) B.pre
  have hown : s.vm.findClass RX11 = some m.cls := findClass_of_methodNamed B.named
  have hlocks := B.notSynchronized
  have hS : va_S noA s.heap s.heap [] := va_S.rf
  have hl := lv_entry ([.ref h, .int p1, .int p2]) (n := 6) (Nat.le_of_ble_eq_true rfl)
  rw [lg_entry_eq]
  generalize (lg_sl ([.ref h, .int p1, .int p2]) ++ List.replicate (6 - (lg_sl ([.ref h, .int p1, .int p2])).length) Slot.unset).toArray = ls at hl ⊢
  have hl : lv_has ls 6 [(0, .ref h), (1, .int p1), (2, .int p2)] := hl
  have L45 : ∀ (n45 : Nat), ∀ (x3 : Int32) (x4 : Int32) (x5 : Int32) (H : Heap) (locs : List Loc) (ls : Array Slot), fX11_falseOne_L45  n45 x3 x4 x5 = some res → va_P D vwCl (WX11 T h a a aa u utp ucu unw ukp utr uro ugi urd uch urk upa uwl uva usl uto usw) H → va_S noA s.heap H locs → lv_has ls 6 [(3, .int x3), (4, .int x4), (5, .int x5)] → W p l e (headSpec wsX11_falseOne ({ frames := 1, cells := 0, slots := 0, locals := 22 })).room s m ([.ref h, .int p1, .int p2] : List Value).toArray below meth c H locs 0 0 (MQ below (QR res) ([.ref h, .int p1, .int p2] : List Value).toArray s 0 0 noA) (F0 m 45 ls []) := by
    intro n45
    induction n45 with
    | zero => intro x3 x4 x5 H locs ls hf; exact nns hf
    | succ n45 ih45 =>
      intro x3 x4 x5 H locs ls hf hP hS hl
      replace hf : bX11_falseOne_L45  (fX11_falseOne_L45  n45) x3 x4 x5 = some res := hf
      unfold bX11_falseOne_L45 at hf
      refine lv_iload hx hb dX11_falseOne_45 (lv_at hl 2 rfl) ?_
      refine lv_iload_n hx hb dX11_falseOne_47 rfl (lv_at hl 0 rfl) ?_
      refine lv_icmp_ge (tgt := 70) hx hb dX11_falseOne_48 (by decide) (fun c1 => ?_) (fun c1 => ?_)
      · replace hf := ifp c1 hf
        refine lv_iload hx hb dX11_falseOne_70 (lv_at hl 1 rfl) ?_
        exact retR hx hb hr hlocks hS (Option.some.inj hf) dX11_falseOne_72
      replace hf := ifn c1 hf
      refine lv_iload hx hb dX11_falseOne_51 (lv_at hl 1 rfl) ?_
      refine lv_bipush (v := 12) hx hb dX11_falseOne_53 (by decide) ?_
      refine lv_icmp_ge (tgt := 70) hx hb dX11_falseOne_55 (by decide) (fun c2 => ?_) (fun c2 => ?_)
      · replace hf := ifp c2 hf
        refine lv_iload hx hb dX11_falseOne_70 (lv_at hl 1 rfl) ?_
        exact retR hx hb hr hlocks hS (Option.some.inj hf) dX11_falseOne_72
      replace hf := ifn c2 hf
      obtain ⟨t3, et3, hf⟩ := lett_e hf
      refine lv_iinc (v := t3) (lv' := [(4, .int t3), (3, .int x3), (5, .int x5)]) hx hb dX11_falseOne_58 hl (k := 1) rfl (by rw [et3]; rfl) (by decide) rfl (fun ls hl => ?_)
      refine lv_iload hx hb dX11_falseOne_61 (lv_at hl 2 rfl) ?_
      refine lv_iconst (v := 3) hx hb dX11_falseOne_63 (by decide) ?_
      refine lv_imul hx hb dX11_falseOne_64 ?_
      obtain ⟨t4, et4, hf⟩ := lett_e hf
      refine lv_eqi et4 ?_
      refine lv_istore (lv' := [(5, .int t4), (4, .int t3), (3, .int x3)]) hx hb dX11_falseOne_65 hl (by decide) rfl (fun ls hl => ?_)
      refine lv_goto (tgt := 45) hx hb dX11_falseOne_67 (by decide) ?_
      exact ih45 x3 t3 t4 _ _ _ hf hP hS (lv_sub hl [2, 1, 0] rfl)
  have J25 : ∀ (x1 : Int32) (x2 : Int32) (H : Heap) (locs : List Loc) (ls : Array Slot), fX11_falseOne_J25  x1 x2 = some res → va_P D vwCl (WX11 T h a a aa u utp ucu unw ukp utr uro ugi urd uch urk upa uwl uva usl uto usw) H → va_S noA s.heap H locs → lv_has ls 6 [(1, .int x1), (2, .int x2)] → W p l e (headSpec wsX11_falseOne ({ frames := 1, cells := 0, slots := 0, locals := 22 })).room s m ([.ref h, .int p1, .int p2] : List Value).toArray below meth c H locs 0 0 (MQ below (QR res) ([.ref h, .int p1, .int p2] : List Value).toArray s 0 0 noA) (F0 m 25 ls []) := by
    intro x1 x2 H locs ls hf hP hS hl
    unfold fX11_falseOne_J25 at hf
    refine lv_iload_n hx hb dX11_falseOne_25 rfl (lv_at hl 1 rfl) ?_
    refine lv_if_eq (tgt := 33) hx hb dX11_falseOne_26 (by decide) (fun c5 => ?_) (fun c5 => ?_)
    · replace hf := ifp c5 hf
      refine lv_iconst (v := 2) hx hb dX11_falseOne_33 (by decide) ?_
      refine lv_iload_n hx hb dX11_falseOne_34 rfl (lv_at hl 0 rfl) ?_
      refine lv_imul hx hb dX11_falseOne_35 ?_
      refine lv_iconst (v := 3) hx hb dX11_falseOne_36 (by decide) ?_
      refine lv_iadd hx hb dX11_falseOne_37 ?_
      obtain ⟨t6, et6, hf⟩ := lett_e hf
      refine lv_eqi et6 ?_
      refine lv_istore_n (lv' := [(3, .int t6), (1, .int x1), (2, .int x2)]) hx hb dX11_falseOne_38 rfl hl (by decide) rfl (fun ls hl => ?_)
      refine lv_iconst (v := 0) hx hb dX11_falseOne_39 (by decide) ?_
      refine lv_istore (lv' := [(4, .int 0), (3, .int t6), (1, .int x1), (2, .int x2)]) hx hb dX11_falseOne_40 hl (by decide) rfl (fun ls hl => ?_)
      refine lv_iconst (v := 1) hx hb dX11_falseOne_42 (by decide) ?_
      refine lv_istore (lv' := [(5, .int 1), (4, .int 0), (3, .int t6), (1, .int x1), (2, .int x2)]) hx hb dX11_falseOne_43 hl (by decide) rfl (fun ls hl => ?_)
      exact L45 FU t6 0 1 _ _ _ hf hP hS (lv_sub hl [2, 1, 0] rfl)
    replace hf := ifn c5 hf
    refine lv_iload_n hx hb dX11_falseOne_29 rfl (lv_at hl 0 rfl) ?_
    refine lv_goto (tgt := 38) hx hb dX11_falseOne_30 (by decide) ?_
    refine lv_istore_n (lv' := [(3, .int x1), (1, .int x1), (2, .int x2)]) hx hb dX11_falseOne_38 rfl hl (by decide) rfl (fun ls hl => ?_)
    refine lv_iconst (v := 0) hx hb dX11_falseOne_39 (by decide) ?_
    refine lv_istore (lv' := [(4, .int 0), (3, .int x1), (1, .int x1), (2, .int x2)]) hx hb dX11_falseOne_40 hl (by decide) rfl (fun ls hl => ?_)
    refine lv_iconst (v := 1) hx hb dX11_falseOne_42 (by decide) ?_
    refine lv_istore (lv' := [(5, .int 1), (4, .int 0), (3, .int x1), (1, .int x1), (2, .int x2)]) hx hb dX11_falseOne_43 hl (by decide) rfl (fun ls hl => ?_)
    exact L45 FU x1 0 1 _ _ _ hf hP hS (lv_sub hl [2, 1, 0] rfl)
  unfold fX11_falseOne at hf
  refine lv_iload_n hx hb dX11_falseOne_0 rfl (lv_at hl 1 rfl) ?_
  refine lv_iconst (v := 1) hx hb dX11_falseOne_1 (by decide) ?_
  refine lv_sipush (v := 9999) hx hb dX11_falseOne_2 (by decide) ?_
  obtain ⟨z7, hz7, hf⟩ := lett_e hf
  refine cSR (As := [.int p1, .int 1, .int 9999]) (rest := []) ⟨hx, hb, hml, hown, hts⟩ (mX11_isWithin l D T p1 1 9999 z7 hz7.symm) (va_cwS 3 hts gX11_falseOne_X11_isWithin rfl rfl rfl (by decide +kernel) ⟨Nat.le_of_ble_eq_true rfl, Nat.le_of_ble_eq_true rfl⟩) P0 hK rfl hl.1 rfl (Nat.le_of_ble_eq_true rfl) dX11_falseOne_5 ⟨Nat.le_of_ble_eq_true rfl, Nat.le_of_ble_eq_true rfl⟩ hP hS (fun H locs hP hS => ?_)
  refine lv_if_ne (tgt := 13) hx hb dX11_falseOne_8 (by decide) (fun c8 => ?_) (fun c8 => ?_)
  · replace hf := ifn c8 hf
    refine lv_iload_n hx hb dX11_falseOne_13 rfl (lv_at hl 2 rfl) ?_
    refine lv_if_ne (tgt := 25) hx hb dX11_falseOne_14 (by decide) (fun c9 => ?_) (fun c9 => ?_)
    · replace hf := ifn c9 hf
      exact J25 p1 p2 _ _ _ hf hP hS (lv_sub hl [1, 2] rfl)
    replace hf := ifp c9 hf
    refine lv_iload_n hx hb dX11_falseOne_17 rfl (lv_at hl 1 rfl) ?_
    refine lv_iconst (v := 3) hx hb dX11_falseOne_18 (by decide) ?_
    refine lv_icmp_ge (tgt := 25) hx hb dX11_falseOne_19 (by decide) (fun c10 => ?_) (fun c10 => ?_)
    · replace hf := ifp c10 hf
      exact J25 p1 p2 _ _ _ hf hP hS (lv_sub hl [1, 2] rfl)
    replace hf := ifn c10 hf
    refine lv_bipush (v := (-2)) hx hb dX11_falseOne_22 (by decide) ?_
    exact retR hx hb hr hlocks hS (Option.some.inj hf) dX11_falseOne_24
  replace hf := ifp c8 hf
  refine lv_iconst (v := (-1)) hx hb dX11_falseOne_11 (by decide) ?_
  exact retR hx hb hr hlocks hS (Option.some.inj hf) dX11_falseOne_12
set_option maxHeartbeats 4000000 in
set_option maxRecDepth 100000 in
theorem mX11_scales (l : Launch) (D : va_G) (T : Ty3) (aa : Nat → Nat → Nat) (h : Nat) (a : Nat → Nat) (u : St) (utp : St) (ucu : St) (unw : St) (ukp : St) (utr : St) (uro : St) (ugi : St) (urd : St) (uch : St) (urk : St) (upa : St) (uwl : Nat → Int64) (uva : St) (usl : St) (uto : St) (usw : St) (sz : Nat) (p1 : Int32) (p2 : Int32) (p3 : Int32) (res : Int32 × St × St) (hf : fX11_scales utp upa p1 p2 p3 = some res) : Met l yX11_scales wsX11_scales ({ frames := 2, cells := 0, slots := 0, locals := 45 }) (PcM D T (WX11 T h a a aa u utp ucu unw ukp utr uro ugi urd uch urk upa uwl uva usl uto usw) sz [.ref h, .int p1, .int p2, .int p3]) (QM D (WX11 T h a a aa u utp ucu unw ukp utr uro ugi urd uch urk upa uwl uva usl uto usw) sz res.1 (WX11 T h a a aa u res.2.1 ucu unw ukp utr uro ugi urd uch urk res.2.2 uwl uva usl uto usw)) 0 0 (va_A (WX11 T h a a aa u utp ucu unw ukp utr uro ugi urd uch urk upa uwl uva usl uto usw) sz) := by
  refine Met.ofW (cc := cX11_scales) (maxL := 4) (ret := (some .int)) (by decide) rfl ?_
  intro p e s m args below meth c s₁ B hml hv
  obtain ⟨rfl, hsz, hP, hK, hD0⟩ := hv
  have hx := B.exec
  have hb := B.bytes
  have hr := B.returns
  have hts := atoms_spec (ws := wsX11_scales) B.pre
  have hown : s.vm.findClass RX11 = some m.cls := findClass_of_methodNamed B.named
  have hlocks := B.notSynchronized
  subst hsz
  have hD := hD0.self (sz := s.heap.size)
  have hA : ∀ q : Nat, s.heap.size ≤ q → va_A (WX11 T h a a aa u utp ucu unw ukp utr uro ugi urd uch urk upa uwl uva usl uto usw) s.heap.size q := fun q h => Or.inr h
  have hS : va_S (va_A (WX11 T h a a aa u utp ucu unw ukp utr uro ugi urd uch urk upa uwl uva usl uto usw) s.heap.size) s.heap s.heap [] := va_S.rf
  have hinX11 : ∀ w ∈ u_ws RX11 TX11 16, w ∈ wsX11_scales := fun w h => List.mem_cons_of_mem _ (List.mem_append_left _ (List.mem_append_left _ (List.mem_append_right _ h)))
  have hinX8 : ∀ w ∈ u_ws RX8 TX8 2, w ∈ wsX11_scales := fun w h => List.mem_cons_of_mem _ (List.mem_append_left _ (List.mem_append_right _ h))
  have hinX5 : ∀ w ∈ u_ws RX5 TX5 5, w ∈ wsX11_scales := fun w h => List.mem_cons_of_mem _ (List.mem_append_right _ h)
  have hl := lv_entry ([.ref h, .int p1, .int p2, .int p3]) (n := 4) (Nat.le_of_ble_eq_true rfl)
  rw [lg_entry_eq]
  generalize (lg_sl ([.ref h, .int p1, .int p2, .int p3]) ++ List.replicate (4 - (lg_sl ([.ref h, .int p1, .int p2, .int p3])).length) Slot.unset).toArray = ls at hl ⊢
  have hl : lv_has ls 4 [(0, .ref h), (1, .int p1), (2, .int p2), (3, .int p3)] := hl
  unfold fX11_scales at hf
  refine lv_iload_n hx hb dX11_scales_0 rfl (lv_at hl 2 rfl) ?_
  refine lv_iconst (v := 0) hx hb dX11_scales_1 (by decide) ?_
  refine lv_sipush (v := 1023) hx hb dX11_scales_2 (by decide) ?_
  obtain ⟨z1, hz1, hf⟩ := lett_e hf
  refine cSR (As := [.int p2, .int 0, .int 1023]) (rest := []) ⟨hx, hb, hml, hown, hts⟩ (mX11_isWithin l D T p2 0 1023 z1 hz1.symm) (va_cwS 3 hts gX11_scales_X11_isWithin rfl rfl rfl (by decide +kernel) ⟨Nat.le_of_ble_eq_true rfl, Nat.le_of_ble_eq_true rfl⟩) P0 hK rfl hl.1 rfl (Nat.le_of_ble_eq_true rfl) dX11_scales_5 ⟨Nat.le_of_ble_eq_true rfl, Nat.le_of_ble_eq_true rfl⟩ hP hS (fun H locs hP hS => ?_)
  refine lv_if_eq (tgt := 34) hx hb dX11_scales_8 (by decide) (fun c2 => ?_) (fun c2 => ?_)
  · replace hf := ifp c2 hf
    refine lv_iconst (v := (-1)) hx hb dX11_scales_34 (by decide) ?_
    have e9 := Option.some.inj hf
    exact retM hx hb hr hlocks hP hD hS (congrArg (fun z => z.1) e9) (congrArg (fun z => (WX11 T h a a aa u z.2.1 ucu unw ukp utr uro ugi urd uch urk z.2.2 uwl uva usl uto usw : va_W)) e9) dX11_scales_35
  replace hf := ifn c2 hf
  refine lv_iload_n hx hb dX11_scales_11 rfl (lv_at hl 3 rfl) ?_
  refine lv_iconst (v := 0) hx hb dX11_scales_12 (by decide) ?_
  refine lv_iconst (v := 1) hx hb dX11_scales_13 (by decide) ?_
  obtain ⟨z3, hz3, hf⟩ := lett_e hf
  refine cSR (As := [.int p3, .int 0, .int 1]) (rest := []) ⟨hx, hb, hml, hown, hts⟩ (mX11_isWithin l D T p3 0 1 z3 hz3.symm) (va_cwS 3 hts gX11_scales_X11_isWithin rfl rfl rfl (by decide +kernel) ⟨Nat.le_of_ble_eq_true rfl, Nat.le_of_ble_eq_true rfl⟩) P0 hK rfl hl.1 rfl (Nat.le_of_ble_eq_true rfl) dX11_scales_14 ⟨Nat.le_of_ble_eq_true rfl, Nat.le_of_ble_eq_true rfl⟩ hP hS (fun H locs hP hS => ?_)
  refine lv_if_eq (tgt := 34) hx hb dX11_scales_17 (by decide) (fun c4 => ?_) (fun c4 => ?_)
  · replace hf := ifp c4 hf
    refine lv_iconst (v := (-1)) hx hb dX11_scales_34 (by decide) ?_
    have e9 := Option.some.inj hf
    exact retM hx hb hr hlocks hP hD hS (congrArg (fun z => z.1) e9) (congrArg (fun z => (WX11 T h a a aa u z.2.1 ucu unw ukp utr uro ugi urd uch urk z.2.2 uwl uva usl uto usw : va_W)) e9) dX11_scales_35
  replace hf := ifn c4 hf
  refine lv_aload_n hx hb dX11_scales_20 rfl (lv_at hl 0 rfl) ?_
  refine va_get (D := D) (ci := 11) (v := .ref (a 0)) (C := RX11) (T := TX11) (N := 16) hx hb hts hinX11 hown hK.1 hP 0 rfl rfl 0 (by decide) (hts (.fieldLink RX11 10 "RopeScale" "tape" "LRopeScale$Tape;") (List.mem_of_getElem? (i := 1) rfl)) (fun _ h9 => h9) rfl dX11_scales_21 ?_
  refine lv_iload_n hx hb dX11_scales_24 rfl (lv_at hl 1 rfl) ?_
  refine lv_iconst (v := 1) hx hb dX11_scales_25 (by decide) ?_
  refine lv_bipush (v := 10) hx hb dX11_scales_26 (by decide) ?_
  obtain ⟨z5, hz5, hf⟩ := lett_e hf
  refine cVR (As := [.int p1, .int 1, .int 10]) (rest := []) ⟨hx, hb, hml, hown, hts⟩ (mX8_offers l D T (a 0) (aa 1) utp p1 1 10 z5 hz5.symm) (cwV 3 hts gX11_scales_X8_offers rfl rfl rfl (by decide +kernel) ⟨Nat.le_of_ble_eq_true rfl, Nat.le_of_ble_eq_true rfl⟩) (va_recv hK.1 hP (ci := 8) (q0 := 1) rfl rfl) (hP.sub (ws' := kX8 T (a 0) (aa 1) utp) [1, 2] rfl) hK rfl hl.1 rfl (Nat.le_of_ble_eq_true rfl) dX11_scales_28 ⟨Nat.le_of_ble_eq_true rfl, Nat.le_of_ble_eq_true rfl⟩ hP hS (fun H locs hP hS => ?_)
  refine lv_if_ne (tgt := 36) hx hb dX11_scales_31 (by decide) (fun c6 => ?_) (fun c6 => ?_)
  · replace hf := ifn c6 hf
    refine lv_aload_n hx hb dX11_scales_36 rfl (lv_at hl 0 rfl) ?_
    refine va_get (D := D) (ci := 11) (v := .ref (a 10)) (C := RX11) (T := TX11) (N := 16) hx hb hts hinX11 hown hK.1 hP 0 rfl rfl 10 (by decide) (hts (.fieldLink RX11 78 "RopeScale" "pans" "LRopeScale$Pans;") (List.mem_of_getElem? (i := 2) rfl)) (fun _ h9 => h9) rfl dX11_scales_37 ?_
    refine lv_aload_n hx hb dX11_scales_40 rfl (lv_at hl 0 rfl) ?_
    refine va_get (D := D) (ci := 11) (v := .ref (a 0)) (C := RX11) (T := TX11) (N := 16) hx hb hts hinX11 hown hK.1 hP 0 rfl rfl 0 (by decide) (hts (.fieldLink RX11 10 "RopeScale" "tape" "LRopeScale$Tape;") (List.mem_of_getElem? (i := 1) rfl)) (fun _ h9 => h9) rfl dX11_scales_41 ?_
    refine lv_iload_n hx hb dX11_scales_44 rfl (lv_at hl 1 rfl) ?_
    obtain ⟨z7, hz7, hf⟩ := bnd hf
    have hPc := hP.sub (ws' := kX5 T (a 10) (aa 11) upa ++ kX8 T (a 0) (aa 1) utp) [35, 36, 37, 1, 2] rfl
    have hDc := hD.sub (ws' := kX5 T (a 10) (aa 11) upa ++ kX8 T (a 0) (aa 1) utp) [35, 36, 37, 1, 2] (by decide) rfl
    have hFc9 := va_free (wc := kX5 T (a 10) (aa 11) upa ++ kX8 T (a 0) (aa 1) utp) hD hS hA [35, 36, 37, 1, 2] rfl
    refine cVMv (As := [.ref (a 0), .int p1]) (rest := []) ⟨hx, hb, hml, hown, hts⟩ (mX5_take l D T (a 10) (aa 11) upa (a 0) (aa 1) utp _ p1 z7 hz7) (cwV 2 hts gX11_scales_X5_take rfl rfl rfl (by decide +kernel) ⟨Nat.le_of_ble_eq_true rfl, Nat.le_of_ble_eq_true rfl⟩) (va_recv hK.1 hP (ci := 5) (q0 := 35) rfl rfl) hPc hK rfl hl.1 rfl (Nat.le_of_ble_eq_true rfl) dX11_scales_45 ⟨Nat.le_of_ble_eq_true rfl, Nat.le_of_ble_eq_true rfl⟩ hDc hFc9 hS (fun H9 locs hP1 hD1 hk1 hS => ?_)
    obtain ⟨hP, hD⟩ := putAll_P (w1 := kX5 T (a 10) (aa 11) z7.1 ++ kX8 T (a 0) (aa 1) z7.2) hP hD [35, 36, 37, 1, 2] rfl (by decide) hk1 hP1 rfl
    generalize H9 = H at hP hS ⊢
    have hP : va_P D vwCl (WX11 T h a a aa u z7.2 ucu unw ukp utr uro ugi urd uch urk z7.1 uwl uva usl uto usw) H := by exact hP
    have hD : va_D (va_A (WX11 T h a a aa u utp ucu unw ukp utr uro ugi urd uch urk upa uwl uva usl uto usw) s.heap.size) (WX11 T h a a aa u z7.2 ucu unw ukp utr uro ugi urd uch urk z7.1 uwl uva usl uto usw) := by exact hD
    refine lv_iload_n hx hb dX11_scales_48 rfl (lv_at hl 3 rfl) ?_
    refine lv_if_ne (tgt := 63) hx hb dX11_scales_49 (by decide) (fun c8 => ?_) (fun c8 => ?_)
    · replace hf := ifn c8 hf
      refine lv_aload_n hx hb dX11_scales_63 rfl (lv_at hl 0 rfl) ?_
      refine va_get (D := D) (ci := 11) (v := .ref (a 10)) (C := RX11) (T := TX11) (N := 16) hx hb hts hinX11 hown hK.1 hP 0 rfl rfl 10 (by decide) (hts (.fieldLink RX11 78 "RopeScale" "pans" "LRopeScale$Pans;") (List.mem_of_getElem? (i := 2) rfl)) (fun _ h9 => h9) rfl dX11_scales_64 ?_
      refine lv_iload_n hx hb dX11_scales_67 rfl (lv_at hl 2 rfl) ?_
      obtain ⟨z9, hz9, hf⟩ := bnd hf
      refine cVR (As := [.int p2]) (rest := []) ⟨hx, hb, hml, hown, hts⟩ (mX5_mostLeftHeavier l D T (a 10) (aa 11) z7.1 p2 z9 hz9) (cwV 1 hts gX11_scales_X5_mostLeftHeavier rfl rfl rfl (by decide +kernel) ⟨Nat.le_of_ble_eq_true rfl, Nat.le_of_ble_eq_true rfl⟩) (va_recv hK.1 hP (ci := 5) (q0 := 35) rfl rfl) (hP.sub (ws' := kX5 T (a 10) (aa 11) z7.1) [35, 36, 37] rfl) hK rfl hl.1 rfl (Nat.le_of_ble_eq_true rfl) dX11_scales_68 ⟨Nat.le_of_ble_eq_true rfl, Nat.le_of_ble_eq_true rfl⟩ hP hS (fun H locs hP hS => ?_)
      have e9 := Option.some.inj hf
      exact retM hx hb hr hlocks hP hD hS (congrArg (fun z => z.1) e9) (congrArg (fun z => (WX11 T h a a aa u z.2.1 ucu unw ukp utr uro ugi urd uch urk z.2.2 uwl uva usl uto usw : va_W)) e9) dX11_scales_71
    replace hf := ifp c8 hf
    refine lv_aload_n hx hb dX11_scales_52 rfl (lv_at hl 0 rfl) ?_
    refine va_get (D := D) (ci := 11) (v := .ref (a 10)) (C := RX11) (T := TX11) (N := 16) hx hb hts hinX11 hown hK.1 hP 0 rfl rfl 10 (by decide) (hts (.fieldLink RX11 78 "RopeScale" "pans" "LRopeScale$Pans;") (List.mem_of_getElem? (i := 2) rfl)) (fun _ h9 => h9) rfl dX11_scales_53 ?_
    refine lv_iload_n hx hb dX11_scales_56 rfl (lv_at hl 2 rfl) ?_
    obtain ⟨z10, hz10, hf⟩ := bnd hf
    refine cVR (As := [.int p2]) (rest := []) ⟨hx, hb, hml, hown, hts⟩ (mX5_timesLeftHeavier l D T (a 10) (aa 11) z7.1 p2 z10 hz10) (cwV 1 hts gX11_scales_X5_timesLeftHeavier rfl rfl rfl (by decide +kernel) ⟨Nat.le_of_ble_eq_true rfl, Nat.le_of_ble_eq_true rfl⟩) (va_recv hK.1 hP (ci := 5) (q0 := 35) rfl rfl) (hP.sub (ws' := kX5 T (a 10) (aa 11) z7.1) [35, 36, 37] rfl) hK rfl hl.1 rfl (Nat.le_of_ble_eq_true rfl) dX11_scales_57 ⟨Nat.le_of_ble_eq_true rfl, Nat.le_of_ble_eq_true rfl⟩ hP hS (fun H locs hP hS => ?_)
    refine lv_goto (tgt := 71) hx hb dX11_scales_60 (by decide) ?_
    have e9 := Option.some.inj hf
    exact retM hx hb hr hlocks hP hD hS (congrArg (fun z => z.1) e9) (congrArg (fun z => (WX11 T h a a aa u z.2.1 ucu unw ukp utr uro ugi urd uch urk z.2.2 uwl uva usl uto usw : va_W)) e9) dX11_scales_71
  replace hf := ifp c6 hf
  refine lv_iconst (v := (-1)) hx hb dX11_scales_34 (by decide) ?_
  have e9 := Option.some.inj hf
  exact retM hx hb hr hlocks hP hD hS (congrArg (fun z => z.1) e9) (congrArg (fun z => (WX11 T h a a aa u z.2.1 ucu unw ukp utr uro ugi urd uch urk z.2.2 uwl uva usl uto usw : va_W)) e9) dX11_scales_35
set_option maxHeartbeats 4000000 in
set_option maxRecDepth 100000 in
theorem mX11_seed (l : Launch) (D : va_G) (T : Ty3) (aa : Nat → Nat → Nat) (h : Nat) (a : Nat → Nat) (u : St) (utp : St) (ucu : St) (unw : St) (ukp : St) (utr : St) (uro : St) (ugi : St) (urd : St) (uch : St) (urk : St) (upa : St) (uwl : Nat → Int64) (uva : St) (usl : St) (uto : St) (usw : St) (sz : Nat) (p1 : Int32) (res : Int32 × St) (hf : fX11_seed unw p1 = res) : Met l yX11_seed wsX11_seed ({ frames := 1, cells := 0, slots := 0, locals := 22 }) (PcM D T (WX11 T h a a aa u utp ucu unw ukp utr uro ugi urd uch urk upa uwl uva usl uto usw) sz [.ref h, .int p1]) (QM D (WX11 T h a a aa u utp ucu unw ukp utr uro ugi urd uch urk upa uwl uva usl uto usw) sz res.1 (WX11 T h a a aa u utp ucu res.2 ukp utr uro ugi urd uch urk upa uwl uva usl uto usw)) 0 0 (va_A (WX11 T h a a aa u utp ucu unw ukp utr uro ugi urd uch urk upa uwl uva usl uto usw) sz) := by
  refine Met.ofW (cc := cX11_seed) (maxL := 2) (ret := (some .boolean)) (by decide) rfl ?_
  intro p e s m args below meth c s₁ B hml hv
  obtain ⟨rfl, hsz, hP, hK, hD0⟩ := hv
  have hx := B.exec
  have hb := B.bytes
  have hr := B.returns
  have hts := atoms_spec (ws := wsX11_seed) B.pre
  have hown : s.vm.findClass RX11 = some m.cls := findClass_of_methodNamed B.named
  have hlocks := B.notSynchronized
  subst hsz
  have hD := hD0.self (sz := s.heap.size)
  have hA : ∀ q : Nat, s.heap.size ≤ q → va_A (WX11 T h a a aa u utp ucu unw ukp utr uro ugi urd uch urk upa uwl uva usl uto usw) s.heap.size q := fun q h => Or.inr h
  have hS : va_S (va_A (WX11 T h a a aa u utp ucu unw ukp utr uro ugi urd uch urk upa uwl uva usl uto usw) s.heap.size) s.heap s.heap [] := va_S.rf
  have hinX11 : ∀ w ∈ u_ws RX11 TX11 16, w ∈ wsX11_seed := fun w h => List.mem_cons_of_mem _ (List.mem_append_left _ (List.mem_append_right _ h))
  have hinX9 : ∀ w ∈ u_ws RX9 TX9 8, w ∈ wsX11_seed := fun w h => List.mem_cons_of_mem _ (List.mem_append_right _ h)
  have hl := lv_entry ([.ref h, .int p1]) (n := 2) (Nat.le_of_ble_eq_true rfl)
  rw [lg_entry_eq]
  generalize (lg_sl ([.ref h, .int p1]) ++ List.replicate (2 - (lg_sl ([.ref h, .int p1])).length) Slot.unset).toArray = ls at hl ⊢
  have hl : lv_has ls 2 [(0, .ref h), (1, .int p1)] := hl
  unfold fX11_seed at hf
  refine lv_iload_n hx hb dX11_seed_0 rfl (lv_at hl 1 rfl) ?_
  refine lv_iconst (v := 0) hx hb dX11_seed_1 (by decide) ?_
  refine lv_ldc (v := 65535) hx hb hown (hts (.constant RX11 237 (65535)) (List.mem_of_getElem? (i := 1) rfl)) dX11_seed_2 ?_
  obtain ⟨z1, hz1, hf⟩ := lett_e hf
  refine cSR (As := [.int p1, .int 0, .int 65535]) (rest := []) ⟨hx, hb, hml, hown, hts⟩ (mX11_isWithin l D T p1 0 65535 z1 hz1.symm) (va_cwS 3 hts gX11_seed_X11_isWithin rfl rfl rfl (by decide +kernel) ⟨Nat.le_of_ble_eq_true rfl, Nat.le_of_ble_eq_true rfl⟩) P0 hK rfl hl.1 rfl (Nat.le_of_ble_eq_true rfl) dX11_seed_4 ⟨Nat.le_of_ble_eq_true rfl, Nat.le_of_ble_eq_true rfl⟩ hP hS (fun H locs hP hS => ?_)
  refine lv_if_ne (tgt := 12) hx hb dX11_seed_7 (by decide) (fun c2 => ?_) (fun c2 => ?_)
  · replace hf := ifn c2 hf
    refine lv_aload_n hx hb dX11_seed_12 rfl (lv_at hl 0 rfl) ?_
    refine va_get (D := D) (ci := 11) (v := .ref (a 2)) (C := RX11) (T := TX11) (N := 16) hx hb hts hinX11 hown hK.1 hP 0 rfl rfl 2 (by decide) (hts (.fieldLink RX11 28 "RopeScale" "now" "LRopeScale$Walk;") (List.mem_of_getElem? (i := 2) rfl)) (fun _ h9 => h9) rfl dX11_seed_13 ?_
    refine lv_iload_n hx hb dX11_seed_16 rfl (lv_at hl 1 rfl) ?_
    obtain ⟨u3, eu3, hf⟩ := lett_e hf
    refine va_put (D := D) (ci := 9) (v := .int p1) (ty := .int) (C := RX9) (T := TX9) (N := 8) hx hb hts hinX9 tyX9 tyX9_ok nmX9 hown hK.1 hP hD hS 4 rfl rfl 7 (by decide) (hts (.fieldLink RX11 327 "RopeScale$Walk" "x" "I") (List.mem_of_getElem? (i := 3) rfl)) (fun _ h9 => h9) rfl (tyX9_ok 7 (by decide)) rfl rfl (Nat.le_of_ble_eq_true rfl) dX11_seed_17 (fun H locs hP hD hS => ?_)
    have hP : va_P D vwCl (WX11 T h a a aa u utp ucu u3 ukp utr uro ugi urd uch urk upa uwl uva usl uto usw) H := by rw [eu3]; exact hP
    have hD : va_D (va_A (WX11 T h a a aa u utp ucu unw ukp utr uro ugi urd uch urk upa uwl uva usl uto usw) s.heap.size) (WX11 T h a a aa u utp ucu u3 ukp utr uro ugi urd uch urk upa uwl uva usl uto usw) := by rw [eu3]; exact hD
    refine lv_iconst (v := 1) hx hb dX11_seed_20 (by decide) ?_
    have e9 := hf
    exact retMz hx hb hr hlocks hP hD hS rfl (congrArg (fun z => z.1) e9) (congrArg (fun z => (WX11 T h a a aa u utp ucu z.2 ukp utr uro ugi urd uch urk upa uwl uva usl uto usw : va_W)) e9) dX11_seed_21
  replace hf := ifp c2 hf
  refine lv_iconst (v := 0) hx hb dX11_seed_10 (by decide) ?_
  have e9 := hf
  exact retMz hx hb hr hlocks hP hD hS rfl (congrArg (fun z => z.1) e9) (congrArg (fun z => (WX11 T h a a aa u utp ucu z.2 ukp utr uro ugi urd uch urk upa uwl uva usl uto usw : va_W)) e9) dX11_seed_11
set_option maxHeartbeats 4000000 in
set_option maxRecDepth 100000 in
theorem mX11_keep (l : Launch) (D : va_G) (T : Ty3) (aa : Nat → Nat → Nat) (h : Nat) (a : Nat → Nat) (u : St) (utp : St) (ucu : St) (unw : St) (ukp : St) (utr : St) (uro : St) (ugi : St) (urd : St) (uch : St) (urk : St) (upa : St) (uwl : Nat → Int64) (uva : St) (usl : St) (uto : St) (usw : St) (sz : Nat)  (res : Int32 × St × St) (hf : fX11_keep u unw ukp = res) : Met l yX11_keep wsX11_keep ({ frames := 2, cells := 0, slots := 0, locals := 61 }) (PcM D T (WX11 T h a a aa u utp ucu unw ukp utr uro ugi urd uch urk upa uwl uva usl uto usw) sz [.ref h]) (QM D (WX11 T h a a aa u utp ucu unw ukp utr uro ugi urd uch urk upa uwl uva usl uto usw) sz res.1 (WX11 T h a a aa res.2.1 utp ucu unw res.2.2 utr uro ugi urd uch urk upa uwl uva usl uto usw)) 0 0 (va_A (WX11 T h a a aa u utp ucu unw ukp utr uro ugi urd uch urk upa uwl uva usl uto usw) sz) := by
  refine Met.ofW (cc := cX11_keep) (maxL := 1) (ret := (some .int)) (by decide) rfl ?_
  intro p e s m args below meth c s₁ B hml hv
  obtain ⟨rfl, hsz, hP, hK, hD0⟩ := hv
  have hx := B.exec
  have hb := B.bytes
  have hr := B.returns
  have hts := atoms_spec (ws := wsX11_keep) B.pre
  have hown : s.vm.findClass RX11 = some m.cls := findClass_of_methodNamed B.named
  have hlocks := B.notSynchronized
  subst hsz
  have hD := hD0.self (sz := s.heap.size)
  have hA : ∀ q : Nat, s.heap.size ≤ q → va_A (WX11 T h a a aa u utp ucu unw ukp utr uro ugi urd uch urk upa uwl uva usl uto usw) s.heap.size q := fun q h => Or.inr h
  have hS : va_S (va_A (WX11 T h a a aa u utp ucu unw ukp utr uro ugi urd uch urk upa uwl uva usl uto usw) s.heap.size) s.heap s.heap [] := va_S.rf
  have hinX11 : ∀ w ∈ u_ws RX11 TX11 16, w ∈ wsX11_keep := fun w h => List.mem_cons_of_mem _ (List.mem_append_left _ (List.mem_append_right _ h))
  have hinX9 : ∀ w ∈ u_ws RX9 TX9 8, w ∈ wsX11_keep := fun w h => List.mem_cons_of_mem _ (List.mem_append_right _ h)
  have hl := lv_entry ([.ref h]) (n := 1) (Nat.le_of_ble_eq_true rfl)
  rw [lg_entry_eq]
  generalize (lg_sl ([.ref h]) ++ List.replicate (1 - (lg_sl ([.ref h])).length) Slot.unset).toArray = ls at hl ⊢
  have hl : lv_has ls 1 [(0, .ref h)] := hl
  unfold fX11_keep at hf
  refine lv_aload_n hx hb dX11_keep_0 rfl (lv_at hl 0 rfl) ?_
  refine va_get (D := D) (ci := 11) (v := .ref (a 3)) (C := RX11) (T := TX11) (N := 16) hx hb hts hinX11 hown hK.1 hP 0 rfl rfl 3 (by decide) (hts (.fieldLink RX11 32 "RopeScale" "kept" "LRopeScale$Walk;") (List.mem_of_getElem? (i := 1) rfl)) (fun _ h9 => h9) rfl dX11_keep_1 ?_
  refine lv_aload_n hx hb dX11_keep_4 rfl (lv_at hl 0 rfl) ?_
  refine va_get (D := D) (ci := 11) (v := .ref (a 2)) (C := RX11) (T := TX11) (N := 16) hx hb hts hinX11 hown hK.1 hP 0 rfl rfl 2 (by decide) (hts (.fieldLink RX11 28 "RopeScale" "now" "LRopeScale$Walk;") (List.mem_of_getElem? (i := 2) rfl)) (fun _ h9 => h9) rfl dX11_keep_5 ?_
  obtain ⟨z1, hz1, hf⟩ := lett_e hf
  have hPc := hP.sub (ws' := kX9 T (a 3) (aa 4) ukp ++ kX9 T (a 2) (aa 3) unw) [9, 10, 11, 12, 13, 4, 5, 6, 7, 8] rfl
  have hDc := hD.sub (ws' := kX9 T (a 3) (aa 4) ukp ++ kX9 T (a 2) (aa 3) unw) [9, 10, 11, 12, 13, 4, 5, 6, 7, 8] (by decide) rfl
  have hFc9 := va_free (wc := kX9 T (a 3) (aa 4) ukp ++ kX9 T (a 2) (aa 3) unw) hD hS hA [9, 10, 11, 12, 13, 4, 5, 6, 7, 8] rfl
  refine cVMv (As := [.ref (a 2)]) (rest := []) ⟨hx, hb, hml, hown, hts⟩ (mX9_copyFrom l D T (a 3) (aa 4) ukp (a 2) (aa 3) unw _ z1 hz1.symm) (cwV 1 hts gX11_keep_X9_copyFrom rfl rfl rfl (by decide +kernel) ⟨Nat.le_of_ble_eq_true rfl, Nat.le_of_ble_eq_true rfl⟩) (va_recv hK.1 hP (ci := 9) (q0 := 9) rfl rfl) hPc hK rfl hl.1 rfl (Nat.le_of_ble_eq_true rfl) dX11_keep_8 ⟨Nat.le_of_ble_eq_true rfl, Nat.le_of_ble_eq_true rfl⟩ hDc hFc9 hS (fun H9 locs hP1 hD1 hk1 hS => ?_)
  obtain ⟨hP, hD⟩ := putAll_P (w1 := kX9 T (a 3) (aa 4) z1 ++ kX9 T (a 2) (aa 3) unw) hP hD [9, 10, 11, 12, 13, 4, 5, 6, 7, 8] rfl (by decide) hk1 hP1 rfl
  generalize H9 = H at hP hS ⊢
  have hP : va_P D vwCl (WX11 T h a a aa u utp ucu unw z1 utr uro ugi urd uch urk upa uwl uva usl uto usw) H := by exact hP
  have hD : va_D (va_A (WX11 T h a a aa u utp ucu unw ukp utr uro ugi urd uch urk upa uwl uva usl uto usw) s.heap.size) (WX11 T h a a aa u utp ucu unw z1 utr uro ugi urd uch urk upa uwl uva usl uto usw) := by exact hD
  refine lv_aload_n hx hb dX11_keep_11 rfl (lv_at hl 0 rfl) ?_
  refine lv_iconst (v := 1) hx hb dX11_keep_12 (by decide) ?_
  obtain ⟨u2, eu2, hf⟩ := lett_e hf
  refine va_put (D := D) (ci := 11) (v := .int 1) (ty := .boolean) (C := RX11) (T := TX11) (N := 16) hx hb hts hinX11 tyX11 tyX11_ok nmX11 hown hK.1 hP hD hS 0 rfl rfl 15 (by decide) (hts (.fieldLink RX11 102 "RopeScale" "anyKept" "Z") (List.mem_of_getElem? (i := 3) rfl)) (fun _ h9 => h9) rfl (tyX11_ok 15 (by decide)) rfl rfl (Nat.le_of_ble_eq_true rfl) dX11_keep_13 (fun H locs hP hD hS => ?_)
  have hP : va_P D vwCl (WX11 T h a a aa u2 utp ucu unw z1 utr uro ugi urd uch urk upa uwl uva usl uto usw) H := by rw [eu2]; exact hP
  have hD : va_D (va_A (WX11 T h a a aa u utp ucu unw ukp utr uro ugi urd uch urk upa uwl uva usl uto usw) s.heap.size) (WX11 T h a a aa u2 utp ucu unw z1 utr uro ugi urd uch urk upa uwl uva usl uto usw) := by rw [eu2]; exact hD
  refine lv_aload_n hx hb dX11_keep_16 rfl (lv_at hl 0 rfl) ?_
  refine va_get (D := D) (ci := 11) (v := .ref (a 2)) (C := RX11) (T := TX11) (N := 16) hx hb hts hinX11 hown hK.1 hP 0 rfl rfl 2 (by decide) (hts (.fieldLink RX11 28 "RopeScale" "now" "LRopeScale$Walk;") (List.mem_of_getElem? (i := 2) rfl)) (fun _ h9 => h9) rfl dX11_keep_17 ?_
  refine va_get (D := D) (ci := 9) (v := .int (unw 6 0)) (C := RX9) (T := TX9) (N := 8) hx hb hts hinX9 hown hK.1 hP 4 rfl rfl 6 (by decide) (hts (.fieldLink RX11 330 "RopeScale$Walk" "hour" "I") (List.mem_of_getElem? (i := 4) rfl)) (fun _ h9 => h9) rfl dX11_keep_20 ?_
  have e9 := hf
  exact retM hx hb hr hlocks hP hD hS (congrArg (fun z => z.1) e9) (congrArg (fun z => (WX11 T h a a aa z.2.1 utp ucu unw z.2.2 utr uro ugi urd uch urk upa uwl uva usl uto usw : va_W)) e9) dX11_keep_23
set_option maxHeartbeats 4000000 in
set_option maxRecDepth 100000 in
theorem mX11_undo (l : Launch) (D : va_G) (T : Ty3) (aa : Nat → Nat → Nat) (h : Nat) (a : Nat → Nat) (u : St) (utp : St) (ucu : St) (unw : St) (ukp : St) (utr : St) (uro : St) (ugi : St) (urd : St) (uch : St) (urk : St) (upa : St) (uwl : Nat → Int64) (uva : St) (usl : St) (uto : St) (usw : St) (sz : Nat)  (res : Int32 × St) (hf : fX11_undo u unw ukp = some res) : Met l yX11_undo wsX11_undo ({ frames := 2, cells := 0, slots := 0, locals := 61 }) (PcM D T (WX11 T h a a aa u utp ucu unw ukp utr uro ugi urd uch urk upa uwl uva usl uto usw) sz [.ref h]) (QM D (WX11 T h a a aa u utp ucu unw ukp utr uro ugi urd uch urk upa uwl uva usl uto usw) sz res.1 (WX11 T h a a aa u utp ucu res.2 ukp utr uro ugi urd uch urk upa uwl uva usl uto usw)) 0 0 (va_A (WX11 T h a a aa u utp ucu unw ukp utr uro ugi urd uch urk upa uwl uva usl uto usw) sz) := by
  refine Met.ofW (cc := cX11_undo) (maxL := 1) (ret := (some .boolean)) (by decide) rfl ?_
  intro p e s m args below meth c s₁ B hml hv
  obtain ⟨rfl, hsz, hP, hK, hD0⟩ := hv
  have hx := B.exec
  have hb := B.bytes
  have hr := B.returns
  have hts := atoms_spec (ws := wsX11_undo) B.pre
  have hown : s.vm.findClass RX11 = some m.cls := findClass_of_methodNamed B.named
  have hlocks := B.notSynchronized
  subst hsz
  have hD := hD0.self (sz := s.heap.size)
  have hA : ∀ q : Nat, s.heap.size ≤ q → va_A (WX11 T h a a aa u utp ucu unw ukp utr uro ugi urd uch urk upa uwl uva usl uto usw) s.heap.size q := fun q h => Or.inr h
  have hS : va_S (va_A (WX11 T h a a aa u utp ucu unw ukp utr uro ugi urd uch urk upa uwl uva usl uto usw) s.heap.size) s.heap s.heap [] := va_S.rf
  have hinX11 : ∀ w ∈ u_ws RX11 TX11 16, w ∈ wsX11_undo := fun w h => List.mem_cons_of_mem _ (List.mem_append_left _ (List.mem_append_right _ h))
  have hinX9 : ∀ w ∈ u_ws RX9 TX9 8, w ∈ wsX11_undo := fun w h => List.mem_cons_of_mem _ (List.mem_append_right _ h)
  have hl := lv_entry ([.ref h]) (n := 1) (Nat.le_of_ble_eq_true rfl)
  rw [lg_entry_eq]
  generalize (lg_sl ([.ref h]) ++ List.replicate (1 - (lg_sl ([.ref h])).length) Slot.unset).toArray = ls at hl ⊢
  have hl : lv_has ls 1 [(0, .ref h)] := hl
  unfold fX11_undo at hf
  refine lv_aload_n hx hb dX11_undo_0 rfl (lv_at hl 0 rfl) ?_
  refine va_get (D := D) (ci := 11) (v := .int (u 15 0)) (C := RX11) (T := TX11) (N := 16) hx hb hts hinX11 hown hK.1 hP 0 rfl rfl 15 (by decide) (hts (.fieldLink RX11 102 "RopeScale" "anyKept" "Z") (List.mem_of_getElem? (i := 1) rfl)) (fun _ h9 => h9) rfl dX11_undo_1 ?_
  refine lv_if_eq (tgt := 18) hx hb dX11_undo_4 (by decide) (fun c1 => ?_) (fun c1 => ?_)
  · replace hf := ifp c1 hf
    refine lv_aload_n hx hb dX11_undo_18 rfl (lv_at hl 0 rfl) ?_
    refine va_get (D := D) (ci := 11) (v := .int (u 15 0)) (C := RX11) (T := TX11) (N := 16) hx hb hts hinX11 hown hK.1 hP 0 rfl rfl 15 (by decide) (hts (.fieldLink RX11 102 "RopeScale" "anyKept" "Z") (List.mem_of_getElem? (i := 1) rfl)) (fun _ h9 => h9) rfl dX11_undo_19 ?_
    obtain ⟨hz9, hf⟩ := zb_e hf
    have e9 := Option.some.inj hf
    exact retMz hx hb hr hlocks hP hD hS hz9 (congrArg (fun z => z.1) e9) (congrArg (fun z => (WX11 T h a a aa u utp ucu z.2 ukp utr uro ugi urd uch urk upa uwl uva usl uto usw : va_W)) e9) dX11_undo_22
  replace hf := ifn c1 hf
  refine lv_aload_n hx hb dX11_undo_7 rfl (lv_at hl 0 rfl) ?_
  refine va_get (D := D) (ci := 11) (v := .ref (a 2)) (C := RX11) (T := TX11) (N := 16) hx hb hts hinX11 hown hK.1 hP 0 rfl rfl 2 (by decide) (hts (.fieldLink RX11 28 "RopeScale" "now" "LRopeScale$Walk;") (List.mem_of_getElem? (i := 2) rfl)) (fun _ h9 => h9) rfl dX11_undo_8 ?_
  refine lv_aload_n hx hb dX11_undo_11 rfl (lv_at hl 0 rfl) ?_
  refine va_get (D := D) (ci := 11) (v := .ref (a 3)) (C := RX11) (T := TX11) (N := 16) hx hb hts hinX11 hown hK.1 hP 0 rfl rfl 3 (by decide) (hts (.fieldLink RX11 32 "RopeScale" "kept" "LRopeScale$Walk;") (List.mem_of_getElem? (i := 3) rfl)) (fun _ h9 => h9) rfl dX11_undo_12 ?_
  obtain ⟨z2, hz2, hf⟩ := lett_e hf
  have hPc := hP.sub (ws' := kX9 T (a 2) (aa 3) unw ++ kX9 T (a 3) (aa 4) ukp) [4, 5, 6, 7, 8, 9, 10, 11, 12, 13] rfl
  have hDc := hD.sub (ws' := kX9 T (a 2) (aa 3) unw ++ kX9 T (a 3) (aa 4) ukp) [4, 5, 6, 7, 8, 9, 10, 11, 12, 13] (by decide) rfl
  have hFc9 := va_free (wc := kX9 T (a 2) (aa 3) unw ++ kX9 T (a 3) (aa 4) ukp) hD hS hA [4, 5, 6, 7, 8, 9, 10, 11, 12, 13] rfl
  refine cVMv (As := [.ref (a 3)]) (rest := []) ⟨hx, hb, hml, hown, hts⟩ (mX9_copyFrom l D T (a 2) (aa 3) unw (a 3) (aa 4) ukp _ z2 hz2.symm) (cwV 1 hts gX11_undo_X9_copyFrom rfl rfl rfl (by decide +kernel) ⟨Nat.le_of_ble_eq_true rfl, Nat.le_of_ble_eq_true rfl⟩) (va_recv hK.1 hP (ci := 9) (q0 := 4) rfl rfl) hPc hK rfl hl.1 rfl (Nat.le_of_ble_eq_true rfl) dX11_undo_15 ⟨Nat.le_of_ble_eq_true rfl, Nat.le_of_ble_eq_true rfl⟩ hDc hFc9 hS (fun H9 locs hP1 hD1 hk1 hS => ?_)
  obtain ⟨hP, hD⟩ := putAll_P (w1 := kX9 T (a 2) (aa 3) z2 ++ kX9 T (a 3) (aa 4) ukp) hP hD [4, 5, 6, 7, 8, 9, 10, 11, 12, 13] rfl (by decide) hk1 hP1 rfl
  generalize H9 = H at hP hS ⊢
  have hP : va_P D vwCl (WX11 T h a a aa u utp ucu z2 ukp utr uro ugi urd uch urk upa uwl uva usl uto usw) H := by exact hP
  have hD : va_D (va_A (WX11 T h a a aa u utp ucu unw ukp utr uro ugi urd uch urk upa uwl uva usl uto usw) s.heap.size) (WX11 T h a a aa u utp ucu z2 ukp utr uro ugi urd uch urk upa uwl uva usl uto usw) := by exact hD
  refine lv_aload_n hx hb dX11_undo_18 rfl (lv_at hl 0 rfl) ?_
  refine va_get (D := D) (ci := 11) (v := .int (u 15 0)) (C := RX11) (T := TX11) (N := 16) hx hb hts hinX11 hown hK.1 hP 0 rfl rfl 15 (by decide) (hts (.fieldLink RX11 102 "RopeScale" "anyKept" "Z") (List.mem_of_getElem? (i := 1) rfl)) (fun _ h9 => h9) rfl dX11_undo_19 ?_
  obtain ⟨hz9, hf⟩ := zb_e hf
  have e9 := Option.some.inj hf
  exact retMz hx hb hr hlocks hP hD hS hz9 (congrArg (fun z => z.1) e9) (congrArg (fun z => (WX11 T h a a aa u utp ucu z.2 ukp utr uro ugi urd uch urk upa uwl uva usl uto usw : va_W)) e9) dX11_undo_22
set_option maxHeartbeats 4000000 in
set_option maxRecDepth 100000 in
theorem mX11_check (l : Launch) (D : va_G) (T : Ty3) (aa : Nat → Nat → Nat) (h : Nat) (a : Nat → Nat) (u : St) (utp : St) (ucu : St) (unw : St) (ukp : St) (utr : St) (uro : St) (ugi : St) (urd : St) (uch : St) (urk : St) (upa : St) (uwl : Nat → Int64) (uva : St) (usl : St) (uto : St) (usw : St) (sz : Nat) (p1 : Int32) (res : Int32 × St) (hf : fX11_check utp unw p1 = some res) : Met l yX11_check wsX11_check ({ frames := 3, cells := 0, slots := 0, locals := 63 }) (PcM D T (WX11 T h a a aa u utp ucu unw ukp utr uro ugi urd uch urk upa uwl uva usl uto usw) sz [.ref h, .int p1]) (QM D (WX11 T h a a aa u utp ucu unw ukp utr uro ugi urd uch urk upa uwl uva usl uto usw) sz res.1 (WX11 T h a a aa u res.2 ucu unw ukp utr uro ugi urd uch urk upa uwl uva usl uto usw)) 0 0 (va_A (WX11 T h a a aa u utp ucu unw ukp utr uro ugi urd uch urk upa uwl uva usl uto usw) sz) := by
  refine Met.ofW (cc := cX11_check) (maxL := 5) (ret := (some .int)) (by decide) rfl ?_
  intro p e s m args below meth c s₁ B hml hv
  obtain ⟨rfl, hsz, hP, hK, hD0⟩ := hv
  have hx := B.exec
  have hb := B.bytes
  have hr := B.returns
  have hts := atoms_spec (ws := wsX11_check) B.pre
  have hown : s.vm.findClass RX11 = some m.cls := findClass_of_methodNamed B.named
  have hlocks := B.notSynchronized
  subst hsz
  have hD := hD0.self (sz := s.heap.size)
  have hA : ∀ q : Nat, s.heap.size ≤ q → va_A (WX11 T h a a aa u utp ucu unw ukp utr uro ugi urd uch urk upa uwl uva usl uto usw) s.heap.size q := fun q h => Or.inr h
  have hS : va_S (va_A (WX11 T h a a aa u utp ucu unw ukp utr uro ugi urd uch urk upa uwl uva usl uto usw) s.heap.size) s.heap s.heap [] := va_S.rf
  have hinX11 : ∀ w ∈ u_ws RX11 TX11 16, w ∈ wsX11_check := fun w h => List.mem_cons_of_mem _ (List.mem_append_left _ (List.mem_append_left _ (List.mem_append_right _ h)))
  have hinX9 : ∀ w ∈ u_ws RX9 TX9 8, w ∈ wsX11_check := fun w h => List.mem_cons_of_mem _ (List.mem_append_left _ (List.mem_append_right _ h))
  have hinX8 : ∀ w ∈ u_ws RX8 TX8 2, w ∈ wsX11_check := fun w h => List.mem_cons_of_mem _ (List.mem_append_right _ h)
  have hl := lv_entry ([.ref h, .int p1]) (n := 5) (Nat.le_of_ble_eq_true rfl)
  rw [lg_entry_eq]
  generalize (lg_sl ([.ref h, .int p1]) ++ List.replicate (5 - (lg_sl ([.ref h, .int p1])).length) Slot.unset).toArray = ls at hl ⊢
  have hl : lv_has ls 5 [(0, .ref h), (1, .int p1)] := hl
  have L23 : ∀ (n23 : Nat), ∀ (vtp : St) (x2 : Int32) (x3 : Int32) (H : Heap) (locs : List Loc) (ls : Array Slot), fX11_check_L23 unw n23 vtp x2 x3 = some res → va_P D vwCl (WX11 T h a a aa u vtp ucu unw ukp utr uro ugi urd uch urk upa uwl uva usl uto usw) H → va_D (va_A (WX11 T h a a aa u utp ucu unw ukp utr uro ugi urd uch urk upa uwl uva usl uto usw) s.heap.size) (WX11 T h a a aa u vtp ucu unw ukp utr uro ugi urd uch urk upa uwl uva usl uto usw) → va_S (va_A (WX11 T h a a aa u utp ucu unw ukp utr uro ugi urd uch urk upa uwl uva usl uto usw) s.heap.size) s.heap H locs → lv_has ls 5 [(0, .ref h), (2, .int x2), (3, .int x3)] → W p l e (headSpec wsX11_check ({ frames := 3, cells := 0, slots := 0, locals := 63 })).room s m ([.ref h, .int p1] : List Value).toArray below meth c H locs 0 0 (MQ below (QM D (WX11 T h a a aa u utp ucu unw ukp utr uro ugi urd uch urk upa uwl uva usl uto usw) s.heap.size res.1 (WX11 T h a a aa u res.2 ucu unw ukp utr uro ugi urd uch urk upa uwl uva usl uto usw)) ([.ref h, .int p1] : List Value).toArray s 0 0 (va_A (WX11 T h a a aa u utp ucu unw ukp utr uro ugi urd uch urk upa uwl uva usl uto usw) s.heap.size)) (F0 m 23 ls []) := by
    intro n23
    induction n23 with
    | zero => intro vtp x2 x3 H locs ls hf; exact nns hf
    | succ n23 ih23 =>
      have J55 : ∀ (vtp : St) (x2 : Int32) (x3 : Int32) (y0 : Int32) (H : Heap) (locs : List Loc) (ls : Array Slot), fX11_check_J55 (fX11_check_L23 unw n23) vtp x2 x3 y0 = some res → va_P D vwCl (WX11 T h a a aa u vtp ucu unw ukp utr uro ugi urd uch urk upa uwl uva usl uto usw) H → va_D (va_A (WX11 T h a a aa u utp ucu unw ukp utr uro ugi urd uch urk upa uwl uva usl uto usw) s.heap.size) (WX11 T h a a aa u vtp ucu unw ukp utr uro ugi urd uch urk upa uwl uva usl uto usw) → va_S (va_A (WX11 T h a a aa u utp ucu unw ukp utr uro ugi urd uch urk upa uwl uva usl uto usw) s.heap.size) s.heap H locs → lv_has ls 5 [(0, .ref h), (2, .int x2), (3, .int x3)] → W p l e (headSpec wsX11_check ({ frames := 3, cells := 0, slots := 0, locals := 63 })).room s m ([.ref h, .int p1] : List Value).toArray below meth c H locs 0 0 (MQ below (QM D (WX11 T h a a aa u utp ucu unw ukp utr uro ugi urd uch urk upa uwl uva usl uto usw) s.heap.size res.1 (WX11 T h a a aa u res.2 ucu unw ukp utr uro ugi urd uch urk upa uwl uva usl uto usw)) ([.ref h, .int p1] : List Value).toArray s 0 0 (va_A (WX11 T h a a aa u utp ucu unw ukp utr uro ugi urd uch urk upa uwl uva usl uto usw) s.heap.size)) (F0 m 55 ls [.int y0]) := by
        intro vtp x2 x3 y0 H locs ls hf hP hD hS hl
        unfold fX11_check_J55 at hf
        refine lv_istore (lv' := [(4, .int y0), (0, .ref h), (2, .int x2), (3, .int x3)]) hx hb dX11_check_55 hl (by decide) rfl (fun ls hl => ?_)
        refine lv_aload_n hx hb dX11_check_57 rfl (lv_at hl 1 rfl) ?_
        refine va_get (D := D) (ci := 11) (v := .ref (a 0)) (C := RX11) (T := TX11) (N := 16) hx hb hts hinX11 hown hK.1 hP 0 rfl rfl 0 (by decide) (hts (.fieldLink RX11 10 "RopeScale" "tape" "LRopeScale$Tape;") (List.mem_of_getElem? (i := 1) rfl)) (fun _ h9 => h9) rfl dX11_check_58 ?_
        refine lv_iload_n hx hb dX11_check_61 rfl (lv_at hl 3 rfl) ?_
        obtain ⟨z1, hz1, hf⟩ := bnd hf
        refine cVR (As := [.int x3]) (rest := []) ⟨hx, hb, hml, hown, hts⟩ (mX8_at l D T (a 0) (aa 1) vtp x3 z1 hz1) (cwV 1 hts gX11_check_X8_at rfl rfl rfl (by decide +kernel) ⟨Nat.le_of_ble_eq_true rfl, Nat.le_of_ble_eq_true rfl⟩) (va_recv hK.1 hP (ci := 8) (q0 := 1) rfl rfl) (hP.sub (ws' := kX8 T (a 0) (aa 1) vtp) [1, 2] rfl) hK rfl hl.1 rfl (Nat.le_of_ble_eq_true rfl) dX11_check_62 ⟨Nat.le_of_ble_eq_true rfl, Nat.le_of_ble_eq_true rfl⟩ hP hS (fun H locs hP hS => ?_)
        refine lv_iload hx hb dX11_check_65 (lv_at hl 0 rfl) ?_
        refine lv_icmp_eq (tgt := 72) hx hb dX11_check_67 (by decide) (fun c2 => ?_) (fun c2 => ?_)
        · replace hf := ifp c2 hf
          obtain ⟨t3, et3, hf⟩ := lett_e hf
          refine lv_iinc (v := t3) (lv' := [(3, .int t3), (4, .int y0), (0, .ref h), (2, .int x2)]) hx hb dX11_check_72 hl (k := 3) rfl (by rw [et3]; rfl) (by decide) rfl (fun ls hl => ?_)
          refine lv_goto (tgt := 23) hx hb dX11_check_75 (by decide) ?_
          exact ih23 vtp x2 t3 _ _ _ hf hP hD hS (lv_sub hl [2, 3, 0] rfl)
        replace hf := ifn c2 hf
        refine lv_iload_n hx hb dX11_check_70 rfl (lv_at hl 3 rfl) ?_
        refine lv_istore_n (lv' := [(2, .int x3), (4, .int y0), (0, .ref h), (3, .int x3)]) hx hb dX11_check_71 rfl hl (by decide) rfl (fun ls hl => ?_)
        obtain ⟨t4, et4, hf⟩ := lett_e hf
        refine lv_iinc (v := t4) (lv' := [(3, .int t4), (2, .int x3), (4, .int y0), (0, .ref h)]) hx hb dX11_check_72 hl (k := 3) rfl (by rw [et4]; rfl) (by decide) rfl (fun ls hl => ?_)
        refine lv_goto (tgt := 23) hx hb dX11_check_75 (by decide) ?_
        exact ih23 vtp x3 t4 _ _ _ hf hP hD hS (lv_sub hl [3, 1, 0] rfl)
      intro vtp x2 x3 H locs ls hf hP hD hS hl
      replace hf : bX11_check_L23 unw (fX11_check_L23 unw n23) vtp x2 x3 = some res := hf
      unfold bX11_check_L23 at hf
      refine lv_iload_n hx hb dX11_check_23 rfl (lv_at hl 2 rfl) ?_
      refine lv_if_lt (tgt := 78) hx hb dX11_check_24 (by decide) (fun c5 => ?_) (fun c5 => ?_)
      · replace hf := ifp c5 hf
        refine lv_aload_n hx hb dX11_check_78 rfl (lv_at hl 0 rfl) ?_
        refine va_get (D := D) (ci := 11) (v := .ref (a 0)) (C := RX11) (T := TX11) (N := 16) hx hb hts hinX11 hown hK.1 hP 0 rfl rfl 0 (by decide) (hts (.fieldLink RX11 10 "RopeScale" "tape" "LRopeScale$Tape;") (List.mem_of_getElem? (i := 1) rfl)) (fun _ h9 => h9) rfl dX11_check_79 ?_
        obtain ⟨z6, hz6, hf⟩ := lett_e hf
        have hPc := hP.sub (ws' := kX8 T (a 0) (aa 1) vtp) [1, 2] rfl
        have hDc := hD.sub (ws' := kX8 T (a 0) (aa 1) vtp) [1, 2] (by decide) rfl
        have hFc9 := va_free (wc := kX8 T (a 0) (aa 1) vtp) hD hS hA [1, 2] rfl
        refine cVMv (As := []) (rest := []) ⟨hx, hb, hml, hown, hts⟩ (mX8_clear l D T (a 0) (aa 1) vtp _ z6 hz6.symm) (cwV 0 hts gX11_check_X8_clear rfl rfl rfl (by decide +kernel) ⟨Nat.le_of_ble_eq_true rfl, Nat.le_of_ble_eq_true rfl⟩) (va_recv hK.1 hP (ci := 8) (q0 := 1) rfl rfl) hPc hK rfl hl.1 rfl (Nat.le_of_ble_eq_true rfl) dX11_check_82 ⟨Nat.le_of_ble_eq_true rfl, Nat.le_of_ble_eq_true rfl⟩ hDc hFc9 hS (fun H9 locs hP1 hD1 hk1 hS => ?_)
        obtain ⟨hP, hD⟩ := putAll_P (w1 := kX8 T (a 0) (aa 1) z6) hP hD [1, 2] rfl (by decide) hk1 hP1 rfl
        generalize H9 = H at hP hS ⊢
        have hP : va_P D vwCl (WX11 T h a a aa u z6 ucu unw ukp utr uro ugi urd uch urk upa uwl uva usl uto usw) H := by exact hP
        have hD : va_D (va_A (WX11 T h a a aa u utp ucu unw ukp utr uro ugi urd uch urk upa uwl uva usl uto usw) s.heap.size) (WX11 T h a a aa u z6 ucu unw ukp utr uro ugi urd uch urk upa uwl uva usl uto usw) := by exact hD
        refine lv_iload_n hx hb dX11_check_85 rfl (lv_at hl 1 rfl) ?_
        have e9 := Option.some.inj hf
        exact retM hx hb hr hlocks hP hD hS (congrArg (fun z => z.1) e9) (congrArg (fun z => (WX11 T h a a aa u z.2 ucu unw ukp utr uro ugi urd uch urk upa uwl uva usl uto usw : va_W)) e9) dX11_check_86
      replace hf := ifn c5 hf
      refine lv_aload_n hx hb dX11_check_27 rfl (lv_at hl 0 rfl) ?_
      refine va_get (D := D) (ci := 11) (v := .ref (a 2)) (C := RX11) (T := TX11) (N := 16) hx hb hts hinX11 hown hK.1 hP 0 rfl rfl 2 (by decide) (hts (.fieldLink RX11 28 "RopeScale" "now" "LRopeScale$Walk;") (List.mem_of_getElem? (i := 2) rfl)) (fun _ h9 => h9) rfl dX11_check_28 ?_
      refine lv_iload_n hx hb dX11_check_31 rfl (lv_at hl 2 rfl) ?_
      obtain ⟨z7, hz7, hf⟩ := bnd hf
      refine cVR (As := [.int x3]) (rest := []) ⟨hx, hb, hml, hown, hts⟩ (mX9_knows l D T (a 2) (aa 3) unw x3 z7 hz7) (cwV 1 hts gX11_check_X9_knows rfl rfl rfl (by decide +kernel) ⟨Nat.le_of_ble_eq_true rfl, Nat.le_of_ble_eq_true rfl⟩) (va_recv hK.1 hP (ci := 9) (q0 := 4) rfl rfl) (hP.sub (ws' := kX9 T (a 2) (aa 3) unw) [4, 5, 6, 7, 8] rfl) hK rfl hl.1 rfl (Nat.le_of_ble_eq_true rfl) dX11_check_32 ⟨Nat.le_of_ble_eq_true rfl, Nat.le_of_ble_eq_true rfl⟩ hP hS (fun H locs hP hS => ?_)
      refine lv_if_eq (tgt := 54) hx hb dX11_check_35 (by decide) (fun c8 => ?_) (fun c8 => ?_)
      · replace hf := ifp c8 hf
        refine lv_iconst (v := 0) hx hb dX11_check_54 (by decide) ?_
        exact J55 vtp x2 x3 0 _ _ _ hf hP hD hS (lv_sub hl [0, 1, 2] rfl)
      replace hf := ifn c8 hf
      refine lv_aload_n hx hb dX11_check_38 rfl (lv_at hl 0 rfl) ?_
      refine va_get (D := D) (ci := 11) (v := .ref (a 2)) (C := RX11) (T := TX11) (N := 16) hx hb hts hinX11 hown hK.1 hP 0 rfl rfl 2 (by decide) (hts (.fieldLink RX11 28 "RopeScale" "now" "LRopeScale$Walk;") (List.mem_of_getElem? (i := 2) rfl)) (fun _ h9 => h9) rfl dX11_check_39 ?_
      refine va_get (D := D) (ci := 9) (v := .ref ((aa 3) 0)) (C := RX9) (T := TX9) (N := 8) hx hb hts hinX9 hown hK.1 hP 4 rfl rfl 0 (by decide) (hts (.fieldLink RX11 211 "RopeScale$Walk" "weight" "[I") (List.mem_of_getElem? (i := 3) rfl)) (fun _ h9 => h9) rfl dX11_check_42 ?_
      refine lv_iload_n hx hb dX11_check_45 rfl (lv_at hl 2 rfl) ?_
      obtain ⟨h9, hf⟩ := gd_e hf
      refine va_iald hx hb hK.1 hP 5 0 rfl rfl h9 dX11_check_46 ?_
      refine lv_sipush (v := 256) hx hb dX11_check_47 (by decide) ?_
      refine lv_irem hx hb dX11_check_50 (by decide) ?_
      refine lv_goto (tgt := 55) hx hb dX11_check_51 (by decide) ?_
      exact J55 vtp x2 x3 (jrem (unw 0 (ix x3)) 256) _ _ _ hf hP hD hS (lv_sub hl [0, 1, 2] rfl)
  unfold fX11_check at hf
  refine lv_aload_n hx hb dX11_check_0 rfl (lv_at hl 0 rfl) ?_
  refine va_get (D := D) (ci := 11) (v := .ref (a 0)) (C := RX11) (T := TX11) (N := 16) hx hb hts hinX11 hown hK.1 hP 0 rfl rfl 0 (by decide) (hts (.fieldLink RX11 10 "RopeScale" "tape" "LRopeScale$Tape;") (List.mem_of_getElem? (i := 1) rfl)) (fun _ h9 => h9) rfl dX11_check_1 ?_
  refine lv_iload_n hx hb dX11_check_4 rfl (lv_at hl 1 rfl) ?_
  refine lv_iconst (v := 0) hx hb dX11_check_5 (by decide) ?_
  refine lv_bipush (v := 16) hx hb dX11_check_6 (by decide) ?_
  obtain ⟨z10, hz10, hf⟩ := lett_e hf
  refine cVR (As := [.int p1, .int 0, .int 16]) (rest := []) ⟨hx, hb, hml, hown, hts⟩ (mX8_offers l D T (a 0) (aa 1) utp p1 0 16 z10 hz10.symm) (cwV 3 hts gX11_check_X8_offers rfl rfl rfl (by decide +kernel) ⟨Nat.le_of_ble_eq_true rfl, Nat.le_of_ble_eq_true rfl⟩) (va_recv hK.1 hP (ci := 8) (q0 := 1) rfl rfl) (hP.sub (ws' := kX8 T (a 0) (aa 1) utp) [1, 2] rfl) hK rfl hl.1 rfl (Nat.le_of_ble_eq_true rfl) dX11_check_8 ⟨Nat.le_of_ble_eq_true rfl, Nat.le_of_ble_eq_true rfl⟩ hP hS (fun H locs hP hS => ?_)
  refine lv_if_ne (tgt := 17) hx hb dX11_check_11 (by decide) (fun c11 => ?_) (fun c11 => ?_)
  · replace hf := ifn c11 hf
    refine lv_iconst (v := (-1)) hx hb dX11_check_17 (by decide) ?_
    refine lv_istore_n (lv' := [(2, .int (-1)), (0, .ref h), (1, .int p1)]) hx hb dX11_check_18 rfl hl (by decide) rfl (fun ls hl => ?_)
    refine lv_iload_n hx hb dX11_check_19 rfl (lv_at hl 2 rfl) ?_
    refine lv_iconst (v := 1) hx hb dX11_check_20 (by decide) ?_
    refine lv_isub hx hb dX11_check_21 ?_
    obtain ⟨t12, et12, hf⟩ := lett_e hf
    refine lv_eqi et12 ?_
    refine lv_istore_n (lv' := [(3, .int t12), (2, .int (-1)), (0, .ref h), (1, .int p1)]) hx hb dX11_check_22 rfl hl (by decide) rfl (fun ls hl => ?_)
    exact L23 FU utp (-1) t12 _ _ _ hf hP hD hS (lv_sub hl [2, 1, 0] rfl)
  replace hf := ifp c11 hf
  refine lv_bipush (v := (-2)) hx hb dX11_check_14 (by decide) ?_
  have e9 := Option.some.inj hf
  exact retM hx hb hr hlocks hP hD hS (congrArg (fun z => z.1) e9) (congrArg (fun z => (WX11 T h a a aa u z.2 ucu unw ukp utr uro ugi urd uch urk upa uwl uva usl uto usw : va_W)) e9) dX11_check_16
set_option maxHeartbeats 4000000 in
set_option maxRecDepth 100000 in
theorem mX11_count (l : Launch) (D : va_G) (T : Ty3) (aa : Nat → Nat → Nat) (h : Nat) (a : Nat → Nat) (u : St) (utp : St) (ucu : St) (unw : St) (ukp : St) (utr : St) (uro : St) (ugi : St) (urd : St) (uch : St) (urk : St) (upa : St) (uwl : Nat → Int64) (uva : St) (usl : St) (uto : St) (usw : St) (p1 : Int32) (res : Int32) (hf : fX11_count utp unw uro uva uto p1 = some res) : Met l yX11_count wsX11_count ({ frames := 2, cells := 0, slots := 0, locals := 44 }) (PcR D T (WX11 T h a a aa u utp ucu unw ukp utr uro ugi urd uch urk upa uwl uva usl uto usw) [.ref h, .int p1]) (QR res) 0 0 noA := by
  refine Met.ofW (cc := cX11_count) (maxL := 2) (ret := (some .int)) (by decide) rfl ?_
  intro p e s m args below meth c s₁ B hml hv
  obtain ⟨rfl, hP, hK⟩ := hv
  have hx := B.exec
  have hb := B.bytes
  have hr := B.returns
  have hts := atoms_spec (ws := wsX11_count) B.pre
  have hown : s.vm.findClass RX11 = some m.cls := findClass_of_methodNamed B.named
  have hlocks := B.notSynchronized
  have hS : va_S noA s.heap s.heap [] := va_S.rf
  have hinX11 : ∀ w ∈ u_ws RX11 TX11 16, w ∈ wsX11_count := fun w h => List.mem_cons_of_mem _ (List.mem_append_left _ (List.mem_append_left _ (List.mem_append_left _ (List.mem_append_left _ (List.mem_append_left _ (List.mem_append_right _ h))))))
  have hinX9 : ∀ w ∈ u_ws RX9 TX9 8, w ∈ wsX11_count := fun w h => List.mem_cons_of_mem _ (List.mem_append_left _ (List.mem_append_left _ (List.mem_append_left _ (List.mem_append_left _ (List.mem_append_right _ h)))))
  have hinX10 : ∀ w ∈ u_ws RX10 TX10 4, w ∈ wsX11_count := fun w h => List.mem_cons_of_mem _ (List.mem_append_left _ (List.mem_append_left _ (List.mem_append_left _ (List.mem_append_right _ h))))
  have hinX2 : ∀ w ∈ u_ws RX2 TX2 10, w ∈ wsX11_count := fun w h => List.mem_cons_of_mem _ (List.mem_append_left _ (List.mem_append_left _ (List.mem_append_right _ h)))
  have hinX8 : ∀ w ∈ u_ws RX8 TX8 2, w ∈ wsX11_count := fun w h => List.mem_cons_of_mem _ (List.mem_append_left _ (List.mem_append_right _ h))
  have hinX7 : ∀ w ∈ u_ws RX7 TX7 6, w ∈ wsX11_count := fun w h => List.mem_cons_of_mem _ (List.mem_append_right _ h)
  have hl := lv_entry ([.ref h, .int p1]) (n := 2) (Nat.le_of_ble_eq_true rfl)
  rw [lg_entry_eq]
  generalize (lg_sl ([.ref h, .int p1]) ++ List.replicate (2 - (lg_sl ([.ref h, .int p1])).length) Slot.unset).toArray = ls at hl ⊢
  have hl : lv_has ls 2 [(0, .ref h), (1, .int p1)] := hl
  unfold fX11_count at hf
  refine lv_iload_n hx hb dX11_count_0 rfl (lv_at hl 1 rfl) ?_
  by_cases c1 : p1 = 0
  · replace hf := ifp c1 hf
    refine lv_tableIn (off := 63) (tgt := 64) hx hb dX11_count_1 (by rw [c1]; decide) (by rw [c1]; decide) (by rw [c1]; rfl) (by decide) ?_
    refine lv_aload_n hx hb dX11_count_64 rfl (lv_at hl 0 rfl) ?_
    refine va_get (D := D) (ci := 11) (v := .ref (a 2)) (C := RX11) (T := TX11) (N := 16) hx hb hts hinX11 hown hK.1 hP 0 rfl rfl 2 (by decide) (hts (.fieldLink RX11 28 "RopeScale" "now" "LRopeScale$Walk;") (List.mem_of_getElem? (i := 1) rfl)) (fun _ h9 => h9) rfl dX11_count_65 ?_
    refine va_get (D := D) (ci := 9) (v := .int (unw 6 0)) (C := RX9) (T := TX9) (N := 8) hx hb hts hinX9 hown hK.1 hP 4 rfl rfl 6 (by decide) (hts (.fieldLink RX11 330 "RopeScale$Walk" "hour" "I") (List.mem_of_getElem? (i := 2) rfl)) (fun _ h9 => h9) rfl dX11_count_68 ?_
    exact retR hx hb hr hlocks hS (Option.some.inj hf) dX11_count_71
  replace hf := ifn c1 hf
  by_cases c2 : p1 = 1
  · replace hf := ifp c2 hf
    refine lv_tableIn (off := 71) (tgt := 72) hx hb dX11_count_1 (by rw [c2]; decide) (by rw [c2]; decide) (by rw [c2]; rfl) (by decide) ?_
    refine lv_aload_n hx hb dX11_count_72 rfl (lv_at hl 0 rfl) ?_
    refine va_get (D := D) (ci := 11) (v := .ref (a 2)) (C := RX11) (T := TX11) (N := 16) hx hb hts hinX11 hown hK.1 hP 0 rfl rfl 2 (by decide) (hts (.fieldLink RX11 28 "RopeScale" "now" "LRopeScale$Walk;") (List.mem_of_getElem? (i := 1) rfl)) (fun _ h9 => h9) rfl dX11_count_73 ?_
    refine va_get (D := D) (ci := 9) (v := .int (unw 4 0)) (C := RX9) (T := TX9) (N := 8) hx hb hts hinX9 hown hK.1 hP 4 rfl rfl 4 (by decide) (hts (.fieldLink RX11 158 "RopeScale$Walk" "told" "I") (List.mem_of_getElem? (i := 3) rfl)) (fun _ h9 => h9) rfl dX11_count_76 ?_
    exact retR hx hb hr hlocks hS (Option.some.inj hf) dX11_count_79
  replace hf := ifn c2 hf
  by_cases c3 : p1 = 2
  · replace hf := ifp c3 hf
    refine lv_tableIn (off := 79) (tgt := 80) hx hb dX11_count_1 (by rw [c3]; decide) (by rw [c3]; decide) (by rw [c3]; rfl) (by decide) ?_
    refine lv_aload_n hx hb dX11_count_80 rfl (lv_at hl 0 rfl) ?_
    refine va_get (D := D) (ci := 11) (v := .ref (a 2)) (C := RX11) (T := TX11) (N := 16) hx hb hts hinX11 hown hK.1 hP 0 rfl rfl 2 (by decide) (hts (.fieldLink RX11 28 "RopeScale" "now" "LRopeScale$Walk;") (List.mem_of_getElem? (i := 1) rfl)) (fun _ h9 => h9) rfl dX11_count_81 ?_
    refine va_get (D := D) (ci := 9) (v := .int (unw 5 0)) (C := RX9) (T := TX9) (N := 8) hx hb hts hinX9 hown hK.1 hP 4 rfl rfl 5 (by decide) (hts (.fieldLink RX11 196 "RopeScale$Walk" "over" "I") (List.mem_of_getElem? (i := 4) rfl)) (fun _ h9 => h9) rfl dX11_count_84 ?_
    exact retR hx hb hr hlocks hS (Option.some.inj hf) dX11_count_87
  replace hf := ifn c3 hf
  by_cases c4 : p1 = 3
  · replace hf := ifp c4 hf
    refine lv_tableIn (off := 87) (tgt := 88) hx hb dX11_count_1 (by rw [c4]; decide) (by rw [c4]; decide) (by rw [c4]; rfl) (by decide) ?_
    refine lv_aload_n hx hb dX11_count_88 rfl (lv_at hl 0 rfl) ?_
    refine va_get (D := D) (ci := 11) (v := .ref (a 13)) (C := RX11) (T := TX11) (N := 16) hx hb hts hinX11 hown hK.1 hP 0 rfl rfl 13 (by decide) (hts (.fieldLink RX11 95 "RopeScale" "told" "LRopeScale$Weighings;") (List.mem_of_getElem? (i := 5) rfl)) (fun _ h9 => h9) rfl dX11_count_89 ?_
    refine va_get (D := D) (ci := 10) (v := .int (uto 3 0)) (C := RX10) (T := TX10) (N := 4) hx hb hts hinX10 hown hK.1 hP 57 rfl rfl 3 (by decide) (hts (.fieldLink RX11 172 "RopeScale$Weighings" "lines" "I") (List.mem_of_getElem? (i := 6) rfl)) (fun _ h9 => h9) rfl dX11_count_92 ?_
    exact retR hx hb hr hlocks hS (Option.some.inj hf) dX11_count_95
  replace hf := ifn c4 hf
  by_cases c5 : p1 = 4
  · replace hf := ifp c5 hf
    refine lv_tableIn (off := 95) (tgt := 96) hx hb dX11_count_1 (by rw [c5]; decide) (by rw [c5]; decide) (by rw [c5]; rfl) (by decide) ?_
    refine lv_aload_n hx hb dX11_count_96 rfl (lv_at hl 0 rfl) ?_
    refine va_get (D := D) (ci := 11) (v := .ref (a 11)) (C := RX11) (T := TX11) (N := 16) hx hb hts hinX11 hown hK.1 hP 0 rfl rfl 11 (by decide) (hts (.fieldLink RX11 85 "RopeScale" "valid" "LRopeScale$Law;") (List.mem_of_getElem? (i := 7) rfl)) (fun _ h9 => h9) rfl dX11_count_97 ?_
    refine va_get (D := D) (ci := 2) (v := .int (uva 4 0)) (C := RX2) (T := TX2) (N := 10) hx hb hts hinX2 hown hK.1 hP 39 rfl rfl 4 (by decide) (hts (.fieldLink RX11 155 "RopeScale$Law" "rules" "I") (List.mem_of_getElem? (i := 8) rfl)) (fun _ h9 => h9) rfl dX11_count_100 ?_
    exact retR hx hb hr hlocks hS (Option.some.inj hf) dX11_count_103
  replace hf := ifn c5 hf
  by_cases c6 : p1 = 5
  · replace hf := ifp c6 hf
    refine lv_tableIn (off := 103) (tgt := 104) hx hb dX11_count_1 (by rw [c6]; decide) (by rw [c6]; decide) (by rw [c6]; rfl) (by decide) ?_
    refine lv_aload_n hx hb dX11_count_104 rfl (lv_at hl 0 rfl) ?_
    refine va_get (D := D) (ci := 11) (v := .ref (a 0)) (C := RX11) (T := TX11) (N := 16) hx hb hts hinX11 hown hK.1 hP 0 rfl rfl 0 (by decide) (hts (.fieldLink RX11 10 "RopeScale" "tape" "LRopeScale$Tape;") (List.mem_of_getElem? (i := 9) rfl)) (fun _ h9 => h9) rfl dX11_count_105 ?_
    refine va_get (D := D) (ci := 8) (v := .int (utp 1 0)) (C := RX8) (T := TX8) (N := 2) hx hb hts hinX8 hown hK.1 hP 1 rfl rfl 1 (by decide) (hts (.fieldLink RX11 133 "RopeScale$Tape" "length" "I") (List.mem_of_getElem? (i := 10) rfl)) (fun _ h9 => h9) rfl dX11_count_108 ?_
    exact retR hx hb hr hlocks hS (Option.some.inj hf) dX11_count_111
  replace hf := ifn c6 hf
  by_cases c7 : p1 = 6
  · replace hf := ifp c7 hf
    refine lv_tableIn (off := 111) (tgt := 112) hx hb dX11_count_1 (by rw [c7]; decide) (by rw [c7]; decide) (by rw [c7]; rfl) (by decide) ?_
    refine lv_aload_n hx hb dX11_count_112 rfl (lv_at hl 0 rfl) ?_
    refine va_get (D := D) (ci := 11) (v := .ref (a 2)) (C := RX11) (T := TX11) (N := 16) hx hb hts hinX11 hown hK.1 hP 0 rfl rfl 2 (by decide) (hts (.fieldLink RX11 28 "RopeScale" "now" "LRopeScale$Walk;") (List.mem_of_getElem? (i := 1) rfl)) (fun _ h9 => h9) rfl dX11_count_113 ?_
    refine va_get (D := D) (ci := 9) (v := .int (unw 7 0)) (C := RX9) (T := TX9) (N := 8) hx hb hts hinX9 hown hK.1 hP 4 rfl rfl 7 (by decide) (hts (.fieldLink RX11 327 "RopeScale$Walk" "x" "I") (List.mem_of_getElem? (i := 11) rfl)) (fun _ h9 => h9) rfl dX11_count_116 ?_
    exact retR hx hb hr hlocks hS (Option.some.inj hf) dX11_count_119
  replace hf := ifn c7 hf
  by_cases c8 : p1 = 7
  · replace hf := ifp c8 hf
    refine lv_tableIn (off := 119) (tgt := 120) hx hb dX11_count_1 (by rw [c8]; decide) (by rw [c8]; decide) (by rw [c8]; rfl) (by decide) ?_
    refine lv_aload_n hx hb dX11_count_120 rfl (lv_at hl 0 rfl) ?_
    refine va_get (D := D) (ci := 11) (v := .ref (a 5)) (C := RX11) (T := TX11) (N := 16) hx hb hts hinX11 hown hK.1 hP 0 rfl rfl 5 (by decide) (hts (.fieldLink RX11 41 "RopeScale" "rope" "LRopeScale$Rope;") (List.mem_of_getElem? (i := 12) rfl)) (fun _ h9 => h9) rfl dX11_count_121 ?_
    refine va_get (D := D) (ci := 7) (v := .int (uro 0 0)) (C := RX7) (T := TX7) (N := 6) hx hb hts hinX7 hown hK.1 hP 19 rfl rfl 0 (by decide) (hts (.fieldLink RX11 118 "RopeScale$Rope" "tolerance" "I") (List.mem_of_getElem? (i := 13) rfl)) (fun _ h9 => h9) rfl dX11_count_124 ?_
    exact retR hx hb hr hlocks hS (Option.some.inj hf) dX11_count_127
  replace hf := ifn c8 hf
  by_cases c9 : p1 = 8
  · replace hf := ifp c9 hf
    refine lv_tableIn (off := 127) (tgt := 128) hx hb dX11_count_1 (by rw [c9]; decide) (by rw [c9]; decide) (by rw [c9]; rfl) (by decide) ?_
    refine lv_aload_n hx hb dX11_count_128 rfl (lv_at hl 0 rfl) ?_
    refine va_get (D := D) (ci := 11) (v := .ref (a 5)) (C := RX11) (T := TX11) (N := 16) hx hb hts hinX11 hown hK.1 hP 0 rfl rfl 5 (by decide) (hts (.fieldLink RX11 41 "RopeScale" "rope" "LRopeScale$Rope;") (List.mem_of_getElem? (i := 12) rfl)) (fun _ h9 => h9) rfl dX11_count_129 ?_
    refine va_get (D := D) (ci := 7) (v := .int (uro 1 0)) (C := RX7) (T := TX7) (N := 6) hx hb hts hinX7 hown hK.1 hP 19 rfl rfl 1 (by decide) (hts (.fieldLink RX11 122 "RopeScale$Rope" "toe" "I") (List.mem_of_getElem? (i := 14) rfl)) (fun _ h9 => h9) rfl dX11_count_132 ?_
    exact retR hx hb hr hlocks hS (Option.some.inj hf) dX11_count_135
  replace hf := ifn c9 hf
  by_cases c10 : p1 = 9
  · replace hf := ifp c10 hf
    refine lv_tableIn (off := 135) (tgt := 136) hx hb dX11_count_1 (by rw [c10]; decide) (by rw [c10]; decide) (by rw [c10]; rfl) (by decide) ?_
    refine lv_aload_n hx hb dX11_count_136 rfl (lv_at hl 0 rfl) ?_
    refine va_get (D := D) (ci := 11) (v := .ref (a 13)) (C := RX11) (T := TX11) (N := 16) hx hb hts hinX11 hown hK.1 hP 0 rfl rfl 13 (by decide) (hts (.fieldLink RX11 95 "RopeScale" "told" "LRopeScale$Weighings;") (List.mem_of_getElem? (i := 5) rfl)) (fun _ h9 => h9) rfl dX11_count_137 ?_
    obtain ⟨z11, hz11, hf⟩ := bnd hf
    refine cVR (As := []) (rest := []) ⟨hx, hb, hml, hown, hts⟩ (mX10_letters l D T (a 13) (aa 15) uto z11 hz11) (cwV 0 hts gX11_count_X10_letters rfl rfl rfl (by decide +kernel) ⟨Nat.le_of_ble_eq_true rfl, Nat.le_of_ble_eq_true rfl⟩) (va_recv hK.1 hP (ci := 10) (q0 := 57) rfl rfl) (hP.sub (ws' := kX10 T (a 13) (aa 15) uto) [57, 58, 59, 60] rfl) hK rfl hl.1 rfl (Nat.le_of_ble_eq_true rfl) dX11_count_140 ⟨Nat.le_of_ble_eq_true rfl, Nat.le_of_ble_eq_true rfl⟩ hP hS (fun H locs hP hS => ?_)
    exact retR hx hb hr hlocks hS (Option.some.inj hf) dX11_count_143
  replace hf := ifn c10 hf
  by_cases c12 : p1 = 10
  · replace hf := ifp c12 hf
    refine lv_tableIn (off := 143) (tgt := 144) hx hb dX11_count_1 (by rw [c12]; decide) (by rw [c12]; decide) (by rw [c12]; rfl) (by decide) ?_
    refine lv_aload_n hx hb dX11_count_144 rfl (lv_at hl 0 rfl) ?_
    refine va_get (D := D) (ci := 11) (v := .ref (a 2)) (C := RX11) (T := TX11) (N := 16) hx hb hts hinX11 hown hK.1 hP 0 rfl rfl 2 (by decide) (hts (.fieldLink RX11 28 "RopeScale" "now" "LRopeScale$Walk;") (List.mem_of_getElem? (i := 1) rfl)) (fun _ h9 => h9) rfl dX11_count_145 ?_
    refine lv_aload_n hx hb dX11_count_148 rfl (lv_at hl 0 rfl) ?_
    refine va_get (D := D) (ci := 11) (v := .ref (a 2)) (C := RX11) (T := TX11) (N := 16) hx hb hts hinX11 hown hK.1 hP 0 rfl rfl 2 (by decide) (hts (.fieldLink RX11 28 "RopeScale" "now" "LRopeScale$Walk;") (List.mem_of_getElem? (i := 1) rfl)) (fun _ h9 => h9) rfl dX11_count_149 ?_
    refine va_get (D := D) (ci := 9) (v := .ref ((aa 3) 2)) (C := RX9) (T := TX9) (N := 8) hx hb hts hinX9 hown hK.1 hP 4 rfl rfl 2 (by decide) (hts (.fieldLink RX11 339 "RopeScale$Walk" "baths" "[I") (List.mem_of_getElem? (i := 15) rfl)) (fun _ h9 => h9) rfl dX11_count_152 ?_
    obtain ⟨z13, hz13, hf⟩ := bnd hf
    refine cVR (As := [.ref ((aa 3) 2)]) (rest := []) ⟨hx, hb, hml, hown, hts⟩ (mX9_total l D T (a 2) (aa 3) unw ((aa 3) 2) (unw 2) z13 hz13) (cwV 1 hts gX11_count_X9_total rfl rfl rfl (by decide +kernel) ⟨Nat.le_of_ble_eq_true rfl, Nat.le_of_ble_eq_true rfl⟩) (va_recv hK.1 hP (ci := 9) (q0 := 4) rfl rfl) (hP.sub (ws' := oX9 T (a 2) (aa 3) unw ++ [((aa 3) 2, .inl (T.1, 16, .inl (unw 2)))]) [4, 7] rfl) hK rfl hl.1 rfl (Nat.le_of_ble_eq_true rfl) dX11_count_155 ⟨Nat.le_of_ble_eq_true rfl, Nat.le_of_ble_eq_true rfl⟩ hP hS (fun H locs hP hS => ?_)
    exact retR hx hb hr hlocks hS (Option.some.inj hf) dX11_count_158
  replace hf := ifn c12 hf
  by_cases c14 : p1 = 11
  · replace hf := ifp c14 hf
    refine lv_tableIn (off := 158) (tgt := 159) hx hb dX11_count_1 (by rw [c14]; decide) (by rw [c14]; decide) (by rw [c14]; rfl) (by decide) ?_
    refine lv_aload_n hx hb dX11_count_159 rfl (lv_at hl 0 rfl) ?_
    refine va_get (D := D) (ci := 11) (v := .ref (a 2)) (C := RX11) (T := TX11) (N := 16) hx hb hts hinX11 hown hK.1 hP 0 rfl rfl 2 (by decide) (hts (.fieldLink RX11 28 "RopeScale" "now" "LRopeScale$Walk;") (List.mem_of_getElem? (i := 1) rfl)) (fun _ h9 => h9) rfl dX11_count_160 ?_
    refine lv_aload_n hx hb dX11_count_163 rfl (lv_at hl 0 rfl) ?_
    refine va_get (D := D) (ci := 11) (v := .ref (a 2)) (C := RX11) (T := TX11) (N := 16) hx hb hts hinX11 hown hK.1 hP 0 rfl rfl 2 (by decide) (hts (.fieldLink RX11 28 "RopeScale" "now" "LRopeScale$Walk;") (List.mem_of_getElem? (i := 1) rfl)) (fun _ h9 => h9) rfl dX11_count_164 ?_
    refine va_get (D := D) (ci := 9) (v := .ref ((aa 3) 0)) (C := RX9) (T := TX9) (N := 8) hx hb hts hinX9 hown hK.1 hP 4 rfl rfl 0 (by decide) (hts (.fieldLink RX11 211 "RopeScale$Walk" "weight" "[I") (List.mem_of_getElem? (i := 16) rfl)) (fun _ h9 => h9) rfl dX11_count_167 ?_
    obtain ⟨z15, hz15, hf⟩ := bnd hf
    refine cVR (As := [.ref ((aa 3) 0)]) (rest := []) ⟨hx, hb, hml, hown, hts⟩ (mX9_total l D T (a 2) (aa 3) unw ((aa 3) 0) (unw 0) z15 hz15) (cwV 1 hts gX11_count_X9_total rfl rfl rfl (by decide +kernel) ⟨Nat.le_of_ble_eq_true rfl, Nat.le_of_ble_eq_true rfl⟩) (va_recv hK.1 hP (ci := 9) (q0 := 4) rfl rfl) (hP.sub (ws' := oX9 T (a 2) (aa 3) unw ++ [((aa 3) 0, .inl (T.1, 16, .inl (unw 0)))]) [4, 5] rfl) hK rfl hl.1 rfl (Nat.le_of_ble_eq_true rfl) dX11_count_170 ⟨Nat.le_of_ble_eq_true rfl, Nat.le_of_ble_eq_true rfl⟩ hP hS (fun H locs hP hS => ?_)
    exact retR hx hb hr hlocks hS (Option.some.inj hf) dX11_count_173
  replace hf := ifn c14 hf
  refine lv_tableOut (tgt := 174) hx hb dX11_count_1 (sw_out (x := p1) 12 (by decide) (fun k9 hk9 => match k9, hk9 with | 0, _ => fun e9 => c1 (e9.trans (by decide)) | 1, _ => fun e9 => c2 (e9.trans (by decide)) | 2, _ => fun e9 => c3 (e9.trans (by decide)) | 3, _ => fun e9 => c4 (e9.trans (by decide)) | 4, _ => fun e9 => c5 (e9.trans (by decide)) | 5, _ => fun e9 => c6 (e9.trans (by decide)) | 6, _ => fun e9 => c7 (e9.trans (by decide)) | 7, _ => fun e9 => c8 (e9.trans (by decide)) | 8, _ => fun e9 => c9 (e9.trans (by decide)) | 9, _ => fun e9 => c10 (e9.trans (by decide)) | 10, _ => fun e9 => c12 (e9.trans (by decide)) | 11, _ => fun e9 => c14 (e9.trans (by decide)) | k9 + 12, hk9 => absurd hk9 (by omega))) (by decide) ?_
  refine lv_iconst (v := (-1)) hx hb dX11_count_174 (by decide) ?_
  exact retR hx hb hr hlocks hS (Option.some.inj hf) dX11_count_175
