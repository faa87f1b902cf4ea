def fX10_couldBeOdd_J40 (u : St) (lp10 : Int32 → Int32 → Int32 → Int32 → Option (Int32)) (x1 : Int32) (x2 : Int32) (x3 : Int32) (x4 : Int32) (y0 : Int32) (y1 : Int32) : Option (Int32) := (fX10_agree u y1 y0).bind fun z1 => if z1 = 0 then lett (x4 + 1) fun t3 => lp10 x1 x2 x3 t3 else lett (x3 ||| (jshl 1 x4)) fun t4 => lett (x4 + 1) fun t5 => lp10 x1 x2 t4 t5
def bX10_couldBeOdd_L10 (u : St)  (lp10 : Int32 → Int32 → Int32 → Int32 → Option (Int32)) (x1 : Int32) (x2 : Int32) (x3 : Int32) (x4 : Int32) : Option (Int32) := if 16 ≤ x4 then some x3 else lett (fX11_has x2 x4) fun z7 => if z7 = 0 then lett (x4 + 1) fun t9 => lp10 x1 x2 x3 t9 else if x1 = 0 then fX10_couldBeOdd_J40 u lp10 x1 x2 x3 x4 (-1) (jshl 1 x4) else fX10_couldBeOdd_J40 u lp10 x1 x2 x3 x4 1 (jshl 1 x4)
def fX10_couldBeOdd_L10 (u : St)  : Nat → Int32 → Int32 → Int32 → Int32 → Option (Int32)
  | 0, _, _, _, _ => none
  | n + 1, x1, x2, x3, x4 => bX10_couldBeOdd_L10 u (fX10_couldBeOdd_L10 u n) x1 x2 x3 x4
def fX10_couldBeOdd  (u : St) (p1 : Int32) : Option (Int32) := (fX10_letters u).bind fun z11 => fX10_couldBeOdd_L10 u FU p1 z11 0 0
set_option maxHeartbeats 4000000 in
set_option maxRecDepth 100000 in
theorem mX10_couldBeOdd (l : Launch) (D : va_G) (T : Ty3) (h : Nat) (a : Nat → Nat) (u : St) (p1 : Int32) (res : Int32) (hf : fX10_couldBeOdd u p1 = some res) : Met l yX10_couldBeOdd wsX10_couldBeOdd ({ frames := 3, cells := 0, slots := 0, locals := 66 }) (PcR D T (kX10 T h a u) [.ref h, .int p1]) (QR res) 0 0 noA := by
  refine Met.ofW (cc := cX10_couldBeOdd) (maxL := 5) (ret := (some .int)) (by decide) rfl ?_
  intro p e s m args below meth c s₁ B hml hv
  obtain ⟨rfl, hP, hK⟩ := hv
  have hx := B.exec
  have hb := B.bytes
  have hr := B.returns
  have hts := atoms_spec (ws := wsX10_couldBeOdd) B.pre
  have hown : s.vm.findClass RX10 = some m.cls := findClass_of_methodNamed B.named
  have hlocks := B.notSynchronized
  have hS : va_S noA s.heap s.heap [] := va_S.rf
  have hinX10 : ∀ w ∈ u_ws RX10 TX10 4, w ∈ wsX10_couldBeOdd := fun w h => List.mem_cons_of_mem _ (List.mem_append_right _ h)
  have hl := lv_entry ([.ref h, .int p1]) (n := 5) (Nat.le_of_ble_eq_true rfl)
  rw [lg_entry_eq]
  generalize (lg_sl ([.ref h, .int p1]) ++ List.replicate (5 - (lg_sl ([.ref h, .int p1])).length) Slot.unset).toArray = ls at hl ⊢
  have hl : lv_has ls 5 [(0, .ref h), (1, .int p1)] := hl
  have L10 : ∀ (n10 : Nat), ∀ (x1 : Int32) (x2 : Int32) (x3 : Int32) (x4 : Int32) (H : Heap) (locs : List Loc) (ls : Array Slot), fX10_couldBeOdd_L10 u n10 x1 x2 x3 x4 = some res → va_P D vwCl (kX10 T h a u) H → va_S noA s.heap H locs → lv_has ls 5 [(0, .ref h), (1, .int x1), (2, .int x2), (3, .int x3), (4, .int x4)] → W p l e (headSpec wsX10_couldBeOdd ({ frames := 3, cells := 0, slots := 0, locals := 66 })).room s m ([.ref h, .int p1] : List Value).toArray below meth c H locs 0 0 (MQ below (QR res) ([.ref h, .int p1] : List Value).toArray s 0 0 noA) (F0 m 10 ls []) := by
    intro n10
    induction n10 with
    | zero => intro x1 x2 x3 x4 H locs ls hf; exact nns hf
    | succ n10 ih10 =>
      have J40 : ∀ (x1 : Int32) (x2 : Int32) (x3 : Int32) (x4 : Int32) (y0 : Int32) (y1 : Int32) (H : Heap) (locs : List Loc) (ls : Array Slot), fX10_couldBeOdd_J40 u (fX10_couldBeOdd_L10 u n10) x1 x2 x3 x4 y0 y1 = some res → va_P D vwCl (kX10 T h a u) H → va_S noA s.heap H locs → lv_has ls 5 [(0, .ref h), (1, .int x1), (2, .int x2), (3, .int x3), (4, .int x4)] → W p l e (headSpec wsX10_couldBeOdd ({ frames := 3, cells := 0, slots := 0, locals := 66 })).room s m ([.ref h, .int p1] : List Value).toArray below meth c H locs 0 0 (MQ below (QR res) ([.ref h, .int p1] : List Value).toArray s 0 0 noA) (F0 m 40 ls [.int y0, .int y1, .ref h]) := by
        intro x1 x2 x3 x4 y0 y1 H locs ls hf hP hS hl
        unfold fX10_couldBeOdd_J40 at hf
        obtain ⟨z1, hz1, hf⟩ := bnd hf
        refine cVR (As := [.int y1, .int y0]) (rest := []) ⟨hx, hb, hml, hown, hts⟩ (mX10_agree l D T h a u y1 y0 z1 hz1) (cwV 2 hts gX10_couldBeOdd_X10_agree rfl rfl rfl (by decide +kernel) ⟨Nat.le_of_ble_eq_true rfl, Nat.le_of_ble_eq_true rfl⟩) (va_recv hK.1 hP (ci := 10) (q0 := 0) rfl rfl) hP hK rfl hl.1 rfl (Nat.le_of_ble_eq_true rfl) dX10_couldBeOdd_40 ⟨Nat.le_of_ble_eq_true rfl, Nat.le_of_ble_eq_true rfl⟩ hP hS (fun H locs hP hS => ?_)
        refine lv_if_eq (tgt := 53) hx hb dX10_couldBeOdd_43 (by decide) (fun c2 => ?_) (fun c2 => ?_)
        · replace hf := ifp c2 hf
          obtain ⟨t3, et3, hf⟩ := lett_e hf
          refine lv_iinc (v := t3) (lv' := [(4, .int t3), (0, .ref h), (1, .int x1), (2, .int x2), (3, .int x3)]) hx hb dX10_couldBeOdd_53 hl (k := 4) rfl (by rw [et3]; rfl) (by decide) rfl (fun ls hl => ?_)
          refine lv_goto (tgt := 10) hx hb dX10_couldBeOdd_56 (by decide) ?_
          exact ih10 x1 x2 x3 t3 _ _ _ hf hP hS (lv_sub hl [1, 2, 3, 4, 0] rfl)
        replace hf := ifn c2 hf
        refine lv_iload_n hx hb dX10_couldBeOdd_46 rfl (lv_at hl 3 rfl) ?_
        refine lv_iconst (v := 1) hx hb dX10_couldBeOdd_47 (by decide) ?_
        refine lv_iload hx hb dX10_couldBeOdd_48 (lv_at hl 4 rfl) ?_
        refine lv_ishl hx hb dX10_couldBeOdd_50 ?_
        refine lv_ior hx hb dX10_couldBeOdd_51 ?_
        obtain ⟨t4, et4, hf⟩ := lett_e hf
        refine lv_eqi et4 ?_
        refine lv_istore_n (lv' := [(3, .int t4), (0, .ref h), (1, .int x1), (2, .int x2), (4, .int x4)]) hx hb dX10_couldBeOdd_52 rfl hl (by decide) rfl (fun ls hl => ?_)
        obtain ⟨t5, et5, hf⟩ := lett_e hf
        refine lv_iinc (v := t5) (lv' := [(4, .int t5), (3, .int t4), (0, .ref h), (1, .int x1), (2, .int x2)]) hx hb dX10_couldBeOdd_53 hl (k := 4) rfl (by rw [et5]; rfl) (by decide) rfl (fun ls hl => ?_)
        refine lv_goto (tgt := 10) hx hb dX10_couldBeOdd_56 (by decide) ?_
        exact ih10 x1 x2 t4 t5 _ _ _ hf hP hS (lv_sub hl [2, 3, 4, 1, 0] rfl)
      intro x1 x2 x3 x4 H locs ls hf hP hS hl
      replace hf : bX10_couldBeOdd_L10 u (fX10_couldBeOdd_L10 u n10) x1 x2 x3 x4 = some res := hf
      unfold bX10_couldBeOdd_L10 at hf
      refine lv_iload hx hb dX10_couldBeOdd_10 (lv_at hl 4 rfl) ?_
      refine lv_bipush (v := 16) hx hb dX10_couldBeOdd_12 (by decide) ?_
      refine lv_icmp_ge (tgt := 59) hx hb dX10_couldBeOdd_14 (by decide) (fun c6 => ?_) (fun c6 => ?_)
      · replace hf := ifp c6 hf
        refine lv_iload_n hx hb dX10_couldBeOdd_59 rfl (lv_at hl 3 rfl) ?_
        exact retR hx hb hr hlocks hS (Option.some.inj hf) dX10_couldBeOdd_60
      replace hf := ifn c6 hf
      refine lv_iload_n hx hb dX10_couldBeOdd_17 rfl (lv_at hl 2 rfl) ?_
      refine lv_iload hx hb dX10_couldBeOdd_18 (lv_at hl 4 rfl) ?_
      obtain ⟨z7, hz7, hf⟩ := lett_e hf
      refine cNR (As := [.int x2, .int x4]) (rest := []) ⟨hx, hb, hml, hown, hts⟩ (mX11_has l D T x2 x4 z7 hz7.symm) ⟨va_cnB (host := "RopeScale") (index := 56) 2 hts gX10_couldBeOdd_X11_has_n56 rfl rfl rfl (hK.2 _ (List.mem_of_getElem? (i := 15) rfl)) (hts (.initialized RX11) (List.mem_of_getElem? (i := 10) rfl)) (by decide +kernel) ⟨Nat.le_of_ble_eq_true rfl, Nat.le_of_ble_eq_true rfl⟩, (hts (.static yX11_has) (List.mem_of_getElem? (i := 9) rfl)), trivial⟩ P0 hK rfl hl.1 rfl (Nat.le_of_ble_eq_true rfl) dX10_couldBeOdd_20 ⟨Nat.le_of_ble_eq_true rfl, Nat.le_of_ble_eq_true rfl⟩ hP hS (fun H locs hP hS => ?_)
      refine lv_if_eq (tgt := 53) hx hb dX10_couldBeOdd_23 (by decide) (fun c8 => ?_) (fun c8 => ?_)
      · replace hf := ifp c8 hf
        obtain ⟨t9, et9, hf⟩ := lett_e hf
        refine lv_iinc (v := t9) (lv' := [(4, .int t9), (0, .ref h), (1, .int x1), (2, .int x2), (3, .int x3)]) hx hb dX10_couldBeOdd_53 hl (k := 4) rfl (by rw [et9]; rfl) (by decide) rfl (fun ls hl => ?_)
        refine lv_goto (tgt := 10) hx hb dX10_couldBeOdd_56 (by decide) ?_
        exact ih10 x1 x2 x3 t9 _ _ _ hf hP hS (lv_sub hl [1, 2, 3, 4, 0] rfl)
      replace hf := ifn c8 hf
      refine lv_aload_n hx hb dX10_couldBeOdd_26 rfl (lv_at hl 0 rfl) ?_
      refine lv_iconst (v := 1) hx hb dX10_couldBeOdd_27 (by decide) ?_
      refine lv_iload hx hb dX10_couldBeOdd_28 (lv_at hl 4 rfl) ?_
      refine lv_ishl hx hb dX10_couldBeOdd_30 ?_
      refine lv_iload_n hx hb dX10_couldBeOdd_31 rfl (lv_at hl 1 rfl) ?_
      refine lv_if_eq (tgt := 39) hx hb dX10_couldBeOdd_32 (by decide) (fun c10 => ?_) (fun c10 => ?_)
      · replace hf := ifp c10 hf
        refine lv_iconst (v := (-1)) hx hb dX10_couldBeOdd_39 (by decide) ?_
        exact J40 x1 x2 x3 x4 (-1) (jshl 1 x4) _ _ _ hf hP hS (lv_sub hl [0, 1, 2, 3, 4] rfl)
      replace hf := ifn c10 hf
      refine lv_iconst (v := 1) hx hb dX10_couldBeOdd_35 (by decide) ?_
      refine lv_goto (tgt := 40) hx hb dX10_couldBeOdd_36 (by decide) ?_
      exact J40 x1 x2 x3 x4 1 (jshl 1 x4) _ _ _ hf hP hS (lv_sub hl [0, 1, 2, 3, 4] rfl)
  unfold fX10_couldBeOdd at hf
  refine lv_aload_n hx hb dX10_couldBeOdd_0 rfl (lv_at hl 0 rfl) ?_
  obtain ⟨z11, hz11, hf⟩ := bnd hf
  refine cVR (As := []) (rest := []) ⟨hx, hb, hml, hown, hts⟩ (mX10_letters l D T h a u z11 hz11) (cwV 0 hts gX10_couldBeOdd_X10_letters rfl rfl rfl (by decide +kernel) ⟨Nat.le_of_ble_eq_true rfl, Nat.le_of_ble_eq_true rfl⟩) (va_recv hK.1 hP (ci := 10) (q0 := 0) rfl rfl) hP hK rfl hl.1 rfl (Nat.le_of_ble_eq_true rfl) dX10_couldBeOdd_1 ⟨Nat.le_of_ble_eq_true rfl, Nat.le_of_ble_eq_true rfl⟩ hP hS (fun H locs hP hS => ?_)
  refine lv_istore_n (lv' := [(2, .int z11), (0, .ref h), (1, .int p1)]) hx hb dX10_couldBeOdd_4 rfl hl (by decide) rfl (fun ls hl => ?_)
  refine lv_iconst (v := 0) hx hb dX10_couldBeOdd_5 (by decide) ?_
  refine lv_istore_n (lv' := [(3, .int 0), (2, .int z11), (0, .ref h), (1, .int p1)]) hx hb dX10_couldBeOdd_6 rfl hl (by decide) rfl (fun ls hl => ?_)
  refine lv_iconst (v := 0) hx hb dX10_couldBeOdd_7 (by decide) ?_
  refine lv_istore (lv' := [(4, .int 0), (3, .int 0), (2, .int z11), (0, .ref h), (1, .int p1)]) hx hb dX10_couldBeOdd_8 hl (by decide) rfl (fun ls hl => ?_)
  exact L10 FU p1 z11 0 0 _ _ _ hf hP hS (lv_sub hl [3, 4, 2, 1, 0] rfl)
def fX10_couldBeAlike  (u : St)  : Option (Int32) := (fX10_agree u 0 0).bind fun z1 => zb z1 <| some z1
set_option maxHeartbeats 4000000 in
set_option maxRecDepth 100000 in
theorem mX10_couldBeAlike (l : Launch) (D : va_G) (T : Ty3) (h : Nat) (a : Nat → Nat) (u : St)  (res : Int32) (hf : fX10_couldBeAlike u = some res) : Met l yX10_couldBeAlike wsX10_couldBeAlike ({ frames := 3, cells := 0, slots := 0, locals := 66 }) (PcR D T (kX10 T h a u) [.ref h]) (QR res) 0 0 noA := by
  refine Met.ofW (cc := cX10_couldBeAlike) (maxL := 1) (ret := (some .boolean)) (by decide) rfl ?_
  intro p e s m args below meth c s₁ B hml hv
  obtain ⟨rfl, hP, hK⟩ := hv
  have hx := B.exec
  have hb := B.bytes
  have hr := B.returns
  have hts := atoms_spec (ws := wsX10_couldBeAlike) B.pre
  have hown : s.vm.findClass RX10 = some m.cls := findClass_of_methodNamed B.named
  have hlocks := B.notSynchronized
  have hS : va_S noA s.heap s.heap [] := va_S.rf
  have hinX10 : ∀ w ∈ u_ws RX10 TX10 4, w ∈ wsX10_couldBeAlike := fun w h => List.mem_cons_of_mem _ (List.mem_append_right _ h)
  have hl := lv_entry ([.ref h]) (n := 1) (Nat.le_of_ble_eq_true rfl)
  rw [lg_entry_eq]
  generalize (lg_sl ([.ref h]) ++ List.replicate (1 - (lg_sl ([.ref h])).length) Slot.unset).toArray = ls at hl ⊢
  have hl : lv_has ls 1 [(0, .ref h)] := hl
  unfold fX10_couldBeAlike at hf
  refine lv_aload_n hx hb dX10_couldBeAlike_0 rfl (lv_at hl 0 rfl) ?_
  refine lv_iconst (v := 0) hx hb dX10_couldBeAlike_1 (by decide) ?_
  refine lv_iconst (v := 0) hx hb dX10_couldBeAlike_2 (by decide) ?_
  obtain ⟨z1, hz1, hf⟩ := bnd hf
  refine cVR (As := [.int 0, .int 0]) (rest := []) ⟨hx, hb, hml, hown, hts⟩ (mX10_agree l D T h a u 0 0 z1 hz1) (cwV 2 hts gX10_couldBeAlike_X10_agree rfl rfl rfl (by decide +kernel) ⟨Nat.le_of_ble_eq_true rfl, Nat.le_of_ble_eq_true rfl⟩) (va_recv hK.1 hP (ci := 10) (q0 := 0) rfl rfl) hP hK rfl hl.1 rfl (Nat.le_of_ble_eq_true rfl) dX10_couldBeAlike_3 ⟨Nat.le_of_ble_eq_true rfl, Nat.le_of_ble_eq_true rfl⟩ hP hS (fun H locs hP hS => ?_)
  obtain ⟨hz9, hf⟩ := zb_e hf
  exact retRz hx hb hr hlocks hS hz9 (Option.some.inj hf) dX10_couldBeAlike_6
