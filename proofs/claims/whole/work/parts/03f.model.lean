def bX12_lowest_L2   (lp2 : Int32 → Int32 → Option (Int32)) (x0 : Int32) (x1 : Int32) : Option (Int32) := lett (fX12_has x0 x1) fun z1 => if z1 = 0 then lett (x1 + 1) fun t3 => lp2 x0 t3 else some x1
def fX12_lowest_L2   : Nat → Int32 → Int32 → Option (Int32)
  | 0, _, _ => none
  | n + 1, x0, x1 => bX12_lowest_L2  (fX12_lowest_L2  n) x0 x1
def fX12_lowest   (p0 : Int32) : Option (Int32) := fX12_lowest_L2 FU p0 0
set_option maxHeartbeats 4000000 in
set_option maxRecDepth 100000 in
theorem mX12_lowest (l : Launch) (D : va_G) (T : Ty3)  (p0 : Int32) (res : Int32) (hf : fX12_lowest p0 = some res) : Met l yX12_lowest wsX12_lowest ({ frames := 1, cells := 0, slots := 0, locals := 21 }) (PcR D T ([]) [.int p0]) (QR res) 0 0 noA := by
  refine Met.ofW (cc := cX12_lowest) (maxL := 2) (ret := (some .int)) (by decide) rfl ?_
  intro p e s m args below meth c s₁ B hml hv
  obtain ⟨rfl, hP, hK⟩ := hv
  have hx := B.exec
  have hb := B.bytes
  have hr := B.returns
  have hts := atoms_spec (ws := wsX12_lowest) B.pre
  have hown : s.vm.findClass RX12 = some m.cls := findClass_of_methodNamed B.named
  have hlocks := B.notSynchronized
  have hS : va_S noA s.heap s.heap [] := va_S.rf
  have hl := lv_entry ([.int p0]) (n := 2) (Nat.le_of_ble_eq_true rfl)
  rw [lg_entry_eq]
  generalize (lg_sl ([.int p0]) ++ List.replicate (2 - (lg_sl ([.int p0])).length) Slot.unset).toArray = ls at hl ⊢
  have hl : lv_has ls 2 [(0, .int p0)] := hl
  have L2 : ∀ (n2 : Nat), ∀ (x0 : Int32) (x1 : Int32) (H : Heap) (locs : List Loc) (ls : Array Slot), fX12_lowest_L2  n2 x0 x1 = some res → va_P D vwCl ([]) H → va_S noA s.heap H locs → lv_has ls 2 [(0, .int x0), (1, .int x1)] → W p l e (headSpec wsX12_lowest ({ frames := 1, cells := 0, slots := 0, locals := 21 })).room s m ([.int p0] : List Value).toArray below meth c H locs 0 0 (MQ below (QR res) ([.int p0] : List Value).toArray s 0 0 noA) (F0 m 2 ls []) := by
    intro n2
    induction n2 with
    | zero => intro x0 x1 H locs ls hf; exact nns hf
    | succ n2 ih2 =>
      intro x0 x1 H locs ls hf hP hS hl
      replace hf : bX12_lowest_L2  (fX12_lowest_L2  n2) x0 x1 = some res := hf
      unfold bX12_lowest_L2 at hf
      refine lv_iload_n hx hb dX12_lowest_2 rfl (lv_at hl 0 rfl) ?_
      refine lv_iload_n hx hb dX12_lowest_3 rfl (lv_at hl 1 rfl) ?_
      obtain ⟨z1, hz1, hf⟩ := lett_e hf
      refine cSR (As := [.int x0, .int x1]) (rest := []) ⟨hx, hb, hml, hown, hts⟩ (mX12_has l D T x0 x1 z1 hz1.symm) (va_cwS 2 hts gX12_lowest_X12_has rfl rfl rfl (by decide +kernel) ⟨Nat.le_of_ble_eq_true rfl, Nat.le_of_ble_eq_true rfl⟩) P0 hK rfl hl.1 rfl (Nat.le_of_ble_eq_true rfl) dX12_lowest_4 ⟨Nat.le_of_ble_eq_true rfl, Nat.le_of_ble_eq_true rfl⟩ hP hS (fun H locs hP hS => ?_)
      refine lv_if_ne (tgt := 17) hx hb dX12_lowest_7 (by decide) (fun c2 => ?_) (fun c2 => ?_)
      · replace hf := ifn c2 hf
        refine lv_iload_n hx hb dX12_lowest_17 rfl (lv_at hl 1 rfl) ?_
        exact retR hx hb hr hlocks hS (Option.some.inj hf) dX12_lowest_18
      replace hf := ifp c2 hf
      refine lv_iload_n hx hb dX12_lowest_10 rfl (lv_at hl 1 rfl) ?_
      refine lv_iconst (v := 1) hx hb dX12_lowest_11 (by decide) ?_
      refine lv_iadd hx hb dX12_lowest_12 ?_
      obtain ⟨t3, et3, hf⟩ := lett_e hf
      refine lv_eqi et3 ?_
      refine lv_istore_n (lv' := [(1, .int t3), (0, .int x0)]) hx hb dX12_lowest_13 rfl hl (by decide) rfl (fun ls hl => ?_)
      refine lv_goto (tgt := 2) hx hb dX12_lowest_14 (by decide) ?_
      exact ih2 x0 t3 _ _ _ hf hP hS (lv_sub hl [1, 0] rfl)
  unfold fX12_lowest at hf
  refine lv_iconst (v := 0) hx hb dX12_lowest_0 (by decide) ?_
  refine lv_istore_n (lv' := [(1, .int 0), (0, .int p0)]) hx hb dX12_lowest_1 rfl hl (by decide) rfl (fun ls hl => ?_)
  exact L2 FU p0 0 _ _ _ hf hP hS (lv_sub hl [1, 0] rfl)
def fX12_lighterThan_J107 (u : St) (lp4 : Int32 → Int32 → Int32 → Option (Int32)) (lp14 : Int32 → Int32 → Int32 → Int32 → Option (Int32)) (x1 : Int32) (x2 : Int32) (x3 : Int32) (x4 : Int32) (x5 : Int32) (y0 : Int32) : Option (Int32) := (fX12_alikeTo u x1).bind fun z1 => if ((x3 ||| z1) &&& x5) = 0 then lett (x4 + 1) fun t3 => lp14 x1 x2 x3 t3 else (fX12_lowest y0).bind fun z4 => (fX12_alikeTo u z4).bind fun z5 => lett (x2 ||| z5) fun t6 => lett (x4 + 1) fun t7 => lp14 x1 t6 x3 t7
def fX12_lighterThan_J76 (u : St) (lp4 : Int32 → Int32 → Int32 → Option (Int32)) (lp14 : Int32 → Int32 → Int32 → Int32 → Option (Int32)) (x1 : Int32) (x2 : Int32) (x3 : Int32) (x4 : Int32) (y0 : Int32) : Option (Int32) := gd x4 16 <| if (u 32 (ix x4)) = 60 then gd x4 16 <| fX12_lighterThan_J107 u lp4 lp14 x1 x2 x3 x4 y0 (u 30 (ix x4)) else gd x4 16 <| fX12_lighterThan_J107 u lp4 lp14 x1 x2 x3 x4 y0 (u 31 (ix x4))
def bX12_lighterThan_L14 (u : St) (lp4 : Int32 → Int32 → Int32 → Option (Int32)) (lp14 : Int32 → Int32 → Int32 → Int32 → Option (Int32)) (x1 : Int32) (x2 : Int32) (x3 : Int32) (x4 : Int32) : Option (Int32) := if (u 36 0) ≤ x4 then lp4 x1 x2 x3 else (fX12_isOneAndOne u x4).bind fun z13 => if z13 = 0 then lett (x4 + 1) fun t15 => lp14 x1 x2 x3 t15 else gd x4 16 <| if (u 32 (ix x4)) = 61 then lett (x4 + 1) fun t21 => lp14 x1 x2 x3 t21 else gd x4 16 <| if (u 32 (ix x4)) = 60 then gd x4 16 <| fX12_lighterThan_J76 u lp4 lp14 x1 x2 x3 x4 (u 31 (ix x4)) else gd x4 16 <| fX12_lighterThan_J76 u lp4 lp14 x1 x2 x3 x4 (u 30 (ix x4))
def fX12_lighterThan_L14 (u : St) (lp4 : Int32 → Int32 → Int32 → Option (Int32)) : Nat → Int32 → Int32 → Int32 → Int32 → Option (Int32)
  | 0, _, _, _, _ => none
  | n + 1, x1, x2, x3, x4 => bX12_lighterThan_L14 u lp4 (fX12_lighterThan_L14 u lp4 n) x1 x2 x3 x4
def bX12_lighterThan_L4 (u : St)  (lp4 : Int32 → Int32 → Int32 → Option (Int32)) (x1 : Int32) (x2 : Int32) (x3 : Int32) : Option (Int32) := if x2 = x3 then some x2 else fX12_lighterThan_L14 u lp4 FU x1 x2 x2 0
def fX12_lighterThan_L4 (u : St)  : Nat → Int32 → Int32 → Int32 → Option (Int32)
  | 0, _, _, _ => none
  | n + 1, x1, x2, x3 => bX12_lighterThan_L4 u (fX12_lighterThan_L4 u n) x1 x2 x3
def fX12_lighterThan  (u : St) (p1 : Int32) : Option (Int32) := fX12_lighterThan_L4 u FU p1 0 (-1)
set_option maxHeartbeats 4000000 in
set_option maxRecDepth 100000 in
theorem mX12_lighterThan (l : Launch) (D : va_G) (T : Ty3) (h : Nat) (a : Nat → Nat) (u : St) (p1 : Int32) (res : Int32) (hf : fX12_lighterThan u p1 = some res) : Met l yX12_lighterThan wsX12_lighterThan ({ frames := 3, cells := 0, slots := 0, locals := 67 }) (PcR D T (kX12 T h a u) [.ref h, .int p1]) (QR res) 0 0 noA := by
  refine Met.ofW (cc := cX12_lighterThan) (maxL := 7) (ret := (some .int)) (by decide) rfl ?_
  intro p e s m args below meth c s₁ B hml hv
  obtain ⟨rfl, hP, hK⟩ := hv
  have hx := B.exec
  have hb := B.bytes
  have hr := B.returns
  have hts := atoms_spec (ws := wsX12_lighterThan) B.pre
  have hown : s.vm.findClass RX12 = some m.cls := findClass_of_methodNamed B.named
  have hlocks := B.notSynchronized
  have hS : va_S noA s.heap s.heap [] := va_S.rf
  have hinX12 : ∀ w ∈ u_ws RX12 TX12 52, w ∈ wsX12_lighterThan := fun w h => List.mem_cons_of_mem _ (List.mem_append_right _ h)
  have hl := lv_entry ([.ref h, .int p1]) (n := 7) (Nat.le_of_ble_eq_true rfl)
  rw [lg_entry_eq]
  generalize (lg_sl ([.ref h, .int p1]) ++ List.replicate (7 - (lg_sl ([.ref h, .int p1])).length) Slot.unset).toArray = ls at hl ⊢
  have hl : lv_has ls 7 [(0, .ref h), (1, .int p1)] := hl
  have L4 : ∀ (n4 : Nat), ∀ (x1 : Int32) (x2 : Int32) (x3 : Int32) (H : Heap) (locs : List Loc) (ls : Array Slot), fX12_lighterThan_L4 u n4 x1 x2 x3 = some res → va_P D vwCl (kX12 T h a u) H → va_S noA s.heap H locs → lv_has ls 7 [(0, .ref h), (1, .int x1), (2, .int x2), (3, .int x3)] → W p l e (headSpec wsX12_lighterThan ({ frames := 3, cells := 0, slots := 0, locals := 67 })).room s m ([.ref h, .int p1] : List Value).toArray below meth c H locs 0 0 (MQ below (QR res) ([.ref h, .int p1] : List Value).toArray s 0 0 noA) (F0 m 4 ls []) := by
    intro n4
    induction n4 with
    | zero => intro x1 x2 x3 H locs ls hf; exact nns hf
    | succ n4 ih4 =>
      have L14 : ∀ (n14 : Nat), ∀ (x1 : Int32) (x2 : Int32) (x3 : Int32) (x4 : Int32) (H : Heap) (locs : List Loc) (ls : Array Slot), fX12_lighterThan_L14 u (fX12_lighterThan_L4 u n4) n14 x1 x2 x3 x4 = some res → va_P D vwCl (kX12 T h a u) H → va_S noA s.heap H locs → lv_has ls 7 [(0, .ref h), (1, .int x1), (2, .int x2), (3, .int x3), (4, .int x4)] → W p l e (headSpec wsX12_lighterThan ({ frames := 3, cells := 0, slots := 0, locals := 67 })).room s m ([.ref h, .int p1] : List Value).toArray below meth c H locs 0 0 (MQ below (QR res) ([.ref h, .int p1] : List Value).toArray s 0 0 noA) (F0 m 14 ls []) := by
        intro n14
        induction n14 with
        | zero => intro x1 x2 x3 x4 H locs ls hf; exact nns hf
        | succ n14 ih14 =>
          have J107 : ∀ (x1 : Int32) (x2 : Int32) (x3 : Int32) (x4 : Int32) (x5 : Int32) (y0 : Int32) (H : Heap) (locs : List Loc) (ls : Array Slot), fX12_lighterThan_J107 u (fX12_lighterThan_L4 u n4) (fX12_lighterThan_L14 u (fX12_lighterThan_L4 u n4) n14) x1 x2 x3 x4 x5 y0 = some res → va_P D vwCl (kX12 T h a u) H → va_S noA s.heap H locs → lv_has ls 7 [(0, .ref h), (1, .int x1), (2, .int x2), (3, .int x3), (4, .int x4), (5, .int x5)] → W p l e (headSpec wsX12_lighterThan ({ frames := 3, cells := 0, slots := 0, locals := 67 })).room s m ([.ref h, .int p1] : List Value).toArray below meth c H locs 0 0 (MQ below (QR res) ([.ref h, .int p1] : List Value).toArray s 0 0 noA) (F0 m 107 ls [.int y0]) := by
            intro x1 x2 x3 x4 x5 y0 H locs ls hf hP hS hl
            unfold fX12_lighterThan_J107 at hf
            refine lv_istore (lv' := [(6, .int y0), (0, .ref h), (1, .int x1), (2, .int x2), (3, .int x3), (4, .int x4), (5, .int x5)]) hx hb dX12_lighterThan_107 hl (by decide) rfl (fun ls hl => ?_)
            refine lv_iload_n hx hb dX12_lighterThan_109 rfl (lv_at hl 4 rfl) ?_
            refine lv_aload_n hx hb dX12_lighterThan_110 rfl (lv_at hl 1 rfl) ?_
            refine lv_iload_n hx hb dX12_lighterThan_111 rfl (lv_at hl 2 rfl) ?_
            obtain ⟨z1, hz1, hf⟩ := bnd hf
            refine cVR (As := [.int x1]) (rest := [.int x3]) ⟨hx, hb, hml, hown, hts⟩ (mX12_alikeTo l D T h a u x1 z1 hz1) (cwV 1 hts gX12_lighterThan_X12_alikeTo rfl rfl rfl (by decide +kernel) ⟨Nat.le_of_ble_eq_true rfl, Nat.le_of_ble_eq_true rfl⟩) (va_recv hK.1 hP (ci := 12) (q0 := 0) rfl rfl) hP hK rfl hl.1 rfl (Nat.le_of_ble_eq_true rfl) dX12_lighterThan_112 ⟨Nat.le_of_ble_eq_true rfl, Nat.le_of_ble_eq_true rfl⟩ hP hS (fun H locs hP hS => ?_)
            refine lv_ior hx hb dX12_lighterThan_115 ?_
            refine lv_iload hx hb dX12_lighterThan_116 (lv_at hl 6 rfl) ?_
            refine lv_iand hx hb dX12_lighterThan_118 ?_
            refine lv_if_eq (tgt := 134) hx hb dX12_lighterThan_119 (by decide) (fun c2 => ?_) (fun c2 => ?_)
            · replace hf := ifp c2 hf
              obtain ⟨t3, et3, hf⟩ := lett_e hf
              refine lv_iinc (v := t3) (lv' := [(4, .int t3), (6, .int y0), (0, .ref h), (1, .int x1), (2, .int x2), (3, .int x3), (5, .int x5)]) hx hb dX12_lighterThan_134 hl (k := 5) rfl (by rw [et3]; rfl) (by decide) rfl (fun ls hl => ?_)
              refine lv_goto (tgt := 14) hx hb dX12_lighterThan_137 (by decide) ?_
              exact ih14 x1 x2 x3 t3 _ _ _ hf hP hS (lv_sub hl [2, 3, 4, 5, 0] rfl)
            replace hf := ifn c2 hf
            refine lv_iload_n hx hb dX12_lighterThan_122 rfl (lv_at hl 3 rfl) ?_
            refine lv_aload_n hx hb dX12_lighterThan_123 rfl (lv_at hl 1 rfl) ?_
            refine lv_iload hx hb dX12_lighterThan_124 (lv_at hl 0 rfl) ?_
            obtain ⟨z4, hz4, hf⟩ := bnd hf
            refine cSR (As := [.int y0]) (rest := [.ref h, .int x2]) ⟨hx, hb, hml, hown, hts⟩ (mX12_lowest l D T y0 z4 hz4) (va_cwS 1 hts gX12_lighterThan_X12_lowest rfl rfl rfl (by decide +kernel) ⟨Nat.le_of_ble_eq_true rfl, Nat.le_of_ble_eq_true rfl⟩) P0 hK rfl hl.1 rfl (Nat.le_of_ble_eq_true rfl) dX12_lighterThan_126 ⟨Nat.le_of_ble_eq_true rfl, Nat.le_of_ble_eq_true rfl⟩ hP hS (fun H locs hP hS => ?_)
            obtain ⟨z5, hz5, hf⟩ := bnd hf
            refine cVR (As := [.int z4]) (rest := [.int x2]) ⟨hx, hb, hml, hown, hts⟩ (mX12_alikeTo l D T h a u z4 z5 hz5) (cwV 1 hts gX12_lighterThan_X12_alikeTo rfl rfl rfl (by decide +kernel) ⟨Nat.le_of_ble_eq_true rfl, Nat.le_of_ble_eq_true rfl⟩) (va_recv hK.1 hP (ci := 12) (q0 := 0) rfl rfl) hP hK rfl hl.1 rfl (Nat.le_of_ble_eq_true rfl) dX12_lighterThan_129 ⟨Nat.le_of_ble_eq_true rfl, Nat.le_of_ble_eq_true rfl⟩ hP hS (fun H locs hP hS => ?_)
            refine lv_ior hx hb dX12_lighterThan_132 ?_
            obtain ⟨t6, et6, hf⟩ := lett_e hf
            refine lv_eqi et6 ?_
            refine lv_istore_n (lv' := [(2, .int t6), (6, .int y0), (0, .ref h), (1, .int x1), (3, .int x3), (4, .int x4), (5, .int x5)]) hx hb dX12_lighterThan_133 rfl hl (by decide) rfl (fun ls hl => ?_)
            obtain ⟨t7, et7, hf⟩ := lett_e hf
            refine lv_iinc (v := t7) (lv' := [(4, .int t7), (2, .int t6), (6, .int y0), (0, .ref h), (1, .int x1), (3, .int x3), (5, .int x5)]) hx hb dX12_lighterThan_134 hl (k := 5) rfl (by rw [et7]; rfl) (by decide) rfl (fun ls hl => ?_)
            refine lv_goto (tgt := 14) hx hb dX12_lighterThan_137 (by decide) ?_
            exact ih14 x1 t6 x3 t7 _ _ _ hf hP hS (lv_sub hl [3, 4, 1, 5, 0] rfl)
          have J76 : ∀ (x1 : Int32) (x2 : Int32) (x3 : Int32) (x4 : Int32) (y0 : Int32) (H : Heap) (locs : List Loc) (ls : Array Slot), fX12_lighterThan_J76 u (fX12_lighterThan_L4 u n4) (fX12_lighterThan_L14 u (fX12_lighterThan_L4 u n4) n14) x1 x2 x3 x4 y0 = some res → va_P D vwCl (kX12 T h a u) H → va_S noA s.heap H locs → lv_has ls 7 [(0, .ref h), (1, .int x1), (2, .int x2), (3, .int x3), (4, .int x4)] → W p l e (headSpec wsX12_lighterThan ({ frames := 3, cells := 0, slots := 0, locals := 67 })).room s m ([.ref h, .int p1] : List Value).toArray below meth c H locs 0 0 (MQ below (QR res) ([.ref h, .int p1] : List Value).toArray s 0 0 noA) (F0 m 76 ls [.int y0]) := by
            intro x1 x2 x3 x4 y0 H locs ls hf hP hS hl
            unfold fX12_lighterThan_J76 at hf
            refine lv_istore (lv' := [(5, .int y0), (0, .ref h), (1, .int x1), (2, .int x2), (3, .int x3), (4, .int x4)]) hx hb dX12_lighterThan_76 hl (by decide) rfl (fun ls hl => ?_)
            refine lv_aload_n hx hb dX12_lighterThan_78 rfl (lv_at hl 1 rfl) ?_
            refine va_get (D := D) (ci := 12) (v := .ref (a 32)) (C := RX12) (T := TX12) (N := 52) hx hb hts hinX12 hown hK.1 hP 0 rfl rfl 32 (by decide) (hts (.fieldLink RX12 68 "RopeScaleModel" "signOf" "[I") (List.mem_of_getElem? (i := 2) rfl)) (fun _ h9 => h9) rfl dX12_lighterThan_79 ?_
            refine lv_iload hx hb dX12_lighterThan_82 (lv_at hl 5 rfl) ?_
            obtain ⟨h11, hf⟩ := gd_e hf
            refine va_iald hx hb hK.1 hP 20 0 rfl rfl h11 dX12_lighterThan_84 ?_
            refine lv_bipush (v := 60) hx hb dX12_lighterThan_85 (by decide) ?_
            refine lv_icmp_ne (tgt := 100) hx hb dX12_lighterThan_87 (by decide) (fun c8 => ?_) (fun c8 => ?_)
            · replace hf := ifn c8 hf
              refine lv_aload_n hx hb dX12_lighterThan_100 rfl (lv_at hl 1 rfl) ?_
              refine va_get (D := D) (ci := 12) (v := .ref (a 31)) (C := RX12) (T := TX12) (N := 52) hx hb hts hinX12 hown hK.1 hP 0 rfl rfl 31 (by decide) (hts (.fieldLink RX12 65 "RopeScaleModel" "rightOf" "[I") (List.mem_of_getElem? (i := 3) rfl)) (fun _ h9 => h9) rfl dX12_lighterThan_101 ?_
              refine lv_iload hx hb dX12_lighterThan_104 (lv_at hl 5 rfl) ?_
              obtain ⟨h9, hf⟩ := gd_e hf
              refine va_iald hx hb hK.1 hP 19 0 rfl rfl h9 dX12_lighterThan_106 ?_
              exact J107 x1 x2 x3 x4 y0 (u 31 (ix x4)) _ _ _ hf hP hS (lv_sub hl [1, 2, 3, 4, 5, 0] rfl)
            replace hf := ifp c8 hf
            refine lv_aload_n hx hb dX12_lighterThan_90 rfl (lv_at hl 1 rfl) ?_
            refine va_get (D := D) (ci := 12) (v := .ref (a 30)) (C := RX12) (T := TX12) (N := 52) hx hb hts hinX12 hown hK.1 hP 0 rfl rfl 30 (by decide) (hts (.fieldLink RX12 62 "RopeScaleModel" "leftOf" "[I") (List.mem_of_getElem? (i := 4) rfl)) (fun _ h9 => h9) rfl dX12_lighterThan_91 ?_
            refine lv_iload hx hb dX12_lighterThan_94 (lv_at hl 5 rfl) ?_
            obtain ⟨h10, hf⟩ := gd_e hf
            refine va_iald hx hb hK.1 hP 18 0 rfl rfl h10 dX12_lighterThan_96 ?_
            refine lv_goto (tgt := 107) hx hb dX12_lighterThan_97 (by decide) ?_
            exact J107 x1 x2 x3 x4 y0 (u 30 (ix x4)) _ _ _ hf hP hS (lv_sub hl [1, 2, 3, 4, 5, 0] rfl)
          intro x1 x2 x3 x4 H locs ls hf hP hS hl
          replace hf : bX12_lighterThan_L14 u (fX12_lighterThan_L4 u n4) (fX12_lighterThan_L14 u (fX12_lighterThan_L4 u n4) n14) x1 x2 x3 x4 = some res := hf
          unfold bX12_lighterThan_L14 at hf
          refine lv_iload hx hb dX12_lighterThan_14 (lv_at hl 4 rfl) ?_
          refine lv_aload_n hx hb dX12_lighterThan_16 rfl (lv_at hl 0 rfl) ?_
          refine va_get (D := D) (ci := 12) (v := .int (u 36 0)) (C := RX12) (T := TX12) (N := 52) hx hb hts hinX12 hown hK.1 hP 0 rfl rfl 36 (by decide) (hts (.fieldLink RX12 274 "RopeScaleModel" "weighingMany" "I") (List.mem_of_getElem? (i := 1) rfl)) (fun _ h9 => h9) rfl dX12_lighterThan_17 ?_
          refine lv_icmp_ge (tgt := 140) hx hb dX12_lighterThan_20 (by decide) (fun c12 => ?_) (fun c12 => ?_)
          · replace hf := ifp c12 hf
            refine lv_goto (tgt := 4) hx hb dX12_lighterThan_140 (by decide) ?_
            exact ih4 x1 x2 x3 _ _ _ hf hP hS (lv_sub hl [0, 1, 2, 3] rfl)
          replace hf := ifn c12 hf
          refine lv_aload_n hx hb dX12_lighterThan_23 rfl (lv_at hl 0 rfl) ?_
          refine lv_iload hx hb dX12_lighterThan_24 (lv_at hl 4 rfl) ?_
          obtain ⟨z13, hz13, hf⟩ := bnd hf
          refine cVR (As := [.int x4]) (rest := []) ⟨hx, hb, hml, hown, hts⟩ (mX12_isOneAndOne l D T h a u x4 z13 hz13) (cwV 1 hts gX12_lighterThan_X12_isOneAndOne rfl rfl rfl (by decide +kernel) ⟨Nat.le_of_ble_eq_true rfl, Nat.le_of_ble_eq_true rfl⟩) (va_recv hK.1 hP (ci := 12) (q0 := 0) rfl rfl) hP hK rfl hl.1 rfl (Nat.le_of_ble_eq_true rfl) dX12_lighterThan_26 ⟨Nat.le_of_ble_eq_true rfl, Nat.le_of_ble_eq_true rfl⟩ hP hS (fun H locs hP hS => ?_)
          refine lv_if_eq (tgt := 134) hx hb dX12_lighterThan_29 (by decide) (fun c14 => ?_) (fun c14 => ?_)
          · replace hf := ifp c14 hf
            obtain ⟨t15, et15, hf⟩ := lett_e hf
            refine lv_iinc (v := t15) (lv' := [(4, .int t15), (0, .ref h), (1, .int x1), (2, .int x2), (3, .int x3)]) hx hb dX12_lighterThan_134 hl (k := 4) rfl (by rw [et15]; rfl) (by decide) rfl (fun ls hl => ?_)
            refine lv_goto (tgt := 14) hx hb dX12_lighterThan_137 (by decide) ?_
            exact ih14 x1 x2 x3 t15 _ _ _ hf hP hS (lv_sub hl [1, 2, 3, 4, 0] rfl)
          replace hf := ifn c14 hf
          refine lv_aload_n hx hb dX12_lighterThan_32 rfl (lv_at hl 0 rfl) ?_
          refine va_get (D := D) (ci := 12) (v := .ref (a 32)) (C := RX12) (T := TX12) (N := 52) hx hb hts hinX12 hown hK.1 hP 0 rfl rfl 32 (by decide) (hts (.fieldLink RX12 68 "RopeScaleModel" "signOf" "[I") (List.mem_of_getElem? (i := 2) rfl)) (fun _ h9 => h9) rfl dX12_lighterThan_33 ?_
          refine lv_iload hx hb dX12_lighterThan_36 (lv_at hl 4 rfl) ?_
          obtain ⟨h22, hf⟩ := gd_e hf
          refine va_iald hx hb hK.1 hP 20 0 rfl rfl h22 dX12_lighterThan_38 ?_
          refine lv_bipush (v := 61) hx hb dX12_lighterThan_39 (by decide) ?_
          refine lv_icmp_ne (tgt := 47) hx hb dX12_lighterThan_41 (by decide) (fun c16 => ?_) (fun c16 => ?_)
          · replace hf := ifn c16 hf
            refine lv_aload_n hx hb dX12_lighterThan_47 rfl (lv_at hl 0 rfl) ?_
            refine va_get (D := D) (ci := 12) (v := .ref (a 32)) (C := RX12) (T := TX12) (N := 52) hx hb hts hinX12 hown hK.1 hP 0 rfl rfl 32 (by decide) (hts (.fieldLink RX12 68 "RopeScaleModel" "signOf" "[I") (List.mem_of_getElem? (i := 2) rfl)) (fun _ h9 => h9) rfl dX12_lighterThan_48 ?_
            refine lv_iload hx hb dX12_lighterThan_51 (lv_at hl 4 rfl) ?_
            obtain ⟨h20, hf⟩ := gd_e hf
            refine va_iald hx hb hK.1 hP 20 0 rfl rfl h20 dX12_lighterThan_53 ?_
            refine lv_bipush (v := 60) hx hb dX12_lighterThan_54 (by decide) ?_
            refine lv_icmp_ne (tgt := 69) hx hb dX12_lighterThan_56 (by decide) (fun c17 => ?_) (fun c17 => ?_)
            · replace hf := ifn c17 hf
              refine lv_aload_n hx hb dX12_lighterThan_69 rfl (lv_at hl 0 rfl) ?_
              refine va_get (D := D) (ci := 12) (v := .ref (a 30)) (C := RX12) (T := TX12) (N := 52) hx hb hts hinX12 hown hK.1 hP 0 rfl rfl 30 (by decide) (hts (.fieldLink RX12 62 "RopeScaleModel" "leftOf" "[I") (List.mem_of_getElem? (i := 4) rfl)) (fun _ h9 => h9) rfl dX12_lighterThan_70 ?_
              refine lv_iload hx hb dX12_lighterThan_73 (lv_at hl 4 rfl) ?_
              obtain ⟨h18, hf⟩ := gd_e hf
              refine va_iald hx hb hK.1 hP 18 0 rfl rfl h18 dX12_lighterThan_75 ?_
              exact J76 x1 x2 x3 x4 (u 30 (ix x4)) _ _ _ hf hP hS (lv_sub hl [0, 1, 2, 3, 4] rfl)
            replace hf := ifp c17 hf
            refine lv_aload_n hx hb dX12_lighterThan_59 rfl (lv_at hl 0 rfl) ?_
            refine va_get (D := D) (ci := 12) (v := .ref (a 31)) (C := RX12) (T := TX12) (N := 52) hx hb hts hinX12 hown hK.1 hP 0 rfl rfl 31 (by decide) (hts (.fieldLink RX12 65 "RopeScaleModel" "rightOf" "[I") (List.mem_of_getElem? (i := 3) rfl)) (fun _ h9 => h9) rfl dX12_lighterThan_60 ?_
            refine lv_iload hx hb dX12_lighterThan_63 (lv_at hl 4 rfl) ?_
            obtain ⟨h19, hf⟩ := gd_e hf
            refine va_iald hx hb hK.1 hP 19 0 rfl rfl h19 dX12_lighterThan_65 ?_
            refine lv_goto (tgt := 76) hx hb dX12_lighterThan_66 (by decide) ?_
            exact J76 x1 x2 x3 x4 (u 31 (ix x4)) _ _ _ hf hP hS (lv_sub hl [0, 1, 2, 3, 4] rfl)
          replace hf := ifp c16 hf
          refine lv_goto (tgt := 134) hx hb dX12_lighterThan_44 (by decide) ?_
          obtain ⟨t21, et21, hf⟩ := lett_e hf
          refine lv_iinc (v := t21) (lv' := [(4, .int t21), (0, .ref h), (1, .int x1), (2, .int x2), (3, .int x3)]) hx hb dX12_lighterThan_134 hl (k := 4) rfl (by rw [et21]; rfl) (by decide) rfl (fun ls hl => ?_)
          refine lv_goto (tgt := 14) hx hb dX12_lighterThan_137 (by decide) ?_
          exact ih14 x1 x2 x3 t21 _ _ _ hf hP hS (lv_sub hl [1, 2, 3, 4, 0] rfl)
      intro x1 x2 x3 H locs ls hf hP hS hl
      replace hf : bX12_lighterThan_L4 u (fX12_lighterThan_L4 u n4) x1 x2 x3 = some res := hf
      unfold bX12_lighterThan_L4 at hf
      refine lv_iload_n hx hb dX12_lighterThan_4 rfl (lv_at hl 2 rfl) ?_
      refine lv_iload_n hx hb dX12_lighterThan_5 rfl (lv_at hl 3 rfl) ?_
      refine lv_icmp_eq (tgt := 143) hx hb dX12_lighterThan_6 (by decide) (fun c23 => ?_) (fun c23 => ?_)
      · replace hf := ifp c23 hf
        refine lv_iload_n hx hb dX12_lighterThan_143 rfl (lv_at hl 2 rfl) ?_
        exact retR hx hb hr hlocks hS (Option.some.inj hf) dX12_lighterThan_144
      replace hf := ifn c23 hf
      refine lv_iload_n hx hb dX12_lighterThan_9 rfl (lv_at hl 2 rfl) ?_
      refine lv_istore_n (lv' := [(3, .int x2), (0, .ref h), (1, .int x1), (2, .int x2)]) hx hb dX12_lighterThan_10 rfl hl (by decide) rfl (fun ls hl => ?_)
      refine lv_iconst (v := 0) hx hb dX12_lighterThan_11 (by decide) ?_
      refine lv_istore (lv' := [(4, .int 0), (3, .int x2), (0, .ref h), (1, .int x1), (2, .int x2)]) hx hb dX12_lighterThan_12 hl (by decide) rfl (fun ls hl => ?_)
      exact L14 FU x1 x2 x2 0 _ _ _ hf hP hS (lv_sub hl [2, 3, 4, 1, 0] rfl)
  unfold fX12_lighterThan at hf
  refine lv_iconst (v := 0) hx hb dX12_lighterThan_0 (by decide) ?_
  refine lv_istore_n (lv' := [(2, .int 0), (0, .ref h), (1, .int p1)]) hx hb dX12_lighterThan_1 rfl hl (by decide) rfl (fun ls hl => ?_)
  refine lv_iconst (v := (-1)) hx hb dX12_lighterThan_2 (by decide) ?_
  refine lv_istore_n (lv' := [(3, .int (-1)), (2, .int 0), (0, .ref h), (1, .int p1)]) hx hb dX12_lighterThan_3 rfl hl (by decide) rfl (fun ls hl => ?_)
  exact L4 FU p1 0 (-1) _ _ _ hf hP hS (lv_sub hl [2, 3, 1, 0] rfl)
def bX12_heavier_L23 (u : St)  (lp23 : Int32 → Int32 → Int32 → Option (Int32)) (x1 : Int32) (x2 : Int32) (x3 : Int32) : Option (Int32) := if 16 ≤ x3 then if x2 = 0 then (fX12_lighterThan u x1).bind fun z4 => some z4 else (fX12_alikeTo u x1).bind fun z3 => some z3 else (fX12_lighterThan u x3).bind fun z5 => lett (fX12_has z5 x3) fun z6 => if z6 = 0 then lett (x3 + 1) fun t8 => lp23 x1 x2 t8 else some (-3)
def fX12_heavier_L23 (u : St)  : Nat → Int32 → Int32 → Int32 → Option (Int32)
  | 0, _, _, _ => none
  | n + 1, x1, x2, x3 => bX12_heavier_L23 u (fX12_heavier_L23 u n) x1 x2 x3
def fX12_heavier  (u : St) (p1 : Int32) (p2 : Int32) : Option (Int32) := lett (fX12_in p1 0 15) fun z9 => if z9 = 0 then some (-1) else lett (fX12_in p2 0 1) fun z11 => if z11 = 0 then some (-1) else fX12_heavier_L23 u FU p1 p2 0
set_option maxHeartbeats 4000000 in
set_option maxRecDepth 100000 in
theorem mX12_heavier (l : Launch) (D : va_G) (T : Ty3) (h : Nat) (a : Nat → Nat) (u : St) (p1 : Int32) (p2 : Int32) (res : Int32) (hf : fX12_heavier u p1 p2 = some res) : Met l yX12_heavier wsX12_heavier ({ frames := 4, cells := 0, slots := 0, locals := 93 }) (PcR D T (kX12 T h a u) [.ref h, .int p1, .int p2]) (QR res) 0 0 noA := by
  refine Met.ofW (cc := cX12_heavier) (maxL := 4) (ret := (some .int)) (by decide) rfl ?_
  intro p e s m args below meth c s₁ B hml hv
  obtain ⟨rfl, hP, hK⟩ := hv
  have hx := B.exec
  have hb := B.bytes
  have hr := B.returns
  have hts := atoms_spec (ws := wsX12_heavier) B.pre
  have hown : s.vm.findClass RX12 = some m.cls := findClass_of_methodNamed B.named
  have hlocks := B.notSynchronized
  have hS : va_S noA s.heap s.heap [] := va_S.rf
  have hinX12 : ∀ w ∈ u_ws RX12 TX12 52, w ∈ wsX12_heavier := fun w h => List.mem_cons_of_mem _ (List.mem_append_right _ h)
  have hl := lv_entry ([.ref h, .int p1, .int p2]) (n := 4) (Nat.le_of_ble_eq_true rfl)
  rw [lg_entry_eq]
  generalize (lg_sl ([.ref h, .int p1, .int p2]) ++ List.replicate (4 - (lg_sl ([.ref h, .int p1, .int p2])).length) Slot.unset).toArray = ls at hl ⊢
  have hl : lv_has ls 4 [(0, .ref h), (1, .int p1), (2, .int p2)] := hl
  have L23 : ∀ (n23 : Nat), ∀ (x1 : Int32) (x2 : Int32) (x3 : Int32) (H : Heap) (locs : List Loc) (ls : Array Slot), fX12_heavier_L23 u n23 x1 x2 x3 = some res → va_P D vwCl (kX12 T h a u) H → va_S noA s.heap H locs → lv_has ls 4 [(0, .ref h), (1, .int x1), (2, .int x2), (3, .int x3)] → W p l e (headSpec wsX12_heavier ({ frames := 4, cells := 0, slots := 0, locals := 93 })).room s m ([.ref h, .int p1, .int p2] : List Value).toArray below meth c H locs 0 0 (MQ below (QR res) ([.ref h, .int p1, .int p2] : List Value).toArray s 0 0 noA) (F0 m 23 ls []) := by
    intro n23
    induction n23 with
    | zero => intro x1 x2 x3 H locs ls hf; exact nns hf
    | succ n23 ih23 =>
      intro x1 x2 x3 H locs ls hf hP hS hl
      replace hf : bX12_heavier_L23 u (fX12_heavier_L23 u n23) x1 x2 x3 = some res := hf
      unfold bX12_heavier_L23 at hf
      refine lv_iload_n hx hb dX12_heavier_23 rfl (lv_at hl 3 rfl) ?_
      refine lv_bipush (v := 16) hx hb dX12_heavier_24 (by decide) ?_
      refine lv_icmp_ge (tgt := 50) hx hb dX12_heavier_26 (by decide) (fun c1 => ?_) (fun c1 => ?_)
      · replace hf := ifp c1 hf
        refine lv_iload_n hx hb dX12_heavier_50 rfl (lv_at hl 2 rfl) ?_
        refine lv_if_ne (tgt := 62) hx hb dX12_heavier_51 (by decide) (fun c2 => ?_) (fun c2 => ?_)
        · replace hf := ifn c2 hf
          refine lv_aload_n hx hb dX12_heavier_62 rfl (lv_at hl 0 rfl) ?_
          refine lv_iload_n hx hb dX12_heavier_63 rfl (lv_at hl 1 rfl) ?_
          obtain ⟨z3, hz3, hf⟩ := bnd hf
          refine cVR (As := [.int x1]) (rest := []) ⟨hx, hb, hml, hown, hts⟩ (mX12_alikeTo l D T h a u x1 z3 hz3) (cwV 1 hts gX12_heavier_X12_alikeTo rfl rfl rfl (by decide +kernel) ⟨Nat.le_of_ble_eq_true rfl, Nat.le_of_ble_eq_true rfl⟩) (va_recv hK.1 hP (ci := 12) (q0 := 0) rfl rfl) hP hK rfl hl.1 rfl (Nat.le_of_ble_eq_true rfl) dX12_heavier_64 ⟨Nat.le_of_ble_eq_true rfl, Nat.le_of_ble_eq_true rfl⟩ hP hS (fun H locs hP hS => ?_)
          exact retR hx hb hr hlocks hS (Option.some.inj hf) dX12_heavier_67
        replace hf := ifp c2 hf
        refine lv_aload_n hx hb dX12_heavier_54 rfl (lv_at hl 0 rfl) ?_
        refine lv_iload_n hx hb dX12_heavier_55 rfl (lv_at hl 1 rfl) ?_
        obtain ⟨z4, hz4, hf⟩ := bnd hf
        refine cVR (As := [.int x1]) (rest := []) ⟨hx, hb, hml, hown, hts⟩ (mX12_lighterThan l D T h a u x1 z4 hz4) (cwV 1 hts gX12_heavier_X12_lighterThan rfl rfl rfl (by decide +kernel) ⟨Nat.le_of_ble_eq_true rfl, Nat.le_of_ble_eq_true rfl⟩) (va_recv hK.1 hP (ci := 12) (q0 := 0) rfl rfl) hP hK rfl hl.1 rfl (Nat.le_of_ble_eq_true rfl) dX12_heavier_56 ⟨Nat.le_of_ble_eq_true rfl, Nat.le_of_ble_eq_true rfl⟩ hP hS (fun H locs hP hS => ?_)
        refine lv_goto (tgt := 67) hx hb dX12_heavier_59 (by decide) ?_
        exact retR hx hb hr hlocks hS (Option.some.inj hf) dX12_heavier_67
      replace hf := ifn c1 hf
      refine lv_aload_n hx hb dX12_heavier_29 rfl (lv_at hl 0 rfl) ?_
      refine lv_iload_n hx hb dX12_heavier_30 rfl (lv_at hl 3 rfl) ?_
      obtain ⟨z5, hz5, hf⟩ := bnd hf
      refine cVR (As := [.int x3]) (rest := []) ⟨hx, hb, hml, hown, hts⟩ (mX12_lighterThan l D T h a u x3 z5 hz5) (cwV 1 hts gX12_heavier_X12_lighterThan rfl rfl rfl (by decide +kernel) ⟨Nat.le_of_ble_eq_true rfl, Nat.le_of_ble_eq_true rfl⟩) (va_recv hK.1 hP (ci := 12) (q0 := 0) rfl rfl) hP hK rfl hl.1 rfl (Nat.le_of_ble_eq_true rfl) dX12_heavier_31 ⟨Nat.le_of_ble_eq_true rfl, Nat.le_of_ble_eq_true rfl⟩ hP hS (fun H locs hP hS => ?_)
      refine lv_iload_n hx hb dX12_heavier_34 rfl (lv_at hl 3 rfl) ?_
      obtain ⟨z6, hz6, hf⟩ := lett_e hf
      refine cSR (As := [.int z5, .int x3]) (rest := []) ⟨hx, hb, hml, hown, hts⟩ (mX12_has l D T z5 x3 z6 hz6.symm) (va_cwS 2 hts gX12_heavier_X12_has rfl rfl rfl (by decide +kernel) ⟨Nat.le_of_ble_eq_true rfl, Nat.le_of_ble_eq_true rfl⟩) P0 hK rfl hl.1 rfl (Nat.le_of_ble_eq_true rfl) dX12_heavier_35 ⟨Nat.le_of_ble_eq_true rfl, Nat.le_of_ble_eq_true rfl⟩ hP hS (fun H locs hP hS => ?_)
      refine lv_if_eq (tgt := 44) hx hb dX12_heavier_38 (by decide) (fun c7 => ?_) (fun c7 => ?_)
      · replace hf := ifp c7 hf
        obtain ⟨t8, et8, hf⟩ := lett_e hf
        refine lv_iinc (v := t8) (lv' := [(3, .int t8), (0, .ref h), (1, .int x1), (2, .int x2)]) hx hb dX12_heavier_44 hl (k := 3) rfl (by rw [et8]; rfl) (by decide) rfl (fun ls hl => ?_)
        refine lv_goto (tgt := 23) hx hb dX12_heavier_47 (by decide) ?_
        exact ih23 x1 x2 t8 _ _ _ hf hP hS (lv_sub hl [1, 2, 3, 0] rfl)
      replace hf := ifn c7 hf
      refine lv_bipush (v := (-3)) hx hb dX12_heavier_41 (by decide) ?_
      exact retR hx hb hr hlocks hS (Option.some.inj hf) dX12_heavier_43
  unfold fX12_heavier at hf
  refine lv_iload_n hx hb dX12_heavier_0 rfl (lv_at hl 1 rfl) ?_
  refine lv_iconst (v := 0) hx hb dX12_heavier_1 (by decide) ?_
  refine lv_bipush (v := 15) hx hb dX12_heavier_2 (by decide) ?_
  obtain ⟨z9, hz9, hf⟩ := lett_e hf
  refine cSR (As := [.int p1, .int 0, .int 15]) (rest := []) ⟨hx, hb, hml, hown, hts⟩ (mX12_in l D T p1 0 15 z9 hz9.symm) (va_cwS 3 hts gX12_heavier_X12_in rfl rfl rfl (by decide +kernel) ⟨Nat.le_of_ble_eq_true rfl, Nat.le_of_ble_eq_true rfl⟩) P0 hK rfl hl.1 rfl (Nat.le_of_ble_eq_true rfl) dX12_heavier_4 ⟨Nat.le_of_ble_eq_true rfl, Nat.le_of_ble_eq_true rfl⟩ hP hS (fun H locs hP hS => ?_)
  refine lv_if_eq (tgt := 19) hx hb dX12_heavier_7 (by decide) (fun c10 => ?_) (fun c10 => ?_)
  · replace hf := ifp c10 hf
    refine lv_iconst (v := (-1)) hx hb dX12_heavier_19 (by decide) ?_
    exact retR hx hb hr hlocks hS (Option.some.inj hf) dX12_heavier_20
  replace hf := ifn c10 hf
  refine lv_iload_n hx hb dX12_heavier_10 rfl (lv_at hl 2 rfl) ?_
  refine lv_iconst (v := 0) hx hb dX12_heavier_11 (by decide) ?_
  refine lv_iconst (v := 1) hx hb dX12_heavier_12 (by decide) ?_
  obtain ⟨z11, hz11, hf⟩ := lett_e hf
  refine cSR (As := [.int p2, .int 0, .int 1]) (rest := []) ⟨hx, hb, hml, hown, hts⟩ (mX12_in l D T p2 0 1 z11 hz11.symm) (va_cwS 3 hts gX12_heavier_X12_in rfl rfl rfl (by decide +kernel) ⟨Nat.le_of_ble_eq_true rfl, Nat.le_of_ble_eq_true rfl⟩) P0 hK rfl hl.1 rfl (Nat.le_of_ble_eq_true rfl) dX12_heavier_13 ⟨Nat.le_of_ble_eq_true rfl, Nat.le_of_ble_eq_true rfl⟩ hP hS (fun H locs hP hS => ?_)
  refine lv_if_ne (tgt := 21) hx hb dX12_heavier_16 (by decide) (fun c12 => ?_) (fun c12 => ?_)
  · replace hf := ifn c12 hf
    refine lv_iconst (v := 0) hx hb dX12_heavier_21 (by decide) ?_
    refine lv_istore_n (lv' := [(3, .int 0), (0, .ref h), (1, .int p1), (2, .int p2)]) hx hb dX12_heavier_22 rfl hl (by decide) rfl (fun ls hl => ?_)
    exact L23 FU p1 p2 0 _ _ _ hf hP hS (lv_sub hl [1, 2, 3, 0] rfl)
  replace hf := ifp c12 hf
  refine lv_iconst (v := (-1)) hx hb dX12_heavier_19 (by decide) ?_
  exact retR hx hb hr hlocks hS (Option.some.inj hf) dX12_heavier_20
def fX12_sorts_J68  (lp4 : St → Int32 → Int32 → Option (Int32 × St)) (v : St) (x1 : Int32) (x2 : Int32) (x3 : Int32) : Option (Int32 × St) := gd (16 + x2) 98 <| gd x3 16 <| lett (st v 46 (ix x3) (v 0 (ix (16 + x2)))) fun u1 => lett (x1 + 1) fun t2 => lett (x2 + 1) fun t3 => lp4 u1 t2 t3
def bX12_sorts_L23  (lp4 : St → Int32 → Int32 → Option (Int32 × St)) (lp23 : St → Int32 → Int32 → Int32 → Option (Int32 × St)) (v : St) (x1 : Int32) (x2 : Int32) (x3 : Int32) : Option (Int32 × St) := if x3 ≤ 0 then fX12_sorts_J68 lp4 v x1 x2 x3 else gd (x3 - 1) 16 <| gd (16 + x2) 98 <| if (v 46 (ix (x3 - 1))) ≤ (v 0 (ix (16 + x2))) then fX12_sorts_J68 lp4 v x1 x2 x3 else gd (x3 - 1) 16 <| gd x3 16 <| lett (st v 46 (ix x3) (v 46 (ix (x3 - 1)))) fun u8 => lett (x3 - 1) fun t9 => lp23 u8 x1 x2 t9
def fX12_sorts_L23  (lp4 : St → Int32 → Int32 → Option (Int32 × St)) : Nat → St → Int32 → Int32 → Int32 → Option (Int32 × St)
  | 0, _, _, _, _ => none
  | n + 1, v, x1, x2, x3 => bX12_sorts_L23 lp4 (fX12_sorts_L23 lp4 n) v x1 x2 x3
def bX12_sorts_L4   (lp4 : St → Int32 → Int32 → Option (Int32 × St)) (v : St) (x1 : Int32) (x2 : Int32) : Option (Int32 × St) := if 16 ≤ x2 then some (x1, v) else (fX12_isTold v x2).bind fun z15 => if z15 = 0 then lett (x2 + 1) fun t17 => lp4 v x1 t17 else fX12_sorts_L23 lp4 FU v x1 x2 x1
def fX12_sorts_L4   : Nat → St → Int32 → Int32 → Option (Int32 × St)
  | 0, _, _, _ => none
  | n + 1, v, x1, x2 => bX12_sorts_L4  (fX12_sorts_L4  n) v x1 x2
def fX12_sorts  (u : St)  : Option (Int32 × St) := fX12_sorts_L4 FU u 0 0
set_option maxHeartbeats 4000000 in
set_option maxRecDepth 100000 in
theorem mX12_sorts (l : Launch) (D : va_G) (T : Ty3) (h : Nat) (a : Nat → Nat) (u : St) (sz : Nat)  (res : Int32 × St) (hf : fX12_sorts u = some res) : Met l yX12_sorts wsX12_sorts ({ frames := 2, cells := 0, slots := 0, locals := 43 }) (PcM D T (kX12 T h a u) sz [.ref h]) (QM D (kX12 T h a u) sz res.1 (kX12 T h a res.2)) 0 0 (va_A (kX12 T h a u) sz) := by
  refine Met.ofW (cc := cX12_sorts) (maxL := 4) (ret := (some .int)) (by decide) rfl ?_
  intro p e s m args below meth c s₁ B hml hv
  obtain ⟨rfl, hsz, hP, hK, hD0⟩ := hv
  have hx := B.exec
  have hb := B.bytes
  have hr := B.returns
  have hts := atoms_spec (ws := wsX12_sorts) B.pre
  have hown : s.vm.findClass RX12 = some m.cls := findClass_of_methodNamed B.named
  have hlocks := B.notSynchronized
  subst hsz
  have hD := hD0.self (sz := s.heap.size)
  have hA : ∀ q : Nat, s.heap.size ≤ q → va_A (kX12 T h a u) s.heap.size q := fun q h => Or.inr h
  have hS : va_S (va_A (kX12 T h a u) s.heap.size) s.heap s.heap [] := va_S.rf
  have hinX12 : ∀ w ∈ u_ws RX12 TX12 52, w ∈ wsX12_sorts := fun w h => List.mem_cons_of_mem _ (List.mem_append_right _ h)
  have hl := lv_entry ([.ref h]) (n := 4) (Nat.le_of_ble_eq_true rfl)
  rw [lg_entry_eq]
  generalize (lg_sl ([.ref h]) ++ List.replicate (4 - (lg_sl ([.ref h])).length) Slot.unset).toArray = ls at hl ⊢
  have hl : lv_has ls 4 [(0, .ref h)] := hl
  have L4 : ∀ (n4 : Nat), ∀ (v : St) (x1 : Int32) (x2 : Int32) (H : Heap) (locs : List Loc) (ls : Array Slot), fX12_sorts_L4  n4 v x1 x2 = some res → va_P D vwCl (kX12 T h a v) H → va_D (va_A (kX12 T h a u) s.heap.size) (kX12 T h a v) → va_S (va_A (kX12 T h a u) s.heap.size) s.heap H locs → lv_has ls 4 [(0, .ref h), (1, .int x1), (2, .int x2)] → W p l e (headSpec wsX12_sorts ({ frames := 2, cells := 0, slots := 0, locals := 43 })).room s m ([.ref h] : List Value).toArray below meth c H locs 0 0 (MQ below (QM D (kX12 T h a u) s.heap.size res.1 (kX12 T h a res.2)) ([.ref h] : List Value).toArray s 0 0 (va_A (kX12 T h a u) s.heap.size)) (F0 m 4 ls []) := by
    intro n4
    induction n4 with
    | zero => intro v x1 x2 H locs ls hf; exact nns hf
    | succ n4 ih4 =>
      have J68 : ∀ (v : St) (x1 : Int32) (x2 : Int32) (x3 : Int32) (H : Heap) (locs : List Loc) (ls : Array Slot), fX12_sorts_J68 (fX12_sorts_L4  n4) v x1 x2 x3 = some res → va_P D vwCl (kX12 T h a v) H → va_D (va_A (kX12 T h a u) s.heap.size) (kX12 T h a v) → va_S (va_A (kX12 T h a u) s.heap.size) s.heap H locs → lv_has ls 4 [(0, .ref h), (1, .int x1), (2, .int x2), (3, .int x3)] → W p l e (headSpec wsX12_sorts ({ frames := 2, cells := 0, slots := 0, locals := 43 })).room s m ([.ref h] : List Value).toArray below meth c H locs 0 0 (MQ below (QM D (kX12 T h a u) s.heap.size res.1 (kX12 T h a res.2)) ([.ref h] : List Value).toArray s 0 0 (va_A (kX12 T h a u) s.heap.size)) (F0 m 68 ls []) := by
        intro v x1 x2 x3 H locs ls hf hP hD hS hl
        unfold fX12_sorts_J68 at hf
        refine lv_aload_n hx hb dX12_sorts_68 rfl (lv_at hl 0 rfl) ?_
        refine va_get (D := D) (ci := 12) (v := .ref (a 46)) (C := RX12) (T := TX12) (N := 52) hx hb hts hinX12 hown hK.1 hP 0 rfl rfl 46 (by decide) (hts (.fieldLink RX12 86 "RopeScaleModel" "sortedNow" "[I") (List.mem_of_getElem? (i := 1) rfl)) (fun _ h9 => h9) rfl dX12_sorts_69 ?_
        refine lv_iload_n hx hb dX12_sorts_72 rfl (lv_at hl 3 rfl) ?_
        refine lv_aload_n hx hb dX12_sorts_73 rfl (lv_at hl 0 rfl) ?_
        refine va_get (D := D) (ci := 12) (v := .ref (a 0)) (C := RX12) (T := TX12) (N := 52) hx hb hts hinX12 hown hK.1 hP 0 rfl rfl 0 (by decide) (hts (.fieldLink RX12 7 "RopeScaleModel" "now" "[I") (List.mem_of_getElem? (i := 2) rfl)) (fun _ h9 => h9) rfl dX12_sorts_74 ?_
        refine lv_bipush (v := 16) hx hb dX12_sorts_77 (by decide) ?_
        refine lv_iload_n hx hb dX12_sorts_79 rfl (lv_at hl 2 rfl) ?_
        refine lv_iadd hx hb dX12_sorts_80 ?_
        obtain ⟨h5, hf⟩ := gd_e hf
        refine va_iald hx hb hK.1 hP 1 0 rfl rfl h5 dX12_sorts_81 ?_
        obtain ⟨h4, hf⟩ := gd_e hf
        obtain ⟨u1, eu1, hf⟩ := lett_e hf
        refine va_iast hx hb hK.1 hP hD hS 26 0 rfl rfl h4 dX12_sorts_82 (fun H locs hP hD hS => ?_)
        have hP : va_P D vwCl (kX12 T h a u1) H := by rw [eu1]; exact hP
        have hD : va_D (va_A (kX12 T h a u) s.heap.size) (kX12 T h a u1) := by rw [eu1]; exact hD
        refine lv_iload_n hx hb dX12_sorts_83 rfl (lv_at hl 1 rfl) ?_
        refine lv_iconst (v := 1) hx hb dX12_sorts_84 (by decide) ?_
        refine lv_iadd hx hb dX12_sorts_85 ?_
        obtain ⟨t2, et2, hf⟩ := lett_e hf
        refine lv_eqi et2 ?_
        refine lv_istore_n (lv' := [(1, .int t2), (0, .ref h), (2, .int x2), (3, .int x3)]) hx hb dX12_sorts_86 rfl hl (by decide) rfl (fun ls hl => ?_)
        obtain ⟨t3, et3, hf⟩ := lett_e hf
        refine lv_iinc (v := t3) (lv' := [(2, .int t3), (1, .int t2), (0, .ref h), (3, .int x3)]) hx hb dX12_sorts_87 hl (k := 2) rfl (by rw [et3]; rfl) (by decide) rfl (fun ls hl => ?_)
        refine lv_goto (tgt := 4) hx hb dX12_sorts_90 (by decide) ?_
        exact ih4 u1 t2 t3 _ _ _ hf hP hD hS (lv_sub hl [2, 1, 0] rfl)
      have L23 : ∀ (n23 : Nat), ∀ (v : St) (x1 : Int32) (x2 : Int32) (x3 : Int32) (H : Heap) (locs : List Loc) (ls : Array Slot), fX12_sorts_L23 (fX12_sorts_L4  n4) n23 v x1 x2 x3 = some res → va_P D vwCl (kX12 T h a v) H → va_D (va_A (kX12 T h a u) s.heap.size) (kX12 T h a v) → va_S (va_A (kX12 T h a u) s.heap.size) s.heap H locs → lv_has ls 4 [(0, .ref h), (1, .int x1), (2, .int x2), (3, .int x3)] → W p l e (headSpec wsX12_sorts ({ frames := 2, cells := 0, slots := 0, locals := 43 })).room s m ([.ref h] : List Value).toArray below meth c H locs 0 0 (MQ below (QM D (kX12 T h a u) s.heap.size res.1 (kX12 T h a res.2)) ([.ref h] : List Value).toArray s 0 0 (va_A (kX12 T h a u) s.heap.size)) (F0 m 23 ls []) := by
        intro n23
        induction n23 with
        | zero => intro v x1 x2 x3 H locs ls hf; exact nns hf
        | succ n23 ih23 =>
          intro v x1 x2 x3 H locs ls hf hP hD hS hl
          replace hf : bX12_sorts_L23 (fX12_sorts_L4  n4) (fX12_sorts_L23 (fX12_sorts_L4  n4) n23) v x1 x2 x3 = some res := hf
          unfold bX12_sorts_L23 at hf
          refine lv_iload_n hx hb dX12_sorts_23 rfl (lv_at hl 3 rfl) ?_
          refine lv_if_le (tgt := 68) hx hb dX12_sorts_24 (by decide) (fun c6 => ?_) (fun c6 => ?_)
          · replace hf := ifp c6 hf
            exact J68 v x1 x2 x3 _ _ _ hf hP hD hS (lv_sub hl [0, 1, 2, 3] rfl)
          replace hf := ifn c6 hf
          refine lv_aload_n hx hb dX12_sorts_27 rfl (lv_at hl 0 rfl) ?_
          refine va_get (D := D) (ci := 12) (v := .ref (a 46)) (C := RX12) (T := TX12) (N := 52) hx hb hts hinX12 hown hK.1 hP 0 rfl rfl 46 (by decide) (hts (.fieldLink RX12 86 "RopeScaleModel" "sortedNow" "[I") (List.mem_of_getElem? (i := 1) rfl)) (fun _ h9 => h9) rfl dX12_sorts_28 ?_
          refine lv_iload_n hx hb dX12_sorts_31 rfl (lv_at hl 3 rfl) ?_
          refine lv_iconst (v := 1) hx hb dX12_sorts_32 (by decide) ?_
          refine lv_isub hx hb dX12_sorts_33 ?_
          obtain ⟨h13, hf⟩ := gd_e hf
          refine va_iald hx hb hK.1 hP 26 0 rfl rfl h13 dX12_sorts_34 ?_
          refine lv_aload_n hx hb dX12_sorts_35 rfl (lv_at hl 0 rfl) ?_
          refine va_get (D := D) (ci := 12) (v := .ref (a 0)) (C := RX12) (T := TX12) (N := 52) hx hb hts hinX12 hown hK.1 hP 0 rfl rfl 0 (by decide) (hts (.fieldLink RX12 7 "RopeScaleModel" "now" "[I") (List.mem_of_getElem? (i := 2) rfl)) (fun _ h9 => h9) rfl dX12_sorts_36 ?_
          refine lv_bipush (v := 16) hx hb dX12_sorts_39 (by decide) ?_
          refine lv_iload_n hx hb dX12_sorts_41 rfl (lv_at hl 2 rfl) ?_
          refine lv_iadd hx hb dX12_sorts_42 ?_
          obtain ⟨h12, hf⟩ := gd_e hf
          refine va_iald hx hb hK.1 hP 1 0 rfl rfl h12 dX12_sorts_43 ?_
          refine lv_icmp_le (tgt := 68) hx hb dX12_sorts_44 (by decide) (fun c7 => ?_) (fun c7 => ?_)
          · replace hf := ifp c7 hf
            exact J68 v x1 x2 x3 _ _ _ hf hP hD hS (lv_sub hl [0, 1, 2, 3] rfl)
          replace hf := ifn c7 hf
          refine lv_aload_n hx hb dX12_sorts_47 rfl (lv_at hl 0 rfl) ?_
          refine va_get (D := D) (ci := 12) (v := .ref (a 46)) (C := RX12) (T := TX12) (N := 52) hx hb hts hinX12 hown hK.1 hP 0 rfl rfl 46 (by decide) (hts (.fieldLink RX12 86 "RopeScaleModel" "sortedNow" "[I") (List.mem_of_getElem? (i := 1) rfl)) (fun _ h9 => h9) rfl dX12_sorts_48 ?_
          refine lv_iload_n hx hb dX12_sorts_51 rfl (lv_at hl 3 rfl) ?_
          refine lv_aload_n hx hb dX12_sorts_52 rfl (lv_at hl 0 rfl) ?_
          refine va_get (D := D) (ci := 12) (v := .ref (a 46)) (C := RX12) (T := TX12) (N := 52) hx hb hts hinX12 hown hK.1 hP 0 rfl rfl 46 (by decide) (hts (.fieldLink RX12 86 "RopeScaleModel" "sortedNow" "[I") (List.mem_of_getElem? (i := 1) rfl)) (fun _ h9 => h9) rfl dX12_sorts_53 ?_
          refine lv_iload_n hx hb dX12_sorts_56 rfl (lv_at hl 3 rfl) ?_
          refine lv_iconst (v := 1) hx hb dX12_sorts_57 (by decide) ?_
          refine lv_isub hx hb dX12_sorts_58 ?_
          obtain ⟨h11, hf⟩ := gd_e hf
          refine va_iald hx hb hK.1 hP 26 0 rfl rfl h11 dX12_sorts_59 ?_
          obtain ⟨h10, hf⟩ := gd_e hf
          obtain ⟨u8, eu8, hf⟩ := lett_e hf
          refine va_iast hx hb hK.1 hP hD hS 26 0 rfl rfl h10 dX12_sorts_60 (fun H locs hP hD hS => ?_)
          have hP : va_P D vwCl (kX12 T h a u8) H := by rw [eu8]; exact hP
          have hD : va_D (va_A (kX12 T h a u) s.heap.size) (kX12 T h a u8) := by rw [eu8]; exact hD
          refine lv_iload_n hx hb dX12_sorts_61 rfl (lv_at hl 3 rfl) ?_
          refine lv_iconst (v := 1) hx hb dX12_sorts_62 (by decide) ?_
          refine lv_isub hx hb dX12_sorts_63 ?_
          obtain ⟨t9, et9, hf⟩ := lett_e hf
          refine lv_eqi et9 ?_
          refine lv_istore_n (lv' := [(3, .int t9), (0, .ref h), (1, .int x1), (2, .int x2)]) hx hb dX12_sorts_64 rfl hl (by decide) rfl (fun ls hl => ?_)
          refine lv_goto (tgt := 23) hx hb dX12_sorts_65 (by decide) ?_
          exact ih23 u8 x1 x2 t9 _ _ _ hf hP hD hS (lv_sub hl [1, 2, 3, 0] rfl)
      intro v x1 x2 H locs ls hf hP hD hS hl
      replace hf : bX12_sorts_L4  (fX12_sorts_L4  n4) v x1 x2 = some res := hf
      unfold bX12_sorts_L4 at hf
      refine lv_iload_n hx hb dX12_sorts_4 rfl (lv_at hl 2 rfl) ?_
      refine lv_bipush (v := 16) hx hb dX12_sorts_5 (by decide) ?_
      refine lv_icmp_ge (tgt := 93) hx hb dX12_sorts_7 (by decide) (fun c14 => ?_) (fun c14 => ?_)
      · replace hf := ifp c14 hf
        refine lv_iload_n hx hb dX12_sorts_93 rfl (lv_at hl 1 rfl) ?_
        have e9 := Option.some.inj hf
        exact retM hx hb hr hlocks hP hD hS (congrArg (fun z => z.1) e9) (congrArg (fun z => (kX12 T h a z.2 : va_W)) e9) dX12_sorts_94
      replace hf := ifn c14 hf
      refine lv_aload_n hx hb dX12_sorts_10 rfl (lv_at hl 0 rfl) ?_
      refine lv_iload_n hx hb dX12_sorts_11 rfl (lv_at hl 2 rfl) ?_
      obtain ⟨z15, hz15, hf⟩ := bnd hf
      refine cVR (As := [.int x2]) (rest := []) ⟨hx, hb, hml, hown, hts⟩ (mX12_isTold l D T h a v x2 z15 hz15) (cwV 1 hts gX12_sorts_X12_isTold rfl rfl rfl (by decide +kernel) ⟨Nat.le_of_ble_eq_true rfl, Nat.le_of_ble_eq_true rfl⟩) (va_recv hK.1 hP (ci := 12) (q0 := 0) rfl rfl) hP hK rfl hl.1 rfl (Nat.le_of_ble_eq_true rfl) dX12_sorts_12 ⟨Nat.le_of_ble_eq_true rfl, Nat.le_of_ble_eq_true rfl⟩ hP hS (fun H locs hP hS => ?_)
      refine lv_if_ne (tgt := 21) hx hb dX12_sorts_15 (by decide) (fun c16 => ?_) (fun c16 => ?_)
      · replace hf := ifn c16 hf
        refine lv_iload_n hx hb dX12_sorts_21 rfl (lv_at hl 1 rfl) ?_
        refine lv_istore_n (lv' := [(3, .int x1), (0, .ref h), (1, .int x1), (2, .int x2)]) hx hb dX12_sorts_22 rfl hl (by decide) rfl (fun ls hl => ?_)
        exact L23 FU v x1 x2 x1 _ _ _ hf hP hD hS (lv_sub hl [1, 2, 3, 0] rfl)
      replace hf := ifp c16 hf
      refine lv_goto (tgt := 87) hx hb dX12_sorts_18 (by decide) ?_
      obtain ⟨t17, et17, hf⟩ := lett_e hf
      refine lv_iinc (v := t17) (lv' := [(2, .int t17), (0, .ref h), (1, .int x1)]) hx hb dX12_sorts_87 hl (k := 2) rfl (by rw [et17]; rfl) (by decide) rfl (fun ls hl => ?_)
      refine lv_goto (tgt := 4) hx hb dX12_sorts_90 (by decide) ?_
      exact ih4 v x1 t17 _ _ _ hf hP hD hS (lv_sub hl [1, 2, 0] rfl)
  unfold fX12_sorts at hf
  refine lv_iconst (v := 0) hx hb dX12_sorts_0 (by decide) ?_
  refine lv_istore_n (lv' := [(1, .int 0), (0, .ref h)]) hx hb dX12_sorts_1 rfl hl (by decide) rfl (fun ls hl => ?_)
  refine lv_iconst (v := 0) hx hb dX12_sorts_2 (by decide) ?_
  refine lv_istore_n (lv' := [(2, .int 0), (1, .int 0), (0, .ref h)]) hx hb dX12_sorts_3 rfl hl (by decide) rfl (fun ls hl => ?_)
  exact L4 FU u 0 0 _ _ _ hf hP hD hS (lv_sub hl [2, 1, 0] rfl)
def fX12_pairs_J68  (lp23 : St → Int32 → Int32 → Int32 → Int32 → Option (Int32 × St)) (v : St) (x1 : Int32) (x2 : Int32) (x3 : Int32) (x4 : Int32) (x5 : Int32) : Option (Int32 × St) := if x5 = 0 then lett (x4 + 1) fun t2 => lp23 v x1 x2 x3 t2 else lett (x4 + 2) fun t3 => lp23 v x1 x2 x3 t3
def fX12_pairs_J57  (lp23 : St → Int32 → Int32 → Int32 → Int32 → Option (Int32 × St)) (v : St) (x1 : Int32) (x2 : Int32) (x3 : Int32) (x4 : Int32) (y0 : Int32) : Option (Int32 × St) := if y0 = 0 then fX12_pairs_J68 lp23 v x1 x2 x3 x4 y0 else lett (x3 + 1) fun t5 => fX12_pairs_J68 lp23 v x1 x2 t5 x4 y0
def bX12_pairs_L23   (lp23 : St → Int32 → Int32 → Int32 → Int32 → Option (Int32 × St)) (v : St) (x1 : Int32) (x2 : Int32) (x3 : Int32) (x4 : Int32) : Option (Int32 × St) := if x2 ≤ (x4 + 1) then some (x3, v) else gd (x4 + 1) 16 <| gd x4 16 <| if x1 < ((v 46 (ix (x4 + 1))) - (v 46 (ix x4))) then fX12_pairs_J57 lp23 v x1 x2 x3 x4 0 else fX12_pairs_J57 lp23 v x1 x2 x3 x4 1
def fX12_pairs_L23   : Nat → St → Int32 → Int32 → Int32 → Int32 → Option (Int32 × St)
  | 0, _, _, _, _, _ => none
  | n + 1, v, x1, x2, x3, x4 => bX12_pairs_L23  (fX12_pairs_L23  n) v x1 x2 x3 x4
def fX12_pairs  (u : St) (p1 : Int32) : Option (Int32 × St) := lett (fX12_in p1 0 999) fun z10 => if z10 = 0 then some ((-1), u) else (fX12_sorts u).bind fun z12 => fX12_pairs_L23 FU z12.2 p1 z12.1 0 0
set_option maxHeartbeats 4000000 in
set_option maxRecDepth 100000 in
theorem mX12_pairs (l : Launch) (D : va_G) (T : Ty3) (h : Nat) (a : Nat → Nat) (u : St) (sz : Nat) (p1 : Int32) (res : Int32 × St) (hf : fX12_pairs u p1 = some res) : Met l yX12_pairs wsX12_pairs ({ frames := 3, cells := 0, slots := 0, locals := 66 }) (PcM D T (kX12 T h a u) sz [.ref h, .int p1]) (QM D (kX12 T h a u) sz res.1 (kX12 T h a res.2)) 0 0 (va_A (kX12 T h a u) sz) := by
  refine Met.ofW (cc := cX12_pairs) (maxL := 6) (ret := (some .int)) (by decide) rfl ?_
  intro p e s m args below meth c s₁ B hml hv
  obtain ⟨rfl, hsz, hP, hK, hD0⟩ := hv
  have hx := B.exec
  have hb := B.bytes
  have hr := B.returns
  have hts := atoms_spec (ws := wsX12_pairs) B.pre
  have hown : s.vm.findClass RX12 = some m.cls := findClass_of_methodNamed B.named
  have hlocks := B.notSynchronized
  subst hsz
  have hD := hD0.self (sz := s.heap.size)
  have hA : ∀ q : Nat, s.heap.size ≤ q → va_A (kX12 T h a u) s.heap.size q := fun q h => Or.inr h
  have hS : va_S (va_A (kX12 T h a u) s.heap.size) s.heap s.heap [] := va_S.rf
  have hinX12 : ∀ w ∈ u_ws RX12 TX12 52, w ∈ wsX12_pairs := fun w h => List.mem_cons_of_mem _ (List.mem_append_right _ h)
  have hl := lv_entry ([.ref h, .int p1]) (n := 6) (Nat.le_of_ble_eq_true rfl)
  rw [lg_entry_eq]
  generalize (lg_sl ([.ref h, .int p1]) ++ List.replicate (6 - (lg_sl ([.ref h, .int p1])).length) Slot.unset).toArray = ls at hl ⊢
  have hl : lv_has ls 6 [(0, .ref h), (1, .int p1)] := hl
  have L23 : ∀ (n23 : Nat), ∀ (v : St) (x1 : Int32) (x2 : Int32) (x3 : Int32) (x4 : Int32) (H : Heap) (locs : List Loc) (ls : Array Slot), fX12_pairs_L23  n23 v x1 x2 x3 x4 = some res → va_P D vwCl (kX12 T h a v) H → va_D (va_A (kX12 T h a u) s.heap.size) (kX12 T h a v) → va_S (va_A (kX12 T h a u) s.heap.size) s.heap H locs → lv_has ls 6 [(0, .ref h), (1, .int x1), (2, .int x2), (3, .int x3), (4, .int x4)] → W p l e (headSpec wsX12_pairs ({ frames := 3, cells := 0, slots := 0, locals := 66 })).room s m ([.ref h, .int p1] : List Value).toArray below meth c H locs 0 0 (MQ below (QM D (kX12 T h a u) s.heap.size res.1 (kX12 T h a res.2)) ([.ref h, .int p1] : List Value).toArray s 0 0 (va_A (kX12 T h a u) s.heap.size)) (F0 m 23 ls []) := by
    intro n23
    induction n23 with
    | zero => intro v x1 x2 x3 x4 H locs ls hf; exact nns hf
    | succ n23 ih23 =>
      have J68 : ∀ (v : St) (x1 : Int32) (x2 : Int32) (x3 : Int32) (x4 : Int32) (x5 : Int32) (H : Heap) (locs : List Loc) (ls : Array Slot), fX12_pairs_J68 (fX12_pairs_L23  n23) v x1 x2 x3 x4 x5 = some res → va_P D vwCl (kX12 T h a v) H → va_D (va_A (kX12 T h a u) s.heap.size) (kX12 T h a v) → va_S (va_A (kX12 T h a u) s.heap.size) s.heap H locs → lv_has ls 6 [(0, .ref h), (1, .int x1), (2, .int x2), (3, .int x3), (4, .int x4), (5, .int x5)] → W p l e (headSpec wsX12_pairs ({ frames := 3, cells := 0, slots := 0, locals := 66 })).room s m ([.ref h, .int p1] : List Value).toArray below meth c H locs 0 0 (MQ below (QM D (kX12 T h a u) s.heap.size res.1 (kX12 T h a res.2)) ([.ref h, .int p1] : List Value).toArray s 0 0 (va_A (kX12 T h a u) s.heap.size)) (F0 m 68 ls []) := by
        intro v x1 x2 x3 x4 x5 H locs ls hf hP hD hS hl
        unfold fX12_pairs_J68 at hf
        refine lv_iload hx hb dX12_pairs_68 (lv_at hl 5 rfl) ?_
        refine lv_if_eq (tgt := 80) hx hb dX12_pairs_70 (by decide) (fun c1 => ?_) (fun c1 => ?_)
        · replace hf := ifp c1 hf
          refine lv_iload hx hb dX12_pairs_80 (lv_at hl 4 rfl) ?_
          refine lv_iconst (v := 1) hx hb dX12_pairs_82 (by decide) ?_
          refine lv_iadd hx hb dX12_pairs_83 ?_
          obtain ⟨t2, et2, hf⟩ := lett_e hf
          refine lv_eqi et2 ?_
          refine lv_istore (lv' := [(4, .int t2), (0, .ref h), (1, .int x1), (2, .int x2), (3, .int x3), (5, .int x5)]) hx hb dX12_pairs_84 hl (by decide) rfl (fun ls hl => ?_)
          refine lv_goto (tgt := 23) hx hb dX12_pairs_86 (by decide) ?_
          exact ih23 v x1 x2 x3 t2 _ _ _ hf hP hD hS (lv_sub hl [1, 2, 3, 4, 0] rfl)
        replace hf := ifn c1 hf
        refine lv_iload hx hb dX12_pairs_73 (lv_at hl 4 rfl) ?_
        refine lv_iconst (v := 2) hx hb dX12_pairs_75 (by decide) ?_
        refine lv_iadd hx hb dX12_pairs_76 ?_
        refine lv_goto (tgt := 84) hx hb dX12_pairs_77 (by decide) ?_
        obtain ⟨t3, et3, hf⟩ := lett_e hf
        refine lv_eqi et3 ?_
        refine lv_istore (lv' := [(4, .int t3), (0, .ref h), (1, .int x1), (2, .int x2), (3, .int x3), (5, .int x5)]) hx hb dX12_pairs_84 hl (by decide) rfl (fun ls hl => ?_)
        refine lv_goto (tgt := 23) hx hb dX12_pairs_86 (by decide) ?_
        exact ih23 v x1 x2 x3 t3 _ _ _ hf hP hD hS (lv_sub hl [1, 2, 3, 4, 0] rfl)
      have J57 : ∀ (v : St) (x1 : Int32) (x2 : Int32) (x3 : Int32) (x4 : Int32) (y0 : Int32) (H : Heap) (locs : List Loc) (ls : Array Slot), fX12_pairs_J57 (fX12_pairs_L23  n23) v x1 x2 x3 x4 y0 = some res → va_P D vwCl (kX12 T h a v) H → va_D (va_A (kX12 T h a u) s.heap.size) (kX12 T h a v) → va_S (va_A (kX12 T h a u) s.heap.size) s.heap H locs → lv_has ls 6 [(0, .ref h), (1, .int x1), (2, .int x2), (3, .int x3), (4, .int x4)] → W p l e (headSpec wsX12_pairs ({ frames := 3, cells := 0, slots := 0, locals := 66 })).room s m ([.ref h, .int p1] : List Value).toArray below meth c H locs 0 0 (MQ below (QM D (kX12 T h a u) s.heap.size res.1 (kX12 T h a res.2)) ([.ref h, .int p1] : List Value).toArray s 0 0 (va_A (kX12 T h a u) s.heap.size)) (F0 m 57 ls [.int y0]) := by
        intro v x1 x2 x3 x4 y0 H locs ls hf hP hD hS hl
        unfold fX12_pairs_J57 at hf
        refine lv_istore (lv' := [(5, .int y0), (0, .ref h), (1, .int x1), (2, .int x2), (3, .int x3), (4, .int x4)]) hx hb dX12_pairs_57 hl (by decide) rfl (fun ls hl => ?_)
        refine lv_iload hx hb dX12_pairs_59 (lv_at hl 0 rfl) ?_
        refine lv_if_eq (tgt := 68) hx hb dX12_pairs_61 (by decide) (fun c4 => ?_) (fun c4 => ?_)
        · replace hf := ifp c4 hf
          exact J68 v x1 x2 x3 x4 y0 _ _ _ hf hP hD hS (lv_sub hl [1, 2, 3, 4, 5, 0] rfl)
        replace hf := ifn c4 hf
        refine lv_iload_n hx hb dX12_pairs_64 rfl (lv_at hl 4 rfl) ?_
        refine lv_iconst (v := 1) hx hb dX12_pairs_65 (by decide) ?_
        refine lv_iadd hx hb dX12_pairs_66 ?_
        obtain ⟨t5, et5, hf⟩ := lett_e hf
        refine lv_eqi et5 ?_
        refine lv_istore_n (lv' := [(3, .int t5), (5, .int y0), (0, .ref h), (1, .int x1), (2, .int x2), (4, .int x4)]) hx hb dX12_pairs_67 rfl hl (by decide) rfl (fun ls hl => ?_)
        exact J68 v x1 x2 t5 x4 y0 _ _ _ hf hP hD hS (lv_sub hl [2, 3, 4, 0, 5, 1] rfl)
      intro v x1 x2 x3 x4 H locs ls hf hP hD hS hl
      replace hf : bX12_pairs_L23  (fX12_pairs_L23  n23) v x1 x2 x3 x4 = some res := hf
      unfold bX12_pairs_L23 at hf
      refine lv_iload hx hb dX12_pairs_23 (lv_at hl 4 rfl) ?_
      refine lv_iconst (v := 1) hx hb dX12_pairs_25 (by decide) ?_
      refine lv_iadd hx hb dX12_pairs_26 ?_
      refine lv_iload_n hx hb dX12_pairs_27 rfl (lv_at hl 2 rfl) ?_
      refine lv_icmp_ge (tgt := 89) hx hb dX12_pairs_28 (by decide) (fun c6 => ?_) (fun c6 => ?_)
      · replace hf := ifp c6 hf
        refine lv_iload_n hx hb dX12_pairs_89 rfl (lv_at hl 3 rfl) ?_
        have e9 := Option.some.inj hf
        exact retM hx hb hr hlocks hP hD hS (congrArg (fun z => z.1) e9) (congrArg (fun z => (kX12 T h a z.2 : va_W)) e9) dX12_pairs_90
      replace hf := ifn c6 hf
      refine lv_aload_n hx hb dX12_pairs_31 rfl (lv_at hl 0 rfl) ?_
      refine va_get (D := D) (ci := 12) (v := .ref (a 46)) (C := RX12) (T := TX12) (N := 52) hx hb hts hinX12 hown hK.1 hP 0 rfl rfl 46 (by decide) (hts (.fieldLink RX12 86 "RopeScaleModel" "sortedNow" "[I") (List.mem_of_getElem? (i := 1) rfl)) (fun _ h9 => h9) rfl dX12_pairs_32 ?_
      refine lv_iload hx hb dX12_pairs_35 (lv_at hl 4 rfl) ?_
      refine lv_iconst (v := 1) hx hb dX12_pairs_37 (by decide) ?_
      refine lv_iadd hx hb dX12_pairs_38 ?_
      obtain ⟨h9, hf⟩ := gd_e hf
      refine va_iald hx hb hK.1 hP 26 0 rfl rfl h9 dX12_pairs_39 ?_
      refine lv_aload_n hx hb dX12_pairs_40 rfl (lv_at hl 0 rfl) ?_
      refine va_get (D := D) (ci := 12) (v := .ref (a 46)) (C := RX12) (T := TX12) (N := 52) hx hb hts hinX12 hown hK.1 hP 0 rfl rfl 46 (by decide) (hts (.fieldLink RX12 86 "RopeScaleModel" "sortedNow" "[I") (List.mem_of_getElem? (i := 1) rfl)) (fun _ h9 => h9) rfl dX12_pairs_41 ?_
      refine lv_iload hx hb dX12_pairs_44 (lv_at hl 4 rfl) ?_
      obtain ⟨h8, hf⟩ := gd_e hf
      refine va_iald hx hb hK.1 hP 26 0 rfl rfl h8 dX12_pairs_46 ?_
      refine lv_isub hx hb dX12_pairs_47 ?_
      refine lv_iload_n hx hb dX12_pairs_48 rfl (lv_at hl 1 rfl) ?_
      refine lv_icmp_gt (tgt := 56) hx hb dX12_pairs_49 (by decide) (fun c7 => ?_) (fun c7 => ?_)
      · replace hf := ifp c7 hf
        refine lv_iconst (v := 0) hx hb dX12_pairs_56 (by decide) ?_
        exact J57 v x1 x2 x3 x4 0 _ _ _ hf hP hD hS (lv_sub hl [0, 1, 2, 3, 4] rfl)
      replace hf := ifn c7 hf
      refine lv_iconst (v := 1) hx hb dX12_pairs_52 (by decide) ?_
      refine lv_goto (tgt := 57) hx hb dX12_pairs_53 (by decide) ?_
      exact J57 v x1 x2 x3 x4 1 _ _ _ hf hP hD hS (lv_sub hl [0, 1, 2, 3, 4] rfl)
  unfold fX12_pairs at hf
  refine lv_iload_n hx hb dX12_pairs_0 rfl (lv_at hl 1 rfl) ?_
  refine lv_iconst (v := 0) hx hb dX12_pairs_1 (by decide) ?_
  refine lv_sipush (v := 999) hx hb dX12_pairs_2 (by decide) ?_
  obtain ⟨z10, hz10, hf⟩ := lett_e hf
  refine cSR (As := [.int p1, .int 0, .int 999]) (rest := []) ⟨hx, hb, hml, hown, hts⟩ (mX12_in l D T p1 0 999 z10 hz10.symm) (va_cwS 3 hts gX12_pairs_X12_in rfl rfl rfl (by decide +kernel) ⟨Nat.le_of_ble_eq_true rfl, Nat.le_of_ble_eq_true rfl⟩) P0 hK rfl hl.1 rfl (Nat.le_of_ble_eq_true rfl) dX12_pairs_5 ⟨Nat.le_of_ble_eq_true rfl, Nat.le_of_ble_eq_true rfl⟩ hP hS (fun H locs hP hS => ?_)
  refine lv_if_ne (tgt := 13) hx hb dX12_pairs_8 (by decide) (fun c11 => ?_) (fun c11 => ?_)
  · replace hf := ifn c11 hf
    refine lv_aload_n hx hb dX12_pairs_13 rfl (lv_at hl 0 rfl) ?_
    obtain ⟨z12, hz12, hf⟩ := bnd hf
    have hFc9 := vaA_self hD hS hA
    refine cVM (As := []) (rest := []) ⟨hx, hb, hml, hown, hts⟩ (mX12_sorts l D T h a u _ z12 hz12) (cwV 0 hts gX12_pairs_X12_sorts rfl rfl rfl (by decide +kernel) ⟨Nat.le_of_ble_eq_true rfl, Nat.le_of_ble_eq_true rfl⟩) (va_recv hK.1 hP (ci := 12) (q0 := 0) rfl rfl) hP hK rfl hl.1 rfl (Nat.le_of_ble_eq_true rfl) dX12_pairs_14 ⟨Nat.le_of_ble_eq_true rfl, Nat.le_of_ble_eq_true rfl⟩ hD hFc9 hS (fun H locs hP hD1 _ hS => ?_)
    have hD := hD1.weaken (fun _ _ _ h9 => hFc9 _ h9)
    refine lv_istore_n (lv' := [(2, .int z12.1), (0, .ref h), (1, .int p1)]) hx hb dX12_pairs_17 rfl hl (by decide) rfl (fun ls hl => ?_)
    refine lv_iconst (v := 0) hx hb dX12_pairs_18 (by decide) ?_
    refine lv_istore_n (lv' := [(3, .int 0), (2, .int z12.1), (0, .ref h), (1, .int p1)]) hx hb dX12_pairs_19 rfl hl (by decide) rfl (fun ls hl => ?_)
    refine lv_iconst (v := 0) hx hb dX12_pairs_20 (by decide) ?_
    refine lv_istore (lv' := [(4, .int 0), (3, .int 0), (2, .int z12.1), (0, .ref h), (1, .int p1)]) hx hb dX12_pairs_21 hl (by decide) rfl (fun ls hl => ?_)
    exact L23 FU z12.2 p1 z12.1 0 0 _ _ _ hf hP hD hS (lv_sub hl [3, 4, 2, 1, 0] rfl)
  replace hf := ifp c11 hf
  refine lv_iconst (v := (-1)) hx hb dX12_pairs_11 (by decide) ?_
  have e9 := Option.some.inj hf
  exact retM hx hb hr hlocks hP hD hS (congrArg (fun z => z.1) e9) (congrArg (fun z => (kX12 T h a z.2 : va_W)) e9) dX12_pairs_12
def bX12_liars_L22 (u : St)  (lp22 : Int32 → Int32 → Int32 → Int32 → Int32 → Option (Int32)) (x1 : Int32) (x2 : Int32) (x3 : Int32) (x4 : Int32) (x5 : Int32) : Option (Int32) := if 16 ≤ x5 then if x1 = 0 then some x2 else if x1 = 1 then some x3 else some x4 else gd (32 + x5) 98 <| gd (16 + x5) 98 <| lett (fX12_size ((u 0 (ix (32 + x5))) - (u 0 (ix (16 + x5))))) fun z4 => (fX12_isTold u x5).bind fun z5 => if z5 = 0 then lett (x5 + 1) fun t7 => lp22 x1 x2 x3 x4 t7 else if z4 = 0 then lett (x5 + 1) fun t13 => lp22 x1 x2 x3 x4 t13 else lett (x2 ||| (jshl 1 x5)) fun t9 => if x3 < z4 then lett (x5 + 1) fun t11 => lp22 x1 t9 z4 x5 t11 else lett (x5 + 1) fun t12 => lp22 x1 t9 x3 x4 t12
def fX12_liars_L22 (u : St)  : Nat → Int32 → Int32 → Int32 → Int32 → Int32 → Option (Int32)
  | 0, _, _, _, _, _ => none
  | n + 1, x1, x2, x3, x4, x5 => bX12_liars_L22 u (fX12_liars_L22 u n) x1 x2 x3 x4 x5
def fX12_liars  (u : St) (p1 : Int32) : Option (Int32) := lett (fX12_in p1 0 2) fun z16 => if z16 = 0 then some (-1) else fX12_liars_L22 u FU p1 0 0 (-2) 0
set_option maxHeartbeats 4000000 in
set_option maxRecDepth 100000 in
theorem mX12_liars (l : Launch) (D : va_G) (T : Ty3) (h : Nat) (a : Nat → Nat) (u : St) (p1 : Int32) (res : Int32) (hf : fX12_liars u p1 = some res) : Met l yX12_liars wsX12_liars ({ frames := 2, cells := 0, slots := 0, locals := 43 }) (PcR D T (kX12 T h a u) [.ref h, .int p1]) (QR res) 0 0 noA := by
  refine Met.ofW (cc := cX12_liars) (maxL := 7) (ret := (some .int)) (by decide) rfl ?_
  intro p e s m args below meth c s₁ B hml hv
  obtain ⟨rfl, hP, hK⟩ := hv
  have hx := B.exec
  have hb := B.bytes
  have hr := B.returns
  have hts := atoms_spec (ws := wsX12_liars) B.pre
  have hown : s.vm.findClass RX12 = some m.cls := findClass_of_methodNamed B.named
  have hlocks := B.notSynchronized
  have hS : va_S noA s.heap s.heap [] := va_S.rf
  have hinX12 : ∀ w ∈ u_ws RX12 TX12 52, w ∈ wsX12_liars := fun w h => List.mem_cons_of_mem _ (List.mem_append_right _ h)
  have hl := lv_entry ([.ref h, .int p1]) (n := 7) (Nat.le_of_ble_eq_true rfl)
  rw [lg_entry_eq]
  generalize (lg_sl ([.ref h, .int p1]) ++ List.replicate (7 - (lg_sl ([.ref h, .int p1])).length) Slot.unset).toArray = ls at hl ⊢
  have hl : lv_has ls 7 [(0, .ref h), (1, .int p1)] := hl
  have L22 : ∀ (n22 : Nat), ∀ (x1 : Int32) (x2 : Int32) (x3 : Int32) (x4 : Int32) (x5 : Int32) (H : Heap) (locs : List Loc) (ls : Array Slot), fX12_liars_L22 u n22 x1 x2 x3 x4 x5 = some res → va_P D vwCl (kX12 T h a u) H → va_S noA s.heap H locs → lv_has ls 7 [(0, .ref h), (1, .int x1), (2, .int x2), (3, .int x3), (4, .int x4), (5, .int x5)] → W p l e (headSpec wsX12_liars ({ frames := 2, cells := 0, slots := 0, locals := 43 })).room s m ([.ref h, .int p1] : List Value).toArray below meth c H locs 0 0 (MQ below (QR res) ([.ref h, .int p1] : List Value).toArray s 0 0 noA) (F0 m 22 ls []) := by
    intro n22
    induction n22 with
    | zero => intro x1 x2 x3 x4 x5 H locs ls hf; exact nns hf
    | succ n22 ih22 =>
      intro x1 x2 x3 x4 x5 H locs ls hf hP hS hl
      replace hf : bX12_liars_L22 u (fX12_liars_L22 u n22) x1 x2 x3 x4 x5 = some res := hf
      unfold bX12_liars_L22 at hf
      refine lv_iload hx hb dX12_liars_22 (lv_at hl 5 rfl) ?_
      refine lv_bipush (v := 16) hx hb dX12_liars_24 (by decide) ?_
      refine lv_icmp_ge (tgt := 101) hx hb dX12_liars_26 (by decide) (fun c1 => ?_) (fun c1 => ?_)
      · replace hf := ifp c1 hf
        refine lv_iload_n hx hb dX12_liars_101 rfl (lv_at hl 1 rfl) ?_
        refine lv_if_ne (tgt := 109) hx hb dX12_liars_102 (by decide) (fun c2 => ?_) (fun c2 => ?_)
        · replace hf := ifn c2 hf
          refine lv_iload_n hx hb dX12_liars_109 rfl (lv_at hl 1 rfl) ?_
          refine lv_iconst (v := 1) hx hb dX12_liars_110 (by decide) ?_
          refine lv_icmp_ne (tgt := 118) hx hb dX12_liars_111 (by decide) (fun c3 => ?_) (fun c3 => ?_)
          · replace hf := ifn c3 hf
            refine lv_iload hx hb dX12_liars_118 (lv_at hl 4 rfl) ?_
            exact retR hx hb hr hlocks hS (Option.some.inj hf) dX12_liars_120
          replace hf := ifp c3 hf
          refine lv_iload_n hx hb dX12_liars_114 rfl (lv_at hl 3 rfl) ?_
          refine lv_goto (tgt := 120) hx hb dX12_liars_115 (by decide) ?_
          exact retR hx hb hr hlocks hS (Option.some.inj hf) dX12_liars_120
        replace hf := ifp c2 hf
        refine lv_iload_n hx hb dX12_liars_105 rfl (lv_at hl 2 rfl) ?_
        refine lv_goto (tgt := 120) hx hb dX12_liars_106 (by decide) ?_
        exact retR hx hb hr hlocks hS (Option.some.inj hf) dX12_liars_120
      replace hf := ifn c1 hf
      refine lv_aload_n hx hb dX12_liars_29 rfl (lv_at hl 0 rfl) ?_
      refine va_get (D := D) (ci := 12) (v := .ref (a 0)) (C := RX12) (T := TX12) (N := 52) hx hb hts hinX12 hown hK.1 hP 0 rfl rfl 0 (by decide) (hts (.fieldLink RX12 7 "RopeScaleModel" "now" "[I") (List.mem_of_getElem? (i := 1) rfl)) (fun _ h9 => h9) rfl dX12_liars_30 ?_
      refine lv_bipush (v := 32) hx hb dX12_liars_33 (by decide) ?_
      refine lv_iload hx hb dX12_liars_35 (lv_at hl 5 rfl) ?_
      refine lv_iadd hx hb dX12_liars_37 ?_
      obtain ⟨h15, hf⟩ := gd_e hf
      refine va_iald hx hb hK.1 hP 1 0 rfl rfl h15 dX12_liars_38 ?_
      refine lv_aload_n hx hb dX12_liars_39 rfl (lv_at hl 0 rfl) ?_
      refine va_get (D := D) (ci := 12) (v := .ref (a 0)) (C := RX12) (T := TX12) (N := 52) hx hb hts hinX12 hown hK.1 hP 0 rfl rfl 0 (by decide) (hts (.fieldLink RX12 7 "RopeScaleModel" "now" "[I") (List.mem_of_getElem? (i := 1) rfl)) (fun _ h9 => h9) rfl dX12_liars_40 ?_
      refine lv_bipush (v := 16) hx hb dX12_liars_43 (by decide) ?_
      refine lv_iload hx hb dX12_liars_45 (lv_at hl 5 rfl) ?_
      refine lv_iadd hx hb dX12_liars_47 ?_
      obtain ⟨h14, hf⟩ := gd_e hf
      refine va_iald hx hb hK.1 hP 1 0 rfl rfl h14 dX12_liars_48 ?_
      refine lv_isub hx hb dX12_liars_49 ?_
      obtain ⟨z4, hz4, hf⟩ := lett_e hf
      refine cSR (As := [.int ((u 0 (ix (32 + x5))) - (u 0 (ix (16 + x5))))]) (rest := []) ⟨hx, hb, hml, hown, hts⟩ (mX12_size l D T ((u 0 (ix (32 + x5))) - (u 0 (ix (16 + x5)))) z4 hz4.symm) (va_cwS 1 hts gX12_liars_X12_size rfl rfl rfl (by decide +kernel) ⟨Nat.le_of_ble_eq_true rfl, Nat.le_of_ble_eq_true rfl⟩) P0 hK rfl hl.1 rfl (Nat.le_of_ble_eq_true rfl) dX12_liars_50 ⟨Nat.le_of_ble_eq_true rfl, Nat.le_of_ble_eq_true rfl⟩ hP hS (fun H locs hP hS => ?_)
      refine lv_istore (lv' := [(6, .int z4), (0, .ref h), (1, .int x1), (2, .int x2), (3, .int x3), (4, .int x4), (5, .int x5)]) hx hb dX12_liars_53 hl (by decide) rfl (fun ls hl => ?_)
      refine lv_aload_n hx hb dX12_liars_55 rfl (lv_at hl 1 rfl) ?_
      refine lv_iload hx hb dX12_liars_56 (lv_at hl 6 rfl) ?_
      obtain ⟨z5, hz5, hf⟩ := bnd hf
      refine cVR (As := [.int x5]) (rest := []) ⟨hx, hb, hml, hown, hts⟩ (mX12_isTold l D T h a u x5 z5 hz5) (cwV 1 hts gX12_liars_X12_isTold rfl rfl rfl (by decide +kernel) ⟨Nat.le_of_ble_eq_true rfl, Nat.le_of_ble_eq_true rfl⟩) (va_recv hK.1 hP (ci := 12) (q0 := 0) rfl rfl) hP hK rfl hl.1 rfl (Nat.le_of_ble_eq_true rfl) dX12_liars_58 ⟨Nat.le_of_ble_eq_true rfl, Nat.le_of_ble_eq_true rfl⟩ hP hS (fun H locs hP hS => ?_)
      refine lv_if_eq (tgt := 95) hx hb dX12_liars_61 (by decide) (fun c6 => ?_) (fun c6 => ?_)
      · replace hf := ifp c6 hf
        obtain ⟨t7, et7, hf⟩ := lett_e hf
        refine lv_iinc (v := t7) (lv' := [(5, .int t7), (6, .int z4), (0, .ref h), (1, .int x1), (2, .int x2), (3, .int x3), (4, .int x4)]) hx hb dX12_liars_95 hl (k := 6) rfl (by rw [et7]; rfl) (by decide) rfl (fun ls hl => ?_)
        refine lv_goto (tgt := 22) hx hb dX12_liars_98 (by decide) ?_
        exact ih22 x1 x2 x3 x4 t7 _ _ _ hf hP hS (lv_sub hl [2, 3, 4, 5, 6, 0] rfl)
      replace hf := ifn c6 hf
      refine lv_iload hx hb dX12_liars_64 (lv_at hl 0 rfl) ?_
      refine lv_if_ne (tgt := 72) hx hb dX12_liars_66 (by decide) (fun c8 => ?_) (fun c8 => ?_)
      · replace hf := ifn c8 hf
        refine lv_iload_n hx hb dX12_liars_72 rfl (lv_at hl 3 rfl) ?_
        refine lv_iconst (v := 1) hx hb dX12_liars_73 (by decide) ?_
        refine lv_iload hx hb dX12_liars_74 (lv_at hl 6 rfl) ?_
        refine lv_ishl hx hb dX12_liars_76 ?_
        refine lv_ior hx hb dX12_liars_77 ?_
        obtain ⟨t9, et9, hf⟩ := lett_e hf
        refine lv_eqi et9 ?_
        refine lv_istore_n (lv' := [(2, .int t9), (6, .int z4), (0, .ref h), (1, .int x1), (3, .int x3), (4, .int x4), (5, .int x5)]) hx hb dX12_liars_78 rfl hl (by decide) rfl (fun ls hl => ?_)
        refine lv_iload hx hb dX12_liars_79 (lv_at hl 1 rfl) ?_
        refine lv_iload_n hx hb dX12_liars_81 rfl (lv_at hl 4 rfl) ?_
        refine lv_icmp_gt (tgt := 88) hx hb dX12_liars_82 (by decide) (fun c10 => ?_) (fun c10 => ?_)
        · replace hf := ifp c10 hf
          refine lv_iload hx hb dX12_liars_88 (lv_at hl 1 rfl) ?_
          refine lv_istore_n (lv' := [(3, .int z4), (2, .int t9), (6, .int z4), (0, .ref h), (1, .int x1), (4, .int x4), (5, .int x5)]) hx hb dX12_liars_90 rfl hl (by decide) rfl (fun ls hl => ?_)
          refine lv_iload hx hb dX12_liars_91 (lv_at hl 6 rfl) ?_
          refine lv_istore (lv' := [(4, .int x5), (3, .int z4), (2, .int t9), (6, .int z4), (0, .ref h), (1, .int x1), (5, .int x5)]) hx hb dX12_liars_93 hl (by decide) rfl (fun ls hl => ?_)
          obtain ⟨t11, et11, hf⟩ := lett_e hf
          refine lv_iinc (v := t11) (lv' := [(5, .int t11), (4, .int x5), (3, .int z4), (2, .int t9), (6, .int z4), (0, .ref h), (1, .int x1)]) hx hb dX12_liars_95 hl (k := 6) rfl (by rw [et11]; rfl) (by decide) rfl (fun ls hl => ?_)
          refine lv_goto (tgt := 22) hx hb dX12_liars_98 (by decide) ?_
          exact ih22 x1 t9 z4 x5 t11 _ _ _ hf hP hS (lv_sub hl [5, 6, 3, 2, 1, 0] rfl)
        replace hf := ifn c10 hf
        refine lv_goto (tgt := 95) hx hb dX12_liars_85 (by decide) ?_
        obtain ⟨t12, et12, hf⟩ := lett_e hf
        refine lv_iinc (v := t12) (lv' := [(5, .int t12), (2, .int t9), (6, .int z4), (0, .ref h), (1, .int x1), (3, .int x3), (4, .int x4)]) hx hb dX12_liars_95 hl (k := 6) rfl (by rw [et12]; rfl) (by decide) rfl (fun ls hl => ?_)
        refine lv_goto (tgt := 22) hx hb dX12_liars_98 (by decide) ?_
        exact ih22 x1 t9 x3 x4 t12 _ _ _ hf hP hS (lv_sub hl [3, 4, 1, 5, 6, 0] rfl)
      replace hf := ifp c8 hf
      refine lv_goto (tgt := 95) hx hb dX12_liars_69 (by decide) ?_
      obtain ⟨t13, et13, hf⟩ := lett_e hf
      refine lv_iinc (v := t13) (lv' := [(5, .int t13), (6, .int z4), (0, .ref h), (1, .int x1), (2, .int x2), (3, .int x3), (4, .int x4)]) hx hb dX12_liars_95 hl (k := 6) rfl (by rw [et13]; rfl) (by decide) rfl (fun ls hl => ?_)
      refine lv_goto (tgt := 22) hx hb dX12_liars_98 (by decide) ?_
      exact ih22 x1 x2 x3 x4 t13 _ _ _ hf hP hS (lv_sub hl [2, 3, 4, 5, 6, 0] rfl)
  unfold fX12_liars at hf
  refine lv_iload_n hx hb dX12_liars_0 rfl (lv_at hl 1 rfl) ?_
  refine lv_iconst (v := 0) hx hb dX12_liars_1 (by decide) ?_
  refine lv_iconst (v := 2) hx hb dX12_liars_2 (by decide) ?_
  obtain ⟨z16, hz16, hf⟩ := lett_e hf
  refine cSR (As := [.int p1, .int 0, .int 2]) (rest := []) ⟨hx, hb, hml, hown, hts⟩ (mX12_in l D T p1 0 2 z16 hz16.symm) (va_cwS 3 hts gX12_liars_X12_in rfl rfl rfl (by decide +kernel) ⟨Nat.le_of_ble_eq_true rfl, Nat.le_of_ble_eq_true rfl⟩) P0 hK rfl hl.1 rfl (Nat.le_of_ble_eq_true rfl) dX12_liars_3 ⟨Nat.le_of_ble_eq_true rfl, Nat.le_of_ble_eq_true rfl⟩ hP hS (fun H locs hP hS => ?_)
  refine lv_if_ne (tgt := 11) hx hb dX12_liars_6 (by decide) (fun c17 => ?_) (fun c17 => ?_)
  · replace hf := ifn c17 hf
    refine lv_iconst (v := 0) hx hb dX12_liars_11 (by decide) ?_
    refine lv_istore_n (lv' := [(2, .int 0), (0, .ref h), (1, .int p1)]) hx hb dX12_liars_12 rfl hl (by decide) rfl (fun ls hl => ?_)
    refine lv_iconst (v := 0) hx hb dX12_liars_13 (by decide) ?_
    refine lv_istore_n (lv' := [(3, .int 0), (2, .int 0), (0, .ref h), (1, .int p1)]) hx hb dX12_liars_14 rfl hl (by decide) rfl (fun ls hl => ?_)
    refine lv_bipush (v := (-2)) hx hb dX12_liars_15 (by decide) ?_
    refine lv_istore (lv' := [(4, .int (-2)), (3, .int 0), (2, .int 0), (0, .ref h), (1, .int p1)]) hx hb dX12_liars_17 hl (by decide) rfl (fun ls hl => ?_)
    refine lv_iconst (v := 0) hx hb dX12_liars_19 (by decide) ?_
    refine lv_istore (lv' := [(5, .int 0), (4, .int (-2)), (3, .int 0), (2, .int 0), (0, .ref h), (1, .int p1)]) hx hb dX12_liars_20 hl (by decide) rfl (fun ls hl => ?_)
    exact L22 FU p1 0 0 (-2) 0 _ _ _ hf hP hS (lv_sub hl [4, 5, 3, 2, 1, 0] rfl)
  replace hf := ifp c17 hf
  refine lv_iconst (v := (-1)) hx hb dX12_liars_9 (by decide) ?_
  exact retR hx hb hr hlocks hS (Option.some.inj hf) dX12_liars_10
def bX12_teams_L48 (u : St)  (lp48 : Int32 → Int32 → Int32 → Int32 → Int32 → Int32 → Int32 → Option (Int32)) (x1 : Int32) (x2 : Int32) (x3 : Int32) (x4 : Int32) (x5 : Int32) (x6 : Int32) (x7 : Int32) : Option (Int32) := if x2 < x7 then if x1 = 0 then some x6 else some x5 else if (x7 &&& (x2 ^^^ (-1))) = 0 then if (x7 &&& x4) = 0 then lett (x7 + 1) fun t11 => lp48 x1 x2 x3 x4 x5 x6 t11 else (fX12_sumOf u x7).bind fun z6 => lett (fX12_size (x3 - (2 * z6))) fun z7 => if z7 < x6 then lett (x7 + 1) fun t9 => lp48 x1 x2 x3 x4 x7 z7 t9 else lett (x7 + 1) fun t10 => lp48 x1 x2 x3 x4 x5 x6 t10 else lett (x7 + 1) fun t4 => lp48 x1 x2 x3 x4 x5 x6 t4
def fX12_teams_L48 (u : St)  : Nat → Int32 → Int32 → Int32 → Int32 → Int32 → Int32 → Int32 → Option (Int32)
  | 0, _, _, _, _, _, _, _ => none
  | n + 1, x1, x2, x3, x4, x5, x6, x7 => bX12_teams_L48 u (fX12_teams_L48 u n) x1 x2 x3 x4 x5 x6 x7
def fX12_teams  (u : St) (p1 : Int32) : Option (Int32) := lett (fX12_in p1 0 1) fun z12 => if z12 = 0 then some (-1) else (fX12_toldSet u).bind fun z14 => if z14 = 0 then some 0 else (fX12_sumOf u z14).bind fun z16 => (fX12_lowest z14).bind fun z17 => lett (jshl 1 z17) fun t18 => fX12_teams_L48 u FU p1 z14 z16 t18 0 1000000 t18
set_option maxHeartbeats 4000000 in
set_option maxRecDepth 100000 in
theorem mX12_teams (l : Launch) (D : va_G) (T : Ty3) (h : Nat) (a : Nat → Nat) (u : St) (p1 : Int32) (res : Int32) (hf : fX12_teams u p1 = some res) : Met l yX12_teams wsX12_teams ({ frames := 3, cells := 0, slots := 0, locals := 65 }) (PcR D T (kX12 T h a u) [.ref h, .int p1]) (QR res) 0 0 noA := by
  refine Met.ofW (cc := cX12_teams) (maxL := 9) (ret := (some .int)) (by decide) rfl ?_
  intro p e s m args below meth c s₁ B hml hv
  obtain ⟨rfl, hP, hK⟩ := hv
  have hx := B.exec
  have hb := B.bytes
  have hr := B.returns
  have hts := atoms_spec (ws := wsX12_teams) B.pre
  have hown : s.vm.findClass RX12 = some m.cls := findClass_of_methodNamed B.named
  have hlocks := B.notSynchronized
  have hS : va_S noA s.heap s.heap [] := va_S.rf
  have hinX12 : ∀ w ∈ u_ws RX12 TX12 52, w ∈ wsX12_teams := fun w h => List.mem_cons_of_mem _ (List.mem_append_right _ h)
  have hl := lv_entry ([.ref h, .int p1]) (n := 9) (Nat.le_of_ble_eq_true rfl)
  rw [lg_entry_eq]
  generalize (lg_sl ([.ref h, .int p1]) ++ List.replicate (9 - (lg_sl ([.ref h, .int p1])).length) Slot.unset).toArray = ls at hl ⊢
  have hl : lv_has ls 9 [(0, .ref h), (1, .int p1)] := hl
  have L48 : ∀ (n48 : Nat), ∀ (x1 : Int32) (x2 : Int32) (x3 : Int32) (x4 : Int32) (x5 : Int32) (x6 : Int32) (x7 : Int32) (H : Heap) (locs : List Loc) (ls : Array Slot), fX12_teams_L48 u n48 x1 x2 x3 x4 x5 x6 x7 = some res → va_P D vwCl (kX12 T h a u) H → va_S noA s.heap H locs → lv_has ls 9 [(0, .ref h), (1, .int x1), (2, .int x2), (3, .int x3), (4, .int x4), (5, .int x5), (6, .int x6), (7, .int x7)] → W p l e (headSpec wsX12_teams ({ frames := 3, cells := 0, slots := 0, locals := 65 })).room s m ([.ref h, .int p1] : List Value).toArray below meth c H locs 0 0 (MQ below (QR res) ([.ref h, .int p1] : List Value).toArray s 0 0 noA) (F0 m 48 ls []) := by
    intro n48
    induction n48 with
    | zero => intro x1 x2 x3 x4 x5 x6 x7 H locs ls hf; exact nns hf
    | succ n48 ih48 =>
      intro x1 x2 x3 x4 x5 x6 x7 H locs ls hf hP hS hl
      replace hf : bX12_teams_L48 u (fX12_teams_L48 u n48) x1 x2 x3 x4 x5 x6 x7 = some res := hf
      unfold bX12_teams_L48 at hf
      refine lv_iload hx hb dX12_teams_48 (lv_at hl 7 rfl) ?_
      refine lv_iload_n hx hb dX12_teams_50 rfl (lv_at hl 2 rfl) ?_
      refine lv_icmp_gt (tgt := 113) hx hb dX12_teams_51 (by decide) (fun c1 => ?_) (fun c1 => ?_)
      · replace hf := ifp c1 hf
        refine lv_iload_n hx hb dX12_teams_113 rfl (lv_at hl 1 rfl) ?_
        refine lv_if_ne (tgt := 122) hx hb dX12_teams_114 (by decide) (fun c2 => ?_) (fun c2 => ?_)
        · replace hf := ifn c2 hf
          refine lv_iload hx hb dX12_teams_122 (lv_at hl 5 rfl) ?_
          exact retR hx hb hr hlocks hS (Option.some.inj hf) dX12_teams_124
        replace hf := ifp c2 hf
        refine lv_iload hx hb dX12_teams_117 (lv_at hl 6 rfl) ?_
        refine lv_goto (tgt := 124) hx hb dX12_teams_119 (by decide) ?_
        exact retR hx hb hr hlocks hS (Option.some.inj hf) dX12_teams_124
      replace hf := ifn c1 hf
      refine lv_iload hx hb dX12_teams_54 (lv_at hl 7 rfl) ?_
      refine lv_iload_n hx hb dX12_teams_56 rfl (lv_at hl 2 rfl) ?_
      refine lv_iconst (v := (-1)) hx hb dX12_teams_57 (by decide) ?_
      refine lv_ixor hx hb dX12_teams_58 ?_
      refine lv_iand hx hb dX12_teams_59 ?_
      refine lv_if_ne (tgt := 107) hx hb dX12_teams_60 (by decide) (fun c3 => ?_) (fun c3 => ?_)
      · replace hf := ifn c3 hf
        obtain ⟨t4, et4, hf⟩ := lett_e hf
        refine lv_iinc (v := t4) (lv' := [(7, .int t4), (0, .ref h), (1, .int x1), (2, .int x2), (3, .int x3), (4, .int x4), (5, .int x5), (6, .int x6)]) hx hb dX12_teams_107 hl (k := 7) rfl (by rw [et4]; rfl) (by decide) rfl (fun ls hl => ?_)
        refine lv_goto (tgt := 48) hx hb dX12_teams_110 (by decide) ?_
        exact ih48 x1 x2 x3 x4 x5 x6 t4 _ _ _ hf hP hS (lv_sub hl [1, 2, 3, 4, 5, 6, 7, 0] rfl)
      replace hf := ifp c3 hf
      refine lv_iload hx hb dX12_teams_63 (lv_at hl 7 rfl) ?_
      refine lv_iload hx hb dX12_teams_65 (lv_at hl 4 rfl) ?_
      refine lv_iand hx hb dX12_teams_67 ?_
      refine lv_if_ne (tgt := 74) hx hb dX12_teams_68 (by decide) (fun c5 => ?_) (fun c5 => ?_)
      · replace hf := ifn c5 hf
        refine lv_iload_n hx hb dX12_teams_74 rfl (lv_at hl 3 rfl) ?_
        refine lv_iconst (v := 2) hx hb dX12_teams_75 (by decide) ?_
        refine lv_aload_n hx hb dX12_teams_76 rfl (lv_at hl 0 rfl) ?_
        refine lv_iload hx hb dX12_teams_77 (lv_at hl 7 rfl) ?_
        obtain ⟨z6, hz6, hf⟩ := bnd hf
        refine cVR (As := [.int x7]) (rest := [.int 2, .int x3]) ⟨hx, hb, hml, hown, hts⟩ (mX12_sumOf l D T h a u x7 z6 hz6) (cwV 1 hts gX12_teams_X12_sumOf rfl rfl rfl (by decide +kernel) ⟨Nat.le_of_ble_eq_true rfl, Nat.le_of_ble_eq_true rfl⟩) (va_recv hK.1 hP (ci := 12) (q0 := 0) rfl rfl) hP hK rfl hl.1 rfl (Nat.le_of_ble_eq_true rfl) dX12_teams_79 ⟨Nat.le_of_ble_eq_true rfl, Nat.le_of_ble_eq_true rfl⟩ hP hS (fun H locs hP hS => ?_)
        refine lv_imul hx hb dX12_teams_82 ?_
        refine lv_isub hx hb dX12_teams_83 ?_
        obtain ⟨z7, hz7, hf⟩ := lett_e hf
        refine cSR (As := [.int (x3 - (2 * z6))]) (rest := []) ⟨hx, hb, hml, hown, hts⟩ (mX12_size l D T (x3 - (2 * z6)) z7 hz7.symm) (va_cwS 1 hts gX12_teams_X12_size rfl rfl rfl (by decide +kernel) ⟨Nat.le_of_ble_eq_true rfl, Nat.le_of_ble_eq_true rfl⟩) P0 hK rfl hl.1 rfl (Nat.le_of_ble_eq_true rfl) dX12_teams_84 ⟨Nat.le_of_ble_eq_true rfl, Nat.le_of_ble_eq_true rfl⟩ hP hS (fun H locs hP hS => ?_)
        refine lv_istore (lv' := [(8, .int z7), (0, .ref h), (1, .int x1), (2, .int x2), (3, .int x3), (4, .int x4), (5, .int x5), (6, .int x6), (7, .int x7)]) hx hb dX12_teams_87 hl (by decide) rfl (fun ls hl => ?_)
        refine lv_iload hx hb dX12_teams_89 (lv_at hl 0 rfl) ?_
        refine lv_iload hx hb dX12_teams_91 (lv_at hl 7 rfl) ?_
        refine lv_icmp_lt (tgt := 99) hx hb dX12_teams_93 (by decide) (fun c8 => ?_) (fun c8 => ?_)
        · replace hf := ifp c8 hf
          refine lv_iload hx hb dX12_teams_99 (lv_at hl 0 rfl) ?_
          refine lv_istore (lv' := [(6, .int z7), (8, .int z7), (0, .ref h), (1, .int x1), (2, .int x2), (3, .int x3), (4, .int x4), (5, .int x5), (7, .int x7)]) hx hb dX12_teams_101 hl (by decide) rfl (fun ls hl => ?_)
          refine lv_iload hx hb dX12_teams_103 (lv_at hl 8 rfl) ?_
          refine lv_istore (lv' := [(5, .int x7), (6, .int z7), (8, .int z7), (0, .ref h), (1, .int x1), (2, .int x2), (3, .int x3), (4, .int x4), (7, .int x7)]) hx hb dX12_teams_105 hl (by decide) rfl (fun ls hl => ?_)
          obtain ⟨t9, et9, hf⟩ := lett_e hf
          refine lv_iinc (v := t9) (lv' := [(7, .int t9), (5, .int x7), (6, .int z7), (8, .int z7), (0, .ref h), (1, .int x1), (2, .int x2), (3, .int x3), (4, .int x4)]) hx hb dX12_teams_107 hl (k := 8) rfl (by rw [et9]; rfl) (by decide) rfl (fun ls hl => ?_)
          refine lv_goto (tgt := 48) hx hb dX12_teams_110 (by decide) ?_
          exact ih48 x1 x2 x3 x4 x7 z7 t9 _ _ _ hf hP hS (lv_sub hl [4, 5, 6, 7, 8, 1, 2, 0] rfl)
        replace hf := ifn c8 hf
        refine lv_goto (tgt := 107) hx hb dX12_teams_96 (by decide) ?_
        obtain ⟨t10, et10, hf⟩ := lett_e hf
        refine lv_iinc (v := t10) (lv' := [(7, .int t10), (8, .int z7), (0, .ref h), (1, .int x1), (2, .int x2), (3, .int x3), (4, .int x4), (5, .int x5), (6, .int x6)]) hx hb dX12_teams_107 hl (k := 8) rfl (by rw [et10]; rfl) (by decide) rfl (fun ls hl => ?_)
        refine lv_goto (tgt := 48) hx hb dX12_teams_110 (by decide) ?_
        exact ih48 x1 x2 x3 x4 x5 x6 t10 _ _ _ hf hP hS (lv_sub hl [2, 3, 4, 5, 6, 7, 8, 0] rfl)
      replace hf := ifp c5 hf
      refine lv_goto (tgt := 107) hx hb dX12_teams_71 (by decide) ?_
      obtain ⟨t11, et11, hf⟩ := lett_e hf
      refine lv_iinc (v := t11) (lv' := [(7, .int t11), (0, .ref h), (1, .int x1), (2, .int x2), (3, .int x3), (4, .int x4), (5, .int x5), (6, .int x6)]) hx hb dX12_teams_107 hl (k := 7) rfl (by rw [et11]; rfl) (by decide) rfl (fun ls hl => ?_)
      refine lv_goto (tgt := 48) hx hb dX12_teams_110 (by decide) ?_
      exact ih48 x1 x2 x3 x4 x5 x6 t11 _ _ _ hf hP hS (lv_sub hl [1, 2, 3, 4, 5, 6, 7, 0] rfl)
  unfold fX12_teams at hf
  refine lv_iload_n hx hb dX12_teams_0 rfl (lv_at hl 1 rfl) ?_
  refine lv_iconst (v := 0) hx hb dX12_teams_1 (by decide) ?_
  refine lv_iconst (v := 1) hx hb dX12_teams_2 (by decide) ?_
  obtain ⟨z12, hz12, hf⟩ := lett_e hf
  refine cSR (As := [.int p1, .int 0, .int 1]) (rest := []) ⟨hx, hb, hml, hown, hts⟩ (mX12_in l D T p1 0 1 z12 hz12.symm) (va_cwS 3 hts gX12_teams_X12_in rfl rfl rfl (by decide +kernel) ⟨Nat.le_of_ble_eq_true rfl, Nat.le_of_ble_eq_true rfl⟩) P0 hK rfl hl.1 rfl (Nat.le_of_ble_eq_true rfl) dX12_teams_3 ⟨Nat.le_of_ble_eq_true rfl, Nat.le_of_ble_eq_true rfl⟩ hP hS (fun H locs hP hS => ?_)
  refine lv_if_ne (tgt := 11) hx hb dX12_teams_6 (by decide) (fun c13 => ?_) (fun c13 => ?_)
  · replace hf := ifn c13 hf
    refine lv_aload_n hx hb dX12_teams_11 rfl (lv_at hl 0 rfl) ?_
    obtain ⟨z14, hz14, hf⟩ := bnd hf
    refine cVR (As := []) (rest := []) ⟨hx, hb, hml, hown, hts⟩ (mX12_toldSet l D T h a u z14 hz14) (cwV 0 hts gX12_teams_X12_toldSet rfl rfl rfl (by decide +kernel) ⟨Nat.le_of_ble_eq_true rfl, Nat.le_of_ble_eq_true rfl⟩) (va_recv hK.1 hP (ci := 12) (q0 := 0) rfl rfl) hP hK rfl hl.1 rfl (Nat.le_of_ble_eq_true rfl) dX12_teams_12 ⟨Nat.le_of_ble_eq_true rfl, Nat.le_of_ble_eq_true rfl⟩ hP hS (fun H locs hP hS => ?_)
    refine lv_istore_n (lv' := [(2, .int z14), (0, .ref h), (1, .int p1)]) hx hb dX12_teams_15 rfl hl (by decide) rfl (fun ls hl => ?_)
    refine lv_iload_n hx hb dX12_teams_16 rfl (lv_at hl 0 rfl) ?_
    refine lv_if_ne (tgt := 22) hx hb dX12_teams_17 (by decide) (fun c15 => ?_) (fun c15 => ?_)
    · replace hf := ifn c15 hf
      refine lv_aload_n hx hb dX12_teams_22 rfl (lv_at hl 1 rfl) ?_
      refine lv_iload_n hx hb dX12_teams_23 rfl (lv_at hl 0 rfl) ?_
      obtain ⟨z16, hz16, hf⟩ := bnd hf
      refine cVR (As := [.int z14]) (rest := []) ⟨hx, hb, hml, hown, hts⟩ (mX12_sumOf l D T h a u z14 z16 hz16) (cwV 1 hts gX12_teams_X12_sumOf rfl rfl rfl (by decide +kernel) ⟨Nat.le_of_ble_eq_true rfl, Nat.le_of_ble_eq_true rfl⟩) (va_recv hK.1 hP (ci := 12) (q0 := 0) rfl rfl) hP hK rfl hl.1 rfl (Nat.le_of_ble_eq_true rfl) dX12_teams_24 ⟨Nat.le_of_ble_eq_true rfl, Nat.le_of_ble_eq_true rfl⟩ hP hS (fun H locs hP hS => ?_)
      refine lv_istore_n (lv' := [(3, .int z16), (2, .int z14), (0, .ref h), (1, .int p1)]) hx hb dX12_teams_27 rfl hl (by decide) rfl (fun ls hl => ?_)
      refine lv_iconst (v := 1) hx hb dX12_teams_28 (by decide) ?_
      refine lv_iload_n hx hb dX12_teams_29 rfl (lv_at hl 1 rfl) ?_
      obtain ⟨z17, hz17, hf⟩ := bnd hf
      refine cSR (As := [.int z14]) (rest := [.int 1]) ⟨hx, hb, hml, hown, hts⟩ (mX12_lowest l D T z14 z17 hz17) (va_cwS 1 hts gX12_teams_X12_lowest rfl rfl rfl (by decide +kernel) ⟨Nat.le_of_ble_eq_true rfl, Nat.le_of_ble_eq_true rfl⟩) P0 hK rfl hl.1 rfl (Nat.le_of_ble_eq_true rfl) dX12_teams_30 ⟨Nat.le_of_ble_eq_true rfl, Nat.le_of_ble_eq_true rfl⟩ hP hS (fun H locs hP hS => ?_)
      refine lv_ishl hx hb dX12_teams_33 ?_
      obtain ⟨t18, et18, hf⟩ := lett_e hf
      refine lv_eqi et18 ?_
      refine lv_istore (lv' := [(4, .int t18), (3, .int z16), (2, .int z14), (0, .ref h), (1, .int p1)]) hx hb dX12_teams_34 hl (by decide) rfl (fun ls hl => ?_)
      refine lv_iconst (v := 0) hx hb dX12_teams_36 (by decide) ?_
      refine lv_istore (lv' := [(5, .int 0), (4, .int t18), (3, .int z16), (2, .int z14), (0, .ref h), (1, .int p1)]) hx hb dX12_teams_37 hl (by decide) rfl (fun ls hl => ?_)
      refine lv_ldcw (v := 1000000) hx hb hown (hts (.constant RX12 360 (1000000)) (List.mem_of_getElem? (i := 1) rfl)) dX12_teams_39 ?_
      refine lv_istore (lv' := [(6, .int 1000000), (5, .int 0), (4, .int t18), (3, .int z16), (2, .int z14), (0, .ref h), (1, .int p1)]) hx hb dX12_teams_42 hl (by decide) rfl (fun ls hl => ?_)
      refine lv_iload hx hb dX12_teams_44 (lv_at hl 2 rfl) ?_
      refine lv_istore (lv' := [(7, .int t18), (6, .int 1000000), (5, .int 0), (4, .int t18), (3, .int z16), (2, .int z14), (0, .ref h), (1, .int p1)]) hx hb dX12_teams_46 hl (by decide) rfl (fun ls hl => ?_)
      exact L48 FU p1 z14 z16 t18 0 1000000 t18 _ _ _ hf hP hS (lv_sub hl [6, 7, 5, 4, 3, 2, 1, 0] rfl)
    replace hf := ifp c15 hf
    refine lv_iconst (v := 0) hx hb dX12_teams_20 (by decide) ?_
    exact retR hx hb hr hlocks hS (Option.some.inj hf) dX12_teams_21
  replace hf := ifp c13 hf
  refine lv_iconst (v := (-1)) hx hb dX12_teams_9 (by decide) ?_
  exact retR hx hb hr hlocks hS (Option.some.inj hf) dX12_teams_10
def bX12_share_L98 (u : St)  (lp98 : Int32 → Int32 → Int32 → Int32 → Int32 → Int32 → Int32 → Option (Int32)) (x1 : Int32) (x2 : Int32) (x3 : Int32) (x4 : Int32) (x5 : Int32) (x6 : Int32) (x7 : Int32) : Option (Int32) := if 16 ≤ x7 then gd (16 + x2) 98 <| dz x3 <| if x4 ≤ x6 then some (((x1 * (u 0 (ix (16 + x2)))) / x3) + 0) else some (((x1 * (u 0 (ix (16 + x2)))) / x3) + 1) else (fX12_isTold u x7).bind fun z5 => if z5 = 0 then lett (x7 + 1) fun t7 => lp98 x1 x2 x3 x4 x5 x6 t7 else if x7 = x2 then lett (x7 + 1) fun t21 => lp98 x1 x2 x3 x4 x5 x6 t21 else gd (16 + x7) 98 <| dz x3 <| lett (jrem (x1 * (u 0 (ix (16 + x7)))) x3) fun t9 => if x5 < t9 then lett (x6 + 1) fun t11 => lett (x7 + 1) fun t12 => lp98 x1 x2 x3 x4 x5 t11 t12 else if t9 = x5 then if x2 ≤ x7 then lett (x7 + 1) fun t16 => lp98 x1 x2 x3 x4 x5 x6 t16 else lett (x6 + 1) fun t17 => lett (x7 + 1) fun t18 => lp98 x1 x2 x3 x4 x5 t17 t18 else lett (x7 + 1) fun t14 => lp98 x1 x2 x3 x4 x5 x6 t14
def fX12_share_L98 (u : St)  : Nat → Int32 → Int32 → Int32 → Int32 → Int32 → Int32 → Int32 → Option (Int32)
  | 0, _, _, _, _, _, _, _ => none
  | n + 1, x1, x2, x3, x4, x5, x6, x7 => bX12_share_L98 u (fX12_share_L98 u n) x1 x2 x3 x4 x5 x6 x7
def bX12_share_L36 (u : St)  (lp36 : Int32 → Int32 → Int32 → Int32 → Int32 → Option (Int32)) (x1 : Int32) (x2 : Int32) (x3 : Int32) (x4 : Int32) (x5 : Int32) : Option (Int32) := if 16 ≤ x5 then gd (16 + x2) 98 <| dz x3 <| lett (jrem (x1 * (u 0 (ix (16 + x2)))) x3) fun t23 => fX12_share_L98 u FU x1 x2 x3 x4 t23 0 0 else (fX12_isTold u x5).bind fun z26 => if z26 = 0 then lett (x5 + 1) fun t28 => lp36 x1 x2 x3 x4 t28 else gd (16 + x5) 98 <| dz x3 <| lett (x4 - ((x1 * (u 0 (ix (16 + x5)))) / x3)) fun t29 => lett (x5 + 1) fun t30 => lp36 x1 x2 x3 t29 t30
def fX12_share_L36 (u : St)  : Nat → Int32 → Int32 → Int32 → Int32 → Int32 → Option (Int32)
  | 0, _, _, _, _, _ => none
  | n + 1, x1, x2, x3, x4, x5 => bX12_share_L36 u (fX12_share_L36 u n) x1 x2 x3 x4 x5
def fX12_share  (u : St) (p1 : Int32) (p2 : Int32) : Option (Int32) := lett (fX12_in p1 0 99999) fun z33 => if z33 = 0 then some (-1) else (fX12_isTold u p2).bind fun z35 => if z35 = 0 then some (-1) else (fX12_toldSet u).bind fun z37 => (fX12_sumOf u z37).bind fun z38 => fX12_share_L36 u FU p1 p2 z38 p1 0
set_option maxHeartbeats 4000000 in
set_option maxRecDepth 100000 in
theorem mX12_share (l : Launch) (D : va_G) (T : Ty3) (h : Nat) (a : Nat → Nat) (u : St) (p1 : Int32) (p2 : Int32) (res : Int32) (hf : fX12_share u p1 p2 = some res) : Met l yX12_share wsX12_share ({ frames := 3, cells := 0, slots := 0, locals := 65 }) (PcR D T (kX12 T h a u) [.ref h, .int p1, .int p2]) (QR res) 0 0 noA := by
  refine Met.ofW (cc := cX12_share) (maxL := 9) (ret := (some .int)) (by decide) rfl ?_
  intro p e s m args below meth c s₁ B hml hv
  obtain ⟨rfl, hP, hK⟩ := hv
  have hx := B.exec
  have hb := B.bytes
  have hr := B.returns
  have hts := atoms_spec (ws := wsX12_share) B.pre
  have hown : s.vm.findClass RX12 = some m.cls := findClass_of_methodNamed B.named
  have hlocks := B.notSynchronized
  have hS : va_S noA s.heap s.heap [] := va_S.rf
  have hinX12 : ∀ w ∈ u_ws RX12 TX12 52, w ∈ wsX12_share := fun w h => List.mem_cons_of_mem _ (List.mem_append_right _ h)
  have hl := lv_entry ([.ref h, .int p1, .int p2]) (n := 9) (Nat.le_of_ble_eq_true rfl)
  rw [lg_entry_eq]
  generalize (lg_sl ([.ref h, .int p1, .int p2]) ++ List.replicate (9 - (lg_sl ([.ref h, .int p1, .int p2])).length) Slot.unset).toArray = ls at hl ⊢
  have hl : lv_has ls 9 [(0, .ref h), (1, .int p1), (2, .int p2)] := hl
  have L98 : ∀ (n98 : Nat), ∀ (x1 : Int32) (x2 : Int32) (x3 : Int32) (x4 : Int32) (x5 : Int32) (x6 : Int32) (x7 : Int32) (H : Heap) (locs : List Loc) (ls : Array Slot), fX12_share_L98 u n98 x1 x2 x3 x4 x5 x6 x7 = some res → va_P D vwCl (kX12 T h a u) H → va_S noA s.heap H locs → lv_has ls 9 [(0, .ref h), (1, .int x1), (2, .int x2), (3, .int x3), (4, .int x4), (5, .int x5), (6, .int x6), (7, .int x7)] → W p l e (headSpec wsX12_share ({ frames := 3, cells := 0, slots := 0, locals := 65 })).room s m ([.ref h, .int p1, .int p2] : List Value).toArray below meth c H locs 0 0 (MQ below (QR res) ([.ref h, .int p1, .int p2] : List Value).toArray s 0 0 noA) (F0 m 98 ls []) := by
    intro n98
    induction n98 with
    | zero => intro x1 x2 x3 x4 x5 x6 x7 H locs ls hf; exact nns hf
    | succ n98 ih98 =>
      intro x1 x2 x3 x4 x5 x6 x7 H locs ls hf hP hS hl
      replace hf : bX12_share_L98 u (fX12_share_L98 u n98) x1 x2 x3 x4 x5 x6 x7 = some res := hf
      unfold bX12_share_L98 at hf
      refine lv_iload hx hb dX12_share_98 (lv_at hl 7 rfl) ?_
      refine lv_bipush (v := 16) hx hb dX12_share_100 (by decide) ?_
      refine lv_icmp_ge (tgt := 171) hx hb dX12_share_102 (by decide) (fun c1 => ?_) (fun c1 => ?_)
      · replace hf := ifp c1 hf
        refine lv_iload_n hx hb dX12_share_171 rfl (lv_at hl 1 rfl) ?_
        refine lv_aload_n hx hb dX12_share_172 rfl (lv_at hl 0 rfl) ?_
        refine va_get (D := D) (ci := 12) (v := .ref (a 0)) (C := RX12) (T := TX12) (N := 52) hx hb hts hinX12 hown hK.1 hP 0 rfl rfl 0 (by decide) (hts (.fieldLink RX12 7 "RopeScaleModel" "now" "[I") (List.mem_of_getElem? (i := 2) rfl)) (fun _ h9 => h9) rfl dX12_share_173 ?_
        refine lv_bipush (v := 16) hx hb dX12_share_176 (by decide) ?_
        refine lv_iload_n hx hb dX12_share_178 rfl (lv_at hl 2 rfl) ?_
        refine lv_iadd hx hb dX12_share_179 ?_
        obtain ⟨h4, hf⟩ := gd_e hf
        refine va_iald hx hb hK.1 hP 1 0 rfl rfl h4 dX12_share_180 ?_
        refine lv_imul hx hb dX12_share_181 ?_
        refine lv_iload_n hx hb dX12_share_182 rfl (lv_at hl 3 rfl) ?_
        obtain ⟨h3, hf⟩ := dz_e hf
        refine lv_idiv hx hb dX12_share_183 h3 ?_
        refine lv_iload hx hb dX12_share_184 (lv_at hl 6 rfl) ?_
        refine lv_iload hx hb dX12_share_186 (lv_at hl 4 rfl) ?_
        refine lv_icmp_ge (tgt := 195) hx hb dX12_share_188 (by decide) (fun c2 => ?_) (fun c2 => ?_)
        · replace hf := ifp c2 hf
          refine lv_iconst (v := 0) hx hb dX12_share_195 (by decide) ?_
          refine lv_iadd hx hb dX12_share_196 ?_
          exact retR hx hb hr hlocks hS (Option.some.inj hf) dX12_share_197
        replace hf := ifn c2 hf
        refine lv_iconst (v := 1) hx hb dX12_share_191 (by decide) ?_
        refine lv_goto (tgt := 196) hx hb dX12_share_192 (by decide) ?_
        refine lv_iadd hx hb dX12_share_196 ?_
        exact retR hx hb hr hlocks hS (Option.some.inj hf) dX12_share_197
      replace hf := ifn c1 hf
      refine lv_aload_n hx hb dX12_share_105 rfl (lv_at hl 0 rfl) ?_
      refine lv_iload hx hb dX12_share_106 (lv_at hl 7 rfl) ?_
      obtain ⟨z5, hz5, hf⟩ := bnd hf
      refine cVR (As := [.int x7]) (rest := []) ⟨hx, hb, hml, hown, hts⟩ (mX12_isTold l D T h a u x7 z5 hz5) (cwV 1 hts gX12_share_X12_isTold rfl rfl rfl (by decide +kernel) ⟨Nat.le_of_ble_eq_true rfl, Nat.le_of_ble_eq_true rfl⟩) (va_recv hK.1 hP (ci := 12) (q0 := 0) rfl rfl) hP hK rfl hl.1 rfl (Nat.le_of_ble_eq_true rfl) dX12_share_108 ⟨Nat.le_of_ble_eq_true rfl, Nat.le_of_ble_eq_true rfl⟩ hP hS (fun H locs hP hS => ?_)
      refine lv_if_eq (tgt := 165) hx hb dX12_share_111 (by decide) (fun c6 => ?_) (fun c6 => ?_)
      · replace hf := ifp c6 hf
        obtain ⟨t7, et7, hf⟩ := lett_e hf
        refine lv_iinc (v := t7) (lv' := [(7, .int t7), (0, .ref h), (1, .int x1), (2, .int x2), (3, .int x3), (4, .int x4), (5, .int x5), (6, .int x6)]) hx hb dX12_share_165 hl (k := 7) rfl (by rw [et7]; rfl) (by decide) rfl (fun ls hl => ?_)
        refine lv_goto (tgt := 98) hx hb dX12_share_168 (by decide) ?_
        exact ih98 x1 x2 x3 x4 x5 x6 t7 _ _ _ hf hP hS (lv_sub hl [1, 2, 3, 4, 5, 6, 7, 0] rfl)
      replace hf := ifn c6 hf
      refine lv_iload hx hb dX12_share_114 (lv_at hl 7 rfl) ?_
      refine lv_iload_n hx hb dX12_share_116 rfl (lv_at hl 2 rfl) ?_
      refine lv_icmp_ne (tgt := 123) hx hb dX12_share_117 (by decide) (fun c8 => ?_) (fun c8 => ?_)
      · replace hf := ifn c8 hf
        refine lv_iload_n hx hb dX12_share_123 rfl (lv_at hl 1 rfl) ?_
        refine lv_aload_n hx hb dX12_share_124 rfl (lv_at hl 0 rfl) ?_
        refine va_get (D := D) (ci := 12) (v := .ref (a 0)) (C := RX12) (T := TX12) (N := 52) hx hb hts hinX12 hown hK.1 hP 0 rfl rfl 0 (by decide) (hts (.fieldLink RX12 7 "RopeScaleModel" "now" "[I") (List.mem_of_getElem? (i := 2) rfl)) (fun _ h9 => h9) rfl dX12_share_125 ?_
        refine lv_bipush (v := 16) hx hb dX12_share_128 (by decide) ?_
        refine lv_iload hx hb dX12_share_130 (lv_at hl 7 rfl) ?_
        refine lv_iadd hx hb dX12_share_132 ?_
        obtain ⟨h20, hf⟩ := gd_e hf
        refine va_iald hx hb hK.1 hP 1 0 rfl rfl h20 dX12_share_133 ?_
        refine lv_imul hx hb dX12_share_134 ?_
        refine lv_iload_n hx hb dX12_share_135 rfl (lv_at hl 3 rfl) ?_
        obtain ⟨h19, hf⟩ := dz_e hf
        refine lv_irem hx hb dX12_share_136 h19 ?_
        obtain ⟨t9, et9, hf⟩ := lett_e hf
        refine lv_eqi et9 ?_
        refine lv_istore (lv' := [(8, .int t9), (0, .ref h), (1, .int x1), (2, .int x2), (3, .int x3), (4, .int x4), (5, .int x5), (6, .int x6), (7, .int x7)]) hx hb dX12_share_137 hl (by decide) rfl (fun ls hl => ?_)
        refine lv_iload hx hb dX12_share_139 (lv_at hl 0 rfl) ?_
        refine lv_iload hx hb dX12_share_141 (lv_at hl 6 rfl) ?_
        refine lv_icmp_gt (tgt := 159) hx hb dX12_share_143 (by decide) (fun c10 => ?_) (fun c10 => ?_)
        · replace hf := ifp c10 hf
          refine lv_iload hx hb dX12_share_159 (lv_at hl 7 rfl) ?_
          refine lv_iconst (v := 1) hx hb dX12_share_161 (by decide) ?_
          refine lv_iadd hx hb dX12_share_162 ?_
          obtain ⟨t11, et11, hf⟩ := lett_e hf
          refine lv_eqi et11 ?_
          refine lv_istore (lv' := [(6, .int t11), (8, .int t9), (0, .ref h), (1, .int x1), (2, .int x2), (3, .int x3), (4, .int x4), (5, .int x5), (7, .int x7)]) hx hb dX12_share_163 hl (by decide) rfl (fun ls hl => ?_)
          obtain ⟨t12, et12, hf⟩ := lett_e hf
          refine lv_iinc (v := t12) (lv' := [(7, .int t12), (6, .int t11), (8, .int t9), (0, .ref h), (1, .int x1), (2, .int x2), (3, .int x3), (4, .int x4), (5, .int x5)]) hx hb dX12_share_165 hl (k := 8) rfl (by rw [et12]; rfl) (by decide) rfl (fun ls hl => ?_)
          refine lv_goto (tgt := 98) hx hb dX12_share_168 (by decide) ?_
          exact ih98 x1 x2 x3 x4 x5 t11 t12 _ _ _ hf hP hS (lv_sub hl [3, 4, 5, 6, 7, 8, 1, 0] rfl)
        replace hf := ifn c10 hf
        refine lv_iload hx hb dX12_share_146 (lv_at hl 0 rfl) ?_
        refine lv_iload hx hb dX12_share_148 (lv_at hl 6 rfl) ?_
        refine lv_icmp_ne (tgt := 165) hx hb dX12_share_150 (by decide) (fun c13 => ?_) (fun c13 => ?_)
        · replace hf := ifn c13 hf
          obtain ⟨t14, et14, hf⟩ := lett_e hf
          refine lv_iinc (v := t14) (lv' := [(7, .int t14), (8, .int t9), (0, .ref h), (1, .int x1), (2, .int x2), (3, .int x3), (4, .int x4), (5, .int x5), (6, .int x6)]) hx hb dX12_share_165 hl (k := 8) rfl (by rw [et14]; rfl) (by decide) rfl (fun ls hl => ?_)
          refine lv_goto (tgt := 98) hx hb dX12_share_168 (by decide) ?_
          exact ih98 x1 x2 x3 x4 x5 x6 t14 _ _ _ hf hP hS (lv_sub hl [2, 3, 4, 5, 6, 7, 8, 0] rfl)
        replace hf := ifp c13 hf
        refine lv_iload hx hb dX12_share_153 (lv_at hl 8 rfl) ?_
        refine lv_iload_n hx hb dX12_share_155 rfl (lv_at hl 3 rfl) ?_
        refine lv_icmp_ge (tgt := 165) hx hb dX12_share_156 (by decide) (fun c15 => ?_) (fun c15 => ?_)
        · replace hf := ifp c15 hf
          obtain ⟨t16, et16, hf⟩ := lett_e hf
          refine lv_iinc (v := t16) (lv' := [(7, .int t16), (8, .int t9), (0, .ref h), (1, .int x1), (2, .int x2), (3, .int x3), (4, .int x4), (5, .int x5), (6, .int x6)]) hx hb dX12_share_165 hl (k := 8) rfl (by rw [et16]; rfl) (by decide) rfl (fun ls hl => ?_)
          refine lv_goto (tgt := 98) hx hb dX12_share_168 (by decide) ?_
          exact ih98 x1 x2 x3 x4 x5 x6 t16 _ _ _ hf hP hS (lv_sub hl [2, 3, 4, 5, 6, 7, 8, 0] rfl)
        replace hf := ifn c15 hf
        refine lv_iload hx hb dX12_share_159 (lv_at hl 7 rfl) ?_
        refine lv_iconst (v := 1) hx hb dX12_share_161 (by decide) ?_
        refine lv_iadd hx hb dX12_share_162 ?_
        obtain ⟨t17, et17, hf⟩ := lett_e hf
        refine lv_eqi et17 ?_
        refine lv_istore (lv' := [(6, .int t17), (8, .int t9), (0, .ref h), (1, .int x1), (2, .int x2), (3, .int x3), (4, .int x4), (5, .int x5), (7, .int x7)]) hx hb dX12_share_163 hl (by decide) rfl (fun ls hl => ?_)
        obtain ⟨t18, et18, hf⟩ := lett_e hf
        refine lv_iinc (v := t18) (lv' := [(7, .int t18), (6, .int t17), (8, .int t9), (0, .ref h), (1, .int x1), (2, .int x2), (3, .int x3), (4, .int x4), (5, .int x5)]) hx hb dX12_share_165 hl (k := 8) rfl (by rw [et18]; rfl) (by decide) rfl (fun ls hl => ?_)
        refine lv_goto (tgt := 98) hx hb dX12_share_168 (by decide) ?_
        exact ih98 x1 x2 x3 x4 x5 t17 t18 _ _ _ hf hP hS (lv_sub hl [3, 4, 5, 6, 7, 8, 1, 0] rfl)
      replace hf := ifp c8 hf
      refine lv_goto (tgt := 165) hx hb dX12_share_120 (by decide) ?_
      obtain ⟨t21, et21, hf⟩ := lett_e hf
      refine lv_iinc (v := t21) (lv' := [(7, .int t21), (0, .ref h), (1, .int x1), (2, .int x2), (3, .int x3), (4, .int x4), (5, .int x5), (6, .int x6)]) hx hb dX12_share_165 hl (k := 7) rfl (by rw [et21]; rfl) (by decide) rfl (fun ls hl => ?_)
      refine lv_goto (tgt := 98) hx hb dX12_share_168 (by decide) ?_
      exact ih98 x1 x2 x3 x4 x5 x6 t21 _ _ _ hf hP hS (lv_sub hl [1, 2, 3, 4, 5, 6, 7, 0] rfl)
  have L36 : ∀ (n36 : Nat), ∀ (x1 : Int32) (x2 : Int32) (x3 : Int32) (x4 : Int32) (x5 : Int32) (H : Heap) (locs : List Loc) (ls : Array Slot), fX12_share_L36 u n36 x1 x2 x3 x4 x5 = some res → va_P D vwCl (kX12 T h a u) H → va_S noA s.heap H locs → lv_has ls 9 [(0, .ref h), (1, .int x1), (2, .int x2), (3, .int x3), (4, .int x4), (5, .int x5)] → W p l e (headSpec wsX12_share ({ frames := 3, cells := 0, slots := 0, locals := 65 })).room s m ([.ref h, .int p1, .int p2] : List Value).toArray below meth c H locs 0 0 (MQ below (QR res) ([.ref h, .int p1, .int p2] : List Value).toArray s 0 0 noA) (F0 m 36 ls []) := by
    intro n36
    induction n36 with
    | zero => intro x1 x2 x3 x4 x5 H locs ls hf; exact nns hf
    | succ n36 ih36 =>
      intro x1 x2 x3 x4 x5 H locs ls hf hP hS hl
      replace hf : bX12_share_L36 u (fX12_share_L36 u n36) x1 x2 x3 x4 x5 = some res := hf
      unfold bX12_share_L36 at hf
      refine lv_iload hx hb dX12_share_36 (lv_at hl 5 rfl) ?_
      refine lv_bipush (v := 16) hx hb dX12_share_38 (by decide) ?_
      refine lv_icmp_ge (tgt := 77) hx hb dX12_share_40 (by decide) (fun c22 => ?_) (fun c22 => ?_)
      · replace hf := ifp c22 hf
        refine lv_iload_n hx hb dX12_share_77 rfl (lv_at hl 1 rfl) ?_
        refine lv_aload_n hx hb dX12_share_78 rfl (lv_at hl 0 rfl) ?_
        refine va_get (D := D) (ci := 12) (v := .ref (a 0)) (C := RX12) (T := TX12) (N := 52) hx hb hts hinX12 hown hK.1 hP 0 rfl rfl 0 (by decide) (hts (.fieldLink RX12 7 "RopeScaleModel" "now" "[I") (List.mem_of_getElem? (i := 2) rfl)) (fun _ h9 => h9) rfl dX12_share_79 ?_
        refine lv_bipush (v := 16) hx hb dX12_share_82 (by decide) ?_
        refine lv_iload_n hx hb dX12_share_84 rfl (lv_at hl 2 rfl) ?_
        refine lv_iadd hx hb dX12_share_85 ?_
        obtain ⟨h25, hf⟩ := gd_e hf
        refine va_iald hx hb hK.1 hP 1 0 rfl rfl h25 dX12_share_86 ?_
        refine lv_imul hx hb dX12_share_87 ?_
        refine lv_iload_n hx hb dX12_share_88 rfl (lv_at hl 3 rfl) ?_
        obtain ⟨h24, hf⟩ := dz_e hf
        refine lv_irem hx hb dX12_share_89 h24 ?_
        obtain ⟨t23, et23, hf⟩ := lett_e hf
        refine lv_eqi et23 ?_
        refine lv_istore (lv' := [(5, .int t23), (0, .ref h), (1, .int x1), (2, .int x2), (3, .int x3), (4, .int x4)]) hx hb dX12_share_90 hl (by decide) rfl (fun ls hl => ?_)
        refine lv_iconst (v := 0) hx hb dX12_share_92 (by decide) ?_
        refine lv_istore (lv' := [(6, .int 0), (5, .int t23), (0, .ref h), (1, .int x1), (2, .int x2), (3, .int x3), (4, .int x4)]) hx hb dX12_share_93 hl (by decide) rfl (fun ls hl => ?_)
        refine lv_iconst (v := 0) hx hb dX12_share_95 (by decide) ?_
        refine lv_istore (lv' := [(7, .int 0), (6, .int 0), (5, .int t23), (0, .ref h), (1, .int x1), (2, .int x2), (3, .int x3), (4, .int x4)]) hx hb dX12_share_96 hl (by decide) rfl (fun ls hl => ?_)
        exact L98 FU x1 x2 x3 x4 t23 0 0 _ _ _ hf hP hS (lv_sub hl [3, 4, 5, 6, 7, 2, 1, 0] rfl)
      replace hf := ifn c22 hf
      refine lv_aload_n hx hb dX12_share_43 rfl (lv_at hl 0 rfl) ?_
      refine lv_iload hx hb dX12_share_44 (lv_at hl 5 rfl) ?_
      obtain ⟨z26, hz26, hf⟩ := bnd hf
      refine cVR (As := [.int x5]) (rest := []) ⟨hx, hb, hml, hown, hts⟩ (mX12_isTold l D T h a u x5 z26 hz26) (cwV 1 hts gX12_share_X12_isTold rfl rfl rfl (by decide +kernel) ⟨Nat.le_of_ble_eq_true rfl, Nat.le_of_ble_eq_true rfl⟩) (va_recv hK.1 hP (ci := 12) (q0 := 0) rfl rfl) hP hK rfl hl.1 rfl (Nat.le_of_ble_eq_true rfl) dX12_share_46 ⟨Nat.le_of_ble_eq_true rfl, Nat.le_of_ble_eq_true rfl⟩ hP hS (fun H locs hP hS => ?_)
      refine lv_if_eq (tgt := 71) hx hb dX12_share_49 (by decide) (fun c27 => ?_) (fun c27 => ?_)
      · replace hf := ifp c27 hf
        obtain ⟨t28, et28, hf⟩ := lett_e hf
        refine lv_iinc (v := t28) (lv' := [(5, .int t28), (0, .ref h), (1, .int x1), (2, .int x2), (3, .int x3), (4, .int x4)]) hx hb dX12_share_71 hl (k := 5) rfl (by rw [et28]; rfl) (by decide) rfl (fun ls hl => ?_)
        refine lv_goto (tgt := 36) hx hb dX12_share_74 (by decide) ?_
        exact ih36 x1 x2 x3 x4 t28 _ _ _ hf hP hS (lv_sub hl [1, 2, 3, 4, 5, 0] rfl)
      replace hf := ifn c27 hf
      refine lv_iload hx hb dX12_share_52 (lv_at hl 4 rfl) ?_
      refine lv_iload_n hx hb dX12_share_54 rfl (lv_at hl 1 rfl) ?_
      refine lv_aload_n hx hb dX12_share_55 rfl (lv_at hl 0 rfl) ?_
      refine va_get (D := D) (ci := 12) (v := .ref (a 0)) (C := RX12) (T := TX12) (N := 52) hx hb hts hinX12 hown hK.1 hP 0 rfl rfl 0 (by decide) (hts (.fieldLink RX12 7 "RopeScaleModel" "now" "[I") (List.mem_of_getElem? (i := 2) rfl)) (fun _ h9 => h9) rfl dX12_share_56 ?_
      refine lv_bipush (v := 16) hx hb dX12_share_59 (by decide) ?_
      refine lv_iload hx hb dX12_share_61 (lv_at hl 5 rfl) ?_
      refine lv_iadd hx hb dX12_share_63 ?_
      obtain ⟨h32, hf⟩ := gd_e hf
      refine va_iald hx hb hK.1 hP 1 0 rfl rfl h32 dX12_share_64 ?_
      refine lv_imul hx hb dX12_share_65 ?_
      refine lv_iload_n hx hb dX12_share_66 rfl (lv_at hl 3 rfl) ?_
      obtain ⟨h31, hf⟩ := dz_e hf
      refine lv_idiv hx hb dX12_share_67 h31 ?_
      refine lv_isub hx hb dX12_share_68 ?_
      obtain ⟨t29, et29, hf⟩ := lett_e hf
      refine lv_eqi et29 ?_
      refine lv_istore (lv' := [(4, .int t29), (0, .ref h), (1, .int x1), (2, .int x2), (3, .int x3), (5, .int x5)]) hx hb dX12_share_69 hl (by decide) rfl (fun ls hl => ?_)
      obtain ⟨t30, et30, hf⟩ := lett_e hf
      refine lv_iinc (v := t30) (lv' := [(5, .int t30), (4, .int t29), (0, .ref h), (1, .int x1), (2, .int x2), (3, .int x3)]) hx hb dX12_share_71 hl (k := 5) rfl (by rw [et30]; rfl) (by decide) rfl (fun ls hl => ?_)
      refine lv_goto (tgt := 36) hx hb dX12_share_74 (by decide) ?_
      exact ih36 x1 x2 x3 t29 t30 _ _ _ hf hP hS (lv_sub hl [2, 3, 4, 5, 1, 0] rfl)
  unfold fX12_share at hf
  refine lv_iload_n hx hb dX12_share_0 rfl (lv_at hl 1 rfl) ?_
  refine lv_iconst (v := 0) hx hb dX12_share_1 (by decide) ?_
  refine lv_ldcw (v := 99999) hx hb hown (hts (.constant RX12 361 (99999)) (List.mem_of_getElem? (i := 1) rfl)) dX12_share_2 ?_
  obtain ⟨z33, hz33, hf⟩ := lett_e hf
  refine cSR (As := [.int p1, .int 0, .int 99999]) (rest := []) ⟨hx, hb, hml, hown, hts⟩ (mX12_in l D T p1 0 99999 z33 hz33.symm) (va_cwS 3 hts gX12_share_X12_in rfl rfl rfl (by decide +kernel) ⟨Nat.le_of_ble_eq_true rfl, Nat.le_of_ble_eq_true rfl⟩) P0 hK rfl hl.1 rfl (Nat.le_of_ble_eq_true rfl) dX12_share_5 ⟨Nat.le_of_ble_eq_true rfl, Nat.le_of_ble_eq_true rfl⟩ hP hS (fun H locs hP hS => ?_)
  refine lv_if_eq (tgt := 19) hx hb dX12_share_8 (by decide) (fun c34 => ?_) (fun c34 => ?_)
  · replace hf := ifp c34 hf
    refine lv_iconst (v := (-1)) hx hb dX12_share_19 (by decide) ?_
    exact retR hx hb hr hlocks hS (Option.some.inj hf) dX12_share_20
  replace hf := ifn c34 hf
  refine lv_aload_n hx hb dX12_share_11 rfl (lv_at hl 0 rfl) ?_
  refine lv_iload_n hx hb dX12_share_12 rfl (lv_at hl 2 rfl) ?_
  obtain ⟨z35, hz35, hf⟩ := bnd hf
  refine cVR (As := [.int p2]) (rest := []) ⟨hx, hb, hml, hown, hts⟩ (mX12_isTold l D T h a u p2 z35 hz35) (cwV 1 hts gX12_share_X12_isTold rfl rfl rfl (by decide +kernel) ⟨Nat.le_of_ble_eq_true rfl, Nat.le_of_ble_eq_true rfl⟩) (va_recv hK.1 hP (ci := 12) (q0 := 0) rfl rfl) hP hK rfl hl.1 rfl (Nat.le_of_ble_eq_true rfl) dX12_share_13 ⟨Nat.le_of_ble_eq_true rfl, Nat.le_of_ble_eq_true rfl⟩ hP hS (fun H locs hP hS => ?_)
  refine lv_if_ne (tgt := 21) hx hb dX12_share_16 (by decide) (fun c36 => ?_) (fun c36 => ?_)
  · replace hf := ifn c36 hf
    refine lv_aload_n hx hb dX12_share_21 rfl (lv_at hl 0 rfl) ?_
    refine lv_aload_n hx hb dX12_share_22 rfl (lv_at hl 0 rfl) ?_
    obtain ⟨z37, hz37, hf⟩ := bnd hf
    refine cVR (As := []) (rest := [.ref h]) ⟨hx, hb, hml, hown, hts⟩ (mX12_toldSet l D T h a u z37 hz37) (cwV 0 hts gX12_share_X12_toldSet rfl rfl rfl (by decide +kernel) ⟨Nat.le_of_ble_eq_true rfl, Nat.le_of_ble_eq_true rfl⟩) (va_recv hK.1 hP (ci := 12) (q0 := 0) rfl rfl) hP hK rfl hl.1 rfl (Nat.le_of_ble_eq_true rfl) dX12_share_23 ⟨Nat.le_of_ble_eq_true rfl, Nat.le_of_ble_eq_true rfl⟩ hP hS (fun H locs hP hS => ?_)
    obtain ⟨z38, hz38, hf⟩ := bnd hf
    refine cVR (As := [.int z37]) (rest := []) ⟨hx, hb, hml, hown, hts⟩ (mX12_sumOf l D T h a u z37 z38 hz38) (cwV 1 hts gX12_share_X12_sumOf rfl rfl rfl (by decide +kernel) ⟨Nat.le_of_ble_eq_true rfl, Nat.le_of_ble_eq_true rfl⟩) (va_recv hK.1 hP (ci := 12) (q0 := 0) rfl rfl) hP hK rfl hl.1 rfl (Nat.le_of_ble_eq_true rfl) dX12_share_26 ⟨Nat.le_of_ble_eq_true rfl, Nat.le_of_ble_eq_true rfl⟩ hP hS (fun H locs hP hS => ?_)
    refine lv_istore_n (lv' := [(3, .int z38), (0, .ref h), (1, .int p1), (2, .int p2)]) hx hb dX12_share_29 rfl hl (by decide) rfl (fun ls hl => ?_)
    refine lv_iload_n hx hb dX12_share_30 rfl (lv_at hl 2 rfl) ?_
    refine lv_istore (lv' := [(4, .int p1), (3, .int z38), (0, .ref h), (1, .int p1), (2, .int p2)]) hx hb dX12_share_31 hl (by decide) rfl (fun ls hl => ?_)
    refine lv_iconst (v := 0) hx hb dX12_share_33 (by decide) ?_
    refine lv_istore (lv' := [(5, .int 0), (4, .int p1), (3, .int z38), (0, .ref h), (1, .int p1), (2, .int p2)]) hx hb dX12_share_34 hl (by decide) rfl (fun ls hl => ?_)
    exact L36 FU p1 p2 z38 p1 0 _ _ _ hf hP hS (lv_sub hl [3, 4, 5, 2, 1, 0] rfl)
  replace hf := ifp c36 hf
  refine lv_iconst (v := (-1)) hx hb dX12_share_19 (by decide) ?_
  exact retR hx hb hr hlocks hS (Option.some.inj hf) dX12_share_20
def bX12_areAll_L2 (u : St)  (lp2 : Int32 → Int32 → Option (Int32)) (x1 : Int32) (x2 : Int32) : Option (Int32) := if x1 ≤ x2 then some 1 else (fX12_octet u x2).bind fun z2 => if z2 = 0 then some 0 else lett (x2 + 1) fun t4 => lp2 x1 t4
def fX12_areAll_L2 (u : St)  : Nat → Int32 → Int32 → Option (Int32)
  | 0, _, _ => none
  | n + 1, x1, x2 => bX12_areAll_L2 u (fX12_areAll_L2 u n) x1 x2
def fX12_areAll  (u : St) (p1 : Int32) : Option (Int32) := fX12_areAll_L2 u FU p1 0
set_option maxHeartbeats 4000000 in
set_option maxRecDepth 100000 in
theorem mX12_areAll (l : Launch) (D : va_G) (T : Ty3) (h : Nat) (a : Nat → Nat) (u : St) (p1 : Int32) (res : Int32) (hf : fX12_areAll u p1 = some res) : Met l yX12_areAll wsX12_areAll ({ frames := 1, cells := 0, slots := 0, locals := 21 }) (PcR D T (kX12 T h a u) [.ref h, .int p1]) (QR res) 0 0 noA := by
  refine Met.ofW (cc := cX12_areAll) (maxL := 3) (ret := (some .boolean)) (by decide) rfl ?_
  intro p e s m args below meth c s₁ B hml hv
  obtain ⟨rfl, hP, hK⟩ := hv
  have hx := B.exec
  have hb := B.bytes
  have hr := B.returns
  have hts := atoms_spec (ws := wsX12_areAll) B.pre
  have hown : s.vm.findClass RX12 = some m.cls := findClass_of_methodNamed B.named
  have hlocks := B.notSynchronized
  have hS : va_S noA s.heap s.heap [] := va_S.rf
  have hinX12 : ∀ w ∈ u_ws RX12 TX12 52, w ∈ wsX12_areAll := fun w h => List.mem_cons_of_mem _ (List.mem_append_right _ h)
  have hl := lv_entry ([.ref h, .int p1]) (n := 3) (Nat.le_of_ble_eq_true rfl)
  rw [lg_entry_eq]
  generalize (lg_sl ([.ref h, .int p1]) ++ List.replicate (3 - (lg_sl ([.ref h, .int p1])).length) Slot.unset).toArray = ls at hl ⊢
  have hl : lv_has ls 3 [(0, .ref h), (1, .int p1)] := hl
  have L2 : ∀ (n2 : Nat), ∀ (x1 : Int32) (x2 : Int32) (H : Heap) (locs : List Loc) (ls : Array Slot), fX12_areAll_L2 u n2 x1 x2 = some res → va_P D vwCl (kX12 T h a u) H → va_S noA s.heap H locs → lv_has ls 3 [(0, .ref h), (1, .int x1), (2, .int x2)] → W p l e (headSpec wsX12_areAll ({ frames := 1, cells := 0, slots := 0, locals := 21 })).room s m ([.ref h, .int p1] : List Value).toArray below meth c H locs 0 0 (MQ below (QR res) ([.ref h, .int p1] : List Value).toArray s 0 0 noA) (F0 m 2 ls []) := by
    intro n2
    induction n2 with
    | zero => intro x1 x2 H locs ls hf; exact nns hf
    | succ n2 ih2 =>
      intro x1 x2 H locs ls hf hP hS hl
      replace hf : bX12_areAll_L2 u (fX12_areAll_L2 u n2) x1 x2 = some res := hf
      unfold bX12_areAll_L2 at hf
      refine lv_iload_n hx hb dX12_areAll_2 rfl (lv_at hl 2 rfl) ?_
      refine lv_iload_n hx hb dX12_areAll_3 rfl (lv_at hl 1 rfl) ?_
      refine lv_icmp_ge (tgt := 23) hx hb dX12_areAll_4 (by decide) (fun c1 => ?_) (fun c1 => ?_)
      · replace hf := ifp c1 hf
        refine lv_iconst (v := 1) hx hb dX12_areAll_23 (by decide) ?_
        exact retRz hx hb hr hlocks hS rfl (Option.some.inj hf) dX12_areAll_24
      replace hf := ifn c1 hf
      refine lv_aload_n hx hb dX12_areAll_7 rfl (lv_at hl 0 rfl) ?_
      refine lv_iload_n hx hb dX12_areAll_8 rfl (lv_at hl 2 rfl) ?_
      obtain ⟨z2, hz2, hf⟩ := bnd hf
      refine cVR (As := [.int x2]) (rest := []) ⟨hx, hb, hml, hown, hts⟩ (mX12_octet l D T h a u x2 z2 hz2) (cwV 1 hts gX12_areAll_X12_octet rfl rfl rfl (by decide +kernel) ⟨Nat.le_of_ble_eq_true rfl, Nat.le_of_ble_eq_true rfl⟩) (va_recv hK.1 hP (ci := 12) (q0 := 0) rfl rfl) hP hK rfl hl.1 rfl (Nat.le_of_ble_eq_true rfl) dX12_areAll_9 ⟨Nat.le_of_ble_eq_true rfl, Nat.le_of_ble_eq_true rfl⟩ hP hS (fun H locs hP hS => ?_)
      refine lv_if_ne (tgt := 17) hx hb dX12_areAll_12 (by decide) (fun c3 => ?_) (fun c3 => ?_)
      · replace hf := ifn c3 hf
        obtain ⟨t4, et4, hf⟩ := lett_e hf
        refine lv_iinc (v := t4) (lv' := [(2, .int t4), (0, .ref h), (1, .int x1)]) hx hb dX12_areAll_17 hl (k := 2) rfl (by rw [et4]; rfl) (by decide) rfl (fun ls hl => ?_)
        refine lv_goto (tgt := 2) hx hb dX12_areAll_20 (by decide) ?_
        exact ih2 x1 t4 _ _ _ hf hP hS (lv_sub hl [1, 2, 0] rfl)
      replace hf := ifp c3 hf
      refine lv_iconst (v := 0) hx hb dX12_areAll_15 (by decide) ?_
      exact retRz hx hb hr hlocks hS rfl (Option.some.inj hf) dX12_areAll_16
  unfold fX12_areAll at hf
  refine lv_iconst (v := 0) hx hb dX12_areAll_0 (by decide) ?_
  refine lv_istore_n (lv' := [(2, .int 0), (0, .ref h), (1, .int p1)]) hx hb dX12_areAll_1 rfl hl (by decide) rfl (fun ls hl => ?_)
  exact L2 FU p1 0 _ _ _ hf hP hS (lv_sub hl [1, 2, 0] rfl)
def bX12_laysFewest_L96  (lp38 : St → Int32 → Int32 → Int32 → Int32 → Option (St)) (lp96 : St → Int32 → Int32 → Int32 → Int32 → Int32 → Int32 → Option (St)) (v : St) (x1 : Int32) (x2 : Int32) (x3 : Int32) (x4 : Int32) (x5 : Int32) (x6 : Int32) : Option (St) := if (2040 + x3) < x6 then lett (x3 + x5) fun t2 => lett (x4 + 1) fun t3 => lp38 v x1 x2 t2 t3 else gd (x6 + x5) 4081 <| gd x6 4081 <| lett (fX12_min (v 47 (ix (x6 + x5))) ((v 48 (ix x6)) + 1)) fun z4 => gd (x6 + x5) 4081 <| lett (st v 47 (ix (x6 + x5)) z4) fun u5 => if x2 = 0 then lett (x6 + 1) fun t7 => lp96 u5 x1 x2 x3 x4 x5 t7 else gd (x6 - x5) 4081 <| gd x6 4081 <| lett (fX12_min (u5 47 (ix (x6 - x5))) ((u5 48 (ix x6)) + 1)) fun z8 => gd (x6 - x5) 4081 <| lett (st u5 47 (ix (x6 - x5)) z8) fun u9 => lett (x6 + 1) fun t10 => lp96 u9 x1 x2 x3 x4 x5 t10
def fX12_laysFewest_L96  (lp38 : St → Int32 → Int32 → Int32 → Int32 → Option (St)) : Nat → St → Int32 → Int32 → Int32 → Int32 → Int32 → Int32 → Option (St)
  | 0, _, _, _, _, _, _, _ => none
  | n + 1, v, x1, x2, x3, x4, x5, x6 => bX12_laysFewest_L96 lp38 (fX12_laysFewest_L96 lp38 n) v x1 x2 x3 x4 x5 x6
def bX12_laysFewest_L59  (lp38 : St → Int32 → Int32 → Int32 → Int32 → Option (St)) (lp59 : St → Int32 → Int32 → Int32 → Int32 → Int32 → Int32 → Option (St)) (v : St) (x1 : Int32) (x2 : Int32) (x3 : Int32) (x4 : Int32) (x5 : Int32) (x6 : Int32) : Option (St) := if (2040 + x3) < x6 then lett (2040 - x3) fun t18 => fX12_laysFewest_L96 lp38 FU v x1 x2 x3 x4 x5 t18 else gd x6 4081 <| gd x6 4081 <| lett (st v 48 (ix x6) (v 47 (ix x6))) fun u19 => lett (x6 + 1) fun t20 => lp59 u19 x1 x2 x3 x4 x5 t20
def fX12_laysFewest_L59  (lp38 : St → Int32 → Int32 → Int32 → Int32 → Option (St)) : Nat → St → Int32 → Int32 → Int32 → Int32 → Int32 → Int32 → Option (St)
  | 0, _, _, _, _, _, _, _ => none
  | n + 1, v, x1, x2, x3, x4, x5, x6 => bX12_laysFewest_L59 lp38 (fX12_laysFewest_L59 lp38 n) v x1 x2 x3 x4 x5 x6
def bX12_laysFewest_L38   (lp38 : St → Int32 → Int32 → Int32 → Int32 → Option (St)) (v : St) (x1 : Int32) (x2 : Int32) (x3 : Int32) (x4 : Int32) : Option (St) := if x1 ≤ x4 then some v else (fX12_octet v x4).bind fun z24 => lett (2040 - x3) fun t25 => fX12_laysFewest_L59 lp38 FU v x1 x2 x3 x4 z24 t25
def fX12_laysFewest_L38   : Nat → St → Int32 → Int32 → Int32 → Int32 → Option (St)
  | 0, _, _, _, _, _ => none
  | n + 1, v, x1, x2, x3, x4 => bX12_laysFewest_L38  (fX12_laysFewest_L38  n) v x1 x2 x3 x4
def bX12_laysFewest_L2   (lp2 : St → Int32 → Int32 → Int32 → Option (St)) (v : St) (x1 : Int32) (x2 : Int32) (x3 : Int32) : Option (St) := if 4080 < x3 then gd 2040 4081 <| lett (st v 47 (ix 2040) 0) fun u27 => fX12_laysFewest_L38 FU u27 x1 x2 0 0 else gd x3 4081 <| lett (st v 47 (ix x3) 1000000) fun u29 => lett (x3 + 1) fun t30 => lp2 u29 x1 x2 t30
def fX12_laysFewest_L2   : Nat → St → Int32 → Int32 → Int32 → Option (St)
  | 0, _, _, _, _ => none
  | n + 1, v, x1, x2, x3 => bX12_laysFewest_L2  (fX12_laysFewest_L2  n) v x1 x2 x3
def fX12_laysFewest  (u : St) (p1 : Int32) (p2 : Int32) : Option (St) := fX12_laysFewest_L2 FU u p1 p2 0
set_option maxHeartbeats 4000000 in
set_option maxRecDepth 100000 in
theorem mX12_laysFewest (l : Launch) (D : va_G) (T : Ty3) (h : Nat) (a : Nat → Nat) (u : St) (sz : Nat) (p1 : Int32) (p2 : Int32) (res : St) (hf : fX12_laysFewest u p1 p2 = some res) : Met l yX12_laysFewest wsX12_laysFewest ({ frames := 1, cells := 0, slots := 0, locals := 21 }) (PcM D T (kX12 T h a u) sz [.ref h, .int p1, .int p2]) (QMv D (kX12 T h a u) sz (kX12 T h a res)) 0 0 (va_A (kX12 T h a u) sz) := by
  refine Met.ofW (cc := cX12_laysFewest) (maxL := 7) (ret := none) (by decide) rfl ?_
  intro p e s m args below meth c s₁ B hml hv
  obtain ⟨rfl, hsz, hP, hK, hD0⟩ := hv
  have hx := B.exec
  have hb := B.bytes
  have hr := B.returns
  have hts := atoms_spec (ws := wsX12_laysFewest) B.pre
  have hown : s.vm.findClass RX12 = some m.cls := findClass_of_methodNamed B.named
  have hlocks := B.notSynchronized
  subst hsz
  have hD := hD0.self (sz := s.heap.size)
  have hA : ∀ q : Nat, s.heap.size ≤ q → va_A (kX12 T h a u) s.heap.size q := fun q h => Or.inr h
  have hS : va_S (va_A (kX12 T h a u) s.heap.size) s.heap s.heap [] := va_S.rf
  have hinX12 : ∀ w ∈ u_ws RX12 TX12 52, w ∈ wsX12_laysFewest := fun w h => List.mem_cons_of_mem _ (List.mem_append_right _ h)
  have hl := lv_entry ([.ref h, .int p1, .int p2]) (n := 7) (Nat.le_of_ble_eq_true rfl)
  rw [lg_entry_eq]
  generalize (lg_sl ([.ref h, .int p1, .int p2]) ++ List.replicate (7 - (lg_sl ([.ref h, .int p1, .int p2])).length) Slot.unset).toArray = ls at hl ⊢
  have hl : lv_has ls 7 [(0, .ref h), (1, .int p1), (2, .int p2)] := hl
  have L38 : ∀ (n38 : Nat), ∀ (v : St) (x1 : Int32) (x2 : Int32) (x3 : Int32) (x4 : Int32) (H : Heap) (locs : List Loc) (ls : Array Slot), fX12_laysFewest_L38  n38 v x1 x2 x3 x4 = some res → va_P D vwCl (kX12 T h a v) H → va_D (va_A (kX12 T h a u) s.heap.size) (kX12 T h a v) → va_S (va_A (kX12 T h a u) s.heap.size) s.heap H locs → lv_has ls 7 [(0, .ref h), (1, .int x1), (2, .int x2), (3, .int x3), (4, .int x4)] → W p l e (headSpec wsX12_laysFewest ({ frames := 1, cells := 0, slots := 0, locals := 21 })).room s m ([.ref h, .int p1, .int p2] : List Value).toArray below meth c H locs 0 0 (MQ below (QMv D (kX12 T h a u) s.heap.size (kX12 T h a res)) ([.ref h, .int p1, .int p2] : List Value).toArray s 0 0 (va_A (kX12 T h a u) s.heap.size)) (F0 m 38 ls []) := by
    intro n38
    induction n38 with
    | zero => intro v x1 x2 x3 x4 H locs ls hf; exact nns hf
    | succ n38 ih38 =>
      have L96 : ∀ (n96 : Nat), ∀ (v : St) (x1 : Int32) (x2 : Int32) (x3 : Int32) (x4 : Int32) (x5 : Int32) (x6 : Int32) (H : Heap) (locs : List Loc) (ls : Array Slot), fX12_laysFewest_L96 (fX12_laysFewest_L38  n38) n96 v x1 x2 x3 x4 x5 x6 = some res → va_P D vwCl (kX12 T h a v) H → va_D (va_A (kX12 T h a u) s.heap.size) (kX12 T h a v) → va_S (va_A (kX12 T h a u) s.heap.size) s.heap H locs → lv_has ls 7 [(0, .ref h), (1, .int x1), (2, .int x2), (3, .int x3), (4, .int x4), (5, .int x5), (6, .int x6)] → W p l e (headSpec wsX12_laysFewest ({ frames := 1, cells := 0, slots := 0, locals := 21 })).room s m ([.ref h, .int p1, .int p2] : List Value).toArray below meth c H locs 0 0 (MQ below (QMv D (kX12 T h a u) s.heap.size (kX12 T h a res)) ([.ref h, .int p1, .int p2] : List Value).toArray s 0 0 (va_A (kX12 T h a u) s.heap.size)) (F0 m 96 ls []) := by
        intro n96
        induction n96 with
        | zero => intro v x1 x2 x3 x4 x5 x6 H locs ls hf; exact nns hf
        | succ n96 ih96 =>
          intro v x1 x2 x3 x4 x5 x6 H locs ls hf hP hD hS hl
          replace hf : bX12_laysFewest_L96 (fX12_laysFewest_L38  n38) (fX12_laysFewest_L96 (fX12_laysFewest_L38  n38) n96) v x1 x2 x3 x4 x5 x6 = some res := hf
          unfold bX12_laysFewest_L96 at hf
          refine lv_iload hx hb dX12_laysFewest_96 (lv_at hl 6 rfl) ?_
          refine lv_sipush (v := 2040) hx hb dX12_laysFewest_98 (by decide) ?_
          refine lv_iload_n hx hb dX12_laysFewest_101 rfl (lv_at hl 3 rfl) ?_
          refine lv_iadd hx hb dX12_laysFewest_102 ?_
          refine lv_icmp_gt (tgt := 180) hx hb dX12_laysFewest_103 (by decide) (fun c1 => ?_) (fun c1 => ?_)
          · replace hf := ifp c1 hf
            refine lv_iload_n hx hb dX12_laysFewest_180 rfl (lv_at hl 3 rfl) ?_
            refine lv_iload hx hb dX12_laysFewest_181 (lv_at hl 5 rfl) ?_
            refine lv_iadd hx hb dX12_laysFewest_183 ?_
            obtain ⟨t2, et2, hf⟩ := lett_e hf
            refine lv_eqi et2 ?_
            refine lv_istore_n (lv' := [(3, .int t2), (0, .ref h), (1, .int x1), (2, .int x2), (4, .int x4), (5, .int x5), (6, .int x6)]) hx hb dX12_laysFewest_184 rfl hl (by decide) rfl (fun ls hl => ?_)
            obtain ⟨t3, et3, hf⟩ := lett_e hf
            refine lv_iinc (v := t3) (lv' := [(4, .int t3), (3, .int t2), (0, .ref h), (1, .int x1), (2, .int x2), (5, .int x5), (6, .int x6)]) hx hb dX12_laysFewest_185 hl (k := 4) rfl (by rw [et3]; rfl) (by decide) rfl (fun ls hl => ?_)
            refine lv_goto (tgt := 38) hx hb dX12_laysFewest_188 (by decide) ?_
            exact ih38 v x1 x2 t2 t3 _ _ _ hf hP hD hS (lv_sub hl [2, 3, 4, 1, 0] rfl)
          replace hf := ifn c1 hf
          refine lv_aload_n hx hb dX12_laysFewest_106 rfl (lv_at hl 0 rfl) ?_
          refine va_get (D := D) (ci := 12) (v := .ref (a 47)) (C := RX12) (T := TX12) (N := 52) hx hb hts hinX12 hown hK.1 hP 0 rfl rfl 47 (by decide) (hts (.fieldLink RX12 89 "RopeScaleModel" "fewestFor" "[I") (List.mem_of_getElem? (i := 1) rfl)) (fun _ h9 => h9) rfl dX12_laysFewest_107 ?_
          refine lv_iload hx hb dX12_laysFewest_110 (lv_at hl 6 rfl) ?_
          refine lv_iload hx hb dX12_laysFewest_112 (lv_at hl 5 rfl) ?_
          refine lv_iadd hx hb dX12_laysFewest_114 ?_
          refine lv_aload_n hx hb dX12_laysFewest_115 rfl (lv_at hl 0 rfl) ?_
          refine va_get (D := D) (ci := 12) (v := .ref (a 47)) (C := RX12) (T := TX12) (N := 52) hx hb hts hinX12 hown hK.1 hP 0 rfl rfl 47 (by decide) (hts (.fieldLink RX12 89 "RopeScaleModel" "fewestFor" "[I") (List.mem_of_getElem? (i := 1) rfl)) (fun _ h9 => h9) rfl dX12_laysFewest_116 ?_
          refine lv_iload hx hb dX12_laysFewest_119 (lv_at hl 6 rfl) ?_
          refine lv_iload hx hb dX12_laysFewest_121 (lv_at hl 5 rfl) ?_
          refine lv_iadd hx hb dX12_laysFewest_123 ?_
          obtain ⟨h16, hf⟩ := gd_e hf
          refine va_iald hx hb hK.1 hP 27 0 rfl rfl h16 dX12_laysFewest_124 ?_
          refine lv_aload_n hx hb dX12_laysFewest_125 rfl (lv_at hl 0 rfl) ?_
          refine va_get (D := D) (ci := 12) (v := .ref (a 48)) (C := RX12) (T := TX12) (N := 52) hx hb hts hinX12 hown hK.1 hP 0 rfl rfl 48 (by decide) (hts (.fieldLink RX12 92 "RopeScaleModel" "isOld" "[I") (List.mem_of_getElem? (i := 3) rfl)) (fun _ h9 => h9) rfl dX12_laysFewest_126 ?_
          refine lv_iload hx hb dX12_laysFewest_129 (lv_at hl 6 rfl) ?_
          obtain ⟨h15, hf⟩ := gd_e hf
          refine va_iald hx hb hK.1 hP 28 0 rfl rfl h15 dX12_laysFewest_131 ?_
          refine lv_iconst (v := 1) hx hb dX12_laysFewest_132 (by decide) ?_
          refine lv_iadd hx hb dX12_laysFewest_133 ?_
          obtain ⟨z4, hz4, hf⟩ := lett_e hf
          refine cSR (As := [.int (v 47 (ix (x6 + x5))), .int ((v 48 (ix x6)) + 1)]) (rest := [.int (x6 + x5), .ref (a 47)]) ⟨hx, hb, hml, hown, hts⟩ (mX12_min l D T (v 47 (ix (x6 + x5))) ((v 48 (ix x6)) + 1) z4 hz4.symm) (va_cwS 2 hts gX12_laysFewest_X12_min rfl rfl rfl (by decide +kernel) ⟨Nat.le_of_ble_eq_true rfl, Nat.le_of_ble_eq_true rfl⟩) P0 hK rfl hl.1 rfl (Nat.le_of_ble_eq_true rfl) dX12_laysFewest_134 ⟨Nat.le_of_ble_eq_true rfl, Nat.le_of_ble_eq_true rfl⟩ hP hS (fun H locs hP hS => ?_)
          obtain ⟨h14, hf⟩ := gd_e hf
          obtain ⟨u5, eu5, hf⟩ := lett_e hf
          refine va_iast hx hb hK.1 hP hD hS 27 0 rfl rfl h14 dX12_laysFewest_137 (fun H locs hP hD hS => ?_)
          have hP : va_P D vwCl (kX12 T h a u5) H := by rw [eu5]; exact hP
          have hD : va_D (va_A (kX12 T h a u) s.heap.size) (kX12 T h a u5) := by rw [eu5]; exact hD
          refine lv_iload_n hx hb dX12_laysFewest_138 rfl (lv_at hl 2 rfl) ?_
          refine lv_if_eq (tgt := 174) hx hb dX12_laysFewest_139 (by decide) (fun c6 => ?_) (fun c6 => ?_)
          · replace hf := ifp c6 hf
            obtain ⟨t7, et7, hf⟩ := lett_e hf
            refine lv_iinc (v := t7) (lv' := [(6, .int t7), (0, .ref h), (1, .int x1), (2, .int x2), (3, .int x3), (4, .int x4), (5, .int x5)]) hx hb dX12_laysFewest_174 hl (k := 6) rfl (by rw [et7]; rfl) (by decide) rfl (fun ls hl => ?_)
            refine lv_goto (tgt := 96) hx hb dX12_laysFewest_177 (by decide) ?_
            exact ih96 u5 x1 x2 x3 x4 x5 t7 _ _ _ hf hP hD hS (lv_sub hl [1, 2, 3, 4, 5, 6, 0] rfl)
          replace hf := ifn c6 hf
          refine lv_aload_n hx hb dX12_laysFewest_142 rfl (lv_at hl 0 rfl) ?_
          refine va_get (D := D) (ci := 12) (v := .ref (a 47)) (C := RX12) (T := TX12) (N := 52) hx hb hts hinX12 hown hK.1 hP 0 rfl rfl 47 (by decide) (hts (.fieldLink RX12 89 "RopeScaleModel" "fewestFor" "[I") (List.mem_of_getElem? (i := 1) rfl)) (fun _ h9 => h9) rfl dX12_laysFewest_143 ?_
          refine lv_iload hx hb dX12_laysFewest_146 (lv_at hl 6 rfl) ?_
          refine lv_iload hx hb dX12_laysFewest_148 (lv_at hl 5 rfl) ?_
          refine lv_isub hx hb dX12_laysFewest_150 ?_
          refine lv_aload_n hx hb dX12_laysFewest_151 rfl (lv_at hl 0 rfl) ?_
          refine va_get (D := D) (ci := 12) (v := .ref (a 47)) (C := RX12) (T := TX12) (N := 52) hx hb hts hinX12 hown hK.1 hP 0 rfl rfl 47 (by decide) (hts (.fieldLink RX12 89 "RopeScaleModel" "fewestFor" "[I") (List.mem_of_getElem? (i := 1) rfl)) (fun _ h9 => h9) rfl dX12_laysFewest_152 ?_
          refine lv_iload hx hb dX12_laysFewest_155 (lv_at hl 6 rfl) ?_
          refine lv_iload hx hb dX12_laysFewest_157 (lv_at hl 5 rfl) ?_
          refine lv_isub hx hb dX12_laysFewest_159 ?_
          obtain ⟨h13, hf⟩ := gd_e hf
          refine va_iald hx hb hK.1 hP 27 0 rfl rfl h13 dX12_laysFewest_160 ?_
          refine lv_aload_n hx hb dX12_laysFewest_161 rfl (lv_at hl 0 rfl) ?_
          refine va_get (D := D) (ci := 12) (v := .ref (a 48)) (C := RX12) (T := TX12) (N := 52) hx hb hts hinX12 hown hK.1 hP 0 rfl rfl 48 (by decide) (hts (.fieldLink RX12 92 "RopeScaleModel" "isOld" "[I") (List.mem_of_getElem? (i := 3) rfl)) (fun _ h9 => h9) rfl dX12_laysFewest_162 ?_
          refine lv_iload hx hb dX12_laysFewest_165 (lv_at hl 6 rfl) ?_
          obtain ⟨h12, hf⟩ := gd_e hf
          refine va_iald hx hb hK.1 hP 28 0 rfl rfl h12 dX12_laysFewest_167 ?_
          refine lv_iconst (v := 1) hx hb dX12_laysFewest_168 (by decide) ?_
          refine lv_iadd hx hb dX12_laysFewest_169 ?_
          obtain ⟨z8, hz8, hf⟩ := lett_e hf
          refine cSR (As := [.int (u5 47 (ix (x6 - x5))), .int ((u5 48 (ix x6)) + 1)]) (rest := [.int (x6 - x5), .ref (a 47)]) ⟨hx, hb, hml, hown, hts⟩ (mX12_min l D T (u5 47 (ix (x6 - x5))) ((u5 48 (ix x6)) + 1) z8 hz8.symm) (va_cwS 2 hts gX12_laysFewest_X12_min rfl rfl rfl (by decide +kernel) ⟨Nat.le_of_ble_eq_true rfl, Nat.le_of_ble_eq_true rfl⟩) P0 hK rfl hl.1 rfl (Nat.le_of_ble_eq_true rfl) dX12_laysFewest_170 ⟨Nat.le_of_ble_eq_true rfl, Nat.le_of_ble_eq_true rfl⟩ hP hS (fun H locs hP hS => ?_)
          obtain ⟨h11, hf⟩ := gd_e hf
          obtain ⟨u9, eu9, hf⟩ := lett_e hf
          refine va_iast hx hb hK.1 hP hD hS 27 0 rfl rfl h11 dX12_laysFewest_173 (fun H locs hP hD hS => ?_)
          have hP : va_P D vwCl (kX12 T h a u9) H := by rw [eu9]; exact hP
          have hD : va_D (va_A (kX12 T h a u) s.heap.size) (kX12 T h a u9) := by rw [eu9]; exact hD
          obtain ⟨t10, et10, hf⟩ := lett_e hf
          refine lv_iinc (v := t10) (lv' := [(6, .int t10), (0, .ref h), (1, .int x1), (2, .int x2), (3, .int x3), (4, .int x4), (5, .int x5)]) hx hb dX12_laysFewest_174 hl (k := 6) rfl (by rw [et10]; rfl) (by decide) rfl (fun ls hl => ?_)
          refine lv_goto (tgt := 96) hx hb dX12_laysFewest_177 (by decide) ?_
          exact ih96 u9 x1 x2 x3 x4 x5 t10 _ _ _ hf hP hD hS (lv_sub hl [1, 2, 3, 4, 5, 6, 0] rfl)
      have L59 : ∀ (n59 : Nat), ∀ (v : St) (x1 : Int32) (x2 : Int32) (x3 : Int32) (x4 : Int32) (x5 : Int32) (x6 : Int32) (H : Heap) (locs : List Loc) (ls : Array Slot), fX12_laysFewest_L59 (fX12_laysFewest_L38  n38) n59 v x1 x2 x3 x4 x5 x6 = some res → va_P D vwCl (kX12 T h a v) H → va_D (va_A (kX12 T h a u) s.heap.size) (kX12 T h a v) → va_S (va_A (kX12 T h a u) s.heap.size) s.heap H locs → lv_has ls 7 [(0, .ref h), (1, .int x1), (2, .int x2), (3, .int x3), (4, .int x4), (5, .int x5), (6, .int x6)] → W p l e (headSpec wsX12_laysFewest ({ frames := 1, cells := 0, slots := 0, locals := 21 })).room s m ([.ref h, .int p1, .int p2] : List Value).toArray below meth c H locs 0 0 (MQ below (QMv D (kX12 T h a u) s.heap.size (kX12 T h a res)) ([.ref h, .int p1, .int p2] : List Value).toArray s 0 0 (va_A (kX12 T h a u) s.heap.size)) (F0 m 59 ls []) := by
        intro n59
        induction n59 with
        | zero => intro v x1 x2 x3 x4 x5 x6 H locs ls hf; exact nns hf
        | succ n59 ih59 =>
          intro v x1 x2 x3 x4 x5 x6 H locs ls hf hP hD hS hl
          replace hf : bX12_laysFewest_L59 (fX12_laysFewest_L38  n38) (fX12_laysFewest_L59 (fX12_laysFewest_L38  n38) n59) v x1 x2 x3 x4 x5 x6 = some res := hf
          unfold bX12_laysFewest_L59 at hf
          refine lv_iload hx hb dX12_laysFewest_59 (lv_at hl 6 rfl) ?_
          refine lv_sipush (v := 2040) hx hb dX12_laysFewest_61 (by decide) ?_
          refine lv_iload_n hx hb dX12_laysFewest_64 rfl (lv_at hl 3 rfl) ?_
          refine lv_iadd hx hb dX12_laysFewest_65 ?_
          refine lv_icmp_gt (tgt := 89) hx hb dX12_laysFewest_66 (by decide) (fun c17 => ?_) (fun c17 => ?_)
          · replace hf := ifp c17 hf
            refine lv_sipush (v := 2040) hx hb dX12_laysFewest_89 (by decide) ?_
            refine lv_iload_n hx hb dX12_laysFewest_92 rfl (lv_at hl 3 rfl) ?_
            refine lv_isub hx hb dX12_laysFewest_93 ?_
            obtain ⟨t18, et18, hf⟩ := lett_e hf
            refine lv_eqi et18 ?_
            refine lv_istore (lv' := [(6, .int t18), (0, .ref h), (1, .int x1), (2, .int x2), (3, .int x3), (4, .int x4), (5, .int x5)]) hx hb dX12_laysFewest_94 hl (by decide) rfl (fun ls hl => ?_)
            exact L96 FU v x1 x2 x3 x4 x5 t18 _ _ _ hf hP hD hS (lv_sub hl [1, 2, 3, 4, 5, 6, 0] rfl)
          replace hf := ifn c17 hf
          refine lv_aload_n hx hb dX12_laysFewest_69 rfl (lv_at hl 0 rfl) ?_
          refine va_get (D := D) (ci := 12) (v := .ref (a 48)) (C := RX12) (T := TX12) (N := 52) hx hb hts hinX12 hown hK.1 hP 0 rfl rfl 48 (by decide) (hts (.fieldLink RX12 92 "RopeScaleModel" "isOld" "[I") (List.mem_of_getElem? (i := 3) rfl)) (fun _ h9 => h9) rfl dX12_laysFewest_70 ?_
          refine lv_iload hx hb dX12_laysFewest_73 (lv_at hl 6 rfl) ?_
          refine lv_aload_n hx hb dX12_laysFewest_75 rfl (lv_at hl 0 rfl) ?_
          refine va_get (D := D) (ci := 12) (v := .ref (a 47)) (C := RX12) (T := TX12) (N := 52) hx hb hts hinX12 hown hK.1 hP 0 rfl rfl 47 (by decide) (hts (.fieldLink RX12 89 "RopeScaleModel" "fewestFor" "[I") (List.mem_of_getElem? (i := 1) rfl)) (fun _ h9 => h9) rfl dX12_laysFewest_76 ?_
          refine lv_iload hx hb dX12_laysFewest_79 (lv_at hl 6 rfl) ?_
          obtain ⟨h22, hf⟩ := gd_e hf
          refine va_iald hx hb hK.1 hP 27 0 rfl rfl h22 dX12_laysFewest_81 ?_
          obtain ⟨h21, hf⟩ := gd_e hf
          obtain ⟨u19, eu19, hf⟩ := lett_e hf
          refine va_iast hx hb hK.1 hP hD hS 28 0 rfl rfl h21 dX12_laysFewest_82 (fun H locs hP hD hS => ?_)
          have hP : va_P D vwCl (kX12 T h a u19) H := by rw [eu19]; exact hP
          have hD : va_D (va_A (kX12 T h a u) s.heap.size) (kX12 T h a u19) := by rw [eu19]; exact hD
          obtain ⟨t20, et20, hf⟩ := lett_e hf
          refine lv_iinc (v := t20) (lv' := [(6, .int t20), (0, .ref h), (1, .int x1), (2, .int x2), (3, .int x3), (4, .int x4), (5, .int x5)]) hx hb dX12_laysFewest_83 hl (k := 6) rfl (by rw [et20]; rfl) (by decide) rfl (fun ls hl => ?_)
          refine lv_goto (tgt := 59) hx hb dX12_laysFewest_86 (by decide) ?_
          exact ih59 u19 x1 x2 x3 x4 x5 t20 _ _ _ hf hP hD hS (lv_sub hl [1, 2, 3, 4, 5, 6, 0] rfl)
      intro v x1 x2 x3 x4 H locs ls hf hP hD hS hl
      replace hf : bX12_laysFewest_L38  (fX12_laysFewest_L38  n38) v x1 x2 x3 x4 = some res := hf
      unfold bX12_laysFewest_L38 at hf
      refine lv_iload hx hb dX12_laysFewest_38 (lv_at hl 4 rfl) ?_
      refine lv_iload_n hx hb dX12_laysFewest_40 rfl (lv_at hl 1 rfl) ?_
      refine lv_icmp_ge (tgt := 191) hx hb dX12_laysFewest_41 (by decide) (fun c23 => ?_) (fun c23 => ?_)
      · replace hf := ifp c23 hf
        have e9 := Option.some.inj hf
        exact retMv hx hb hr hlocks hP hD hS (congrArg (fun z => (kX12 T h a z : va_W)) e9) dX12_laysFewest_191
      replace hf := ifn c23 hf
      refine lv_aload_n hx hb dX12_laysFewest_44 rfl (lv_at hl 0 rfl) ?_
      refine lv_iload hx hb dX12_laysFewest_45 (lv_at hl 4 rfl) ?_
      obtain ⟨z24, hz24, hf⟩ := bnd hf
      refine cVR (As := [.int x4]) (rest := []) ⟨hx, hb, hml, hown, hts⟩ (mX12_octet l D T h a v x4 z24 hz24) (cwV 1 hts gX12_laysFewest_X12_octet rfl rfl rfl (by decide +kernel) ⟨Nat.le_of_ble_eq_true rfl, Nat.le_of_ble_eq_true rfl⟩) (va_recv hK.1 hP (ci := 12) (q0 := 0) rfl rfl) hP hK rfl hl.1 rfl (Nat.le_of_ble_eq_true rfl) dX12_laysFewest_47 ⟨Nat.le_of_ble_eq_true rfl, Nat.le_of_ble_eq_true rfl⟩ hP hS (fun H locs hP hS => ?_)
      refine lv_istore (lv' := [(5, .int z24), (0, .ref h), (1, .int x1), (2, .int x2), (3, .int x3), (4, .int x4)]) hx hb dX12_laysFewest_50 hl (by decide) rfl (fun ls hl => ?_)
      refine lv_sipush (v := 2040) hx hb dX12_laysFewest_52 (by decide) ?_
      refine lv_iload_n hx hb dX12_laysFewest_55 rfl (lv_at hl 4 rfl) ?_
      refine lv_isub hx hb dX12_laysFewest_56 ?_
      obtain ⟨t25, et25, hf⟩ := lett_e hf
      refine lv_eqi et25 ?_
      refine lv_istore (lv' := [(6, .int t25), (5, .int z24), (0, .ref h), (1, .int x1), (2, .int x2), (3, .int x3), (4, .int x4)]) hx hb dX12_laysFewest_57 hl (by decide) rfl (fun ls hl => ?_)
      exact L59 FU v x1 x2 x3 x4 z24 t25 _ _ _ hf hP hD hS (lv_sub hl [2, 3, 4, 5, 6, 1, 0] rfl)
  have L2 : ∀ (n2 : Nat), ∀ (v : St) (x1 : Int32) (x2 : Int32) (x3 : Int32) (H : Heap) (locs : List Loc) (ls : Array Slot), fX12_laysFewest_L2  n2 v x1 x2 x3 = some res → va_P D vwCl (kX12 T h a v) H → va_D (va_A (kX12 T h a u) s.heap.size) (kX12 T h a v) → va_S (va_A (kX12 T h a u) s.heap.size) s.heap H locs → lv_has ls 7 [(0, .ref h), (1, .int x1), (2, .int x2), (3, .int x3)] → W p l e (headSpec wsX12_laysFewest ({ frames := 1, cells := 0, slots := 0, locals := 21 })).room s m ([.ref h, .int p1, .int p2] : List Value).toArray below meth c H locs 0 0 (MQ below (QMv D (kX12 T h a u) s.heap.size (kX12 T h a res)) ([.ref h, .int p1, .int p2] : List Value).toArray s 0 0 (va_A (kX12 T h a u) s.heap.size)) (F0 m 2 ls []) := by
    intro n2
    induction n2 with
    | zero => intro v x1 x2 x3 H locs ls hf; exact nns hf
    | succ n2 ih2 =>
      intro v x1 x2 x3 H locs ls hf hP hD hS hl
      replace hf : bX12_laysFewest_L2  (fX12_laysFewest_L2  n2) v x1 x2 x3 = some res := hf
      unfold bX12_laysFewest_L2 at hf
      refine lv_iload_n hx hb dX12_laysFewest_2 rfl (lv_at hl 3 rfl) ?_
      refine lv_sipush (v := 4080) hx hb dX12_laysFewest_3 (by decide) ?_
      refine lv_icmp_gt (tgt := 24) hx hb dX12_laysFewest_6 (by decide) (fun c26 => ?_) (fun c26 => ?_)
      · replace hf := ifp c26 hf
        refine lv_aload_n hx hb dX12_laysFewest_24 rfl (lv_at hl 0 rfl) ?_
        refine va_get (D := D) (ci := 12) (v := .ref (a 47)) (C := RX12) (T := TX12) (N := 52) hx hb hts hinX12 hown hK.1 hP 0 rfl rfl 47 (by decide) (hts (.fieldLink RX12 89 "RopeScaleModel" "fewestFor" "[I") (List.mem_of_getElem? (i := 1) rfl)) (fun _ h9 => h9) rfl dX12_laysFewest_25 ?_
        refine lv_sipush (v := 2040) hx hb dX12_laysFewest_28 (by decide) ?_
        refine lv_iconst (v := 0) hx hb dX12_laysFewest_31 (by decide) ?_
        obtain ⟨h28, hf⟩ := gd_e hf
        obtain ⟨u27, eu27, hf⟩ := lett_e hf
        refine va_iast hx hb hK.1 hP hD hS 27 0 rfl rfl h28 dX12_laysFewest_32 (fun H locs hP hD hS => ?_)
        have hP : va_P D vwCl (kX12 T h a u27) H := by rw [eu27]; exact hP
        have hD : va_D (va_A (kX12 T h a u) s.heap.size) (kX12 T h a u27) := by rw [eu27]; exact hD
        refine lv_iconst (v := 0) hx hb dX12_laysFewest_33 (by decide) ?_
        refine lv_istore_n (lv' := [(3, .int 0), (0, .ref h), (1, .int x1), (2, .int x2)]) hx hb dX12_laysFewest_34 rfl hl (by decide) rfl (fun ls hl => ?_)
        refine lv_iconst (v := 0) hx hb dX12_laysFewest_35 (by decide) ?_
        refine lv_istore (lv' := [(4, .int 0), (3, .int 0), (0, .ref h), (1, .int x1), (2, .int x2)]) hx hb dX12_laysFewest_36 hl (by decide) rfl (fun ls hl => ?_)
        exact L38 FU u27 x1 x2 0 0 _ _ _ hf hP hD hS (lv_sub hl [2, 3, 4, 1, 0] rfl)
      replace hf := ifn c26 hf
      refine lv_aload_n hx hb dX12_laysFewest_9 rfl (lv_at hl 0 rfl) ?_
      refine va_get (D := D) (ci := 12) (v := .ref (a 47)) (C := RX12) (T := TX12) (N := 52) hx hb hts hinX12 hown hK.1 hP 0 rfl rfl 47 (by decide) (hts (.fieldLink RX12 89 "RopeScaleModel" "fewestFor" "[I") (List.mem_of_getElem? (i := 1) rfl)) (fun _ h9 => h9) rfl dX12_laysFewest_10 ?_
      refine lv_iload_n hx hb dX12_laysFewest_13 rfl (lv_at hl 3 rfl) ?_
      refine lv_ldcw (v := 1000000) hx hb hown (hts (.constant RX12 360 (1000000)) (List.mem_of_getElem? (i := 2) rfl)) dX12_laysFewest_14 ?_
      obtain ⟨h31, hf⟩ := gd_e hf
      obtain ⟨u29, eu29, hf⟩ := lett_e hf
      refine va_iast hx hb hK.1 hP hD hS 27 0 rfl rfl h31 dX12_laysFewest_17 (fun H locs hP hD hS => ?_)
      have hP : va_P D vwCl (kX12 T h a u29) H := by rw [eu29]; exact hP
      have hD : va_D (va_A (kX12 T h a u) s.heap.size) (kX12 T h a u29) := by rw [eu29]; exact hD
      obtain ⟨t30, et30, hf⟩ := lett_e hf
      refine lv_iinc (v := t30) (lv' := [(3, .int t30), (0, .ref h), (1, .int x1), (2, .int x2)]) hx hb dX12_laysFewest_18 hl (k := 3) rfl (by rw [et30]; rfl) (by decide) rfl (fun ls hl => ?_)
      refine lv_goto (tgt := 2) hx hb dX12_laysFewest_21 (by decide) ?_
      exact ih2 u29 x1 x2 t30 _ _ _ hf hP hD hS (lv_sub hl [1, 2, 3, 0] rfl)
  unfold fX12_laysFewest at hf
  refine lv_iconst (v := 0) hx hb dX12_laysFewest_0 (by decide) ?_
  refine lv_istore_n (lv' := [(3, .int 0), (0, .ref h), (1, .int p1), (2, .int p2)]) hx hb dX12_laysFewest_1 rfl hl (by decide) rfl (fun ls hl => ?_)
  exact L2 FU u p1 p2 0 _ _ _ hf hP hD hS (lv_sub hl [1, 2, 3, 0] rfl)
def bX12_stones_L44   (lp44 : St → Int32 → Option (Int32 × St)) (v : St) (x3 : Int32) : Option (Int32 × St) := if 2040 ≤ x3 then some (x3, v) else gd ((2040 + x3) + 1) 4081 <| if 1000000 ≤ (v 47 (ix ((2040 + x3) + 1))) then some (x3, v) else lett (x3 + 1) fun t3 => lp44 v t3
def fX12_stones_L44   : Nat → St → Int32 → Option (Int32 × St)
  | 0, _, _ => none
  | n + 1, v, x3 => bX12_stones_L44  (fX12_stones_L44  n) v x3
def fX12_stones  (u : St) (p1 : Int32) (p2 : Int32) : Option (Int32 × St) := lett (fX12_in p1 1 8) fun z5 => if z5 = 0 then some ((-1), u) else if p1 ≤ (u 6 0) then lett (st u 6 0 0) fun u8 => (fX12_areAll u8 p1).bind fun z9 => if z9 = 0 then some ((-2), u8) else (fX12_laysFewest u8 p1 p2).bind fun z11 => fX12_stones_L44 FU z11 0 else some ((-1), u)
set_option maxHeartbeats 4000000 in
set_option maxRecDepth 100000 in
theorem mX12_stones (l : Launch) (D : va_G) (T : Ty3) (h : Nat) (a : Nat → Nat) (u : St) (sz : Nat) (p1 : Int32) (p2 : Int32) (res : Int32 × St) (hf : fX12_stones u p1 p2 = some res) : Met l yX12_stones wsX12_stones ({ frames := 2, cells := 0, slots := 0, locals := 47 }) (PcM D T (kX12 T h a u) sz [.ref h, .int p1, .int p2]) (QM D (kX12 T h a u) sz res.1 (kX12 T h a res.2)) 0 0 (va_A (kX12 T h a u) sz) := by
  refine Met.ofW (cc := cX12_stones) (maxL := 4) (ret := (some .int)) (by decide) rfl ?_
  intro p e s m args below meth c s₁ B hml hv
  obtain ⟨rfl, hsz, hP, hK, hD0⟩ := hv
  have hx := B.exec
  have hb := B.bytes
  have hr := B.returns
  have hts := atoms_spec (ws := wsX12_stones) B.pre
  have hown : s.vm.findClass RX12 = some m.cls := findClass_of_methodNamed B.named
  have hlocks := B.notSynchronized
  subst hsz
  have hD := hD0.self (sz := s.heap.size)
  have hA : ∀ q : Nat, s.heap.size ≤ q → va_A (kX12 T h a u) s.heap.size q := fun q h => Or.inr h
  have hS : va_S (va_A (kX12 T h a u) s.heap.size) s.heap s.heap [] := va_S.rf
  have hinX12 : ∀ w ∈ u_ws RX12 TX12 52, w ∈ wsX12_stones := fun w h => List.mem_cons_of_mem _ (List.mem_append_right _ h)
  have hl := lv_entry ([.ref h, .int p1, .int p2]) (n := 4) (Nat.le_of_ble_eq_true rfl)
  rw [lg_entry_eq]
  generalize (lg_sl ([.ref h, .int p1, .int p2]) ++ List.replicate (4 - (lg_sl ([.ref h, .int p1, .int p2])).length) Slot.unset).toArray = ls at hl ⊢
  have hl : lv_has ls 4 [(0, .ref h), (1, .int p1), (2, .int p2)] := hl
  have L44 : ∀ (n44 : Nat), ∀ (v : St) (x3 : Int32) (H : Heap) (locs : List Loc) (ls : Array Slot), fX12_stones_L44  n44 v x3 = some res → va_P D vwCl (kX12 T h a v) H → va_D (va_A (kX12 T h a u) s.heap.size) (kX12 T h a v) → va_S (va_A (kX12 T h a u) s.heap.size) s.heap H locs → lv_has ls 4 [(0, .ref h), (3, .int x3)] → W p l e (headSpec wsX12_stones ({ frames := 2, cells := 0, slots := 0, locals := 47 })).room s m ([.ref h, .int p1, .int p2] : List Value).toArray below meth c H locs 0 0 (MQ below (QM D (kX12 T h a u) s.heap.size res.1 (kX12 T h a res.2)) ([.ref h, .int p1, .int p2] : List Value).toArray s 0 0 (va_A (kX12 T h a u) s.heap.size)) (F0 m 44 ls []) := by
    intro n44
    induction n44 with
    | zero => intro v x3 H locs ls hf; exact nns hf
    | succ n44 ih44 =>
      intro v x3 H locs ls hf hP hD hS hl
      replace hf : bX12_stones_L44  (fX12_stones_L44  n44) v x3 = some res := hf
      unfold bX12_stones_L44 at hf
      refine lv_iload_n hx hb dX12_stones_44 rfl (lv_at hl 1 rfl) ?_
      refine lv_sipush (v := 2040) hx hb dX12_stones_45 (by decide) ?_
      refine lv_icmp_ge (tgt := 76) hx hb dX12_stones_48 (by decide) (fun c1 => ?_) (fun c1 => ?_)
      · replace hf := ifp c1 hf
        refine lv_iload_n hx hb dX12_stones_76 rfl (lv_at hl 1 rfl) ?_
        have e9 := Option.some.inj hf
        exact retM hx hb hr hlocks hP hD hS (congrArg (fun z => z.1) e9) (congrArg (fun z => (kX12 T h a z.2 : va_W)) e9) dX12_stones_77
      replace hf := ifn c1 hf
      refine lv_aload_n hx hb dX12_stones_51 rfl (lv_at hl 0 rfl) ?_
      refine va_get (D := D) (ci := 12) (v := .ref (a 47)) (C := RX12) (T := TX12) (N := 52) hx hb hts hinX12 hown hK.1 hP 0 rfl rfl 47 (by decide) (hts (.fieldLink RX12 89 "RopeScaleModel" "fewestFor" "[I") (List.mem_of_getElem? (i := 2) rfl)) (fun _ h9 => h9) rfl dX12_stones_52 ?_
      refine lv_sipush (v := 2040) hx hb dX12_stones_55 (by decide) ?_
      refine lv_iload_n hx hb dX12_stones_58 rfl (lv_at hl 1 rfl) ?_
      refine lv_iadd hx hb dX12_stones_59 ?_
      refine lv_iconst (v := 1) hx hb dX12_stones_60 (by decide) ?_
      refine lv_iadd hx hb dX12_stones_61 ?_
      obtain ⟨h4, hf⟩ := gd_e hf
      refine va_iald hx hb hK.1 hP 27 0 rfl rfl h4 dX12_stones_62 ?_
      refine lv_ldcw (v := 1000000) hx hb hown (hts (.constant RX12 360 (1000000)) (List.mem_of_getElem? (i := 3) rfl)) dX12_stones_63 ?_
      refine lv_icmp_ge (tgt := 76) hx hb dX12_stones_66 (by decide) (fun c2 => ?_) (fun c2 => ?_)
      · replace hf := ifp c2 hf
        refine lv_iload_n hx hb dX12_stones_76 rfl (lv_at hl 1 rfl) ?_
        have e9 := Option.some.inj hf
        exact retM hx hb hr hlocks hP hD hS (congrArg (fun z => z.1) e9) (congrArg (fun z => (kX12 T h a z.2 : va_W)) e9) dX12_stones_77
      replace hf := ifn c2 hf
      refine lv_iload_n hx hb dX12_stones_69 rfl (lv_at hl 1 rfl) ?_
      refine lv_iconst (v := 1) hx hb dX12_stones_70 (by decide) ?_
      refine lv_iadd hx hb dX12_stones_71 ?_
      obtain ⟨t3, et3, hf⟩ := lett_e hf
      refine lv_eqi et3 ?_
      refine lv_istore_n (lv' := [(3, .int t3), (0, .ref h)]) hx hb dX12_stones_72 rfl hl (by decide) rfl (fun ls hl => ?_)
      refine lv_goto (tgt := 44) hx hb dX12_stones_73 (by decide) ?_
      exact ih44 v t3 _ _ _ hf hP hD hS (lv_sub hl [1, 0] rfl)
  unfold fX12_stones at hf
  refine lv_iload_n hx hb dX12_stones_0 rfl (lv_at hl 1 rfl) ?_
  refine lv_iconst (v := 1) hx hb dX12_stones_1 (by decide) ?_
  refine lv_bipush (v := 8) hx hb dX12_stones_2 (by decide) ?_
  obtain ⟨z5, hz5, hf⟩ := lett_e hf
  refine cSR (As := [.int p1, .int 1, .int 8]) (rest := []) ⟨hx, hb, hml, hown, hts⟩ (mX12_in l D T p1 1 8 z5 hz5.symm) (va_cwS 3 hts gX12_stones_X12_in rfl rfl rfl (by decide +kernel) ⟨Nat.le_of_ble_eq_true rfl, Nat.le_of_ble_eq_true rfl⟩) P0 hK rfl hl.1 rfl (Nat.le_of_ble_eq_true rfl) dX12_stones_4 ⟨Nat.le_of_ble_eq_true rfl, Nat.le_of_ble_eq_true rfl⟩ hP hS (fun H locs hP hS => ?_)
  refine lv_if_eq (tgt := 18) hx hb dX12_stones_7 (by decide) (fun c6 => ?_) (fun c6 => ?_)
  · replace hf := ifp c6 hf
    refine lv_iconst (v := (-1)) hx hb dX12_stones_18 (by decide) ?_
    have e9 := Option.some.inj hf
    exact retM hx hb hr hlocks hP hD hS (congrArg (fun z => z.1) e9) (congrArg (fun z => (kX12 T h a z.2 : va_W)) e9) dX12_stones_19
  replace hf := ifn c6 hf
  refine lv_iload_n hx hb dX12_stones_10 rfl (lv_at hl 1 rfl) ?_
  refine lv_aload_n hx hb dX12_stones_11 rfl (lv_at hl 0 rfl) ?_
  refine va_get (D := D) (ci := 12) (v := .int (u 6 0)) (C := RX12) (T := TX12) (N := 52) hx hb hts hinX12 hown hK.1 hP 0 rfl rfl 6 (by decide) (hts (.fieldLink RX12 119 "RopeScaleModel" "taped" "I") (List.mem_of_getElem? (i := 1) rfl)) (fun _ h9 => h9) rfl dX12_stones_12 ?_
  refine lv_icmp_le (tgt := 20) hx hb dX12_stones_15 (by decide) (fun c7 => ?_) (fun c7 => ?_)
  · replace hf := ifp c7 hf
    refine lv_aload_n hx hb dX12_stones_20 rfl (lv_at hl 0 rfl) ?_
    refine lv_iconst (v := 0) hx hb dX12_stones_21 (by decide) ?_
    obtain ⟨u8, eu8, hf⟩ := lett_e hf
    refine va_put (D := D) (ci := 12) (v := .int 0) (ty := .int) (C := RX12) (T := TX12) (N := 52) hx hb hts hinX12 tyX12 tyX12_ok nmX12 hown hK.1 hP hD hS 0 rfl rfl 6 (by decide) (hts (.fieldLink RX12 119 "RopeScaleModel" "taped" "I") (List.mem_of_getElem? (i := 1) rfl)) (fun _ h9 => h9) rfl (tyX12_ok 6 (by decide)) rfl rfl (Nat.le_of_ble_eq_true rfl) dX12_stones_22 (fun H locs hP hD hS => ?_)
    have hP : va_P D vwCl (kX12 T h a u8) H := by rw [eu8]; exact hP
    have hD : va_D (va_A (kX12 T h a u) s.heap.size) (kX12 T h a u8) := by rw [eu8]; exact hD
    refine lv_aload_n hx hb dX12_stones_25 rfl (lv_at hl 0 rfl) ?_
    refine lv_iload_n hx hb dX12_stones_26 rfl (lv_at hl 1 rfl) ?_
    obtain ⟨z9, hz9, hf⟩ := bnd hf
    refine cVR (As := [.int p1]) (rest := []) ⟨hx, hb, hml, hown, hts⟩ (mX12_areAll l D T h a u8 p1 z9 hz9) (cwV 1 hts gX12_stones_X12_areAll rfl rfl rfl (by decide +kernel) ⟨Nat.le_of_ble_eq_true rfl, Nat.le_of_ble_eq_true rfl⟩) (va_recv hK.1 hP (ci := 12) (q0 := 0) rfl rfl) hP hK rfl hl.1 rfl (Nat.le_of_ble_eq_true rfl) dX12_stones_27 ⟨Nat.le_of_ble_eq_true rfl, Nat.le_of_ble_eq_true rfl⟩ hP hS (fun H locs hP hS => ?_)
    refine lv_if_ne (tgt := 36) hx hb dX12_stones_30 (by decide) (fun c10 => ?_) (fun c10 => ?_)
    · replace hf := ifn c10 hf
      refine lv_aload_n hx hb dX12_stones_36 rfl (lv_at hl 0 rfl) ?_
      refine lv_iload_n hx hb dX12_stones_37 rfl (lv_at hl 1 rfl) ?_
      refine lv_iload_n hx hb dX12_stones_38 rfl (lv_at hl 2 rfl) ?_
      obtain ⟨z11, hz11, hf⟩ := bnd hf
      have hFc9 := vaA_self hD hS hA
      refine cVMv (As := [.int p1, .int p2]) (rest := []) ⟨hx, hb, hml, hown, hts⟩ (mX12_laysFewest l D T h a u8 _ p1 p2 z11 hz11) (cwV 2 hts gX12_stones_X12_laysFewest rfl rfl rfl (by decide +kernel) ⟨Nat.le_of_ble_eq_true rfl, Nat.le_of_ble_eq_true rfl⟩) (va_recv hK.1 hP (ci := 12) (q0 := 0) rfl rfl) hP hK rfl hl.1 rfl (Nat.le_of_ble_eq_true rfl) dX12_stones_39 ⟨Nat.le_of_ble_eq_true rfl, Nat.le_of_ble_eq_true rfl⟩ hD hFc9 hS (fun H locs hP hD1 _ hS => ?_)
      have hD := hD1.weaken (fun _ _ _ h9 => hFc9 _ h9)
      refine lv_iconst (v := 0) hx hb dX12_stones_42 (by decide) ?_
      refine lv_istore_n (lv' := [(3, .int 0), (0, .ref h), (1, .int p1), (2, .int p2)]) hx hb dX12_stones_43 rfl hl (by decide) rfl (fun ls hl => ?_)
      exact L44 FU z11 0 _ _ _ hf hP hD hS (lv_sub hl [1, 0] rfl)
    replace hf := ifp c10 hf
    refine lv_bipush (v := (-2)) hx hb dX12_stones_33 (by decide) ?_
    have e9 := Option.some.inj hf
    exact retM hx hb hr hlocks hP hD hS (congrArg (fun z => z.1) e9) (congrArg (fun z => (kX12 T h a z.2 : va_W)) e9) dX12_stones_35
  replace hf := ifn c7 hf
  refine lv_iconst (v := (-1)) hx hb dX12_stones_18 (by decide) ?_
  have e9 := Option.some.inj hf
  exact retM hx hb hr hlocks hP hD hS (congrArg (fun z => z.1) e9) (congrArg (fun z => (kX12 T h a z.2 : va_W)) e9) dX12_stones_19
def fX12_fewest  (u : St) (p1 : Int32) (p2 : Int32) : Option (Int32 × St) := lett (fX12_in p1 1 8) fun z1 => if z1 = 0 then some ((-1), u) else lett (fX12_in p2 1 2040) fun z3 => if z3 = 0 then some ((-1), u) else if p1 ≤ (u 6 0) then lett (st u 6 0 0) fun u6 => (fX12_areAll u6 p1).bind fun z7 => if z7 = 0 then some ((-3), u6) else (fX12_laysFewest u6 p1 1).bind fun z9 => gd (2040 + p2) 4081 <| if (z9 47 (ix (2040 + p2))) < 1000000 then gd (2040 + p2) 4081 <| some (z9 47 (ix (2040 + p2)), z9) else some ((-2), z9) else some ((-1), u)
set_option maxHeartbeats 4000000 in
set_option maxRecDepth 100000 in
theorem mX12_fewest (l : Launch) (D : va_G) (T : Ty3) (h : Nat) (a : Nat → Nat) (u : St) (sz : Nat) (p1 : Int32) (p2 : Int32) (res : Int32 × St) (hf : fX12_fewest u p1 p2 = some res) : Met l yX12_fewest wsX12_fewest ({ frames := 2, cells := 0, slots := 0, locals := 47 }) (PcM D T (kX12 T h a u) sz [.ref h, .int p1, .int p2]) (QM D (kX12 T h a u) sz res.1 (kX12 T h a res.2)) 0 0 (va_A (kX12 T h a u) sz) := by
  refine Met.ofW (cc := cX12_fewest) (maxL := 3) (ret := (some .int)) (by decide) rfl ?_
  intro p e s m args below meth c s₁ B hml hv
  obtain ⟨rfl, hsz, hP, hK, hD0⟩ := hv
  have hx := B.exec
  have hb := B.bytes
  have hr := B.returns
  have hts := atoms_spec (ws := wsX12_fewest) B.pre
  have hown : s.vm.findClass RX12 = some m.cls := findClass_of_methodNamed B.named
  have hlocks := B.notSynchronized
  subst hsz
  have hD := hD0.self (sz := s.heap.size)
  have hA : ∀ q : Nat, s.heap.size ≤ q → va_A (kX12 T h a u) s.heap.size q := fun q h => Or.inr h
  have hS : va_S (va_A (kX12 T h a u) s.heap.size) s.heap s.heap [] := va_S.rf
  have hinX12 : ∀ w ∈ u_ws RX12 TX12 52, w ∈ wsX12_fewest := fun w h => List.mem_cons_of_mem _ (List.mem_append_right _ h)
  have hl := lv_entry ([.ref h, .int p1, .int p2]) (n := 3) (Nat.le_of_ble_eq_true rfl)
  rw [lg_entry_eq]
  generalize (lg_sl ([.ref h, .int p1, .int p2]) ++ List.replicate (3 - (lg_sl ([.ref h, .int p1, .int p2])).length) Slot.unset).toArray = ls at hl ⊢
  have hl : lv_has ls 3 [(0, .ref h), (1, .int p1), (2, .int p2)] := hl
  unfold fX12_fewest at hf
  refine lv_iload_n hx hb dX12_fewest_0 rfl (lv_at hl 1 rfl) ?_
  refine lv_iconst (v := 1) hx hb dX12_fewest_1 (by decide) ?_
  refine lv_bipush (v := 8) hx hb dX12_fewest_2 (by decide) ?_
  obtain ⟨z1, hz1, hf⟩ := lett_e hf
  refine cSR (As := [.int p1, .int 1, .int 8]) (rest := []) ⟨hx, hb, hml, hown, hts⟩ (mX12_in l D T p1 1 8 z1 hz1.symm) (va_cwS 3 hts gX12_fewest_X12_in rfl rfl rfl (by decide +kernel) ⟨Nat.le_of_ble_eq_true rfl, Nat.le_of_ble_eq_true rfl⟩) P0 hK rfl hl.1 rfl (Nat.le_of_ble_eq_true rfl) dX12_fewest_4 ⟨Nat.le_of_ble_eq_true rfl, Nat.le_of_ble_eq_true rfl⟩ hP hS (fun H locs hP hS => ?_)
  refine lv_if_eq (tgt := 29) hx hb dX12_fewest_7 (by decide) (fun c2 => ?_) (fun c2 => ?_)
  · replace hf := ifp c2 hf
    refine lv_iconst (v := (-1)) hx hb dX12_fewest_29 (by decide) ?_
    have e9 := Option.some.inj hf
    exact retM hx hb hr hlocks hP hD hS (congrArg (fun z => z.1) e9) (congrArg (fun z => (kX12 T h a z.2 : va_W)) e9) dX12_fewest_30
  replace hf := ifn c2 hf
  refine lv_iload_n hx hb dX12_fewest_10 rfl (lv_at hl 2 rfl) ?_
  refine lv_iconst (v := 1) hx hb dX12_fewest_11 (by decide) ?_
  refine lv_sipush (v := 2040) hx hb dX12_fewest_12 (by decide) ?_
  obtain ⟨z3, hz3, hf⟩ := lett_e hf
  refine cSR (As := [.int p2, .int 1, .int 2040]) (rest := []) ⟨hx, hb, hml, hown, hts⟩ (mX12_in l D T p2 1 2040 z3 hz3.symm) (va_cwS 3 hts gX12_fewest_X12_in rfl rfl rfl (by decide +kernel) ⟨Nat.le_of_ble_eq_true rfl, Nat.le_of_ble_eq_true rfl⟩) P0 hK rfl hl.1 rfl (Nat.le_of_ble_eq_true rfl) dX12_fewest_15 ⟨Nat.le_of_ble_eq_true rfl, Nat.le_of_ble_eq_true rfl⟩ hP hS (fun H locs hP hS => ?_)
  refine lv_if_eq (tgt := 29) hx hb dX12_fewest_18 (by decide) (fun c4 => ?_) (fun c4 => ?_)
  · replace hf := ifp c4 hf
    refine lv_iconst (v := (-1)) hx hb dX12_fewest_29 (by decide) ?_
    have e9 := Option.some.inj hf
    exact retM hx hb hr hlocks hP hD hS (congrArg (fun z => z.1) e9) (congrArg (fun z => (kX12 T h a z.2 : va_W)) e9) dX12_fewest_30
  replace hf := ifn c4 hf
  refine lv_iload_n hx hb dX12_fewest_21 rfl (lv_at hl 1 rfl) ?_
  refine lv_aload_n hx hb dX12_fewest_22 rfl (lv_at hl 0 rfl) ?_
  refine va_get (D := D) (ci := 12) (v := .int (u 6 0)) (C := RX12) (T := TX12) (N := 52) hx hb hts hinX12 hown hK.1 hP 0 rfl rfl 6 (by decide) (hts (.fieldLink RX12 119 "RopeScaleModel" "taped" "I") (List.mem_of_getElem? (i := 1) rfl)) (fun _ h9 => h9) rfl dX12_fewest_23 ?_
  refine lv_icmp_le (tgt := 31) hx hb dX12_fewest_26 (by decide) (fun c5 => ?_) (fun c5 => ?_)
  · replace hf := ifp c5 hf
    refine lv_aload_n hx hb dX12_fewest_31 rfl (lv_at hl 0 rfl) ?_
    refine lv_iconst (v := 0) hx hb dX12_fewest_32 (by decide) ?_
    obtain ⟨u6, eu6, hf⟩ := lett_e hf
    refine va_put (D := D) (ci := 12) (v := .int 0) (ty := .int) (C := RX12) (T := TX12) (N := 52) hx hb hts hinX12 tyX12 tyX12_ok nmX12 hown hK.1 hP hD hS 0 rfl rfl 6 (by decide) (hts (.fieldLink RX12 119 "RopeScaleModel" "taped" "I") (List.mem_of_getElem? (i := 1) rfl)) (fun _ h9 => h9) rfl (tyX12_ok 6 (by decide)) rfl rfl (Nat.le_of_ble_eq_true rfl) dX12_fewest_33 (fun H locs hP hD hS => ?_)
    have hP : va_P D vwCl (kX12 T h a u6) H := by rw [eu6]; exact hP
    have hD : va_D (va_A (kX12 T h a u) s.heap.size) (kX12 T h a u6) := by rw [eu6]; exact hD
    refine lv_aload_n hx hb dX12_fewest_36 rfl (lv_at hl 0 rfl) ?_
    refine lv_iload_n hx hb dX12_fewest_37 rfl (lv_at hl 1 rfl) ?_
    obtain ⟨z7, hz7, hf⟩ := bnd hf
    refine cVR (As := [.int p1]) (rest := []) ⟨hx, hb, hml, hown, hts⟩ (mX12_areAll l D T h a u6 p1 z7 hz7) (cwV 1 hts gX12_fewest_X12_areAll rfl rfl rfl (by decide +kernel) ⟨Nat.le_of_ble_eq_true rfl, Nat.le_of_ble_eq_true rfl⟩) (va_recv hK.1 hP (ci := 12) (q0 := 0) rfl rfl) hP hK rfl hl.1 rfl (Nat.le_of_ble_eq_true rfl) dX12_fewest_38 ⟨Nat.le_of_ble_eq_true rfl, Nat.le_of_ble_eq_true rfl⟩ hP hS (fun H locs hP hS => ?_)
    refine lv_if_ne (tgt := 47) hx hb dX12_fewest_41 (by decide) (fun c8 => ?_) (fun c8 => ?_)
    · replace hf := ifn c8 hf
      refine lv_aload_n hx hb dX12_fewest_47 rfl (lv_at hl 0 rfl) ?_
      refine lv_iload_n hx hb dX12_fewest_48 rfl (lv_at hl 1 rfl) ?_
      refine lv_iconst (v := 1) hx hb dX12_fewest_49 (by decide) ?_
      obtain ⟨z9, hz9, hf⟩ := bnd hf
      have hFc9 := vaA_self hD hS hA
      refine cVMv (As := [.int p1, .int 1]) (rest := []) ⟨hx, hb, hml, hown, hts⟩ (mX12_laysFewest l D T h a u6 _ p1 1 z9 hz9) (cwV 2 hts gX12_fewest_X12_laysFewest rfl rfl rfl (by decide +kernel) ⟨Nat.le_of_ble_eq_true rfl, Nat.le_of_ble_eq_true rfl⟩) (va_recv hK.1 hP (ci := 12) (q0 := 0) rfl rfl) hP hK rfl hl.1 rfl (Nat.le_of_ble_eq_true rfl) dX12_fewest_50 ⟨Nat.le_of_ble_eq_true rfl, Nat.le_of_ble_eq_true rfl⟩ hD hFc9 hS (fun H locs hP hD1 _ hS => ?_)
      have hD := hD1.weaken (fun _ _ _ h9 => hFc9 _ h9)
      refine lv_aload_n hx hb dX12_fewest_53 rfl (lv_at hl 0 rfl) ?_
      refine va_get (D := D) (ci := 12) (v := .ref (a 47)) (C := RX12) (T := TX12) (N := 52) hx hb hts hinX12 hown hK.1 hP 0 rfl rfl 47 (by decide) (hts (.fieldLink RX12 89 "RopeScaleModel" "fewestFor" "[I") (List.mem_of_getElem? (i := 2) rfl)) (fun _ h9 => h9) rfl dX12_fewest_54 ?_
      refine lv_sipush (v := 2040) hx hb dX12_fewest_57 (by decide) ?_
      refine lv_iload_n hx hb dX12_fewest_60 rfl (lv_at hl 2 rfl) ?_
      refine lv_iadd hx hb dX12_fewest_61 ?_
      obtain ⟨h12, hf⟩ := gd_e hf
      refine va_iald hx hb hK.1 hP 27 0 rfl rfl h12 dX12_fewest_62 ?_
      refine lv_ldcw (v := 1000000) hx hb hown (hts (.constant RX12 360 (1000000)) (List.mem_of_getElem? (i := 3) rfl)) dX12_fewest_63 ?_
      refine lv_icmp_lt (tgt := 74) hx hb dX12_fewest_66 (by decide) (fun c10 => ?_) (fun c10 => ?_)
      · replace hf := ifp c10 hf
        refine lv_aload_n hx hb dX12_fewest_74 rfl (lv_at hl 0 rfl) ?_
        refine va_get (D := D) (ci := 12) (v := .ref (a 47)) (C := RX12) (T := TX12) (N := 52) hx hb hts hinX12 hown hK.1 hP 0 rfl rfl 47 (by decide) (hts (.fieldLink RX12 89 "RopeScaleModel" "fewestFor" "[I") (List.mem_of_getElem? (i := 2) rfl)) (fun _ h9 => h9) rfl dX12_fewest_75 ?_
        refine lv_sipush (v := 2040) hx hb dX12_fewest_78 (by decide) ?_
        refine lv_iload_n hx hb dX12_fewest_81 rfl (lv_at hl 2 rfl) ?_
        refine lv_iadd hx hb dX12_fewest_82 ?_
        obtain ⟨h11, hf⟩ := gd_e hf
        refine va_iald hx hb hK.1 hP 27 0 rfl rfl h11 dX12_fewest_83 ?_
        have e9 := Option.some.inj hf
        exact retM hx hb hr hlocks hP hD hS (congrArg (fun z => z.1) e9) (congrArg (fun z => (kX12 T h a z.2 : va_W)) e9) dX12_fewest_84
      replace hf := ifn c10 hf
      refine lv_bipush (v := (-2)) hx hb dX12_fewest_69 (by decide) ?_
      refine lv_goto (tgt := 84) hx hb dX12_fewest_71 (by decide) ?_
      have e9 := Option.some.inj hf
      exact retM hx hb hr hlocks hP hD hS (congrArg (fun z => z.1) e9) (congrArg (fun z => (kX12 T h a z.2 : va_W)) e9) dX12_fewest_84
    replace hf := ifp c8 hf
    refine lv_bipush (v := (-3)) hx hb dX12_fewest_44 (by decide) ?_
    have e9 := Option.some.inj hf
    exact retM hx hb hr hlocks hP hD hS (congrArg (fun z => z.1) e9) (congrArg (fun z => (kX12 T h a z.2 : va_W)) e9) dX12_fewest_46
  replace hf := ifn c5 hf
  refine lv_iconst (v := (-1)) hx hb dX12_fewest_29 (by decide) ?_
  have e9 := Option.some.inj hf
  exact retM hx hb hr hlocks hP hD hS (congrArg (fun z => z.1) e9) (congrArg (fun z => (kX12 T h a z.2 : va_W)) e9) dX12_fewest_30
