def bX0_lead_L56  (lp38 : St → Int32 → Int32 → Int32 → Int32 → Int32 → Option (Int32 × St)) (lp56 : St → Int32 → Int32 → Int32 → Int32 → Int32 → Int32 → Option (Int32 × St)) (v : St) (x3 : Int32) (x4 : Int32) (x5 : Int32) (x6 : Int32) (x7 : Int32) (x8 : Int32) : Option (Int32 × St) := if x5 ≤ x8 then lett (x7 + 1) fun t2 => lp38 v x3 x4 x5 x6 t2 else lett (fX11_has x7 x8) fun z3 => if z3 = 0 then lett (x8 + 1) fun t5 => lp56 v x3 x4 x5 x6 x7 t5 else gd x8 16 <| (fX0_canGo v (x7 ^^^ (jshl 1 x8)) (v 2 (ix x8)) x3 x4).bind fun z6 => if z6 = 0 then lett (x8 + 1) fun t8 => lp56 v x3 x4 x5 x6 x7 t8 else gd x7 256 <| gd (x7 ^^^ (jshl 1 x8)) 256 <| gd x7 256 <| lett (st v 4 (ix x7) (mx (v 4 (ix x7)) (1 + (v 4 (ix (x7 ^^^ (jshl 1 x8))))))) fun u9 => lett (x8 + 1) fun t10 => lp56 u9 x3 x4 x5 x6 x7 t10
def fX0_lead_L56  (lp38 : St → Int32 → Int32 → Int32 → Int32 → Int32 → Option (Int32 × St)) : Nat → St → Int32 → Int32 → Int32 → Int32 → Int32 → Int32 → Option (Int32 × St)
  | 0, _, _, _, _, _, _, _ => none
  | n + 1, v, x3, x4, x5, x6, x7, x8 => bX0_lead_L56 lp38 (fX0_lead_L56 lp38 n) v x3 x4 x5 x6 x7 x8
def bX0_lead_L38   (lp38 : St → Int32 → Int32 → Int32 → Int32 → Int32 → Option (Int32 × St)) (v : St) (x3 : Int32) (x4 : Int32) (x5 : Int32) (x6 : Int32) (x7 : Int32) : Option (Int32 × St) := if x6 < x7 then (fX0_followLeast v x6 x5 x3 x4).bind fun z16 => gd x6 256 <| some (z16 4 (ix x6), z16) else gd x7 256 <| lett (st v 4 (ix x7) 0) fun u18 => fX0_lead_L56 lp38 FU u18 x3 x4 x5 x6 x7 0
def fX0_lead_L38   : Nat → St → Int32 → Int32 → Int32 → Int32 → Int32 → Option (Int32 × St)
  | 0, _, _, _, _, _, _ => none
  | n + 1, v, x3, x4, x5, x6, x7 => bX0_lead_L38  (fX0_lead_L38  n) v x3 x4 x5 x6 x7
def fX0_lead  (u : St) (uw : Nat → Int32) (p1 : Int32) (p3 : Int32) (p4 : Int32) : Option (Int32 × St) := (fX0_gather u uw p1).bind fun z20 => (fX0_addUp (z20.2 0) (z20.2 2) 0).bind fun z21 => lett (sa z20.2 0 z21) fun u22 => lett ((jshl 1 z20.1) - 1) fun t23 => gd 0 256 <| lett (st u22 4 (ix 0) 0) fun u24 => fX0_lead_L38 FU u24 p3 p4 z20.1 t23 1
set_option maxHeartbeats 4000000 in
set_option maxRecDepth 100000 in
theorem mX0_lead (l : Launch) (D : va_G) (T : Ty3) (h : Nat) (a : Nat → Nat) (u : St) (qw : Nat) (uw : Nat → Int32) (sz : Nat) (p1 : Int32) (p3 : Int32) (p4 : Int32) (res : Int32 × St) (hf : fX0_lead u uw p1 p3 p4 = some res) : Met l yX0_lead wsX0_lead ({ frames := 3, cells := 0, slots := 0, locals := 78 }) (PcM D T (kX0 T h a u ++ [(qw, .inl (T.1, 16, .inl uw))]) sz [.ref h, .int p1, .ref qw, .int p3, .int p4]) (QM D (kX0 T h a u ++ [(qw, .inl (T.1, 16, .inl uw))]) sz res.1 (kX0 T h a res.2 ++ [(qw, .inl (T.1, 16, .inl uw))])) 0 0 (va_A (kX0 T h a u ++ [(qw, .inl (T.1, 16, .inl uw))]) sz) := by
  refine Met.ofW (cc := cX0_lead) (maxL := 9) (ret := (some .int)) (by decide) rfl ?_
  intro p e s m args below meth c s₁ B hml hv
  obtain ⟨rfl, hsz, hP, hK, hD0⟩ := hv
  have hx := B.exec
  have hb := B.bytes
  have hr := B.returns
  have hts := atoms_spec (ws := wsX0_lead) B.pre
  have hown : s.vm.findClass RX0 = some m.cls := findClass_of_methodNamed B.named
  have hlocks := B.notSynchronized
  subst hsz
  have hD := hD0.self (sz := s.heap.size)
  have hA : ∀ q : Nat, s.heap.size ≤ q → va_A (kX0 T h a u ++ [(qw, .inl (T.1, 16, .inl uw))]) s.heap.size q := fun q h => Or.inr h
  have hS : va_S (va_A (kX0 T h a u ++ [(qw, .inl (T.1, 16, .inl uw))]) s.heap.size) s.heap s.heap [] := va_S.rf
  have hinX0 : ∀ w ∈ u_ws RX0 TX0 6, w ∈ wsX0_lead := fun w h => List.mem_cons_of_mem _ (List.mem_append_right _ h)
  have hl := lv_entry ([.ref h, .int p1, .ref qw, .int p3, .int p4]) (n := 9) (Nat.le_of_ble_eq_true rfl)
  rw [lg_entry_eq]
  generalize (lg_sl ([.ref h, .int p1, .ref qw, .int p3, .int p4]) ++ List.replicate (9 - (lg_sl ([.ref h, .int p1, .ref qw, .int p3, .int p4])).length) Slot.unset).toArray = ls at hl ⊢
  have hl : lv_has ls 9 [(0, .ref h), (1, .int p1), (2, .ref qw), (3, .int p3), (4, .int p4)] := hl
  have L38 : ∀ (n38 : Nat), ∀ (v : St) (x3 : Int32) (x4 : Int32) (x5 : Int32) (x6 : Int32) (x7 : Int32) (H : Heap) (locs : List Loc) (ls : Array Slot), fX0_lead_L38  n38 v x3 x4 x5 x6 x7 = some res → va_P D vwCl (kX0 T h a v ++ [(qw, .inl (T.1, 16, .inl uw))]) H → va_D (va_A (kX0 T h a u ++ [(qw, .inl (T.1, 16, .inl uw))]) s.heap.size) (kX0 T h a v ++ [(qw, .inl (T.1, 16, .inl uw))]) → va_S (va_A (kX0 T h a u ++ [(qw, .inl (T.1, 16, .inl uw))]) s.heap.size) s.heap H locs → lv_has ls 9 [(0, .ref h), (3, .int x3), (4, .int x4), (5, .int x5), (6, .int x6), (7, .int x7)] → W p l e (headSpec wsX0_lead ({ frames := 3, cells := 0, slots := 0, locals := 78 })).room s m ([.ref h, .int p1, .ref qw, .int p3, .int p4] : List Value).toArray below meth c H locs 0 0 (MQ below (QM D (kX0 T h a u ++ [(qw, .inl (T.1, 16, .inl uw))]) s.heap.size res.1 (kX0 T h a res.2 ++ [(qw, .inl (T.1, 16, .inl uw))])) ([.ref h, .int p1, .ref qw, .int p3, .int p4] : List Value).toArray s 0 0 (va_A (kX0 T h a u ++ [(qw, .inl (T.1, 16, .inl uw))]) s.heap.size)) (F0 m 38 ls []) := by
    intro n38
    induction n38 with
    | zero => intro v x3 x4 x5 x6 x7 H locs ls hf; exact nns hf
    | succ n38 ih38 =>
      have L56 : ∀ (n56 : Nat), ∀ (v : St) (x3 : Int32) (x4 : Int32) (x5 : Int32) (x6 : Int32) (x7 : Int32) (x8 : Int32) (H : Heap) (locs : List Loc) (ls : Array Slot), fX0_lead_L56 (fX0_lead_L38  n38) n56 v x3 x4 x5 x6 x7 x8 = some res → va_P D vwCl (kX0 T h a v ++ [(qw, .inl (T.1, 16, .inl uw))]) H → va_D (va_A (kX0 T h a u ++ [(qw, .inl (T.1, 16, .inl uw))]) s.heap.size) (kX0 T h a v ++ [(qw, .inl (T.1, 16, .inl uw))]) → va_S (va_A (kX0 T h a u ++ [(qw, .inl (T.1, 16, .inl uw))]) s.heap.size) s.heap H locs → lv_has ls 9 [(0, .ref h), (3, .int x3), (4, .int x4), (5, .int x5), (6, .int x6), (7, .int x7), (8, .int x8)] → W p l e (headSpec wsX0_lead ({ frames := 3, cells := 0, slots := 0, locals := 78 })).room s m ([.ref h, .int p1, .ref qw, .int p3, .int p4] : List Value).toArray below meth c H locs 0 0 (MQ below (QM D (kX0 T h a u ++ [(qw, .inl (T.1, 16, .inl uw))]) s.heap.size res.1 (kX0 T h a res.2 ++ [(qw, .inl (T.1, 16, .inl uw))])) ([.ref h, .int p1, .ref qw, .int p3, .int p4] : List Value).toArray s 0 0 (va_A (kX0 T h a u ++ [(qw, .inl (T.1, 16, .inl uw))]) s.heap.size)) (F0 m 56 ls []) := by
        intro n56
        induction n56 with
        | zero => intro v x3 x4 x5 x6 x7 x8 H locs ls hf; exact nns hf
        | succ n56 ih56 =>
          intro v x3 x4 x5 x6 x7 x8 H locs ls hf hP hD hS hl
          replace hf : bX0_lead_L56 (fX0_lead_L38  n38) (fX0_lead_L56 (fX0_lead_L38  n38) n56) v x3 x4 x5 x6 x7 x8 = some res := hf
          unfold bX0_lead_L56 at hf
          refine lv_iload hx hb dX0_lead_56 (lv_at hl 6 rfl) ?_
          refine lv_iload hx hb dX0_lead_58 (lv_at hl 3 rfl) ?_
          refine lv_icmp_ge (tgt := 134) hx hb dX0_lead_60 (by decide) (fun c1 => ?_) (fun c1 => ?_)
          · replace hf := ifp c1 hf
            obtain ⟨t2, et2, hf⟩ := lett_e hf
            refine lv_iinc (v := t2) (lv' := [(7, .int t2), (0, .ref h), (3, .int x3), (4, .int x4), (5, .int x5), (6, .int x6), (8, .int x8)]) hx hb dX0_lead_134 hl (k := 5) rfl (by rw [et2]; rfl) (by decide) rfl (fun ls hl => ?_)
            refine lv_goto (tgt := 38) hx hb dX0_lead_137 (by decide) ?_
            exact ih38 v x3 x4 x5 x6 t2 _ _ _ hf hP hD hS (lv_sub hl [1, 2, 3, 4, 5, 0] rfl)
          replace hf := ifn c1 hf
          refine lv_iload hx hb dX0_lead_63 (lv_at hl 5 rfl) ?_
          refine lv_iload hx hb dX0_lead_65 (lv_at hl 6 rfl) ?_
          obtain ⟨z3, hz3, hf⟩ := lett_e hf
          refine cNR (As := [.int x7, .int x8]) (rest := []) ⟨hx, hb, hml, hown, hts⟩ (mX11_has l D T x7 x8 z3 hz3.symm) ⟨va_cnB (host := "RopeScale") (index := 65) 2 hts gX0_lead_X11_has_n65 rfl rfl rfl (hK.2 _ (List.mem_of_getElem? (i := 21) rfl)) (hts (.initialized RX11) (List.mem_of_getElem? (i := 19) rfl)) (by decide +kernel) ⟨Nat.le_of_ble_eq_true rfl, Nat.le_of_ble_eq_true rfl⟩, (hts (.static yX11_has) (List.mem_of_getElem? (i := 18) rfl)), trivial⟩ P0 hK rfl hl.1 rfl (Nat.le_of_ble_eq_true rfl) dX0_lead_67 ⟨Nat.le_of_ble_eq_true rfl, Nat.le_of_ble_eq_true rfl⟩ hP hS (fun H locs hP hS => ?_)
          refine lv_if_eq (tgt := 128) hx hb dX0_lead_70 (by decide) (fun c4 => ?_) (fun c4 => ?_)
          · replace hf := ifp c4 hf
            obtain ⟨t5, et5, hf⟩ := lett_e hf
            refine lv_iinc (v := t5) (lv' := [(8, .int t5), (0, .ref h), (3, .int x3), (4, .int x4), (5, .int x5), (6, .int x6), (7, .int x7)]) hx hb dX0_lead_128 hl (k := 6) rfl (by rw [et5]; rfl) (by decide) rfl (fun ls hl => ?_)
            refine lv_goto (tgt := 56) hx hb dX0_lead_131 (by decide) ?_
            exact ih56 v x3 x4 x5 x6 x7 t5 _ _ _ hf hP hD hS (lv_sub hl [1, 2, 3, 4, 5, 6, 0] rfl)
          replace hf := ifn c4 hf
          refine lv_aload_n hx hb dX0_lead_73 rfl (lv_at hl 0 rfl) ?_
          refine lv_iload hx hb dX0_lead_74 (lv_at hl 5 rfl) ?_
          refine lv_iconst (v := 1) hx hb dX0_lead_76 (by decide) ?_
          refine lv_iload hx hb dX0_lead_77 (lv_at hl 6 rfl) ?_
          refine lv_ishl hx hb dX0_lead_79 ?_
          refine lv_ixor hx hb dX0_lead_80 ?_
          refine lv_aload_n hx hb dX0_lead_81 rfl (lv_at hl 0 rfl) ?_
          refine va_get (D := D) (ci := 0) (v := .ref (a 2)) (C := RX0) (T := TX0) (N := 6) hx hb hts hinX0 hown hK.1 hP 0 rfl rfl 2 (by decide) (hts (.fieldLink RX0 18 "RopeScale$Choices" "row" "[I") (List.mem_of_getElem? (i := 2) rfl)) (fun _ h9 => h9) rfl dX0_lead_82 ?_
          refine lv_iload hx hb dX0_lead_85 (lv_at hl 6 rfl) ?_
          obtain ⟨h14, hf⟩ := gd_e hf
          refine va_iald hx hb hK.1 hP 3 0 rfl rfl h14 dX0_lead_87 ?_
          refine lv_iload_n hx hb dX0_lead_88 rfl (lv_at hl 1 rfl) ?_
          refine lv_iload hx hb dX0_lead_89 (lv_at hl 2 rfl) ?_
          obtain ⟨z6, hz6, hf⟩ := bnd hf
          refine cVR (As := [.int (x7 ^^^ (jshl 1 x8)), .int (v 2 (ix x8)), .int x3, .int x4]) (rest := []) ⟨hx, hb, hml, hown, hts⟩ (mX0_canGo l D T h a v (x7 ^^^ (jshl 1 x8)) (v 2 (ix x8)) x3 x4 z6 hz6) (cwV 4 hts gX0_lead_X0_canGo rfl rfl rfl (by decide +kernel) ⟨Nat.le_of_ble_eq_true rfl, Nat.le_of_ble_eq_true rfl⟩) (va_recv hK.1 hP (ci := 0) (q0 := 0) rfl rfl) (hP.sub (ws' := kX0 T h a v) [0, 1, 2, 3, 4, 5, 6] rfl) hK rfl hl.1 rfl (Nat.le_of_ble_eq_true rfl) dX0_lead_91 ⟨Nat.le_of_ble_eq_true rfl, Nat.le_of_ble_eq_true rfl⟩ hP hS (fun H locs hP hS => ?_)
          refine lv_if_eq (tgt := 128) hx hb dX0_lead_94 (by decide) (fun c7 => ?_) (fun c7 => ?_)
          · replace hf := ifp c7 hf
            obtain ⟨t8, et8, hf⟩ := lett_e hf
            refine lv_iinc (v := t8) (lv' := [(8, .int t8), (0, .ref h), (3, .int x3), (4, .int x4), (5, .int x5), (6, .int x6), (7, .int x7)]) hx hb dX0_lead_128 hl (k := 6) rfl (by rw [et8]; rfl) (by decide) rfl (fun ls hl => ?_)
            refine lv_goto (tgt := 56) hx hb dX0_lead_131 (by decide) ?_
            exact ih56 v x3 x4 x5 x6 x7 t8 _ _ _ hf hP hD hS (lv_sub hl [1, 2, 3, 4, 5, 6, 0] rfl)
          replace hf := ifn c7 hf
          refine lv_aload_n hx hb dX0_lead_97 rfl (lv_at hl 0 rfl) ?_
          refine va_get (D := D) (ci := 0) (v := .ref (a 4)) (C := RX0) (T := TX0) (N := 6) hx hb hts hinX0 hown hK.1 hP 0 rfl rfl 4 (by decide) (hts (.fieldLink RX0 24 "RopeScale$Choices" "mostOver" "[I") (List.mem_of_getElem? (i := 3) rfl)) (fun _ h9 => h9) rfl dX0_lead_98 ?_
          refine lv_iload hx hb dX0_lead_101 (lv_at hl 5 rfl) ?_
          refine lv_aload_n hx hb dX0_lead_103 rfl (lv_at hl 0 rfl) ?_
          refine va_get (D := D) (ci := 0) (v := .ref (a 4)) (C := RX0) (T := TX0) (N := 6) hx hb hts hinX0 hown hK.1 hP 0 rfl rfl 4 (by decide) (hts (.fieldLink RX0 24 "RopeScale$Choices" "mostOver" "[I") (List.mem_of_getElem? (i := 3) rfl)) (fun _ h9 => h9) rfl dX0_lead_104 ?_
          refine lv_iload hx hb dX0_lead_107 (lv_at hl 5 rfl) ?_
          obtain ⟨h13, hf⟩ := gd_e hf
          refine va_iald hx hb hK.1 hP 5 0 rfl rfl h13 dX0_lead_109 ?_
          refine lv_iconst (v := 1) hx hb dX0_lead_110 (by decide) ?_
          refine lv_aload_n hx hb dX0_lead_111 rfl (lv_at hl 0 rfl) ?_
          refine va_get (D := D) (ci := 0) (v := .ref (a 4)) (C := RX0) (T := TX0) (N := 6) hx hb hts hinX0 hown hK.1 hP 0 rfl rfl 4 (by decide) (hts (.fieldLink RX0 24 "RopeScale$Choices" "mostOver" "[I") (List.mem_of_getElem? (i := 3) rfl)) (fun _ h9 => h9) rfl dX0_lead_112 ?_
          refine lv_iload hx hb dX0_lead_115 (lv_at hl 5 rfl) ?_
          refine lv_iconst (v := 1) hx hb dX0_lead_117 (by decide) ?_
          refine lv_iload hx hb dX0_lead_118 (lv_at hl 6 rfl) ?_
          refine lv_ishl hx hb dX0_lead_120 ?_
          refine lv_ixor hx hb dX0_lead_121 ?_
          obtain ⟨h12, hf⟩ := gd_e hf
          refine va_iald hx hb hK.1 hP 5 0 rfl rfl h12 dX0_lead_122 ?_
          refine lv_iadd hx hb dX0_lead_123 ?_
          refine mmax hx hb (hml.trans hl.1.symm) hown (hts (.methodLink RX0 80 Lib.Math.max.name) (List.mem_of_getElem? (i := 4) rfl)) (hts (.static Lib.Math.max.name) (List.mem_of_getElem? (i := 5) rfl)) (hts (.initialized "java/lang/Math") (List.mem_of_getElem? (i := 6) rfl)) (hts (.code Lib.Math.max.name Lib.Math.max.code 2 (some .int)) (List.mem_of_getElem? (i := 7) rfl)) (Nat.le_of_ble_eq_true rfl) (Nat.le_of_ble_eq_true rfl) (Nat.le_of_ble_eq_true rfl) (Nat.le_of_ble_eq_true rfl) dX0_lead_124 ?_
          obtain ⟨h11, hf⟩ := gd_e hf
          obtain ⟨u9, eu9, hf⟩ := lett_e hf
          refine va_iast hx hb hK.1 hP hD hS 5 0 rfl rfl h11 dX0_lead_127 (fun H locs hP hD hS => ?_)
          have hP : va_P D vwCl (kX0 T h a u9 ++ [(qw, .inl (T.1, 16, .inl uw))]) H := by rw [eu9]; exact hP
          have hD : va_D (va_A (kX0 T h a u ++ [(qw, .inl (T.1, 16, .inl uw))]) s.heap.size) (kX0 T h a u9 ++ [(qw, .inl (T.1, 16, .inl uw))]) := by rw [eu9]; exact hD
          obtain ⟨t10, et10, hf⟩ := lett_e hf
          refine lv_iinc (v := t10) (lv' := [(8, .int t10), (0, .ref h), (3, .int x3), (4, .int x4), (5, .int x5), (6, .int x6), (7, .int x7)]) hx hb dX0_lead_128 hl (k := 6) rfl (by rw [et10]; rfl) (by decide) rfl (fun ls hl => ?_)
          refine lv_goto (tgt := 56) hx hb dX0_lead_131 (by decide) ?_
          exact ih56 u9 x3 x4 x5 x6 x7 t10 _ _ _ hf hP hD hS (lv_sub hl [1, 2, 3, 4, 5, 6, 0] rfl)
      intro v x3 x4 x5 x6 x7 H locs ls hf hP hD hS hl
      replace hf : bX0_lead_L38  (fX0_lead_L38  n38) v x3 x4 x5 x6 x7 = some res := hf
      unfold bX0_lead_L38 at hf
      refine lv_iload hx hb dX0_lead_38 (lv_at hl 5 rfl) ?_
      refine lv_iload hx hb dX0_lead_40 (lv_at hl 4 rfl) ?_
      refine lv_icmp_gt (tgt := 140) hx hb dX0_lead_42 (by decide) (fun c15 => ?_) (fun c15 => ?_)
      · replace hf := ifp c15 hf
        refine lv_aload_n hx hb dX0_lead_140 rfl (lv_at hl 0 rfl) ?_
        refine lv_iload hx hb dX0_lead_141 (lv_at hl 4 rfl) ?_
        refine lv_iload hx hb dX0_lead_143 (lv_at hl 3 rfl) ?_
        refine lv_iload_n hx hb dX0_lead_145 rfl (lv_at hl 1 rfl) ?_
        refine lv_iload hx hb dX0_lead_146 (lv_at hl 2 rfl) ?_
        obtain ⟨z16, hz16, hf⟩ := bnd hf
        have hPc := hP.sub (ws' := kX0 T h a v) [0, 1, 2, 3, 4, 5, 6] rfl
        have hDc := hD.sub (ws' := kX0 T h a v) [0, 1, 2, 3, 4, 5, 6] (by decide) rfl
        have hFc9 := va_free (wc := kX0 T h a v) hD hS hA [0, 1, 2, 3, 4, 5, 6] rfl
        refine cVMv (As := [.int x6, .int x5, .int x3, .int x4]) (rest := []) ⟨hx, hb, hml, hown, hts⟩ (mX0_followLeast l D T h a v _ x6 x5 x3 x4 z16 hz16) (cwV 4 hts gX0_lead_X0_followLeast rfl rfl rfl (by decide +kernel) ⟨Nat.le_of_ble_eq_true rfl, Nat.le_of_ble_eq_true rfl⟩) (va_recv hK.1 hP (ci := 0) (q0 := 0) rfl rfl) hPc hK rfl hl.1 rfl (Nat.le_of_ble_eq_true rfl) dX0_lead_148 ⟨Nat.le_of_ble_eq_true rfl, Nat.le_of_ble_eq_true rfl⟩ hDc hFc9 hS (fun H9 locs hP1 hD1 hk1 hS => ?_)
        obtain ⟨hP, hD⟩ := putAll_P (w1 := kX0 T h a z16) hP hD [0, 1, 2, 3, 4, 5, 6] rfl (by decide) hk1 hP1 rfl
        generalize H9 = H at hP hS ⊢
        have hP : va_P D vwCl (kX0 T h a z16 ++ [(qw, .inl (T.1, 16, .inl uw))]) H := by exact hP
        have hD : va_D (va_A (kX0 T h a u ++ [(qw, .inl (T.1, 16, .inl uw))]) s.heap.size) (kX0 T h a z16 ++ [(qw, .inl (T.1, 16, .inl uw))]) := by exact hD
        refine lv_aload_n hx hb dX0_lead_151 rfl (lv_at hl 0 rfl) ?_
        refine va_get (D := D) (ci := 0) (v := .ref (a 4)) (C := RX0) (T := TX0) (N := 6) hx hb hts hinX0 hown hK.1 hP 0 rfl rfl 4 (by decide) (hts (.fieldLink RX0 24 "RopeScale$Choices" "mostOver" "[I") (List.mem_of_getElem? (i := 3) rfl)) (fun _ h9 => h9) rfl dX0_lead_152 ?_
        refine lv_iload hx hb dX0_lead_155 (lv_at hl 4 rfl) ?_
        obtain ⟨h17, hf⟩ := gd_e hf
        refine va_iald hx hb hK.1 hP 5 0 rfl rfl h17 dX0_lead_157 ?_
        have e9 := Option.some.inj hf
        exact retM hx hb hr hlocks hP hD hS (congrArg (fun z => z.1) e9) (congrArg (fun z => (kX0 T h a z.2 ++ [(qw, .inl (T.1, 16, .inl uw))] : va_W)) e9) dX0_lead_158
      replace hf := ifn c15 hf
      refine lv_aload_n hx hb dX0_lead_45 rfl (lv_at hl 0 rfl) ?_
      refine va_get (D := D) (ci := 0) (v := .ref (a 4)) (C := RX0) (T := TX0) (N := 6) hx hb hts hinX0 hown hK.1 hP 0 rfl rfl 4 (by decide) (hts (.fieldLink RX0 24 "RopeScale$Choices" "mostOver" "[I") (List.mem_of_getElem? (i := 3) rfl)) (fun _ h9 => h9) rfl dX0_lead_46 ?_
      refine lv_iload hx hb dX0_lead_49 (lv_at hl 5 rfl) ?_
      refine lv_iconst (v := 0) hx hb dX0_lead_51 (by decide) ?_
      obtain ⟨h19, hf⟩ := gd_e hf
      obtain ⟨u18, eu18, hf⟩ := lett_e hf
      refine va_iast hx hb hK.1 hP hD hS 5 0 rfl rfl h19 dX0_lead_52 (fun H locs hP hD hS => ?_)
      have hP : va_P D vwCl (kX0 T h a u18 ++ [(qw, .inl (T.1, 16, .inl uw))]) H := by rw [eu18]; exact hP
      have hD : va_D (va_A (kX0 T h a u ++ [(qw, .inl (T.1, 16, .inl uw))]) s.heap.size) (kX0 T h a u18 ++ [(qw, .inl (T.1, 16, .inl uw))]) := by rw [eu18]; exact hD
      refine lv_iconst (v := 0) hx hb dX0_lead_53 (by decide) ?_
      refine lv_istore (lv' := [(8, .int 0), (0, .ref h), (3, .int x3), (4, .int x4), (5, .int x5), (6, .int x6), (7, .int x7)]) hx hb dX0_lead_54 hl (by decide) rfl (fun ls hl => ?_)
      exact L56 FU u18 x3 x4 x5 x6 x7 0 _ _ _ hf hP hD hS (lv_sub hl [1, 2, 3, 4, 5, 6, 0] rfl)
  unfold fX0_lead at hf
  refine lv_aload_n hx hb dX0_lead_0 rfl (lv_at hl 0 rfl) ?_
  refine lv_iload_n hx hb dX0_lead_1 rfl (lv_at hl 1 rfl) ?_
  refine lv_aload_n hx hb dX0_lead_2 rfl (lv_at hl 2 rfl) ?_
  obtain ⟨z20, hz20, hf⟩ := bnd hf
  have hFc9 := vaA_self hD hS hA
  refine cVM (As := [.int p1, .ref qw]) (rest := []) ⟨hx, hb, hml, hown, hts⟩ (mX0_gather l D T h a u qw uw _ p1 z20 hz20) (cwV 2 hts gX0_lead_X0_gather rfl rfl rfl (by decide +kernel) ⟨Nat.le_of_ble_eq_true rfl, Nat.le_of_ble_eq_true rfl⟩) (va_recv hK.1 hP (ci := 0) (q0 := 0) rfl rfl) hP hK rfl hl.1 rfl (Nat.le_of_ble_eq_true rfl) dX0_lead_3 ⟨Nat.le_of_ble_eq_true rfl, Nat.le_of_ble_eq_true rfl⟩ hD hFc9 hS (fun H locs hP hD1 _ hS => ?_)
  have hD := hD1.weaken (fun _ _ _ h9 => hFc9 _ h9)
  refine lv_istore (lv' := [(5, .int z20.1), (0, .ref h), (1, .int p1), (2, .ref qw), (3, .int p3), (4, .int p4)]) hx hb dX0_lead_6 hl (by decide) rfl (fun ls hl => ?_)
  refine lv_aload_n hx hb dX0_lead_8 rfl (lv_at hl 1 rfl) ?_
  refine va_get (D := D) (ci := 0) (v := .ref (a 0)) (C := RX0) (T := TX0) (N := 6) hx hb hts hinX0 hown hK.1 hP 0 rfl rfl 0 (by decide) (hts (.fieldLink RX0 11 "RopeScale$Choices" "lower" "[I") (List.mem_of_getElem? (i := 1) rfl)) (fun _ h9 => h9) rfl dX0_lead_9 ?_
  refine lv_aload_n hx hb dX0_lead_12 rfl (lv_at hl 1 rfl) ?_
  refine va_get (D := D) (ci := 0) (v := .ref (a 2)) (C := RX0) (T := TX0) (N := 6) hx hb hts hinX0 hown hK.1 hP 0 rfl rfl 2 (by decide) (hts (.fieldLink RX0 18 "RopeScale$Choices" "row" "[I") (List.mem_of_getElem? (i := 2) rfl)) (fun _ h9 => h9) rfl dX0_lead_13 ?_
  refine lv_iconst (v := 0) hx hb dX0_lead_16 (by decide) ?_
  obtain ⟨z21, hz21, hf⟩ := bnd hf
  have hPc := hP.sub (ws' := [(a 0, .inl (T.1, 256, .inl (z20.2 0)))] ++ [(a 2, .inl (T.1, 16, .inl (z20.2 2)))]) [1, 3] rfl
  have hDc := hD.sub (ws' := [(a 0, .inl (T.1, 256, .inl (z20.2 0)))] ++ [(a 2, .inl (T.1, 16, .inl (z20.2 2)))]) [1, 3] (by decide) rfl
  have hFc9 := va_free (wc := [(a 0, .inl (T.1, 256, .inl (z20.2 0)))] ++ [(a 2, .inl (T.1, 16, .inl (z20.2 2)))]) hD hS hA [1, 3] rfl
  refine cSMv (As := [.ref (a 0), .ref (a 2), .int 0]) (rest := []) ⟨hx, hb, hml, hown, hts⟩ (mX0_addUp l D T (a 0) (z20.2 0) (a 2) (z20.2 2) _ 0 z21 hz21) (va_cwS 3 hts gX0_lead_X0_addUp rfl rfl rfl (by decide +kernel) ⟨Nat.le_of_ble_eq_true rfl, Nat.le_of_ble_eq_true rfl⟩) hPc hK rfl hl.1 rfl (Nat.le_of_ble_eq_true rfl) dX0_lead_17 ⟨Nat.le_of_ble_eq_true rfl, Nat.le_of_ble_eq_true rfl⟩ hDc hFc9 hS (fun H9 locs hP1 hD1 hk1 hS => ?_)
  obtain ⟨hP, hD⟩ := putAll_P (w1 := [(a 0, .inl (T.1, 256, .inl z21))] ++ [(a 2, .inl (T.1, 16, .inl (z20.2 2)))]) hP hD [1, 3] rfl (by decide) hk1 hP1 rfl
  generalize H9 = H at hP hS ⊢
  obtain ⟨u22, eu22, hf⟩ := lett_e hf
  have hP : va_P D vwCl (kX0 T h a u22 ++ [(qw, .inl (T.1, 16, .inl uw))]) H := by rw [eu22]; exact hP
  have hD : va_D (va_A (kX0 T h a u ++ [(qw, .inl (T.1, 16, .inl uw))]) s.heap.size) (kX0 T h a u22 ++ [(qw, .inl (T.1, 16, .inl uw))]) := by rw [eu22]; exact hD
  refine lv_iconst (v := 1) hx hb dX0_lead_20 (by decide) ?_
  refine lv_iload hx hb dX0_lead_21 (lv_at hl 0 rfl) ?_
  refine lv_ishl hx hb dX0_lead_23 ?_
  refine lv_iconst (v := 1) hx hb dX0_lead_24 (by decide) ?_
  refine lv_isub hx hb dX0_lead_25 ?_
  obtain ⟨t23, et23, hf⟩ := lett_e hf
  refine lv_eqi et23 ?_
  refine lv_istore (lv' := [(6, .int t23), (5, .int z20.1), (0, .ref h), (1, .int p1), (2, .ref qw), (3, .int p3), (4, .int p4)]) hx hb dX0_lead_26 hl (by decide) rfl (fun ls hl => ?_)
  refine lv_aload_n hx hb dX0_lead_28 rfl (lv_at hl 2 rfl) ?_
  refine va_get (D := D) (ci := 0) (v := .ref (a 4)) (C := RX0) (T := TX0) (N := 6) hx hb hts hinX0 hown hK.1 hP 0 rfl rfl 4 (by decide) (hts (.fieldLink RX0 24 "RopeScale$Choices" "mostOver" "[I") (List.mem_of_getElem? (i := 3) rfl)) (fun _ h9 => h9) rfl dX0_lead_29 ?_
  refine lv_iconst (v := 0) hx hb dX0_lead_32 (by decide) ?_
  refine lv_iconst (v := 0) hx hb dX0_lead_33 (by decide) ?_
  obtain ⟨h25, hf⟩ := gd_e hf
  obtain ⟨u24, eu24, hf⟩ := lett_e hf
  refine va_iast hx hb hK.1 hP hD hS 5 0 rfl rfl h25 dX0_lead_34 (fun H locs hP hD hS => ?_)
  have hP : va_P D vwCl (kX0 T h a u24 ++ [(qw, .inl (T.1, 16, .inl uw))]) H := by rw [eu24]; exact hP
  have hD : va_D (va_A (kX0 T h a u ++ [(qw, .inl (T.1, 16, .inl uw))]) s.heap.size) (kX0 T h a u24 ++ [(qw, .inl (T.1, 16, .inl uw))]) := by rw [eu24]; exact hD
  refine lv_iconst (v := 1) hx hb dX0_lead_35 (by decide) ?_
  refine lv_istore (lv' := [(7, .int 1), (6, .int t23), (5, .int z20.1), (0, .ref h), (1, .int p1), (2, .ref qw), (3, .int p3), (4, .int p4)]) hx hb dX0_lead_36 hl (by decide) rfl (fun ls hl => ?_)
  exact L38 FU u24 p3 p4 z20.1 t23 1 _ _ _ hf hP hD hS (lv_sub hl [3, 6, 7, 2, 1, 0] rfl)
def fX0_whoGoesAt  (u : St) (p1 : Int32) : Option (Int32) := lett (fX11_isWithin p1 0 7) fun z1 => if z1 = 0 then some (-1) else gd p1 8 <| some (u 5 (ix p1))
set_option maxHeartbeats 4000000 in
set_option maxRecDepth 100000 in
theorem mX0_whoGoesAt (l : Launch) (D : va_G) (T : Ty3) (h : Nat) (a : Nat → Nat) (u : St) (p1 : Int32) (res : Int32) (hf : fX0_whoGoesAt u p1 = some res) : Met l yX0_whoGoesAt wsX0_whoGoesAt ({ frames := 1, cells := 0, slots := 0, locals := 22 }) (PcR D T (kX0 T h a u) [.ref h, .int p1]) (QR res) 0 0 noA := by
  refine Met.ofW (cc := cX0_whoGoesAt) (maxL := 2) (ret := (some .int)) (by decide) rfl ?_
  intro p e s m args below meth c s₁ B hml hv
  obtain ⟨rfl, hP, hK⟩ := hv
  have hx := B.exec
  have hb := B.bytes
  have hr := B.returns
  have hts := atoms_spec (ws := wsX0_whoGoesAt) B.pre
  have hown : s.vm.findClass RX0 = some m.cls := findClass_of_methodNamed B.named
  have hlocks := B.notSynchronized
  have hS : va_S noA s.heap s.heap [] := va_S.rf
  have hinX0 : ∀ w ∈ u_ws RX0 TX0 6, w ∈ wsX0_whoGoesAt := fun w h => List.mem_cons_of_mem _ (List.mem_append_right _ h)
  have hl := lv_entry ([.ref h, .int p1]) (n := 2) (Nat.le_of_ble_eq_true rfl)
  rw [lg_entry_eq]
  generalize (lg_sl ([.ref h, .int p1]) ++ List.replicate (2 - (lg_sl ([.ref h, .int p1])).length) Slot.unset).toArray = ls at hl ⊢
  have hl : lv_has ls 2 [(0, .ref h), (1, .int p1)] := hl
  unfold fX0_whoGoesAt at hf
  refine lv_iload_n hx hb dX0_whoGoesAt_0 rfl (lv_at hl 1 rfl) ?_
  refine lv_iconst (v := 0) hx hb dX0_whoGoesAt_1 (by decide) ?_
  refine lv_bipush (v := 7) hx hb dX0_whoGoesAt_2 (by decide) ?_
  obtain ⟨z1, hz1, hf⟩ := lett_e hf
  refine cNR (As := [.int p1, .int 0, .int 7]) (rest := []) ⟨hx, hb, hml, hown, hts⟩ (mX11_isWithin l D T p1 0 7 z1 hz1.symm) ⟨va_cnB (host := "RopeScale") (index := 93) 3 hts gX0_whoGoesAt_X11_isWithin_n93 rfl rfl rfl (hK.2 _ (List.mem_of_getElem? (i := 22) rfl)) (hts (.initialized RX11) (List.mem_of_getElem? (i := 3) rfl)) (by decide +kernel) ⟨Nat.le_of_ble_eq_true rfl, Nat.le_of_ble_eq_true rfl⟩, (hts (.static yX11_isWithin) (List.mem_of_getElem? (i := 2) rfl)), trivial⟩ P0 hK rfl hl.1 rfl (Nat.le_of_ble_eq_true rfl) dX0_whoGoesAt_4 ⟨Nat.le_of_ble_eq_true rfl, Nat.le_of_ble_eq_true rfl⟩ hP hS (fun H locs hP hS => ?_)
  refine lv_if_eq (tgt := 19) hx hb dX0_whoGoesAt_7 (by decide) (fun c2 => ?_) (fun c2 => ?_)
  · replace hf := ifp c2 hf
    refine lv_iconst (v := (-1)) hx hb dX0_whoGoesAt_19 (by decide) ?_
    exact retR hx hb hr hlocks hS (Option.some.inj hf) dX0_whoGoesAt_20
  replace hf := ifn c2 hf
  refine lv_aload_n hx hb dX0_whoGoesAt_10 rfl (lv_at hl 0 rfl) ?_
  refine va_get (D := D) (ci := 0) (v := .ref (a 5)) (C := RX0) (T := TX0) (N := 6) hx hb hts hinX0 hown hK.1 hP 0 rfl rfl 5 (by decide) (hts (.fieldLink RX0 27 "RopeScale$Choices" "goesAt" "[I") (List.mem_of_getElem? (i := 1) rfl)) (fun _ h9 => h9) rfl dX0_whoGoesAt_11 ?_
  refine lv_iload_n hx hb dX0_whoGoesAt_14 rfl (lv_at hl 1 rfl) ?_
  obtain ⟨h3, hf⟩ := gd_e hf
  refine va_iald hx hb hK.1 hP 6 0 rfl rfl h3 dX0_whoGoesAt_15 ?_
  refine lv_goto (tgt := 20) hx hb dX0_whoGoesAt_16 (by decide) ?_
  exact retR hx hb hr hlocks hS (Option.some.inj hf) dX0_whoGoesAt_20
def fX8_at  (u : St) (p1 : Int32) : Option (Int32) := if p1 < 0 then some (-1) else if (u 1 0) ≤ p1 then some (-1) else gd p1 260 <| some (u 0 (ix p1))
set_option maxHeartbeats 4000000 in
set_option maxRecDepth 100000 in
theorem mX8_at (l : Launch) (D : va_G) (T : Ty3) (h : Nat) (a : Nat → Nat) (u : St) (p1 : Int32) (res : Int32) (hf : fX8_at u p1 = some res) : Met l yX8_at wsX8_at ({ frames := 0, cells := 0, slots := 0, locals := 0 }) (PcR D T (kX8 T h a u) [.ref h, .int p1]) (QR res) 0 0 noA := by
  refine Met.ofW (cc := cX8_at) (maxL := 2) (ret := (some .int)) (by decide) rfl ?_
  intro p e s m args below meth c s₁ B hml hv
  obtain ⟨rfl, hP, hK⟩ := hv
  have hx := B.exec
  have hb := B.bytes
  have hr := B.returns
  have hts := atoms_spec (ws := wsX8_at) B.pre
  have hown : s.vm.findClass RX8 = some m.cls := findClass_of_methodNamed B.named
  have hlocks := B.notSynchronized
  have hS : va_S noA s.heap s.heap [] := va_S.rf
  have hinX8 : ∀ w ∈ u_ws RX8 TX8 2, w ∈ wsX8_at := fun w h => List.mem_cons_of_mem _ (List.mem_append_right _ h)
  have hl := lv_entry ([.ref h, .int p1]) (n := 2) (Nat.le_of_ble_eq_true rfl)
  rw [lg_entry_eq]
  generalize (lg_sl ([.ref h, .int p1]) ++ List.replicate (2 - (lg_sl ([.ref h, .int p1])).length) Slot.unset).toArray = ls at hl ⊢
  have hl : lv_has ls 2 [(0, .ref h), (1, .int p1)] := hl
  unfold fX8_at at hf
  refine lv_iload_n hx hb dX8_at_0 rfl (lv_at hl 1 rfl) ?_
  refine lv_if_lt (tgt := 21) hx hb dX8_at_1 (by decide) (fun c1 => ?_) (fun c1 => ?_)
  · replace hf := ifp c1 hf
    refine lv_iconst (v := (-1)) hx hb dX8_at_21 (by decide) ?_
    exact retR hx hb hr hlocks hS (Option.some.inj hf) dX8_at_22
  replace hf := ifn c1 hf
  refine lv_iload_n hx hb dX8_at_4 rfl (lv_at hl 1 rfl) ?_
  refine lv_aload_n hx hb dX8_at_5 rfl (lv_at hl 0 rfl) ?_
  refine va_get (D := D) (ci := 8) (v := .int (u 1 0)) (C := RX8) (T := TX8) (N := 2) hx hb hts hinX8 hown hK.1 hP 0 rfl rfl 1 (by decide) (hts (.fieldLink RX8 15 "RopeScale$Tape" "length" "I") (List.mem_of_getElem? (i := 1) rfl)) (fun _ h9 => h9) rfl dX8_at_6 ?_
  refine lv_icmp_ge (tgt := 21) hx hb dX8_at_9 (by decide) (fun c2 => ?_) (fun c2 => ?_)
  · replace hf := ifp c2 hf
    refine lv_iconst (v := (-1)) hx hb dX8_at_21 (by decide) ?_
    exact retR hx hb hr hlocks hS (Option.some.inj hf) dX8_at_22
  replace hf := ifn c2 hf
  refine lv_aload_n hx hb dX8_at_12 rfl (lv_at hl 0 rfl) ?_
  refine va_get (D := D) (ci := 8) (v := .ref (a 0)) (C := RX8) (T := TX8) (N := 2) hx hb hts hinX8 hown hK.1 hP 0 rfl rfl 0 (by decide) (hts (.fieldLink RX8 11 "RopeScale$Tape" "bytes" "[I") (List.mem_of_getElem? (i := 2) rfl)) (fun _ h9 => h9) rfl dX8_at_13 ?_
  refine lv_iload_n hx hb dX8_at_16 rfl (lv_at hl 1 rfl) ?_
  obtain ⟨h3, hf⟩ := gd_e hf
  refine va_iald hx hb hK.1 hP 1 0 rfl rfl h3 dX8_at_17 ?_
  refine lv_goto (tgt := 22) hx hb dX8_at_18 (by decide) ?_
  exact retR hx hb hr hlocks hS (Option.some.inj hf) dX8_at_22
def fX1_next_J44   (v : St) (y0 : Int32) : Option (St) := lett (st v 3 0 y0) fun u1 => some u1
def fX1_next  (u : St) (utp : St)  : Option (St) := lett (st u 2 0 (mn ((u 2 0) + 1) (u 1 0))) fun u2 => if (u2 1 0) ≤ (u2 2 0) then fX1_next_J44 u2 (-1) else (fX8_at utp (u2 2 0)).bind fun z4 => fX1_next_J44 u2 z4
set_option maxHeartbeats 4000000 in
set_option maxRecDepth 100000 in
theorem mX1_next (l : Launch) (D : va_G) (T : Ty3) (h : Nat) (a : Nat → Nat) (u : St) (atp : Nat → Nat) (utp : St) (sz : Nat)  (res : St) (hf : fX1_next u utp = some res) : Met l yX1_next wsX1_next ({ frames := 1, cells := 0, slots := 0, locals := 21 }) (PcM D T (kX1 T h a u ++ kX8 T (a 0) atp utp) sz [.ref h]) (QMv D (kX1 T h a u ++ kX8 T (a 0) atp utp) sz (kX1 T h a res ++ kX8 T (a 0) atp utp)) 0 0 (va_A (kX1 T h a u ++ kX8 T (a 0) atp utp) sz) := by
  refine Met.ofW (cc := cX1_next) (maxL := 1) (ret := none) (by decide) rfl ?_
  intro p e s m args below meth c s₁ B hml hv
  obtain ⟨rfl, hsz, hP, hK, hD0⟩ := hv
  have hx := B.exec
  have hb := B.bytes
  have hr := B.returns
  have hts := atoms_spec (ws := wsX1_next) B.pre
  have hown : s.vm.findClass RX1 = some m.cls := findClass_of_methodNamed B.named
  have hlocks := B.notSynchronized
  subst hsz
  have hD := hD0.self (sz := s.heap.size)
  have hA : ∀ q : Nat, s.heap.size ≤ q → va_A (kX1 T h a u ++ kX8 T (a 0) atp utp) s.heap.size q := fun q h => Or.inr h
  have hS : va_S (va_A (kX1 T h a u ++ kX8 T (a 0) atp utp) s.heap.size) s.heap s.heap [] := va_S.rf
  have hinX1 : ∀ w ∈ u_ws RX1 TX1 5, w ∈ wsX1_next := fun w h => List.mem_cons_of_mem _ (List.mem_append_left _ (List.mem_append_right _ h))
  have hinX8 : ∀ w ∈ u_ws RX8 TX8 2, w ∈ wsX1_next := fun w h => List.mem_cons_of_mem _ (List.mem_append_right _ h)
  have hl := lv_entry ([.ref h]) (n := 1) (Nat.le_of_ble_eq_true rfl)
  rw [lg_entry_eq]
  generalize (lg_sl ([.ref h]) ++ List.replicate (1 - (lg_sl ([.ref h])).length) Slot.unset).toArray = ls at hl ⊢
  have hl : lv_has ls 1 [(0, .ref h)] := hl
  have J44 : ∀ (v : St) (y0 : Int32) (H : Heap) (locs : List Loc) (ls : Array Slot), fX1_next_J44  v y0 = some res → va_P D vwCl (kX1 T h a v ++ kX8 T (a 0) atp utp) H → va_D (va_A (kX1 T h a u ++ kX8 T (a 0) atp utp) s.heap.size) (kX1 T h a v ++ kX8 T (a 0) atp utp) → va_S (va_A (kX1 T h a u ++ kX8 T (a 0) atp utp) s.heap.size) s.heap H locs → lv_has ls 1 [] → W p l e (headSpec wsX1_next ({ frames := 1, cells := 0, slots := 0, locals := 21 })).room s m ([.ref h] : List Value).toArray below meth c H locs 0 0 (MQ below (QMv D (kX1 T h a u ++ kX8 T (a 0) atp utp) s.heap.size (kX1 T h a res ++ kX8 T (a 0) atp utp)) ([.ref h] : List Value).toArray s 0 0 (va_A (kX1 T h a u ++ kX8 T (a 0) atp utp) s.heap.size)) (F0 m 44 ls [.int y0, .ref h]) := by
    intro v y0 H locs ls hf hP hD hS hl
    unfold fX1_next_J44 at hf
    obtain ⟨u1, eu1, hf⟩ := lett_e hf
    refine va_put (D := D) (ci := 1) (v := .int y0) (ty := .int) (C := RX1) (T := TX1) (N := 5) hx hb hts hinX1 tyX1 tyX1_ok nmX1 hown hK.1 hP hD hS 0 rfl rfl 3 (by decide) (hts (.fieldLink RX1 18 "RopeScale$Cursor" "sign" "I") (List.mem_of_getElem? (i := 8) rfl)) (fun _ h9 => h9) rfl (tyX1_ok 3 (by decide)) rfl rfl (Nat.le_of_ble_eq_true rfl) dX1_next_44 (fun H locs hP hD hS => ?_)
    have hP : va_P D vwCl (kX1 T h a u1 ++ kX8 T (a 0) atp utp) H := by rw [eu1]; exact hP
    have hD : va_D (va_A (kX1 T h a u ++ kX8 T (a 0) atp utp) s.heap.size) (kX1 T h a u1 ++ kX8 T (a 0) atp utp) := by rw [eu1]; exact hD
    have e9 := Option.some.inj hf
    exact retMv hx hb hr hlocks hP hD hS (congrArg (fun z => (kX1 T h a z ++ kX8 T (a 0) atp utp : va_W)) e9) dX1_next_47
  unfold fX1_next at hf
  refine lv_aload_n hx hb dX1_next_0 rfl (lv_at hl 0 rfl) ?_
  refine lv_aload_n hx hb dX1_next_1 rfl (lv_at hl 0 rfl) ?_
  refine va_get (D := D) (ci := 1) (v := .int (u 2 0)) (C := RX1) (T := TX1) (N := 5) hx hb hts hinX1 hown hK.1 hP 0 rfl rfl 2 (by decide) (hts (.fieldLink RX1 15 "RopeScale$Cursor" "place" "I") (List.mem_of_getElem? (i := 1) rfl)) (fun _ h9 => h9) rfl dX1_next_2 ?_
  refine lv_iconst (v := 1) hx hb dX1_next_5 (by decide) ?_
  refine lv_iadd hx hb dX1_next_6 ?_
  refine lv_aload_n hx hb dX1_next_7 rfl (lv_at hl 0 rfl) ?_
  refine va_get (D := D) (ci := 1) (v := .int (u 1 0)) (C := RX1) (T := TX1) (N := 5) hx hb hts hinX1 hown hK.1 hP 0 rfl rfl 1 (by decide) (hts (.fieldLink RX1 9 "RopeScale$Cursor" "end" "I") (List.mem_of_getElem? (i := 2) rfl)) (fun _ h9 => h9) rfl dX1_next_8 ?_
  refine mmin hx hb (hml.trans hl.1.symm) hown (hts (.methodLink RX1 31 Lib.Math.min.name) (List.mem_of_getElem? (i := 3) rfl)) (hts (.static Lib.Math.min.name) (List.mem_of_getElem? (i := 4) rfl)) (hts (.initialized "java/lang/Math") (List.mem_of_getElem? (i := 5) rfl)) (hts (.code Lib.Math.min.name Lib.Math.min.code 2 (some .int)) (List.mem_of_getElem? (i := 6) rfl)) (Nat.le_of_ble_eq_true rfl) (Nat.le_of_ble_eq_true rfl) (Nat.le_of_ble_eq_true rfl) (Nat.le_of_ble_eq_true rfl) dX1_next_11 ?_
  obtain ⟨u2, eu2, hf⟩ := lett_e hf
  refine va_put (D := D) (ci := 1) (v := .int (mn ((u 2 0) + 1) (u 1 0))) (ty := .int) (C := RX1) (T := TX1) (N := 5) hx hb hts hinX1 tyX1 tyX1_ok nmX1 hown hK.1 hP hD hS 0 rfl rfl 2 (by decide) (hts (.fieldLink RX1 15 "RopeScale$Cursor" "place" "I") (List.mem_of_getElem? (i := 1) rfl)) (fun _ h9 => h9) rfl (tyX1_ok 2 (by decide)) rfl rfl (Nat.le_of_ble_eq_true rfl) dX1_next_14 (fun H locs hP hD hS => ?_)
  have hP : va_P D vwCl (kX1 T h a u2 ++ kX8 T (a 0) atp utp) H := by rw [eu2]; exact hP
  have hD : va_D (va_A (kX1 T h a u ++ kX8 T (a 0) atp utp) s.heap.size) (kX1 T h a u2 ++ kX8 T (a 0) atp utp) := by rw [eu2]; exact hD
  refine lv_aload_n hx hb dX1_next_17 rfl (lv_at hl 0 rfl) ?_
  refine lv_aload_n hx hb dX1_next_18 rfl (lv_at hl 0 rfl) ?_
  refine va_get (D := D) (ci := 1) (v := .int (u2 2 0)) (C := RX1) (T := TX1) (N := 5) hx hb hts hinX1 hown hK.1 hP 0 rfl rfl 2 (by decide) (hts (.fieldLink RX1 15 "RopeScale$Cursor" "place" "I") (List.mem_of_getElem? (i := 1) rfl)) (fun _ h9 => h9) rfl dX1_next_19 ?_
  refine lv_aload_n hx hb dX1_next_22 rfl (lv_at hl 0 rfl) ?_
  refine va_get (D := D) (ci := 1) (v := .int (u2 1 0)) (C := RX1) (T := TX1) (N := 5) hx hb hts hinX1 hown hK.1 hP 0 rfl rfl 1 (by decide) (hts (.fieldLink RX1 9 "RopeScale$Cursor" "end" "I") (List.mem_of_getElem? (i := 2) rfl)) (fun _ h9 => h9) rfl dX1_next_23 ?_
  refine lv_icmp_ge (tgt := 43) hx hb dX1_next_26 (by decide) (fun c3 => ?_) (fun c3 => ?_)
  · replace hf := ifp c3 hf
    refine lv_iconst (v := (-1)) hx hb dX1_next_43 (by decide) ?_
    exact J44 u2 (-1) _ _ _ hf hP hD hS (lv_sub hl [] rfl)
  replace hf := ifn c3 hf
  refine lv_aload_n hx hb dX1_next_29 rfl (lv_at hl 0 rfl) ?_
  refine va_get (D := D) (ci := 1) (v := .ref (a 0)) (C := RX1) (T := TX1) (N := 5) hx hb hts hinX1 hown hK.1 hP 0 rfl rfl 0 (by decide) (hts (.fieldLink RX1 24 "RopeScale$Cursor" "tape" "LRopeScale$Tape;") (List.mem_of_getElem? (i := 7) rfl)) (fun _ h9 => h9) rfl dX1_next_30 ?_
  refine lv_aload_n hx hb dX1_next_33 rfl (lv_at hl 0 rfl) ?_
  refine va_get (D := D) (ci := 1) (v := .int (u2 2 0)) (C := RX1) (T := TX1) (N := 5) hx hb hts hinX1 hown hK.1 hP 0 rfl rfl 2 (by decide) (hts (.fieldLink RX1 15 "RopeScale$Cursor" "place" "I") (List.mem_of_getElem? (i := 1) rfl)) (fun _ h9 => h9) rfl dX1_next_34 ?_
  obtain ⟨z4, hz4, hf⟩ := bnd hf
  refine cVR (As := [.int (u2 2 0)]) (rest := [.ref h]) ⟨hx, hb, hml, hown, hts⟩ (mX8_at l D T (a 0) atp utp (u2 2 0) z4 hz4) (cwV 1 hts gX1_next_X8_at rfl rfl rfl (by decide +kernel) ⟨Nat.le_of_ble_eq_true rfl, Nat.le_of_ble_eq_true rfl⟩) (va_recv hK.1 hP (ci := 8) (q0 := 1) rfl rfl) (hP.sub (ws' := kX8 T (a 0) atp utp) [1, 2] rfl) hK rfl hl.1 rfl (Nat.le_of_ble_eq_true rfl) dX1_next_37 ⟨Nat.le_of_ble_eq_true rfl, Nat.le_of_ble_eq_true rfl⟩ hP hS (fun H locs hP hS => ?_)
  refine lv_goto (tgt := 44) hx hb dX1_next_40 (by decide) ?_
  exact J44 u2 z4 _ _ _ hf hP hD hS (lv_sub hl [] rfl)
def fX1_start  (u : St) (utp : St) (p1 : Int32) : Option (St) := lett (st u 1 0 p1) fun u1 => lett (st u1 4 0 0) fun u2 => lett (st u2 2 0 (-1)) fun u3 => (fX1_next u3 utp).bind fun z4 => some z4
set_option maxHeartbeats 4000000 in
set_option maxRecDepth 100000 in
theorem mX1_start (l : Launch) (D : va_G) (T : Ty3) (h : Nat) (a : Nat → Nat) (u : St) (atp : Nat → Nat) (utp : St) (sz : Nat) (p1 : Int32) (res : St) (hf : fX1_start u utp p1 = some res) : Met l yX1_start wsX1_start ({ frames := 2, cells := 0, slots := 0, locals := 41 }) (PcM D T (kX1 T h a u ++ kX8 T (a 0) atp utp) sz [.ref h, .int p1]) (QMv D (kX1 T h a u ++ kX8 T (a 0) atp utp) sz (kX1 T h a res ++ kX8 T (a 0) atp utp)) 0 0 (va_A (kX1 T h a u ++ kX8 T (a 0) atp utp) sz) := by
  refine Met.ofW (cc := cX1_start) (maxL := 2) (ret := none) (by decide) rfl ?_
  intro p e s m args below meth c s₁ B hml hv
  obtain ⟨rfl, hsz, hP, hK, hD0⟩ := hv
  have hx := B.exec
  have hb := B.bytes
  have hr := B.returns
  have hts := atoms_spec (ws := wsX1_start) B.pre
  have hown : s.vm.findClass RX1 = some m.cls := findClass_of_methodNamed B.named
  have hlocks := B.notSynchronized
  subst hsz
  have hD := hD0.self (sz := s.heap.size)
  have hA : ∀ q : Nat, s.heap.size ≤ q → va_A (kX1 T h a u ++ kX8 T (a 0) atp utp) s.heap.size q := fun q h => Or.inr h
  have hS : va_S (va_A (kX1 T h a u ++ kX8 T (a 0) atp utp) s.heap.size) s.heap s.heap [] := va_S.rf
  have hinX1 : ∀ w ∈ u_ws RX1 TX1 5, w ∈ wsX1_start := fun w h => List.mem_cons_of_mem _ (List.mem_append_left _ (List.mem_append_right _ h))
  have hinX8 : ∀ w ∈ u_ws RX8 TX8 2, w ∈ wsX1_start := fun w h => List.mem_cons_of_mem _ (List.mem_append_right _ h)
  have hl := lv_entry ([.ref h, .int p1]) (n := 2) (Nat.le_of_ble_eq_true rfl)
  rw [lg_entry_eq]
  generalize (lg_sl ([.ref h, .int p1]) ++ List.replicate (2 - (lg_sl ([.ref h, .int p1])).length) Slot.unset).toArray = ls at hl ⊢
  have hl : lv_has ls 2 [(0, .ref h), (1, .int p1)] := hl
  unfold fX1_start at hf
  refine lv_aload_n hx hb dX1_start_0 rfl (lv_at hl 0 rfl) ?_
  refine lv_iload_n hx hb dX1_start_1 rfl (lv_at hl 1 rfl) ?_
  obtain ⟨u1, eu1, hf⟩ := lett_e hf
  refine va_put (D := D) (ci := 1) (v := .int p1) (ty := .int) (C := RX1) (T := TX1) (N := 5) hx hb hts hinX1 tyX1 tyX1_ok nmX1 hown hK.1 hP hD hS 0 rfl rfl 1 (by decide) (hts (.fieldLink RX1 9 "RopeScale$Cursor" "end" "I") (List.mem_of_getElem? (i := 1) rfl)) (fun _ h9 => h9) rfl (tyX1_ok 1 (by decide)) rfl rfl (Nat.le_of_ble_eq_true rfl) dX1_start_2 (fun H locs hP hD hS => ?_)
  have hP : va_P D vwCl (kX1 T h a u1 ++ kX8 T (a 0) atp utp) H := by rw [eu1]; exact hP
  have hD : va_D (va_A (kX1 T h a u ++ kX8 T (a 0) atp utp) s.heap.size) (kX1 T h a u1 ++ kX8 T (a 0) atp utp) := by rw [eu1]; exact hD
  refine lv_aload_n hx hb dX1_start_5 rfl (lv_at hl 0 rfl) ?_
  refine lv_iconst (v := 0) hx hb dX1_start_6 (by decide) ?_
  obtain ⟨u2, eu2, hf⟩ := lett_e hf
  refine va_put (D := D) (ci := 1) (v := .int 0) (ty := .int) (C := RX1) (T := TX1) (N := 5) hx hb hts hinX1 tyX1 tyX1_ok nmX1 hown hK.1 hP hD hS 0 rfl rfl 4 (by decide) (hts (.fieldLink RX1 21 "RopeScale$Cursor" "fault" "I") (List.mem_of_getElem? (i := 2) rfl)) (fun _ h9 => h9) rfl (tyX1_ok 4 (by decide)) rfl rfl (Nat.le_of_ble_eq_true rfl) dX1_start_7 (fun H locs hP hD hS => ?_)
  have hP : va_P D vwCl (kX1 T h a u2 ++ kX8 T (a 0) atp utp) H := by rw [eu2]; exact hP
  have hD : va_D (va_A (kX1 T h a u ++ kX8 T (a 0) atp utp) s.heap.size) (kX1 T h a u2 ++ kX8 T (a 0) atp utp) := by rw [eu2]; exact hD
  refine lv_aload_n hx hb dX1_start_10 rfl (lv_at hl 0 rfl) ?_
  refine lv_iconst (v := (-1)) hx hb dX1_start_11 (by decide) ?_
  obtain ⟨u3, eu3, hf⟩ := lett_e hf
  refine va_put (D := D) (ci := 1) (v := .int (-1)) (ty := .int) (C := RX1) (T := TX1) (N := 5) hx hb hts hinX1 tyX1 tyX1_ok nmX1 hown hK.1 hP hD hS 0 rfl rfl 2 (by decide) (hts (.fieldLink RX1 15 "RopeScale$Cursor" "place" "I") (List.mem_of_getElem? (i := 3) rfl)) (fun _ h9 => h9) rfl (tyX1_ok 2 (by decide)) rfl rfl (Nat.le_of_ble_eq_true rfl) dX1_start_12 (fun H locs hP hD hS => ?_)
  have hP : va_P D vwCl (kX1 T h a u3 ++ kX8 T (a 0) atp utp) H := by rw [eu3]; exact hP
  have hD : va_D (va_A (kX1 T h a u ++ kX8 T (a 0) atp utp) s.heap.size) (kX1 T h a u3 ++ kX8 T (a 0) atp utp) := by rw [eu3]; exact hD
  refine lv_aload_n hx hb dX1_start_15 rfl (lv_at hl 0 rfl) ?_
  obtain ⟨z4, hz4, hf⟩ := bnd hf
  have hFc9 := vaA_self hD hS hA
  refine cVMv (As := []) (rest := []) ⟨hx, hb, hml, hown, hts⟩ (mX1_next l D T h a u3 atp utp _ z4 hz4) (cwV 0 hts gX1_start_X1_next rfl rfl rfl (by decide +kernel) ⟨Nat.le_of_ble_eq_true rfl, Nat.le_of_ble_eq_true rfl⟩) (va_recv hK.1 hP (ci := 1) (q0 := 0) rfl rfl) hP hK rfl hl.1 rfl (Nat.le_of_ble_eq_true rfl) dX1_start_16 ⟨Nat.le_of_ble_eq_true rfl, Nat.le_of_ble_eq_true rfl⟩ hD hFc9 hS (fun H locs hP hD1 _ hS => ?_)
  have hD := hD1.weaken (fun _ _ _ h9 => hFc9 _ h9)
  have e9 := Option.some.inj hf
  exact retMv hx hb hr hlocks hP hD hS (congrArg (fun z => (kX1 T h a z ++ kX8 T (a 0) atp utp : va_W)) e9) dX1_start_19
def fX1_isFaulty  (u : St)  : (Int32) := if (u 4 0) = 0 then 0 else 1
set_option maxHeartbeats 4000000 in
set_option maxRecDepth 100000 in
theorem mX1_isFaulty (l : Launch) (D : va_G) (T : Ty3) (h : Nat) (a : Nat → Nat) (u : St)  (res : Int32) (hf : fX1_isFaulty u = res) : Met l yX1_isFaulty wsX1_isFaulty ({ frames := 0, cells := 0, slots := 0, locals := 0 }) (PcR D T (kX1 T h a u) [.ref h]) (QR res) 0 0 noA := by
  refine Met.ofW (cc := cX1_isFaulty) (maxL := 1) (ret := (some .boolean)) (by decide) rfl ?_
  intro p e s m args below meth c s₁ B hml hv
  obtain ⟨rfl, hP, hK⟩ := hv
  have hx := B.exec
  have hb := B.bytes
  have hr := B.returns
  have hts := atoms_spec (ws := wsX1_isFaulty) B.pre
  have hown : s.vm.findClass RX1 = some m.cls := findClass_of_methodNamed B.named
  have hlocks := B.notSynchronized
  have hS : va_S noA s.heap s.heap [] := va_S.rf
  have hinX1 : ∀ w ∈ u_ws RX1 TX1 5, w ∈ wsX1_isFaulty := fun w h => List.mem_cons_of_mem _ (List.mem_append_right _ h)
  have hl := lv_entry ([.ref h]) (n := 1) (Nat.le_of_ble_eq_true rfl)
  rw [lg_entry_eq]
  generalize (lg_sl ([.ref h]) ++ List.replicate (1 - (lg_sl ([.ref h])).length) Slot.unset).toArray = ls at hl ⊢
  have hl : lv_has ls 1 [(0, .ref h)] := hl
  unfold fX1_isFaulty at hf
  refine lv_aload_n hx hb dX1_isFaulty_0 rfl (lv_at hl 0 rfl) ?_
  refine va_get (D := D) (ci := 1) (v := .int (u 4 0)) (C := RX1) (T := TX1) (N := 5) hx hb hts hinX1 hown hK.1 hP 0 rfl rfl 4 (by decide) (hts (.fieldLink RX1 21 "RopeScale$Cursor" "fault" "I") (List.mem_of_getElem? (i := 1) rfl)) (fun _ h9 => h9) rfl dX1_isFaulty_1 ?_
  refine lv_if_eq (tgt := 11) hx hb dX1_isFaulty_4 (by decide) (fun c1 => ?_) (fun c1 => ?_)
  · replace hf := ifp c1 hf
    refine lv_iconst (v := 0) hx hb dX1_isFaulty_11 (by decide) ?_
    exact retRz hx hb hr hlocks hS rfl hf dX1_isFaulty_12
  replace hf := ifn c1 hf
  refine lv_iconst (v := 1) hx hb dX1_isFaulty_7 (by decide) ?_
  refine lv_goto (tgt := 12) hx hb dX1_isFaulty_8 (by decide) ?_
  exact retRz hx hb hr hlocks hS rfl hf dX1_isFaulty_12
def fX1_fail  (u : St) (p1 : Int32) (p2 : Int32) : (St) := if (u 4 0) = 0 then lett (st u 4 0 (((-1000) * p1) - p2)) fun u2 => u2 else u
set_option maxHeartbeats 4000000 in
set_option maxRecDepth 100000 in
theorem mX1_fail (l : Launch) (D : va_G) (T : Ty3) (h : Nat) (a : Nat → Nat) (u : St) (sz : Nat) (p1 : Int32) (p2 : Int32) (res : St) (hf : fX1_fail u p1 p2 = res) : Met l yX1_fail wsX1_fail ({ frames := 0, cells := 0, slots := 0, locals := 0 }) (PcM D T (kX1 T h a u) sz [.ref h, .int p1, .int p2]) (QMv D (kX1 T h a u) sz (kX1 T h a res)) 0 0 (va_A (kX1 T h a u) sz) := by
  refine Met.ofW (cc := cX1_fail) (maxL := 3) (ret := none) (by decide) rfl ?_
  intro p e s m args below meth c s₁ B hml hv
  obtain ⟨rfl, hsz, hP, hK, hD0⟩ := hv
  have hx := B.exec
  have hb := B.bytes
  have hr := B.returns
  have hts := atoms_spec (ws := wsX1_fail) B.pre
  have hown : s.vm.findClass RX1 = some m.cls := findClass_of_methodNamed B.named
  have hlocks := B.notSynchronized
  subst hsz
  have hD := hD0.self (sz := s.heap.size)
  have hA : ∀ q : Nat, s.heap.size ≤ q → va_A (kX1 T h a u) s.heap.size q := fun q h => Or.inr h
  have hS : va_S (va_A (kX1 T h a u) s.heap.size) s.heap s.heap [] := va_S.rf
  have hinX1 : ∀ w ∈ u_ws RX1 TX1 5, w ∈ wsX1_fail := fun w h => List.mem_cons_of_mem _ (List.mem_append_right _ h)
  have hl := lv_entry ([.ref h, .int p1, .int p2]) (n := 3) (Nat.le_of_ble_eq_true rfl)
  rw [lg_entry_eq]
  generalize (lg_sl ([.ref h, .int p1, .int p2]) ++ List.replicate (3 - (lg_sl ([.ref h, .int p1, .int p2])).length) Slot.unset).toArray = ls at hl ⊢
  have hl : lv_has ls 3 [(0, .ref h), (1, .int p1), (2, .int p2)] := hl
  unfold fX1_fail at hf
  refine lv_aload_n hx hb dX1_fail_0 rfl (lv_at hl 0 rfl) ?_
  refine va_get (D := D) (ci := 1) (v := .int (u 4 0)) (C := RX1) (T := TX1) (N := 5) hx hb hts hinX1 hown hK.1 hP 0 rfl rfl 4 (by decide) (hts (.fieldLink RX1 21 "RopeScale$Cursor" "fault" "I") (List.mem_of_getElem? (i := 1) rfl)) (fun _ h9 => h9) rfl dX1_fail_1 ?_
  refine lv_if_ne (tgt := 18) hx hb dX1_fail_4 (by decide) (fun c1 => ?_) (fun c1 => ?_)
  · replace hf := ifn c1 hf
    have e9 := hf
    exact retMv hx hb hr hlocks hP hD hS (congrArg (fun z => (kX1 T h a z : va_W)) e9) dX1_fail_18
  replace hf := ifp c1 hf
  refine lv_aload_n hx hb dX1_fail_7 rfl (lv_at hl 0 rfl) ?_
  refine lv_sipush (v := (-1000)) hx hb dX1_fail_8 (by decide) ?_
  refine lv_iload_n hx hb dX1_fail_11 rfl (lv_at hl 1 rfl) ?_
  refine lv_imul hx hb dX1_fail_12 ?_
  refine lv_iload_n hx hb dX1_fail_13 rfl (lv_at hl 2 rfl) ?_
  refine lv_isub hx hb dX1_fail_14 ?_
  obtain ⟨u2, eu2, hf⟩ := lett_e hf
  refine va_put (D := D) (ci := 1) (v := .int (((-1000) * p1) - p2)) (ty := .int) (C := RX1) (T := TX1) (N := 5) hx hb hts hinX1 tyX1 tyX1_ok nmX1 hown hK.1 hP hD hS 0 rfl rfl 4 (by decide) (hts (.fieldLink RX1 21 "RopeScale$Cursor" "fault" "I") (List.mem_of_getElem? (i := 1) rfl)) (fun _ h9 => h9) rfl (tyX1_ok 4 (by decide)) rfl rfl (Nat.le_of_ble_eq_true rfl) dX1_fail_15 (fun H locs hP hD hS => ?_)
  have hP : va_P D vwCl (kX1 T h a u2) H := by rw [eu2]; exact hP
  have hD : va_D (va_A (kX1 T h a u) s.heap.size) (kX1 T h a u2) := by rw [eu2]; exact hD
  have e9 := hf
  exact retMv hx hb hr hlocks hP hD hS (congrArg (fun z => (kX1 T h a z : va_W)) e9) dX1_fail_18
def fX1_failHere  (u : St) (p1 : Int32) : (St) := lett (fX1_fail u p1 (u 2 0)) fun z1 => z1
set_option maxHeartbeats 4000000 in
set_option maxRecDepth 100000 in
theorem mX1_failHere (l : Launch) (D : va_G) (T : Ty3) (h : Nat) (a : Nat → Nat) (u : St) (sz : Nat) (p1 : Int32) (res : St) (hf : fX1_failHere u p1 = res) : Met l yX1_failHere wsX1_failHere ({ frames := 1, cells := 0, slots := 0, locals := 22 }) (PcM D T (kX1 T h a u) sz [.ref h, .int p1]) (QMv D (kX1 T h a u) sz (kX1 T h a res)) 0 0 (va_A (kX1 T h a u) sz) := by
  refine Met.ofW (cc := cX1_failHere) (maxL := 2) (ret := none) (by decide) rfl ?_
  intro p e s m args below meth c s₁ B hml hv
  obtain ⟨rfl, hsz, hP, hK, hD0⟩ := hv
  have hx := B.exec
  have hb := B.bytes
  have hr := B.returns
  have hts := atoms_spec (ws := wsX1_failHere) B.pre
  have hown : s.vm.findClass RX1 = some m.cls := findClass_of_methodNamed B.named
  have hlocks := B.notSynchronized
  subst hsz
  have hD := hD0.self (sz := s.heap.size)
  have hA : ∀ q : Nat, s.heap.size ≤ q → va_A (kX1 T h a u) s.heap.size q := fun q h => Or.inr h
  have hS : va_S (va_A (kX1 T h a u) s.heap.size) s.heap s.heap [] := va_S.rf
  have hinX1 : ∀ w ∈ u_ws RX1 TX1 5, w ∈ wsX1_failHere := fun w h => List.mem_cons_of_mem _ (List.mem_append_right _ h)
  have hl := lv_entry ([.ref h, .int p1]) (n := 2) (Nat.le_of_ble_eq_true rfl)
  rw [lg_entry_eq]
  generalize (lg_sl ([.ref h, .int p1]) ++ List.replicate (2 - (lg_sl ([.ref h, .int p1])).length) Slot.unset).toArray = ls at hl ⊢
  have hl : lv_has ls 2 [(0, .ref h), (1, .int p1)] := hl
  unfold fX1_failHere at hf
  refine lv_aload_n hx hb dX1_failHere_0 rfl (lv_at hl 0 rfl) ?_
  refine lv_iload_n hx hb dX1_failHere_1 rfl (lv_at hl 1 rfl) ?_
  refine lv_aload_n hx hb dX1_failHere_2 rfl (lv_at hl 0 rfl) ?_
  refine va_get (D := D) (ci := 1) (v := .int (u 2 0)) (C := RX1) (T := TX1) (N := 5) hx hb hts hinX1 hown hK.1 hP 0 rfl rfl 2 (by decide) (hts (.fieldLink RX1 15 "RopeScale$Cursor" "place" "I") (List.mem_of_getElem? (i := 1) rfl)) (fun _ h9 => h9) rfl dX1_failHere_3 ?_
  obtain ⟨z1, hz1, hf⟩ := lett_e hf
  have hFc9 := vaA_self hD hS hA
  refine cVMv (As := [.int p1, .int (u 2 0)]) (rest := []) ⟨hx, hb, hml, hown, hts⟩ (mX1_fail l D T h a u _ p1 (u 2 0) z1 hz1.symm) (cwV 2 hts gX1_failHere_X1_fail rfl rfl rfl (by decide +kernel) ⟨Nat.le_of_ble_eq_true rfl, Nat.le_of_ble_eq_true rfl⟩) (va_recv hK.1 hP (ci := 1) (q0 := 0) rfl rfl) hP hK rfl hl.1 rfl (Nat.le_of_ble_eq_true rfl) dX1_failHere_6 ⟨Nat.le_of_ble_eq_true rfl, Nat.le_of_ble_eq_true rfl⟩ hD hFc9 hS (fun H locs hP hD1 _ hS => ?_)
  have hD := hD1.weaken (fun _ _ _ h9 => hFc9 _ h9)
  have e9 := hf
  exact retMv hx hb hr hlocks hP hD hS (congrArg (fun z => (kX1 T h a z : va_W)) e9) dX1_failHere_9
def fX1_sees  (u : St) (p1 : Int32) : (Int32) := if (u 4 0) = 0 then if (u 3 0) = p1 then 1 else 0 else 0
set_option maxHeartbeats 4000000 in
set_option maxRecDepth 100000 in
theorem mX1_sees (l : Launch) (D : va_G) (T : Ty3) (h : Nat) (a : Nat → Nat) (u : St) (p1 : Int32) (res : Int32) (hf : fX1_sees u p1 = res) : Met l yX1_sees wsX1_sees ({ frames := 0, cells := 0, slots := 0, locals := 0 }) (PcR D T (kX1 T h a u) [.ref h, .int p1]) (QR res) 0 0 noA := by
  refine Met.ofW (cc := cX1_sees) (maxL := 2) (ret := (some .boolean)) (by decide) rfl ?_
  intro p e s m args below meth c s₁ B hml hv
  obtain ⟨rfl, hP, hK⟩ := hv
  have hx := B.exec
  have hb := B.bytes
  have hr := B.returns
  have hts := atoms_spec (ws := wsX1_sees) B.pre
  have hown : s.vm.findClass RX1 = some m.cls := findClass_of_methodNamed B.named
  have hlocks := B.notSynchronized
  have hS : va_S noA s.heap s.heap [] := va_S.rf
  have hinX1 : ∀ w ∈ u_ws RX1 TX1 5, w ∈ wsX1_sees := fun w h => List.mem_cons_of_mem _ (List.mem_append_right _ h)
  have hl := lv_entry ([.ref h, .int p1]) (n := 2) (Nat.le_of_ble_eq_true rfl)
  rw [lg_entry_eq]
  generalize (lg_sl ([.ref h, .int p1]) ++ List.replicate (2 - (lg_sl ([.ref h, .int p1])).length) Slot.unset).toArray = ls at hl ⊢
  have hl : lv_has ls 2 [(0, .ref h), (1, .int p1)] := hl
  unfold fX1_sees at hf
  refine lv_aload_n hx hb dX1_sees_0 rfl (lv_at hl 0 rfl) ?_
  refine va_get (D := D) (ci := 1) (v := .int (u 4 0)) (C := RX1) (T := TX1) (N := 5) hx hb hts hinX1 hown hK.1 hP 0 rfl rfl 4 (by decide) (hts (.fieldLink RX1 21 "RopeScale$Cursor" "fault" "I") (List.mem_of_getElem? (i := 1) rfl)) (fun _ h9 => h9) rfl dX1_sees_1 ?_
  refine lv_if_ne (tgt := 19) hx hb dX1_sees_4 (by decide) (fun c1 => ?_) (fun c1 => ?_)
  · replace hf := ifn c1 hf
    refine lv_iconst (v := 0) hx hb dX1_sees_19 (by decide) ?_
    exact retRz hx hb hr hlocks hS rfl hf dX1_sees_20
  replace hf := ifp c1 hf
  refine lv_aload_n hx hb dX1_sees_7 rfl (lv_at hl 0 rfl) ?_
  refine va_get (D := D) (ci := 1) (v := .int (u 3 0)) (C := RX1) (T := TX1) (N := 5) hx hb hts hinX1 hown hK.1 hP 0 rfl rfl 3 (by decide) (hts (.fieldLink RX1 18 "RopeScale$Cursor" "sign" "I") (List.mem_of_getElem? (i := 2) rfl)) (fun _ h9 => h9) rfl dX1_sees_8 ?_
  refine lv_iload_n hx hb dX1_sees_11 rfl (lv_at hl 1 rfl) ?_
  refine lv_icmp_ne (tgt := 19) hx hb dX1_sees_12 (by decide) (fun c2 => ?_) (fun c2 => ?_)
  · replace hf := ifn c2 hf
    refine lv_iconst (v := 0) hx hb dX1_sees_19 (by decide) ?_
    exact retRz hx hb hr hlocks hS rfl hf dX1_sees_20
  replace hf := ifp c2 hf
  refine lv_iconst (v := 1) hx hb dX1_sees_15 (by decide) ?_
  refine lv_goto (tgt := 20) hx hb dX1_sees_16 (by decide) ?_
  exact retRz hx hb hr hlocks hS rfl hf dX1_sees_20
def fX1_take  (u : St) (utp : St) (p1 : Int32) : Option (Int32 × St) := lett (fX1_sees u p1) fun z1 => if z1 = 0 then lett (fX1_failHere u 1) fun z4 => some (0, z4) else (fX1_next u utp).bind fun z3 => some (1, z3)
set_option maxHeartbeats 4000000 in
set_option maxRecDepth 100000 in
theorem mX1_take (l : Launch) (D : va_G) (T : Ty3) (h : Nat) (a : Nat → Nat) (u : St) (atp : Nat → Nat) (utp : St) (sz : Nat) (p1 : Int32) (res : Int32 × St) (hf : fX1_take u utp p1 = some res) : Met l yX1_take wsX1_take ({ frames := 2, cells := 0, slots := 0, locals := 43 }) (PcM D T (kX1 T h a u ++ kX8 T (a 0) atp utp) sz [.ref h, .int p1]) (QM D (kX1 T h a u ++ kX8 T (a 0) atp utp) sz res.1 (kX1 T h a res.2 ++ kX8 T (a 0) atp utp)) 0 0 (va_A (kX1 T h a u ++ kX8 T (a 0) atp utp) sz) := by
  refine Met.ofW (cc := cX1_take) (maxL := 2) (ret := (some .boolean)) (by decide) rfl ?_
  intro p e s m args below meth c s₁ B hml hv
  obtain ⟨rfl, hsz, hP, hK, hD0⟩ := hv
  have hx := B.exec
  have hb := B.bytes
  have hr := B.returns
  have hts := atoms_spec (ws := wsX1_take) B.pre
  have hown : s.vm.findClass RX1 = some m.cls := findClass_of_methodNamed B.named
  have hlocks := B.notSynchronized
  subst hsz
  have hD := hD0.self (sz := s.heap.size)
  have hA : ∀ q : Nat, s.heap.size ≤ q → va_A (kX1 T h a u ++ kX8 T (a 0) atp utp) s.heap.size q := fun q h => Or.inr h
  have hS : va_S (va_A (kX1 T h a u ++ kX8 T (a 0) atp utp) s.heap.size) s.heap s.heap [] := va_S.rf
  have hinX1 : ∀ w ∈ u_ws RX1 TX1 5, w ∈ wsX1_take := fun w h => List.mem_cons_of_mem _ (List.mem_append_left _ (List.mem_append_right _ h))
  have hinX8 : ∀ w ∈ u_ws RX8 TX8 2, w ∈ wsX1_take := fun w h => List.mem_cons_of_mem _ (List.mem_append_right _ h)
  have hl := lv_entry ([.ref h, .int p1]) (n := 2) (Nat.le_of_ble_eq_true rfl)
  rw [lg_entry_eq]
  generalize (lg_sl ([.ref h, .int p1]) ++ List.replicate (2 - (lg_sl ([.ref h, .int p1])).length) Slot.unset).toArray = ls at hl ⊢
  have hl : lv_has ls 2 [(0, .ref h), (1, .int p1)] := hl
  unfold fX1_take at hf
  refine lv_aload_n hx hb dX1_take_0 rfl (lv_at hl 0 rfl) ?_
  refine lv_iload_n hx hb dX1_take_1 rfl (lv_at hl 1 rfl) ?_
  obtain ⟨z1, hz1, hf⟩ := lett_e hf
  refine cVR (As := [.int p1]) (rest := []) ⟨hx, hb, hml, hown, hts⟩ (mX1_sees l D T h a u p1 z1 hz1.symm) (cwV 1 hts gX1_take_X1_sees rfl rfl rfl (by decide +kernel) ⟨Nat.le_of_ble_eq_true rfl, Nat.le_of_ble_eq_true rfl⟩) (va_recv hK.1 hP (ci := 1) (q0 := 0) rfl rfl) (hP.sub (ws' := kX1 T h a u) [0] rfl) hK rfl hl.1 rfl (Nat.le_of_ble_eq_true rfl) dX1_take_2 ⟨Nat.le_of_ble_eq_true rfl, Nat.le_of_ble_eq_true rfl⟩ hP hS (fun H locs hP hS => ?_)
  refine lv_if_ne (tgt := 15) hx hb dX1_take_5 (by decide) (fun c2 => ?_) (fun c2 => ?_)
  · replace hf := ifn c2 hf
    refine lv_aload_n hx hb dX1_take_15 rfl (lv_at hl 0 rfl) ?_
    obtain ⟨z3, hz3, hf⟩ := bnd hf
    have hFc9 := vaA_self hD hS hA
    refine cVMv (As := []) (rest := []) ⟨hx, hb, hml, hown, hts⟩ (mX1_next l D T h a u atp utp _ z3 hz3) (cwV 0 hts gX1_take_X1_next rfl rfl rfl (by decide +kernel) ⟨Nat.le_of_ble_eq_true rfl, Nat.le_of_ble_eq_true rfl⟩) (va_recv hK.1 hP (ci := 1) (q0 := 0) rfl rfl) hP hK rfl hl.1 rfl (Nat.le_of_ble_eq_true rfl) dX1_take_16 ⟨Nat.le_of_ble_eq_true rfl, Nat.le_of_ble_eq_true rfl⟩ hD hFc9 hS (fun H locs hP hD1 _ hS => ?_)
    have hD := hD1.weaken (fun _ _ _ h9 => hFc9 _ h9)
    refine lv_iconst (v := 1) hx hb dX1_take_19 (by decide) ?_
    have e9 := Option.some.inj hf
    exact retMz hx hb hr hlocks hP hD hS rfl (congrArg (fun z => z.1) e9) (congrArg (fun z => (kX1 T h a z.2 ++ kX8 T (a 0) atp utp : va_W)) e9) dX1_take_20
  replace hf := ifp c2 hf
  refine lv_aload_n hx hb dX1_take_8 rfl (lv_at hl 0 rfl) ?_
  refine lv_iconst (v := 1) hx hb dX1_take_9 (by decide) ?_
  obtain ⟨z4, hz4, hf⟩ := lett_e hf
  have hPc := hP.sub (ws' := kX1 T h a u) [0] rfl
  have hDc := hD.sub (ws' := kX1 T h a u) [0] (by decide) rfl
  have hFc9 := va_free (wc := kX1 T h a u) hD hS hA [0] rfl
  refine cVMv (As := [.int 1]) (rest := []) ⟨hx, hb, hml, hown, hts⟩ (mX1_failHere l D T h a u _ 1 z4 hz4.symm) (cwV 1 hts gX1_take_X1_failHere rfl rfl rfl (by decide +kernel) ⟨Nat.le_of_ble_eq_true rfl, Nat.le_of_ble_eq_true rfl⟩) (va_recv hK.1 hP (ci := 1) (q0 := 0) rfl rfl) hPc hK rfl hl.1 rfl (Nat.le_of_ble_eq_true rfl) dX1_take_10 ⟨Nat.le_of_ble_eq_true rfl, Nat.le_of_ble_eq_true rfl⟩ hDc hFc9 hS (fun H9 locs hP1 hD1 hk1 hS => ?_)
  obtain ⟨hP, hD⟩ := putAll_P (w1 := kX1 T h a z4) hP hD [0] rfl (by decide) hk1 hP1 rfl
  generalize H9 = H at hP hS ⊢
  have hP : va_P D vwCl (kX1 T h a z4 ++ kX8 T (a 0) atp utp) H := by exact hP
  have hD : va_D (va_A (kX1 T h a u ++ kX8 T (a 0) atp utp) s.heap.size) (kX1 T h a z4 ++ kX8 T (a 0) atp utp) := by exact hD
  refine lv_iconst (v := 0) hx hb dX1_take_13 (by decide) ?_
  have e9 := Option.some.inj hf
  exact retMz hx hb hr hlocks hP hD hS rfl (congrArg (fun z => z.1) e9) (congrArg (fun z => (kX1 T h a z.2 ++ kX8 T (a 0) atp utp : va_W)) e9) dX1_take_14
def fX1_begins_J24 (utp : St)  (v : St) (x1 : Int32) : Option (Int32 × St) := if x1 = 0 then some (1, v) else (fX1_take v utp 59).bind fun z2 => if z2.1 = 0 then some (0, z2.2) else some (1, z2.2)
def fX1_begins  (u : St) (utp : St) (p1 : Int32) : Option (Int32 × St) := lett (fX1_isFaulty u) fun z4 => if z4 = 0 then if p1 ≤ 0 then fX1_begins_J24 utp u p1 else if (u 2 0) = (u 1 0) then some (0, u) else fX1_begins_J24 utp u p1 else some (0, u)
set_option maxHeartbeats 4000000 in
set_option maxRecDepth 100000 in
theorem mX1_begins (l : Launch) (D : va_G) (T : Ty3) (h : Nat) (a : Nat → Nat) (u : St) (atp : Nat → Nat) (utp : St) (sz : Nat) (p1 : Int32) (res : Int32 × St) (hf : fX1_begins u utp p1 = some res) : Met l yX1_begins wsX1_begins ({ frames := 3, cells := 0, slots := 0, locals := 64 }) (PcM D T (kX1 T h a u ++ kX8 T (a 0) atp utp) sz [.ref h, .int p1]) (QM D (kX1 T h a u ++ kX8 T (a 0) atp utp) sz res.1 (kX1 T h a res.2 ++ kX8 T (a 0) atp utp)) 0 0 (va_A (kX1 T h a u ++ kX8 T (a 0) atp utp) sz) := by
  refine Met.ofW (cc := cX1_begins) (maxL := 2) (ret := (some .boolean)) (by decide) rfl ?_
  intro p e s m args below meth c s₁ B hml hv
  obtain ⟨rfl, hsz, hP, hK, hD0⟩ := hv
  have hx := B.exec
  have hb := B.bytes
  have hr := B.returns
  have hts := atoms_spec (ws := wsX1_begins) B.pre
  have hown : s.vm.findClass RX1 = some m.cls := findClass_of_methodNamed B.named
  have hlocks := B.notSynchronized
  subst hsz
  have hD := hD0.self (sz := s.heap.size)
  have hA : ∀ q : Nat, s.heap.size ≤ q → va_A (kX1 T h a u ++ kX8 T (a 0) atp utp) s.heap.size q := fun q h => Or.inr h
  have hS : va_S (va_A (kX1 T h a u ++ kX8 T (a 0) atp utp) s.heap.size) s.heap s.heap [] := va_S.rf
  have hinX1 : ∀ w ∈ u_ws RX1 TX1 5, w ∈ wsX1_begins := fun w h => List.mem_cons_of_mem _ (List.mem_append_left _ (List.mem_append_right _ h))
  have hinX8 : ∀ w ∈ u_ws RX8 TX8 2, w ∈ wsX1_begins := fun w h => List.mem_cons_of_mem _ (List.mem_append_right _ h)
  have hl := lv_entry ([.ref h, .int p1]) (n := 2) (Nat.le_of_ble_eq_true rfl)
  rw [lg_entry_eq]
  generalize (lg_sl ([.ref h, .int p1]) ++ List.replicate (2 - (lg_sl ([.ref h, .int p1])).length) Slot.unset).toArray = ls at hl ⊢
  have hl : lv_has ls 2 [(0, .ref h), (1, .int p1)] := hl
  have J24 : ∀ (v : St) (x1 : Int32) (H : Heap) (locs : List Loc) (ls : Array Slot), fX1_begins_J24 utp v x1 = some res → va_P D vwCl (kX1 T h a v ++ kX8 T (a 0) atp utp) H → va_D (va_A (kX1 T h a u ++ kX8 T (a 0) atp utp) s.heap.size) (kX1 T h a v ++ kX8 T (a 0) atp utp) → va_S (va_A (kX1 T h a u ++ kX8 T (a 0) atp utp) s.heap.size) s.heap H locs → lv_has ls 2 [(0, .ref h), (1, .int x1)] → W p l e (headSpec wsX1_begins ({ frames := 3, cells := 0, slots := 0, locals := 64 })).room s m ([.ref h, .int p1] : List Value).toArray below meth c H locs 0 0 (MQ below (QM D (kX1 T h a u ++ kX8 T (a 0) atp utp) s.heap.size res.1 (kX1 T h a res.2 ++ kX8 T (a 0) atp utp)) ([.ref h, .int p1] : List Value).toArray s 0 0 (va_A (kX1 T h a u ++ kX8 T (a 0) atp utp) s.heap.size)) (F0 m 24 ls []) := by
    intro v x1 H locs ls hf hP hD hS hl
    unfold fX1_begins_J24 at hf
    refine lv_iload_n hx hb dX1_begins_24 rfl (lv_at hl 1 rfl) ?_
    refine lv_if_eq (tgt := 37) hx hb dX1_begins_25 (by decide) (fun c1 => ?_) (fun c1 => ?_)
    · replace hf := ifp c1 hf
      refine lv_iconst (v := 1) hx hb dX1_begins_37 (by decide) ?_
      refine lv_goto (tgt := 42) hx hb dX1_begins_38 (by decide) ?_
      have e9 := Option.some.inj hf
      exact retMz hx hb hr hlocks hP hD hS rfl (congrArg (fun z => z.1) e9) (congrArg (fun z => (kX1 T h a z.2 ++ kX8 T (a 0) atp utp : va_W)) e9) dX1_begins_42
    replace hf := ifn c1 hf
    refine lv_aload_n hx hb dX1_begins_28 rfl (lv_at hl 0 rfl) ?_
    refine lv_bipush (v := 59) hx hb dX1_begins_29 (by decide) ?_
    obtain ⟨z2, hz2, hf⟩ := bnd hf
    have hFc9 := vaA_self hD hS hA
    refine cVM (As := [.int 59]) (rest := []) ⟨hx, hb, hml, hown, hts⟩ (mX1_take l D T h a v atp utp _ 59 z2 hz2) (cwV 1 hts gX1_begins_X1_take rfl rfl rfl (by decide +kernel) ⟨Nat.le_of_ble_eq_true rfl, Nat.le_of_ble_eq_true rfl⟩) (va_recv hK.1 hP (ci := 1) (q0 := 0) rfl rfl) hP hK rfl hl.1 rfl (Nat.le_of_ble_eq_true rfl) dX1_begins_31 ⟨Nat.le_of_ble_eq_true rfl, Nat.le_of_ble_eq_true rfl⟩ hD hFc9 hS (fun H locs hP hD1 _ hS => ?_)
    have hD := hD1.weaken (fun _ _ _ h9 => hFc9 _ h9)
    refine lv_if_eq (tgt := 41) hx hb dX1_begins_34 (by decide) (fun c3 => ?_) (fun c3 => ?_)
    · replace hf := ifp c3 hf
      refine lv_iconst (v := 0) hx hb dX1_begins_41 (by decide) ?_
      have e9 := Option.some.inj hf
      exact retMz hx hb hr hlocks hP hD hS rfl (congrArg (fun z => z.1) e9) (congrArg (fun z => (kX1 T h a z.2 ++ kX8 T (a 0) atp utp : va_W)) e9) dX1_begins_42
    replace hf := ifn c3 hf
    refine lv_iconst (v := 1) hx hb dX1_begins_37 (by decide) ?_
    refine lv_goto (tgt := 42) hx hb dX1_begins_38 (by decide) ?_
    have e9 := Option.some.inj hf
    exact retMz hx hb hr hlocks hP hD hS rfl (congrArg (fun z => z.1) e9) (congrArg (fun z => (kX1 T h a z.2 ++ kX8 T (a 0) atp utp : va_W)) e9) dX1_begins_42
  unfold fX1_begins at hf
  refine lv_aload_n hx hb dX1_begins_0 rfl (lv_at hl 0 rfl) ?_
  obtain ⟨z4, hz4, hf⟩ := lett_e hf
  refine cVR (As := []) (rest := []) ⟨hx, hb, hml, hown, hts⟩ (mX1_isFaulty l D T h a u z4 hz4.symm) (cwV 0 hts gX1_begins_X1_isFaulty rfl rfl rfl (by decide +kernel) ⟨Nat.le_of_ble_eq_true rfl, Nat.le_of_ble_eq_true rfl⟩) (va_recv hK.1 hP (ci := 1) (q0 := 0) rfl rfl) (hP.sub (ws' := kX1 T h a u) [0] rfl) hK rfl hl.1 rfl (Nat.le_of_ble_eq_true rfl) dX1_begins_1 ⟨Nat.le_of_ble_eq_true rfl, Nat.le_of_ble_eq_true rfl⟩ hP hS (fun H locs hP hS => ?_)
  refine lv_if_ne (tgt := 22) hx hb dX1_begins_4 (by decide) (fun c5 => ?_) (fun c5 => ?_)
  · replace hf := ifn c5 hf
    refine lv_iconst (v := 0) hx hb dX1_begins_22 (by decide) ?_
    have e9 := Option.some.inj hf
    exact retMz hx hb hr hlocks hP hD hS rfl (congrArg (fun z => z.1) e9) (congrArg (fun z => (kX1 T h a z.2 ++ kX8 T (a 0) atp utp : va_W)) e9) dX1_begins_23
  replace hf := ifp c5 hf
  refine lv_iload_n hx hb dX1_begins_7 rfl (lv_at hl 1 rfl) ?_
  refine lv_if_le (tgt := 24) hx hb dX1_begins_8 (by decide) (fun c6 => ?_) (fun c6 => ?_)
  · replace hf := ifp c6 hf
    exact J24 u p1 _ _ _ hf hP hD hS (lv_sub hl [0, 1] rfl)
  replace hf := ifn c6 hf
  refine lv_aload_n hx hb dX1_begins_11 rfl (lv_at hl 0 rfl) ?_
  refine va_get (D := D) (ci := 1) (v := .int (u 2 0)) (C := RX1) (T := TX1) (N := 5) hx hb hts hinX1 hown hK.1 hP 0 rfl rfl 2 (by decide) (hts (.fieldLink RX1 15 "RopeScale$Cursor" "place" "I") (List.mem_of_getElem? (i := 1) rfl)) (fun _ h9 => h9) rfl dX1_begins_12 ?_
  refine lv_aload_n hx hb dX1_begins_15 rfl (lv_at hl 0 rfl) ?_
  refine va_get (D := D) (ci := 1) (v := .int (u 1 0)) (C := RX1) (T := TX1) (N := 5) hx hb hts hinX1 hown hK.1 hP 0 rfl rfl 1 (by decide) (hts (.fieldLink RX1 9 "RopeScale$Cursor" "end" "I") (List.mem_of_getElem? (i := 2) rfl)) (fun _ h9 => h9) rfl dX1_begins_16 ?_
  refine lv_icmp_ne (tgt := 24) hx hb dX1_begins_19 (by decide) (fun c7 => ?_) (fun c7 => ?_)
  · replace hf := ifn c7 hf
    exact J24 u p1 _ _ _ hf hP hD hS (lv_sub hl [0, 1] rfl)
  replace hf := ifp c7 hf
  refine lv_iconst (v := 0) hx hb dX1_begins_22 (by decide) ?_
  have e9 := Option.some.inj hf
  exact retMz hx hb hr hlocks hP hD hS rfl (congrArg (fun z => z.1) e9) (congrArg (fun z => (kX1 T h a z.2 ++ kX8 T (a 0) atp utp : va_W)) e9) dX1_begins_23
def fX1_seesDigit  (u : St)  : Option (Int32) := lett (fX11_isWithin (u 3 0) 48 57) fun z1 => zb z1 <| some z1
set_option maxHeartbeats 4000000 in
set_option maxRecDepth 100000 in
theorem mX1_seesDigit (l : Launch) (D : va_G) (T : Ty3) (h : Nat) (a : Nat → Nat) (u : St)  (res : Int32) (hf : fX1_seesDigit u = some res) : Met l yX1_seesDigit wsX1_seesDigit ({ frames := 1, cells := 0, slots := 0, locals := 22 }) (PcR D T (kX1 T h a u) [.ref h]) (QR res) 0 0 noA := by
  refine Met.ofW (cc := cX1_seesDigit) (maxL := 1) (ret := (some .boolean)) (by decide) rfl ?_
  intro p e s m args below meth c s₁ B hml hv
  obtain ⟨rfl, hP, hK⟩ := hv
  have hx := B.exec
  have hb := B.bytes
  have hr := B.returns
  have hts := atoms_spec (ws := wsX1_seesDigit) B.pre
  have hown : s.vm.findClass RX1 = some m.cls := findClass_of_methodNamed B.named
  have hlocks := B.notSynchronized
  have hS : va_S noA s.heap s.heap [] := va_S.rf
  have hinX1 : ∀ w ∈ u_ws RX1 TX1 5, w ∈ wsX1_seesDigit := fun w h => List.mem_cons_of_mem _ (List.mem_append_right _ h)
  have hl := lv_entry ([.ref h]) (n := 1) (Nat.le_of_ble_eq_true rfl)
  rw [lg_entry_eq]
  generalize (lg_sl ([.ref h]) ++ List.replicate (1 - (lg_sl ([.ref h])).length) Slot.unset).toArray = ls at hl ⊢
  have hl : lv_has ls 1 [(0, .ref h)] := hl
  unfold fX1_seesDigit at hf
  refine lv_aload_n hx hb dX1_seesDigit_0 rfl (lv_at hl 0 rfl) ?_
  refine va_get (D := D) (ci := 1) (v := .int (u 3 0)) (C := RX1) (T := TX1) (N := 5) hx hb hts hinX1 hown hK.1 hP 0 rfl rfl 3 (by decide) (hts (.fieldLink RX1 18 "RopeScale$Cursor" "sign" "I") (List.mem_of_getElem? (i := 1) rfl)) (fun _ h9 => h9) rfl dX1_seesDigit_1 ?_
  refine lv_bipush (v := 48) hx hb dX1_seesDigit_4 (by decide) ?_
  refine lv_bipush (v := 57) hx hb dX1_seesDigit_6 (by decide) ?_
  obtain ⟨z1, hz1, hf⟩ := lett_e hf
  refine cNR (As := [.int (u 3 0), .int 48, .int 57]) (rest := []) ⟨hx, hb, hml, hown, hts⟩ (mX11_isWithin l D T (u 3 0) 48 57 z1 hz1.symm) ⟨va_cnB (host := "RopeScale") (index := 62) 3 hts gX1_seesDigit_X11_isWithin_n62 rfl rfl rfl (hK.2 _ (List.mem_of_getElem? (i := 10) rfl)) (hts (.initialized RX11) (List.mem_of_getElem? (i := 3) rfl)) (by decide +kernel) ⟨Nat.le_of_ble_eq_true rfl, Nat.le_of_ble_eq_true rfl⟩, (hts (.static yX11_isWithin) (List.mem_of_getElem? (i := 2) rfl)), trivial⟩ P0 hK rfl hl.1 rfl (Nat.le_of_ble_eq_true rfl) dX1_seesDigit_8 ⟨Nat.le_of_ble_eq_true rfl, Nat.le_of_ble_eq_true rfl⟩ hP hS (fun H locs hP hS => ?_)
  obtain ⟨hz9, hf⟩ := zb_e hf
  exact retRz hx hb hr hlocks hS hz9 (Option.some.inj hf) dX1_seesDigit_11
def fX1_readNumber_J39   (v : St) (x2 : Int32) (x3 : Int32) : Option (Int32 × St) := if x3 = 0 then lett (fX1_failHere v 1) fun z5 => some (x2, z5) else (fX1_seesDigit v).bind fun z2 => if z2 = 0 then some (x2, v) else lett (fX1_failHere v 2) fun z4 => some (x2, z4)
def bX1_readNumber_L4 (utp : St)  (lp4 : St → Int32 → Int32 → Int32 → Option (Int32 × St)) (v : St) (x1 : Int32) (x2 : Int32) (x3 : Int32) : Option (Int32 × St) := if x1 ≤ x3 then fX1_readNumber_J39 v x2 x3 else (fX1_seesDigit v).bind fun z7 => if z7 = 0 then fX1_readNumber_J39 v x2 x3 else lett (((x2 * 10) + (v 3 0)) - 48) fun t9 => lett (x3 + 1) fun t10 => (fX1_next v utp).bind fun z11 => lp4 z11 x1 t9 t10
def fX1_readNumber_L4 (utp : St)  : Nat → St → Int32 → Int32 → Int32 → Option (Int32 × St)
  | 0, _, _, _, _ => none
  | n + 1, v, x1, x2, x3 => bX1_readNumber_L4 utp (fX1_readNumber_L4 utp n) v x1 x2 x3
def fX1_readNumber  (u : St) (utp : St) (p1 : Int32) : Option (Int32 × St) := fX1_readNumber_L4 utp FU u p1 0 0
set_option maxHeartbeats 4000000 in
set_option maxRecDepth 100000 in
theorem mX1_readNumber (l : Launch) (D : va_G) (T : Ty3) (h : Nat) (a : Nat → Nat) (u : St) (atp : Nat → Nat) (utp : St) (sz : Nat) (p1 : Int32) (res : Int32 × St) (hf : fX1_readNumber u utp p1 = some res) : Met l yX1_readNumber wsX1_readNumber ({ frames := 2, cells := 0, slots := 0, locals := 43 }) (PcM D T (kX1 T h a u ++ kX8 T (a 0) atp utp) sz [.ref h, .int p1]) (QM D (kX1 T h a u ++ kX8 T (a 0) atp utp) sz res.1 (kX1 T h a res.2 ++ kX8 T (a 0) atp utp)) 0 0 (va_A (kX1 T h a u ++ kX8 T (a 0) atp utp) sz) := by
  refine Met.ofW (cc := cX1_readNumber) (maxL := 4) (ret := (some .int)) (by decide) rfl ?_
  intro p e s m args below meth c s₁ B hml hv
  obtain ⟨rfl, hsz, hP, hK, hD0⟩ := hv
  have hx := B.exec
  have hb := B.bytes
  have hr := B.returns
  have hts := atoms_spec (ws := wsX1_readNumber) B.pre
  have hown : s.vm.findClass RX1 = some m.cls := findClass_of_methodNamed B.named
  have hlocks := B.notSynchronized
  subst hsz
  have hD := hD0.self (sz := s.heap.size)
  have hA : ∀ q : Nat, s.heap.size ≤ q → va_A (kX1 T h a u ++ kX8 T (a 0) atp utp) s.heap.size q := fun q h => Or.inr h
  have hS : va_S (va_A (kX1 T h a u ++ kX8 T (a 0) atp utp) s.heap.size) s.heap s.heap [] := va_S.rf
  have hinX1 : ∀ w ∈ u_ws RX1 TX1 5, w ∈ wsX1_readNumber := fun w h => List.mem_cons_of_mem _ (List.mem_append_left _ (List.mem_append_right _ h))
  have hinX8 : ∀ w ∈ u_ws RX8 TX8 2, w ∈ wsX1_readNumber := fun w h => List.mem_cons_of_mem _ (List.mem_append_right _ h)
  have hl := lv_entry ([.ref h, .int p1]) (n := 4) (Nat.le_of_ble_eq_true rfl)
  rw [lg_entry_eq]
  generalize (lg_sl ([.ref h, .int p1]) ++ List.replicate (4 - (lg_sl ([.ref h, .int p1])).length) Slot.unset).toArray = ls at hl ⊢
  have hl : lv_has ls 4 [(0, .ref h), (1, .int p1)] := hl
  have J39 : ∀ (v : St) (x2 : Int32) (x3 : Int32) (H : Heap) (locs : List Loc) (ls : Array Slot), fX1_readNumber_J39  v x2 x3 = some res → va_P D vwCl (kX1 T h a v ++ kX8 T (a 0) atp utp) H → va_D (va_A (kX1 T h a u ++ kX8 T (a 0) atp utp) s.heap.size) (kX1 T h a v ++ kX8 T (a 0) atp utp) → va_S (va_A (kX1 T h a u ++ kX8 T (a 0) atp utp) s.heap.size) s.heap H locs → lv_has ls 4 [(0, .ref h), (2, .int x2), (3, .int x3)] → W p l e (headSpec wsX1_readNumber ({ frames := 2, cells := 0, slots := 0, locals := 43 })).room s m ([.ref h, .int p1] : List Value).toArray below meth c H locs 0 0 (MQ below (QM D (kX1 T h a u ++ kX8 T (a 0) atp utp) s.heap.size res.1 (kX1 T h a res.2 ++ kX8 T (a 0) atp utp)) ([.ref h, .int p1] : List Value).toArray s 0 0 (va_A (kX1 T h a u ++ kX8 T (a 0) atp utp) s.heap.size)) (F0 m 39 ls []) := by
    intro v x2 x3 H locs ls hf hP hD hS hl
    unfold fX1_readNumber_J39 at hf
    refine lv_iload_n hx hb dX1_readNumber_39 rfl (lv_at hl 2 rfl) ?_
    refine lv_if_ne (tgt := 51) hx hb dX1_readNumber_40 (by decide) (fun c1 => ?_) (fun c1 => ?_)
    · replace hf := ifn c1 hf
      refine lv_aload_n hx hb dX1_readNumber_51 rfl (lv_at hl 0 rfl) ?_
      obtain ⟨z2, hz2, hf⟩ := bnd hf
      refine cVR (As := []) (rest := []) ⟨hx, hb, hml, hown, hts⟩ (mX1_seesDigit l D T h a v z2 hz2) (cwV 0 hts gX1_readNumber_X1_seesDigit rfl rfl rfl (by decide +kernel) ⟨Nat.le_of_ble_eq_true rfl, Nat.le_of_ble_eq_true rfl⟩) (va_recv hK.1 hP (ci := 1) (q0 := 0) rfl rfl) (hP.sub (ws' := kX1 T h a v) [0] rfl) hK rfl hl.1 rfl (Nat.le_of_ble_eq_true rfl) dX1_readNumber_52 ⟨Nat.le_of_ble_eq_true rfl, Nat.le_of_ble_eq_true rfl⟩ hP hS (fun H locs hP hS => ?_)
      refine lv_if_eq (tgt := 63) hx hb dX1_readNumber_55 (by decide) (fun c3 => ?_) (fun c3 => ?_)
      · replace hf := ifp c3 hf
        refine lv_iload_n hx hb dX1_readNumber_63 rfl (lv_at hl 1 rfl) ?_
        have e9 := Option.some.inj hf
        exact retM hx hb hr hlocks hP hD hS (congrArg (fun z => z.1) e9) (congrArg (fun z => (kX1 T h a z.2 ++ kX8 T (a 0) atp utp : va_W)) e9) dX1_readNumber_64
      replace hf := ifn c3 hf
      refine lv_aload_n hx hb dX1_readNumber_58 rfl (lv_at hl 0 rfl) ?_
      refine lv_iconst (v := 2) hx hb dX1_readNumber_59 (by decide) ?_
      obtain ⟨z4, hz4, hf⟩ := lett_e hf
      have hPc := hP.sub (ws' := kX1 T h a v) [0] rfl
      have hDc := hD.sub (ws' := kX1 T h a v) [0] (by decide) rfl
      have hFc9 := va_free (wc := kX1 T h a v) hD hS hA [0] rfl
      refine cVMv (As := [.int 2]) (rest := []) ⟨hx, hb, hml, hown, hts⟩ (mX1_failHere l D T h a v _ 2 z4 hz4.symm) (cwV 1 hts gX1_readNumber_X1_failHere rfl rfl rfl (by decide +kernel) ⟨Nat.le_of_ble_eq_true rfl, Nat.le_of_ble_eq_true rfl⟩) (va_recv hK.1 hP (ci := 1) (q0 := 0) rfl rfl) hPc hK rfl hl.1 rfl (Nat.le_of_ble_eq_true rfl) dX1_readNumber_60 ⟨Nat.le_of_ble_eq_true rfl, Nat.le_of_ble_eq_true rfl⟩ hDc hFc9 hS (fun H9 locs hP1 hD1 hk1 hS => ?_)
      obtain ⟨hP, hD⟩ := putAll_P (w1 := kX1 T h a z4) hP hD [0] rfl (by decide) hk1 hP1 rfl
      generalize H9 = H at hP hS ⊢
      have hP : va_P D vwCl (kX1 T h a z4 ++ kX8 T (a 0) atp utp) H := by exact hP
      have hD : va_D (va_A (kX1 T h a u ++ kX8 T (a 0) atp utp) s.heap.size) (kX1 T h a z4 ++ kX8 T (a 0) atp utp) := by exact hD
      refine lv_iload_n hx hb dX1_readNumber_63 rfl (lv_at hl 1 rfl) ?_
      have e9 := Option.some.inj hf
      exact retM hx hb hr hlocks hP hD hS (congrArg (fun z => z.1) e9) (congrArg (fun z => (kX1 T h a z.2 ++ kX8 T (a 0) atp utp : va_W)) e9) dX1_readNumber_64
    replace hf := ifp c1 hf
    refine lv_aload_n hx hb dX1_readNumber_43 rfl (lv_at hl 0 rfl) ?_
    refine lv_iconst (v := 1) hx hb dX1_readNumber_44 (by decide) ?_
    obtain ⟨z5, hz5, hf⟩ := lett_e hf
    have hPc := hP.sub (ws' := kX1 T h a v) [0] rfl
    have hDc := hD.sub (ws' := kX1 T h a v) [0] (by decide) rfl
    have hFc9 := va_free (wc := kX1 T h a v) hD hS hA [0] rfl
    refine cVMv (As := [.int 1]) (rest := []) ⟨hx, hb, hml, hown, hts⟩ (mX1_failHere l D T h a v _ 1 z5 hz5.symm) (cwV 1 hts gX1_readNumber_X1_failHere rfl rfl rfl (by decide +kernel) ⟨Nat.le_of_ble_eq_true rfl, Nat.le_of_ble_eq_true rfl⟩) (va_recv hK.1 hP (ci := 1) (q0 := 0) rfl rfl) hPc hK rfl hl.1 rfl (Nat.le_of_ble_eq_true rfl) dX1_readNumber_45 ⟨Nat.le_of_ble_eq_true rfl, Nat.le_of_ble_eq_true rfl⟩ hDc hFc9 hS (fun H9 locs hP1 hD1 hk1 hS => ?_)
    obtain ⟨hP, hD⟩ := putAll_P (w1 := kX1 T h a z5) hP hD [0] rfl (by decide) hk1 hP1 rfl
    generalize H9 = H at hP hS ⊢
    have hP : va_P D vwCl (kX1 T h a z5 ++ kX8 T (a 0) atp utp) H := by exact hP
    have hD : va_D (va_A (kX1 T h a u ++ kX8 T (a 0) atp utp) s.heap.size) (kX1 T h a z5 ++ kX8 T (a 0) atp utp) := by exact hD
    refine lv_goto (tgt := 63) hx hb dX1_readNumber_48 (by decide) ?_
    refine lv_iload_n hx hb dX1_readNumber_63 rfl (lv_at hl 1 rfl) ?_
    have e9 := Option.some.inj hf
    exact retM hx hb hr hlocks hP hD hS (congrArg (fun z => z.1) e9) (congrArg (fun z => (kX1 T h a z.2 ++ kX8 T (a 0) atp utp : va_W)) e9) dX1_readNumber_64
  have L4 : ∀ (n4 : Nat), ∀ (v : St) (x1 : Int32) (x2 : Int32) (x3 : Int32) (H : Heap) (locs : List Loc) (ls : Array Slot), fX1_readNumber_L4 utp n4 v x1 x2 x3 = some res → va_P D vwCl (kX1 T h a v ++ kX8 T (a 0) atp utp) H → va_D (va_A (kX1 T h a u ++ kX8 T (a 0) atp utp) s.heap.size) (kX1 T h a v ++ kX8 T (a 0) atp utp) → va_S (va_A (kX1 T h a u ++ kX8 T (a 0) atp utp) s.heap.size) s.heap H locs → lv_has ls 4 [(0, .ref h), (1, .int x1), (2, .int x2), (3, .int x3)] → W p l e (headSpec wsX1_readNumber ({ frames := 2, cells := 0, slots := 0, locals := 43 })).room s m ([.ref h, .int p1] : List Value).toArray below meth c H locs 0 0 (MQ below (QM D (kX1 T h a u ++ kX8 T (a 0) atp utp) s.heap.size res.1 (kX1 T h a res.2 ++ kX8 T (a 0) atp utp)) ([.ref h, .int p1] : List Value).toArray s 0 0 (va_A (kX1 T h a u ++ kX8 T (a 0) atp utp) s.heap.size)) (F0 m 4 ls []) := by
    intro n4
    induction n4 with
    | zero => intro v x1 x2 x3 H locs ls hf; exact nns hf
    | succ n4 ih4 =>
      intro v x1 x2 x3 H locs ls hf hP hD hS hl
      replace hf : bX1_readNumber_L4 utp (fX1_readNumber_L4 utp n4) v x1 x2 x3 = some res := hf
      unfold bX1_readNumber_L4 at hf
      refine lv_iload_n hx hb dX1_readNumber_4 rfl (lv_at hl 3 rfl) ?_
      refine lv_iload_n hx hb dX1_readNumber_5 rfl (lv_at hl 1 rfl) ?_
      refine lv_icmp_ge (tgt := 39) hx hb dX1_readNumber_6 (by decide) (fun c6 => ?_) (fun c6 => ?_)
      · replace hf := ifp c6 hf
        exact J39 v x2 x3 _ _ _ hf hP hD hS (lv_sub hl [0, 2, 3] rfl)
      replace hf := ifn c6 hf
      refine lv_aload_n hx hb dX1_readNumber_9 rfl (lv_at hl 0 rfl) ?_
      obtain ⟨z7, hz7, hf⟩ := bnd hf
      refine cVR (As := []) (rest := []) ⟨hx, hb, hml, hown, hts⟩ (mX1_seesDigit l D T h a v z7 hz7) (cwV 0 hts gX1_readNumber_X1_seesDigit rfl rfl rfl (by decide +kernel) ⟨Nat.le_of_ble_eq_true rfl, Nat.le_of_ble_eq_true rfl⟩) (va_recv hK.1 hP (ci := 1) (q0 := 0) rfl rfl) (hP.sub (ws' := kX1 T h a v) [0] rfl) hK rfl hl.1 rfl (Nat.le_of_ble_eq_true rfl) dX1_readNumber_10 ⟨Nat.le_of_ble_eq_true rfl, Nat.le_of_ble_eq_true rfl⟩ hP hS (fun H locs hP hS => ?_)
      refine lv_if_eq (tgt := 39) hx hb dX1_readNumber_13 (by decide) (fun c8 => ?_) (fun c8 => ?_)
      · replace hf := ifp c8 hf
        exact J39 v x2 x3 _ _ _ hf hP hD hS (lv_sub hl [0, 2, 3] rfl)
      replace hf := ifn c8 hf
      refine lv_iload_n hx hb dX1_readNumber_16 rfl (lv_at hl 2 rfl) ?_
      refine lv_bipush (v := 10) hx hb dX1_readNumber_17 (by decide) ?_
      refine lv_imul hx hb dX1_readNumber_19 ?_
      refine lv_aload_n hx hb dX1_readNumber_20 rfl (lv_at hl 0 rfl) ?_
      refine va_get (D := D) (ci := 1) (v := .int (v 3 0)) (C := RX1) (T := TX1) (N := 5) hx hb hts hinX1 hown hK.1 hP 0 rfl rfl 3 (by decide) (hts (.fieldLink RX1 18 "RopeScale$Cursor" "sign" "I") (List.mem_of_getElem? (i := 1) rfl)) (fun _ h9 => h9) rfl dX1_readNumber_21 ?_
      refine lv_iadd hx hb dX1_readNumber_24 ?_
      refine lv_bipush (v := 48) hx hb dX1_readNumber_25 (by decide) ?_
      refine lv_isub hx hb dX1_readNumber_27 ?_
      obtain ⟨t9, et9, hf⟩ := lett_e hf
      refine lv_eqi et9 ?_
      refine lv_istore_n (lv' := [(2, .int t9), (0, .ref h), (1, .int x1), (3, .int x3)]) hx hb dX1_readNumber_28 rfl hl (by decide) rfl (fun ls hl => ?_)
      obtain ⟨t10, et10, hf⟩ := lett_e hf
      refine lv_iinc (v := t10) (lv' := [(3, .int t10), (2, .int t9), (0, .ref h), (1, .int x1)]) hx hb dX1_readNumber_29 hl (k := 3) rfl (by rw [et10]; rfl) (by decide) rfl (fun ls hl => ?_)
      refine lv_aload_n hx hb dX1_readNumber_32 rfl (lv_at hl 2 rfl) ?_
      obtain ⟨z11, hz11, hf⟩ := bnd hf
      have hFc9 := vaA_self hD hS hA
      refine cVMv (As := []) (rest := []) ⟨hx, hb, hml, hown, hts⟩ (mX1_next l D T h a v atp utp _ z11 hz11) (cwV 0 hts gX1_readNumber_X1_next rfl rfl rfl (by decide +kernel) ⟨Nat.le_of_ble_eq_true rfl, Nat.le_of_ble_eq_true rfl⟩) (va_recv hK.1 hP (ci := 1) (q0 := 0) rfl rfl) hP hK rfl hl.1 rfl (Nat.le_of_ble_eq_true rfl) dX1_readNumber_33 ⟨Nat.le_of_ble_eq_true rfl, Nat.le_of_ble_eq_true rfl⟩ hD hFc9 hS (fun H locs hP hD1 _ hS => ?_)
      have hD := hD1.weaken (fun _ _ _ h9 => hFc9 _ h9)
      refine lv_goto (tgt := 4) hx hb dX1_readNumber_36 (by decide) ?_
      exact ih4 z11 x1 t9 t10 _ _ _ hf hP hD hS (lv_sub hl [2, 3, 1, 0] rfl)
  unfold fX1_readNumber at hf
  refine lv_iconst (v := 0) hx hb dX1_readNumber_0 (by decide) ?_
  refine lv_istore_n (lv' := [(2, .int 0), (0, .ref h), (1, .int p1)]) hx hb dX1_readNumber_1 rfl hl (by decide) rfl (fun ls hl => ?_)
  refine lv_iconst (v := 0) hx hb dX1_readNumber_2 (by decide) ?_
  refine lv_istore_n (lv' := [(3, .int 0), (2, .int 0), (0, .ref h), (1, .int p1)]) hx hb dX1_readNumber_3 rfl hl (by decide) rfl (fun ls hl => ?_)
  exact L4 FU u p1 0 0 _ _ _ hf hP hD hS (lv_sub hl [2, 3, 1, 0] rfl)
def fX1_seenWalker  (u : St)  : Option (Int32) := lett ((u 3 0) - 97) fun t1 => (fX11_isWalker t1).bind fun z2 => if z2 = 0 then some (-1) else some t1
set_option maxHeartbeats 4000000 in
set_option maxRecDepth 100000 in
theorem mX1_seenWalker (l : Launch) (D : va_G) (T : Ty3) (h : Nat) (a : Nat → Nat) (u : St)  (res : Int32) (hf : fX1_seenWalker u = some res) : Met l yX1_seenWalker wsX1_seenWalker ({ frames := 2, cells := 0, slots := 0, locals := 42 }) (PcR D T (kX1 T h a u) [.ref h]) (QR res) 0 0 noA := by
  refine Met.ofW (cc := cX1_seenWalker) (maxL := 2) (ret := (some .int)) (by decide) rfl ?_
  intro p e s m args below meth c s₁ B hml hv
  obtain ⟨rfl, hP, hK⟩ := hv
  have hx := B.exec
  have hb := B.bytes
  have hr := B.returns
  have hts := atoms_spec (ws := wsX1_seenWalker) B.pre
  have hown : s.vm.findClass RX1 = some m.cls := findClass_of_methodNamed B.named
  have hlocks := B.notSynchronized
  have hS : va_S noA s.heap s.heap [] := va_S.rf
  have hinX1 : ∀ w ∈ u_ws RX1 TX1 5, w ∈ wsX1_seenWalker := fun w h => List.mem_cons_of_mem _ (List.mem_append_right _ h)
  have hl := lv_entry ([.ref h]) (n := 2) (Nat.le_of_ble_eq_true rfl)
  rw [lg_entry_eq]
  generalize (lg_sl ([.ref h]) ++ List.replicate (2 - (lg_sl ([.ref h])).length) Slot.unset).toArray = ls at hl ⊢
  have hl : lv_has ls 2 [(0, .ref h)] := hl
  unfold fX1_seenWalker at hf
  refine lv_aload_n hx hb dX1_seenWalker_0 rfl (lv_at hl 0 rfl) ?_
  refine va_get (D := D) (ci := 1) (v := .int (u 3 0)) (C := RX1) (T := TX1) (N := 5) hx hb hts hinX1 hown hK.1 hP 0 rfl rfl 3 (by decide) (hts (.fieldLink RX1 18 "RopeScale$Cursor" "sign" "I") (List.mem_of_getElem? (i := 1) rfl)) (fun _ h9 => h9) rfl dX1_seenWalker_1 ?_
  refine lv_bipush (v := 97) hx hb dX1_seenWalker_4 (by decide) ?_
  refine lv_isub hx hb dX1_seenWalker_6 ?_
  obtain ⟨t1, et1, hf⟩ := lett_e hf
  refine lv_eqi et1 ?_
  refine lv_istore_n (lv' := [(1, .int t1), (0, .ref h)]) hx hb dX1_seenWalker_7 rfl hl (by decide) rfl (fun ls hl => ?_)
  refine lv_iload_n hx hb dX1_seenWalker_8 rfl (lv_at hl 0 rfl) ?_
  obtain ⟨z2, hz2, hf⟩ := bnd hf
  refine cNR (As := [.int t1]) (rest := []) ⟨hx, hb, hml, hown, hts⟩ (mX11_isWalker l D T t1 z2 hz2) ⟨va_cnB (host := "RopeScale") (index := 69) 1 hts gX1_seenWalker_X11_isWalker_n69 rfl rfl rfl (hK.2 _ (List.mem_of_getElem? (i := 12) rfl)) (hts (.initialized RX11) (List.mem_of_getElem? (i := 3) rfl)) (by decide +kernel) ⟨Nat.le_of_ble_eq_true rfl, Nat.le_of_ble_eq_true rfl⟩, (hts (.static yX11_isWalker) (List.mem_of_getElem? (i := 2) rfl)), trivial⟩ P0 hK rfl hl.1 rfl (Nat.le_of_ble_eq_true rfl) dX1_seenWalker_9 ⟨Nat.le_of_ble_eq_true rfl, Nat.le_of_ble_eq_true rfl⟩ hP hS (fun H locs hP hS => ?_)
  refine lv_if_eq (tgt := 19) hx hb dX1_seenWalker_12 (by decide) (fun c3 => ?_) (fun c3 => ?_)
  · replace hf := ifp c3 hf
    refine lv_iconst (v := (-1)) hx hb dX1_seenWalker_19 (by decide) ?_
    exact retR hx hb hr hlocks hS (Option.some.inj hf) dX1_seenWalker_20
  replace hf := ifn c3 hf
  refine lv_iload_n hx hb dX1_seenWalker_15 rfl (lv_at hl 0 rfl) ?_
  refine lv_goto (tgt := 20) hx hb dX1_seenWalker_16 (by decide) ?_
  exact retR hx hb hr hlocks hS (Option.some.inj hf) dX1_seenWalker_20
def fX2_clear  (u : St)  : (St) := lett (st u 4 0 0) fun u1 => lett (st u1 7 0 0) fun u2 => u2
set_option maxHeartbeats 4000000 in
set_option maxRecDepth 100000 in
theorem mX2_clear (l : Launch) (D : va_G) (T : Ty3) (h : Nat) (a : Nat → Nat) (u : St) (sz : Nat)  (res : St) (hf : fX2_clear u = res) : Met l yX2_clear wsX2_clear ({ frames := 0, cells := 0, slots := 0, locals := 0 }) (PcM D T (kX2 T h a u) sz [.ref h]) (QMv D (kX2 T h a u) sz (kX2 T h a res)) 0 0 (va_A (kX2 T h a u) sz) := by
  refine Met.ofW (cc := cX2_clear) (maxL := 1) (ret := none) (by decide) rfl ?_
  intro p e s m args below meth c s₁ B hml hv
  obtain ⟨rfl, hsz, hP, hK, hD0⟩ := hv
  have hx := B.exec
  have hb := B.bytes
  have hr := B.returns
  have hts := atoms_spec (ws := wsX2_clear) B.pre
  have hown : s.vm.findClass RX2 = some m.cls := findClass_of_methodNamed B.named
  have hlocks := B.notSynchronized
  subst hsz
  have hD := hD0.self (sz := s.heap.size)
  have hA : ∀ q : Nat, s.heap.size ≤ q → va_A (kX2 T h a u) s.heap.size q := fun q h => Or.inr h
  have hS : va_S (va_A (kX2 T h a u) s.heap.size) s.heap s.heap [] := va_S.rf
  have hinX2 : ∀ w ∈ u_ws RX2 TX2 10, w ∈ wsX2_clear := fun w h => List.mem_cons_of_mem _ (List.mem_append_right _ h)
  have hl := lv_entry ([.ref h]) (n := 1) (Nat.le_of_ble_eq_true rfl)
  rw [lg_entry_eq]
  generalize (lg_sl ([.ref h]) ++ List.replicate (1 - (lg_sl ([.ref h])).length) Slot.unset).toArray = ls at hl ⊢
  have hl : lv_has ls 1 [(0, .ref h)] := hl
  unfold fX2_clear at hf
  refine lv_aload_n hx hb dX2_clear_0 rfl (lv_at hl 0 rfl) ?_
  refine lv_iconst (v := 0) hx hb dX2_clear_1 (by decide) ?_
  obtain ⟨u1, eu1, hf⟩ := lett_e hf
  refine va_put (D := D) (ci := 2) (v := .int 0) (ty := .int) (C := RX2) (T := TX2) (N := 10) hx hb hts hinX2 tyX2 tyX2_ok nmX2 hown hK.1 hP hD hS 0 rfl rfl 4 (by decide) (hts (.fieldLink RX2 24 "RopeScale$Law" "rules" "I") (List.mem_of_getElem? (i := 1) rfl)) (fun _ h9 => h9) rfl (tyX2_ok 4 (by decide)) rfl rfl (Nat.le_of_ble_eq_true rfl) dX2_clear_2 (fun H locs hP hD hS => ?_)
  have hP : va_P D vwCl (kX2 T h a u1) H := by rw [eu1]; exact hP
  have hD : va_D (va_A (kX2 T h a u) s.heap.size) (kX2 T h a u1) := by rw [eu1]; exact hD
  refine lv_aload_n hx hb dX2_clear_5 rfl (lv_at hl 0 rfl) ?_
  refine lv_iconst (v := 0) hx hb dX2_clear_6 (by decide) ?_
  obtain ⟨u2, eu2, hf⟩ := lett_e hf
  refine va_put (D := D) (ci := 2) (v := .int 0) (ty := .int) (C := RX2) (T := TX2) (N := 10) hx hb hts hinX2 tyX2 tyX2_ok nmX2 hown hK.1 hP hD hS 0 rfl rfl 7 (by decide) (hts (.fieldLink RX2 34 "RopeScale$Law" "length" "I") (List.mem_of_getElem? (i := 2) rfl)) (fun _ h9 => h9) rfl (tyX2_ok 7 (by decide)) rfl rfl (Nat.le_of_ble_eq_true rfl) dX2_clear_7 (fun H locs hP hD hS => ?_)
  have hP : va_P D vwCl (kX2 T h a u2) H := by rw [eu2]; exact hP
  have hD : va_D (va_A (kX2 T h a u) s.heap.size) (kX2 T h a u2) := by rw [eu2]; exact hD
  have e9 := hf
  exact retMv hx hb hr hlocks hP hD hS (congrArg (fun z => (kX2 T h a z : va_W)) e9) dX2_clear_10
def fX2_put  (u : St) (p1 : Int32) (p2 : Int32) : Option (Int32 × St) := if 240 ≤ (u 7 0) then some ((u 7 0) - 1, u) else gd (u 7 0) 240 <| lett (st u 5 (ix (u 7 0)) p1) fun u2 => gd (u2 7 0) 240 <| lett (st u2 6 (ix (u2 7 0)) p2) fun u3 => lett (st u3 7 0 ((u3 7 0) + 1)) fun u4 => some ((u4 7 0) - 1, u4)
set_option maxHeartbeats 4000000 in
set_option maxRecDepth 100000 in
theorem mX2_put (l : Launch) (D : va_G) (T : Ty3) (h : Nat) (a : Nat → Nat) (u : St) (sz : Nat) (p1 : Int32) (p2 : Int32) (res : Int32 × St) (hf : fX2_put u p1 p2 = some res) : Met l yX2_put wsX2_put ({ frames := 0, cells := 0, slots := 0, locals := 0 }) (PcM D T (kX2 T h a u) sz [.ref h, .int p1, .int p2]) (QM D (kX2 T h a u) sz res.1 (kX2 T h a res.2)) 0 0 (va_A (kX2 T h a u) sz) := by
  refine Met.ofW (cc := cX2_put) (maxL := 3) (ret := (some .int)) (by decide) rfl ?_
  intro p e s m args below meth c s₁ B hml hv
  obtain ⟨rfl, hsz, hP, hK, hD0⟩ := hv
  have hx := B.exec
  have hb := B.bytes
  have hr := B.returns
  have hts := atoms_spec (ws := wsX2_put) B.pre
  have hown : s.vm.findClass RX2 = some m.cls := findClass_of_methodNamed B.named
  have hlocks := B.notSynchronized
  subst hsz
  have hD := hD0.self (sz := s.heap.size)
  have hA : ∀ q : Nat, s.heap.size ≤ q → va_A (kX2 T h a u) s.heap.size q := fun q h => Or.inr h
  have hS : va_S (va_A (kX2 T h a u) s.heap.size) s.heap s.heap [] := va_S.rf
  have hinX2 : ∀ w ∈ u_ws RX2 TX2 10, w ∈ wsX2_put := fun w h => List.mem_cons_of_mem _ (List.mem_append_right _ h)
  have hl := lv_entry ([.ref h, .int p1, .int p2]) (n := 3) (Nat.le_of_ble_eq_true rfl)
  rw [lg_entry_eq]
  generalize (lg_sl ([.ref h, .int p1, .int p2]) ++ List.replicate (3 - (lg_sl ([.ref h, .int p1, .int p2])).length) Slot.unset).toArray = ls at hl ⊢
  have hl : lv_has ls 3 [(0, .ref h), (1, .int p1), (2, .int p2)] := hl
  unfold fX2_put at hf
  refine lv_aload_n hx hb dX2_put_0 rfl (lv_at hl 0 rfl) ?_
  refine va_get (D := D) (ci := 2) (v := .int (u 7 0)) (C := RX2) (T := TX2) (N := 10) hx hb hts hinX2 hown hK.1 hP 0 rfl rfl 7 (by decide) (hts (.fieldLink RX2 34 "RopeScale$Law" "length" "I") (List.mem_of_getElem? (i := 1) rfl)) (fun _ h9 => h9) rfl dX2_put_1 ?_
  refine lv_sipush (v := 240) hx hb dX2_put_4 (by decide) ?_
  refine lv_icmp_ge (tgt := 40) hx hb dX2_put_7 (by decide) (fun c1 => ?_) (fun c1 => ?_)
  · replace hf := ifp c1 hf
    refine lv_aload_n hx hb dX2_put_40 rfl (lv_at hl 0 rfl) ?_
    refine va_get (D := D) (ci := 2) (v := .int (u 7 0)) (C := RX2) (T := TX2) (N := 10) hx hb hts hinX2 hown hK.1 hP 0 rfl rfl 7 (by decide) (hts (.fieldLink RX2 34 "RopeScale$Law" "length" "I") (List.mem_of_getElem? (i := 1) rfl)) (fun _ h9 => h9) rfl dX2_put_41 ?_
    refine lv_iconst (v := 1) hx hb dX2_put_44 (by decide) ?_
    refine lv_isub hx hb dX2_put_45 ?_
    have e9 := Option.some.inj hf
    exact retM hx hb hr hlocks hP hD hS (congrArg (fun z => z.1) e9) (congrArg (fun z => (kX2 T h a z.2 : va_W)) e9) dX2_put_46
  replace hf := ifn c1 hf
  refine lv_aload_n hx hb dX2_put_10 rfl (lv_at hl 0 rfl) ?_
  refine va_get (D := D) (ci := 2) (v := .ref (a 5)) (C := RX2) (T := TX2) (N := 10) hx hb hts hinX2 hown hK.1 hP 0 rfl rfl 5 (by decide) (hts (.fieldLink RX2 28 "RopeScale$Law" "step" "[I") (List.mem_of_getElem? (i := 2) rfl)) (fun _ h9 => h9) rfl dX2_put_11 ?_
  refine lv_aload_n hx hb dX2_put_14 rfl (lv_at hl 0 rfl) ?_
  refine va_get (D := D) (ci := 2) (v := .int (u 7 0)) (C := RX2) (T := TX2) (N := 10) hx hb hts hinX2 hown hK.1 hP 0 rfl rfl 7 (by decide) (hts (.fieldLink RX2 34 "RopeScale$Law" "length" "I") (List.mem_of_getElem? (i := 1) rfl)) (fun _ h9 => h9) rfl dX2_put_15 ?_
  refine lv_iload_n hx hb dX2_put_18 rfl (lv_at hl 1 rfl) ?_
  obtain ⟨h6, hf⟩ := gd_e hf
  obtain ⟨u2, eu2, hf⟩ := lett_e hf
  refine va_iast hx hb hK.1 hP hD hS 5 0 rfl rfl h6 dX2_put_19 (fun H locs hP hD hS => ?_)
  have hP : va_P D vwCl (kX2 T h a u2) H := by rw [eu2]; exact hP
  have hD : va_D (va_A (kX2 T h a u) s.heap.size) (kX2 T h a u2) := by rw [eu2]; exact hD
  refine lv_aload_n hx hb dX2_put_20 rfl (lv_at hl 0 rfl) ?_
  refine va_get (D := D) (ci := 2) (v := .ref (a 6)) (C := RX2) (T := TX2) (N := 10) hx hb hts hinX2 hown hK.1 hP 0 rfl rfl 6 (by decide) (hts (.fieldLink RX2 31 "RopeScale$Law" "operand" "[I") (List.mem_of_getElem? (i := 3) rfl)) (fun _ h9 => h9) rfl dX2_put_21 ?_
  refine lv_aload_n hx hb dX2_put_24 rfl (lv_at hl 0 rfl) ?_
  refine va_get (D := D) (ci := 2) (v := .int (u2 7 0)) (C := RX2) (T := TX2) (N := 10) hx hb hts hinX2 hown hK.1 hP 0 rfl rfl 7 (by decide) (hts (.fieldLink RX2 34 "RopeScale$Law" "length" "I") (List.mem_of_getElem? (i := 1) rfl)) (fun _ h9 => h9) rfl dX2_put_25 ?_
  refine lv_iload_n hx hb dX2_put_28 rfl (lv_at hl 2 rfl) ?_
  obtain ⟨h5, hf⟩ := gd_e hf
  obtain ⟨u3, eu3, hf⟩ := lett_e hf
  refine va_iast hx hb hK.1 hP hD hS 6 0 rfl rfl h5 dX2_put_29 (fun H locs hP hD hS => ?_)
  have hP : va_P D vwCl (kX2 T h a u3) H := by rw [eu3]; exact hP
  have hD : va_D (va_A (kX2 T h a u) s.heap.size) (kX2 T h a u3) := by rw [eu3]; exact hD
  refine lv_aload_n hx hb dX2_put_30 rfl (lv_at hl 0 rfl) ?_
  refine lv_dup hx hb dX2_put_31 rfl ?_
  refine va_get (D := D) (ci := 2) (v := .int (u3 7 0)) (C := RX2) (T := TX2) (N := 10) hx hb hts hinX2 hown hK.1 hP 0 rfl rfl 7 (by decide) (hts (.fieldLink RX2 34 "RopeScale$Law" "length" "I") (List.mem_of_getElem? (i := 1) rfl)) (fun _ h9 => h9) rfl dX2_put_32 ?_
  refine lv_iconst (v := 1) hx hb dX2_put_35 (by decide) ?_
  refine lv_iadd hx hb dX2_put_36 ?_
  obtain ⟨u4, eu4, hf⟩ := lett_e hf
  refine va_put (D := D) (ci := 2) (v := .int ((u3 7 0) + 1)) (ty := .int) (C := RX2) (T := TX2) (N := 10) hx hb hts hinX2 tyX2 tyX2_ok nmX2 hown hK.1 hP hD hS 0 rfl rfl 7 (by decide) (hts (.fieldLink RX2 34 "RopeScale$Law" "length" "I") (List.mem_of_getElem? (i := 1) rfl)) (fun _ h9 => h9) rfl (tyX2_ok 7 (by decide)) rfl rfl (Nat.le_of_ble_eq_true rfl) dX2_put_37 (fun H locs hP hD hS => ?_)
  have hP : va_P D vwCl (kX2 T h a u4) H := by rw [eu4]; exact hP
  have hD : va_D (va_A (kX2 T h a u) s.heap.size) (kX2 T h a u4) := by rw [eu4]; exact hD
  refine lv_aload_n hx hb dX2_put_40 rfl (lv_at hl 0 rfl) ?_
  refine va_get (D := D) (ci := 2) (v := .int (u4 7 0)) (C := RX2) (T := TX2) (N := 10) hx hb hts hinX2 hown hK.1 hP 0 rfl rfl 7 (by decide) (hts (.fieldLink RX2 34 "RopeScale$Law" "length" "I") (List.mem_of_getElem? (i := 1) rfl)) (fun _ h9 => h9) rfl dX2_put_41 ?_
  refine lv_iconst (v := 1) hx hb dX2_put_44 (by decide) ?_
  refine lv_isub hx hb dX2_put_45 ?_
  have e9 := Option.some.inj hf
  exact retM hx hb hr hlocks hP hD hS (congrArg (fun z => z.1) e9) (congrArg (fun z => (kX2 T h a z.2 : va_W)) e9) dX2_put_46
def fX2_leadHere  (u : St) (p1 : Int32) : Option (St) := lett (fX11_isWithin p1 0 ((u 7 0) - 1)) fun z1 => if z1 = 0 then some u else gd p1 240 <| lett (st u 6 (ix p1) (u 7 0)) fun u3 => some u3
set_option maxHeartbeats 4000000 in
set_option maxRecDepth 100000 in
theorem mX2_leadHere (l : Launch) (D : va_G) (T : Ty3) (h : Nat) (a : Nat → Nat) (u : St) (sz : Nat) (p1 : Int32) (res : St) (hf : fX2_leadHere u p1 = some res) : Met l yX2_leadHere wsX2_leadHere ({ frames := 1, cells := 0, slots := 0, locals := 22 }) (PcM D T (kX2 T h a u) sz [.ref h, .int p1]) (QMv D (kX2 T h a u) sz (kX2 T h a res)) 0 0 (va_A (kX2 T h a u) sz) := by
  refine Met.ofW (cc := cX2_leadHere) (maxL := 2) (ret := none) (by decide) rfl ?_
  intro p e s m args below meth c s₁ B hml hv
  obtain ⟨rfl, hsz, hP, hK, hD0⟩ := hv
  have hx := B.exec
  have hb := B.bytes
  have hr := B.returns
  have hts := atoms_spec (ws := wsX2_leadHere) B.pre
  have hown : s.vm.findClass RX2 = some m.cls := findClass_of_methodNamed B.named
  have hlocks := B.notSynchronized
  subst hsz
  have hD := hD0.self (sz := s.heap.size)
  have hA : ∀ q : Nat, s.heap.size ≤ q → va_A (kX2 T h a u) s.heap.size q := fun q h => Or.inr h
  have hS : va_S (va_A (kX2 T h a u) s.heap.size) s.heap s.heap [] := va_S.rf
  have hinX2 : ∀ w ∈ u_ws RX2 TX2 10, w ∈ wsX2_leadHere := fun w h => List.mem_cons_of_mem _ (List.mem_append_right _ h)
  have hl := lv_entry ([.ref h, .int p1]) (n := 2) (Nat.le_of_ble_eq_true rfl)
  rw [lg_entry_eq]
  generalize (lg_sl ([.ref h, .int p1]) ++ List.replicate (2 - (lg_sl ([.ref h, .int p1])).length) Slot.unset).toArray = ls at hl ⊢
  have hl : lv_has ls 2 [(0, .ref h), (1, .int p1)] := hl
  unfold fX2_leadHere at hf
  refine lv_iload_n hx hb dX2_leadHere_0 rfl (lv_at hl 1 rfl) ?_
  refine lv_iconst (v := 0) hx hb dX2_leadHere_1 (by decide) ?_
  refine lv_aload_n hx hb dX2_leadHere_2 rfl (lv_at hl 0 rfl) ?_
  refine va_get (D := D) (ci := 2) (v := .int (u 7 0)) (C := RX2) (T := TX2) (N := 10) hx hb hts hinX2 hown hK.1 hP 0 rfl rfl 7 (by decide) (hts (.fieldLink RX2 34 "RopeScale$Law" "length" "I") (List.mem_of_getElem? (i := 1) rfl)) (fun _ h9 => h9) rfl dX2_leadHere_3 ?_
  refine lv_iconst (v := 1) hx hb dX2_leadHere_6 (by decide) ?_
  refine lv_isub hx hb dX2_leadHere_7 ?_
  obtain ⟨z1, hz1, hf⟩ := lett_e hf
  refine cNR (As := [.int p1, .int 0, .int ((u 7 0) - 1)]) (rest := []) ⟨hx, hb, hml, hown, hts⟩ (mX11_isWithin l D T p1 0 ((u 7 0) - 1) z1 hz1.symm) ⟨va_cnB (host := "RopeScale") (index := 43) 3 hts gX2_leadHere_X11_isWithin_n43 rfl rfl rfl (hK.2 _ (List.mem_of_getElem? (i := 11) rfl)) (hts (.initialized RX11) (List.mem_of_getElem? (i := 4) rfl)) (by decide +kernel) ⟨Nat.le_of_ble_eq_true rfl, Nat.le_of_ble_eq_true rfl⟩, (hts (.static yX11_isWithin) (List.mem_of_getElem? (i := 3) rfl)), trivial⟩ P0 hK rfl hl.1 rfl (Nat.le_of_ble_eq_true rfl) dX2_leadHere_8 ⟨Nat.le_of_ble_eq_true rfl, Nat.le_of_ble_eq_true rfl⟩ hP hS (fun H locs hP hS => ?_)
  refine lv_if_eq (tgt := 24) hx hb dX2_leadHere_11 (by decide) (fun c2 => ?_) (fun c2 => ?_)
  · replace hf := ifp c2 hf
    have e9 := Option.some.inj hf
    exact retMv hx hb hr hlocks hP hD hS (congrArg (fun z => (kX2 T h a z : va_W)) e9) dX2_leadHere_24
  replace hf := ifn c2 hf
  refine lv_aload_n hx hb dX2_leadHere_14 rfl (lv_at hl 0 rfl) ?_
  refine va_get (D := D) (ci := 2) (v := .ref (a 6)) (C := RX2) (T := TX2) (N := 10) hx hb hts hinX2 hown hK.1 hP 0 rfl rfl 6 (by decide) (hts (.fieldLink RX2 31 "RopeScale$Law" "operand" "[I") (List.mem_of_getElem? (i := 2) rfl)) (fun _ h9 => h9) rfl dX2_leadHere_15 ?_
  refine lv_iload_n hx hb dX2_leadHere_18 rfl (lv_at hl 1 rfl) ?_
  refine lv_aload_n hx hb dX2_leadHere_19 rfl (lv_at hl 0 rfl) ?_
  refine va_get (D := D) (ci := 2) (v := .int (u 7 0)) (C := RX2) (T := TX2) (N := 10) hx hb hts hinX2 hown hK.1 hP 0 rfl rfl 7 (by decide) (hts (.fieldLink RX2 34 "RopeScale$Law" "length" "I") (List.mem_of_getElem? (i := 1) rfl)) (fun _ h9 => h9) rfl dX2_leadHere_20 ?_
  obtain ⟨h4, hf⟩ := gd_e hf
  obtain ⟨u3, eu3, hf⟩ := lett_e hf
  refine va_iast hx hb hK.1 hP hD hS 6 0 rfl rfl h4 dX2_leadHere_23 (fun H locs hP hD hS => ?_)
  have hP : va_P D vwCl (kX2 T h a u3) H := by rw [eu3]; exact hP
  have hD : va_D (va_A (kX2 T h a u) s.heap.size) (kX2 T h a u3) := by rw [eu3]; exact hD
  have e9 := Option.some.inj hf
  exact retMv hx hb hr hlocks hP hD hS (congrArg (fun z => (kX2 T h a z : va_W)) e9) dX2_leadHere_24
def fX2_look  (u : St) (uw : St) (p2 : Int32) : Option (St) := gd 0 8 <| lett (st u 8 (ix 0) p2) fun u1 => gd p2 16 <| gd 1 8 <| lett (st u1 8 (ix 1) (uw 0 (ix p2))) fun u2 => gd p2 16 <| gd 2 8 <| lett (st u2 8 (ix 2) (uw 1 (ix p2))) fun u3 => gd 3 8 <| lett (st u3 8 (ix 3) ((jshr (uw 5 0) p2) &&& 1)) fun u4 => lett (fJ6_bitCount_0f7a4 (uw 5 0)) fun z5 => gd 4 8 <| lett (st u4 8 (ix 4) z5) fun u6 => gd p2 16 <| gd 5 8 <| lett (st u6 8 (ix 5) (uw 2 (ix p2))) fun u7 => gd p2 16 <| gd 6 8 <| lett (st u7 8 (ix 6) (uw 3 (ix p2))) fun u8 => gd 7 8 <| lett (st u8 8 (ix 7) (jrem (uw 6 0) 100)) fun u9 => some u9
set_option maxHeartbeats 4000000 in
set_option maxRecDepth 100000 in
theorem mX2_look (l : Launch) (D : va_G) (T : Ty3) (h : Nat) (a : Nat → Nat) (u : St) (hw : Nat) (aw : Nat → Nat) (uw : St) (sz : Nat) (p2 : Int32) (res : St) (hf : fX2_look u uw p2 = some res) : Met l yX2_look wsX2_look ({ frames := 1, cells := 0, slots := 0, locals := 20 }) (PcM D T (kX2 T h a u ++ kX9 T hw aw uw) sz [.ref h, .ref hw, .int p2]) (QMv D (kX2 T h a u ++ kX9 T hw aw uw) sz (kX2 T h a res ++ kX9 T hw aw uw)) 0 0 (va_A (kX2 T h a u ++ kX9 T hw aw uw) sz) := by
  refine Met.ofW (cc := cX2_look) (maxL := 3) (ret := none) (by decide) rfl ?_
  intro p e s m args below meth c s₁ B hml hv
  obtain ⟨rfl, hsz, hP, hK, hD0⟩ := hv
  have hx := B.exec
  have hb := B.bytes
  have hr := B.returns
  have hts := atoms_spec (ws := wsX2_look) B.pre
  have hown : s.vm.findClass RX2 = some m.cls := findClass_of_methodNamed B.named
  have hlocks := B.notSynchronized
  subst hsz
  have hD := hD0.self (sz := s.heap.size)
  have hA : ∀ q : Nat, s.heap.size ≤ q → va_A (kX2 T h a u ++ kX9 T hw aw uw) s.heap.size q := fun q h => Or.inr h
  have hS : va_S (va_A (kX2 T h a u ++ kX9 T hw aw uw) s.heap.size) s.heap s.heap [] := va_S.rf
  have hinX2 : ∀ w ∈ u_ws RX2 TX2 10, w ∈ wsX2_look := fun w h => List.mem_cons_of_mem _ (List.mem_append_left _ (List.mem_append_right _ h))
  have hinX9 : ∀ w ∈ u_ws RX9 TX9 8, w ∈ wsX2_look := fun w h => List.mem_cons_of_mem _ (List.mem_append_right _ h)
  have hl := lv_entry ([.ref h, .ref hw, .int p2]) (n := 3) (Nat.le_of_ble_eq_true rfl)
  rw [lg_entry_eq]
  generalize (lg_sl ([.ref h, .ref hw, .int p2]) ++ List.replicate (3 - (lg_sl ([.ref h, .ref hw, .int p2])).length) Slot.unset).toArray = ls at hl ⊢
  have hl : lv_has ls 3 [(0, .ref h), (1, .ref hw), (2, .int p2)] := hl
  unfold fX2_look at hf
  refine lv_aload_n hx hb dX2_look_0 rfl (lv_at hl 0 rfl) ?_
  refine va_get (D := D) (ci := 2) (v := .ref (a 8)) (C := RX2) (T := TX2) (N := 10) hx hb hts hinX2 hown hK.1 hP 0 rfl rfl 8 (by decide) (hts (.fieldLink RX2 37 "RopeScale$Law" "facts" "[I") (List.mem_of_getElem? (i := 1) rfl)) (fun _ h9 => h9) rfl dX2_look_1 ?_
  refine lv_iconst (v := 0) hx hb dX2_look_4 (by decide) ?_
  refine lv_iload_n hx hb dX2_look_5 rfl (lv_at hl 2 rfl) ?_
  obtain ⟨h21, hf⟩ := gd_e hf
  obtain ⟨u1, eu1, hf⟩ := lett_e hf
  refine va_iast hx hb hK.1 hP hD hS 7 0 rfl rfl h21 dX2_look_6 (fun H locs hP hD hS => ?_)
  have hP : va_P D vwCl (kX2 T h a u1 ++ kX9 T hw aw uw) H := by rw [eu1]; exact hP
  have hD : va_D (va_A (kX2 T h a u ++ kX9 T hw aw uw) s.heap.size) (kX2 T h a u1 ++ kX9 T hw aw uw) := by rw [eu1]; exact hD
  refine lv_aload_n hx hb dX2_look_7 rfl (lv_at hl 0 rfl) ?_
  refine va_get (D := D) (ci := 2) (v := .ref (a 8)) (C := RX2) (T := TX2) (N := 10) hx hb hts hinX2 hown hK.1 hP 0 rfl rfl 8 (by decide) (hts (.fieldLink RX2 37 "RopeScale$Law" "facts" "[I") (List.mem_of_getElem? (i := 1) rfl)) (fun _ h9 => h9) rfl dX2_look_8 ?_
  refine lv_iconst (v := 1) hx hb dX2_look_11 (by decide) ?_
  refine lv_aload_n hx hb dX2_look_12 rfl (lv_at hl 1 rfl) ?_
  refine va_get (D := D) (ci := 9) (v := .ref (aw 0)) (C := RX9) (T := TX9) (N := 8) hx hb hts hinX9 hown hK.1 hP 9 rfl rfl 0 (by decide) (hts (.fieldLink RX2 47 "RopeScale$Walk" "weight" "[I") (List.mem_of_getElem? (i := 2) rfl)) (fun _ h9 => h9) rfl dX2_look_13 ?_
  refine lv_iload_n hx hb dX2_look_16 rfl (lv_at hl 2 rfl) ?_
  obtain ⟨h20, hf⟩ := gd_e hf
  refine va_iald hx hb hK.1 hP 10 0 rfl rfl h20 dX2_look_17 ?_
  obtain ⟨h19, hf⟩ := gd_e hf
  obtain ⟨u2, eu2, hf⟩ := lett_e hf
  refine va_iast hx hb hK.1 hP hD hS 7 0 rfl rfl h19 dX2_look_18 (fun H locs hP hD hS => ?_)
  have hP : va_P D vwCl (kX2 T h a u2 ++ kX9 T hw aw uw) H := by rw [eu2]; exact hP
  have hD : va_D (va_A (kX2 T h a u ++ kX9 T hw aw uw) s.heap.size) (kX2 T h a u2 ++ kX9 T hw aw uw) := by rw [eu2]; exact hD
  refine lv_aload_n hx hb dX2_look_19 rfl (lv_at hl 0 rfl) ?_
  refine va_get (D := D) (ci := 2) (v := .ref (a 8)) (C := RX2) (T := TX2) (N := 10) hx hb hts hinX2 hown hK.1 hP 0 rfl rfl 8 (by decide) (hts (.fieldLink RX2 37 "RopeScale$Law" "facts" "[I") (List.mem_of_getElem? (i := 1) rfl)) (fun _ h9 => h9) rfl dX2_look_20 ?_
  refine lv_iconst (v := 2) hx hb dX2_look_23 (by decide) ?_
  refine lv_aload_n hx hb dX2_look_24 rfl (lv_at hl 1 rfl) ?_
  refine va_get (D := D) (ci := 9) (v := .ref (aw 1)) (C := RX9) (T := TX9) (N := 8) hx hb hts hinX9 hown hK.1 hP 9 rfl rfl 1 (by decide) (hts (.fieldLink RX2 52 "RopeScale$Walk" "claim" "[I") (List.mem_of_getElem? (i := 3) rfl)) (fun _ h9 => h9) rfl dX2_look_25 ?_
  refine lv_iload_n hx hb dX2_look_28 rfl (lv_at hl 2 rfl) ?_
  obtain ⟨h18, hf⟩ := gd_e hf
  refine va_iald hx hb hK.1 hP 11 0 rfl rfl h18 dX2_look_29 ?_
  obtain ⟨h17, hf⟩ := gd_e hf
  obtain ⟨u3, eu3, hf⟩ := lett_e hf
  refine va_iast hx hb hK.1 hP hD hS 7 0 rfl rfl h17 dX2_look_30 (fun H locs hP hD hS => ?_)
  have hP : va_P D vwCl (kX2 T h a u3 ++ kX9 T hw aw uw) H := by rw [eu3]; exact hP
  have hD : va_D (va_A (kX2 T h a u ++ kX9 T hw aw uw) s.heap.size) (kX2 T h a u3 ++ kX9 T hw aw uw) := by rw [eu3]; exact hD
  refine lv_aload_n hx hb dX2_look_31 rfl (lv_at hl 0 rfl) ?_
  refine va_get (D := D) (ci := 2) (v := .ref (a 8)) (C := RX2) (T := TX2) (N := 10) hx hb hts hinX2 hown hK.1 hP 0 rfl rfl 8 (by decide) (hts (.fieldLink RX2 37 "RopeScale$Law" "facts" "[I") (List.mem_of_getElem? (i := 1) rfl)) (fun _ h9 => h9) rfl dX2_look_32 ?_
  refine lv_iconst (v := 3) hx hb dX2_look_35 (by decide) ?_
  refine lv_aload_n hx hb dX2_look_36 rfl (lv_at hl 1 rfl) ?_
  refine va_get (D := D) (ci := 9) (v := .int (uw 5 0)) (C := RX9) (T := TX9) (N := 8) hx hb hts hinX9 hown hK.1 hP 9 rfl rfl 5 (by decide) (hts (.fieldLink RX2 55 "RopeScale$Walk" "over" "I") (List.mem_of_getElem? (i := 4) rfl)) (fun _ h9 => h9) rfl dX2_look_37 ?_
  refine lv_iload_n hx hb dX2_look_40 rfl (lv_at hl 2 rfl) ?_
  refine lv_ishr hx hb dX2_look_41 ?_
  refine lv_iconst (v := 1) hx hb dX2_look_42 (by decide) ?_
  refine lv_iand hx hb dX2_look_43 ?_
  obtain ⟨h16, hf⟩ := gd_e hf
  obtain ⟨u4, eu4, hf⟩ := lett_e hf
  refine va_iast hx hb hK.1 hP hD hS 7 0 rfl rfl h16 dX2_look_44 (fun H locs hP hD hS => ?_)
  have hP : va_P D vwCl (kX2 T h a u4 ++ kX9 T hw aw uw) H := by rw [eu4]; exact hP
  have hD : va_D (va_A (kX2 T h a u ++ kX9 T hw aw uw) s.heap.size) (kX2 T h a u4 ++ kX9 T hw aw uw) := by rw [eu4]; exact hD
  refine lv_aload_n hx hb dX2_look_45 rfl (lv_at hl 0 rfl) ?_
  refine va_get (D := D) (ci := 2) (v := .ref (a 8)) (C := RX2) (T := TX2) (N := 10) hx hb hts hinX2 hown hK.1 hP 0 rfl rfl 8 (by decide) (hts (.fieldLink RX2 37 "RopeScale$Law" "facts" "[I") (List.mem_of_getElem? (i := 1) rfl)) (fun _ h9 => h9) rfl dX2_look_46 ?_
  refine lv_iconst (v := 4) hx hb dX2_look_49 (by decide) ?_
  refine lv_aload_n hx hb dX2_look_50 rfl (lv_at hl 1 rfl) ?_
  refine va_get (D := D) (ci := 9) (v := .int (uw 5 0)) (C := RX9) (T := TX9) (N := 8) hx hb hts hinX9 hown hK.1 hP 9 rfl rfl 5 (by decide) (hts (.fieldLink RX2 55 "RopeScale$Walk" "over" "I") (List.mem_of_getElem? (i := 4) rfl)) (fun _ h9 => h9) rfl dX2_look_51 ?_
  obtain ⟨z5, hz5, hf⟩ := lett_e hf
  refine cSR (As := [.int (uw 5 0)]) (rest := [.int 4, .ref (a 8)]) ⟨hx, hb, hml, hown, hts⟩ (mJ6_bitCount_0f7a4 l D T (uw 5 0) z5 hz5.symm) (va_cwS 1 hts gX2_look_J6_bitCount_0f7a4 rfl rfl rfl (by decide +kernel) ⟨Nat.le_of_ble_eq_true rfl, Nat.le_of_ble_eq_true rfl⟩) P0 hK rfl hl.1 rfl (Nat.le_of_ble_eq_true rfl) dX2_look_54 ⟨Nat.le_of_ble_eq_true rfl, Nat.le_of_ble_eq_true rfl⟩ hP hS (fun H locs hP hS => ?_)
  obtain ⟨h15, hf⟩ := gd_e hf
  obtain ⟨u6, eu6, hf⟩ := lett_e hf
  refine va_iast hx hb hK.1 hP hD hS 7 0 rfl rfl h15 dX2_look_57 (fun H locs hP hD hS => ?_)
  have hP : va_P D vwCl (kX2 T h a u6 ++ kX9 T hw aw uw) H := by rw [eu6]; exact hP
  have hD : va_D (va_A (kX2 T h a u ++ kX9 T hw aw uw) s.heap.size) (kX2 T h a u6 ++ kX9 T hw aw uw) := by rw [eu6]; exact hD
  refine lv_aload_n hx hb dX2_look_58 rfl (lv_at hl 0 rfl) ?_
  refine va_get (D := D) (ci := 2) (v := .ref (a 8)) (C := RX2) (T := TX2) (N := 10) hx hb hts hinX2 hown hK.1 hP 0 rfl rfl 8 (by decide) (hts (.fieldLink RX2 37 "RopeScale$Law" "facts" "[I") (List.mem_of_getElem? (i := 1) rfl)) (fun _ h9 => h9) rfl dX2_look_59 ?_
  refine lv_iconst (v := 5) hx hb dX2_look_62 (by decide) ?_
  refine lv_aload_n hx hb dX2_look_63 rfl (lv_at hl 1 rfl) ?_
  refine va_get (D := D) (ci := 9) (v := .ref (aw 2)) (C := RX9) (T := TX9) (N := 8) hx hb hts hinX9 hown hK.1 hP 9 rfl rfl 2 (by decide) (hts (.fieldLink RX2 64 "RopeScale$Walk" "baths" "[I") (List.mem_of_getElem? (i := 5) rfl)) (fun _ h9 => h9) rfl dX2_look_64 ?_
  refine lv_iload_n hx hb dX2_look_67 rfl (lv_at hl 2 rfl) ?_
  obtain ⟨h14, hf⟩ := gd_e hf
  refine va_iald hx hb hK.1 hP 12 0 rfl rfl h14 dX2_look_68 ?_
  obtain ⟨h13, hf⟩ := gd_e hf
  obtain ⟨u7, eu7, hf⟩ := lett_e hf
  refine va_iast hx hb hK.1 hP hD hS 7 0 rfl rfl h13 dX2_look_69 (fun H locs hP hD hS => ?_)
  have hP : va_P D vwCl (kX2 T h a u7 ++ kX9 T hw aw uw) H := by rw [eu7]; exact hP
  have hD : va_D (va_A (kX2 T h a u ++ kX9 T hw aw uw) s.heap.size) (kX2 T h a u7 ++ kX9 T hw aw uw) := by rw [eu7]; exact hD
  refine lv_aload_n hx hb dX2_look_70 rfl (lv_at hl 0 rfl) ?_
  refine va_get (D := D) (ci := 2) (v := .ref (a 8)) (C := RX2) (T := TX2) (N := 10) hx hb hts hinX2 hown hK.1 hP 0 rfl rfl 8 (by decide) (hts (.fieldLink RX2 37 "RopeScale$Law" "facts" "[I") (List.mem_of_getElem? (i := 1) rfl)) (fun _ h9 => h9) rfl dX2_look_71 ?_
  refine lv_bipush (v := 6) hx hb dX2_look_74 (by decide) ?_
  refine lv_aload_n hx hb dX2_look_76 rfl (lv_at hl 1 rfl) ?_
  refine va_get (D := D) (ci := 9) (v := .ref (aw 3)) (C := RX9) (T := TX9) (N := 8) hx hb hts hinX9 hown hK.1 hP 9 rfl rfl 3 (by decide) (hts (.fieldLink RX2 67 "RopeScale$Walk" "hurt" "[I") (List.mem_of_getElem? (i := 6) rfl)) (fun _ h9 => h9) rfl dX2_look_77 ?_
  refine lv_iload_n hx hb dX2_look_80 rfl (lv_at hl 2 rfl) ?_
  obtain ⟨h12, hf⟩ := gd_e hf
  refine va_iald hx hb hK.1 hP 13 0 rfl rfl h12 dX2_look_81 ?_
  obtain ⟨h11, hf⟩ := gd_e hf
  obtain ⟨u8, eu8, hf⟩ := lett_e hf
  refine va_iast hx hb hK.1 hP hD hS 7 0 rfl rfl h11 dX2_look_82 (fun H locs hP hD hS => ?_)
  have hP : va_P D vwCl (kX2 T h a u8 ++ kX9 T hw aw uw) H := by rw [eu8]; exact hP
  have hD : va_D (va_A (kX2 T h a u ++ kX9 T hw aw uw) s.heap.size) (kX2 T h a u8 ++ kX9 T hw aw uw) := by rw [eu8]; exact hD
  refine lv_aload_n hx hb dX2_look_83 rfl (lv_at hl 0 rfl) ?_
  refine va_get (D := D) (ci := 2) (v := .ref (a 8)) (C := RX2) (T := TX2) (N := 10) hx hb hts hinX2 hown hK.1 hP 0 rfl rfl 8 (by decide) (hts (.fieldLink RX2 37 "RopeScale$Law" "facts" "[I") (List.mem_of_getElem? (i := 1) rfl)) (fun _ h9 => h9) rfl dX2_look_84 ?_
  refine lv_bipush (v := 7) hx hb dX2_look_87 (by decide) ?_
  refine lv_aload_n hx hb dX2_look_89 rfl (lv_at hl 1 rfl) ?_
  refine va_get (D := D) (ci := 9) (v := .int (uw 6 0)) (C := RX9) (T := TX9) (N := 8) hx hb hts hinX9 hown hK.1 hP 9 rfl rfl 6 (by decide) (hts (.fieldLink RX2 70 "RopeScale$Walk" "hour" "I") (List.mem_of_getElem? (i := 7) rfl)) (fun _ h9 => h9) rfl dX2_look_90 ?_
  refine lv_bipush (v := 100) hx hb dX2_look_93 (by decide) ?_
  refine lv_irem hx hb dX2_look_95 (by decide) ?_
  obtain ⟨h10, hf⟩ := gd_e hf
  obtain ⟨u9, eu9, hf⟩ := lett_e hf
  refine va_iast hx hb hK.1 hP hD hS 7 0 rfl rfl h10 dX2_look_96 (fun H locs hP hD hS => ?_)
  have hP : va_P D vwCl (kX2 T h a u9 ++ kX9 T hw aw uw) H := by rw [eu9]; exact hP
  have hD : va_D (va_A (kX2 T h a u ++ kX9 T hw aw uw) s.heap.size) (kX2 T h a u9 ++ kX9 T hw aw uw) := by rw [eu9]; exact hD
  have e9 := Option.some.inj hf
  exact retMv hx hb hr hlocks hP hD hS (congrArg (fun z => (kX2 T h a z ++ kX9 T hw aw uw : va_W)) e9) dX2_look_97
def fX2_setWeight  (u : St) (p1 : Int32) : Option (St) := gd 1 8 <| lett (st u 8 (ix 1) p1) fun u1 => some u1
set_option maxHeartbeats 4000000 in
set_option maxRecDepth 100000 in
theorem mX2_setWeight (l : Launch) (D : va_G) (T : Ty3) (h : Nat) (a : Nat → Nat) (u : St) (sz : Nat) (p1 : Int32) (res : St) (hf : fX2_setWeight u p1 = some res) : Met l yX2_setWeight wsX2_setWeight ({ frames := 0, cells := 0, slots := 0, locals := 0 }) (PcM D T (kX2 T h a u) sz [.ref h, .int p1]) (QMv D (kX2 T h a u) sz (kX2 T h a res)) 0 0 (va_A (kX2 T h a u) sz) := by
  refine Met.ofW (cc := cX2_setWeight) (maxL := 2) (ret := none) (by decide) rfl ?_
  intro p e s m args below meth c s₁ B hml hv
  obtain ⟨rfl, hsz, hP, hK, hD0⟩ := hv
  have hx := B.exec
  have hb := B.bytes
  have hr := B.returns
  have hts := atoms_spec (ws := wsX2_setWeight) B.pre
  have hown : s.vm.findClass RX2 = some m.cls := findClass_of_methodNamed B.named
  have hlocks := B.notSynchronized
  subst hsz
  have hD := hD0.self (sz := s.heap.size)
  have hA : ∀ q : Nat, s.heap.size ≤ q → va_A (kX2 T h a u) s.heap.size q := fun q h => Or.inr h
  have hS : va_S (va_A (kX2 T h a u) s.heap.size) s.heap s.heap [] := va_S.rf
  have hinX2 : ∀ w ∈ u_ws RX2 TX2 10, w ∈ wsX2_setWeight := fun w h => List.mem_cons_of_mem _ (List.mem_append_right _ h)
  have hl := lv_entry ([.ref h, .int p1]) (n := 2) (Nat.le_of_ble_eq_true rfl)
  rw [lg_entry_eq]
  generalize (lg_sl ([.ref h, .int p1]) ++ List.replicate (2 - (lg_sl ([.ref h, .int p1])).length) Slot.unset).toArray = ls at hl ⊢
  have hl : lv_has ls 2 [(0, .ref h), (1, .int p1)] := hl
  unfold fX2_setWeight at hf
  refine lv_aload_n hx hb dX2_setWeight_0 rfl (lv_at hl 0 rfl) ?_
  refine va_get (D := D) (ci := 2) (v := .ref (a 8)) (C := RX2) (T := TX2) (N := 10) hx hb hts hinX2 hown hK.1 hP 0 rfl rfl 8 (by decide) (hts (.fieldLink RX2 37 "RopeScale$Law" "facts" "[I") (List.mem_of_getElem? (i := 1) rfl)) (fun _ h9 => h9) rfl dX2_setWeight_1 ?_
  refine lv_iconst (v := 1) hx hb dX2_setWeight_4 (by decide) ?_
  refine lv_iload_n hx hb dX2_setWeight_5 rfl (lv_at hl 1 rfl) ?_
  obtain ⟨h2, hf⟩ := gd_e hf
  obtain ⟨u1, eu1, hf⟩ := lett_e hf
  refine va_iast hx hb hK.1 hP hD hS 7 0 rfl rfl h2 dX2_setWeight_6 (fun H locs hP hD hS => ?_)
  have hP : va_P D vwCl (kX2 T h a u1) H := by rw [eu1]; exact hP
  have hD : va_D (va_A (kX2 T h a u) s.heap.size) (kX2 T h a u1) := by rw [eu1]; exact hD
  have e9 := Option.some.inj hf
  exact retMv hx hb hr hlocks hP hD hS (congrArg (fun z => (kX2 T h a z : va_W)) e9) dX2_setWeight_7
def fX2_joined   (p0 : Int32) (p1 : Int32) (p2 : Int32) : Option (Int32) := if p0 = 37 then if p2 = 0 then some 0 else dz p2 <| some (jrem p1 p2) else if p0 = 42 then some (p1 * p2) else if p0 = 43 then some (p1 + p2) else if p0 = 45 then some (p1 - p2) else if p0 = 47 then if p2 = 0 then some 0 else dz p2 <| some (p1 / p2) else if p0 = 60 then if p2 ≤ p1 then some 0 else some 1 else if p0 = 62 then if p1 ≤ p2 then some 0 else some 1 else if p1 = p2 then some 1 else some 0
set_option maxHeartbeats 4000000 in
set_option maxRecDepth 100000 in
theorem mX2_joined (l : Launch) (D : va_G) (T : Ty3)  (p0 : Int32) (p1 : Int32) (p2 : Int32) (res : Int32) (hf : fX2_joined p0 p1 p2 = some res) : Met l yX2_joined wsX2_joined ({ frames := 0, cells := 0, slots := 0, locals := 0 }) (PcR D T ([]) [.int p0, .int p1, .int p2]) (QR res) 0 0 noA := by
  refine Met.ofW (cc := cX2_joined) (maxL := 3) (ret := (some .int)) (by decide) rfl ?_
  intro p e s m args below meth c s₁ B hml hv
  obtain ⟨rfl, hP, hK⟩ := hv
  have hx := B.exec
  have hb := B.bytes
  have hr := B.returns
  have hts := atoms_spec (ws := wsX2_joined) B.pre
  have hown : s.vm.findClass RX2 = some m.cls := findClass_of_methodNamed B.named
  have hlocks := B.notSynchronized
  have hS : va_S noA s.heap s.heap [] := va_S.rf
  have hl := lv_entry ([.int p0, .int p1, .int p2]) (n := 3) (Nat.le_of_ble_eq_true rfl)
  rw [lg_entry_eq]
  generalize (lg_sl ([.int p0, .int p1, .int p2]) ++ List.replicate (3 - (lg_sl ([.int p0, .int p1, .int p2])).length) Slot.unset).toArray = ls at hl ⊢
  have hl : lv_has ls 3 [(0, .int p0), (1, .int p1), (2, .int p2)] := hl
  unfold fX2_joined at hf
  refine lv_iload_n hx hb dX2_joined_0 rfl (lv_at hl 0 rfl) ?_
  by_cases c1 : p0 = 37
  · replace hf := ifp c1 hf
    refine lv_lookup (off := 91) (tgt := 92) hx hb dX2_joined_1 (by decide) (by rw [c1]; rfl) (by decide) ?_
    refine lv_iload_n hx hb dX2_joined_92 rfl (lv_at hl 2 rfl) ?_
    refine lv_if_ne (tgt := 100) hx hb dX2_joined_93 (by decide) (fun c2 => ?_) (fun c2 => ?_)
    · replace hf := ifn c2 hf
      refine lv_iload_n hx hb dX2_joined_100 rfl (lv_at hl 1 rfl) ?_
      refine lv_iload_n hx hb dX2_joined_101 rfl (lv_at hl 2 rfl) ?_
      obtain ⟨h3, hf⟩ := dz_e hf
      refine lv_irem hx hb dX2_joined_102 h3 ?_
      exact retR hx hb hr hlocks hS (Option.some.inj hf) dX2_joined_103
    replace hf := ifp c2 hf
    refine lv_iconst (v := 0) hx hb dX2_joined_96 (by decide) ?_
    refine lv_goto (tgt := 103) hx hb dX2_joined_97 (by decide) ?_
    exact retR hx hb hr hlocks hS (Option.some.inj hf) dX2_joined_103
  replace hf := ifn c1 hf
  by_cases c4 : p0 = 42
  · replace hf := ifp c4 hf
    refine lv_lookup (off := 75) (tgt := 76) hx hb dX2_joined_1 (by decide) (by rw [c4]; rfl) (by decide) ?_
    refine lv_iload_n hx hb dX2_joined_76 rfl (lv_at hl 1 rfl) ?_
    refine lv_iload_n hx hb dX2_joined_77 rfl (lv_at hl 2 rfl) ?_
    refine lv_imul hx hb dX2_joined_78 ?_
    exact retR hx hb hr hlocks hS (Option.some.inj hf) dX2_joined_79
  replace hf := ifn c4 hf
  by_cases c5 : p0 = 43
  · replace hf := ifp c5 hf
    refine lv_lookup (off := 67) (tgt := 68) hx hb dX2_joined_1 (by decide) (by rw [c5]; rfl) (by decide) ?_
    refine lv_iload_n hx hb dX2_joined_68 rfl (lv_at hl 1 rfl) ?_
    refine lv_iload_n hx hb dX2_joined_69 rfl (lv_at hl 2 rfl) ?_
    refine lv_iadd hx hb dX2_joined_70 ?_
    exact retR hx hb hr hlocks hS (Option.some.inj hf) dX2_joined_71
  replace hf := ifn c5 hf
  by_cases c6 : p0 = 45
  · replace hf := ifp c6 hf
    refine lv_lookup (off := 71) (tgt := 72) hx hb dX2_joined_1 (by decide) (by rw [c6]; rfl) (by decide) ?_
    refine lv_iload_n hx hb dX2_joined_72 rfl (lv_at hl 1 rfl) ?_
    refine lv_iload_n hx hb dX2_joined_73 rfl (lv_at hl 2 rfl) ?_
    refine lv_isub hx hb dX2_joined_74 ?_
    exact retR hx hb hr hlocks hS (Option.some.inj hf) dX2_joined_75
  replace hf := ifn c6 hf
  by_cases c7 : p0 = 47
  · replace hf := ifp c7 hf
    refine lv_lookup (off := 79) (tgt := 80) hx hb dX2_joined_1 (by decide) (by rw [c7]; rfl) (by decide) ?_
    refine lv_iload_n hx hb dX2_joined_80 rfl (lv_at hl 2 rfl) ?_
    refine lv_if_ne (tgt := 88) hx hb dX2_joined_81 (by decide) (fun c8 => ?_) (fun c8 => ?_)
    · replace hf := ifn c8 hf
      refine lv_iload_n hx hb dX2_joined_88 rfl (lv_at hl 1 rfl) ?_
      refine lv_iload_n hx hb dX2_joined_89 rfl (lv_at hl 2 rfl) ?_
      obtain ⟨h9, hf⟩ := dz_e hf
      refine lv_idiv hx hb dX2_joined_90 h9 ?_
      exact retR hx hb hr hlocks hS (Option.some.inj hf) dX2_joined_91
    replace hf := ifp c8 hf
    refine lv_iconst (v := 0) hx hb dX2_joined_84 (by decide) ?_
    refine lv_goto (tgt := 91) hx hb dX2_joined_85 (by decide) ?_
    exact retR hx hb hr hlocks hS (Option.some.inj hf) dX2_joined_91
  replace hf := ifn c7 hf
  by_cases c10 : p0 = 60
  · replace hf := ifp c10 hf
    refine lv_lookup (off := 103) (tgt := 104) hx hb dX2_joined_1 (by decide) (by rw [c10]; rfl) (by decide) ?_
    refine lv_iload_n hx hb dX2_joined_104 rfl (lv_at hl 1 rfl) ?_
    refine lv_iload_n hx hb dX2_joined_105 rfl (lv_at hl 2 rfl) ?_
    refine lv_icmp_ge (tgt := 113) hx hb dX2_joined_106 (by decide) (fun c11 => ?_) (fun c11 => ?_)
    · replace hf := ifp c11 hf
      refine lv_iconst (v := 0) hx hb dX2_joined_113 (by decide) ?_
      exact retR hx hb hr hlocks hS (Option.some.inj hf) dX2_joined_114
    replace hf := ifn c11 hf
    refine lv_iconst (v := 1) hx hb dX2_joined_109 (by decide) ?_
    refine lv_goto (tgt := 114) hx hb dX2_joined_110 (by decide) ?_
    exact retR hx hb hr hlocks hS (Option.some.inj hf) dX2_joined_114
  replace hf := ifn c10 hf
  by_cases c12 : p0 = 62
  · replace hf := ifp c12 hf
    refine lv_lookup (off := 114) (tgt := 115) hx hb dX2_joined_1 (by decide) (by rw [c12]; rfl) (by decide) ?_
    refine lv_iload_n hx hb dX2_joined_115 rfl (lv_at hl 1 rfl) ?_
    refine lv_iload_n hx hb dX2_joined_116 rfl (lv_at hl 2 rfl) ?_
    refine lv_icmp_le (tgt := 124) hx hb dX2_joined_117 (by decide) (fun c13 => ?_) (fun c13 => ?_)
    · replace hf := ifp c13 hf
      refine lv_iconst (v := 0) hx hb dX2_joined_124 (by decide) ?_
      exact retR hx hb hr hlocks hS (Option.some.inj hf) dX2_joined_125
    replace hf := ifn c13 hf
    refine lv_iconst (v := 1) hx hb dX2_joined_120 (by decide) ?_
    refine lv_goto (tgt := 125) hx hb dX2_joined_121 (by decide) ?_
    exact retR hx hb hr hlocks hS (Option.some.inj hf) dX2_joined_125
  replace hf := ifn c12 hf
  refine lv_lookup (off := 125) (tgt := 126) hx hb dX2_joined_1 (by decide) (by show Op.lookupswitch.offset [(37, 91), (42, 75), (43, 67), (45, 71), (47, 79), (60, 103), (62, 114)] 125 (p0).toInt = _; rw [lv_osw c1 (by decide), lv_osw c4 (by decide), lv_osw c5 (by decide), lv_osw c6 (by decide), lv_osw c7 (by decide), lv_osw c10 (by decide), lv_osw c12 (by decide)]; rfl) (by decide) ?_
  refine lv_iload_n hx hb dX2_joined_126 rfl (lv_at hl 1 rfl) ?_
  refine lv_iload_n hx hb dX2_joined_127 rfl (lv_at hl 2 rfl) ?_
  refine lv_icmp_ne (tgt := 135) hx hb dX2_joined_128 (by decide) (fun c14 => ?_) (fun c14 => ?_)
  · replace hf := ifn c14 hf
    refine lv_iconst (v := 0) hx hb dX2_joined_135 (by decide) ?_
    exact retR hx hb hr hlocks hS (Option.some.inj hf) dX2_joined_136
  replace hf := ifp c14 hf
  refine lv_iconst (v := 1) hx hb dX2_joined_131 (by decide) ?_
  refine lv_goto (tgt := 136) hx hb dX2_joined_132 (by decide) ?_
  exact retR hx hb hr hlocks hS (Option.some.inj hf) dX2_joined_136
def fX2_reckon_J73  (lp5 : St → Int32 → Int32 → Int32 → Option (Int32 × St)) (v : St) (x2 : Int32) (x3 : Int32) (x4 : Int32) (y0 : Int32) (y1 : Int32) : Option (Int32 × St) := gd y1 32 <| lett (st v 9 (ix y1) y0) fun u1 => lett (x4 + 1) fun t2 => lp5 u1 x2 x3 t2
def fX2_reckon_J40  (lp5 : St → Int32 → Int32 → Int32 → Option (Int32 × St)) (v : St) (x2 : Int32) (x3 : Int32) (x4 : Int32) (x5 : Int32) (x6 : Int32) : Option (Int32 × St) := lett (x3 + 1) fun t4 => if t4 < 32 then if x5 = 0 then fX2_reckon_J73 lp5 v x2 t4 x4 x6 t4 else gd x6 8 <| fX2_reckon_J73 lp5 v x2 t4 x4 (v 8 (ix x6)) t4 else some (0, v)
def fX2_reckon_J147  (lp5 : St → Int32 → Int32 → Int32 → Option (Int32 × St)) (v : St) (x2 : Int32) (x3 : Int32) (x4 : Int32) (x6 : Int32) (y0 : Int32) (y1 : Int32) : Option (Int32 × St) := if y1 = y0 then lett (mx x4 (x6 - 1)) fun t11 => lett (t11 + 1) fun t12 => lp5 v x2 x3 t12 else lett (x3 + (-1)) fun t9 => lett (x4 + 1) fun t10 => lp5 v x2 t9 t10
def fX2_reckon_J135  (lp5 : St → Int32 → Int32 → Int32 → Option (Int32 × St)) (v : St) (x2 : Int32) (x3 : Int32) (x4 : Int32) (x5 : Int32) (x6 : Int32) (y0 : Int32) : Option (Int32 × St) := if x5 = 124 then fX2_reckon_J147 lp5 v x2 x3 x4 x6 1 y0 else fX2_reckon_J147 lp5 v x2 x3 x4 x6 0 y0
def fX2_reckon_J121  (lp5 : St → Int32 → Int32 → Int32 → Option (Int32 × St)) (v : St) (x2 : Int32) (x3 : Int32) (x4 : Int32) (x5 : Int32) (x6 : Int32) : Option (Int32 × St) := gd x3 32 <| if (v 9 (ix x3)) = 0 then fX2_reckon_J135 lp5 v x2 x3 x4 x5 x6 0 else fX2_reckon_J135 lp5 v x2 x3 x4 x5 x6 1
def fX2_reckon_J200  (lp5 : St → Int32 → Int32 → Int32 → Option (Int32 × St)) (v : St) (x2 : Int32) (x3 : Int32) (x4 : Int32) (x5 : Int32) : Option (Int32 × St) := lett (x3 + (-1)) fun t16 => gd t16 32 <| gd (t16 + 1) 32 <| (fX2_joined x5 (v 9 (ix t16)) (v 9 (ix (t16 + 1)))).bind fun z17 => gd t16 32 <| lett (st v 9 (ix t16) z17) fun u18 => lett (x4 + 1) fun t19 => lp5 u18 x2 t16 t19
def bX2_reckon_L5   (lp5 : St → Int32 → Int32 → Int32 → Option (Int32 × St)) (v : St) (x2 : Int32) (x3 : Int32) (x4 : Int32) : Option (Int32 × St) := if x2 ≤ x4 then if x3 = 0 then gd 0 32 <| some (v 9 (ix 0), v) else some (0, v) else gd x4 240 <| lett (v 5 (ix x4)) fun t26 => gd x4 240 <| lett (v 6 (ix x4)) fun t27 => if t26 = 0 then fX2_reckon_J40 lp5 v x2 x3 x4 t26 t27 else if t26 = 1 then fX2_reckon_J40 lp5 v x2 x3 x4 t26 t27 else if 0 ≤ x3 then if t26 = 33 then gd x3 32 <| gd x3 32 <| lett (st v 9 (ix x3) (1 - (v 9 (ix x3)))) fun u39 => lett (x4 + 1) fun t40 => lp5 u39 x2 x3 t40 else if t26 = 38 then fX2_reckon_J121 lp5 v x2 x3 x4 t26 t27 else if t26 = 124 then fX2_reckon_J121 lp5 v x2 x3 x4 t26 t27 else if x3 < 1 then some (0, v) else gd x3 32 <| if (v 9 (ix x3)) = 0 then if t26 = 47 then some (0, v) else if t26 = 37 then some (0, v) else fX2_reckon_J200 lp5 v x2 x3 x4 t26 else fX2_reckon_J200 lp5 v x2 x3 x4 t26 else some (0, v)
def fX2_reckon_L5   : Nat → St → Int32 → Int32 → Int32 → Option (Int32 × St)
  | 0, _, _, _, _ => none
  | n + 1, v, x2, x3, x4 => bX2_reckon_L5  (fX2_reckon_L5  n) v x2 x3 x4
def fX2_reckon  (u : St) (p1 : Int32) (p2 : Int32) : Option (Int32 × St) := fX2_reckon_L5 FU u p2 (-1) p1
set_option maxHeartbeats 4000000 in
set_option maxRecDepth 100000 in
theorem mX2_reckon (l : Launch) (D : va_G) (T : Ty3) (h : Nat) (a : Nat → Nat) (u : St) (sz : Nat) (p1 : Int32) (p2 : Int32) (res : Int32 × St) (hf : fX2_reckon u p1 p2 = some res) : Met l yX2_reckon wsX2_reckon ({ frames := 1, cells := 0, slots := 0, locals := 22 }) (PcM D T (kX2 T h a u) sz [.ref h, .int p1, .int p2]) (QM D (kX2 T h a u) sz res.1 (kX2 T h a res.2)) 0 0 (va_A (kX2 T h a u) sz) := by
  refine Met.ofW (cc := cX2_reckon) (maxL := 7) (ret := (some .int)) (by decide) rfl ?_
  intro p e s m args below meth c s₁ B hml hv
  obtain ⟨rfl, hsz, hP, hK, hD0⟩ := hv
  have hx := B.exec
  have hb := B.bytes
  have hr := B.returns
  have hts := atoms_spec (ws := wsX2_reckon) B.pre
  have hown : s.vm.findClass RX2 = some m.cls := findClass_of_methodNamed B.named
  have hlocks := B.notSynchronized
  subst hsz
  have hD := hD0.self (sz := s.heap.size)
  have hA : ∀ q : Nat, s.heap.size ≤ q → va_A (kX2 T h a u) s.heap.size q := fun q h => Or.inr h
  have hS : va_S (va_A (kX2 T h a u) s.heap.size) s.heap s.heap [] := va_S.rf
  have hinX2 : ∀ w ∈ u_ws RX2 TX2 10, w ∈ wsX2_reckon := fun w h => List.mem_cons_of_mem _ (List.mem_append_right _ h)
  have hl := lv_entry ([.ref h, .int p1, .int p2]) (n := 7) (Nat.le_of_ble_eq_true rfl)
  rw [lg_entry_eq]
  generalize (lg_sl ([.ref h, .int p1, .int p2]) ++ List.replicate (7 - (lg_sl ([.ref h, .int p1, .int p2])).length) Slot.unset).toArray = ls at hl ⊢
  have hl : lv_has ls 7 [(0, .ref h), (1, .int p1), (2, .int p2)] := hl
  have L5 : ∀ (n5 : Nat), ∀ (v : St) (x2 : Int32) (x3 : Int32) (x4 : Int32) (H : Heap) (locs : List Loc) (ls : Array Slot), fX2_reckon_L5  n5 v x2 x3 x4 = some res → va_P D vwCl (kX2 T h a v) H → va_D (va_A (kX2 T h a u) s.heap.size) (kX2 T h a v) → va_S (va_A (kX2 T h a u) s.heap.size) s.heap H locs → lv_has ls 7 [(0, .ref h), (2, .int x2), (3, .int x3), (4, .int x4)] → W p l e (headSpec wsX2_reckon ({ frames := 1, cells := 0, slots := 0, locals := 22 })).room s m ([.ref h, .int p1, .int p2] : List Value).toArray below meth c H locs 0 0 (MQ below (QM D (kX2 T h a u) s.heap.size res.1 (kX2 T h a res.2)) ([.ref h, .int p1, .int p2] : List Value).toArray s 0 0 (va_A (kX2 T h a u) s.heap.size)) (F0 m 5 ls []) := by
    intro n5
    induction n5 with
    | zero => intro v x2 x3 x4 H locs ls hf; exact nns hf
    | succ n5 ih5 =>
      have J73 : ∀ (v : St) (x2 : Int32) (x3 : Int32) (x4 : Int32) (y0 : Int32) (y1 : Int32) (H : Heap) (locs : List Loc) (ls : Array Slot), fX2_reckon_J73 (fX2_reckon_L5  n5) v x2 x3 x4 y0 y1 = some res → va_P D vwCl (kX2 T h a v) H → va_D (va_A (kX2 T h a u) s.heap.size) (kX2 T h a v) → va_S (va_A (kX2 T h a u) s.heap.size) s.heap H locs → lv_has ls 7 [(0, .ref h), (2, .int x2), (3, .int x3), (4, .int x4)] → W p l e (headSpec wsX2_reckon ({ frames := 1, cells := 0, slots := 0, locals := 22 })).room s m ([.ref h, .int p1, .int p2] : List Value).toArray below meth c H locs 0 0 (MQ below (QM D (kX2 T h a u) s.heap.size res.1 (kX2 T h a res.2)) ([.ref h, .int p1, .int p2] : List Value).toArray s 0 0 (va_A (kX2 T h a u) s.heap.size)) (F0 m 73 ls [.int y0, .int y1, .ref (a 9)]) := by
        intro v x2 x3 x4 y0 y1 H locs ls hf hP hD hS hl
        unfold fX2_reckon_J73 at hf
        obtain ⟨h3, hf⟩ := gd_e hf
        obtain ⟨u1, eu1, hf⟩ := lett_e hf
        refine va_iast hx hb hK.1 hP hD hS 8 0 rfl rfl h3 dX2_reckon_73 (fun H locs hP hD hS => ?_)
        have hP : va_P D vwCl (kX2 T h a u1) H := by rw [eu1]; exact hP
        have hD : va_D (va_A (kX2 T h a u) s.heap.size) (kX2 T h a u1) := by rw [eu1]; exact hD
        refine lv_goto (tgt := 228) hx hb dX2_reckon_74 (by decide) ?_
        obtain ⟨t2, et2, hf⟩ := lett_e hf
        refine lv_iinc (v := t2) (lv' := [(4, .int t2), (0, .ref h), (2, .int x2), (3, .int x3)]) hx hb dX2_reckon_228 hl (k := 3) rfl (by rw [et2]; rfl) (by decide) rfl (fun ls hl => ?_)
        refine lv_goto (tgt := 5) hx hb dX2_reckon_231 (by decide) ?_
        exact ih5 u1 x2 x3 t2 _ _ _ hf hP hD hS (lv_sub hl [1, 2, 3, 0] rfl)
      have J40 : ∀ (v : St) (x2 : Int32) (x3 : Int32) (x4 : Int32) (x5 : Int32) (x6 : Int32) (H : Heap) (locs : List Loc) (ls : Array Slot), fX2_reckon_J40 (fX2_reckon_L5  n5) v x2 x3 x4 x5 x6 = some res → va_P D vwCl (kX2 T h a v) H → va_D (va_A (kX2 T h a u) s.heap.size) (kX2 T h a v) → va_S (va_A (kX2 T h a u) s.heap.size) s.heap H locs → lv_has ls 7 [(0, .ref h), (2, .int x2), (3, .int x3), (4, .int x4), (5, .int x5), (6, .int x6)] → W p l e (headSpec wsX2_reckon ({ frames := 1, cells := 0, slots := 0, locals := 22 })).room s m ([.ref h, .int p1, .int p2] : List Value).toArray below meth c H locs 0 0 (MQ below (QM D (kX2 T h a u) s.heap.size res.1 (kX2 T h a res.2)) ([.ref h, .int p1, .int p2] : List Value).toArray s 0 0 (va_A (kX2 T h a u) s.heap.size)) (F0 m 40 ls []) := by
        intro v x2 x3 x4 x5 x6 H locs ls hf hP hD hS hl
        unfold fX2_reckon_J40 at hf
        obtain ⟨t4, et4, hf⟩ := lett_e hf
        refine lv_iinc (v := t4) (lv' := [(3, .int t4), (0, .ref h), (2, .int x2), (4, .int x4), (5, .int x5), (6, .int x6)]) hx hb dX2_reckon_40 hl (k := 2) rfl (by rw [et4]; rfl) (by decide) rfl (fun ls hl => ?_)
        refine lv_iload_n hx hb dX2_reckon_43 rfl (lv_at hl 0 rfl) ?_
        refine lv_bipush (v := 32) hx hb dX2_reckon_44 (by decide) ?_
        refine lv_icmp_lt (tgt := 51) hx hb dX2_reckon_46 (by decide) (fun c5 => ?_) (fun c5 => ?_)
        · replace hf := ifp c5 hf
          refine lv_aload_n hx hb dX2_reckon_51 rfl (lv_at hl 1 rfl) ?_
          refine va_get (D := D) (ci := 2) (v := .ref (a 9)) (C := RX2) (T := TX2) (N := 10) hx hb hts hinX2 hown hK.1 hP 0 rfl rfl 9 (by decide) (hts (.fieldLink RX2 40 "RopeScale$Law" "stack" "[I") (List.mem_of_getElem? (i := 3) rfl)) (fun _ h9 => h9) rfl dX2_reckon_52 ?_
          refine lv_iload_n hx hb dX2_reckon_55 rfl (lv_at hl 0 rfl) ?_
          refine lv_iload hx hb dX2_reckon_56 (lv_at hl 4 rfl) ?_
          refine lv_if_ne (tgt := 66) hx hb dX2_reckon_58 (by decide) (fun c6 => ?_) (fun c6 => ?_)
          · replace hf := ifn c6 hf
            refine lv_aload_n hx hb dX2_reckon_66 rfl (lv_at hl 1 rfl) ?_
            refine va_get (D := D) (ci := 2) (v := .ref (a 8)) (C := RX2) (T := TX2) (N := 10) hx hb hts hinX2 hown hK.1 hP 0 rfl rfl 8 (by decide) (hts (.fieldLink RX2 37 "RopeScale$Law" "facts" "[I") (List.mem_of_getElem? (i := 4) rfl)) (fun _ h9 => h9) rfl dX2_reckon_67 ?_
            refine lv_iload hx hb dX2_reckon_70 (lv_at hl 5 rfl) ?_
            obtain ⟨h7, hf⟩ := gd_e hf
            refine va_iald hx hb hK.1 hP 7 0 rfl rfl h7 dX2_reckon_72 ?_
            exact J73 v x2 t4 x4 (v 8 (ix x6)) t4 _ _ _ hf hP hD hS (lv_sub hl [1, 2, 0, 3] rfl)
          replace hf := ifp c6 hf
          refine lv_iload hx hb dX2_reckon_61 (lv_at hl 5 rfl) ?_
          refine lv_goto (tgt := 73) hx hb dX2_reckon_63 (by decide) ?_
          exact J73 v x2 t4 x4 x6 t4 _ _ _ hf hP hD hS (lv_sub hl [1, 2, 0, 3] rfl)
        replace hf := ifn c5 hf
        refine lv_iconst (v := 0) hx hb dX2_reckon_49 (by decide) ?_
        have e9 := Option.some.inj hf
        exact retM hx hb hr hlocks hP hD hS (congrArg (fun z => z.1) e9) (congrArg (fun z => (kX2 T h a z.2 : va_W)) e9) dX2_reckon_50
      have J147 : ∀ (v : St) (x2 : Int32) (x3 : Int32) (x4 : Int32) (x6 : Int32) (y0 : Int32) (y1 : Int32) (H : Heap) (locs : List Loc) (ls : Array Slot), fX2_reckon_J147 (fX2_reckon_L5  n5) v x2 x3 x4 x6 y0 y1 = some res → va_P D vwCl (kX2 T h a v) H → va_D (va_A (kX2 T h a u) s.heap.size) (kX2 T h a v) → va_S (va_A (kX2 T h a u) s.heap.size) s.heap H locs → lv_has ls 7 [(0, .ref h), (2, .int x2), (3, .int x3), (4, .int x4), (6, .int x6)] → W p l e (headSpec wsX2_reckon ({ frames := 1, cells := 0, slots := 0, locals := 22 })).room s m ([.ref h, .int p1, .int p2] : List Value).toArray below meth c H locs 0 0 (MQ below (QM D (kX2 T h a u) s.heap.size res.1 (kX2 T h a res.2)) ([.ref h, .int p1, .int p2] : List Value).toArray s 0 0 (va_A (kX2 T h a u) s.heap.size)) (F0 m 147 ls [.int y0, .int y1]) := by
        intro v x2 x3 x4 x6 y0 y1 H locs ls hf hP hD hS hl
        unfold fX2_reckon_J147 at hf
        refine lv_icmp_ne (tgt := 164) hx hb dX2_reckon_147 (by decide) (fun c8 => ?_) (fun c8 => ?_)
        · replace hf := ifn c8 hf
          obtain ⟨t9, et9, hf⟩ := lett_e hf
          refine lv_iinc (v := t9) (lv' := [(3, .int t9), (0, .ref h), (2, .int x2), (4, .int x4), (6, .int x6)]) hx hb dX2_reckon_164 hl (k := 2) rfl (by rw [et9]; rfl) (by decide) rfl (fun ls hl => ?_)
          refine lv_goto (tgt := 228) hx hb dX2_reckon_167 (by decide) ?_
          obtain ⟨t10, et10, hf⟩ := lett_e hf
          refine lv_iinc (v := t10) (lv' := [(4, .int t10), (3, .int t9), (0, .ref h), (2, .int x2), (6, .int x6)]) hx hb dX2_reckon_228 hl (k := 3) rfl (by rw [et10]; rfl) (by decide) rfl (fun ls hl => ?_)
          refine lv_goto (tgt := 5) hx hb dX2_reckon_231 (by decide) ?_
          exact ih5 v x2 t9 t10 _ _ _ hf hP hD hS (lv_sub hl [2, 3, 1, 0] rfl)
        replace hf := ifp c8 hf
        refine lv_iload hx hb dX2_reckon_150 (lv_at hl 3 rfl) ?_
        refine lv_iload hx hb dX2_reckon_152 (lv_at hl 4 rfl) ?_
        refine lv_iconst (v := 1) hx hb dX2_reckon_154 (by decide) ?_
        refine lv_isub hx hb dX2_reckon_155 ?_
        refine mmax hx hb (hml.trans hl.1.symm) hown (hts (.methodLink RX2 84 Lib.Math.max.name) (List.mem_of_getElem? (i := 5) rfl)) (hts (.static Lib.Math.max.name) (List.mem_of_getElem? (i := 6) rfl)) (hts (.initialized "java/lang/Math") (List.mem_of_getElem? (i := 7) rfl)) (hts (.code Lib.Math.max.name Lib.Math.max.code 2 (some .int)) (List.mem_of_getElem? (i := 8) rfl)) (Nat.le_of_ble_eq_true rfl) (Nat.le_of_ble_eq_true rfl) (Nat.le_of_ble_eq_true rfl) (Nat.le_of_ble_eq_true rfl) dX2_reckon_156 ?_
        obtain ⟨t11, et11, hf⟩ := lett_e hf
        refine lv_eqi et11 ?_
        refine lv_istore (lv' := [(4, .int t11), (0, .ref h), (2, .int x2), (3, .int x3), (6, .int x6)]) hx hb dX2_reckon_159 hl (by decide) rfl (fun ls hl => ?_)
        refine lv_goto (tgt := 228) hx hb dX2_reckon_161 (by decide) ?_
        obtain ⟨t12, et12, hf⟩ := lett_e hf
        refine lv_iinc (v := t12) (lv' := [(4, .int t12), (0, .ref h), (2, .int x2), (3, .int x3), (6, .int x6)]) hx hb dX2_reckon_228 hl (k := 0) rfl (by rw [et12]; rfl) (by decide) rfl (fun ls hl => ?_)
        refine lv_goto (tgt := 5) hx hb dX2_reckon_231 (by decide) ?_
        exact ih5 v x2 x3 t12 _ _ _ hf hP hD hS (lv_sub hl [1, 2, 3, 0] rfl)
      have J135 : ∀ (v : St) (x2 : Int32) (x3 : Int32) (x4 : Int32) (x5 : Int32) (x6 : Int32) (y0 : Int32) (H : Heap) (locs : List Loc) (ls : Array Slot), fX2_reckon_J135 (fX2_reckon_L5  n5) v x2 x3 x4 x5 x6 y0 = some res → va_P D vwCl (kX2 T h a v) H → va_D (va_A (kX2 T h a u) s.heap.size) (kX2 T h a v) → va_S (va_A (kX2 T h a u) s.heap.size) s.heap H locs → lv_has ls 7 [(0, .ref h), (2, .int x2), (3, .int x3), (4, .int x4), (5, .int x5), (6, .int x6)] → W p l e (headSpec wsX2_reckon ({ frames := 1, cells := 0, slots := 0, locals := 22 })).room s m ([.ref h, .int p1, .int p2] : List Value).toArray below meth c H locs 0 0 (MQ below (QM D (kX2 T h a u) s.heap.size res.1 (kX2 T h a res.2)) ([.ref h, .int p1, .int p2] : List Value).toArray s 0 0 (va_A (kX2 T h a u) s.heap.size)) (F0 m 135 ls [.int y0]) := by
        intro v x2 x3 x4 x5 x6 y0 H locs ls hf hP hD hS hl
        unfold fX2_reckon_J135 at hf
        refine lv_iload hx hb dX2_reckon_135 (lv_at hl 4 rfl) ?_
        refine lv_bipush (v := 124) hx hb dX2_reckon_137 (by decide) ?_
        refine lv_icmp_ne (tgt := 146) hx hb dX2_reckon_139 (by decide) (fun c13 => ?_) (fun c13 => ?_)
        · replace hf := ifn c13 hf
          refine lv_iconst (v := 0) hx hb dX2_reckon_146 (by decide) ?_
          exact J147 v x2 x3 x4 x6 0 y0 _ _ _ hf hP hD hS (lv_sub hl [0, 1, 2, 3, 5] rfl)
        replace hf := ifp c13 hf
        refine lv_iconst (v := 1) hx hb dX2_reckon_142 (by decide) ?_
        refine lv_goto (tgt := 147) hx hb dX2_reckon_143 (by decide) ?_
        exact J147 v x2 x3 x4 x6 1 y0 _ _ _ hf hP hD hS (lv_sub hl [0, 1, 2, 3, 5] rfl)
      have J121 : ∀ (v : St) (x2 : Int32) (x3 : Int32) (x4 : Int32) (x5 : Int32) (x6 : Int32) (H : Heap) (locs : List Loc) (ls : Array Slot), fX2_reckon_J121 (fX2_reckon_L5  n5) v x2 x3 x4 x5 x6 = some res → va_P D vwCl (kX2 T h a v) H → va_D (va_A (kX2 T h a u) s.heap.size) (kX2 T h a v) → va_S (va_A (kX2 T h a u) s.heap.size) s.heap H locs → lv_has ls 7 [(0, .ref h), (2, .int x2), (3, .int x3), (4, .int x4), (5, .int x5), (6, .int x6)] → W p l e (headSpec wsX2_reckon ({ frames := 1, cells := 0, slots := 0, locals := 22 })).room s m ([.ref h, .int p1, .int p2] : List Value).toArray below meth c H locs 0 0 (MQ below (QM D (kX2 T h a u) s.heap.size res.1 (kX2 T h a res.2)) ([.ref h, .int p1, .int p2] : List Value).toArray s 0 0 (va_A (kX2 T h a u) s.heap.size)) (F0 m 121 ls []) := by
        intro v x2 x3 x4 x5 x6 H locs ls hf hP hD hS hl
        unfold fX2_reckon_J121 at hf
        refine lv_aload_n hx hb dX2_reckon_121 rfl (lv_at hl 0 rfl) ?_
        refine va_get (D := D) (ci := 2) (v := .ref (a 9)) (C := RX2) (T := TX2) (N := 10) hx hb hts hinX2 hown hK.1 hP 0 rfl rfl 9 (by decide) (hts (.fieldLink RX2 40 "RopeScale$Law" "stack" "[I") (List.mem_of_getElem? (i := 3) rfl)) (fun _ h9 => h9) rfl dX2_reckon_122 ?_
        refine lv_iload_n hx hb dX2_reckon_125 rfl (lv_at hl 2 rfl) ?_
        obtain ⟨h15, hf⟩ := gd_e hf
        refine va_iald hx hb hK.1 hP 8 0 rfl rfl h15 dX2_reckon_126 ?_
        refine lv_if_eq (tgt := 134) hx hb dX2_reckon_127 (by decide) (fun c14 => ?_) (fun c14 => ?_)
        · replace hf := ifp c14 hf
          refine lv_iconst (v := 0) hx hb dX2_reckon_134 (by decide) ?_
          exact J135 v x2 x3 x4 x5 x6 0 _ _ _ hf hP hD hS (lv_sub hl [0, 1, 2, 3, 4, 5] rfl)
        replace hf := ifn c14 hf
        refine lv_iconst (v := 1) hx hb dX2_reckon_130 (by decide) ?_
        refine lv_goto (tgt := 135) hx hb dX2_reckon_131 (by decide) ?_
        exact J135 v x2 x3 x4 x5 x6 1 _ _ _ hf hP hD hS (lv_sub hl [0, 1, 2, 3, 4, 5] rfl)
      have J200 : ∀ (v : St) (x2 : Int32) (x3 : Int32) (x4 : Int32) (x5 : Int32) (H : Heap) (locs : List Loc) (ls : Array Slot), fX2_reckon_J200 (fX2_reckon_L5  n5) v x2 x3 x4 x5 = some res → va_P D vwCl (kX2 T h a v) H → va_D (va_A (kX2 T h a u) s.heap.size) (kX2 T h a v) → va_S (va_A (kX2 T h a u) s.heap.size) s.heap H locs → lv_has ls 7 [(0, .ref h), (2, .int x2), (3, .int x3), (4, .int x4), (5, .int x5)] → W p l e (headSpec wsX2_reckon ({ frames := 1, cells := 0, slots := 0, locals := 22 })).room s m ([.ref h, .int p1, .int p2] : List Value).toArray below meth c H locs 0 0 (MQ below (QM D (kX2 T h a u) s.heap.size res.1 (kX2 T h a res.2)) ([.ref h, .int p1, .int p2] : List Value).toArray s 0 0 (va_A (kX2 T h a u) s.heap.size)) (F0 m 200 ls []) := by
        intro v x2 x3 x4 x5 H locs ls hf hP hD hS hl
        unfold fX2_reckon_J200 at hf
        obtain ⟨t16, et16, hf⟩ := lett_e hf
        refine lv_iinc (v := t16) (lv' := [(3, .int t16), (0, .ref h), (2, .int x2), (4, .int x4), (5, .int x5)]) hx hb dX2_reckon_200 hl (k := 2) rfl (by rw [et16]; rfl) (by decide) rfl (fun ls hl => ?_)
        refine lv_aload_n hx hb dX2_reckon_203 rfl (lv_at hl 1 rfl) ?_
        refine va_get (D := D) (ci := 2) (v := .ref (a 9)) (C := RX2) (T := TX2) (N := 10) hx hb hts hinX2 hown hK.1 hP 0 rfl rfl 9 (by decide) (hts (.fieldLink RX2 40 "RopeScale$Law" "stack" "[I") (List.mem_of_getElem? (i := 3) rfl)) (fun _ h9 => h9) rfl dX2_reckon_204 ?_
        refine lv_iload_n hx hb dX2_reckon_207 rfl (lv_at hl 0 rfl) ?_
        refine lv_iload hx hb dX2_reckon_208 (lv_at hl 4 rfl) ?_
        refine lv_aload_n hx hb dX2_reckon_210 rfl (lv_at hl 1 rfl) ?_
        refine va_get (D := D) (ci := 2) (v := .ref (a 9)) (C := RX2) (T := TX2) (N := 10) hx hb hts hinX2 hown hK.1 hP 0 rfl rfl 9 (by decide) (hts (.fieldLink RX2 40 "RopeScale$Law" "stack" "[I") (List.mem_of_getElem? (i := 3) rfl)) (fun _ h9 => h9) rfl dX2_reckon_211 ?_
        refine lv_iload_n hx hb dX2_reckon_214 rfl (lv_at hl 0 rfl) ?_
        obtain ⟨h22, hf⟩ := gd_e hf
        refine va_iald hx hb hK.1 hP 8 0 rfl rfl h22 dX2_reckon_215 ?_
        refine lv_aload_n hx hb dX2_reckon_216 rfl (lv_at hl 1 rfl) ?_
        refine va_get (D := D) (ci := 2) (v := .ref (a 9)) (C := RX2) (T := TX2) (N := 10) hx hb hts hinX2 hown hK.1 hP 0 rfl rfl 9 (by decide) (hts (.fieldLink RX2 40 "RopeScale$Law" "stack" "[I") (List.mem_of_getElem? (i := 3) rfl)) (fun _ h9 => h9) rfl dX2_reckon_217 ?_
        refine lv_iload_n hx hb dX2_reckon_220 rfl (lv_at hl 0 rfl) ?_
        refine lv_iconst (v := 1) hx hb dX2_reckon_221 (by decide) ?_
        refine lv_iadd hx hb dX2_reckon_222 ?_
        obtain ⟨h21, hf⟩ := gd_e hf
        refine va_iald hx hb hK.1 hP 8 0 rfl rfl h21 dX2_reckon_223 ?_
        obtain ⟨z17, hz17, hf⟩ := bnd hf
        refine cSR (As := [.int x5, .int (v 9 (ix t16)), .int (v 9 (ix (t16 + 1)))]) (rest := [.int t16, .ref (a 9)]) ⟨hx, hb, hml, hown, hts⟩ (mX2_joined l D T x5 (v 9 (ix t16)) (v 9 (ix (t16 + 1))) z17 hz17) (va_cwS 3 hts gX2_reckon_X2_joined rfl rfl rfl (by decide +kernel) ⟨Nat.le_of_ble_eq_true rfl, Nat.le_of_ble_eq_true rfl⟩) P0 hK rfl hl.1 rfl (Nat.le_of_ble_eq_true rfl) dX2_reckon_224 ⟨Nat.le_of_ble_eq_true rfl, Nat.le_of_ble_eq_true rfl⟩ hP hS (fun H locs hP hS => ?_)
        obtain ⟨h20, hf⟩ := gd_e hf
        obtain ⟨u18, eu18, hf⟩ := lett_e hf
        refine va_iast hx hb hK.1 hP hD hS 8 0 rfl rfl h20 dX2_reckon_227 (fun H locs hP hD hS => ?_)
        have hP : va_P D vwCl (kX2 T h a u18) H := by rw [eu18]; exact hP
        have hD : va_D (va_A (kX2 T h a u) s.heap.size) (kX2 T h a u18) := by rw [eu18]; exact hD
        obtain ⟨t19, et19, hf⟩ := lett_e hf
        refine lv_iinc (v := t19) (lv' := [(4, .int t19), (3, .int t16), (0, .ref h), (2, .int x2), (5, .int x5)]) hx hb dX2_reckon_228 hl (k := 3) rfl (by rw [et19]; rfl) (by decide) rfl (fun ls hl => ?_)
        refine lv_goto (tgt := 5) hx hb dX2_reckon_231 (by decide) ?_
        exact ih5 u18 x2 t16 t19 _ _ _ hf hP hD hS (lv_sub hl [2, 3, 1, 0] rfl)
      intro v x2 x3 x4 H locs ls hf hP hD hS hl
      replace hf : bX2_reckon_L5  (fX2_reckon_L5  n5) v x2 x3 x4 = some res := hf
      unfold bX2_reckon_L5 at hf
      refine lv_iload hx hb dX2_reckon_5 (lv_at hl 3 rfl) ?_
      refine lv_iload_n hx hb dX2_reckon_7 rfl (lv_at hl 1 rfl) ?_
      refine lv_icmp_ge (tgt := 234) hx hb dX2_reckon_8 (by decide) (fun c23 => ?_) (fun c23 => ?_)
      · replace hf := ifp c23 hf
        refine lv_iload_n hx hb dX2_reckon_234 rfl (lv_at hl 2 rfl) ?_
        refine lv_if_ne (tgt := 247) hx hb dX2_reckon_235 (by decide) (fun c24 => ?_) (fun c24 => ?_)
        · replace hf := ifn c24 hf
          refine lv_iconst (v := 0) hx hb dX2_reckon_247 (by decide) ?_
          have e9 := Option.some.inj hf
          exact retM hx hb hr hlocks hP hD hS (congrArg (fun z => z.1) e9) (congrArg (fun z => (kX2 T h a z.2 : va_W)) e9) dX2_reckon_248
        replace hf := ifp c24 hf
        refine lv_aload_n hx hb dX2_reckon_238 rfl (lv_at hl 0 rfl) ?_
        refine va_get (D := D) (ci := 2) (v := .ref (a 9)) (C := RX2) (T := TX2) (N := 10) hx hb hts hinX2 hown hK.1 hP 0 rfl rfl 9 (by decide) (hts (.fieldLink RX2 40 "RopeScale$Law" "stack" "[I") (List.mem_of_getElem? (i := 3) rfl)) (fun _ h9 => h9) rfl dX2_reckon_239 ?_
        refine lv_iconst (v := 0) hx hb dX2_reckon_242 (by decide) ?_
        obtain ⟨h25, hf⟩ := gd_e hf
        refine va_iald hx hb hK.1 hP 8 0 rfl rfl h25 dX2_reckon_243 ?_
        refine lv_goto (tgt := 248) hx hb dX2_reckon_244 (by decide) ?_
        have e9 := Option.some.inj hf
        exact retM hx hb hr hlocks hP hD hS (congrArg (fun z => z.1) e9) (congrArg (fun z => (kX2 T h a z.2 : va_W)) e9) dX2_reckon_248
      replace hf := ifn c23 hf
      refine lv_aload_n hx hb dX2_reckon_11 rfl (lv_at hl 0 rfl) ?_
      refine va_get (D := D) (ci := 2) (v := .ref (a 5)) (C := RX2) (T := TX2) (N := 10) hx hb hts hinX2 hown hK.1 hP 0 rfl rfl 5 (by decide) (hts (.fieldLink RX2 28 "RopeScale$Law" "step" "[I") (List.mem_of_getElem? (i := 1) rfl)) (fun _ h9 => h9) rfl dX2_reckon_12 ?_
      refine lv_iload hx hb dX2_reckon_15 (lv_at hl 3 rfl) ?_
      obtain ⟨h44, hf⟩ := gd_e hf
      refine va_iald hx hb hK.1 hP 5 0 rfl rfl h44 dX2_reckon_17 ?_
      obtain ⟨t26, et26, hf⟩ := lett_e hf
      refine lv_eqi et26 ?_
      refine lv_istore (lv' := [(5, .int t26), (0, .ref h), (2, .int x2), (3, .int x3), (4, .int x4)]) hx hb dX2_reckon_18 hl (by decide) rfl (fun ls hl => ?_)
      refine lv_aload_n hx hb dX2_reckon_20 rfl (lv_at hl 1 rfl) ?_
      refine va_get (D := D) (ci := 2) (v := .ref (a 6)) (C := RX2) (T := TX2) (N := 10) hx hb hts hinX2 hown hK.1 hP 0 rfl rfl 6 (by decide) (hts (.fieldLink RX2 31 "RopeScale$Law" "operand" "[I") (List.mem_of_getElem? (i := 2) rfl)) (fun _ h9 => h9) rfl dX2_reckon_21 ?_
      refine lv_iload hx hb dX2_reckon_24 (lv_at hl 4 rfl) ?_
      obtain ⟨h43, hf⟩ := gd_e hf
      refine va_iald hx hb hK.1 hP 6 0 rfl rfl h43 dX2_reckon_26 ?_
      obtain ⟨t27, et27, hf⟩ := lett_e hf
      refine lv_eqi et27 ?_
      refine lv_istore (lv' := [(6, .int t27), (5, .int t26), (0, .ref h), (2, .int x2), (3, .int x3), (4, .int x4)]) hx hb dX2_reckon_27 hl (by decide) rfl (fun ls hl => ?_)
      refine lv_iload hx hb dX2_reckon_29 (lv_at hl 1 rfl) ?_
      refine lv_if_eq (tgt := 40) hx hb dX2_reckon_31 (by decide) (fun c28 => ?_) (fun c28 => ?_)
      · replace hf := ifp c28 hf
        exact J40 v x2 x3 x4 t26 t27 _ _ _ hf hP hD hS (lv_sub hl [2, 3, 4, 5, 1, 0] rfl)
      replace hf := ifn c28 hf
      refine lv_iload hx hb dX2_reckon_34 (lv_at hl 1 rfl) ?_
      refine lv_iconst (v := 1) hx hb dX2_reckon_36 (by decide) ?_
      refine lv_icmp_ne (tgt := 77) hx hb dX2_reckon_37 (by decide) (fun c29 => ?_) (fun c29 => ?_)
      · replace hf := ifn c29 hf
        refine lv_iload_n hx hb dX2_reckon_77 rfl (lv_at hl 4 rfl) ?_
        refine lv_if_ge (tgt := 83) hx hb dX2_reckon_78 (by decide) (fun c30 => ?_) (fun c30 => ?_)
        · replace hf := ifp c30 hf
          refine lv_iload hx hb dX2_reckon_83 (lv_at hl 1 rfl) ?_
          refine lv_bipush (v := 33) hx hb dX2_reckon_85 (by decide) ?_
          refine lv_icmp_ne (tgt := 107) hx hb dX2_reckon_87 (by decide) (fun c31 => ?_) (fun c31 => ?_)
          · replace hf := ifn c31 hf
            refine lv_iload hx hb dX2_reckon_107 (lv_at hl 1 rfl) ?_
            refine lv_bipush (v := 38) hx hb dX2_reckon_109 (by decide) ?_
            refine lv_icmp_eq (tgt := 121) hx hb dX2_reckon_111 (by decide) (fun c32 => ?_) (fun c32 => ?_)
            · replace hf := ifp c32 hf
              exact J121 v x2 x3 x4 t26 t27 _ _ _ hf hP hD hS (lv_sub hl [2, 3, 4, 5, 1, 0] rfl)
            replace hf := ifn c32 hf
            refine lv_iload hx hb dX2_reckon_114 (lv_at hl 1 rfl) ?_
            refine lv_bipush (v := 124) hx hb dX2_reckon_116 (by decide) ?_
            refine lv_icmp_ne (tgt := 170) hx hb dX2_reckon_118 (by decide) (fun c33 => ?_) (fun c33 => ?_)
            · replace hf := ifn c33 hf
              refine lv_iload_n hx hb dX2_reckon_170 rfl (lv_at hl 4 rfl) ?_
              refine lv_iconst (v := 1) hx hb dX2_reckon_171 (by decide) ?_
              refine lv_icmp_lt (tgt := 198) hx hb dX2_reckon_172 (by decide) (fun c34 => ?_) (fun c34 => ?_)
              · replace hf := ifp c34 hf
                refine lv_iconst (v := 0) hx hb dX2_reckon_198 (by decide) ?_
                have e9 := Option.some.inj hf
                exact retM hx hb hr hlocks hP hD hS (congrArg (fun z => z.1) e9) (congrArg (fun z => (kX2 T h a z.2 : va_W)) e9) dX2_reckon_199
              replace hf := ifn c34 hf
              refine lv_aload_n hx hb dX2_reckon_175 rfl (lv_at hl 2 rfl) ?_
              refine va_get (D := D) (ci := 2) (v := .ref (a 9)) (C := RX2) (T := TX2) (N := 10) hx hb hts hinX2 hown hK.1 hP 0 rfl rfl 9 (by decide) (hts (.fieldLink RX2 40 "RopeScale$Law" "stack" "[I") (List.mem_of_getElem? (i := 3) rfl)) (fun _ h9 => h9) rfl dX2_reckon_176 ?_
              refine lv_iload_n hx hb dX2_reckon_179 rfl (lv_at hl 4 rfl) ?_
              obtain ⟨h38, hf⟩ := gd_e hf
              refine va_iald hx hb hK.1 hP 8 0 rfl rfl h38 dX2_reckon_180 ?_
              refine lv_if_ne (tgt := 200) hx hb dX2_reckon_181 (by decide) (fun c35 => ?_) (fun c35 => ?_)
              · replace hf := ifn c35 hf
                exact J200 v x2 x3 x4 t26 _ _ _ hf hP hD hS (lv_sub hl [2, 3, 4, 5, 1] rfl)
              replace hf := ifp c35 hf
              refine lv_iload hx hb dX2_reckon_184 (lv_at hl 1 rfl) ?_
              refine lv_bipush (v := 47) hx hb dX2_reckon_186 (by decide) ?_
              refine lv_icmp_eq (tgt := 198) hx hb dX2_reckon_188 (by decide) (fun c36 => ?_) (fun c36 => ?_)
              · replace hf := ifp c36 hf
                refine lv_iconst (v := 0) hx hb dX2_reckon_198 (by decide) ?_
                have e9 := Option.some.inj hf
                exact retM hx hb hr hlocks hP hD hS (congrArg (fun z => z.1) e9) (congrArg (fun z => (kX2 T h a z.2 : va_W)) e9) dX2_reckon_199
              replace hf := ifn c36 hf
              refine lv_iload hx hb dX2_reckon_191 (lv_at hl 1 rfl) ?_
              refine lv_bipush (v := 37) hx hb dX2_reckon_193 (by decide) ?_
              refine lv_icmp_ne (tgt := 200) hx hb dX2_reckon_195 (by decide) (fun c37 => ?_) (fun c37 => ?_)
              · replace hf := ifn c37 hf
                exact J200 v x2 x3 x4 t26 _ _ _ hf hP hD hS (lv_sub hl [2, 3, 4, 5, 1] rfl)
              replace hf := ifp c37 hf
              refine lv_iconst (v := 0) hx hb dX2_reckon_198 (by decide) ?_
              have e9 := Option.some.inj hf
              exact retM hx hb hr hlocks hP hD hS (congrArg (fun z => z.1) e9) (congrArg (fun z => (kX2 T h a z.2 : va_W)) e9) dX2_reckon_199
            replace hf := ifp c33 hf
            exact J121 v x2 x3 x4 t26 t27 _ _ _ hf hP hD hS (lv_sub hl [2, 3, 4, 5, 1, 0] rfl)
          replace hf := ifp c31 hf
          refine lv_aload_n hx hb dX2_reckon_90 rfl (lv_at hl 2 rfl) ?_
          refine va_get (D := D) (ci := 2) (v := .ref (a 9)) (C := RX2) (T := TX2) (N := 10) hx hb hts hinX2 hown hK.1 hP 0 rfl rfl 9 (by decide) (hts (.fieldLink RX2 40 "RopeScale$Law" "stack" "[I") (List.mem_of_getElem? (i := 3) rfl)) (fun _ h9 => h9) rfl dX2_reckon_91 ?_
          refine lv_iload_n hx hb dX2_reckon_94 rfl (lv_at hl 4 rfl) ?_
          refine lv_iconst (v := 1) hx hb dX2_reckon_95 (by decide) ?_
          refine lv_aload_n hx hb dX2_reckon_96 rfl (lv_at hl 2 rfl) ?_
          refine va_get (D := D) (ci := 2) (v := .ref (a 9)) (C := RX2) (T := TX2) (N := 10) hx hb hts hinX2 hown hK.1 hP 0 rfl rfl 9 (by decide) (hts (.fieldLink RX2 40 "RopeScale$Law" "stack" "[I") (List.mem_of_getElem? (i := 3) rfl)) (fun _ h9 => h9) rfl dX2_reckon_97 ?_
          refine lv_iload_n hx hb dX2_reckon_100 rfl (lv_at hl 4 rfl) ?_
          obtain ⟨h42, hf⟩ := gd_e hf
          refine va_iald hx hb hK.1 hP 8 0 rfl rfl h42 dX2_reckon_101 ?_
          refine lv_isub hx hb dX2_reckon_102 ?_
          obtain ⟨h41, hf⟩ := gd_e hf
          obtain ⟨u39, eu39, hf⟩ := lett_e hf
          refine va_iast hx hb hK.1 hP hD hS 8 0 rfl rfl h41 dX2_reckon_103 (fun H locs hP hD hS => ?_)
          have hP : va_P D vwCl (kX2 T h a u39) H := by rw [eu39]; exact hP
          have hD : va_D (va_A (kX2 T h a u) s.heap.size) (kX2 T h a u39) := by rw [eu39]; exact hD
          refine lv_goto (tgt := 228) hx hb dX2_reckon_104 (by decide) ?_
          obtain ⟨t40, et40, hf⟩ := lett_e hf
          refine lv_iinc (v := t40) (lv' := [(4, .int t40), (6, .int t27), (5, .int t26), (0, .ref h), (2, .int x2), (3, .int x3)]) hx hb dX2_reckon_228 hl (k := 5) rfl (by rw [et40]; rfl) (by decide) rfl (fun ls hl => ?_)
          refine lv_goto (tgt := 5) hx hb dX2_reckon_231 (by decide) ?_
          exact ih5 u39 x2 x3 t40 _ _ _ hf hP hD hS (lv_sub hl [3, 4, 5, 0] rfl)
        replace hf := ifn c30 hf
        refine lv_iconst (v := 0) hx hb dX2_reckon_81 (by decide) ?_
        have e9 := Option.some.inj hf
        exact retM hx hb hr hlocks hP hD hS (congrArg (fun z => z.1) e9) (congrArg (fun z => (kX2 T h a z.2 : va_W)) e9) dX2_reckon_82
      replace hf := ifp c29 hf
      exact J40 v x2 x3 x4 t26 t27 _ _ _ hf hP hD hS (lv_sub hl [2, 3, 4, 5, 1, 0] rfl)
  unfold fX2_reckon at hf
  refine lv_iconst (v := (-1)) hx hb dX2_reckon_0 (by decide) ?_
  refine lv_istore_n (lv' := [(3, .int (-1)), (0, .ref h), (1, .int p1), (2, .int p2)]) hx hb dX2_reckon_1 rfl hl (by decide) rfl (fun ls hl => ?_)
  refine lv_iload_n hx hb dX2_reckon_2 rfl (lv_at hl 2 rfl) ?_
  refine lv_istore (lv' := [(4, .int p1), (3, .int (-1)), (0, .ref h), (1, .int p1), (2, .int p2)]) hx hb dX2_reckon_3 hl (by decide) rfl (fun ls hl => ?_)
  exact L5 FU u p2 (-1) p1 _ _ _ hf hP hD hS (lv_sub hl [2, 4, 1, 0] rfl)
