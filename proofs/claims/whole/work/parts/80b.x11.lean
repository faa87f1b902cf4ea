set_option maxHeartbeats 4000000 in
set_option maxRecDepth 100000 in
theorem mX11_tried (l : Launch) (D : va_G) (T : Ty3) (aa : Nat → Nat → Nat) (h : Nat) (a : Nat → Nat) (u : St) (utp : St) (ucu : St) (unw : St) (ukp : St) (utr : St) (uro : St) (ugi : St) (urd : St) (uch : St) (urk : St) (upa : St) (uwl : Nat → Int64) (uva : St) (usl : St) (uto : St) (usw : St) (sz : Nat) (p1 : Int32) (p2 : Int32) (res : Int32 × St × St × St) (hf : fX11_tried unw utr uro uva p1 p2 = some res) : Met l yX11_tried wsX11_tried ({ frames := 7, cells := 0, slots := 0, locals := 171 }) (PcM D T (WX11 T h a a aa u utp ucu unw ukp utr uro ugi urd uch urk upa uwl uva usl uto usw) sz [.ref h, .int p1, .int p2]) (QM D (WX11 T h a a aa u utp ucu unw ukp utr uro ugi urd uch urk upa uwl uva usl uto usw) sz res.1 (WX11 T h a a aa u utp ucu unw ukp res.2.1 res.2.2.1 ugi urd uch urk upa uwl res.2.2.2 usl uto usw)) 0 0 (va_A (WX11 T h a a aa u utp ucu unw ukp utr uro ugi urd uch urk upa uwl uva usl uto usw) sz) := by
  refine Met.ofW (cc := cX11_tried) (maxL := 3) (ret := (some .int)) (by decide) rfl ?_
  intro p e s m args below meth c s₁ B hml hv
  obtain ⟨rfl, hsz, hP, hK, hD0⟩ := hv
  have hx := B.exec
  have hb := B.bytes
  have hr := B.returns
  have hts := atoms_spec (ws := wsX11_tried) B.pre
  have hown : s.vm.findClass RX11 = some m.cls := findClass_of_methodNamed B.named
  have hlocks := B.notSynchronized
  subst hsz
  have hD := hD0.self (sz := s.heap.size)
  have hA : ∀ q : Nat, s.heap.size ≤ q → va_A (WX11 T h a a aa u utp ucu unw ukp utr uro ugi urd uch urk upa uwl uva usl uto usw) s.heap.size q := fun q h => Or.inr h
  have hS : va_S (va_A (WX11 T h a a aa u utp ucu unw ukp utr uro ugi urd uch urk upa uwl uva usl uto usw) s.heap.size) s.heap s.heap [] := va_S.rf
  have hinX11 : ∀ w ∈ u_ws RX11 TX11 16, w ∈ wsX11_tried := fun w h => List.mem_cons_of_mem _ (List.mem_append_left _ (List.mem_append_left _ (List.mem_append_left _ (List.mem_append_right _ h))))
  have hinX7 : ∀ w ∈ u_ws RX7 TX7 6, w ∈ wsX11_tried := fun w h => List.mem_cons_of_mem _ (List.mem_append_left _ (List.mem_append_left _ (List.mem_append_right _ h)))
  have hinX9 : ∀ w ∈ u_ws RX9 TX9 8, w ∈ wsX11_tried := fun w h => List.mem_cons_of_mem _ (List.mem_append_left _ (List.mem_append_right _ h))
  have hinX2 : ∀ w ∈ u_ws RX2 TX2 10, w ∈ wsX11_tried := fun w h => List.mem_cons_of_mem _ (List.mem_append_right _ h)
  have hl := lv_entry ([.ref h, .int p1, .int p2]) (n := 3) (Nat.le_of_ble_eq_true rfl)
  rw [lg_entry_eq]
  generalize (lg_sl ([.ref h, .int p1, .int p2]) ++ List.replicate (3 - (lg_sl ([.ref h, .int p1, .int p2])).length) Slot.unset).toArray = ls at hl ⊢
  have hl : lv_has ls 3 [(0, .ref h), (1, .int p1), (2, .int p2)] := hl
  unfold fX11_tried at hf
  refine lv_iload_n hx hb dX11_tried_0 rfl (lv_at hl 1 rfl) ?_
  refine lv_iconst (v := 1) hx hb dX11_tried_1 (by decide) ?_
  refine lv_sipush (v := 240) hx hb dX11_tried_2 (by decide) ?_
  obtain ⟨z1, hz1, hf⟩ := lett_e hf
  refine cSR (As := [.int p1, .int 1, .int 240]) (rest := []) ⟨hx, hb, hml, hown, hts⟩ (mX11_isWithin l D T p1 1 240 z1 hz1.symm) (va_cwS 3 hts gX11_tried_X11_isWithin rfl rfl rfl (by decide +kernel) ⟨Nat.le_of_ble_eq_true rfl, Nat.le_of_ble_eq_true rfl⟩) P0 hK rfl hl.1 rfl (Nat.le_of_ble_eq_true rfl) dX11_tried_5 ⟨Nat.le_of_ble_eq_true rfl, Nat.le_of_ble_eq_true rfl⟩ hP hS (fun H locs hP hS => ?_)
  refine lv_if_eq (tgt := 19) hx hb dX11_tried_8 (by decide) (fun c2 => ?_) (fun c2 => ?_)
  · replace hf := ifp c2 hf
    refine lv_iconst (v := (-1)) hx hb dX11_tried_19 (by decide) ?_
    have e9 := Option.some.inj hf
    exact retM hx hb hr hlocks hP hD hS (congrArg (fun z => z.1) e9) (congrArg (fun z => (WX11 T h a a aa u utp ucu unw ukp z.2.1 z.2.2.1 ugi urd uch urk upa uwl z.2.2.2 usl uto usw : va_W)) e9) dX11_tried_20
  replace hf := ifn c2 hf
  refine lv_aload_n hx hb dX11_tried_11 rfl (lv_at hl 0 rfl) ?_
  refine lv_iload_n hx hb dX11_tried_12 rfl (lv_at hl 2 rfl) ?_
  obtain ⟨z3, hz3, hf⟩ := bnd hf
  refine cVR (As := [.int p2]) (rest := []) ⟨hx, hb, hml, hown, hts⟩ (mX11_canBeTried l D T aa h a u utp ucu unw ukp utr uro ugi urd uch urk upa uwl uva usl uto usw p2 z3 hz3) (cwV 1 hts gX11_tried_X11_canBeTried rfl rfl rfl (by decide +kernel) ⟨Nat.le_of_ble_eq_true rfl, Nat.le_of_ble_eq_true rfl⟩) (va_recv hK.1 hP (ci := 11) (q0 := 0) rfl rfl) hP hK rfl hl.1 rfl (Nat.le_of_ble_eq_true rfl) dX11_tried_13 ⟨Nat.le_of_ble_eq_true rfl, Nat.le_of_ble_eq_true rfl⟩ hP hS (fun H locs hP hS => ?_)
  refine lv_if_ne (tgt := 21) hx hb dX11_tried_16 (by decide) (fun c4 => ?_) (fun c4 => ?_)
  · replace hf := ifn c4 hf
    refine lv_aload_n hx hb dX11_tried_21 rfl (lv_at hl 0 rfl) ?_
    refine va_get (D := D) (ci := 11) (v := .ref (a 4)) (C := RX11) (T := TX11) (N := 16) hx hb hts hinX11 hown hK.1 hP 0 rfl rfl 4 (by decide) (hts (.fieldLink RX11 35 "RopeScale" "trial" "LRopeScale$Walk;") (List.mem_of_getElem? (i := 1) rfl)) (fun _ h9 => h9) rfl dX11_tried_22 ?_
    refine lv_aload_n hx hb dX11_tried_25 rfl (lv_at hl 0 rfl) ?_
    refine va_get (D := D) (ci := 11) (v := .ref (a 2)) (C := RX11) (T := TX11) (N := 16) hx hb hts hinX11 hown hK.1 hP 0 rfl rfl 2 (by decide) (hts (.fieldLink RX11 28 "RopeScale" "now" "LRopeScale$Walk;") (List.mem_of_getElem? (i := 2) rfl)) (fun _ h9 => h9) rfl dX11_tried_26 ?_
    obtain ⟨z5, hz5, hf⟩ := lett_e hf
    have hPc := hP.sub (ws' := kX9 T (a 4) (aa 5) utr ++ kX9 T (a 2) (aa 3) unw) [14, 15, 16, 17, 18, 4, 5, 6, 7, 8] rfl
    have hDc := hD.sub (ws' := kX9 T (a 4) (aa 5) utr ++ kX9 T (a 2) (aa 3) unw) [14, 15, 16, 17, 18, 4, 5, 6, 7, 8] (by decide) rfl
    have hFc9 := va_free (wc := kX9 T (a 4) (aa 5) utr ++ kX9 T (a 2) (aa 3) unw) hD hS hA [14, 15, 16, 17, 18, 4, 5, 6, 7, 8] rfl
    refine cVMv (As := [.ref (a 2)]) (rest := []) ⟨hx, hb, hml, hown, hts⟩ (mX9_copyFrom l D T (a 4) (aa 5) utr (a 2) (aa 3) unw _ z5 hz5.symm) (cwV 1 hts gX11_tried_X9_copyFrom rfl rfl rfl (by decide +kernel) ⟨Nat.le_of_ble_eq_true rfl, Nat.le_of_ble_eq_true rfl⟩) (va_recv hK.1 hP (ci := 9) (q0 := 14) rfl rfl) hPc hK rfl hl.1 rfl (Nat.le_of_ble_eq_true rfl) dX11_tried_29 ⟨Nat.le_of_ble_eq_true rfl, Nat.le_of_ble_eq_true rfl⟩ hDc hFc9 hS (fun H9 locs hP1 hD1 hk1 hS => ?_)
    obtain ⟨hP, hD⟩ := putAll_P (w1 := kX9 T (a 4) (aa 5) z5 ++ kX9 T (a 2) (aa 3) unw) hP hD [14, 15, 16, 17, 18, 4, 5, 6, 7, 8] rfl (by decide) hk1 hP1 rfl
    generalize H9 = H at hP hS ⊢
    have hP : va_P D vwCl (WX11 T h a a aa u utp ucu unw ukp z5 uro ugi urd uch urk upa uwl uva usl uto usw) H := by exact hP
    have hD : va_D (va_A (WX11 T h a a aa u utp ucu unw ukp utr uro ugi urd uch urk upa uwl uva usl uto usw) s.heap.size) (WX11 T h a a aa u utp ucu unw ukp z5 uro ugi urd uch urk upa uwl uva usl uto usw) := by exact hD
    refine lv_aload_n hx hb dX11_tried_32 rfl (lv_at hl 0 rfl) ?_
    refine va_get (D := D) (ci := 11) (v := .ref (a 5)) (C := RX11) (T := TX11) (N := 16) hx hb hts hinX11 hown hK.1 hP 0 rfl rfl 5 (by decide) (hts (.fieldLink RX11 41 "RopeScale" "rope" "LRopeScale$Rope;") (List.mem_of_getElem? (i := 3) rfl)) (fun _ h9 => h9) rfl dX11_tried_33 ?_
    refine lv_aload_n hx hb dX11_tried_36 rfl (lv_at hl 0 rfl) ?_
    refine va_get (D := D) (ci := 11) (v := .ref (a 4)) (C := RX11) (T := TX11) (N := 16) hx hb hts hinX11 hown hK.1 hP 0 rfl rfl 4 (by decide) (hts (.fieldLink RX11 35 "RopeScale" "trial" "LRopeScale$Walk;") (List.mem_of_getElem? (i := 1) rfl)) (fun _ h9 => h9) rfl dX11_tried_37 ?_
    refine lv_aload_n hx hb dX11_tried_40 rfl (lv_at hl 0 rfl) ?_
    refine va_get (D := D) (ci := 11) (v := .ref (a 11)) (C := RX11) (T := TX11) (N := 16) hx hb hts hinX11 hown hK.1 hP 0 rfl rfl 11 (by decide) (hts (.fieldLink RX11 85 "RopeScale" "valid" "LRopeScale$Law;") (List.mem_of_getElem? (i := 4) rfl)) (fun _ h9 => h9) rfl dX11_tried_41 ?_
    refine lv_iload_n hx hb dX11_tried_44 rfl (lv_at hl 1 rfl) ?_
    obtain ⟨z6, hz6, hf⟩ := bnd hf
    have hPc := hP.sub (ws' := kX7 T (a 5) (aa 6) uro ++ kX9 T (a 4) (aa 5) z5 ++ kX2 T (a 11) (aa 13) uva) [19, 14, 15, 16, 17, 18, 39, 40, 41, 42, 43, 44, 45, 46, 47] rfl
    have hDc := hD.sub (ws' := kX7 T (a 5) (aa 6) uro ++ kX9 T (a 4) (aa 5) z5 ++ kX2 T (a 11) (aa 13) uva) [19, 14, 15, 16, 17, 18, 39, 40, 41, 42, 43, 44, 45, 46, 47] (by decide) rfl
    have hFc9 := va_free (wc := kX7 T (a 5) (aa 6) uro ++ kX9 T (a 4) (aa 5) z5 ++ kX2 T (a 11) (aa 13) uva) hD hS hA [19, 14, 15, 16, 17, 18, 39, 40, 41, 42, 43, 44, 45, 46, 47] rfl
    refine cVMv (As := [.ref (a 4), .ref (a 11), .int p1]) (rest := []) ⟨hx, hb, hml, hown, hts⟩ (mX7_pass l D T (a 5) (aa 6) uro (a 4) (aa 5) z5 (a 11) (aa 13) uva _ p1 z6 hz6) (cwV 3 hts gX11_tried_X7_pass rfl rfl rfl (by decide +kernel) ⟨Nat.le_of_ble_eq_true rfl, Nat.le_of_ble_eq_true rfl⟩) (va_recv hK.1 hP (ci := 7) (q0 := 19) rfl rfl) hPc hK rfl hl.1 rfl (Nat.le_of_ble_eq_true rfl) dX11_tried_45 ⟨Nat.le_of_ble_eq_true rfl, Nat.le_of_ble_eq_true rfl⟩ hDc hFc9 hS (fun H9 locs hP1 hD1 hk1 hS => ?_)
    obtain ⟨hP, hD⟩ := putAll_P (w1 := kX7 T (a 5) (aa 6) z6.1 ++ kX9 T (a 4) (aa 5) z6.2.1 ++ kX2 T (a 11) (aa 13) z6.2.2) hP hD [19, 14, 15, 16, 17, 18, 39, 40, 41, 42, 43, 44, 45, 46, 47] rfl (by decide) hk1 hP1 rfl
    generalize H9 = H at hP hS ⊢
    have hP : va_P D vwCl (WX11 T h a a aa u utp ucu unw ukp z6.2.1 z6.1 ugi urd uch urk upa uwl z6.2.2 usl uto usw) H := by exact hP
    have hD : va_D (va_A (WX11 T h a a aa u utp ucu unw ukp utr uro ugi urd uch urk upa uwl uva usl uto usw) s.heap.size) (WX11 T h a a aa u utp ucu unw ukp z6.2.1 z6.1 ugi urd uch urk upa uwl z6.2.2 usl uto usw) := by exact hD
    refine lv_iload_n hx hb dX11_tried_48 rfl (lv_at hl 2 rfl) ?_
    refine lv_sipush (v := 200) hx hb dX11_tried_49 (by decide) ?_
    refine lv_icmp_lt (tgt := 69) hx hb dX11_tried_52 (by decide) (fun c7 => ?_) (fun c7 => ?_)
    · replace hf := ifp c7 hf
      refine lv_iload_n hx hb dX11_tried_69 rfl (lv_at hl 2 rfl) ?_
      refine lv_bipush (v := 100) hx hb dX11_tried_70 (by decide) ?_
      refine lv_icmp_lt (tgt := 88) hx hb dX11_tried_72 (by decide) (fun c8 => ?_) (fun c8 => ?_)
      · replace hf := ifp c8 hf
        refine lv_iload_n hx hb dX11_tried_88 rfl (lv_at hl 2 rfl) ?_
        by_cases c9 : p2 = 0
        · replace hf := ifp c9 hf
          refine lv_tableIn (off := 31) (tgt := 120) hx hb dX11_tried_89 (by rw [c9]; decide) (by rw [c9]; decide) (by rw [c9]; rfl) (by decide) ?_
          refine lv_aload_n hx hb dX11_tried_120 rfl (lv_at hl 0 rfl) ?_
          refine va_get (D := D) (ci := 11) (v := .ref (a 5)) (C := RX11) (T := TX11) (N := 16) hx hb hts hinX11 hown hK.1 hP 0 rfl rfl 5 (by decide) (hts (.fieldLink RX11 41 "RopeScale" "rope" "LRopeScale$Rope;") (List.mem_of_getElem? (i := 3) rfl)) (fun _ h9 => h9) rfl dX11_tried_121 ?_
          refine va_get (D := D) (ci := 7) (v := .int (z6.1 2 0)) (C := RX7) (T := TX7) (N := 6) hx hb hts hinX7 hown hK.1 hP 19 rfl rfl 2 (by decide) (hts (.fieldLink RX11 177 "RopeScale$Rope" "gotOver" "I") (List.mem_of_getElem? (i := 5) rfl)) (fun _ h9 => h9) rfl dX11_tried_124 ?_
          have e9 := Option.some.inj hf
          exact retM hx hb hr hlocks hP hD hS (congrArg (fun z => z.1) e9) (congrArg (fun z => (WX11 T h a a aa u utp ucu unw ukp z.2.1 z.2.2.1 ugi urd uch urk upa uwl z.2.2.2 usl uto usw : va_W)) e9) dX11_tried_127
        replace hf := ifn c9 hf
        by_cases c10 : p2 = 1
        · replace hf := ifp c10 hf
          refine lv_tableIn (off := 39) (tgt := 128) hx hb dX11_tried_89 (by rw [c10]; decide) (by rw [c10]; decide) (by rw [c10]; rfl) (by decide) ?_
          refine lv_aload_n hx hb dX11_tried_128 rfl (lv_at hl 0 rfl) ?_
          refine va_get (D := D) (ci := 11) (v := .ref (a 5)) (C := RX11) (T := TX11) (N := 16) hx hb hts hinX11 hown hK.1 hP 0 rfl rfl 5 (by decide) (hts (.fieldLink RX11 41 "RopeScale" "rope" "LRopeScale$Rope;") (List.mem_of_getElem? (i := 3) rfl)) (fun _ h9 => h9) rfl dX11_tried_129 ?_
          refine va_get (D := D) (ci := 7) (v := .int (z6.1 3 0)) (C := RX7) (T := TX7) (N := 6) hx hb hts hinX7 hown hK.1 hP 19 rfl rfl 3 (by decide) (hts (.fieldLink RX11 190 "RopeScale$Rope" "baths" "I") (List.mem_of_getElem? (i := 6) rfl)) (fun _ h9 => h9) rfl dX11_tried_132 ?_
          have e9 := Option.some.inj hf
          exact retM hx hb hr hlocks hP hD hS (congrArg (fun z => z.1) e9) (congrArg (fun z => (WX11 T h a a aa u utp ucu unw ukp z.2.1 z.2.2.1 ugi urd uch urk upa uwl z.2.2.2 usl uto usw : va_W)) e9) dX11_tried_135
        replace hf := ifn c10 hf
        by_cases c11 : p2 = 2
        · replace hf := ifp c11 hf
          refine lv_tableIn (off := 47) (tgt := 136) hx hb dX11_tried_89 (by rw [c11]; decide) (by rw [c11]; decide) (by rw [c11]; rfl) (by decide) ?_
          refine lv_aload_n hx hb dX11_tried_136 rfl (lv_at hl 0 rfl) ?_
          refine va_get (D := D) (ci := 11) (v := .ref (a 5)) (C := RX11) (T := TX11) (N := 16) hx hb hts hinX11 hown hK.1 hP 0 rfl rfl 5 (by decide) (hts (.fieldLink RX11 41 "RopeScale" "rope" "LRopeScale$Rope;") (List.mem_of_getElem? (i := 3) rfl)) (fun _ h9 => h9) rfl dX11_tried_137 ?_
          refine va_get (D := D) (ci := 7) (v := .int (z6.1 4 0)) (C := RX7) (T := TX7) (N := 6) hx hb hts hinX7 hown hK.1 hP 19 rfl rfl 4 (by decide) (hts (.fieldLink RX11 193 "RopeScale$Rope" "flung" "I") (List.mem_of_getElem? (i := 7) rfl)) (fun _ h9 => h9) rfl dX11_tried_140 ?_
          have e9 := Option.some.inj hf
          exact retM hx hb hr hlocks hP hD hS (congrArg (fun z => z.1) e9) (congrArg (fun z => (WX11 T h a a aa u utp ucu unw ukp z.2.1 z.2.2.1 ugi urd uch urk upa uwl z.2.2.2 usl uto usw : va_W)) e9) dX11_tried_143
        replace hf := ifn c11 hf
        by_cases c12 : p2 = 3
        · replace hf := ifp c12 hf
          refine lv_tableIn (off := 55) (tgt := 144) hx hb dX11_tried_89 (by rw [c12]; decide) (by rw [c12]; decide) (by rw [c12]; rfl) (by decide) ?_
          refine lv_aload_n hx hb dX11_tried_144 rfl (lv_at hl 0 rfl) ?_
          refine va_get (D := D) (ci := 11) (v := .ref (a 4)) (C := RX11) (T := TX11) (N := 16) hx hb hts hinX11 hown hK.1 hP 0 rfl rfl 4 (by decide) (hts (.fieldLink RX11 35 "RopeScale" "trial" "LRopeScale$Walk;") (List.mem_of_getElem? (i := 1) rfl)) (fun _ h9 => h9) rfl dX11_tried_145 ?_
          refine va_get (D := D) (ci := 9) (v := .int (z6.2.1 5 0)) (C := RX9) (T := TX9) (N := 8) hx hb hts hinX9 hown hK.1 hP 14 rfl rfl 5 (by decide) (hts (.fieldLink RX11 196 "RopeScale$Walk" "over" "I") (List.mem_of_getElem? (i := 8) rfl)) (fun _ h9 => h9) rfl dX11_tried_148 ?_
          obtain ⟨z13, hz13, hf⟩ := lett_e hf
          refine cSR (As := [.int (z6.2.1 5 0)]) (rest := []) ⟨hx, hb, hml, hown, hts⟩ (mJ6_bitCount_0f7a4 l D T (z6.2.1 5 0) z13 hz13.symm) (va_cwS 1 hts gX11_tried_J6_bitCount_0f7a4 rfl rfl rfl (by decide +kernel) ⟨Nat.le_of_ble_eq_true rfl, Nat.le_of_ble_eq_true rfl⟩) P0 hK rfl hl.1 rfl (Nat.le_of_ble_eq_true rfl) dX11_tried_151 ⟨Nat.le_of_ble_eq_true rfl, Nat.le_of_ble_eq_true rfl⟩ hP hS (fun H locs hP hS => ?_)
          have e9 := Option.some.inj hf
          exact retM hx hb hr hlocks hP hD hS (congrArg (fun z => z.1) e9) (congrArg (fun z => (WX11 T h a a aa u utp ucu unw ukp z.2.1 z.2.2.1 ugi urd uch urk upa uwl z.2.2.2 usl uto usw : va_W)) e9) dX11_tried_154
        replace hf := ifn c12 hf
        refine lv_tableOut (tgt := 155) hx hb dX11_tried_89 (sw_out (x := p2) 4 (by decide) (fun k9 hk9 => match k9, hk9 with | 0, _ => fun e9 => c9 (e9.trans (by decide)) | 1, _ => fun e9 => c10 (e9.trans (by decide)) | 2, _ => fun e9 => c11 (e9.trans (by decide)) | 3, _ => fun e9 => c12 (e9.trans (by decide)) | k9 + 4, hk9 => absurd hk9 (by omega))) (by decide) ?_
        refine lv_aload_n hx hb dX11_tried_155 rfl (lv_at hl 0 rfl) ?_
        refine va_get (D := D) (ci := 11) (v := .ref (a 5)) (C := RX11) (T := TX11) (N := 16) hx hb hts hinX11 hown hK.1 hP 0 rfl rfl 5 (by decide) (hts (.fieldLink RX11 41 "RopeScale" "rope" "LRopeScale$Rope;") (List.mem_of_getElem? (i := 3) rfl)) (fun _ h9 => h9) rfl dX11_tried_156 ?_
        refine va_get (D := D) (ci := 7) (v := .int (z6.1 5 0)) (C := RX7) (T := TX7) (N := 6) hx hb hts hinX7 hown hK.1 hP 19 rfl rfl 5 (by decide) (hts (.fieldLink RX11 205 "RopeScale$Rope" "toes" "I") (List.mem_of_getElem? (i := 9) rfl)) (fun _ h9 => h9) rfl dX11_tried_159 ?_
        have e9 := Option.some.inj hf
        exact retM hx hb hr hlocks hP hD hS (congrArg (fun z => z.1) e9) (congrArg (fun z => (WX11 T h a a aa u utp ucu unw ukp z.2.1 z.2.2.1 ugi urd uch urk upa uwl z.2.2.2 usl uto usw : va_W)) e9) dX11_tried_162
      replace hf := ifn c8 hf
      refine lv_aload_n hx hb dX11_tried_75 rfl (lv_at hl 0 rfl) ?_
      refine va_get (D := D) (ci := 11) (v := .ref (a 4)) (C := RX11) (T := TX11) (N := 16) hx hb hts hinX11 hown hK.1 hP 0 rfl rfl 4 (by decide) (hts (.fieldLink RX11 35 "RopeScale" "trial" "LRopeScale$Walk;") (List.mem_of_getElem? (i := 1) rfl)) (fun _ h9 => h9) rfl dX11_tried_76 ?_
      refine lv_iload_n hx hb dX11_tried_79 rfl (lv_at hl 2 rfl) ?_
      refine lv_bipush (v := 100) hx hb dX11_tried_80 (by decide) ?_
      refine lv_isub hx hb dX11_tried_82 ?_
      refine lv_iconst (v := 0) hx hb dX11_tried_83 (by decide) ?_
      obtain ⟨z14, hz14, hf⟩ := bnd hf
      refine cVR (As := [.int (p2 - 100), .int 0]) (rest := []) ⟨hx, hb, hml, hown, hts⟩ (mX9_factOf l D T (a 4) (aa 5) z6.2.1 (p2 - 100) 0 z14 hz14) (cwV 2 hts gX11_tried_X9_factOf rfl rfl rfl (by decide +kernel) ⟨Nat.le_of_ble_eq_true rfl, Nat.le_of_ble_eq_true rfl⟩) (va_recv hK.1 hP (ci := 9) (q0 := 14) rfl rfl) (hP.sub (ws' := kX9 T (a 4) (aa 5) z6.2.1) [14, 15, 16, 17, 18] rfl) hK rfl hl.1 rfl (Nat.le_of_ble_eq_true rfl) dX11_tried_84 ⟨Nat.le_of_ble_eq_true rfl, Nat.le_of_ble_eq_true rfl⟩ hP hS (fun H locs hP hS => ?_)
      have e9 := Option.some.inj hf
      exact retM hx hb hr hlocks hP hD hS (congrArg (fun z => z.1) e9) (congrArg (fun z => (WX11 T h a a aa u utp ucu unw ukp z.2.1 z.2.2.1 ugi urd uch urk upa uwl z.2.2.2 usl uto usw : va_W)) e9) dX11_tried_87
    replace hf := ifn c7 hf
    refine lv_aload_n hx hb dX11_tried_55 rfl (lv_at hl 0 rfl) ?_
    refine va_get (D := D) (ci := 11) (v := .ref (a 4)) (C := RX11) (T := TX11) (N := 16) hx hb hts hinX11 hown hK.1 hP 0 rfl rfl 4 (by decide) (hts (.fieldLink RX11 35 "RopeScale" "trial" "LRopeScale$Walk;") (List.mem_of_getElem? (i := 1) rfl)) (fun _ h9 => h9) rfl dX11_tried_56 ?_
    refine lv_iload_n hx hb dX11_tried_59 rfl (lv_at hl 2 rfl) ?_
    refine lv_sipush (v := 200) hx hb dX11_tried_60 (by decide) ?_
    refine lv_isub hx hb dX11_tried_63 ?_
    refine lv_iconst (v := 4) hx hb dX11_tried_64 (by decide) ?_
    obtain ⟨z15, hz15, hf⟩ := bnd hf
    refine cVR (As := [.int (p2 - 200), .int 4]) (rest := []) ⟨hx, hb, hml, hown, hts⟩ (mX9_factOf l D T (a 4) (aa 5) z6.2.1 (p2 - 200) 4 z15 hz15) (cwV 2 hts gX11_tried_X9_factOf rfl rfl rfl (by decide +kernel) ⟨Nat.le_of_ble_eq_true rfl, Nat.le_of_ble_eq_true rfl⟩) (va_recv hK.1 hP (ci := 9) (q0 := 14) rfl rfl) (hP.sub (ws' := kX9 T (a 4) (aa 5) z6.2.1) [14, 15, 16, 17, 18] rfl) hK rfl hl.1 rfl (Nat.le_of_ble_eq_true rfl) dX11_tried_65 ⟨Nat.le_of_ble_eq_true rfl, Nat.le_of_ble_eq_true rfl⟩ hP hS (fun H locs hP hS => ?_)
    have e9 := Option.some.inj hf
    exact retM hx hb hr hlocks hP hD hS (congrArg (fun z => z.1) e9) (congrArg (fun z => (WX11 T h a a aa u utp ucu unw ukp z.2.1 z.2.2.1 ugi urd uch urk upa uwl z.2.2.2 usl uto usw : va_W)) e9) dX11_tried_68
  replace hf := ifp c4 hf
  refine lv_iconst (v := (-1)) hx hb dX11_tried_19 (by decide) ?_
  have e9 := Option.some.inj hf
  exact retM hx hb hr hlocks hP hD hS (congrArg (fun z => z.1) e9) (congrArg (fun z => (WX11 T h a a aa u utp ucu unw ukp z.2.1 z.2.2.1 ugi urd uch urk upa uwl z.2.2.2 usl uto usw : va_W)) e9) dX11_tried_20
set_option maxHeartbeats 4000000 in
set_option maxRecDepth 100000 in
theorem mX11_walkerIs (l : Launch) (D : va_G) (T : Ty3) (aa : Nat → Nat → Nat) (h : Nat) (a : Nat → Nat) (u : St) (utp : St) (ucu : St) (unw : St) (ukp : St) (utr : St) (uro : St) (ugi : St) (urd : St) (uch : St) (urk : St) (upa : St) (uwl : Nat → Int64) (uva : St) (usl : St) (uto : St) (usw : St) (p1 : Int32) (p2 : Int32) (res : Int32) (hf : fX11_walkerIs unw p1 p2 = some res) : Met l yX11_walkerIs wsX11_walkerIs ({ frames := 4, cells := 0, slots := 0, locals := 85 }) (PcR D T (WX11 T h a a aa u utp ucu unw ukp utr uro ugi urd uch urk upa uwl uva usl uto usw) [.ref h, .int p1, .int p2]) (QR res) 0 0 noA := by
  refine Met.ofW (cc := cX11_walkerIs) (maxL := 3) (ret := (some .int)) (by decide) rfl ?_
  intro p e s m args below meth c s₁ B hml hv
  obtain ⟨rfl, hP, hK⟩ := hv
  have hx := B.exec
  have hb := B.bytes
  have hr := B.returns
  have hts := atoms_spec (ws := wsX11_walkerIs) B.pre
  have hown : s.vm.findClass RX11 = some m.cls := findClass_of_methodNamed B.named
  have hlocks := B.notSynchronized
  have hS : va_S noA s.heap s.heap [] := va_S.rf
  have hinX11 : ∀ w ∈ u_ws RX11 TX11 16, w ∈ wsX11_walkerIs := fun w h => List.mem_cons_of_mem _ (List.mem_append_left _ (List.mem_append_right _ h))
  have hinX9 : ∀ w ∈ u_ws RX9 TX9 8, w ∈ wsX11_walkerIs := fun w h => List.mem_cons_of_mem _ (List.mem_append_right _ h)
  have hl := lv_entry ([.ref h, .int p1, .int p2]) (n := 3) (Nat.le_of_ble_eq_true rfl)
  rw [lg_entry_eq]
  generalize (lg_sl ([.ref h, .int p1, .int p2]) ++ List.replicate (3 - (lg_sl ([.ref h, .int p1, .int p2])).length) Slot.unset).toArray = ls at hl ⊢
  have hl : lv_has ls 3 [(0, .ref h), (1, .int p1), (2, .int p2)] := hl
  unfold fX11_walkerIs at hf
  refine lv_aload_n hx hb dX11_walkerIs_0 rfl (lv_at hl 0 rfl) ?_
  refine va_get (D := D) (ci := 11) (v := .ref (a 2)) (C := RX11) (T := TX11) (N := 16) hx hb hts hinX11 hown hK.1 hP 0 rfl rfl 2 (by decide) (hts (.fieldLink RX11 28 "RopeScale" "now" "LRopeScale$Walk;") (List.mem_of_getElem? (i := 1) rfl)) (fun _ h9 => h9) rfl dX11_walkerIs_1 ?_
  refine lv_iload_n hx hb dX11_walkerIs_4 rfl (lv_at hl 1 rfl) ?_
  refine lv_iload_n hx hb dX11_walkerIs_5 rfl (lv_at hl 2 rfl) ?_
  obtain ⟨z1, hz1, hf⟩ := bnd hf
  refine cVR (As := [.int p1, .int p2]) (rest := []) ⟨hx, hb, hml, hown, hts⟩ (mX9_factOf l D T (a 2) (aa 3) unw p1 p2 z1 hz1) (cwV 2 hts gX11_walkerIs_X9_factOf rfl rfl rfl (by decide +kernel) ⟨Nat.le_of_ble_eq_true rfl, Nat.le_of_ble_eq_true rfl⟩) (va_recv hK.1 hP (ci := 9) (q0 := 4) rfl rfl) (hP.sub (ws' := kX9 T (a 2) (aa 3) unw) [4, 5, 6, 7, 8] rfl) hK rfl hl.1 rfl (Nat.le_of_ble_eq_true rfl) dX11_walkerIs_6 ⟨Nat.le_of_ble_eq_true rfl, Nat.le_of_ble_eq_true rfl⟩ hP hS (fun H locs hP hS => ?_)
  exact retR hx hb hr hlocks hS (Option.some.inj hf) dX11_walkerIs_9
set_option maxHeartbeats 4000000 in
set_option maxRecDepth 100000 in
theorem mX11_standsFor (l : Launch) (D : va_G) (T : Ty3) (aa : Nat → Nat → Nat) (h : Nat) (a : Nat → Nat) (u : St) (utp : St) (ucu : St) (unw : St) (ukp : St) (utr : St) (uro : St) (ugi : St) (urd : St) (uch : St) (urk : St) (upa : St) (uwl : Nat → Int64) (uva : St) (usl : St) (uto : St) (usw : St) (sz : Nat) (p1 : Int32) (p2 : Int32) (res : Int32 × St) (hf : fX11_standsFor unw uch p1 p2 = some res) : Met l yX11_standsFor wsX11_standsFor ({ frames := 3, cells := 0, slots := 0, locals := 63 }) (PcM D T (WX11 T h a a aa u utp ucu unw ukp utr uro ugi urd uch urk upa uwl uva usl uto usw) sz [.ref h, .int p1, .int p2]) (QM D (WX11 T h a a aa u utp ucu unw ukp utr uro ugi urd uch urk upa uwl uva usl uto usw) sz res.1 (WX11 T h a a aa u utp ucu unw ukp utr uro ugi urd res.2 urk upa uwl uva usl uto usw)) 0 0 (va_A (WX11 T h a a aa u utp ucu unw ukp utr uro ugi urd uch urk upa uwl uva usl uto usw) sz) := by
  refine Met.ofW (cc := cX11_standsFor) (maxL := 4) (ret := (some .int)) (by decide) rfl ?_
  intro p e s m args below meth c s₁ B hml hv
  obtain ⟨rfl, hsz, hP, hK, hD0⟩ := hv
  have hx := B.exec
  have hb := B.bytes
  have hr := B.returns
  have hts := atoms_spec (ws := wsX11_standsFor) B.pre
  have hown : s.vm.findClass RX11 = some m.cls := findClass_of_methodNamed B.named
  have hlocks := B.notSynchronized
  subst hsz
  have hD := hD0.self (sz := s.heap.size)
  have hA : ∀ q : Nat, s.heap.size ≤ q → va_A (WX11 T h a a aa u utp ucu unw ukp utr uro ugi urd uch urk upa uwl uva usl uto usw) s.heap.size q := fun q h => Or.inr h
  have hS : va_S (va_A (WX11 T h a a aa u utp ucu unw ukp utr uro ugi urd uch urk upa uwl uva usl uto usw) s.heap.size) s.heap s.heap [] := va_S.rf
  have hinX11 : ∀ w ∈ u_ws RX11 TX11 16, w ∈ wsX11_standsFor := fun w h => List.mem_cons_of_mem _ (List.mem_append_left _ (List.mem_append_left _ (List.mem_append_right _ h)))
  have hinX9 : ∀ w ∈ u_ws RX9 TX9 8, w ∈ wsX11_standsFor := fun w h => List.mem_cons_of_mem _ (List.mem_append_left _ (List.mem_append_right _ h))
  have hinX0 : ∀ w ∈ u_ws RX0 TX0 6, w ∈ wsX11_standsFor := fun w h => List.mem_cons_of_mem _ (List.mem_append_right _ h)
  have hl := lv_entry ([.ref h, .int p1, .int p2]) (n := 4) (Nat.le_of_ble_eq_true rfl)
  rw [lg_entry_eq]
  generalize (lg_sl ([.ref h, .int p1, .int p2]) ++ List.replicate (4 - (lg_sl ([.ref h, .int p1, .int p2])).length) Slot.unset).toArray = ls at hl ⊢
  have hl : lv_has ls 4 [(0, .ref h), (1, .int p1), (2, .int p2)] := hl
  unfold fX11_standsFor at hf
  refine lv_aload_n hx hb dX11_standsFor_0 rfl (lv_at hl 0 rfl) ?_
  refine va_get (D := D) (ci := 11) (v := .ref (a 2)) (C := RX11) (T := TX11) (N := 16) hx hb hts hinX11 hown hK.1 hP 0 rfl rfl 2 (by decide) (hts (.fieldLink RX11 28 "RopeScale" "now" "LRopeScale$Walk;") (List.mem_of_getElem? (i := 1) rfl)) (fun _ h9 => h9) rfl dX11_standsFor_1 ?_
  refine lv_iload_n hx hb dX11_standsFor_4 rfl (lv_at hl 1 rfl) ?_
  obtain ⟨z1, hz1, hf⟩ := bnd hf
  refine cVR (As := [.int p1]) (rest := []) ⟨hx, hb, hml, hown, hts⟩ (mX9_knows l D T (a 2) (aa 3) unw p1 z1 hz1) (cwV 1 hts gX11_standsFor_X9_knows rfl rfl rfl (by decide +kernel) ⟨Nat.le_of_ble_eq_true rfl, Nat.le_of_ble_eq_true rfl⟩) (va_recv hK.1 hP (ci := 9) (q0 := 4) rfl rfl) (hP.sub (ws' := kX9 T (a 2) (aa 3) unw) [4, 5, 6, 7, 8] rfl) hK rfl hl.1 rfl (Nat.le_of_ble_eq_true rfl) dX11_standsFor_5 ⟨Nat.le_of_ble_eq_true rfl, Nat.le_of_ble_eq_true rfl⟩ hP hS (fun H locs hP hS => ?_)
  refine lv_if_eq (tgt := 20) hx hb dX11_standsFor_8 (by decide) (fun c2 => ?_) (fun c2 => ?_)
  · replace hf := ifp c2 hf
    refine lv_iconst (v := (-1)) hx hb dX11_standsFor_20 (by decide) ?_
    have e9 := Option.some.inj hf
    exact retM hx hb hr hlocks hP hD hS (congrArg (fun z => z.1) e9) (congrArg (fun z => (WX11 T h a a aa u utp ucu unw ukp utr uro ugi urd z.2 urk upa uwl uva usl uto usw : va_W)) e9) dX11_standsFor_21
  replace hf := ifn c2 hf
  refine lv_iload_n hx hb dX11_standsFor_11 rfl (lv_at hl 2 rfl) ?_
  refine lv_iconst (v := 0) hx hb dX11_standsFor_12 (by decide) ?_
  refine lv_iconst (v := 1) hx hb dX11_standsFor_13 (by decide) ?_
  obtain ⟨z3, hz3, hf⟩ := lett_e hf
  refine cSR (As := [.int p2, .int 0, .int 1]) (rest := []) ⟨hx, hb, hml, hown, hts⟩ (mX11_isWithin l D T p2 0 1 z3 hz3.symm) (va_cwS 3 hts gX11_standsFor_X11_isWithin rfl rfl rfl (by decide +kernel) ⟨Nat.le_of_ble_eq_true rfl, Nat.le_of_ble_eq_true rfl⟩) P0 hK rfl hl.1 rfl (Nat.le_of_ble_eq_true rfl) dX11_standsFor_14 ⟨Nat.le_of_ble_eq_true rfl, Nat.le_of_ble_eq_true rfl⟩ hP hS (fun H locs hP hS => ?_)
  refine lv_if_ne (tgt := 22) hx hb dX11_standsFor_17 (by decide) (fun c4 => ?_) (fun c4 => ?_)
  · replace hf := ifn c4 hf
    refine lv_aload_n hx hb dX11_standsFor_22 rfl (lv_at hl 0 rfl) ?_
    refine va_get (D := D) (ci := 11) (v := .ref (a 8)) (C := RX11) (T := TX11) (N := 16) hx hb hts hinX11 hown hK.1 hP 0 rfl rfl 8 (by decide) (hts (.fieldLink RX11 64 "RopeScale" "choices" "LRopeScale$Choices;") (List.mem_of_getElem? (i := 2) rfl)) (fun _ h9 => h9) rfl dX11_standsFor_23 ?_
    refine lv_aload_n hx hb dX11_standsFor_26 rfl (lv_at hl 0 rfl) ?_
    refine va_get (D := D) (ci := 11) (v := .ref (a 2)) (C := RX11) (T := TX11) (N := 16) hx hb hts hinX11 hown hK.1 hP 0 rfl rfl 2 (by decide) (hts (.fieldLink RX11 28 "RopeScale" "now" "LRopeScale$Walk;") (List.mem_of_getElem? (i := 1) rfl)) (fun _ h9 => h9) rfl dX11_standsFor_27 ?_
    refine va_get (D := D) (ci := 9) (v := .ref ((aa 3) 0)) (C := RX9) (T := TX9) (N := 8) hx hb hts hinX9 hown hK.1 hP 4 rfl rfl 0 (by decide) (hts (.fieldLink RX11 211 "RopeScale$Walk" "weight" "[I") (List.mem_of_getElem? (i := 3) rfl)) (fun _ h9 => h9) rfl dX11_standsFor_30 ?_
    obtain ⟨z5, hz5, hf⟩ := bnd hf
    have hPc := hP.sub (ws' := kX0 T (a 8) (aa 9) uch ++ [((aa 3) 0, .inl (T.1, 16, .inl (unw 0)))]) [25, 26, 27, 28, 29, 30, 31, 5] rfl
    have hDc := hD.sub (ws' := kX0 T (a 8) (aa 9) uch ++ [((aa 3) 0, .inl (T.1, 16, .inl (unw 0)))]) [25, 26, 27, 28, 29, 30, 31, 5] (by decide) rfl
    have hFc9 := va_free (wc := kX0 T (a 8) (aa 9) uch ++ [((aa 3) 0, .inl (T.1, 16, .inl (unw 0)))]) hD hS hA [25, 26, 27, 28, 29, 30, 31, 5] rfl
    refine cVMv (As := [.ref ((aa 3) 0)]) (rest := []) ⟨hx, hb, hml, hown, hts⟩ (mX0_weigh l D T (a 8) (aa 9) uch ((aa 3) 0) (unw 0) _ z5 hz5) (cwV 1 hts gX11_standsFor_X0_weigh rfl rfl rfl (by decide +kernel) ⟨Nat.le_of_ble_eq_true rfl, Nat.le_of_ble_eq_true rfl⟩) (va_recv hK.1 hP (ci := 0) (q0 := 25) rfl rfl) hPc hK rfl hl.1 rfl (Nat.le_of_ble_eq_true rfl) dX11_standsFor_33 ⟨Nat.le_of_ble_eq_true rfl, Nat.le_of_ble_eq_true rfl⟩ hDc hFc9 hS (fun H9 locs hP1 hD1 hk1 hS => ?_)
    obtain ⟨hP, hD⟩ := putAll_P (w1 := kX0 T (a 8) (aa 9) z5 ++ [((aa 3) 0, .inl (T.1, 16, .inl (unw 0)))]) hP hD [25, 26, 27, 28, 29, 30, 31, 5] rfl (by decide) hk1 hP1 rfl
    generalize H9 = H at hP hS ⊢
    have hP : va_P D vwCl (WX11 T h a a aa u utp ucu unw ukp utr uro ugi urd z5 urk upa uwl uva usl uto usw) H := by exact hP
    have hD : va_D (va_A (WX11 T h a a aa u utp ucu unw ukp utr uro ugi urd uch urk upa uwl uva usl uto usw) s.heap.size) (WX11 T h a a aa u utp ucu unw ukp utr uro ugi urd z5 urk upa uwl uva usl uto usw) := by exact hD
    refine lv_aload_n hx hb dX11_standsFor_36 rfl (lv_at hl 0 rfl) ?_
    refine va_get (D := D) (ci := 11) (v := .ref (a 8)) (C := RX11) (T := TX11) (N := 16) hx hb hts hinX11 hown hK.1 hP 0 rfl rfl 8 (by decide) (hts (.fieldLink RX11 64 "RopeScale" "choices" "LRopeScale$Choices;") (List.mem_of_getElem? (i := 2) rfl)) (fun _ h9 => h9) rfl dX11_standsFor_37 ?_
    refine lv_aload_n hx hb dX11_standsFor_40 rfl (lv_at hl 0 rfl) ?_
    refine va_get (D := D) (ci := 11) (v := .ref (a 2)) (C := RX11) (T := TX11) (N := 16) hx hb hts hinX11 hown hK.1 hP 0 rfl rfl 2 (by decide) (hts (.fieldLink RX11 28 "RopeScale" "now" "LRopeScale$Walk;") (List.mem_of_getElem? (i := 1) rfl)) (fun _ h9 => h9) rfl dX11_standsFor_41 ?_
    refine lv_iload_n hx hb dX11_standsFor_44 rfl (lv_at hl 1 rfl) ?_
    obtain ⟨z6, hz6, hf⟩ := lett_e hf
    refine cVR (As := [.int p1]) (rest := [.ref (a 8)]) ⟨hx, hb, hml, hown, hts⟩ (mX9_othersHere l D T (a 2) (aa 3) unw p1 z6 hz6.symm) (cwV 1 hts gX11_standsFor_X9_othersHere rfl rfl rfl (by decide +kernel) ⟨Nat.le_of_ble_eq_true rfl, Nat.le_of_ble_eq_true rfl⟩) (va_recv hK.1 hP (ci := 9) (q0 := 4) rfl rfl) (hP.sub (ws' := kX9 T (a 2) (aa 3) unw) [4, 5, 6, 7, 8] rfl) hK rfl hl.1 rfl (Nat.le_of_ble_eq_true rfl) dX11_standsFor_45 ⟨Nat.le_of_ble_eq_true rfl, Nat.le_of_ble_eq_true rfl⟩ hP hS (fun H locs hP hS => ?_)
    refine lv_aload_n hx hb dX11_standsFor_48 rfl (lv_at hl 0 rfl) ?_
    refine va_get (D := D) (ci := 11) (v := .ref (a 2)) (C := RX11) (T := TX11) (N := 16) hx hb hts hinX11 hown hK.1 hP 0 rfl rfl 2 (by decide) (hts (.fieldLink RX11 28 "RopeScale" "now" "LRopeScale$Walk;") (List.mem_of_getElem? (i := 1) rfl)) (fun _ h9 => h9) rfl dX11_standsFor_49 ?_
    refine va_get (D := D) (ci := 9) (v := .ref ((aa 3) 0)) (C := RX9) (T := TX9) (N := 8) hx hb hts hinX9 hown hK.1 hP 4 rfl rfl 0 (by decide) (hts (.fieldLink RX11 211 "RopeScale$Walk" "weight" "[I") (List.mem_of_getElem? (i := 3) rfl)) (fun _ h9 => h9) rfl dX11_standsFor_52 ?_
    refine lv_iload_n hx hb dX11_standsFor_55 rfl (lv_at hl 1 rfl) ?_
    obtain ⟨h11, hf⟩ := gd_e hf
    refine va_iald hx hb hK.1 hP 5 0 rfl rfl h11 dX11_standsFor_56 ?_
    obtain ⟨z7, hz7, hf⟩ := bnd hf
    refine cVR (As := [.int z6, .int (unw 0 (ix p1))]) (rest := []) ⟨hx, hb, hml, hown, hts⟩ (mX0_nearest l D T (a 8) (aa 9) z5 z6 (unw 0 (ix p1)) z7 hz7) (cwV 2 hts gX11_standsFor_X0_nearest rfl rfl rfl (by decide +kernel) ⟨Nat.le_of_ble_eq_true rfl, Nat.le_of_ble_eq_true rfl⟩) (va_recv hK.1 hP (ci := 0) (q0 := 25) rfl rfl) (hP.sub (ws' := kX0 T (a 8) (aa 9) z5) [25, 26, 27, 28, 29, 30, 31] rfl) hK rfl hl.1 rfl (Nat.le_of_ble_eq_true rfl) dX11_standsFor_57 ⟨Nat.le_of_ble_eq_true rfl, Nat.le_of_ble_eq_true rfl⟩ hP hS (fun H locs hP hS => ?_)
    refine lv_istore_n (lv' := [(3, .int z7), (0, .ref h), (1, .int p1), (2, .int p2)]) hx hb dX11_standsFor_60 rfl hl (by decide) rfl (fun ls hl => ?_)
    refine lv_iload_n hx hb dX11_standsFor_61 rfl (lv_at hl 3 rfl) ?_
    refine lv_if_ne (tgt := 69) hx hb dX11_standsFor_62 (by decide) (fun c8 => ?_) (fun c8 => ?_)
    · replace hf := ifn c8 hf
      refine lv_aload_n hx hb dX11_standsFor_69 rfl (lv_at hl 1 rfl) ?_
      refine va_get (D := D) (ci := 11) (v := .ref (a 8)) (C := RX11) (T := TX11) (N := 16) hx hb hts hinX11 hown hK.1 hP 0 rfl rfl 8 (by decide) (hts (.fieldLink RX11 64 "RopeScale" "choices" "LRopeScale$Choices;") (List.mem_of_getElem? (i := 2) rfl)) (fun _ h9 => h9) rfl dX11_standsFor_70 ?_
      refine lv_iload_n hx hb dX11_standsFor_73 rfl (lv_at hl 0 rfl) ?_
      obtain ⟨z9, hz9, hf⟩ := bnd hf
      refine cVR (As := [.int z7]) (rest := []) ⟨hx, hb, hml, hown, hts⟩ (mX0_sum l D T (a 8) (aa 9) z5 z7 z9 hz9) (cwV 1 hts gX11_standsFor_X0_sum rfl rfl rfl (by decide +kernel) ⟨Nat.le_of_ble_eq_true rfl, Nat.le_of_ble_eq_true rfl⟩) (va_recv hK.1 hP (ci := 0) (q0 := 25) rfl rfl) (hP.sub (ws' := kX0 T (a 8) (aa 9) z5) [25, 26, 27, 28, 29, 30, 31] rfl) hK rfl hl.1 rfl (Nat.le_of_ble_eq_true rfl) dX11_standsFor_74 ⟨Nat.le_of_ble_eq_true rfl, Nat.le_of_ble_eq_true rfl⟩ hP hS (fun H locs hP hS => ?_)
      refine lv_aload_n hx hb dX11_standsFor_77 rfl (lv_at hl 1 rfl) ?_
      refine va_get (D := D) (ci := 11) (v := .ref (a 2)) (C := RX11) (T := TX11) (N := 16) hx hb hts hinX11 hown hK.1 hP 0 rfl rfl 2 (by decide) (hts (.fieldLink RX11 28 "RopeScale" "now" "LRopeScale$Walk;") (List.mem_of_getElem? (i := 1) rfl)) (fun _ h9 => h9) rfl dX11_standsFor_78 ?_
      refine va_get (D := D) (ci := 9) (v := .ref ((aa 3) 0)) (C := RX9) (T := TX9) (N := 8) hx hb hts hinX9 hown hK.1 hP 4 rfl rfl 0 (by decide) (hts (.fieldLink RX11 211 "RopeScale$Walk" "weight" "[I") (List.mem_of_getElem? (i := 3) rfl)) (fun _ h9 => h9) rfl dX11_standsFor_81 ?_
      refine lv_iload_n hx hb dX11_standsFor_84 rfl (lv_at hl 2 rfl) ?_
      obtain ⟨h10, hf⟩ := gd_e hf
      refine va_iald hx hb hK.1 hP 5 0 rfl rfl h10 dX11_standsFor_85 ?_
      refine lv_isub hx hb dX11_standsFor_86 ?_
      refine mabs hx hb (hml.trans hl.1.symm) hown (hts (.methodLink RX11 228 Lib.Math.abs.name) (List.mem_of_getElem? (i := 4) rfl)) (hts (.static Lib.Math.abs.name) (List.mem_of_getElem? (i := 5) rfl)) (hts (.initialized "java/lang/Math") (List.mem_of_getElem? (i := 6) rfl)) (hts (.code Lib.Math.abs.name Lib.Math.abs.code 1 (some .int)) (List.mem_of_getElem? (i := 7) rfl)) (Nat.le_of_ble_eq_true rfl) (Nat.le_of_ble_eq_true rfl) (Nat.le_of_ble_eq_true rfl) (Nat.le_of_ble_eq_true rfl) dX11_standsFor_87 ?_
      have e9 := Option.some.inj hf
      exact retM hx hb hr hlocks hP hD hS (congrArg (fun z => z.1) e9) (congrArg (fun z => (WX11 T h a a aa u utp ucu unw ukp utr uro ugi urd z.2 urk upa uwl uva usl uto usw : va_W)) e9) dX11_standsFor_90
    replace hf := ifp c8 hf
    refine lv_iload_n hx hb dX11_standsFor_65 rfl (lv_at hl 0 rfl) ?_
    refine lv_goto (tgt := 90) hx hb dX11_standsFor_66 (by decide) ?_
    have e9 := Option.some.inj hf
    exact retM hx hb hr hlocks hP hD hS (congrArg (fun z => z.1) e9) (congrArg (fun z => (WX11 T h a a aa u utp ucu unw ukp utr uro ugi urd z.2 urk upa uwl uva usl uto usw : va_W)) e9) dX11_standsFor_90
  replace hf := ifp c4 hf
  refine lv_iconst (v := (-1)) hx hb dX11_standsFor_20 (by decide) ?_
  have e9 := Option.some.inj hf
  exact retM hx hb hr hlocks hP hD hS (congrArg (fun z => z.1) e9) (congrArg (fun z => (WX11 T h a a aa u utp ucu unw ukp utr uro ugi urd z.2 urk upa uwl uva usl uto usw : va_W)) e9) dX11_standsFor_21
set_option maxHeartbeats 4000000 in
set_option maxRecDepth 100000 in
theorem mX11_colonel (l : Launch) (D : va_G) (T : Ty3) (aa : Nat → Nat → Nat) (h : Nat) (a : Nat → Nat) (u : St) (utp : St) (ucu : St) (unw : St) (ukp : St) (utr : St) (uro : St) (ugi : St) (urd : St) (uch : St) (urk : St) (upa : St) (uwl : Nat → Int64) (uva : St) (usl : St) (uto : St) (usw : St) (sz : Nat) (p1 : Int32) (p2 : Int32) (res : Int32 × St) (hf : fX11_colonel unw uro uch p1 p2 = some res) : Met l yX11_colonel wsX11_colonel ({ frames := 3, cells := 0, slots := 0, locals := 63 }) (PcM D T (WX11 T h a a aa u utp ucu unw ukp utr uro ugi urd uch urk upa uwl uva usl uto usw) sz [.ref h, .int p1, .int p2]) (QM D (WX11 T h a a aa u utp ucu unw ukp utr uro ugi urd uch urk upa uwl uva usl uto usw) sz res.1 (WX11 T h a a aa u utp ucu unw ukp utr uro ugi urd res.2 urk upa uwl uva usl uto usw)) 0 0 (va_A (WX11 T h a a aa u utp ucu unw ukp utr uro ugi urd uch urk upa uwl uva usl uto usw) sz) := by
  refine Met.ofW (cc := cX11_colonel) (maxL := 3) (ret := (some .int)) (by decide) rfl ?_
  intro p e s m args below meth c s₁ B hml hv
  obtain ⟨rfl, hsz, hP, hK, hD0⟩ := hv
  have hx := B.exec
  have hb := B.bytes
  have hr := B.returns
  have hts := atoms_spec (ws := wsX11_colonel) B.pre
  have hown : s.vm.findClass RX11 = some m.cls := findClass_of_methodNamed B.named
  have hlocks := B.notSynchronized
  subst hsz
  have hD := hD0.self (sz := s.heap.size)
  have hA : ∀ q : Nat, s.heap.size ≤ q → va_A (WX11 T h a a aa u utp ucu unw ukp utr uro ugi urd uch urk upa uwl uva usl uto usw) s.heap.size q := fun q h => Or.inr h
  have hS : va_S (va_A (WX11 T h a a aa u utp ucu unw ukp utr uro ugi urd uch urk upa uwl uva usl uto usw) s.heap.size) s.heap s.heap [] := va_S.rf
  have hinX11 : ∀ w ∈ u_ws RX11 TX11 16, w ∈ wsX11_colonel := fun w h => List.mem_cons_of_mem _ (List.mem_append_left _ (List.mem_append_left _ (List.mem_append_left _ (List.mem_append_right _ h))))
  have hinX9 : ∀ w ∈ u_ws RX9 TX9 8, w ∈ wsX11_colonel := fun w h => List.mem_cons_of_mem _ (List.mem_append_left _ (List.mem_append_left _ (List.mem_append_right _ h)))
  have hinX7 : ∀ w ∈ u_ws RX7 TX7 6, w ∈ wsX11_colonel := fun w h => List.mem_cons_of_mem _ (List.mem_append_left _ (List.mem_append_right _ h))
  have hinX0 : ∀ w ∈ u_ws RX0 TX0 6, w ∈ wsX11_colonel := fun w h => List.mem_cons_of_mem _ (List.mem_append_right _ h)
  have hl := lv_entry ([.ref h, .int p1, .int p2]) (n := 3) (Nat.le_of_ble_eq_true rfl)
  rw [lg_entry_eq]
  generalize (lg_sl ([.ref h, .int p1, .int p2]) ++ List.replicate (3 - (lg_sl ([.ref h, .int p1, .int p2])).length) Slot.unset).toArray = ls at hl ⊢
  have hl : lv_has ls 3 [(0, .ref h), (1, .int p1), (2, .int p2)] := hl
  unfold fX11_colonel at hf
  refine lv_aload_n hx hb dX11_colonel_0 rfl (lv_at hl 0 rfl) ?_
  refine va_get (D := D) (ci := 11) (v := .ref (a 2)) (C := RX11) (T := TX11) (N := 16) hx hb hts hinX11 hown hK.1 hP 0 rfl rfl 2 (by decide) (hts (.fieldLink RX11 28 "RopeScale" "now" "LRopeScale$Walk;") (List.mem_of_getElem? (i := 1) rfl)) (fun _ h9 => h9) rfl dX11_colonel_1 ?_
  refine lv_iload_n hx hb dX11_colonel_4 rfl (lv_at hl 1 rfl) ?_
  obtain ⟨z1, hz1, hf⟩ := bnd hf
  refine cVR (As := [.int p1]) (rest := []) ⟨hx, hb, hml, hown, hts⟩ (mX9_knows l D T (a 2) (aa 3) unw p1 z1 hz1) (cwV 1 hts gX11_colonel_X9_knows rfl rfl rfl (by decide +kernel) ⟨Nat.le_of_ble_eq_true rfl, Nat.le_of_ble_eq_true rfl⟩) (va_recv hK.1 hP (ci := 9) (q0 := 4) rfl rfl) (hP.sub (ws' := kX9 T (a 2) (aa 3) unw) [4, 5, 6, 7, 8] rfl) hK rfl hl.1 rfl (Nat.le_of_ble_eq_true rfl) dX11_colonel_5 ⟨Nat.le_of_ble_eq_true rfl, Nat.le_of_ble_eq_true rfl⟩ hP hS (fun H locs hP hS => ?_)
  refine lv_if_eq (tgt := 21) hx hb dX11_colonel_8 (by decide) (fun c2 => ?_) (fun c2 => ?_)
  · replace hf := ifp c2 hf
    refine lv_iconst (v := (-1)) hx hb dX11_colonel_21 (by decide) ?_
    have e9 := Option.some.inj hf
    exact retM hx hb hr hlocks hP hD hS (congrArg (fun z => z.1) e9) (congrArg (fun z => (WX11 T h a a aa u utp ucu unw ukp utr uro ugi urd z.2 urk upa uwl uva usl uto usw : va_W)) e9) dX11_colonel_22
  replace hf := ifn c2 hf
  refine lv_iload_n hx hb dX11_colonel_11 rfl (lv_at hl 2 rfl) ?_
  refine lv_iconst (v := 1) hx hb dX11_colonel_12 (by decide) ?_
  refine lv_bipush (v := 15) hx hb dX11_colonel_13 (by decide) ?_
  obtain ⟨z3, hz3, hf⟩ := lett_e hf
  refine cSR (As := [.int p2, .int 1, .int 15]) (rest := []) ⟨hx, hb, hml, hown, hts⟩ (mX11_isWithin l D T p2 1 15 z3 hz3.symm) (va_cwS 3 hts gX11_colonel_X11_isWithin rfl rfl rfl (by decide +kernel) ⟨Nat.le_of_ble_eq_true rfl, Nat.le_of_ble_eq_true rfl⟩) P0 hK rfl hl.1 rfl (Nat.le_of_ble_eq_true rfl) dX11_colonel_15 ⟨Nat.le_of_ble_eq_true rfl, Nat.le_of_ble_eq_true rfl⟩ hP hS (fun H locs hP hS => ?_)
  refine lv_if_ne (tgt := 23) hx hb dX11_colonel_18 (by decide) (fun c4 => ?_) (fun c4 => ?_)
  · replace hf := ifn c4 hf
    refine lv_aload_n hx hb dX11_colonel_23 rfl (lv_at hl 0 rfl) ?_
    refine va_get (D := D) (ci := 11) (v := .ref (a 8)) (C := RX11) (T := TX11) (N := 16) hx hb hts hinX11 hown hK.1 hP 0 rfl rfl 8 (by decide) (hts (.fieldLink RX11 64 "RopeScale" "choices" "LRopeScale$Choices;") (List.mem_of_getElem? (i := 2) rfl)) (fun _ h9 => h9) rfl dX11_colonel_24 ?_
    refine lv_aload_n hx hb dX11_colonel_27 rfl (lv_at hl 0 rfl) ?_
    refine va_get (D := D) (ci := 11) (v := .ref (a 2)) (C := RX11) (T := TX11) (N := 16) hx hb hts hinX11 hown hK.1 hP 0 rfl rfl 2 (by decide) (hts (.fieldLink RX11 28 "RopeScale" "now" "LRopeScale$Walk;") (List.mem_of_getElem? (i := 1) rfl)) (fun _ h9 => h9) rfl dX11_colonel_28 ?_
    refine va_get (D := D) (ci := 9) (v := .ref ((aa 3) 0)) (C := RX9) (T := TX9) (N := 8) hx hb hts hinX9 hown hK.1 hP 4 rfl rfl 0 (by decide) (hts (.fieldLink RX11 211 "RopeScale$Walk" "weight" "[I") (List.mem_of_getElem? (i := 3) rfl)) (fun _ h9 => h9) rfl dX11_colonel_31 ?_
    obtain ⟨z5, hz5, hf⟩ := bnd hf
    have hPc := hP.sub (ws' := kX0 T (a 8) (aa 9) uch ++ [((aa 3) 0, .inl (T.1, 16, .inl (unw 0)))]) [25, 26, 27, 28, 29, 30, 31, 5] rfl
    have hDc := hD.sub (ws' := kX0 T (a 8) (aa 9) uch ++ [((aa 3) 0, .inl (T.1, 16, .inl (unw 0)))]) [25, 26, 27, 28, 29, 30, 31, 5] (by decide) rfl
    have hFc9 := va_free (wc := kX0 T (a 8) (aa 9) uch ++ [((aa 3) 0, .inl (T.1, 16, .inl (unw 0)))]) hD hS hA [25, 26, 27, 28, 29, 30, 31, 5] rfl
    refine cVMv (As := [.ref ((aa 3) 0)]) (rest := []) ⟨hx, hb, hml, hown, hts⟩ (mX0_weigh l D T (a 8) (aa 9) uch ((aa 3) 0) (unw 0) _ z5 hz5) (cwV 1 hts gX11_colonel_X0_weigh rfl rfl rfl (by decide +kernel) ⟨Nat.le_of_ble_eq_true rfl, Nat.le_of_ble_eq_true rfl⟩) (va_recv hK.1 hP (ci := 0) (q0 := 25) rfl rfl) hPc hK rfl hl.1 rfl (Nat.le_of_ble_eq_true rfl) dX11_colonel_34 ⟨Nat.le_of_ble_eq_true rfl, Nat.le_of_ble_eq_true rfl⟩ hDc hFc9 hS (fun H9 locs hP1 hD1 hk1 hS => ?_)
    obtain ⟨hP, hD⟩ := putAll_P (w1 := kX0 T (a 8) (aa 9) z5 ++ [((aa 3) 0, .inl (T.1, 16, .inl (unw 0)))]) hP hD [25, 26, 27, 28, 29, 30, 31, 5] rfl (by decide) hk1 hP1 rfl
    generalize H9 = H at hP hS ⊢
    have hP : va_P D vwCl (WX11 T h a a aa u utp ucu unw ukp utr uro ugi urd z5 urk upa uwl uva usl uto usw) H := by exact hP
    have hD : va_D (va_A (WX11 T h a a aa u utp ucu unw ukp utr uro ugi urd uch urk upa uwl uva usl uto usw) s.heap.size) (WX11 T h a a aa u utp ucu unw ukp utr uro ugi urd z5 urk upa uwl uva usl uto usw) := by exact hD
    refine lv_aload_n hx hb dX11_colonel_37 rfl (lv_at hl 0 rfl) ?_
    refine va_get (D := D) (ci := 11) (v := .ref (a 8)) (C := RX11) (T := TX11) (N := 16) hx hb hts hinX11 hown hK.1 hP 0 rfl rfl 8 (by decide) (hts (.fieldLink RX11 64 "RopeScale" "choices" "LRopeScale$Choices;") (List.mem_of_getElem? (i := 2) rfl)) (fun _ h9 => h9) rfl dX11_colonel_38 ?_
    refine lv_aload_n hx hb dX11_colonel_41 rfl (lv_at hl 0 rfl) ?_
    refine va_get (D := D) (ci := 11) (v := .ref (a 2)) (C := RX11) (T := TX11) (N := 16) hx hb hts hinX11 hown hK.1 hP 0 rfl rfl 2 (by decide) (hts (.fieldLink RX11 28 "RopeScale" "now" "LRopeScale$Walk;") (List.mem_of_getElem? (i := 1) rfl)) (fun _ h9 => h9) rfl dX11_colonel_42 ?_
    refine lv_iload_n hx hb dX11_colonel_45 rfl (lv_at hl 1 rfl) ?_
    obtain ⟨z6, hz6, hf⟩ := lett_e hf
    refine cVR (As := [.int p1]) (rest := [.ref (a 8)]) ⟨hx, hb, hml, hown, hts⟩ (mX9_othersHere l D T (a 2) (aa 3) unw p1 z6 hz6.symm) (cwV 1 hts gX11_colonel_X9_othersHere rfl rfl rfl (by decide +kernel) ⟨Nat.le_of_ble_eq_true rfl, Nat.le_of_ble_eq_true rfl⟩) (va_recv hK.1 hP (ci := 9) (q0 := 4) rfl rfl) (hP.sub (ws' := kX9 T (a 2) (aa 3) unw) [4, 5, 6, 7, 8] rfl) hK rfl hl.1 rfl (Nat.le_of_ble_eq_true rfl) dX11_colonel_46 ⟨Nat.le_of_ble_eq_true rfl, Nat.le_of_ble_eq_true rfl⟩ hP hS (fun H locs hP hS => ?_)
    refine lv_iload_n hx hb dX11_colonel_49 rfl (lv_at hl 2 rfl) ?_
    refine lv_aload_n hx hb dX11_colonel_50 rfl (lv_at hl 0 rfl) ?_
    refine va_get (D := D) (ci := 11) (v := .ref (a 2)) (C := RX11) (T := TX11) (N := 16) hx hb hts hinX11 hown hK.1 hP 0 rfl rfl 2 (by decide) (hts (.fieldLink RX11 28 "RopeScale" "now" "LRopeScale$Walk;") (List.mem_of_getElem? (i := 1) rfl)) (fun _ h9 => h9) rfl dX11_colonel_51 ?_
    refine va_get (D := D) (ci := 9) (v := .ref ((aa 3) 0)) (C := RX9) (T := TX9) (N := 8) hx hb hts hinX9 hown hK.1 hP 4 rfl rfl 0 (by decide) (hts (.fieldLink RX11 211 "RopeScale$Walk" "weight" "[I") (List.mem_of_getElem? (i := 3) rfl)) (fun _ h9 => h9) rfl dX11_colonel_54 ?_
    refine lv_iload_n hx hb dX11_colonel_57 rfl (lv_at hl 1 rfl) ?_
    obtain ⟨h8, hf⟩ := gd_e hf
    refine va_iald hx hb hK.1 hP 5 0 rfl rfl h8 dX11_colonel_58 ?_
    refine lv_aload_n hx hb dX11_colonel_59 rfl (lv_at hl 0 rfl) ?_
    refine va_get (D := D) (ci := 11) (v := .ref (a 5)) (C := RX11) (T := TX11) (N := 16) hx hb hts hinX11 hown hK.1 hP 0 rfl rfl 5 (by decide) (hts (.fieldLink RX11 41 "RopeScale" "rope" "LRopeScale$Rope;") (List.mem_of_getElem? (i := 4) rfl)) (fun _ h9 => h9) rfl dX11_colonel_60 ?_
    refine va_get (D := D) (ci := 7) (v := .int (uro 0 0)) (C := RX7) (T := TX7) (N := 6) hx hb hts hinX7 hown hK.1 hP 19 rfl rfl 0 (by decide) (hts (.fieldLink RX11 118 "RopeScale$Rope" "tolerance" "I") (List.mem_of_getElem? (i := 5) rfl)) (fun _ h9 => h9) rfl dX11_colonel_63 ?_
    obtain ⟨z7, hz7, hf⟩ := bnd hf
    refine cVR (As := [.int z6, .int p2, .int (unw 0 (ix p1)), .int (uro 0 0)]) (rest := []) ⟨hx, hb, hml, hown, hts⟩ (mX0_ways l D T (a 8) (aa 9) z5 z6 p2 (unw 0 (ix p1)) (uro 0 0) z7 hz7) (cwV 4 hts gX11_colonel_X0_ways rfl rfl rfl (by decide +kernel) ⟨Nat.le_of_ble_eq_true rfl, Nat.le_of_ble_eq_true rfl⟩) (va_recv hK.1 hP (ci := 0) (q0 := 25) rfl rfl) (hP.sub (ws' := kX0 T (a 8) (aa 9) z5) [25, 26, 27, 28, 29, 30, 31] rfl) hK rfl hl.1 rfl (Nat.le_of_ble_eq_true rfl) dX11_colonel_66 ⟨Nat.le_of_ble_eq_true rfl, Nat.le_of_ble_eq_true rfl⟩ hP hS (fun H locs hP hS => ?_)
    have e9 := Option.some.inj hf
    exact retM hx hb hr hlocks hP hD hS (congrArg (fun z => z.1) e9) (congrArg (fun z => (WX11 T h a a aa u utp ucu unw ukp utr uro ugi urd z.2 urk upa uwl uva usl uto usw : va_W)) e9) dX11_colonel_69
  replace hf := ifp c4 hf
  refine lv_iconst (v := (-1)) hx hb dX11_colonel_21 (by decide) ?_
  have e9 := Option.some.inj hf
  exact retM hx hb hr hlocks hP hD hS (congrArg (fun z => z.1) e9) (congrArg (fun z => (WX11 T h a a aa u utp ucu unw ukp utr uro ugi urd z.2 urk upa uwl uva usl uto usw : va_W)) e9) dX11_colonel_22
set_option maxHeartbeats 4000000 in
set_option maxRecDepth 100000 in
theorem mX11_party (l : Launch) (D : va_G) (T : Ty3) (aa : Nat → Nat → Nat) (h : Nat) (a : Nat → Nat) (u : St) (utp : St) (ucu : St) (unw : St) (ukp : St) (utr : St) (uro : St) (ugi : St) (urd : St) (uch : St) (urk : St) (upa : St) (uwl : Nat → Int64) (uva : St) (usl : St) (uto : St) (usw : St) (sz : Nat) (p1 : Int32) (p2 : Int32) (p3 : Int32) (res : Int32 × St) (hf : fX11_party unw uro uch p1 p2 p3 = some res) : Met l yX11_party wsX11_party ({ frames := 4, cells := 0, slots := 0, locals := 106 }) (PcM D T (WX11 T h a a aa u utp ucu unw ukp utr uro ugi urd uch urk upa uwl uva usl uto usw) sz [.ref h, .int p1, .int p2, .int p3]) (QM D (WX11 T h a a aa u utp ucu unw ukp utr uro ugi urd uch urk upa uwl uva usl uto usw) sz res.1 (WX11 T h a a aa u utp ucu unw ukp utr uro ugi urd res.2 urk upa uwl uva usl uto usw)) 0 0 (va_A (WX11 T h a a aa u utp ucu unw ukp utr uro ugi urd uch urk upa uwl uva usl uto usw) sz) := by
  refine Met.ofW (cc := cX11_party) (maxL := 7) (ret := (some .int)) (by decide) rfl ?_
  intro p e s m args below meth c s₁ B hml hv
  obtain ⟨rfl, hsz, hP, hK, hD0⟩ := hv
  have hx := B.exec
  have hb := B.bytes
  have hr := B.returns
  have hts := atoms_spec (ws := wsX11_party) B.pre
  have hown : s.vm.findClass RX11 = some m.cls := findClass_of_methodNamed B.named
  have hlocks := B.notSynchronized
  subst hsz
  have hD := hD0.self (sz := s.heap.size)
  have hA : ∀ q : Nat, s.heap.size ≤ q → va_A (WX11 T h a a aa u utp ucu unw ukp utr uro ugi urd uch urk upa uwl uva usl uto usw) s.heap.size q := fun q h => Or.inr h
  have hS : va_S (va_A (WX11 T h a a aa u utp ucu unw ukp utr uro ugi urd uch urk upa uwl uva usl uto usw) s.heap.size) s.heap s.heap [] := va_S.rf
  have hinX11 : ∀ w ∈ u_ws RX11 TX11 16, w ∈ wsX11_party := fun w h => List.mem_cons_of_mem _ (List.mem_append_left _ (List.mem_append_left _ (List.mem_append_left _ (List.mem_append_right _ h))))
  have hinX9 : ∀ w ∈ u_ws RX9 TX9 8, w ∈ wsX11_party := fun w h => List.mem_cons_of_mem _ (List.mem_append_left _ (List.mem_append_left _ (List.mem_append_right _ h)))
  have hinX7 : ∀ w ∈ u_ws RX7 TX7 6, w ∈ wsX11_party := fun w h => List.mem_cons_of_mem _ (List.mem_append_left _ (List.mem_append_right _ h))
  have hinX0 : ∀ w ∈ u_ws RX0 TX0 6, w ∈ wsX11_party := fun w h => List.mem_cons_of_mem _ (List.mem_append_right _ h)
  have hl := lv_entry ([.ref h, .int p1, .int p2, .int p3]) (n := 7) (Nat.le_of_ble_eq_true rfl)
  rw [lg_entry_eq]
  generalize (lg_sl ([.ref h, .int p1, .int p2, .int p3]) ++ List.replicate (7 - (lg_sl ([.ref h, .int p1, .int p2, .int p3])).length) Slot.unset).toArray = ls at hl ⊢
  have hl : lv_has ls 7 [(0, .ref h), (1, .int p1), (2, .int p2), (3, .int p3)] := hl
  have J56 : ∀ (vch : St) (x1 : Int32) (x2 : Int32) (x3 : Int32) (H : Heap) (locs : List Loc) (ls : Array Slot), fX11_party_J56 unw uro vch x1 x2 x3 = some res → va_P D vwCl (WX11 T h a a aa u utp ucu unw ukp utr uro ugi urd vch urk upa uwl uva usl uto usw) H → va_D (va_A (WX11 T h a a aa u utp ucu unw ukp utr uro ugi urd uch urk upa uwl uva usl uto usw) s.heap.size) (WX11 T h a a aa u utp ucu unw ukp utr uro ugi urd vch urk upa uwl uva usl uto usw) → va_S (va_A (WX11 T h a a aa u utp ucu unw ukp utr uro ugi urd uch urk upa uwl uva usl uto usw) s.heap.size) s.heap H locs → lv_has ls 7 [(0, .ref h), (1, .int x1), (2, .int x2), (3, .int x3)] → W p l e (headSpec wsX11_party ({ frames := 4, cells := 0, slots := 0, locals := 106 })).room s m ([.ref h, .int p1, .int p2, .int p3] : List Value).toArray below meth c H locs 0 0 (MQ below (QM D (WX11 T h a a aa u utp ucu unw ukp utr uro ugi urd uch urk upa uwl uva usl uto usw) s.heap.size res.1 (WX11 T h a a aa u utp ucu unw ukp utr uro ugi urd res.2 urk upa uwl uva usl uto usw)) ([.ref h, .int p1, .int p2, .int p3] : List Value).toArray s 0 0 (va_A (WX11 T h a a aa u utp ucu unw ukp utr uro ugi urd uch urk upa uwl uva usl uto usw) s.heap.size)) (F0 m 56 ls []) := by
    intro vch x1 x2 x3 H locs ls hf hP hD hS hl
    unfold fX11_party_J56 at hf
    refine lv_iload_n hx hb dX11_party_56 rfl (lv_at hl 1 rfl) ?_
    refine lv_aload_n hx hb dX11_party_57 rfl (lv_at hl 0 rfl) ?_
    refine va_get (D := D) (ci := 11) (v := .ref (a 2)) (C := RX11) (T := TX11) (N := 16) hx hb hts hinX11 hown hK.1 hP 0 rfl rfl 2 (by decide) (hts (.fieldLink RX11 28 "RopeScale" "now" "LRopeScale$Walk;") (List.mem_of_getElem? (i := 2) rfl)) (fun _ h9 => h9) rfl dX11_party_58 ?_
    obtain ⟨z1, hz1, hf⟩ := lett_e hf
    refine cVR (As := []) (rest := [.int x1]) ⟨hx, hb, hml, hown, hts⟩ (mX9_here l D T (a 2) (aa 3) unw z1 hz1.symm) (cwV 0 hts gX11_party_X9_here rfl rfl rfl (by decide +kernel) ⟨Nat.le_of_ble_eq_true rfl, Nat.le_of_ble_eq_true rfl⟩) (va_recv hK.1 hP (ci := 9) (q0 := 4) rfl rfl) (hP.sub (ws' := kX9 T (a 2) (aa 3) unw) [4, 5, 6, 7, 8] rfl) hK rfl hl.1 rfl (Nat.le_of_ble_eq_true rfl) dX11_party_61 ⟨Nat.le_of_ble_eq_true rfl, Nat.le_of_ble_eq_true rfl⟩ hP hS (fun H locs hP hS => ?_)
    refine lv_iand hx hb dX11_party_64 ?_
    refine lv_iload_n hx hb dX11_party_65 rfl (lv_at hl 1 rfl) ?_
    refine lv_icmp_eq (tgt := 72) hx hb dX11_party_66 (by decide) (fun c2 => ?_) (fun c2 => ?_)
    · replace hf := ifp c2 hf
      refine lv_aload_n hx hb dX11_party_72 rfl (lv_at hl 0 rfl) ?_
      refine va_get (D := D) (ci := 11) (v := .ref (a 8)) (C := RX11) (T := TX11) (N := 16) hx hb hts hinX11 hown hK.1 hP 0 rfl rfl 8 (by decide) (hts (.fieldLink RX11 64 "RopeScale" "choices" "LRopeScale$Choices;") (List.mem_of_getElem? (i := 3) rfl)) (fun _ h9 => h9) rfl dX11_party_73 ?_
      refine lv_iload_n hx hb dX11_party_76 rfl (lv_at hl 1 rfl) ?_
      refine lv_aload_n hx hb dX11_party_77 rfl (lv_at hl 0 rfl) ?_
      refine va_get (D := D) (ci := 11) (v := .ref (a 2)) (C := RX11) (T := TX11) (N := 16) hx hb hts hinX11 hown hK.1 hP 0 rfl rfl 2 (by decide) (hts (.fieldLink RX11 28 "RopeScale" "now" "LRopeScale$Walk;") (List.mem_of_getElem? (i := 2) rfl)) (fun _ h9 => h9) rfl dX11_party_78 ?_
      refine va_get (D := D) (ci := 9) (v := .ref ((aa 3) 0)) (C := RX9) (T := TX9) (N := 8) hx hb hts hinX9 hown hK.1 hP 4 rfl rfl 0 (by decide) (hts (.fieldLink RX11 211 "RopeScale$Walk" "weight" "[I") (List.mem_of_getElem? (i := 4) rfl)) (fun _ h9 => h9) rfl dX11_party_81 ?_
      refine lv_iload_n hx hb dX11_party_84 rfl (lv_at hl 2 rfl) ?_
      refine lv_aload_n hx hb dX11_party_85 rfl (lv_at hl 0 rfl) ?_
      refine va_get (D := D) (ci := 11) (v := .ref (a 5)) (C := RX11) (T := TX11) (N := 16) hx hb hts hinX11 hown hK.1 hP 0 rfl rfl 5 (by decide) (hts (.fieldLink RX11 41 "RopeScale" "rope" "LRopeScale$Rope;") (List.mem_of_getElem? (i := 5) rfl)) (fun _ h9 => h9) rfl dX11_party_86 ?_
      refine va_get (D := D) (ci := 7) (v := .int (uro 0 0)) (C := RX7) (T := TX7) (N := 6) hx hb hts hinX7 hown hK.1 hP 19 rfl rfl 0 (by decide) (hts (.fieldLink RX11 118 "RopeScale$Rope" "tolerance" "I") (List.mem_of_getElem? (i := 6) rfl)) (fun _ h9 => h9) rfl dX11_party_89 ?_
      obtain ⟨z3, hz3, hf⟩ := bnd hf
      have hPc := hP.sub (ws' := kX0 T (a 8) (aa 9) vch ++ [((aa 3) 0, .inl (T.1, 16, .inl (unw 0)))]) [25, 26, 27, 28, 29, 30, 31, 5] rfl
      have hDc := hD.sub (ws' := kX0 T (a 8) (aa 9) vch ++ [((aa 3) 0, .inl (T.1, 16, .inl (unw 0)))]) [25, 26, 27, 28, 29, 30, 31, 5] (by decide) rfl
      have hFc9 := va_free (wc := kX0 T (a 8) (aa 9) vch ++ [((aa 3) 0, .inl (T.1, 16, .inl (unw 0)))]) hD hS hA [25, 26, 27, 28, 29, 30, 31, 5] rfl
      refine cVM (As := [.int x1, .ref ((aa 3) 0), .int x2, .int (uro 0 0)]) (rest := []) ⟨hx, hb, hml, hown, hts⟩ (mX0_lead l D T (a 8) (aa 9) vch ((aa 3) 0) (unw 0) _ x1 x2 (uro 0 0) z3 hz3) (cwV 4 hts gX11_party_X0_lead rfl rfl rfl (by decide +kernel) ⟨Nat.le_of_ble_eq_true rfl, Nat.le_of_ble_eq_true rfl⟩) (va_recv hK.1 hP (ci := 0) (q0 := 25) rfl rfl) hPc hK rfl hl.1 rfl (Nat.le_of_ble_eq_true rfl) dX11_party_92 ⟨Nat.le_of_ble_eq_true rfl, Nat.le_of_ble_eq_true rfl⟩ hDc hFc9 hS (fun H9 locs hP1 hD1 hk1 hS => ?_)
      obtain ⟨hP, hD⟩ := putAll_P (w1 := kX0 T (a 8) (aa 9) z3.2 ++ [((aa 3) 0, .inl (T.1, 16, .inl (unw 0)))]) hP hD [25, 26, 27, 28, 29, 30, 31, 5] rfl (by decide) hk1 hP1 rfl
      generalize H9 = H at hP hS ⊢
      have hP : va_P D vwCl (WX11 T h a a aa u utp ucu unw ukp utr uro ugi urd z3.2 urk upa uwl uva usl uto usw) H := by exact hP
      have hD : va_D (va_A (WX11 T h a a aa u utp ucu unw ukp utr uro ugi urd uch urk upa uwl uva usl uto usw) s.heap.size) (WX11 T h a a aa u utp ucu unw ukp utr uro ugi urd z3.2 urk upa uwl uva usl uto usw) := by exact hD
      refine lv_istore (lv' := [(6, .int z3.1), (0, .ref h), (1, .int x1), (2, .int x2), (3, .int x3)]) hx hb dX11_party_95 hl (by decide) rfl (fun ls hl => ?_)
      refine lv_iload_n hx hb dX11_party_97 rfl (lv_at hl 4 rfl) ?_
      refine lv_bipush (v := 100) hx hb dX11_party_98 (by decide) ?_
      refine lv_icmp_ne (tgt := 106) hx hb dX11_party_100 (by decide) (fun c4 => ?_) (fun c4 => ?_)
      · replace hf := ifn c4 hf
        refine lv_iload_n hx hb dX11_party_106 rfl (lv_at hl 4 rfl) ?_
        refine lv_iload hx hb dX11_party_107 (lv_at hl 0 rfl) ?_
        refine lv_icmp_ge (tgt := 123) hx hb dX11_party_109 (by decide) (fun c5 => ?_) (fun c5 => ?_)
        · replace hf := ifp c5 hf
          refine lv_bipush (v := (-4)) hx hb dX11_party_123 (by decide) ?_
          have e9 := Option.some.inj hf
          exact retM hx hb hr hlocks hP hD hS (congrArg (fun z => z.1) e9) (congrArg (fun z => (WX11 T h a a aa u utp ucu unw ukp utr uro ugi urd z.2 urk upa uwl uva usl uto usw : va_W)) e9) dX11_party_125
        replace hf := ifn c5 hf
        refine lv_aload_n hx hb dX11_party_112 rfl (lv_at hl 1 rfl) ?_
        refine va_get (D := D) (ci := 11) (v := .ref (a 8)) (C := RX11) (T := TX11) (N := 16) hx hb hts hinX11 hown hK.1 hP 0 rfl rfl 8 (by decide) (hts (.fieldLink RX11 64 "RopeScale" "choices" "LRopeScale$Choices;") (List.mem_of_getElem? (i := 3) rfl)) (fun _ h9 => h9) rfl dX11_party_113 ?_
        refine lv_iload_n hx hb dX11_party_116 rfl (lv_at hl 4 rfl) ?_
        obtain ⟨z6, hz6, hf⟩ := bnd hf
        refine cVR (As := [.int x3]) (rest := []) ⟨hx, hb, hml, hown, hts⟩ (mX0_whoGoesAt l D T (a 8) (aa 9) z3.2 x3 z6 hz6) (cwV 1 hts gX11_party_X0_whoGoesAt rfl rfl rfl (by decide +kernel) ⟨Nat.le_of_ble_eq_true rfl, Nat.le_of_ble_eq_true rfl⟩) (va_recv hK.1 hP (ci := 0) (q0 := 25) rfl rfl) (hP.sub (ws' := kX0 T (a 8) (aa 9) z3.2) [25, 26, 27, 28, 29, 30, 31] rfl) hK rfl hl.1 rfl (Nat.le_of_ble_eq_true rfl) dX11_party_117 ⟨Nat.le_of_ble_eq_true rfl, Nat.le_of_ble_eq_true rfl⟩ hP hS (fun H locs hP hS => ?_)
        refine lv_goto (tgt := 125) hx hb dX11_party_120 (by decide) ?_
        have e9 := Option.some.inj hf
        exact retM hx hb hr hlocks hP hD hS (congrArg (fun z => z.1) e9) (congrArg (fun z => (WX11 T h a a aa u utp ucu unw ukp utr uro ugi urd z.2 urk upa uwl uva usl uto usw : va_W)) e9) dX11_party_125
      replace hf := ifp c4 hf
      refine lv_iload hx hb dX11_party_103 (lv_at hl 0 rfl) ?_
      have e9 := Option.some.inj hf
      exact retM hx hb hr hlocks hP hD hS (congrArg (fun z => z.1) e9) (congrArg (fun z => (WX11 T h a a aa u utp ucu unw ukp utr uro ugi urd z.2 urk upa uwl uva usl uto usw : va_W)) e9) dX11_party_105
    replace hf := ifn c2 hf
    refine lv_bipush (v := (-2)) hx hb dX11_party_69 (by decide) ?_
    have e9 := Option.some.inj hf
    exact retM hx hb hr hlocks hP hD hS (congrArg (fun z => z.1) e9) (congrArg (fun z => (WX11 T h a a aa u utp ucu unw ukp utr uro ugi urd z.2 urk upa uwl uva usl uto usw : va_W)) e9) dX11_party_71
  unfold fX11_party at hf
  refine lv_iload_n hx hb dX11_party_0 rfl (lv_at hl 1 rfl) ?_
  obtain ⟨z7, hz7, hf⟩ := lett_e hf
  refine cSR (As := [.int p1]) (rest := []) ⟨hx, hb, hml, hown, hts⟩ (mJ6_bitCount_0f7a4 l D T p1 z7 hz7.symm) (va_cwS 1 hts gX11_party_J6_bitCount_0f7a4 rfl rfl rfl (by decide +kernel) ⟨Nat.le_of_ble_eq_true rfl, Nat.le_of_ble_eq_true rfl⟩) P0 hK rfl hl.1 rfl (Nat.le_of_ble_eq_true rfl) dX11_party_1 ⟨Nat.le_of_ble_eq_true rfl, Nat.le_of_ble_eq_true rfl⟩ hP hS (fun H locs hP hS => ?_)
  refine lv_istore (lv' := [(4, .int z7), (0, .ref h), (1, .int p1), (2, .int p2), (3, .int p3)]) hx hb dX11_party_4 hl (by decide) rfl (fun ls hl => ?_)
  refine lv_iload_n hx hb dX11_party_6 rfl (lv_at hl 4 rfl) ?_
  refine lv_iconst (v := 0) hx hb dX11_party_7 (by decide) ?_
  refine lv_bipush (v := 7) hx hb dX11_party_8 (by decide) ?_
  obtain ⟨z8, hz8, hf⟩ := lett_e hf
  refine cSR (As := [.int p3, .int 0, .int 7]) (rest := []) ⟨hx, hb, hml, hown, hts⟩ (mX11_isWithin l D T p3 0 7 z8 hz8.symm) (va_cwS 3 hts gX11_party_X11_isWithin rfl rfl rfl (by decide +kernel) ⟨Nat.le_of_ble_eq_true rfl, Nat.le_of_ble_eq_true rfl⟩) P0 hK rfl hl.1 rfl (Nat.le_of_ble_eq_true rfl) dX11_party_10 ⟨Nat.le_of_ble_eq_true rfl, Nat.le_of_ble_eq_true rfl⟩ hP hS (fun H locs hP hS => ?_)
  refine lv_istore (lv' := [(5, .int z8), (4, .int z7), (0, .ref h), (1, .int p1), (2, .int p2), (3, .int p3)]) hx hb dX11_party_13 hl (by decide) rfl (fun ls hl => ?_)
  refine lv_iload_n hx hb dX11_party_15 rfl (lv_at hl 3 rfl) ?_
  refine lv_iconst (v := 1) hx hb dX11_party_16 (by decide) ?_
  refine lv_ldc (v := 65535) hx hb hown (hts (.constant RX11 237 (65535)) (List.mem_of_getElem? (i := 1) rfl)) dX11_party_17 ?_
  obtain ⟨z9, hz9, hf⟩ := lett_e hf
  refine cSR (As := [.int p1, .int 1, .int 65535]) (rest := []) ⟨hx, hb, hml, hown, hts⟩ (mX11_isWithin l D T p1 1 65535 z9 hz9.symm) (va_cwS 3 hts gX11_party_X11_isWithin rfl rfl rfl (by decide +kernel) ⟨Nat.le_of_ble_eq_true rfl, Nat.le_of_ble_eq_true rfl⟩) P0 hK rfl hl.1 rfl (Nat.le_of_ble_eq_true rfl) dX11_party_19 ⟨Nat.le_of_ble_eq_true rfl, Nat.le_of_ble_eq_true rfl⟩ hP hS (fun H locs hP hS => ?_)
  refine lv_if_eq (tgt := 54) hx hb dX11_party_22 (by decide) (fun c10 => ?_) (fun c10 => ?_)
  · replace hf := ifp c10 hf
    refine lv_iconst (v := (-1)) hx hb dX11_party_54 (by decide) ?_
    have e9 := Option.some.inj hf
    exact retM hx hb hr hlocks hP hD hS (congrArg (fun z => z.1) e9) (congrArg (fun z => (WX11 T h a a aa u utp ucu unw ukp utr uro ugi urd z.2 urk upa uwl uva usl uto usw : va_W)) e9) dX11_party_55
  replace hf := ifn c10 hf
  refine lv_iload hx hb dX11_party_25 (lv_at hl 1 rfl) ?_
  refine lv_bipush (v := 8) hx hb dX11_party_27 (by decide) ?_
  refine lv_icmp_gt (tgt := 54) hx hb dX11_party_29 (by decide) (fun c11 => ?_) (fun c11 => ?_)
  · replace hf := ifp c11 hf
    refine lv_iconst (v := (-1)) hx hb dX11_party_54 (by decide) ?_
    have e9 := Option.some.inj hf
    exact retM hx hb hr hlocks hP hD hS (congrArg (fun z => z.1) e9) (congrArg (fun z => (WX11 T h a a aa u utp ucu unw ukp utr uro ugi urd z.2 urk upa uwl uva usl uto usw : va_W)) e9) dX11_party_55
  replace hf := ifn c11 hf
  refine lv_iload_n hx hb dX11_party_32 rfl (lv_at hl 4 rfl) ?_
  refine lv_iconst (v := 0) hx hb dX11_party_33 (by decide) ?_
  refine lv_sipush (v := 999) hx hb dX11_party_34 (by decide) ?_
  obtain ⟨z12, hz12, hf⟩ := lett_e hf
  refine cSR (As := [.int p2, .int 0, .int 999]) (rest := []) ⟨hx, hb, hml, hown, hts⟩ (mX11_isWithin l D T p2 0 999 z12 hz12.symm) (va_cwS 3 hts gX11_party_X11_isWithin rfl rfl rfl (by decide +kernel) ⟨Nat.le_of_ble_eq_true rfl, Nat.le_of_ble_eq_true rfl⟩) P0 hK rfl hl.1 rfl (Nat.le_of_ble_eq_true rfl) dX11_party_37 ⟨Nat.le_of_ble_eq_true rfl, Nat.le_of_ble_eq_true rfl⟩ hP hS (fun H locs hP hS => ?_)
  refine lv_if_eq (tgt := 54) hx hb dX11_party_40 (by decide) (fun c13 => ?_) (fun c13 => ?_)
  · replace hf := ifp c13 hf
    refine lv_iconst (v := (-1)) hx hb dX11_party_54 (by decide) ?_
    have e9 := Option.some.inj hf
    exact retM hx hb hr hlocks hP hD hS (congrArg (fun z => z.1) e9) (congrArg (fun z => (WX11 T h a a aa u utp ucu unw ukp utr uro ugi urd z.2 urk upa uwl uva usl uto usw : va_W)) e9) dX11_party_55
  replace hf := ifn c13 hf
  refine lv_iload hx hb dX11_party_43 (lv_at hl 0 rfl) ?_
  refine lv_if_ne (tgt := 56) hx hb dX11_party_45 (by decide) (fun c14 => ?_) (fun c14 => ?_)
  · replace hf := ifn c14 hf
    exact J56 uch p1 p2 p3 _ _ _ hf hP hD hS (lv_sub hl [2, 3, 4, 5] rfl)
  replace hf := ifp c14 hf
  refine lv_iload_n hx hb dX11_party_48 rfl (lv_at hl 5 rfl) ?_
  refine lv_bipush (v := 100) hx hb dX11_party_49 (by decide) ?_
  refine lv_icmp_eq (tgt := 56) hx hb dX11_party_51 (by decide) (fun c15 => ?_) (fun c15 => ?_)
  · replace hf := ifp c15 hf
    exact J56 uch p1 p2 p3 _ _ _ hf hP hD hS (lv_sub hl [2, 3, 4, 5] rfl)
  replace hf := ifn c15 hf
  refine lv_iconst (v := (-1)) hx hb dX11_party_54 (by decide) ?_
  have e9 := Option.some.inj hf
  exact retM hx hb hr hlocks hP hD hS (congrArg (fun z => z.1) e9) (congrArg (fun z => (WX11 T h a a aa u utp ucu unw ukp utr uro ugi urd z.2 urk upa uwl uva usl uto usw : va_W)) e9) dX11_party_55
set_option maxHeartbeats 4000000 in
set_option maxRecDepth 100000 in
theorem mX11_areTrue (l : Launch) (D : va_G) (T : Ty3) (aa : Nat → Nat → Nat) (h : Nat) (a : Nat → Nat) (u : St) (utp : St) (ucu : St) (unw : St) (ukp : St) (utr : St) (uro : St) (ugi : St) (urd : St) (uch : St) (urk : St) (upa : St) (uwl : Nat → Int64) (uva : St) (usl : St) (uto : St) (usw : St) (sz : Nat) (p1 : Int32) (res : Int32 × St) (hf : fX11_areTrue unw uch uto p1 = some res) : Met l yX11_areTrue wsX11_areTrue ({ frames := 3, cells := 0, slots := 0, locals := 67 }) (PcM D T (WX11 T h a a aa u utp ucu unw ukp utr uro ugi urd uch urk upa uwl uva usl uto usw) sz [.ref h, .int p1]) (QM D (WX11 T h a a aa u utp ucu unw ukp utr uro ugi urd uch urk upa uwl uva usl uto usw) sz res.1 (WX11 T h a a aa u utp ucu unw ukp utr uro ugi urd res.2 urk upa uwl uva usl uto usw)) 0 0 (va_A (WX11 T h a a aa u utp ucu unw ukp utr uro ugi urd uch urk upa uwl uva usl uto usw) sz) := by
  refine Met.ofW (cc := cX11_areTrue) (maxL := 3) (ret := (some .int)) (by decide) rfl ?_
  intro p e s m args below meth c s₁ B hml hv
  obtain ⟨rfl, hsz, hP, hK, hD0⟩ := hv
  have hx := B.exec
  have hb := B.bytes
  have hr := B.returns
  have hts := atoms_spec (ws := wsX11_areTrue) B.pre
  have hown : s.vm.findClass RX11 = some m.cls := findClass_of_methodNamed B.named
  have hlocks := B.notSynchronized
  subst hsz
  have hD := hD0.self (sz := s.heap.size)
  have hA : ∀ q : Nat, s.heap.size ≤ q → va_A (WX11 T h a a aa u utp ucu unw ukp utr uro ugi urd uch urk upa uwl uva usl uto usw) s.heap.size q := fun q h => Or.inr h
  have hS : va_S (va_A (WX11 T h a a aa u utp ucu unw ukp utr uro ugi urd uch urk upa uwl uva usl uto usw) s.heap.size) s.heap s.heap [] := va_S.rf
  have hinX11 : ∀ w ∈ u_ws RX11 TX11 16, w ∈ wsX11_areTrue := fun w h => List.mem_cons_of_mem _ (List.mem_append_left _ (List.mem_append_left _ (List.mem_append_left _ (List.mem_append_right _ h))))
  have hinX9 : ∀ w ∈ u_ws RX9 TX9 8, w ∈ wsX11_areTrue := fun w h => List.mem_cons_of_mem _ (List.mem_append_left _ (List.mem_append_left _ (List.mem_append_right _ h)))
  have hinX0 : ∀ w ∈ u_ws RX0 TX0 6, w ∈ wsX11_areTrue := fun w h => List.mem_cons_of_mem _ (List.mem_append_left _ (List.mem_append_right _ h))
  have hinX10 : ∀ w ∈ u_ws RX10 TX10 4, w ∈ wsX11_areTrue := fun w h => List.mem_cons_of_mem _ (List.mem_append_right _ h)
  have hl := lv_entry ([.ref h, .int p1]) (n := 3) (Nat.le_of_ble_eq_true rfl)
  rw [lg_entry_eq]
  generalize (lg_sl ([.ref h, .int p1]) ++ List.replicate (3 - (lg_sl ([.ref h, .int p1])).length) Slot.unset).toArray = ls at hl ⊢
  have hl : lv_has ls 3 [(0, .ref h), (1, .int p1)] := hl
  unfold fX11_areTrue at hf
  refine lv_iload_n hx hb dX11_areTrue_0 rfl (lv_at hl 1 rfl) ?_
  refine lv_iconst (v := 0) hx hb dX11_areTrue_1 (by decide) ?_
  refine lv_iconst (v := 3) hx hb dX11_areTrue_2 (by decide) ?_
  obtain ⟨z1, hz1, hf⟩ := lett_e hf
  refine cSR (As := [.int p1, .int 0, .int 3]) (rest := []) ⟨hx, hb, hml, hown, hts⟩ (mX11_isWithin l D T p1 0 3 z1 hz1.symm) (va_cwS 3 hts gX11_areTrue_X11_isWithin rfl rfl rfl (by decide +kernel) ⟨Nat.le_of_ble_eq_true rfl, Nat.le_of_ble_eq_true rfl⟩) P0 hK rfl hl.1 rfl (Nat.le_of_ble_eq_true rfl) dX11_areTrue_3 ⟨Nat.le_of_ble_eq_true rfl, Nat.le_of_ble_eq_true rfl⟩ hP hS (fun H locs hP hS => ?_)
  refine lv_if_ne (tgt := 11) hx hb dX11_areTrue_6 (by decide) (fun c2 => ?_) (fun c2 => ?_)
  · replace hf := ifn c2 hf
    refine lv_iload_n hx hb dX11_areTrue_11 rfl (lv_at hl 1 rfl) ?_
    refine lv_iconst (v := 1) hx hb dX11_areTrue_12 (by decide) ?_
    refine lv_iand hx hb dX11_areTrue_13 ?_
    refine lv_if_ne (tgt := 27) hx hb dX11_areTrue_14 (by decide) (fun c3 => ?_) (fun c3 => ?_)
    · replace hf := ifn c3 hf
      refine lv_aload_n hx hb dX11_areTrue_27 rfl (lv_at hl 0 rfl) ?_
      refine va_get (D := D) (ci := 11) (v := .ref (a 2)) (C := RX11) (T := TX11) (N := 16) hx hb hts hinX11 hown hK.1 hP 0 rfl rfl 2 (by decide) (hts (.fieldLink RX11 28 "RopeScale" "now" "LRopeScale$Walk;") (List.mem_of_getElem? (i := 1) rfl)) (fun _ h9 => h9) rfl dX11_areTrue_28 ?_
      refine va_get (D := D) (ci := 9) (v := .ref ((aa 3) 1)) (C := RX9) (T := TX9) (N := 8) hx hb hts hinX9 hown hK.1 hP 4 rfl rfl 1 (by decide) (hts (.fieldLink RX11 249 "RopeScale$Walk" "claim" "[I") (List.mem_of_getElem? (i := 3) rfl)) (fun _ h9 => h9) rfl dX11_areTrue_31 ?_
      refine lv_astore_n (lv' := [(2, .ref ((aa 3) 1)), (0, .ref h), (1, .int p1)]) hx hb dX11_areTrue_34 rfl hl (by decide) rfl (fun ls hl => ?_)
      refine lv_aload_n hx hb dX11_areTrue_35 rfl (lv_at hl 1 rfl) ?_
      refine va_get (D := D) (ci := 11) (v := .ref (a 8)) (C := RX11) (T := TX11) (N := 16) hx hb hts hinX11 hown hK.1 hP 0 rfl rfl 8 (by decide) (hts (.fieldLink RX11 64 "RopeScale" "choices" "LRopeScale$Choices;") (List.mem_of_getElem? (i := 4) rfl)) (fun _ h9 => h9) rfl dX11_areTrue_36 ?_
      refine lv_aload_n hx hb dX11_areTrue_39 rfl (lv_at hl 0 rfl) ?_
      obtain ⟨z4, hz4, hf⟩ := bnd hf
      have hPc := hP.sub (ws' := kX0 T (a 8) (aa 9) uch ++ [((aa 3) 1, .inl (T.1, 16, .inl (unw 1)))]) [25, 26, 27, 28, 29, 30, 31, 6] rfl
      have hDc := hD.sub (ws' := kX0 T (a 8) (aa 9) uch ++ [((aa 3) 1, .inl (T.1, 16, .inl (unw 1)))]) [25, 26, 27, 28, 29, 30, 31, 6] (by decide) rfl
      have hFc9 := va_free (wc := kX0 T (a 8) (aa 9) uch ++ [((aa 3) 1, .inl (T.1, 16, .inl (unw 1)))]) hD hS hA [25, 26, 27, 28, 29, 30, 31, 6] rfl
      refine cVMv (As := [.ref ((aa 3) 1)]) (rest := []) ⟨hx, hb, hml, hown, hts⟩ (mX0_weigh l D T (a 8) (aa 9) uch ((aa 3) 1) (unw 1) _ z4 hz4) (cwV 1 hts gX11_areTrue_X0_weigh rfl rfl rfl (by decide +kernel) ⟨Nat.le_of_ble_eq_true rfl, Nat.le_of_ble_eq_true rfl⟩) (va_recv hK.1 hP (ci := 0) (q0 := 25) rfl rfl) hPc hK rfl hl.1 rfl (Nat.le_of_ble_eq_true rfl) dX11_areTrue_40 ⟨Nat.le_of_ble_eq_true rfl, Nat.le_of_ble_eq_true rfl⟩ hDc hFc9 hS (fun H9 locs hP1 hD1 hk1 hS => ?_)
      obtain ⟨hP, hD⟩ := putAll_P (w1 := kX0 T (a 8) (aa 9) z4 ++ [((aa 3) 1, .inl (T.1, 16, .inl (unw 1)))]) hP hD [25, 26, 27, 28, 29, 30, 31, 6] rfl (by decide) hk1 hP1 rfl
      generalize H9 = H at hP hS ⊢
      have hP : va_P D vwCl (WX11 T h a a aa u utp ucu unw ukp utr uro ugi urd z4 urk upa uwl uva usl uto usw) H := by exact hP
      have hD : va_D (va_A (WX11 T h a a aa u utp ucu unw ukp utr uro ugi urd uch urk upa uwl uva usl uto usw) s.heap.size) (WX11 T h a a aa u utp ucu unw ukp utr uro ugi urd z4 urk upa uwl uva usl uto usw) := by exact hD
      refine lv_iload_n hx hb dX11_areTrue_43 rfl (lv_at hl 2 rfl) ?_
      refine lv_iconst (v := 2) hx hb dX11_areTrue_44 (by decide) ?_
      refine lv_icmp_ge (tgt := 69) hx hb dX11_areTrue_45 (by decide) (fun c5 => ?_) (fun c5 => ?_)
      · replace hf := ifp c5 hf
        refine lv_aload_n hx hb dX11_areTrue_69 rfl (lv_at hl 1 rfl) ?_
        refine va_get (D := D) (ci := 11) (v := .ref (a 13)) (C := RX11) (T := TX11) (N := 16) hx hb hts hinX11 hown hK.1 hP 0 rfl rfl 13 (by decide) (hts (.fieldLink RX11 95 "RopeScale" "told" "LRopeScale$Weighings;") (List.mem_of_getElem? (i := 5) rfl)) (fun _ h9 => h9) rfl dX11_areTrue_70 ?_
        refine lv_aload_n hx hb dX11_areTrue_73 rfl (lv_at hl 1 rfl) ?_
        refine va_get (D := D) (ci := 11) (v := .ref (a 8)) (C := RX11) (T := TX11) (N := 16) hx hb hts hinX11 hown hK.1 hP 0 rfl rfl 8 (by decide) (hts (.fieldLink RX11 64 "RopeScale" "choices" "LRopeScale$Choices;") (List.mem_of_getElem? (i := 4) rfl)) (fun _ h9 => h9) rfl dX11_areTrue_74 ?_
        refine lv_aload_n hx hb dX11_areTrue_77 rfl (lv_at hl 1 rfl) ?_
        refine va_get (D := D) (ci := 11) (v := .ref (a 2)) (C := RX11) (T := TX11) (N := 16) hx hb hts hinX11 hown hK.1 hP 0 rfl rfl 2 (by decide) (hts (.fieldLink RX11 28 "RopeScale" "now" "LRopeScale$Walk;") (List.mem_of_getElem? (i := 1) rfl)) (fun _ h9 => h9) rfl dX11_areTrue_78 ?_
        refine va_get (D := D) (ci := 9) (v := .int (unw 4 0)) (C := RX9) (T := TX9) (N := 8) hx hb hts hinX9 hown hK.1 hP 4 rfl rfl 4 (by decide) (hts (.fieldLink RX11 158 "RopeScale$Walk" "told" "I") (List.mem_of_getElem? (i := 6) rfl)) (fun _ h9 => h9) rfl dX11_areTrue_81 ?_
        obtain ⟨z6, hz6, hf⟩ := bnd hf
        refine cVR (As := [.ref (a 8), .int (unw 4 0)]) (rest := []) ⟨hx, hb, hml, hown, hts⟩ (mX10_firstNotSo l D T (a 13) (aa 15) uto (a 8) (aa 9) z4 (unw 4 0) z6 hz6) (cwV 2 hts gX11_areTrue_X10_firstNotSo rfl rfl rfl (by decide +kernel) ⟨Nat.le_of_ble_eq_true rfl, Nat.le_of_ble_eq_true rfl⟩) (va_recv hK.1 hP (ci := 10) (q0 := 57) rfl rfl) (hP.sub (ws' := kX10 T (a 13) (aa 15) uto ++ kX0 T (a 8) (aa 9) z4) [57, 58, 59, 60, 25, 26, 27, 28, 29, 30, 31] rfl) hK rfl hl.1 rfl (Nat.le_of_ble_eq_true rfl) dX11_areTrue_84 ⟨Nat.le_of_ble_eq_true rfl, Nat.le_of_ble_eq_true rfl⟩ hP hS (fun H locs hP hS => ?_)
        have e9 := Option.some.inj hf
        exact retM hx hb hr hlocks hP hD hS (congrArg (fun z => z.1) e9) (congrArg (fun z => (WX11 T h a a aa u utp ucu unw ukp utr uro ugi urd z.2 urk upa uwl uva usl uto usw : va_W)) e9) dX11_areTrue_87
      replace hf := ifn c5 hf
      refine lv_aload_n hx hb dX11_areTrue_48 rfl (lv_at hl 1 rfl) ?_
      refine va_get (D := D) (ci := 11) (v := .ref (a 13)) (C := RX11) (T := TX11) (N := 16) hx hb hts hinX11 hown hK.1 hP 0 rfl rfl 13 (by decide) (hts (.fieldLink RX11 95 "RopeScale" "told" "LRopeScale$Weighings;") (List.mem_of_getElem? (i := 5) rfl)) (fun _ h9 => h9) rfl dX11_areTrue_49 ?_
      refine lv_aload_n hx hb dX11_areTrue_52 rfl (lv_at hl 1 rfl) ?_
      refine va_get (D := D) (ci := 11) (v := .ref (a 8)) (C := RX11) (T := TX11) (N := 16) hx hb hts hinX11 hown hK.1 hP 0 rfl rfl 8 (by decide) (hts (.fieldLink RX11 64 "RopeScale" "choices" "LRopeScale$Choices;") (List.mem_of_getElem? (i := 4) rfl)) (fun _ h9 => h9) rfl dX11_areTrue_53 ?_
      refine lv_aload_n hx hb dX11_areTrue_56 rfl (lv_at hl 1 rfl) ?_
      refine va_get (D := D) (ci := 11) (v := .ref (a 2)) (C := RX11) (T := TX11) (N := 16) hx hb hts hinX11 hown hK.1 hP 0 rfl rfl 2 (by decide) (hts (.fieldLink RX11 28 "RopeScale" "now" "LRopeScale$Walk;") (List.mem_of_getElem? (i := 1) rfl)) (fun _ h9 => h9) rfl dX11_areTrue_57 ?_
      refine va_get (D := D) (ci := 9) (v := .int (unw 4 0)) (C := RX9) (T := TX9) (N := 8) hx hb hts hinX9 hown hK.1 hP 4 rfl rfl 4 (by decide) (hts (.fieldLink RX11 158 "RopeScale$Walk" "told" "I") (List.mem_of_getElem? (i := 6) rfl)) (fun _ h9 => h9) rfl dX11_areTrue_60 ?_
      obtain ⟨z7, hz7, hf⟩ := bnd hf
      refine cVR (As := [.ref (a 8), .int (unw 4 0)]) (rest := []) ⟨hx, hb, hml, hown, hts⟩ (mX10_howManySo l D T (a 13) (aa 15) uto (a 8) (aa 9) z4 (unw 4 0) z7 hz7) (cwV 2 hts gX11_areTrue_X10_howManySo rfl rfl rfl (by decide +kernel) ⟨Nat.le_of_ble_eq_true rfl, Nat.le_of_ble_eq_true rfl⟩) (va_recv hK.1 hP (ci := 10) (q0 := 57) rfl rfl) (hP.sub (ws' := kX10 T (a 13) (aa 15) uto ++ kX0 T (a 8) (aa 9) z4) [57, 58, 59, 60, 25, 26, 27, 28, 29, 30, 31] rfl) hK rfl hl.1 rfl (Nat.le_of_ble_eq_true rfl) dX11_areTrue_63 ⟨Nat.le_of_ble_eq_true rfl, Nat.le_of_ble_eq_true rfl⟩ hP hS (fun H locs hP hS => ?_)
      refine lv_goto (tgt := 87) hx hb dX11_areTrue_66 (by decide) ?_
      have e9 := Option.some.inj hf
      exact retM hx hb hr hlocks hP hD hS (congrArg (fun z => z.1) e9) (congrArg (fun z => (WX11 T h a a aa u utp ucu unw ukp utr uro ugi urd z.2 urk upa uwl uva usl uto usw : va_W)) e9) dX11_areTrue_87
    replace hf := ifp c3 hf
    refine lv_aload_n hx hb dX11_areTrue_17 rfl (lv_at hl 0 rfl) ?_
    refine va_get (D := D) (ci := 11) (v := .ref (a 2)) (C := RX11) (T := TX11) (N := 16) hx hb hts hinX11 hown hK.1 hP 0 rfl rfl 2 (by decide) (hts (.fieldLink RX11 28 "RopeScale" "now" "LRopeScale$Walk;") (List.mem_of_getElem? (i := 1) rfl)) (fun _ h9 => h9) rfl dX11_areTrue_18 ?_
    refine va_get (D := D) (ci := 9) (v := .ref ((aa 3) 0)) (C := RX9) (T := TX9) (N := 8) hx hb hts hinX9 hown hK.1 hP 4 rfl rfl 0 (by decide) (hts (.fieldLink RX11 211 "RopeScale$Walk" "weight" "[I") (List.mem_of_getElem? (i := 2) rfl)) (fun _ h9 => h9) rfl dX11_areTrue_21 ?_
    refine lv_goto (tgt := 34) hx hb dX11_areTrue_24 (by decide) ?_
    refine lv_astore_n (lv' := [(2, .ref ((aa 3) 0)), (0, .ref h), (1, .int p1)]) hx hb dX11_areTrue_34 rfl hl (by decide) rfl (fun ls hl => ?_)
    refine lv_aload_n hx hb dX11_areTrue_35 rfl (lv_at hl 1 rfl) ?_
    refine va_get (D := D) (ci := 11) (v := .ref (a 8)) (C := RX11) (T := TX11) (N := 16) hx hb hts hinX11 hown hK.1 hP 0 rfl rfl 8 (by decide) (hts (.fieldLink RX11 64 "RopeScale" "choices" "LRopeScale$Choices;") (List.mem_of_getElem? (i := 4) rfl)) (fun _ h9 => h9) rfl dX11_areTrue_36 ?_
    refine lv_aload_n hx hb dX11_areTrue_39 rfl (lv_at hl 0 rfl) ?_
    obtain ⟨z8, hz8, hf⟩ := bnd hf
    have hPc := hP.sub (ws' := kX0 T (a 8) (aa 9) uch ++ [((aa 3) 0, .inl (T.1, 16, .inl (unw 0)))]) [25, 26, 27, 28, 29, 30, 31, 5] rfl
    have hDc := hD.sub (ws' := kX0 T (a 8) (aa 9) uch ++ [((aa 3) 0, .inl (T.1, 16, .inl (unw 0)))]) [25, 26, 27, 28, 29, 30, 31, 5] (by decide) rfl
    have hFc9 := va_free (wc := kX0 T (a 8) (aa 9) uch ++ [((aa 3) 0, .inl (T.1, 16, .inl (unw 0)))]) hD hS hA [25, 26, 27, 28, 29, 30, 31, 5] rfl
    refine cVMv (As := [.ref ((aa 3) 0)]) (rest := []) ⟨hx, hb, hml, hown, hts⟩ (mX0_weigh l D T (a 8) (aa 9) uch ((aa 3) 0) (unw 0) _ z8 hz8) (cwV 1 hts gX11_areTrue_X0_weigh rfl rfl rfl (by decide +kernel) ⟨Nat.le_of_ble_eq_true rfl, Nat.le_of_ble_eq_true rfl⟩) (va_recv hK.1 hP (ci := 0) (q0 := 25) rfl rfl) hPc hK rfl hl.1 rfl (Nat.le_of_ble_eq_true rfl) dX11_areTrue_40 ⟨Nat.le_of_ble_eq_true rfl, Nat.le_of_ble_eq_true rfl⟩ hDc hFc9 hS (fun H9 locs hP1 hD1 hk1 hS => ?_)
    obtain ⟨hP, hD⟩ := putAll_P (w1 := kX0 T (a 8) (aa 9) z8 ++ [((aa 3) 0, .inl (T.1, 16, .inl (unw 0)))]) hP hD [25, 26, 27, 28, 29, 30, 31, 5] rfl (by decide) hk1 hP1 rfl
    generalize H9 = H at hP hS ⊢
    have hP : va_P D vwCl (WX11 T h a a aa u utp ucu unw ukp utr uro ugi urd z8 urk upa uwl uva usl uto usw) H := by exact hP
    have hD : va_D (va_A (WX11 T h a a aa u utp ucu unw ukp utr uro ugi urd uch urk upa uwl uva usl uto usw) s.heap.size) (WX11 T h a a aa u utp ucu unw ukp utr uro ugi urd z8 urk upa uwl uva usl uto usw) := by exact hD
    refine lv_iload_n hx hb dX11_areTrue_43 rfl (lv_at hl 2 rfl) ?_
    refine lv_iconst (v := 2) hx hb dX11_areTrue_44 (by decide) ?_
    refine lv_icmp_ge (tgt := 69) hx hb dX11_areTrue_45 (by decide) (fun c9 => ?_) (fun c9 => ?_)
    · replace hf := ifp c9 hf
      refine lv_aload_n hx hb dX11_areTrue_69 rfl (lv_at hl 1 rfl) ?_
      refine va_get (D := D) (ci := 11) (v := .ref (a 13)) (C := RX11) (T := TX11) (N := 16) hx hb hts hinX11 hown hK.1 hP 0 rfl rfl 13 (by decide) (hts (.fieldLink RX11 95 "RopeScale" "told" "LRopeScale$Weighings;") (List.mem_of_getElem? (i := 5) rfl)) (fun _ h9 => h9) rfl dX11_areTrue_70 ?_
      refine lv_aload_n hx hb dX11_areTrue_73 rfl (lv_at hl 1 rfl) ?_
      refine va_get (D := D) (ci := 11) (v := .ref (a 8)) (C := RX11) (T := TX11) (N := 16) hx hb hts hinX11 hown hK.1 hP 0 rfl rfl 8 (by decide) (hts (.fieldLink RX11 64 "RopeScale" "choices" "LRopeScale$Choices;") (List.mem_of_getElem? (i := 4) rfl)) (fun _ h9 => h9) rfl dX11_areTrue_74 ?_
      refine lv_aload_n hx hb dX11_areTrue_77 rfl (lv_at hl 1 rfl) ?_
      refine va_get (D := D) (ci := 11) (v := .ref (a 2)) (C := RX11) (T := TX11) (N := 16) hx hb hts hinX11 hown hK.1 hP 0 rfl rfl 2 (by decide) (hts (.fieldLink RX11 28 "RopeScale" "now" "LRopeScale$Walk;") (List.mem_of_getElem? (i := 1) rfl)) (fun _ h9 => h9) rfl dX11_areTrue_78 ?_
      refine va_get (D := D) (ci := 9) (v := .int (unw 4 0)) (C := RX9) (T := TX9) (N := 8) hx hb hts hinX9 hown hK.1 hP 4 rfl rfl 4 (by decide) (hts (.fieldLink RX11 158 "RopeScale$Walk" "told" "I") (List.mem_of_getElem? (i := 6) rfl)) (fun _ h9 => h9) rfl dX11_areTrue_81 ?_
      obtain ⟨z10, hz10, hf⟩ := bnd hf
      refine cVR (As := [.ref (a 8), .int (unw 4 0)]) (rest := []) ⟨hx, hb, hml, hown, hts⟩ (mX10_firstNotSo l D T (a 13) (aa 15) uto (a 8) (aa 9) z8 (unw 4 0) z10 hz10) (cwV 2 hts gX11_areTrue_X10_firstNotSo rfl rfl rfl (by decide +kernel) ⟨Nat.le_of_ble_eq_true rfl, Nat.le_of_ble_eq_true rfl⟩) (va_recv hK.1 hP (ci := 10) (q0 := 57) rfl rfl) (hP.sub (ws' := kX10 T (a 13) (aa 15) uto ++ kX0 T (a 8) (aa 9) z8) [57, 58, 59, 60, 25, 26, 27, 28, 29, 30, 31] rfl) hK rfl hl.1 rfl (Nat.le_of_ble_eq_true rfl) dX11_areTrue_84 ⟨Nat.le_of_ble_eq_true rfl, Nat.le_of_ble_eq_true rfl⟩ hP hS (fun H locs hP hS => ?_)
      have e9 := Option.some.inj hf
      exact retM hx hb hr hlocks hP hD hS (congrArg (fun z => z.1) e9) (congrArg (fun z => (WX11 T h a a aa u utp ucu unw ukp utr uro ugi urd z.2 urk upa uwl uva usl uto usw : va_W)) e9) dX11_areTrue_87
    replace hf := ifn c9 hf
    refine lv_aload_n hx hb dX11_areTrue_48 rfl (lv_at hl 1 rfl) ?_
    refine va_get (D := D) (ci := 11) (v := .ref (a 13)) (C := RX11) (T := TX11) (N := 16) hx hb hts hinX11 hown hK.1 hP 0 rfl rfl 13 (by decide) (hts (.fieldLink RX11 95 "RopeScale" "told" "LRopeScale$Weighings;") (List.mem_of_getElem? (i := 5) rfl)) (fun _ h9 => h9) rfl dX11_areTrue_49 ?_
    refine lv_aload_n hx hb dX11_areTrue_52 rfl (lv_at hl 1 rfl) ?_
    refine va_get (D := D) (ci := 11) (v := .ref (a 8)) (C := RX11) (T := TX11) (N := 16) hx hb hts hinX11 hown hK.1 hP 0 rfl rfl 8 (by decide) (hts (.fieldLink RX11 64 "RopeScale" "choices" "LRopeScale$Choices;") (List.mem_of_getElem? (i := 4) rfl)) (fun _ h9 => h9) rfl dX11_areTrue_53 ?_
    refine lv_aload_n hx hb dX11_areTrue_56 rfl (lv_at hl 1 rfl) ?_
    refine va_get (D := D) (ci := 11) (v := .ref (a 2)) (C := RX11) (T := TX11) (N := 16) hx hb hts hinX11 hown hK.1 hP 0 rfl rfl 2 (by decide) (hts (.fieldLink RX11 28 "RopeScale" "now" "LRopeScale$Walk;") (List.mem_of_getElem? (i := 1) rfl)) (fun _ h9 => h9) rfl dX11_areTrue_57 ?_
    refine va_get (D := D) (ci := 9) (v := .int (unw 4 0)) (C := RX9) (T := TX9) (N := 8) hx hb hts hinX9 hown hK.1 hP 4 rfl rfl 4 (by decide) (hts (.fieldLink RX11 158 "RopeScale$Walk" "told" "I") (List.mem_of_getElem? (i := 6) rfl)) (fun _ h9 => h9) rfl dX11_areTrue_60 ?_
    obtain ⟨z11, hz11, hf⟩ := bnd hf
    refine cVR (As := [.ref (a 8), .int (unw 4 0)]) (rest := []) ⟨hx, hb, hml, hown, hts⟩ (mX10_howManySo l D T (a 13) (aa 15) uto (a 8) (aa 9) z8 (unw 4 0) z11 hz11) (cwV 2 hts gX11_areTrue_X10_howManySo rfl rfl rfl (by decide +kernel) ⟨Nat.le_of_ble_eq_true rfl, Nat.le_of_ble_eq_true rfl⟩) (va_recv hK.1 hP (ci := 10) (q0 := 57) rfl rfl) (hP.sub (ws' := kX10 T (a 13) (aa 15) uto ++ kX0 T (a 8) (aa 9) z8) [57, 58, 59, 60, 25, 26, 27, 28, 29, 30, 31] rfl) hK rfl hl.1 rfl (Nat.le_of_ble_eq_true rfl) dX11_areTrue_63 ⟨Nat.le_of_ble_eq_true rfl, Nat.le_of_ble_eq_true rfl⟩ hP hS (fun H locs hP hS => ?_)
    refine lv_goto (tgt := 87) hx hb dX11_areTrue_66 (by decide) ?_
    have e9 := Option.some.inj hf
    exact retM hx hb hr hlocks hP hD hS (congrArg (fun z => z.1) e9) (congrArg (fun z => (WX11 T h a a aa u utp ucu unw ukp utr uro ugi urd z.2 urk upa uwl uva usl uto usw : va_W)) e9) dX11_areTrue_87
  replace hf := ifp c2 hf
  refine lv_iconst (v := (-1)) hx hb dX11_areTrue_9 (by decide) ?_
  have e9 := Option.some.inj hf
  exact retM hx hb hr hlocks hP hD hS (congrArg (fun z => z.1) e9) (congrArg (fun z => (WX11 T h a a aa u utp ucu unw ukp utr uro ugi urd z.2 urk upa uwl uva usl uto usw : va_W)) e9) dX11_areTrue_10
set_option maxHeartbeats 4000000 in
set_option maxRecDepth 100000 in
theorem mX11_odd (l : Launch) (D : va_G) (T : Ty3) (aa : Nat → Nat → Nat) (h : Nat) (a : Nat → Nat) (u : St) (utp : St) (ucu : St) (unw : St) (ukp : St) (utr : St) (uro : St) (ugi : St) (urd : St) (uch : St) (urk : St) (upa : St) (uwl : Nat → Int64) (uva : St) (usl : St) (uto : St) (usw : St) (p1 : Int32) (res : Int32) (hf : fX11_odd uto p1 = some res) : Met l yX11_odd wsX11_odd ({ frames := 4, cells := 0, slots := 0, locals := 90 }) (PcR D T (WX11 T h a a aa u utp ucu unw ukp utr uro ugi urd uch urk upa uwl uva usl uto usw) [.ref h, .int p1]) (QR res) 0 0 noA := by
  refine Met.ofW (cc := cX11_odd) (maxL := 2) (ret := (some .int)) (by decide) rfl ?_
  intro p e s m args below meth c s₁ B hml hv
  obtain ⟨rfl, hP, hK⟩ := hv
  have hx := B.exec
  have hb := B.bytes
  have hr := B.returns
  have hts := atoms_spec (ws := wsX11_odd) B.pre
  have hown : s.vm.findClass RX11 = some m.cls := findClass_of_methodNamed B.named
  have hlocks := B.notSynchronized
  have hS : va_S noA s.heap s.heap [] := va_S.rf
  have hinX11 : ∀ w ∈ u_ws RX11 TX11 16, w ∈ wsX11_odd := fun w h => List.mem_cons_of_mem _ (List.mem_append_left _ (List.mem_append_right _ h))
  have hinX10 : ∀ w ∈ u_ws RX10 TX10 4, w ∈ wsX11_odd := fun w h => List.mem_cons_of_mem _ (List.mem_append_right _ h)
  have hl := lv_entry ([.ref h, .int p1]) (n := 2) (Nat.le_of_ble_eq_true rfl)
  rw [lg_entry_eq]
  generalize (lg_sl ([.ref h, .int p1]) ++ List.replicate (2 - (lg_sl ([.ref h, .int p1])).length) Slot.unset).toArray = ls at hl ⊢
  have hl : lv_has ls 2 [(0, .ref h), (1, .int p1)] := hl
  unfold fX11_odd at hf
  refine lv_iload_n hx hb dX11_odd_0 rfl (lv_at hl 1 rfl) ?_
  by_cases c1 : p1 = 0
  · replace hf := ifp c1 hf
    refine lv_tableIn (off := 27) (tgt := 28) hx hb dX11_odd_1 (by rw [c1]; decide) (by rw [c1]; decide) (by rw [c1]; rfl) (by decide) ?_
    refine lv_aload_n hx hb dX11_odd_28 rfl (lv_at hl 0 rfl) ?_
    refine va_get (D := D) (ci := 11) (v := .ref (a 13)) (C := RX11) (T := TX11) (N := 16) hx hb hts hinX11 hown hK.1 hP 0 rfl rfl 13 (by decide) (hts (.fieldLink RX11 95 "RopeScale" "told" "LRopeScale$Weighings;") (List.mem_of_getElem? (i := 1) rfl)) (fun _ h9 => h9) rfl dX11_odd_29 ?_
    refine lv_iconst (v := 1) hx hb dX11_odd_32 (by decide) ?_
    obtain ⟨z2, hz2, hf⟩ := bnd hf
    refine cVR (As := [.int 1]) (rest := []) ⟨hx, hb, hml, hown, hts⟩ (mX10_couldBeOdd l D T (a 13) (aa 15) uto 1 z2 hz2) (cwV 1 hts gX11_odd_X10_couldBeOdd rfl rfl rfl (by decide +kernel) ⟨Nat.le_of_ble_eq_true rfl, Nat.le_of_ble_eq_true rfl⟩) (va_recv hK.1 hP (ci := 10) (q0 := 57) rfl rfl) (hP.sub (ws' := kX10 T (a 13) (aa 15) uto) [57, 58, 59, 60] rfl) hK rfl hl.1 rfl (Nat.le_of_ble_eq_true rfl) dX11_odd_33 ⟨Nat.le_of_ble_eq_true rfl, Nat.le_of_ble_eq_true rfl⟩ hP hS (fun H locs hP hS => ?_)
    exact retR hx hb hr hlocks hS (Option.some.inj hf) dX11_odd_36
  replace hf := ifn c1 hf
  by_cases c3 : p1 = 1
  · replace hf := ifp c3 hf
    refine lv_tableIn (off := 36) (tgt := 37) hx hb dX11_odd_1 (by rw [c3]; decide) (by rw [c3]; decide) (by rw [c3]; rfl) (by decide) ?_
    refine lv_aload_n hx hb dX11_odd_37 rfl (lv_at hl 0 rfl) ?_
    refine va_get (D := D) (ci := 11) (v := .ref (a 13)) (C := RX11) (T := TX11) (N := 16) hx hb hts hinX11 hown hK.1 hP 0 rfl rfl 13 (by decide) (hts (.fieldLink RX11 95 "RopeScale" "told" "LRopeScale$Weighings;") (List.mem_of_getElem? (i := 1) rfl)) (fun _ h9 => h9) rfl dX11_odd_38 ?_
    refine lv_iconst (v := 0) hx hb dX11_odd_41 (by decide) ?_
    obtain ⟨z4, hz4, hf⟩ := bnd hf
    refine cVR (As := [.int 0]) (rest := []) ⟨hx, hb, hml, hown, hts⟩ (mX10_couldBeOdd l D T (a 13) (aa 15) uto 0 z4 hz4) (cwV 1 hts gX11_odd_X10_couldBeOdd rfl rfl rfl (by decide +kernel) ⟨Nat.le_of_ble_eq_true rfl, Nat.le_of_ble_eq_true rfl⟩) (va_recv hK.1 hP (ci := 10) (q0 := 57) rfl rfl) (hP.sub (ws' := kX10 T (a 13) (aa 15) uto) [57, 58, 59, 60] rfl) hK rfl hl.1 rfl (Nat.le_of_ble_eq_true rfl) dX11_odd_42 ⟨Nat.le_of_ble_eq_true rfl, Nat.le_of_ble_eq_true rfl⟩ hP hS (fun H locs hP hS => ?_)
    exact retR hx hb hr hlocks hS (Option.some.inj hf) dX11_odd_45
  replace hf := ifn c3 hf
  by_cases c5 : p1 = 2
  · replace hf := ifp c5 hf
    refine lv_tableIn (off := 45) (tgt := 46) hx hb dX11_odd_1 (by rw [c5]; decide) (by rw [c5]; decide) (by rw [c5]; rfl) (by decide) ?_
    refine lv_aload_n hx hb dX11_odd_46 rfl (lv_at hl 0 rfl) ?_
    refine va_get (D := D) (ci := 11) (v := .ref (a 13)) (C := RX11) (T := TX11) (N := 16) hx hb hts hinX11 hown hK.1 hP 0 rfl rfl 13 (by decide) (hts (.fieldLink RX11 95 "RopeScale" "told" "LRopeScale$Weighings;") (List.mem_of_getElem? (i := 1) rfl)) (fun _ h9 => h9) rfl dX11_odd_47 ?_
    obtain ⟨z6, hz6, hf⟩ := bnd hf
    refine cVR (As := []) (rest := []) ⟨hx, hb, hml, hown, hts⟩ (mX10_couldBeAlike l D T (a 13) (aa 15) uto z6 hz6) (cwV 0 hts gX11_odd_X10_couldBeAlike rfl rfl rfl (by decide +kernel) ⟨Nat.le_of_ble_eq_true rfl, Nat.le_of_ble_eq_true rfl⟩) (va_recv hK.1 hP (ci := 10) (q0 := 57) rfl rfl) (hP.sub (ws' := kX10 T (a 13) (aa 15) uto) [57, 58, 59, 60] rfl) hK rfl hl.1 rfl (Nat.le_of_ble_eq_true rfl) dX11_odd_50 ⟨Nat.le_of_ble_eq_true rfl, Nat.le_of_ble_eq_true rfl⟩ hP hS (fun H locs hP hS => ?_)
    refine lv_if_eq (tgt := 60) hx hb dX11_odd_53 (by decide) (fun c7 => ?_) (fun c7 => ?_)
    · replace hf := ifp c7 hf
      refine lv_iconst (v := 0) hx hb dX11_odd_60 (by decide) ?_
      exact retR hx hb hr hlocks hS (Option.some.inj hf) dX11_odd_61
    replace hf := ifn c7 hf
    refine lv_iconst (v := 1) hx hb dX11_odd_56 (by decide) ?_
    refine lv_goto (tgt := 61) hx hb dX11_odd_57 (by decide) ?_
    exact retR hx hb hr hlocks hS (Option.some.inj hf) dX11_odd_61
  replace hf := ifn c5 hf
  refine lv_tableOut (tgt := 62) hx hb dX11_odd_1 (sw_out (x := p1) 3 (by decide) (fun k9 hk9 => match k9, hk9 with | 0, _ => fun e9 => c1 (e9.trans (by decide)) | 1, _ => fun e9 => c3 (e9.trans (by decide)) | 2, _ => fun e9 => c5 (e9.trans (by decide)) | k9 + 3, hk9 => absurd hk9 (by omega))) (by decide) ?_
  refine lv_iconst (v := (-1)) hx hb dX11_odd_62 (by decide) ?_
  exact retR hx hb hr hlocks hS (Option.some.inj hf) dX11_odd_63
