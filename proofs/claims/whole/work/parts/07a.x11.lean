def fX11_walker  (unw : St) (p1 : Int32) (p2 : Int32) : Option (Int32 × St) := (fX11_isWalker p1).bind fun z1 => if z1 = 0 then some (0, unw) else lett (fX11_isWithin p2 1 999) fun z3 => if z3 = 0 then some (0, unw) else (fX9_tell unw p1 p2).bind fun z5 => some (1, z5)
set_option maxHeartbeats 4000000 in
set_option maxRecDepth 100000 in
theorem mX11_walker (l : Launch) (D : va_G) (T : Ty3) (aa : Nat → Nat → Nat) (h : Nat) (a : Nat → Nat) (u : St) (utp : St) (ucu : St) (unw : St) (ukp : St) (utr : St) (uro : St) (ugi : St) (urd : St) (uch : St) (urk : St) (upa : St) (uwl : Nat → Int64) (uva : St) (usl : St) (uto : St) (usw : St) (sz : Nat) (p1 : Int32) (p2 : Int32) (res : Int32 × St) (hf : fX11_walker unw p1 p2 = some res) : Met l yX11_walker wsX11_walker ({ frames := 2, cells := 0, slots := 0, locals := 42 }) (PcM D T (WX11 T h a a aa u utp ucu unw ukp utr uro ugi urd uch urk upa uwl uva usl uto usw) sz [.ref h, .int p1, .int p2]) (QM D (WX11 T h a a aa u utp ucu unw ukp utr uro ugi urd uch urk upa uwl uva usl uto usw) sz res.1 (WX11 T h a a aa u utp ucu res.2 ukp utr uro ugi urd uch urk upa uwl uva usl uto usw)) 0 0 (va_A (WX11 T h a a aa u utp ucu unw ukp utr uro ugi urd uch urk upa uwl uva usl uto usw) sz) := by
  refine Met.ofW (cc := cX11_walker) (maxL := 3) (ret := (some .boolean)) (by decide) rfl ?_
  intro p e s m args below meth c s₁ B hml hv
  obtain ⟨rfl, hsz, hP, hK, hD0⟩ := hv
  have hx := B.exec
  have hb := B.bytes
  have hr := B.returns
  have hts := atoms_spec (ws := wsX11_walker) B.pre
  have hown : s.vm.findClass RX11 = some m.cls := findClass_of_methodNamed B.named
  have hlocks := B.notSynchronized
  subst hsz
  have hD := hD0.self (sz := s.heap.size)
  have hA : ∀ q : Nat, s.heap.size ≤ q → va_A (WX11 T h a a aa u utp ucu unw ukp utr uro ugi urd uch urk upa uwl uva usl uto usw) s.heap.size q := fun q h => Or.inr h
  have hS : va_S (va_A (WX11 T h a a aa u utp ucu unw ukp utr uro ugi urd uch urk upa uwl uva usl uto usw) s.heap.size) s.heap s.heap [] := va_S.rf
  have hinX11 : ∀ w ∈ u_ws RX11 TX11 16, w ∈ wsX11_walker := fun w h => List.mem_cons_of_mem _ (List.mem_append_left _ (List.mem_append_right _ h))
  have hinX9 : ∀ w ∈ u_ws RX9 TX9 8, w ∈ wsX11_walker := fun w h => List.mem_cons_of_mem _ (List.mem_append_right _ h)
  have hl := lv_entry ([.ref h, .int p1, .int p2]) (n := 3) (Nat.le_of_ble_eq_true rfl)
  rw [lg_entry_eq]
  generalize (lg_sl ([.ref h, .int p1, .int p2]) ++ List.replicate (3 - (lg_sl ([.ref h, .int p1, .int p2])).length) Slot.unset).toArray = ls at hl ⊢
  have hl : lv_has ls 3 [(0, .ref h), (1, .int p1), (2, .int p2)] := hl
  unfold fX11_walker at hf
  refine lv_iload_n hx hb dX11_walker_0 rfl (lv_at hl 1 rfl) ?_
  obtain ⟨z1, hz1, hf⟩ := bnd hf
  refine cSR (As := [.int p1]) (rest := []) ⟨hx, hb, hml, hown, hts⟩ (mX11_isWalker l D T p1 z1 hz1) (va_cwS 1 hts gX11_walker_X11_isWalker rfl rfl rfl (by decide +kernel) ⟨Nat.le_of_ble_eq_true rfl, Nat.le_of_ble_eq_true rfl⟩) P0 hK rfl hl.1 rfl (Nat.le_of_ble_eq_true rfl) dX11_walker_1 ⟨Nat.le_of_ble_eq_true rfl, Nat.le_of_ble_eq_true rfl⟩ hP hS (fun H locs hP hS => ?_)
  refine lv_if_eq (tgt := 18) hx hb dX11_walker_4 (by decide) (fun c2 => ?_) (fun c2 => ?_)
  · replace hf := ifp c2 hf
    refine lv_iconst (v := 0) hx hb dX11_walker_18 (by decide) ?_
    have e9 := Option.some.inj hf
    exact retMz hx hb hr hlocks hP hD hS rfl (congrArg (fun z => z.1) e9) (congrArg (fun z => (WX11 T h a a aa u utp ucu z.2 ukp utr uro ugi urd uch urk upa uwl uva usl uto usw : va_W)) e9) dX11_walker_19
  replace hf := ifn c2 hf
  refine lv_iload_n hx hb dX11_walker_7 rfl (lv_at hl 2 rfl) ?_
  refine lv_iconst (v := 1) hx hb dX11_walker_8 (by decide) ?_
  refine lv_sipush (v := 999) hx hb dX11_walker_9 (by decide) ?_
  obtain ⟨z3, hz3, hf⟩ := lett_e hf
  refine cSR (As := [.int p2, .int 1, .int 999]) (rest := []) ⟨hx, hb, hml, hown, hts⟩ (mX11_isWithin l D T p2 1 999 z3 hz3.symm) (va_cwS 3 hts gX11_walker_X11_isWithin rfl rfl rfl (by decide +kernel) ⟨Nat.le_of_ble_eq_true rfl, Nat.le_of_ble_eq_true rfl⟩) P0 hK rfl hl.1 rfl (Nat.le_of_ble_eq_true rfl) dX11_walker_12 ⟨Nat.le_of_ble_eq_true rfl, Nat.le_of_ble_eq_true rfl⟩ hP hS (fun H locs hP hS => ?_)
  refine lv_if_ne (tgt := 20) hx hb dX11_walker_15 (by decide) (fun c4 => ?_) (fun c4 => ?_)
  · replace hf := ifn c4 hf
    refine lv_aload_n hx hb dX11_walker_20 rfl (lv_at hl 0 rfl) ?_
    refine va_get (D := D) (ci := 11) (v := .ref (a 2)) (C := RX11) (T := TX11) (N := 16) hx hb hts hinX11 hown hK.1 hP 0 rfl rfl 2 (by decide) (hts (.fieldLink RX11 28 "RopeScale" "now" "LRopeScale$Walk;") (List.mem_of_getElem? (i := 1) rfl)) (fun _ h9 => h9) rfl dX11_walker_21 ?_
    refine lv_iload_n hx hb dX11_walker_24 rfl (lv_at hl 1 rfl) ?_
    refine lv_iload_n hx hb dX11_walker_25 rfl (lv_at hl 2 rfl) ?_
    obtain ⟨z5, hz5, hf⟩ := bnd hf
    have hPc := hP.sub (ws' := kX9 T (a 2) (aa 3) unw) [4, 5, 6, 7, 8] rfl
    have hDc := hD.sub (ws' := kX9 T (a 2) (aa 3) unw) [4, 5, 6, 7, 8] (by decide) rfl
    have hFc9 := va_free (wc := kX9 T (a 2) (aa 3) unw) hD hS hA [4, 5, 6, 7, 8] rfl
    refine cVMv (As := [.int p1, .int p2]) (rest := []) ⟨hx, hb, hml, hown, hts⟩ (mX9_tell l D T (a 2) (aa 3) unw _ p1 p2 z5 hz5) (cwV 2 hts gX11_walker_X9_tell rfl rfl rfl (by decide +kernel) ⟨Nat.le_of_ble_eq_true rfl, Nat.le_of_ble_eq_true rfl⟩) (va_recv hK.1 hP (ci := 9) (q0 := 4) rfl rfl) hPc hK rfl hl.1 rfl (Nat.le_of_ble_eq_true rfl) dX11_walker_26 ⟨Nat.le_of_ble_eq_true rfl, Nat.le_of_ble_eq_true rfl⟩ hDc hFc9 hS (fun H9 locs hP1 hD1 hk1 hS => ?_)
    obtain ⟨hP, hD⟩ := putAll_P (w1 := kX9 T (a 2) (aa 3) z5) hP hD [4, 5, 6, 7, 8] rfl (by decide) hk1 hP1 rfl
    generalize H9 = H at hP hS ⊢
    have hP : va_P D vwCl (WX11 T h a a aa u utp ucu z5 ukp utr uro ugi urd uch urk upa uwl uva usl uto usw) H := by exact hP
    have hD : va_D (va_A (WX11 T h a a aa u utp ucu unw ukp utr uro ugi urd uch urk upa uwl uva usl uto usw) s.heap.size) (WX11 T h a a aa u utp ucu z5 ukp utr uro ugi urd uch urk upa uwl uva usl uto usw) := by exact hD
    refine lv_iconst (v := 1) hx hb dX11_walker_29 (by decide) ?_
    have e9 := Option.some.inj hf
    exact retMz hx hb hr hlocks hP hD hS rfl (congrArg (fun z => z.1) e9) (congrArg (fun z => (WX11 T h a a aa u utp ucu z.2 ukp utr uro ugi urd uch urk upa uwl uva usl uto usw : va_W)) e9) dX11_walker_30
  replace hf := ifp c4 hf
  refine lv_iconst (v := 0) hx hb dX11_walker_18 (by decide) ?_
  have e9 := Option.some.inj hf
  exact retMz hx hb hr hlocks hP hD hS rfl (congrArg (fun z => z.1) e9) (congrArg (fun z => (WX11 T h a a aa u utp ucu z.2 ukp utr uro ugi urd uch urk upa uwl uva usl uto usw : va_W)) e9) dX11_walker_19
def fX11_rules  (uro : St) (p1 : Int32) (p2 : Int32) : (Int32 × St) := lett (fX11_isWithin p1 0 99) fun z1 => if z1 = 0 then (0, uro) else lett (fX11_isWithin p2 0 99) fun z3 => if z3 = 0 then (0, uro) else lett (st uro 0 0 p1) fun u5 => lett (st u5 1 0 p2) fun u6 => (1, u6)
set_option maxHeartbeats 4000000 in
set_option maxRecDepth 100000 in
theorem mX11_rules (l : Launch) (D : va_G) (T : Ty3) (aa : Nat → Nat → Nat) (h : Nat) (a : Nat → Nat) (u : St) (utp : St) (ucu : St) (unw : St) (ukp : St) (utr : St) (uro : St) (ugi : St) (urd : St) (uch : St) (urk : St) (upa : St) (uwl : Nat → Int64) (uva : St) (usl : St) (uto : St) (usw : St) (sz : Nat) (p1 : Int32) (p2 : Int32) (res : Int32 × St) (hf : fX11_rules uro p1 p2 = res) : Met l yX11_rules wsX11_rules ({ frames := 1, cells := 0, slots := 0, locals := 22 }) (PcM D T (WX11 T h a a aa u utp ucu unw ukp utr uro ugi urd uch urk upa uwl uva usl uto usw) sz [.ref h, .int p1, .int p2]) (QM D (WX11 T h a a aa u utp ucu unw ukp utr uro ugi urd uch urk upa uwl uva usl uto usw) sz res.1 (WX11 T h a a aa u utp ucu unw ukp utr res.2 ugi urd uch urk upa uwl uva usl uto usw)) 0 0 (va_A (WX11 T h a a aa u utp ucu unw ukp utr uro ugi urd uch urk upa uwl uva usl uto usw) sz) := by
  refine Met.ofW (cc := cX11_rules) (maxL := 3) (ret := (some .boolean)) (by decide) rfl ?_
  intro p e s m args below meth c s₁ B hml hv
  obtain ⟨rfl, hsz, hP, hK, hD0⟩ := hv
  have hx := B.exec
  have hb := B.bytes
  have hr := B.returns
  have hts := atoms_spec (ws := wsX11_rules) B.pre
  have hown : s.vm.findClass RX11 = some m.cls := findClass_of_methodNamed B.named
  have hlocks := B.notSynchronized
  subst hsz
  have hD := hD0.self (sz := s.heap.size)
  have hA : ∀ q : Nat, s.heap.size ≤ q → va_A (WX11 T h a a aa u utp ucu unw ukp utr uro ugi urd uch urk upa uwl uva usl uto usw) s.heap.size q := fun q h => Or.inr h
  have hS : va_S (va_A (WX11 T h a a aa u utp ucu unw ukp utr uro ugi urd uch urk upa uwl uva usl uto usw) s.heap.size) s.heap s.heap [] := va_S.rf
  have hinX11 : ∀ w ∈ u_ws RX11 TX11 16, w ∈ wsX11_rules := fun w h => List.mem_cons_of_mem _ (List.mem_append_left _ (List.mem_append_right _ h))
  have hinX7 : ∀ w ∈ u_ws RX7 TX7 6, w ∈ wsX11_rules := fun w h => List.mem_cons_of_mem _ (List.mem_append_right _ h)
  have hl := lv_entry ([.ref h, .int p1, .int p2]) (n := 3) (Nat.le_of_ble_eq_true rfl)
  rw [lg_entry_eq]
  generalize (lg_sl ([.ref h, .int p1, .int p2]) ++ List.replicate (3 - (lg_sl ([.ref h, .int p1, .int p2])).length) Slot.unset).toArray = ls at hl ⊢
  have hl : lv_has ls 3 [(0, .ref h), (1, .int p1), (2, .int p2)] := hl
  unfold fX11_rules at hf
  refine lv_iload_n hx hb dX11_rules_0 rfl (lv_at hl 1 rfl) ?_
  refine lv_iconst (v := 0) hx hb dX11_rules_1 (by decide) ?_
  refine lv_bipush (v := 99) hx hb dX11_rules_2 (by decide) ?_
  obtain ⟨z1, hz1, hf⟩ := lett_e hf
  refine cSR (As := [.int p1, .int 0, .int 99]) (rest := []) ⟨hx, hb, hml, hown, hts⟩ (mX11_isWithin l D T p1 0 99 z1 hz1.symm) (va_cwS 3 hts gX11_rules_X11_isWithin rfl rfl rfl (by decide +kernel) ⟨Nat.le_of_ble_eq_true rfl, Nat.le_of_ble_eq_true rfl⟩) P0 hK rfl hl.1 rfl (Nat.le_of_ble_eq_true rfl) dX11_rules_4 ⟨Nat.le_of_ble_eq_true rfl, Nat.le_of_ble_eq_true rfl⟩ hP hS (fun H locs hP hS => ?_)
  refine lv_if_eq (tgt := 20) hx hb dX11_rules_7 (by decide) (fun c2 => ?_) (fun c2 => ?_)
  · replace hf := ifp c2 hf
    refine lv_iconst (v := 0) hx hb dX11_rules_20 (by decide) ?_
    have e9 := hf
    exact retMz hx hb hr hlocks hP hD hS rfl (congrArg (fun z => z.1) e9) (congrArg (fun z => (WX11 T h a a aa u utp ucu unw ukp utr z.2 ugi urd uch urk upa uwl uva usl uto usw : va_W)) e9) dX11_rules_21
  replace hf := ifn c2 hf
  refine lv_iload_n hx hb dX11_rules_10 rfl (lv_at hl 2 rfl) ?_
  refine lv_iconst (v := 0) hx hb dX11_rules_11 (by decide) ?_
  refine lv_bipush (v := 99) hx hb dX11_rules_12 (by decide) ?_
  obtain ⟨z3, hz3, hf⟩ := lett_e hf
  refine cSR (As := [.int p2, .int 0, .int 99]) (rest := []) ⟨hx, hb, hml, hown, hts⟩ (mX11_isWithin l D T p2 0 99 z3 hz3.symm) (va_cwS 3 hts gX11_rules_X11_isWithin rfl rfl rfl (by decide +kernel) ⟨Nat.le_of_ble_eq_true rfl, Nat.le_of_ble_eq_true rfl⟩) P0 hK rfl hl.1 rfl (Nat.le_of_ble_eq_true rfl) dX11_rules_14 ⟨Nat.le_of_ble_eq_true rfl, Nat.le_of_ble_eq_true rfl⟩ hP hS (fun H locs hP hS => ?_)
  refine lv_if_ne (tgt := 22) hx hb dX11_rules_17 (by decide) (fun c4 => ?_) (fun c4 => ?_)
  · replace hf := ifn c4 hf
    refine lv_aload_n hx hb dX11_rules_22 rfl (lv_at hl 0 rfl) ?_
    refine va_get (D := D) (ci := 11) (v := .ref (a 5)) (C := RX11) (T := TX11) (N := 16) hx hb hts hinX11 hown hK.1 hP 0 rfl rfl 5 (by decide) (hts (.fieldLink RX11 41 "RopeScale" "rope" "LRopeScale$Rope;") (List.mem_of_getElem? (i := 1) rfl)) (fun _ h9 => h9) rfl dX11_rules_23 ?_
    refine lv_iload_n hx hb dX11_rules_26 rfl (lv_at hl 1 rfl) ?_
    obtain ⟨u5, eu5, hf⟩ := lett_e hf
    refine va_put (D := D) (ci := 7) (v := .int p1) (ty := .int) (C := RX7) (T := TX7) (N := 6) hx hb hts hinX7 tyX7 tyX7_ok nmX7 hown hK.1 hP hD hS 19 rfl rfl 0 (by decide) (hts (.fieldLink RX11 118 "RopeScale$Rope" "tolerance" "I") (List.mem_of_getElem? (i := 2) rfl)) (fun _ h9 => h9) rfl (tyX7_ok 0 (by decide)) rfl rfl (Nat.le_of_ble_eq_true rfl) dX11_rules_27 (fun H locs hP hD hS => ?_)
    have hP : va_P D vwCl (WX11 T h a a aa u utp ucu unw ukp utr u5 ugi urd uch urk upa uwl uva usl uto usw) H := by rw [eu5]; exact hP
    have hD : va_D (va_A (WX11 T h a a aa u utp ucu unw ukp utr uro ugi urd uch urk upa uwl uva usl uto usw) s.heap.size) (WX11 T h a a aa u utp ucu unw ukp utr u5 ugi urd uch urk upa uwl uva usl uto usw) := by rw [eu5]; exact hD
    refine lv_aload_n hx hb dX11_rules_30 rfl (lv_at hl 0 rfl) ?_
    refine va_get (D := D) (ci := 11) (v := .ref (a 5)) (C := RX11) (T := TX11) (N := 16) hx hb hts hinX11 hown hK.1 hP 0 rfl rfl 5 (by decide) (hts (.fieldLink RX11 41 "RopeScale" "rope" "LRopeScale$Rope;") (List.mem_of_getElem? (i := 1) rfl)) (fun _ h9 => h9) rfl dX11_rules_31 ?_
    refine lv_iload_n hx hb dX11_rules_34 rfl (lv_at hl 2 rfl) ?_
    obtain ⟨u6, eu6, hf⟩ := lett_e hf
    refine va_put (D := D) (ci := 7) (v := .int p2) (ty := .int) (C := RX7) (T := TX7) (N := 6) hx hb hts hinX7 tyX7 tyX7_ok nmX7 hown hK.1 hP hD hS 19 rfl rfl 1 (by decide) (hts (.fieldLink RX11 122 "RopeScale$Rope" "toe" "I") (List.mem_of_getElem? (i := 3) rfl)) (fun _ h9 => h9) rfl (tyX7_ok 1 (by decide)) rfl rfl (Nat.le_of_ble_eq_true rfl) dX11_rules_35 (fun H locs hP hD hS => ?_)
    have hP : va_P D vwCl (WX11 T h a a aa u utp ucu unw ukp utr u6 ugi urd uch urk upa uwl uva usl uto usw) H := by rw [eu6]; exact hP
    have hD : va_D (va_A (WX11 T h a a aa u utp ucu unw ukp utr uro ugi urd uch urk upa uwl uva usl uto usw) s.heap.size) (WX11 T h a a aa u utp ucu unw ukp utr u6 ugi urd uch urk upa uwl uva usl uto usw) := by rw [eu6]; exact hD
    refine lv_iconst (v := 1) hx hb dX11_rules_38 (by decide) ?_
    have e9 := hf
    exact retMz hx hb hr hlocks hP hD hS rfl (congrArg (fun z => z.1) e9) (congrArg (fun z => (WX11 T h a a aa u utp ucu unw ukp utr z.2 ugi urd uch urk upa uwl uva usl uto usw : va_W)) e9) dX11_rules_39
  replace hf := ifp c4 hf
  refine lv_iconst (v := 0) hx hb dX11_rules_20 (by decide) ?_
  have e9 := hf
  exact retMz hx hb hr hlocks hP hD hS rfl (congrArg (fun z => z.1) e9) (congrArg (fun z => (WX11 T h a a aa u utp ucu unw ukp utr z.2 ugi urd uch urk upa uwl uva usl uto usw : va_W)) e9) dX11_rules_21
def fX11_hours  (unw : St) (uro : St) (uva : St) (p1 : Int32) : Option (Int32 × St × St × St) := lett (fX11_isWithin p1 1 240) fun z1 => if z1 = 0 then some ((-1), unw, uro, uva) else (fX7_pass uro unw uva p1).bind fun z3 => some (z3.1 2 0, z3.2.1, z3.1, z3.2.2)
set_option maxHeartbeats 4000000 in
set_option maxRecDepth 100000 in
theorem mX11_hours (l : Launch) (D : va_G) (T : Ty3) (aa : Nat → Nat → Nat) (h : Nat) (a : Nat → Nat) (u : St) (utp : St) (ucu : St) (unw : St) (ukp : St) (utr : St) (uro : St) (ugi : St) (urd : St) (uch : St) (urk : St) (upa : St) (uwl : Nat → Int64) (uva : St) (usl : St) (uto : St) (usw : St) (sz : Nat) (p1 : Int32) (res : Int32 × St × St × St) (hf : fX11_hours unw uro uva p1 = some res) : Met l yX11_hours wsX11_hours ({ frames := 7, cells := 0, slots := 0, locals := 171 }) (PcM D T (WX11 T h a a aa u utp ucu unw ukp utr uro ugi urd uch urk upa uwl uva usl uto usw) sz [.ref h, .int p1]) (QM D (WX11 T h a a aa u utp ucu unw ukp utr uro ugi urd uch urk upa uwl uva usl uto usw) sz res.1 (WX11 T h a a aa u utp ucu res.2.1 ukp utr res.2.2.1 ugi urd uch urk upa uwl res.2.2.2 usl uto usw)) 0 0 (va_A (WX11 T h a a aa u utp ucu unw ukp utr uro ugi urd uch urk upa uwl uva usl uto usw) sz) := by
  refine Met.ofW (cc := cX11_hours) (maxL := 2) (ret := (some .int)) (by decide) rfl ?_
  intro p e s m args below meth c s₁ B hml hv
  obtain ⟨rfl, hsz, hP, hK, hD0⟩ := hv
  have hx := B.exec
  have hb := B.bytes
  have hr := B.returns
  have hts := atoms_spec (ws := wsX11_hours) B.pre
  have hown : s.vm.findClass RX11 = some m.cls := findClass_of_methodNamed B.named
  have hlocks := B.notSynchronized
  subst hsz
  have hD := hD0.self (sz := s.heap.size)
  have hA : ∀ q : Nat, s.heap.size ≤ q → va_A (WX11 T h a a aa u utp ucu unw ukp utr uro ugi urd uch urk upa uwl uva usl uto usw) s.heap.size q := fun q h => Or.inr h
  have hS : va_S (va_A (WX11 T h a a aa u utp ucu unw ukp utr uro ugi urd uch urk upa uwl uva usl uto usw) s.heap.size) s.heap s.heap [] := va_S.rf
  have hinX11 : ∀ w ∈ u_ws RX11 TX11 16, w ∈ wsX11_hours := fun w h => List.mem_cons_of_mem _ (List.mem_append_left _ (List.mem_append_left _ (List.mem_append_left _ (List.mem_append_right _ h))))
  have hinX7 : ∀ w ∈ u_ws RX7 TX7 6, w ∈ wsX11_hours := fun w h => List.mem_cons_of_mem _ (List.mem_append_left _ (List.mem_append_left _ (List.mem_append_right _ h)))
  have hinX9 : ∀ w ∈ u_ws RX9 TX9 8, w ∈ wsX11_hours := fun w h => List.mem_cons_of_mem _ (List.mem_append_left _ (List.mem_append_right _ h))
  have hinX2 : ∀ w ∈ u_ws RX2 TX2 10, w ∈ wsX11_hours := fun w h => List.mem_cons_of_mem _ (List.mem_append_right _ h)
  have hl := lv_entry ([.ref h, .int p1]) (n := 2) (Nat.le_of_ble_eq_true rfl)
  rw [lg_entry_eq]
  generalize (lg_sl ([.ref h, .int p1]) ++ List.replicate (2 - (lg_sl ([.ref h, .int p1])).length) Slot.unset).toArray = ls at hl ⊢
  have hl : lv_has ls 2 [(0, .ref h), (1, .int p1)] := hl
  unfold fX11_hours at hf
  refine lv_iload_n hx hb dX11_hours_0 rfl (lv_at hl 1 rfl) ?_
  refine lv_iconst (v := 1) hx hb dX11_hours_1 (by decide) ?_
  refine lv_sipush (v := 240) hx hb dX11_hours_2 (by decide) ?_
  obtain ⟨z1, hz1, hf⟩ := lett_e hf
  refine cSR (As := [.int p1, .int 1, .int 240]) (rest := []) ⟨hx, hb, hml, hown, hts⟩ (mX11_isWithin l D T p1 1 240 z1 hz1.symm) (va_cwS 3 hts gX11_hours_X11_isWithin rfl rfl rfl (by decide +kernel) ⟨Nat.le_of_ble_eq_true rfl, Nat.le_of_ble_eq_true rfl⟩) P0 hK rfl hl.1 rfl (Nat.le_of_ble_eq_true rfl) dX11_hours_5 ⟨Nat.le_of_ble_eq_true rfl, Nat.le_of_ble_eq_true rfl⟩ hP hS (fun H locs hP hS => ?_)
  refine lv_if_ne (tgt := 13) hx hb dX11_hours_8 (by decide) (fun c2 => ?_) (fun c2 => ?_)
  · replace hf := ifn c2 hf
    refine lv_aload_n hx hb dX11_hours_13 rfl (lv_at hl 0 rfl) ?_
    refine va_get (D := D) (ci := 11) (v := .ref (a 5)) (C := RX11) (T := TX11) (N := 16) hx hb hts hinX11 hown hK.1 hP 0 rfl rfl 5 (by decide) (hts (.fieldLink RX11 41 "RopeScale" "rope" "LRopeScale$Rope;") (List.mem_of_getElem? (i := 1) rfl)) (fun _ h9 => h9) rfl dX11_hours_14 ?_
    refine lv_aload_n hx hb dX11_hours_17 rfl (lv_at hl 0 rfl) ?_
    refine va_get (D := D) (ci := 11) (v := .ref (a 2)) (C := RX11) (T := TX11) (N := 16) hx hb hts hinX11 hown hK.1 hP 0 rfl rfl 2 (by decide) (hts (.fieldLink RX11 28 "RopeScale" "now" "LRopeScale$Walk;") (List.mem_of_getElem? (i := 2) rfl)) (fun _ h9 => h9) rfl dX11_hours_18 ?_
    refine lv_aload_n hx hb dX11_hours_21 rfl (lv_at hl 0 rfl) ?_
    refine va_get (D := D) (ci := 11) (v := .ref (a 11)) (C := RX11) (T := TX11) (N := 16) hx hb hts hinX11 hown hK.1 hP 0 rfl rfl 11 (by decide) (hts (.fieldLink RX11 85 "RopeScale" "valid" "LRopeScale$Law;") (List.mem_of_getElem? (i := 3) rfl)) (fun _ h9 => h9) rfl dX11_hours_22 ?_
    refine lv_iload_n hx hb dX11_hours_25 rfl (lv_at hl 1 rfl) ?_
    obtain ⟨z3, hz3, hf⟩ := bnd hf
    have hPc := hP.sub (ws' := kX7 T (a 5) (aa 6) uro ++ kX9 T (a 2) (aa 3) unw ++ kX2 T (a 11) (aa 13) uva) [19, 4, 5, 6, 7, 8, 39, 40, 41, 42, 43, 44, 45, 46, 47] rfl
    have hDc := hD.sub (ws' := kX7 T (a 5) (aa 6) uro ++ kX9 T (a 2) (aa 3) unw ++ kX2 T (a 11) (aa 13) uva) [19, 4, 5, 6, 7, 8, 39, 40, 41, 42, 43, 44, 45, 46, 47] (by decide) rfl
    have hFc9 := va_free (wc := kX7 T (a 5) (aa 6) uro ++ kX9 T (a 2) (aa 3) unw ++ kX2 T (a 11) (aa 13) uva) hD hS hA [19, 4, 5, 6, 7, 8, 39, 40, 41, 42, 43, 44, 45, 46, 47] rfl
    refine cVMv (As := [.ref (a 2), .ref (a 11), .int p1]) (rest := []) ⟨hx, hb, hml, hown, hts⟩ (mX7_pass l D T (a 5) (aa 6) uro (a 2) (aa 3) unw (a 11) (aa 13) uva _ p1 z3 hz3) (cwV 3 hts gX11_hours_X7_pass rfl rfl rfl (by decide +kernel) ⟨Nat.le_of_ble_eq_true rfl, Nat.le_of_ble_eq_true rfl⟩) (va_recv hK.1 hP (ci := 7) (q0 := 19) rfl rfl) hPc hK rfl hl.1 rfl (Nat.le_of_ble_eq_true rfl) dX11_hours_26 ⟨Nat.le_of_ble_eq_true rfl, Nat.le_of_ble_eq_true rfl⟩ hDc hFc9 hS (fun H9 locs hP1 hD1 hk1 hS => ?_)
    obtain ⟨hP, hD⟩ := putAll_P (w1 := kX7 T (a 5) (aa 6) z3.1 ++ kX9 T (a 2) (aa 3) z3.2.1 ++ kX2 T (a 11) (aa 13) z3.2.2) hP hD [19, 4, 5, 6, 7, 8, 39, 40, 41, 42, 43, 44, 45, 46, 47] rfl (by decide) hk1 hP1 rfl
    generalize H9 = H at hP hS ⊢
    have hP : va_P D vwCl (WX11 T h a a aa u utp ucu z3.2.1 ukp utr z3.1 ugi urd uch urk upa uwl z3.2.2 usl uto usw) H := by exact hP
    have hD : va_D (va_A (WX11 T h a a aa u utp ucu unw ukp utr uro ugi urd uch urk upa uwl uva usl uto usw) s.heap.size) (WX11 T h a a aa u utp ucu z3.2.1 ukp utr z3.1 ugi urd uch urk upa uwl z3.2.2 usl uto usw) := by exact hD
    refine lv_aload_n hx hb dX11_hours_29 rfl (lv_at hl 0 rfl) ?_
    refine va_get (D := D) (ci := 11) (v := .ref (a 5)) (C := RX11) (T := TX11) (N := 16) hx hb hts hinX11 hown hK.1 hP 0 rfl rfl 5 (by decide) (hts (.fieldLink RX11 41 "RopeScale" "rope" "LRopeScale$Rope;") (List.mem_of_getElem? (i := 1) rfl)) (fun _ h9 => h9) rfl dX11_hours_30 ?_
    refine va_get (D := D) (ci := 7) (v := .int (z3.1 2 0)) (C := RX7) (T := TX7) (N := 6) hx hb hts hinX7 hown hK.1 hP 19 rfl rfl 2 (by decide) (hts (.fieldLink RX11 177 "RopeScale$Rope" "gotOver" "I") (List.mem_of_getElem? (i := 4) rfl)) (fun _ h9 => h9) rfl dX11_hours_33 ?_
    have e9 := Option.some.inj hf
    exact retM hx hb hr hlocks hP hD hS (congrArg (fun z => z.1) e9) (congrArg (fun z => (WX11 T h a a aa u utp ucu z.2.1 ukp utr z.2.2.1 ugi urd uch urk upa uwl z.2.2.2 usl uto usw : va_W)) e9) dX11_hours_36
  replace hf := ifp c2 hf
  refine lv_iconst (v := (-1)) hx hb dX11_hours_11 (by decide) ?_
  have e9 := Option.some.inj hf
  exact retM hx hb hr hlocks hP hD hS (congrArg (fun z => z.1) e9) (congrArg (fun z => (WX11 T h a a aa u utp ucu z.2.1 ukp utr z.2.2.1 ugi urd uch urk upa uwl z.2.2.2 usl uto usw : va_W)) e9) dX11_hours_12
