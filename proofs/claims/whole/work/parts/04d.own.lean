def bX6_allAlike_L2 (u : St)  (lp2 : Int32 → Int32 → Option (Int32)) (x1 : Int32) (x2 : Int32) : Option (Int32) := if 16 ≤ x2 then some x1 else if x1 = (jshl 1 x2) then gd x2 16 <| some (u 1 (ix x2)) else lett (x2 + 1) fun t3 => lp2 x1 t3
def fX6_allAlike_L2 (u : St)  : Nat → Int32 → Int32 → Option (Int32)
  | 0, _, _ => none
  | n + 1, x1, x2 => bX6_allAlike_L2 u (fX6_allAlike_L2 u n) x1 x2
def fX6_allAlike  (u : St) (p1 : Int32) : Option (Int32) := fX6_allAlike_L2 u FU p1 0
set_option maxHeartbeats 4000000 in
set_option maxRecDepth 100000 in
theorem mX6_allAlike (l : Launch) (D : va_G) (T : Ty3) (h : Nat) (a : Nat → Nat) (u : St) (p1 : Int32) (res : Int32) (hf : fX6_allAlike u p1 = some res) : Met l yX6_allAlike wsX6_allAlike ({ frames := 0, cells := 0, slots := 0, locals := 0 }) (PcR D T (kX6 T h a u) [.ref h, .int p1]) (QR res) 0 0 noA := by
  refine Met.ofW (cc := cX6_allAlike) (maxL := 3) (ret := (some .int)) (by decide) rfl ?_
  intro p e s m args below meth c s₁ B hml hv
  obtain ⟨rfl, hP, hK⟩ := hv
  have hx := B.exec
  have hb := B.bytes
  have hr := B.returns
  have hts := atoms_spec (ws := wsX6_allAlike) B.pre
  have hown : s.vm.findClass RX6 = some m.cls := findClass_of_methodNamed B.named
  have hlocks := B.notSynchronized
  have hS : va_S noA s.heap s.heap [] := va_S.rf
  have hinX6 : ∀ w ∈ u_ws RX6 TX6 2, w ∈ wsX6_allAlike := fun w h => List.mem_cons_of_mem _ (List.mem_append_right _ h)
  have hl := lv_entry ([.ref h, .int p1]) (n := 3) (Nat.le_of_ble_eq_true rfl)
  rw [lg_entry_eq]
  generalize (lg_sl ([.ref h, .int p1]) ++ List.replicate (3 - (lg_sl ([.ref h, .int p1])).length) Slot.unset).toArray = ls at hl ⊢
  have hl : lv_has ls 3 [(0, .ref h), (1, .int p1)] := hl
  have L2 : ∀ (n2 : Nat), ∀ (x1 : Int32) (x2 : Int32) (H : Heap) (locs : List Loc) (ls : Array Slot), fX6_allAlike_L2 u n2 x1 x2 = some res → va_P D vwCl (kX6 T h a u) H → va_S noA s.heap H locs → lv_has ls 3 [(0, .ref h), (1, .int x1), (2, .int x2)] → W p l e (headSpec wsX6_allAlike ({ frames := 0, cells := 0, slots := 0, locals := 0 })).room s m ([.ref h, .int p1] : List Value).toArray below meth c H locs 0 0 (MQ below (QR res) ([.ref h, .int p1] : List Value).toArray s 0 0 noA) (F0 m 2 ls []) := by
    intro n2
    induction n2 with
    | zero => intro x1 x2 H locs ls hf; exact nns hf
    | succ n2 ih2 =>
      intro x1 x2 H locs ls hf hP hS hl
      replace hf : bX6_allAlike_L2 u (fX6_allAlike_L2 u n2) x1 x2 = some res := hf
      unfold bX6_allAlike_L2 at hf
      refine lv_iload_n hx hb dX6_allAlike_2 rfl (lv_at hl 2 rfl) ?_
      refine lv_bipush (v := 16) hx hb dX6_allAlike_3 (by decide) ?_
      refine lv_icmp_ge (tgt := 28) hx hb dX6_allAlike_5 (by decide) (fun c1 => ?_) (fun c1 => ?_)
      · replace hf := ifp c1 hf
        refine lv_iload_n hx hb dX6_allAlike_28 rfl (lv_at hl 1 rfl) ?_
        exact retR hx hb hr hlocks hS (Option.some.inj hf) dX6_allAlike_29
      replace hf := ifn c1 hf
      refine lv_iload_n hx hb dX6_allAlike_8 rfl (lv_at hl 1 rfl) ?_
      refine lv_iconst (v := 1) hx hb dX6_allAlike_9 (by decide) ?_
      refine lv_iload_n hx hb dX6_allAlike_10 rfl (lv_at hl 2 rfl) ?_
      refine lv_ishl hx hb dX6_allAlike_11 ?_
      refine lv_icmp_ne (tgt := 22) hx hb dX6_allAlike_12 (by decide) (fun c2 => ?_) (fun c2 => ?_)
      · replace hf := ifn c2 hf
        obtain ⟨t3, et3, hf⟩ := lett_e hf
        refine lv_iinc (v := t3) (lv' := [(2, .int t3), (0, .ref h), (1, .int x1)]) hx hb dX6_allAlike_22 hl (k := 2) rfl (by rw [et3]; rfl) (by decide) rfl (fun ls hl => ?_)
        refine lv_goto (tgt := 2) hx hb dX6_allAlike_25 (by decide) ?_
        exact ih2 x1 t3 _ _ _ hf hP hS (lv_sub hl [1, 2, 0] rfl)
      replace hf := ifp c2 hf
      refine lv_aload_n hx hb dX6_allAlike_15 rfl (lv_at hl 0 rfl) ?_
      refine va_get (D := D) (ci := 6) (v := .ref (a 1)) (C := RX6) (T := TX6) (N := 2) hx hb hts hinX6 hown hK.1 hP 0 rfl rfl 1 (by decide) (hts (.fieldLink RX6 15 "RopeScale$Rank" "alike" "[I") (List.mem_of_getElem? (i := 1) rfl)) (fun _ h9 => h9) rfl dX6_allAlike_16 ?_
      refine lv_iload_n hx hb dX6_allAlike_19 rfl (lv_at hl 2 rfl) ?_
      obtain ⟨h4, hf⟩ := gd_e hf
      refine va_iald hx hb hK.1 hP 2 0 rfl rfl h4 dX6_allAlike_20 ?_
      exact retR hx hb hr hlocks hS (Option.some.inj hf) dX6_allAlike_21
  unfold fX6_allAlike at hf
  refine lv_iconst (v := 0) hx hb dX6_allAlike_0 (by decide) ?_
  refine lv_istore_n (lv' := [(2, .int 0), (0, .ref h), (1, .int p1)]) hx hb dX6_allAlike_1 rfl hl (by decide) rfl (fun ls hl => ?_)
  exact L2 FU p1 0 _ _ _ hf hP hS (lv_sub hl [1, 2, 0] rfl)
def fX6_find_J196  (lp112 : St → Int32 → Option (St)) (v : St) (x2 : Int32) (x4 : Int32) (y0 : Int32) : Option (St) := (fX6_allAlike v x4).bind fun z1 => (fX6_allAlike v y0).bind fun z2 => (fX6_join (v 0) z1 z2).bind fun z3 => lett (sa v 0 z3) fun u4 => lett (x2 + 1) fun t5 => lp112 u4 t5
def fX6_find_J175 (uw : St) (lp112 : St → Int32 → Option (St)) (v : St) (x2 : Int32) (x3 : Int32) (y0 : Int32) : Option (St) := if x3 = 0 then gd x2 16 <| fX6_find_J196 lp112 v x2 y0 (uw 0 (ix x2)) else gd x2 16 <| fX6_find_J196 lp112 v x2 y0 (uw 1 (ix x2))
def fX6_find_J155 (uw : St) (lp112 : St → Int32 → Option (St)) (v : St) (x2 : Int32) (y0 : Int32) : Option (St) := if y0 = 0 then gd x2 16 <| fX6_find_J175 uw lp112 v x2 y0 (uw 1 (ix x2)) else gd x2 16 <| fX6_find_J175 uw lp112 v x2 y0 (uw 0 (ix x2))
def bX6_find_L112 (uw : St)  (lp112 : St → Int32 → Option (St)) (v : St) (x2 : Int32) : Option (St) := if (uw 3 0) ≤ x2 then (fX6_close (v 0)).bind fun z13 => lett (sa v 0 z13) fun u14 => some u14 else (fX6_isOneEach uw x2).bind fun z15 => if z15 = 0 then lett (x2 + 1) fun t17 => lp112 v t17 else gd x2 16 <| if (uw 2 (ix x2)) = 61 then lett (x2 + 1) fun t19 => lp112 v t19 else gd x2 16 <| if (uw 2 (ix x2)) = 62 then fX6_find_J155 uw lp112 v x2 1 else fX6_find_J155 uw lp112 v x2 0
def fX6_find_L112 (uw : St)  : Nat → St → Int32 → Option (St)
  | 0, _, _ => none
  | n + 1, v, x2 => bX6_find_L112 uw (fX6_find_L112 uw n) v x2
def bX6_find_L32 (uw : St)  (lp32 : St → Int32 → Option (St)) (v : St) (x2 : Int32) : Option (St) := if (uw 3 0) ≤ x2 then (fX6_close (v 1)).bind fun z24 => lett (sa v 1 z24) fun u25 => fX6_find_L112 uw FU u25 0 else (fX6_isOneEach uw x2).bind fun z26 => if z26 = 0 then lett (x2 + 1) fun t28 => lp32 v t28 else gd x2 16 <| if (uw 2 (ix x2)) = 61 then gd x2 16 <| gd x2 16 <| (fX6_join (v 1) (uw 0 (ix x2)) (uw 1 (ix x2))).bind fun z31 => lett (sa v 1 z31) fun u32 => gd x2 16 <| gd x2 16 <| (fX6_join (u32 1) (uw 1 (ix x2)) (uw 0 (ix x2))).bind fun z33 => lett (sa u32 1 z33) fun u34 => lett (x2 + 1) fun t35 => lp32 u34 t35 else lett (x2 + 1) fun t30 => lp32 v t30
def fX6_find_L32 (uw : St)  : Nat → St → Int32 → Option (St)
  | 0, _, _ => none
  | n + 1, v, x2 => bX6_find_L32 uw (fX6_find_L32 uw n) v x2
def bX6_find_L2 (uw : St)  (lp2 : St → Int32 → Option (St)) (v : St) (x2 : Int32) : Option (St) := if 16 ≤ x2 then fX6_find_L32 uw FU v 0 else gd x2 16 <| lett (st v 1 (ix x2) (jshl 1 x2)) fun u42 => gd x2 16 <| lett (st u42 0 (ix x2) 0) fun u43 => lett (x2 + 1) fun t44 => lp2 u43 t44
def fX6_find_L2 (uw : St)  : Nat → St → Int32 → Option (St)
  | 0, _, _ => none
  | n + 1, v, x2 => bX6_find_L2 uw (fX6_find_L2 uw n) v x2
def fX6_find  (u : St) (uw : St)  : Option (St) := fX6_find_L2 uw FU u 0
set_option maxHeartbeats 4000000 in
set_option maxRecDepth 100000 in
theorem mX6_find (l : Launch) (D : va_G) (T : Ty3) (h : Nat) (a : Nat → Nat) (u : St) (hw : Nat) (aw : Nat → Nat) (uw : St) (sz : Nat)  (res : St) (hf : fX6_find u uw = some res) : Met l yX6_find wsX6_find ({ frames := 2, cells := 0, slots := 0, locals := 44 }) (PcM D T (kX6 T h a u ++ kX10 T hw aw uw) sz [.ref h, .ref hw]) (QMv D (kX6 T h a u ++ kX10 T hw aw uw) sz (kX6 T h a res ++ kX10 T hw aw uw)) 0 0 (va_A (kX6 T h a u ++ kX10 T hw aw uw) sz) := by
  refine Met.ofW (cc := cX6_find) (maxL := 6) (ret := none) (by decide) rfl ?_
  intro p e s m args below meth c s₁ B hml hv
  obtain ⟨rfl, hsz, hP, hK, hD0⟩ := hv
  have hx := B.exec
  have hb := B.bytes
  have hr := B.returns
  have hts := atoms_spec (ws := wsX6_find) B.pre
  have hown : s.vm.findClass RX6 = some m.cls := findClass_of_methodNamed B.named
  have hlocks := B.notSynchronized
  subst hsz
  have hD := hD0.self (sz := s.heap.size)
  have hA : ∀ q : Nat, s.heap.size ≤ q → va_A (kX6 T h a u ++ kX10 T hw aw uw) s.heap.size q := fun q h => Or.inr h
  have hS : va_S (va_A (kX6 T h a u ++ kX10 T hw aw uw) s.heap.size) s.heap s.heap [] := va_S.rf
  have hinX6 : ∀ w ∈ u_ws RX6 TX6 2, w ∈ wsX6_find := fun w h => List.mem_cons_of_mem _ (List.mem_append_left _ (List.mem_append_right _ h))
  have hinX10 : ∀ w ∈ u_ws RX10 TX10 4, w ∈ wsX6_find := fun w h => List.mem_cons_of_mem _ (List.mem_append_right _ h)
  have hl := lv_entry ([.ref h, .ref hw]) (n := 6) (Nat.le_of_ble_eq_true rfl)
  rw [lg_entry_eq]
  generalize (lg_sl ([.ref h, .ref hw]) ++ List.replicate (6 - (lg_sl ([.ref h, .ref hw])).length) Slot.unset).toArray = ls at hl ⊢
  have hl : lv_has ls 6 [(0, .ref h), (1, .ref hw)] := hl
  have L112 : ∀ (n112 : Nat), ∀ (v : St) (x2 : Int32) (H : Heap) (locs : List Loc) (ls : Array Slot), fX6_find_L112 uw n112 v x2 = some res → va_P D vwCl (kX6 T h a v ++ kX10 T hw aw uw) H → va_D (va_A (kX6 T h a u ++ kX10 T hw aw uw) s.heap.size) (kX6 T h a v ++ kX10 T hw aw uw) → va_S (va_A (kX6 T h a u ++ kX10 T hw aw uw) s.heap.size) s.heap H locs → lv_has ls 6 [(0, .ref h), (1, .ref hw), (2, .int x2)] → W p l e (headSpec wsX6_find ({ frames := 2, cells := 0, slots := 0, locals := 44 })).room s m ([.ref h, .ref hw] : List Value).toArray below meth c H locs 0 0 (MQ below (QMv D (kX6 T h a u ++ kX10 T hw aw uw) s.heap.size (kX6 T h a res ++ kX10 T hw aw uw)) ([.ref h, .ref hw] : List Value).toArray s 0 0 (va_A (kX6 T h a u ++ kX10 T hw aw uw) s.heap.size)) (F0 m 112 ls []) := by
    intro n112
    induction n112 with
    | zero => intro v x2 H locs ls hf; exact nns hf
    | succ n112 ih112 =>
      have J196 : ∀ (v : St) (x2 : Int32) (x4 : Int32) (y0 : Int32) (H : Heap) (locs : List Loc) (ls : Array Slot), fX6_find_J196 (fX6_find_L112 uw n112) v x2 x4 y0 = some res → va_P D vwCl (kX6 T h a v ++ kX10 T hw aw uw) H → va_D (va_A (kX6 T h a u ++ kX10 T hw aw uw) s.heap.size) (kX6 T h a v ++ kX10 T hw aw uw) → va_S (va_A (kX6 T h a u ++ kX10 T hw aw uw) s.heap.size) s.heap H locs → lv_has ls 6 [(0, .ref h), (1, .ref hw), (2, .int x2), (4, .int x4)] → W p l e (headSpec wsX6_find ({ frames := 2, cells := 0, slots := 0, locals := 44 })).room s m ([.ref h, .ref hw] : List Value).toArray below meth c H locs 0 0 (MQ below (QMv D (kX6 T h a u ++ kX10 T hw aw uw) s.heap.size (kX6 T h a res ++ kX10 T hw aw uw)) ([.ref h, .ref hw] : List Value).toArray s 0 0 (va_A (kX6 T h a u ++ kX10 T hw aw uw) s.heap.size)) (F0 m 196 ls [.int y0]) := by
        intro v x2 x4 y0 H locs ls hf hP hD hS hl
        unfold fX6_find_J196 at hf
        refine lv_istore (lv' := [(5, .int y0), (0, .ref h), (1, .ref hw), (2, .int x2), (4, .int x4)]) hx hb dX6_find_196 hl (by decide) rfl (fun ls hl => ?_)
        refine lv_aload_n hx hb dX6_find_198 rfl (lv_at hl 1 rfl) ?_
        refine va_get (D := D) (ci := 6) (v := .ref (a 0)) (C := RX6) (T := TX6) (N := 2) hx hb hts hinX6 hown hK.1 hP 0 rfl rfl 0 (by decide) (hts (.fieldLink RX6 9 "RopeScale$Rank" "lighter" "[I") (List.mem_of_getElem? (i := 2) rfl)) (fun _ h9 => h9) rfl dX6_find_199 ?_
        refine lv_aload_n hx hb dX6_find_202 rfl (lv_at hl 1 rfl) ?_
        refine lv_iload hx hb dX6_find_203 (lv_at hl 4 rfl) ?_
        obtain ⟨z1, hz1, hf⟩ := bnd hf
        refine cVR (As := [.int x4]) (rest := [.ref (a 0)]) ⟨hx, hb, hml, hown, hts⟩ (mX6_allAlike l D T h a v x4 z1 hz1) (cwV 1 hts gX6_find_X6_allAlike rfl rfl rfl (by decide +kernel) ⟨Nat.le_of_ble_eq_true rfl, Nat.le_of_ble_eq_true rfl⟩) (va_recv hK.1 hP (ci := 6) (q0 := 0) rfl rfl) (hP.sub (ws' := kX6 T h a v) [0, 1, 2] rfl) hK rfl hl.1 rfl (Nat.le_of_ble_eq_true rfl) dX6_find_205 ⟨Nat.le_of_ble_eq_true rfl, Nat.le_of_ble_eq_true rfl⟩ hP hS (fun H locs hP hS => ?_)
        refine lv_aload_n hx hb dX6_find_208 rfl (lv_at hl 1 rfl) ?_
        refine lv_iload hx hb dX6_find_209 (lv_at hl 0 rfl) ?_
        obtain ⟨z2, hz2, hf⟩ := bnd hf
        refine cVR (As := [.int y0]) (rest := [.int z1, .ref (a 0)]) ⟨hx, hb, hml, hown, hts⟩ (mX6_allAlike l D T h a v y0 z2 hz2) (cwV 1 hts gX6_find_X6_allAlike rfl rfl rfl (by decide +kernel) ⟨Nat.le_of_ble_eq_true rfl, Nat.le_of_ble_eq_true rfl⟩) (va_recv hK.1 hP (ci := 6) (q0 := 0) rfl rfl) (hP.sub (ws' := kX6 T h a v) [0, 1, 2] rfl) hK rfl hl.1 rfl (Nat.le_of_ble_eq_true rfl) dX6_find_211 ⟨Nat.le_of_ble_eq_true rfl, Nat.le_of_ble_eq_true rfl⟩ hP hS (fun H locs hP hS => ?_)
        obtain ⟨z3, hz3, hf⟩ := bnd hf
        have hPc := hP.sub (ws' := [(a 0, .inl (T.1, 16, .inl (v 0)))]) [1] rfl
        have hDc := hD.sub (ws' := [(a 0, .inl (T.1, 16, .inl (v 0)))]) [1] (by decide) rfl
        have hFc9 := va_free (wc := [(a 0, .inl (T.1, 16, .inl (v 0)))]) hD hS hA [1] rfl
        refine cSMv (As := [.ref (a 0), .int z1, .int z2]) (rest := []) ⟨hx, hb, hml, hown, hts⟩ (mX6_join l D T (a 0) (v 0) _ z1 z2 z3 hz3) (va_cwS 3 hts gX6_find_X6_join rfl rfl rfl (by decide +kernel) ⟨Nat.le_of_ble_eq_true rfl, Nat.le_of_ble_eq_true rfl⟩) hPc hK rfl hl.1 rfl (Nat.le_of_ble_eq_true rfl) dX6_find_214 ⟨Nat.le_of_ble_eq_true rfl, Nat.le_of_ble_eq_true rfl⟩ hDc hFc9 hS (fun H9 locs hP1 hD1 hk1 hS => ?_)
        obtain ⟨hP, hD⟩ := putAll_P (w1 := [(a 0, .inl (T.1, 16, .inl z3))]) hP hD [1] rfl (by decide) hk1 hP1 rfl
        generalize H9 = H at hP hS ⊢
        obtain ⟨u4, eu4, hf⟩ := lett_e hf
        have hP : va_P D vwCl (kX6 T h a u4 ++ kX10 T hw aw uw) H := by rw [eu4]; exact hP
        have hD : va_D (va_A (kX6 T h a u ++ kX10 T hw aw uw) s.heap.size) (kX6 T h a u4 ++ kX10 T hw aw uw) := by rw [eu4]; exact hD
        obtain ⟨t5, et5, hf⟩ := lett_e hf
        refine lv_iinc (v := t5) (lv' := [(2, .int t5), (5, .int y0), (0, .ref h), (1, .ref hw), (4, .int x4)]) hx hb dX6_find_217 hl (k := 3) rfl (by rw [et5]; rfl) (by decide) rfl (fun ls hl => ?_)
        refine lv_goto (tgt := 112) hx hb dX6_find_220 (by decide) ?_
        exact ih112 u4 t5 _ _ _ hf hP hD hS (lv_sub hl [2, 3, 0] rfl)
      have J175 : ∀ (v : St) (x2 : Int32) (x3 : Int32) (y0 : Int32) (H : Heap) (locs : List Loc) (ls : Array Slot), fX6_find_J175 uw (fX6_find_L112 uw n112) v x2 x3 y0 = some res → va_P D vwCl (kX6 T h a v ++ kX10 T hw aw uw) H → va_D (va_A (kX6 T h a u ++ kX10 T hw aw uw) s.heap.size) (kX6 T h a v ++ kX10 T hw aw uw) → va_S (va_A (kX6 T h a u ++ kX10 T hw aw uw) s.heap.size) s.heap H locs → lv_has ls 6 [(0, .ref h), (1, .ref hw), (2, .int x2), (3, .int x3)] → W p l e (headSpec wsX6_find ({ frames := 2, cells := 0, slots := 0, locals := 44 })).room s m ([.ref h, .ref hw] : List Value).toArray below meth c H locs 0 0 (MQ below (QMv D (kX6 T h a u ++ kX10 T hw aw uw) s.heap.size (kX6 T h a res ++ kX10 T hw aw uw)) ([.ref h, .ref hw] : List Value).toArray s 0 0 (va_A (kX6 T h a u ++ kX10 T hw aw uw) s.heap.size)) (F0 m 175 ls [.int y0]) := by
        intro v x2 x3 y0 H locs ls hf hP hD hS hl
        unfold fX6_find_J175 at hf
        refine lv_istore (lv' := [(4, .int y0), (0, .ref h), (1, .ref hw), (2, .int x2), (3, .int x3)]) hx hb dX6_find_175 hl (by decide) rfl (fun ls hl => ?_)
        refine lv_iload_n hx hb dX6_find_177 rfl (lv_at hl 4 rfl) ?_
        refine lv_if_eq (tgt := 190) hx hb dX6_find_178 (by decide) (fun c6 => ?_) (fun c6 => ?_)
        · replace hf := ifp c6 hf
          refine lv_aload_n hx hb dX6_find_190 rfl (lv_at hl 2 rfl) ?_
          refine va_get (D := D) (ci := 10) (v := .ref (aw 0)) (C := RX10) (T := TX10) (N := 4) hx hb hts hinX10 hown hK.1 hP 3 rfl rfl 0 (by decide) (hts (.fieldLink RX6 31 "RopeScale$Weighings" "left" "[I") (List.mem_of_getElem? (i := 5) rfl)) (fun _ h9 => h9) rfl dX6_find_191 ?_
          refine lv_iload_n hx hb dX6_find_194 rfl (lv_at hl 3 rfl) ?_
          obtain ⟨h7, hf⟩ := gd_e hf
          refine va_iald hx hb hK.1 hP 4 0 rfl rfl h7 dX6_find_195 ?_
          exact J196 v x2 y0 (uw 0 (ix x2)) _ _ _ hf hP hD hS (lv_sub hl [1, 2, 3, 0] rfl)
        replace hf := ifn c6 hf
        refine lv_aload_n hx hb dX6_find_181 rfl (lv_at hl 2 rfl) ?_
        refine va_get (D := D) (ci := 10) (v := .ref (aw 1)) (C := RX10) (T := TX10) (N := 4) hx hb hts hinX10 hown hK.1 hP 3 rfl rfl 1 (by decide) (hts (.fieldLink RX6 34 "RopeScale$Weighings" "right" "[I") (List.mem_of_getElem? (i := 6) rfl)) (fun _ h9 => h9) rfl dX6_find_182 ?_
        refine lv_iload_n hx hb dX6_find_185 rfl (lv_at hl 3 rfl) ?_
        obtain ⟨h8, hf⟩ := gd_e hf
        refine va_iald hx hb hK.1 hP 5 0 rfl rfl h8 dX6_find_186 ?_
        refine lv_goto (tgt := 196) hx hb dX6_find_187 (by decide) ?_
        exact J196 v x2 y0 (uw 1 (ix x2)) _ _ _ hf hP hD hS (lv_sub hl [1, 2, 3, 0] rfl)
      have J155 : ∀ (v : St) (x2 : Int32) (y0 : Int32) (H : Heap) (locs : List Loc) (ls : Array Slot), fX6_find_J155 uw (fX6_find_L112 uw n112) v x2 y0 = some res → va_P D vwCl (kX6 T h a v ++ kX10 T hw aw uw) H → va_D (va_A (kX6 T h a u ++ kX10 T hw aw uw) s.heap.size) (kX6 T h a v ++ kX10 T hw aw uw) → va_S (va_A (kX6 T h a u ++ kX10 T hw aw uw) s.heap.size) s.heap H locs → lv_has ls 6 [(0, .ref h), (1, .ref hw), (2, .int x2)] → W p l e (headSpec wsX6_find ({ frames := 2, cells := 0, slots := 0, locals := 44 })).room s m ([.ref h, .ref hw] : List Value).toArray below meth c H locs 0 0 (MQ below (QMv D (kX6 T h a u ++ kX10 T hw aw uw) s.heap.size (kX6 T h a res ++ kX10 T hw aw uw)) ([.ref h, .ref hw] : List Value).toArray s 0 0 (va_A (kX6 T h a u ++ kX10 T hw aw uw) s.heap.size)) (F0 m 155 ls [.int y0]) := by
        intro v x2 y0 H locs ls hf hP hD hS hl
        unfold fX6_find_J155 at hf
        refine lv_istore_n (lv' := [(3, .int y0), (0, .ref h), (1, .ref hw), (2, .int x2)]) hx hb dX6_find_155 rfl hl (by decide) rfl (fun ls hl => ?_)
        refine lv_iload_n hx hb dX6_find_156 rfl (lv_at hl 0 rfl) ?_
        refine lv_if_eq (tgt := 169) hx hb dX6_find_157 (by decide) (fun c9 => ?_) (fun c9 => ?_)
        · replace hf := ifp c9 hf
          refine lv_aload_n hx hb dX6_find_169 rfl (lv_at hl 2 rfl) ?_
          refine va_get (D := D) (ci := 10) (v := .ref (aw 1)) (C := RX10) (T := TX10) (N := 4) hx hb hts hinX10 hown hK.1 hP 3 rfl rfl 1 (by decide) (hts (.fieldLink RX6 34 "RopeScale$Weighings" "right" "[I") (List.mem_of_getElem? (i := 6) rfl)) (fun _ h9 => h9) rfl dX6_find_170 ?_
          refine lv_iload_n hx hb dX6_find_173 rfl (lv_at hl 3 rfl) ?_
          obtain ⟨h10, hf⟩ := gd_e hf
          refine va_iald hx hb hK.1 hP 5 0 rfl rfl h10 dX6_find_174 ?_
          exact J175 v x2 y0 (uw 1 (ix x2)) _ _ _ hf hP hD hS (lv_sub hl [1, 2, 3, 0] rfl)
        replace hf := ifn c9 hf
        refine lv_aload_n hx hb dX6_find_160 rfl (lv_at hl 2 rfl) ?_
        refine va_get (D := D) (ci := 10) (v := .ref (aw 0)) (C := RX10) (T := TX10) (N := 4) hx hb hts hinX10 hown hK.1 hP 3 rfl rfl 0 (by decide) (hts (.fieldLink RX6 31 "RopeScale$Weighings" "left" "[I") (List.mem_of_getElem? (i := 5) rfl)) (fun _ h9 => h9) rfl dX6_find_161 ?_
        refine lv_iload_n hx hb dX6_find_164 rfl (lv_at hl 3 rfl) ?_
        obtain ⟨h11, hf⟩ := gd_e hf
        refine va_iald hx hb hK.1 hP 4 0 rfl rfl h11 dX6_find_165 ?_
        refine lv_goto (tgt := 175) hx hb dX6_find_166 (by decide) ?_
        exact J175 v x2 y0 (uw 0 (ix x2)) _ _ _ hf hP hD hS (lv_sub hl [1, 2, 3, 0] rfl)
      intro v x2 H locs ls hf hP hD hS hl
      replace hf : bX6_find_L112 uw (fX6_find_L112 uw n112) v x2 = some res := hf
      unfold bX6_find_L112 at hf
      refine lv_iload_n hx hb dX6_find_112 rfl (lv_at hl 2 rfl) ?_
      refine lv_aload_n hx hb dX6_find_113 rfl (lv_at hl 1 rfl) ?_
      refine va_get (D := D) (ci := 10) (v := .int (uw 3 0)) (C := RX10) (T := TX10) (N := 4) hx hb hts hinX10 hown hK.1 hP 3 rfl rfl 3 (by decide) (hts (.fieldLink RX6 18 "RopeScale$Weighings" "lines" "I") (List.mem_of_getElem? (i := 3) rfl)) (fun _ h9 => h9) rfl dX6_find_114 ?_
      refine lv_icmp_ge (tgt := 223) hx hb dX6_find_117 (by decide) (fun c12 => ?_) (fun c12 => ?_)
      · replace hf := ifp c12 hf
        refine lv_aload_n hx hb dX6_find_223 rfl (lv_at hl 0 rfl) ?_
        refine va_get (D := D) (ci := 6) (v := .ref (a 0)) (C := RX6) (T := TX6) (N := 2) hx hb hts hinX6 hown hK.1 hP 0 rfl rfl 0 (by decide) (hts (.fieldLink RX6 9 "RopeScale$Rank" "lighter" "[I") (List.mem_of_getElem? (i := 2) rfl)) (fun _ h9 => h9) rfl dX6_find_224 ?_
        obtain ⟨z13, hz13, hf⟩ := bnd hf
        have hPc := hP.sub (ws' := [(a 0, .inl (T.1, 16, .inl (v 0)))]) [1] rfl
        have hDc := hD.sub (ws' := [(a 0, .inl (T.1, 16, .inl (v 0)))]) [1] (by decide) rfl
        have hFc9 := va_free (wc := [(a 0, .inl (T.1, 16, .inl (v 0)))]) hD hS hA [1] rfl
        refine cSMv (As := [.ref (a 0)]) (rest := []) ⟨hx, hb, hml, hown, hts⟩ (mX6_close l D T (a 0) (v 0) _ z13 hz13) (va_cwS 1 hts gX6_find_X6_close rfl rfl rfl (by decide +kernel) ⟨Nat.le_of_ble_eq_true rfl, Nat.le_of_ble_eq_true rfl⟩) hPc hK rfl hl.1 rfl (Nat.le_of_ble_eq_true rfl) dX6_find_227 ⟨Nat.le_of_ble_eq_true rfl, Nat.le_of_ble_eq_true rfl⟩ hDc hFc9 hS (fun H9 locs hP1 hD1 hk1 hS => ?_)
        obtain ⟨hP, hD⟩ := putAll_P (w1 := [(a 0, .inl (T.1, 16, .inl z13))]) hP hD [1] rfl (by decide) hk1 hP1 rfl
        generalize H9 = H at hP hS ⊢
        obtain ⟨u14, eu14, hf⟩ := lett_e hf
        have hP : va_P D vwCl (kX6 T h a u14 ++ kX10 T hw aw uw) H := by rw [eu14]; exact hP
        have hD : va_D (va_A (kX6 T h a u ++ kX10 T hw aw uw) s.heap.size) (kX6 T h a u14 ++ kX10 T hw aw uw) := by rw [eu14]; exact hD
        have e9 := Option.some.inj hf
        exact retMv hx hb hr hlocks hP hD hS (congrArg (fun z => (kX6 T h a z ++ kX10 T hw aw uw : va_W)) e9) dX6_find_230
      replace hf := ifn c12 hf
      refine lv_aload_n hx hb dX6_find_120 rfl (lv_at hl 1 rfl) ?_
      refine lv_iload_n hx hb dX6_find_121 rfl (lv_at hl 2 rfl) ?_
      obtain ⟨z15, hz15, hf⟩ := bnd hf
      refine cSR (As := [.ref hw, .int x2]) (rest := []) ⟨hx, hb, hml, hown, hts⟩ (mX6_isOneEach l D T hw aw uw x2 z15 hz15) (va_cwS 2 hts gX6_find_X6_isOneEach rfl rfl rfl (by decide +kernel) ⟨Nat.le_of_ble_eq_true rfl, Nat.le_of_ble_eq_true rfl⟩) (hP.sub (ws' := kX10 T hw aw uw) [3, 4, 5, 6] rfl) hK rfl hl.1 rfl (Nat.le_of_ble_eq_true rfl) dX6_find_122 ⟨Nat.le_of_ble_eq_true rfl, Nat.le_of_ble_eq_true rfl⟩ hP hS (fun H locs hP hS => ?_)
      refine lv_if_eq (tgt := 217) hx hb dX6_find_125 (by decide) (fun c16 => ?_) (fun c16 => ?_)
      · replace hf := ifp c16 hf
        obtain ⟨t17, et17, hf⟩ := lett_e hf
        refine lv_iinc (v := t17) (lv' := [(2, .int t17), (0, .ref h), (1, .ref hw)]) hx hb dX6_find_217 hl (k := 2) rfl (by rw [et17]; rfl) (by decide) rfl (fun ls hl => ?_)
        refine lv_goto (tgt := 112) hx hb dX6_find_220 (by decide) ?_
        exact ih112 v t17 _ _ _ hf hP hD hS (lv_sub hl [1, 2, 0] rfl)
      replace hf := ifn c16 hf
      refine lv_aload_n hx hb dX6_find_128 rfl (lv_at hl 1 rfl) ?_
      refine va_get (D := D) (ci := 10) (v := .ref (aw 2)) (C := RX10) (T := TX10) (N := 4) hx hb hts hinX10 hown hK.1 hP 3 rfl rfl 2 (by decide) (hts (.fieldLink RX6 28 "RopeScale$Weighings" "outcome" "[I") (List.mem_of_getElem? (i := 4) rfl)) (fun _ h9 => h9) rfl dX6_find_129 ?_
      refine lv_iload_n hx hb dX6_find_132 rfl (lv_at hl 2 rfl) ?_
      obtain ⟨h22, hf⟩ := gd_e hf
      refine va_iald hx hb hK.1 hP 6 0 rfl rfl h22 dX6_find_133 ?_
      refine lv_bipush (v := 61) hx hb dX6_find_134 (by decide) ?_
      refine lv_icmp_eq (tgt := 217) hx hb dX6_find_136 (by decide) (fun c18 => ?_) (fun c18 => ?_)
      · replace hf := ifp c18 hf
        obtain ⟨t19, et19, hf⟩ := lett_e hf
        refine lv_iinc (v := t19) (lv' := [(2, .int t19), (0, .ref h), (1, .ref hw)]) hx hb dX6_find_217 hl (k := 2) rfl (by rw [et19]; rfl) (by decide) rfl (fun ls hl => ?_)
        refine lv_goto (tgt := 112) hx hb dX6_find_220 (by decide) ?_
        exact ih112 v t19 _ _ _ hf hP hD hS (lv_sub hl [1, 2, 0] rfl)
      replace hf := ifn c18 hf
      refine lv_aload_n hx hb dX6_find_139 rfl (lv_at hl 1 rfl) ?_
      refine va_get (D := D) (ci := 10) (v := .ref (aw 2)) (C := RX10) (T := TX10) (N := 4) hx hb hts hinX10 hown hK.1 hP 3 rfl rfl 2 (by decide) (hts (.fieldLink RX6 28 "RopeScale$Weighings" "outcome" "[I") (List.mem_of_getElem? (i := 4) rfl)) (fun _ h9 => h9) rfl dX6_find_140 ?_
      refine lv_iload_n hx hb dX6_find_143 rfl (lv_at hl 2 rfl) ?_
      obtain ⟨h21, hf⟩ := gd_e hf
      refine va_iald hx hb hK.1 hP 6 0 rfl rfl h21 dX6_find_144 ?_
      refine lv_bipush (v := 62) hx hb dX6_find_145 (by decide) ?_
      refine lv_icmp_ne (tgt := 154) hx hb dX6_find_147 (by decide) (fun c20 => ?_) (fun c20 => ?_)
      · replace hf := ifn c20 hf
        refine lv_iconst (v := 0) hx hb dX6_find_154 (by decide) ?_
        exact J155 v x2 0 _ _ _ hf hP hD hS (lv_sub hl [0, 1, 2] rfl)
      replace hf := ifp c20 hf
      refine lv_iconst (v := 1) hx hb dX6_find_150 (by decide) ?_
      refine lv_goto (tgt := 155) hx hb dX6_find_151 (by decide) ?_
      exact J155 v x2 1 _ _ _ hf hP hD hS (lv_sub hl [0, 1, 2] rfl)
  have L32 : ∀ (n32 : Nat), ∀ (v : St) (x2 : Int32) (H : Heap) (locs : List Loc) (ls : Array Slot), fX6_find_L32 uw n32 v x2 = some res → va_P D vwCl (kX6 T h a v ++ kX10 T hw aw uw) H → va_D (va_A (kX6 T h a u ++ kX10 T hw aw uw) s.heap.size) (kX6 T h a v ++ kX10 T hw aw uw) → va_S (va_A (kX6 T h a u ++ kX10 T hw aw uw) s.heap.size) s.heap H locs → lv_has ls 6 [(0, .ref h), (1, .ref hw), (2, .int x2)] → W p l e (headSpec wsX6_find ({ frames := 2, cells := 0, slots := 0, locals := 44 })).room s m ([.ref h, .ref hw] : List Value).toArray below meth c H locs 0 0 (MQ below (QMv D (kX6 T h a u ++ kX10 T hw aw uw) s.heap.size (kX6 T h a res ++ kX10 T hw aw uw)) ([.ref h, .ref hw] : List Value).toArray s 0 0 (va_A (kX6 T h a u ++ kX10 T hw aw uw) s.heap.size)) (F0 m 32 ls []) := by
    intro n32
    induction n32 with
    | zero => intro v x2 H locs ls hf; exact nns hf
    | succ n32 ih32 =>
      intro v x2 H locs ls hf hP hD hS hl
      replace hf : bX6_find_L32 uw (fX6_find_L32 uw n32) v x2 = some res := hf
      unfold bX6_find_L32 at hf
      refine lv_iload_n hx hb dX6_find_32 rfl (lv_at hl 2 rfl) ?_
      refine lv_aload_n hx hb dX6_find_33 rfl (lv_at hl 1 rfl) ?_
      refine va_get (D := D) (ci := 10) (v := .int (uw 3 0)) (C := RX10) (T := TX10) (N := 4) hx hb hts hinX10 hown hK.1 hP 3 rfl rfl 3 (by decide) (hts (.fieldLink RX6 18 "RopeScale$Weighings" "lines" "I") (List.mem_of_getElem? (i := 3) rfl)) (fun _ h9 => h9) rfl dX6_find_34 ?_
      refine lv_icmp_ge (tgt := 103) hx hb dX6_find_37 (by decide) (fun c23 => ?_) (fun c23 => ?_)
      · replace hf := ifp c23 hf
        refine lv_aload_n hx hb dX6_find_103 rfl (lv_at hl 0 rfl) ?_
        refine va_get (D := D) (ci := 6) (v := .ref (a 1)) (C := RX6) (T := TX6) (N := 2) hx hb hts hinX6 hown hK.1 hP 0 rfl rfl 1 (by decide) (hts (.fieldLink RX6 15 "RopeScale$Rank" "alike" "[I") (List.mem_of_getElem? (i := 1) rfl)) (fun _ h9 => h9) rfl dX6_find_104 ?_
        obtain ⟨z24, hz24, hf⟩ := bnd hf
        have hPc := hP.sub (ws' := [(a 1, .inl (T.1, 16, .inl (v 1)))]) [2] rfl
        have hDc := hD.sub (ws' := [(a 1, .inl (T.1, 16, .inl (v 1)))]) [2] (by decide) rfl
        have hFc9 := va_free (wc := [(a 1, .inl (T.1, 16, .inl (v 1)))]) hD hS hA [2] rfl
        refine cSMv (As := [.ref (a 1)]) (rest := []) ⟨hx, hb, hml, hown, hts⟩ (mX6_close l D T (a 1) (v 1) _ z24 hz24) (va_cwS 1 hts gX6_find_X6_close rfl rfl rfl (by decide +kernel) ⟨Nat.le_of_ble_eq_true rfl, Nat.le_of_ble_eq_true rfl⟩) hPc hK rfl hl.1 rfl (Nat.le_of_ble_eq_true rfl) dX6_find_107 ⟨Nat.le_of_ble_eq_true rfl, Nat.le_of_ble_eq_true rfl⟩ hDc hFc9 hS (fun H9 locs hP1 hD1 hk1 hS => ?_)
        obtain ⟨hP, hD⟩ := putAll_P (w1 := [(a 1, .inl (T.1, 16, .inl z24))]) hP hD [2] rfl (by decide) hk1 hP1 rfl
        generalize H9 = H at hP hS ⊢
        obtain ⟨u25, eu25, hf⟩ := lett_e hf
        have hP : va_P D vwCl (kX6 T h a u25 ++ kX10 T hw aw uw) H := by rw [eu25]; exact hP
        have hD : va_D (va_A (kX6 T h a u ++ kX10 T hw aw uw) s.heap.size) (kX6 T h a u25 ++ kX10 T hw aw uw) := by rw [eu25]; exact hD
        refine lv_iconst (v := 0) hx hb dX6_find_110 (by decide) ?_
        refine lv_istore_n (lv' := [(2, .int 0), (0, .ref h), (1, .ref hw)]) hx hb dX6_find_111 rfl hl (by decide) rfl (fun ls hl => ?_)
        exact L112 FU u25 0 _ _ _ hf hP hD hS (lv_sub hl [1, 2, 0] rfl)
      replace hf := ifn c23 hf
      refine lv_aload_n hx hb dX6_find_40 rfl (lv_at hl 1 rfl) ?_
      refine lv_iload_n hx hb dX6_find_41 rfl (lv_at hl 2 rfl) ?_
      obtain ⟨z26, hz26, hf⟩ := bnd hf
      refine cSR (As := [.ref hw, .int x2]) (rest := []) ⟨hx, hb, hml, hown, hts⟩ (mX6_isOneEach l D T hw aw uw x2 z26 hz26) (va_cwS 2 hts gX6_find_X6_isOneEach rfl rfl rfl (by decide +kernel) ⟨Nat.le_of_ble_eq_true rfl, Nat.le_of_ble_eq_true rfl⟩) (hP.sub (ws' := kX10 T hw aw uw) [3, 4, 5, 6] rfl) hK rfl hl.1 rfl (Nat.le_of_ble_eq_true rfl) dX6_find_42 ⟨Nat.le_of_ble_eq_true rfl, Nat.le_of_ble_eq_true rfl⟩ hP hS (fun H locs hP hS => ?_)
      refine lv_if_eq (tgt := 97) hx hb dX6_find_45 (by decide) (fun c27 => ?_) (fun c27 => ?_)
      · replace hf := ifp c27 hf
        obtain ⟨t28, et28, hf⟩ := lett_e hf
        refine lv_iinc (v := t28) (lv' := [(2, .int t28), (0, .ref h), (1, .ref hw)]) hx hb dX6_find_97 hl (k := 2) rfl (by rw [et28]; rfl) (by decide) rfl (fun ls hl => ?_)
        refine lv_goto (tgt := 32) hx hb dX6_find_100 (by decide) ?_
        exact ih32 v t28 _ _ _ hf hP hD hS (lv_sub hl [1, 2, 0] rfl)
      replace hf := ifn c27 hf
      refine lv_aload_n hx hb dX6_find_48 rfl (lv_at hl 1 rfl) ?_
      refine va_get (D := D) (ci := 10) (v := .ref (aw 2)) (C := RX10) (T := TX10) (N := 4) hx hb hts hinX10 hown hK.1 hP 3 rfl rfl 2 (by decide) (hts (.fieldLink RX6 28 "RopeScale$Weighings" "outcome" "[I") (List.mem_of_getElem? (i := 4) rfl)) (fun _ h9 => h9) rfl dX6_find_49 ?_
      refine lv_iload_n hx hb dX6_find_52 rfl (lv_at hl 2 rfl) ?_
      obtain ⟨h40, hf⟩ := gd_e hf
      refine va_iald hx hb hK.1 hP 6 0 rfl rfl h40 dX6_find_53 ?_
      refine lv_bipush (v := 61) hx hb dX6_find_54 (by decide) ?_
      refine lv_icmp_ne (tgt := 97) hx hb dX6_find_56 (by decide) (fun c29 => ?_) (fun c29 => ?_)
      · replace hf := ifn c29 hf
        obtain ⟨t30, et30, hf⟩ := lett_e hf
        refine lv_iinc (v := t30) (lv' := [(2, .int t30), (0, .ref h), (1, .ref hw)]) hx hb dX6_find_97 hl (k := 2) rfl (by rw [et30]; rfl) (by decide) rfl (fun ls hl => ?_)
        refine lv_goto (tgt := 32) hx hb dX6_find_100 (by decide) ?_
        exact ih32 v t30 _ _ _ hf hP hD hS (lv_sub hl [1, 2, 0] rfl)
      replace hf := ifp c29 hf
      refine lv_aload_n hx hb dX6_find_59 rfl (lv_at hl 0 rfl) ?_
      refine va_get (D := D) (ci := 6) (v := .ref (a 1)) (C := RX6) (T := TX6) (N := 2) hx hb hts hinX6 hown hK.1 hP 0 rfl rfl 1 (by decide) (hts (.fieldLink RX6 15 "RopeScale$Rank" "alike" "[I") (List.mem_of_getElem? (i := 1) rfl)) (fun _ h9 => h9) rfl dX6_find_60 ?_
      refine lv_aload_n hx hb dX6_find_63 rfl (lv_at hl 1 rfl) ?_
      refine va_get (D := D) (ci := 10) (v := .ref (aw 0)) (C := RX10) (T := TX10) (N := 4) hx hb hts hinX10 hown hK.1 hP 3 rfl rfl 0 (by decide) (hts (.fieldLink RX6 31 "RopeScale$Weighings" "left" "[I") (List.mem_of_getElem? (i := 5) rfl)) (fun _ h9 => h9) rfl dX6_find_64 ?_
      refine lv_iload_n hx hb dX6_find_67 rfl (lv_at hl 2 rfl) ?_
      obtain ⟨h39, hf⟩ := gd_e hf
      refine va_iald hx hb hK.1 hP 4 0 rfl rfl h39 dX6_find_68 ?_
      refine lv_aload_n hx hb dX6_find_69 rfl (lv_at hl 1 rfl) ?_
      refine va_get (D := D) (ci := 10) (v := .ref (aw 1)) (C := RX10) (T := TX10) (N := 4) hx hb hts hinX10 hown hK.1 hP 3 rfl rfl 1 (by decide) (hts (.fieldLink RX6 34 "RopeScale$Weighings" "right" "[I") (List.mem_of_getElem? (i := 6) rfl)) (fun _ h9 => h9) rfl dX6_find_70 ?_
      refine lv_iload_n hx hb dX6_find_73 rfl (lv_at hl 2 rfl) ?_
      obtain ⟨h38, hf⟩ := gd_e hf
      refine va_iald hx hb hK.1 hP 5 0 rfl rfl h38 dX6_find_74 ?_
      obtain ⟨z31, hz31, hf⟩ := bnd hf
      have hPc := hP.sub (ws' := [(a 1, .inl (T.1, 16, .inl (v 1)))]) [2] rfl
      have hDc := hD.sub (ws' := [(a 1, .inl (T.1, 16, .inl (v 1)))]) [2] (by decide) rfl
      have hFc9 := va_free (wc := [(a 1, .inl (T.1, 16, .inl (v 1)))]) hD hS hA [2] rfl
      refine cSMv (As := [.ref (a 1), .int (uw 0 (ix x2)), .int (uw 1 (ix x2))]) (rest := []) ⟨hx, hb, hml, hown, hts⟩ (mX6_join l D T (a 1) (v 1) _ (uw 0 (ix x2)) (uw 1 (ix x2)) z31 hz31) (va_cwS 3 hts gX6_find_X6_join rfl rfl rfl (by decide +kernel) ⟨Nat.le_of_ble_eq_true rfl, Nat.le_of_ble_eq_true rfl⟩) hPc hK rfl hl.1 rfl (Nat.le_of_ble_eq_true rfl) dX6_find_75 ⟨Nat.le_of_ble_eq_true rfl, Nat.le_of_ble_eq_true rfl⟩ hDc hFc9 hS (fun H9 locs hP1 hD1 hk1 hS => ?_)
      obtain ⟨hP, hD⟩ := putAll_P (w1 := [(a 1, .inl (T.1, 16, .inl z31))]) hP hD [2] rfl (by decide) hk1 hP1 rfl
      generalize H9 = H at hP hS ⊢
      obtain ⟨u32, eu32, hf⟩ := lett_e hf
      have hP : va_P D vwCl (kX6 T h a u32 ++ kX10 T hw aw uw) H := by rw [eu32]; exact hP
      have hD : va_D (va_A (kX6 T h a u ++ kX10 T hw aw uw) s.heap.size) (kX6 T h a u32 ++ kX10 T hw aw uw) := by rw [eu32]; exact hD
      refine lv_aload_n hx hb dX6_find_78 rfl (lv_at hl 0 rfl) ?_
      refine va_get (D := D) (ci := 6) (v := .ref (a 1)) (C := RX6) (T := TX6) (N := 2) hx hb hts hinX6 hown hK.1 hP 0 rfl rfl 1 (by decide) (hts (.fieldLink RX6 15 "RopeScale$Rank" "alike" "[I") (List.mem_of_getElem? (i := 1) rfl)) (fun _ h9 => h9) rfl dX6_find_79 ?_
      refine lv_aload_n hx hb dX6_find_82 rfl (lv_at hl 1 rfl) ?_
      refine va_get (D := D) (ci := 10) (v := .ref (aw 1)) (C := RX10) (T := TX10) (N := 4) hx hb hts hinX10 hown hK.1 hP 3 rfl rfl 1 (by decide) (hts (.fieldLink RX6 34 "RopeScale$Weighings" "right" "[I") (List.mem_of_getElem? (i := 6) rfl)) (fun _ h9 => h9) rfl dX6_find_83 ?_
      refine lv_iload_n hx hb dX6_find_86 rfl (lv_at hl 2 rfl) ?_
      obtain ⟨h37, hf⟩ := gd_e hf
      refine va_iald hx hb hK.1 hP 5 0 rfl rfl h37 dX6_find_87 ?_
      refine lv_aload_n hx hb dX6_find_88 rfl (lv_at hl 1 rfl) ?_
      refine va_get (D := D) (ci := 10) (v := .ref (aw 0)) (C := RX10) (T := TX10) (N := 4) hx hb hts hinX10 hown hK.1 hP 3 rfl rfl 0 (by decide) (hts (.fieldLink RX6 31 "RopeScale$Weighings" "left" "[I") (List.mem_of_getElem? (i := 5) rfl)) (fun _ h9 => h9) rfl dX6_find_89 ?_
      refine lv_iload_n hx hb dX6_find_92 rfl (lv_at hl 2 rfl) ?_
      obtain ⟨h36, hf⟩ := gd_e hf
      refine va_iald hx hb hK.1 hP 4 0 rfl rfl h36 dX6_find_93 ?_
      obtain ⟨z33, hz33, hf⟩ := bnd hf
      have hPc := hP.sub (ws' := [(a 1, .inl (T.1, 16, .inl (u32 1)))]) [2] rfl
      have hDc := hD.sub (ws' := [(a 1, .inl (T.1, 16, .inl (u32 1)))]) [2] (by decide) rfl
      have hFc9 := va_free (wc := [(a 1, .inl (T.1, 16, .inl (u32 1)))]) hD hS hA [2] rfl
      refine cSMv (As := [.ref (a 1), .int (uw 1 (ix x2)), .int (uw 0 (ix x2))]) (rest := []) ⟨hx, hb, hml, hown, hts⟩ (mX6_join l D T (a 1) (u32 1) _ (uw 1 (ix x2)) (uw 0 (ix x2)) z33 hz33) (va_cwS 3 hts gX6_find_X6_join rfl rfl rfl (by decide +kernel) ⟨Nat.le_of_ble_eq_true rfl, Nat.le_of_ble_eq_true rfl⟩) hPc hK rfl hl.1 rfl (Nat.le_of_ble_eq_true rfl) dX6_find_94 ⟨Nat.le_of_ble_eq_true rfl, Nat.le_of_ble_eq_true rfl⟩ hDc hFc9 hS (fun H9 locs hP1 hD1 hk1 hS => ?_)
      obtain ⟨hP, hD⟩ := putAll_P (w1 := [(a 1, .inl (T.1, 16, .inl z33))]) hP hD [2] rfl (by decide) hk1 hP1 rfl
      generalize H9 = H at hP hS ⊢
      obtain ⟨u34, eu34, hf⟩ := lett_e hf
      have hP : va_P D vwCl (kX6 T h a u34 ++ kX10 T hw aw uw) H := by rw [eu34]; exact hP
      have hD : va_D (va_A (kX6 T h a u ++ kX10 T hw aw uw) s.heap.size) (kX6 T h a u34 ++ kX10 T hw aw uw) := by rw [eu34]; exact hD
      obtain ⟨t35, et35, hf⟩ := lett_e hf
      refine lv_iinc (v := t35) (lv' := [(2, .int t35), (0, .ref h), (1, .ref hw)]) hx hb dX6_find_97 hl (k := 2) rfl (by rw [et35]; rfl) (by decide) rfl (fun ls hl => ?_)
      refine lv_goto (tgt := 32) hx hb dX6_find_100 (by decide) ?_
      exact ih32 u34 t35 _ _ _ hf hP hD hS (lv_sub hl [1, 2, 0] rfl)
  have L2 : ∀ (n2 : Nat), ∀ (v : St) (x2 : Int32) (H : Heap) (locs : List Loc) (ls : Array Slot), fX6_find_L2 uw n2 v x2 = some res → va_P D vwCl (kX6 T h a v ++ kX10 T hw aw uw) H → va_D (va_A (kX6 T h a u ++ kX10 T hw aw uw) s.heap.size) (kX6 T h a v ++ kX10 T hw aw uw) → va_S (va_A (kX6 T h a u ++ kX10 T hw aw uw) s.heap.size) s.heap H locs → lv_has ls 6 [(0, .ref h), (1, .ref hw), (2, .int x2)] → W p l e (headSpec wsX6_find ({ frames := 2, cells := 0, slots := 0, locals := 44 })).room s m ([.ref h, .ref hw] : List Value).toArray below meth c H locs 0 0 (MQ below (QMv D (kX6 T h a u ++ kX10 T hw aw uw) s.heap.size (kX6 T h a res ++ kX10 T hw aw uw)) ([.ref h, .ref hw] : List Value).toArray s 0 0 (va_A (kX6 T h a u ++ kX10 T hw aw uw) s.heap.size)) (F0 m 2 ls []) := by
    intro n2
    induction n2 with
    | zero => intro v x2 H locs ls hf; exact nns hf
    | succ n2 ih2 =>
      intro v x2 H locs ls hf hP hD hS hl
      replace hf : bX6_find_L2 uw (fX6_find_L2 uw n2) v x2 = some res := hf
      unfold bX6_find_L2 at hf
      refine lv_iload_n hx hb dX6_find_2 rfl (lv_at hl 2 rfl) ?_
      refine lv_bipush (v := 16) hx hb dX6_find_3 (by decide) ?_
      refine lv_icmp_ge (tgt := 30) hx hb dX6_find_5 (by decide) (fun c41 => ?_) (fun c41 => ?_)
      · replace hf := ifp c41 hf
        refine lv_iconst (v := 0) hx hb dX6_find_30 (by decide) ?_
        refine lv_istore_n (lv' := [(2, .int 0), (0, .ref h), (1, .ref hw)]) hx hb dX6_find_31 rfl hl (by decide) rfl (fun ls hl => ?_)
        exact L32 FU v 0 _ _ _ hf hP hD hS (lv_sub hl [1, 2, 0] rfl)
      replace hf := ifn c41 hf
      refine lv_aload_n hx hb dX6_find_8 rfl (lv_at hl 0 rfl) ?_
      refine va_get (D := D) (ci := 6) (v := .ref (a 1)) (C := RX6) (T := TX6) (N := 2) hx hb hts hinX6 hown hK.1 hP 0 rfl rfl 1 (by decide) (hts (.fieldLink RX6 15 "RopeScale$Rank" "alike" "[I") (List.mem_of_getElem? (i := 1) rfl)) (fun _ h9 => h9) rfl dX6_find_9 ?_
      refine lv_iload_n hx hb dX6_find_12 rfl (lv_at hl 2 rfl) ?_
      refine lv_iconst (v := 1) hx hb dX6_find_13 (by decide) ?_
      refine lv_iload_n hx hb dX6_find_14 rfl (lv_at hl 2 rfl) ?_
      refine lv_ishl hx hb dX6_find_15 ?_
      obtain ⟨h46, hf⟩ := gd_e hf
      obtain ⟨u42, eu42, hf⟩ := lett_e hf
      refine va_iast hx hb hK.1 hP hD hS 2 0 rfl rfl h46 dX6_find_16 (fun H locs hP hD hS => ?_)
      have hP : va_P D vwCl (kX6 T h a u42 ++ kX10 T hw aw uw) H := by rw [eu42]; exact hP
      have hD : va_D (va_A (kX6 T h a u ++ kX10 T hw aw uw) s.heap.size) (kX6 T h a u42 ++ kX10 T hw aw uw) := by rw [eu42]; exact hD
      refine lv_aload_n hx hb dX6_find_17 rfl (lv_at hl 0 rfl) ?_
      refine va_get (D := D) (ci := 6) (v := .ref (a 0)) (C := RX6) (T := TX6) (N := 2) hx hb hts hinX6 hown hK.1 hP 0 rfl rfl 0 (by decide) (hts (.fieldLink RX6 9 "RopeScale$Rank" "lighter" "[I") (List.mem_of_getElem? (i := 2) rfl)) (fun _ h9 => h9) rfl dX6_find_18 ?_
      refine lv_iload_n hx hb dX6_find_21 rfl (lv_at hl 2 rfl) ?_
      refine lv_iconst (v := 0) hx hb dX6_find_22 (by decide) ?_
      obtain ⟨h45, hf⟩ := gd_e hf
      obtain ⟨u43, eu43, hf⟩ := lett_e hf
      refine va_iast hx hb hK.1 hP hD hS 1 0 rfl rfl h45 dX6_find_23 (fun H locs hP hD hS => ?_)
      have hP : va_P D vwCl (kX6 T h a u43 ++ kX10 T hw aw uw) H := by rw [eu43]; exact hP
      have hD : va_D (va_A (kX6 T h a u ++ kX10 T hw aw uw) s.heap.size) (kX6 T h a u43 ++ kX10 T hw aw uw) := by rw [eu43]; exact hD
      obtain ⟨t44, et44, hf⟩ := lett_e hf
      refine lv_iinc (v := t44) (lv' := [(2, .int t44), (0, .ref h), (1, .ref hw)]) hx hb dX6_find_24 hl (k := 2) rfl (by rw [et44]; rfl) (by decide) rfl (fun ls hl => ?_)
      refine lv_goto (tgt := 2) hx hb dX6_find_27 (by decide) ?_
      exact ih2 u43 t44 _ _ _ hf hP hD hS (lv_sub hl [1, 2, 0] rfl)
  unfold fX6_find at hf
  refine lv_iconst (v := 0) hx hb dX6_find_0 (by decide) ?_
  refine lv_istore_n (lv' := [(2, .int 0), (0, .ref h), (1, .ref hw)]) hx hb dX6_find_1 rfl hl (by decide) rfl (fun ls hl => ?_)
  exact L2 FU u 0 _ _ _ hf hP hD hS (lv_sub hl [1, 2, 0] rfl)
def bX6_contradictsItself_L2 (u : St)  (lp2 : Int32 → Option (Int32)) (x1 : Int32) : Option (Int32) := if 16 ≤ x1 then some 0 else gd x1 16 <| lett (fX11_has (u 0 (ix x1)) x1) fun z2 => if z2 = 0 then lett (x1 + 1) fun t4 => lp2 t4 else some 1
def fX6_contradictsItself_L2 (u : St)  : Nat → Int32 → Option (Int32)
  | 0, _ => none
  | n + 1, x1 => bX6_contradictsItself_L2 u (fX6_contradictsItself_L2 u n) x1
def fX6_contradictsItself  (u : St)  : Option (Int32) := fX6_contradictsItself_L2 u FU 0
set_option maxHeartbeats 4000000 in
set_option maxRecDepth 100000 in
theorem mX6_contradictsItself (l : Launch) (D : va_G) (T : Ty3) (h : Nat) (a : Nat → Nat) (u : St)  (res : Int32) (hf : fX6_contradictsItself u = some res) : Met l yX6_contradictsItself wsX6_contradictsItself ({ frames := 1, cells := 0, slots := 0, locals := 21 }) (PcR D T (kX6 T h a u) [.ref h]) (QR res) 0 0 noA := by
  refine Met.ofW (cc := cX6_contradictsItself) (maxL := 2) (ret := (some .boolean)) (by decide) rfl ?_
  intro p e s m args below meth c s₁ B hml hv
  obtain ⟨rfl, hP, hK⟩ := hv
  have hx := B.exec
  have hb := B.bytes
  have hr := B.returns
  have hts := atoms_spec (ws := wsX6_contradictsItself) B.pre
  have hown : s.vm.findClass RX6 = some m.cls := findClass_of_methodNamed B.named
  have hlocks := B.notSynchronized
  have hS : va_S noA s.heap s.heap [] := va_S.rf
  have hinX6 : ∀ w ∈ u_ws RX6 TX6 2, w ∈ wsX6_contradictsItself := fun w h => List.mem_cons_of_mem _ (List.mem_append_right _ h)
  have hl := lv_entry ([.ref h]) (n := 2) (Nat.le_of_ble_eq_true rfl)
  rw [lg_entry_eq]
  generalize (lg_sl ([.ref h]) ++ List.replicate (2 - (lg_sl ([.ref h])).length) Slot.unset).toArray = ls at hl ⊢
  have hl : lv_has ls 2 [(0, .ref h)] := hl
  have L2 : ∀ (n2 : Nat), ∀ (x1 : Int32) (H : Heap) (locs : List Loc) (ls : Array Slot), fX6_contradictsItself_L2 u n2 x1 = some res → va_P D vwCl (kX6 T h a u) H → va_S noA s.heap H locs → lv_has ls 2 [(0, .ref h), (1, .int x1)] → W p l e (headSpec wsX6_contradictsItself ({ frames := 1, cells := 0, slots := 0, locals := 21 })).room s m ([.ref h] : List Value).toArray below meth c H locs 0 0 (MQ below (QR res) ([.ref h] : List Value).toArray s 0 0 noA) (F0 m 2 ls []) := by
    intro n2
    induction n2 with
    | zero => intro x1 H locs ls hf; exact nns hf
    | succ n2 ih2 =>
      intro x1 H locs ls hf hP hS hl
      replace hf : bX6_contradictsItself_L2 u (fX6_contradictsItself_L2 u n2) x1 = some res := hf
      unfold bX6_contradictsItself_L2 at hf
      refine lv_iload_n hx hb dX6_contradictsItself_2 rfl (lv_at hl 1 rfl) ?_
      refine lv_bipush (v := 16) hx hb dX6_contradictsItself_3 (by decide) ?_
      refine lv_icmp_ge (tgt := 29) hx hb dX6_contradictsItself_5 (by decide) (fun c1 => ?_) (fun c1 => ?_)
      · replace hf := ifp c1 hf
        refine lv_iconst (v := 0) hx hb dX6_contradictsItself_29 (by decide) ?_
        exact retRz hx hb hr hlocks hS rfl (Option.some.inj hf) dX6_contradictsItself_30
      replace hf := ifn c1 hf
      refine lv_aload_n hx hb dX6_contradictsItself_8 rfl (lv_at hl 0 rfl) ?_
      refine va_get (D := D) (ci := 6) (v := .ref (a 0)) (C := RX6) (T := TX6) (N := 2) hx hb hts hinX6 hown hK.1 hP 0 rfl rfl 0 (by decide) (hts (.fieldLink RX6 9 "RopeScale$Rank" "lighter" "[I") (List.mem_of_getElem? (i := 1) rfl)) (fun _ h9 => h9) rfl dX6_contradictsItself_9 ?_
      refine lv_iload_n hx hb dX6_contradictsItself_12 rfl (lv_at hl 1 rfl) ?_
      obtain ⟨h5, hf⟩ := gd_e hf
      refine va_iald hx hb hK.1 hP 1 0 rfl rfl h5 dX6_contradictsItself_13 ?_
      refine lv_iload_n hx hb dX6_contradictsItself_14 rfl (lv_at hl 1 rfl) ?_
      obtain ⟨z2, hz2, hf⟩ := lett_e hf
      refine cNR (As := [.int (u 0 (ix x1)), .int x1]) (rest := []) ⟨hx, hb, hml, hown, hts⟩ (mX11_has l D T (u 0 (ix x1)) x1 z2 hz2.symm) ⟨va_cnB (host := "RopeScale") (index := 49) 2 hts gX6_contradictsItself_X11_has_n49 rfl rfl rfl (hK.2 _ (List.mem_of_getElem? (i := 23) rfl)) (hts (.initialized RX11) (List.mem_of_getElem? (i := 3) rfl)) (by decide +kernel) ⟨Nat.le_of_ble_eq_true rfl, Nat.le_of_ble_eq_true rfl⟩, (hts (.static yX11_has) (List.mem_of_getElem? (i := 2) rfl)), trivial⟩ P0 hK rfl hl.1 rfl (Nat.le_of_ble_eq_true rfl) dX6_contradictsItself_15 ⟨Nat.le_of_ble_eq_true rfl, Nat.le_of_ble_eq_true rfl⟩ hP hS (fun H locs hP hS => ?_)
      refine lv_if_eq (tgt := 23) hx hb dX6_contradictsItself_18 (by decide) (fun c3 => ?_) (fun c3 => ?_)
      · replace hf := ifp c3 hf
        obtain ⟨t4, et4, hf⟩ := lett_e hf
        refine lv_iinc (v := t4) (lv' := [(1, .int t4), (0, .ref h)]) hx hb dX6_contradictsItself_23 hl (k := 1) rfl (by rw [et4]; rfl) (by decide) rfl (fun ls hl => ?_)
        refine lv_goto (tgt := 2) hx hb dX6_contradictsItself_26 (by decide) ?_
        exact ih2 t4 _ _ _ hf hP hS (lv_sub hl [1, 0] rfl)
      replace hf := ifn c3 hf
      refine lv_iconst (v := 1) hx hb dX6_contradictsItself_21 (by decide) ?_
      exact retRz hx hb hr hlocks hS rfl (Option.some.inj hf) dX6_contradictsItself_22
  unfold fX6_contradictsItself at hf
  refine lv_iconst (v := 0) hx hb dX6_contradictsItself_0 (by decide) ?_
  refine lv_istore_n (lv' := [(1, .int 0), (0, .ref h)]) hx hb dX6_contradictsItself_1 rfl hl (by decide) rfl (fun ls hl => ?_)
  exact L2 FU 0 _ _ _ hf hP hS (lv_sub hl [1, 0] rfl)
def fX9_here  (u : St)  : (Int32) := (u 4 0) &&& ((u 5 0) ^^^ (-1))
set_option maxHeartbeats 4000000 in
set_option maxRecDepth 100000 in
theorem mX9_here (l : Launch) (D : va_G) (T : Ty3) (h : Nat) (a : Nat → Nat) (u : St)  (res : Int32) (hf : fX9_here u = res) : Met l yX9_here wsX9_here ({ frames := 0, cells := 0, slots := 0, locals := 0 }) (PcR D T (kX9 T h a u) [.ref h]) (QR res) 0 0 noA := by
  refine Met.ofW (cc := cX9_here) (maxL := 1) (ret := (some .int)) (by decide) rfl ?_
  intro p e s m args below meth c s₁ B hml hv
  obtain ⟨rfl, hP, hK⟩ := hv
  have hx := B.exec
  have hb := B.bytes
  have hr := B.returns
  have hts := atoms_spec (ws := wsX9_here) B.pre
  have hown : s.vm.findClass RX9 = some m.cls := findClass_of_methodNamed B.named
  have hlocks := B.notSynchronized
  have hS : va_S noA s.heap s.heap [] := va_S.rf
  have hinX9 : ∀ w ∈ u_ws RX9 TX9 8, w ∈ wsX9_here := fun w h => List.mem_cons_of_mem _ (List.mem_append_right _ h)
  have hl := lv_entry ([.ref h]) (n := 1) (Nat.le_of_ble_eq_true rfl)
  rw [lg_entry_eq]
  generalize (lg_sl ([.ref h]) ++ List.replicate (1 - (lg_sl ([.ref h])).length) Slot.unset).toArray = ls at hl ⊢
  have hl : lv_has ls 1 [(0, .ref h)] := hl
  unfold fX9_here at hf
  refine lv_aload_n hx hb dX9_here_0 rfl (lv_at hl 0 rfl) ?_
  refine va_get (D := D) (ci := 9) (v := .int (u 4 0)) (C := RX9) (T := TX9) (N := 8) hx hb hts hinX9 hown hK.1 hP 0 rfl rfl 4 (by decide) (hts (.fieldLink RX9 24 "RopeScale$Walk" "told" "I") (List.mem_of_getElem? (i := 1) rfl)) (fun _ h9 => h9) rfl dX9_here_1 ?_
  refine lv_aload_n hx hb dX9_here_4 rfl (lv_at hl 0 rfl) ?_
  refine va_get (D := D) (ci := 9) (v := .int (u 5 0)) (C := RX9) (T := TX9) (N := 8) hx hb hts hinX9 hown hK.1 hP 0 rfl rfl 5 (by decide) (hts (.fieldLink RX9 28 "RopeScale$Walk" "over" "I") (List.mem_of_getElem? (i := 2) rfl)) (fun _ h9 => h9) rfl dX9_here_5 ?_
  refine lv_iconst (v := (-1)) hx hb dX9_here_8 (by decide) ?_
  refine lv_ixor hx hb dX9_here_9 ?_
  refine lv_iand hx hb dX9_here_10 ?_
  exact retR hx hb hr hlocks hS hf dX9_here_11
def fX9_othersHere  (u : St) (p1 : Int32) : (Int32) := lett (fX9_here u) fun z1 => z1 &&& ((jshl 1 p1) ^^^ (-1))
set_option maxHeartbeats 4000000 in
set_option maxRecDepth 100000 in
theorem mX9_othersHere (l : Launch) (D : va_G) (T : Ty3) (h : Nat) (a : Nat → Nat) (u : St) (p1 : Int32) (res : Int32) (hf : fX9_othersHere u p1 = res) : Met l yX9_othersHere wsX9_othersHere ({ frames := 1, cells := 0, slots := 0, locals := 20 }) (PcR D T (kX9 T h a u) [.ref h, .int p1]) (QR res) 0 0 noA := by
  refine Met.ofW (cc := cX9_othersHere) (maxL := 2) (ret := (some .int)) (by decide) rfl ?_
  intro p e s m args below meth c s₁ B hml hv
  obtain ⟨rfl, hP, hK⟩ := hv
  have hx := B.exec
  have hb := B.bytes
  have hr := B.returns
  have hts := atoms_spec (ws := wsX9_othersHere) B.pre
  have hown : s.vm.findClass RX9 = some m.cls := findClass_of_methodNamed B.named
  have hlocks := B.notSynchronized
  have hS : va_S noA s.heap s.heap [] := va_S.rf
  have hinX9 : ∀ w ∈ u_ws RX9 TX9 8, w ∈ wsX9_othersHere := fun w h => List.mem_cons_of_mem _ (List.mem_append_right _ h)
  have hl := lv_entry ([.ref h, .int p1]) (n := 2) (Nat.le_of_ble_eq_true rfl)
  rw [lg_entry_eq]
  generalize (lg_sl ([.ref h, .int p1]) ++ List.replicate (2 - (lg_sl ([.ref h, .int p1])).length) Slot.unset).toArray = ls at hl ⊢
  have hl : lv_has ls 2 [(0, .ref h), (1, .int p1)] := hl
  unfold fX9_othersHere at hf
  refine lv_aload_n hx hb dX9_othersHere_0 rfl (lv_at hl 0 rfl) ?_
  obtain ⟨z1, hz1, hf⟩ := lett_e hf
  refine cVR (As := []) (rest := []) ⟨hx, hb, hml, hown, hts⟩ (mX9_here l D T h a u z1 hz1.symm) (cwV 0 hts gX9_othersHere_X9_here rfl rfl rfl (by decide +kernel) ⟨Nat.le_of_ble_eq_true rfl, Nat.le_of_ble_eq_true rfl⟩) (va_recv hK.1 hP (ci := 9) (q0 := 0) rfl rfl) hP hK rfl hl.1 rfl (Nat.le_of_ble_eq_true rfl) dX9_othersHere_1 ⟨Nat.le_of_ble_eq_true rfl, Nat.le_of_ble_eq_true rfl⟩ hP hS (fun H locs hP hS => ?_)
  refine lv_iconst (v := 1) hx hb dX9_othersHere_4 (by decide) ?_
  refine lv_iload_n hx hb dX9_othersHere_5 rfl (lv_at hl 1 rfl) ?_
  refine lv_ishl hx hb dX9_othersHere_6 ?_
  refine lv_iconst (v := (-1)) hx hb dX9_othersHere_7 (by decide) ?_
  refine lv_ixor hx hb dX9_othersHere_8 ?_
  refine lv_iand hx hb dX9_othersHere_9 ?_
  exact retR hx hb hr hlocks hS hf dX9_othersHere_10
def fX9_draw  (u : St)  : (Int32 × St) := lett (st u 7 0 (((25173 * (u 7 0)) + 13849) &&& 65535)) fun u1 => (jrem (u1 7 0) 10, u1)
set_option maxHeartbeats 4000000 in
set_option maxRecDepth 100000 in
theorem mX9_draw (l : Launch) (D : va_G) (T : Ty3) (h : Nat) (a : Nat → Nat) (u : St) (sz : Nat)  (res : Int32 × St) (hf : fX9_draw u = res) : Met l yX9_draw wsX9_draw ({ frames := 0, cells := 0, slots := 0, locals := 0 }) (PcM D T (kX9 T h a u) sz [.ref h]) (QM D (kX9 T h a u) sz res.1 (kX9 T h a res.2)) 0 0 (va_A (kX9 T h a u) sz) := by
  refine Met.ofW (cc := cX9_draw) (maxL := 1) (ret := (some .int)) (by decide) rfl ?_
  intro p e s m args below meth c s₁ B hml hv
  obtain ⟨rfl, hsz, hP, hK, hD0⟩ := hv
  have hx := B.exec
  have hb := B.bytes
  have hr := B.returns
  have hts := atoms_spec (ws := wsX9_draw) B.pre
  have hown : s.vm.findClass RX9 = some m.cls := findClass_of_methodNamed B.named
  have hlocks := B.notSynchronized
  subst hsz
  have hD := hD0.self (sz := s.heap.size)
  have hA : ∀ q : Nat, s.heap.size ≤ q → va_A (kX9 T h a u) s.heap.size q := fun q h => Or.inr h
  have hS : va_S (va_A (kX9 T h a u) s.heap.size) s.heap s.heap [] := va_S.rf
  have hinX9 : ∀ w ∈ u_ws RX9 TX9 8, w ∈ wsX9_draw := fun w h => List.mem_cons_of_mem _ (List.mem_append_right _ h)
  have hl := lv_entry ([.ref h]) (n := 1) (Nat.le_of_ble_eq_true rfl)
  rw [lg_entry_eq]
  generalize (lg_sl ([.ref h]) ++ List.replicate (1 - (lg_sl ([.ref h])).length) Slot.unset).toArray = ls at hl ⊢
  have hl : lv_has ls 1 [(0, .ref h)] := hl
  unfold fX9_draw at hf
  refine lv_aload_n hx hb dX9_draw_0 rfl (lv_at hl 0 rfl) ?_
  refine lv_sipush (v := 25173) hx hb dX9_draw_1 (by decide) ?_
  refine lv_aload_n hx hb dX9_draw_4 rfl (lv_at hl 0 rfl) ?_
  refine va_get (D := D) (ci := 9) (v := .int (u 7 0)) (C := RX9) (T := TX9) (N := 8) hx hb hts hinX9 hown hK.1 hP 0 rfl rfl 7 (by decide) (hts (.fieldLink RX9 34 "RopeScale$Walk" "x" "I") (List.mem_of_getElem? (i := 1) rfl)) (fun _ h9 => h9) rfl dX9_draw_5 ?_
  refine lv_imul hx hb dX9_draw_8 ?_
  refine lv_sipush (v := 13849) hx hb dX9_draw_9 (by decide) ?_
  refine lv_iadd hx hb dX9_draw_12 ?_
  refine lv_ldc (v := 65535) hx hb hown (hts (.constant RX9 62 (65535)) (List.mem_of_getElem? (i := 2) rfl)) dX9_draw_13 ?_
  refine lv_iand hx hb dX9_draw_15 ?_
  obtain ⟨u1, eu1, hf⟩ := lett_e hf
  refine va_put (D := D) (ci := 9) (v := .int (((25173 * (u 7 0)) + 13849) &&& 65535)) (ty := .int) (C := RX9) (T := TX9) (N := 8) hx hb hts hinX9 tyX9 tyX9_ok nmX9 hown hK.1 hP hD hS 0 rfl rfl 7 (by decide) (hts (.fieldLink RX9 34 "RopeScale$Walk" "x" "I") (List.mem_of_getElem? (i := 1) rfl)) (fun _ h9 => h9) rfl (tyX9_ok 7 (by decide)) rfl rfl (Nat.le_of_ble_eq_true rfl) dX9_draw_16 (fun H locs hP hD hS => ?_)
  have hP : va_P D vwCl (kX9 T h a u1) H := by rw [eu1]; exact hP
  have hD : va_D (va_A (kX9 T h a u) s.heap.size) (kX9 T h a u1) := by rw [eu1]; exact hD
  refine lv_aload_n hx hb dX9_draw_19 rfl (lv_at hl 0 rfl) ?_
  refine va_get (D := D) (ci := 9) (v := .int (u1 7 0)) (C := RX9) (T := TX9) (N := 8) hx hb hts hinX9 hown hK.1 hP 0 rfl rfl 7 (by decide) (hts (.fieldLink RX9 34 "RopeScale$Walk" "x" "I") (List.mem_of_getElem? (i := 1) rfl)) (fun _ h9 => h9) rfl dX9_draw_20 ?_
  refine lv_bipush (v := 10) hx hb dX9_draw_23 (by decide) ?_
  refine lv_irem hx hb dX9_draw_25 (by decide) ?_
  have e9 := hf
  exact retM hx hb hr hlocks hP hD hS (congrArg (fun z => z.1) e9) (congrArg (fun z => (kX9 T h a z.2 : va_W)) e9) dX9_draw_26
def fX7_onScale_J112   (v : St) (vw : St) (vlw : St) (x7 : Int32) (y0 : Int32) (y1 : Int32) : Option (Int32 × St × St × St) := if x7 = 0 then some ((y1 + y0) + 0, v, vw, vlw) else some ((y1 + y0) + (v 1 0), v, vw, vlw)
def fX7_onScale_J90   (v : St) (vw : St) (vlw : St) (x4 : Int32) (x5 : Int32) (x6 : Int32) (x7 : Int32) (y0 : Int32) (y1 : Int32) : Option (Int32 × St × St × St) := lett (st v 5 0 (y1 + y0)) fun u2 => if x6 = 0 then fX7_onScale_J112 u2 vw vlw x7 0 x4 else gd x5 16 <| fX7_onScale_J112 u2 vw vlw x7 (vw 0 (ix x5)) x4
def fX7_onScale_J73   (v : St) (vw : St) (vlw : St) (x4 : Int32) (x5 : Int32) (x6 : Int32) (y0 : Int32) : Option (Int32 × St × St × St) := if y0 = 0 then fX7_onScale_J90 v vw vlw x4 x5 x6 y0 0 (v 5 0) else fX7_onScale_J90 v vw vlw x4 x5 x6 y0 1 (v 5 0)
def fX7_onScale_J51   (v : St) (vw : St) (vlw : St) (x4 : Int32) (x5 : Int32) (y0 : Int32) : Option (Int32 × St × St × St) := lett (fX9_draw vw) fun z6 => (fX2_say vlw 98 10).bind fun z7 => if z7.1 ≤ z6.1 then fX7_onScale_J73 v z6.2 z7.2 x4 x5 y0 0 else fX7_onScale_J73 v z6.2 z7.2 x4 x5 y0 1
def fX7_onScale_J50   (v : St) (vw : St) (vlw : St) (x4 : Int32) (x5 : Int32) : Option (Int32 × St × St × St) := fX7_onScale_J51 v vw vlw x4 x5 0
def fX7_onScale  (u : St) (uw : St) (ulw : St) (p3 : Int32) : Option (Int32 × St × St × St) := (fX2_say ulw 101 999).bind fun z9 => lett (mx 0 z9.1) fun t10 => (fX2_say z9.2 102 15).bind fun z11 => (fX11_isWalker z11.1).bind fun z12 => if z12 = 0 then fX7_onScale_J50 u uw z11.2 t10 z11.1 else lett (fX9_othersHere uw p3) fun z14 => lett (fX11_has z14 z11.1) fun z15 => if z15 = 0 then fX7_onScale_J50 u uw z11.2 t10 z11.1 else fX7_onScale_J51 u uw z11.2 t10 z11.1 1
set_option maxHeartbeats 4000000 in
set_option maxRecDepth 100000 in
theorem mX7_onScale (l : Launch) (D : va_G) (T : Ty3) (h : Nat) (a : Nat → Nat) (u : St) (hw : Nat) (aw : Nat → Nat) (uw : St) (hlw : Nat) (alw : Nat → Nat) (ulw : St) (sz : Nat) (p3 : Int32) (res : Int32 × St × St × St) (hf : fX7_onScale u uw ulw p3 = some res) : Met l yX7_onScale wsX7_onScale ({ frames := 4, cells := 0, slots := 0, locals := 93 }) (PcM D T (kX7 T h a u ++ kX9 T hw aw uw ++ kX2 T hlw alw ulw) sz [.ref h, .ref hw, .ref hlw, .int p3]) (QM D (kX7 T h a u ++ kX9 T hw aw uw ++ kX2 T hlw alw ulw) sz res.1 (kX7 T h a res.2.1 ++ kX9 T hw aw res.2.2.1 ++ kX2 T hlw alw res.2.2.2)) 0 0 (va_A (kX7 T h a u ++ kX9 T hw aw uw ++ kX2 T hlw alw ulw) sz) := by
  refine Met.ofW (cc := cX7_onScale) (maxL := 8) (ret := (some .int)) (by decide) rfl ?_
  intro p e s m args below meth c s₁ B hml hv
  obtain ⟨rfl, hsz, hP, hK, hD0⟩ := hv
  have hx := B.exec
  have hb := B.bytes
  have hr := B.returns
  have hts := atoms_spec (ws := wsX7_onScale) B.pre
  have hown : s.vm.findClass RX7 = some m.cls := findClass_of_methodNamed B.named
  have hlocks := B.notSynchronized
  subst hsz
  have hD := hD0.self (sz := s.heap.size)
  have hA : ∀ q : Nat, s.heap.size ≤ q → va_A (kX7 T h a u ++ kX9 T hw aw uw ++ kX2 T hlw alw ulw) s.heap.size q := fun q h => Or.inr h
  have hS : va_S (va_A (kX7 T h a u ++ kX9 T hw aw uw ++ kX2 T hlw alw ulw) s.heap.size) s.heap s.heap [] := va_S.rf
  have hinX7 : ∀ w ∈ u_ws RX7 TX7 6, w ∈ wsX7_onScale := fun w h => List.mem_cons_of_mem _ (List.mem_append_left _ (List.mem_append_left _ (List.mem_append_right _ h)))
  have hinX9 : ∀ w ∈ u_ws RX9 TX9 8, w ∈ wsX7_onScale := fun w h => List.mem_cons_of_mem _ (List.mem_append_left _ (List.mem_append_right _ h))
  have hinX2 : ∀ w ∈ u_ws RX2 TX2 10, w ∈ wsX7_onScale := fun w h => List.mem_cons_of_mem _ (List.mem_append_right _ h)
  have hl := lv_entry ([.ref h, .ref hw, .ref hlw, .int p3]) (n := 8) (Nat.le_of_ble_eq_true rfl)
  rw [lg_entry_eq]
  generalize (lg_sl ([.ref h, .ref hw, .ref hlw, .int p3]) ++ List.replicate (8 - (lg_sl ([.ref h, .ref hw, .ref hlw, .int p3])).length) Slot.unset).toArray = ls at hl ⊢
  have hl : lv_has ls 8 [(0, .ref h), (1, .ref hw), (2, .ref hlw), (3, .int p3)] := hl
  have J112 : ∀ (v : St) (vw : St) (vlw : St) (x7 : Int32) (y0 : Int32) (y1 : Int32) (H : Heap) (locs : List Loc) (ls : Array Slot), fX7_onScale_J112  v vw vlw x7 y0 y1 = some res → va_P D vwCl (kX7 T h a v ++ kX9 T hw aw vw ++ kX2 T hlw alw vlw) H → va_D (va_A (kX7 T h a u ++ kX9 T hw aw uw ++ kX2 T hlw alw ulw) s.heap.size) (kX7 T h a v ++ kX9 T hw aw vw ++ kX2 T hlw alw vlw) → va_S (va_A (kX7 T h a u ++ kX9 T hw aw uw ++ kX2 T hlw alw ulw) s.heap.size) s.heap H locs → lv_has ls 8 [(0, .ref h), (7, .int x7)] → W p l e (headSpec wsX7_onScale ({ frames := 4, cells := 0, slots := 0, locals := 93 })).room s m ([.ref h, .ref hw, .ref hlw, .int p3] : List Value).toArray below meth c H locs 0 0 (MQ below (QM D (kX7 T h a u ++ kX9 T hw aw uw ++ kX2 T hlw alw ulw) s.heap.size res.1 (kX7 T h a res.2.1 ++ kX9 T hw aw res.2.2.1 ++ kX2 T hlw alw res.2.2.2)) ([.ref h, .ref hw, .ref hlw, .int p3] : List Value).toArray s 0 0 (va_A (kX7 T h a u ++ kX9 T hw aw uw ++ kX2 T hlw alw ulw) s.heap.size)) (F0 m 112 ls [.int y0, .int y1]) := by
    intro v vw vlw x7 y0 y1 H locs ls hf hP hD hS hl
    unfold fX7_onScale_J112 at hf
    refine lv_iadd hx hb dX7_onScale_112 ?_
    refine lv_iload hx hb dX7_onScale_113 (lv_at hl 1 rfl) ?_
    refine lv_if_eq (tgt := 125) hx hb dX7_onScale_115 (by decide) (fun c1 => ?_) (fun c1 => ?_)
    · replace hf := ifp c1 hf
      refine lv_iconst (v := 0) hx hb dX7_onScale_125 (by decide) ?_
      refine lv_iadd hx hb dX7_onScale_126 ?_
      have e9 := Option.some.inj hf
      exact retM hx hb hr hlocks hP hD hS (congrArg (fun z => z.1) e9) (congrArg (fun z => (kX7 T h a z.2.1 ++ kX9 T hw aw z.2.2.1 ++ kX2 T hlw alw z.2.2.2 : va_W)) e9) dX7_onScale_127
    replace hf := ifn c1 hf
    refine lv_aload_n hx hb dX7_onScale_118 rfl (lv_at hl 0 rfl) ?_
    refine va_get (D := D) (ci := 7) (v := .int (v 1 0)) (C := RX7) (T := TX7) (N := 6) hx hb hts hinX7 hown hK.1 hP 0 rfl rfl 1 (by decide) (hts (.fieldLink RX7 15 "RopeScale$Rope" "toe" "I") (List.mem_of_getElem? (i := 7) rfl)) (fun _ h9 => h9) rfl dX7_onScale_119 ?_
    refine lv_goto (tgt := 126) hx hb dX7_onScale_122 (by decide) ?_
    refine lv_iadd hx hb dX7_onScale_126 ?_
    have e9 := Option.some.inj hf
    exact retM hx hb hr hlocks hP hD hS (congrArg (fun z => z.1) e9) (congrArg (fun z => (kX7 T h a z.2.1 ++ kX9 T hw aw z.2.2.1 ++ kX2 T hlw alw z.2.2.2 : va_W)) e9) dX7_onScale_127
  have J90 : ∀ (v : St) (vw : St) (vlw : St) (x4 : Int32) (x5 : Int32) (x6 : Int32) (x7 : Int32) (y0 : Int32) (y1 : Int32) (H : Heap) (locs : List Loc) (ls : Array Slot), fX7_onScale_J90  v vw vlw x4 x5 x6 x7 y0 y1 = some res → va_P D vwCl (kX7 T h a v ++ kX9 T hw aw vw ++ kX2 T hlw alw vlw) H → va_D (va_A (kX7 T h a u ++ kX9 T hw aw uw ++ kX2 T hlw alw ulw) s.heap.size) (kX7 T h a v ++ kX9 T hw aw vw ++ kX2 T hlw alw vlw) → va_S (va_A (kX7 T h a u ++ kX9 T hw aw uw ++ kX2 T hlw alw ulw) s.heap.size) s.heap H locs → lv_has ls 8 [(0, .ref h), (1, .ref hw), (4, .int x4), (5, .int x5), (6, .int x6), (7, .int x7)] → W p l e (headSpec wsX7_onScale ({ frames := 4, cells := 0, slots := 0, locals := 93 })).room s m ([.ref h, .ref hw, .ref hlw, .int p3] : List Value).toArray below meth c H locs 0 0 (MQ below (QM D (kX7 T h a u ++ kX9 T hw aw uw ++ kX2 T hlw alw ulw) s.heap.size res.1 (kX7 T h a res.2.1 ++ kX9 T hw aw res.2.2.1 ++ kX2 T hlw alw res.2.2.2)) ([.ref h, .ref hw, .ref hlw, .int p3] : List Value).toArray s 0 0 (va_A (kX7 T h a u ++ kX9 T hw aw uw ++ kX2 T hlw alw ulw) s.heap.size)) (F0 m 90 ls [.int y0, .int y1, .ref h]) := by
    intro v vw vlw x4 x5 x6 x7 y0 y1 H locs ls hf hP hD hS hl
    unfold fX7_onScale_J90 at hf
    refine lv_iadd hx hb dX7_onScale_90 ?_
    obtain ⟨u2, eu2, hf⟩ := lett_e hf
    refine va_put (D := D) (ci := 7) (v := .int (y1 + y0)) (ty := .int) (C := RX7) (T := TX7) (N := 6) hx hb hts hinX7 tyX7 tyX7_ok nmX7 hown hK.1 hP hD hS 0 rfl rfl 5 (by decide) (hts (.fieldLink RX7 27 "RopeScale$Rope" "toes" "I") (List.mem_of_getElem? (i := 5) rfl)) (fun _ h9 => h9) rfl (tyX7_ok 5 (by decide)) rfl rfl (Nat.le_of_ble_eq_true rfl) dX7_onScale_91 (fun H locs hP hD hS => ?_)
    have hP : va_P D vwCl (kX7 T h a u2 ++ kX9 T hw aw vw ++ kX2 T hlw alw vlw) H := by rw [eu2]; exact hP
    have hD : va_D (va_A (kX7 T h a u ++ kX9 T hw aw uw ++ kX2 T hlw alw ulw) s.heap.size) (kX7 T h a u2 ++ kX9 T hw aw vw ++ kX2 T hlw alw vlw) := by rw [eu2]; exact hD
    refine lv_iload hx hb dX7_onScale_94 (lv_at hl 2 rfl) ?_
    refine lv_iload hx hb dX7_onScale_96 (lv_at hl 4 rfl) ?_
    refine lv_if_eq (tgt := 111) hx hb dX7_onScale_98 (by decide) (fun c3 => ?_) (fun c3 => ?_)
    · replace hf := ifp c3 hf
      refine lv_iconst (v := 0) hx hb dX7_onScale_111 (by decide) ?_
      exact J112 u2 vw vlw x7 0 x4 _ _ _ hf hP hD hS (lv_sub hl [0, 5] rfl)
    replace hf := ifn c3 hf
    refine lv_aload_n hx hb dX7_onScale_101 rfl (lv_at hl 1 rfl) ?_
    refine va_get (D := D) (ci := 9) (v := .ref (aw 0)) (C := RX9) (T := TX9) (N := 8) hx hb hts hinX9 hown hK.1 hP 1 rfl rfl 0 (by decide) (hts (.fieldLink RX7 68 "RopeScale$Walk" "weight" "[I") (List.mem_of_getElem? (i := 6) rfl)) (fun _ h9 => h9) rfl dX7_onScale_102 ?_
    refine lv_iload hx hb dX7_onScale_105 (lv_at hl 3 rfl) ?_
    obtain ⟨h4, hf⟩ := gd_e hf
    refine va_iald hx hb hK.1 hP 2 0 rfl rfl h4 dX7_onScale_107 ?_
    refine lv_goto (tgt := 112) hx hb dX7_onScale_108 (by decide) ?_
    exact J112 u2 vw vlw x7 (vw 0 (ix x5)) x4 _ _ _ hf hP hD hS (lv_sub hl [0, 5] rfl)
  have J73 : ∀ (v : St) (vw : St) (vlw : St) (x4 : Int32) (x5 : Int32) (x6 : Int32) (y0 : Int32) (H : Heap) (locs : List Loc) (ls : Array Slot), fX7_onScale_J73  v vw vlw x4 x5 x6 y0 = some res → va_P D vwCl (kX7 T h a v ++ kX9 T hw aw vw ++ kX2 T hlw alw vlw) H → va_D (va_A (kX7 T h a u ++ kX9 T hw aw uw ++ kX2 T hlw alw ulw) s.heap.size) (kX7 T h a v ++ kX9 T hw aw vw ++ kX2 T hlw alw vlw) → va_S (va_A (kX7 T h a u ++ kX9 T hw aw uw ++ kX2 T hlw alw ulw) s.heap.size) s.heap H locs → lv_has ls 8 [(0, .ref h), (1, .ref hw), (4, .int x4), (5, .int x5), (6, .int x6)] → W p l e (headSpec wsX7_onScale ({ frames := 4, cells := 0, slots := 0, locals := 93 })).room s m ([.ref h, .ref hw, .ref hlw, .int p3] : List Value).toArray below meth c H locs 0 0 (MQ below (QM D (kX7 T h a u ++ kX9 T hw aw uw ++ kX2 T hlw alw ulw) s.heap.size res.1 (kX7 T h a res.2.1 ++ kX9 T hw aw res.2.2.1 ++ kX2 T hlw alw res.2.2.2)) ([.ref h, .ref hw, .ref hlw, .int p3] : List Value).toArray s 0 0 (va_A (kX7 T h a u ++ kX9 T hw aw uw ++ kX2 T hlw alw ulw) s.heap.size)) (F0 m 73 ls [.int y0]) := by
    intro v vw vlw x4 x5 x6 y0 H locs ls hf hP hD hS hl
    unfold fX7_onScale_J73 at hf
    refine lv_istore (lv' := [(7, .int y0), (0, .ref h), (1, .ref hw), (4, .int x4), (5, .int x5), (6, .int x6)]) hx hb dX7_onScale_73 hl (by decide) rfl (fun ls hl => ?_)
    refine lv_aload_n hx hb dX7_onScale_75 rfl (lv_at hl 1 rfl) ?_
    refine lv_dup hx hb dX7_onScale_76 rfl ?_
    refine va_get (D := D) (ci := 7) (v := .int (v 5 0)) (C := RX7) (T := TX7) (N := 6) hx hb hts hinX7 hown hK.1 hP 0 rfl rfl 5 (by decide) (hts (.fieldLink RX7 27 "RopeScale$Rope" "toes" "I") (List.mem_of_getElem? (i := 5) rfl)) (fun _ h9 => h9) rfl dX7_onScale_77 ?_
    refine lv_iload hx hb dX7_onScale_80 (lv_at hl 0 rfl) ?_
    refine lv_if_eq (tgt := 89) hx hb dX7_onScale_82 (by decide) (fun c5 => ?_) (fun c5 => ?_)
    · replace hf := ifp c5 hf
      refine lv_iconst (v := 0) hx hb dX7_onScale_89 (by decide) ?_
      exact J90 v vw vlw x4 x5 x6 y0 0 (v 5 0) _ _ _ hf hP hD hS (lv_sub hl [1, 2, 3, 4, 5, 0] rfl)
    replace hf := ifn c5 hf
    refine lv_iconst (v := 1) hx hb dX7_onScale_85 (by decide) ?_
    refine lv_goto (tgt := 90) hx hb dX7_onScale_86 (by decide) ?_
    exact J90 v vw vlw x4 x5 x6 y0 1 (v 5 0) _ _ _ hf hP hD hS (lv_sub hl [1, 2, 3, 4, 5, 0] rfl)
  have J51 : ∀ (v : St) (vw : St) (vlw : St) (x4 : Int32) (x5 : Int32) (y0 : Int32) (H : Heap) (locs : List Loc) (ls : Array Slot), fX7_onScale_J51  v vw vlw x4 x5 y0 = some res → va_P D vwCl (kX7 T h a v ++ kX9 T hw aw vw ++ kX2 T hlw alw vlw) H → va_D (va_A (kX7 T h a u ++ kX9 T hw aw uw ++ kX2 T hlw alw ulw) s.heap.size) (kX7 T h a v ++ kX9 T hw aw vw ++ kX2 T hlw alw vlw) → va_S (va_A (kX7 T h a u ++ kX9 T hw aw uw ++ kX2 T hlw alw ulw) s.heap.size) s.heap H locs → lv_has ls 8 [(0, .ref h), (1, .ref hw), (2, .ref hlw), (4, .int x4), (5, .int x5)] → W p l e (headSpec wsX7_onScale ({ frames := 4, cells := 0, slots := 0, locals := 93 })).room s m ([.ref h, .ref hw, .ref hlw, .int p3] : List Value).toArray below meth c H locs 0 0 (MQ below (QM D (kX7 T h a u ++ kX9 T hw aw uw ++ kX2 T hlw alw ulw) s.heap.size res.1 (kX7 T h a res.2.1 ++ kX9 T hw aw res.2.2.1 ++ kX2 T hlw alw res.2.2.2)) ([.ref h, .ref hw, .ref hlw, .int p3] : List Value).toArray s 0 0 (va_A (kX7 T h a u ++ kX9 T hw aw uw ++ kX2 T hlw alw ulw) s.heap.size)) (F0 m 51 ls [.int y0]) := by
    intro v vw vlw x4 x5 y0 H locs ls hf hP hD hS hl
    unfold fX7_onScale_J51 at hf
    refine lv_istore (lv' := [(6, .int y0), (0, .ref h), (1, .ref hw), (2, .ref hlw), (4, .int x4), (5, .int x5)]) hx hb dX7_onScale_51 hl (by decide) rfl (fun ls hl => ?_)
    refine lv_aload_n hx hb dX7_onScale_53 rfl (lv_at hl 2 rfl) ?_
    obtain ⟨z6, hz6, hf⟩ := lett_e hf
    have hPc := hP.sub (ws' := kX9 T hw aw vw) [1, 2, 3, 4, 5] rfl
    have hDc := hD.sub (ws' := kX9 T hw aw vw) [1, 2, 3, 4, 5] (by decide) rfl
    have hFc9 := va_free (wc := kX9 T hw aw vw) hD hS hA [1, 2, 3, 4, 5] rfl
    refine cVM (As := []) (rest := []) ⟨hx, hb, hml, hown, hts⟩ (mX9_draw l D T hw aw vw _ z6 hz6.symm) (cwV 0 hts gX7_onScale_X9_draw rfl rfl rfl (by decide +kernel) ⟨Nat.le_of_ble_eq_true rfl, Nat.le_of_ble_eq_true rfl⟩) (va_recv hK.1 hP (ci := 9) (q0 := 1) rfl rfl) hPc hK rfl hl.1 rfl (Nat.le_of_ble_eq_true rfl) dX7_onScale_54 ⟨Nat.le_of_ble_eq_true rfl, Nat.le_of_ble_eq_true rfl⟩ hDc hFc9 hS (fun H9 locs hP1 hD1 hk1 hS => ?_)
    obtain ⟨hP, hD⟩ := putAll_P (w1 := kX9 T hw aw z6.2) hP hD [1, 2, 3, 4, 5] rfl (by decide) hk1 hP1 rfl
    generalize H9 = H at hP hS ⊢
    have hP : va_P D vwCl (kX7 T h a v ++ kX9 T hw aw z6.2 ++ kX2 T hlw alw vlw) H := by exact hP
    have hD : va_D (va_A (kX7 T h a u ++ kX9 T hw aw uw ++ kX2 T hlw alw ulw) s.heap.size) (kX7 T h a v ++ kX9 T hw aw z6.2 ++ kX2 T hlw alw vlw) := by exact hD
    refine lv_aload_n hx hb dX7_onScale_57 rfl (lv_at hl 3 rfl) ?_
    refine lv_bipush (v := 98) hx hb dX7_onScale_58 (by decide) ?_
    refine lv_bipush (v := 10) hx hb dX7_onScale_60 (by decide) ?_
    obtain ⟨z7, hz7, hf⟩ := bnd hf
    have hPc := hP.sub (ws' := kX2 T hlw alw vlw) [6, 7, 8, 9, 10, 11, 12, 13, 14] rfl
    have hDc := hD.sub (ws' := kX2 T hlw alw vlw) [6, 7, 8, 9, 10, 11, 12, 13, 14] (by decide) rfl
    have hFc9 := va_free (wc := kX2 T hlw alw vlw) hD hS hA [6, 7, 8, 9, 10, 11, 12, 13, 14] rfl
    refine cVM (As := [.int 98, .int 10]) (rest := [.int z6.1]) ⟨hx, hb, hml, hown, hts⟩ (mX2_say l D T hlw alw vlw _ 98 10 z7 hz7) (cwV 2 hts gX7_onScale_X2_say rfl rfl rfl (by decide +kernel) ⟨Nat.le_of_ble_eq_true rfl, Nat.le_of_ble_eq_true rfl⟩) (va_recv hK.1 hP (ci := 2) (q0 := 6) rfl rfl) hPc hK rfl hl.1 rfl (Nat.le_of_ble_eq_true rfl) dX7_onScale_62 ⟨Nat.le_of_ble_eq_true rfl, Nat.le_of_ble_eq_true rfl⟩ hDc hFc9 hS (fun H9 locs hP1 hD1 hk1 hS => ?_)
    obtain ⟨hP, hD⟩ := putAll_P (w1 := kX2 T hlw alw z7.2) hP hD [6, 7, 8, 9, 10, 11, 12, 13, 14] rfl (by decide) hk1 hP1 rfl
    generalize H9 = H at hP hS ⊢
    have hP : va_P D vwCl (kX7 T h a v ++ kX9 T hw aw z6.2 ++ kX2 T hlw alw z7.2) H := by exact hP
    have hD : va_D (va_A (kX7 T h a u ++ kX9 T hw aw uw ++ kX2 T hlw alw ulw) s.heap.size) (kX7 T h a v ++ kX9 T hw aw z6.2 ++ kX2 T hlw alw z7.2) := by exact hD
    refine lv_icmp_ge (tgt := 72) hx hb dX7_onScale_65 (by decide) (fun c8 => ?_) (fun c8 => ?_)
    · replace hf := ifp c8 hf
      refine lv_iconst (v := 0) hx hb dX7_onScale_72 (by decide) ?_
      exact J73 v z6.2 z7.2 x4 x5 y0 0 _ _ _ hf hP hD hS (lv_sub hl [1, 2, 4, 5, 0] rfl)
    replace hf := ifn c8 hf
    refine lv_iconst (v := 1) hx hb dX7_onScale_68 (by decide) ?_
    refine lv_goto (tgt := 73) hx hb dX7_onScale_69 (by decide) ?_
    exact J73 v z6.2 z7.2 x4 x5 y0 1 _ _ _ hf hP hD hS (lv_sub hl [1, 2, 4, 5, 0] rfl)
  have J50 : ∀ (v : St) (vw : St) (vlw : St) (x4 : Int32) (x5 : Int32) (H : Heap) (locs : List Loc) (ls : Array Slot), fX7_onScale_J50  v vw vlw x4 x5 = some res → va_P D vwCl (kX7 T h a v ++ kX9 T hw aw vw ++ kX2 T hlw alw vlw) H → va_D (va_A (kX7 T h a u ++ kX9 T hw aw uw ++ kX2 T hlw alw ulw) s.heap.size) (kX7 T h a v ++ kX9 T hw aw vw ++ kX2 T hlw alw vlw) → va_S (va_A (kX7 T h a u ++ kX9 T hw aw uw ++ kX2 T hlw alw ulw) s.heap.size) s.heap H locs → lv_has ls 8 [(0, .ref h), (1, .ref hw), (2, .ref hlw), (4, .int x4), (5, .int x5)] → W p l e (headSpec wsX7_onScale ({ frames := 4, cells := 0, slots := 0, locals := 93 })).room s m ([.ref h, .ref hw, .ref hlw, .int p3] : List Value).toArray below meth c H locs 0 0 (MQ below (QM D (kX7 T h a u ++ kX9 T hw aw uw ++ kX2 T hlw alw ulw) s.heap.size res.1 (kX7 T h a res.2.1 ++ kX9 T hw aw res.2.2.1 ++ kX2 T hlw alw res.2.2.2)) ([.ref h, .ref hw, .ref hlw, .int p3] : List Value).toArray s 0 0 (va_A (kX7 T h a u ++ kX9 T hw aw uw ++ kX2 T hlw alw ulw) s.heap.size)) (F0 m 50 ls []) := by
    intro v vw vlw x4 x5 H locs ls hf hP hD hS hl
    unfold fX7_onScale_J50 at hf
    refine lv_iconst (v := 0) hx hb dX7_onScale_50 (by decide) ?_
    exact J51 v vw vlw x4 x5 0 _ _ _ hf hP hD hS (lv_sub hl [0, 1, 2, 3, 4] rfl)
  unfold fX7_onScale at hf
  refine lv_iconst (v := 0) hx hb dX7_onScale_0 (by decide) ?_
  refine lv_aload_n hx hb dX7_onScale_1 rfl (lv_at hl 2 rfl) ?_
  refine lv_bipush (v := 101) hx hb dX7_onScale_2 (by decide) ?_
  refine lv_sipush (v := 999) hx hb dX7_onScale_4 (by decide) ?_
  obtain ⟨z9, hz9, hf⟩ := bnd hf
  have hPc := hP.sub (ws' := kX2 T hlw alw ulw) [6, 7, 8, 9, 10, 11, 12, 13, 14] rfl
  have hDc := hD.sub (ws' := kX2 T hlw alw ulw) [6, 7, 8, 9, 10, 11, 12, 13, 14] (by decide) rfl
  have hFc9 := va_free (wc := kX2 T hlw alw ulw) hD hS hA [6, 7, 8, 9, 10, 11, 12, 13, 14] rfl
  refine cVM (As := [.int 101, .int 999]) (rest := [.int 0]) ⟨hx, hb, hml, hown, hts⟩ (mX2_say l D T hlw alw ulw _ 101 999 z9 hz9) (cwV 2 hts gX7_onScale_X2_say rfl rfl rfl (by decide +kernel) ⟨Nat.le_of_ble_eq_true rfl, Nat.le_of_ble_eq_true rfl⟩) (va_recv hK.1 hP (ci := 2) (q0 := 6) rfl rfl) hPc hK rfl hl.1 rfl (Nat.le_of_ble_eq_true rfl) dX7_onScale_7 ⟨Nat.le_of_ble_eq_true rfl, Nat.le_of_ble_eq_true rfl⟩ hDc hFc9 hS (fun H9 locs hP1 hD1 hk1 hS => ?_)
  obtain ⟨hP, hD⟩ := putAll_P (w1 := kX2 T hlw alw z9.2) hP hD [6, 7, 8, 9, 10, 11, 12, 13, 14] rfl (by decide) hk1 hP1 rfl
  generalize H9 = H at hP hS ⊢
  have hP : va_P D vwCl (kX7 T h a u ++ kX9 T hw aw uw ++ kX2 T hlw alw z9.2) H := by exact hP
  have hD : va_D (va_A (kX7 T h a u ++ kX9 T hw aw uw ++ kX2 T hlw alw ulw) s.heap.size) (kX7 T h a u ++ kX9 T hw aw uw ++ kX2 T hlw alw z9.2) := by exact hD
  refine mmax hx hb (hml.trans hl.1.symm) hown (hts (.methodLink RX7 61 Lib.Math.max.name) (List.mem_of_getElem? (i := 1) rfl)) (hts (.static Lib.Math.max.name) (List.mem_of_getElem? (i := 2) rfl)) (hts (.initialized "java/lang/Math") (List.mem_of_getElem? (i := 3) rfl)) (hts (.code Lib.Math.max.name Lib.Math.max.code 2 (some .int)) (List.mem_of_getElem? (i := 4) rfl)) (Nat.le_of_ble_eq_true rfl) (Nat.le_of_ble_eq_true rfl) (Nat.le_of_ble_eq_true rfl) (Nat.le_of_ble_eq_true rfl) dX7_onScale_10 ?_
  obtain ⟨t10, et10, hf⟩ := lett_e hf
  refine lv_eqi et10 ?_
  refine lv_istore (lv' := [(4, .int t10), (0, .ref h), (1, .ref hw), (2, .ref hlw), (3, .int p3)]) hx hb dX7_onScale_13 hl (by decide) rfl (fun ls hl => ?_)
  refine lv_aload_n hx hb dX7_onScale_15 rfl (lv_at hl 3 rfl) ?_
  refine lv_bipush (v := 102) hx hb dX7_onScale_16 (by decide) ?_
  refine lv_bipush (v := 15) hx hb dX7_onScale_18 (by decide) ?_
  obtain ⟨z11, hz11, hf⟩ := bnd hf
  have hPc := hP.sub (ws' := kX2 T hlw alw z9.2) [6, 7, 8, 9, 10, 11, 12, 13, 14] rfl
  have hDc := hD.sub (ws' := kX2 T hlw alw z9.2) [6, 7, 8, 9, 10, 11, 12, 13, 14] (by decide) rfl
  have hFc9 := va_free (wc := kX2 T hlw alw z9.2) hD hS hA [6, 7, 8, 9, 10, 11, 12, 13, 14] rfl
  refine cVM (As := [.int 102, .int 15]) (rest := []) ⟨hx, hb, hml, hown, hts⟩ (mX2_say l D T hlw alw z9.2 _ 102 15 z11 hz11) (cwV 2 hts gX7_onScale_X2_say rfl rfl rfl (by decide +kernel) ⟨Nat.le_of_ble_eq_true rfl, Nat.le_of_ble_eq_true rfl⟩) (va_recv hK.1 hP (ci := 2) (q0 := 6) rfl rfl) hPc hK rfl hl.1 rfl (Nat.le_of_ble_eq_true rfl) dX7_onScale_20 ⟨Nat.le_of_ble_eq_true rfl, Nat.le_of_ble_eq_true rfl⟩ hDc hFc9 hS (fun H9 locs hP1 hD1 hk1 hS => ?_)
  obtain ⟨hP, hD⟩ := putAll_P (w1 := kX2 T hlw alw z11.2) hP hD [6, 7, 8, 9, 10, 11, 12, 13, 14] rfl (by decide) hk1 hP1 rfl
  generalize H9 = H at hP hS ⊢
  have hP : va_P D vwCl (kX7 T h a u ++ kX9 T hw aw uw ++ kX2 T hlw alw z11.2) H := by exact hP
  have hD : va_D (va_A (kX7 T h a u ++ kX9 T hw aw uw ++ kX2 T hlw alw ulw) s.heap.size) (kX7 T h a u ++ kX9 T hw aw uw ++ kX2 T hlw alw z11.2) := by exact hD
  refine lv_istore (lv' := [(5, .int z11.1), (4, .int t10), (0, .ref h), (1, .ref hw), (2, .ref hlw), (3, .int p3)]) hx hb dX7_onScale_23 hl (by decide) rfl (fun ls hl => ?_)
  refine lv_iload hx hb dX7_onScale_25 (lv_at hl 0 rfl) ?_
  obtain ⟨z12, hz12, hf⟩ := bnd hf
  refine cNR (As := [.int z11.1]) (rest := []) ⟨hx, hb, hml, hown, hts⟩ (mX11_isWalker l D T z11.1 z12 hz12) ⟨va_cnB (host := "RopeScale") (index := 91) 1 hts gX7_onScale_X11_isWalker_n91 rfl rfl rfl (hK.2 _ (List.mem_of_getElem? (i := 18) rfl)) (hts (.initialized RX11) (List.mem_of_getElem? (i := 35) rfl)) (by decide +kernel) ⟨Nat.le_of_ble_eq_true rfl, Nat.le_of_ble_eq_true rfl⟩, (hts (.static yX11_isWalker) (List.mem_of_getElem? (i := 41) rfl)), trivial⟩ P0 hK rfl hl.1 rfl (Nat.le_of_ble_eq_true rfl) dX7_onScale_27 ⟨Nat.le_of_ble_eq_true rfl, Nat.le_of_ble_eq_true rfl⟩ hP hS (fun H locs hP hS => ?_)
  refine lv_if_eq (tgt := 50) hx hb dX7_onScale_30 (by decide) (fun c13 => ?_) (fun c13 => ?_)
  · replace hf := ifp c13 hf
    exact J50 u uw z11.2 t10 z11.1 _ _ _ hf hP hD hS (lv_sub hl [2, 3, 4, 1, 0] rfl)
  replace hf := ifn c13 hf
  refine lv_aload_n hx hb dX7_onScale_33 rfl (lv_at hl 3 rfl) ?_
  refine lv_iload_n hx hb dX7_onScale_34 rfl (lv_at hl 5 rfl) ?_
  obtain ⟨z14, hz14, hf⟩ := lett_e hf
  refine cVR (As := [.int p3]) (rest := []) ⟨hx, hb, hml, hown, hts⟩ (mX9_othersHere l D T hw aw uw p3 z14 hz14.symm) (cwV 1 hts gX7_onScale_X9_othersHere rfl rfl rfl (by decide +kernel) ⟨Nat.le_of_ble_eq_true rfl, Nat.le_of_ble_eq_true rfl⟩) (va_recv hK.1 hP (ci := 9) (q0 := 1) rfl rfl) (hP.sub (ws' := kX9 T hw aw uw) [1, 2, 3, 4, 5] rfl) hK rfl hl.1 rfl (Nat.le_of_ble_eq_true rfl) dX7_onScale_35 ⟨Nat.le_of_ble_eq_true rfl, Nat.le_of_ble_eq_true rfl⟩ hP hS (fun H locs hP hS => ?_)
  refine lv_iload hx hb dX7_onScale_38 (lv_at hl 0 rfl) ?_
  obtain ⟨z15, hz15, hf⟩ := lett_e hf
  refine cNR (As := [.int z14, .int z11.1]) (rest := []) ⟨hx, hb, hml, hown, hts⟩ (mX11_has l D T z14 z11.1 z15 hz15.symm) ⟨va_cnB (host := "RopeScale") (index := 44) 2 hts gX7_onScale_X11_has_n44 rfl rfl rfl (hK.2 _ (List.mem_of_getElem? (i := 16) rfl)) (hts (.initialized RX11) (List.mem_of_getElem? (i := 35) rfl)) (by decide +kernel) ⟨Nat.le_of_ble_eq_true rfl, Nat.le_of_ble_eq_true rfl⟩, (hts (.static yX11_has) (List.mem_of_getElem? (i := 57) rfl)), trivial⟩ P0 hK rfl hl.1 rfl (Nat.le_of_ble_eq_true rfl) dX7_onScale_40 ⟨Nat.le_of_ble_eq_true rfl, Nat.le_of_ble_eq_true rfl⟩ hP hS (fun H locs hP hS => ?_)
  refine lv_if_eq (tgt := 50) hx hb dX7_onScale_43 (by decide) (fun c16 => ?_) (fun c16 => ?_)
  · replace hf := ifp c16 hf
    exact J50 u uw z11.2 t10 z11.1 _ _ _ hf hP hD hS (lv_sub hl [2, 3, 4, 1, 0] rfl)
  replace hf := ifn c16 hf
  refine lv_iconst (v := 1) hx hb dX7_onScale_46 (by decide) ?_
  refine lv_goto (tgt := 51) hx hb dX7_onScale_47 (by decide) ?_
  exact J51 u uw z11.2 t10 z11.1 1 _ _ _ hf hP hD hS (lv_sub hl [2, 3, 4, 1, 0] rfl)
def fX7_cross_J91   (v : St) (vw : St) (x2 : Int32) : Option (St × St) := lett (st vw 5 0 ((vw 5 0) ||| (jshl 1 x2))) fun u1 => lett (st v 2 0 ((v 2 0) + 1)) fun u2 => some (u2, u1)
def fX7_cross  (u : St) (uw : St) (p2 : Int32) (p3 : Int32) : Option (St × St) := gd p2 16 <| lett (p3 - (uw 0 (ix p2))) fun t3 => if (-t3) ≤ (u 0 0) then if t3 ≤ (u 0 0) then fX7_cross_J91 u uw p2 else gd p2 16 <| gd p2 16 <| lett (st uw 3 (ix p2) (mn 9999 ((uw 3 (ix p2)) + t3))) fun u6 => lett (st u 4 0 ((u 4 0) + 1)) fun u7 => fX7_cross_J91 u7 u6 p2 else gd p2 16 <| gd p2 16 <| lett (st uw 2 (ix p2) (mn 999 ((uw 2 (ix p2)) + 1))) fun u10 => lett (st u 3 0 ((u 3 0) + 1)) fun u11 => some (u11, u10)
set_option maxHeartbeats 4000000 in
set_option maxRecDepth 100000 in
theorem mX7_cross (l : Launch) (D : va_G) (T : Ty3) (h : Nat) (a : Nat → Nat) (u : St) (hw : Nat) (aw : Nat → Nat) (uw : St) (sz : Nat) (p2 : Int32) (p3 : Int32) (res : St × St) (hf : fX7_cross u uw p2 p3 = some res) : Met l yX7_cross wsX7_cross ({ frames := 1, cells := 0, slots := 0, locals := 15 }) (PcM D T (kX7 T h a u ++ kX9 T hw aw uw) sz [.ref h, .ref hw, .int p2, .int p3]) (QMv D (kX7 T h a u ++ kX9 T hw aw uw) sz (kX7 T h a res.1 ++ kX9 T hw aw res.2)) 0 0 (va_A (kX7 T h a u ++ kX9 T hw aw uw) sz) := by
  refine Met.ofW (cc := cX7_cross) (maxL := 5) (ret := none) (by decide) rfl ?_
  intro p e s m args below meth c s₁ B hml hv
  obtain ⟨rfl, hsz, hP, hK, hD0⟩ := hv
  have hx := B.exec
  have hb := B.bytes
  have hr := B.returns
  have hts := atoms_spec (ws := wsX7_cross) B.pre
  have hown : s.vm.findClass RX7 = some m.cls := findClass_of_methodNamed B.named
  have hlocks := B.notSynchronized
  subst hsz
  have hD := hD0.self (sz := s.heap.size)
  have hA : ∀ q : Nat, s.heap.size ≤ q → va_A (kX7 T h a u ++ kX9 T hw aw uw) s.heap.size q := fun q h => Or.inr h
  have hS : va_S (va_A (kX7 T h a u ++ kX9 T hw aw uw) s.heap.size) s.heap s.heap [] := va_S.rf
  have hinX9 : ∀ w ∈ u_ws RX9 TX9 8, w ∈ wsX7_cross := fun w h => List.mem_cons_of_mem _ (List.mem_append_left _ (List.mem_append_right _ h))
  have hinX7 : ∀ w ∈ u_ws RX7 TX7 6, w ∈ wsX7_cross := fun w h => List.mem_cons_of_mem _ (List.mem_append_right _ h)
  have hl := lv_entry ([.ref h, .ref hw, .int p2, .int p3]) (n := 5) (Nat.le_of_ble_eq_true rfl)
  rw [lg_entry_eq]
  generalize (lg_sl ([.ref h, .ref hw, .int p2, .int p3]) ++ List.replicate (5 - (lg_sl ([.ref h, .ref hw, .int p2, .int p3])).length) Slot.unset).toArray = ls at hl ⊢
  have hl : lv_has ls 5 [(0, .ref h), (1, .ref hw), (2, .int p2), (3, .int p3)] := hl
  have J91 : ∀ (v : St) (vw : St) (x2 : Int32) (H : Heap) (locs : List Loc) (ls : Array Slot), fX7_cross_J91  v vw x2 = some res → va_P D vwCl (kX7 T h a v ++ kX9 T hw aw vw) H → va_D (va_A (kX7 T h a u ++ kX9 T hw aw uw) s.heap.size) (kX7 T h a v ++ kX9 T hw aw vw) → va_S (va_A (kX7 T h a u ++ kX9 T hw aw uw) s.heap.size) s.heap H locs → lv_has ls 5 [(0, .ref h), (1, .ref hw), (2, .int x2)] → W p l e (headSpec wsX7_cross ({ frames := 1, cells := 0, slots := 0, locals := 15 })).room s m ([.ref h, .ref hw, .int p2, .int p3] : List Value).toArray below meth c H locs 0 0 (MQ below (QMv D (kX7 T h a u ++ kX9 T hw aw uw) s.heap.size (kX7 T h a res.1 ++ kX9 T hw aw res.2)) ([.ref h, .ref hw, .int p2, .int p3] : List Value).toArray s 0 0 (va_A (kX7 T h a u ++ kX9 T hw aw uw) s.heap.size)) (F0 m 91 ls []) := by
    intro v vw x2 H locs ls hf hP hD hS hl
    unfold fX7_cross_J91 at hf
    refine lv_aload_n hx hb dX7_cross_91 rfl (lv_at hl 1 rfl) ?_
    refine lv_dup hx hb dX7_cross_92 rfl ?_
    refine va_get (D := D) (ci := 9) (v := .int (vw 5 0)) (C := RX9) (T := TX9) (N := 8) hx hb hts hinX9 hown hK.1 hP 1 rfl rfl 5 (by decide) (hts (.fieldLink RX7 76 "RopeScale$Walk" "over" "I") (List.mem_of_getElem? (i := 11) rfl)) (fun _ h9 => h9) rfl dX7_cross_93 ?_
    refine lv_iconst (v := 1) hx hb dX7_cross_96 (by decide) ?_
    refine lv_iload_n hx hb dX7_cross_97 rfl (lv_at hl 2 rfl) ?_
    refine lv_ishl hx hb dX7_cross_98 ?_
    refine lv_ior hx hb dX7_cross_99 ?_
    obtain ⟨u1, eu1, hf⟩ := lett_e hf
    refine va_put (D := D) (ci := 9) (v := .int ((vw 5 0) ||| (jshl 1 x2))) (ty := .int) (C := RX9) (T := TX9) (N := 8) hx hb hts hinX9 tyX9 tyX9_ok nmX9 hown hK.1 hP hD hS 1 rfl rfl 5 (by decide) (hts (.fieldLink RX7 76 "RopeScale$Walk" "over" "I") (List.mem_of_getElem? (i := 11) rfl)) (fun _ h9 => h9) rfl (tyX9_ok 5 (by decide)) rfl rfl (Nat.le_of_ble_eq_true rfl) dX7_cross_100 (fun H locs hP hD hS => ?_)
    have hP : va_P D vwCl (kX7 T h a v ++ kX9 T hw aw u1) H := by rw [eu1]; exact hP
    have hD : va_D (va_A (kX7 T h a u ++ kX9 T hw aw uw) s.heap.size) (kX7 T h a v ++ kX9 T hw aw u1) := by rw [eu1]; exact hD
    refine lv_aload_n hx hb dX7_cross_103 rfl (lv_at hl 0 rfl) ?_
    refine lv_dup hx hb dX7_cross_104 rfl ?_
    refine va_get (D := D) (ci := 7) (v := .int (v 2 0)) (C := RX7) (T := TX7) (N := 6) hx hb hts hinX7 hown hK.1 hP 0 rfl rfl 2 (by decide) (hts (.fieldLink RX7 18 "RopeScale$Rope" "gotOver" "I") (List.mem_of_getElem? (i := 12) rfl)) (fun _ h9 => h9) rfl dX7_cross_105 ?_
    refine lv_iconst (v := 1) hx hb dX7_cross_108 (by decide) ?_
    refine lv_iadd hx hb dX7_cross_109 ?_
    obtain ⟨u2, eu2, hf⟩ := lett_e hf
    refine va_put (D := D) (ci := 7) (v := .int ((v 2 0) + 1)) (ty := .int) (C := RX7) (T := TX7) (N := 6) hx hb hts hinX7 tyX7 tyX7_ok nmX7 hown hK.1 hP hD hS 0 rfl rfl 2 (by decide) (hts (.fieldLink RX7 18 "RopeScale$Rope" "gotOver" "I") (List.mem_of_getElem? (i := 12) rfl)) (fun _ h9 => h9) rfl (tyX7_ok 2 (by decide)) rfl rfl (Nat.le_of_ble_eq_true rfl) dX7_cross_110 (fun H locs hP hD hS => ?_)
    have hP : va_P D vwCl (kX7 T h a u2 ++ kX9 T hw aw u1) H := by rw [eu2]; exact hP
    have hD : va_D (va_A (kX7 T h a u ++ kX9 T hw aw uw) s.heap.size) (kX7 T h a u2 ++ kX9 T hw aw u1) := by rw [eu2]; exact hD
    have e9 := Option.some.inj hf
    exact retMv hx hb hr hlocks hP hD hS (congrArg (fun z => (kX7 T h a z.1 ++ kX9 T hw aw z.2 : va_W)) e9) dX7_cross_113
  unfold fX7_cross at hf
  refine lv_iload_n hx hb dX7_cross_0 rfl (lv_at hl 3 rfl) ?_
  refine lv_aload_n hx hb dX7_cross_1 rfl (lv_at hl 1 rfl) ?_
  refine va_get (D := D) (ci := 9) (v := .ref (aw 0)) (C := RX9) (T := TX9) (N := 8) hx hb hts hinX9 hown hK.1 hP 1 rfl rfl 0 (by decide) (hts (.fieldLink RX7 68 "RopeScale$Walk" "weight" "[I") (List.mem_of_getElem? (i := 1) rfl)) (fun _ h9 => h9) rfl dX7_cross_2 ?_
  refine lv_iload_n hx hb dX7_cross_5 rfl (lv_at hl 2 rfl) ?_
  obtain ⟨h14, hf⟩ := gd_e hf
  refine va_iald hx hb hK.1 hP 2 0 rfl rfl h14 dX7_cross_6 ?_
  refine lv_isub hx hb dX7_cross_7 ?_
  obtain ⟨t3, et3, hf⟩ := lett_e hf
  refine lv_eqi et3 ?_
  refine lv_istore (lv' := [(4, .int t3), (0, .ref h), (1, .ref hw), (2, .int p2), (3, .int p3)]) hx hb dX7_cross_8 hl (by decide) rfl (fun ls hl => ?_)
  refine lv_iload hx hb dX7_cross_10 (lv_at hl 0 rfl) ?_
  refine lv_ineg hx hb dX7_cross_12 ?_
  refine lv_aload_n hx hb dX7_cross_13 rfl (lv_at hl 1 rfl) ?_
  refine va_get (D := D) (ci := 7) (v := .int (u 0 0)) (C := RX7) (T := TX7) (N := 6) hx hb hts hinX7 hown hK.1 hP 0 rfl rfl 0 (by decide) (hts (.fieldLink RX7 9 "RopeScale$Rope" "tolerance" "I") (List.mem_of_getElem? (i := 2) rfl)) (fun _ h9 => h9) rfl dX7_cross_14 ?_
  refine lv_icmp_le (tgt := 51) hx hb dX7_cross_17 (by decide) (fun c4 => ?_) (fun c4 => ?_)
  · replace hf := ifp c4 hf
    refine lv_iload hx hb dX7_cross_51 (lv_at hl 0 rfl) ?_
    refine lv_aload_n hx hb dX7_cross_53 rfl (lv_at hl 1 rfl) ?_
    refine va_get (D := D) (ci := 7) (v := .int (u 0 0)) (C := RX7) (T := TX7) (N := 6) hx hb hts hinX7 hown hK.1 hP 0 rfl rfl 0 (by decide) (hts (.fieldLink RX7 9 "RopeScale$Rope" "tolerance" "I") (List.mem_of_getElem? (i := 2) rfl)) (fun _ h9 => h9) rfl dX7_cross_54 ?_
    refine lv_icmp_le (tgt := 91) hx hb dX7_cross_57 (by decide) (fun c5 => ?_) (fun c5 => ?_)
    · replace hf := ifp c5 hf
      exact J91 u uw p2 _ _ _ hf hP hD hS (lv_sub hl [1, 2, 3] rfl)
    replace hf := ifn c5 hf
    refine lv_aload_n hx hb dX7_cross_60 rfl (lv_at hl 2 rfl) ?_
    refine va_get (D := D) (ci := 9) (v := .ref (aw 3)) (C := RX9) (T := TX9) (N := 8) hx hb hts hinX9 hown hK.1 hP 1 rfl rfl 3 (by decide) (hts (.fieldLink RX7 104 "RopeScale$Walk" "hurt" "[I") (List.mem_of_getElem? (i := 9) rfl)) (fun _ h9 => h9) rfl dX7_cross_61 ?_
    refine lv_iload_n hx hb dX7_cross_64 rfl (lv_at hl 3 rfl) ?_
    refine lv_sipush (v := 9999) hx hb dX7_cross_65 (by decide) ?_
    refine lv_aload_n hx hb dX7_cross_68 rfl (lv_at hl 2 rfl) ?_
    refine va_get (D := D) (ci := 9) (v := .ref (aw 3)) (C := RX9) (T := TX9) (N := 8) hx hb hts hinX9 hown hK.1 hP 1 rfl rfl 3 (by decide) (hts (.fieldLink RX7 104 "RopeScale$Walk" "hurt" "[I") (List.mem_of_getElem? (i := 9) rfl)) (fun _ h9 => h9) rfl dX7_cross_69 ?_
    refine lv_iload_n hx hb dX7_cross_72 rfl (lv_at hl 3 rfl) ?_
    obtain ⟨h9, hf⟩ := gd_e hf
    refine va_iald hx hb hK.1 hP 5 0 rfl rfl h9 dX7_cross_73 ?_
    refine lv_iload hx hb dX7_cross_74 (lv_at hl 0 rfl) ?_
    refine lv_iadd hx hb dX7_cross_76 ?_
    refine mmin hx hb (hml.trans hl.1.symm) hown (hts (.methodLink RX7 35 Lib.Math.min.name) (List.mem_of_getElem? (i := 4) rfl)) (hts (.static Lib.Math.min.name) (List.mem_of_getElem? (i := 5) rfl)) (hts (.initialized "java/lang/Math") (List.mem_of_getElem? (i := 6) rfl)) (hts (.code Lib.Math.min.name Lib.Math.min.code 2 (some .int)) (List.mem_of_getElem? (i := 7) rfl)) (Nat.le_of_ble_eq_true rfl) (Nat.le_of_ble_eq_true rfl) (Nat.le_of_ble_eq_true rfl) (Nat.le_of_ble_eq_true rfl) dX7_cross_77 ?_
    obtain ⟨h8, hf⟩ := gd_e hf
    obtain ⟨u6, eu6, hf⟩ := lett_e hf
    refine va_iast hx hb hK.1 hP hD hS 5 0 rfl rfl h8 dX7_cross_80 (fun H locs hP hD hS => ?_)
    have hP : va_P D vwCl (kX7 T h a u ++ kX9 T hw aw u6) H := by rw [eu6]; exact hP
    have hD : va_D (va_A (kX7 T h a u ++ kX9 T hw aw uw) s.heap.size) (kX7 T h a u ++ kX9 T hw aw u6) := by rw [eu6]; exact hD
    refine lv_aload_n hx hb dX7_cross_81 rfl (lv_at hl 1 rfl) ?_
    refine lv_dup hx hb dX7_cross_82 rfl ?_
    refine va_get (D := D) (ci := 7) (v := .int (u 4 0)) (C := RX7) (T := TX7) (N := 6) hx hb hts hinX7 hown hK.1 hP 0 rfl rfl 4 (by decide) (hts (.fieldLink RX7 24 "RopeScale$Rope" "flung" "I") (List.mem_of_getElem? (i := 10) rfl)) (fun _ h9 => h9) rfl dX7_cross_83 ?_
    refine lv_iconst (v := 1) hx hb dX7_cross_86 (by decide) ?_
    refine lv_iadd hx hb dX7_cross_87 ?_
    obtain ⟨u7, eu7, hf⟩ := lett_e hf
    refine va_put (D := D) (ci := 7) (v := .int ((u 4 0) + 1)) (ty := .int) (C := RX7) (T := TX7) (N := 6) hx hb hts hinX7 tyX7 tyX7_ok nmX7 hown hK.1 hP hD hS 0 rfl rfl 4 (by decide) (hts (.fieldLink RX7 24 "RopeScale$Rope" "flung" "I") (List.mem_of_getElem? (i := 10) rfl)) (fun _ h9 => h9) rfl (tyX7_ok 4 (by decide)) rfl rfl (Nat.le_of_ble_eq_true rfl) dX7_cross_88 (fun H locs hP hD hS => ?_)
    have hP : va_P D vwCl (kX7 T h a u7 ++ kX9 T hw aw u6) H := by rw [eu7]; exact hP
    have hD : va_D (va_A (kX7 T h a u ++ kX9 T hw aw uw) s.heap.size) (kX7 T h a u7 ++ kX9 T hw aw u6) := by rw [eu7]; exact hD
    exact J91 u7 u6 p2 _ _ _ hf hP hD hS (lv_sub hl [1, 2, 3] rfl)
  replace hf := ifn c4 hf
  refine lv_aload_n hx hb dX7_cross_20 rfl (lv_at hl 2 rfl) ?_
  refine va_get (D := D) (ci := 9) (v := .ref (aw 2)) (C := RX9) (T := TX9) (N := 8) hx hb hts hinX9 hown hK.1 hP 1 rfl rfl 2 (by decide) (hts (.fieldLink RX7 102 "RopeScale$Walk" "baths" "[I") (List.mem_of_getElem? (i := 3) rfl)) (fun _ h9 => h9) rfl dX7_cross_21 ?_
  refine lv_iload_n hx hb dX7_cross_24 rfl (lv_at hl 3 rfl) ?_
  refine lv_sipush (v := 999) hx hb dX7_cross_25 (by decide) ?_
  refine lv_aload_n hx hb dX7_cross_28 rfl (lv_at hl 2 rfl) ?_
  refine va_get (D := D) (ci := 9) (v := .ref (aw 2)) (C := RX9) (T := TX9) (N := 8) hx hb hts hinX9 hown hK.1 hP 1 rfl rfl 2 (by decide) (hts (.fieldLink RX7 102 "RopeScale$Walk" "baths" "[I") (List.mem_of_getElem? (i := 3) rfl)) (fun _ h9 => h9) rfl dX7_cross_29 ?_
  refine lv_iload_n hx hb dX7_cross_32 rfl (lv_at hl 3 rfl) ?_
  obtain ⟨h13, hf⟩ := gd_e hf
  refine va_iald hx hb hK.1 hP 4 0 rfl rfl h13 dX7_cross_33 ?_
  refine lv_iconst (v := 1) hx hb dX7_cross_34 (by decide) ?_
  refine lv_iadd hx hb dX7_cross_35 ?_
  refine mmin hx hb (hml.trans hl.1.symm) hown (hts (.methodLink RX7 35 Lib.Math.min.name) (List.mem_of_getElem? (i := 4) rfl)) (hts (.static Lib.Math.min.name) (List.mem_of_getElem? (i := 5) rfl)) (hts (.initialized "java/lang/Math") (List.mem_of_getElem? (i := 6) rfl)) (hts (.code Lib.Math.min.name Lib.Math.min.code 2 (some .int)) (List.mem_of_getElem? (i := 7) rfl)) (Nat.le_of_ble_eq_true rfl) (Nat.le_of_ble_eq_true rfl) (Nat.le_of_ble_eq_true rfl) (Nat.le_of_ble_eq_true rfl) dX7_cross_36 ?_
  obtain ⟨h12, hf⟩ := gd_e hf
  obtain ⟨u10, eu10, hf⟩ := lett_e hf
  refine va_iast hx hb hK.1 hP hD hS 4 0 rfl rfl h12 dX7_cross_39 (fun H locs hP hD hS => ?_)
  have hP : va_P D vwCl (kX7 T h a u ++ kX9 T hw aw u10) H := by rw [eu10]; exact hP
  have hD : va_D (va_A (kX7 T h a u ++ kX9 T hw aw uw) s.heap.size) (kX7 T h a u ++ kX9 T hw aw u10) := by rw [eu10]; exact hD
  refine lv_aload_n hx hb dX7_cross_40 rfl (lv_at hl 1 rfl) ?_
  refine lv_dup hx hb dX7_cross_41 rfl ?_
  refine va_get (D := D) (ci := 7) (v := .int (u 3 0)) (C := RX7) (T := TX7) (N := 6) hx hb hts hinX7 hown hK.1 hP 0 rfl rfl 3 (by decide) (hts (.fieldLink RX7 21 "RopeScale$Rope" "baths" "I") (List.mem_of_getElem? (i := 8) rfl)) (fun _ h9 => h9) rfl dX7_cross_42 ?_
  refine lv_iconst (v := 1) hx hb dX7_cross_45 (by decide) ?_
  refine lv_iadd hx hb dX7_cross_46 ?_
  obtain ⟨u11, eu11, hf⟩ := lett_e hf
  refine va_put (D := D) (ci := 7) (v := .int ((u 3 0) + 1)) (ty := .int) (C := RX7) (T := TX7) (N := 6) hx hb hts hinX7 tyX7 tyX7_ok nmX7 hown hK.1 hP hD hS 0 rfl rfl 3 (by decide) (hts (.fieldLink RX7 21 "RopeScale$Rope" "baths" "I") (List.mem_of_getElem? (i := 8) rfl)) (fun _ h9 => h9) rfl (tyX7_ok 3 (by decide)) rfl rfl (Nat.le_of_ble_eq_true rfl) dX7_cross_47 (fun H locs hP hD hS => ?_)
  have hP : va_P D vwCl (kX7 T h a u11 ++ kX9 T hw aw u10) H := by rw [eu11]; exact hP
  have hD : va_D (va_A (kX7 T h a u ++ kX9 T hw aw uw) s.heap.size) (kX7 T h a u11 ++ kX9 T hw aw u10) := by rw [eu11]; exact hD
  have e9 := Option.some.inj hf
  exact retMv hx hb hr hlocks hP hD hS (congrArg (fun z => (kX7 T h a z.1 ++ kX9 T hw aw z.2 : va_W)) e9) dX7_cross_50
def fX7_visit  (u : St) (uw : St) (ulw : St) (p3 : Int32) : Option (St × St × St) := (fX2_look ulw uw p3).bind fun z1 => (fX2_say z1 119 99).bind fun z2 => lett (mx 0 z2.1) fun t3 => (fX2_say z2.2 108 99).bind fun z4 => lett (mx 0 z4.1) fun t5 => (fX9_changeWeight uw p3 (t3 - t5)).bind fun z6 => gd p3 16 <| (fX2_setWeight z4.2 (z6 0 (ix p3))).bind fun z7 => lett (fX11_has (z6 5 0) p3) fun z8 => if z8 = 0 then (fX2_anyHolds z7 103).bind fun z10 => if z10.1 = 0 then some (u, z6, z10.2) else (fX7_onScale u z6 z10.2 p3).bind fun z12 => (fX7_cross z12.2.1 z12.2.2.1 p3 z12.1).bind fun z13 => some (z13.1, z13.2, z12.2.2.2) else (fX2_anyHolds z7 114).bind fun z14 => if z14.1 = 0 then some (u, z6, z14.2) else lett (st z6 5 0 ((z6 5 0) &&& ((jshl 1 p3) ^^^ (-1)))) fun u16 => some (u, u16, z14.2)
set_option maxHeartbeats 4000000 in
set_option maxRecDepth 100000 in
theorem mX7_visit (l : Launch) (D : va_G) (T : Ty3) (h : Nat) (a : Nat → Nat) (u : St) (hw : Nat) (aw : Nat → Nat) (uw : St) (hlw : Nat) (alw : Nat → Nat) (ulw : St) (sz : Nat) (p3 : Int32) (res : St × St × St) (hf : fX7_visit u uw ulw p3 = some res) : Met l yX7_visit wsX7_visit ({ frames := 5, cells := 0, slots := 0, locals := 120 }) (PcM D T (kX7 T h a u ++ kX9 T hw aw uw ++ kX2 T hlw alw ulw) sz [.ref h, .ref hw, .ref hlw, .int p3]) (QMv D (kX7 T h a u ++ kX9 T hw aw uw ++ kX2 T hlw alw ulw) sz (kX7 T h a res.1 ++ kX9 T hw aw res.2.1 ++ kX2 T hlw alw res.2.2)) 0 0 (va_A (kX7 T h a u ++ kX9 T hw aw uw ++ kX2 T hlw alw ulw) sz) := by
  refine Met.ofW (cc := cX7_visit) (maxL := 6) (ret := none) (by decide) rfl ?_
  intro p e s m args below meth c s₁ B hml hv
  obtain ⟨rfl, hsz, hP, hK, hD0⟩ := hv
  have hx := B.exec
  have hb := B.bytes
  have hr := B.returns
  have hts := atoms_spec (ws := wsX7_visit) B.pre
  have hown : s.vm.findClass RX7 = some m.cls := findClass_of_methodNamed B.named
  have hlocks := B.notSynchronized
  subst hsz
  have hD := hD0.self (sz := s.heap.size)
  have hA : ∀ q : Nat, s.heap.size ≤ q → va_A (kX7 T h a u ++ kX9 T hw aw uw ++ kX2 T hlw alw ulw) s.heap.size q := fun q h => Or.inr h
  have hS : va_S (va_A (kX7 T h a u ++ kX9 T hw aw uw ++ kX2 T hlw alw ulw) s.heap.size) s.heap s.heap [] := va_S.rf
  have hinX9 : ∀ w ∈ u_ws RX9 TX9 8, w ∈ wsX7_visit := fun w h => List.mem_cons_of_mem _ (List.mem_append_left _ (List.mem_append_left _ (List.mem_append_right _ h)))
  have hinX2 : ∀ w ∈ u_ws RX2 TX2 10, w ∈ wsX7_visit := fun w h => List.mem_cons_of_mem _ (List.mem_append_left _ (List.mem_append_right _ h))
  have hinX7 : ∀ w ∈ u_ws RX7 TX7 6, w ∈ wsX7_visit := fun w h => List.mem_cons_of_mem _ (List.mem_append_right _ h)
  have hl := lv_entry ([.ref h, .ref hw, .ref hlw, .int p3]) (n := 6) (Nat.le_of_ble_eq_true rfl)
  rw [lg_entry_eq]
  generalize (lg_sl ([.ref h, .ref hw, .ref hlw, .int p3]) ++ List.replicate (6 - (lg_sl ([.ref h, .ref hw, .ref hlw, .int p3])).length) Slot.unset).toArray = ls at hl ⊢
  have hl : lv_has ls 6 [(0, .ref h), (1, .ref hw), (2, .ref hlw), (3, .int p3)] := hl
  unfold fX7_visit at hf
  refine lv_aload_n hx hb dX7_visit_0 rfl (lv_at hl 2 rfl) ?_
  refine lv_aload_n hx hb dX7_visit_1 rfl (lv_at hl 1 rfl) ?_
  refine lv_iload_n hx hb dX7_visit_2 rfl (lv_at hl 3 rfl) ?_
  obtain ⟨z1, hz1, hf⟩ := bnd hf
  have hPc := hP.sub (ws' := kX2 T hlw alw ulw ++ kX9 T hw aw uw) [6, 7, 8, 9, 10, 11, 12, 13, 14, 1, 2, 3, 4, 5] rfl
  have hDc := hD.sub (ws' := kX2 T hlw alw ulw ++ kX9 T hw aw uw) [6, 7, 8, 9, 10, 11, 12, 13, 14, 1, 2, 3, 4, 5] (by decide) rfl
  have hFc9 := va_free (wc := kX2 T hlw alw ulw ++ kX9 T hw aw uw) hD hS hA [6, 7, 8, 9, 10, 11, 12, 13, 14, 1, 2, 3, 4, 5] rfl
  refine cVMv (As := [.ref hw, .int p3]) (rest := []) ⟨hx, hb, hml, hown, hts⟩ (mX2_look l D T hlw alw ulw hw aw uw _ p3 z1 hz1) (cwV 2 hts gX7_visit_X2_look rfl rfl rfl (by decide +kernel) ⟨Nat.le_of_ble_eq_true rfl, Nat.le_of_ble_eq_true rfl⟩) (va_recv hK.1 hP (ci := 2) (q0 := 6) rfl rfl) hPc hK rfl hl.1 rfl (Nat.le_of_ble_eq_true rfl) dX7_visit_3 ⟨Nat.le_of_ble_eq_true rfl, Nat.le_of_ble_eq_true rfl⟩ hDc hFc9 hS (fun H9 locs hP1 hD1 hk1 hS => ?_)
  obtain ⟨hP, hD⟩ := putAll_P (w1 := kX2 T hlw alw z1 ++ kX9 T hw aw uw) hP hD [6, 7, 8, 9, 10, 11, 12, 13, 14, 1, 2, 3, 4, 5] rfl (by decide) hk1 hP1 rfl
  generalize H9 = H at hP hS ⊢
  have hP : va_P D vwCl (kX7 T h a u ++ kX9 T hw aw uw ++ kX2 T hlw alw z1) H := by exact hP
  have hD : va_D (va_A (kX7 T h a u ++ kX9 T hw aw uw ++ kX2 T hlw alw ulw) s.heap.size) (kX7 T h a u ++ kX9 T hw aw uw ++ kX2 T hlw alw z1) := by exact hD
  refine lv_iconst (v := 0) hx hb dX7_visit_6 (by decide) ?_
  refine lv_aload_n hx hb dX7_visit_7 rfl (lv_at hl 2 rfl) ?_
  refine lv_bipush (v := 119) hx hb dX7_visit_8 (by decide) ?_
  refine lv_bipush (v := 99) hx hb dX7_visit_10 (by decide) ?_
  obtain ⟨z2, hz2, hf⟩ := bnd hf
  have hPc := hP.sub (ws' := kX2 T hlw alw z1) [6, 7, 8, 9, 10, 11, 12, 13, 14] rfl
  have hDc := hD.sub (ws' := kX2 T hlw alw z1) [6, 7, 8, 9, 10, 11, 12, 13, 14] (by decide) rfl
  have hFc9 := va_free (wc := kX2 T hlw alw z1) hD hS hA [6, 7, 8, 9, 10, 11, 12, 13, 14] rfl
  refine cVM (As := [.int 119, .int 99]) (rest := [.int 0]) ⟨hx, hb, hml, hown, hts⟩ (mX2_say l D T hlw alw z1 _ 119 99 z2 hz2) (cwV 2 hts gX7_visit_X2_say rfl rfl rfl (by decide +kernel) ⟨Nat.le_of_ble_eq_true rfl, Nat.le_of_ble_eq_true rfl⟩) (va_recv hK.1 hP (ci := 2) (q0 := 6) rfl rfl) hPc hK rfl hl.1 rfl (Nat.le_of_ble_eq_true rfl) dX7_visit_12 ⟨Nat.le_of_ble_eq_true rfl, Nat.le_of_ble_eq_true rfl⟩ hDc hFc9 hS (fun H9 locs hP1 hD1 hk1 hS => ?_)
  obtain ⟨hP, hD⟩ := putAll_P (w1 := kX2 T hlw alw z2.2) hP hD [6, 7, 8, 9, 10, 11, 12, 13, 14] rfl (by decide) hk1 hP1 rfl
  generalize H9 = H at hP hS ⊢
  have hP : va_P D vwCl (kX7 T h a u ++ kX9 T hw aw uw ++ kX2 T hlw alw z2.2) H := by exact hP
  have hD : va_D (va_A (kX7 T h a u ++ kX9 T hw aw uw ++ kX2 T hlw alw ulw) s.heap.size) (kX7 T h a u ++ kX9 T hw aw uw ++ kX2 T hlw alw z2.2) := by exact hD
  refine mmax hx hb (hml.trans hl.1.symm) hown (hts (.methodLink RX7 61 Lib.Math.max.name) (List.mem_of_getElem? (i := 1) rfl)) (hts (.static Lib.Math.max.name) (List.mem_of_getElem? (i := 2) rfl)) (hts (.initialized "java/lang/Math") (List.mem_of_getElem? (i := 3) rfl)) (hts (.code Lib.Math.max.name Lib.Math.max.code 2 (some .int)) (List.mem_of_getElem? (i := 4) rfl)) (Nat.le_of_ble_eq_true rfl) (Nat.le_of_ble_eq_true rfl) (Nat.le_of_ble_eq_true rfl) (Nat.le_of_ble_eq_true rfl) dX7_visit_15 ?_
  obtain ⟨t3, et3, hf⟩ := lett_e hf
  refine lv_eqi et3 ?_
  refine lv_istore (lv' := [(4, .int t3), (0, .ref h), (1, .ref hw), (2, .ref hlw), (3, .int p3)]) hx hb dX7_visit_18 hl (by decide) rfl (fun ls hl => ?_)
  refine lv_iconst (v := 0) hx hb dX7_visit_20 (by decide) ?_
  refine lv_aload_n hx hb dX7_visit_21 rfl (lv_at hl 3 rfl) ?_
  refine lv_bipush (v := 108) hx hb dX7_visit_22 (by decide) ?_
  refine lv_bipush (v := 99) hx hb dX7_visit_24 (by decide) ?_
  obtain ⟨z4, hz4, hf⟩ := bnd hf
  have hPc := hP.sub (ws' := kX2 T hlw alw z2.2) [6, 7, 8, 9, 10, 11, 12, 13, 14] rfl
  have hDc := hD.sub (ws' := kX2 T hlw alw z2.2) [6, 7, 8, 9, 10, 11, 12, 13, 14] (by decide) rfl
  have hFc9 := va_free (wc := kX2 T hlw alw z2.2) hD hS hA [6, 7, 8, 9, 10, 11, 12, 13, 14] rfl
  refine cVM (As := [.int 108, .int 99]) (rest := [.int 0]) ⟨hx, hb, hml, hown, hts⟩ (mX2_say l D T hlw alw z2.2 _ 108 99 z4 hz4) (cwV 2 hts gX7_visit_X2_say rfl rfl rfl (by decide +kernel) ⟨Nat.le_of_ble_eq_true rfl, Nat.le_of_ble_eq_true rfl⟩) (va_recv hK.1 hP (ci := 2) (q0 := 6) rfl rfl) hPc hK rfl hl.1 rfl (Nat.le_of_ble_eq_true rfl) dX7_visit_26 ⟨Nat.le_of_ble_eq_true rfl, Nat.le_of_ble_eq_true rfl⟩ hDc hFc9 hS (fun H9 locs hP1 hD1 hk1 hS => ?_)
  obtain ⟨hP, hD⟩ := putAll_P (w1 := kX2 T hlw alw z4.2) hP hD [6, 7, 8, 9, 10, 11, 12, 13, 14] rfl (by decide) hk1 hP1 rfl
  generalize H9 = H at hP hS ⊢
  have hP : va_P D vwCl (kX7 T h a u ++ kX9 T hw aw uw ++ kX2 T hlw alw z4.2) H := by exact hP
  have hD : va_D (va_A (kX7 T h a u ++ kX9 T hw aw uw ++ kX2 T hlw alw ulw) s.heap.size) (kX7 T h a u ++ kX9 T hw aw uw ++ kX2 T hlw alw z4.2) := by exact hD
  refine mmax hx hb (hml.trans hl.1.symm) hown (hts (.methodLink RX7 61 Lib.Math.max.name) (List.mem_of_getElem? (i := 1) rfl)) (hts (.static Lib.Math.max.name) (List.mem_of_getElem? (i := 2) rfl)) (hts (.initialized "java/lang/Math") (List.mem_of_getElem? (i := 3) rfl)) (hts (.code Lib.Math.max.name Lib.Math.max.code 2 (some .int)) (List.mem_of_getElem? (i := 4) rfl)) (Nat.le_of_ble_eq_true rfl) (Nat.le_of_ble_eq_true rfl) (Nat.le_of_ble_eq_true rfl) (Nat.le_of_ble_eq_true rfl) dX7_visit_29 ?_
  obtain ⟨t5, et5, hf⟩ := lett_e hf
  refine lv_eqi et5 ?_
  refine lv_istore (lv' := [(5, .int t5), (4, .int t3), (0, .ref h), (1, .ref hw), (2, .ref hlw), (3, .int p3)]) hx hb dX7_visit_32 hl (by decide) rfl (fun ls hl => ?_)
  refine lv_aload_n hx hb dX7_visit_34 rfl (lv_at hl 3 rfl) ?_
  refine lv_iload_n hx hb dX7_visit_35 rfl (lv_at hl 5 rfl) ?_
  refine lv_iload hx hb dX7_visit_36 (lv_at hl 1 rfl) ?_
  refine lv_iload hx hb dX7_visit_38 (lv_at hl 0 rfl) ?_
  refine lv_isub hx hb dX7_visit_40 ?_
  obtain ⟨z6, hz6, hf⟩ := bnd hf
  have hPc := hP.sub (ws' := kX9 T hw aw uw) [1, 2, 3, 4, 5] rfl
  have hDc := hD.sub (ws' := kX9 T hw aw uw) [1, 2, 3, 4, 5] (by decide) rfl
  have hFc9 := va_free (wc := kX9 T hw aw uw) hD hS hA [1, 2, 3, 4, 5] rfl
  refine cVMv (As := [.int p3, .int (t3 - t5)]) (rest := []) ⟨hx, hb, hml, hown, hts⟩ (mX9_changeWeight l D T hw aw uw _ p3 (t3 - t5) z6 hz6) (cwV 2 hts gX7_visit_X9_changeWeight rfl rfl rfl (by decide +kernel) ⟨Nat.le_of_ble_eq_true rfl, Nat.le_of_ble_eq_true rfl⟩) (va_recv hK.1 hP (ci := 9) (q0 := 1) rfl rfl) hPc hK rfl hl.1 rfl (Nat.le_of_ble_eq_true rfl) dX7_visit_41 ⟨Nat.le_of_ble_eq_true rfl, Nat.le_of_ble_eq_true rfl⟩ hDc hFc9 hS (fun H9 locs hP1 hD1 hk1 hS => ?_)
  obtain ⟨hP, hD⟩ := putAll_P (w1 := kX9 T hw aw z6) hP hD [1, 2, 3, 4, 5] rfl (by decide) hk1 hP1 rfl
  generalize H9 = H at hP hS ⊢
  have hP : va_P D vwCl (kX7 T h a u ++ kX9 T hw aw z6 ++ kX2 T hlw alw z4.2) H := by exact hP
  have hD : va_D (va_A (kX7 T h a u ++ kX9 T hw aw uw ++ kX2 T hlw alw ulw) s.heap.size) (kX7 T h a u ++ kX9 T hw aw z6 ++ kX2 T hlw alw z4.2) := by exact hD
  refine lv_aload_n hx hb dX7_visit_44 rfl (lv_at hl 4 rfl) ?_
  refine lv_aload_n hx hb dX7_visit_45 rfl (lv_at hl 3 rfl) ?_
  refine va_get (D := D) (ci := 9) (v := .ref (aw 0)) (C := RX9) (T := TX9) (N := 8) hx hb hts hinX9 hown hK.1 hP 1 rfl rfl 0 (by decide) (hts (.fieldLink RX7 68 "RopeScale$Walk" "weight" "[I") (List.mem_of_getElem? (i := 5) rfl)) (fun _ h9 => h9) rfl dX7_visit_46 ?_
  refine lv_iload_n hx hb dX7_visit_49 rfl (lv_at hl 5 rfl) ?_
  obtain ⟨h17, hf⟩ := gd_e hf
  refine va_iald hx hb hK.1 hP 2 0 rfl rfl h17 dX7_visit_50 ?_
  obtain ⟨z7, hz7, hf⟩ := bnd hf
  have hPc := hP.sub (ws' := kX2 T hlw alw z4.2) [6, 7, 8, 9, 10, 11, 12, 13, 14] rfl
  have hDc := hD.sub (ws' := kX2 T hlw alw z4.2) [6, 7, 8, 9, 10, 11, 12, 13, 14] (by decide) rfl
  have hFc9 := va_free (wc := kX2 T hlw alw z4.2) hD hS hA [6, 7, 8, 9, 10, 11, 12, 13, 14] rfl
  refine cVMv (As := [.int (z6 0 (ix p3))]) (rest := []) ⟨hx, hb, hml, hown, hts⟩ (mX2_setWeight l D T hlw alw z4.2 _ (z6 0 (ix p3)) z7 hz7) (cwV 1 hts gX7_visit_X2_setWeight rfl rfl rfl (by decide +kernel) ⟨Nat.le_of_ble_eq_true rfl, Nat.le_of_ble_eq_true rfl⟩) (va_recv hK.1 hP (ci := 2) (q0 := 6) rfl rfl) hPc hK rfl hl.1 rfl (Nat.le_of_ble_eq_true rfl) dX7_visit_51 ⟨Nat.le_of_ble_eq_true rfl, Nat.le_of_ble_eq_true rfl⟩ hDc hFc9 hS (fun H9 locs hP1 hD1 hk1 hS => ?_)
  obtain ⟨hP, hD⟩ := putAll_P (w1 := kX2 T hlw alw z7) hP hD [6, 7, 8, 9, 10, 11, 12, 13, 14] rfl (by decide) hk1 hP1 rfl
  generalize H9 = H at hP hS ⊢
  have hP : va_P D vwCl (kX7 T h a u ++ kX9 T hw aw z6 ++ kX2 T hlw alw z7) H := by exact hP
  have hD : va_D (va_A (kX7 T h a u ++ kX9 T hw aw uw ++ kX2 T hlw alw ulw) s.heap.size) (kX7 T h a u ++ kX9 T hw aw z6 ++ kX2 T hlw alw z7) := by exact hD
  refine lv_aload_n hx hb dX7_visit_54 rfl (lv_at hl 3 rfl) ?_
  refine va_get (D := D) (ci := 9) (v := .int (z6 5 0)) (C := RX9) (T := TX9) (N := 8) hx hb hts hinX9 hown hK.1 hP 1 rfl rfl 5 (by decide) (hts (.fieldLink RX7 76 "RopeScale$Walk" "over" "I") (List.mem_of_getElem? (i := 6) rfl)) (fun _ h9 => h9) rfl dX7_visit_55 ?_
  refine lv_iload_n hx hb dX7_visit_58 rfl (lv_at hl 5 rfl) ?_
  obtain ⟨z8, hz8, hf⟩ := lett_e hf
  refine cNR (As := [.int (z6 5 0), .int p3]) (rest := []) ⟨hx, hb, hml, hown, hts⟩ (mX11_has l D T (z6 5 0) p3 z8 hz8.symm) ⟨va_cnB (host := "RopeScale") (index := 44) 2 hts gX7_visit_X11_has_n44 rfl rfl rfl (hK.2 _ (List.mem_of_getElem? (i := 16) rfl)) (hts (.initialized RX11) (List.mem_of_getElem? (i := 51) rfl)) (by decide +kernel) ⟨Nat.le_of_ble_eq_true rfl, Nat.le_of_ble_eq_true rfl⟩, (hts (.static yX11_has) (List.mem_of_getElem? (i := 67) rfl)), trivial⟩ P0 hK rfl hl.1 rfl (Nat.le_of_ble_eq_true rfl) dX7_visit_59 ⟨Nat.le_of_ble_eq_true rfl, Nat.le_of_ble_eq_true rfl⟩ hP hS (fun H locs hP hS => ?_)
  refine lv_if_eq (tgt := 91) hx hb dX7_visit_62 (by decide) (fun c9 => ?_) (fun c9 => ?_)
  · replace hf := ifp c9 hf
    refine lv_aload_n hx hb dX7_visit_91 rfl (lv_at hl 4 rfl) ?_
    refine lv_bipush (v := 103) hx hb dX7_visit_92 (by decide) ?_
    obtain ⟨z10, hz10, hf⟩ := bnd hf
    have hPc := hP.sub (ws' := kX2 T hlw alw z7) [6, 7, 8, 9, 10, 11, 12, 13, 14] rfl
    have hDc := hD.sub (ws' := kX2 T hlw alw z7) [6, 7, 8, 9, 10, 11, 12, 13, 14] (by decide) rfl
    have hFc9 := va_free (wc := kX2 T hlw alw z7) hD hS hA [6, 7, 8, 9, 10, 11, 12, 13, 14] rfl
    refine cVM (As := [.int 103]) (rest := []) ⟨hx, hb, hml, hown, hts⟩ (mX2_anyHolds l D T hlw alw z7 _ 103 z10 hz10) (cwV 1 hts gX7_visit_X2_anyHolds rfl rfl rfl (by decide +kernel) ⟨Nat.le_of_ble_eq_true rfl, Nat.le_of_ble_eq_true rfl⟩) (va_recv hK.1 hP (ci := 2) (q0 := 6) rfl rfl) hPc hK rfl hl.1 rfl (Nat.le_of_ble_eq_true rfl) dX7_visit_94 ⟨Nat.le_of_ble_eq_true rfl, Nat.le_of_ble_eq_true rfl⟩ hDc hFc9 hS (fun H9 locs hP1 hD1 hk1 hS => ?_)
    obtain ⟨hP, hD⟩ := putAll_P (w1 := kX2 T hlw alw z10.2) hP hD [6, 7, 8, 9, 10, 11, 12, 13, 14] rfl (by decide) hk1 hP1 rfl
    generalize H9 = H at hP hS ⊢
    have hP : va_P D vwCl (kX7 T h a u ++ kX9 T hw aw z6 ++ kX2 T hlw alw z10.2) H := by exact hP
    have hD : va_D (va_A (kX7 T h a u ++ kX9 T hw aw uw ++ kX2 T hlw alw ulw) s.heap.size) (kX7 T h a u ++ kX9 T hw aw z6 ++ kX2 T hlw alw z10.2) := by exact hD
    refine lv_if_eq (tgt := 113) hx hb dX7_visit_97 (by decide) (fun c11 => ?_) (fun c11 => ?_)
    · replace hf := ifp c11 hf
      have e9 := Option.some.inj hf
      exact retMv hx hb hr hlocks hP hD hS (congrArg (fun z => (kX7 T h a z.1 ++ kX9 T hw aw z.2.1 ++ kX2 T hlw alw z.2.2 : va_W)) e9) dX7_visit_113
    replace hf := ifn c11 hf
    refine lv_aload_n hx hb dX7_visit_100 rfl (lv_at hl 2 rfl) ?_
    refine lv_aload_n hx hb dX7_visit_101 rfl (lv_at hl 3 rfl) ?_
    refine lv_iload_n hx hb dX7_visit_102 rfl (lv_at hl 5 rfl) ?_
    refine lv_aload_n hx hb dX7_visit_103 rfl (lv_at hl 2 rfl) ?_
    refine lv_aload_n hx hb dX7_visit_104 rfl (lv_at hl 3 rfl) ?_
    refine lv_aload_n hx hb dX7_visit_105 rfl (lv_at hl 4 rfl) ?_
    refine lv_iload_n hx hb dX7_visit_106 rfl (lv_at hl 5 rfl) ?_
    obtain ⟨z12, hz12, hf⟩ := bnd hf
    have hFc9 := vaA_self hD hS hA
    refine cVM (As := [.ref hw, .ref hlw, .int p3]) (rest := [.int p3, .ref hw, .ref h]) ⟨hx, hb, hml, hown, hts⟩ (mX7_onScale l D T h a u hw aw z6 hlw alw z10.2 _ p3 z12 hz12) (cwV 3 hts gX7_visit_X7_onScale rfl rfl rfl (by decide +kernel) ⟨Nat.le_of_ble_eq_true rfl, Nat.le_of_ble_eq_true rfl⟩) (va_recv hK.1 hP (ci := 7) (q0 := 0) rfl rfl) hP hK rfl hl.1 rfl (Nat.le_of_ble_eq_true rfl) dX7_visit_107 ⟨Nat.le_of_ble_eq_true rfl, Nat.le_of_ble_eq_true rfl⟩ hD hFc9 hS (fun H locs hP hD1 _ hS => ?_)
    have hD := hD1.weaken (fun _ _ _ h9 => hFc9 _ h9)
    obtain ⟨z13, hz13, hf⟩ := bnd hf
    have hPc := hP.sub (ws' := kX7 T h a z12.2.1 ++ kX9 T hw aw z12.2.2.1) [0, 1, 2, 3, 4, 5] rfl
    have hDc := hD.sub (ws' := kX7 T h a z12.2.1 ++ kX9 T hw aw z12.2.2.1) [0, 1, 2, 3, 4, 5] (by decide) rfl
    have hFc9 := va_free (wc := kX7 T h a z12.2.1 ++ kX9 T hw aw z12.2.2.1) hD hS hA [0, 1, 2, 3, 4, 5] rfl
    refine cVMv (As := [.ref hw, .int p3, .int z12.1]) (rest := []) ⟨hx, hb, hml, hown, hts⟩ (mX7_cross l D T h a z12.2.1 hw aw z12.2.2.1 _ p3 z12.1 z13 hz13) (cwV 3 hts gX7_visit_X7_cross rfl rfl rfl (by decide +kernel) ⟨Nat.le_of_ble_eq_true rfl, Nat.le_of_ble_eq_true rfl⟩) (va_recv hK.1 hP (ci := 7) (q0 := 0) rfl rfl) hPc hK rfl hl.1 rfl (Nat.le_of_ble_eq_true rfl) dX7_visit_110 ⟨Nat.le_of_ble_eq_true rfl, Nat.le_of_ble_eq_true rfl⟩ hDc hFc9 hS (fun H9 locs hP1 hD1 hk1 hS => ?_)
    obtain ⟨hP, hD⟩ := putAll_P (w1 := kX7 T h a z13.1 ++ kX9 T hw aw z13.2) hP hD [0, 1, 2, 3, 4, 5] rfl (by decide) hk1 hP1 rfl
    generalize H9 = H at hP hS ⊢
    have hP : va_P D vwCl (kX7 T h a z13.1 ++ kX9 T hw aw z13.2 ++ kX2 T hlw alw z12.2.2.2) H := by exact hP
    have hD : va_D (va_A (kX7 T h a u ++ kX9 T hw aw uw ++ kX2 T hlw alw ulw) s.heap.size) (kX7 T h a z13.1 ++ kX9 T hw aw z13.2 ++ kX2 T hlw alw z12.2.2.2) := by exact hD
    have e9 := Option.some.inj hf
    exact retMv hx hb hr hlocks hP hD hS (congrArg (fun z => (kX7 T h a z.1 ++ kX9 T hw aw z.2.1 ++ kX2 T hlw alw z.2.2 : va_W)) e9) dX7_visit_113
  replace hf := ifn c9 hf
  refine lv_aload_n hx hb dX7_visit_65 rfl (lv_at hl 4 rfl) ?_
  refine lv_bipush (v := 114) hx hb dX7_visit_66 (by decide) ?_
  obtain ⟨z14, hz14, hf⟩ := bnd hf
  have hPc := hP.sub (ws' := kX2 T hlw alw z7) [6, 7, 8, 9, 10, 11, 12, 13, 14] rfl
  have hDc := hD.sub (ws' := kX2 T hlw alw z7) [6, 7, 8, 9, 10, 11, 12, 13, 14] (by decide) rfl
  have hFc9 := va_free (wc := kX2 T hlw alw z7) hD hS hA [6, 7, 8, 9, 10, 11, 12, 13, 14] rfl
  refine cVM (As := [.int 114]) (rest := []) ⟨hx, hb, hml, hown, hts⟩ (mX2_anyHolds l D T hlw alw z7 _ 114 z14 hz14) (cwV 1 hts gX7_visit_X2_anyHolds rfl rfl rfl (by decide +kernel) ⟨Nat.le_of_ble_eq_true rfl, Nat.le_of_ble_eq_true rfl⟩) (va_recv hK.1 hP (ci := 2) (q0 := 6) rfl rfl) hPc hK rfl hl.1 rfl (Nat.le_of_ble_eq_true rfl) dX7_visit_68 ⟨Nat.le_of_ble_eq_true rfl, Nat.le_of_ble_eq_true rfl⟩ hDc hFc9 hS (fun H9 locs hP1 hD1 hk1 hS => ?_)
  obtain ⟨hP, hD⟩ := putAll_P (w1 := kX2 T hlw alw z14.2) hP hD [6, 7, 8, 9, 10, 11, 12, 13, 14] rfl (by decide) hk1 hP1 rfl
  generalize H9 = H at hP hS ⊢
  have hP : va_P D vwCl (kX7 T h a u ++ kX9 T hw aw z6 ++ kX2 T hlw alw z14.2) H := by exact hP
  have hD : va_D (va_A (kX7 T h a u ++ kX9 T hw aw uw ++ kX2 T hlw alw ulw) s.heap.size) (kX7 T h a u ++ kX9 T hw aw z6 ++ kX2 T hlw alw z14.2) := by exact hD
  refine lv_if_eq (tgt := 113) hx hb dX7_visit_71 (by decide) (fun c15 => ?_) (fun c15 => ?_)
  · replace hf := ifp c15 hf
    have e9 := Option.some.inj hf
    exact retMv hx hb hr hlocks hP hD hS (congrArg (fun z => (kX7 T h a z.1 ++ kX9 T hw aw z.2.1 ++ kX2 T hlw alw z.2.2 : va_W)) e9) dX7_visit_113
  replace hf := ifn c15 hf
  refine lv_aload_n hx hb dX7_visit_74 rfl (lv_at hl 3 rfl) ?_
  refine lv_dup hx hb dX7_visit_75 rfl ?_
  refine va_get (D := D) (ci := 9) (v := .int (z6 5 0)) (C := RX9) (T := TX9) (N := 8) hx hb hts hinX9 hown hK.1 hP 1 rfl rfl 5 (by decide) (hts (.fieldLink RX7 76 "RopeScale$Walk" "over" "I") (List.mem_of_getElem? (i := 6) rfl)) (fun _ h9 => h9) rfl dX7_visit_76 ?_
  refine lv_iconst (v := 1) hx hb dX7_visit_79 (by decide) ?_
  refine lv_iload_n hx hb dX7_visit_80 rfl (lv_at hl 5 rfl) ?_
  refine lv_ishl hx hb dX7_visit_81 ?_
  refine lv_iconst (v := (-1)) hx hb dX7_visit_82 (by decide) ?_
  refine lv_ixor hx hb dX7_visit_83 ?_
  refine lv_iand hx hb dX7_visit_84 ?_
  obtain ⟨u16, eu16, hf⟩ := lett_e hf
  refine va_put (D := D) (ci := 9) (v := .int ((z6 5 0) &&& ((jshl 1 p3) ^^^ (-1)))) (ty := .int) (C := RX9) (T := TX9) (N := 8) hx hb hts hinX9 tyX9 tyX9_ok nmX9 hown hK.1 hP hD hS 1 rfl rfl 5 (by decide) (hts (.fieldLink RX7 76 "RopeScale$Walk" "over" "I") (List.mem_of_getElem? (i := 6) rfl)) (fun _ h9 => h9) rfl (tyX9_ok 5 (by decide)) rfl rfl (Nat.le_of_ble_eq_true rfl) dX7_visit_85 (fun H locs hP hD hS => ?_)
  have hP : va_P D vwCl (kX7 T h a u ++ kX9 T hw aw u16 ++ kX2 T hlw alw z14.2) H := by rw [eu16]; exact hP
  have hD : va_D (va_A (kX7 T h a u ++ kX9 T hw aw uw ++ kX2 T hlw alw ulw) s.heap.size) (kX7 T h a u ++ kX9 T hw aw u16 ++ kX2 T hlw alw z14.2) := by rw [eu16]; exact hD
  refine lv_goto (tgt := 113) hx hb dX7_visit_88 (by decide) ?_
  have e9 := Option.some.inj hf
  exact retMv hx hb hr hlocks hP hD hS (congrArg (fun z => (kX7 T h a z.1 ++ kX9 T hw aw z.2.1 ++ kX2 T hlw alw z.2.2 : va_W)) e9) dX7_visit_113
def bX7_pass_L47  (lp37 : St → St → St → Int32 → Int32 → Option (St × St × St)) (lp47 : St → St → St → Int32 → Int32 → Int32 → Option (St × St × St)) (v : St) (vw : St) (vlw : St) (x4 : Int32) (x5 : Int32) (x6 : Int32) : Option (St × St × St) := if 16 ≤ x6 then lett (st vw 6 0 ((vw 6 0) + 1)) fun u2 => lett (x5 + 1) fun t3 => lp37 v u2 vlw x4 t3 else lett (fX11_has (vw 4 0) x6) fun z4 => if z4 = 0 then lett (x6 + 1) fun t6 => lp47 v vw vlw x4 x5 t6 else (fX7_visit v vw vlw x6).bind fun z7 => lett (x6 + 1) fun t8 => lp47 z7.1 z7.2.1 z7.2.2 x4 x5 t8
def fX7_pass_L47  (lp37 : St → St → St → Int32 → Int32 → Option (St × St × St)) : Nat → St → St → St → Int32 → Int32 → Int32 → Option (St × St × St)
  | 0, _, _, _, _, _, _ => none
  | n + 1, v, vw, vlw, x4, x5, x6 => bX7_pass_L47 lp37 (fX7_pass_L47 lp37 n) v vw vlw x4 x5 x6
def bX7_pass_L37   (lp37 : St → St → St → Int32 → Int32 → Option (St × St × St)) (v : St) (vw : St) (vlw : St) (x4 : Int32) (x5 : Int32) : Option (St × St × St) := if x4 ≤ x5 then some (v, vw, vlw) else fX7_pass_L47 lp37 FU v vw vlw x4 x5 0
def fX7_pass_L37   : Nat → St → St → St → Int32 → Int32 → Option (St × St × St)
  | 0, _, _, _, _, _ => none
  | n + 1, v, vw, vlw, x4, x5 => bX7_pass_L37  (fX7_pass_L37  n) v vw vlw x4 x5
def fX7_pass  (u : St) (uw : St) (ulw : St) (p3 : Int32) : Option (St × St × St) := lett (st u 2 0 0) fun u10 => lett (st u10 3 0 0) fun u11 => lett (st u11 4 0 0) fun u12 => lett (st u12 5 0 0) fun u13 => lett (mn p3 (9999 - (uw 6 0))) fun t14 => fX7_pass_L37 FU u13 uw ulw t14 0
set_option maxHeartbeats 4000000 in
set_option maxRecDepth 100000 in
theorem mX7_pass (l : Launch) (D : va_G) (T : Ty3) (h : Nat) (a : Nat → Nat) (u : St) (hw : Nat) (aw : Nat → Nat) (uw : St) (hlw : Nat) (alw : Nat → Nat) (ulw : St) (sz : Nat) (p3 : Int32) (res : St × St × St) (hf : fX7_pass u uw ulw p3 = some res) : Met l yX7_pass wsX7_pass ({ frames := 6, cells := 0, slots := 0, locals := 145 }) (PcM D T (kX7 T h a u ++ kX9 T hw aw uw ++ kX2 T hlw alw ulw) sz [.ref h, .ref hw, .ref hlw, .int p3]) (QMv D (kX7 T h a u ++ kX9 T hw aw uw ++ kX2 T hlw alw ulw) sz (kX7 T h a res.1 ++ kX9 T hw aw res.2.1 ++ kX2 T hlw alw res.2.2)) 0 0 (va_A (kX7 T h a u ++ kX9 T hw aw uw ++ kX2 T hlw alw ulw) sz) := by
  refine Met.ofW (cc := cX7_pass) (maxL := 7) (ret := none) (by decide) rfl ?_
  intro p e s m args below meth c s₁ B hml hv
  obtain ⟨rfl, hsz, hP, hK, hD0⟩ := hv
  have hx := B.exec
  have hb := B.bytes
  have hr := B.returns
  have hts := atoms_spec (ws := wsX7_pass) B.pre
  have hown : s.vm.findClass RX7 = some m.cls := findClass_of_methodNamed B.named
  have hlocks := B.notSynchronized
  subst hsz
  have hD := hD0.self (sz := s.heap.size)
  have hA : ∀ q : Nat, s.heap.size ≤ q → va_A (kX7 T h a u ++ kX9 T hw aw uw ++ kX2 T hlw alw ulw) s.heap.size q := fun q h => Or.inr h
  have hS : va_S (va_A (kX7 T h a u ++ kX9 T hw aw uw ++ kX2 T hlw alw ulw) s.heap.size) s.heap s.heap [] := va_S.rf
  have hinX7 : ∀ w ∈ u_ws RX7 TX7 6, w ∈ wsX7_pass := fun w h => List.mem_cons_of_mem _ (List.mem_append_left _ (List.mem_append_left _ (List.mem_append_right _ h)))
  have hinX9 : ∀ w ∈ u_ws RX9 TX9 8, w ∈ wsX7_pass := fun w h => List.mem_cons_of_mem _ (List.mem_append_left _ (List.mem_append_right _ h))
  have hinX2 : ∀ w ∈ u_ws RX2 TX2 10, w ∈ wsX7_pass := fun w h => List.mem_cons_of_mem _ (List.mem_append_right _ h)
  have hl := lv_entry ([.ref h, .ref hw, .ref hlw, .int p3]) (n := 7) (Nat.le_of_ble_eq_true rfl)
  rw [lg_entry_eq]
  generalize (lg_sl ([.ref h, .ref hw, .ref hlw, .int p3]) ++ List.replicate (7 - (lg_sl ([.ref h, .ref hw, .ref hlw, .int p3])).length) Slot.unset).toArray = ls at hl ⊢
  have hl : lv_has ls 7 [(0, .ref h), (1, .ref hw), (2, .ref hlw), (3, .int p3)] := hl
  have L37 : ∀ (n37 : Nat), ∀ (v : St) (vw : St) (vlw : St) (x4 : Int32) (x5 : Int32) (H : Heap) (locs : List Loc) (ls : Array Slot), fX7_pass_L37  n37 v vw vlw x4 x5 = some res → va_P D vwCl (kX7 T h a v ++ kX9 T hw aw vw ++ kX2 T hlw alw vlw) H → va_D (va_A (kX7 T h a u ++ kX9 T hw aw uw ++ kX2 T hlw alw ulw) s.heap.size) (kX7 T h a v ++ kX9 T hw aw vw ++ kX2 T hlw alw vlw) → va_S (va_A (kX7 T h a u ++ kX9 T hw aw uw ++ kX2 T hlw alw ulw) s.heap.size) s.heap H locs → lv_has ls 7 [(0, .ref h), (1, .ref hw), (2, .ref hlw), (4, .int x4), (5, .int x5)] → W p l e (headSpec wsX7_pass ({ frames := 6, cells := 0, slots := 0, locals := 145 })).room s m ([.ref h, .ref hw, .ref hlw, .int p3] : List Value).toArray below meth c H locs 0 0 (MQ below (QMv D (kX7 T h a u ++ kX9 T hw aw uw ++ kX2 T hlw alw ulw) s.heap.size (kX7 T h a res.1 ++ kX9 T hw aw res.2.1 ++ kX2 T hlw alw res.2.2)) ([.ref h, .ref hw, .ref hlw, .int p3] : List Value).toArray s 0 0 (va_A (kX7 T h a u ++ kX9 T hw aw uw ++ kX2 T hlw alw ulw) s.heap.size)) (F0 m 37 ls []) := by
    intro n37
    induction n37 with
    | zero => intro v vw vlw x4 x5 H locs ls hf; exact nns hf
    | succ n37 ih37 =>
      have L47 : ∀ (n47 : Nat), ∀ (v : St) (vw : St) (vlw : St) (x4 : Int32) (x5 : Int32) (x6 : Int32) (H : Heap) (locs : List Loc) (ls : Array Slot), fX7_pass_L47 (fX7_pass_L37  n37) n47 v vw vlw x4 x5 x6 = some res → va_P D vwCl (kX7 T h a v ++ kX9 T hw aw vw ++ kX2 T hlw alw vlw) H → va_D (va_A (kX7 T h a u ++ kX9 T hw aw uw ++ kX2 T hlw alw ulw) s.heap.size) (kX7 T h a v ++ kX9 T hw aw vw ++ kX2 T hlw alw vlw) → va_S (va_A (kX7 T h a u ++ kX9 T hw aw uw ++ kX2 T hlw alw ulw) s.heap.size) s.heap H locs → lv_has ls 7 [(0, .ref h), (1, .ref hw), (2, .ref hlw), (4, .int x4), (5, .int x5), (6, .int x6)] → W p l e (headSpec wsX7_pass ({ frames := 6, cells := 0, slots := 0, locals := 145 })).room s m ([.ref h, .ref hw, .ref hlw, .int p3] : List Value).toArray below meth c H locs 0 0 (MQ below (QMv D (kX7 T h a u ++ kX9 T hw aw uw ++ kX2 T hlw alw ulw) s.heap.size (kX7 T h a res.1 ++ kX9 T hw aw res.2.1 ++ kX2 T hlw alw res.2.2)) ([.ref h, .ref hw, .ref hlw, .int p3] : List Value).toArray s 0 0 (va_A (kX7 T h a u ++ kX9 T hw aw uw ++ kX2 T hlw alw ulw) s.heap.size)) (F0 m 47 ls []) := by
        intro n47
        induction n47 with
        | zero => intro v vw vlw x4 x5 x6 H locs ls hf; exact nns hf
        | succ n47 ih47 =>
          intro v vw vlw x4 x5 x6 H locs ls hf hP hD hS hl
          replace hf : bX7_pass_L47 (fX7_pass_L37  n37) (fX7_pass_L47 (fX7_pass_L37  n37) n47) v vw vlw x4 x5 x6 = some res := hf
          unfold bX7_pass_L47 at hf
          refine lv_iload hx hb dX7_pass_47 (lv_at hl 5 rfl) ?_
          refine lv_bipush (v := 16) hx hb dX7_pass_49 (by decide) ?_
          refine lv_icmp_ge (tgt := 80) hx hb dX7_pass_51 (by decide) (fun c1 => ?_) (fun c1 => ?_)
          · replace hf := ifp c1 hf
            refine lv_aload_n hx hb dX7_pass_80 rfl (lv_at hl 1 rfl) ?_
            refine lv_dup hx hb dX7_pass_81 rfl ?_
            refine va_get (D := D) (ci := 9) (v := .int (vw 6 0)) (C := RX9) (T := TX9) (N := 8) hx hb hts hinX9 hown hK.1 hP 1 rfl rfl 6 (by decide) (hts (.fieldLink RX7 30 "RopeScale$Walk" "hour" "I") (List.mem_of_getElem? (i := 5) rfl)) (fun _ h9 => h9) rfl dX7_pass_82 ?_
            refine lv_iconst (v := 1) hx hb dX7_pass_85 (by decide) ?_
            refine lv_iadd hx hb dX7_pass_86 ?_
            obtain ⟨u2, eu2, hf⟩ := lett_e hf
            refine va_put (D := D) (ci := 9) (v := .int ((vw 6 0) + 1)) (ty := .int) (C := RX9) (T := TX9) (N := 8) hx hb hts hinX9 tyX9 tyX9_ok nmX9 hown hK.1 hP hD hS 1 rfl rfl 6 (by decide) (hts (.fieldLink RX7 30 "RopeScale$Walk" "hour" "I") (List.mem_of_getElem? (i := 5) rfl)) (fun _ h9 => h9) rfl (tyX9_ok 6 (by decide)) rfl rfl (Nat.le_of_ble_eq_true rfl) dX7_pass_87 (fun H locs hP hD hS => ?_)
            have hP : va_P D vwCl (kX7 T h a v ++ kX9 T hw aw u2 ++ kX2 T hlw alw vlw) H := by rw [eu2]; exact hP
            have hD : va_D (va_A (kX7 T h a u ++ kX9 T hw aw uw ++ kX2 T hlw alw ulw) s.heap.size) (kX7 T h a v ++ kX9 T hw aw u2 ++ kX2 T hlw alw vlw) := by rw [eu2]; exact hD
            obtain ⟨t3, et3, hf⟩ := lett_e hf
            refine lv_iinc (v := t3) (lv' := [(5, .int t3), (0, .ref h), (1, .ref hw), (2, .ref hlw), (4, .int x4), (6, .int x6)]) hx hb dX7_pass_90 hl (k := 4) rfl (by rw [et3]; rfl) (by decide) rfl (fun ls hl => ?_)
            refine lv_goto (tgt := 37) hx hb dX7_pass_93 (by decide) ?_
            exact ih37 v u2 vlw x4 t3 _ _ _ hf hP hD hS (lv_sub hl [1, 2, 3, 4, 0] rfl)
          replace hf := ifn c1 hf
          refine lv_aload_n hx hb dX7_pass_54 rfl (lv_at hl 1 rfl) ?_
          refine va_get (D := D) (ci := 9) (v := .int (vw 4 0)) (C := RX9) (T := TX9) (N := 8) hx hb hts hinX9 hown hK.1 hP 1 rfl rfl 4 (by decide) (hts (.fieldLink RX7 41 "RopeScale$Walk" "told" "I") (List.mem_of_getElem? (i := 10) rfl)) (fun _ h9 => h9) rfl dX7_pass_55 ?_
          refine lv_iload hx hb dX7_pass_58 (lv_at hl 5 rfl) ?_
          obtain ⟨z4, hz4, hf⟩ := lett_e hf
          refine cNR (As := [.int (vw 4 0), .int x6]) (rest := []) ⟨hx, hb, hml, hown, hts⟩ (mX11_has l D T (vw 4 0) x6 z4 hz4.symm) ⟨va_cnB (host := "RopeScale") (index := 44) 2 hts gX7_pass_X11_has_n44 rfl rfl rfl (hK.2 _ (List.mem_of_getElem? (i := 16) rfl)) (hts (.initialized RX11) (List.mem_of_getElem? (i := 12) rfl)) (by decide +kernel) ⟨Nat.le_of_ble_eq_true rfl, Nat.le_of_ble_eq_true rfl⟩, (hts (.static yX11_has) (List.mem_of_getElem? (i := 11) rfl)), trivial⟩ P0 hK rfl hl.1 rfl (Nat.le_of_ble_eq_true rfl) dX7_pass_60 ⟨Nat.le_of_ble_eq_true rfl, Nat.le_of_ble_eq_true rfl⟩ hP hS (fun H locs hP hS => ?_)
          refine lv_if_eq (tgt := 74) hx hb dX7_pass_63 (by decide) (fun c5 => ?_) (fun c5 => ?_)
          · replace hf := ifp c5 hf
            obtain ⟨t6, et6, hf⟩ := lett_e hf
            refine lv_iinc (v := t6) (lv' := [(6, .int t6), (0, .ref h), (1, .ref hw), (2, .ref hlw), (4, .int x4), (5, .int x5)]) hx hb dX7_pass_74 hl (k := 5) rfl (by rw [et6]; rfl) (by decide) rfl (fun ls hl => ?_)
            refine lv_goto (tgt := 47) hx hb dX7_pass_77 (by decide) ?_
            exact ih47 v vw vlw x4 x5 t6 _ _ _ hf hP hD hS (lv_sub hl [1, 2, 3, 4, 5, 0] rfl)
          replace hf := ifn c5 hf
          refine lv_aload_n hx hb dX7_pass_66 rfl (lv_at hl 0 rfl) ?_
          refine lv_aload_n hx hb dX7_pass_67 rfl (lv_at hl 1 rfl) ?_
          refine lv_aload_n hx hb dX7_pass_68 rfl (lv_at hl 2 rfl) ?_
          refine lv_iload hx hb dX7_pass_69 (lv_at hl 5 rfl) ?_
          obtain ⟨z7, hz7, hf⟩ := bnd hf
          have hFc9 := vaA_self hD hS hA
          refine cVMv (As := [.ref hw, .ref hlw, .int x6]) (rest := []) ⟨hx, hb, hml, hown, hts⟩ (mX7_visit l D T h a v hw aw vw hlw alw vlw _ x6 z7 hz7) (cwV 3 hts gX7_pass_X7_visit rfl rfl rfl (by decide +kernel) ⟨Nat.le_of_ble_eq_true rfl, Nat.le_of_ble_eq_true rfl⟩) (va_recv hK.1 hP (ci := 7) (q0 := 0) rfl rfl) hP hK rfl hl.1 rfl (Nat.le_of_ble_eq_true rfl) dX7_pass_71 ⟨Nat.le_of_ble_eq_true rfl, Nat.le_of_ble_eq_true rfl⟩ hD hFc9 hS (fun H locs hP hD1 _ hS => ?_)
          have hD := hD1.weaken (fun _ _ _ h9 => hFc9 _ h9)
          obtain ⟨t8, et8, hf⟩ := lett_e hf
          refine lv_iinc (v := t8) (lv' := [(6, .int t8), (0, .ref h), (1, .ref hw), (2, .ref hlw), (4, .int x4), (5, .int x5)]) hx hb dX7_pass_74 hl (k := 5) rfl (by rw [et8]; rfl) (by decide) rfl (fun ls hl => ?_)
          refine lv_goto (tgt := 47) hx hb dX7_pass_77 (by decide) ?_
          exact ih47 z7.1 z7.2.1 z7.2.2 x4 x5 t8 _ _ _ hf hP hD hS (lv_sub hl [1, 2, 3, 4, 5, 0] rfl)
      intro v vw vlw x4 x5 H locs ls hf hP hD hS hl
      replace hf : bX7_pass_L37  (fX7_pass_L37  n37) v vw vlw x4 x5 = some res := hf
      unfold bX7_pass_L37 at hf
      refine lv_iload hx hb dX7_pass_37 (lv_at hl 4 rfl) ?_
      refine lv_iload hx hb dX7_pass_39 (lv_at hl 3 rfl) ?_
      refine lv_icmp_ge (tgt := 96) hx hb dX7_pass_41 (by decide) (fun c9 => ?_) (fun c9 => ?_)
      · replace hf := ifp c9 hf
        have e9 := Option.some.inj hf
        exact retMv hx hb hr hlocks hP hD hS (congrArg (fun z => (kX7 T h a z.1 ++ kX9 T hw aw z.2.1 ++ kX2 T hlw alw z.2.2 : va_W)) e9) dX7_pass_96
      replace hf := ifn c9 hf
      refine lv_iconst (v := 0) hx hb dX7_pass_44 (by decide) ?_
      refine lv_istore (lv' := [(6, .int 0), (0, .ref h), (1, .ref hw), (2, .ref hlw), (4, .int x4), (5, .int x5)]) hx hb dX7_pass_45 hl (by decide) rfl (fun ls hl => ?_)
      exact L47 FU v vw vlw x4 x5 0 _ _ _ hf hP hD hS (lv_sub hl [1, 2, 3, 4, 5, 0] rfl)
  unfold fX7_pass at hf
  refine lv_aload_n hx hb dX7_pass_0 rfl (lv_at hl 0 rfl) ?_
  refine lv_iconst (v := 0) hx hb dX7_pass_1 (by decide) ?_
  obtain ⟨u10, eu10, hf⟩ := lett_e hf
  refine va_put (D := D) (ci := 7) (v := .int 0) (ty := .int) (C := RX7) (T := TX7) (N := 6) hx hb hts hinX7 tyX7 tyX7_ok nmX7 hown hK.1 hP hD hS 0 rfl rfl 2 (by decide) (hts (.fieldLink RX7 18 "RopeScale$Rope" "gotOver" "I") (List.mem_of_getElem? (i := 1) rfl)) (fun _ h9 => h9) rfl (tyX7_ok 2 (by decide)) rfl rfl (Nat.le_of_ble_eq_true rfl) dX7_pass_2 (fun H locs hP hD hS => ?_)
  have hP : va_P D vwCl (kX7 T h a u10 ++ kX9 T hw aw uw ++ kX2 T hlw alw ulw) H := by rw [eu10]; exact hP
  have hD : va_D (va_A (kX7 T h a u ++ kX9 T hw aw uw ++ kX2 T hlw alw ulw) s.heap.size) (kX7 T h a u10 ++ kX9 T hw aw uw ++ kX2 T hlw alw ulw) := by rw [eu10]; exact hD
  refine lv_aload_n hx hb dX7_pass_5 rfl (lv_at hl 0 rfl) ?_
  refine lv_iconst (v := 0) hx hb dX7_pass_6 (by decide) ?_
  obtain ⟨u11, eu11, hf⟩ := lett_e hf
  refine va_put (D := D) (ci := 7) (v := .int 0) (ty := .int) (C := RX7) (T := TX7) (N := 6) hx hb hts hinX7 tyX7 tyX7_ok nmX7 hown hK.1 hP hD hS 0 rfl rfl 3 (by decide) (hts (.fieldLink RX7 21 "RopeScale$Rope" "baths" "I") (List.mem_of_getElem? (i := 2) rfl)) (fun _ h9 => h9) rfl (tyX7_ok 3 (by decide)) rfl rfl (Nat.le_of_ble_eq_true rfl) dX7_pass_7 (fun H locs hP hD hS => ?_)
  have hP : va_P D vwCl (kX7 T h a u11 ++ kX9 T hw aw uw ++ kX2 T hlw alw ulw) H := by rw [eu11]; exact hP
  have hD : va_D (va_A (kX7 T h a u ++ kX9 T hw aw uw ++ kX2 T hlw alw ulw) s.heap.size) (kX7 T h a u11 ++ kX9 T hw aw uw ++ kX2 T hlw alw ulw) := by rw [eu11]; exact hD
  refine lv_aload_n hx hb dX7_pass_10 rfl (lv_at hl 0 rfl) ?_
  refine lv_iconst (v := 0) hx hb dX7_pass_11 (by decide) ?_
  obtain ⟨u12, eu12, hf⟩ := lett_e hf
  refine va_put (D := D) (ci := 7) (v := .int 0) (ty := .int) (C := RX7) (T := TX7) (N := 6) hx hb hts hinX7 tyX7 tyX7_ok nmX7 hown hK.1 hP hD hS 0 rfl rfl 4 (by decide) (hts (.fieldLink RX7 24 "RopeScale$Rope" "flung" "I") (List.mem_of_getElem? (i := 3) rfl)) (fun _ h9 => h9) rfl (tyX7_ok 4 (by decide)) rfl rfl (Nat.le_of_ble_eq_true rfl) dX7_pass_12 (fun H locs hP hD hS => ?_)
  have hP : va_P D vwCl (kX7 T h a u12 ++ kX9 T hw aw uw ++ kX2 T hlw alw ulw) H := by rw [eu12]; exact hP
  have hD : va_D (va_A (kX7 T h a u ++ kX9 T hw aw uw ++ kX2 T hlw alw ulw) s.heap.size) (kX7 T h a u12 ++ kX9 T hw aw uw ++ kX2 T hlw alw ulw) := by rw [eu12]; exact hD
  refine lv_aload_n hx hb dX7_pass_15 rfl (lv_at hl 0 rfl) ?_
  refine lv_iconst (v := 0) hx hb dX7_pass_16 (by decide) ?_
  obtain ⟨u13, eu13, hf⟩ := lett_e hf
  refine va_put (D := D) (ci := 7) (v := .int 0) (ty := .int) (C := RX7) (T := TX7) (N := 6) hx hb hts hinX7 tyX7 tyX7_ok nmX7 hown hK.1 hP hD hS 0 rfl rfl 5 (by decide) (hts (.fieldLink RX7 27 "RopeScale$Rope" "toes" "I") (List.mem_of_getElem? (i := 4) rfl)) (fun _ h9 => h9) rfl (tyX7_ok 5 (by decide)) rfl rfl (Nat.le_of_ble_eq_true rfl) dX7_pass_17 (fun H locs hP hD hS => ?_)
  have hP : va_P D vwCl (kX7 T h a u13 ++ kX9 T hw aw uw ++ kX2 T hlw alw ulw) H := by rw [eu13]; exact hP
  have hD : va_D (va_A (kX7 T h a u ++ kX9 T hw aw uw ++ kX2 T hlw alw ulw) s.heap.size) (kX7 T h a u13 ++ kX9 T hw aw uw ++ kX2 T hlw alw ulw) := by rw [eu13]; exact hD
  refine lv_iload_n hx hb dX7_pass_20 rfl (lv_at hl 3 rfl) ?_
  refine lv_sipush (v := 9999) hx hb dX7_pass_21 (by decide) ?_
  refine lv_aload_n hx hb dX7_pass_24 rfl (lv_at hl 1 rfl) ?_
  refine va_get (D := D) (ci := 9) (v := .int (uw 6 0)) (C := RX9) (T := TX9) (N := 8) hx hb hts hinX9 hown hK.1 hP 1 rfl rfl 6 (by decide) (hts (.fieldLink RX7 30 "RopeScale$Walk" "hour" "I") (List.mem_of_getElem? (i := 5) rfl)) (fun _ h9 => h9) rfl dX7_pass_25 ?_
  refine lv_isub hx hb dX7_pass_28 ?_
  refine mmin hx hb (hml.trans hl.1.symm) hown (hts (.methodLink RX7 35 Lib.Math.min.name) (List.mem_of_getElem? (i := 6) rfl)) (hts (.static Lib.Math.min.name) (List.mem_of_getElem? (i := 7) rfl)) (hts (.initialized "java/lang/Math") (List.mem_of_getElem? (i := 8) rfl)) (hts (.code Lib.Math.min.name Lib.Math.min.code 2 (some .int)) (List.mem_of_getElem? (i := 9) rfl)) (Nat.le_of_ble_eq_true rfl) (Nat.le_of_ble_eq_true rfl) (Nat.le_of_ble_eq_true rfl) (Nat.le_of_ble_eq_true rfl) dX7_pass_29 ?_
  obtain ⟨t14, et14, hf⟩ := lett_e hf
  refine lv_eqi et14 ?_
  refine lv_istore (lv' := [(4, .int t14), (0, .ref h), (1, .ref hw), (2, .ref hlw), (3, .int p3)]) hx hb dX7_pass_32 hl (by decide) rfl (fun ls hl => ?_)
  refine lv_iconst (v := 0) hx hb dX7_pass_34 (by decide) ?_
  refine lv_istore (lv' := [(5, .int 0), (4, .int t14), (0, .ref h), (1, .ref hw), (2, .ref hlw), (3, .int p3)]) hx hb dX7_pass_35 hl (by decide) rfl (fun ls hl => ?_)
  exact L37 FU u13 uw ulw t14 0 _ _ _ hf hP hD hS (lv_sub hl [2, 3, 4, 1, 0] rfl)
def fX8_hasRoom  (u : St)  : (Int32) := if 260 < ((u 1 0) + 20) then 0 else 1
set_option maxHeartbeats 4000000 in
set_option maxRecDepth 100000 in
theorem mX8_hasRoom (l : Launch) (D : va_G) (T : Ty3) (h : Nat) (a : Nat → Nat) (u : St)  (res : Int32) (hf : fX8_hasRoom u = res) : Met l yX8_hasRoom wsX8_hasRoom ({ frames := 0, cells := 0, slots := 0, locals := 0 }) (PcR D T (kX8 T h a u) [.ref h]) (QR res) 0 0 noA := by
  refine Met.ofW (cc := cX8_hasRoom) (maxL := 1) (ret := (some .boolean)) (by decide) rfl ?_
  intro p e s m args below meth c s₁ B hml hv
  obtain ⟨rfl, hP, hK⟩ := hv
  have hx := B.exec
  have hb := B.bytes
  have hr := B.returns
  have hts := atoms_spec (ws := wsX8_hasRoom) B.pre
  have hown : s.vm.findClass RX8 = some m.cls := findClass_of_methodNamed B.named
  have hlocks := B.notSynchronized
  have hS : va_S noA s.heap s.heap [] := va_S.rf
  have hinX8 : ∀ w ∈ u_ws RX8 TX8 2, w ∈ wsX8_hasRoom := fun w h => List.mem_cons_of_mem _ (List.mem_append_right _ h)
  have hl := lv_entry ([.ref h]) (n := 1) (Nat.le_of_ble_eq_true rfl)
  rw [lg_entry_eq]
  generalize (lg_sl ([.ref h]) ++ List.replicate (1 - (lg_sl ([.ref h])).length) Slot.unset).toArray = ls at hl ⊢
  have hl : lv_has ls 1 [(0, .ref h)] := hl
  unfold fX8_hasRoom at hf
  refine lv_aload_n hx hb dX8_hasRoom_0 rfl (lv_at hl 0 rfl) ?_
  refine va_get (D := D) (ci := 8) (v := .int (u 1 0)) (C := RX8) (T := TX8) (N := 2) hx hb hts hinX8 hown hK.1 hP 0 rfl rfl 1 (by decide) (hts (.fieldLink RX8 15 "RopeScale$Tape" "length" "I") (List.mem_of_getElem? (i := 1) rfl)) (fun _ h9 => h9) rfl dX8_hasRoom_1 ?_
  refine lv_bipush (v := 20) hx hb dX8_hasRoom_4 (by decide) ?_
  refine lv_iadd hx hb dX8_hasRoom_6 ?_
  refine lv_sipush (v := 260) hx hb dX8_hasRoom_7 (by decide) ?_
  refine lv_icmp_gt (tgt := 17) hx hb dX8_hasRoom_10 (by decide) (fun c1 => ?_) (fun c1 => ?_)
  · replace hf := ifp c1 hf
    refine lv_iconst (v := 0) hx hb dX8_hasRoom_17 (by decide) ?_
    exact retRz hx hb hr hlocks hS rfl hf dX8_hasRoom_18
  replace hf := ifn c1 hf
  refine lv_iconst (v := 1) hx hb dX8_hasRoom_13 (by decide) ?_
  refine lv_goto (tgt := 18) hx hb dX8_hasRoom_14 (by decide) ?_
  exact retRz hx hb hr hlocks hS rfl hf dX8_hasRoom_18
def bX8_append_L3   (lp3 : St → Int32 → Int32 → Option (St)) (v : St) (x1 : Int32) (x2 : Int32) : Option (St) := if x2 < 0 then some v else if 260 ≤ (v 1 0) then some v else gd (v 1 0) 260 <| lett (st v 0 (ix (v 1 0)) ((jshr x1 x2) &&& 255)) fun u3 => lett (st u3 1 0 ((u3 1 0) + 1)) fun u4 => lett (x2 + (-8)) fun t5 => lp3 u4 x1 t5
def fX8_append_L3   : Nat → St → Int32 → Int32 → Option (St)
  | 0, _, _, _ => none
  | n + 1, v, x1, x2 => bX8_append_L3  (fX8_append_L3  n) v x1 x2
def fX8_append  (u : St) (p1 : Int32) : Option (St) := fX8_append_L3 FU u p1 24
set_option maxHeartbeats 4000000 in
set_option maxRecDepth 100000 in
theorem mX8_append (l : Launch) (D : va_G) (T : Ty3) (h : Nat) (a : Nat → Nat) (u : St) (sz : Nat) (p1 : Int32) (res : St) (hf : fX8_append u p1 = some res) : Met l yX8_append wsX8_append ({ frames := 0, cells := 0, slots := 0, locals := 0 }) (PcM D T (kX8 T h a u) sz [.ref h, .int p1]) (QMv D (kX8 T h a u) sz (kX8 T h a res)) 0 0 (va_A (kX8 T h a u) sz) := by
  refine Met.ofW (cc := cX8_append) (maxL := 3) (ret := none) (by decide) rfl ?_
  intro p e s m args below meth c s₁ B hml hv
  obtain ⟨rfl, hsz, hP, hK, hD0⟩ := hv
  have hx := B.exec
  have hb := B.bytes
  have hr := B.returns
  have hts := atoms_spec (ws := wsX8_append) B.pre
  have hown : s.vm.findClass RX8 = some m.cls := findClass_of_methodNamed B.named
  have hlocks := B.notSynchronized
  subst hsz
  have hD := hD0.self (sz := s.heap.size)
  have hA : ∀ q : Nat, s.heap.size ≤ q → va_A (kX8 T h a u) s.heap.size q := fun q h => Or.inr h
  have hS : va_S (va_A (kX8 T h a u) s.heap.size) s.heap s.heap [] := va_S.rf
  have hinX8 : ∀ w ∈ u_ws RX8 TX8 2, w ∈ wsX8_append := fun w h => List.mem_cons_of_mem _ (List.mem_append_right _ h)
  have hl := lv_entry ([.ref h, .int p1]) (n := 3) (Nat.le_of_ble_eq_true rfl)
  rw [lg_entry_eq]
  generalize (lg_sl ([.ref h, .int p1]) ++ List.replicate (3 - (lg_sl ([.ref h, .int p1])).length) Slot.unset).toArray = ls at hl ⊢
  have hl : lv_has ls 3 [(0, .ref h), (1, .int p1)] := hl
  have L3 : ∀ (n3 : Nat), ∀ (v : St) (x1 : Int32) (x2 : Int32) (H : Heap) (locs : List Loc) (ls : Array Slot), fX8_append_L3  n3 v x1 x2 = some res → va_P D vwCl (kX8 T h a v) H → va_D (va_A (kX8 T h a u) s.heap.size) (kX8 T h a v) → va_S (va_A (kX8 T h a u) s.heap.size) s.heap H locs → lv_has ls 3 [(0, .ref h), (1, .int x1), (2, .int x2)] → W p l e (headSpec wsX8_append ({ frames := 0, cells := 0, slots := 0, locals := 0 })).room s m ([.ref h, .int p1] : List Value).toArray below meth c H locs 0 0 (MQ below (QMv D (kX8 T h a u) s.heap.size (kX8 T h a res)) ([.ref h, .int p1] : List Value).toArray s 0 0 (va_A (kX8 T h a u) s.heap.size)) (F0 m 3 ls []) := by
    intro n3
    induction n3 with
    | zero => intro v x1 x2 H locs ls hf; exact nns hf
    | succ n3 ih3 =>
      intro v x1 x2 H locs ls hf hP hD hS hl
      replace hf : bX8_append_L3  (fX8_append_L3  n3) v x1 x2 = some res := hf
      unfold bX8_append_L3 at hf
      refine lv_iload_n hx hb dX8_append_3 rfl (lv_at hl 2 rfl) ?_
      refine lv_if_lt (tgt := 49) hx hb dX8_append_4 (by decide) (fun c1 => ?_) (fun c1 => ?_)
      · replace hf := ifp c1 hf
        have e9 := Option.some.inj hf
        exact retMv hx hb hr hlocks hP hD hS (congrArg (fun z => (kX8 T h a z : va_W)) e9) dX8_append_49
      replace hf := ifn c1 hf
      refine lv_aload_n hx hb dX8_append_7 rfl (lv_at hl 0 rfl) ?_
      refine va_get (D := D) (ci := 8) (v := .int (v 1 0)) (C := RX8) (T := TX8) (N := 2) hx hb hts hinX8 hown hK.1 hP 0 rfl rfl 1 (by decide) (hts (.fieldLink RX8 15 "RopeScale$Tape" "length" "I") (List.mem_of_getElem? (i := 1) rfl)) (fun _ h9 => h9) rfl dX8_append_8 ?_
      refine lv_sipush (v := 260) hx hb dX8_append_11 (by decide) ?_
      refine lv_icmp_ge (tgt := 49) hx hb dX8_append_14 (by decide) (fun c2 => ?_) (fun c2 => ?_)
      · replace hf := ifp c2 hf
        have e9 := Option.some.inj hf
        exact retMv hx hb hr hlocks hP hD hS (congrArg (fun z => (kX8 T h a z : va_W)) e9) dX8_append_49
      replace hf := ifn c2 hf
      refine lv_aload_n hx hb dX8_append_17 rfl (lv_at hl 0 rfl) ?_
      refine va_get (D := D) (ci := 8) (v := .ref (a 0)) (C := RX8) (T := TX8) (N := 2) hx hb hts hinX8 hown hK.1 hP 0 rfl rfl 0 (by decide) (hts (.fieldLink RX8 11 "RopeScale$Tape" "bytes" "[I") (List.mem_of_getElem? (i := 2) rfl)) (fun _ h9 => h9) rfl dX8_append_18 ?_
      refine lv_aload_n hx hb dX8_append_21 rfl (lv_at hl 0 rfl) ?_
      refine va_get (D := D) (ci := 8) (v := .int (v 1 0)) (C := RX8) (T := TX8) (N := 2) hx hb hts hinX8 hown hK.1 hP 0 rfl rfl 1 (by decide) (hts (.fieldLink RX8 15 "RopeScale$Tape" "length" "I") (List.mem_of_getElem? (i := 1) rfl)) (fun _ h9 => h9) rfl dX8_append_22 ?_
      refine lv_iload_n hx hb dX8_append_25 rfl (lv_at hl 1 rfl) ?_
      refine lv_iload_n hx hb dX8_append_26 rfl (lv_at hl 2 rfl) ?_
      refine lv_ishr hx hb dX8_append_27 ?_
      refine lv_sipush (v := 255) hx hb dX8_append_28 (by decide) ?_
      refine lv_iand hx hb dX8_append_31 ?_
      obtain ⟨h6, hf⟩ := gd_e hf
      obtain ⟨u3, eu3, hf⟩ := lett_e hf
      refine va_iast hx hb hK.1 hP hD hS 1 0 rfl rfl h6 dX8_append_32 (fun H locs hP hD hS => ?_)
      have hP : va_P D vwCl (kX8 T h a u3) H := by rw [eu3]; exact hP
      have hD : va_D (va_A (kX8 T h a u) s.heap.size) (kX8 T h a u3) := by rw [eu3]; exact hD
      refine lv_aload_n hx hb dX8_append_33 rfl (lv_at hl 0 rfl) ?_
      refine lv_dup hx hb dX8_append_34 rfl ?_
      refine va_get (D := D) (ci := 8) (v := .int (u3 1 0)) (C := RX8) (T := TX8) (N := 2) hx hb hts hinX8 hown hK.1 hP 0 rfl rfl 1 (by decide) (hts (.fieldLink RX8 15 "RopeScale$Tape" "length" "I") (List.mem_of_getElem? (i := 1) rfl)) (fun _ h9 => h9) rfl dX8_append_35 ?_
      refine lv_iconst (v := 1) hx hb dX8_append_38 (by decide) ?_
      refine lv_iadd hx hb dX8_append_39 ?_
      obtain ⟨u4, eu4, hf⟩ := lett_e hf
      refine va_put (D := D) (ci := 8) (v := .int ((u3 1 0) + 1)) (ty := .int) (C := RX8) (T := TX8) (N := 2) hx hb hts hinX8 tyX8 tyX8_ok nmX8 hown hK.1 hP hD hS 0 rfl rfl 1 (by decide) (hts (.fieldLink RX8 15 "RopeScale$Tape" "length" "I") (List.mem_of_getElem? (i := 1) rfl)) (fun _ h9 => h9) rfl (tyX8_ok 1 (by decide)) rfl rfl (Nat.le_of_ble_eq_true rfl) dX8_append_40 (fun H locs hP hD hS => ?_)
      have hP : va_P D vwCl (kX8 T h a u4) H := by rw [eu4]; exact hP
      have hD : va_D (va_A (kX8 T h a u) s.heap.size) (kX8 T h a u4) := by rw [eu4]; exact hD
      obtain ⟨t5, et5, hf⟩ := lett_e hf
      refine lv_iinc (v := t5) (lv' := [(2, .int t5), (0, .ref h), (1, .int x1)]) hx hb dX8_append_43 hl (k := 2) rfl (by rw [et5]; rfl) (by decide) rfl (fun ls hl => ?_)
      refine lv_goto (tgt := 3) hx hb dX8_append_46 (by decide) ?_
      exact ih3 u4 x1 t5 _ _ _ hf hP hD hS (lv_sub hl [1, 2, 0] rfl)
  unfold fX8_append at hf
  refine lv_bipush (v := 24) hx hb dX8_append_0 (by decide) ?_
  refine lv_istore_n (lv' := [(2, .int 24), (0, .ref h), (1, .int p1)]) hx hb dX8_append_2 rfl hl (by decide) rfl (fun ls hl => ?_)
  exact L3 FU u p1 24 _ _ _ hf hP hD hS (lv_sub hl [1, 2, 0] rfl)
def fX8_offers  (u : St) (p1 : Int32) (p2 : Int32) (p3 : Int32) : (Int32) := lett (fX11_isWithin p1 p2 p3) fun z1 => if z1 = 0 then 0 else if (u 1 0) < p1 then 0 else 1
set_option maxHeartbeats 4000000 in
set_option maxRecDepth 100000 in
theorem mX8_offers (l : Launch) (D : va_G) (T : Ty3) (h : Nat) (a : Nat → Nat) (u : St) (p1 : Int32) (p2 : Int32) (p3 : Int32) (res : Int32) (hf : fX8_offers u p1 p2 p3 = res) : Met l yX8_offers wsX8_offers ({ frames := 1, cells := 0, slots := 0, locals := 22 }) (PcR D T (kX8 T h a u) [.ref h, .int p1, .int p2, .int p3]) (QR res) 0 0 noA := by
  refine Met.ofW (cc := cX8_offers) (maxL := 4) (ret := (some .boolean)) (by decide) rfl ?_
  intro p e s m args below meth c s₁ B hml hv
  obtain ⟨rfl, hP, hK⟩ := hv
  have hx := B.exec
  have hb := B.bytes
  have hr := B.returns
  have hts := atoms_spec (ws := wsX8_offers) B.pre
  have hown : s.vm.findClass RX8 = some m.cls := findClass_of_methodNamed B.named
  have hlocks := B.notSynchronized
  have hS : va_S noA s.heap s.heap [] := va_S.rf
  have hinX8 : ∀ w ∈ u_ws RX8 TX8 2, w ∈ wsX8_offers := fun w h => List.mem_cons_of_mem _ (List.mem_append_right _ h)
  have hl := lv_entry ([.ref h, .int p1, .int p2, .int p3]) (n := 4) (Nat.le_of_ble_eq_true rfl)
  rw [lg_entry_eq]
  generalize (lg_sl ([.ref h, .int p1, .int p2, .int p3]) ++ List.replicate (4 - (lg_sl ([.ref h, .int p1, .int p2, .int p3])).length) Slot.unset).toArray = ls at hl ⊢
  have hl : lv_has ls 4 [(0, .ref h), (1, .int p1), (2, .int p2), (3, .int p3)] := hl
  unfold fX8_offers at hf
  refine lv_iload_n hx hb dX8_offers_0 rfl (lv_at hl 1 rfl) ?_
  refine lv_iload_n hx hb dX8_offers_1 rfl (lv_at hl 2 rfl) ?_
  refine lv_iload_n hx hb dX8_offers_2 rfl (lv_at hl 3 rfl) ?_
  obtain ⟨z1, hz1, hf⟩ := lett_e hf
  refine cNR (As := [.int p1, .int p2, .int p3]) (rest := []) ⟨hx, hb, hml, hown, hts⟩ (mX11_isWithin l D T p1 p2 p3 z1 hz1.symm) ⟨va_cnB (host := "RopeScale") (index := 19) 3 hts gX8_offers_X11_isWithin_n19 rfl rfl rfl (hK.2 _ (List.mem_of_getElem? (i := 9) rfl)) (hts (.initialized RX11) (List.mem_of_getElem? (i := 3) rfl)) (by decide +kernel) ⟨Nat.le_of_ble_eq_true rfl, Nat.le_of_ble_eq_true rfl⟩, (hts (.static yX11_isWithin) (List.mem_of_getElem? (i := 2) rfl)), trivial⟩ P0 hK rfl hl.1 rfl (Nat.le_of_ble_eq_true rfl) dX8_offers_3 ⟨Nat.le_of_ble_eq_true rfl, Nat.le_of_ble_eq_true rfl⟩ hP hS (fun H locs hP hS => ?_)
  refine lv_if_eq (tgt := 21) hx hb dX8_offers_6 (by decide) (fun c2 => ?_) (fun c2 => ?_)
  · replace hf := ifp c2 hf
    refine lv_iconst (v := 0) hx hb dX8_offers_21 (by decide) ?_
    exact retRz hx hb hr hlocks hS rfl hf dX8_offers_22
  replace hf := ifn c2 hf
  refine lv_iload_n hx hb dX8_offers_9 rfl (lv_at hl 1 rfl) ?_
  refine lv_aload_n hx hb dX8_offers_10 rfl (lv_at hl 0 rfl) ?_
  refine va_get (D := D) (ci := 8) (v := .int (u 1 0)) (C := RX8) (T := TX8) (N := 2) hx hb hts hinX8 hown hK.1 hP 0 rfl rfl 1 (by decide) (hts (.fieldLink RX8 15 "RopeScale$Tape" "length" "I") (List.mem_of_getElem? (i := 1) rfl)) (fun _ h9 => h9) rfl dX8_offers_11 ?_
  refine lv_icmp_gt (tgt := 21) hx hb dX8_offers_14 (by decide) (fun c3 => ?_) (fun c3 => ?_)
  · replace hf := ifp c3 hf
    refine lv_iconst (v := 0) hx hb dX8_offers_21 (by decide) ?_
    exact retRz hx hb hr hlocks hS rfl hf dX8_offers_22
  replace hf := ifn c3 hf
  refine lv_iconst (v := 1) hx hb dX8_offers_17 (by decide) ?_
  refine lv_goto (tgt := 22) hx hb dX8_offers_18 (by decide) ?_
  exact retRz hx hb hr hlocks hS rfl hf dX8_offers_22
def fX9_copyFrom  (u : St) (uo : St)  : (St) := lett (sa u 0 (va_cpy (uo 0) (u 0) 0 0 16)) fun u1 => lett (sa u1 1 (va_cpy (uo 1) (u1 1) 0 0 16)) fun u2 => lett (sa u2 2 (va_cpy (uo 2) (u2 2) 0 0 16)) fun u3 => lett (sa u3 3 (va_cpy (uo 3) (u3 3) 0 0 16)) fun u4 => lett (st u4 4 0 (uo 4 0)) fun u5 => lett (st u5 5 0 (uo 5 0)) fun u6 => lett (st u6 6 0 (uo 6 0)) fun u7 => lett (st u7 7 0 (uo 7 0)) fun u8 => u8
set_option maxHeartbeats 4000000 in
set_option maxRecDepth 100000 in
theorem mX9_copyFrom (l : Launch) (D : va_G) (T : Ty3) (h : Nat) (a : Nat → Nat) (u : St) (ho : Nat) (ao : Nat → Nat) (uo : St) (sz : Nat)  (res : St) (hf : fX9_copyFrom u uo = res) : Met l yX9_copyFrom wsX9_copyFrom ({ frames := 1, cells := 0, slots := 0, locals := 40 }) (PcM D T (kX9 T h a u ++ kX9 T ho ao uo) sz [.ref h, .ref ho]) (QMv D (kX9 T h a u ++ kX9 T ho ao uo) sz (kX9 T h a res ++ kX9 T ho ao uo)) 0 0 (va_A (kX9 T h a u ++ kX9 T ho ao uo) sz) := by
  refine Met.ofW (cc := cX9_copyFrom) (maxL := 2) (ret := none) (by decide) rfl ?_
  intro p e s m args below meth c s₁ B hml hv
  obtain ⟨rfl, hsz, hP, hK, hD0⟩ := hv
  have hx := B.exec
  have hb := B.bytes
  have hr := B.returns
  have hts := atoms_spec (ws := wsX9_copyFrom) B.pre
  have hown : s.vm.findClass RX9 = some m.cls := findClass_of_methodNamed B.named
  have hlocks := B.notSynchronized
  subst hsz
  have hD := hD0.self (sz := s.heap.size)
  have hA : ∀ q : Nat, s.heap.size ≤ q → va_A (kX9 T h a u ++ kX9 T ho ao uo) s.heap.size q := fun q h => Or.inr h
  have hS : va_S (va_A (kX9 T h a u ++ kX9 T ho ao uo) s.heap.size) s.heap s.heap [] := va_S.rf
  have hinX9 : ∀ w ∈ u_ws RX9 TX9 8, w ∈ wsX9_copyFrom := fun w h => List.mem_cons_of_mem _ (List.mem_append_right _ h)
  have hl := lv_entry ([.ref h, .ref ho]) (n := 2) (Nat.le_of_ble_eq_true rfl)
  rw [lg_entry_eq]
  generalize (lg_sl ([.ref h, .ref ho]) ++ List.replicate (2 - (lg_sl ([.ref h, .ref ho])).length) Slot.unset).toArray = ls at hl ⊢
  have hl : lv_has ls 2 [(0, .ref h), (1, .ref ho)] := hl
  unfold fX9_copyFrom at hf
  refine lv_aload_n hx hb dX9_copyFrom_0 rfl (lv_at hl 1 rfl) ?_
  refine va_get (D := D) (ci := 9) (v := .ref (ao 0)) (C := RX9) (T := TX9) (N := 8) hx hb hts hinX9 hown hK.1 hP 5 rfl rfl 0 (by decide) (hts (.fieldLink RX9 9 "RopeScale$Walk" "weight" "[I") (List.mem_of_getElem? (i := 1) rfl)) (fun _ h9 => h9) rfl dX9_copyFrom_1 ?_
  refine lv_iconst (v := 0) hx hb dX9_copyFrom_4 (by decide) ?_
  refine lv_aload_n hx hb dX9_copyFrom_5 rfl (lv_at hl 0 rfl) ?_
  refine va_get (D := D) (ci := 9) (v := .ref (a 0)) (C := RX9) (T := TX9) (N := 8) hx hb hts hinX9 hown hK.1 hP 0 rfl rfl 0 (by decide) (hts (.fieldLink RX9 9 "RopeScale$Walk" "weight" "[I") (List.mem_of_getElem? (i := 1) rfl)) (fun _ h9 => h9) rfl dX9_copyFrom_6 ?_
  refine lv_iconst (v := 0) hx hb dX9_copyFrom_9 (by decide) ?_
  refine lv_bipush (v := 16) hx hb dX9_copyFrom_10 (by decide) ?_
  obtain ⟨u1, eu1, hf⟩ := lett_e hf
  refine va_copyi (ty := .int) hx hb (hml.trans hl.1.symm) hown (hts (.methodLink RX9 37 arraycopyName) (List.mem_of_getElem? (i := 2) rfl)) (hts (.native arraycopyName) (List.mem_of_getElem? (i := 3) rfl)) (hts (.static arraycopyName) (List.mem_of_getElem? (i := 4) rfl)) (hts (.initialized "java/lang/System") (List.mem_of_getElem? (i := 5) rfl)) hK.1 hP hD hS 6 1 0 0 rfl rfl rfl rfl rfl (by decide) (by decide) (by decide) (by decide) (by decide) (fun _ _ => rfl) (Nat.le_of_ble_eq_true rfl) (Nat.le_of_ble_eq_true rfl) dX9_copyFrom_12 (fun H locs hP hD hS => ?_)
  have hP : va_P D vwCl (kX9 T h a u1 ++ kX9 T ho ao uo) H := by rw [eu1]; exact hP
  have hD : va_D (va_A (kX9 T h a u ++ kX9 T ho ao uo) s.heap.size) (kX9 T h a u1 ++ kX9 T ho ao uo) := by rw [eu1]; exact hD
  refine lv_aload_n hx hb dX9_copyFrom_15 rfl (lv_at hl 1 rfl) ?_
  refine va_get (D := D) (ci := 9) (v := .ref (ao 1)) (C := RX9) (T := TX9) (N := 8) hx hb hts hinX9 hown hK.1 hP 5 rfl rfl 1 (by decide) (hts (.fieldLink RX9 15 "RopeScale$Walk" "claim" "[I") (List.mem_of_getElem? (i := 6) rfl)) (fun _ h9 => h9) rfl dX9_copyFrom_16 ?_
  refine lv_iconst (v := 0) hx hb dX9_copyFrom_19 (by decide) ?_
  refine lv_aload_n hx hb dX9_copyFrom_20 rfl (lv_at hl 0 rfl) ?_
  refine va_get (D := D) (ci := 9) (v := .ref (a 1)) (C := RX9) (T := TX9) (N := 8) hx hb hts hinX9 hown hK.1 hP 0 rfl rfl 1 (by decide) (hts (.fieldLink RX9 15 "RopeScale$Walk" "claim" "[I") (List.mem_of_getElem? (i := 6) rfl)) (fun _ h9 => h9) rfl dX9_copyFrom_21 ?_
  refine lv_iconst (v := 0) hx hb dX9_copyFrom_24 (by decide) ?_
  refine lv_bipush (v := 16) hx hb dX9_copyFrom_25 (by decide) ?_
  obtain ⟨u2, eu2, hf⟩ := lett_e hf
  refine va_copyi (ty := .int) hx hb (hml.trans hl.1.symm) hown (hts (.methodLink RX9 37 arraycopyName) (List.mem_of_getElem? (i := 2) rfl)) (hts (.native arraycopyName) (List.mem_of_getElem? (i := 3) rfl)) (hts (.static arraycopyName) (List.mem_of_getElem? (i := 4) rfl)) (hts (.initialized "java/lang/System") (List.mem_of_getElem? (i := 5) rfl)) hK.1 hP hD hS 7 2 0 0 rfl rfl rfl rfl rfl (by decide) (by decide) (by decide) (by decide) (by decide) (fun _ _ => rfl) (Nat.le_of_ble_eq_true rfl) (Nat.le_of_ble_eq_true rfl) dX9_copyFrom_27 (fun H locs hP hD hS => ?_)
  have hP : va_P D vwCl (kX9 T h a u2 ++ kX9 T ho ao uo) H := by rw [eu2]; exact hP
  have hD : va_D (va_A (kX9 T h a u ++ kX9 T ho ao uo) s.heap.size) (kX9 T h a u2 ++ kX9 T ho ao uo) := by rw [eu2]; exact hD
  refine lv_aload_n hx hb dX9_copyFrom_30 rfl (lv_at hl 1 rfl) ?_
  refine va_get (D := D) (ci := 9) (v := .ref (ao 2)) (C := RX9) (T := TX9) (N := 8) hx hb hts hinX9 hown hK.1 hP 5 rfl rfl 2 (by decide) (hts (.fieldLink RX9 18 "RopeScale$Walk" "baths" "[I") (List.mem_of_getElem? (i := 7) rfl)) (fun _ h9 => h9) rfl dX9_copyFrom_31 ?_
  refine lv_iconst (v := 0) hx hb dX9_copyFrom_34 (by decide) ?_
  refine lv_aload_n hx hb dX9_copyFrom_35 rfl (lv_at hl 0 rfl) ?_
  refine va_get (D := D) (ci := 9) (v := .ref (a 2)) (C := RX9) (T := TX9) (N := 8) hx hb hts hinX9 hown hK.1 hP 0 rfl rfl 2 (by decide) (hts (.fieldLink RX9 18 "RopeScale$Walk" "baths" "[I") (List.mem_of_getElem? (i := 7) rfl)) (fun _ h9 => h9) rfl dX9_copyFrom_36 ?_
  refine lv_iconst (v := 0) hx hb dX9_copyFrom_39 (by decide) ?_
  refine lv_bipush (v := 16) hx hb dX9_copyFrom_40 (by decide) ?_
  obtain ⟨u3, eu3, hf⟩ := lett_e hf
  refine va_copyi (ty := .int) hx hb (hml.trans hl.1.symm) hown (hts (.methodLink RX9 37 arraycopyName) (List.mem_of_getElem? (i := 2) rfl)) (hts (.native arraycopyName) (List.mem_of_getElem? (i := 3) rfl)) (hts (.static arraycopyName) (List.mem_of_getElem? (i := 4) rfl)) (hts (.initialized "java/lang/System") (List.mem_of_getElem? (i := 5) rfl)) hK.1 hP hD hS 8 3 0 0 rfl rfl rfl rfl rfl (by decide) (by decide) (by decide) (by decide) (by decide) (fun _ _ => rfl) (Nat.le_of_ble_eq_true rfl) (Nat.le_of_ble_eq_true rfl) dX9_copyFrom_42 (fun H locs hP hD hS => ?_)
  have hP : va_P D vwCl (kX9 T h a u3 ++ kX9 T ho ao uo) H := by rw [eu3]; exact hP
  have hD : va_D (va_A (kX9 T h a u ++ kX9 T ho ao uo) s.heap.size) (kX9 T h a u3 ++ kX9 T ho ao uo) := by rw [eu3]; exact hD
  refine lv_aload_n hx hb dX9_copyFrom_45 rfl (lv_at hl 1 rfl) ?_
  refine va_get (D := D) (ci := 9) (v := .ref (ao 3)) (C := RX9) (T := TX9) (N := 8) hx hb hts hinX9 hown hK.1 hP 5 rfl rfl 3 (by decide) (hts (.fieldLink RX9 21 "RopeScale$Walk" "hurt" "[I") (List.mem_of_getElem? (i := 8) rfl)) (fun _ h9 => h9) rfl dX9_copyFrom_46 ?_
  refine lv_iconst (v := 0) hx hb dX9_copyFrom_49 (by decide) ?_
  refine lv_aload_n hx hb dX9_copyFrom_50 rfl (lv_at hl 0 rfl) ?_
  refine va_get (D := D) (ci := 9) (v := .ref (a 3)) (C := RX9) (T := TX9) (N := 8) hx hb hts hinX9 hown hK.1 hP 0 rfl rfl 3 (by decide) (hts (.fieldLink RX9 21 "RopeScale$Walk" "hurt" "[I") (List.mem_of_getElem? (i := 8) rfl)) (fun _ h9 => h9) rfl dX9_copyFrom_51 ?_
  refine lv_iconst (v := 0) hx hb dX9_copyFrom_54 (by decide) ?_
  refine lv_bipush (v := 16) hx hb dX9_copyFrom_55 (by decide) ?_
  obtain ⟨u4, eu4, hf⟩ := lett_e hf
  refine va_copyi (ty := .int) hx hb (hml.trans hl.1.symm) hown (hts (.methodLink RX9 37 arraycopyName) (List.mem_of_getElem? (i := 2) rfl)) (hts (.native arraycopyName) (List.mem_of_getElem? (i := 3) rfl)) (hts (.static arraycopyName) (List.mem_of_getElem? (i := 4) rfl)) (hts (.initialized "java/lang/System") (List.mem_of_getElem? (i := 5) rfl)) hK.1 hP hD hS 9 4 0 0 rfl rfl rfl rfl rfl (by decide) (by decide) (by decide) (by decide) (by decide) (fun _ _ => rfl) (Nat.le_of_ble_eq_true rfl) (Nat.le_of_ble_eq_true rfl) dX9_copyFrom_57 (fun H locs hP hD hS => ?_)
  have hP : va_P D vwCl (kX9 T h a u4 ++ kX9 T ho ao uo) H := by rw [eu4]; exact hP
  have hD : va_D (va_A (kX9 T h a u ++ kX9 T ho ao uo) s.heap.size) (kX9 T h a u4 ++ kX9 T ho ao uo) := by rw [eu4]; exact hD
  refine lv_aload_n hx hb dX9_copyFrom_60 rfl (lv_at hl 0 rfl) ?_
  refine lv_aload_n hx hb dX9_copyFrom_61 rfl (lv_at hl 1 rfl) ?_
  refine va_get (D := D) (ci := 9) (v := .int (uo 4 0)) (C := RX9) (T := TX9) (N := 8) hx hb hts hinX9 hown hK.1 hP 5 rfl rfl 4 (by decide) (hts (.fieldLink RX9 24 "RopeScale$Walk" "told" "I") (List.mem_of_getElem? (i := 9) rfl)) (fun _ h9 => h9) rfl dX9_copyFrom_62 ?_
  obtain ⟨u5, eu5, hf⟩ := lett_e hf
  refine va_put (D := D) (ci := 9) (v := .int (uo 4 0)) (ty := .int) (C := RX9) (T := TX9) (N := 8) hx hb hts hinX9 tyX9 tyX9_ok nmX9 hown hK.1 hP hD hS 0 rfl rfl 4 (by decide) (hts (.fieldLink RX9 24 "RopeScale$Walk" "told" "I") (List.mem_of_getElem? (i := 9) rfl)) (fun _ h9 => h9) rfl (tyX9_ok 4 (by decide)) rfl rfl (Nat.le_of_ble_eq_true rfl) dX9_copyFrom_65 (fun H locs hP hD hS => ?_)
  have hP : va_P D vwCl (kX9 T h a u5 ++ kX9 T ho ao uo) H := by rw [eu5]; exact hP
  have hD : va_D (va_A (kX9 T h a u ++ kX9 T ho ao uo) s.heap.size) (kX9 T h a u5 ++ kX9 T ho ao uo) := by rw [eu5]; exact hD
  refine lv_aload_n hx hb dX9_copyFrom_68 rfl (lv_at hl 0 rfl) ?_
  refine lv_aload_n hx hb dX9_copyFrom_69 rfl (lv_at hl 1 rfl) ?_
  refine va_get (D := D) (ci := 9) (v := .int (uo 5 0)) (C := RX9) (T := TX9) (N := 8) hx hb hts hinX9 hown hK.1 hP 5 rfl rfl 5 (by decide) (hts (.fieldLink RX9 28 "RopeScale$Walk" "over" "I") (List.mem_of_getElem? (i := 10) rfl)) (fun _ h9 => h9) rfl dX9_copyFrom_70 ?_
  obtain ⟨u6, eu6, hf⟩ := lett_e hf
  refine va_put (D := D) (ci := 9) (v := .int (uo 5 0)) (ty := .int) (C := RX9) (T := TX9) (N := 8) hx hb hts hinX9 tyX9 tyX9_ok nmX9 hown hK.1 hP hD hS 0 rfl rfl 5 (by decide) (hts (.fieldLink RX9 28 "RopeScale$Walk" "over" "I") (List.mem_of_getElem? (i := 10) rfl)) (fun _ h9 => h9) rfl (tyX9_ok 5 (by decide)) rfl rfl (Nat.le_of_ble_eq_true rfl) dX9_copyFrom_73 (fun H locs hP hD hS => ?_)
  have hP : va_P D vwCl (kX9 T h a u6 ++ kX9 T ho ao uo) H := by rw [eu6]; exact hP
  have hD : va_D (va_A (kX9 T h a u ++ kX9 T ho ao uo) s.heap.size) (kX9 T h a u6 ++ kX9 T ho ao uo) := by rw [eu6]; exact hD
  refine lv_aload_n hx hb dX9_copyFrom_76 rfl (lv_at hl 0 rfl) ?_
  refine lv_aload_n hx hb dX9_copyFrom_77 rfl (lv_at hl 1 rfl) ?_
  refine va_get (D := D) (ci := 9) (v := .int (uo 6 0)) (C := RX9) (T := TX9) (N := 8) hx hb hts hinX9 hown hK.1 hP 5 rfl rfl 6 (by decide) (hts (.fieldLink RX9 31 "RopeScale$Walk" "hour" "I") (List.mem_of_getElem? (i := 11) rfl)) (fun _ h9 => h9) rfl dX9_copyFrom_78 ?_
  obtain ⟨u7, eu7, hf⟩ := lett_e hf
  refine va_put (D := D) (ci := 9) (v := .int (uo 6 0)) (ty := .int) (C := RX9) (T := TX9) (N := 8) hx hb hts hinX9 tyX9 tyX9_ok nmX9 hown hK.1 hP hD hS 0 rfl rfl 6 (by decide) (hts (.fieldLink RX9 31 "RopeScale$Walk" "hour" "I") (List.mem_of_getElem? (i := 11) rfl)) (fun _ h9 => h9) rfl (tyX9_ok 6 (by decide)) rfl rfl (Nat.le_of_ble_eq_true rfl) dX9_copyFrom_81 (fun H locs hP hD hS => ?_)
  have hP : va_P D vwCl (kX9 T h a u7 ++ kX9 T ho ao uo) H := by rw [eu7]; exact hP
  have hD : va_D (va_A (kX9 T h a u ++ kX9 T ho ao uo) s.heap.size) (kX9 T h a u7 ++ kX9 T ho ao uo) := by rw [eu7]; exact hD
  refine lv_aload_n hx hb dX9_copyFrom_84 rfl (lv_at hl 0 rfl) ?_
  refine lv_aload_n hx hb dX9_copyFrom_85 rfl (lv_at hl 1 rfl) ?_
  refine va_get (D := D) (ci := 9) (v := .int (uo 7 0)) (C := RX9) (T := TX9) (N := 8) hx hb hts hinX9 hown hK.1 hP 5 rfl rfl 7 (by decide) (hts (.fieldLink RX9 34 "RopeScale$Walk" "x" "I") (List.mem_of_getElem? (i := 12) rfl)) (fun _ h9 => h9) rfl dX9_copyFrom_86 ?_
  obtain ⟨u8, eu8, hf⟩ := lett_e hf
  refine va_put (D := D) (ci := 9) (v := .int (uo 7 0)) (ty := .int) (C := RX9) (T := TX9) (N := 8) hx hb hts hinX9 tyX9 tyX9_ok nmX9 hown hK.1 hP hD hS 0 rfl rfl 7 (by decide) (hts (.fieldLink RX9 34 "RopeScale$Walk" "x" "I") (List.mem_of_getElem? (i := 12) rfl)) (fun _ h9 => h9) rfl (tyX9_ok 7 (by decide)) rfl rfl (Nat.le_of_ble_eq_true rfl) dX9_copyFrom_89 (fun H locs hP hD hS => ?_)
  have hP : va_P D vwCl (kX9 T h a u8 ++ kX9 T ho ao uo) H := by rw [eu8]; exact hP
  have hD : va_D (va_A (kX9 T h a u ++ kX9 T ho ao uo) s.heap.size) (kX9 T h a u8 ++ kX9 T ho ao uo) := by rw [eu8]; exact hD
  have e9 := hf
  exact retMv hx hb hr hlocks hP hD hS (congrArg (fun z => (kX9 T h a z ++ kX9 T ho ao uo : va_W)) e9) dX9_copyFrom_92
