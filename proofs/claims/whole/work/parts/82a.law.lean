section LAW1
variable {D : va_G} {A : Nat → Prop} {H H0 : Heap}
theorem free_left {w v : va_W} {locs9 : List Loc} (hD : va_D A (w ++ v)) (hS : va_S A H0 H locs9) (hA : ∀ q, H0.size ≤ q → A q) : ∀ q, va_A w H.size q → A q := by
  intro q h
  rcases h with ⟨k, e, h⟩ | h
  · exact (D_left hD).2 k (q, e) h
  · exact hA q (Nat.le_trans hS.1 h)
theorem join_left {w v w1 : va_W} {H1 : Heap} (hP : va_P D vwCl (w ++ v) H) (hD : va_D A (w ++ v)) (hk : ∀ q : Nat, q < H.size → ¬ va_A w H.size q → H1[q]? = H[q]?) (hF : ∀ q, va_A w H.size q → A q) (hP1 : va_P D vwCl w1 H1) (hD1 : va_D (va_A w H.size) w1) : va_P D vwCl (w1 ++ v) H1 ∧ va_D A (w1 ++ v) := by
  have key : ∀ (k : Nat) (q : Nat × va_E), v[k]? = some q → q.1 < H.size ∧ ¬ va_A w H.size q.1 := by
    intro k q hq
    have hl := (P_right hP k q hq).lt
    refine ⟨hl, fun h => ?_⟩
    rcases h with ⟨k2, e, h⟩ | h
    · exact D_apart hD h hq rfl
    · omega
  refine ⟨va_P.app hP1 (fun k q hq => ((P_right hP) k q hq).kept (hk q.1 (key k q hq).1 (key k q hq).2)), va_D.app (hD1.weaken (fun k q _ h => hF q.1 h)) (D_right hD) (fun i j x y hx hy hxy => ?_)⟩
  exact (key j y hy).2 (by rw [← hxy]; exact hD1.2 i x hx)
end LAW1
section LAW2
variable {p : Program} {l : Launch} {e : Env} {R : Room} {s : State} {m : MethodId} {args : Array Value} {below : List Frame} {meth : Method} {c : Code} {H : Heap} {locs : List Loc} {cells slots : Nat} {Q : State → Prop}
variable {cc : ByteArray} {pc : Nat} {ls : Array Slot} {rest st0 : List Value} {D : va_G} {T : Ty3} {A : Nat → Prop} {kv : (Nat → Nat) × (Nat → Nat)}
variable {Ts : List Cond} {own C host : String} {index nL n maxL : Nat} {y : MethodName} {bytes : ByteArray} {ret : Option FieldType} {ws : List Cond} {rm : Room} {wc w1 wsC : va_W} {b : Addr} {As : List Value} {r : Int32}
theorem cVMe {F : (Nat → Nat) → (Nat → Nat → Nat) → va_W} (S : CallFix p m c cc nL s args Ts own) (hM : Met l y ws rm (PcM D T wc H.size (.ref b :: As)) (QMe D wc H.size r F) 0 0 (va_A wc H.size)) (cw : CallW R s args own C index y bytes maxL ret ws rm 0 0 n) (hrec : ∃ cell : Cell, H[b]? = some cell ∧ cell.vm.isStatics = false ∧ s.vm.findClass C = some cell.cls) (hPc : va_P D vwCl wc H) (hK : cK D T s) (hn : As.length = n) (hsize : ls.size = nL) (hst : st0 = As.reverse ++ .ref b :: rest) (hW : (rest.map fun v => v.category).sum ≤ 8) (hdg : decode cc pc = .ok (.invokevirtual index, 3)) (hf : cells + 0 ≤ R.cells ∧ slots + 0 ≤ R.slots) (hDc : va_D A wc) (hFc : ∀ q, va_A wc H.size q → A q) (hS : va_S A s.heap H locs)
    (kk : ∀ (a : Nat → Nat) (aa : Nat → Nat → Nat) (H1 : Heap) (locs1 : List Loc), va_P D vwCl (F a aa) H1 → va_D (va_A wc H.size) (F a aa) → (∀ q : Nat, q < H.size → ¬ va_A wc H.size q → H1[q]? = H[q]?) → va_S A s.heap H1 locs1 → W p l e R s m args below meth c H1 locs1 cells slots Q (F0 m (pc + 3) ls (.int r :: rest))) : W p l e R s m args below meth c H locs cells slots Q (F0 m pc ls st0) := by
  subst hst
  refine va_calli (va_runV S hM cw ⟨PcM.fb, hrec, fun U hU hWm => ⟨rfl, by rw [hU], by rw [hU]; exact hPc, hK.warm hWm, hDc.weaken (fun _ _ _ _ => trivial)⟩⟩ rfl hn hsize rfl (lv_room hW) hdg hf) hS (fun q _ h => hFc q h) hFc (fun r' u t H1 locs1 ht hvm hw hB hz1 hk1 hS1 => ?_)
  cases hw
  obtain ⟨a, aa, hB⟩ := hB
  rw [ht] at hB
  exact kk a aa H1 locs1 hB.1 hB.2 hk1 hS1

theorem cVMeS {F : (Nat → Nat) → (Nat → Nat → Nat) → va_W} (S : CallFix p m c cc nL s args Ts own) (hM : Met l y ws rm (PcMS D T kv wc H.size (.ref b :: As)) (QMe D wc H.size r F) 0 0 (va_A wc H.size)) (cw : CallW R s args own C index y bytes maxL ret ws rm 0 0 n) (hrec : ∃ cell : Cell, H[b]? = some cell ∧ cell.vm.isStatics = false ∧ s.vm.findClass C = some cell.cls) (hPc : va_P D vwCl wc H) (hK : cK D T s) (hn : As.length = n) (hsize : ls.size = nL) (hst : st0 = As.reverse ++ .ref b :: rest) (hW : (rest.map fun v => v.category).sum ≤ 8) (hdg : decode cc pc = .ok (.invokevirtual index, 3)) (hf : cells + 0 ≤ R.cells ∧ slots + 0 ≤ R.slots) (hDc : va_D A wc) (hFc : ∀ q, va_A wc H.size q → A q) (hE : sK A kv s s.heap) (hS : va_S A s.heap H locs)
    (kk : ∀ (a : Nat → Nat) (aa : Nat → Nat → Nat) (H1 : Heap) (locs1 : List Loc), va_P D vwCl (F a aa) H1 → va_D (va_A wc H.size) (F a aa) → (∀ q : Nat, q < H.size → ¬ va_A wc H.size q → H1[q]? = H[q]?) → va_S A s.heap H1 locs1 → W p l e R s m args below meth c H1 locs1 cells slots Q (F0 m (pc + 3) ls (.int r :: rest))) : W p l e R s m args below meth c H locs cells slots Q (F0 m pc ls st0) := by
  subst hst
  refine va_calli (va_runV S hM cw ⟨PcMS.fb, hrec, fun U hU hWm => ⟨rfl, by rw [hU], by rw [hU]; exact hPc, hK.warm hWm, hDc.weaken (fun _ _ _ _ => trivial), by rw [hU]; exact ((hE.kept hS.2.1).narrow hFc).warm hWm⟩⟩ rfl hn hsize rfl (lv_room hW) hdg hf) hS (fun q _ h => hFc q h) hFc (fun r' u t H1 locs1 ht hvm hw hB hz1 hk1 hS1 => ?_)
  cases hw
  obtain ⟨a, aa, hB⟩ := hB
  rw [ht] at hB
  exact kk a aa H1 locs1 hB.1 hB.2 hk1 hS1
end LAW2
theorem recM {D : va_G} {T : Ty3} {s : State} {w : va_W} {hm : Nat} {am : Nat → Nat} {v : St} {H : Heap} (hK : cK D T s) (hP : va_P D vwCl (w ++ kX12 T hm am v) H) : ∃ cell : Cell, H[hm]? = some cell ∧ cell.vm.isStatics = false ∧ s.vm.findClass RX12 = some cell.cls := va_recv hK.1 (P_right hP) (ci := 12) (q0 := 0) rfl rfl
set_option maxHeartbeats 4000000 in
set_option maxRecDepth 100000 in
theorem lc_walker {p : Program} {e : Env} {s : State} {m : MethodId} {below : List Frame} {meth : Method} {c : Code} (l : Launch) {b L : Nat} {xs : Nat → Int32} {D : va_G} {T : Ty3} {kv : (Nat → Nat) × (Nat → Nat)} (hL : L ≤ 3072) (hx : p.tables.exec = Jvm.exec) (hb : c.code = cL_law) (hml : c.maxLocals = 4) (hown : s.vm.findClass RL = some m.cls) (hts : ∀ w ∈ lw_tbl, w.before #[Value.ref b] s = true) (hX : va_X b L xs s s.heap) (hbl : b < s.heap.size) (hK : cK D T s) (hE : sK (fun q : Nat => s.heap.size ≤ q) kv s s.heap) {i : Int32} {j : Nat} (hi : i = nI j) (hj : j + 6 ≤ L) {h hm : Nat} {a am : Nat → Nat} {aa : Nat → Nat → Nat} {g : Nat → St} {w : Nat → Int64} {v : St} {H : Heap} {locs : List Loc} {ls : Array Slot} (hRel : Rel g v) (hP : va_P D vwCl (WG T h a aa g w ++ kX12 T hm am v) H) (hD : va_D (fun q : Nat => s.heap.size ≤ q) (WG T h a aa g w ++ kX12 T hm am v)) (hS : va_S (fun q : Nat => s.heap.size ≤ q) s.heap H locs) (hl : lv_has ls 4 [(0, .ref b), (1, .ref h), (2, .ref hm), (3, .int i)]) (kk : ∀ (a' : Nat → Nat) (aa' : Nat → Nat → Nat) (g' : Nat → St) (w' : Nat → Int64) (v' : St) (H' : Heap) (locs' : List Loc) (ls' : Array Slot), Rel g' v' → va_P D vwCl (WG T h a' aa' g' w' ++ kX12 T hm am v') H' → va_D (fun q : Nat => s.heap.size ≤ q) (WG T h a' aa' g' w' ++ kX12 T hm am v') → va_S (fun q : Nat => s.heap.size ≤ q) s.heap H' locs' → lv_has ls' 4 [(0, .ref b), (1, .ref h), (2, .ref hm), (3, .int i)] → W p l e room_1 s m #[Value.ref b] below meth c H' locs' 96 13112 (lw_Z below #[Value.ref b] s) (F0 m 1070 ls' [])) : W p l e room_1 s m #[Value.ref b] below meth c H locs 96 13112 (lw_Z below #[Value.ref b] s) (F0 m 168 ls []) := by
  have hA : ∀ q : Nat, s.heap.size ≤ q → (fun q : Nat => s.heap.size ≤ q) q := fun _ h => h
  have hbA : ¬ (fun q : Nat => s.heap.size ≤ q) b := Nat.not_le.mpr hbl
  have hq1 : vp_in (i + 1) L := by rw [hi, show (1 : Int32) = nI 1 from rfl, nI_add]; exact vp_in_nI (by omega) (by omega)
  have hq2 : vp_in (i + 2) L := by rw [hi, show (2 : Int32) = nI 2 from rfl, nI_add]; exact vp_in_nI (by omega) (by omega)
  refine lv_aload_n hx hb dL_law_168 rfl (lv_at hl 1 rfl) ?_
  refine lv_aload_n hx hb dL_law_169 rfl (lv_at hl 0 rfl) ?_
  refine lv_iload_n hx hb dL_law_170 rfl (lv_at hl 3 rfl) ?_
  refine lv_iconst (v := 1) hx hb dL_law_171 (by decide) ?_
  refine lv_iadd hx hb dL_law_172 ?_
  refine va_sld hx hb hX hbl hbA hS hq1 dL_law_173 ?_
  refine lv_aload_n hx hb dL_law_174 rfl (lv_at hl 0 rfl) ?_
  refine lv_iload_n hx hb dL_law_175 rfl (lv_at hl 3 rfl) ?_
  refine lv_iconst (v := 2) hx hb dL_law_176 (by decide) ?_
  refine lv_iadd hx hb dL_law_177 ?_
  refine va_sld hx hb hX hbl hbA hS hq2 dL_law_178 ?_
  obtain ⟨z, y, hz, hy, he, hR⟩ := eq_walker g w v hRel (xs (ix (i + 1))) (xs (ix (i + 2))) 
  have hFc9 := free_left hD hS hA
  refine cVM (As := [.int (xs (ix (i + 1))), .int (xs (ix (i + 2)))]) (rest := []) ⟨hx, hb, hml, hown, fun w h => hts w (hv_X11_walker w h)⟩ (mX11_walker l D T aa h a (g 0) (g 1) (g 2) (g 3) (g 4) (g 5) (g 6) (g 7) (g 8) (g 9) (g 10) (g 11) w (g 13) (g 14) (g 15) (g 16) _ (xs (ix (i + 1))) (xs (ix (i + 2))) z hz) (cwV 2 (fun w h => hts w (hv_X11_walker w h)) gT_X11_walker rfl rfl rfl (by decide +kernel) ⟨Nat.le_of_ble_eq_true rfl, Nat.le_of_ble_eq_true rfl⟩) (va_recv hK.1 (P_left hP) (ci := 11) (q0 := 0) rfl rfl) (P_left hP) hK rfl hl.1 rfl (Nat.le_of_ble_eq_true rfl) dL_law_179 ⟨Nat.le_of_ble_eq_true rfl, Nat.le_of_ble_eq_true rfl⟩ (D_left hD) hFc9 hS (fun H9 locs hP1 hD1 hk1 hS => ?_)
  obtain ⟨hP, hD⟩ := join_left hP hD hk1 hFc9 hP1 hD1
  generalize H9 = H at hP hS ⊢
  have hP : va_P D vwCl (WG T h a aa (sg g 3 z.2) w ++ kX12 T hm am v) H := hP
  have hD : va_D (fun q : Nat => s.heap.size ≤ q) (WG T h a aa (sg g 3 z.2) w ++ kX12 T hm am v) := hD
  refine lv_aload_n hx hb dL_law_182 rfl (lv_at hl 2 rfl) ?_
  refine lv_aload_n hx hb dL_law_183 rfl (lv_at hl 0 rfl) ?_
  refine lv_iload_n hx hb dL_law_184 rfl (lv_at hl 3 rfl) ?_
  refine lv_iconst (v := 1) hx hb dL_law_185 (by decide) ?_
  refine lv_iadd hx hb dL_law_186 ?_
  refine va_sld hx hb hX hbl hbA hS hq1 dL_law_187 ?_
  refine lv_aload_n hx hb dL_law_188 rfl (lv_at hl 0 rfl) ?_
  refine lv_iload_n hx hb dL_law_189 rfl (lv_at hl 3 rfl) ?_
  refine lv_iconst (v := 2) hx hb dL_law_190 (by decide) ?_
  refine lv_iadd hx hb dL_law_191 ?_
  refine va_sld hx hb hX hbl hbA hS hq2 dL_law_192 ?_
  have hFc9 := free_right hD hS hA
  refine cVM (As := [.int (xs (ix (i + 1))), .int (xs (ix (i + 2)))]) (rest := [.int z.1]) ⟨hx, hb, hml, hown, fun w h => hts w (hv_X12_walker w h)⟩ (mX12_walker l D T hm am v _ (xs (ix (i + 1))) (xs (ix (i + 2))) y hy) (cwV 2 (fun w h => hts w (hv_X12_walker w h)) gT_X12_walker rfl rfl rfl (by decide +kernel) ⟨Nat.le_of_ble_eq_true rfl, Nat.le_of_ble_eq_true rfl⟩) (recM hK hP) (P_right hP) hK rfl hl.1 rfl (Nat.le_of_ble_eq_true rfl) dL_law_193 ⟨Nat.le_of_ble_eq_true rfl, Nat.le_of_ble_eq_true rfl⟩ (D_right hD) hFc9 hS (fun H9 locs hP1 hD1 hk1 hS => ?_)
  obtain ⟨hP, hD⟩ := join_right hP hD hk1 hFc9 hP1 hD1
  generalize H9 = H at hP hS ⊢
  refine lv_icmp_eq (tgt := 1070) hx hb dL_law_196 (by decide) (fun _ => ?_) (fun c9 => absurd he c9)
  exact kk a aa (sg g 3 z.2) w y.2 _ _ ls hR hP hD hS hl
set_option maxHeartbeats 4000000 in
set_option maxRecDepth 100000 in
theorem lc_rules {p : Program} {e : Env} {s : State} {m : MethodId} {below : List Frame} {meth : Method} {c : Code} (l : Launch) {b L : Nat} {xs : Nat → Int32} {D : va_G} {T : Ty3} {kv : (Nat → Nat) × (Nat → Nat)} (hL : L ≤ 3072) (hx : p.tables.exec = Jvm.exec) (hb : c.code = cL_law) (hml : c.maxLocals = 4) (hown : s.vm.findClass RL = some m.cls) (hts : ∀ w ∈ lw_tbl, w.before #[Value.ref b] s = true) (hX : va_X b L xs s s.heap) (hbl : b < s.heap.size) (hK : cK D T s) (hE : sK (fun q : Nat => s.heap.size ≤ q) kv s s.heap) {i : Int32} {j : Nat} (hi : i = nI j) (hj : j + 6 ≤ L) {h hm : Nat} {a am : Nat → Nat} {aa : Nat → Nat → Nat} {g : Nat → St} {w : Nat → Int64} {v : St} {H : Heap} {locs : List Loc} {ls : Array Slot} (hRel : Rel g v) (hP : va_P D vwCl (WG T h a aa g w ++ kX12 T hm am v) H) (hD : va_D (fun q : Nat => s.heap.size ≤ q) (WG T h a aa g w ++ kX12 T hm am v)) (hS : va_S (fun q : Nat => s.heap.size ≤ q) s.heap H locs) (hl : lv_has ls 4 [(0, .ref b), (1, .ref h), (2, .ref hm), (3, .int i)]) (kk : ∀ (a' : Nat → Nat) (aa' : Nat → Nat → Nat) (g' : Nat → St) (w' : Nat → Int64) (v' : St) (H' : Heap) (locs' : List Loc) (ls' : Array Slot), Rel g' v' → va_P D vwCl (WG T h a' aa' g' w' ++ kX12 T hm am v') H' → va_D (fun q : Nat => s.heap.size ≤ q) (WG T h a' aa' g' w' ++ kX12 T hm am v') → va_S (fun q : Nat => s.heap.size ≤ q) s.heap H' locs' → lv_has ls' 4 [(0, .ref b), (1, .ref h), (2, .ref hm), (3, .int i)] → W p l e room_1 s m #[Value.ref b] below meth c H' locs' 96 13112 (lw_Z below #[Value.ref b] s) (F0 m 1070 ls' [])) : W p l e room_1 s m #[Value.ref b] below meth c H locs 96 13112 (lw_Z below #[Value.ref b] s) (F0 m 201 ls []) := by
  have hA : ∀ q : Nat, s.heap.size ≤ q → (fun q : Nat => s.heap.size ≤ q) q := fun _ h => h
  have hbA : ¬ (fun q : Nat => s.heap.size ≤ q) b := Nat.not_le.mpr hbl
  have hq1 : vp_in (i + 1) L := by rw [hi, show (1 : Int32) = nI 1 from rfl, nI_add]; exact vp_in_nI (by omega) (by omega)
  have hq2 : vp_in (i + 2) L := by rw [hi, show (2 : Int32) = nI 2 from rfl, nI_add]; exact vp_in_nI (by omega) (by omega)
  refine lv_aload_n hx hb dL_law_201 rfl (lv_at hl 1 rfl) ?_
  refine lv_aload_n hx hb dL_law_202 rfl (lv_at hl 0 rfl) ?_
  refine lv_iload_n hx hb dL_law_203 rfl (lv_at hl 3 rfl) ?_
  refine lv_iconst (v := 1) hx hb dL_law_204 (by decide) ?_
  refine lv_iadd hx hb dL_law_205 ?_
  refine va_sld hx hb hX hbl hbA hS hq1 dL_law_206 ?_
  refine lv_aload_n hx hb dL_law_207 rfl (lv_at hl 0 rfl) ?_
  refine lv_iload_n hx hb dL_law_208 rfl (lv_at hl 3 rfl) ?_
  refine lv_iconst (v := 2) hx hb dL_law_209 (by decide) ?_
  refine lv_iadd hx hb dL_law_210 ?_
  refine va_sld hx hb hX hbl hbA hS hq2 dL_law_211 ?_
  obtain ⟨z, y, hz, hy, he, hR⟩ := eq_rules g w v hRel (xs (ix (i + 1))) (xs (ix (i + 2))) 
  have hFc9 := free_left hD hS hA
  refine cVM (As := [.int (xs (ix (i + 1))), .int (xs (ix (i + 2)))]) (rest := []) ⟨hx, hb, hml, hown, fun w h => hts w (hv_X11_rules w h)⟩ (mX11_rules l D T aa h a (g 0) (g 1) (g 2) (g 3) (g 4) (g 5) (g 6) (g 7) (g 8) (g 9) (g 10) (g 11) w (g 13) (g 14) (g 15) (g 16) _ (xs (ix (i + 1))) (xs (ix (i + 2))) z hz) (cwV 2 (fun w h => hts w (hv_X11_rules w h)) gT_X11_rules rfl rfl rfl (by decide +kernel) ⟨Nat.le_of_ble_eq_true rfl, Nat.le_of_ble_eq_true rfl⟩) (va_recv hK.1 (P_left hP) (ci := 11) (q0 := 0) rfl rfl) (P_left hP) hK rfl hl.1 rfl (Nat.le_of_ble_eq_true rfl) dL_law_212 ⟨Nat.le_of_ble_eq_true rfl, Nat.le_of_ble_eq_true rfl⟩ (D_left hD) hFc9 hS (fun H9 locs hP1 hD1 hk1 hS => ?_)
  obtain ⟨hP, hD⟩ := join_left hP hD hk1 hFc9 hP1 hD1
  generalize H9 = H at hP hS ⊢
  have hP : va_P D vwCl (WG T h a aa (sg g 6 z.2) w ++ kX12 T hm am v) H := hP
  have hD : va_D (fun q : Nat => s.heap.size ≤ q) (WG T h a aa (sg g 6 z.2) w ++ kX12 T hm am v) := hD
  refine lv_aload_n hx hb dL_law_215 rfl (lv_at hl 2 rfl) ?_
  refine lv_aload_n hx hb dL_law_216 rfl (lv_at hl 0 rfl) ?_
  refine lv_iload_n hx hb dL_law_217 rfl (lv_at hl 3 rfl) ?_
  refine lv_iconst (v := 1) hx hb dL_law_218 (by decide) ?_
  refine lv_iadd hx hb dL_law_219 ?_
  refine va_sld hx hb hX hbl hbA hS hq1 dL_law_220 ?_
  refine lv_aload_n hx hb dL_law_221 rfl (lv_at hl 0 rfl) ?_
  refine lv_iload_n hx hb dL_law_222 rfl (lv_at hl 3 rfl) ?_
  refine lv_iconst (v := 2) hx hb dL_law_223 (by decide) ?_
  refine lv_iadd hx hb dL_law_224 ?_
  refine va_sld hx hb hX hbl hbA hS hq2 dL_law_225 ?_
  have hFc9 := free_right hD hS hA
  refine cVM (As := [.int (xs (ix (i + 1))), .int (xs (ix (i + 2)))]) (rest := [.int z.1]) ⟨hx, hb, hml, hown, fun w h => hts w (hv_X12_rules w h)⟩ (mX12_rules l D T hm am v _ (xs (ix (i + 1))) (xs (ix (i + 2))) y hy) (cwV 2 (fun w h => hts w (hv_X12_rules w h)) gT_X12_rules rfl rfl rfl (by decide +kernel) ⟨Nat.le_of_ble_eq_true rfl, Nat.le_of_ble_eq_true rfl⟩) (recM hK hP) (P_right hP) hK rfl hl.1 rfl (Nat.le_of_ble_eq_true rfl) dL_law_226 ⟨Nat.le_of_ble_eq_true rfl, Nat.le_of_ble_eq_true rfl⟩ (D_right hD) hFc9 hS (fun H9 locs hP1 hD1 hk1 hS => ?_)
  obtain ⟨hP, hD⟩ := join_right hP hD hk1 hFc9 hP1 hD1
  generalize H9 = H at hP hS ⊢
  refine lv_icmp_eq (tgt := 1070) hx hb dL_law_229 (by decide) (fun _ => ?_) (fun c9 => absurd he c9)
  exact kk a aa (sg g 6 z.2) w y.2 _ _ ls hR hP hD hS hl
set_option maxHeartbeats 4000000 in
set_option maxRecDepth 100000 in
theorem lc_feed {p : Program} {e : Env} {s : State} {m : MethodId} {below : List Frame} {meth : Method} {c : Code} (l : Launch) {b L : Nat} {xs : Nat → Int32} {D : va_G} {T : Ty3} {kv : (Nat → Nat) × (Nat → Nat)} (hL : L ≤ 3072) (hx : p.tables.exec = Jvm.exec) (hb : c.code = cL_law) (hml : c.maxLocals = 4) (hown : s.vm.findClass RL = some m.cls) (hts : ∀ w ∈ lw_tbl, w.before #[Value.ref b] s = true) (hX : va_X b L xs s s.heap) (hbl : b < s.heap.size) (hK : cK D T s) (hE : sK (fun q : Nat => s.heap.size ≤ q) kv s s.heap) {i : Int32} {j : Nat} (hi : i = nI j) (hj : j + 6 ≤ L) {h hm : Nat} {a am : Nat → Nat} {aa : Nat → Nat → Nat} {g : Nat → St} {w : Nat → Int64} {v : St} {H : Heap} {locs : List Loc} {ls : Array Slot} (hRel : Rel g v) (hP : va_P D vwCl (WG T h a aa g w ++ kX12 T hm am v) H) (hD : va_D (fun q : Nat => s.heap.size ≤ q) (WG T h a aa g w ++ kX12 T hm am v)) (hS : va_S (fun q : Nat => s.heap.size ≤ q) s.heap H locs) (hl : lv_has ls 4 [(0, .ref b), (1, .ref h), (2, .ref hm), (3, .int i)]) (kk : ∀ (a' : Nat → Nat) (aa' : Nat → Nat → Nat) (g' : Nat → St) (w' : Nat → Int64) (v' : St) (H' : Heap) (locs' : List Loc) (ls' : Array Slot), Rel g' v' → va_P D vwCl (WG T h a' aa' g' w' ++ kX12 T hm am v') H' → va_D (fun q : Nat => s.heap.size ≤ q) (WG T h a' aa' g' w' ++ kX12 T hm am v') → va_S (fun q : Nat => s.heap.size ≤ q) s.heap H' locs' → lv_has ls' 4 [(0, .ref b), (1, .ref h), (2, .ref hm), (3, .int i)] → W p l e room_1 s m #[Value.ref b] below meth c H' locs' 96 13112 (lw_Z below #[Value.ref b] s) (F0 m 1070 ls' [])) : W p l e room_1 s m #[Value.ref b] below meth c H locs 96 13112 (lw_Z below #[Value.ref b] s) (F0 m 234 ls []) := by
  have hA : ∀ q : Nat, s.heap.size ≤ q → (fun q : Nat => s.heap.size ≤ q) q := fun _ h => h
  have hbA : ¬ (fun q : Nat => s.heap.size ≤ q) b := Nat.not_le.mpr hbl
  have hq1 : vp_in (i + 1) L := by rw [hi, show (1 : Int32) = nI 1 from rfl, nI_add]; exact vp_in_nI (by omega) (by omega)
  have hq2 : vp_in (i + 2) L := by rw [hi, show (2 : Int32) = nI 2 from rfl, nI_add]; exact vp_in_nI (by omega) (by omega)
  have hq3 : vp_in (i + 3) L := by rw [hi, show (3 : Int32) = nI 3 from rfl, nI_add]; exact vp_in_nI (by omega) (by omega)
  have hq4 : vp_in (i + 4) L := by rw [hi, show (4 : Int32) = nI 4 from rfl, nI_add]; exact vp_in_nI (by omega) (by omega)
  have hq5 : vp_in (i + 5) L := by rw [hi, show (5 : Int32) = nI 5 from rfl, nI_add]; exact vp_in_nI (by omega) (by omega)
  refine lv_aload_n hx hb dL_law_234 rfl (lv_at hl 1 rfl) ?_
  refine lv_aload_n hx hb dL_law_235 rfl (lv_at hl 0 rfl) ?_
  refine lv_iload_n hx hb dL_law_236 rfl (lv_at hl 3 rfl) ?_
  refine lv_iconst (v := 1) hx hb dL_law_237 (by decide) ?_
  refine lv_iadd hx hb dL_law_238 ?_
  refine va_sld hx hb hX hbl hbA hS hq1 dL_law_239 ?_
  refine lv_aload_n hx hb dL_law_240 rfl (lv_at hl 0 rfl) ?_
  refine lv_iload_n hx hb dL_law_241 rfl (lv_at hl 3 rfl) ?_
  refine lv_iconst (v := 2) hx hb dL_law_242 (by decide) ?_
  refine lv_iadd hx hb dL_law_243 ?_
  refine va_sld hx hb hX hbl hbA hS hq2 dL_law_244 ?_
  refine lv_aload_n hx hb dL_law_245 rfl (lv_at hl 0 rfl) ?_
  refine lv_iload_n hx hb dL_law_246 rfl (lv_at hl 3 rfl) ?_
  refine lv_iconst (v := 3) hx hb dL_law_247 (by decide) ?_
  refine lv_iadd hx hb dL_law_248 ?_
  refine va_sld hx hb hX hbl hbA hS hq3 dL_law_249 ?_
  refine lv_aload_n hx hb dL_law_250 rfl (lv_at hl 0 rfl) ?_
  refine lv_iload_n hx hb dL_law_251 rfl (lv_at hl 3 rfl) ?_
  refine lv_iconst (v := 4) hx hb dL_law_252 (by decide) ?_
  refine lv_iadd hx hb dL_law_253 ?_
  refine va_sld hx hb hX hbl hbA hS hq4 dL_law_254 ?_
  refine lv_aload_n hx hb dL_law_255 rfl (lv_at hl 0 rfl) ?_
  refine lv_iload_n hx hb dL_law_256 rfl (lv_at hl 3 rfl) ?_
  refine lv_iconst (v := 5) hx hb dL_law_257 (by decide) ?_
  refine lv_iadd hx hb dL_law_258 ?_
  refine va_sld hx hb hX hbl hbA hS hq5 dL_law_259 ?_
  obtain ⟨z, y, hz, hy, he, hR⟩ := eq_feed g w v hRel (xs (ix (i + 1))) (xs (ix (i + 2))) (xs (ix (i + 3))) (xs (ix (i + 4))) (xs (ix (i + 5))) 
  have hFc9 := free_left hD hS hA
  refine cVM (As := [.int (xs (ix (i + 1))), .int (xs (ix (i + 2))), .int (xs (ix (i + 3))), .int (xs (ix (i + 4))), .int (xs (ix (i + 5)))]) (rest := []) ⟨hx, hb, hml, hown, fun w h => hts w (hv_X11_feed w h)⟩ (mX11_feed l D T aa h a (g 0) (g 1) (g 2) (g 3) (g 4) (g 5) (g 6) (g 7) (g 8) (g 9) (g 10) (g 11) w (g 13) (g 14) (g 15) (g 16) _ (xs (ix (i + 1))) (xs (ix (i + 2))) (xs (ix (i + 3))) (xs (ix (i + 4))) (xs (ix (i + 5))) z hz) (cwV 5 (fun w h => hts w (hv_X11_feed w h)) gT_X11_feed rfl rfl rfl (by decide +kernel) ⟨Nat.le_of_ble_eq_true rfl, Nat.le_of_ble_eq_true rfl⟩) (va_recv hK.1 (P_left hP) (ci := 11) (q0 := 0) rfl rfl) (P_left hP) hK rfl hl.1 rfl (Nat.le_of_ble_eq_true rfl) dL_law_260 ⟨Nat.le_of_ble_eq_true rfl, Nat.le_of_ble_eq_true rfl⟩ (D_left hD) hFc9 hS (fun H9 locs hP1 hD1 hk1 hS => ?_)
  obtain ⟨hP, hD⟩ := join_left hP hD hk1 hFc9 hP1 hD1
  generalize H9 = H at hP hS ⊢
  have hP : va_P D vwCl (WG T h a aa (sg g 1 z.2) w ++ kX12 T hm am v) H := hP
  have hD : va_D (fun q : Nat => s.heap.size ≤ q) (WG T h a aa (sg g 1 z.2) w ++ kX12 T hm am v) := hD
  refine lv_aload_n hx hb dL_law_263 rfl (lv_at hl 2 rfl) ?_
  refine lv_aload_n hx hb dL_law_264 rfl (lv_at hl 0 rfl) ?_
  refine lv_iload_n hx hb dL_law_265 rfl (lv_at hl 3 rfl) ?_
  refine lv_iconst (v := 1) hx hb dL_law_266 (by decide) ?_
  refine lv_iadd hx hb dL_law_267 ?_
  refine va_sld hx hb hX hbl hbA hS hq1 dL_law_268 ?_
  refine lv_aload_n hx hb dL_law_269 rfl (lv_at hl 0 rfl) ?_
  refine lv_iload_n hx hb dL_law_270 rfl (lv_at hl 3 rfl) ?_
  refine lv_iconst (v := 2) hx hb dL_law_271 (by decide) ?_
  refine lv_iadd hx hb dL_law_272 ?_
  refine va_sld hx hb hX hbl hbA hS hq2 dL_law_273 ?_
  refine lv_aload_n hx hb dL_law_274 rfl (lv_at hl 0 rfl) ?_
  refine lv_iload_n hx hb dL_law_275 rfl (lv_at hl 3 rfl) ?_
  refine lv_iconst (v := 3) hx hb dL_law_276 (by decide) ?_
  refine lv_iadd hx hb dL_law_277 ?_
  refine va_sld hx hb hX hbl hbA hS hq3 dL_law_278 ?_
  refine lv_aload_n hx hb dL_law_279 rfl (lv_at hl 0 rfl) ?_
  refine lv_iload_n hx hb dL_law_280 rfl (lv_at hl 3 rfl) ?_
  refine lv_iconst (v := 4) hx hb dL_law_281 (by decide) ?_
  refine lv_iadd hx hb dL_law_282 ?_
  refine va_sld hx hb hX hbl hbA hS hq4 dL_law_283 ?_
  refine lv_aload_n hx hb dL_law_284 rfl (lv_at hl 0 rfl) ?_
  refine lv_iload_n hx hb dL_law_285 rfl (lv_at hl 3 rfl) ?_
  refine lv_iconst (v := 5) hx hb dL_law_286 (by decide) ?_
  refine lv_iadd hx hb dL_law_287 ?_
  refine va_sld hx hb hX hbl hbA hS hq5 dL_law_288 ?_
  have hFc9 := free_right hD hS hA
  refine cVM (As := [.int (xs (ix (i + 1))), .int (xs (ix (i + 2))), .int (xs (ix (i + 3))), .int (xs (ix (i + 4))), .int (xs (ix (i + 5)))]) (rest := [.int z.1]) ⟨hx, hb, hml, hown, fun w h => hts w (hv_X12_feed w h)⟩ (mX12_feed l D T hm am v _ (xs (ix (i + 1))) (xs (ix (i + 2))) (xs (ix (i + 3))) (xs (ix (i + 4))) (xs (ix (i + 5))) y hy) (cwV 5 (fun w h => hts w (hv_X12_feed w h)) gT_X12_feed rfl rfl rfl (by decide +kernel) ⟨Nat.le_of_ble_eq_true rfl, Nat.le_of_ble_eq_true rfl⟩) (recM hK hP) (P_right hP) hK rfl hl.1 rfl (Nat.le_of_ble_eq_true rfl) dL_law_289 ⟨Nat.le_of_ble_eq_true rfl, Nat.le_of_ble_eq_true rfl⟩ (D_right hD) hFc9 hS (fun H9 locs hP1 hD1 hk1 hS => ?_)
  obtain ⟨hP, hD⟩ := join_right hP hD hk1 hFc9 hP1 hD1
  generalize H9 = H at hP hS ⊢
  refine lv_icmp_eq (tgt := 1070) hx hb dL_law_292 (by decide) (fun _ => ?_) (fun c9 => absurd he c9)
  exact kk a aa (sg g 1 z.2) w y.2 _ _ ls hR hP hD hS hl
set_option maxHeartbeats 4000000 in
set_option maxRecDepth 100000 in
theorem lc_law {p : Program} {e : Env} {s : State} {m : MethodId} {below : List Frame} {meth : Method} {c : Code} (l : Launch) {b L : Nat} {xs : Nat → Int32} {D : va_G} {T : Ty3} {kv : (Nat → Nat) × (Nat → Nat)} (hL : L ≤ 3072) (hx : p.tables.exec = Jvm.exec) (hb : c.code = cL_law) (hml : c.maxLocals = 4) (hown : s.vm.findClass RL = some m.cls) (hts : ∀ w ∈ lw_tbl, w.before #[Value.ref b] s = true) (hX : va_X b L xs s s.heap) (hbl : b < s.heap.size) (hK : cK D T s) (hE : sK (fun q : Nat => s.heap.size ≤ q) kv s s.heap) {i : Int32} {j : Nat} (hi : i = nI j) (hj : j + 6 ≤ L) {h hm : Nat} {a am : Nat → Nat} {aa : Nat → Nat → Nat} {g : Nat → St} {w : Nat → Int64} {v : St} {H : Heap} {locs : List Loc} {ls : Array Slot} (hRel : Rel g v) (hP : va_P D vwCl (WG T h a aa g w ++ kX12 T hm am v) H) (hD : va_D (fun q : Nat => s.heap.size ≤ q) (WG T h a aa g w ++ kX12 T hm am v)) (hS : va_S (fun q : Nat => s.heap.size ≤ q) s.heap H locs) (hl : lv_has ls 4 [(0, .ref b), (1, .ref h), (2, .ref hm), (3, .int i)]) (kk : ∀ (a' : Nat → Nat) (aa' : Nat → Nat → Nat) (g' : Nat → St) (w' : Nat → Int64) (v' : St) (H' : Heap) (locs' : List Loc) (ls' : Array Slot), Rel g' v' → va_P D vwCl (WG T h a' aa' g' w' ++ kX12 T hm am v') H' → va_D (fun q : Nat => s.heap.size ≤ q) (WG T h a' aa' g' w' ++ kX12 T hm am v') → va_S (fun q : Nat => s.heap.size ≤ q) s.heap H' locs' → lv_has ls' 4 [(0, .ref b), (1, .ref h), (2, .ref hm), (3, .int i)] → W p l e room_1 s m #[Value.ref b] below meth c H' locs' 96 13112 (lw_Z below #[Value.ref b] s) (F0 m 1070 ls' [])) : W p l e room_1 s m #[Value.ref b] below meth c H locs 96 13112 (lw_Z below #[Value.ref b] s) (F0 m 297 ls []) := by
  have hA : ∀ q : Nat, s.heap.size ≤ q → (fun q : Nat => s.heap.size ≤ q) q := fun _ h => h
  have hbA : ¬ (fun q : Nat => s.heap.size ≤ q) b := Nat.not_le.mpr hbl
  have hq1 : vp_in (i + 1) L := by rw [hi, show (1 : Int32) = nI 1 from rfl, nI_add]; exact vp_in_nI (by omega) (by omega)
  refine lv_aload_n hx hb dL_law_297 rfl (lv_at hl 1 rfl) ?_
  refine lv_aload_n hx hb dL_law_298 rfl (lv_at hl 0 rfl) ?_
  refine lv_iload_n hx hb dL_law_299 rfl (lv_at hl 3 rfl) ?_
  refine lv_iconst (v := 1) hx hb dL_law_300 (by decide) ?_
  refine lv_iadd hx hb dL_law_301 ?_
  refine va_sld hx hb hX hbl hbA hS hq1 dL_law_302 ?_
  obtain ⟨z, y, hz, hy, he, hR⟩ := eq_law g w v hRel (xs (ix (i + 1))) 
  have hFc9 := free_left hD hS hA
  refine cVMeS (As := [.int (xs (ix (i + 1)))]) (rest := []) ⟨hx, hb, hml, hown, fun w h => hts w (hv_X11_law w h)⟩ (mX11_law l D T kv aa h a (g 0) (g 1) (g 2) (g 3) (g 4) (g 5) (g 6) (g 7) (g 8) (g 9) (g 10) (g 11) w (g 13) (g 14) (g 15) (g 16) _ (xs (ix (i + 1))) z hz) (cwV 1 (fun w h => hts w (hv_X11_law w h)) gT_X11_law rfl rfl rfl (by decide +kernel) ⟨Nat.le_of_ble_eq_true rfl, Nat.le_of_ble_eq_true rfl⟩) (va_recv hK.1 (P_left hP) (ci := 11) (q0 := 0) rfl rfl) (P_left hP) hK rfl hl.1 rfl (Nat.le_of_ble_eq_true rfl) dL_law_303 ⟨Nat.le_of_ble_eq_true rfl, Nat.le_of_ble_eq_true rfl⟩ (D_left hD) hFc9 hE hS (fun a2 aa2 H9 locs hP1 hD1 hk1 hS => ?_)
  obtain ⟨hP, hD⟩ := join_left hP hD hk1 hFc9 hP1 hD1
  generalize H9 = H at hP hS ⊢
  have hP : va_P D vwCl (WG T h a2 aa2 (sg (sg (sg (sg g 1 z.2.1) 2 z.2.2.1) 13 z.2.2.2.1) 14 z.2.2.2.2) w ++ kX12 T hm am v) H := hP
  have hD : va_D (fun q : Nat => s.heap.size ≤ q) (WG T h a2 aa2 (sg (sg (sg (sg g 1 z.2.1) 2 z.2.2.1) 13 z.2.2.2.1) 14 z.2.2.2.2) w ++ kX12 T hm am v) := hD
  refine lv_aload_n hx hb dL_law_306 rfl (lv_at hl 2 rfl) ?_
  refine lv_aload_n hx hb dL_law_307 rfl (lv_at hl 0 rfl) ?_
  refine lv_iload_n hx hb dL_law_308 rfl (lv_at hl 3 rfl) ?_
  refine lv_iconst (v := 1) hx hb dL_law_309 (by decide) ?_
  refine lv_iadd hx hb dL_law_310 ?_
  refine va_sld hx hb hX hbl hbA hS hq1 dL_law_311 ?_
  have hFc9 := free_right hD hS hA
  refine cVM (As := [.int (xs (ix (i + 1)))]) (rest := [.int z.1]) ⟨hx, hb, hml, hown, fun w h => hts w (hv_X12_law w h)⟩ (mX12_law l D T hm am v _ (xs (ix (i + 1))) y hy) (cwV 1 (fun w h => hts w (hv_X12_law w h)) gT_X12_law rfl rfl rfl (by decide +kernel) ⟨Nat.le_of_ble_eq_true rfl, Nat.le_of_ble_eq_true rfl⟩) (recM hK hP) (P_right hP) hK rfl hl.1 rfl (Nat.le_of_ble_eq_true rfl) dL_law_312 ⟨Nat.le_of_ble_eq_true rfl, Nat.le_of_ble_eq_true rfl⟩ (D_right hD) hFc9 hS (fun H9 locs hP1 hD1 hk1 hS => ?_)
  obtain ⟨hP, hD⟩ := join_right hP hD hk1 hFc9 hP1 hD1
  generalize H9 = H at hP hS ⊢
  refine lv_icmp_eq (tgt := 1070) hx hb dL_law_315 (by decide) (fun _ => ?_) (fun c9 => absurd he c9)
  exact kk a2 aa2 (sg (sg (sg (sg g 1 z.2.1) 2 z.2.2.1) 13 z.2.2.2.1) 14 z.2.2.2.2) w y.2 _ _ ls hR hP hD hS hl
set_option maxHeartbeats 4000000 in
set_option maxRecDepth 100000 in
theorem lc_orders {p : Program} {e : Env} {s : State} {m : MethodId} {below : List Frame} {meth : Method} {c : Code} (l : Launch) {b L : Nat} {xs : Nat → Int32} {D : va_G} {T : Ty3} {kv : (Nat → Nat) × (Nat → Nat)} (hL : L ≤ 3072) (hx : p.tables.exec = Jvm.exec) (hb : c.code = cL_law) (hml : c.maxLocals = 4) (hown : s.vm.findClass RL = some m.cls) (hts : ∀ w ∈ lw_tbl, w.before #[Value.ref b] s = true) (hX : va_X b L xs s s.heap) (hbl : b < s.heap.size) (hK : cK D T s) (hE : sK (fun q : Nat => s.heap.size ≤ q) kv s s.heap) {i : Int32} {j : Nat} (hi : i = nI j) (hj : j + 6 ≤ L) {h hm : Nat} {a am : Nat → Nat} {aa : Nat → Nat → Nat} {g : Nat → St} {w : Nat → Int64} {v : St} {H : Heap} {locs : List Loc} {ls : Array Slot} (hRel : Rel g v) (hP : va_P D vwCl (WG T h a aa g w ++ kX12 T hm am v) H) (hD : va_D (fun q : Nat => s.heap.size ≤ q) (WG T h a aa g w ++ kX12 T hm am v)) (hS : va_S (fun q : Nat => s.heap.size ≤ q) s.heap H locs) (hl : lv_has ls 4 [(0, .ref b), (1, .ref h), (2, .ref hm), (3, .int i)]) (kk : ∀ (a' : Nat → Nat) (aa' : Nat → Nat → Nat) (g' : Nat → St) (w' : Nat → Int64) (v' : St) (H' : Heap) (locs' : List Loc) (ls' : Array Slot), Rel g' v' → va_P D vwCl (WG T h a' aa' g' w' ++ kX12 T hm am v') H' → va_D (fun q : Nat => s.heap.size ≤ q) (WG T h a' aa' g' w' ++ kX12 T hm am v') → va_S (fun q : Nat => s.heap.size ≤ q) s.heap H' locs' → lv_has ls' 4 [(0, .ref b), (1, .ref h), (2, .ref hm), (3, .int i)] → W p l e room_1 s m #[Value.ref b] below meth c H' locs' 96 13112 (lw_Z below #[Value.ref b] s) (F0 m 1070 ls' [])) : W p l e room_1 s m #[Value.ref b] below meth c H locs 96 13112 (lw_Z below #[Value.ref b] s) (F0 m 320 ls []) := by
  have hA : ∀ q : Nat, s.heap.size ≤ q → (fun q : Nat => s.heap.size ≤ q) q := fun _ h => h
  have hbA : ¬ (fun q : Nat => s.heap.size ≤ q) b := Nat.not_le.mpr hbl
  have hq1 : vp_in (i + 1) L := by rw [hi, show (1 : Int32) = nI 1 from rfl, nI_add]; exact vp_in_nI (by omega) (by omega)
  refine lv_aload_n hx hb dL_law_320 rfl (lv_at hl 1 rfl) ?_
  refine lv_aload_n hx hb dL_law_321 rfl (lv_at hl 0 rfl) ?_
  refine lv_iload_n hx hb dL_law_322 rfl (lv_at hl 3 rfl) ?_
  refine lv_iconst (v := 1) hx hb dL_law_323 (by decide) ?_
  refine lv_iadd hx hb dL_law_324 ?_
  refine va_sld hx hb hX hbl hbA hS hq1 dL_law_325 ?_
  obtain ⟨z, y, hz, hy, he, hR⟩ := eq_orders g w v hRel (xs (ix (i + 1))) 
  have hFc9 := free_left hD hS hA
  refine cVM (As := [.int (xs (ix (i + 1)))]) (rest := []) ⟨hx, hb, hml, hown, fun w h => hts w (hv_X11_orders w h)⟩ (mX11_orders l D T aa h a (g 0) (g 1) (g 2) (g 3) (g 4) (g 5) (g 6) (g 7) (g 8) (g 9) (g 10) (g 11) w (g 13) (g 14) (g 15) (g 16) _ (xs (ix (i + 1))) z hz) (cwV 1 (fun w h => hts w (hv_X11_orders w h)) gT_X11_orders rfl rfl rfl (by decide +kernel) ⟨Nat.le_of_ble_eq_true rfl, Nat.le_of_ble_eq_true rfl⟩) (va_recv hK.1 (P_left hP) (ci := 11) (q0 := 0) rfl rfl) (P_left hP) hK rfl hl.1 rfl (Nat.le_of_ble_eq_true rfl) dL_law_326 ⟨Nat.le_of_ble_eq_true rfl, Nat.le_of_ble_eq_true rfl⟩ (D_left hD) hFc9 hS (fun H9 locs hP1 hD1 hk1 hS => ?_)
  obtain ⟨hP, hD⟩ := join_left hP hD hk1 hFc9 hP1 hD1
  generalize H9 = H at hP hS ⊢
  have hP : va_P D vwCl (WG T h a aa (sg (sg (sg (sg g 1 z.2.1) 2 z.2.2.1) 3 z.2.2.2.1) 7 z.2.2.2.2) w ++ kX12 T hm am v) H := hP
  have hD : va_D (fun q : Nat => s.heap.size ≤ q) (WG T h a aa (sg (sg (sg (sg g 1 z.2.1) 2 z.2.2.1) 3 z.2.2.2.1) 7 z.2.2.2.2) w ++ kX12 T hm am v) := hD
  refine lv_aload_n hx hb dL_law_329 rfl (lv_at hl 2 rfl) ?_
  refine lv_aload_n hx hb dL_law_330 rfl (lv_at hl 0 rfl) ?_
  refine lv_iload_n hx hb dL_law_331 rfl (lv_at hl 3 rfl) ?_
  refine lv_iconst (v := 1) hx hb dL_law_332 (by decide) ?_
  refine lv_iadd hx hb dL_law_333 ?_
  refine va_sld hx hb hX hbl hbA hS hq1 dL_law_334 ?_
  have hFc9 := free_right hD hS hA
  refine cVM (As := [.int (xs (ix (i + 1)))]) (rest := [.int z.1]) ⟨hx, hb, hml, hown, fun w h => hts w (hv_X12_orders w h)⟩ (mX12_orders l D T hm am v _ (xs (ix (i + 1))) y hy) (cwV 1 (fun w h => hts w (hv_X12_orders w h)) gT_X12_orders rfl rfl rfl (by decide +kernel) ⟨Nat.le_of_ble_eq_true rfl, Nat.le_of_ble_eq_true rfl⟩) (recM hK hP) (P_right hP) hK rfl hl.1 rfl (Nat.le_of_ble_eq_true rfl) dL_law_335 ⟨Nat.le_of_ble_eq_true rfl, Nat.le_of_ble_eq_true rfl⟩ (D_right hD) hFc9 hS (fun H9 locs hP1 hD1 hk1 hS => ?_)
  obtain ⟨hP, hD⟩ := join_right hP hD hk1 hFc9 hP1 hD1
  generalize H9 = H at hP hS ⊢
  refine lv_icmp_eq (tgt := 1070) hx hb dL_law_338 (by decide) (fun _ => ?_) (fun c9 => absurd he c9)
  exact kk a aa (sg (sg (sg (sg g 1 z.2.1) 2 z.2.2.1) 3 z.2.2.2.1) 7 z.2.2.2.2) w y.2 _ _ ls hR hP hD hS hl
set_option maxHeartbeats 4000000 in
set_option maxRecDepth 100000 in
theorem lc_weighings {p : Program} {e : Env} {s : State} {m : MethodId} {below : List Frame} {meth : Method} {c : Code} (l : Launch) {b L : Nat} {xs : Nat → Int32} {D : va_G} {T : Ty3} {kv : (Nat → Nat) × (Nat → Nat)} (hL : L ≤ 3072) (hx : p.tables.exec = Jvm.exec) (hb : c.code = cL_law) (hml : c.maxLocals = 4) (hown : s.vm.findClass RL = some m.cls) (hts : ∀ w ∈ lw_tbl, w.before #[Value.ref b] s = true) (hX : va_X b L xs s s.heap) (hbl : b < s.heap.size) (hK : cK D T s) (hE : sK (fun q : Nat => s.heap.size ≤ q) kv s s.heap) {i : Int32} {j : Nat} (hi : i = nI j) (hj : j + 6 ≤ L) {h hm : Nat} {a am : Nat → Nat} {aa : Nat → Nat → Nat} {g : Nat → St} {w : Nat → Int64} {v : St} {H : Heap} {locs : List Loc} {ls : Array Slot} (hRel : Rel g v) (hP : va_P D vwCl (WG T h a aa g w ++ kX12 T hm am v) H) (hD : va_D (fun q : Nat => s.heap.size ≤ q) (WG T h a aa g w ++ kX12 T hm am v)) (hS : va_S (fun q : Nat => s.heap.size ≤ q) s.heap H locs) (hl : lv_has ls 4 [(0, .ref b), (1, .ref h), (2, .ref hm), (3, .int i)]) (kk : ∀ (a' : Nat → Nat) (aa' : Nat → Nat → Nat) (g' : Nat → St) (w' : Nat → Int64) (v' : St) (H' : Heap) (locs' : List Loc) (ls' : Array Slot), Rel g' v' → va_P D vwCl (WG T h a' aa' g' w' ++ kX12 T hm am v') H' → va_D (fun q : Nat => s.heap.size ≤ q) (WG T h a' aa' g' w' ++ kX12 T hm am v') → va_S (fun q : Nat => s.heap.size ≤ q) s.heap H' locs' → lv_has ls' 4 [(0, .ref b), (1, .ref h), (2, .ref hm), (3, .int i)] → W p l e room_1 s m #[Value.ref b] below meth c H' locs' 96 13112 (lw_Z below #[Value.ref b] s) (F0 m 1070 ls' [])) : W p l e room_1 s m #[Value.ref b] below meth c H locs 96 13112 (lw_Z below #[Value.ref b] s) (F0 m 343 ls []) := by
  have hA : ∀ q : Nat, s.heap.size ≤ q → (fun q : Nat => s.heap.size ≤ q) q := fun _ h => h
  have hbA : ¬ (fun q : Nat => s.heap.size ≤ q) b := Nat.not_le.mpr hbl
  have hq1 : vp_in (i + 1) L := by rw [hi, show (1 : Int32) = nI 1 from rfl, nI_add]; exact vp_in_nI (by omega) (by omega)
  refine lv_aload_n hx hb dL_law_343 rfl (lv_at hl 1 rfl) ?_
  refine lv_aload_n hx hb dL_law_344 rfl (lv_at hl 0 rfl) ?_
  refine lv_iload_n hx hb dL_law_345 rfl (lv_at hl 3 rfl) ?_
  refine lv_iconst (v := 1) hx hb dL_law_346 (by decide) ?_
  refine lv_iadd hx hb dL_law_347 ?_
  refine va_sld hx hb hX hbl hbA hS hq1 dL_law_348 ?_
  obtain ⟨z, y, hz, hy, he, hR⟩ := eq_weighings g w v hRel (xs (ix (i + 1))) 
  have hFc9 := free_left hD hS hA
  refine cVMe (As := [.int (xs (ix (i + 1)))]) (rest := []) ⟨hx, hb, hml, hown, fun w h => hts w (hv_X11_weighings w h)⟩ (mX11_weighings l D T aa h a (g 0) (g 1) (g 2) (g 3) (g 4) (g 5) (g 6) (g 7) (g 8) (g 9) (g 10) (g 11) w (g 13) (g 14) (g 15) (g 16) _ (xs (ix (i + 1))) z hz) (cwV 1 (fun w h => hts w (hv_X11_weighings w h)) gT_X11_weighings rfl rfl rfl (by decide +kernel) ⟨Nat.le_of_ble_eq_true rfl, Nat.le_of_ble_eq_true rfl⟩) (va_recv hK.1 (P_left hP) (ci := 11) (q0 := 0) rfl rfl) (P_left hP) hK rfl hl.1 rfl (Nat.le_of_ble_eq_true rfl) dL_law_349 ⟨Nat.le_of_ble_eq_true rfl, Nat.le_of_ble_eq_true rfl⟩ (D_left hD) hFc9 hS (fun a2 aa2 H9 locs hP1 hD1 hk1 hS => ?_)
  obtain ⟨hP, hD⟩ := join_left hP hD hk1 hFc9 hP1 hD1
  generalize H9 = H at hP hS ⊢
  have hP : va_P D vwCl (WG T h a2 aa2 (sg (sg (sg (sg g 1 z.2.1) 2 z.2.2.1) 15 z.2.2.2.1) 16 z.2.2.2.2) w ++ kX12 T hm am v) H := hP
  have hD : va_D (fun q : Nat => s.heap.size ≤ q) (WG T h a2 aa2 (sg (sg (sg (sg g 1 z.2.1) 2 z.2.2.1) 15 z.2.2.2.1) 16 z.2.2.2.2) w ++ kX12 T hm am v) := hD
  refine lv_aload_n hx hb dL_law_352 rfl (lv_at hl 2 rfl) ?_
  refine lv_aload_n hx hb dL_law_353 rfl (lv_at hl 0 rfl) ?_
  refine lv_iload_n hx hb dL_law_354 rfl (lv_at hl 3 rfl) ?_
  refine lv_iconst (v := 1) hx hb dL_law_355 (by decide) ?_
  refine lv_iadd hx hb dL_law_356 ?_
  refine va_sld hx hb hX hbl hbA hS hq1 dL_law_357 ?_
  have hFc9 := free_right hD hS hA
  refine cVM (As := [.int (xs (ix (i + 1)))]) (rest := [.int z.1]) ⟨hx, hb, hml, hown, fun w h => hts w (hv_X12_weighings w h)⟩ (mX12_weighings l D T hm am v _ (xs (ix (i + 1))) y hy) (cwV 1 (fun w h => hts w (hv_X12_weighings w h)) gT_X12_weighings rfl rfl rfl (by decide +kernel) ⟨Nat.le_of_ble_eq_true rfl, Nat.le_of_ble_eq_true rfl⟩) (recM hK hP) (P_right hP) hK rfl hl.1 rfl (Nat.le_of_ble_eq_true rfl) dL_law_358 ⟨Nat.le_of_ble_eq_true rfl, Nat.le_of_ble_eq_true rfl⟩ (D_right hD) hFc9 hS (fun H9 locs hP1 hD1 hk1 hS => ?_)
  obtain ⟨hP, hD⟩ := join_right hP hD hk1 hFc9 hP1 hD1
  generalize H9 = H at hP hS ⊢
  refine lv_icmp_eq (tgt := 1070) hx hb dL_law_361 (by decide) (fun _ => ?_) (fun c9 => absurd he c9)
  exact kk a2 aa2 (sg (sg (sg (sg g 1 z.2.1) 2 z.2.2.1) 15 z.2.2.2.1) 16 z.2.2.2.2) w y.2 _ _ ls hR hP hD hS hl
set_option maxHeartbeats 4000000 in
set_option maxRecDepth 100000 in
theorem lc_hours {p : Program} {e : Env} {s : State} {m : MethodId} {below : List Frame} {meth : Method} {c : Code} (l : Launch) {b L : Nat} {xs : Nat → Int32} {D : va_G} {T : Ty3} {kv : (Nat → Nat) × (Nat → Nat)} (hL : L ≤ 3072) (hx : p.tables.exec = Jvm.exec) (hb : c.code = cL_law) (hml : c.maxLocals = 4) (hown : s.vm.findClass RL = some m.cls) (hts : ∀ w ∈ lw_tbl, w.before #[Value.ref b] s = true) (hX : va_X b L xs s s.heap) (hbl : b < s.heap.size) (hK : cK D T s) (hE : sK (fun q : Nat => s.heap.size ≤ q) kv s s.heap) {i : Int32} {j : Nat} (hi : i = nI j) (hj : j + 6 ≤ L) {h hm : Nat} {a am : Nat → Nat} {aa : Nat → Nat → Nat} {g : Nat → St} {w : Nat → Int64} {v : St} {H : Heap} {locs : List Loc} {ls : Array Slot} (hRel : Rel g v) (hP : va_P D vwCl (WG T h a aa g w ++ kX12 T hm am v) H) (hD : va_D (fun q : Nat => s.heap.size ≤ q) (WG T h a aa g w ++ kX12 T hm am v)) (hS : va_S (fun q : Nat => s.heap.size ≤ q) s.heap H locs) (hl : lv_has ls 4 [(0, .ref b), (1, .ref h), (2, .ref hm), (3, .int i)]) (kk : ∀ (a' : Nat → Nat) (aa' : Nat → Nat → Nat) (g' : Nat → St) (w' : Nat → Int64) (v' : St) (H' : Heap) (locs' : List Loc) (ls' : Array Slot), Rel g' v' → va_P D vwCl (WG T h a' aa' g' w' ++ kX12 T hm am v') H' → va_D (fun q : Nat => s.heap.size ≤ q) (WG T h a' aa' g' w' ++ kX12 T hm am v') → va_S (fun q : Nat => s.heap.size ≤ q) s.heap H' locs' → lv_has ls' 4 [(0, .ref b), (1, .ref h), (2, .ref hm), (3, .int i)] → W p l e room_1 s m #[Value.ref b] below meth c H' locs' 96 13112 (lw_Z below #[Value.ref b] s) (F0 m 1070 ls' [])) : W p l e room_1 s m #[Value.ref b] below meth c H locs 96 13112 (lw_Z below #[Value.ref b] s) (F0 m 366 ls []) := by
  have hA : ∀ q : Nat, s.heap.size ≤ q → (fun q : Nat => s.heap.size ≤ q) q := fun _ h => h
  have hbA : ¬ (fun q : Nat => s.heap.size ≤ q) b := Nat.not_le.mpr hbl
  have hq1 : vp_in (i + 1) L := by rw [hi, show (1 : Int32) = nI 1 from rfl, nI_add]; exact vp_in_nI (by omega) (by omega)
  refine lv_aload_n hx hb dL_law_366 rfl (lv_at hl 1 rfl) ?_
  refine lv_aload_n hx hb dL_law_367 rfl (lv_at hl 0 rfl) ?_
  refine lv_iload_n hx hb dL_law_368 rfl (lv_at hl 3 rfl) ?_
  refine lv_iconst (v := 1) hx hb dL_law_369 (by decide) ?_
  refine lv_iadd hx hb dL_law_370 ?_
  refine va_sld hx hb hX hbl hbA hS hq1 dL_law_371 ?_
  obtain ⟨z, y, hz, hy, he, hR⟩ := eq_hours g w v hRel (xs (ix (i + 1))) 
  have hFc9 := free_left hD hS hA
  refine cVM (As := [.int (xs (ix (i + 1)))]) (rest := []) ⟨hx, hb, hml, hown, fun w h => hts w (hv_X11_hours w h)⟩ (mX11_hours l D T aa h a (g 0) (g 1) (g 2) (g 3) (g 4) (g 5) (g 6) (g 7) (g 8) (g 9) (g 10) (g 11) w (g 13) (g 14) (g 15) (g 16) _ (xs (ix (i + 1))) z hz) (cwV 1 (fun w h => hts w (hv_X11_hours w h)) gT_X11_hours rfl rfl rfl (by decide +kernel) ⟨Nat.le_of_ble_eq_true rfl, Nat.le_of_ble_eq_true rfl⟩) (va_recv hK.1 (P_left hP) (ci := 11) (q0 := 0) rfl rfl) (P_left hP) hK rfl hl.1 rfl (Nat.le_of_ble_eq_true rfl) dL_law_372 ⟨Nat.le_of_ble_eq_true rfl, Nat.le_of_ble_eq_true rfl⟩ (D_left hD) hFc9 hS (fun H9 locs hP1 hD1 hk1 hS => ?_)
  obtain ⟨hP, hD⟩ := join_left hP hD hk1 hFc9 hP1 hD1
  generalize H9 = H at hP hS ⊢
  have hP : va_P D vwCl (WG T h a aa (sg (sg (sg g 3 z.2.1) 6 z.2.2.1) 13 z.2.2.2) w ++ kX12 T hm am v) H := hP
  have hD : va_D (fun q : Nat => s.heap.size ≤ q) (WG T h a aa (sg (sg (sg g 3 z.2.1) 6 z.2.2.1) 13 z.2.2.2) w ++ kX12 T hm am v) := hD
  refine lv_aload_n hx hb dL_law_375 rfl (lv_at hl 2 rfl) ?_
  refine lv_aload_n hx hb dL_law_376 rfl (lv_at hl 0 rfl) ?_
  refine lv_iload_n hx hb dL_law_377 rfl (lv_at hl 3 rfl) ?_
  refine lv_iconst (v := 1) hx hb dL_law_378 (by decide) ?_
  refine lv_iadd hx hb dL_law_379 ?_
  refine va_sld hx hb hX hbl hbA hS hq1 dL_law_380 ?_
  have hFc9 := free_right hD hS hA
  refine cVM (As := [.int (xs (ix (i + 1)))]) (rest := [.int z.1]) ⟨hx, hb, hml, hown, fun w h => hts w (hv_X12_hours w h)⟩ (mX12_hours l D T hm am v _ (xs (ix (i + 1))) y hy) (cwV 1 (fun w h => hts w (hv_X12_hours w h)) gT_X12_hours rfl rfl rfl (by decide +kernel) ⟨Nat.le_of_ble_eq_true rfl, Nat.le_of_ble_eq_true rfl⟩) (recM hK hP) (P_right hP) hK rfl hl.1 rfl (Nat.le_of_ble_eq_true rfl) dL_law_381 ⟨Nat.le_of_ble_eq_true rfl, Nat.le_of_ble_eq_true rfl⟩ (D_right hD) hFc9 hS (fun H9 locs hP1 hD1 hk1 hS => ?_)
  obtain ⟨hP, hD⟩ := join_right hP hD hk1 hFc9 hP1 hD1
  generalize H9 = H at hP hS ⊢
  refine lv_icmp_eq (tgt := 1070) hx hb dL_law_384 (by decide) (fun _ => ?_) (fun c9 => absurd he c9)
  exact kk a aa (sg (sg (sg g 3 z.2.1) 6 z.2.2.1) 13 z.2.2.2) w y.2 _ _ ls hR hP hD hS hl
set_option maxHeartbeats 4000000 in
set_option maxRecDepth 100000 in
theorem lc_tried {p : Program} {e : Env} {s : State} {m : MethodId} {below : List Frame} {meth : Method} {c : Code} (l : Launch) {b L : Nat} {xs : Nat → Int32} {D : va_G} {T : Ty3} {kv : (Nat → Nat) × (Nat → Nat)} (hL : L ≤ 3072) (hx : p.tables.exec = Jvm.exec) (hb : c.code = cL_law) (hml : c.maxLocals = 4) (hown : s.vm.findClass RL = some m.cls) (hts : ∀ w ∈ lw_tbl, w.before #[Value.ref b] s = true) (hX : va_X b L xs s s.heap) (hbl : b < s.heap.size) (hK : cK D T s) (hE : sK (fun q : Nat => s.heap.size ≤ q) kv s s.heap) {i : Int32} {j : Nat} (hi : i = nI j) (hj : j + 6 ≤ L) {h hm : Nat} {a am : Nat → Nat} {aa : Nat → Nat → Nat} {g : Nat → St} {w : Nat → Int64} {v : St} {H : Heap} {locs : List Loc} {ls : Array Slot} (hRel : Rel g v) (hP : va_P D vwCl (WG T h a aa g w ++ kX12 T hm am v) H) (hD : va_D (fun q : Nat => s.heap.size ≤ q) (WG T h a aa g w ++ kX12 T hm am v)) (hS : va_S (fun q : Nat => s.heap.size ≤ q) s.heap H locs) (hl : lv_has ls 4 [(0, .ref b), (1, .ref h), (2, .ref hm), (3, .int i)]) (kk : ∀ (a' : Nat → Nat) (aa' : Nat → Nat → Nat) (g' : Nat → St) (w' : Nat → Int64) (v' : St) (H' : Heap) (locs' : List Loc) (ls' : Array Slot), Rel g' v' → va_P D vwCl (WG T h a' aa' g' w' ++ kX12 T hm am v') H' → va_D (fun q : Nat => s.heap.size ≤ q) (WG T h a' aa' g' w' ++ kX12 T hm am v') → va_S (fun q : Nat => s.heap.size ≤ q) s.heap H' locs' → lv_has ls' 4 [(0, .ref b), (1, .ref h), (2, .ref hm), (3, .int i)] → W p l e room_1 s m #[Value.ref b] below meth c H' locs' 96 13112 (lw_Z below #[Value.ref b] s) (F0 m 1070 ls' [])) : W p l e room_1 s m #[Value.ref b] below meth c H locs 96 13112 (lw_Z below #[Value.ref b] s) (F0 m 389 ls []) := by
  have hA : ∀ q : Nat, s.heap.size ≤ q → (fun q : Nat => s.heap.size ≤ q) q := fun _ h => h
  have hbA : ¬ (fun q : Nat => s.heap.size ≤ q) b := Nat.not_le.mpr hbl
  have hq1 : vp_in (i + 1) L := by rw [hi, show (1 : Int32) = nI 1 from rfl, nI_add]; exact vp_in_nI (by omega) (by omega)
  have hq2 : vp_in (i + 2) L := by rw [hi, show (2 : Int32) = nI 2 from rfl, nI_add]; exact vp_in_nI (by omega) (by omega)
  refine lv_aload_n hx hb dL_law_389 rfl (lv_at hl 1 rfl) ?_
  refine lv_aload_n hx hb dL_law_390 rfl (lv_at hl 0 rfl) ?_
  refine lv_iload_n hx hb dL_law_391 rfl (lv_at hl 3 rfl) ?_
  refine lv_iconst (v := 1) hx hb dL_law_392 (by decide) ?_
  refine lv_iadd hx hb dL_law_393 ?_
  refine va_sld hx hb hX hbl hbA hS hq1 dL_law_394 ?_
  refine lv_aload_n hx hb dL_law_395 rfl (lv_at hl 0 rfl) ?_
  refine lv_iload_n hx hb dL_law_396 rfl (lv_at hl 3 rfl) ?_
  refine lv_iconst (v := 2) hx hb dL_law_397 (by decide) ?_
  refine lv_iadd hx hb dL_law_398 ?_
  refine va_sld hx hb hX hbl hbA hS hq2 dL_law_399 ?_
  obtain ⟨z, y, hz, hy, he, hR⟩ := eq_tried g w v hRel (xs (ix (i + 1))) (xs (ix (i + 2))) 
  have hFc9 := free_left hD hS hA
  refine cVM (As := [.int (xs (ix (i + 1))), .int (xs (ix (i + 2)))]) (rest := []) ⟨hx, hb, hml, hown, fun w h => hts w (hv_X11_tried w h)⟩ (mX11_tried l D T aa h a (g 0) (g 1) (g 2) (g 3) (g 4) (g 5) (g 6) (g 7) (g 8) (g 9) (g 10) (g 11) w (g 13) (g 14) (g 15) (g 16) _ (xs (ix (i + 1))) (xs (ix (i + 2))) z hz) (cwV 2 (fun w h => hts w (hv_X11_tried w h)) gT_X11_tried rfl rfl rfl (by decide +kernel) ⟨Nat.le_of_ble_eq_true rfl, Nat.le_of_ble_eq_true rfl⟩) (va_recv hK.1 (P_left hP) (ci := 11) (q0 := 0) rfl rfl) (P_left hP) hK rfl hl.1 rfl (Nat.le_of_ble_eq_true rfl) dL_law_400 ⟨Nat.le_of_ble_eq_true rfl, Nat.le_of_ble_eq_true rfl⟩ (D_left hD) hFc9 hS (fun H9 locs hP1 hD1 hk1 hS => ?_)
  obtain ⟨hP, hD⟩ := join_left hP hD hk1 hFc9 hP1 hD1
  generalize H9 = H at hP hS ⊢
  have hP : va_P D vwCl (WG T h a aa (sg (sg (sg g 5 z.2.1) 6 z.2.2.1) 13 z.2.2.2) w ++ kX12 T hm am v) H := hP
  have hD : va_D (fun q : Nat => s.heap.size ≤ q) (WG T h a aa (sg (sg (sg g 5 z.2.1) 6 z.2.2.1) 13 z.2.2.2) w ++ kX12 T hm am v) := hD
  refine lv_aload_n hx hb dL_law_403 rfl (lv_at hl 2 rfl) ?_
  refine lv_aload_n hx hb dL_law_404 rfl (lv_at hl 0 rfl) ?_
  refine lv_iload_n hx hb dL_law_405 rfl (lv_at hl 3 rfl) ?_
  refine lv_iconst (v := 1) hx hb dL_law_406 (by decide) ?_
  refine lv_iadd hx hb dL_law_407 ?_
  refine va_sld hx hb hX hbl hbA hS hq1 dL_law_408 ?_
  refine lv_aload_n hx hb dL_law_409 rfl (lv_at hl 0 rfl) ?_
  refine lv_iload_n hx hb dL_law_410 rfl (lv_at hl 3 rfl) ?_
  refine lv_iconst (v := 2) hx hb dL_law_411 (by decide) ?_
  refine lv_iadd hx hb dL_law_412 ?_
  refine va_sld hx hb hX hbl hbA hS hq2 dL_law_413 ?_
  have hFc9 := free_right hD hS hA
  refine cVM (As := [.int (xs (ix (i + 1))), .int (xs (ix (i + 2)))]) (rest := [.int z.1]) ⟨hx, hb, hml, hown, fun w h => hts w (hv_X12_tried w h)⟩ (mX12_tried l D T hm am v _ (xs (ix (i + 1))) (xs (ix (i + 2))) y hy) (cwV 2 (fun w h => hts w (hv_X12_tried w h)) gT_X12_tried rfl rfl rfl (by decide +kernel) ⟨Nat.le_of_ble_eq_true rfl, Nat.le_of_ble_eq_true rfl⟩) (recM hK hP) (P_right hP) hK rfl hl.1 rfl (Nat.le_of_ble_eq_true rfl) dL_law_414 ⟨Nat.le_of_ble_eq_true rfl, Nat.le_of_ble_eq_true rfl⟩ (D_right hD) hFc9 hS (fun H9 locs hP1 hD1 hk1 hS => ?_)
  obtain ⟨hP, hD⟩ := join_right hP hD hk1 hFc9 hP1 hD1
  generalize H9 = H at hP hS ⊢
  refine lv_icmp_eq (tgt := 1070) hx hb dL_law_417 (by decide) (fun _ => ?_) (fun c9 => absurd he c9)
  exact kk a aa (sg (sg (sg g 5 z.2.1) 6 z.2.2.1) 13 z.2.2.2) w y.2 _ _ ls hR hP hD hS hl
set_option maxHeartbeats 4000000 in
set_option maxRecDepth 100000 in
theorem lc_walkerIs {p : Program} {e : Env} {s : State} {m : MethodId} {below : List Frame} {meth : Method} {c : Code} (l : Launch) {b L : Nat} {xs : Nat → Int32} {D : va_G} {T : Ty3} {kv : (Nat → Nat) × (Nat → Nat)} (hL : L ≤ 3072) (hx : p.tables.exec = Jvm.exec) (hb : c.code = cL_law) (hml : c.maxLocals = 4) (hown : s.vm.findClass RL = some m.cls) (hts : ∀ w ∈ lw_tbl, w.before #[Value.ref b] s = true) (hX : va_X b L xs s s.heap) (hbl : b < s.heap.size) (hK : cK D T s) (hE : sK (fun q : Nat => s.heap.size ≤ q) kv s s.heap) {i : Int32} {j : Nat} (hi : i = nI j) (hj : j + 6 ≤ L) {h hm : Nat} {a am : Nat → Nat} {aa : Nat → Nat → Nat} {g : Nat → St} {w : Nat → Int64} {v : St} {H : Heap} {locs : List Loc} {ls : Array Slot} (hRel : Rel g v) (hP : va_P D vwCl (WG T h a aa g w ++ kX12 T hm am v) H) (hD : va_D (fun q : Nat => s.heap.size ≤ q) (WG T h a aa g w ++ kX12 T hm am v)) (hS : va_S (fun q : Nat => s.heap.size ≤ q) s.heap H locs) (hl : lv_has ls 4 [(0, .ref b), (1, .ref h), (2, .ref hm), (3, .int i)]) (kk : ∀ (a' : Nat → Nat) (aa' : Nat → Nat → Nat) (g' : Nat → St) (w' : Nat → Int64) (v' : St) (H' : Heap) (locs' : List Loc) (ls' : Array Slot), Rel g' v' → va_P D vwCl (WG T h a' aa' g' w' ++ kX12 T hm am v') H' → va_D (fun q : Nat => s.heap.size ≤ q) (WG T h a' aa' g' w' ++ kX12 T hm am v') → va_S (fun q : Nat => s.heap.size ≤ q) s.heap H' locs' → lv_has ls' 4 [(0, .ref b), (1, .ref h), (2, .ref hm), (3, .int i)] → W p l e room_1 s m #[Value.ref b] below meth c H' locs' 96 13112 (lw_Z below #[Value.ref b] s) (F0 m 1070 ls' [])) : W p l e room_1 s m #[Value.ref b] below meth c H locs 96 13112 (lw_Z below #[Value.ref b] s) (F0 m 422 ls []) := by
  have hA : ∀ q : Nat, s.heap.size ≤ q → (fun q : Nat => s.heap.size ≤ q) q := fun _ h => h
  have hbA : ¬ (fun q : Nat => s.heap.size ≤ q) b := Nat.not_le.mpr hbl
  have hq1 : vp_in (i + 1) L := by rw [hi, show (1 : Int32) = nI 1 from rfl, nI_add]; exact vp_in_nI (by omega) (by omega)
  have hq2 : vp_in (i + 2) L := by rw [hi, show (2 : Int32) = nI 2 from rfl, nI_add]; exact vp_in_nI (by omega) (by omega)
  refine lv_aload_n hx hb dL_law_422 rfl (lv_at hl 1 rfl) ?_
  refine lv_aload_n hx hb dL_law_423 rfl (lv_at hl 0 rfl) ?_
  refine lv_iload_n hx hb dL_law_424 rfl (lv_at hl 3 rfl) ?_
  refine lv_iconst (v := 1) hx hb dL_law_425 (by decide) ?_
  refine lv_iadd hx hb dL_law_426 ?_
  refine va_sld hx hb hX hbl hbA hS hq1 dL_law_427 ?_
  refine lv_aload_n hx hb dL_law_428 rfl (lv_at hl 0 rfl) ?_
  refine lv_iload_n hx hb dL_law_429 rfl (lv_at hl 3 rfl) ?_
  refine lv_iconst (v := 2) hx hb dL_law_430 (by decide) ?_
  refine lv_iadd hx hb dL_law_431 ?_
  refine va_sld hx hb hX hbl hbA hS hq2 dL_law_432 ?_
  obtain ⟨z, y, hz, hy, he, hR⟩ := eq_walkerIs g w v hRel (xs (ix (i + 1))) (xs (ix (i + 2))) 
  refine cVR (As := [.int (xs (ix (i + 1))), .int (xs (ix (i + 2)))]) (rest := []) ⟨hx, hb, hml, hown, fun w h => hts w (hv_X11_walkerIs w h)⟩ (mX11_walkerIs l D T aa h a (g 0) (g 1) (g 2) (g 3) (g 4) (g 5) (g 6) (g 7) (g 8) (g 9) (g 10) (g 11) w (g 13) (g 14) (g 15) (g 16) (xs (ix (i + 1))) (xs (ix (i + 2))) z hz) (cwV 2 (fun w h => hts w (hv_X11_walkerIs w h)) gT_X11_walkerIs rfl rfl rfl (by decide +kernel) ⟨Nat.le_of_ble_eq_true rfl, Nat.le_of_ble_eq_true rfl⟩) (va_recv hK.1 (P_left hP) (ci := 11) (q0 := 0) rfl rfl) (P_left hP) hK rfl hl.1 rfl (Nat.le_of_ble_eq_true rfl) dL_law_433 ⟨Nat.le_of_ble_eq_true rfl, Nat.le_of_ble_eq_true rfl⟩ hP hS (fun H locs hP hS => ?_)
  refine lv_aload_n hx hb dL_law_436 rfl (lv_at hl 2 rfl) ?_
  refine lv_aload_n hx hb dL_law_437 rfl (lv_at hl 0 rfl) ?_
  refine lv_iload_n hx hb dL_law_438 rfl (lv_at hl 3 rfl) ?_
  refine lv_iconst (v := 1) hx hb dL_law_439 (by decide) ?_
  refine lv_iadd hx hb dL_law_440 ?_
  refine va_sld hx hb hX hbl hbA hS hq1 dL_law_441 ?_
  refine lv_aload_n hx hb dL_law_442 rfl (lv_at hl 0 rfl) ?_
  refine lv_iload_n hx hb dL_law_443 rfl (lv_at hl 3 rfl) ?_
  refine lv_iconst (v := 2) hx hb dL_law_444 (by decide) ?_
  refine lv_iadd hx hb dL_law_445 ?_
  refine va_sld hx hb hX hbl hbA hS hq2 dL_law_446 ?_
  refine cVR (As := [.int (xs (ix (i + 1))), .int (xs (ix (i + 2)))]) (rest := [.int z]) ⟨hx, hb, hml, hown, fun w h => hts w (hv_X12_walkerIs w h)⟩ (mX12_walkerIs l D T hm am v (xs (ix (i + 1))) (xs (ix (i + 2))) y hy) (cwV 2 (fun w h => hts w (hv_X12_walkerIs w h)) gT_X12_walkerIs rfl rfl rfl (by decide +kernel) ⟨Nat.le_of_ble_eq_true rfl, Nat.le_of_ble_eq_true rfl⟩) (recM hK hP) (P_right hP) hK rfl hl.1 rfl (Nat.le_of_ble_eq_true rfl) dL_law_447 ⟨Nat.le_of_ble_eq_true rfl, Nat.le_of_ble_eq_true rfl⟩ hP hS (fun H locs hP hS => ?_)
  refine lv_icmp_eq (tgt := 1070) hx hb dL_law_450 (by decide) (fun _ => ?_) (fun c9 => absurd he c9)
  exact kk a aa g w v _ _ ls hR hP hD hS hl
set_option maxHeartbeats 4000000 in
set_option maxRecDepth 100000 in
theorem lc_standsFor {p : Program} {e : Env} {s : State} {m : MethodId} {below : List Frame} {meth : Method} {c : Code} (l : Launch) {b L : Nat} {xs : Nat → Int32} {D : va_G} {T : Ty3} {kv : (Nat → Nat) × (Nat → Nat)} (hL : L ≤ 3072) (hx : p.tables.exec = Jvm.exec) (hb : c.code = cL_law) (hml : c.maxLocals = 4) (hown : s.vm.findClass RL = some m.cls) (hts : ∀ w ∈ lw_tbl, w.before #[Value.ref b] s = true) (hX : va_X b L xs s s.heap) (hbl : b < s.heap.size) (hK : cK D T s) (hE : sK (fun q : Nat => s.heap.size ≤ q) kv s s.heap) {i : Int32} {j : Nat} (hi : i = nI j) (hj : j + 6 ≤ L) {h hm : Nat} {a am : Nat → Nat} {aa : Nat → Nat → Nat} {g : Nat → St} {w : Nat → Int64} {v : St} {H : Heap} {locs : List Loc} {ls : Array Slot} (hRel : Rel g v) (hP : va_P D vwCl (WG T h a aa g w ++ kX12 T hm am v) H) (hD : va_D (fun q : Nat => s.heap.size ≤ q) (WG T h a aa g w ++ kX12 T hm am v)) (hS : va_S (fun q : Nat => s.heap.size ≤ q) s.heap H locs) (hl : lv_has ls 4 [(0, .ref b), (1, .ref h), (2, .ref hm), (3, .int i)]) (kk : ∀ (a' : Nat → Nat) (aa' : Nat → Nat → Nat) (g' : Nat → St) (w' : Nat → Int64) (v' : St) (H' : Heap) (locs' : List Loc) (ls' : Array Slot), Rel g' v' → va_P D vwCl (WG T h a' aa' g' w' ++ kX12 T hm am v') H' → va_D (fun q : Nat => s.heap.size ≤ q) (WG T h a' aa' g' w' ++ kX12 T hm am v') → va_S (fun q : Nat => s.heap.size ≤ q) s.heap H' locs' → lv_has ls' 4 [(0, .ref b), (1, .ref h), (2, .ref hm), (3, .int i)] → W p l e room_1 s m #[Value.ref b] below meth c H' locs' 96 13112 (lw_Z below #[Value.ref b] s) (F0 m 1070 ls' [])) : W p l e room_1 s m #[Value.ref b] below meth c H locs 96 13112 (lw_Z below #[Value.ref b] s) (F0 m 455 ls []) := by
  have hA : ∀ q : Nat, s.heap.size ≤ q → (fun q : Nat => s.heap.size ≤ q) q := fun _ h => h
  have hbA : ¬ (fun q : Nat => s.heap.size ≤ q) b := Nat.not_le.mpr hbl
  have hq1 : vp_in (i + 1) L := by rw [hi, show (1 : Int32) = nI 1 from rfl, nI_add]; exact vp_in_nI (by omega) (by omega)
  have hq2 : vp_in (i + 2) L := by rw [hi, show (2 : Int32) = nI 2 from rfl, nI_add]; exact vp_in_nI (by omega) (by omega)
  refine lv_aload_n hx hb dL_law_455 rfl (lv_at hl 1 rfl) ?_
  refine lv_aload_n hx hb dL_law_456 rfl (lv_at hl 0 rfl) ?_
  refine lv_iload_n hx hb dL_law_457 rfl (lv_at hl 3 rfl) ?_
  refine lv_iconst (v := 1) hx hb dL_law_458 (by decide) ?_
  refine lv_iadd hx hb dL_law_459 ?_
  refine va_sld hx hb hX hbl hbA hS hq1 dL_law_460 ?_
  refine lv_aload_n hx hb dL_law_461 rfl (lv_at hl 0 rfl) ?_
  refine lv_iload_n hx hb dL_law_462 rfl (lv_at hl 3 rfl) ?_
  refine lv_iconst (v := 2) hx hb dL_law_463 (by decide) ?_
  refine lv_iadd hx hb dL_law_464 ?_
  refine va_sld hx hb hX hbl hbA hS hq2 dL_law_465 ?_
  obtain ⟨z, y, hz, hy, he, hR⟩ := eq_standsFor g w v hRel (xs (ix (i + 1))) (xs (ix (i + 2))) 
  have hFc9 := free_left hD hS hA
  refine cVM (As := [.int (xs (ix (i + 1))), .int (xs (ix (i + 2)))]) (rest := []) ⟨hx, hb, hml, hown, fun w h => hts w (hv_X11_standsFor w h)⟩ (mX11_standsFor l D T aa h a (g 0) (g 1) (g 2) (g 3) (g 4) (g 5) (g 6) (g 7) (g 8) (g 9) (g 10) (g 11) w (g 13) (g 14) (g 15) (g 16) _ (xs (ix (i + 1))) (xs (ix (i + 2))) z hz) (cwV 2 (fun w h => hts w (hv_X11_standsFor w h)) gT_X11_standsFor rfl rfl rfl (by decide +kernel) ⟨Nat.le_of_ble_eq_true rfl, Nat.le_of_ble_eq_true rfl⟩) (va_recv hK.1 (P_left hP) (ci := 11) (q0 := 0) rfl rfl) (P_left hP) hK rfl hl.1 rfl (Nat.le_of_ble_eq_true rfl) dL_law_466 ⟨Nat.le_of_ble_eq_true rfl, Nat.le_of_ble_eq_true rfl⟩ (D_left hD) hFc9 hS (fun H9 locs hP1 hD1 hk1 hS => ?_)
  obtain ⟨hP, hD⟩ := join_left hP hD hk1 hFc9 hP1 hD1
  generalize H9 = H at hP hS ⊢
  have hP : va_P D vwCl (WG T h a aa (sg g 9 z.2) w ++ kX12 T hm am v) H := hP
  have hD : va_D (fun q : Nat => s.heap.size ≤ q) (WG T h a aa (sg g 9 z.2) w ++ kX12 T hm am v) := hD
  refine lv_aload_n hx hb dL_law_469 rfl (lv_at hl 2 rfl) ?_
  refine lv_aload_n hx hb dL_law_470 rfl (lv_at hl 0 rfl) ?_
  refine lv_iload_n hx hb dL_law_471 rfl (lv_at hl 3 rfl) ?_
  refine lv_iconst (v := 1) hx hb dL_law_472 (by decide) ?_
  refine lv_iadd hx hb dL_law_473 ?_
  refine va_sld hx hb hX hbl hbA hS hq1 dL_law_474 ?_
  refine lv_aload_n hx hb dL_law_475 rfl (lv_at hl 0 rfl) ?_
  refine lv_iload_n hx hb dL_law_476 rfl (lv_at hl 3 rfl) ?_
  refine lv_iconst (v := 2) hx hb dL_law_477 (by decide) ?_
  refine lv_iadd hx hb dL_law_478 ?_
  refine va_sld hx hb hX hbl hbA hS hq2 dL_law_479 ?_
  refine cVR (As := [.int (xs (ix (i + 1))), .int (xs (ix (i + 2)))]) (rest := [.int z.1]) ⟨hx, hb, hml, hown, fun w h => hts w (hv_X12_standsFor w h)⟩ (mX12_standsFor l D T hm am v (xs (ix (i + 1))) (xs (ix (i + 2))) y hy) (cwV 2 (fun w h => hts w (hv_X12_standsFor w h)) gT_X12_standsFor rfl rfl rfl (by decide +kernel) ⟨Nat.le_of_ble_eq_true rfl, Nat.le_of_ble_eq_true rfl⟩) (recM hK hP) (P_right hP) hK rfl hl.1 rfl (Nat.le_of_ble_eq_true rfl) dL_law_480 ⟨Nat.le_of_ble_eq_true rfl, Nat.le_of_ble_eq_true rfl⟩ hP hS (fun H locs hP hS => ?_)
  refine lv_icmp_eq (tgt := 1070) hx hb dL_law_483 (by decide) (fun _ => ?_) (fun c9 => absurd he c9)
  exact kk a aa (sg g 9 z.2) w v _ _ ls hR hP hD hS hl
set_option maxHeartbeats 4000000 in
set_option maxRecDepth 100000 in
theorem lc_colonel {p : Program} {e : Env} {s : State} {m : MethodId} {below : List Frame} {meth : Method} {c : Code} (l : Launch) {b L : Nat} {xs : Nat → Int32} {D : va_G} {T : Ty3} {kv : (Nat → Nat) × (Nat → Nat)} (hL : L ≤ 3072) (hx : p.tables.exec = Jvm.exec) (hb : c.code = cL_law) (hml : c.maxLocals = 4) (hown : s.vm.findClass RL = some m.cls) (hts : ∀ w ∈ lw_tbl, w.before #[Value.ref b] s = true) (hX : va_X b L xs s s.heap) (hbl : b < s.heap.size) (hK : cK D T s) (hE : sK (fun q : Nat => s.heap.size ≤ q) kv s s.heap) {i : Int32} {j : Nat} (hi : i = nI j) (hj : j + 6 ≤ L) {h hm : Nat} {a am : Nat → Nat} {aa : Nat → Nat → Nat} {g : Nat → St} {w : Nat → Int64} {v : St} {H : Heap} {locs : List Loc} {ls : Array Slot} (hRel : Rel g v) (hP : va_P D vwCl (WG T h a aa g w ++ kX12 T hm am v) H) (hD : va_D (fun q : Nat => s.heap.size ≤ q) (WG T h a aa g w ++ kX12 T hm am v)) (hS : va_S (fun q : Nat => s.heap.size ≤ q) s.heap H locs) (hl : lv_has ls 4 [(0, .ref b), (1, .ref h), (2, .ref hm), (3, .int i)]) (kk : ∀ (a' : Nat → Nat) (aa' : Nat → Nat → Nat) (g' : Nat → St) (w' : Nat → Int64) (v' : St) (H' : Heap) (locs' : List Loc) (ls' : Array Slot), Rel g' v' → va_P D vwCl (WG T h a' aa' g' w' ++ kX12 T hm am v') H' → va_D (fun q : Nat => s.heap.size ≤ q) (WG T h a' aa' g' w' ++ kX12 T hm am v') → va_S (fun q : Nat => s.heap.size ≤ q) s.heap H' locs' → lv_has ls' 4 [(0, .ref b), (1, .ref h), (2, .ref hm), (3, .int i)] → W p l e room_1 s m #[Value.ref b] below meth c H' locs' 96 13112 (lw_Z below #[Value.ref b] s) (F0 m 1070 ls' [])) : W p l e room_1 s m #[Value.ref b] below meth c H locs 96 13112 (lw_Z below #[Value.ref b] s) (F0 m 488 ls []) := by
  have hA : ∀ q : Nat, s.heap.size ≤ q → (fun q : Nat => s.heap.size ≤ q) q := fun _ h => h
  have hbA : ¬ (fun q : Nat => s.heap.size ≤ q) b := Nat.not_le.mpr hbl
  have hq1 : vp_in (i + 1) L := by rw [hi, show (1 : Int32) = nI 1 from rfl, nI_add]; exact vp_in_nI (by omega) (by omega)
  have hq2 : vp_in (i + 2) L := by rw [hi, show (2 : Int32) = nI 2 from rfl, nI_add]; exact vp_in_nI (by omega) (by omega)
  refine lv_aload_n hx hb dL_law_488 rfl (lv_at hl 1 rfl) ?_
  refine lv_aload_n hx hb dL_law_489 rfl (lv_at hl 0 rfl) ?_
  refine lv_iload_n hx hb dL_law_490 rfl (lv_at hl 3 rfl) ?_
  refine lv_iconst (v := 1) hx hb dL_law_491 (by decide) ?_
  refine lv_iadd hx hb dL_law_492 ?_
  refine va_sld hx hb hX hbl hbA hS hq1 dL_law_493 ?_
  refine lv_aload_n hx hb dL_law_494 rfl (lv_at hl 0 rfl) ?_
  refine lv_iload_n hx hb dL_law_495 rfl (lv_at hl 3 rfl) ?_
  refine lv_iconst (v := 2) hx hb dL_law_496 (by decide) ?_
  refine lv_iadd hx hb dL_law_497 ?_
  refine va_sld hx hb hX hbl hbA hS hq2 dL_law_498 ?_
  obtain ⟨z, y, hz, hy, he, hR⟩ := eq_colonel g w v hRel (xs (ix (i + 1))) (xs (ix (i + 2))) 
  have hFc9 := free_left hD hS hA
  refine cVM (As := [.int (xs (ix (i + 1))), .int (xs (ix (i + 2)))]) (rest := []) ⟨hx, hb, hml, hown, fun w h => hts w (hv_X11_colonel w h)⟩ (mX11_colonel l D T aa h a (g 0) (g 1) (g 2) (g 3) (g 4) (g 5) (g 6) (g 7) (g 8) (g 9) (g 10) (g 11) w (g 13) (g 14) (g 15) (g 16) _ (xs (ix (i + 1))) (xs (ix (i + 2))) z hz) (cwV 2 (fun w h => hts w (hv_X11_colonel w h)) gT_X11_colonel rfl rfl rfl (by decide +kernel) ⟨Nat.le_of_ble_eq_true rfl, Nat.le_of_ble_eq_true rfl⟩) (va_recv hK.1 (P_left hP) (ci := 11) (q0 := 0) rfl rfl) (P_left hP) hK rfl hl.1 rfl (Nat.le_of_ble_eq_true rfl) dL_law_499 ⟨Nat.le_of_ble_eq_true rfl, Nat.le_of_ble_eq_true rfl⟩ (D_left hD) hFc9 hS (fun H9 locs hP1 hD1 hk1 hS => ?_)
  obtain ⟨hP, hD⟩ := join_left hP hD hk1 hFc9 hP1 hD1
  generalize H9 = H at hP hS ⊢
  have hP : va_P D vwCl (WG T h a aa (sg g 9 z.2) w ++ kX12 T hm am v) H := hP
  have hD : va_D (fun q : Nat => s.heap.size ≤ q) (WG T h a aa (sg g 9 z.2) w ++ kX12 T hm am v) := hD
  refine lv_aload_n hx hb dL_law_502 rfl (lv_at hl 2 rfl) ?_
  refine lv_aload_n hx hb dL_law_503 rfl (lv_at hl 0 rfl) ?_
  refine lv_iload_n hx hb dL_law_504 rfl (lv_at hl 3 rfl) ?_
  refine lv_iconst (v := 1) hx hb dL_law_505 (by decide) ?_
  refine lv_iadd hx hb dL_law_506 ?_
  refine va_sld hx hb hX hbl hbA hS hq1 dL_law_507 ?_
  refine lv_aload_n hx hb dL_law_508 rfl (lv_at hl 0 rfl) ?_
  refine lv_iload_n hx hb dL_law_509 rfl (lv_at hl 3 rfl) ?_
  refine lv_iconst (v := 2) hx hb dL_law_510 (by decide) ?_
  refine lv_iadd hx hb dL_law_511 ?_
  refine va_sld hx hb hX hbl hbA hS hq2 dL_law_512 ?_
  refine cVR (As := [.int (xs (ix (i + 1))), .int (xs (ix (i + 2)))]) (rest := [.int z.1]) ⟨hx, hb, hml, hown, fun w h => hts w (hv_X12_colonel w h)⟩ (mX12_colonel l D T hm am v (xs (ix (i + 1))) (xs (ix (i + 2))) y hy) (cwV 2 (fun w h => hts w (hv_X12_colonel w h)) gT_X12_colonel rfl rfl rfl (by decide +kernel) ⟨Nat.le_of_ble_eq_true rfl, Nat.le_of_ble_eq_true rfl⟩) (recM hK hP) (P_right hP) hK rfl hl.1 rfl (Nat.le_of_ble_eq_true rfl) dL_law_513 ⟨Nat.le_of_ble_eq_true rfl, Nat.le_of_ble_eq_true rfl⟩ hP hS (fun H locs hP hS => ?_)
  refine lv_icmp_eq (tgt := 1070) hx hb dL_law_516 (by decide) (fun _ => ?_) (fun c9 => absurd he c9)
  exact kk a aa (sg g 9 z.2) w v _ _ ls hR hP hD hS hl
set_option maxHeartbeats 4000000 in
set_option maxRecDepth 100000 in
theorem lc_party {p : Program} {e : Env} {s : State} {m : MethodId} {below : List Frame} {meth : Method} {c : Code} (l : Launch) {b L : Nat} {xs : Nat → Int32} {D : va_G} {T : Ty3} {kv : (Nat → Nat) × (Nat → Nat)} (hL : L ≤ 3072) (hx : p.tables.exec = Jvm.exec) (hb : c.code = cL_law) (hml : c.maxLocals = 4) (hown : s.vm.findClass RL = some m.cls) (hts : ∀ w ∈ lw_tbl, w.before #[Value.ref b] s = true) (hX : va_X b L xs s s.heap) (hbl : b < s.heap.size) (hK : cK D T s) (hE : sK (fun q : Nat => s.heap.size ≤ q) kv s s.heap) {i : Int32} {j : Nat} (hi : i = nI j) (hj : j + 6 ≤ L) {h hm : Nat} {a am : Nat → Nat} {aa : Nat → Nat → Nat} {g : Nat → St} {w : Nat → Int64} {v : St} {H : Heap} {locs : List Loc} {ls : Array Slot} (hRel : Rel g v) (hP : va_P D vwCl (WG T h a aa g w ++ kX12 T hm am v) H) (hD : va_D (fun q : Nat => s.heap.size ≤ q) (WG T h a aa g w ++ kX12 T hm am v)) (hS : va_S (fun q : Nat => s.heap.size ≤ q) s.heap H locs) (hl : lv_has ls 4 [(0, .ref b), (1, .ref h), (2, .ref hm), (3, .int i)]) (kk : ∀ (a' : Nat → Nat) (aa' : Nat → Nat → Nat) (g' : Nat → St) (w' : Nat → Int64) (v' : St) (H' : Heap) (locs' : List Loc) (ls' : Array Slot), Rel g' v' → va_P D vwCl (WG T h a' aa' g' w' ++ kX12 T hm am v') H' → va_D (fun q : Nat => s.heap.size ≤ q) (WG T h a' aa' g' w' ++ kX12 T hm am v') → va_S (fun q : Nat => s.heap.size ≤ q) s.heap H' locs' → lv_has ls' 4 [(0, .ref b), (1, .ref h), (2, .ref hm), (3, .int i)] → W p l e room_1 s m #[Value.ref b] below meth c H' locs' 96 13112 (lw_Z below #[Value.ref b] s) (F0 m 1070 ls' [])) : W p l e room_1 s m #[Value.ref b] below meth c H locs 96 13112 (lw_Z below #[Value.ref b] s) (F0 m 521 ls []) := by
  have hA : ∀ q : Nat, s.heap.size ≤ q → (fun q : Nat => s.heap.size ≤ q) q := fun _ h => h
  have hbA : ¬ (fun q : Nat => s.heap.size ≤ q) b := Nat.not_le.mpr hbl
  have hq1 : vp_in (i + 1) L := by rw [hi, show (1 : Int32) = nI 1 from rfl, nI_add]; exact vp_in_nI (by omega) (by omega)
  have hq2 : vp_in (i + 2) L := by rw [hi, show (2 : Int32) = nI 2 from rfl, nI_add]; exact vp_in_nI (by omega) (by omega)
  have hq3 : vp_in (i + 3) L := by rw [hi, show (3 : Int32) = nI 3 from rfl, nI_add]; exact vp_in_nI (by omega) (by omega)
  refine lv_aload_n hx hb dL_law_521 rfl (lv_at hl 1 rfl) ?_
  refine lv_aload_n hx hb dL_law_522 rfl (lv_at hl 0 rfl) ?_
  refine lv_iload_n hx hb dL_law_523 rfl (lv_at hl 3 rfl) ?_
  refine lv_iconst (v := 1) hx hb dL_law_524 (by decide) ?_
  refine lv_iadd hx hb dL_law_525 ?_
  refine va_sld hx hb hX hbl hbA hS hq1 dL_law_526 ?_
  refine lv_aload_n hx hb dL_law_527 rfl (lv_at hl 0 rfl) ?_
  refine lv_iload_n hx hb dL_law_528 rfl (lv_at hl 3 rfl) ?_
  refine lv_iconst (v := 2) hx hb dL_law_529 (by decide) ?_
  refine lv_iadd hx hb dL_law_530 ?_
  refine va_sld hx hb hX hbl hbA hS hq2 dL_law_531 ?_
  refine lv_aload_n hx hb dL_law_532 rfl (lv_at hl 0 rfl) ?_
  refine lv_iload_n hx hb dL_law_533 rfl (lv_at hl 3 rfl) ?_
  refine lv_iconst (v := 3) hx hb dL_law_534 (by decide) ?_
  refine lv_iadd hx hb dL_law_535 ?_
  refine va_sld hx hb hX hbl hbA hS hq3 dL_law_536 ?_
  obtain ⟨z, y, hz, hy, he, hR⟩ := eq_party g w v hRel (xs (ix (i + 1))) (xs (ix (i + 2))) (xs (ix (i + 3))) 
  have hFc9 := free_left hD hS hA
  refine cVM (As := [.int (xs (ix (i + 1))), .int (xs (ix (i + 2))), .int (xs (ix (i + 3)))]) (rest := []) ⟨hx, hb, hml, hown, fun w h => hts w (hv_X11_party w h)⟩ (mX11_party l D T aa h a (g 0) (g 1) (g 2) (g 3) (g 4) (g 5) (g 6) (g 7) (g 8) (g 9) (g 10) (g 11) w (g 13) (g 14) (g 15) (g 16) _ (xs (ix (i + 1))) (xs (ix (i + 2))) (xs (ix (i + 3))) z hz) (cwV 3 (fun w h => hts w (hv_X11_party w h)) gT_X11_party rfl rfl rfl (by decide +kernel) ⟨Nat.le_of_ble_eq_true rfl, Nat.le_of_ble_eq_true rfl⟩) (va_recv hK.1 (P_left hP) (ci := 11) (q0 := 0) rfl rfl) (P_left hP) hK rfl hl.1 rfl (Nat.le_of_ble_eq_true rfl) dL_law_537 ⟨Nat.le_of_ble_eq_true rfl, Nat.le_of_ble_eq_true rfl⟩ (D_left hD) hFc9 hS (fun H9 locs hP1 hD1 hk1 hS => ?_)
  obtain ⟨hP, hD⟩ := join_left hP hD hk1 hFc9 hP1 hD1
  generalize H9 = H at hP hS ⊢
  have hP : va_P D vwCl (WG T h a aa (sg g 9 z.2) w ++ kX12 T hm am v) H := hP
  have hD : va_D (fun q : Nat => s.heap.size ≤ q) (WG T h a aa (sg g 9 z.2) w ++ kX12 T hm am v) := hD
  refine lv_aload_n hx hb dL_law_540 rfl (lv_at hl 2 rfl) ?_
  refine lv_aload_n hx hb dL_law_541 rfl (lv_at hl 0 rfl) ?_
  refine lv_iload_n hx hb dL_law_542 rfl (lv_at hl 3 rfl) ?_
  refine lv_iconst (v := 1) hx hb dL_law_543 (by decide) ?_
  refine lv_iadd hx hb dL_law_544 ?_
  refine va_sld hx hb hX hbl hbA hS hq1 dL_law_545 ?_
  refine lv_aload_n hx hb dL_law_546 rfl (lv_at hl 0 rfl) ?_
  refine lv_iload_n hx hb dL_law_547 rfl (lv_at hl 3 rfl) ?_
  refine lv_iconst (v := 2) hx hb dL_law_548 (by decide) ?_
  refine lv_iadd hx hb dL_law_549 ?_
  refine va_sld hx hb hX hbl hbA hS hq2 dL_law_550 ?_
  refine lv_aload_n hx hb dL_law_551 rfl (lv_at hl 0 rfl) ?_
  refine lv_iload_n hx hb dL_law_552 rfl (lv_at hl 3 rfl) ?_
  refine lv_iconst (v := 3) hx hb dL_law_553 (by decide) ?_
  refine lv_iadd hx hb dL_law_554 ?_
  refine va_sld hx hb hX hbl hbA hS hq3 dL_law_555 ?_
  have hFc9 := free_right hD hS hA
  refine cVM (As := [.int (xs (ix (i + 1))), .int (xs (ix (i + 2))), .int (xs (ix (i + 3)))]) (rest := [.int z.1]) ⟨hx, hb, hml, hown, fun w h => hts w (hv_X12_party w h)⟩ (mX12_party l D T hm am v _ (xs (ix (i + 1))) (xs (ix (i + 2))) (xs (ix (i + 3))) y hy) (cwV 3 (fun w h => hts w (hv_X12_party w h)) gT_X12_party rfl rfl rfl (by decide +kernel) ⟨Nat.le_of_ble_eq_true rfl, Nat.le_of_ble_eq_true rfl⟩) (recM hK hP) (P_right hP) hK rfl hl.1 rfl (Nat.le_of_ble_eq_true rfl) dL_law_556 ⟨Nat.le_of_ble_eq_true rfl, Nat.le_of_ble_eq_true rfl⟩ (D_right hD) hFc9 hS (fun H9 locs hP1 hD1 hk1 hS => ?_)
  obtain ⟨hP, hD⟩ := join_right hP hD hk1 hFc9 hP1 hD1
  generalize H9 = H at hP hS ⊢
  refine lv_icmp_eq (tgt := 1070) hx hb dL_law_559 (by decide) (fun _ => ?_) (fun c9 => absurd he c9)
  exact kk a aa (sg g 9 z.2) w y.2 _ _ ls hR hP hD hS hl
set_option maxHeartbeats 4000000 in
set_option maxRecDepth 100000 in
theorem lc_areTrue {p : Program} {e : Env} {s : State} {m : MethodId} {below : List Frame} {meth : Method} {c : Code} (l : Launch) {b L : Nat} {xs : Nat → Int32} {D : va_G} {T : Ty3} {kv : (Nat → Nat) × (Nat → Nat)} (hL : L ≤ 3072) (hx : p.tables.exec = Jvm.exec) (hb : c.code = cL_law) (hml : c.maxLocals = 4) (hown : s.vm.findClass RL = some m.cls) (hts : ∀ w ∈ lw_tbl, w.before #[Value.ref b] s = true) (hX : va_X b L xs s s.heap) (hbl : b < s.heap.size) (hK : cK D T s) (hE : sK (fun q : Nat => s.heap.size ≤ q) kv s s.heap) {i : Int32} {j : Nat} (hi : i = nI j) (hj : j + 6 ≤ L) {h hm : Nat} {a am : Nat → Nat} {aa : Nat → Nat → Nat} {g : Nat → St} {w : Nat → Int64} {v : St} {H : Heap} {locs : List Loc} {ls : Array Slot} (hRel : Rel g v) (hP : va_P D vwCl (WG T h a aa g w ++ kX12 T hm am v) H) (hD : va_D (fun q : Nat => s.heap.size ≤ q) (WG T h a aa g w ++ kX12 T hm am v)) (hS : va_S (fun q : Nat => s.heap.size ≤ q) s.heap H locs) (hl : lv_has ls 4 [(0, .ref b), (1, .ref h), (2, .ref hm), (3, .int i)]) (kk : ∀ (a' : Nat → Nat) (aa' : Nat → Nat → Nat) (g' : Nat → St) (w' : Nat → Int64) (v' : St) (H' : Heap) (locs' : List Loc) (ls' : Array Slot), Rel g' v' → va_P D vwCl (WG T h a' aa' g' w' ++ kX12 T hm am v') H' → va_D (fun q : Nat => s.heap.size ≤ q) (WG T h a' aa' g' w' ++ kX12 T hm am v') → va_S (fun q : Nat => s.heap.size ≤ q) s.heap H' locs' → lv_has ls' 4 [(0, .ref b), (1, .ref h), (2, .ref hm), (3, .int i)] → W p l e room_1 s m #[Value.ref b] below meth c H' locs' 96 13112 (lw_Z below #[Value.ref b] s) (F0 m 1070 ls' [])) : W p l e room_1 s m #[Value.ref b] below meth c H locs 96 13112 (lw_Z below #[Value.ref b] s) (F0 m 564 ls []) := by
  have hA : ∀ q : Nat, s.heap.size ≤ q → (fun q : Nat => s.heap.size ≤ q) q := fun _ h => h
  have hbA : ¬ (fun q : Nat => s.heap.size ≤ q) b := Nat.not_le.mpr hbl
  have hq1 : vp_in (i + 1) L := by rw [hi, show (1 : Int32) = nI 1 from rfl, nI_add]; exact vp_in_nI (by omega) (by omega)
  refine lv_aload_n hx hb dL_law_564 rfl (lv_at hl 1 rfl) ?_
  refine lv_aload_n hx hb dL_law_565 rfl (lv_at hl 0 rfl) ?_
  refine lv_iload_n hx hb dL_law_566 rfl (lv_at hl 3 rfl) ?_
  refine lv_iconst (v := 1) hx hb dL_law_567 (by decide) ?_
  refine lv_iadd hx hb dL_law_568 ?_
  refine va_sld hx hb hX hbl hbA hS hq1 dL_law_569 ?_
  obtain ⟨z, y, hz, hy, he, hR⟩ := eq_areTrue g w v hRel (xs (ix (i + 1))) 
  have hFc9 := free_left hD hS hA
  refine cVM (As := [.int (xs (ix (i + 1)))]) (rest := []) ⟨hx, hb, hml, hown, fun w h => hts w (hv_X11_areTrue w h)⟩ (mX11_areTrue l D T aa h a (g 0) (g 1) (g 2) (g 3) (g 4) (g 5) (g 6) (g 7) (g 8) (g 9) (g 10) (g 11) w (g 13) (g 14) (g 15) (g 16) _ (xs (ix (i + 1))) z hz) (cwV 1 (fun w h => hts w (hv_X11_areTrue w h)) gT_X11_areTrue rfl rfl rfl (by decide +kernel) ⟨Nat.le_of_ble_eq_true rfl, Nat.le_of_ble_eq_true rfl⟩) (va_recv hK.1 (P_left hP) (ci := 11) (q0 := 0) rfl rfl) (P_left hP) hK rfl hl.1 rfl (Nat.le_of_ble_eq_true rfl) dL_law_570 ⟨Nat.le_of_ble_eq_true rfl, Nat.le_of_ble_eq_true rfl⟩ (D_left hD) hFc9 hS (fun H9 locs hP1 hD1 hk1 hS => ?_)
  obtain ⟨hP, hD⟩ := join_left hP hD hk1 hFc9 hP1 hD1
  generalize H9 = H at hP hS ⊢
  have hP : va_P D vwCl (WG T h a aa (sg g 9 z.2) w ++ kX12 T hm am v) H := hP
  have hD : va_D (fun q : Nat => s.heap.size ≤ q) (WG T h a aa (sg g 9 z.2) w ++ kX12 T hm am v) := hD
  refine lv_aload_n hx hb dL_law_573 rfl (lv_at hl 2 rfl) ?_
  refine lv_aload_n hx hb dL_law_574 rfl (lv_at hl 0 rfl) ?_
  refine lv_iload_n hx hb dL_law_575 rfl (lv_at hl 3 rfl) ?_
  refine lv_iconst (v := 1) hx hb dL_law_576 (by decide) ?_
  refine lv_iadd hx hb dL_law_577 ?_
  refine va_sld hx hb hX hbl hbA hS hq1 dL_law_578 ?_
  refine cVR (As := [.int (xs (ix (i + 1)))]) (rest := [.int z.1]) ⟨hx, hb, hml, hown, fun w h => hts w (hv_X12_areTrue w h)⟩ (mX12_areTrue l D T hm am v (xs (ix (i + 1))) y hy) (cwV 1 (fun w h => hts w (hv_X12_areTrue w h)) gT_X12_areTrue rfl rfl rfl (by decide +kernel) ⟨Nat.le_of_ble_eq_true rfl, Nat.le_of_ble_eq_true rfl⟩) (recM hK hP) (P_right hP) hK rfl hl.1 rfl (Nat.le_of_ble_eq_true rfl) dL_law_579 ⟨Nat.le_of_ble_eq_true rfl, Nat.le_of_ble_eq_true rfl⟩ hP hS (fun H locs hP hS => ?_)
  refine lv_icmp_eq (tgt := 1070) hx hb dL_law_582 (by decide) (fun _ => ?_) (fun c9 => absurd he c9)
  exact kk a aa (sg g 9 z.2) w v _ _ ls hR hP hD hS hl
set_option maxHeartbeats 4000000 in
set_option maxRecDepth 100000 in
theorem lc_odd {p : Program} {e : Env} {s : State} {m : MethodId} {below : List Frame} {meth : Method} {c : Code} (l : Launch) {b L : Nat} {xs : Nat → Int32} {D : va_G} {T : Ty3} {kv : (Nat → Nat) × (Nat → Nat)} (hL : L ≤ 3072) (hx : p.tables.exec = Jvm.exec) (hb : c.code = cL_law) (hml : c.maxLocals = 4) (hown : s.vm.findClass RL = some m.cls) (hts : ∀ w ∈ lw_tbl, w.before #[Value.ref b] s = true) (hX : va_X b L xs s s.heap) (hbl : b < s.heap.size) (hK : cK D T s) (hE : sK (fun q : Nat => s.heap.size ≤ q) kv s s.heap) {i : Int32} {j : Nat} (hi : i = nI j) (hj : j + 6 ≤ L) {h hm : Nat} {a am : Nat → Nat} {aa : Nat → Nat → Nat} {g : Nat → St} {w : Nat → Int64} {v : St} {H : Heap} {locs : List Loc} {ls : Array Slot} (hRel : Rel g v) (hP : va_P D vwCl (WG T h a aa g w ++ kX12 T hm am v) H) (hD : va_D (fun q : Nat => s.heap.size ≤ q) (WG T h a aa g w ++ kX12 T hm am v)) (hS : va_S (fun q : Nat => s.heap.size ≤ q) s.heap H locs) (hl : lv_has ls 4 [(0, .ref b), (1, .ref h), (2, .ref hm), (3, .int i)]) (kk : ∀ (a' : Nat → Nat) (aa' : Nat → Nat → Nat) (g' : Nat → St) (w' : Nat → Int64) (v' : St) (H' : Heap) (locs' : List Loc) (ls' : Array Slot), Rel g' v' → va_P D vwCl (WG T h a' aa' g' w' ++ kX12 T hm am v') H' → va_D (fun q : Nat => s.heap.size ≤ q) (WG T h a' aa' g' w' ++ kX12 T hm am v') → va_S (fun q : Nat => s.heap.size ≤ q) s.heap H' locs' → lv_has ls' 4 [(0, .ref b), (1, .ref h), (2, .ref hm), (3, .int i)] → W p l e room_1 s m #[Value.ref b] below meth c H' locs' 96 13112 (lw_Z below #[Value.ref b] s) (F0 m 1070 ls' [])) : W p l e room_1 s m #[Value.ref b] below meth c H locs 96 13112 (lw_Z below #[Value.ref b] s) (F0 m 587 ls []) := by
  have hA : ∀ q : Nat, s.heap.size ≤ q → (fun q : Nat => s.heap.size ≤ q) q := fun _ h => h
  have hbA : ¬ (fun q : Nat => s.heap.size ≤ q) b := Nat.not_le.mpr hbl
  have hq1 : vp_in (i + 1) L := by rw [hi, show (1 : Int32) = nI 1 from rfl, nI_add]; exact vp_in_nI (by omega) (by omega)
  refine lv_aload_n hx hb dL_law_587 rfl (lv_at hl 1 rfl) ?_
  refine lv_aload_n hx hb dL_law_588 rfl (lv_at hl 0 rfl) ?_
  refine lv_iload_n hx hb dL_law_589 rfl (lv_at hl 3 rfl) ?_
  refine lv_iconst (v := 1) hx hb dL_law_590 (by decide) ?_
  refine lv_iadd hx hb dL_law_591 ?_
  refine va_sld hx hb hX hbl hbA hS hq1 dL_law_592 ?_
  obtain ⟨z, y, hz, hy, he, hR⟩ := eq_odd g w v hRel (xs (ix (i + 1))) 
  refine cVR (As := [.int (xs (ix (i + 1)))]) (rest := []) ⟨hx, hb, hml, hown, fun w h => hts w (hv_X11_odd w h)⟩ (mX11_odd l D T aa h a (g 0) (g 1) (g 2) (g 3) (g 4) (g 5) (g 6) (g 7) (g 8) (g 9) (g 10) (g 11) w (g 13) (g 14) (g 15) (g 16) (xs (ix (i + 1))) z hz) (cwV 1 (fun w h => hts w (hv_X11_odd w h)) gT_X11_odd rfl rfl rfl (by decide +kernel) ⟨Nat.le_of_ble_eq_true rfl, Nat.le_of_ble_eq_true rfl⟩) (va_recv hK.1 (P_left hP) (ci := 11) (q0 := 0) rfl rfl) (P_left hP) hK rfl hl.1 rfl (Nat.le_of_ble_eq_true rfl) dL_law_593 ⟨Nat.le_of_ble_eq_true rfl, Nat.le_of_ble_eq_true rfl⟩ hP hS (fun H locs hP hS => ?_)
  refine lv_aload_n hx hb dL_law_596 rfl (lv_at hl 2 rfl) ?_
  refine lv_aload_n hx hb dL_law_597 rfl (lv_at hl 0 rfl) ?_
  refine lv_iload_n hx hb dL_law_598 rfl (lv_at hl 3 rfl) ?_
  refine lv_iconst (v := 1) hx hb dL_law_599 (by decide) ?_
  refine lv_iadd hx hb dL_law_600 ?_
  refine va_sld hx hb hX hbl hbA hS hq1 dL_law_601 ?_
  refine cVR (As := [.int (xs (ix (i + 1)))]) (rest := [.int z]) ⟨hx, hb, hml, hown, fun w h => hts w (hv_X12_odd w h)⟩ (mX12_odd l D T hm am v (xs (ix (i + 1))) y hy) (cwV 1 (fun w h => hts w (hv_X12_odd w h)) gT_X12_odd rfl rfl rfl (by decide +kernel) ⟨Nat.le_of_ble_eq_true rfl, Nat.le_of_ble_eq_true rfl⟩) (recM hK hP) (P_right hP) hK rfl hl.1 rfl (Nat.le_of_ble_eq_true rfl) dL_law_602 ⟨Nat.le_of_ble_eq_true rfl, Nat.le_of_ble_eq_true rfl⟩ hP hS (fun H locs hP hS => ?_)
  refine lv_icmp_eq (tgt := 1070) hx hb dL_law_605 (by decide) (fun _ => ?_) (fun c9 => absurd he c9)
  exact kk a aa g w v _ _ ls hR hP hD hS hl
set_option maxHeartbeats 4000000 in
set_option maxRecDepth 100000 in
theorem lc_heavier {p : Program} {e : Env} {s : State} {m : MethodId} {below : List Frame} {meth : Method} {c : Code} (l : Launch) {b L : Nat} {xs : Nat → Int32} {D : va_G} {T : Ty3} {kv : (Nat → Nat) × (Nat → Nat)} (hL : L ≤ 3072) (hx : p.tables.exec = Jvm.exec) (hb : c.code = cL_law) (hml : c.maxLocals = 4) (hown : s.vm.findClass RL = some m.cls) (hts : ∀ w ∈ lw_tbl, w.before #[Value.ref b] s = true) (hX : va_X b L xs s s.heap) (hbl : b < s.heap.size) (hK : cK D T s) (hE : sK (fun q : Nat => s.heap.size ≤ q) kv s s.heap) {i : Int32} {j : Nat} (hi : i = nI j) (hj : j + 6 ≤ L) {h hm : Nat} {a am : Nat → Nat} {aa : Nat → Nat → Nat} {g : Nat → St} {w : Nat → Int64} {v : St} {H : Heap} {locs : List Loc} {ls : Array Slot} (hRel : Rel g v) (hP : va_P D vwCl (WG T h a aa g w ++ kX12 T hm am v) H) (hD : va_D (fun q : Nat => s.heap.size ≤ q) (WG T h a aa g w ++ kX12 T hm am v)) (hS : va_S (fun q : Nat => s.heap.size ≤ q) s.heap H locs) (hl : lv_has ls 4 [(0, .ref b), (1, .ref h), (2, .ref hm), (3, .int i)]) (kk : ∀ (a' : Nat → Nat) (aa' : Nat → Nat → Nat) (g' : Nat → St) (w' : Nat → Int64) (v' : St) (H' : Heap) (locs' : List Loc) (ls' : Array Slot), Rel g' v' → va_P D vwCl (WG T h a' aa' g' w' ++ kX12 T hm am v') H' → va_D (fun q : Nat => s.heap.size ≤ q) (WG T h a' aa' g' w' ++ kX12 T hm am v') → va_S (fun q : Nat => s.heap.size ≤ q) s.heap H' locs' → lv_has ls' 4 [(0, .ref b), (1, .ref h), (2, .ref hm), (3, .int i)] → W p l e room_1 s m #[Value.ref b] below meth c H' locs' 96 13112 (lw_Z below #[Value.ref b] s) (F0 m 1070 ls' [])) : W p l e room_1 s m #[Value.ref b] below meth c H locs 96 13112 (lw_Z below #[Value.ref b] s) (F0 m 610 ls []) := by
  have hA : ∀ q : Nat, s.heap.size ≤ q → (fun q : Nat => s.heap.size ≤ q) q := fun _ h => h
  have hbA : ¬ (fun q : Nat => s.heap.size ≤ q) b := Nat.not_le.mpr hbl
  have hq1 : vp_in (i + 1) L := by rw [hi, show (1 : Int32) = nI 1 from rfl, nI_add]; exact vp_in_nI (by omega) (by omega)
  have hq2 : vp_in (i + 2) L := by rw [hi, show (2 : Int32) = nI 2 from rfl, nI_add]; exact vp_in_nI (by omega) (by omega)
  refine lv_aload_n hx hb dL_law_610 rfl (lv_at hl 1 rfl) ?_
  refine lv_aload_n hx hb dL_law_611 rfl (lv_at hl 0 rfl) ?_
  refine lv_iload_n hx hb dL_law_612 rfl (lv_at hl 3 rfl) ?_
  refine lv_iconst (v := 1) hx hb dL_law_613 (by decide) ?_
  refine lv_iadd hx hb dL_law_614 ?_
  refine va_sld hx hb hX hbl hbA hS hq1 dL_law_615 ?_
  refine lv_aload_n hx hb dL_law_616 rfl (lv_at hl 0 rfl) ?_
  refine lv_iload_n hx hb dL_law_617 rfl (lv_at hl 3 rfl) ?_
  refine lv_iconst (v := 2) hx hb dL_law_618 (by decide) ?_
  refine lv_iadd hx hb dL_law_619 ?_
  refine va_sld hx hb hX hbl hbA hS hq2 dL_law_620 ?_
  obtain ⟨z, y, hz, hy, he, hR⟩ := eq_heavier g w v hRel (xs (ix (i + 1))) (xs (ix (i + 2))) 
  have hFc9 := free_left hD hS hA
  refine cVM (As := [.int (xs (ix (i + 1))), .int (xs (ix (i + 2)))]) (rest := []) ⟨hx, hb, hml, hown, fun w h => hts w (hv_X11_heavier w h)⟩ (mX11_heavier l D T aa h a (g 0) (g 1) (g 2) (g 3) (g 4) (g 5) (g 6) (g 7) (g 8) (g 9) (g 10) (g 11) w (g 13) (g 14) (g 15) (g 16) _ (xs (ix (i + 1))) (xs (ix (i + 2))) z hz) (cwV 2 (fun w h => hts w (hv_X11_heavier w h)) gT_X11_heavier rfl rfl rfl (by decide +kernel) ⟨Nat.le_of_ble_eq_true rfl, Nat.le_of_ble_eq_true rfl⟩) (va_recv hK.1 (P_left hP) (ci := 11) (q0 := 0) rfl rfl) (P_left hP) hK rfl hl.1 rfl (Nat.le_of_ble_eq_true rfl) dL_law_621 ⟨Nat.le_of_ble_eq_true rfl, Nat.le_of_ble_eq_true rfl⟩ (D_left hD) hFc9 hS (fun H9 locs hP1 hD1 hk1 hS => ?_)
  obtain ⟨hP, hD⟩ := join_left hP hD hk1 hFc9 hP1 hD1
  generalize H9 = H at hP hS ⊢
  have hP : va_P D vwCl (WG T h a aa (sg g 10 z.2) w ++ kX12 T hm am v) H := hP
  have hD : va_D (fun q : Nat => s.heap.size ≤ q) (WG T h a aa (sg g 10 z.2) w ++ kX12 T hm am v) := hD
  refine lv_aload_n hx hb dL_law_624 rfl (lv_at hl 2 rfl) ?_
  refine lv_aload_n hx hb dL_law_625 rfl (lv_at hl 0 rfl) ?_
  refine lv_iload_n hx hb dL_law_626 rfl (lv_at hl 3 rfl) ?_
  refine lv_iconst (v := 1) hx hb dL_law_627 (by decide) ?_
  refine lv_iadd hx hb dL_law_628 ?_
  refine va_sld hx hb hX hbl hbA hS hq1 dL_law_629 ?_
  refine lv_aload_n hx hb dL_law_630 rfl (lv_at hl 0 rfl) ?_
  refine lv_iload_n hx hb dL_law_631 rfl (lv_at hl 3 rfl) ?_
  refine lv_iconst (v := 2) hx hb dL_law_632 (by decide) ?_
  refine lv_iadd hx hb dL_law_633 ?_
  refine va_sld hx hb hX hbl hbA hS hq2 dL_law_634 ?_
  refine cVR (As := [.int (xs (ix (i + 1))), .int (xs (ix (i + 2)))]) (rest := [.int z.1]) ⟨hx, hb, hml, hown, fun w h => hts w (hv_X12_heavier w h)⟩ (mX12_heavier l D T hm am v (xs (ix (i + 1))) (xs (ix (i + 2))) y hy) (cwV 2 (fun w h => hts w (hv_X12_heavier w h)) gT_X12_heavier rfl rfl rfl (by decide +kernel) ⟨Nat.le_of_ble_eq_true rfl, Nat.le_of_ble_eq_true rfl⟩) (recM hK hP) (P_right hP) hK rfl hl.1 rfl (Nat.le_of_ble_eq_true rfl) dL_law_635 ⟨Nat.le_of_ble_eq_true rfl, Nat.le_of_ble_eq_true rfl⟩ hP hS (fun H locs hP hS => ?_)
  refine lv_icmp_eq (tgt := 1070) hx hb dL_law_638 (by decide) (fun _ => ?_) (fun c9 => absurd he c9)
  exact kk a aa (sg g 10 z.2) w v _ _ ls hR hP hD hS hl
