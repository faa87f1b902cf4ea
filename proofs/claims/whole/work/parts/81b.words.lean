theorem inT1 : ∀ w ∈ tables_1_1, w ∈ lw_tbl := fun w h => List.mem_append_right _ (show w ∈ tables_1 from List.mem_append_left _ h)
theorem inT2 : ∀ w ∈ tables_1_2, w ∈ lw_tbl := fun w h => List.mem_append_right _ (show w ∈ tables_1 from List.mem_append_right _ (List.mem_append_left _ h))
theorem inT3 : ∀ w ∈ tables_1_3, w ∈ lw_tbl := fun w h => List.mem_append_right _ (show w ∈ tables_1 from List.mem_append_right _ (List.mem_append_right _ (List.mem_append_left _ h)))
theorem inT4 : ∀ w ∈ tables_1_4, w ∈ lw_tbl := fun w h => List.mem_append_right _ (show w ∈ tables_1 from List.mem_append_right _ (List.mem_append_right _ (List.mem_append_right _ (List.mem_append_left _ h))))
theorem inT5 : ∀ w ∈ tables_1_5, w ∈ lw_tbl := fun w h => List.mem_append_right _ (show w ∈ tables_1 from List.mem_append_right _ (List.mem_append_right _ (List.mem_append_right _ (List.mem_append_right _ (List.mem_append_left _ h)))))
theorem inT6 : ∀ w ∈ tables_1_6, w ∈ lw_tbl := fun w h => List.mem_append_right _ (show w ∈ tables_1 from List.mem_append_right _ (List.mem_append_right _ (List.mem_append_right _ (List.mem_append_right _ (List.mem_append_right _ (List.mem_append_left _ h))))))
theorem inT7 : ∀ w ∈ tables_1_7, w ∈ lw_tbl := fun w h => List.mem_append_right _ (show w ∈ tables_1 from List.mem_append_right _ (List.mem_append_right _ (List.mem_append_right _ (List.mem_append_right _ (List.mem_append_right _ (List.mem_append_right _ (h)))))))
theorem inTs : ∀ w ∈ k2_sels lw_privs, w ∈ lw_tbl := fun w h => List.mem_append_left _ h
set_option maxRecDepth 20000 in
theorem in_wX0 : ∀ w ∈ wsX00, w ∈ lw_tbl := by
  intro w hw
  obtain ⟨k, hk, rfl⟩ := List.mem_map.mp hw
  rw [List.mem_range] at hk
  exact match k, hk with | 0, _ => inT1 _ (List.mem_of_getElem? (i := 201) rfl) | 1, _ => inT1 _ (List.mem_of_getElem? (i := 203) rfl) | 2, _ => inT1 _ (List.mem_of_getElem? (i := 205) rfl) | 3, _ => inT1 _ (List.mem_of_getElem? (i := 207) rfl) | 4, _ => inT1 _ (List.mem_of_getElem? (i := 209) rfl) | 5, _ => inT1 _ (List.mem_of_getElem? (i := 211) rfl) | k + 6, hk => absurd hk (by omega)
set_option maxRecDepth 20000 in
theorem in_wX1 : ∀ w ∈ wsX10, w ∈ lw_tbl := by
  intro w hw
  obtain ⟨k, hk, rfl⟩ := List.mem_map.mp hw
  rw [List.mem_range] at hk
  exact match k, hk with | 0, _ => inT1 _ (List.mem_of_getElem? (i := 62) rfl) | 1, _ => inT1 _ (List.mem_of_getElem? (i := 64) rfl) | 2, _ => inT1 _ (List.mem_of_getElem? (i := 66) rfl) | 3, _ => inT1 _ (List.mem_of_getElem? (i := 68) rfl) | 4, _ => inT1 _ (List.mem_of_getElem? (i := 70) rfl) | k + 5, hk => absurd hk (by omega)
set_option maxRecDepth 20000 in
theorem in_wX2 : ∀ w ∈ wsX20, w ∈ lw_tbl := by
  intro w hw
  obtain ⟨k, hk, rfl⟩ := List.mem_map.mp hw
  rw [List.mem_range] at hk
  exact match k, hk with | 0, _ => inT2 _ (List.mem_of_getElem? (i := 35) rfl) | 1, _ => inT2 _ (List.mem_of_getElem? (i := 37) rfl) | 2, _ => inT2 _ (List.mem_of_getElem? (i := 39) rfl) | 3, _ => inT2 _ (List.mem_of_getElem? (i := 41) rfl) | 4, _ => inT2 _ (List.mem_of_getElem? (i := 43) rfl) | 5, _ => inT2 _ (List.mem_of_getElem? (i := 45) rfl) | 6, _ => inT2 _ (List.mem_of_getElem? (i := 47) rfl) | 7, _ => inT2 _ (List.mem_of_getElem? (i := 49) rfl) | 8, _ => inT2 _ (List.mem_of_getElem? (i := 51) rfl) | 9, _ => inT2 _ (List.mem_of_getElem? (i := 53) rfl) | k + 10, hk => absurd hk (by omega)
set_option maxRecDepth 20000 in
theorem in_wX3 : ∀ w ∈ wsX30, w ∈ lw_tbl := by
  intro w hw
  obtain ⟨k, hk, rfl⟩ := List.mem_map.mp hw
  rw [List.mem_range] at hk
  exact match k, hk with | 0, _ => inT1 _ (List.mem_of_getElem? (i := 186) rfl) | k + 1, hk => absurd hk (by omega)
set_option maxRecDepth 20000 in
theorem in_wX4 : ∀ w ∈ wsX40, w ∈ lw_tbl := by
  intro w hw
  obtain ⟨k, hk, rfl⟩ := List.mem_map.mp hw
  rw [List.mem_range] at hk
  exact match k, hk with | 0, _ => inT1 _ (List.mem_of_getElem? (i := 170) rfl) | 1, _ => inT1 _ (List.mem_of_getElem? (i := 172) rfl) | 2, _ => inT1 _ (List.mem_of_getElem? (i := 174) rfl) | 3, _ => inT1 _ (List.mem_of_getElem? (i := 176) rfl) | k + 4, hk => absurd hk (by omega)
set_option maxRecDepth 20000 in
theorem in_wX5 : ∀ w ∈ wsX50, w ∈ lw_tbl := by
  intro w hw
  obtain ⟨k, hk, rfl⟩ := List.mem_map.mp hw
  rw [List.mem_range] at hk
  exact match k, hk with | 0, _ => inT2 _ (List.mem_of_getElem? (i := 0) rfl) | 1, _ => inT2 _ (List.mem_of_getElem? (i := 2) rfl) | 2, _ => inT2 _ (List.mem_of_getElem? (i := 4) rfl) | 3, _ => inT2 _ (List.mem_of_getElem? (i := 6) rfl) | 4, _ => inT2 _ (List.mem_of_getElem? (i := 8) rfl) | k + 5, hk => absurd hk (by omega)
set_option maxRecDepth 20000 in
theorem in_wX6 : ∀ w ∈ wsX60, w ∈ lw_tbl := by
  intro w hw
  obtain ⟨k, hk, rfl⟩ := List.mem_map.mp hw
  rw [List.mem_range] at hk
  exact match k, hk with | 0, _ => inT1 _ (List.mem_of_getElem? (i := 224) rfl) | 1, _ => inT1 _ (List.mem_of_getElem? (i := 226) rfl) | k + 2, hk => absurd hk (by omega)
set_option maxRecDepth 20000 in
theorem in_wX7 : ∀ w ∈ wsX70, w ∈ lw_tbl := by
  intro w hw
  obtain ⟨k, hk, rfl⟩ := List.mem_map.mp hw
  rw [List.mem_range] at hk
  exact match k, hk with | 0, _ => inT1 _ (List.mem_of_getElem? (i := 146) rfl) | 1, _ => inT1 _ (List.mem_of_getElem? (i := 148) rfl) | 2, _ => inT1 _ (List.mem_of_getElem? (i := 150) rfl) | 3, _ => inT1 _ (List.mem_of_getElem? (i := 152) rfl) | 4, _ => inT1 _ (List.mem_of_getElem? (i := 154) rfl) | 5, _ => inT1 _ (List.mem_of_getElem? (i := 156) rfl) | k + 6, hk => absurd hk (by omega)
set_option maxRecDepth 20000 in
theorem in_wX8 : ∀ w ∈ wsX80, w ∈ lw_tbl := by
  intro w hw
  obtain ⟨k, hk, rfl⟩ := List.mem_map.mp hw
  rw [List.mem_range] at hk
  exact match k, hk with | 0, _ => inT1 _ (List.mem_of_getElem? (i := 40) rfl) | 1, _ => inT1 _ (List.mem_of_getElem? (i := 42) rfl) | k + 2, hk => absurd hk (by omega)
set_option maxRecDepth 20000 in
theorem in_wX9 : ∀ w ∈ wsX90, w ∈ lw_tbl := by
  intro w hw
  obtain ⟨k, hk, rfl⟩ := List.mem_map.mp hw
  rw [List.mem_range] at hk
  exact match k, hk with | 0, _ => inT1 _ (List.mem_of_getElem? (i := 111) rfl) | 1, _ => inT1 _ (List.mem_of_getElem? (i := 113) rfl) | 2, _ => inT1 _ (List.mem_of_getElem? (i := 115) rfl) | 3, _ => inT1 _ (List.mem_of_getElem? (i := 117) rfl) | 4, _ => inT1 _ (List.mem_of_getElem? (i := 119) rfl) | 5, _ => inT1 _ (List.mem_of_getElem? (i := 121) rfl) | 6, _ => inT1 _ (List.mem_of_getElem? (i := 123) rfl) | 7, _ => inT1 _ (List.mem_of_getElem? (i := 125) rfl) | k + 8, hk => absurd hk (by omega)
set_option maxRecDepth 20000 in
theorem in_wX10 : ∀ w ∈ wsX100, w ∈ lw_tbl := by
  intro w hw
  obtain ⟨k, hk, rfl⟩ := List.mem_map.mp hw
  rw [List.mem_range] at hk
  exact match k, hk with | 0, _ => inT2 _ (List.mem_of_getElem? (i := 71) rfl) | 1, _ => inT2 _ (List.mem_of_getElem? (i := 73) rfl) | 2, _ => inT2 _ (List.mem_of_getElem? (i := 75) rfl) | 3, _ => inT2 _ (List.mem_of_getElem? (i := 77) rfl) | k + 4, hk => absurd hk (by omega)
set_option maxRecDepth 20000 in
theorem in_wX11 : ∀ w ∈ wsX110, w ∈ lw_tbl := by
  intro w hw
  obtain ⟨k, hk, rfl⟩ := List.mem_map.mp hw
  rw [List.mem_range] at hk
  exact match k, hk with | 0, _ => inT2 _ (List.mem_of_getElem? (i := 96) rfl) | 1, _ => inT2 _ (List.mem_of_getElem? (i := 98) rfl) | 2, _ => inT2 _ (List.mem_of_getElem? (i := 100) rfl) | 3, _ => inT2 _ (List.mem_of_getElem? (i := 102) rfl) | 4, _ => inT2 _ (List.mem_of_getElem? (i := 104) rfl) | 5, _ => inT2 _ (List.mem_of_getElem? (i := 106) rfl) | 6, _ => inT2 _ (List.mem_of_getElem? (i := 108) rfl) | 7, _ => inT2 _ (List.mem_of_getElem? (i := 110) rfl) | 8, _ => inT2 _ (List.mem_of_getElem? (i := 112) rfl) | 9, _ => inT2 _ (List.mem_of_getElem? (i := 114) rfl) | 10, _ => inT2 _ (List.mem_of_getElem? (i := 116) rfl) | 11, _ => inT2 _ (List.mem_of_getElem? (i := 118) rfl) | 12, _ => inT2 _ (List.mem_of_getElem? (i := 120) rfl) | 13, _ => inT2 _ (List.mem_of_getElem? (i := 122) rfl) | 14, _ => inT2 _ (List.mem_of_getElem? (i := 124) rfl) | 15, _ => inT2 _ (List.mem_of_getElem? (i := 126) rfl) | k + 16, hk => absurd hk (by omega)
set_option maxRecDepth 20000 in
theorem in_wX12 : ∀ w ∈ wsX120, w ∈ lw_tbl := by
  intro w hw
  obtain ⟨k, hk, rfl⟩ := List.mem_map.mp hw
  rw [List.mem_range] at hk
  exact match k, hk with | 0, _ => inT5 _ (List.mem_of_getElem? (i := 175) rfl) | 1, _ => inT5 _ (List.mem_of_getElem? (i := 177) rfl) | 2, _ => inT5 _ (List.mem_of_getElem? (i := 179) rfl) | 3, _ => inT5 _ (List.mem_of_getElem? (i := 181) rfl) | 4, _ => inT5 _ (List.mem_of_getElem? (i := 183) rfl) | 5, _ => inT5 _ (List.mem_of_getElem? (i := 185) rfl) | 6, _ => inT5 _ (List.mem_of_getElem? (i := 187) rfl) | 7, _ => inT5 _ (List.mem_of_getElem? (i := 189) rfl) | 8, _ => inT5 _ (List.mem_of_getElem? (i := 191) rfl) | 9, _ => inT5 _ (List.mem_of_getElem? (i := 193) rfl) | 10, _ => inT5 _ (List.mem_of_getElem? (i := 195) rfl) | 11, _ => inT5 _ (List.mem_of_getElem? (i := 197) rfl) | 12, _ => inT5 _ (List.mem_of_getElem? (i := 199) rfl) | 13, _ => inT5 _ (List.mem_of_getElem? (i := 201) rfl) | 14, _ => inT5 _ (List.mem_of_getElem? (i := 203) rfl) | 15, _ => inT5 _ (List.mem_of_getElem? (i := 205) rfl) | 16, _ => inT5 _ (List.mem_of_getElem? (i := 207) rfl) | 17, _ => inT5 _ (List.mem_of_getElem? (i := 209) rfl) | 18, _ => inT5 _ (List.mem_of_getElem? (i := 211) rfl) | 19, _ => inT5 _ (List.mem_of_getElem? (i := 213) rfl) | 20, _ => inT5 _ (List.mem_of_getElem? (i := 215) rfl) | 21, _ => inT5 _ (List.mem_of_getElem? (i := 217) rfl) | 22, _ => inT5 _ (List.mem_of_getElem? (i := 219) rfl) | 23, _ => inT5 _ (List.mem_of_getElem? (i := 221) rfl) | 24, _ => inT5 _ (List.mem_of_getElem? (i := 223) rfl) | 25, _ => inT5 _ (List.mem_of_getElem? (i := 225) rfl) | 26, _ => inT5 _ (List.mem_of_getElem? (i := 227) rfl) | 27, _ => inT5 _ (List.mem_of_getElem? (i := 229) rfl) | 28, _ => inT5 _ (List.mem_of_getElem? (i := 231) rfl) | 29, _ => inT5 _ (List.mem_of_getElem? (i := 233) rfl) | 30, _ => inT5 _ (List.mem_of_getElem? (i := 235) rfl) | 31, _ => inT5 _ (List.mem_of_getElem? (i := 237) rfl) | 32, _ => inT5 _ (List.mem_of_getElem? (i := 239) rfl) | 33, _ => inT6 _ (List.mem_of_getElem? (i := 1) rfl) | 34, _ => inT6 _ (List.mem_of_getElem? (i := 3) rfl) | 35, _ => inT6 _ (List.mem_of_getElem? (i := 5) rfl) | 36, _ => inT6 _ (List.mem_of_getElem? (i := 7) rfl) | 37, _ => inT6 _ (List.mem_of_getElem? (i := 9) rfl) | 38, _ => inT6 _ (List.mem_of_getElem? (i := 11) rfl) | 39, _ => inT6 _ (List.mem_of_getElem? (i := 13) rfl) | 40, _ => inT6 _ (List.mem_of_getElem? (i := 15) rfl) | 41, _ => inT6 _ (List.mem_of_getElem? (i := 17) rfl) | 42, _ => inT6 _ (List.mem_of_getElem? (i := 19) rfl) | 43, _ => inT6 _ (List.mem_of_getElem? (i := 21) rfl) | 44, _ => inT6 _ (List.mem_of_getElem? (i := 23) rfl) | 45, _ => inT6 _ (List.mem_of_getElem? (i := 25) rfl) | 46, _ => inT6 _ (List.mem_of_getElem? (i := 27) rfl) | 47, _ => inT6 _ (List.mem_of_getElem? (i := 29) rfl) | 48, _ => inT6 _ (List.mem_of_getElem? (i := 31) rfl) | 49, _ => inT6 _ (List.mem_of_getElem? (i := 33) rfl) | 50, _ => inT6 _ (List.mem_of_getElem? (i := 35) rfl) | 51, _ => inT6 _ (List.mem_of_getElem? (i := 37) rfl) | k + 52, hk => absurd hk (by omega)
set_option maxRecDepth 20000 in
theorem tw_0 : Cond.instantiable RX0 6 ∈ lw_tbl := inT1 _ (List.mem_of_getElem? (i := 190) rfl)
set_option maxRecDepth 20000 in
theorem tw_1 : Cond.instantiable RX1 5 ∈ lw_tbl := inT1 _ (List.mem_of_getElem? (i := 47) rfl)
set_option maxRecDepth 20000 in
theorem tw_2 : Cond.instantiable RX2 10 ∈ lw_tbl := inT2 _ (List.mem_of_getElem? (i := 13) rfl)
set_option maxRecDepth 20000 in
theorem tw_3 : Cond.instantiable RX3 1 ∈ lw_tbl := inT1 _ (List.mem_of_getElem? (i := 180) rfl)
set_option maxRecDepth 20000 in
theorem tw_4 : Cond.instantiable RX4 4 ∈ lw_tbl := inT1 _ (List.mem_of_getElem? (i := 160) rfl)
set_option maxRecDepth 20000 in
theorem tw_5 : Cond.instantiable RX5 5 ∈ lw_tbl := inT1 _ (List.mem_of_getElem? (i := 230) rfl)
set_option maxRecDepth 20000 in
theorem tw_6 : Cond.instantiable RX6 2 ∈ lw_tbl := inT1 _ (List.mem_of_getElem? (i := 215) rfl)
set_option maxRecDepth 20000 in
theorem tw_7 : Cond.instantiable RX7 6 ∈ lw_tbl := inT1 _ (List.mem_of_getElem? (i := 129) rfl)
set_option maxRecDepth 20000 in
theorem tw_8 : Cond.instantiable RX8 2 ∈ lw_tbl := inT1 _ (List.mem_of_getElem? (i := 32) rfl)
set_option maxRecDepth 20000 in
theorem tw_9 : Cond.instantiable RX9 8 ∈ lw_tbl := inT1 _ (List.mem_of_getElem? (i := 74) rfl)
set_option maxRecDepth 20000 in
theorem tw_10 : Cond.instantiable RX10 4 ∈ lw_tbl := inT2 _ (List.mem_of_getElem? (i := 57) rfl)
set_option maxRecDepth 20000 in
theorem tw_11 : Cond.instantiable RX11 16 ∈ lw_tbl := inT1 _ (List.mem_of_getElem? (i := 24) rfl)
set_option maxRecDepth 20000 in
theorem tw_12 : Cond.instantiable RX12 52 ∈ lw_tbl := inT5 _ (List.mem_of_getElem? (i := 118) rfl)
set_option maxRecDepth 20000 in
theorem tw_13 : Cond.arrayClass .int ∈ lw_tbl := inT1 _ (List.mem_of_getElem? (i := 45) rfl)
set_option maxRecDepth 20000 in
theorem tw_14 : Cond.arrayClass .byte ∈ lw_tbl := inT3 _ (List.mem_of_getElem? (i := 129) rfl)
set_option maxRecDepth 20000 in
theorem tw_15 : Cond.arrayClass .long ∈ lw_tbl := inT2 _ (List.mem_of_getElem? (i := 11) rfl)
set_option maxRecDepth 20000 in
theorem tw_16 : Cond.classLink RL 7 RX11 ∈ lw_tbl := inT1 _ (List.mem_of_getElem? (i := 23) rfl)
set_option maxRecDepth 20000 in
theorem tw_17 : Cond.initialized RX11 ∈ lw_tbl := inT1 _ (List.mem_of_getElem? (i := 1) rfl)
set_option maxRecDepth 20000 in
theorem tw_18 : Cond.methodLink RL 9 yX11_init ∈ lw_tbl := inT1 _ (List.mem_of_getElem? (i := 25) rfl)
set_option maxRecDepth 20000 in
theorem tw_19 : Cond.instanceMethod yX11_init ∈ lw_tbl := inT1 _ (List.mem_of_getElem? (i := 26) rfl)
set_option maxRecDepth 20000 in
theorem tw_20 : Cond.classLink RL 10 RX12 ∈ lw_tbl := inT5 _ (List.mem_of_getElem? (i := 117) rfl)
set_option maxRecDepth 20000 in
theorem tw_21 : Cond.initialized RX12 ∈ lw_tbl := inT1 _ (List.mem_of_getElem? (i := 13) rfl)
set_option maxRecDepth 20000 in
theorem tw_22 : Cond.methodLink RL 12 yX12_init ∈ lw_tbl := inT5 _ (List.mem_of_getElem? (i := 119) rfl)
set_option maxRecDepth 20000 in
theorem tw_23 : Cond.instanceMethod yX12_init ∈ lw_tbl := inT5 _ (List.mem_of_getElem? (i := 120) rfl)
set_option maxRecDepth 20000 in
theorem tw_24 : Cond.code yX11_init cX11_init 1 none ∈ lw_tbl := inT1 _ (List.mem_of_getElem? (i := 27) rfl)
set_option maxRecDepth 20000 in
theorem tw_25 : Cond.initialized RX4 ∈ lw_tbl := inT1 _ (List.mem_of_getElem? (i := 6) rfl)
set_option maxRecDepth 20000 in
theorem tw_26 : Cond.classLink RX11 45 RX4 ∈ lw_tbl := inT1 _ (List.mem_of_getElem? (i := 159) rfl)
set_option maxRecDepth 20000 in
theorem tw_27 : Cond.fieldLink RX11 41 "RopeScale" "rope" "LRopeScale$Rope;" ∈ lw_tbl := inT2 _ (List.mem_of_getElem? (i := 85) rfl)
set_option maxRecDepth 20000 in
theorem tw_28 : Cond.initialized RX7 ∈ lw_tbl := inT1 _ (List.mem_of_getElem? (i := 5) rfl)
set_option maxRecDepth 20000 in
theorem tw_29 : Cond.classLink RX11 38 RX7 ∈ lw_tbl := inT1 _ (List.mem_of_getElem? (i := 128) rfl)
set_option maxRecDepth 20000 in
theorem tw_30 : Cond.fieldLink RX11 35 "RopeScale" "trial" "LRopeScale$Walk;" ∈ lw_tbl := inT2 _ (List.mem_of_getElem? (i := 84) rfl)
set_option maxRecDepth 20000 in
theorem tw_31 : Cond.fieldLink RX11 32 "RopeScale" "kept" "LRopeScale$Walk;" ∈ lw_tbl := inT2 _ (List.mem_of_getElem? (i := 83) rfl)
set_option maxRecDepth 20000 in
theorem tw_32 : Cond.fieldLink RX11 28 "RopeScale" "now" "LRopeScale$Walk;" ∈ lw_tbl := inT2 _ (List.mem_of_getElem? (i := 82) rfl)
set_option maxRecDepth 20000 in
theorem tw_33 : Cond.initialized RX9 ∈ lw_tbl := inT1 _ (List.mem_of_getElem? (i := 4) rfl)
set_option maxRecDepth 20000 in
theorem tw_34 : Cond.classLink RX11 25 RX9 ∈ lw_tbl := inT1 _ (List.mem_of_getElem? (i := 73) rfl)
set_option maxRecDepth 20000 in
theorem tw_35 : Cond.fieldLink RX11 21 "RopeScale" "cursor" "LRopeScale$Cursor;" ∈ lw_tbl := inT2 _ (List.mem_of_getElem? (i := 81) rfl)
set_option maxRecDepth 20000 in
theorem tw_36 : Cond.initialized RX1 ∈ lw_tbl := inT1 _ (List.mem_of_getElem? (i := 3) rfl)
set_option maxRecDepth 20000 in
theorem tw_37 : Cond.classLink RX11 16 RX1 ∈ lw_tbl := inT1 _ (List.mem_of_getElem? (i := 46) rfl)
set_option maxRecDepth 20000 in
theorem tw_38 : Cond.fieldLink RX11 10 "RopeScale" "tape" "LRopeScale$Tape;" ∈ lw_tbl := inT2 _ (List.mem_of_getElem? (i := 80) rfl)
set_option maxRecDepth 20000 in
theorem tw_39 : Cond.initialized RX8 ∈ lw_tbl := inT1 _ (List.mem_of_getElem? (i := 2) rfl)
set_option maxRecDepth 20000 in
theorem tw_40 : Cond.classLink RX11 7 RX8 ∈ lw_tbl := inT1 _ (List.mem_of_getElem? (i := 31) rfl)
set_option maxRecDepth 20000 in
theorem tw_41 : Cond.code objectInit ⟨#[0xb1]⟩ 1 none ∈ lw_tbl := inT1 _ (List.mem_of_getElem? (i := 30) rfl)
set_option maxRecDepth 20000 in
theorem tw_42 : Cond.instanceMethod objectInit ∈ lw_tbl := inT1 _ (List.mem_of_getElem? (i := 29) rfl)
set_option maxRecDepth 20000 in
theorem tw_43 : Cond.methodLink RX11 1 objectInit ∈ lw_tbl := inT1 _ (List.mem_of_getElem? (i := 28) rfl)
set_option maxRecDepth 20000 in
theorem tw_44 : Cond.classLink RX11 92 RX10 ∈ lw_tbl := inT2 _ (List.mem_of_getElem? (i := 56) rfl)
set_option maxRecDepth 20000 in
theorem tw_45 : Cond.fieldLink RX11 89 "RopeScale" "spareLaw" "LRopeScale$Law;" ∈ lw_tbl := inT2 _ (List.mem_of_getElem? (i := 92) rfl)
set_option maxRecDepth 20000 in
theorem tw_46 : Cond.fieldLink RX11 85 "RopeScale" "valid" "LRopeScale$Law;" ∈ lw_tbl := inT2 _ (List.mem_of_getElem? (i := 91) rfl)
set_option maxRecDepth 20000 in
theorem tw_47 : Cond.initialized RX2 ∈ lw_tbl := inT1 _ (List.mem_of_getElem? (i := 11) rfl)
set_option maxRecDepth 20000 in
theorem tw_48 : Cond.classLink RX11 82 RX2 ∈ lw_tbl := inT2 _ (List.mem_of_getElem? (i := 12) rfl)
set_option maxRecDepth 20000 in
theorem tw_49 : Cond.fieldLink RX11 78 "RopeScale" "pans" "LRopeScale$Pans;" ∈ lw_tbl := inT2 _ (List.mem_of_getElem? (i := 90) rfl)
set_option maxRecDepth 20000 in
theorem tw_50 : Cond.initialized RX5 ∈ lw_tbl := inT1 _ (List.mem_of_getElem? (i := 10) rfl)
set_option maxRecDepth 20000 in
theorem tw_51 : Cond.classLink RX11 75 RX5 ∈ lw_tbl := inT1 _ (List.mem_of_getElem? (i := 229) rfl)
set_option maxRecDepth 20000 in
theorem tw_52 : Cond.fieldLink RX11 71 "RopeScale" "rank" "LRopeScale$Rank;" ∈ lw_tbl := inT2 _ (List.mem_of_getElem? (i := 89) rfl)
set_option maxRecDepth 20000 in
theorem tw_53 : Cond.initialized RX6 ∈ lw_tbl := inT1 _ (List.mem_of_getElem? (i := 9) rfl)
set_option maxRecDepth 20000 in
theorem tw_54 : Cond.classLink RX11 68 RX6 ∈ lw_tbl := inT1 _ (List.mem_of_getElem? (i := 214) rfl)
set_option maxRecDepth 20000 in
theorem tw_55 : Cond.fieldLink RX11 64 "RopeScale" "choices" "LRopeScale$Choices;" ∈ lw_tbl := inT2 _ (List.mem_of_getElem? (i := 88) rfl)
set_option maxRecDepth 20000 in
theorem tw_56 : Cond.initialized RX0 ∈ lw_tbl := inT1 _ (List.mem_of_getElem? (i := 8) rfl)
set_option maxRecDepth 20000 in
theorem tw_57 : Cond.classLink RX11 61 RX0 ∈ lw_tbl := inT1 _ (List.mem_of_getElem? (i := 189) rfl)
set_option maxRecDepth 20000 in
theorem tw_58 : Cond.fieldLink RX11 57 "RopeScale" "lawReader" "LRopeScale$LawReader;" ∈ lw_tbl := inT2 _ (List.mem_of_getElem? (i := 87) rfl)
set_option maxRecDepth 20000 in
theorem tw_59 : Cond.initialized RX3 ∈ lw_tbl := inT1 _ (List.mem_of_getElem? (i := 7) rfl)
set_option maxRecDepth 20000 in
theorem tw_60 : Cond.classLink RX11 52 RX3 ∈ lw_tbl := inT1 _ (List.mem_of_getElem? (i := 179) rfl)
set_option maxRecDepth 20000 in
theorem tw_61 : Cond.fieldLink RX11 48 "RopeScale" "given" "LRopeScale$Orders;" ∈ lw_tbl := inT2 _ (List.mem_of_getElem? (i := 86) rfl)
set_option maxRecDepth 20000 in
theorem tw_62 : Cond.fieldLink RX9 15 "RopeScale$Walk" "claim" "[I" ∈ lw_tbl := inT1 _ (List.mem_of_getElem? (i := 85) rfl)
set_option maxRecDepth 20000 in
theorem tw_63 : Cond.fieldLink RX9 9 "RopeScale$Walk" "weight" "[I" ∈ lw_tbl := inT1 _ (List.mem_of_getElem? (i := 79) rfl)
set_option maxRecDepth 20000 in
theorem tw_64 : Cond.methodLink RX9 3 objectInit ∈ lw_tbl := inT1 _ (List.mem_of_getElem? (i := 78) rfl)
set_option maxRecDepth 20000 in
theorem tw_65 : Cond.code yX9_init cX9_init 1 none ∈ lw_tbl := inT1 _ (List.mem_of_getElem? (i := 77) rfl)
set_option maxRecDepth 20000 in
theorem tw_66 : Cond.instanceMethod yX9_init ∈ lw_tbl := inT1 _ (List.mem_of_getElem? (i := 76) rfl)
set_option maxRecDepth 20000 in
theorem tw_67 : Cond.fieldLink RX1 24 "RopeScale$Cursor" "tape" "LRopeScale$Tape;" ∈ lw_tbl := inT1 _ (List.mem_of_getElem? (i := 52) rfl)
set_option maxRecDepth 20000 in
theorem tw_68 : Cond.fieldLink RX1 21 "RopeScale$Cursor" "fault" "I" ∈ lw_tbl := inT1 _ (List.mem_of_getElem? (i := 60) rfl)
set_option maxRecDepth 20000 in
theorem tw_69 : Cond.fieldLink RX1 18 "RopeScale$Cursor" "sign" "I" ∈ lw_tbl := inT1 _ (List.mem_of_getElem? (i := 56) rfl)
set_option maxRecDepth 20000 in
theorem tw_70 : Cond.fieldLink RX1 15 "RopeScale$Cursor" "place" "I" ∈ lw_tbl := inT1 _ (List.mem_of_getElem? (i := 54) rfl)
set_option maxRecDepth 20000 in
theorem tw_71 : Cond.fieldLink RX1 9 "RopeScale$Cursor" "end" "I" ∈ lw_tbl := inT1 _ (List.mem_of_getElem? (i := 53) rfl)
set_option maxRecDepth 20000 in
theorem tw_72 : Cond.methodLink RX1 3 objectInit ∈ lw_tbl := inT1 _ (List.mem_of_getElem? (i := 51) rfl)
set_option maxRecDepth 20000 in
theorem tw_73 : Cond.code yX1_init cX1_init 2 none ∈ lw_tbl := inT1 _ (List.mem_of_getElem? (i := 50) rfl)
set_option maxRecDepth 20000 in
theorem tw_74 : Cond.instanceMethod yX1_init ∈ lw_tbl := inT1 _ (List.mem_of_getElem? (i := 49) rfl)
set_option maxRecDepth 20000 in
theorem tw_75 : Cond.methodLink RX11 18 yX1_init ∈ lw_tbl := inT1 _ (List.mem_of_getElem? (i := 48) rfl)
set_option maxRecDepth 20000 in
theorem tw_76 : Cond.fieldLink RX8 15 "RopeScale$Tape" "length" "I" ∈ lw_tbl := inT1 _ (List.mem_of_getElem? (i := 38) rfl)
set_option maxRecDepth 20000 in
theorem tw_77 : Cond.fieldLink RX8 11 "RopeScale$Tape" "bytes" "[I" ∈ lw_tbl := inT1 _ (List.mem_of_getElem? (i := 37) rfl)
set_option maxRecDepth 20000 in
theorem tw_78 : Cond.methodLink RX8 3 objectInit ∈ lw_tbl := inT1 _ (List.mem_of_getElem? (i := 36) rfl)
set_option maxRecDepth 20000 in
theorem tw_79 : Cond.code yX8_init cX8_init 1 none ∈ lw_tbl := inT1 _ (List.mem_of_getElem? (i := 35) rfl)
set_option maxRecDepth 20000 in
theorem tw_80 : Cond.instanceMethod yX8_init ∈ lw_tbl := inT1 _ (List.mem_of_getElem? (i := 34) rfl)
set_option maxRecDepth 20000 in
theorem tw_81 : Cond.fieldLink RX11 102 "RopeScale" "anyKept" "Z" ∈ lw_tbl := inT2 _ (List.mem_of_getElem? (i := 95) rfl)
set_option maxRecDepth 20000 in
theorem tw_82 : Cond.fieldLink RX11 99 "RopeScale" "spareWeighings" "LRopeScale$Weighings;" ∈ lw_tbl := inT2 _ (List.mem_of_getElem? (i := 94) rfl)
set_option maxRecDepth 20000 in
theorem tw_83 : Cond.fieldLink RX11 95 "RopeScale" "told" "LRopeScale$Weighings;" ∈ lw_tbl := inT2 _ (List.mem_of_getElem? (i := 93) rfl)
set_option maxRecDepth 20000 in
theorem tw_84 : Cond.initialized RX10 ∈ lw_tbl := inT1 _ (List.mem_of_getElem? (i := 12) rfl)
set_option maxRecDepth 20000 in
theorem tw_85 : Cond.instanceMethod yX3_init ∈ lw_tbl := inT1 _ (List.mem_of_getElem? (i := 182) rfl)
set_option maxRecDepth 20000 in
theorem tw_86 : Cond.methodLink RX11 54 yX3_init ∈ lw_tbl := inT1 _ (List.mem_of_getElem? (i := 181) rfl)
set_option maxRecDepth 20000 in
theorem tw_87 : Cond.fieldLink RX4 21 "RopeScale$Orders" "lines" "I" ∈ lw_tbl := inT1 _ (List.mem_of_getElem? (i := 168) rfl)
set_option maxRecDepth 20000 in
theorem tw_88 : Cond.fieldLink RX4 18 "RopeScale$Orders" "number" "[I" ∈ lw_tbl := inT1 _ (List.mem_of_getElem? (i := 167) rfl)
set_option maxRecDepth 20000 in
theorem tw_89 : Cond.fieldLink RX4 15 "RopeScale$Orders" "deed" "[I" ∈ lw_tbl := inT1 _ (List.mem_of_getElem? (i := 166) rfl)
set_option maxRecDepth 20000 in
theorem tw_90 : Cond.fieldLink RX4 11 "RopeScale$Orders" "who" "[I" ∈ lw_tbl := inT1 _ (List.mem_of_getElem? (i := 165) rfl)
set_option maxRecDepth 20000 in
theorem tw_91 : Cond.methodLink RX4 3 objectInit ∈ lw_tbl := inT1 _ (List.mem_of_getElem? (i := 164) rfl)
set_option maxRecDepth 20000 in
theorem tw_92 : Cond.code yX4_init cX4_init 1 none ∈ lw_tbl := inT1 _ (List.mem_of_getElem? (i := 163) rfl)
set_option maxRecDepth 20000 in
theorem tw_93 : Cond.instanceMethod yX4_init ∈ lw_tbl := inT1 _ (List.mem_of_getElem? (i := 162) rfl)
set_option maxRecDepth 20000 in
theorem tw_94 : Cond.fieldLink RX7 27 "RopeScale$Rope" "toes" "I" ∈ lw_tbl := inT1 _ (List.mem_of_getElem? (i := 144) rfl)
set_option maxRecDepth 20000 in
theorem tw_95 : Cond.fieldLink RX7 24 "RopeScale$Rope" "flung" "I" ∈ lw_tbl := inT1 _ (List.mem_of_getElem? (i := 142) rfl)
set_option maxRecDepth 20000 in
theorem tw_96 : Cond.fieldLink RX7 21 "RopeScale$Rope" "baths" "I" ∈ lw_tbl := inT1 _ (List.mem_of_getElem? (i := 140) rfl)
set_option maxRecDepth 20000 in
theorem tw_97 : Cond.fieldLink RX7 18 "RopeScale$Rope" "gotOver" "I" ∈ lw_tbl := inT1 _ (List.mem_of_getElem? (i := 138) rfl)
set_option maxRecDepth 20000 in
theorem tw_98 : Cond.fieldLink RX7 15 "RopeScale$Rope" "toe" "I" ∈ lw_tbl := inT1 _ (List.mem_of_getElem? (i := 136) rfl)
set_option maxRecDepth 20000 in
theorem tw_99 : Cond.fieldLink RX7 9 "RopeScale$Rope" "tolerance" "I" ∈ lw_tbl := inT1 _ (List.mem_of_getElem? (i := 134) rfl)
set_option maxRecDepth 20000 in
theorem tw_100 : Cond.methodLink RX7 3 objectInit ∈ lw_tbl := inT1 _ (List.mem_of_getElem? (i := 133) rfl)
set_option maxRecDepth 20000 in
theorem tw_101 : Cond.code yX7_init cX7_init 1 none ∈ lw_tbl := inT1 _ (List.mem_of_getElem? (i := 132) rfl)
set_option maxRecDepth 20000 in
theorem tw_102 : Cond.instanceMethod yX7_init ∈ lw_tbl := inT1 _ (List.mem_of_getElem? (i := 131) rfl)
set_option maxRecDepth 20000 in
theorem tw_103 : Cond.fieldLink RX9 34 "RopeScale$Walk" "x" "I" ∈ lw_tbl := inT1 _ (List.mem_of_getElem? (i := 109) rfl)
set_option maxRecDepth 20000 in
theorem tw_104 : Cond.fieldLink RX9 31 "RopeScale$Walk" "hour" "I" ∈ lw_tbl := inT1 _ (List.mem_of_getElem? (i := 105) rfl)
set_option maxRecDepth 20000 in
theorem tw_105 : Cond.fieldLink RX9 28 "RopeScale$Walk" "over" "I" ∈ lw_tbl := inT1 _ (List.mem_of_getElem? (i := 100) rfl)
set_option maxRecDepth 20000 in
theorem tw_106 : Cond.fieldLink RX9 24 "RopeScale$Walk" "told" "I" ∈ lw_tbl := inT1 _ (List.mem_of_getElem? (i := 96) rfl)
set_option maxRecDepth 20000 in
theorem tw_107 : Cond.fieldLink RX9 21 "RopeScale$Walk" "hurt" "[I" ∈ lw_tbl := inT1 _ (List.mem_of_getElem? (i := 93) rfl)
set_option maxRecDepth 20000 in
theorem tw_108 : Cond.fieldLink RX9 18 "RopeScale$Walk" "baths" "[I" ∈ lw_tbl := inT1 _ (List.mem_of_getElem? (i := 89) rfl)
set_option maxRecDepth 20000 in
theorem tw_109 : Cond.fieldLink RX5 18 "RopeScale$Pans" "weighed" "[J" ∈ lw_tbl := inT1 _ (List.mem_of_getElem? (i := 237) rfl)
set_option maxRecDepth 20000 in
theorem tw_110 : Cond.fieldLink RX5 15 "RopeScale$Pans" "rising" "[I" ∈ lw_tbl := inT1 _ (List.mem_of_getElem? (i := 236) rfl)
set_option maxRecDepth 20000 in
theorem tw_111 : Cond.fieldLink RX5 11 "RopeScale$Pans" "weight" "[I" ∈ lw_tbl := inT1 _ (List.mem_of_getElem? (i := 235) rfl)
set_option maxRecDepth 20000 in
theorem tw_112 : Cond.methodLink RX5 5 objectInit ∈ lw_tbl := inT1 _ (List.mem_of_getElem? (i := 234) rfl)
set_option maxRecDepth 20000 in
theorem tw_113 : Cond.code yX5_init cX5_init 1 none ∈ lw_tbl := inT1 _ (List.mem_of_getElem? (i := 233) rfl)
set_option maxRecDepth 20000 in
theorem tw_114 : Cond.instanceMethod yX5_init ∈ lw_tbl := inT1 _ (List.mem_of_getElem? (i := 232) rfl)
set_option maxRecDepth 20000 in
theorem tw_115 : Cond.fieldLink RX6 15 "RopeScale$Rank" "alike" "[I" ∈ lw_tbl := inT1 _ (List.mem_of_getElem? (i := 222) rfl)
set_option maxRecDepth 20000 in
theorem tw_116 : Cond.fieldLink RX6 9 "RopeScale$Rank" "lighter" "[I" ∈ lw_tbl := inT1 _ (List.mem_of_getElem? (i := 220) rfl)
set_option maxRecDepth 20000 in
theorem tw_117 : Cond.methodLink RX6 3 objectInit ∈ lw_tbl := inT1 _ (List.mem_of_getElem? (i := 219) rfl)
set_option maxRecDepth 20000 in
theorem tw_118 : Cond.code yX6_init cX6_init 1 none ∈ lw_tbl := inT1 _ (List.mem_of_getElem? (i := 218) rfl)
set_option maxRecDepth 20000 in
theorem tw_119 : Cond.instanceMethod yX6_init ∈ lw_tbl := inT1 _ (List.mem_of_getElem? (i := 217) rfl)
set_option maxRecDepth 20000 in
theorem tw_120 : Cond.fieldLink RX0 27 "RopeScale$Choices" "goesAt" "[I" ∈ lw_tbl := inT1 _ (List.mem_of_getElem? (i := 200) rfl)
set_option maxRecDepth 20000 in
theorem tw_121 : Cond.fieldLink RX0 24 "RopeScale$Choices" "mostOver" "[I" ∈ lw_tbl := inT1 _ (List.mem_of_getElem? (i := 199) rfl)
set_option maxRecDepth 20000 in
theorem tw_122 : Cond.fieldLink RX0 21 "RopeScale$Choices" "member" "[I" ∈ lw_tbl := inT1 _ (List.mem_of_getElem? (i := 198) rfl)
set_option maxRecDepth 20000 in
theorem tw_123 : Cond.fieldLink RX0 18 "RopeScale$Choices" "row" "[I" ∈ lw_tbl := inT1 _ (List.mem_of_getElem? (i := 197) rfl)
set_option maxRecDepth 20000 in
theorem tw_124 : Cond.fieldLink RX0 15 "RopeScale$Choices" "upper" "[I" ∈ lw_tbl := inT1 _ (List.mem_of_getElem? (i := 196) rfl)
set_option maxRecDepth 20000 in
theorem tw_125 : Cond.fieldLink RX0 11 "RopeScale$Choices" "lower" "[I" ∈ lw_tbl := inT1 _ (List.mem_of_getElem? (i := 195) rfl)
set_option maxRecDepth 20000 in
theorem tw_126 : Cond.methodLink RX0 3 objectInit ∈ lw_tbl := inT1 _ (List.mem_of_getElem? (i := 194) rfl)
set_option maxRecDepth 20000 in
theorem tw_127 : Cond.code yX0_init cX0_init 1 none ∈ lw_tbl := inT1 _ (List.mem_of_getElem? (i := 193) rfl)
set_option maxRecDepth 20000 in
theorem tw_128 : Cond.instanceMethod yX0_init ∈ lw_tbl := inT1 _ (List.mem_of_getElem? (i := 192) rfl)
set_option maxRecDepth 20000 in
theorem tw_129 : Cond.fieldLink RX3 9 "RopeScale$LawReader" "cursor" "LRopeScale$Cursor;" ∈ lw_tbl := inT1 _ (List.mem_of_getElem? (i := 185) rfl)
set_option maxRecDepth 20000 in
theorem tw_130 : Cond.methodLink RX3 3 objectInit ∈ lw_tbl := inT1 _ (List.mem_of_getElem? (i := 184) rfl)
set_option maxRecDepth 20000 in
theorem tw_131 : Cond.code yX3_init cX3_init 2 none ∈ lw_tbl := inT1 _ (List.mem_of_getElem? (i := 183) rfl)
set_option maxRecDepth 20000 in
theorem tw_132 : Cond.fieldLink RX10 21 "RopeScale$Weighings" "lines" "I" ∈ lw_tbl := inT2 _ (List.mem_of_getElem? (i := 68) rfl)
set_option maxRecDepth 20000 in
theorem tw_133 : Cond.fieldLink RX10 18 "RopeScale$Weighings" "outcome" "[I" ∈ lw_tbl := inT2 _ (List.mem_of_getElem? (i := 66) rfl)
set_option maxRecDepth 20000 in
theorem tw_134 : Cond.fieldLink RX10 15 "RopeScale$Weighings" "right" "[I" ∈ lw_tbl := inT2 _ (List.mem_of_getElem? (i := 64) rfl)
set_option maxRecDepth 20000 in
theorem tw_135 : Cond.fieldLink RX10 11 "RopeScale$Weighings" "left" "[I" ∈ lw_tbl := inT2 _ (List.mem_of_getElem? (i := 62) rfl)
set_option maxRecDepth 20000 in
theorem tw_136 : Cond.methodLink RX10 3 objectInit ∈ lw_tbl := inT2 _ (List.mem_of_getElem? (i := 61) rfl)
set_option maxRecDepth 20000 in
theorem tw_137 : Cond.code yX10_init cX10_init 1 none ∈ lw_tbl := inT2 _ (List.mem_of_getElem? (i := 60) rfl)
set_option maxRecDepth 20000 in
theorem tw_138 : Cond.instanceMethod yX10_init ∈ lw_tbl := inT2 _ (List.mem_of_getElem? (i := 59) rfl)
set_option maxRecDepth 20000 in
theorem tw_139 : Cond.fieldLink RX2 40 "RopeScale$Law" "stack" "[I" ∈ lw_tbl := inT2 _ (List.mem_of_getElem? (i := 34) rfl)
set_option maxRecDepth 20000 in
theorem tw_140 : Cond.fieldLink RX2 37 "RopeScale$Law" "facts" "[I" ∈ lw_tbl := inT2 _ (List.mem_of_getElem? (i := 33) rfl)
set_option maxRecDepth 20000 in
theorem tw_141 : Cond.fieldLink RX2 34 "RopeScale$Law" "length" "I" ∈ lw_tbl := inT2 _ (List.mem_of_getElem? (i := 31) rfl)
set_option maxRecDepth 20000 in
theorem tw_142 : Cond.fieldLink RX2 31 "RopeScale$Law" "operand" "[I" ∈ lw_tbl := inT2 _ (List.mem_of_getElem? (i := 30) rfl)
set_option maxRecDepth 20000 in
theorem tw_143 : Cond.fieldLink RX2 28 "RopeScale$Law" "step" "[I" ∈ lw_tbl := inT2 _ (List.mem_of_getElem? (i := 29) rfl)
set_option maxRecDepth 20000 in
theorem tw_144 : Cond.fieldLink RX2 24 "RopeScale$Law" "rules" "I" ∈ lw_tbl := inT2 _ (List.mem_of_getElem? (i := 26) rfl)
set_option maxRecDepth 20000 in
theorem tw_145 : Cond.fieldLink RX2 21 "RopeScale$Law" "endOfC" "[I" ∈ lw_tbl := inT2 _ (List.mem_of_getElem? (i := 24) rfl)
set_option maxRecDepth 20000 in
theorem tw_146 : Cond.fieldLink RX2 18 "RopeScale$Law" "startOfC" "[I" ∈ lw_tbl := inT2 _ (List.mem_of_getElem? (i := 22) rfl)
set_option maxRecDepth 20000 in
theorem tw_147 : Cond.fieldLink RX2 15 "RopeScale$Law" "startOfE" "[I" ∈ lw_tbl := inT2 _ (List.mem_of_getElem? (i := 20) rfl)
set_option maxRecDepth 20000 in
theorem tw_148 : Cond.fieldLink RX2 11 "RopeScale$Law" "kind" "[I" ∈ lw_tbl := inT2 _ (List.mem_of_getElem? (i := 18) rfl)
set_option maxRecDepth 20000 in
theorem tw_149 : Cond.methodLink RX2 3 objectInit ∈ lw_tbl := inT2 _ (List.mem_of_getElem? (i := 17) rfl)
set_option maxRecDepth 20000 in
theorem tw_150 : Cond.code yX2_init cX2_init 1 none ∈ lw_tbl := inT2 _ (List.mem_of_getElem? (i := 16) rfl)
set_option maxRecDepth 20000 in
theorem tw_151 : Cond.instanceMethod yX2_init ∈ lw_tbl := inT2 _ (List.mem_of_getElem? (i := 15) rfl)
set_option maxRecDepth 20000 in
theorem tw_152 : Cond.fieldLink RX5 26 "RopeScale$Pans" "best" "I" ∈ lw_tbl := inT1 _ (List.mem_of_getElem? (i := 239) rfl)
set_option maxRecDepth 20000 in
theorem tw_153 : Cond.fieldLink RX5 22 "RopeScale$Pans" "size" "I" ∈ lw_tbl := inT1 _ (List.mem_of_getElem? (i := 238) rfl)
set_option maxRecDepth 20000 in
theorem tw_154 : Cond.code yX12_init cX12_init 1 none ∈ lw_tbl := inT5 _ (List.mem_of_getElem? (i := 121) rfl)
set_option maxRecDepth 20000 in
theorem tw_155 : Cond.fieldLink RX12 65 "RopeScaleModel" "rightOf" "[I" ∈ lw_tbl := inT5 _ (List.mem_of_getElem? (i := 154) rfl)
set_option maxRecDepth 20000 in
theorem tw_156 : Cond.fieldLink RX12 62 "RopeScaleModel" "leftOf" "[I" ∈ lw_tbl := inT5 _ (List.mem_of_getElem? (i := 153) rfl)
set_option maxRecDepth 20000 in
theorem tw_157 : Cond.fieldLink RX12 59 "RopeScaleModel" "facts" "[I" ∈ lw_tbl := inT5 _ (List.mem_of_getElem? (i := 151) rfl)
set_option maxRecDepth 20000 in
theorem tw_158 : Cond.fieldLink RX12 56 "RopeScaleModel" "stack" "[I" ∈ lw_tbl := inT5 _ (List.mem_of_getElem? (i := 150) rfl)
set_option maxRecDepth 20000 in
theorem tw_159 : Cond.fieldLink RX12 53 "RopeScaleModel" "codeTo" "[I" ∈ lw_tbl := inT5 _ (List.mem_of_getElem? (i := 149) rfl)
set_option maxRecDepth 20000 in
theorem tw_160 : Cond.fieldLink RX12 50 "RopeScaleModel" "codeHalf" "[I" ∈ lw_tbl := inT5 _ (List.mem_of_getElem? (i := 148) rfl)
set_option maxRecDepth 20000 in
theorem tw_161 : Cond.fieldLink RX12 47 "RopeScaleModel" "codeFrom" "[I" ∈ lw_tbl := inT5 _ (List.mem_of_getElem? (i := 147) rfl)
set_option maxRecDepth 20000 in
theorem tw_162 : Cond.fieldLink RX12 44 "RopeScaleModel" "clauseOf" "[I" ∈ lw_tbl := inT5 _ (List.mem_of_getElem? (i := 146) rfl)
set_option maxRecDepth 20000 in
theorem tw_163 : Cond.fieldLink RX12 41 "RopeScaleModel" "codes" "[I" ∈ lw_tbl := inT5 _ (List.mem_of_getElem? (i := 145) rfl)
set_option maxRecDepth 20000 in
theorem tw_164 : Cond.fieldLink RX12 38 "RopeScaleModel" "saidTo" "[I" ∈ lw_tbl := inT5 _ (List.mem_of_getElem? (i := 144) rfl)
set_option maxRecDepth 20000 in
theorem tw_165 : Cond.fieldLink RX12 35 "RopeScaleModel" "saidHalf" "[I" ∈ lw_tbl := inT5 _ (List.mem_of_getElem? (i := 143) rfl)
set_option maxRecDepth 20000 in
theorem tw_166 : Cond.fieldLink RX12 32 "RopeScaleModel" "saidFrom" "[I" ∈ lw_tbl := inT5 _ (List.mem_of_getElem? (i := 142) rfl)
set_option maxRecDepth 20000 in
theorem tw_167 : Cond.fieldLink RX12 29 "RopeScaleModel" "saidLetter" "[I" ∈ lw_tbl := inT5 _ (List.mem_of_getElem? (i := 141) rfl)
set_option maxRecDepth 20000 in
theorem tw_168 : Cond.fieldLink RX12 26 "RopeScaleModel" "waitsAt" "[I" ∈ lw_tbl := inT5 _ (List.mem_of_getElem? (i := 140) rfl)
set_option maxRecDepth 20000 in
theorem tw_169 : Cond.fieldLink RX12 23 "RopeScaleModel" "said" "[I" ∈ lw_tbl := inT5 _ (List.mem_of_getElem? (i := 139) rfl)
set_option maxRecDepth 20000 in
theorem tw_170 : Cond.fieldLink RX12 19 "RopeScaleModel" "tape" "[B" ∈ lw_tbl := inT5 _ (List.mem_of_getElem? (i := 128) rfl)
set_option maxRecDepth 20000 in
theorem tw_171 : Cond.fieldLink RX12 16 "RopeScaleModel" "kept" "[I" ∈ lw_tbl := inT5 _ (List.mem_of_getElem? (i := 125) rfl)
set_option maxRecDepth 20000 in
theorem tw_172 : Cond.fieldLink RX12 13 "RopeScaleModel" "aside" "[I" ∈ lw_tbl := inT5 _ (List.mem_of_getElem? (i := 124) rfl)
set_option maxRecDepth 20000 in
theorem tw_173 : Cond.fieldLink RX12 7 "RopeScaleModel" "now" "[I" ∈ lw_tbl := inT5 _ (List.mem_of_getElem? (i := 123) rfl)
set_option maxRecDepth 20000 in
theorem tw_174 : Cond.methodLink RX12 1 objectInit ∈ lw_tbl := inT5 _ (List.mem_of_getElem? (i := 122) rfl)
set_option maxRecDepth 20000 in
theorem tw_175 : Cond.fieldLink RX12 101 "RopeScaleModel" "toeNow" "I" ∈ lw_tbl := inT5 _ (List.mem_of_getElem? (i := 127) rfl)
set_option maxRecDepth 20000 in
theorem tw_176 : Cond.fieldLink RX12 98 "RopeScaleModel" "risesTo" "[I" ∈ lw_tbl := inT5 _ (List.mem_of_getElem? (i := 173) rfl)
set_option maxRecDepth 20000 in
theorem tw_177 : Cond.fieldLink RX12 95 "RopeScaleModel" "spotOf" "[I" ∈ lw_tbl := inT5 _ (List.mem_of_getElem? (i := 172) rfl)
set_option maxRecDepth 20000 in
theorem tw_178 : Cond.fieldLink RX12 92 "RopeScaleModel" "isOld" "[I" ∈ lw_tbl := inT5 _ (List.mem_of_getElem? (i := 171) rfl)
set_option maxRecDepth 20000 in
theorem tw_179 : Cond.fieldLink RX12 89 "RopeScaleModel" "fewestFor" "[I" ∈ lw_tbl := inT5 _ (List.mem_of_getElem? (i := 170) rfl)
set_option maxRecDepth 20000 in
theorem tw_180 : Cond.fieldLink RX12 86 "RopeScaleModel" "sortedNow" "[I" ∈ lw_tbl := inT5 _ (List.mem_of_getElem? (i := 169) rfl)
set_option maxRecDepth 20000 in
theorem tw_181 : Cond.fieldLink RX12 83 "RopeScaleModel" "mostFrom" "[I" ∈ lw_tbl := inT5 _ (List.mem_of_getElem? (i := 167) rfl)
set_option maxRecDepth 20000 in
theorem tw_182 : Cond.fieldLink RX12 80 "RopeScaleModel" "partyOf" "[I" ∈ lw_tbl := inT5 _ (List.mem_of_getElem? (i := 166) rfl)
set_option maxRecDepth 20000 in
theorem tw_183 : Cond.fieldLink RX12 77 "RopeScaleModel" "newSign" "[I" ∈ lw_tbl := inT5 _ (List.mem_of_getElem? (i := 158) rfl)
set_option maxRecDepth 20000 in
theorem tw_184 : Cond.fieldLink RX12 74 "RopeScaleModel" "newRight" "[I" ∈ lw_tbl := inT5 _ (List.mem_of_getElem? (i := 157) rfl)
set_option maxRecDepth 20000 in
theorem tw_185 : Cond.fieldLink RX12 71 "RopeScaleModel" "newLeft" "[I" ∈ lw_tbl := inT5 _ (List.mem_of_getElem? (i := 156) rfl)
set_option maxRecDepth 20000 in
theorem tw_186 : Cond.fieldLink RX12 68 "RopeScaleModel" "signOf" "[I" ∈ lw_tbl := inT5 _ (List.mem_of_getElem? (i := 155) rfl)
set_option maxRecDepth 20000 in
theorem tw_187 : Cond.code yX11_walker cX11_walker 3 (some .boolean) ∈ lw_tbl := inT2 _ (List.mem_of_getElem? (i := 132) rfl)
set_option maxRecDepth 20000 in
theorem tw_188 : Cond.code yX9_tell cX9_tell 3 none ∈ lw_tbl := inT2 _ (List.mem_of_getElem? (i := 142) rfl)
set_option maxRecDepth 20000 in
theorem tw_189 : Cond.selects RX9 yX9_tell yX9_tell ∈ lw_tbl := inT2 _ (List.mem_of_getElem? (i := 141) rfl)
set_option maxRecDepth 20000 in
theorem tw_190 : Cond.instanceMethod yX9_tell ∈ lw_tbl := inT2 _ (List.mem_of_getElem? (i := 140) rfl)
set_option maxRecDepth 20000 in
theorem tw_191 : Cond.methodLink RX11 114 yX9_tell ∈ lw_tbl := inT2 _ (List.mem_of_getElem? (i := 139) rfl)
set_option maxRecDepth 20000 in
theorem tw_192 : Cond.code yX11_isWithin cX11_isWithin 3 (some .boolean) ∈ lw_tbl := inT2 _ (List.mem_of_getElem? (i := 138) rfl)
set_option maxRecDepth 20000 in
theorem tw_193 : Cond.static yX11_isWithin ∈ lw_tbl := inT2 _ (List.mem_of_getElem? (i := 137) rfl)
set_option maxRecDepth 20000 in
theorem tw_194 : Cond.methodLink RX11 110 yX11_isWithin ∈ lw_tbl := inT2 _ (List.mem_of_getElem? (i := 136) rfl)
set_option maxRecDepth 20000 in
theorem tw_195 : Cond.code yX11_isWalker cX11_isWalker 1 (some .boolean) ∈ lw_tbl := inT2 _ (List.mem_of_getElem? (i := 135) rfl)
set_option maxRecDepth 20000 in
theorem tw_196 : Cond.static yX11_isWalker ∈ lw_tbl := inT2 _ (List.mem_of_getElem? (i := 134) rfl)
set_option maxRecDepth 20000 in
theorem tw_197 : Cond.methodLink RX11 106 yX11_isWalker ∈ lw_tbl := inT2 _ (List.mem_of_getElem? (i := 133) rfl)
set_option maxRecDepth 20000 in
theorem tw_198 : Cond.selects RX11 yX11_walker yX11_walker ∈ lw_tbl := inT2 _ (List.mem_of_getElem? (i := 131) rfl)
set_option maxRecDepth 20000 in
theorem tw_199 : Cond.instanceMethod yX11_walker ∈ lw_tbl := inT2 _ (List.mem_of_getElem? (i := 130) rfl)
set_option maxRecDepth 20000 in
theorem tw_200 : Cond.methodLink RL 13 yX11_walker ∈ lw_tbl := inT2 _ (List.mem_of_getElem? (i := 129) rfl)
set_option maxRecDepth 20000 in
theorem tw_201 : Cond.code yX12_walker cX12_walker 3 (some .boolean) ∈ lw_tbl := inT6 _ (List.mem_of_getElem? (i := 43) rfl)
set_option maxRecDepth 20000 in
theorem tw_202 : Cond.code yX12_in cX12_in 3 (some .boolean) ∈ lw_tbl := inT6 _ (List.mem_of_getElem? (i := 46) rfl)
set_option maxRecDepth 20000 in
theorem tw_203 : Cond.static yX12_in ∈ lw_tbl := inT6 _ (List.mem_of_getElem? (i := 45) rfl)
set_option maxRecDepth 20000 in
theorem tw_204 : Cond.methodLink RX12 105 yX12_in ∈ lw_tbl := inT6 _ (List.mem_of_getElem? (i := 44) rfl)
set_option maxRecDepth 20000 in
theorem tw_205 : Cond.selects RX12 yX12_walker yX12_walker ∈ lw_tbl := inT6 _ (List.mem_of_getElem? (i := 42) rfl)
set_option maxRecDepth 20000 in
theorem tw_206 : Cond.instanceMethod yX12_walker ∈ lw_tbl := inT6 _ (List.mem_of_getElem? (i := 41) rfl)
set_option maxRecDepth 20000 in
theorem tw_207 : Cond.methodLink RL 17 yX12_walker ∈ lw_tbl := inT6 _ (List.mem_of_getElem? (i := 40) rfl)
set_option maxRecDepth 20000 in
theorem tw_208 : Cond.code yX11_rules cX11_rules 3 (some .boolean) ∈ lw_tbl := inT2 _ (List.mem_of_getElem? (i := 146) rfl)
set_option maxRecDepth 20000 in
theorem tw_209 : Cond.fieldLink RX11 122 "RopeScale$Rope" "toe" "I" ∈ lw_tbl := inT1 _ (List.mem_of_getElem? (i := 137) rfl)
set_option maxRecDepth 20000 in
theorem tw_210 : Cond.fieldLink RX11 118 "RopeScale$Rope" "tolerance" "I" ∈ lw_tbl := inT1 _ (List.mem_of_getElem? (i := 135) rfl)
set_option maxRecDepth 20000 in
theorem tw_211 : Cond.selects RX11 yX11_rules yX11_rules ∈ lw_tbl := inT2 _ (List.mem_of_getElem? (i := 145) rfl)
set_option maxRecDepth 20000 in
theorem tw_212 : Cond.instanceMethod yX11_rules ∈ lw_tbl := inT2 _ (List.mem_of_getElem? (i := 144) rfl)
set_option maxRecDepth 20000 in
theorem tw_213 : Cond.methodLink RL 18 yX11_rules ∈ lw_tbl := inT2 _ (List.mem_of_getElem? (i := 143) rfl)
set_option maxRecDepth 20000 in
theorem tw_214 : Cond.code yX12_rules cX12_rules 3 (some .boolean) ∈ lw_tbl := inT6 _ (List.mem_of_getElem? (i := 50) rfl)
set_option maxRecDepth 20000 in
theorem tw_215 : Cond.fieldLink RX12 116 "RopeScaleModel" "toleranceNow" "I" ∈ lw_tbl := inT5 _ (List.mem_of_getElem? (i := 126) rfl)
set_option maxRecDepth 20000 in
theorem tw_216 : Cond.selects RX12 yX12_rules yX12_rules ∈ lw_tbl := inT6 _ (List.mem_of_getElem? (i := 49) rfl)
set_option maxRecDepth 20000 in
theorem tw_217 : Cond.instanceMethod yX12_rules ∈ lw_tbl := inT6 _ (List.mem_of_getElem? (i := 48) rfl)
set_option maxRecDepth 20000 in
theorem tw_218 : Cond.methodLink RL 21 yX12_rules ∈ lw_tbl := inT6 _ (List.mem_of_getElem? (i := 47) rfl)
set_option maxRecDepth 20000 in
theorem tw_219 : Cond.code yX11_feed cX11_feed 6 (some .int) ∈ lw_tbl := inT2 _ (List.mem_of_getElem? (i := 150) rfl)
set_option maxRecDepth 20000 in
theorem tw_220 : Cond.code yX8_append cX8_append 3 none ∈ lw_tbl := inT2 _ (List.mem_of_getElem? (i := 158) rfl)
set_option maxRecDepth 20000 in
theorem tw_221 : Cond.selects RX8 yX8_append yX8_append ∈ lw_tbl := inT2 _ (List.mem_of_getElem? (i := 157) rfl)
set_option maxRecDepth 20000 in
theorem tw_222 : Cond.instanceMethod yX8_append ∈ lw_tbl := inT2 _ (List.mem_of_getElem? (i := 156) rfl)
set_option maxRecDepth 20000 in
theorem tw_223 : Cond.methodLink RX11 129 yX8_append ∈ lw_tbl := inT2 _ (List.mem_of_getElem? (i := 155) rfl)
set_option maxRecDepth 20000 in
theorem tw_224 : Cond.code yX8_hasRoom cX8_hasRoom 1 (some .boolean) ∈ lw_tbl := inT2 _ (List.mem_of_getElem? (i := 154) rfl)
set_option maxRecDepth 20000 in
theorem tw_225 : Cond.selects RX8 yX8_hasRoom yX8_hasRoom ∈ lw_tbl := inT2 _ (List.mem_of_getElem? (i := 153) rfl)
set_option maxRecDepth 20000 in
theorem tw_226 : Cond.instanceMethod yX8_hasRoom ∈ lw_tbl := inT2 _ (List.mem_of_getElem? (i := 152) rfl)
set_option maxRecDepth 20000 in
theorem tw_227 : Cond.methodLink RX11 125 yX8_hasRoom ∈ lw_tbl := inT2 _ (List.mem_of_getElem? (i := 151) rfl)
set_option maxRecDepth 20000 in
theorem tw_228 : Cond.fieldLink RX11 133 "RopeScale$Tape" "length" "I" ∈ lw_tbl := inT1 _ (List.mem_of_getElem? (i := 39) rfl)
set_option maxRecDepth 20000 in
theorem tw_229 : Cond.selects RX11 yX11_feed yX11_feed ∈ lw_tbl := inT2 _ (List.mem_of_getElem? (i := 149) rfl)
set_option maxRecDepth 20000 in
theorem tw_230 : Cond.instanceMethod yX11_feed ∈ lw_tbl := inT2 _ (List.mem_of_getElem? (i := 148) rfl)
set_option maxRecDepth 20000 in
theorem tw_231 : Cond.methodLink RL 22 yX11_feed ∈ lw_tbl := inT2 _ (List.mem_of_getElem? (i := 147) rfl)
set_option maxRecDepth 20000 in
theorem tw_232 : Cond.code yX12_feed cX12_feed 6 (some .int) ∈ lw_tbl := inT6 _ (List.mem_of_getElem? (i := 54) rfl)
set_option maxRecDepth 20000 in
theorem tw_233 : Cond.code yX12_types cX12_types 3 none ∈ lw_tbl := inT6 _ (List.mem_of_getElem? (i := 58) rfl)
set_option maxRecDepth 20000 in
theorem tw_234 : Cond.selects RX12 yX12_types yX12_types ∈ lw_tbl := inTs _ (List.mem_of_getElem? (i := 29) rfl)
set_option maxRecDepth 20000 in
theorem tw_235 : Cond.instanceMethod yX12_types ∈ lw_tbl := inT6 _ (List.mem_of_getElem? (i := 57) rfl)
set_option maxRecDepth 20000 in
theorem tw_236 : Cond.methodLink RX12 122 yX12_types ∈ lw_tbl := inT6 _ (List.mem_of_getElem? (i := 55) rfl)
set_option maxRecDepth 20000 in
theorem tw_237 : Cond.fieldLink RX12 119 "RopeScaleModel" "taped" "I" ∈ lw_tbl := inT5 _ (List.mem_of_getElem? (i := 129) rfl)
set_option maxRecDepth 20000 in
theorem tw_238 : Cond.selects RX12 yX12_feed yX12_feed ∈ lw_tbl := inT6 _ (List.mem_of_getElem? (i := 53) rfl)
set_option maxRecDepth 20000 in
theorem tw_239 : Cond.instanceMethod yX12_feed ∈ lw_tbl := inT6 _ (List.mem_of_getElem? (i := 52) rfl)
set_option maxRecDepth 20000 in
theorem tw_240 : Cond.methodLink RL 26 yX12_feed ∈ lw_tbl := inT6 _ (List.mem_of_getElem? (i := 51) rfl)
set_option maxRecDepth 20000 in
theorem tw_241 : Cond.code yX11_law cX11_law 3 (some .int) ∈ lw_tbl := inT2 _ (List.mem_of_getElem? (i := 162) rfl)
set_option maxRecDepth 20000 in
theorem tw_242 : Cond.code yX1_start cX1_start 2 none ∈ lw_tbl := inT2 _ (List.mem_of_getElem? (i := 171) rfl)
set_option maxRecDepth 20000 in
theorem tw_243 : Cond.selects RX1 yX1_start yX1_start ∈ lw_tbl := inT2 _ (List.mem_of_getElem? (i := 170) rfl)
set_option maxRecDepth 20000 in
theorem tw_244 : Cond.instanceMethod yX1_start ∈ lw_tbl := inT2 _ (List.mem_of_getElem? (i := 169) rfl)
set_option maxRecDepth 20000 in
theorem tw_245 : Cond.methodLink RX11 139 yX1_start ∈ lw_tbl := inT2 _ (List.mem_of_getElem? (i := 168) rfl)
set_option maxRecDepth 20000 in
theorem tw_246 : Cond.code yX8_offers cX8_offers 4 (some .boolean) ∈ lw_tbl := inT2 _ (List.mem_of_getElem? (i := 166) rfl)
set_option maxRecDepth 20000 in
theorem tw_247 : Cond.selects RX8 yX8_offers yX8_offers ∈ lw_tbl := inT2 _ (List.mem_of_getElem? (i := 165) rfl)
set_option maxRecDepth 20000 in
theorem tw_248 : Cond.instanceMethod yX8_offers ∈ lw_tbl := inT2 _ (List.mem_of_getElem? (i := 164) rfl)
set_option maxRecDepth 20000 in
theorem tw_249 : Cond.methodLink RX11 136 yX8_offers ∈ lw_tbl := inT2 _ (List.mem_of_getElem? (i := 163) rfl)
set_option maxRecDepth 20000 in
theorem tw_250 : Cond.fieldLink RX11 155 "RopeScale$Law" "rules" "I" ∈ lw_tbl := inT2 _ (List.mem_of_getElem? (i := 28) rfl)
set_option maxRecDepth 20000 in
theorem tw_251 : Cond.fieldLink RX11 152 "RopeScale$Cursor" "fault" "I" ∈ lw_tbl := inT1 _ (List.mem_of_getElem? (i := 61) rfl)
set_option maxRecDepth 20000 in
theorem tw_252 : Cond.selects RX2 yX2_clear yX2_clear ∈ lw_tbl := inT2 _ (List.mem_of_getElem? (i := 189) rfl)
set_option maxRecDepth 20000 in
theorem tw_253 : Cond.instanceMethod yX2_clear ∈ lw_tbl := inT2 _ (List.mem_of_getElem? (i := 188) rfl)
set_option maxRecDepth 20000 in
theorem tw_254 : Cond.methodLink RX3 15 yX2_clear ∈ lw_tbl := inT2 _ (List.mem_of_getElem? (i := 187) rfl)
set_option maxRecDepth 20000 in
theorem tw_255 : Cond.code yX3_read cX3_read 3 none ∈ lw_tbl := inT2 _ (List.mem_of_getElem? (i := 186) rfl)
set_option maxRecDepth 20000 in
theorem tw_256 : Cond.selects RX3 yX3_read yX3_read ∈ lw_tbl := inT2 _ (List.mem_of_getElem? (i := 185) rfl)
set_option maxRecDepth 20000 in
theorem tw_257 : Cond.instanceMethod yX3_read ∈ lw_tbl := inT2 _ (List.mem_of_getElem? (i := 184) rfl)
set_option maxRecDepth 20000 in
theorem tw_258 : Cond.methodLink RX11 142 yX3_read ∈ lw_tbl := inT2 _ (List.mem_of_getElem? (i := 183) rfl)
set_option maxRecDepth 20000 in
theorem tw_259 : Cond.code yX8_at cX8_at 2 (some .int) ∈ lw_tbl := inT2 _ (List.mem_of_getElem? (i := 182) rfl)
set_option maxRecDepth 20000 in
theorem tw_260 : Cond.selects RX8 yX8_at yX8_at ∈ lw_tbl := inT2 _ (List.mem_of_getElem? (i := 181) rfl)
set_option maxRecDepth 20000 in
theorem tw_261 : Cond.instanceMethod yX8_at ∈ lw_tbl := inT2 _ (List.mem_of_getElem? (i := 180) rfl)
set_option maxRecDepth 20000 in
theorem tw_262 : Cond.methodLink RX1 37 yX8_at ∈ lw_tbl := inT2 _ (List.mem_of_getElem? (i := 179) rfl)
set_option maxRecDepth 20000 in
theorem tw_263 : Cond.code Lib.Math.min.name Lib.Math.min.code 2 (some .int) ∈ lw_tbl := inT2 _ (List.mem_of_getElem? (i := 178) rfl)
set_option maxRecDepth 20000 in
theorem tw_264 : Cond.initialized "java/lang/Math" ∈ lw_tbl := inT1 _ (List.mem_of_getElem? (i := 14) rfl)
set_option maxRecDepth 20000 in
theorem tw_265 : Cond.static Lib.Math.min.name ∈ lw_tbl := inT2 _ (List.mem_of_getElem? (i := 177) rfl)
set_option maxRecDepth 20000 in
theorem tw_266 : Cond.methodLink RX1 31 Lib.Math.min.name ∈ lw_tbl := inT2 _ (List.mem_of_getElem? (i := 176) rfl)
set_option maxRecDepth 20000 in
theorem tw_267 : Cond.code yX1_next cX1_next 1 none ∈ lw_tbl := inT2 _ (List.mem_of_getElem? (i := 175) rfl)
set_option maxRecDepth 20000 in
theorem tw_268 : Cond.selects RX1 yX1_next yX1_next ∈ lw_tbl := inT2 _ (List.mem_of_getElem? (i := 174) rfl)
set_option maxRecDepth 20000 in
theorem tw_269 : Cond.instanceMethod yX1_next ∈ lw_tbl := inT2 _ (List.mem_of_getElem? (i := 173) rfl)
set_option maxRecDepth 20000 in
theorem tw_270 : Cond.methodLink RX1 28 yX1_next ∈ lw_tbl := inT2 _ (List.mem_of_getElem? (i := 172) rfl)
set_option maxRecDepth 20000 in
theorem tw_271 : Cond.code yX1_failHere cX1_failHere 2 none ∈ lw_tbl := inT2 _ (List.mem_of_getElem? (i := 210) rfl)
set_option maxRecDepth 20000 in
theorem tw_272 : Cond.selects RX1 yX1_failHere yX1_failHere ∈ lw_tbl := inT2 _ (List.mem_of_getElem? (i := 209) rfl)
set_option maxRecDepth 20000 in
theorem tw_273 : Cond.instanceMethod yX1_failHere ∈ lw_tbl := inT2 _ (List.mem_of_getElem? (i := 208) rfl)
set_option maxRecDepth 20000 in
theorem tw_274 : Cond.methodLink RX1 51 yX1_failHere ∈ lw_tbl := inT2 _ (List.mem_of_getElem? (i := 207) rfl)
set_option maxRecDepth 20000 in
theorem tw_275 : Cond.code yX1_sees cX1_sees 2 (some .boolean) ∈ lw_tbl := inT2 _ (List.mem_of_getElem? (i := 206) rfl)
set_option maxRecDepth 20000 in
theorem tw_276 : Cond.selects RX1 yX1_sees yX1_sees ∈ lw_tbl := inT2 _ (List.mem_of_getElem? (i := 205) rfl)
set_option maxRecDepth 20000 in
theorem tw_277 : Cond.instanceMethod yX1_sees ∈ lw_tbl := inT2 _ (List.mem_of_getElem? (i := 204) rfl)
set_option maxRecDepth 20000 in
theorem tw_278 : Cond.methodLink RX1 47 yX1_sees ∈ lw_tbl := inT2 _ (List.mem_of_getElem? (i := 203) rfl)
set_option maxRecDepth 20000 in
theorem tw_279 : Cond.code yX1_take cX1_take 2 (some .boolean) ∈ lw_tbl := inT2 _ (List.mem_of_getElem? (i := 202) rfl)
set_option maxRecDepth 20000 in
theorem tw_280 : Cond.selects RX1 yX1_take yX1_take ∈ lw_tbl := inT2 _ (List.mem_of_getElem? (i := 201) rfl)
set_option maxRecDepth 20000 in
theorem tw_281 : Cond.instanceMethod yX1_take ∈ lw_tbl := inT2 _ (List.mem_of_getElem? (i := 200) rfl)
set_option maxRecDepth 20000 in
theorem tw_282 : Cond.methodLink RX1 59 yX1_take ∈ lw_tbl := inT2 _ (List.mem_of_getElem? (i := 199) rfl)
set_option maxRecDepth 20000 in
theorem tw_283 : Cond.code yX1_isFaulty cX1_isFaulty 1 (some .boolean) ∈ lw_tbl := inT2 _ (List.mem_of_getElem? (i := 198) rfl)
set_option maxRecDepth 20000 in
theorem tw_284 : Cond.selects RX1 yX1_isFaulty yX1_isFaulty ∈ lw_tbl := inT2 _ (List.mem_of_getElem? (i := 197) rfl)
set_option maxRecDepth 20000 in
theorem tw_285 : Cond.instanceMethod yX1_isFaulty ∈ lw_tbl := inT2 _ (List.mem_of_getElem? (i := 196) rfl)
set_option maxRecDepth 20000 in
theorem tw_286 : Cond.methodLink RX1 55 yX1_isFaulty ∈ lw_tbl := inT2 _ (List.mem_of_getElem? (i := 195) rfl)
set_option maxRecDepth 20000 in
theorem tw_287 : Cond.code yX1_begins cX1_begins 2 (some .boolean) ∈ lw_tbl := inT2 _ (List.mem_of_getElem? (i := 194) rfl)
set_option maxRecDepth 20000 in
theorem tw_288 : Cond.selects RX1 yX1_begins yX1_begins ∈ lw_tbl := inT2 _ (List.mem_of_getElem? (i := 193) rfl)
set_option maxRecDepth 20000 in
theorem tw_289 : Cond.instanceMethod yX1_begins ∈ lw_tbl := inT2 _ (List.mem_of_getElem? (i := 192) rfl)
set_option maxRecDepth 20000 in
theorem tw_290 : Cond.methodLink RX3 20 yX1_begins ∈ lw_tbl := inT2 _ (List.mem_of_getElem? (i := 191) rfl)
set_option maxRecDepth 20000 in
theorem tw_291 : Cond.code yX2_clear cX2_clear 1 none ∈ lw_tbl := inT2 _ (List.mem_of_getElem? (i := 190) rfl)
set_option maxRecDepth 20000 in
theorem tw_292 : Cond.code yJ0_indexOf_7cf53 cJ0_indexOf_7cf53 3 (some .int) ∈ lw_tbl := inT2 _ (List.mem_of_getElem? (i := 227) rfl)
set_option maxRecDepth 20000 in
theorem tw_293 : Cond.selects RJ0 yJ0_indexOf_7cf53 yJ0_indexOf_7cf53 ∈ lw_tbl := inT2 _ (List.mem_of_getElem? (i := 226) rfl)
set_option maxRecDepth 20000 in
theorem tw_294 : Cond.instanceMethod yJ0_indexOf_7cf53 ∈ lw_tbl := inT2 _ (List.mem_of_getElem? (i := 225) rfl)
set_option maxRecDepth 20000 in
theorem tw_295 : Cond.methodLink RJ0 633 yJ0_indexOf_7cf53 ∈ lw_tbl := inT2 _ (List.mem_of_getElem? (i := 224) rfl)
set_option maxRecDepth 20000 in
theorem tw_296 : Cond.code yJ0_indexOf_0f7a4 cJ0_indexOf_0f7a4 2 (some .int) ∈ lw_tbl := inT2 _ (List.mem_of_getElem? (i := 223) rfl)
set_option maxRecDepth 20000 in
theorem tw_297 : Cond.initialized RJ0 ∈ lw_tbl := inT1 _ (List.mem_of_getElem? (i := 15) rfl)
set_option maxRecDepth 20000 in
theorem tw_298 : Cond.selects RJ0 yJ0_indexOf_0f7a4 yJ0_indexOf_0f7a4 ∈ lw_tbl := inT2 _ (List.mem_of_getElem? (i := 222) rfl)
set_option maxRecDepth 20000 in
theorem tw_299 : Cond.instanceMethod yJ0_indexOf_0f7a4 ∈ lw_tbl := inT2 _ (List.mem_of_getElem? (i := 221) rfl)
set_option maxRecDepth 20000 in
theorem tw_300 : Cond.methodLink RX3 36 yJ0_indexOf_0f7a4 ∈ lw_tbl := inT2 _ (List.mem_of_getElem? (i := 220) rfl)
set_option maxRecDepth 20000 in
theorem tw_301 : Cond.fieldLink RX3 74 "RopeScale$Law" "rules" "I" ∈ lw_tbl := inT2 _ (List.mem_of_getElem? (i := 27) rfl)
set_option maxRecDepth 20000 in
theorem tw_302 : Cond.fieldLink RX3 71 "RopeScale$Law" "endOfC" "[I" ∈ lw_tbl := inT2 _ (List.mem_of_getElem? (i := 25) rfl)
set_option maxRecDepth 20000 in
theorem tw_303 : Cond.fieldLink RX3 62 "RopeScale$Law" "startOfC" "[I" ∈ lw_tbl := inT2 _ (List.mem_of_getElem? (i := 23) rfl)
set_option maxRecDepth 20000 in
theorem tw_304 : Cond.fieldLink RX3 56 "RopeScale$Law" "length" "I" ∈ lw_tbl := inT2 _ (List.mem_of_getElem? (i := 32) rfl)
set_option maxRecDepth 20000 in
theorem tw_305 : Cond.fieldLink RX3 53 "RopeScale$Law" "startOfE" "[I" ∈ lw_tbl := inT2 _ (List.mem_of_getElem? (i := 21) rfl)
set_option maxRecDepth 20000 in
theorem tw_306 : Cond.fieldLink RX3 49 "RopeScale$Law" "kind" "[I" ∈ lw_tbl := inT2 _ (List.mem_of_getElem? (i := 19) rfl)
set_option maxRecDepth 20000 in
theorem tw_307 : Cond.fieldLink RX3 30 "RopeScale$Cursor" "sign" "I" ∈ lw_tbl := inT1 _ (List.mem_of_getElem? (i := 57) rfl)
set_option maxRecDepth 20000 in
theorem tw_308 : Cond.code yX3_readRule cX3_readRule 4 none ∈ lw_tbl := inT2 _ (List.mem_of_getElem? (i := 218) rfl)
set_option maxRecDepth 20000 in
theorem tw_309 : Cond.selects RX3 yX3_readRule yX3_readRule ∈ lw_tbl := inTs _ (List.mem_of_getElem? (i := 0) rfl)
set_option maxRecDepth 20000 in
theorem tw_310 : Cond.instanceMethod yX3_readRule ∈ lw_tbl := inT2 _ (List.mem_of_getElem? (i := 217) rfl)
set_option maxRecDepth 20000 in
theorem tw_311 : Cond.methodLink RX3 26 yX3_readRule ∈ lw_tbl := inT2 _ (List.mem_of_getElem? (i := 215) rfl)
set_option maxRecDepth 20000 in
theorem tw_312 : Cond.code yX1_fail cX1_fail 3 none ∈ lw_tbl := inT2 _ (List.mem_of_getElem? (i := 214) rfl)
set_option maxRecDepth 20000 in
theorem tw_313 : Cond.selects RX1 yX1_fail yX1_fail ∈ lw_tbl := inT2 _ (List.mem_of_getElem? (i := 213) rfl)
set_option maxRecDepth 20000 in
theorem tw_314 : Cond.instanceMethod yX1_fail ∈ lw_tbl := inT2 _ (List.mem_of_getElem? (i := 212) rfl)
set_option maxRecDepth 20000 in
theorem tw_315 : Cond.methodLink RX1 43 yX1_fail ∈ lw_tbl := inT2 _ (List.mem_of_getElem? (i := 211) rfl)
set_option maxRecDepth 20000 in
theorem tw_316 : Cond.methodLink RJ1 88 yJ1_canEncode_9a6ad ∈ lw_tbl := inT3 _ (List.mem_of_getElem? (i := 5) rfl)
set_option maxRecDepth 20000 in
theorem tw_317 : Cond.methodLink RJ1 38 Lib.Math.min.name ∈ lw_tbl := inT3 _ (List.mem_of_getElem? (i := 11) rfl)
set_option maxRecDepth 20000 in
theorem tw_318 : Cond.code Lib.Math.max.name Lib.Math.max.code 2 (some .int) ∈ lw_tbl := inT3 _ (List.mem_of_getElem? (i := 10) rfl)
set_option maxRecDepth 20000 in
theorem tw_319 : Cond.static Lib.Math.max.name ∈ lw_tbl := inT3 _ (List.mem_of_getElem? (i := 9) rfl)
set_option maxRecDepth 20000 in
theorem tw_320 : Cond.methodLink RJ1 92 Lib.Math.max.name ∈ lw_tbl := inT3 _ (List.mem_of_getElem? (i := 8) rfl)
set_option maxRecDepth 20000 in
theorem tw_321 : Cond.code yJ1_indexOf_4cfef cJ1_indexOf_4cfef 4 (some .int) ∈ lw_tbl := inT3 _ (List.mem_of_getElem? (i := 4) rfl)
set_option maxRecDepth 20000 in
theorem tw_322 : Cond.initialized RJ1 ∈ lw_tbl := inT1 _ (List.mem_of_getElem? (i := 16) rfl)
set_option maxRecDepth 20000 in
theorem tw_323 : Cond.static yJ1_indexOf_4cfef ∈ lw_tbl := inT3 _ (List.mem_of_getElem? (i := 3) rfl)
set_option maxRecDepth 20000 in
theorem tw_324 : Cond.methodLink RJ0 637 yJ1_indexOf_4cfef ∈ lw_tbl := inT3 _ (List.mem_of_getElem? (i := 2) rfl)
set_option maxRecDepth 20000 in
theorem tw_325 : Cond.code yJ0_coder_7d493 cJ0_coder_7d493 1 (some .byte) ∈ lw_tbl := inT3 _ (List.mem_of_getElem? (i := 1) rfl)
set_option maxRecDepth 20000 in
theorem tw_326 : Cond.selects RJ0 yJ0_coder_7d493 yJ0_coder_7d493 ∈ lw_tbl := inT3 _ (List.mem_of_getElem? (i := 0) rfl)
set_option maxRecDepth 20000 in
theorem tw_327 : Cond.instanceMethod yJ0_coder_7d493 ∈ lw_tbl := inT2 _ (List.mem_of_getElem? (i := 239) rfl)
set_option maxRecDepth 20000 in
theorem tw_328 : Cond.methodLink RJ0 335 yJ0_coder_7d493 ∈ lw_tbl := inT2 _ (List.mem_of_getElem? (i := 238) rfl)
set_option maxRecDepth 20000 in
theorem tw_329 : Cond.code yJ0_length_8abf5 cJ0_length_8abf5 1 (some .int) ∈ lw_tbl := inT2 _ (List.mem_of_getElem? (i := 237) rfl)
set_option maxRecDepth 20000 in
theorem tw_330 : Cond.selects RJ0 yJ0_length_8abf5 yJ0_length_8abf5 ∈ lw_tbl := inT2 _ (List.mem_of_getElem? (i := 236) rfl)
set_option maxRecDepth 20000 in
theorem tw_331 : Cond.instanceMethod yJ0_length_8abf5 ∈ lw_tbl := inT2 _ (List.mem_of_getElem? (i := 235) rfl)
set_option maxRecDepth 20000 in
theorem tw_332 : Cond.methodLink RJ0 505 yJ0_length_8abf5 ∈ lw_tbl := inT2 _ (List.mem_of_getElem? (i := 234) rfl)
set_option maxRecDepth 20000 in
theorem tw_333 : Cond.fieldLink RJ0 15 "java/lang/String" "coder" "B" ∈ lw_tbl := inT7 _ (List.mem_of_getElem? (i := 177) rfl)
set_option maxRecDepth 20000 in
theorem tw_334 : Cond.fieldLink RJ0 38 "java/lang/String" "COMPACT_STRINGS" "Z" ∈ lw_tbl := inT2 _ (List.mem_of_getElem? (i := 232) rfl)
set_option maxRecDepth 20000 in
theorem tw_335 : Cond.code yJ0_isLatin1_aae02 cJ0_isLatin1_aae02 1 (some .boolean) ∈ lw_tbl := inT2 _ (List.mem_of_getElem? (i := 231) rfl)
set_option maxRecDepth 20000 in
theorem tw_336 : Cond.selects RJ0 yJ0_isLatin1_aae02 yJ0_isLatin1_aae02 ∈ lw_tbl := inT2 _ (List.mem_of_getElem? (i := 230) rfl)
set_option maxRecDepth 20000 in
theorem tw_337 : Cond.instanceMethod yJ0_isLatin1_aae02 ∈ lw_tbl := inT2 _ (List.mem_of_getElem? (i := 229) rfl)
set_option maxRecDepth 20000 in
theorem tw_338 : Cond.methodLink RJ0 492 yJ0_isLatin1_aae02 ∈ lw_tbl := inT2 _ (List.mem_of_getElem? (i := 228) rfl)
set_option maxRecDepth 20000 in
theorem tw_339 : Cond.fieldLink RJ0 9 "java/lang/String" "value" "[B" ∈ lw_tbl := inT7 _ (List.mem_of_getElem? (i := 178) rfl)
set_option maxRecDepth 20000 in
theorem tw_340 : Cond.code yJ0_checkBoundsBeginEnd_23922 cJ0_checkBoundsBeginEnd_23922 3 none ∈ lw_tbl := inT3 _ (List.mem_of_getElem? (i := 32) rfl)
set_option maxRecDepth 20000 in
theorem tw_341 : Cond.static yJ0_checkBoundsBeginEnd_23922 ∈ lw_tbl := inT3 _ (List.mem_of_getElem? (i := 31) rfl)
set_option maxRecDepth 20000 in
theorem tw_342 : Cond.methodLink RJ2 241 yJ0_checkBoundsBeginEnd_23922 ∈ lw_tbl := inT3 _ (List.mem_of_getElem? (i := 30) rfl)
set_option maxRecDepth 20000 in
theorem tw_343 : Cond.code yJ2_length_9d52b cJ2_length_9d52b 1 (some .int) ∈ lw_tbl := inT3 _ (List.mem_of_getElem? (i := 29) rfl)
set_option maxRecDepth 20000 in
theorem tw_344 : Cond.static yJ2_length_9d52b ∈ lw_tbl := inT3 _ (List.mem_of_getElem? (i := 28) rfl)
set_option maxRecDepth 20000 in
theorem tw_345 : Cond.methodLink RJ2 48 yJ2_length_9d52b ∈ lw_tbl := inT3 _ (List.mem_of_getElem? (i := 27) rfl)
set_option maxRecDepth 20000 in
theorem tw_346 : Cond.code yJ2_checkBoundsBeginEnd_d044e cJ2_checkBoundsBeginEnd_d044e 3 none ∈ lw_tbl := inT3 _ (List.mem_of_getElem? (i := 26) rfl)
set_option maxRecDepth 20000 in
theorem tw_347 : Cond.static yJ2_checkBoundsBeginEnd_d044e ∈ lw_tbl := inT3 _ (List.mem_of_getElem? (i := 25) rfl)
set_option maxRecDepth 20000 in
theorem tw_348 : Cond.methodLink RJ2 96 yJ2_checkBoundsBeginEnd_d044e ∈ lw_tbl := inT3 _ (List.mem_of_getElem? (i := 24) rfl)
set_option maxRecDepth 20000 in
theorem tw_349 : Cond.code yJ2_indexOfChar_4cfef cJ2_indexOfChar_4cfef 4 (some .int) ∈ lw_tbl := inT3 _ (List.mem_of_getElem? (i := 23) rfl)
set_option maxRecDepth 20000 in
theorem tw_350 : Cond.static yJ2_indexOfChar_4cfef ∈ lw_tbl := inT3 _ (List.mem_of_getElem? (i := 22) rfl)
set_option maxRecDepth 20000 in
theorem tw_351 : Cond.methodLink RJ2 228 yJ2_indexOfChar_4cfef ∈ lw_tbl := inT3 _ (List.mem_of_getElem? (i := 21) rfl)
set_option maxRecDepth 20000 in
theorem tw_352 : Cond.constant RJ2 227 (65536) ∈ lw_tbl := inT3 _ (List.mem_of_getElem? (i := 20) rfl)
set_option maxRecDepth 20000 in
theorem tw_353 : Cond.methodLink RJ2 183 Lib.Math.min.name ∈ lw_tbl := inT3 _ (List.mem_of_getElem? (i := 19) rfl)
set_option maxRecDepth 20000 in
theorem tw_354 : Cond.methodLink RJ2 224 Lib.Math.max.name ∈ lw_tbl := inT3 _ (List.mem_of_getElem? (i := 18) rfl)
set_option maxRecDepth 20000 in
theorem tw_355 : Cond.code yJ2_indexOf_4cfef cJ2_indexOf_4cfef 4 (some .int) ∈ lw_tbl := inT3 _ (List.mem_of_getElem? (i := 17) rfl)
set_option maxRecDepth 20000 in
theorem tw_356 : Cond.initialized RJ2 ∈ lw_tbl := inT1 _ (List.mem_of_getElem? (i := 17) rfl)
set_option maxRecDepth 20000 in
theorem tw_357 : Cond.static yJ2_indexOf_4cfef ∈ lw_tbl := inT3 _ (List.mem_of_getElem? (i := 16) rfl)
set_option maxRecDepth 20000 in
theorem tw_358 : Cond.methodLink RJ0 640 yJ2_indexOf_4cfef ∈ lw_tbl := inT3 _ (List.mem_of_getElem? (i := 15) rfl)
set_option maxRecDepth 20000 in
theorem tw_359 : Cond.code yJ1_indexOfChar_4cfef cJ1_indexOfChar_4cfef 6 (some .int) ∈ lw_tbl := inT3 _ (List.mem_of_getElem? (i := 14) rfl)
set_option maxRecDepth 20000 in
theorem tw_360 : Cond.static yJ1_indexOfChar_4cfef ∈ lw_tbl := inT3 _ (List.mem_of_getElem? (i := 13) rfl)
set_option maxRecDepth 20000 in
theorem tw_361 : Cond.methodLink RJ1 95 yJ1_indexOfChar_4cfef ∈ lw_tbl := inT3 _ (List.mem_of_getElem? (i := 12) rfl)
set_option maxRecDepth 20000 in
theorem tw_362 : Cond.code yJ1_canEncode_9a6ad cJ1_canEncode_9a6ad 1 (some .boolean) ∈ lw_tbl := inT3 _ (List.mem_of_getElem? (i := 7) rfl)
set_option maxRecDepth 20000 in
theorem tw_363 : Cond.static yJ1_canEncode_9a6ad ∈ lw_tbl := inT3 _ (List.mem_of_getElem? (i := 6) rfl)
set_option maxRecDepth 20000 in
theorem tw_364 : Cond.code yJ11_highSurrogate_5068e cJ11_highSurrogate_5068e 1 (some .char) ∈ lw_tbl := inT3 _ (List.mem_of_getElem? (i := 58) rfl)
set_option maxRecDepth 20000 in
theorem tw_365 : Cond.static yJ11_highSurrogate_5068e ∈ lw_tbl := inT3 _ (List.mem_of_getElem? (i := 57) rfl)
set_option maxRecDepth 20000 in
theorem tw_366 : Cond.methodLink RJ2 157 yJ11_highSurrogate_5068e ∈ lw_tbl := inT3 _ (List.mem_of_getElem? (i := 56) rfl)
set_option maxRecDepth 20000 in
theorem tw_367 : Cond.code yJ11_isValidCodePoint_9a6ad cJ11_isValidCodePoint_9a6ad 2 (some .boolean) ∈ lw_tbl := inT3 _ (List.mem_of_getElem? (i := 55) rfl)
set_option maxRecDepth 20000 in
theorem tw_368 : Cond.initialized RJ11 ∈ lw_tbl := inT1 _ (List.mem_of_getElem? (i := 19) rfl)
set_option maxRecDepth 20000 in
theorem tw_369 : Cond.static yJ11_isValidCodePoint_9a6ad ∈ lw_tbl := inT3 _ (List.mem_of_getElem? (i := 54) rfl)
set_option maxRecDepth 20000 in
theorem tw_370 : Cond.methodLink RJ2 164 yJ11_isValidCodePoint_9a6ad ∈ lw_tbl := inT3 _ (List.mem_of_getElem? (i := 53) rfl)
set_option maxRecDepth 20000 in
theorem tw_371 : Cond.code yJ2_indexOfSupplementary_4cfef cJ2_indexOfSupplementary_4cfef 7 (some .int) ∈ lw_tbl := inT3 _ (List.mem_of_getElem? (i := 52) rfl)
set_option maxRecDepth 20000 in
theorem tw_372 : Cond.static yJ2_indexOfSupplementary_4cfef ∈ lw_tbl := inT3 _ (List.mem_of_getElem? (i := 51) rfl)
set_option maxRecDepth 20000 in
theorem tw_373 : Cond.methodLink RJ2 232 yJ2_indexOfSupplementary_4cfef ∈ lw_tbl := inT3 _ (List.mem_of_getElem? (i := 50) rfl)
set_option maxRecDepth 20000 in
theorem tw_374 : Cond.fieldLink RJ2 63 "java/lang/StringUTF16" "LO_BYTE_SHIFT" "I" ∈ lw_tbl := inT3 _ (List.mem_of_getElem? (i := 48) rfl)
set_option maxRecDepth 20000 in
theorem tw_375 : Cond.fieldLink RJ2 59 "java/lang/StringUTF16" "HI_BYTE_SHIFT" "I" ∈ lw_tbl := inT3 _ (List.mem_of_getElem? (i := 46) rfl)
set_option maxRecDepth 20000 in
theorem tw_376 : Cond.fieldLink RJ2 44 "java/lang/StringUTF16" "$assertionsDisabled" "Z" ∈ lw_tbl := inT3 _ (List.mem_of_getElem? (i := 44) rfl)
set_option maxRecDepth 20000 in
theorem tw_377 : Cond.code yJ2_getChar_3b067 cJ2_getChar_3b067 2 (some .char) ∈ lw_tbl := inT3 _ (List.mem_of_getElem? (i := 43) rfl)
set_option maxRecDepth 20000 in
theorem tw_378 : Cond.static yJ2_getChar_3b067 ∈ lw_tbl := inT3 _ (List.mem_of_getElem? (i := 42) rfl)
set_option maxRecDepth 20000 in
theorem tw_379 : Cond.methodLink RJ2 71 yJ2_getChar_3b067 ∈ lw_tbl := inT3 _ (List.mem_of_getElem? (i := 41) rfl)
set_option maxRecDepth 20000 in
theorem tw_380 : Cond.code yJ2_indexOfCharUnsafe_4cfef cJ2_indexOfCharUnsafe_4cfef 5 (some .int) ∈ lw_tbl := inT3 _ (List.mem_of_getElem? (i := 40) rfl)
set_option maxRecDepth 20000 in
theorem tw_381 : Cond.static yJ2_indexOfCharUnsafe_4cfef ∈ lw_tbl := inT3 _ (List.mem_of_getElem? (i := 39) rfl)
set_option maxRecDepth 20000 in
theorem tw_382 : Cond.methodLink RJ2 244 yJ2_indexOfCharUnsafe_4cfef ∈ lw_tbl := inT3 _ (List.mem_of_getElem? (i := 38) rfl)
set_option maxRecDepth 20000 in
theorem tw_383 : Cond.code yJ3_checkFromToIndex_8c36e cJ3_checkFromToIndex_8c36e 4 (some .int) ∈ lw_tbl := inT3 _ (List.mem_of_getElem? (i := 37) rfl)
set_option maxRecDepth 20000 in
theorem tw_384 : Cond.initialized RJ3 ∈ lw_tbl := inT1 _ (List.mem_of_getElem? (i := 18) rfl)
set_option maxRecDepth 20000 in
theorem tw_385 : Cond.static yJ3_checkFromToIndex_8c36e ∈ lw_tbl := inT3 _ (List.mem_of_getElem? (i := 36) rfl)
set_option maxRecDepth 20000 in
theorem tw_386 : Cond.methodLink RJ0 1062 yJ3_checkFromToIndex_8c36e ∈ lw_tbl := inT3 _ (List.mem_of_getElem? (i := 35) rfl)
set_option maxRecDepth 20000 in
theorem tw_387 : Cond.fieldLink RJ0 1053 "jdk/internal/util/Preconditions" "SIOOBE_FORMATTER" "Ljava/util/function/BiFunction;" ∈ lw_tbl := inT3 _ (List.mem_of_getElem? (i := 33) rfl)
set_option maxRecDepth 20000 in
theorem tw_388 : Cond.instanceMethod yX3_opens ∈ lw_tbl := inT3 _ (List.mem_of_getElem? (i := 82) rfl)
set_option maxRecDepth 20000 in
theorem tw_389 : Cond.methodLink RX3 93 yX3_opens ∈ lw_tbl := inT3 _ (List.mem_of_getElem? (i := 80) rfl)
set_option maxRecDepth 20000 in
theorem tw_390 : Cond.code yX3_readFactor cX3_readFactor 5 none ∈ lw_tbl := inT3 _ (List.mem_of_getElem? (i := 77) rfl)
set_option maxRecDepth 20000 in
theorem tw_391 : Cond.code yX2_put cX2_put 3 (some .int) ∈ lw_tbl := inT3 _ (List.mem_of_getElem? (i := 98) rfl)
set_option maxRecDepth 20000 in
theorem tw_392 : Cond.selects RX2 yX2_put yX2_put ∈ lw_tbl := inT3 _ (List.mem_of_getElem? (i := 97) rfl)
set_option maxRecDepth 20000 in
theorem tw_393 : Cond.instanceMethod yX2_put ∈ lw_tbl := inT3 _ (List.mem_of_getElem? (i := 96) rfl)
set_option maxRecDepth 20000 in
theorem tw_394 : Cond.methodLink RX3 83 yX2_put ∈ lw_tbl := inT3 _ (List.mem_of_getElem? (i := 95) rfl)
set_option maxRecDepth 20000 in
theorem tw_395 : Cond.methodLink RX3 80 yX1_sees ∈ lw_tbl := inT3 _ (List.mem_of_getElem? (i := 79) rfl)
set_option maxRecDepth 20000 in
theorem tw_396 : Cond.selects RX3 yX3_readProduct yX3_readProduct ∈ lw_tbl := inTs _ (List.mem_of_getElem? (i := 2) rfl)
set_option maxRecDepth 20000 in
theorem tw_397 : Cond.instanceMethod yX3_readProduct ∈ lw_tbl := inT3 _ (List.mem_of_getElem? (i := 72) rfl)
set_option maxRecDepth 20000 in
theorem tw_398 : Cond.methodLink RX3 105 yX3_readProduct ∈ lw_tbl := inT3 _ (List.mem_of_getElem? (i := 70) rfl)
set_option maxRecDepth 20000 in
theorem tw_399 : Cond.code yX3_readSum cX3_readSum 5 none ∈ lw_tbl := inT3 _ (List.mem_of_getElem? (i := 69) rfl)
set_option maxRecDepth 20000 in
theorem tw_400 : Cond.selects RX3 yX3_readSum yX3_readSum ∈ lw_tbl := inTs _ (List.mem_of_getElem? (i := 1) rfl)
set_option maxRecDepth 20000 in
theorem tw_401 : Cond.instanceMethod yX3_readSum ∈ lw_tbl := inT3 _ (List.mem_of_getElem? (i := 68) rfl)
set_option maxRecDepth 20000 in
theorem tw_402 : Cond.methodLink RX3 59 yX3_readSum ∈ lw_tbl := inT3 _ (List.mem_of_getElem? (i := 66) rfl)
set_option maxRecDepth 20000 in
theorem tw_403 : Cond.methodLink RX3 46 yX1_next ∈ lw_tbl := inT3 _ (List.mem_of_getElem? (i := 65) rfl)
set_option maxRecDepth 20000 in
theorem tw_404 : Cond.methodLink RX3 42 yX1_failHere ∈ lw_tbl := inT3 _ (List.mem_of_getElem? (i := 64) rfl)
set_option maxRecDepth 20000 in
theorem tw_405 : Cond.constant RJ11 76 (56320) ∈ lw_tbl := inT3 _ (List.mem_of_getElem? (i := 63) rfl)
set_option maxRecDepth 20000 in
theorem tw_406 : Cond.code yJ11_lowSurrogate_5068e cJ11_lowSurrogate_5068e 1 (some .char) ∈ lw_tbl := inT3 _ (List.mem_of_getElem? (i := 62) rfl)
set_option maxRecDepth 20000 in
theorem tw_407 : Cond.static yJ11_lowSurrogate_5068e ∈ lw_tbl := inT3 _ (List.mem_of_getElem? (i := 61) rfl)
set_option maxRecDepth 20000 in
theorem tw_408 : Cond.methodLink RJ2 161 yJ11_lowSurrogate_5068e ∈ lw_tbl := inT3 _ (List.mem_of_getElem? (i := 60) rfl)
set_option maxRecDepth 20000 in
theorem tw_409 : Cond.constant RJ11 110 (55232) ∈ lw_tbl := inT3 _ (List.mem_of_getElem? (i := 59) rfl)
set_option maxRecDepth 20000 in
theorem tw_410 : Cond.code yX3_readCondition cX3_readCondition 5 none ∈ lw_tbl := inT3 _ (List.mem_of_getElem? (i := 106) rfl)
set_option maxRecDepth 20000 in
theorem tw_411 : Cond.selects RX3 yX3_readCondition yX3_readCondition ∈ lw_tbl := inTs _ (List.mem_of_getElem? (i := 6) rfl)
set_option maxRecDepth 20000 in
theorem tw_412 : Cond.instanceMethod yX3_readCondition ∈ lw_tbl := inT3 _ (List.mem_of_getElem? (i := 105) rfl)
set_option maxRecDepth 20000 in
theorem tw_413 : Cond.methodLink RX3 68 yX3_readCondition ∈ lw_tbl := inT3 _ (List.mem_of_getElem? (i := 103) rfl)
set_option maxRecDepth 20000 in
theorem tw_414 : Cond.code yX3_seesTimes cX3_seesTimes 1 (some .boolean) ∈ lw_tbl := inT3 _ (List.mem_of_getElem? (i := 102) rfl)
set_option maxRecDepth 20000 in
theorem tw_415 : Cond.selects RX3 yX3_seesTimes yX3_seesTimes ∈ lw_tbl := inTs _ (List.mem_of_getElem? (i := 5) rfl)
set_option maxRecDepth 20000 in
theorem tw_416 : Cond.instanceMethod yX3_seesTimes ∈ lw_tbl := inT3 _ (List.mem_of_getElem? (i := 101) rfl)
set_option maxRecDepth 20000 in
theorem tw_417 : Cond.methodLink RX3 111 yX3_seesTimes ∈ lw_tbl := inT3 _ (List.mem_of_getElem? (i := 99) rfl)
set_option maxRecDepth 20000 in
theorem tw_418 : Cond.selects RX3 yX3_readFactor yX3_readFactor ∈ lw_tbl := inTs _ (List.mem_of_getElem? (i := 3) rfl)
set_option maxRecDepth 20000 in
theorem tw_419 : Cond.instanceMethod yX3_readFactor ∈ lw_tbl := inT3 _ (List.mem_of_getElem? (i := 76) rfl)
set_option maxRecDepth 20000 in
theorem tw_420 : Cond.methodLink RX3 108 yX3_readFactor ∈ lw_tbl := inT3 _ (List.mem_of_getElem? (i := 74) rfl)
set_option maxRecDepth 20000 in
theorem tw_421 : Cond.code yX3_readProduct cX3_readProduct 5 none ∈ lw_tbl := inT3 _ (List.mem_of_getElem? (i := 73) rfl)
set_option maxRecDepth 20000 in
theorem tw_422 : Cond.methodLink RX1 66 yX1_seesDigit ∈ lw_tbl := inT3 _ (List.mem_of_getElem? (i := 94) rfl)
set_option maxRecDepth 20000 in
theorem tw_423 : Cond.code yX1_readNumber cX1_readNumber 4 (some .int) ∈ lw_tbl := inT3 _ (List.mem_of_getElem? (i := 93) rfl)
set_option maxRecDepth 20000 in
theorem tw_424 : Cond.selects RX1 yX1_readNumber yX1_readNumber ∈ lw_tbl := inT3 _ (List.mem_of_getElem? (i := 92) rfl)
set_option maxRecDepth 20000 in
theorem tw_425 : Cond.instanceMethod yX1_readNumber ∈ lw_tbl := inT3 _ (List.mem_of_getElem? (i := 91) rfl)
set_option maxRecDepth 20000 in
theorem tw_426 : Cond.methodLink RX3 119 yX1_readNumber ∈ lw_tbl := inT3 _ (List.mem_of_getElem? (i := 90) rfl)
set_option maxRecDepth 20000 in
theorem tw_427 : Cond.code yX1_seesDigit cX1_seesDigit 1 (some .boolean) ∈ lw_tbl := inT3 _ (List.mem_of_getElem? (i := 88) rfl)
set_option maxRecDepth 20000 in
theorem tw_428 : Cond.selects RX1 yX1_seesDigit yX1_seesDigit ∈ lw_tbl := inT3 _ (List.mem_of_getElem? (i := 87) rfl)
set_option maxRecDepth 20000 in
theorem tw_429 : Cond.instanceMethod yX1_seesDigit ∈ lw_tbl := inT3 _ (List.mem_of_getElem? (i := 86) rfl)
set_option maxRecDepth 20000 in
theorem tw_430 : Cond.methodLink RX3 116 yX1_seesDigit ∈ lw_tbl := inT3 _ (List.mem_of_getElem? (i := 85) rfl)
set_option maxRecDepth 20000 in
theorem tw_431 : Cond.methodLink RX3 65 yX1_take ∈ lw_tbl := inT3 _ (List.mem_of_getElem? (i := 84) rfl)
set_option maxRecDepth 20000 in
theorem tw_432 : Cond.code yX3_opens cX3_opens 2 (some .boolean) ∈ lw_tbl := inT3 _ (List.mem_of_getElem? (i := 83) rfl)
set_option maxRecDepth 20000 in
theorem tw_433 : Cond.selects RX3 yX3_opens yX3_opens ∈ lw_tbl := inTs _ (List.mem_of_getElem? (i := 4) rfl)
set_option maxRecDepth 20000 in
theorem tw_434 : Cond.methodLink RX11 149 yX1_isFaulty ∈ lw_tbl := inT3 _ (List.mem_of_getElem? (i := 128) rfl)
set_option maxRecDepth 20000 in
theorem tw_435 : Cond.code yX8_clear cX8_clear 1 none ∈ lw_tbl := inT3 _ (List.mem_of_getElem? (i := 127) rfl)
set_option maxRecDepth 20000 in
theorem tw_436 : Cond.selects RX8 yX8_clear yX8_clear ∈ lw_tbl := inT3 _ (List.mem_of_getElem? (i := 126) rfl)
set_option maxRecDepth 20000 in
theorem tw_437 : Cond.instanceMethod yX8_clear ∈ lw_tbl := inT3 _ (List.mem_of_getElem? (i := 125) rfl)
set_option maxRecDepth 20000 in
theorem tw_438 : Cond.methodLink RX11 146 yX8_clear ∈ lw_tbl := inT3 _ (List.mem_of_getElem? (i := 124) rfl)
set_option maxRecDepth 20000 in
theorem tw_439 : Cond.code yX10_isOutcome cX10_isOutcome 1 (some .boolean) ∈ lw_tbl := inT3 _ (List.mem_of_getElem? (i := 118) rfl)
set_option maxRecDepth 20000 in
theorem tw_440 : Cond.static yX10_isOutcome ∈ lw_tbl := inT3 _ (List.mem_of_getElem? (i := 117) rfl)
set_option maxRecDepth 20000 in
theorem tw_441 : Cond.methodLink RX3 100 yX10_isOutcome ∈ lw_tbl := inT3 _ (List.mem_of_getElem? (i := 116) rfl)
set_option maxRecDepth 20000 in
theorem tw_442 : Cond.methodLink RX3 96 yX1_isFaulty ∈ lw_tbl := inT3 _ (List.mem_of_getElem? (i := 115) rfl)
set_option maxRecDepth 20000 in
theorem tw_443 : Cond.code yX3_readTest cX3_readTest 4 none ∈ lw_tbl := inT3 _ (List.mem_of_getElem? (i := 114) rfl)
set_option maxRecDepth 20000 in
theorem tw_444 : Cond.selects RX3 yX3_readTest yX3_readTest ∈ lw_tbl := inTs _ (List.mem_of_getElem? (i := 8) rfl)
set_option maxRecDepth 20000 in
theorem tw_445 : Cond.instanceMethod yX3_readTest ∈ lw_tbl := inT3 _ (List.mem_of_getElem? (i := 113) rfl)
set_option maxRecDepth 20000 in
theorem tw_446 : Cond.methodLink RX3 90 yX3_readTest ∈ lw_tbl := inT3 _ (List.mem_of_getElem? (i := 111) rfl)
set_option maxRecDepth 20000 in
theorem tw_447 : Cond.code yX3_readPart cX3_readPart 5 none ∈ lw_tbl := inT3 _ (List.mem_of_getElem? (i := 110) rfl)
set_option maxRecDepth 20000 in
theorem tw_448 : Cond.code yX2_leadHere cX2_leadHere 2 none ∈ lw_tbl := inT3 _ (List.mem_of_getElem? (i := 122) rfl)
set_option maxRecDepth 20000 in
theorem tw_449 : Cond.selects RX2 yX2_leadHere yX2_leadHere ∈ lw_tbl := inT3 _ (List.mem_of_getElem? (i := 121) rfl)
set_option maxRecDepth 20000 in
theorem tw_450 : Cond.instanceMethod yX2_leadHere ∈ lw_tbl := inT3 _ (List.mem_of_getElem? (i := 120) rfl)
set_option maxRecDepth 20000 in
theorem tw_451 : Cond.methodLink RX3 87 yX2_leadHere ∈ lw_tbl := inT3 _ (List.mem_of_getElem? (i := 119) rfl)
set_option maxRecDepth 20000 in
theorem tw_452 : Cond.selects RX3 yX3_readPart yX3_readPart ∈ lw_tbl := inTs _ (List.mem_of_getElem? (i := 7) rfl)
set_option maxRecDepth 20000 in
theorem tw_453 : Cond.instanceMethod yX3_readPart ∈ lw_tbl := inT3 _ (List.mem_of_getElem? (i := 109) rfl)
set_option maxRecDepth 20000 in
theorem tw_454 : Cond.methodLink RX3 77 yX3_readPart ∈ lw_tbl := inT3 _ (List.mem_of_getElem? (i := 107) rfl)
set_option maxRecDepth 20000 in
theorem tw_455 : Cond.selects RX11 yX11_law yX11_law ∈ lw_tbl := inT2 _ (List.mem_of_getElem? (i := 161) rfl)
set_option maxRecDepth 20000 in
theorem tw_456 : Cond.instanceMethod yX11_law ∈ lw_tbl := inT2 _ (List.mem_of_getElem? (i := 160) rfl)
set_option maxRecDepth 20000 in
theorem tw_457 : Cond.methodLink RL 27 yX11_law ∈ lw_tbl := inT2 _ (List.mem_of_getElem? (i := 159) rfl)
set_option maxRecDepth 20000 in
theorem tw_458 : Cond.code yX12_law cX12_law 4 (some .int) ∈ lw_tbl := inT6 _ (List.mem_of_getElem? (i := 62) rfl)
set_option maxRecDepth 20000 in
theorem tw_459 : Cond.selects RX12 yX12_beginsText yX12_beginsText ∈ lw_tbl := inTs _ (List.mem_of_getElem? (i := 30) rfl)
set_option maxRecDepth 20000 in
theorem tw_460 : Cond.instanceMethod yX12_beginsText ∈ lw_tbl := inT6 _ (List.mem_of_getElem? (i := 65) rfl)
set_option maxRecDepth 20000 in
theorem tw_461 : Cond.methodLink RX12 211 yX12_beginsText ∈ lw_tbl := inT6 _ (List.mem_of_getElem? (i := 63) rfl)
set_option maxRecDepth 20000 in
theorem tw_462 : Cond.fieldLink RX12 150 "RopeScaleModel" "codeMany" "I" ∈ lw_tbl := inT5 _ (List.mem_of_getElem? (i := 135) rfl)
set_option maxRecDepth 20000 in
theorem tw_463 : Cond.fieldLink RX12 220 "RopeScaleModel" "clauses" "I" ∈ lw_tbl := inT5 _ (List.mem_of_getElem? (i := 138) rfl)
set_option maxRecDepth 20000 in
theorem tw_464 : Cond.fieldLink RX12 205 "RopeScaleModel" "saidMany" "I" ∈ lw_tbl := inT5 _ (List.mem_of_getElem? (i := 137) rfl)
set_option maxRecDepth 20000 in
theorem tw_465 : Cond.fieldLink RX12 136 "RopeScaleModel" "fault" "I" ∈ lw_tbl := inT5 _ (List.mem_of_getElem? (i := 132) rfl)
set_option maxRecDepth 20000 in
theorem tw_466 : Cond.fieldLink RX12 129 "RopeScaleModel" "length0" "I" ∈ lw_tbl := inT5 _ (List.mem_of_getElem? (i := 131) rfl)
set_option maxRecDepth 20000 in
theorem tw_467 : Cond.fieldLink RX12 126 "RopeScaleModel" "place0" "I" ∈ lw_tbl := inT5 _ (List.mem_of_getElem? (i := 130) rfl)
set_option maxRecDepth 20000 in
theorem tw_468 : Cond.instanceMethod yX12_readsFactor ∈ lw_tbl := inT6 _ (List.mem_of_getElem? (i := 85) rfl)
set_option maxRecDepth 20000 in
theorem tw_469 : Cond.methodLink RX12 177 yX12_readsFactor ∈ lw_tbl := inT6 _ (List.mem_of_getElem? (i := 83) rfl)
set_option maxRecDepth 20000 in
theorem tw_470 : Cond.constant RX12 153 (1048576) ∈ lw_tbl := inT6 _ (List.mem_of_getElem? (i := 91) rfl)
set_option maxRecDepth 20000 in
theorem tw_471 : Cond.code yX12_readsSum cX12_readsSum 3 (some .boolean) ∈ lw_tbl := inT6 _ (List.mem_of_getElem? (i := 82) rfl)
set_option maxRecDepth 20000 in
theorem tw_472 : Cond.selects RX12 yX12_readsSum yX12_readsSum ∈ lw_tbl := inTs _ (List.mem_of_getElem? (i := 34) rfl)
set_option maxRecDepth 20000 in
theorem tw_473 : Cond.instanceMethod yX12_readsSum ∈ lw_tbl := inT6 _ (List.mem_of_getElem? (i := 81) rfl)
set_option maxRecDepth 20000 in
theorem tw_474 : Cond.methodLink RX12 190 yX12_readsSum ∈ lw_tbl := inT6 _ (List.mem_of_getElem? (i := 79) rfl)
set_option maxRecDepth 20000 in
theorem tw_475 : Cond.code yX12_wrongAt cX12_wrongAt 3 (some .boolean) ∈ lw_tbl := inT6 _ (List.mem_of_getElem? (i := 78) rfl)
set_option maxRecDepth 20000 in
theorem tw_476 : Cond.selects RX12 yX12_wrongAt yX12_wrongAt ∈ lw_tbl := inTs _ (List.mem_of_getElem? (i := 33) rfl)
set_option maxRecDepth 20000 in
theorem tw_477 : Cond.instanceMethod yX12_wrongAt ∈ lw_tbl := inT6 _ (List.mem_of_getElem? (i := 77) rfl)
set_option maxRecDepth 20000 in
theorem tw_478 : Cond.methodLink RX12 139 yX12_wrongAt ∈ lw_tbl := inT6 _ (List.mem_of_getElem? (i := 75) rfl)
set_option maxRecDepth 20000 in
theorem tw_479 : Cond.code yX12_here cX12_here 1 (some .int) ∈ lw_tbl := inT6 _ (List.mem_of_getElem? (i := 74) rfl)
set_option maxRecDepth 20000 in
theorem tw_480 : Cond.selects RX12 yX12_here yX12_here ∈ lw_tbl := inTs _ (List.mem_of_getElem? (i := 32) rfl)
set_option maxRecDepth 20000 in
theorem tw_481 : Cond.instanceMethod yX12_here ∈ lw_tbl := inT6 _ (List.mem_of_getElem? (i := 73) rfl)
set_option maxRecDepth 20000 in
theorem tw_482 : Cond.methodLink RX12 132 yX12_here ∈ lw_tbl := inT6 _ (List.mem_of_getElem? (i := 71) rfl)
set_option maxRecDepth 20000 in
theorem tw_483 : Cond.fieldLink RX12 157 "RopeScaleModel" "waiting" "I" ∈ lw_tbl := inT5 _ (List.mem_of_getElem? (i := 136) rfl)
set_option maxRecDepth 20000 in
theorem tw_484 : Cond.fieldLink RX12 154 "RopeScaleModel" "open" "I" ∈ lw_tbl := inT5 _ (List.mem_of_getElem? (i := 134) rfl)
set_option maxRecDepth 20000 in
theorem tw_485 : Cond.code yX12_readsRule cX12_readsRule 2 (some .boolean) ∈ lw_tbl := inT6 _ (List.mem_of_getElem? (i := 70) rfl)
set_option maxRecDepth 20000 in
theorem tw_486 : Cond.selects RX12 yX12_readsRule yX12_readsRule ∈ lw_tbl := inTs _ (List.mem_of_getElem? (i := 31) rfl)
set_option maxRecDepth 20000 in
theorem tw_487 : Cond.instanceMethod yX12_readsRule ∈ lw_tbl := inT6 _ (List.mem_of_getElem? (i := 69) rfl)
set_option maxRecDepth 20000 in
theorem tw_488 : Cond.methodLink RX12 214 yX12_readsRule ∈ lw_tbl := inT6 _ (List.mem_of_getElem? (i := 67) rfl)
set_option maxRecDepth 20000 in
theorem tw_489 : Cond.code yX12_beginsText cX12_beginsText 2 none ∈ lw_tbl := inT6 _ (List.mem_of_getElem? (i := 66) rfl)
set_option maxRecDepth 20000 in
theorem tw_490 : Cond.static yX12_sumSign ∈ lw_tbl := inT6 _ (List.mem_of_getElem? (i := 108) rfl)
set_option maxRecDepth 20000 in
theorem tw_491 : Cond.methodLink RX12 180 yX12_sumSign ∈ lw_tbl := inT6 _ (List.mem_of_getElem? (i := 107) rfl)
set_option maxRecDepth 20000 in
theorem tw_492 : Cond.code yX12_factOf cX12_factOf 1 (some .int) ∈ lw_tbl := inT6 _ (List.mem_of_getElem? (i := 106) rfl)
set_option maxRecDepth 20000 in
theorem tw_493 : Cond.static yX12_factOf ∈ lw_tbl := inT6 _ (List.mem_of_getElem? (i := 105) rfl)
set_option maxRecDepth 20000 in
theorem tw_494 : Cond.methodLink RX12 173 yX12_factOf ∈ lw_tbl := inT6 _ (List.mem_of_getElem? (i := 104) rfl)
set_option maxRecDepth 20000 in
theorem tw_495 : Cond.code yX12_notes cX12_notes 3 none ∈ lw_tbl := inT6 _ (List.mem_of_getElem? (i := 103) rfl)
set_option maxRecDepth 20000 in
theorem tw_496 : Cond.selects RX12 yX12_notes yX12_notes ∈ lw_tbl := inTs _ (List.mem_of_getElem? (i := 39) rfl)
set_option maxRecDepth 20000 in
theorem tw_497 : Cond.instanceMethod yX12_notes ∈ lw_tbl := inT6 _ (List.mem_of_getElem? (i := 102) rfl)
set_option maxRecDepth 20000 in
theorem tw_498 : Cond.methodLink RX12 163 yX12_notes ∈ lw_tbl := inT6 _ (List.mem_of_getElem? (i := 100) rfl)
set_option maxRecDepth 20000 in
theorem tw_499 : Cond.code yX12_readsNumber cX12_readsNumber 2 (some .boolean) ∈ lw_tbl := inT6 _ (List.mem_of_getElem? (i := 99) rfl)
set_option maxRecDepth 20000 in
theorem tw_500 : Cond.selects RX12 yX12_readsNumber yX12_readsNumber ∈ lw_tbl := inTs _ (List.mem_of_getElem? (i := 38) rfl)
set_option maxRecDepth 20000 in
theorem tw_501 : Cond.instanceMethod yX12_readsNumber ∈ lw_tbl := inT6 _ (List.mem_of_getElem? (i := 98) rfl)
set_option maxRecDepth 20000 in
theorem tw_502 : Cond.methodLink RX12 170 yX12_readsNumber ∈ lw_tbl := inT6 _ (List.mem_of_getElem? (i := 96) rfl)
set_option maxRecDepth 20000 in
theorem tw_503 : Cond.code yX12_isDigit cX12_isDigit 1 (some .boolean) ∈ lw_tbl := inT6 _ (List.mem_of_getElem? (i := 95) rfl)
set_option maxRecDepth 20000 in
theorem tw_504 : Cond.selects RX12 yX12_isDigit yX12_isDigit ∈ lw_tbl := inTs _ (List.mem_of_getElem? (i := 37) rfl)
set_option maxRecDepth 20000 in
theorem tw_505 : Cond.instanceMethod yX12_isDigit ∈ lw_tbl := inT6 _ (List.mem_of_getElem? (i := 94) rfl)
set_option maxRecDepth 20000 in
theorem tw_506 : Cond.methodLink RX12 146 yX12_isDigit ∈ lw_tbl := inT6 _ (List.mem_of_getElem? (i := 92) rfl)
set_option maxRecDepth 20000 in
theorem tw_507 : Cond.code yX12_opens cX12_opens 2 (some .boolean) ∈ lw_tbl := inT6 _ (List.mem_of_getElem? (i := 90) rfl)
set_option maxRecDepth 20000 in
theorem tw_508 : Cond.selects RX12 yX12_opens yX12_opens ∈ lw_tbl := inTs _ (List.mem_of_getElem? (i := 36) rfl)
set_option maxRecDepth 20000 in
theorem tw_509 : Cond.instanceMethod yX12_opens ∈ lw_tbl := inT6 _ (List.mem_of_getElem? (i := 89) rfl)
set_option maxRecDepth 20000 in
theorem tw_510 : Cond.methodLink RX12 167 yX12_opens ∈ lw_tbl := inT6 _ (List.mem_of_getElem? (i := 87) rfl)
set_option maxRecDepth 20000 in
theorem tw_511 : Cond.fieldLink RX12 143 "RopeScaleModel" "number0" "I" ∈ lw_tbl := inT5 _ (List.mem_of_getElem? (i := 133) rfl)
set_option maxRecDepth 20000 in
theorem tw_512 : Cond.code yX12_readsFactor cX12_readsFactor 2 (some .boolean) ∈ lw_tbl := inT6 _ (List.mem_of_getElem? (i := 86) rfl)
set_option maxRecDepth 20000 in
theorem tw_513 : Cond.selects RX12 yX12_readsFactor yX12_readsFactor ∈ lw_tbl := inTs _ (List.mem_of_getElem? (i := 35) rfl)
set_option maxRecDepth 20000 in
theorem tw_514 : Cond.selects RX12 yX12_endsPiece yX12_endsPiece ∈ lw_tbl := inTs _ (List.mem_of_getElem? (i := 45) rfl)
set_option maxRecDepth 20000 in
theorem tw_515 : Cond.instanceMethod yX12_endsPiece ∈ lw_tbl := inT6 _ (List.mem_of_getElem? (i := 132) rfl)
set_option maxRecDepth 20000 in
theorem tw_516 : Cond.methodLink RX12 193 yX12_endsPiece ∈ lw_tbl := inT6 _ (List.mem_of_getElem? (i := 130) rfl)
set_option maxRecDepth 20000 in
theorem tw_517 : Cond.code yX12_readsCompared cX12_readsCompared 2 (some .boolean) ∈ lw_tbl := inT6 _ (List.mem_of_getElem? (i := 129) rfl)
set_option maxRecDepth 20000 in
theorem tw_518 : Cond.selects RX12 yX12_readsCompared yX12_readsCompared ∈ lw_tbl := inTs _ (List.mem_of_getElem? (i := 44) rfl)
set_option maxRecDepth 20000 in
theorem tw_519 : Cond.instanceMethod yX12_readsCompared ∈ lw_tbl := inT6 _ (List.mem_of_getElem? (i := 128) rfl)
set_option maxRecDepth 20000 in
theorem tw_520 : Cond.methodLink RX12 196 yX12_readsCompared ∈ lw_tbl := inT6 _ (List.mem_of_getElem? (i := 126) rfl)
set_option maxRecDepth 20000 in
theorem tw_521 : Cond.code yX12_readsCondition cX12_readsCondition 1 (some .boolean) ∈ lw_tbl := inT6 _ (List.mem_of_getElem? (i := 125) rfl)
set_option maxRecDepth 20000 in
theorem tw_522 : Cond.selects RX12 yX12_readsCondition yX12_readsCondition ∈ lw_tbl := inTs _ (List.mem_of_getElem? (i := 43) rfl)
set_option maxRecDepth 20000 in
theorem tw_523 : Cond.instanceMethod yX12_readsCondition ∈ lw_tbl := inT6 _ (List.mem_of_getElem? (i := 124) rfl)
set_option maxRecDepth 20000 in
theorem tw_524 : Cond.methodLink RX12 208 yX12_readsCondition ∈ lw_tbl := inT6 _ (List.mem_of_getElem? (i := 122) rfl)
set_option maxRecDepth 20000 in
theorem tw_525 : Cond.code yX12_hasOpenSum cX12_hasOpenSum 3 (some .boolean) ∈ lw_tbl := inT6 _ (List.mem_of_getElem? (i := 121) rfl)
set_option maxRecDepth 20000 in
theorem tw_526 : Cond.selects RX12 yX12_hasOpenSum yX12_hasOpenSum ∈ lw_tbl := inTs _ (List.mem_of_getElem? (i := 42) rfl)
set_option maxRecDepth 20000 in
theorem tw_527 : Cond.instanceMethod yX12_hasOpenSum ∈ lw_tbl := inT6 _ (List.mem_of_getElem? (i := 120) rfl)
set_option maxRecDepth 20000 in
theorem tw_528 : Cond.methodLink RX12 187 yX12_hasOpenSum ∈ lw_tbl := inT6 _ (List.mem_of_getElem? (i := 118) rfl)
set_option maxRecDepth 20000 in
theorem tw_529 : Cond.code yX12_waitTop cX12_waitTop 1 (some .int) ∈ lw_tbl := inT6 _ (List.mem_of_getElem? (i := 117) rfl)
set_option maxRecDepth 20000 in
theorem tw_530 : Cond.selects RX12 yX12_waitTop yX12_waitTop ∈ lw_tbl := inTs _ (List.mem_of_getElem? (i := 41) rfl)
set_option maxRecDepth 20000 in
theorem tw_531 : Cond.instanceMethod yX12_waitTop ∈ lw_tbl := inT6 _ (List.mem_of_getElem? (i := 116) rfl)
set_option maxRecDepth 20000 in
theorem tw_532 : Cond.methodLink RX12 160 yX12_waitTop ∈ lw_tbl := inT6 _ (List.mem_of_getElem? (i := 114) rfl)
set_option maxRecDepth 20000 in
theorem tw_533 : Cond.code yX12_closesSums cX12_closesSums 2 none ∈ lw_tbl := inT6 _ (List.mem_of_getElem? (i := 113) rfl)
set_option maxRecDepth 20000 in
theorem tw_534 : Cond.selects RX12 yX12_closesSums yX12_closesSums ∈ lw_tbl := inTs _ (List.mem_of_getElem? (i := 40) rfl)
set_option maxRecDepth 20000 in
theorem tw_535 : Cond.instanceMethod yX12_closesSums ∈ lw_tbl := inT6 _ (List.mem_of_getElem? (i := 112) rfl)
set_option maxRecDepth 20000 in
theorem tw_536 : Cond.methodLink RX12 183 yX12_closesSums ∈ lw_tbl := inT6 _ (List.mem_of_getElem? (i := 110) rfl)
set_option maxRecDepth 20000 in
theorem tw_537 : Cond.code yX12_sumSign cX12_sumSign 1 (some .int) ∈ lw_tbl := inT6 _ (List.mem_of_getElem? (i := 109) rfl)
set_option maxRecDepth 20000 in
theorem tw_538 : Cond.code yX12_takes cX12_takes 2 (some .boolean) ∈ lw_tbl := inT6 _ (List.mem_of_getElem? (i := 145) rfl)
set_option maxRecDepth 20000 in
theorem tw_539 : Cond.selects RX12 yX12_takes yX12_takes ∈ lw_tbl := inTs _ (List.mem_of_getElem? (i := 48) rfl)
set_option maxRecDepth 20000 in
theorem tw_540 : Cond.instanceMethod yX12_takes ∈ lw_tbl := inT6 _ (List.mem_of_getElem? (i := 144) rfl)
set_option maxRecDepth 20000 in
theorem tw_541 : Cond.methodLink RX12 217 yX12_takes ∈ lw_tbl := inT6 _ (List.mem_of_getElem? (i := 142) rfl)
set_option maxRecDepth 20000 in
theorem tw_542 : Cond.code yX12_jumps cX12_jumps 2 none ∈ lw_tbl := inT6 _ (List.mem_of_getElem? (i := 141) rfl)
set_option maxRecDepth 20000 in
theorem tw_543 : Cond.selects RX12 yX12_jumps yX12_jumps ∈ lw_tbl := inTs _ (List.mem_of_getElem? (i := 47) rfl)
set_option maxRecDepth 20000 in
theorem tw_544 : Cond.instanceMethod yX12_jumps ∈ lw_tbl := inT6 _ (List.mem_of_getElem? (i := 140) rfl)
set_option maxRecDepth 20000 in
theorem tw_545 : Cond.methodLink RX12 202 yX12_jumps ∈ lw_tbl := inT6 _ (List.mem_of_getElem? (i := 138) rfl)
set_option maxRecDepth 20000 in
theorem tw_546 : Cond.code yX12_lands cX12_lands 3 none ∈ lw_tbl := inT6 _ (List.mem_of_getElem? (i := 137) rfl)
set_option maxRecDepth 20000 in
theorem tw_547 : Cond.selects RX12 yX12_lands yX12_lands ∈ lw_tbl := inTs _ (List.mem_of_getElem? (i := 46) rfl)
set_option maxRecDepth 20000 in
theorem tw_548 : Cond.instanceMethod yX12_lands ∈ lw_tbl := inT6 _ (List.mem_of_getElem? (i := 136) rfl)
set_option maxRecDepth 20000 in
theorem tw_549 : Cond.methodLink RX12 199 yX12_lands ∈ lw_tbl := inT6 _ (List.mem_of_getElem? (i := 134) rfl)
set_option maxRecDepth 20000 in
theorem tw_550 : Cond.code yX12_endsPiece cX12_endsPiece 1 none ∈ lw_tbl := inT6 _ (List.mem_of_getElem? (i := 133) rfl)
set_option maxRecDepth 20000 in
theorem tw_551 : Cond.selects RX12 yX12_law yX12_law ∈ lw_tbl := inT6 _ (List.mem_of_getElem? (i := 61) rfl)
set_option maxRecDepth 20000 in
theorem tw_552 : Cond.instanceMethod yX12_law ∈ lw_tbl := inT6 _ (List.mem_of_getElem? (i := 60) rfl)
set_option maxRecDepth 20000 in
theorem tw_553 : Cond.methodLink RL 31 yX12_law ∈ lw_tbl := inT6 _ (List.mem_of_getElem? (i := 59) rfl)
set_option maxRecDepth 20000 in
theorem tw_554 : Cond.code yX11_orders cX11_orders 2 (some .int) ∈ lw_tbl := inT3 _ (List.mem_of_getElem? (i := 133) rfl)
set_option maxRecDepth 20000 in
theorem tw_555 : Cond.fieldLink RX11 167 "RopeScale$Orders" "lines" "I" ∈ lw_tbl := inT1 _ (List.mem_of_getElem? (i := 169) rfl)
set_option maxRecDepth 20000 in
theorem tw_556 : Cond.fieldLink RX11 158 "RopeScale$Walk" "told" "I" ∈ lw_tbl := inT1 _ (List.mem_of_getElem? (i := 98) rfl)
set_option maxRecDepth 20000 in
theorem tw_557 : Cond.methodLink RX4 25 yX1_begins ∈ lw_tbl := inT3 _ (List.mem_of_getElem? (i := 138) rfl)
set_option maxRecDepth 20000 in
theorem tw_558 : Cond.code yX4_read cX4_read 4 none ∈ lw_tbl := inT3 _ (List.mem_of_getElem? (i := 137) rfl)
set_option maxRecDepth 20000 in
theorem tw_559 : Cond.selects RX4 yX4_read yX4_read ∈ lw_tbl := inT3 _ (List.mem_of_getElem? (i := 136) rfl)
set_option maxRecDepth 20000 in
theorem tw_560 : Cond.instanceMethod yX4_read ∈ lw_tbl := inT3 _ (List.mem_of_getElem? (i := 135) rfl)
set_option maxRecDepth 20000 in
theorem tw_561 : Cond.methodLink RX11 160 yX4_read ∈ lw_tbl := inT3 _ (List.mem_of_getElem? (i := 134) rfl)
set_option maxRecDepth 20000 in
theorem tw_562 : Cond.selects RX4 yX4_readLine yX4_readLine ∈ lw_tbl := inTs _ (List.mem_of_getElem? (i := 9) rfl)
set_option maxRecDepth 20000 in
theorem tw_563 : Cond.instanceMethod yX4_readLine ∈ lw_tbl := inT3 _ (List.mem_of_getElem? (i := 141) rfl)
set_option maxRecDepth 20000 in
theorem tw_564 : Cond.methodLink RX4 31 yX4_readLine ∈ lw_tbl := inT3 _ (List.mem_of_getElem? (i := 139) rfl)
set_option maxRecDepth 20000 in
theorem tw_565 : Cond.methodLink RX4 60 yX1_readNumber ∈ lw_tbl := inT3 _ (List.mem_of_getElem? (i := 156) rfl)
set_option maxRecDepth 20000 in
theorem tw_566 : Cond.fieldLink RX4 57 "RopeScale$Cursor" "place" "I" ∈ lw_tbl := inT1 _ (List.mem_of_getElem? (i := 55) rfl)
set_option maxRecDepth 20000 in
theorem tw_567 : Cond.code yX4_readDeed cX4_readDeed 6 (some .int) ∈ lw_tbl := inT3 _ (List.mem_of_getElem? (i := 155) rfl)
set_option maxRecDepth 20000 in
theorem tw_568 : Cond.static yX4_readDeed ∈ lw_tbl := inT3 _ (List.mem_of_getElem? (i := 154) rfl)
set_option maxRecDepth 20000 in
theorem tw_569 : Cond.methodLink RX4 53 yX4_readDeed ∈ lw_tbl := inT3 _ (List.mem_of_getElem? (i := 153) rfl)
set_option maxRecDepth 20000 in
theorem tw_570 : Cond.methodLink RX4 47 yX1_next ∈ lw_tbl := inT3 _ (List.mem_of_getElem? (i := 152) rfl)
set_option maxRecDepth 20000 in
theorem tw_571 : Cond.code yX11_has cX11_has 2 (some .boolean) ∈ lw_tbl := inT3 _ (List.mem_of_getElem? (i := 151) rfl)
set_option maxRecDepth 20000 in
theorem tw_572 : Cond.static yX11_has ∈ lw_tbl := inT3 _ (List.mem_of_getElem? (i := 150) rfl)
set_option maxRecDepth 20000 in
theorem tw_573 : Cond.methodLink RX4 39 yX1_failHere ∈ lw_tbl := inT3 _ (List.mem_of_getElem? (i := 148) rfl)
set_option maxRecDepth 20000 in
theorem tw_574 : Cond.code yX1_seenWalker cX1_seenWalker 2 (some .int) ∈ lw_tbl := inT3 _ (List.mem_of_getElem? (i := 146) rfl)
set_option maxRecDepth 20000 in
theorem tw_575 : Cond.selects RX1 yX1_seenWalker yX1_seenWalker ∈ lw_tbl := inT3 _ (List.mem_of_getElem? (i := 145) rfl)
set_option maxRecDepth 20000 in
theorem tw_576 : Cond.instanceMethod yX1_seenWalker ∈ lw_tbl := inT3 _ (List.mem_of_getElem? (i := 144) rfl)
set_option maxRecDepth 20000 in
theorem tw_577 : Cond.methodLink RX4 35 yX1_seenWalker ∈ lw_tbl := inT3 _ (List.mem_of_getElem? (i := 143) rfl)
set_option maxRecDepth 20000 in
theorem tw_578 : Cond.fieldLink RX4 50 "RopeScale$Cursor" "sign" "I" ∈ lw_tbl := inT1 _ (List.mem_of_getElem? (i := 59) rfl)
set_option maxRecDepth 20000 in
theorem tw_579 : Cond.code yX4_readLine cX4_readLine 5 none ∈ lw_tbl := inT3 _ (List.mem_of_getElem? (i := 142) rfl)
set_option maxRecDepth 20000 in
theorem tw_580 : Cond.static yX11_bounded ∈ lw_tbl := inT3 _ (List.mem_of_getElem? (i := 167) rfl)
set_option maxRecDepth 20000 in
theorem tw_581 : Cond.code yX9_changeWeight cX9_changeWeight 3 none ∈ lw_tbl := inT3 _ (List.mem_of_getElem? (i := 165) rfl)
set_option maxRecDepth 20000 in
theorem tw_582 : Cond.selects RX9 yX9_changeWeight yX9_changeWeight ∈ lw_tbl := inT3 _ (List.mem_of_getElem? (i := 164) rfl)
set_option maxRecDepth 20000 in
theorem tw_583 : Cond.instanceMethod yX9_changeWeight ∈ lw_tbl := inT3 _ (List.mem_of_getElem? (i := 163) rfl)
set_option maxRecDepth 20000 in
theorem tw_584 : Cond.methodLink RX4 76 yX9_changeWeight ∈ lw_tbl := inT3 _ (List.mem_of_getElem? (i := 162) rfl)
set_option maxRecDepth 20000 in
theorem tw_585 : Cond.fieldLink RX4 79 "RopeScale$Walk" "over" "I" ∈ lw_tbl := inT1 _ (List.mem_of_getElem? (i := 103) rfl)
set_option maxRecDepth 20000 in
theorem tw_586 : Cond.fieldLink RX4 73 "RopeScale$Walk" "claim" "[I" ∈ lw_tbl := inT1 _ (List.mem_of_getElem? (i := 87) rfl)
set_option maxRecDepth 20000 in
theorem tw_587 : Cond.fieldLink RX4 68 "RopeScale$Walk" "weight" "[I" ∈ lw_tbl := inT1 _ (List.mem_of_getElem? (i := 82) rfl)
set_option maxRecDepth 20000 in
theorem tw_588 : Cond.code yX4_carryOut cX4_carryOut 4 none ∈ lw_tbl := inT3 _ (List.mem_of_getElem? (i := 161) rfl)
set_option maxRecDepth 20000 in
theorem tw_589 : Cond.selects RX4 yX4_carryOut yX4_carryOut ∈ lw_tbl := inT3 _ (List.mem_of_getElem? (i := 160) rfl)
set_option maxRecDepth 20000 in
theorem tw_590 : Cond.instanceMethod yX4_carryOut ∈ lw_tbl := inT3 _ (List.mem_of_getElem? (i := 159) rfl)
set_option maxRecDepth 20000 in
theorem tw_591 : Cond.methodLink RX11 163 yX4_carryOut ∈ lw_tbl := inT3 _ (List.mem_of_getElem? (i := 158) rfl)
set_option maxRecDepth 20000 in
theorem tw_592 : Cond.methodLink RX4 64 yX1_fail ∈ lw_tbl := inT3 _ (List.mem_of_getElem? (i := 157) rfl)
set_option maxRecDepth 20000 in
theorem tw_593 : Cond.methodLink RX11 348 Lib.Math.max.name ∈ lw_tbl := inT3 _ (List.mem_of_getElem? (i := 170) rfl)
set_option maxRecDepth 20000 in
theorem tw_594 : Cond.methodLink RX11 345 Lib.Math.min.name ∈ lw_tbl := inT3 _ (List.mem_of_getElem? (i := 169) rfl)
set_option maxRecDepth 20000 in
theorem tw_595 : Cond.code yX11_bounded cX11_bounded 3 (some .int) ∈ lw_tbl := inT3 _ (List.mem_of_getElem? (i := 168) rfl)
set_option maxRecDepth 20000 in
theorem tw_596 : Cond.selects RX11 yX11_orders yX11_orders ∈ lw_tbl := inT3 _ (List.mem_of_getElem? (i := 132) rfl)
set_option maxRecDepth 20000 in
theorem tw_597 : Cond.instanceMethod yX11_orders ∈ lw_tbl := inT3 _ (List.mem_of_getElem? (i := 131) rfl)
set_option maxRecDepth 20000 in
theorem tw_598 : Cond.methodLink RL 32 yX11_orders ∈ lw_tbl := inT3 _ (List.mem_of_getElem? (i := 130) rfl)
set_option maxRecDepth 20000 in
theorem tw_599 : Cond.code yX12_orders cX12_orders 3 (some .int) ∈ lw_tbl := inT6 _ (List.mem_of_getElem? (i := 149) rfl)
set_option maxRecDepth 20000 in
theorem tw_600 : Cond.code yX12_readsLine cX12_readsLine 3 (some .boolean) ∈ lw_tbl := inT6 _ (List.mem_of_getElem? (i := 156) rfl)
set_option maxRecDepth 20000 in
theorem tw_601 : Cond.selects RX12 yX12_readsLine yX12_readsLine ∈ lw_tbl := inTs _ (List.mem_of_getElem? (i := 49) rfl)
set_option maxRecDepth 20000 in
theorem tw_602 : Cond.instanceMethod yX12_readsLine ∈ lw_tbl := inT6 _ (List.mem_of_getElem? (i := 155) rfl)
set_option maxRecDepth 20000 in
theorem tw_603 : Cond.methodLink RX12 259 yX12_readsLine ∈ lw_tbl := inT6 _ (List.mem_of_getElem? (i := 153) rfl)
set_option maxRecDepth 20000 in
theorem tw_604 : Cond.code yX12_copies cX12_copies 3 none ∈ lw_tbl := inT6 _ (List.mem_of_getElem? (i := 152) rfl)
set_option maxRecDepth 20000 in
theorem tw_605 : Cond.static yX12_copies ∈ lw_tbl := inT6 _ (List.mem_of_getElem? (i := 151) rfl)
set_option maxRecDepth 20000 in
theorem tw_606 : Cond.methodLink RX12 255 yX12_copies ∈ lw_tbl := inT6 _ (List.mem_of_getElem? (i := 150) rfl)
set_option maxRecDepth 20000 in
theorem tw_607 : Cond.fieldLink RX12 243 "RopeScaleModel" "lines" "I" ∈ lw_tbl := inT5 _ (List.mem_of_getElem? (i := 152) rfl)
set_option maxRecDepth 20000 in
theorem tw_608 : Cond.static yX12_min ∈ lw_tbl := inT6 _ (List.mem_of_getElem? (i := 166) rfl)
set_option maxRecDepth 20000 in
theorem tw_609 : Cond.methodLink RX12 249 yX12_min ∈ lw_tbl := inT6 _ (List.mem_of_getElem? (i := 165) rfl)
set_option maxRecDepth 20000 in
theorem tw_610 : Cond.code yX12_readsAmount cX12_readsAmount 3 (some .boolean) ∈ lw_tbl := inT6 _ (List.mem_of_getElem? (i := 164) rfl)
set_option maxRecDepth 20000 in
theorem tw_611 : Cond.selects RX12 yX12_readsAmount yX12_readsAmount ∈ lw_tbl := inTs _ (List.mem_of_getElem? (i := 51) rfl)
set_option maxRecDepth 20000 in
theorem tw_612 : Cond.instanceMethod yX12_readsAmount ∈ lw_tbl := inT6 _ (List.mem_of_getElem? (i := 163) rfl)
set_option maxRecDepth 20000 in
theorem tw_613 : Cond.methodLink RX12 246 yX12_readsAmount ∈ lw_tbl := inT6 _ (List.mem_of_getElem? (i := 161) rfl)
set_option maxRecDepth 20000 in
theorem tw_614 : Cond.code yX12_isTold cX12_isTold 2 (some .boolean) ∈ lw_tbl := inT6 _ (List.mem_of_getElem? (i := 160) rfl)
set_option maxRecDepth 20000 in
theorem tw_615 : Cond.selects RX12 yX12_isTold yX12_isTold ∈ lw_tbl := inTs _ (List.mem_of_getElem? (i := 50) rfl)
set_option maxRecDepth 20000 in
theorem tw_616 : Cond.instanceMethod yX12_isTold ∈ lw_tbl := inT6 _ (List.mem_of_getElem? (i := 159) rfl)
set_option maxRecDepth 20000 in
theorem tw_617 : Cond.methodLink RX12 109 yX12_isTold ∈ lw_tbl := inT6 _ (List.mem_of_getElem? (i := 157) rfl)
set_option maxRecDepth 20000 in
theorem tw_618 : Cond.code yX12_max cX12_max 2 (some .int) ∈ lw_tbl := inT6 _ (List.mem_of_getElem? (i := 170) rfl)
set_option maxRecDepth 20000 in
theorem tw_619 : Cond.static yX12_max ∈ lw_tbl := inT6 _ (List.mem_of_getElem? (i := 169) rfl)
set_option maxRecDepth 20000 in
theorem tw_620 : Cond.methodLink RX12 252 yX12_max ∈ lw_tbl := inT6 _ (List.mem_of_getElem? (i := 168) rfl)
set_option maxRecDepth 20000 in
theorem tw_621 : Cond.code yX12_min cX12_min 2 (some .int) ∈ lw_tbl := inT6 _ (List.mem_of_getElem? (i := 167) rfl)
set_option maxRecDepth 20000 in
theorem tw_622 : Cond.selects RX12 yX12_orders yX12_orders ∈ lw_tbl := inT6 _ (List.mem_of_getElem? (i := 148) rfl)
set_option maxRecDepth 20000 in
theorem tw_623 : Cond.instanceMethod yX12_orders ∈ lw_tbl := inT6 _ (List.mem_of_getElem? (i := 147) rfl)
set_option maxRecDepth 20000 in
theorem tw_624 : Cond.methodLink RL 35 yX12_orders ∈ lw_tbl := inT6 _ (List.mem_of_getElem? (i := 146) rfl)
set_option maxRecDepth 20000 in
theorem tw_625 : Cond.code yX11_weighings cX11_weighings 3 (some .int) ∈ lw_tbl := inT3 _ (List.mem_of_getElem? (i := 174) rfl)
set_option maxRecDepth 20000 in
theorem tw_626 : Cond.fieldLink RX11 172 "RopeScale$Weighings" "lines" "I" ∈ lw_tbl := inT2 _ (List.mem_of_getElem? (i := 70) rfl)
set_option maxRecDepth 20000 in
theorem tw_627 : Cond.methodLink RX10 25 yX1_begins ∈ lw_tbl := inT3 _ (List.mem_of_getElem? (i := 179) rfl)
set_option maxRecDepth 20000 in
theorem tw_628 : Cond.code yX10_read cX10_read 3 none ∈ lw_tbl := inT3 _ (List.mem_of_getElem? (i := 178) rfl)
set_option maxRecDepth 20000 in
theorem tw_629 : Cond.selects RX10 yX10_read yX10_read ∈ lw_tbl := inT3 _ (List.mem_of_getElem? (i := 177) rfl)
set_option maxRecDepth 20000 in
theorem tw_630 : Cond.instanceMethod yX10_read ∈ lw_tbl := inT3 _ (List.mem_of_getElem? (i := 176) rfl)
set_option maxRecDepth 20000 in
theorem tw_631 : Cond.methodLink RX11 170 yX10_read ∈ lw_tbl := inT3 _ (List.mem_of_getElem? (i := 175) rfl)
set_option maxRecDepth 20000 in
theorem tw_632 : Cond.code yX10_readLine cX10_readLine 3 none ∈ lw_tbl := inT3 _ (List.mem_of_getElem? (i := 183) rfl)
set_option maxRecDepth 20000 in
theorem tw_633 : Cond.selects RX10 yX10_readLine yX10_readLine ∈ lw_tbl := inTs _ (List.mem_of_getElem? (i := 10) rfl)
set_option maxRecDepth 20000 in
theorem tw_634 : Cond.instanceMethod yX10_readLine ∈ lw_tbl := inT3 _ (List.mem_of_getElem? (i := 182) rfl)
set_option maxRecDepth 20000 in
theorem tw_635 : Cond.methodLink RX10 31 yX10_readLine ∈ lw_tbl := inT3 _ (List.mem_of_getElem? (i := 180) rfl)
set_option maxRecDepth 20000 in
theorem tw_636 : Cond.methodLink RX10 50 yX10_isOutcome ∈ lw_tbl := inT3 _ (List.mem_of_getElem? (i := 191) rfl)
set_option maxRecDepth 20000 in
theorem tw_637 : Cond.methodLink RX10 53 yX1_next ∈ lw_tbl := inT3 _ (List.mem_of_getElem? (i := 190) rfl)
set_option maxRecDepth 20000 in
theorem tw_638 : Cond.code yX10_readSide cX10_readSide 5 (some .int) ∈ lw_tbl := inT3 _ (List.mem_of_getElem? (i := 188) rfl)
set_option maxRecDepth 20000 in
theorem tw_639 : Cond.static yX10_readSide ∈ lw_tbl := inT3 _ (List.mem_of_getElem? (i := 187) rfl)
set_option maxRecDepth 20000 in
theorem tw_640 : Cond.methodLink RX10 43 yX10_readSide ∈ lw_tbl := inT3 _ (List.mem_of_getElem? (i := 186) rfl)
set_option maxRecDepth 20000 in
theorem tw_641 : Cond.methodLink RX10 39 yX1_failHere ∈ lw_tbl := inT3 _ (List.mem_of_getElem? (i := 185) rfl)
set_option maxRecDepth 20000 in
theorem tw_642 : Cond.methodLink RX10 35 yX1_seenWalker ∈ lw_tbl := inT3 _ (List.mem_of_getElem? (i := 184) rfl)
set_option maxRecDepth 20000 in
theorem tw_643 : Cond.fieldLink RX10 47 "RopeScale$Cursor" "sign" "I" ∈ lw_tbl := inT1 _ (List.mem_of_getElem? (i := 58) rfl)
set_option maxRecDepth 20000 in
theorem tw_644 : Cond.selects RX11 yX11_weighings yX11_weighings ∈ lw_tbl := inT3 _ (List.mem_of_getElem? (i := 173) rfl)
set_option maxRecDepth 20000 in
theorem tw_645 : Cond.instanceMethod yX11_weighings ∈ lw_tbl := inT3 _ (List.mem_of_getElem? (i := 172) rfl)
set_option maxRecDepth 20000 in
theorem tw_646 : Cond.methodLink RL 36 yX11_weighings ∈ lw_tbl := inT3 _ (List.mem_of_getElem? (i := 171) rfl)
set_option maxRecDepth 20000 in
theorem tw_647 : Cond.code yX12_weighings cX12_weighings 4 (some .int) ∈ lw_tbl := inT6 _ (List.mem_of_getElem? (i := 174) rfl)
set_option maxRecDepth 20000 in
theorem tw_648 : Cond.instanceMethod yX12_readsWeighing ∈ lw_tbl := inT6 _ (List.mem_of_getElem? (i := 177) rfl)
set_option maxRecDepth 20000 in
theorem tw_649 : Cond.methodLink RX12 271 yX12_readsWeighing ∈ lw_tbl := inT6 _ (List.mem_of_getElem? (i := 175) rfl)
set_option maxRecDepth 20000 in
theorem tw_650 : Cond.fieldLink RX12 274 "RopeScaleModel" "weighingMany" "I" ∈ lw_tbl := inT5 _ (List.mem_of_getElem? (i := 159) rfl)
set_option maxRecDepth 20000 in
theorem tw_651 : Cond.fieldLink RX12 265 "RopeScaleModel" "newMany" "I" ∈ lw_tbl := inT5 _ (List.mem_of_getElem? (i := 160) rfl)
set_option maxRecDepth 20000 in
theorem tw_652 : Cond.code yX12_readsLetters cX12_readsLetters 3 (some .boolean) ∈ lw_tbl := inT6 _ (List.mem_of_getElem? (i := 182) rfl)
set_option maxRecDepth 20000 in
theorem tw_653 : Cond.selects RX12 yX12_readsLetters yX12_readsLetters ∈ lw_tbl := inTs _ (List.mem_of_getElem? (i := 53) rfl)
set_option maxRecDepth 20000 in
theorem tw_654 : Cond.instanceMethod yX12_readsLetters ∈ lw_tbl := inT6 _ (List.mem_of_getElem? (i := 181) rfl)
set_option maxRecDepth 20000 in
theorem tw_655 : Cond.methodLink RX12 268 yX12_readsLetters ∈ lw_tbl := inT6 _ (List.mem_of_getElem? (i := 179) rfl)
set_option maxRecDepth 20000 in
theorem tw_656 : Cond.fieldLink RX12 262 "RopeScaleModel" "letters0" "I" ∈ lw_tbl := inT5 _ (List.mem_of_getElem? (i := 161) rfl)
set_option maxRecDepth 20000 in
theorem tw_657 : Cond.code yX12_readsWeighing cX12_readsWeighing 3 (some .boolean) ∈ lw_tbl := inT6 _ (List.mem_of_getElem? (i := 178) rfl)
set_option maxRecDepth 20000 in
theorem tw_658 : Cond.selects RX12 yX12_readsWeighing yX12_readsWeighing ∈ lw_tbl := inTs _ (List.mem_of_getElem? (i := 52) rfl)
set_option maxRecDepth 20000 in
theorem tw_659 : Cond.selects RX12 yX12_weighings yX12_weighings ∈ lw_tbl := inT6 _ (List.mem_of_getElem? (i := 173) rfl)
set_option maxRecDepth 20000 in
theorem tw_660 : Cond.instanceMethod yX12_weighings ∈ lw_tbl := inT6 _ (List.mem_of_getElem? (i := 172) rfl)
set_option maxRecDepth 20000 in
theorem tw_661 : Cond.methodLink RL 39 yX12_weighings ∈ lw_tbl := inT6 _ (List.mem_of_getElem? (i := 171) rfl)
set_option maxRecDepth 20000 in
theorem tw_662 : Cond.code yX11_hours cX11_hours 2 (some .int) ∈ lw_tbl := inT3 _ (List.mem_of_getElem? (i := 195) rfl)
set_option maxRecDepth 20000 in
theorem tw_663 : Cond.fieldLink RX7 41 "RopeScale$Walk" "told" "I" ∈ lw_tbl := inT1 _ (List.mem_of_getElem? (i := 97) rfl)
set_option maxRecDepth 20000 in
theorem tw_664 : Cond.methodLink RX7 35 Lib.Math.min.name ∈ lw_tbl := inT3 _ (List.mem_of_getElem? (i := 200) rfl)
set_option maxRecDepth 20000 in
theorem tw_665 : Cond.fieldLink RX7 30 "RopeScale$Walk" "hour" "I" ∈ lw_tbl := inT1 _ (List.mem_of_getElem? (i := 106) rfl)
set_option maxRecDepth 20000 in
theorem tw_666 : Cond.code yX7_pass cX7_pass 7 none ∈ lw_tbl := inT3 _ (List.mem_of_getElem? (i := 199) rfl)
set_option maxRecDepth 20000 in
theorem tw_667 : Cond.selects RX7 yX7_pass yX7_pass ∈ lw_tbl := inT3 _ (List.mem_of_getElem? (i := 198) rfl)
set_option maxRecDepth 20000 in
theorem tw_668 : Cond.instanceMethod yX7_pass ∈ lw_tbl := inT3 _ (List.mem_of_getElem? (i := 197) rfl)
set_option maxRecDepth 20000 in
theorem tw_669 : Cond.methodLink RX11 173 yX7_pass ∈ lw_tbl := inT3 _ (List.mem_of_getElem? (i := 196) rfl)
set_option maxRecDepth 20000 in
theorem tw_670 : Cond.fieldLink RX11 177 "RopeScale$Rope" "gotOver" "I" ∈ lw_tbl := inT1 _ (List.mem_of_getElem? (i := 139) rfl)
set_option maxRecDepth 20000 in
theorem tw_671 : Cond.static yJ6_bitCount_0f7a4 ∈ lw_tbl := inT3 _ (List.mem_of_getElem? (i := 211) rfl)
set_option maxRecDepth 20000 in
theorem tw_672 : Cond.methodLink RX2 58 yJ6_bitCount_0f7a4 ∈ lw_tbl := inT3 _ (List.mem_of_getElem? (i := 210) rfl)
set_option maxRecDepth 20000 in
theorem tw_673 : Cond.fieldLink RX2 70 "RopeScale$Walk" "hour" "I" ∈ lw_tbl := inT1 _ (List.mem_of_getElem? (i := 107) rfl)
set_option maxRecDepth 20000 in
theorem tw_674 : Cond.fieldLink RX2 67 "RopeScale$Walk" "hurt" "[I" ∈ lw_tbl := inT1 _ (List.mem_of_getElem? (i := 95) rfl)
set_option maxRecDepth 20000 in
theorem tw_675 : Cond.fieldLink RX2 64 "RopeScale$Walk" "baths" "[I" ∈ lw_tbl := inT1 _ (List.mem_of_getElem? (i := 91) rfl)
set_option maxRecDepth 20000 in
theorem tw_676 : Cond.fieldLink RX2 55 "RopeScale$Walk" "over" "I" ∈ lw_tbl := inT1 _ (List.mem_of_getElem? (i := 102) rfl)
set_option maxRecDepth 20000 in
theorem tw_677 : Cond.fieldLink RX2 52 "RopeScale$Walk" "claim" "[I" ∈ lw_tbl := inT1 _ (List.mem_of_getElem? (i := 86) rfl)
set_option maxRecDepth 20000 in
theorem tw_678 : Cond.fieldLink RX2 47 "RopeScale$Walk" "weight" "[I" ∈ lw_tbl := inT1 _ (List.mem_of_getElem? (i := 81) rfl)
set_option maxRecDepth 20000 in
theorem tw_679 : Cond.code yX2_look cX2_look 3 none ∈ lw_tbl := inT3 _ (List.mem_of_getElem? (i := 209) rfl)
set_option maxRecDepth 20000 in
theorem tw_680 : Cond.selects RX2 yX2_look yX2_look ∈ lw_tbl := inT3 _ (List.mem_of_getElem? (i := 208) rfl)
set_option maxRecDepth 20000 in
theorem tw_681 : Cond.instanceMethod yX2_look ∈ lw_tbl := inT3 _ (List.mem_of_getElem? (i := 207) rfl)
set_option maxRecDepth 20000 in
theorem tw_682 : Cond.methodLink RX7 52 yX2_look ∈ lw_tbl := inT3 _ (List.mem_of_getElem? (i := 206) rfl)
set_option maxRecDepth 20000 in
theorem tw_683 : Cond.fieldLink RX7 76 "RopeScale$Walk" "over" "I" ∈ lw_tbl := inT1 _ (List.mem_of_getElem? (i := 101) rfl)
set_option maxRecDepth 20000 in
theorem tw_684 : Cond.fieldLink RX7 68 "RopeScale$Walk" "weight" "[I" ∈ lw_tbl := inT1 _ (List.mem_of_getElem? (i := 80) rfl)
set_option maxRecDepth 20000 in
theorem tw_685 : Cond.methodLink RX7 61 Lib.Math.max.name ∈ lw_tbl := inT3 _ (List.mem_of_getElem? (i := 233) rfl)
set_option maxRecDepth 20000 in
theorem tw_686 : Cond.code yX7_visit cX7_visit 6 none ∈ lw_tbl := inT3 _ (List.mem_of_getElem? (i := 205) rfl)
set_option maxRecDepth 20000 in
theorem tw_687 : Cond.selects RX7 yX7_visit yX7_visit ∈ lw_tbl := inTs _ (List.mem_of_getElem? (i := 11) rfl)
set_option maxRecDepth 20000 in
theorem tw_688 : Cond.instanceMethod yX7_visit ∈ lw_tbl := inT3 _ (List.mem_of_getElem? (i := 204) rfl)
set_option maxRecDepth 20000 in
theorem tw_689 : Cond.methodLink RX7 48 yX7_visit ∈ lw_tbl := inT3 _ (List.mem_of_getElem? (i := 202) rfl)
set_option maxRecDepth 20000 in
theorem tw_690 : Cond.code yX2_reckon cX2_reckon 7 (some .int) ∈ lw_tbl := inT3 _ (List.mem_of_getElem? (i := 227) rfl)
set_option maxRecDepth 20000 in
theorem tw_691 : Cond.selects RX2 yX2_reckon yX2_reckon ∈ lw_tbl := inTs _ (List.mem_of_getElem? (i := 13) rfl)
set_option maxRecDepth 20000 in
theorem tw_692 : Cond.instanceMethod yX2_reckon ∈ lw_tbl := inT3 _ (List.mem_of_getElem? (i := 226) rfl)
set_option maxRecDepth 20000 in
theorem tw_693 : Cond.methodLink RX2 76 yX2_reckon ∈ lw_tbl := inT3 _ (List.mem_of_getElem? (i := 224) rfl)
set_option maxRecDepth 20000 in
theorem tw_694 : Cond.code yX2_ruleThatHolds cX2_ruleThatHolds 3 (some .int) ∈ lw_tbl := inT3 _ (List.mem_of_getElem? (i := 223) rfl)
set_option maxRecDepth 20000 in
theorem tw_695 : Cond.selects RX2 yX2_ruleThatHolds yX2_ruleThatHolds ∈ lw_tbl := inTs _ (List.mem_of_getElem? (i := 12) rfl)
set_option maxRecDepth 20000 in
theorem tw_696 : Cond.instanceMethod yX2_ruleThatHolds ∈ lw_tbl := inT3 _ (List.mem_of_getElem? (i := 222) rfl)
set_option maxRecDepth 20000 in
theorem tw_697 : Cond.methodLink RX2 73 yX2_ruleThatHolds ∈ lw_tbl := inT3 _ (List.mem_of_getElem? (i := 220) rfl)
set_option maxRecDepth 20000 in
theorem tw_698 : Cond.code yX2_say cX2_say 4 (some .int) ∈ lw_tbl := inT3 _ (List.mem_of_getElem? (i := 219) rfl)
set_option maxRecDepth 20000 in
theorem tw_699 : Cond.selects RX2 yX2_say yX2_say ∈ lw_tbl := inT3 _ (List.mem_of_getElem? (i := 218) rfl)
set_option maxRecDepth 20000 in
theorem tw_700 : Cond.instanceMethod yX2_say ∈ lw_tbl := inT3 _ (List.mem_of_getElem? (i := 217) rfl)
set_option maxRecDepth 20000 in
theorem tw_701 : Cond.methodLink RX7 58 yX2_say ∈ lw_tbl := inT3 _ (List.mem_of_getElem? (i := 216) rfl)
set_option maxRecDepth 20000 in
theorem tw_702 : Cond.constant RJ6 267 (252645135) ∈ lw_tbl := inT3 _ (List.mem_of_getElem? (i := 215) rfl)
set_option maxRecDepth 20000 in
theorem tw_703 : Cond.constant RJ6 266 (858993459) ∈ lw_tbl := inT3 _ (List.mem_of_getElem? (i := 214) rfl)
set_option maxRecDepth 20000 in
theorem tw_704 : Cond.constant RJ6 265 (1431655765) ∈ lw_tbl := inT3 _ (List.mem_of_getElem? (i := 213) rfl)
set_option maxRecDepth 20000 in
theorem tw_705 : Cond.code yJ6_bitCount_0f7a4 cJ6_bitCount_0f7a4 1 (some .int) ∈ lw_tbl := inT3 _ (List.mem_of_getElem? (i := 212) rfl)
set_option maxRecDepth 20000 in
theorem tw_706 : Cond.initialized RJ6 ∈ lw_tbl := inT1 _ (List.mem_of_getElem? (i := 20) rfl)
set_option maxRecDepth 20000 in
theorem tw_707 : Cond.methodLink RX7 83 yX7_onScale ∈ lw_tbl := inT4 _ (List.mem_of_getElem? (i := 3) rfl)
set_option maxRecDepth 20000 in
theorem tw_708 : Cond.code yX2_anyHolds cX2_anyHolds 2 (some .boolean) ∈ lw_tbl := inT4 _ (List.mem_of_getElem? (i := 2) rfl)
set_option maxRecDepth 20000 in
theorem tw_709 : Cond.selects RX2 yX2_anyHolds yX2_anyHolds ∈ lw_tbl := inT4 _ (List.mem_of_getElem? (i := 1) rfl)
set_option maxRecDepth 20000 in
theorem tw_710 : Cond.instanceMethod yX2_anyHolds ∈ lw_tbl := inT4 _ (List.mem_of_getElem? (i := 0) rfl)
set_option maxRecDepth 20000 in
theorem tw_711 : Cond.methodLink RX7 79 yX2_anyHolds ∈ lw_tbl := inT3 _ (List.mem_of_getElem? (i := 239) rfl)
set_option maxRecDepth 20000 in
theorem tw_712 : Cond.code yX2_setWeight cX2_setWeight 2 none ∈ lw_tbl := inT3 _ (List.mem_of_getElem? (i := 238) rfl)
set_option maxRecDepth 20000 in
theorem tw_713 : Cond.selects RX2 yX2_setWeight yX2_setWeight ∈ lw_tbl := inT3 _ (List.mem_of_getElem? (i := 237) rfl)
set_option maxRecDepth 20000 in
theorem tw_714 : Cond.instanceMethod yX2_setWeight ∈ lw_tbl := inT3 _ (List.mem_of_getElem? (i := 236) rfl)
set_option maxRecDepth 20000 in
theorem tw_715 : Cond.methodLink RX7 72 yX2_setWeight ∈ lw_tbl := inT3 _ (List.mem_of_getElem? (i := 235) rfl)
set_option maxRecDepth 20000 in
theorem tw_716 : Cond.methodLink RX7 64 yX9_changeWeight ∈ lw_tbl := inT3 _ (List.mem_of_getElem? (i := 234) rfl)
set_option maxRecDepth 20000 in
theorem tw_717 : Cond.code yX2_joined cX2_joined 3 (some .int) ∈ lw_tbl := inT3 _ (List.mem_of_getElem? (i := 231) rfl)
set_option maxRecDepth 20000 in
theorem tw_718 : Cond.static yX2_joined ∈ lw_tbl := inT3 _ (List.mem_of_getElem? (i := 230) rfl)
set_option maxRecDepth 20000 in
theorem tw_719 : Cond.methodLink RX2 89 yX2_joined ∈ lw_tbl := inT3 _ (List.mem_of_getElem? (i := 229) rfl)
set_option maxRecDepth 20000 in
theorem tw_720 : Cond.methodLink RX2 84 Lib.Math.max.name ∈ lw_tbl := inT3 _ (List.mem_of_getElem? (i := 228) rfl)
set_option maxRecDepth 20000 in
theorem tw_721 : Cond.instanceMethod yX7_cross ∈ lw_tbl := inT4 _ (List.mem_of_getElem? (i := 23) rfl)
set_option maxRecDepth 20000 in
theorem tw_722 : Cond.methodLink RX7 87 yX7_cross ∈ lw_tbl := inT4 _ (List.mem_of_getElem? (i := 21) rfl)
set_option maxRecDepth 20000 in
theorem tw_723 : Cond.constant RX9 62 (65535) ∈ lw_tbl := inT4 _ (List.mem_of_getElem? (i := 20) rfl)
set_option maxRecDepth 20000 in
theorem tw_724 : Cond.code yX9_draw cX9_draw 1 (some .int) ∈ lw_tbl := inT4 _ (List.mem_of_getElem? (i := 19) rfl)
set_option maxRecDepth 20000 in
theorem tw_725 : Cond.selects RX9 yX9_draw yX9_draw ∈ lw_tbl := inT4 _ (List.mem_of_getElem? (i := 18) rfl)
set_option maxRecDepth 20000 in
theorem tw_726 : Cond.instanceMethod yX9_draw ∈ lw_tbl := inT4 _ (List.mem_of_getElem? (i := 17) rfl)
set_option maxRecDepth 20000 in
theorem tw_727 : Cond.methodLink RX7 98 yX9_draw ∈ lw_tbl := inT4 _ (List.mem_of_getElem? (i := 16) rfl)
set_option maxRecDepth 20000 in
theorem tw_728 : Cond.code yX9_here cX9_here 1 (some .int) ∈ lw_tbl := inT4 _ (List.mem_of_getElem? (i := 15) rfl)
set_option maxRecDepth 20000 in
theorem tw_729 : Cond.selects RX9 yX9_here yX9_here ∈ lw_tbl := inT4 _ (List.mem_of_getElem? (i := 14) rfl)
set_option maxRecDepth 20000 in
theorem tw_730 : Cond.instanceMethod yX9_here ∈ lw_tbl := inT4 _ (List.mem_of_getElem? (i := 13) rfl)
set_option maxRecDepth 20000 in
theorem tw_731 : Cond.methodLink RX9 51 yX9_here ∈ lw_tbl := inT4 _ (List.mem_of_getElem? (i := 12) rfl)
set_option maxRecDepth 20000 in
theorem tw_732 : Cond.code yX9_othersHere cX9_othersHere 2 (some .int) ∈ lw_tbl := inT4 _ (List.mem_of_getElem? (i := 11) rfl)
set_option maxRecDepth 20000 in
theorem tw_733 : Cond.selects RX9 yX9_othersHere yX9_othersHere ∈ lw_tbl := inT4 _ (List.mem_of_getElem? (i := 10) rfl)
set_option maxRecDepth 20000 in
theorem tw_734 : Cond.instanceMethod yX9_othersHere ∈ lw_tbl := inT4 _ (List.mem_of_getElem? (i := 9) rfl)
set_option maxRecDepth 20000 in
theorem tw_735 : Cond.methodLink RX7 94 yX9_othersHere ∈ lw_tbl := inT4 _ (List.mem_of_getElem? (i := 8) rfl)
set_option maxRecDepth 20000 in
theorem tw_736 : Cond.code yX7_onScale cX7_onScale 8 (some .int) ∈ lw_tbl := inT4 _ (List.mem_of_getElem? (i := 6) rfl)
set_option maxRecDepth 20000 in
theorem tw_737 : Cond.selects RX7 yX7_onScale yX7_onScale ∈ lw_tbl := inTs _ (List.mem_of_getElem? (i := 14) rfl)
set_option maxRecDepth 20000 in
theorem tw_738 : Cond.instanceMethod yX7_onScale ∈ lw_tbl := inT4 _ (List.mem_of_getElem? (i := 5) rfl)
set_option maxRecDepth 20000 in
theorem tw_739 : Cond.fieldLink RX7 104 "RopeScale$Walk" "hurt" "[I" ∈ lw_tbl := inT1 _ (List.mem_of_getElem? (i := 94) rfl)
set_option maxRecDepth 20000 in
theorem tw_740 : Cond.fieldLink RX7 102 "RopeScale$Walk" "baths" "[I" ∈ lw_tbl := inT1 _ (List.mem_of_getElem? (i := 90) rfl)
set_option maxRecDepth 20000 in
theorem tw_741 : Cond.code yX7_cross cX7_cross 5 none ∈ lw_tbl := inT4 _ (List.mem_of_getElem? (i := 24) rfl)
set_option maxRecDepth 20000 in
theorem tw_742 : Cond.selects RX7 yX7_cross yX7_cross ∈ lw_tbl := inTs _ (List.mem_of_getElem? (i := 15) rfl)
set_option maxRecDepth 20000 in
theorem tw_743 : Cond.selects RX11 yX11_hours yX11_hours ∈ lw_tbl := inT3 _ (List.mem_of_getElem? (i := 194) rfl)
set_option maxRecDepth 20000 in
theorem tw_744 : Cond.instanceMethod yX11_hours ∈ lw_tbl := inT3 _ (List.mem_of_getElem? (i := 193) rfl)
set_option maxRecDepth 20000 in
theorem tw_745 : Cond.methodLink RL 40 yX11_hours ∈ lw_tbl := inT3 _ (List.mem_of_getElem? (i := 192) rfl)
set_option maxRecDepth 20000 in
theorem tw_746 : Cond.code yX12_hours cX12_hours 2 (some .int) ∈ lw_tbl := inT6 _ (List.mem_of_getElem? (i := 186) rfl)
set_option maxRecDepth 20000 in
theorem tw_747 : Cond.methodLink RX12 286 yX12_feels ∈ lw_tbl := inT6 _ (List.mem_of_getElem? (i := 195) rfl)
set_option maxRecDepth 20000 in
theorem tw_748 : Cond.constant RX12 295 (65536) ∈ lw_tbl := inT6 _ (List.mem_of_getElem? (i := 233) rfl)
set_option maxRecDepth 20000 in
theorem tw_749 : Cond.code yX12_turnOf cX12_turnOf 7 none ∈ lw_tbl := inT6 _ (List.mem_of_getElem? (i := 194) rfl)
set_option maxRecDepth 20000 in
theorem tw_750 : Cond.selects RX12 yX12_turnOf yX12_turnOf ∈ lw_tbl := inTs _ (List.mem_of_getElem? (i := 55) rfl)
set_option maxRecDepth 20000 in
theorem tw_751 : Cond.instanceMethod yX12_turnOf ∈ lw_tbl := inT6 _ (List.mem_of_getElem? (i := 193) rfl)
set_option maxRecDepth 20000 in
theorem tw_752 : Cond.methodLink RX12 302 yX12_turnOf ∈ lw_tbl := inT6 _ (List.mem_of_getElem? (i := 191) rfl)
set_option maxRecDepth 20000 in
theorem tw_753 : Cond.fieldLink RX12 296 "RopeScaleModel" "toes" "I" ∈ lw_tbl := inT5 _ (List.mem_of_getElem? (i := 165) rfl)
set_option maxRecDepth 20000 in
theorem tw_754 : Cond.fieldLink RX12 280 "RopeScaleModel" "flung" "I" ∈ lw_tbl := inT5 _ (List.mem_of_getElem? (i := 164) rfl)
set_option maxRecDepth 20000 in
theorem tw_755 : Cond.fieldLink RX12 277 "RopeScaleModel" "bathed" "I" ∈ lw_tbl := inT5 _ (List.mem_of_getElem? (i := 163) rfl)
set_option maxRecDepth 20000 in
theorem tw_756 : Cond.code yX12_hoursGo cX12_hoursGo 4 none ∈ lw_tbl := inT6 _ (List.mem_of_getElem? (i := 190) rfl)
set_option maxRecDepth 20000 in
theorem tw_757 : Cond.selects RX12 yX12_hoursGo yX12_hoursGo ∈ lw_tbl := inTs _ (List.mem_of_getElem? (i := 54) rfl)
set_option maxRecDepth 20000 in
theorem tw_758 : Cond.instanceMethod yX12_hoursGo ∈ lw_tbl := inT6 _ (List.mem_of_getElem? (i := 189) rfl)
set_option maxRecDepth 20000 in
theorem tw_759 : Cond.methodLink RX12 305 yX12_hoursGo ∈ lw_tbl := inT6 _ (List.mem_of_getElem? (i := 187) rfl)
set_option maxRecDepth 20000 in
theorem tw_760 : Cond.fieldLink RX12 283 "RopeScaleModel" "gotOver" "I" ∈ lw_tbl := inT5 _ (List.mem_of_getElem? (i := 162) rfl)
set_option maxRecDepth 20000 in
theorem tw_761 : Cond.methodLink RX12 289 yX12_byLaw ∈ lw_tbl := inT6 _ (List.mem_of_getElem? (i := 218) rfl)
set_option maxRecDepth 20000 in
theorem tw_762 : Cond.code yX12_bits cX12_bits 3 (some .int) ∈ lw_tbl := inT6 _ (List.mem_of_getElem? (i := 217) rfl)
set_option maxRecDepth 20000 in
theorem tw_763 : Cond.static yX12_bits ∈ lw_tbl := inT6 _ (List.mem_of_getElem? (i := 216) rfl)
set_option maxRecDepth 20000 in
theorem tw_764 : Cond.methodLink RX12 237 yX12_bits ∈ lw_tbl := inT6 _ (List.mem_of_getElem? (i := 215) rfl)
set_option maxRecDepth 20000 in
theorem tw_765 : Cond.code yX12_isHere cX12_isHere 2 (some .boolean) ∈ lw_tbl := inT6 _ (List.mem_of_getElem? (i := 214) rfl)
set_option maxRecDepth 20000 in
theorem tw_766 : Cond.selects RX12 yX12_isHere yX12_isHere ∈ lw_tbl := inTs _ (List.mem_of_getElem? (i := 60) rfl)
set_option maxRecDepth 20000 in
theorem tw_767 : Cond.instanceMethod yX12_isHere ∈ lw_tbl := inT6 _ (List.mem_of_getElem? (i := 213) rfl)
set_option maxRecDepth 20000 in
theorem tw_768 : Cond.methodLink RX12 113 yX12_isHere ∈ lw_tbl := inT6 _ (List.mem_of_getElem? (i := 211) rfl)
set_option maxRecDepth 20000 in
theorem tw_769 : Cond.code yX12_hereSet cX12_hereSet 3 (some .int) ∈ lw_tbl := inT6 _ (List.mem_of_getElem? (i := 210) rfl)
set_option maxRecDepth 20000 in
theorem tw_770 : Cond.selects RX12 yX12_hereSet yX12_hereSet ∈ lw_tbl := inTs _ (List.mem_of_getElem? (i := 59) rfl)
set_option maxRecDepth 20000 in
theorem tw_771 : Cond.instanceMethod yX12_hereSet ∈ lw_tbl := inT6 _ (List.mem_of_getElem? (i := 209) rfl)
set_option maxRecDepth 20000 in
theorem tw_772 : Cond.methodLink RX12 234 yX12_hereSet ∈ lw_tbl := inT6 _ (List.mem_of_getElem? (i := 207) rfl)
set_option maxRecDepth 20000 in
theorem tw_773 : Cond.code yX12_toldSet cX12_toldSet 3 (some .int) ∈ lw_tbl := inT6 _ (List.mem_of_getElem? (i := 206) rfl)
set_option maxRecDepth 20000 in
theorem tw_774 : Cond.selects RX12 yX12_toldSet yX12_toldSet ∈ lw_tbl := inTs _ (List.mem_of_getElem? (i := 58) rfl)
set_option maxRecDepth 20000 in
theorem tw_775 : Cond.instanceMethod yX12_toldSet ∈ lw_tbl := inT6 _ (List.mem_of_getElem? (i := 205) rfl)
set_option maxRecDepth 20000 in
theorem tw_776 : Cond.methodLink RX12 231 yX12_toldSet ∈ lw_tbl := inT6 _ (List.mem_of_getElem? (i := 203) rfl)
set_option maxRecDepth 20000 in
theorem tw_777 : Cond.code yX12_overMany cX12_overMany 1 (some .int) ∈ lw_tbl := inT6 _ (List.mem_of_getElem? (i := 202) rfl)
set_option maxRecDepth 20000 in
theorem tw_778 : Cond.selects RX12 yX12_overMany yX12_overMany ∈ lw_tbl := inTs _ (List.mem_of_getElem? (i := 57) rfl)
set_option maxRecDepth 20000 in
theorem tw_779 : Cond.instanceMethod yX12_overMany ∈ lw_tbl := inT6 _ (List.mem_of_getElem? (i := 201) rfl)
set_option maxRecDepth 20000 in
theorem tw_780 : Cond.methodLink RX12 240 yX12_overMany ∈ lw_tbl := inT6 _ (List.mem_of_getElem? (i := 199) rfl)
set_option maxRecDepth 20000 in
theorem tw_781 : Cond.code yX12_feels cX12_feels 2 none ∈ lw_tbl := inT6 _ (List.mem_of_getElem? (i := 198) rfl)
set_option maxRecDepth 20000 in
theorem tw_782 : Cond.selects RX12 yX12_feels yX12_feels ∈ lw_tbl := inTs _ (List.mem_of_getElem? (i := 56) rfl)
set_option maxRecDepth 20000 in
theorem tw_783 : Cond.instanceMethod yX12_feels ∈ lw_tbl := inT6 _ (List.mem_of_getElem? (i := 197) rfl)
set_option maxRecDepth 20000 in
theorem tw_784 : Cond.code yX12_reckon cX12_reckon 3 (some .int) ∈ lw_tbl := inT6 _ (List.mem_of_getElem? (i := 228) rfl)
set_option maxRecDepth 20000 in
theorem tw_785 : Cond.static yX12_reckon ∈ lw_tbl := inT6 _ (List.mem_of_getElem? (i := 227) rfl)
set_option maxRecDepth 20000 in
theorem tw_786 : Cond.methodLink RX12 223 yX12_reckon ∈ lw_tbl := inT6 _ (List.mem_of_getElem? (i := 226) rfl)
set_option maxRecDepth 20000 in
theorem tw_787 : Cond.code yX12_comesTo cX12_comesTo 8 (some .int) ∈ lw_tbl := inT6 _ (List.mem_of_getElem? (i := 225) rfl)
set_option maxRecDepth 20000 in
theorem tw_788 : Cond.selects RX12 yX12_comesTo yX12_comesTo ∈ lw_tbl := inTs _ (List.mem_of_getElem? (i := 62) rfl)
set_option maxRecDepth 20000 in
theorem tw_789 : Cond.instanceMethod yX12_comesTo ∈ lw_tbl := inT6 _ (List.mem_of_getElem? (i := 224) rfl)
set_option maxRecDepth 20000 in
theorem tw_790 : Cond.methodLink RX12 227 yX12_comesTo ∈ lw_tbl := inT6 _ (List.mem_of_getElem? (i := 222) rfl)
set_option maxRecDepth 20000 in
theorem tw_791 : Cond.code yX12_byLaw cX12_byLaw 6 (some .int) ∈ lw_tbl := inT6 _ (List.mem_of_getElem? (i := 221) rfl)
set_option maxRecDepth 20000 in
theorem tw_792 : Cond.selects RX12 yX12_byLaw yX12_byLaw ∈ lw_tbl := inTs _ (List.mem_of_getElem? (i := 61) rfl)
set_option maxRecDepth 20000 in
theorem tw_793 : Cond.instanceMethod yX12_byLaw ∈ lw_tbl := inT6 _ (List.mem_of_getElem? (i := 220) rfl)
set_option maxRecDepth 20000 in
theorem tw_794 : Cond.code yX12_goesOver cX12_goesOver 4 none ∈ lw_tbl := inT6 _ (List.mem_of_getElem? (i := 237) rfl)
set_option maxRecDepth 20000 in
theorem tw_795 : Cond.selects RX12 yX12_goesOver yX12_goesOver ∈ lw_tbl := inTs _ (List.mem_of_getElem? (i := 64) rfl)
set_option maxRecDepth 20000 in
theorem tw_796 : Cond.instanceMethod yX12_goesOver ∈ lw_tbl := inT6 _ (List.mem_of_getElem? (i := 236) rfl)
set_option maxRecDepth 20000 in
theorem tw_797 : Cond.methodLink RX12 299 yX12_goesOver ∈ lw_tbl := inT6 _ (List.mem_of_getElem? (i := 234) rfl)
set_option maxRecDepth 20000 in
theorem tw_798 : Cond.code yX12_holdsAny cX12_holdsAny 3 (some .boolean) ∈ lw_tbl := inT6 _ (List.mem_of_getElem? (i := 232) rfl)
set_option maxRecDepth 20000 in
theorem tw_799 : Cond.selects RX12 yX12_holdsAny yX12_holdsAny ∈ lw_tbl := inTs _ (List.mem_of_getElem? (i := 63) rfl)
set_option maxRecDepth 20000 in
theorem tw_800 : Cond.instanceMethod yX12_holdsAny ∈ lw_tbl := inT6 _ (List.mem_of_getElem? (i := 231) rfl)
set_option maxRecDepth 20000 in
theorem tw_801 : Cond.methodLink RX12 292 yX12_holdsAny ∈ lw_tbl := inT6 _ (List.mem_of_getElem? (i := 229) rfl)
set_option maxRecDepth 20000 in
theorem tw_802 : Cond.selects RX12 yX12_hours yX12_hours ∈ lw_tbl := inT6 _ (List.mem_of_getElem? (i := 185) rfl)
set_option maxRecDepth 20000 in
theorem tw_803 : Cond.instanceMethod yX12_hours ∈ lw_tbl := inT6 _ (List.mem_of_getElem? (i := 184) rfl)
set_option maxRecDepth 20000 in
theorem tw_804 : Cond.methodLink RL 43 yX12_hours ∈ lw_tbl := inT6 _ (List.mem_of_getElem? (i := 183) rfl)
set_option maxRecDepth 20000 in
theorem tw_805 : Cond.code yX11_tried cX11_tried 3 (some .int) ∈ lw_tbl := inT4 _ (List.mem_of_getElem? (i := 28) rfl)
set_option maxRecDepth 20000 in
theorem tw_806 : Cond.code yX9_knows cX9_knows 2 (some .boolean) ∈ lw_tbl := inT4 _ (List.mem_of_getElem? (i := 36) rfl)
set_option maxRecDepth 20000 in
theorem tw_807 : Cond.selects RX9 yX9_knows yX9_knows ∈ lw_tbl := inT4 _ (List.mem_of_getElem? (i := 35) rfl)
set_option maxRecDepth 20000 in
theorem tw_808 : Cond.instanceMethod yX9_knows ∈ lw_tbl := inT4 _ (List.mem_of_getElem? (i := 34) rfl)
set_option maxRecDepth 20000 in
theorem tw_809 : Cond.methodLink RX11 208 yX9_knows ∈ lw_tbl := inT4 _ (List.mem_of_getElem? (i := 33) rfl)
set_option maxRecDepth 20000 in
theorem tw_810 : Cond.code yX11_canBeTried cX11_canBeTried 2 (some .boolean) ∈ lw_tbl := inT4 _ (List.mem_of_getElem? (i := 32) rfl)
set_option maxRecDepth 20000 in
theorem tw_811 : Cond.selects RX11 yX11_canBeTried yX11_canBeTried ∈ lw_tbl := inTs _ (List.mem_of_getElem? (i := 16) rfl)
set_option maxRecDepth 20000 in
theorem tw_812 : Cond.instanceMethod yX11_canBeTried ∈ lw_tbl := inT4 _ (List.mem_of_getElem? (i := 31) rfl)
set_option maxRecDepth 20000 in
theorem tw_813 : Cond.methodLink RX11 180 yX11_canBeTried ∈ lw_tbl := inT4 _ (List.mem_of_getElem? (i := 29) rfl)
set_option maxRecDepth 20000 in
theorem tw_814 : Cond.fieldLink RX11 205 "RopeScale$Rope" "toes" "I" ∈ lw_tbl := inT1 _ (List.mem_of_getElem? (i := 145) rfl)
set_option maxRecDepth 20000 in
theorem tw_815 : Cond.fieldLink RX11 196 "RopeScale$Walk" "over" "I" ∈ lw_tbl := inT1 _ (List.mem_of_getElem? (i := 104) rfl)
set_option maxRecDepth 20000 in
theorem tw_816 : Cond.fieldLink RX11 193 "RopeScale$Rope" "flung" "I" ∈ lw_tbl := inT1 _ (List.mem_of_getElem? (i := 143) rfl)
set_option maxRecDepth 20000 in
theorem tw_817 : Cond.fieldLink RX11 190 "RopeScale$Rope" "baths" "I" ∈ lw_tbl := inT1 _ (List.mem_of_getElem? (i := 141) rfl)
set_option maxRecDepth 20000 in
theorem tw_818 : Cond.initialized "java/lang/System" ∈ lw_tbl := inT1 _ (List.mem_of_getElem? (i := 21) rfl)
set_option maxRecDepth 20000 in
theorem tw_819 : Cond.static arraycopyName ∈ lw_tbl := inT4 _ (List.mem_of_getElem? (i := 44) rfl)
set_option maxRecDepth 20000 in
theorem tw_820 : Cond.native arraycopyName ∈ lw_tbl := inT4 _ (List.mem_of_getElem? (i := 45) rfl)
set_option maxRecDepth 20000 in
theorem tw_821 : Cond.methodLink RX9 37 arraycopyName ∈ lw_tbl := inT4 _ (List.mem_of_getElem? (i := 43) rfl)
set_option maxRecDepth 20000 in
theorem tw_822 : Cond.code yX9_copyFrom cX9_copyFrom 2 none ∈ lw_tbl := inT4 _ (List.mem_of_getElem? (i := 42) rfl)
set_option maxRecDepth 20000 in
theorem tw_823 : Cond.selects RX9 yX9_copyFrom yX9_copyFrom ∈ lw_tbl := inT4 _ (List.mem_of_getElem? (i := 41) rfl)
set_option maxRecDepth 20000 in
theorem tw_824 : Cond.instanceMethod yX9_copyFrom ∈ lw_tbl := inT4 _ (List.mem_of_getElem? (i := 40) rfl)
set_option maxRecDepth 20000 in
theorem tw_825 : Cond.methodLink RX11 183 yX9_copyFrom ∈ lw_tbl := inT4 _ (List.mem_of_getElem? (i := 39) rfl)
set_option maxRecDepth 20000 in
theorem tw_826 : Cond.methodLink RX11 199 yJ6_bitCount_0f7a4 ∈ lw_tbl := inT4 _ (List.mem_of_getElem? (i := 51) rfl)
set_option maxRecDepth 20000 in
theorem tw_827 : Cond.methodLink RX9 55 yX9_knows ∈ lw_tbl := inT4 _ (List.mem_of_getElem? (i := 50) rfl)
set_option maxRecDepth 20000 in
theorem tw_828 : Cond.code yX9_factOf cX9_factOf 3 (some .int) ∈ lw_tbl := inT4 _ (List.mem_of_getElem? (i := 49) rfl)
set_option maxRecDepth 20000 in
theorem tw_829 : Cond.selects RX9 yX9_factOf yX9_factOf ∈ lw_tbl := inT4 _ (List.mem_of_getElem? (i := 48) rfl)
set_option maxRecDepth 20000 in
theorem tw_830 : Cond.instanceMethod yX9_factOf ∈ lw_tbl := inT4 _ (List.mem_of_getElem? (i := 47) rfl)
set_option maxRecDepth 20000 in
theorem tw_831 : Cond.methodLink RX11 186 yX9_factOf ∈ lw_tbl := inT4 _ (List.mem_of_getElem? (i := 46) rfl)
set_option maxRecDepth 20000 in
theorem tw_832 : Cond.selects RX11 yX11_tried yX11_tried ∈ lw_tbl := inT4 _ (List.mem_of_getElem? (i := 27) rfl)
set_option maxRecDepth 20000 in
theorem tw_833 : Cond.instanceMethod yX11_tried ∈ lw_tbl := inT4 _ (List.mem_of_getElem? (i := 26) rfl)
set_option maxRecDepth 20000 in
theorem tw_834 : Cond.methodLink RL 44 yX11_tried ∈ lw_tbl := inT4 _ (List.mem_of_getElem? (i := 25) rfl)
set_option maxRecDepth 20000 in
theorem tw_835 : Cond.code yX12_tried cX12_tried 4 (some .int) ∈ lw_tbl := inT7 _ (List.mem_of_getElem? (i := 1) rfl)
set_option maxRecDepth 20000 in
theorem tw_836 : Cond.selects RX12 yX12_tried yX12_tried ∈ lw_tbl := inT7 _ (List.mem_of_getElem? (i := 0) rfl)
set_option maxRecDepth 20000 in
theorem tw_837 : Cond.instanceMethod yX12_tried ∈ lw_tbl := inT6 _ (List.mem_of_getElem? (i := 239) rfl)
set_option maxRecDepth 20000 in
theorem tw_838 : Cond.methodLink RL 48 yX12_tried ∈ lw_tbl := inT6 _ (List.mem_of_getElem? (i := 238) rfl)
set_option maxRecDepth 20000 in
theorem tw_839 : Cond.code yX11_walkerIs cX11_walkerIs 3 (some .int) ∈ lw_tbl := inT4 _ (List.mem_of_getElem? (i := 55) rfl)
set_option maxRecDepth 20000 in
theorem tw_840 : Cond.selects RX11 yX11_walkerIs yX11_walkerIs ∈ lw_tbl := inT4 _ (List.mem_of_getElem? (i := 54) rfl)
set_option maxRecDepth 20000 in
theorem tw_841 : Cond.instanceMethod yX11_walkerIs ∈ lw_tbl := inT4 _ (List.mem_of_getElem? (i := 53) rfl)
set_option maxRecDepth 20000 in
theorem tw_842 : Cond.methodLink RL 49 yX11_walkerIs ∈ lw_tbl := inT4 _ (List.mem_of_getElem? (i := 52) rfl)
set_option maxRecDepth 20000 in
theorem tw_843 : Cond.code yX12_walkerIs cX12_walkerIs 3 (some .int) ∈ lw_tbl := inT7 _ (List.mem_of_getElem? (i := 5) rfl)
set_option maxRecDepth 20000 in
theorem tw_844 : Cond.selects RX12 yX12_walkerIs yX12_walkerIs ∈ lw_tbl := inT7 _ (List.mem_of_getElem? (i := 4) rfl)
set_option maxRecDepth 20000 in
theorem tw_845 : Cond.instanceMethod yX12_walkerIs ∈ lw_tbl := inT7 _ (List.mem_of_getElem? (i := 3) rfl)
set_option maxRecDepth 20000 in
theorem tw_846 : Cond.methodLink RL 52 yX12_walkerIs ∈ lw_tbl := inT7 _ (List.mem_of_getElem? (i := 2) rfl)
set_option maxRecDepth 20000 in
theorem tw_847 : Cond.code yX11_standsFor cX11_standsFor 4 (some .int) ∈ lw_tbl := inT4 _ (List.mem_of_getElem? (i := 59) rfl)
set_option maxRecDepth 20000 in
theorem tw_848 : Cond.selects RX0 yX0_weigh yX0_weigh ∈ lw_tbl := inT4 _ (List.mem_of_getElem? (i := 62) rfl)
set_option maxRecDepth 20000 in
theorem tw_849 : Cond.instanceMethod yX0_weigh ∈ lw_tbl := inT4 _ (List.mem_of_getElem? (i := 61) rfl)
set_option maxRecDepth 20000 in
theorem tw_850 : Cond.methodLink RX11 215 yX0_weigh ∈ lw_tbl := inT4 _ (List.mem_of_getElem? (i := 60) rfl)
set_option maxRecDepth 20000 in
theorem tw_851 : Cond.code Lib.Math.abs.name Lib.Math.abs.code 1 (some .int) ∈ lw_tbl := inT4 _ (List.mem_of_getElem? (i := 79) rfl)
set_option maxRecDepth 20000 in
theorem tw_852 : Cond.static Lib.Math.abs.name ∈ lw_tbl := inT4 _ (List.mem_of_getElem? (i := 78) rfl)
set_option maxRecDepth 20000 in
theorem tw_853 : Cond.methodLink RX11 228 Lib.Math.abs.name ∈ lw_tbl := inT4 _ (List.mem_of_getElem? (i := 84) rfl)
set_option maxRecDepth 20000 in
theorem tw_854 : Cond.fieldLink RX11 211 "RopeScale$Walk" "weight" "[I" ∈ lw_tbl := inT1 _ (List.mem_of_getElem? (i := 84) rfl)
set_option maxRecDepth 20000 in
theorem tw_855 : Cond.methodLink RX0 34 yJ6_bitCount_0f7a4 ∈ lw_tbl := inT4 _ (List.mem_of_getElem? (i := 72) rfl)
set_option maxRecDepth 20000 in
theorem tw_856 : Cond.methodLink RX0 43 Lib.Math.abs.name ∈ lw_tbl := inT4 _ (List.mem_of_getElem? (i := 77) rfl)
set_option maxRecDepth 20000 in
theorem tw_857 : Cond.code yX0_nearest cX0_nearest 9 (some .int) ∈ lw_tbl := inT4 _ (List.mem_of_getElem? (i := 71) rfl)
set_option maxRecDepth 20000 in
theorem tw_858 : Cond.selects RX0 yX0_nearest yX0_nearest ∈ lw_tbl := inT4 _ (List.mem_of_getElem? (i := 70) rfl)
set_option maxRecDepth 20000 in
theorem tw_859 : Cond.instanceMethod yX0_nearest ∈ lw_tbl := inT4 _ (List.mem_of_getElem? (i := 69) rfl)
set_option maxRecDepth 20000 in
theorem tw_860 : Cond.methodLink RX11 222 yX0_nearest ∈ lw_tbl := inT4 _ (List.mem_of_getElem? (i := 68) rfl)
set_option maxRecDepth 20000 in
theorem tw_861 : Cond.methodLink RX11 219 yX9_othersHere ∈ lw_tbl := inT4 _ (List.mem_of_getElem? (i := 67) rfl)
set_option maxRecDepth 20000 in
theorem tw_862 : Cond.code yX0_addUp cX0_addUp 5 none ∈ lw_tbl := inT4 _ (List.mem_of_getElem? (i := 66) rfl)
set_option maxRecDepth 20000 in
theorem tw_863 : Cond.static yX0_addUp ∈ lw_tbl := inT4 _ (List.mem_of_getElem? (i := 65) rfl)
set_option maxRecDepth 20000 in
theorem tw_864 : Cond.methodLink RX0 30 yX0_addUp ∈ lw_tbl := inT4 _ (List.mem_of_getElem? (i := 64) rfl)
set_option maxRecDepth 20000 in
theorem tw_865 : Cond.code yX0_weigh cX0_weigh 2 none ∈ lw_tbl := inT4 _ (List.mem_of_getElem? (i := 63) rfl)
set_option maxRecDepth 20000 in
theorem tw_866 : Cond.methodLink RX11 225 yX0_sum ∈ lw_tbl := inT4 _ (List.mem_of_getElem? (i := 83) rfl)
set_option maxRecDepth 20000 in
theorem tw_867 : Cond.code yX0_setAfter cX0_setAfter 2 (some .int) ∈ lw_tbl := inT4 _ (List.mem_of_getElem? (i := 82) rfl)
set_option maxRecDepth 20000 in
theorem tw_868 : Cond.static yX0_setAfter ∈ lw_tbl := inT4 _ (List.mem_of_getElem? (i := 81) rfl)
set_option maxRecDepth 20000 in
theorem tw_869 : Cond.methodLink RX0 48 yX0_setAfter ∈ lw_tbl := inT4 _ (List.mem_of_getElem? (i := 80) rfl)
set_option maxRecDepth 20000 in
theorem tw_870 : Cond.code yX0_sum cX0_sum 2 (some .int) ∈ lw_tbl := inT4 _ (List.mem_of_getElem? (i := 76) rfl)
set_option maxRecDepth 20000 in
theorem tw_871 : Cond.selects RX0 yX0_sum yX0_sum ∈ lw_tbl := inT4 _ (List.mem_of_getElem? (i := 75) rfl)
set_option maxRecDepth 20000 in
theorem tw_872 : Cond.instanceMethod yX0_sum ∈ lw_tbl := inT4 _ (List.mem_of_getElem? (i := 74) rfl)
set_option maxRecDepth 20000 in
theorem tw_873 : Cond.methodLink RX0 40 yX0_sum ∈ lw_tbl := inT4 _ (List.mem_of_getElem? (i := 73) rfl)
set_option maxRecDepth 20000 in
theorem tw_874 : Cond.selects RX11 yX11_standsFor yX11_standsFor ∈ lw_tbl := inT4 _ (List.mem_of_getElem? (i := 58) rfl)
set_option maxRecDepth 20000 in
theorem tw_875 : Cond.instanceMethod yX11_standsFor ∈ lw_tbl := inT4 _ (List.mem_of_getElem? (i := 57) rfl)
set_option maxRecDepth 20000 in
theorem tw_876 : Cond.methodLink RL 53 yX11_standsFor ∈ lw_tbl := inT4 _ (List.mem_of_getElem? (i := 56) rfl)
set_option maxRecDepth 20000 in
theorem tw_877 : Cond.code yX12_standsFor cX12_standsFor 8 (some .int) ∈ lw_tbl := inT7 _ (List.mem_of_getElem? (i := 9) rfl)
set_option maxRecDepth 20000 in
theorem tw_878 : Cond.code yX12_has cX12_has 2 (some .boolean) ∈ lw_tbl := inT7 _ (List.mem_of_getElem? (i := 16) rfl)
set_option maxRecDepth 20000 in
theorem tw_879 : Cond.static yX12_has ∈ lw_tbl := inT7 _ (List.mem_of_getElem? (i := 15) rfl)
set_option maxRecDepth 20000 in
theorem tw_880 : Cond.methodLink RX12 308 yX12_has ∈ lw_tbl := inT7 _ (List.mem_of_getElem? (i := 14) rfl)
set_option maxRecDepth 20000 in
theorem tw_881 : Cond.code yX12_sumOf cX12_sumOf 4 (some .int) ∈ lw_tbl := inT7 _ (List.mem_of_getElem? (i := 13) rfl)
set_option maxRecDepth 20000 in
theorem tw_882 : Cond.selects RX12 yX12_sumOf yX12_sumOf ∈ lw_tbl := inTs _ (List.mem_of_getElem? (i := 65) rfl)
set_option maxRecDepth 20000 in
theorem tw_883 : Cond.instanceMethod yX12_sumOf ∈ lw_tbl := inT7 _ (List.mem_of_getElem? (i := 12) rfl)
set_option maxRecDepth 20000 in
theorem tw_884 : Cond.methodLink RX12 311 yX12_sumOf ∈ lw_tbl := inT7 _ (List.mem_of_getElem? (i := 10) rfl)
set_option maxRecDepth 20000 in
theorem tw_885 : Cond.code yX12_size cX12_size 1 (some .int) ∈ lw_tbl := inT7 _ (List.mem_of_getElem? (i := 19) rfl)
set_option maxRecDepth 20000 in
theorem tw_886 : Cond.static yX12_size ∈ lw_tbl := inT7 _ (List.mem_of_getElem? (i := 18) rfl)
set_option maxRecDepth 20000 in
theorem tw_887 : Cond.methodLink RX12 314 yX12_size ∈ lw_tbl := inT7 _ (List.mem_of_getElem? (i := 17) rfl)
set_option maxRecDepth 20000 in
theorem tw_888 : Cond.selects RX12 yX12_standsFor yX12_standsFor ∈ lw_tbl := inT7 _ (List.mem_of_getElem? (i := 8) rfl)
set_option maxRecDepth 20000 in
theorem tw_889 : Cond.instanceMethod yX12_standsFor ∈ lw_tbl := inT7 _ (List.mem_of_getElem? (i := 7) rfl)
set_option maxRecDepth 20000 in
theorem tw_890 : Cond.methodLink RL 56 yX12_standsFor ∈ lw_tbl := inT7 _ (List.mem_of_getElem? (i := 6) rfl)
set_option maxRecDepth 20000 in
theorem tw_891 : Cond.code yX11_colonel cX11_colonel 3 (some .int) ∈ lw_tbl := inT4 _ (List.mem_of_getElem? (i := 88) rfl)
set_option maxRecDepth 20000 in
theorem tw_892 : Cond.code yX0_ways cX0_ways 9 (some .int) ∈ lw_tbl := inT4 _ (List.mem_of_getElem? (i := 92) rfl)
set_option maxRecDepth 20000 in
theorem tw_893 : Cond.selects RX0 yX0_ways yX0_ways ∈ lw_tbl := inT4 _ (List.mem_of_getElem? (i := 91) rfl)
set_option maxRecDepth 20000 in
theorem tw_894 : Cond.instanceMethod yX0_ways ∈ lw_tbl := inT4 _ (List.mem_of_getElem? (i := 90) rfl)
set_option maxRecDepth 20000 in
theorem tw_895 : Cond.methodLink RX11 233 yX0_ways ∈ lw_tbl := inT4 _ (List.mem_of_getElem? (i := 89) rfl)
set_option maxRecDepth 20000 in
theorem tw_896 : Cond.selects RX11 yX11_colonel yX11_colonel ∈ lw_tbl := inT4 _ (List.mem_of_getElem? (i := 87) rfl)
set_option maxRecDepth 20000 in
theorem tw_897 : Cond.instanceMethod yX11_colonel ∈ lw_tbl := inT4 _ (List.mem_of_getElem? (i := 86) rfl)
set_option maxRecDepth 20000 in
theorem tw_898 : Cond.methodLink RL 57 yX11_colonel ∈ lw_tbl := inT4 _ (List.mem_of_getElem? (i := 85) rfl)
set_option maxRecDepth 20000 in
theorem tw_899 : Cond.code yX12_colonel cX12_colonel 6 (some .int) ∈ lw_tbl := inT7 _ (List.mem_of_getElem? (i := 23) rfl)
set_option maxRecDepth 20000 in
theorem tw_900 : Cond.selects RX12 yX12_colonel yX12_colonel ∈ lw_tbl := inT7 _ (List.mem_of_getElem? (i := 22) rfl)
set_option maxRecDepth 20000 in
theorem tw_901 : Cond.instanceMethod yX12_colonel ∈ lw_tbl := inT7 _ (List.mem_of_getElem? (i := 21) rfl)
set_option maxRecDepth 20000 in
theorem tw_902 : Cond.methodLink RL 60 yX12_colonel ∈ lw_tbl := inT7 _ (List.mem_of_getElem? (i := 20) rfl)
set_option maxRecDepth 20000 in
theorem tw_903 : Cond.code yX11_party cX11_party 7 (some .int) ∈ lw_tbl := inT4 _ (List.mem_of_getElem? (i := 96) rfl)
set_option maxRecDepth 20000 in
theorem tw_904 : Cond.methodLink RX11 238 yX9_here ∈ lw_tbl := inT4 _ (List.mem_of_getElem? (i := 98) rfl)
set_option maxRecDepth 20000 in
theorem tw_905 : Cond.constant RX11 237 (65535) ∈ lw_tbl := inT4 _ (List.mem_of_getElem? (i := 97) rfl)
set_option maxRecDepth 20000 in
theorem tw_906 : Cond.code yJ7_fill_53178 cJ7_fill_53178 4 none ∈ lw_tbl := inT4 _ (List.mem_of_getElem? (i := 109) rfl)
set_option maxRecDepth 20000 in
theorem tw_907 : Cond.initialized RJ7 ∈ lw_tbl := inT1 _ (List.mem_of_getElem? (i := 22) rfl)
set_option maxRecDepth 20000 in
theorem tw_908 : Cond.static yJ7_fill_53178 ∈ lw_tbl := inT4 _ (List.mem_of_getElem? (i := 108) rfl)
set_option maxRecDepth 20000 in
theorem tw_909 : Cond.methodLink RX0 87 yJ7_fill_53178 ∈ lw_tbl := inT4 _ (List.mem_of_getElem? (i := 107) rfl)
set_option maxRecDepth 20000 in
theorem tw_910 : Cond.code yX0_gather cX0_gather 5 (some .int) ∈ lw_tbl := inT4 _ (List.mem_of_getElem? (i := 106) rfl)
set_option maxRecDepth 20000 in
theorem tw_911 : Cond.selects RX0 yX0_gather yX0_gather ∈ lw_tbl := inTs _ (List.mem_of_getElem? (i := 17) rfl)
set_option maxRecDepth 20000 in
theorem tw_912 : Cond.instanceMethod yX0_gather ∈ lw_tbl := inT4 _ (List.mem_of_getElem? (i := 105) rfl)
set_option maxRecDepth 20000 in
theorem tw_913 : Cond.methodLink RX0 72 yX0_gather ∈ lw_tbl := inT4 _ (List.mem_of_getElem? (i := 103) rfl)
set_option maxRecDepth 20000 in
theorem tw_914 : Cond.methodLink RX0 80 Lib.Math.max.name ∈ lw_tbl := inT4 _ (List.mem_of_getElem? (i := 115) rfl)
set_option maxRecDepth 20000 in
theorem tw_915 : Cond.code yX0_lead cX0_lead 9 (some .int) ∈ lw_tbl := inT4 _ (List.mem_of_getElem? (i := 102) rfl)
set_option maxRecDepth 20000 in
theorem tw_916 : Cond.selects RX0 yX0_lead yX0_lead ∈ lw_tbl := inT4 _ (List.mem_of_getElem? (i := 101) rfl)
set_option maxRecDepth 20000 in
theorem tw_917 : Cond.instanceMethod yX0_lead ∈ lw_tbl := inT4 _ (List.mem_of_getElem? (i := 100) rfl)
set_option maxRecDepth 20000 in
theorem tw_918 : Cond.methodLink RX11 242 yX0_lead ∈ lw_tbl := inT4 _ (List.mem_of_getElem? (i := 99) rfl)
set_option maxRecDepth 20000 in
theorem tw_919 : Cond.code yX0_whoGoesAt cX0_whoGoesAt 2 (some .int) ∈ lw_tbl := inT4 _ (List.mem_of_getElem? (i := 123) rfl)
set_option maxRecDepth 20000 in
theorem tw_920 : Cond.selects RX0 yX0_whoGoesAt yX0_whoGoesAt ∈ lw_tbl := inT4 _ (List.mem_of_getElem? (i := 122) rfl)
set_option maxRecDepth 20000 in
theorem tw_921 : Cond.instanceMethod yX0_whoGoesAt ∈ lw_tbl := inT4 _ (List.mem_of_getElem? (i := 121) rfl)
set_option maxRecDepth 20000 in
theorem tw_922 : Cond.methodLink RX11 246 yX0_whoGoesAt ∈ lw_tbl := inT4 _ (List.mem_of_getElem? (i := 120) rfl)
set_option maxRecDepth 20000 in
theorem tw_923 : Cond.code yX0_followLeast cX0_followLeast 10 none ∈ lw_tbl := inT4 _ (List.mem_of_getElem? (i := 119) rfl)
set_option maxRecDepth 20000 in
theorem tw_924 : Cond.selects RX0 yX0_followLeast yX0_followLeast ∈ lw_tbl := inTs _ (List.mem_of_getElem? (i := 19) rfl)
set_option maxRecDepth 20000 in
theorem tw_925 : Cond.instanceMethod yX0_followLeast ∈ lw_tbl := inT4 _ (List.mem_of_getElem? (i := 118) rfl)
set_option maxRecDepth 20000 in
theorem tw_926 : Cond.methodLink RX0 83 yX0_followLeast ∈ lw_tbl := inT4 _ (List.mem_of_getElem? (i := 116) rfl)
set_option maxRecDepth 20000 in
theorem tw_927 : Cond.code yX0_canGo cX0_canGo 9 (some .boolean) ∈ lw_tbl := inT4 _ (List.mem_of_getElem? (i := 114) rfl)
set_option maxRecDepth 20000 in
theorem tw_928 : Cond.selects RX0 yX0_canGo yX0_canGo ∈ lw_tbl := inTs _ (List.mem_of_getElem? (i := 18) rfl)
set_option maxRecDepth 20000 in
theorem tw_929 : Cond.instanceMethod yX0_canGo ∈ lw_tbl := inT4 _ (List.mem_of_getElem? (i := 113) rfl)
set_option maxRecDepth 20000 in
theorem tw_930 : Cond.methodLink RX0 76 yX0_canGo ∈ lw_tbl := inT4 _ (List.mem_of_getElem? (i := 111) rfl)
set_option maxRecDepth 20000 in
theorem tw_931 : Cond.selects RX11 yX11_party yX11_party ∈ lw_tbl := inT4 _ (List.mem_of_getElem? (i := 95) rfl)
set_option maxRecDepth 20000 in
theorem tw_932 : Cond.instanceMethod yX11_party ∈ lw_tbl := inT4 _ (List.mem_of_getElem? (i := 94) rfl)
set_option maxRecDepth 20000 in
theorem tw_933 : Cond.methodLink RL 61 yX11_party ∈ lw_tbl := inT4 _ (List.mem_of_getElem? (i := 93) rfl)
set_option maxRecDepth 20000 in
theorem tw_934 : Cond.code yX12_party cX12_party 5 (some .int) ∈ lw_tbl := inT7 _ (List.mem_of_getElem? (i := 27) rfl)
set_option maxRecDepth 20000 in
theorem tw_935 : Cond.fieldLink RX12 317 "RopeScaleModel" "partyMany" "I" ∈ lw_tbl := inT5 _ (List.mem_of_getElem? (i := 168) rfl)
set_option maxRecDepth 20000 in
theorem tw_936 : Cond.constant RX12 326 (65535) ∈ lw_tbl := inT7 _ (List.mem_of_getElem? (i := 28) rfl)
set_option maxRecDepth 20000 in
theorem tw_937 : Cond.instanceMethod yX12_goesAt ∈ lw_tbl := inT7 _ (List.mem_of_getElem? (i := 43) rfl)
set_option maxRecDepth 20000 in
theorem tw_938 : Cond.methodLink RX12 330 yX12_goesAt ∈ lw_tbl := inT7 _ (List.mem_of_getElem? (i := 41) rfl)
set_option maxRecDepth 20000 in
theorem tw_939 : Cond.code yX12_partySum cX12_partySum 4 (some .int) ∈ lw_tbl := inT7 _ (List.mem_of_getElem? (i := 40) rfl)
set_option maxRecDepth 20000 in
theorem tw_940 : Cond.selects RX12 yX12_partySum yX12_partySum ∈ lw_tbl := inTs _ (List.mem_of_getElem? (i := 68) rfl)
set_option maxRecDepth 20000 in
theorem tw_941 : Cond.instanceMethod yX12_partySum ∈ lw_tbl := inT7 _ (List.mem_of_getElem? (i := 39) rfl)
set_option maxRecDepth 20000 in
theorem tw_942 : Cond.methodLink RX12 320 yX12_partySum ∈ lw_tbl := inT7 _ (List.mem_of_getElem? (i := 37) rfl)
set_option maxRecDepth 20000 in
theorem tw_943 : Cond.code yX12_canGo cX12_canGo 8 (some .boolean) ∈ lw_tbl := inT7 _ (List.mem_of_getElem? (i := 36) rfl)
set_option maxRecDepth 20000 in
theorem tw_944 : Cond.selects RX12 yX12_canGo yX12_canGo ∈ lw_tbl := inTs _ (List.mem_of_getElem? (i := 67) rfl)
set_option maxRecDepth 20000 in
theorem tw_945 : Cond.instanceMethod yX12_canGo ∈ lw_tbl := inT7 _ (List.mem_of_getElem? (i := 35) rfl)
set_option maxRecDepth 20000 in
theorem tw_946 : Cond.methodLink RX12 323 yX12_canGo ∈ lw_tbl := inT7 _ (List.mem_of_getElem? (i := 33) rfl)
set_option maxRecDepth 20000 in
theorem tw_947 : Cond.code yX12_laysParty cX12_laysParty 4 none ∈ lw_tbl := inT7 _ (List.mem_of_getElem? (i := 32) rfl)
set_option maxRecDepth 20000 in
theorem tw_948 : Cond.selects RX12 yX12_laysParty yX12_laysParty ∈ lw_tbl := inTs _ (List.mem_of_getElem? (i := 66) rfl)
set_option maxRecDepth 20000 in
theorem tw_949 : Cond.instanceMethod yX12_laysParty ∈ lw_tbl := inT7 _ (List.mem_of_getElem? (i := 31) rfl)
set_option maxRecDepth 20000 in
theorem tw_950 : Cond.methodLink RX12 327 yX12_laysParty ∈ lw_tbl := inT7 _ (List.mem_of_getElem? (i := 29) rfl)
set_option maxRecDepth 20000 in
theorem tw_951 : Cond.code yX12_goesAt cX12_goesAt 7 (some .int) ∈ lw_tbl := inT7 _ (List.mem_of_getElem? (i := 44) rfl)
set_option maxRecDepth 20000 in
theorem tw_952 : Cond.selects RX12 yX12_goesAt yX12_goesAt ∈ lw_tbl := inTs _ (List.mem_of_getElem? (i := 69) rfl)
set_option maxRecDepth 20000 in
theorem tw_953 : Cond.selects RX12 yX12_party yX12_party ∈ lw_tbl := inT7 _ (List.mem_of_getElem? (i := 26) rfl)
set_option maxRecDepth 20000 in
theorem tw_954 : Cond.instanceMethod yX12_party ∈ lw_tbl := inT7 _ (List.mem_of_getElem? (i := 25) rfl)
set_option maxRecDepth 20000 in
theorem tw_955 : Cond.methodLink RL 65 yX12_party ∈ lw_tbl := inT7 _ (List.mem_of_getElem? (i := 24) rfl)
set_option maxRecDepth 20000 in
theorem tw_956 : Cond.code yX11_areTrue cX11_areTrue 3 (some .int) ∈ lw_tbl := inT4 _ (List.mem_of_getElem? (i := 128) rfl)
set_option maxRecDepth 20000 in
theorem tw_957 : Cond.selects RX10 yX10_howManySo yX10_howManySo ∈ lw_tbl := inT4 _ (List.mem_of_getElem? (i := 131) rfl)
set_option maxRecDepth 20000 in
theorem tw_958 : Cond.instanceMethod yX10_howManySo ∈ lw_tbl := inT4 _ (List.mem_of_getElem? (i := 130) rfl)
set_option maxRecDepth 20000 in
theorem tw_959 : Cond.methodLink RX11 252 yX10_howManySo ∈ lw_tbl := inT4 _ (List.mem_of_getElem? (i := 129) rfl)
set_option maxRecDepth 20000 in
theorem tw_960 : Cond.fieldLink RX11 249 "RopeScale$Walk" "claim" "[I" ∈ lw_tbl := inT1 _ (List.mem_of_getElem? (i := 88) rfl)
set_option maxRecDepth 20000 in
theorem tw_961 : Cond.code yX10_firstNotSo cX10_firstNotSo 4 (some .int) ∈ lw_tbl := inT4 _ (List.mem_of_getElem? (i := 148) rfl)
set_option maxRecDepth 20000 in
theorem tw_962 : Cond.selects RX10 yX10_firstNotSo yX10_firstNotSo ∈ lw_tbl := inT4 _ (List.mem_of_getElem? (i := 147) rfl)
set_option maxRecDepth 20000 in
theorem tw_963 : Cond.instanceMethod yX10_firstNotSo ∈ lw_tbl := inT4 _ (List.mem_of_getElem? (i := 146) rfl)
set_option maxRecDepth 20000 in
theorem tw_964 : Cond.methodLink RX11 256 yX10_firstNotSo ∈ lw_tbl := inT4 _ (List.mem_of_getElem? (i := 145) rfl)
set_option maxRecDepth 20000 in
theorem tw_965 : Cond.code yX10_outcomeOf cX10_outcomeOf 2 (some .int) ∈ lw_tbl := inT4 _ (List.mem_of_getElem? (i := 144) rfl)
set_option maxRecDepth 20000 in
theorem tw_966 : Cond.static yX10_outcomeOf ∈ lw_tbl := inT4 _ (List.mem_of_getElem? (i := 143) rfl)
set_option maxRecDepth 20000 in
theorem tw_967 : Cond.methodLink RX10 66 yX10_outcomeOf ∈ lw_tbl := inT4 _ (List.mem_of_getElem? (i := 142) rfl)
set_option maxRecDepth 20000 in
theorem tw_968 : Cond.methodLink RX10 60 yX0_sum ∈ lw_tbl := inT4 _ (List.mem_of_getElem? (i := 141) rfl)
set_option maxRecDepth 20000 in
theorem tw_969 : Cond.code yX10_isSo cX10_isSo 3 (some .boolean) ∈ lw_tbl := inT4 _ (List.mem_of_getElem? (i := 140) rfl)
set_option maxRecDepth 20000 in
theorem tw_970 : Cond.selects RX10 yX10_isSo yX10_isSo ∈ lw_tbl := inTs _ (List.mem_of_getElem? (i := 21) rfl)
set_option maxRecDepth 20000 in
theorem tw_971 : Cond.instanceMethod yX10_isSo ∈ lw_tbl := inT4 _ (List.mem_of_getElem? (i := 139) rfl)
set_option maxRecDepth 20000 in
theorem tw_972 : Cond.methodLink RX10 73 yX10_isSo ∈ lw_tbl := inT4 _ (List.mem_of_getElem? (i := 137) rfl)
set_option maxRecDepth 20000 in
theorem tw_973 : Cond.code yX10_isAside cX10_isAside 3 (some .boolean) ∈ lw_tbl := inT4 _ (List.mem_of_getElem? (i := 136) rfl)
set_option maxRecDepth 20000 in
theorem tw_974 : Cond.selects RX10 yX10_isAside yX10_isAside ∈ lw_tbl := inTs _ (List.mem_of_getElem? (i := 20) rfl)
set_option maxRecDepth 20000 in
theorem tw_975 : Cond.instanceMethod yX10_isAside ∈ lw_tbl := inT4 _ (List.mem_of_getElem? (i := 135) rfl)
set_option maxRecDepth 20000 in
theorem tw_976 : Cond.methodLink RX10 70 yX10_isAside ∈ lw_tbl := inT4 _ (List.mem_of_getElem? (i := 133) rfl)
set_option maxRecDepth 20000 in
theorem tw_977 : Cond.code yX10_howManySo cX10_howManySo 5 (some .int) ∈ lw_tbl := inT4 _ (List.mem_of_getElem? (i := 132) rfl)
set_option maxRecDepth 20000 in
theorem tw_978 : Cond.selects RX11 yX11_areTrue yX11_areTrue ∈ lw_tbl := inT4 _ (List.mem_of_getElem? (i := 127) rfl)
set_option maxRecDepth 20000 in
theorem tw_979 : Cond.instanceMethod yX11_areTrue ∈ lw_tbl := inT4 _ (List.mem_of_getElem? (i := 126) rfl)
set_option maxRecDepth 20000 in
theorem tw_980 : Cond.methodLink RL 66 yX11_areTrue ∈ lw_tbl := inT4 _ (List.mem_of_getElem? (i := 125) rfl)
set_option maxRecDepth 20000 in
theorem tw_981 : Cond.code yX12_areTrue cX12_areTrue 6 (some .int) ∈ lw_tbl := inT7 _ (List.mem_of_getElem? (i := 48) rfl)
set_option maxRecDepth 20000 in
theorem tw_982 : Cond.selects RX12 yX12_apartBy yX12_apartBy ∈ lw_tbl := inTs _ (List.mem_of_getElem? (i := 71) rfl)
set_option maxRecDepth 20000 in
theorem tw_983 : Cond.instanceMethod yX12_apartBy ∈ lw_tbl := inT7 _ (List.mem_of_getElem? (i := 55) rfl)
set_option maxRecDepth 20000 in
theorem tw_984 : Cond.methodLink RX12 333 yX12_apartBy ∈ lw_tbl := inT7 _ (List.mem_of_getElem? (i := 53) rfl)
set_option maxRecDepth 20000 in
theorem tw_985 : Cond.code yX12_isSo cX12_isSo 4 (some .boolean) ∈ lw_tbl := inT7 _ (List.mem_of_getElem? (i := 52) rfl)
set_option maxRecDepth 20000 in
theorem tw_986 : Cond.selects RX12 yX12_isSo yX12_isSo ∈ lw_tbl := inTs _ (List.mem_of_getElem? (i := 70) rfl)
set_option maxRecDepth 20000 in
theorem tw_987 : Cond.instanceMethod yX12_isSo ∈ lw_tbl := inT7 _ (List.mem_of_getElem? (i := 51) rfl)
set_option maxRecDepth 20000 in
theorem tw_988 : Cond.methodLink RX12 336 yX12_isSo ∈ lw_tbl := inT7 _ (List.mem_of_getElem? (i := 49) rfl)
set_option maxRecDepth 20000 in
theorem tw_989 : Cond.code yX12_apartBy cX12_apartBy 5 (some .int) ∈ lw_tbl := inT7 _ (List.mem_of_getElem? (i := 56) rfl)
set_option maxRecDepth 20000 in
theorem tw_990 : Cond.selects RX12 yX12_areTrue yX12_areTrue ∈ lw_tbl := inT7 _ (List.mem_of_getElem? (i := 47) rfl)
set_option maxRecDepth 20000 in
theorem tw_991 : Cond.instanceMethod yX12_areTrue ∈ lw_tbl := inT7 _ (List.mem_of_getElem? (i := 46) rfl)
set_option maxRecDepth 20000 in
theorem tw_992 : Cond.methodLink RL 69 yX12_areTrue ∈ lw_tbl := inT7 _ (List.mem_of_getElem? (i := 45) rfl)
set_option maxRecDepth 20000 in
theorem tw_993 : Cond.code yX11_odd cX11_odd 2 (some .int) ∈ lw_tbl := inT4 _ (List.mem_of_getElem? (i := 152) rfl)
set_option maxRecDepth 20000 in
theorem tw_994 : Cond.selects RX10 yX10_isFair yX10_isFair ∈ lw_tbl := inTs _ (List.mem_of_getElem? (i := 23) rfl)
set_option maxRecDepth 20000 in
theorem tw_995 : Cond.instanceMethod yX10_isFair ∈ lw_tbl := inT4 _ (List.mem_of_getElem? (i := 167) rfl)
set_option maxRecDepth 20000 in
theorem tw_996 : Cond.methodLink RX10 82 yX10_isFair ∈ lw_tbl := inT4 _ (List.mem_of_getElem? (i := 165) rfl)
set_option maxRecDepth 20000 in
theorem tw_997 : Cond.code yX10_agree cX10_agree 6 (some .boolean) ∈ lw_tbl := inT4 _ (List.mem_of_getElem? (i := 164) rfl)
set_option maxRecDepth 20000 in
theorem tw_998 : Cond.selects RX10 yX10_agree yX10_agree ∈ lw_tbl := inTs _ (List.mem_of_getElem? (i := 22) rfl)
set_option maxRecDepth 20000 in
theorem tw_999 : Cond.instanceMethod yX10_agree ∈ lw_tbl := inT4 _ (List.mem_of_getElem? (i := 163) rfl)
set_option maxRecDepth 20000 in
theorem tw_1000 : Cond.methodLink RX10 88 yX10_agree ∈ lw_tbl := inT4 _ (List.mem_of_getElem? (i := 161) rfl)
set_option maxRecDepth 20000 in
theorem tw_1001 : Cond.code yX10_letters cX10_letters 3 (some .int) ∈ lw_tbl := inT4 _ (List.mem_of_getElem? (i := 160) rfl)
set_option maxRecDepth 20000 in
theorem tw_1002 : Cond.selects RX10 yX10_letters yX10_letters ∈ lw_tbl := inT4 _ (List.mem_of_getElem? (i := 159) rfl)
set_option maxRecDepth 20000 in
theorem tw_1003 : Cond.instanceMethod yX10_letters ∈ lw_tbl := inT4 _ (List.mem_of_getElem? (i := 158) rfl)
set_option maxRecDepth 20000 in
theorem tw_1004 : Cond.methodLink RX10 85 yX10_letters ∈ lw_tbl := inT4 _ (List.mem_of_getElem? (i := 157) rfl)
set_option maxRecDepth 20000 in
theorem tw_1005 : Cond.code yX10_couldBeOdd cX10_couldBeOdd 5 (some .int) ∈ lw_tbl := inT4 _ (List.mem_of_getElem? (i := 156) rfl)
set_option maxRecDepth 20000 in
theorem tw_1006 : Cond.selects RX10 yX10_couldBeOdd yX10_couldBeOdd ∈ lw_tbl := inT4 _ (List.mem_of_getElem? (i := 155) rfl)
set_option maxRecDepth 20000 in
theorem tw_1007 : Cond.instanceMethod yX10_couldBeOdd ∈ lw_tbl := inT4 _ (List.mem_of_getElem? (i := 154) rfl)
set_option maxRecDepth 20000 in
theorem tw_1008 : Cond.methodLink RX11 259 yX10_couldBeOdd ∈ lw_tbl := inT4 _ (List.mem_of_getElem? (i := 153) rfl)
set_option maxRecDepth 20000 in
theorem tw_1009 : Cond.code yX10_couldBeAlike cX10_couldBeAlike 1 (some .boolean) ∈ lw_tbl := inT4 _ (List.mem_of_getElem? (i := 173) rfl)
set_option maxRecDepth 20000 in
theorem tw_1010 : Cond.selects RX10 yX10_couldBeAlike yX10_couldBeAlike ∈ lw_tbl := inT4 _ (List.mem_of_getElem? (i := 172) rfl)
set_option maxRecDepth 20000 in
theorem tw_1011 : Cond.instanceMethod yX10_couldBeAlike ∈ lw_tbl := inT4 _ (List.mem_of_getElem? (i := 171) rfl)
set_option maxRecDepth 20000 in
theorem tw_1012 : Cond.methodLink RX11 263 yX10_couldBeAlike ∈ lw_tbl := inT4 _ (List.mem_of_getElem? (i := 170) rfl)
set_option maxRecDepth 20000 in
theorem tw_1013 : Cond.methodLink RX10 77 yJ6_bitCount_0f7a4 ∈ lw_tbl := inT4 _ (List.mem_of_getElem? (i := 169) rfl)
set_option maxRecDepth 20000 in
theorem tw_1014 : Cond.code yX10_isFair cX10_isFair 2 (some .boolean) ∈ lw_tbl := inT4 _ (List.mem_of_getElem? (i := 168) rfl)
set_option maxRecDepth 20000 in
theorem tw_1015 : Cond.selects RX11 yX11_odd yX11_odd ∈ lw_tbl := inT4 _ (List.mem_of_getElem? (i := 151) rfl)
set_option maxRecDepth 20000 in
theorem tw_1016 : Cond.instanceMethod yX11_odd ∈ lw_tbl := inT4 _ (List.mem_of_getElem? (i := 150) rfl)
set_option maxRecDepth 20000 in
theorem tw_1017 : Cond.methodLink RL 70 yX11_odd ∈ lw_tbl := inT4 _ (List.mem_of_getElem? (i := 149) rfl)
set_option maxRecDepth 20000 in
theorem tw_1018 : Cond.code yX12_odd cX12_odd 4 (some .int) ∈ lw_tbl := inT7 _ (List.mem_of_getElem? (i := 60) rfl)
set_option maxRecDepth 20000 in
theorem tw_1019 : Cond.code yX12_named cX12_named 3 (some .int) ∈ lw_tbl := inT7 _ (List.mem_of_getElem? (i := 68) rfl)
set_option maxRecDepth 20000 in
theorem tw_1020 : Cond.selects RX12 yX12_named yX12_named ∈ lw_tbl := inTs _ (List.mem_of_getElem? (i := 73) rfl)
set_option maxRecDepth 20000 in
theorem tw_1021 : Cond.instanceMethod yX12_named ∈ lw_tbl := inT7 _ (List.mem_of_getElem? (i := 67) rfl)
set_option maxRecDepth 20000 in
theorem tw_1022 : Cond.methodLink RX12 342 yX12_named ∈ lw_tbl := inT7 _ (List.mem_of_getElem? (i := 65) rfl)
set_option maxRecDepth 20000 in
theorem tw_1023 : Cond.code yX12_fits cX12_fits 6 (some .boolean) ∈ lw_tbl := inT7 _ (List.mem_of_getElem? (i := 64) rfl)
set_option maxRecDepth 20000 in
theorem tw_1024 : Cond.selects RX12 yX12_fits yX12_fits ∈ lw_tbl := inTs _ (List.mem_of_getElem? (i := 72) rfl)
set_option maxRecDepth 20000 in
theorem tw_1025 : Cond.instanceMethod yX12_fits ∈ lw_tbl := inT7 _ (List.mem_of_getElem? (i := 63) rfl)
set_option maxRecDepth 20000 in
theorem tw_1026 : Cond.methodLink RX12 339 yX12_fits ∈ lw_tbl := inT7 _ (List.mem_of_getElem? (i := 61) rfl)
set_option maxRecDepth 20000 in
theorem tw_1027 : Cond.selects RX12 yX12_odd yX12_odd ∈ lw_tbl := inT7 _ (List.mem_of_getElem? (i := 59) rfl)
set_option maxRecDepth 20000 in
theorem tw_1028 : Cond.instanceMethod yX12_odd ∈ lw_tbl := inT7 _ (List.mem_of_getElem? (i := 58) rfl)
set_option maxRecDepth 20000 in
theorem tw_1029 : Cond.methodLink RL 73 yX12_odd ∈ lw_tbl := inT7 _ (List.mem_of_getElem? (i := 57) rfl)
set_option maxRecDepth 20000 in
theorem tw_1030 : Cond.code yX11_heavier cX11_heavier 3 (some .int) ∈ lw_tbl := inT4 _ (List.mem_of_getElem? (i := 177) rfl)
set_option maxRecDepth 20000 in
theorem tw_1031 : Cond.static yX6_isOneEach ∈ lw_tbl := inT4 _ (List.mem_of_getElem? (i := 183) rfl)
set_option maxRecDepth 20000 in
theorem tw_1032 : Cond.methodLink RX6 24 yX6_isOneEach ∈ lw_tbl := inT4 _ (List.mem_of_getElem? (i := 182) rfl)
set_option maxRecDepth 20000 in
theorem tw_1033 : Cond.fieldLink RX6 34 "RopeScale$Weighings" "right" "[I" ∈ lw_tbl := inT2 _ (List.mem_of_getElem? (i := 65) rfl)
set_option maxRecDepth 20000 in
theorem tw_1034 : Cond.fieldLink RX6 31 "RopeScale$Weighings" "left" "[I" ∈ lw_tbl := inT2 _ (List.mem_of_getElem? (i := 63) rfl)
set_option maxRecDepth 20000 in
theorem tw_1035 : Cond.fieldLink RX6 28 "RopeScale$Weighings" "outcome" "[I" ∈ lw_tbl := inT2 _ (List.mem_of_getElem? (i := 67) rfl)
set_option maxRecDepth 20000 in
theorem tw_1036 : Cond.fieldLink RX6 18 "RopeScale$Weighings" "lines" "I" ∈ lw_tbl := inT2 _ (List.mem_of_getElem? (i := 69) rfl)
set_option maxRecDepth 20000 in
theorem tw_1037 : Cond.code yX6_find cX6_find 6 none ∈ lw_tbl := inT4 _ (List.mem_of_getElem? (i := 181) rfl)
set_option maxRecDepth 20000 in
theorem tw_1038 : Cond.selects RX6 yX6_find yX6_find ∈ lw_tbl := inT4 _ (List.mem_of_getElem? (i := 180) rfl)
set_option maxRecDepth 20000 in
theorem tw_1039 : Cond.instanceMethod yX6_find ∈ lw_tbl := inT4 _ (List.mem_of_getElem? (i := 179) rfl)
set_option maxRecDepth 20000 in
theorem tw_1040 : Cond.methodLink RX11 266 yX6_find ∈ lw_tbl := inT4 _ (List.mem_of_getElem? (i := 178) rfl)
set_option maxRecDepth 20000 in
theorem tw_1041 : Cond.fieldLink RX11 276 "RopeScale$Rank" "alike" "[I" ∈ lw_tbl := inT1 _ (List.mem_of_getElem? (i := 223) rfl)
set_option maxRecDepth 20000 in
theorem tw_1042 : Cond.fieldLink RX11 273 "RopeScale$Rank" "lighter" "[I" ∈ lw_tbl := inT1 _ (List.mem_of_getElem? (i := 221) rfl)
set_option maxRecDepth 20000 in
theorem tw_1043 : Cond.code yX6_contradictsItself cX6_contradictsItself 2 (some .boolean) ∈ lw_tbl := inT4 _ (List.mem_of_getElem? (i := 200) rfl)
set_option maxRecDepth 20000 in
theorem tw_1044 : Cond.selects RX6 yX6_contradictsItself yX6_contradictsItself ∈ lw_tbl := inT4 _ (List.mem_of_getElem? (i := 199) rfl)
set_option maxRecDepth 20000 in
theorem tw_1045 : Cond.instanceMethod yX6_contradictsItself ∈ lw_tbl := inT4 _ (List.mem_of_getElem? (i := 198) rfl)
set_option maxRecDepth 20000 in
theorem tw_1046 : Cond.methodLink RX11 270 yX6_contradictsItself ∈ lw_tbl := inT4 _ (List.mem_of_getElem? (i := 197) rfl)
set_option maxRecDepth 20000 in
theorem tw_1047 : Cond.code yX6_allAlike cX6_allAlike 3 (some .int) ∈ lw_tbl := inT4 _ (List.mem_of_getElem? (i := 196) rfl)
set_option maxRecDepth 20000 in
theorem tw_1048 : Cond.selects RX6 yX6_allAlike yX6_allAlike ∈ lw_tbl := inTs _ (List.mem_of_getElem? (i := 24) rfl)
set_option maxRecDepth 20000 in
theorem tw_1049 : Cond.instanceMethod yX6_allAlike ∈ lw_tbl := inT4 _ (List.mem_of_getElem? (i := 195) rfl)
set_option maxRecDepth 20000 in
theorem tw_1050 : Cond.methodLink RX6 45 yX6_allAlike ∈ lw_tbl := inT4 _ (List.mem_of_getElem? (i := 193) rfl)
set_option maxRecDepth 20000 in
theorem tw_1051 : Cond.code yX6_close cX6_close 3 none ∈ lw_tbl := inT4 _ (List.mem_of_getElem? (i := 192) rfl)
set_option maxRecDepth 20000 in
theorem tw_1052 : Cond.static yX6_close ∈ lw_tbl := inT4 _ (List.mem_of_getElem? (i := 191) rfl)
set_option maxRecDepth 20000 in
theorem tw_1053 : Cond.methodLink RX6 41 yX6_close ∈ lw_tbl := inT4 _ (List.mem_of_getElem? (i := 190) rfl)
set_option maxRecDepth 20000 in
theorem tw_1054 : Cond.code yX6_join cX6_join 4 none ∈ lw_tbl := inT4 _ (List.mem_of_getElem? (i := 188) rfl)
set_option maxRecDepth 20000 in
theorem tw_1055 : Cond.static yX6_join ∈ lw_tbl := inT4 _ (List.mem_of_getElem? (i := 187) rfl)
set_option maxRecDepth 20000 in
theorem tw_1056 : Cond.methodLink RX6 37 yX6_join ∈ lw_tbl := inT4 _ (List.mem_of_getElem? (i := 186) rfl)
set_option maxRecDepth 20000 in
theorem tw_1057 : Cond.methodLink RX6 53 yJ6_bitCount_0f7a4 ∈ lw_tbl := inT4 _ (List.mem_of_getElem? (i := 185) rfl)
set_option maxRecDepth 20000 in
theorem tw_1058 : Cond.code yX6_isOneEach cX6_isOneEach 2 (some .boolean) ∈ lw_tbl := inT4 _ (List.mem_of_getElem? (i := 184) rfl)
set_option maxRecDepth 20000 in
theorem tw_1059 : Cond.selects RX11 yX11_heavier yX11_heavier ∈ lw_tbl := inT4 _ (List.mem_of_getElem? (i := 176) rfl)
set_option maxRecDepth 20000 in
theorem tw_1060 : Cond.instanceMethod yX11_heavier ∈ lw_tbl := inT4 _ (List.mem_of_getElem? (i := 175) rfl)
set_option maxRecDepth 20000 in
theorem tw_1061 : Cond.methodLink RL 74 yX11_heavier ∈ lw_tbl := inT4 _ (List.mem_of_getElem? (i := 174) rfl)
set_option maxRecDepth 20000 in
theorem tw_1062 : Cond.code yX12_heavier cX12_heavier 4 (some .int) ∈ lw_tbl := inT7 _ (List.mem_of_getElem? (i := 72) rfl)
set_option maxRecDepth 20000 in
theorem tw_1063 : Cond.methodLink RX12 351 yX12_lowest ∈ lw_tbl := inT7 _ (List.mem_of_getElem? (i := 85) rfl)
set_option maxRecDepth 20000 in
theorem tw_1064 : Cond.code yX12_alikeTo cX12_alikeTo 5 (some .int) ∈ lw_tbl := inT7 _ (List.mem_of_getElem? (i := 84) rfl)
set_option maxRecDepth 20000 in
theorem tw_1065 : Cond.selects RX12 yX12_alikeTo yX12_alikeTo ∈ lw_tbl := inTs _ (List.mem_of_getElem? (i := 76) rfl)
set_option maxRecDepth 20000 in
theorem tw_1066 : Cond.instanceMethod yX12_alikeTo ∈ lw_tbl := inT7 _ (List.mem_of_getElem? (i := 83) rfl)
set_option maxRecDepth 20000 in
theorem tw_1067 : Cond.methodLink RX12 348 yX12_alikeTo ∈ lw_tbl := inT7 _ (List.mem_of_getElem? (i := 81) rfl)
set_option maxRecDepth 20000 in
theorem tw_1068 : Cond.code yX12_isOneAndOne cX12_isOneAndOne 2 (some .boolean) ∈ lw_tbl := inT7 _ (List.mem_of_getElem? (i := 80) rfl)
set_option maxRecDepth 20000 in
theorem tw_1069 : Cond.selects RX12 yX12_isOneAndOne yX12_isOneAndOne ∈ lw_tbl := inTs _ (List.mem_of_getElem? (i := 75) rfl)
set_option maxRecDepth 20000 in
theorem tw_1070 : Cond.instanceMethod yX12_isOneAndOne ∈ lw_tbl := inT7 _ (List.mem_of_getElem? (i := 79) rfl)
set_option maxRecDepth 20000 in
theorem tw_1071 : Cond.methodLink RX12 345 yX12_isOneAndOne ∈ lw_tbl := inT7 _ (List.mem_of_getElem? (i := 77) rfl)
set_option maxRecDepth 20000 in
theorem tw_1072 : Cond.code yX12_lighterThan cX12_lighterThan 7 (some .int) ∈ lw_tbl := inT7 _ (List.mem_of_getElem? (i := 76) rfl)
set_option maxRecDepth 20000 in
theorem tw_1073 : Cond.selects RX12 yX12_lighterThan yX12_lighterThan ∈ lw_tbl := inTs _ (List.mem_of_getElem? (i := 74) rfl)
set_option maxRecDepth 20000 in
theorem tw_1074 : Cond.instanceMethod yX12_lighterThan ∈ lw_tbl := inT7 _ (List.mem_of_getElem? (i := 75) rfl)
set_option maxRecDepth 20000 in
theorem tw_1075 : Cond.methodLink RX12 354 yX12_lighterThan ∈ lw_tbl := inT7 _ (List.mem_of_getElem? (i := 73) rfl)
set_option maxRecDepth 20000 in
theorem tw_1076 : Cond.code yX12_lowest cX12_lowest 2 (some .int) ∈ lw_tbl := inT7 _ (List.mem_of_getElem? (i := 87) rfl)
set_option maxRecDepth 20000 in
theorem tw_1077 : Cond.static yX12_lowest ∈ lw_tbl := inT7 _ (List.mem_of_getElem? (i := 86) rfl)
set_option maxRecDepth 20000 in
theorem tw_1078 : Cond.selects RX12 yX12_heavier yX12_heavier ∈ lw_tbl := inT7 _ (List.mem_of_getElem? (i := 71) rfl)
set_option maxRecDepth 20000 in
theorem tw_1079 : Cond.instanceMethod yX12_heavier ∈ lw_tbl := inT7 _ (List.mem_of_getElem? (i := 70) rfl)
set_option maxRecDepth 20000 in
theorem tw_1080 : Cond.methodLink RL 77 yX12_heavier ∈ lw_tbl := inT7 _ (List.mem_of_getElem? (i := 69) rfl)
set_option maxRecDepth 20000 in
theorem tw_1081 : Cond.code yX11_pairs cX11_pairs 2 (some .int) ∈ lw_tbl := inT4 _ (List.mem_of_getElem? (i := 204) rfl)
set_option maxRecDepth 20000 in
theorem tw_1082 : Cond.fieldLink RX0 69 "RopeScale$Walk" "weight" "[I" ∈ lw_tbl := inT1 _ (List.mem_of_getElem? (i := 83) rfl)
set_option maxRecDepth 20000 in
theorem tw_1083 : Cond.fieldLink RX0 59 "RopeScale$Walk" "told" "I" ∈ lw_tbl := inT1 _ (List.mem_of_getElem? (i := 99) rfl)
set_option maxRecDepth 20000 in
theorem tw_1084 : Cond.code yX0_sortWeights cX0_sortWeights 5 (some .int) ∈ lw_tbl := inT4 _ (List.mem_of_getElem? (i := 212) rfl)
set_option maxRecDepth 20000 in
theorem tw_1085 : Cond.selects RX0 yX0_sortWeights yX0_sortWeights ∈ lw_tbl := inTs _ (List.mem_of_getElem? (i := 25) rfl)
set_option maxRecDepth 20000 in
theorem tw_1086 : Cond.instanceMethod yX0_sortWeights ∈ lw_tbl := inT4 _ (List.mem_of_getElem? (i := 211) rfl)
set_option maxRecDepth 20000 in
theorem tw_1087 : Cond.methodLink RX0 55 yX0_sortWeights ∈ lw_tbl := inT4 _ (List.mem_of_getElem? (i := 209) rfl)
set_option maxRecDepth 20000 in
theorem tw_1088 : Cond.code yX0_mostTwos cX0_mostTwos 7 (some .int) ∈ lw_tbl := inT4 _ (List.mem_of_getElem? (i := 208) rfl)
set_option maxRecDepth 20000 in
theorem tw_1089 : Cond.selects RX0 yX0_mostTwos yX0_mostTwos ∈ lw_tbl := inT4 _ (List.mem_of_getElem? (i := 207) rfl)
set_option maxRecDepth 20000 in
theorem tw_1090 : Cond.instanceMethod yX0_mostTwos ∈ lw_tbl := inT4 _ (List.mem_of_getElem? (i := 206) rfl)
set_option maxRecDepth 20000 in
theorem tw_1091 : Cond.methodLink RX11 279 yX0_mostTwos ∈ lw_tbl := inT4 _ (List.mem_of_getElem? (i := 205) rfl)
set_option maxRecDepth 20000 in
theorem tw_1092 : Cond.selects RX11 yX11_pairs yX11_pairs ∈ lw_tbl := inT4 _ (List.mem_of_getElem? (i := 203) rfl)
set_option maxRecDepth 20000 in
theorem tw_1093 : Cond.instanceMethod yX11_pairs ∈ lw_tbl := inT4 _ (List.mem_of_getElem? (i := 202) rfl)
set_option maxRecDepth 20000 in
theorem tw_1094 : Cond.methodLink RL 78 yX11_pairs ∈ lw_tbl := inT4 _ (List.mem_of_getElem? (i := 201) rfl)
set_option maxRecDepth 20000 in
theorem tw_1095 : Cond.code yX12_pairs cX12_pairs 6 (some .int) ∈ lw_tbl := inT7 _ (List.mem_of_getElem? (i := 91) rfl)
set_option maxRecDepth 20000 in
theorem tw_1096 : Cond.code yX12_sorts cX12_sorts 4 (some .int) ∈ lw_tbl := inT7 _ (List.mem_of_getElem? (i := 95) rfl)
set_option maxRecDepth 20000 in
theorem tw_1097 : Cond.selects RX12 yX12_sorts yX12_sorts ∈ lw_tbl := inTs _ (List.mem_of_getElem? (i := 77) rfl)
set_option maxRecDepth 20000 in
theorem tw_1098 : Cond.instanceMethod yX12_sorts ∈ lw_tbl := inT7 _ (List.mem_of_getElem? (i := 94) rfl)
set_option maxRecDepth 20000 in
theorem tw_1099 : Cond.methodLink RX12 357 yX12_sorts ∈ lw_tbl := inT7 _ (List.mem_of_getElem? (i := 92) rfl)
set_option maxRecDepth 20000 in
theorem tw_1100 : Cond.selects RX12 yX12_pairs yX12_pairs ∈ lw_tbl := inT7 _ (List.mem_of_getElem? (i := 90) rfl)
set_option maxRecDepth 20000 in
theorem tw_1101 : Cond.instanceMethod yX12_pairs ∈ lw_tbl := inT7 _ (List.mem_of_getElem? (i := 89) rfl)
set_option maxRecDepth 20000 in
theorem tw_1102 : Cond.methodLink RL 81 yX12_pairs ∈ lw_tbl := inT7 _ (List.mem_of_getElem? (i := 88) rfl)
set_option maxRecDepth 20000 in
theorem tw_1103 : Cond.code yX11_liars cX11_liars 2 (some .int) ∈ lw_tbl := inT4 _ (List.mem_of_getElem? (i := 216) rfl)
set_option maxRecDepth 20000 in
theorem tw_1104 : Cond.code yX9_greatestLiar cX9_greatestLiar 4 (some .int) ∈ lw_tbl := inT4 _ (List.mem_of_getElem? (i := 229) rfl)
set_option maxRecDepth 20000 in
theorem tw_1105 : Cond.selects RX9 yX9_greatestLiar yX9_greatestLiar ∈ lw_tbl := inT4 _ (List.mem_of_getElem? (i := 228) rfl)
set_option maxRecDepth 20000 in
theorem tw_1106 : Cond.instanceMethod yX9_greatestLiar ∈ lw_tbl := inT4 _ (List.mem_of_getElem? (i := 227) rfl)
set_option maxRecDepth 20000 in
theorem tw_1107 : Cond.methodLink RX11 286 yX9_greatestLiar ∈ lw_tbl := inT4 _ (List.mem_of_getElem? (i := 226) rfl)
set_option maxRecDepth 20000 in
theorem tw_1108 : Cond.methodLink RX9 63 Lib.Math.abs.name ∈ lw_tbl := inT4 _ (List.mem_of_getElem? (i := 225) rfl)
set_option maxRecDepth 20000 in
theorem tw_1109 : Cond.code yX9_lieOf cX9_lieOf 2 (some .int) ∈ lw_tbl := inT4 _ (List.mem_of_getElem? (i := 224) rfl)
set_option maxRecDepth 20000 in
theorem tw_1110 : Cond.selects RX9 yX9_lieOf yX9_lieOf ∈ lw_tbl := inT4 _ (List.mem_of_getElem? (i := 223) rfl)
set_option maxRecDepth 20000 in
theorem tw_1111 : Cond.instanceMethod yX9_lieOf ∈ lw_tbl := inT4 _ (List.mem_of_getElem? (i := 222) rfl)
set_option maxRecDepth 20000 in
theorem tw_1112 : Cond.methodLink RX9 69 yX9_lieOf ∈ lw_tbl := inT4 _ (List.mem_of_getElem? (i := 221) rfl)
set_option maxRecDepth 20000 in
theorem tw_1113 : Cond.code yX9_whoLies cX9_whoLies 3 (some .int) ∈ lw_tbl := inT4 _ (List.mem_of_getElem? (i := 220) rfl)
set_option maxRecDepth 20000 in
theorem tw_1114 : Cond.selects RX9 yX9_whoLies yX9_whoLies ∈ lw_tbl := inT4 _ (List.mem_of_getElem? (i := 219) rfl)
set_option maxRecDepth 20000 in
theorem tw_1115 : Cond.instanceMethod yX9_whoLies ∈ lw_tbl := inT4 _ (List.mem_of_getElem? (i := 218) rfl)
set_option maxRecDepth 20000 in
theorem tw_1116 : Cond.methodLink RX11 283 yX9_whoLies ∈ lw_tbl := inT4 _ (List.mem_of_getElem? (i := 217) rfl)
set_option maxRecDepth 20000 in
theorem tw_1117 : Cond.methodLink RX11 289 yX9_lieOf ∈ lw_tbl := inT4 _ (List.mem_of_getElem? (i := 230) rfl)
set_option maxRecDepth 20000 in
theorem tw_1118 : Cond.selects RX11 yX11_liars yX11_liars ∈ lw_tbl := inT4 _ (List.mem_of_getElem? (i := 215) rfl)
set_option maxRecDepth 20000 in
theorem tw_1119 : Cond.instanceMethod yX11_liars ∈ lw_tbl := inT4 _ (List.mem_of_getElem? (i := 214) rfl)
set_option maxRecDepth 20000 in
theorem tw_1120 : Cond.methodLink RL 82 yX11_liars ∈ lw_tbl := inT4 _ (List.mem_of_getElem? (i := 213) rfl)
set_option maxRecDepth 20000 in
theorem tw_1121 : Cond.code yX12_liars cX12_liars 7 (some .int) ∈ lw_tbl := inT7 _ (List.mem_of_getElem? (i := 99) rfl)
set_option maxRecDepth 20000 in
theorem tw_1122 : Cond.selects RX12 yX12_liars yX12_liars ∈ lw_tbl := inT7 _ (List.mem_of_getElem? (i := 98) rfl)
set_option maxRecDepth 20000 in
theorem tw_1123 : Cond.instanceMethod yX12_liars ∈ lw_tbl := inT7 _ (List.mem_of_getElem? (i := 97) rfl)
set_option maxRecDepth 20000 in
theorem tw_1124 : Cond.methodLink RL 85 yX12_liars ∈ lw_tbl := inT7 _ (List.mem_of_getElem? (i := 96) rfl)
set_option maxRecDepth 20000 in
theorem tw_1125 : Cond.code yX11_teams cX11_teams 3 (some .int) ∈ lw_tbl := inT4 _ (List.mem_of_getElem? (i := 234) rfl)
set_option maxRecDepth 20000 in
theorem tw_1126 : Cond.code yX0_evenTeam cX0_evenTeam 10 (some .int) ∈ lw_tbl := inT4 _ (List.mem_of_getElem? (i := 238) rfl)
set_option maxRecDepth 20000 in
theorem tw_1127 : Cond.selects RX0 yX0_evenTeam yX0_evenTeam ∈ lw_tbl := inT4 _ (List.mem_of_getElem? (i := 237) rfl)
set_option maxRecDepth 20000 in
theorem tw_1128 : Cond.instanceMethod yX0_evenTeam ∈ lw_tbl := inT4 _ (List.mem_of_getElem? (i := 236) rfl)
set_option maxRecDepth 20000 in
theorem tw_1129 : Cond.methodLink RX11 292 yX0_evenTeam ∈ lw_tbl := inT4 _ (List.mem_of_getElem? (i := 235) rfl)
set_option maxRecDepth 20000 in
theorem tw_1130 : Cond.methodLink RX11 295 yX0_unevenness ∈ lw_tbl := inT5 _ (List.mem_of_getElem? (i := 3) rfl)
set_option maxRecDepth 20000 in
theorem tw_1131 : Cond.code yX0_unevenness cX0_unevenness 3 (some .int) ∈ lw_tbl := inT5 _ (List.mem_of_getElem? (i := 2) rfl)
set_option maxRecDepth 20000 in
theorem tw_1132 : Cond.selects RX0 yX0_unevenness yX0_unevenness ∈ lw_tbl := inT5 _ (List.mem_of_getElem? (i := 1) rfl)
set_option maxRecDepth 20000 in
theorem tw_1133 : Cond.instanceMethod yX0_unevenness ∈ lw_tbl := inT5 _ (List.mem_of_getElem? (i := 0) rfl)
set_option maxRecDepth 20000 in
theorem tw_1134 : Cond.methodLink RX0 52 yX0_unevenness ∈ lw_tbl := inT4 _ (List.mem_of_getElem? (i := 239) rfl)
set_option maxRecDepth 20000 in
theorem tw_1135 : Cond.selects RX11 yX11_teams yX11_teams ∈ lw_tbl := inT4 _ (List.mem_of_getElem? (i := 233) rfl)
set_option maxRecDepth 20000 in
theorem tw_1136 : Cond.instanceMethod yX11_teams ∈ lw_tbl := inT4 _ (List.mem_of_getElem? (i := 232) rfl)
set_option maxRecDepth 20000 in
theorem tw_1137 : Cond.methodLink RL 86 yX11_teams ∈ lw_tbl := inT4 _ (List.mem_of_getElem? (i := 231) rfl)
set_option maxRecDepth 20000 in
theorem tw_1138 : Cond.code yX12_teams cX12_teams 9 (some .int) ∈ lw_tbl := inT7 _ (List.mem_of_getElem? (i := 103) rfl)
set_option maxRecDepth 20000 in
theorem tw_1139 : Cond.constant RX12 360 (1000000) ∈ lw_tbl := inT7 _ (List.mem_of_getElem? (i := 104) rfl)
set_option maxRecDepth 20000 in
theorem tw_1140 : Cond.selects RX12 yX12_teams yX12_teams ∈ lw_tbl := inT7 _ (List.mem_of_getElem? (i := 102) rfl)
set_option maxRecDepth 20000 in
theorem tw_1141 : Cond.instanceMethod yX12_teams ∈ lw_tbl := inT7 _ (List.mem_of_getElem? (i := 101) rfl)
set_option maxRecDepth 20000 in
theorem tw_1142 : Cond.methodLink RL 89 yX12_teams ∈ lw_tbl := inT7 _ (List.mem_of_getElem? (i := 100) rfl)
set_option maxRecDepth 20000 in
theorem tw_1143 : Cond.code yX11_share cX11_share 3 (some .int) ∈ lw_tbl := inT5 _ (List.mem_of_getElem? (i := 7) rfl)
set_option maxRecDepth 20000 in
theorem tw_1144 : Cond.selects RX9 yX9_total yX9_total ∈ lw_tbl := inT5 _ (List.mem_of_getElem? (i := 15) rfl)
set_option maxRecDepth 20000 in
theorem tw_1145 : Cond.instanceMethod yX9_total ∈ lw_tbl := inT5 _ (List.mem_of_getElem? (i := 14) rfl)
set_option maxRecDepth 20000 in
theorem tw_1146 : Cond.methodLink RX9 72 yX9_total ∈ lw_tbl := inT5 _ (List.mem_of_getElem? (i := 13) rfl)
set_option maxRecDepth 20000 in
theorem tw_1147 : Cond.code yX9_partOf cX9_partOf 9 (some .int) ∈ lw_tbl := inT5 _ (List.mem_of_getElem? (i := 12) rfl)
set_option maxRecDepth 20000 in
theorem tw_1148 : Cond.selects RX9 yX9_partOf yX9_partOf ∈ lw_tbl := inT5 _ (List.mem_of_getElem? (i := 11) rfl)
set_option maxRecDepth 20000 in
theorem tw_1149 : Cond.instanceMethod yX9_partOf ∈ lw_tbl := inT5 _ (List.mem_of_getElem? (i := 10) rfl)
set_option maxRecDepth 20000 in
theorem tw_1150 : Cond.methodLink RX11 299 yX9_partOf ∈ lw_tbl := inT5 _ (List.mem_of_getElem? (i := 9) rfl)
set_option maxRecDepth 20000 in
theorem tw_1151 : Cond.constant RX11 298 (99999) ∈ lw_tbl := inT5 _ (List.mem_of_getElem? (i := 8) rfl)
set_option maxRecDepth 20000 in
theorem tw_1152 : Cond.code yX9_total cX9_total 4 (some .int) ∈ lw_tbl := inT5 _ (List.mem_of_getElem? (i := 16) rfl)
set_option maxRecDepth 20000 in
theorem tw_1153 : Cond.selects RX11 yX11_share yX11_share ∈ lw_tbl := inT5 _ (List.mem_of_getElem? (i := 6) rfl)
set_option maxRecDepth 20000 in
theorem tw_1154 : Cond.instanceMethod yX11_share ∈ lw_tbl := inT5 _ (List.mem_of_getElem? (i := 5) rfl)
set_option maxRecDepth 20000 in
theorem tw_1155 : Cond.methodLink RL 90 yX11_share ∈ lw_tbl := inT5 _ (List.mem_of_getElem? (i := 4) rfl)
set_option maxRecDepth 20000 in
theorem tw_1156 : Cond.code yX12_share cX12_share 9 (some .int) ∈ lw_tbl := inT7 _ (List.mem_of_getElem? (i := 108) rfl)
set_option maxRecDepth 20000 in
theorem tw_1157 : Cond.constant RX12 361 (99999) ∈ lw_tbl := inT7 _ (List.mem_of_getElem? (i := 109) rfl)
set_option maxRecDepth 20000 in
theorem tw_1158 : Cond.selects RX12 yX12_share yX12_share ∈ lw_tbl := inT7 _ (List.mem_of_getElem? (i := 107) rfl)
set_option maxRecDepth 20000 in
theorem tw_1159 : Cond.instanceMethod yX12_share ∈ lw_tbl := inT7 _ (List.mem_of_getElem? (i := 106) rfl)
set_option maxRecDepth 20000 in
theorem tw_1160 : Cond.methodLink RL 93 yX12_share ∈ lw_tbl := inT7 _ (List.mem_of_getElem? (i := 105) rfl)
set_option maxRecDepth 20000 in
theorem tw_1161 : Cond.code yX11_stones cX11_stones 3 (some .int) ∈ lw_tbl := inT5 _ (List.mem_of_getElem? (i := 20) rfl)
set_option maxRecDepth 20000 in
theorem tw_1162 : Cond.methodLink RX5 35 yX8_at ∈ lw_tbl := inT5 _ (List.mem_of_getElem? (i := 26) rfl)
set_option maxRecDepth 20000 in
theorem tw_1163 : Cond.methodLink RX5 29 Lib.Math.min.name ∈ lw_tbl := inT5 _ (List.mem_of_getElem? (i := 25) rfl)
set_option maxRecDepth 20000 in
theorem tw_1164 : Cond.code yX5_take cX5_take 4 none ∈ lw_tbl := inT5 _ (List.mem_of_getElem? (i := 24) rfl)
set_option maxRecDepth 20000 in
theorem tw_1165 : Cond.selects RX5 yX5_take yX5_take ∈ lw_tbl := inT5 _ (List.mem_of_getElem? (i := 23) rfl)
set_option maxRecDepth 20000 in
theorem tw_1166 : Cond.instanceMethod yX5_take ∈ lw_tbl := inT5 _ (List.mem_of_getElem? (i := 22) rfl)
set_option maxRecDepth 20000 in
theorem tw_1167 : Cond.methodLink RX11 302 yX5_take ∈ lw_tbl := inT5 _ (List.mem_of_getElem? (i := 21) rfl)
set_option maxRecDepth 20000 in
theorem tw_1168 : Cond.code yX5_markFrom cX5_markFrom 5 none ∈ lw_tbl := inT5 _ (List.mem_of_getElem? (i := 42) rfl)
set_option maxRecDepth 20000 in
theorem tw_1169 : Cond.selects RX5 yX5_markFrom yX5_markFrom ∈ lw_tbl := inTs _ (List.mem_of_getElem? (i := 26) rfl)
set_option maxRecDepth 20000 in
theorem tw_1170 : Cond.instanceMethod yX5_markFrom ∈ lw_tbl := inT5 _ (List.mem_of_getElem? (i := 41) rfl)
set_option maxRecDepth 20000 in
theorem tw_1171 : Cond.methodLink RX5 50 yX5_markFrom ∈ lw_tbl := inT5 _ (List.mem_of_getElem? (i := 39) rfl)
set_option maxRecDepth 20000 in
theorem tw_1172 : Cond.code yJ7_fill_d0a16 cJ7_fill_d0a16 5 none ∈ lw_tbl := inT5 _ (List.mem_of_getElem? (i := 38) rfl)
set_option maxRecDepth 20000 in
theorem tw_1173 : Cond.static yJ7_fill_d0a16 ∈ lw_tbl := inT5 _ (List.mem_of_getElem? (i := 37) rfl)
set_option maxRecDepth 20000 in
theorem tw_1174 : Cond.methodLink RX5 44 yJ7_fill_d0a16 ∈ lw_tbl := inT5 _ (List.mem_of_getElem? (i := 36) rfl)
set_option maxRecDepth 20000 in
theorem tw_1175 : Cond.code yX5_weighsUpTo cX5_weighsUpTo 3 (some .int) ∈ lw_tbl := inT5 _ (List.mem_of_getElem? (i := 35) rfl)
set_option maxRecDepth 20000 in
theorem tw_1176 : Cond.selects RX5 yX5_weighsUpTo yX5_weighsUpTo ∈ lw_tbl := inT5 _ (List.mem_of_getElem? (i := 34) rfl)
set_option maxRecDepth 20000 in
theorem tw_1177 : Cond.instanceMethod yX5_weighsUpTo ∈ lw_tbl := inT5 _ (List.mem_of_getElem? (i := 33) rfl)
set_option maxRecDepth 20000 in
theorem tw_1178 : Cond.methodLink RX11 309 yX5_weighsUpTo ∈ lw_tbl := inT5 _ (List.mem_of_getElem? (i := 32) rfl)
set_option maxRecDepth 20000 in
theorem tw_1179 : Cond.code yX5_hasZero cX5_hasZero 2 (some .boolean) ∈ lw_tbl := inT5 _ (List.mem_of_getElem? (i := 31) rfl)
set_option maxRecDepth 20000 in
theorem tw_1180 : Cond.selects RX5 yX5_hasZero yX5_hasZero ∈ lw_tbl := inT5 _ (List.mem_of_getElem? (i := 30) rfl)
set_option maxRecDepth 20000 in
theorem tw_1181 : Cond.instanceMethod yX5_hasZero ∈ lw_tbl := inT5 _ (List.mem_of_getElem? (i := 29) rfl)
set_option maxRecDepth 20000 in
theorem tw_1182 : Cond.methodLink RX11 306 yX5_hasZero ∈ lw_tbl := inT5 _ (List.mem_of_getElem? (i := 28) rfl)
set_option maxRecDepth 20000 in
theorem tw_1183 : Cond.methodLink RX5 41 yX8_clear ∈ lw_tbl := inT5 _ (List.mem_of_getElem? (i := 27) rfl)
set_option maxRecDepth 20000 in
theorem tw_1184 : Cond.methodLink RX5 54 Lib.Math.abs.name ∈ lw_tbl := inT5 _ (List.mem_of_getElem? (i := 43) rfl)
set_option maxRecDepth 20000 in
theorem tw_1185 : Cond.selects RX11 yX11_stones yX11_stones ∈ lw_tbl := inT5 _ (List.mem_of_getElem? (i := 19) rfl)
set_option maxRecDepth 20000 in
theorem tw_1186 : Cond.instanceMethod yX11_stones ∈ lw_tbl := inT5 _ (List.mem_of_getElem? (i := 18) rfl)
set_option maxRecDepth 20000 in
theorem tw_1187 : Cond.methodLink RL 94 yX11_stones ∈ lw_tbl := inT5 _ (List.mem_of_getElem? (i := 17) rfl)
set_option maxRecDepth 20000 in
theorem tw_1188 : Cond.code yX12_stones cX12_stones 4 (some .int) ∈ lw_tbl := inT7 _ (List.mem_of_getElem? (i := 113) rfl)
set_option maxRecDepth 20000 in
theorem tw_1189 : Cond.code yX12_laysFewest cX12_laysFewest 7 none ∈ lw_tbl := inT7 _ (List.mem_of_getElem? (i := 125) rfl)
set_option maxRecDepth 20000 in
theorem tw_1190 : Cond.selects RX12 yX12_laysFewest yX12_laysFewest ∈ lw_tbl := inTs _ (List.mem_of_getElem? (i := 80) rfl)
set_option maxRecDepth 20000 in
theorem tw_1191 : Cond.instanceMethod yX12_laysFewest ∈ lw_tbl := inT7 _ (List.mem_of_getElem? (i := 124) rfl)
set_option maxRecDepth 20000 in
theorem tw_1192 : Cond.methodLink RX12 368 yX12_laysFewest ∈ lw_tbl := inT7 _ (List.mem_of_getElem? (i := 122) rfl)
set_option maxRecDepth 20000 in
theorem tw_1193 : Cond.code yX12_octet cX12_octet 2 (some .int) ∈ lw_tbl := inT7 _ (List.mem_of_getElem? (i := 121) rfl)
set_option maxRecDepth 20000 in
theorem tw_1194 : Cond.selects RX12 yX12_octet yX12_octet ∈ lw_tbl := inTs _ (List.mem_of_getElem? (i := 79) rfl)
set_option maxRecDepth 20000 in
theorem tw_1195 : Cond.instanceMethod yX12_octet ∈ lw_tbl := inT7 _ (List.mem_of_getElem? (i := 120) rfl)
set_option maxRecDepth 20000 in
theorem tw_1196 : Cond.methodLink RX12 362 yX12_octet ∈ lw_tbl := inT7 _ (List.mem_of_getElem? (i := 118) rfl)
set_option maxRecDepth 20000 in
theorem tw_1197 : Cond.code yX12_areAll cX12_areAll 3 (some .boolean) ∈ lw_tbl := inT7 _ (List.mem_of_getElem? (i := 117) rfl)
set_option maxRecDepth 20000 in
theorem tw_1198 : Cond.selects RX12 yX12_areAll yX12_areAll ∈ lw_tbl := inTs _ (List.mem_of_getElem? (i := 78) rfl)
set_option maxRecDepth 20000 in
theorem tw_1199 : Cond.instanceMethod yX12_areAll ∈ lw_tbl := inT7 _ (List.mem_of_getElem? (i := 116) rfl)
set_option maxRecDepth 20000 in
theorem tw_1200 : Cond.methodLink RX12 365 yX12_areAll ∈ lw_tbl := inT7 _ (List.mem_of_getElem? (i := 114) rfl)
set_option maxRecDepth 20000 in
theorem tw_1201 : Cond.selects RX12 yX12_stones yX12_stones ∈ lw_tbl := inT7 _ (List.mem_of_getElem? (i := 112) rfl)
set_option maxRecDepth 20000 in
theorem tw_1202 : Cond.instanceMethod yX12_stones ∈ lw_tbl := inT7 _ (List.mem_of_getElem? (i := 111) rfl)
set_option maxRecDepth 20000 in
theorem tw_1203 : Cond.methodLink RL 98 yX12_stones ∈ lw_tbl := inT7 _ (List.mem_of_getElem? (i := 110) rfl)
set_option maxRecDepth 20000 in
theorem tw_1204 : Cond.code yX11_fewest cX11_fewest 4 (some .int) ∈ lw_tbl := inT5 _ (List.mem_of_getElem? (i := 47) rfl)
set_option maxRecDepth 20000 in
theorem tw_1205 : Cond.code yX5_tryStones cX5_tryStones 4 none ∈ lw_tbl := inT5 _ (List.mem_of_getElem? (i := 55) rfl)
set_option maxRecDepth 20000 in
theorem tw_1206 : Cond.selects RX5 yX5_tryStones yX5_tryStones ∈ lw_tbl := inTs _ (List.mem_of_getElem? (i := 27) rfl)
set_option maxRecDepth 20000 in
theorem tw_1207 : Cond.instanceMethod yX5_tryStones ∈ lw_tbl := inT5 _ (List.mem_of_getElem? (i := 54) rfl)
set_option maxRecDepth 20000 in
theorem tw_1208 : Cond.methodLink RX5 57 yX5_tryStones ∈ lw_tbl := inT5 _ (List.mem_of_getElem? (i := 52) rfl)
set_option maxRecDepth 20000 in
theorem tw_1209 : Cond.code yX5_fewestFor cX5_fewestFor 2 (some .int) ∈ lw_tbl := inT5 _ (List.mem_of_getElem? (i := 51) rfl)
set_option maxRecDepth 20000 in
theorem tw_1210 : Cond.selects RX5 yX5_fewestFor yX5_fewestFor ∈ lw_tbl := inT5 _ (List.mem_of_getElem? (i := 50) rfl)
set_option maxRecDepth 20000 in
theorem tw_1211 : Cond.instanceMethod yX5_fewestFor ∈ lw_tbl := inT5 _ (List.mem_of_getElem? (i := 49) rfl)
set_option maxRecDepth 20000 in
theorem tw_1212 : Cond.methodLink RX11 312 yX5_fewestFor ∈ lw_tbl := inT5 _ (List.mem_of_getElem? (i := 48) rfl)
set_option maxRecDepth 20000 in
theorem tw_1213 : Cond.selects RX11 yX11_fewest yX11_fewest ∈ lw_tbl := inT5 _ (List.mem_of_getElem? (i := 46) rfl)
set_option maxRecDepth 20000 in
theorem tw_1214 : Cond.instanceMethod yX11_fewest ∈ lw_tbl := inT5 _ (List.mem_of_getElem? (i := 45) rfl)
set_option maxRecDepth 20000 in
theorem tw_1215 : Cond.methodLink RL 99 yX11_fewest ∈ lw_tbl := inT5 _ (List.mem_of_getElem? (i := 44) rfl)
set_option maxRecDepth 20000 in
theorem tw_1216 : Cond.code yX12_fewest cX12_fewest 3 (some .int) ∈ lw_tbl := inT7 _ (List.mem_of_getElem? (i := 129) rfl)
set_option maxRecDepth 20000 in
theorem tw_1217 : Cond.selects RX12 yX12_fewest yX12_fewest ∈ lw_tbl := inT7 _ (List.mem_of_getElem? (i := 128) rfl)
set_option maxRecDepth 20000 in
theorem tw_1218 : Cond.instanceMethod yX12_fewest ∈ lw_tbl := inT7 _ (List.mem_of_getElem? (i := 127) rfl)
set_option maxRecDepth 20000 in
theorem tw_1219 : Cond.methodLink RL 102 yX12_fewest ∈ lw_tbl := inT7 _ (List.mem_of_getElem? (i := 126) rfl)
set_option maxRecDepth 20000 in
theorem tw_1220 : Cond.code yX11_seesaw cX11_seesaw 2 (some .int) ∈ lw_tbl := inT5 _ (List.mem_of_getElem? (i := 59) rfl)
set_option maxRecDepth 20000 in
theorem tw_1221 : Cond.code yX5_seat cX5_seat 7 none ∈ lw_tbl := inT5 _ (List.mem_of_getElem? (i := 67) rfl)
set_option maxRecDepth 20000 in
theorem tw_1222 : Cond.selects RX5 yX5_seat yX5_seat ∈ lw_tbl := inTs _ (List.mem_of_getElem? (i := 28) rfl)
set_option maxRecDepth 20000 in
theorem tw_1223 : Cond.instanceMethod yX5_seat ∈ lw_tbl := inT5 _ (List.mem_of_getElem? (i := 66) rfl)
set_option maxRecDepth 20000 in
theorem tw_1224 : Cond.methodLink RX5 61 yX5_seat ∈ lw_tbl := inT5 _ (List.mem_of_getElem? (i := 64) rfl)
set_option maxRecDepth 20000 in
theorem tw_1225 : Cond.code yX5_evenAtBest cX5_evenAtBest 1 (some .int) ∈ lw_tbl := inT5 _ (List.mem_of_getElem? (i := 63) rfl)
set_option maxRecDepth 20000 in
theorem tw_1226 : Cond.selects RX5 yX5_evenAtBest yX5_evenAtBest ∈ lw_tbl := inT5 _ (List.mem_of_getElem? (i := 62) rfl)
set_option maxRecDepth 20000 in
theorem tw_1227 : Cond.instanceMethod yX5_evenAtBest ∈ lw_tbl := inT5 _ (List.mem_of_getElem? (i := 61) rfl)
set_option maxRecDepth 20000 in
theorem tw_1228 : Cond.methodLink RX11 315 yX5_evenAtBest ∈ lw_tbl := inT5 _ (List.mem_of_getElem? (i := 60) rfl)
set_option maxRecDepth 20000 in
theorem tw_1229 : Cond.selects RX11 yX11_seesaw yX11_seesaw ∈ lw_tbl := inT5 _ (List.mem_of_getElem? (i := 58) rfl)
set_option maxRecDepth 20000 in
theorem tw_1230 : Cond.instanceMethod yX11_seesaw ∈ lw_tbl := inT5 _ (List.mem_of_getElem? (i := 57) rfl)
set_option maxRecDepth 20000 in
theorem tw_1231 : Cond.methodLink RL 103 yX11_seesaw ∈ lw_tbl := inT5 _ (List.mem_of_getElem? (i := 56) rfl)
set_option maxRecDepth 20000 in
theorem tw_1232 : Cond.code yX12_seesaw cX12_seesaw 7 (some .int) ∈ lw_tbl := inT7 _ (List.mem_of_getElem? (i := 133) rfl)
set_option maxRecDepth 20000 in
theorem tw_1233 : Cond.methodLink RX12 372 yX12_armOf ∈ lw_tbl := inT7 _ (List.mem_of_getElem? (i := 138) rfl)
set_option maxRecDepth 20000 in
theorem tw_1234 : Cond.code yX12_tiltOf cX12_tiltOf 5 (some .int) ∈ lw_tbl := inT7 _ (List.mem_of_getElem? (i := 137) rfl)
set_option maxRecDepth 20000 in
theorem tw_1235 : Cond.selects RX12 yX12_tiltOf yX12_tiltOf ∈ lw_tbl := inTs _ (List.mem_of_getElem? (i := 81) rfl)
set_option maxRecDepth 20000 in
theorem tw_1236 : Cond.instanceMethod yX12_tiltOf ∈ lw_tbl := inT7 _ (List.mem_of_getElem? (i := 136) rfl)
set_option maxRecDepth 20000 in
theorem tw_1237 : Cond.methodLink RX12 375 yX12_tiltOf ∈ lw_tbl := inT7 _ (List.mem_of_getElem? (i := 134) rfl)
set_option maxRecDepth 20000 in
theorem tw_1238 : Cond.code yX12_armOf cX12_armOf 1 (some .int) ∈ lw_tbl := inT7 _ (List.mem_of_getElem? (i := 140) rfl)
set_option maxRecDepth 20000 in
theorem tw_1239 : Cond.static yX12_armOf ∈ lw_tbl := inT7 _ (List.mem_of_getElem? (i := 139) rfl)
set_option maxRecDepth 20000 in
theorem tw_1240 : Cond.selects RX12 yX12_seesaw yX12_seesaw ∈ lw_tbl := inT7 _ (List.mem_of_getElem? (i := 132) rfl)
set_option maxRecDepth 20000 in
theorem tw_1241 : Cond.instanceMethod yX12_seesaw ∈ lw_tbl := inT7 _ (List.mem_of_getElem? (i := 131) rfl)
set_option maxRecDepth 20000 in
theorem tw_1242 : Cond.methodLink RL 106 yX12_seesaw ∈ lw_tbl := inT7 _ (List.mem_of_getElem? (i := 130) rfl)
set_option maxRecDepth 20000 in
theorem tw_1243 : Cond.code yX11_row cX11_row 3 (some .int) ∈ lw_tbl := inT5 _ (List.mem_of_getElem? (i := 72) rfl)
set_option maxRecDepth 20000 in
theorem tw_1244 : Cond.methodLink RX5 68 Lib.Math.max.name ∈ lw_tbl := inT5 _ (List.mem_of_getElem? (i := 77) rfl)
set_option maxRecDepth 20000 in
theorem tw_1245 : Cond.code yX5_mostThatRise cX5_mostThatRise 5 (some .int) ∈ lw_tbl := inT5 _ (List.mem_of_getElem? (i := 76) rfl)
set_option maxRecDepth 20000 in
theorem tw_1246 : Cond.selects RX5 yX5_mostThatRise yX5_mostThatRise ∈ lw_tbl := inT5 _ (List.mem_of_getElem? (i := 75) rfl)
set_option maxRecDepth 20000 in
theorem tw_1247 : Cond.instanceMethod yX5_mostThatRise ∈ lw_tbl := inT5 _ (List.mem_of_getElem? (i := 74) rfl)
set_option maxRecDepth 20000 in
theorem tw_1248 : Cond.methodLink RX11 318 yX5_mostThatRise ∈ lw_tbl := inT5 _ (List.mem_of_getElem? (i := 73) rfl)
set_option maxRecDepth 20000 in
theorem tw_1249 : Cond.selects RX11 yX11_row yX11_row ∈ lw_tbl := inT5 _ (List.mem_of_getElem? (i := 71) rfl)
set_option maxRecDepth 20000 in
theorem tw_1250 : Cond.instanceMethod yX11_row ∈ lw_tbl := inT5 _ (List.mem_of_getElem? (i := 70) rfl)
set_option maxRecDepth 20000 in
theorem tw_1251 : Cond.methodLink RL 107 yX11_row ∈ lw_tbl := inT5 _ (List.mem_of_getElem? (i := 69) rfl)
set_option maxRecDepth 20000 in
theorem tw_1252 : Cond.code yX12_row cX12_row 8 (some .int) ∈ lw_tbl := inT7 _ (List.mem_of_getElem? (i := 144) rfl)
set_option maxRecDepth 20000 in
theorem tw_1253 : Cond.selects RX12 yX12_row yX12_row ∈ lw_tbl := inT7 _ (List.mem_of_getElem? (i := 143) rfl)
set_option maxRecDepth 20000 in
theorem tw_1254 : Cond.instanceMethod yX12_row ∈ lw_tbl := inT7 _ (List.mem_of_getElem? (i := 142) rfl)
set_option maxRecDepth 20000 in
theorem tw_1255 : Cond.methodLink RL 110 yX12_row ∈ lw_tbl := inT7 _ (List.mem_of_getElem? (i := 141) rfl)
set_option maxRecDepth 20000 in
theorem tw_1256 : Cond.code yX11_falseOne cX11_falseOne 6 (some .int) ∈ lw_tbl := inT5 _ (List.mem_of_getElem? (i := 81) rfl)
set_option maxRecDepth 20000 in
theorem tw_1257 : Cond.selects RX11 yX11_falseOne yX11_falseOne ∈ lw_tbl := inT5 _ (List.mem_of_getElem? (i := 80) rfl)
set_option maxRecDepth 20000 in
theorem tw_1258 : Cond.instanceMethod yX11_falseOne ∈ lw_tbl := inT5 _ (List.mem_of_getElem? (i := 79) rfl)
set_option maxRecDepth 20000 in
theorem tw_1259 : Cond.methodLink RL 111 yX11_falseOne ∈ lw_tbl := inT5 _ (List.mem_of_getElem? (i := 78) rfl)
set_option maxRecDepth 20000 in
theorem tw_1260 : Cond.code yX12_falseOne cX12_falseOne 5 (some .int) ∈ lw_tbl := inT7 _ (List.mem_of_getElem? (i := 148) rfl)
set_option maxRecDepth 20000 in
theorem tw_1261 : Cond.selects RX12 yX12_falseOne yX12_falseOne ∈ lw_tbl := inT7 _ (List.mem_of_getElem? (i := 147) rfl)
set_option maxRecDepth 20000 in
theorem tw_1262 : Cond.instanceMethod yX12_falseOne ∈ lw_tbl := inT7 _ (List.mem_of_getElem? (i := 146) rfl)
set_option maxRecDepth 20000 in
theorem tw_1263 : Cond.methodLink RL 114 yX12_falseOne ∈ lw_tbl := inT7 _ (List.mem_of_getElem? (i := 145) rfl)
set_option maxRecDepth 20000 in
theorem tw_1264 : Cond.code yX11_scales cX11_scales 4 (some .int) ∈ lw_tbl := inT5 _ (List.mem_of_getElem? (i := 85) rfl)
set_option maxRecDepth 20000 in
theorem tw_1265 : Cond.code yX5_mostLeftHeavier cX5_mostLeftHeavier 5 (some .int) ∈ lw_tbl := inT5 _ (List.mem_of_getElem? (i := 93) rfl)
set_option maxRecDepth 20000 in
theorem tw_1266 : Cond.selects RX5 yX5_mostLeftHeavier yX5_mostLeftHeavier ∈ lw_tbl := inT5 _ (List.mem_of_getElem? (i := 92) rfl)
set_option maxRecDepth 20000 in
theorem tw_1267 : Cond.instanceMethod yX5_mostLeftHeavier ∈ lw_tbl := inT5 _ (List.mem_of_getElem? (i := 91) rfl)
set_option maxRecDepth 20000 in
theorem tw_1268 : Cond.methodLink RX11 324 yX5_mostLeftHeavier ∈ lw_tbl := inT5 _ (List.mem_of_getElem? (i := 90) rfl)
set_option maxRecDepth 20000 in
theorem tw_1269 : Cond.code yX5_timesLeftHeavier cX5_timesLeftHeavier 5 (some .int) ∈ lw_tbl := inT5 _ (List.mem_of_getElem? (i := 89) rfl)
set_option maxRecDepth 20000 in
theorem tw_1270 : Cond.selects RX5 yX5_timesLeftHeavier yX5_timesLeftHeavier ∈ lw_tbl := inT5 _ (List.mem_of_getElem? (i := 88) rfl)
set_option maxRecDepth 20000 in
theorem tw_1271 : Cond.instanceMethod yX5_timesLeftHeavier ∈ lw_tbl := inT5 _ (List.mem_of_getElem? (i := 87) rfl)
set_option maxRecDepth 20000 in
theorem tw_1272 : Cond.methodLink RX11 321 yX5_timesLeftHeavier ∈ lw_tbl := inT5 _ (List.mem_of_getElem? (i := 86) rfl)
set_option maxRecDepth 20000 in
theorem tw_1273 : Cond.selects RX11 yX11_scales yX11_scales ∈ lw_tbl := inT5 _ (List.mem_of_getElem? (i := 84) rfl)
set_option maxRecDepth 20000 in
theorem tw_1274 : Cond.instanceMethod yX11_scales ∈ lw_tbl := inT5 _ (List.mem_of_getElem? (i := 83) rfl)
set_option maxRecDepth 20000 in
theorem tw_1275 : Cond.methodLink RL 115 yX11_scales ∈ lw_tbl := inT5 _ (List.mem_of_getElem? (i := 82) rfl)
set_option maxRecDepth 20000 in
theorem tw_1276 : Cond.code yX12_scales cX12_scales 8 (some .int) ∈ lw_tbl := inT7 _ (List.mem_of_getElem? (i := 152) rfl)
set_option maxRecDepth 20000 in
theorem tw_1277 : Cond.selects RX12 yX12_scales yX12_scales ∈ lw_tbl := inT7 _ (List.mem_of_getElem? (i := 151) rfl)
set_option maxRecDepth 20000 in
theorem tw_1278 : Cond.instanceMethod yX12_scales ∈ lw_tbl := inT7 _ (List.mem_of_getElem? (i := 150) rfl)
set_option maxRecDepth 20000 in
theorem tw_1279 : Cond.methodLink RL 118 yX12_scales ∈ lw_tbl := inT7 _ (List.mem_of_getElem? (i := 149) rfl)
set_option maxRecDepth 20000 in
theorem tw_1280 : Cond.code yX11_seed cX11_seed 2 (some .boolean) ∈ lw_tbl := inT5 _ (List.mem_of_getElem? (i := 97) rfl)
set_option maxRecDepth 20000 in
theorem tw_1281 : Cond.fieldLink RX11 327 "RopeScale$Walk" "x" "I" ∈ lw_tbl := inT1 _ (List.mem_of_getElem? (i := 110) rfl)
set_option maxRecDepth 20000 in
theorem tw_1282 : Cond.selects RX11 yX11_seed yX11_seed ∈ lw_tbl := inT5 _ (List.mem_of_getElem? (i := 96) rfl)
set_option maxRecDepth 20000 in
theorem tw_1283 : Cond.instanceMethod yX11_seed ∈ lw_tbl := inT5 _ (List.mem_of_getElem? (i := 95) rfl)
set_option maxRecDepth 20000 in
theorem tw_1284 : Cond.methodLink RL 119 yX11_seed ∈ lw_tbl := inT5 _ (List.mem_of_getElem? (i := 94) rfl)
set_option maxRecDepth 20000 in
theorem tw_1285 : Cond.code yX12_seed cX12_seed 2 (some .boolean) ∈ lw_tbl := inT7 _ (List.mem_of_getElem? (i := 156) rfl)
set_option maxRecDepth 20000 in
theorem tw_1286 : Cond.selects RX12 yX12_seed yX12_seed ∈ lw_tbl := inT7 _ (List.mem_of_getElem? (i := 155) rfl)
set_option maxRecDepth 20000 in
theorem tw_1287 : Cond.instanceMethod yX12_seed ∈ lw_tbl := inT7 _ (List.mem_of_getElem? (i := 154) rfl)
set_option maxRecDepth 20000 in
theorem tw_1288 : Cond.methodLink RL 123 yX12_seed ∈ lw_tbl := inT7 _ (List.mem_of_getElem? (i := 153) rfl)
set_option maxRecDepth 20000 in
theorem tw_1289 : Cond.code yX11_keep cX11_keep 1 (some .int) ∈ lw_tbl := inT5 _ (List.mem_of_getElem? (i := 101) rfl)
set_option maxRecDepth 20000 in
theorem tw_1290 : Cond.fieldLink RX11 330 "RopeScale$Walk" "hour" "I" ∈ lw_tbl := inT1 _ (List.mem_of_getElem? (i := 108) rfl)
set_option maxRecDepth 20000 in
theorem tw_1291 : Cond.selects RX11 yX11_keep yX11_keep ∈ lw_tbl := inT5 _ (List.mem_of_getElem? (i := 100) rfl)
set_option maxRecDepth 20000 in
theorem tw_1292 : Cond.instanceMethod yX11_keep ∈ lw_tbl := inT5 _ (List.mem_of_getElem? (i := 99) rfl)
set_option maxRecDepth 20000 in
theorem tw_1293 : Cond.methodLink RL 124 yX11_keep ∈ lw_tbl := inT5 _ (List.mem_of_getElem? (i := 98) rfl)
set_option maxRecDepth 20000 in
theorem tw_1294 : Cond.code yX12_keep cX12_keep 1 (some .int) ∈ lw_tbl := inT7 _ (List.mem_of_getElem? (i := 160) rfl)
set_option maxRecDepth 20000 in
theorem tw_1295 : Cond.fieldLink RX12 378 "RopeScaleModel" "isKept" "Z" ∈ lw_tbl := inT5 _ (List.mem_of_getElem? (i := 174) rfl)
set_option maxRecDepth 20000 in
theorem tw_1296 : Cond.selects RX12 yX12_keep yX12_keep ∈ lw_tbl := inT7 _ (List.mem_of_getElem? (i := 159) rfl)
set_option maxRecDepth 20000 in
theorem tw_1297 : Cond.instanceMethod yX12_keep ∈ lw_tbl := inT7 _ (List.mem_of_getElem? (i := 158) rfl)
set_option maxRecDepth 20000 in
theorem tw_1298 : Cond.methodLink RL 128 yX12_keep ∈ lw_tbl := inT7 _ (List.mem_of_getElem? (i := 157) rfl)
set_option maxRecDepth 20000 in
theorem tw_1299 : Cond.code yX11_undo cX11_undo 1 (some .boolean) ∈ lw_tbl := inT5 _ (List.mem_of_getElem? (i := 105) rfl)
set_option maxRecDepth 20000 in
theorem tw_1300 : Cond.selects RX11 yX11_undo yX11_undo ∈ lw_tbl := inT5 _ (List.mem_of_getElem? (i := 104) rfl)
set_option maxRecDepth 20000 in
theorem tw_1301 : Cond.instanceMethod yX11_undo ∈ lw_tbl := inT5 _ (List.mem_of_getElem? (i := 103) rfl)
set_option maxRecDepth 20000 in
theorem tw_1302 : Cond.methodLink RL 129 yX11_undo ∈ lw_tbl := inT5 _ (List.mem_of_getElem? (i := 102) rfl)
set_option maxRecDepth 20000 in
theorem tw_1303 : Cond.code yX12_undo cX12_undo 1 (some .boolean) ∈ lw_tbl := inT7 _ (List.mem_of_getElem? (i := 164) rfl)
set_option maxRecDepth 20000 in
theorem tw_1304 : Cond.selects RX12 yX12_undo yX12_undo ∈ lw_tbl := inT7 _ (List.mem_of_getElem? (i := 163) rfl)
set_option maxRecDepth 20000 in
theorem tw_1305 : Cond.instanceMethod yX12_undo ∈ lw_tbl := inT7 _ (List.mem_of_getElem? (i := 162) rfl)
set_option maxRecDepth 20000 in
theorem tw_1306 : Cond.methodLink RL 133 yX12_undo ∈ lw_tbl := inT7 _ (List.mem_of_getElem? (i := 161) rfl)
set_option maxRecDepth 20000 in
theorem tw_1307 : Cond.code yX11_check cX11_check 5 (some .int) ∈ lw_tbl := inT5 _ (List.mem_of_getElem? (i := 109) rfl)
set_option maxRecDepth 20000 in
theorem tw_1308 : Cond.methodLink RX11 333 yX8_at ∈ lw_tbl := inT5 _ (List.mem_of_getElem? (i := 110) rfl)
set_option maxRecDepth 20000 in
theorem tw_1309 : Cond.selects RX11 yX11_check yX11_check ∈ lw_tbl := inT5 _ (List.mem_of_getElem? (i := 108) rfl)
set_option maxRecDepth 20000 in
theorem tw_1310 : Cond.instanceMethod yX11_check ∈ lw_tbl := inT5 _ (List.mem_of_getElem? (i := 107) rfl)
set_option maxRecDepth 20000 in
theorem tw_1311 : Cond.methodLink RL 134 yX11_check ∈ lw_tbl := inT5 _ (List.mem_of_getElem? (i := 106) rfl)
set_option maxRecDepth 20000 in
theorem tw_1312 : Cond.code yX12_check cX12_check 3 (some .int) ∈ lw_tbl := inT7 _ (List.mem_of_getElem? (i := 168) rfl)
set_option maxRecDepth 20000 in
theorem tw_1313 : Cond.selects RX12 yX12_check yX12_check ∈ lw_tbl := inT7 _ (List.mem_of_getElem? (i := 167) rfl)
set_option maxRecDepth 20000 in
theorem tw_1314 : Cond.instanceMethod yX12_check ∈ lw_tbl := inT7 _ (List.mem_of_getElem? (i := 166) rfl)
set_option maxRecDepth 20000 in
theorem tw_1315 : Cond.methodLink RL 137 yX12_check ∈ lw_tbl := inT7 _ (List.mem_of_getElem? (i := 165) rfl)
set_option maxRecDepth 20000 in
theorem tw_1316 : Cond.code yX11_count cX11_count 2 (some .int) ∈ lw_tbl := inT5 _ (List.mem_of_getElem? (i := 114) rfl)
set_option maxRecDepth 20000 in
theorem tw_1317 : Cond.methodLink RX11 336 yX10_letters ∈ lw_tbl := inT5 _ (List.mem_of_getElem? (i := 115) rfl)
set_option maxRecDepth 20000 in
theorem tw_1318 : Cond.fieldLink RX11 339 "RopeScale$Walk" "baths" "[I" ∈ lw_tbl := inT1 _ (List.mem_of_getElem? (i := 92) rfl)
set_option maxRecDepth 20000 in
theorem tw_1319 : Cond.methodLink RX11 341 yX9_total ∈ lw_tbl := inT5 _ (List.mem_of_getElem? (i := 116) rfl)
set_option maxRecDepth 20000 in
theorem tw_1320 : Cond.selects RX11 yX11_count yX11_count ∈ lw_tbl := inT5 _ (List.mem_of_getElem? (i := 113) rfl)
set_option maxRecDepth 20000 in
theorem tw_1321 : Cond.instanceMethod yX11_count ∈ lw_tbl := inT5 _ (List.mem_of_getElem? (i := 112) rfl)
set_option maxRecDepth 20000 in
theorem tw_1322 : Cond.methodLink RL 138 yX11_count ∈ lw_tbl := inT5 _ (List.mem_of_getElem? (i := 111) rfl)
set_option maxRecDepth 20000 in
theorem tw_1323 : Cond.code yX12_count cX12_count 2 (some .int) ∈ lw_tbl := inT7 _ (List.mem_of_getElem? (i := 172) rfl)
set_option maxRecDepth 20000 in
theorem tw_1324 : Cond.code yX12_allOf cX12_allOf 4 (some .int) ∈ lw_tbl := inT7 _ (List.mem_of_getElem? (i := 176) rfl)
set_option maxRecDepth 20000 in
theorem tw_1325 : Cond.selects RX12 yX12_allOf yX12_allOf ∈ lw_tbl := inTs _ (List.mem_of_getElem? (i := 82) rfl)
set_option maxRecDepth 20000 in
theorem tw_1326 : Cond.instanceMethod yX12_allOf ∈ lw_tbl := inT7 _ (List.mem_of_getElem? (i := 175) rfl)
set_option maxRecDepth 20000 in
theorem tw_1327 : Cond.methodLink RX12 382 yX12_allOf ∈ lw_tbl := inT7 _ (List.mem_of_getElem? (i := 173) rfl)
set_option maxRecDepth 20000 in
theorem tw_1328 : Cond.selects RX12 yX12_count yX12_count ∈ lw_tbl := inT7 _ (List.mem_of_getElem? (i := 171) rfl)
set_option maxRecDepth 20000 in
theorem tw_1329 : Cond.instanceMethod yX12_count ∈ lw_tbl := inT7 _ (List.mem_of_getElem? (i := 170) rfl)
set_option maxRecDepth 20000 in
theorem tw_1330 : Cond.methodLink RL 141 yX12_count ∈ lw_tbl := inT7 _ (List.mem_of_getElem? (i := 169) rfl)
