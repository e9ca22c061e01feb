abbrev fu0 : Nat → Int32 := fun _ => 0
abbrev fu1 : Nat → Int32 := upd fu0 0 20
abbrev fu2 : Nat → Int32 := upd fu1 1 2
abbrev fu3 : Nat → Int32 := upd fu2 2 4
abbrev fu4 : Nat → Int32 := upd fu3 3 3
abbrev fu5 : Nat → Int32 := upd fu4 4 1
abbrev fu6 : Nat → Int32 := upd fu5 5 8
abbrev fu7 : Nat → Int32 := upd fu6 6 0
theorem fu7_fc : fu7 = fcv := by
  funext j
  by_cases h : j < 7
  · match j, h with
    | 0, _ => rfl
    | 1, _ => rfl
    | 2, _ => rfl
    | 3, _ => rfl
    | 4, _ => rfl
    | 5, _ => rfl
    | 6, _ => rfl
    | j + 7, h => exact absurd h (by omega)
  · simp only [fu7, fu6, fu5, fu4, fu3, fu2, fu1, fu0, upd, fcv]
    rw [if_neg (by omega), if_neg (by omega), if_neg (by omega), if_neg (by omega), if_neg (by omega), if_neg (by omega), if_neg (by omega), if_neg (by omega), if_neg (by omega), if_neg (by omega), if_neg (by omega), if_neg (by omega), if_neg (by omega)]
abbrev mV2 (ca : Nat → ClassId) : Vm → Prop := mVn (ca 2) (ca 0) (.array .int) (mV1 (ca 0) .int)
abbrev mV3 (ca : Nat → ClassId) : Vm → Prop := mVn (ca 3) (ca 2) (.array (.array .int)) (mV2 ca)
abbrev rm_X12_init : Room := { frames := 3, cells := 5512, slots := 105527, locals := 63 }
abbrev fsM (sz : Nat) : List Value := [.int 0, .ref (sz + 0), .int 0, .int 0, .int 0, .int (-1), .int 0, .int 0, .ref (sz + 1), .ref (sz + 2), .int 0, .ref (sz + 3), .ref (sz + 65), .ref (sz + 66), .ref (sz + 67), .int 1, .ref (sz + 68), .ref (sz + 69), .ref (sz + 70), .ref (sz + 71), .ref (sz + 72), .ref (sz + 73), .ref (sz + 74), .ref (sz + 117), .ref (sz + 160), .ref (sz + 161), .int 0, .ref (sz + 162), .ref (sz + 165), .ref (sz + 168), .ref (sz + 171), .ref (sz + 2174), .ref (sz + 2175), .int 0, .ref (sz + 2298), .ref (sz + 2347), .ref (sz + 2348), .ref (sz + 2349), .ref (sz + 5278), .ref (sz + 5328), .ref (sz + 5329), .ref (sz + 5330), .int 0, .int 0, .int 0, .ref (sz + 5331), .ref (sz + 5332), .ref (sz + 5333), .ref (sz + 5334), .int 0, .int 0, .int 0, .int 0, .int 0, .ref (sz + 5335), .ref (sz + 5336), .ref (sz + 5337), .ref (sz + 5338), .ref (sz + 5379), .ref (sz + 5420), .ref (sz + 5462), .ref (sz + 5503), .int 0, .ref (sz + 5504), .ref (sz + 5505), .ref (sz + 5506), .ref (sz + 5507), .ref (sz + 5508), .ref (sz + 5509), .int 0, .int 0, .int 0, .ref (sz + 5510), .ref (sz + 5511)]
theorem wM_0 {D : va_G} {ca : Nat → ClassId} {o sz : Nat} {H : Heap} (hP : va_P D vwCl (KW o (.inr (12, fsM sz)) sz (esM51 ca sz)) H) : va_at D vwCl (adM o sz 0, EM (adM o sz) ca aMb 0) H := hP 0 _ rfl
theorem wM_all {D : va_G} {ca : Nat → ClassId} {o sz : Nat} {H : Heap} (hP : va_P D vwCl (KW o (.inr (12, fsM sz)) sz (esM51 ca sz)) H) : va_P D vwCl (xw (EM (adM o sz) ca) NCM (adM o sz) aMb) H := by
  intro k q hq
  obtain ⟨hk, rfl⟩ := xw_some hq
  have hk' : k < 5513 := hk
  clear hq hk
  by_cases h52 : k < 52
  · match k, h52 with
    | 0, _ => exact wM_0 hP
    | 1, _ => exact wM_1 hP
    | 2, _ => exact wM_2 hP
    | 3, _ => exact wM_3 hP
    | 4, _ => exact wM_4 hP
    | 5, _ => exact wM_5 hP
    | 6, _ => exact wM_6 hP
    | 7, _ => exact wM_7 hP
    | 8, _ => exact wM_8 hP
    | 9, _ => exact wM_9 hP
    | 10, _ => exact wM_10 hP
    | 11, _ => exact wM_11 hP
    | 12, _ => exact wM_12 hP
    | 13, _ => exact wM_13 hP
    | 14, _ => exact wM_14 hP
    | 15, _ => exact wM_15 hP
    | 16, _ => exact wM_16 hP
    | 17, _ => exact wM_17 hP
    | 18, _ => exact wM_18 hP
    | 19, _ => exact wM_19 hP
    | 20, _ => exact wM_20 hP
    | 21, _ => exact wM_21 hP
    | 22, _ => exact wM_22 hP
    | 23, _ => exact wM_23 hP
    | 24, _ => exact wM_24 hP
    | 25, _ => exact wM_25 hP
    | 26, _ => exact wM_26 hP
    | 27, _ => exact wM_27 hP
    | 28, _ => exact wM_28 hP
    | 29, _ => exact wM_29 hP
    | 30, _ => exact wM_30 hP
    | 31, _ => exact wM_31 hP
    | 32, _ => exact wM_32 hP
    | 33, _ => exact wM_33 hP
    | 34, _ => exact wM_34 hP
    | 35, _ => exact wM_35 hP
    | 36, _ => exact wM_36 hP
    | 37, _ => exact wM_37 hP
    | 38, _ => exact wM_38 hP
    | 39, _ => exact wM_39 hP
    | 40, _ => exact wM_40 hP
    | 41, _ => exact wM_41 hP
    | 42, _ => exact wM_42 hP
    | 43, _ => exact wM_43 hP
    | 44, _ => exact wM_44 hP
    | 45, _ => exact wM_45 hP
    | 46, _ => exact wM_46 hP
    | 47, _ => exact wM_47 hP
    | 48, _ => exact wM_48 hP
    | 49, _ => exact wM_49 hP
    | 50, _ => exact wM_50 hP
    | 51, _ => exact wM_51 hP
    | k + 52, h => exact absurd h (by omega)
  by_cases h113 : k < 113
  · obtain ⟨i, hi, rfl⟩ : ∃ i, i < 61 ∧ k = 52 + i := ⟨k - 52, by omega, by omega⟩
    exact wM_sign_1 hP hi
  by_cases h115 : k < 115
  · obtain ⟨i, hi, rfl⟩ : ∃ i, i < 2 ∧ k = 113 + i := ⟨k - 113, by omega, by omega⟩
    exact wM_part_1 hP hi
  by_cases h155 : k < 155
  · obtain ⟨i, j, hi, hj, rfl⟩ : ∃ i j, i < 2 ∧ j < 20 ∧ k = 115 + (i * 20 + j) := ⟨(k - 115) / 20, (k - 115) % 20, by omega, by omega, by omega⟩
    exact wM_part_2 hP hi hj
  by_cases h157 : k < 157
  · obtain ⟨i, hi, rfl⟩ : ∃ i, i < 2 ∧ k = 155 + i := ⟨k - 155, by omega, by omega⟩
    exact wM_shape_1 hP hi
  by_cases h197 : k < 197
  · obtain ⟨i, j, hi, hj, rfl⟩ : ∃ i j, i < 2 ∧ j < 20 ∧ k = 157 + (i * 20 + j) := ⟨(k - 157) / 20, (k - 157) % 20, by omega, by omega, by omega⟩
    exact wM_shape_2 hP hi hj
  by_cases h199 : k < 199
  · obtain ⟨i, hi, rfl⟩ : ∃ i, i < 2 ∧ k = 197 + i := ⟨k - 197, by omega, by omega⟩
    exact wM_cells_1 hP hi
  by_cases h201 : k < 201
  · obtain ⟨i, hi, rfl⟩ : ∃ i, i < 2 ∧ k = 199 + i := ⟨k - 199, by omega, by omega⟩
    exact wM_lineOf_1 hP hi
  by_cases h203 : k < 203
  · obtain ⟨i, hi, rfl⟩ : ∃ i, i < 2 ∧ k = 201 + i := ⟨k - 201, by omega, by omega⟩
    exact wM_behind_1 hP hi
  by_cases h205 : k < 205
  · obtain ⟨i, hi, rfl⟩ : ∃ i, i < 2 ∧ k = 203 + i := ⟨k - 203, by omega, by omega⟩
    exact wM_cell_1 hP hi
  by_cases h285 : k < 285
  · obtain ⟨i, j, hi, hj, rfl⟩ : ∃ i j, i < 2 ∧ j < 40 ∧ k = 205 + (i * 40 + j) := ⟨(k - 205) / 40, (k - 205) % 40, by omega, by omega, by omega⟩
    exact wM_cell_2 hP hi hj
  by_cases h2205 : k < 2205
  · obtain ⟨i, j, q, hi, hj, hq, rfl⟩ : ∃ i j q, i < 2 ∧ j < 40 ∧ q < 24 ∧ k = 285 + ((i * 40 + j) * 24 + q) := ⟨(k - 285) / 960, (k - 285) / 24 % 40, (k - 285) % 24, by omega, by omega, by omega, by omega⟩
    exact wM_cell_3 hP hi hj hq
  by_cases h2207 : k < 2207
  · obtain ⟨i, hi, rfl⟩ : ∃ i, i < 2 ∧ k = 2205 + i := ⟨k - 2205, by omega, by omega⟩
    exact wM_follow_1 hP hi
  by_cases h2327 : k < 2327
  · obtain ⟨i, j, hi, hj, rfl⟩ : ∃ i j, i < 2 ∧ j < 60 ∧ k = 2207 + (i * 60 + j) := ⟨(k - 2207) / 60, (k - 2207) % 60, by omega, by omega, by omega⟩
    exact wM_follow_2 hP hi hj
  by_cases h2375 : k < 2375
  · obtain ⟨i, hi, rfl⟩ : ∃ i, i < 48 ∧ k = 2327 + i := ⟨k - 2327, by omega, by omega⟩
    exact wM_net_1 hP hi
  by_cases h2423 : k < 2423
  · obtain ⟨i, hi, rfl⟩ : ∃ i, i < 48 ∧ k = 2375 + i := ⟨k - 2375, by omega, by omega⟩
    exact wM_edge_1 hP hi
  by_cases h5303 : k < 5303
  · obtain ⟨i, j, hi, hj, rfl⟩ : ∃ i j, i < 48 ∧ j < 60 ∧ k = 2423 + (i * 60 + j) := ⟨(k - 2423) / 60, (k - 2423) % 60, by omega, by omega, by omega⟩
    exact wM_edge_2 hP hi hj
  by_cases h5352 : k < 5352
  · obtain ⟨i, hi, rfl⟩ : ∃ i, i < 49 ∧ k = 5303 + i := ⟨k - 5303, by omega, by omega⟩
    exact wM_cost_1 hP hi
  by_cases h5392 : k < 5392
  · obtain ⟨i, hi, rfl⟩ : ∃ i, i < 40 ∧ k = 5352 + i := ⟨k - 5352, by omega, by omega⟩
    exact wM_choice_1 hP hi
  by_cases h5432 : k < 5432
  · obtain ⟨i, hi, rfl⟩ : ∃ i, i < 40 ∧ k = 5392 + i := ⟨k - 5392, by omega, by omega⟩
    exact wM_choiceAt_1 hP hi
  by_cases h5473 : k < 5473
  · obtain ⟨i, hi, rfl⟩ : ∃ i, i < 41 ∧ k = 5432 + i := ⟨k - 5432, by omega, by omega⟩
    exact wM_onFrom_1 hP hi
  obtain ⟨i, hi, rfl⟩ : ∃ i, i < 40 ∧ k = 5473 + i := ⟨k - 5473, by omega, by omega⟩
  exact wM_chosen_1 hP hi
theorem k_X12 {l : Launch} {D : va_G} {ca : Nat → ClassId} {o sz : Nat} {N : Nat} {a1 : AH} (h0 : F_X12_plants N aMb = some a1) : Met l yX12_init (Cond.code yX12_init cX12_init 1 none :: xWs) rm_X12_init (va_Pc [.ref o] (fun U => kPre D vwCl (tysM ca) o (.inr (12, [.int 0, .null, .int 0, .int 0, .int 0, .int 0, .int 0, .int 0, .null, .null, .int 0, .null, .null, .null, .null, .int 0, .null, .null, .null, .null, .null, .null, .null, .null, .null, .null, .int 0, .null, .null, .null, .null, .null, .null, .int 0, .null, .null, .null, .null, .null, .null, .null, .null, .int 0, .int 0, .int 0, .null, .null, .null, .null, .int 0, .int 0, .int 0, .int 0, .int 0, .null, .null, .null, .null, .null, .null, .null, .null, .int 0, .null, .null, .null, .null, .null, .null, .int 0, .int 0, .int 0, .null, .null])) sz U ∧ xMA ca U.vm)) (va_Qv (fun _ : Unit => True) (fun _ t => xB D vwCl (tysM ca) (EM (adM o sz) ca) NCM (adM o sz) a1 t ∧ t.heap.size = sz + 5512) (kA o sz)) 5512 105527 (kA o sz) := by
  refine Met.ofW (cc := cX12_init) (maxL := 1) (ret := none) (by decide) rfl ?_
  intro p e s m args below meth c s₁ B hml hv
  obtain ⟨rfl, ⟨hP, hz, ho, hK, hN⟩, hMA⟩ := hv
  have hts := atoms_spec (ws := Cond.code yX12_init cX12_init 1 none :: xWs) B.pre
  have C : KC p l s m #[Value.ref o] meth c cX12_init 1 RX12 D vwCl (tysM ca) := ⟨B.exec, B.bytes, hml, findClass_of_methodNamed B.named, fun w hw => hts w (List.mem_cons_of_mem _ hw), hK, B.returns, B.notSynchronized, (name_of_methodNamed B.named B.method).1, hN⟩
  have hl := lv_entry [Value.ref o] (n := 1) (Nat.le_of_ble_eq_true rfl)
  show W p l e rm_X12_init s m _ below meth c s.heap [] 0 0 _ (entryFrame m ([Value.ref o] : List Value).toArray 1)
  rw [lg_entry_eq]
  generalize hQ : MQ below (va_Qv (fun _ : Unit => True) (fun _ t => xB D vwCl (tysM ca) (EM (adM o sz) ca) NCM (adM o sz) a1 t ∧ t.heap.size = sz + 5512) (kA o sz)) #[Value.ref o] s 5512 105527 (kA o sz) = Q
  suffices hh : XK p l e rm_X12_init s m #[Value.ref o] below meth c 1 Q D vwCl o (.inr (12, [.int 0, .null, .int 0, .int 0, .int 0, .int 0, .int 0, .int 0, .null, .null, .int 0, .null, .null, .null, .null, .int 0, .null, .null, .null, .null, .null, .null, .null, .null, .null, .null, .int 0, .null, .null, .null, .null, .null, .null, .int 0, .null, .null, .null, .null, .null, .null, .null, .null, .int 0, .int 0, .int 0, .null, .null, .null, .null, .int 0, .int 0, .int 0, .int 0, .int 0, .null, .null, .null, .null, .null, .null, .null, .null, .int 0, .null, .null, .null, .null, .null, .null, .int 0, .int 0, .int 0, .null, .null])) sz (esM0 ca sz) 0 0 0 [(0, .ref o)] [] from by
    subst hQ
    exact hh s.heap [] _ hP (by rw [hz]; rfl) va_S.rf hz ho hl
  refine k_aload_n C dX12_init_0 1 rfl 0 rfl ?_
  refine k_oinit C wml_X12_1 dX12_init_1 4 rfl ⟨by decide, Nat.le_of_ble_eq_true rfl⟩ ?_
  refine k_aload_n C dX12_init_4 5 rfl 0 rfl ?_
  refine k_iconst C dX12_init_5 6 rfl 2 rfl ?_
  refine k_newa (atype := .int) (a0 := (2, .inl (fun _ => 0))) C 0 rfl (fun h => h) wma_int 2 (fun _ => rfl) (by decide) (by decide) (Nat.le_of_ble_eq_true rfl) ⟨by decide, by decide⟩ dX12_init_6 8 rfl (sz + 0) (congrArg (fun n => sz + n) lenM0) ?_
  refine XK_go (es1 := esM1 ca sz) (cs1 := 1) (sl1 := 2) rfl rfl rfl ?_
  refine k_putF C inX12 tyX12_ok nmX12 rfl 1 (by decide) wmf_X12_7 rfl rfl rfl rfl (Nat.le_of_ble_eq_true rfl) dX12_init_8 11 rfl [.int 0, .ref (sz + 0), .int 0, .int 0, .int 0, .int 0, .int 0, .int 0, .null, .null, .int 0, .null, .null, .null, .null, .int 0, .null, .null, .null, .null, .null, .null, .null, .null, .null, .null, .int 0, .null, .null, .null, .null, .null, .null, .int 0, .null, .null, .null, .null, .null, .null, .null, .null, .int 0, .int 0, .int 0, .null, .null, .null, .null, .int 0, .int 0, .int 0, .int 0, .int 0, .null, .null, .null, .null, .null, .null, .null, .null, .int 0, .null, .null, .null, .null, .null, .null, .int 0, .int 0, .int 0, .null, .null] rfl ?_
  refine k_aload_n C dX12_init_11 12 rfl 0 rfl ?_
  refine k_iconst C dX12_init_12 13 rfl (-1) rfl ?_
  refine k_put C inX12 tyX12_ok nmX12 rfl 5 (by decide) wmf_X12_13 rfl rfl rfl (Nat.le_of_ble_eq_true rfl) dX12_init_13 16 rfl [.int 0, .ref (sz + 0), .int 0, .int 0, .int 0, .int (-1), .int 0, .int 0, .null, .null, .int 0, .null, .null, .null, .null, .int 0, .null, .null, .null, .null, .null, .null, .null, .null, .null, .null, .int 0, .null, .null, .null, .null, .null, .null, .int 0, .null, .null, .null, .null, .null, .null, .null, .null, .int 0, .int 0, .int 0, .null, .null, .null, .null, .int 0, .int 0, .int 0, .int 0, .int 0, .null, .null, .null, .null, .null, .null, .null, .null, .int 0, .null, .null, .null, .null, .null, .null, .int 0, .int 0, .int 0, .null, .null] rfl ?_
  refine k_aload_n C dX12_init_16 17 rfl 0 rfl ?_
  refine k_sipush C dX12_init_17 20 rfl 400 rfl ?_
  refine k_newa (atype := .int) (a0 := (400, .inl (fun _ => 0))) C 0 rfl (fun h => h) wma_int 400 (fun _ => rfl) (by decide) (by decide) (Nat.le_of_ble_eq_true rfl) ⟨by decide, by decide⟩ dX12_init_20 22 rfl (sz + 1) (congrArg (fun n => sz + n) lenM1) ?_
  refine XK_go (es1 := esM2 ca sz) (cs1 := 2) (sl1 := 402) rfl rfl rfl ?_
  refine k_putF C inX12 tyX12_ok nmX12 rfl 8 (by decide) wmf_X12_17 rfl rfl rfl rfl (Nat.le_of_ble_eq_true rfl) dX12_init_22 25 rfl [.int 0, .ref (sz + 0), .int 0, .int 0, .int 0, .int (-1), .int 0, .int 0, .ref (sz + 1), .null, .int 0, .null, .null, .null, .null, .int 0, .null, .null, .null, .null, .null, .null, .null, .null, .null, .null, .int 0, .null, .null, .null, .null, .null, .null, .int 0, .null, .null, .null, .null, .null, .null, .null, .null, .int 0, .int 0, .int 0, .null, .null, .null, .null, .int 0, .int 0, .int 0, .int 0, .int 0, .null, .null, .null, .null, .null, .null, .null, .null, .int 0, .null, .null, .null, .null, .null, .null, .int 0, .int 0, .int 0, .null, .null] rfl ?_
  refine k_aload_n C dX12_init_25 26 rfl 0 rfl ?_
  refine k_bipush C dX12_init_26 28 rfl 7 rfl ?_
  refine k_newa (atype := .int) (a0 := (7, .inl (fun _ => 0))) C 0 rfl (fun h => h) wma_int 7 (fun _ => rfl) (by decide) (by decide) (Nat.le_of_ble_eq_true rfl) ⟨by decide, by decide⟩ dX12_init_28 30 rfl (sz + 2) (congrArg (fun n => sz + n) lenM2) ?_
  refine XK_go (es1 := esM2 ca sz ++ [.inl (ca 0, 7, .inl (fun _ => 0))]) (cs1 := 3) (sl1 := 409) rfl rfl rfl ?_
  refine k_dup C dX12_init_30 31 rfl rfl ?_
  refine k_iconst C dX12_init_31 32 rfl 0 rfl ?_
  refine k_bipush C dX12_init_32 34 rfl 20 rfl ?_
  refine k_iast C 2 (sz + 2) rfl rfl 0 rfl (by decide) dX12_init_34 35 rfl (esM2 ca sz ++ [.inl (ca 0, 7, .inl fu1)]) rfl ?_
  refine k_dup C dX12_init_35 36 rfl rfl ?_
  refine k_iconst C dX12_init_36 37 rfl 1 rfl ?_
  refine k_iconst C dX12_init_37 38 rfl 2 rfl ?_
  refine k_iast C 2 (sz + 2) rfl rfl 0 rfl (by decide) dX12_init_38 39 rfl (esM2 ca sz ++ [.inl (ca 0, 7, .inl fu2)]) rfl ?_
  refine k_dup C dX12_init_39 40 rfl rfl ?_
  refine k_iconst C dX12_init_40 41 rfl 2 rfl ?_
  refine k_iconst C dX12_init_41 42 rfl 4 rfl ?_
  refine k_iast C 2 (sz + 2) rfl rfl 0 rfl (by decide) dX12_init_42 43 rfl (esM2 ca sz ++ [.inl (ca 0, 7, .inl fu3)]) rfl ?_
  refine k_dup C dX12_init_43 44 rfl rfl ?_
  refine k_iconst C dX12_init_44 45 rfl 3 rfl ?_
  refine k_iconst C dX12_init_45 46 rfl 3 rfl ?_
  refine k_iast C 2 (sz + 2) rfl rfl 0 rfl (by decide) dX12_init_46 47 rfl (esM2 ca sz ++ [.inl (ca 0, 7, .inl fu4)]) rfl ?_
  refine k_dup C dX12_init_47 48 rfl rfl ?_
  refine k_iconst C dX12_init_48 49 rfl 4 rfl ?_
  refine k_iconst C dX12_init_49 50 rfl 1 rfl ?_
  refine k_iast C 2 (sz + 2) rfl rfl 0 rfl (by decide) dX12_init_50 51 rfl (esM2 ca sz ++ [.inl (ca 0, 7, .inl fu5)]) rfl ?_
  refine k_dup C dX12_init_51 52 rfl rfl ?_
  refine k_iconst C dX12_init_52 53 rfl 5 rfl ?_
  refine k_bipush C dX12_init_53 55 rfl 8 rfl ?_
  refine k_iast C 2 (sz + 2) rfl rfl 0 rfl (by decide) dX12_init_55 56 rfl (esM2 ca sz ++ [.inl (ca 0, 7, .inl fu6)]) rfl ?_
  refine k_dup C dX12_init_56 57 rfl rfl ?_
  refine k_bipush C dX12_init_57 59 rfl 6 rfl ?_
  refine k_iconst C dX12_init_59 60 rfl 0 rfl ?_
  refine k_iast C 2 (sz + 2) rfl rfl 0 rfl (by decide) dX12_init_60 61 rfl (esM2 ca sz ++ [.inl (ca 0, 7, .inl fu7)]) rfl ?_
  refine XK_go (es1 := esM3 ca sz) (cs1 := 3) (sl1 := 409) (by rw [fu7_fc]; rfl) rfl rfl ?_
  refine k_putF C inX12 tyX12_ok nmX12 rfl 9 (by decide) wmf_X12_20 rfl rfl rfl rfl (Nat.le_of_ble_eq_true rfl) dX12_init_61 64 rfl [.int 0, .ref (sz + 0), .int 0, .int 0, .int 0, .int (-1), .int 0, .int 0, .ref (sz + 1), .ref (sz + 2), .int 0, .null, .null, .null, .null, .int 0, .null, .null, .null, .null, .null, .null, .null, .null, .null, .null, .int 0, .null, .null, .null, .null, .null, .null, .int 0, .null, .null, .null, .null, .null, .null, .null, .null, .int 0, .int 0, .int 0, .null, .null, .null, .null, .int 0, .int 0, .int 0, .int 0, .int 0, .null, .null, .null, .null, .null, .null, .null, .null, .int 0, .null, .null, .null, .null, .null, .null, .int 0, .int 0, .int 0, .null, .null] rfl ?_
  refine k_aload_n C dX12_init_64 65 rfl 0 rfl ?_
  refine k_bipush C dX12_init_65 67 rfl 61 rfl ?_
  refine k_bipush C dX12_init_67 69 rfl 12 rfl ?_
  refine k_multi2 (V := mV2 ca) (K := 62) (S := 793) (b := blkN (ca 2) 61 1 (blk1 (ca 0) 12)) C wmd_X12_23 (C.2.2.2.2.2.1.2 2 _ rfl).2 (fun vm hvm => (xMA.alike hvm hMA).2.2) (fun h1 h2 => (mkS h1 h2 (mk1 h1 h2 rfl (by decide) ⟨by decide, by decide⟩) (by decide) rfl (by decide) (by decide) rfl ⟨by decide, by decide⟩)) (blkN_ok blk1_ok (by decide)) (by decide) ⟨by decide, by decide⟩ dX12_init_69 73 rfl (sz + 3) (congrArg (fun n => sz + n) lenM3) ?_
  refine XK_go (es1 := esM4 ca sz) (cs1 := 65) (sl1 := 1202) rfl rfl rfl ?_
  refine k_putF C inX12 tyX12_ok nmX12 rfl 11 (by decide) wmf_X12_25 rfl rfl rfl rfl (Nat.le_of_ble_eq_true rfl) dX12_init_73 76 rfl [.int 0, .ref (sz + 0), .int 0, .int 0, .int 0, .int (-1), .int 0, .int 0, .ref (sz + 1), .ref (sz + 2), .int 0, .ref (sz + 3), .null, .null, .null, .int 0, .null, .null, .null, .null, .null, .null, .null, .null, .null, .null, .int 0, .null, .null, .null, .null, .null, .null, .int 0, .null, .null, .null, .null, .null, .null, .null, .null, .int 0, .int 0, .int 0, .null, .null, .null, .null, .int 0, .int 0, .int 0, .int 0, .int 0, .null, .null, .null, .null, .null, .null, .null, .null, .int 0, .null, .null, .null, .null, .null, .null, .int 0, .int 0, .int 0, .null, .null] rfl ?_
  refine k_aload_n C dX12_init_76 77 rfl 0 rfl ?_
  refine k_bipush C dX12_init_77 79 rfl 61 rfl ?_
  refine k_newa (atype := .int) (a0 := (61, .inl (fun _ => 0))) C 0 rfl (fun h => h) wma_int 61 (fun _ => rfl) (by decide) (by decide) (Nat.le_of_ble_eq_true rfl) ⟨by decide, by decide⟩ dX12_init_79 81 rfl (sz + 65) (congrArg (fun n => sz + n) lenM4) ?_
  refine XK_go (es1 := esM5 ca sz) (cs1 := 66) (sl1 := 1263) rfl rfl rfl ?_
  refine k_putF C inX12 tyX12_ok nmX12 rfl 12 (by decide) wmf_X12_28 rfl rfl rfl rfl (Nat.le_of_ble_eq_true rfl) dX12_init_81 84 rfl [.int 0, .ref (sz + 0), .int 0, .int 0, .int 0, .int (-1), .int 0, .int 0, .ref (sz + 1), .ref (sz + 2), .int 0, .ref (sz + 3), .ref (sz + 65), .null, .null, .int 0, .null, .null, .null, .null, .null, .null, .null, .null, .null, .null, .int 0, .null, .null, .null, .null, .null, .null, .int 0, .null, .null, .null, .null, .null, .null, .null, .null, .int 0, .int 0, .int 0, .null, .null, .null, .null, .int 0, .int 0, .int 0, .int 0, .int 0, .null, .null, .null, .null, .null, .null, .null, .null, .int 0, .null, .null, .null, .null, .null, .null, .int 0, .int 0, .int 0, .null, .null] rfl ?_
  refine k_aload_n C dX12_init_84 85 rfl 0 rfl ?_
  refine k_bipush C dX12_init_85 87 rfl 61 rfl ?_
  refine k_newa (atype := .int) (a0 := (61, .inl (fun _ => 0))) C 0 rfl (fun h => h) wma_int 61 (fun _ => rfl) (by decide) (by decide) (Nat.le_of_ble_eq_true rfl) ⟨by decide, by decide⟩ dX12_init_87 89 rfl (sz + 66) (congrArg (fun n => sz + n) lenM5) ?_
  refine XK_go (es1 := esM6 ca sz) (cs1 := 67) (sl1 := 1324) rfl rfl rfl ?_
  refine k_putF C inX12 tyX12_ok nmX12 rfl 13 (by decide) wmf_X12_31 rfl rfl rfl rfl (Nat.le_of_ble_eq_true rfl) dX12_init_89 92 rfl [.int 0, .ref (sz + 0), .int 0, .int 0, .int 0, .int (-1), .int 0, .int 0, .ref (sz + 1), .ref (sz + 2), .int 0, .ref (sz + 3), .ref (sz + 65), .ref (sz + 66), .null, .int 0, .null, .null, .null, .null, .null, .null, .null, .null, .null, .null, .int 0, .null, .null, .null, .null, .null, .null, .int 0, .null, .null, .null, .null, .null, .null, .null, .null, .int 0, .int 0, .int 0, .null, .null, .null, .null, .int 0, .int 0, .int 0, .int 0, .int 0, .null, .null, .null, .null, .null, .null, .null, .null, .int 0, .null, .null, .null, .null, .null, .null, .int 0, .int 0, .int 0, .null, .null] rfl ?_
  refine k_aload_n C dX12_init_92 93 rfl 0 rfl ?_
  refine k_bipush C dX12_init_93 95 rfl 61 rfl ?_
  refine k_newa (atype := .int) (a0 := (61, .inl (fun _ => 0))) C 0 rfl (fun h => h) wma_int 61 (fun _ => rfl) (by decide) (by decide) (Nat.le_of_ble_eq_true rfl) ⟨by decide, by decide⟩ dX12_init_95 97 rfl (sz + 67) (congrArg (fun n => sz + n) lenM6) ?_
  refine XK_go (es1 := esM7 ca sz) (cs1 := 68) (sl1 := 1385) rfl rfl rfl ?_
  refine k_putF C inX12 tyX12_ok nmX12 rfl 14 (by decide) wmf_X12_34 rfl rfl rfl rfl (Nat.le_of_ble_eq_true rfl) dX12_init_97 100 rfl [.int 0, .ref (sz + 0), .int 0, .int 0, .int 0, .int (-1), .int 0, .int 0, .ref (sz + 1), .ref (sz + 2), .int 0, .ref (sz + 3), .ref (sz + 65), .ref (sz + 66), .ref (sz + 67), .int 0, .null, .null, .null, .null, .null, .null, .null, .null, .null, .null, .int 0, .null, .null, .null, .null, .null, .null, .int 0, .null, .null, .null, .null, .null, .null, .null, .null, .int 0, .int 0, .int 0, .null, .null, .null, .null, .int 0, .int 0, .int 0, .int 0, .int 0, .null, .null, .null, .null, .null, .null, .null, .null, .int 0, .null, .null, .null, .null, .null, .null, .int 0, .int 0, .int 0, .null, .null] rfl ?_
  refine k_aload_n C dX12_init_100 101 rfl 0 rfl ?_
  refine k_iconst C dX12_init_101 102 rfl 1 rfl ?_
  refine k_put C inX12 tyX12_ok nmX12 rfl 15 (by decide) wmf_X12_37 rfl rfl rfl (Nat.le_of_ble_eq_true rfl) dX12_init_102 105 rfl [.int 0, .ref (sz + 0), .int 0, .int 0, .int 0, .int (-1), .int 0, .int 0, .ref (sz + 1), .ref (sz + 2), .int 0, .ref (sz + 3), .ref (sz + 65), .ref (sz + 66), .ref (sz + 67), .int 1, .null, .null, .null, .null, .null, .null, .null, .null, .null, .null, .int 0, .null, .null, .null, .null, .null, .null, .int 0, .null, .null, .null, .null, .null, .null, .null, .null, .int 0, .int 0, .int 0, .null, .null, .null, .null, .int 0, .int 0, .int 0, .int 0, .int 0, .null, .null, .null, .null, .null, .null, .null, .null, .int 0, .null, .null, .null, .null, .null, .null, .int 0, .int 0, .int 0, .null, .null] rfl ?_
  refine k_aload_n C dX12_init_105 106 rfl 0 rfl ?_
  refine k_sipush C dX12_init_106 109 rfl 721 rfl ?_
  refine k_newa (atype := .int) (a0 := (721, .inl (fun _ => 0))) C 0 rfl (fun h => h) wma_int 721 (fun _ => rfl) (by decide) (by decide) (Nat.le_of_ble_eq_true rfl) ⟨by decide, by decide⟩ dX12_init_109 111 rfl (sz + 68) (congrArg (fun n => sz + n) lenM7) ?_
  refine XK_go (es1 := esM8 ca sz) (cs1 := 69) (sl1 := 2106) rfl rfl rfl ?_
  refine k_putF C inX12 tyX12_ok nmX12 rfl 16 (by decide) wmf_X12_40 rfl rfl rfl rfl (Nat.le_of_ble_eq_true rfl) dX12_init_111 114 rfl [.int 0, .ref (sz + 0), .int 0, .int 0, .int 0, .int (-1), .int 0, .int 0, .ref (sz + 1), .ref (sz + 2), .int 0, .ref (sz + 3), .ref (sz + 65), .ref (sz + 66), .ref (sz + 67), .int 1, .ref (sz + 68), .null, .null, .null, .null, .null, .null, .null, .null, .null, .int 0, .null, .null, .null, .null, .null, .null, .int 0, .null, .null, .null, .null, .null, .null, .null, .null, .int 0, .int 0, .int 0, .null, .null, .null, .null, .int 0, .int 0, .int 0, .int 0, .int 0, .null, .null, .null, .null, .null, .null, .null, .null, .int 0, .null, .null, .null, .null, .null, .null, .int 0, .int 0, .int 0, .null, .null] rfl ?_
  refine k_aload_n C dX12_init_114 115 rfl 0 rfl ?_
  refine k_sipush C dX12_init_115 118 rfl 721 rfl ?_
  refine k_newa (atype := .int) (a0 := (721, .inl (fun _ => 0))) C 0 rfl (fun h => h) wma_int 721 (fun _ => rfl) (by decide) (by decide) (Nat.le_of_ble_eq_true rfl) ⟨by decide, by decide⟩ dX12_init_118 120 rfl (sz + 69) (congrArg (fun n => sz + n) lenM8) ?_
  refine XK_go (es1 := esM9 ca sz) (cs1 := 70) (sl1 := 2827) rfl rfl rfl ?_
  refine k_putF C inX12 tyX12_ok nmX12 rfl 17 (by decide) wmf_X12_43 rfl rfl rfl rfl (Nat.le_of_ble_eq_true rfl) dX12_init_120 123 rfl [.int 0, .ref (sz + 0), .int 0, .int 0, .int 0, .int (-1), .int 0, .int 0, .ref (sz + 1), .ref (sz + 2), .int 0, .ref (sz + 3), .ref (sz + 65), .ref (sz + 66), .ref (sz + 67), .int 1, .ref (sz + 68), .ref (sz + 69), .null, .null, .null, .null, .null, .null, .null, .null, .int 0, .null, .null, .null, .null, .null, .null, .int 0, .null, .null, .null, .null, .null, .null, .null, .null, .int 0, .int 0, .int 0, .null, .null, .null, .null, .int 0, .int 0, .int 0, .int 0, .int 0, .null, .null, .null, .null, .null, .null, .null, .null, .int 0, .null, .null, .null, .null, .null, .null, .int 0, .int 0, .int 0, .null, .null] rfl ?_
  refine k_aload_n C dX12_init_123 124 rfl 0 rfl ?_
  refine k_sipush C dX12_init_124 127 rfl 721 rfl ?_
  refine k_newa (atype := .int) (a0 := (721, .inl (fun _ => 0))) C 0 rfl (fun h => h) wma_int 721 (fun _ => rfl) (by decide) (by decide) (Nat.le_of_ble_eq_true rfl) ⟨by decide, by decide⟩ dX12_init_127 129 rfl (sz + 70) (congrArg (fun n => sz + n) lenM9) ?_
  refine XK_go (es1 := esM10 ca sz) (cs1 := 71) (sl1 := 3548) rfl rfl rfl ?_
  refine k_putF C inX12 tyX12_ok nmX12 rfl 18 (by decide) wmf_X12_46 rfl rfl rfl rfl (Nat.le_of_ble_eq_true rfl) dX12_init_129 132 rfl [.int 0, .ref (sz + 0), .int 0, .int 0, .int 0, .int (-1), .int 0, .int 0, .ref (sz + 1), .ref (sz + 2), .int 0, .ref (sz + 3), .ref (sz + 65), .ref (sz + 66), .ref (sz + 67), .int 1, .ref (sz + 68), .ref (sz + 69), .ref (sz + 70), .null, .null, .null, .null, .null, .null, .null, .int 0, .null, .null, .null, .null, .null, .null, .int 0, .null, .null, .null, .null, .null, .null, .null, .null, .int 0, .int 0, .int 0, .null, .null, .null, .null, .int 0, .int 0, .int 0, .int 0, .int 0, .null, .null, .null, .null, .null, .null, .null, .null, .int 0, .null, .null, .null, .null, .null, .null, .int 0, .int 0, .int 0, .null, .null] rfl ?_
  refine k_aload_n C dX12_init_132 133 rfl 0 rfl ?_
  refine k_sipush C dX12_init_133 136 rfl 721 rfl ?_
  refine k_newa (atype := .int) (a0 := (721, .inl (fun _ => 0))) C 0 rfl (fun h => h) wma_int 721 (fun _ => rfl) (by decide) (by decide) (Nat.le_of_ble_eq_true rfl) ⟨by decide, by decide⟩ dX12_init_136 138 rfl (sz + 71) (congrArg (fun n => sz + n) lenM10) ?_
  refine XK_go (es1 := esM11 ca sz) (cs1 := 72) (sl1 := 4269) rfl rfl rfl ?_
  refine k_putF C inX12 tyX12_ok nmX12 rfl 19 (by decide) wmf_X12_49 rfl rfl rfl rfl (Nat.le_of_ble_eq_true rfl) dX12_init_138 141 rfl [.int 0, .ref (sz + 0), .int 0, .int 0, .int 0, .int (-1), .int 0, .int 0, .ref (sz + 1), .ref (sz + 2), .int 0, .ref (sz + 3), .ref (sz + 65), .ref (sz + 66), .ref (sz + 67), .int 1, .ref (sz + 68), .ref (sz + 69), .ref (sz + 70), .ref (sz + 71), .null, .null, .null, .null, .null, .null, .int 0, .null, .null, .null, .null, .null, .null, .int 0, .null, .null, .null, .null, .null, .null, .null, .null, .int 0, .int 0, .int 0, .null, .null, .null, .null, .int 0, .int 0, .int 0, .int 0, .int 0, .null, .null, .null, .null, .null, .null, .null, .null, .int 0, .null, .null, .null, .null, .null, .null, .int 0, .int 0, .int 0, .null, .null] rfl ?_
  refine k_aload_n C dX12_init_141 142 rfl 0 rfl ?_
  refine k_sipush C dX12_init_142 145 rfl 721 rfl ?_
  refine k_newa (atype := .int) (a0 := (721, .inl (fun _ => 0))) C 0 rfl (fun h => h) wma_int 721 (fun _ => rfl) (by decide) (by decide) (Nat.le_of_ble_eq_true rfl) ⟨by decide, by decide⟩ dX12_init_145 147 rfl (sz + 72) (congrArg (fun n => sz + n) lenM11) ?_
  refine XK_go (es1 := esM12 ca sz) (cs1 := 73) (sl1 := 4990) rfl rfl rfl ?_
  refine k_putF C inX12 tyX12_ok nmX12 rfl 20 (by decide) wmf_X12_52 rfl rfl rfl rfl (Nat.le_of_ble_eq_true rfl) dX12_init_147 150 rfl [.int 0, .ref (sz + 0), .int 0, .int 0, .int 0, .int (-1), .int 0, .int 0, .ref (sz + 1), .ref (sz + 2), .int 0, .ref (sz + 3), .ref (sz + 65), .ref (sz + 66), .ref (sz + 67), .int 1, .ref (sz + 68), .ref (sz + 69), .ref (sz + 70), .ref (sz + 71), .ref (sz + 72), .null, .null, .null, .null, .null, .int 0, .null, .null, .null, .null, .null, .null, .int 0, .null, .null, .null, .null, .null, .null, .null, .null, .int 0, .int 0, .int 0, .null, .null, .null, .null, .int 0, .int 0, .int 0, .int 0, .int 0, .null, .null, .null, .null, .null, .null, .null, .null, .int 0, .null, .null, .null, .null, .null, .null, .int 0, .int 0, .int 0, .null, .null] rfl ?_
  refine k_aload_n C dX12_init_150 151 rfl 0 rfl ?_
  refine k_iconst C dX12_init_151 152 rfl 2 rfl ?_
  refine k_newa (atype := .int) (a0 := (2, .inl (fun _ => 0))) C 0 rfl (fun h => h) wma_int 2 (fun _ => rfl) (by decide) (by decide) (Nat.le_of_ble_eq_true rfl) ⟨by decide, by decide⟩ dX12_init_152 154 rfl (sz + 73) (congrArg (fun n => sz + n) lenM12) ?_
  refine XK_go (es1 := esM13 ca sz) (cs1 := 74) (sl1 := 4992) rfl rfl rfl ?_
  refine k_putF C inX12 tyX12_ok nmX12 rfl 21 (by decide) wmf_X12_55 rfl rfl rfl rfl (Nat.le_of_ble_eq_true rfl) dX12_init_154 157 rfl [.int 0, .ref (sz + 0), .int 0, .int 0, .int 0, .int (-1), .int 0, .int 0, .ref (sz + 1), .ref (sz + 2), .int 0, .ref (sz + 3), .ref (sz + 65), .ref (sz + 66), .ref (sz + 67), .int 1, .ref (sz + 68), .ref (sz + 69), .ref (sz + 70), .ref (sz + 71), .ref (sz + 72), .ref (sz + 73), .null, .null, .null, .null, .int 0, .null, .null, .null, .null, .null, .null, .int 0, .null, .null, .null, .null, .null, .null, .null, .null, .int 0, .int 0, .int 0, .null, .null, .null, .null, .int 0, .int 0, .int 0, .int 0, .int 0, .null, .null, .null, .null, .null, .null, .null, .null, .int 0, .null, .null, .null, .null, .null, .null, .int 0, .int 0, .int 0, .null, .null] rfl ?_
  refine k_aload_n C dX12_init_157 158 rfl 0 rfl ?_
  refine k_iconst C dX12_init_158 159 rfl 2 rfl ?_
  refine k_bipush C dX12_init_159 161 rfl 20 rfl ?_
  refine k_bipush C dX12_init_161 163 rfl 6 rfl ?_
  refine k_multi3 (V := mV3 ca) (K := 43) (S := 282) (b := blkN (ca 3) 2 21 (blkN (ca 2) 20 1 (blk1 (ca 0) 6))) C wmd_X12_58 (C.2.2.2.2.2.1.2 3 _ rfl).2 (fun vm hvm => (xMA.alike hvm hMA).2) (fun h1 h2 => (mkS h1 h2 (mkS h1 h2 (mk1 h1 h2 rfl (by decide) ⟨by decide, by decide⟩) (by decide) rfl (by decide) (by decide) rfl ⟨by decide, by decide⟩) (by decide) rfl (by decide) (by decide) rfl ⟨by decide, by decide⟩)) (blkN_ok (blkN_ok blk1_ok (by decide)) (by decide)) (by decide) ⟨by decide, by decide⟩ dX12_init_163 167 rfl (sz + 74) (congrArg (fun n => sz + n) lenM13) ?_
  refine XK_go (es1 := esM14 ca sz) (cs1 := 117) (sl1 := 5274) rfl rfl rfl ?_
  refine k_putF C inX12 tyX12_ok nmX12 rfl 22 (by decide) wmf_X12_60 rfl rfl rfl rfl (Nat.le_of_ble_eq_true rfl) dX12_init_167 170 rfl [.int 0, .ref (sz + 0), .int 0, .int 0, .int 0, .int (-1), .int 0, .int 0, .ref (sz + 1), .ref (sz + 2), .int 0, .ref (sz + 3), .ref (sz + 65), .ref (sz + 66), .ref (sz + 67), .int 1, .ref (sz + 68), .ref (sz + 69), .ref (sz + 70), .ref (sz + 71), .ref (sz + 72), .ref (sz + 73), .ref (sz + 74), .null, .null, .null, .int 0, .null, .null, .null, .null, .null, .null, .int 0, .null, .null, .null, .null, .null, .null, .null, .null, .int 0, .int 0, .int 0, .null, .null, .null, .null, .int 0, .int 0, .int 0, .int 0, .int 0, .null, .null, .null, .null, .null, .null, .null, .null, .int 0, .null, .null, .null, .null, .null, .null, .int 0, .int 0, .int 0, .null, .null] rfl ?_
  refine k_aload_n C dX12_init_170 171 rfl 0 rfl ?_
  refine k_iconst C dX12_init_171 172 rfl 2 rfl ?_
  refine k_bipush C dX12_init_172 174 rfl 20 rfl ?_
  refine k_iconst C dX12_init_174 175 rfl 3 rfl ?_
  refine k_multi3 (V := mV3 ca) (K := 43) (S := 162) (b := blkN (ca 3) 2 21 (blkN (ca 2) 20 1 (blk1 (ca 0) 3))) C wmd_X12_58 (C.2.2.2.2.2.1.2 3 _ rfl).2 (fun vm hvm => (xMA.alike hvm hMA).2) (fun h1 h2 => (mkS h1 h2 (mkS h1 h2 (mk1 h1 h2 rfl (by decide) ⟨by decide, by decide⟩) (by decide) rfl (by decide) (by decide) rfl ⟨by decide, by decide⟩) (by decide) rfl (by decide) (by decide) rfl ⟨by decide, by decide⟩)) (blkN_ok (blkN_ok blk1_ok (by decide)) (by decide)) (by decide) ⟨by decide, by decide⟩ dX12_init_175 179 rfl (sz + 117) (congrArg (fun n => sz + n) lenM14) ?_
  refine XK_go (es1 := esM15 ca sz) (cs1 := 160) (sl1 := 5436) rfl rfl rfl ?_
  refine k_putF C inX12 tyX12_ok nmX12 rfl 23 (by decide) wmf_X12_63 rfl rfl rfl rfl (Nat.le_of_ble_eq_true rfl) dX12_init_179 182 rfl [.int 0, .ref (sz + 0), .int 0, .int 0, .int 0, .int (-1), .int 0, .int 0, .ref (sz + 1), .ref (sz + 2), .int 0, .ref (sz + 3), .ref (sz + 65), .ref (sz + 66), .ref (sz + 67), .int 1, .ref (sz + 68), .ref (sz + 69), .ref (sz + 70), .ref (sz + 71), .ref (sz + 72), .ref (sz + 73), .ref (sz + 74), .ref (sz + 117), .null, .null, .int 0, .null, .null, .null, .null, .null, .null, .int 0, .null, .null, .null, .null, .null, .null, .null, .null, .int 0, .int 0, .int 0, .null, .null, .null, .null, .int 0, .int 0, .int 0, .int 0, .int 0, .null, .null, .null, .null, .null, .null, .null, .null, .int 0, .null, .null, .null, .null, .null, .null, .int 0, .int 0, .int 0, .null, .null] rfl ?_
  refine k_aload_n C dX12_init_182 183 rfl 0 rfl ?_
  refine k_iconst C dX12_init_183 184 rfl 2 rfl ?_
  refine k_newa (atype := .int) (a0 := (2, .inl (fun _ => 0))) C 0 rfl (fun h => h) wma_int 2 (fun _ => rfl) (by decide) (by decide) (Nat.le_of_ble_eq_true rfl) ⟨by decide, by decide⟩ dX12_init_184 186 rfl (sz + 160) (congrArg (fun n => sz + n) lenM15) ?_
  refine XK_go (es1 := esM16 ca sz) (cs1 := 161) (sl1 := 5438) rfl rfl rfl ?_
  refine k_putF C inX12 tyX12_ok nmX12 rfl 24 (by decide) wmf_X12_66 rfl rfl rfl rfl (Nat.le_of_ble_eq_true rfl) dX12_init_186 189 rfl [.int 0, .ref (sz + 0), .int 0, .int 0, .int 0, .int (-1), .int 0, .int 0, .ref (sz + 1), .ref (sz + 2), .int 0, .ref (sz + 3), .ref (sz + 65), .ref (sz + 66), .ref (sz + 67), .int 1, .ref (sz + 68), .ref (sz + 69), .ref (sz + 70), .ref (sz + 71), .ref (sz + 72), .ref (sz + 73), .ref (sz + 74), .ref (sz + 117), .ref (sz + 160), .null, .int 0, .null, .null, .null, .null, .null, .null, .int 0, .null, .null, .null, .null, .null, .null, .null, .null, .int 0, .int 0, .int 0, .null, .null, .null, .null, .int 0, .int 0, .int 0, .int 0, .int 0, .null, .null, .null, .null, .null, .null, .null, .null, .int 0, .null, .null, .null, .null, .null, .null, .int 0, .int 0, .int 0, .null, .null] rfl ?_
  refine k_aload_n C dX12_init_189 190 rfl 0 rfl ?_
  refine k_iconst C dX12_init_190 191 rfl 2 rfl ?_
  refine k_newa (atype := .int) (a0 := (2, .inl (fun _ => 0))) C 0 rfl (fun h => h) wma_int 2 (fun _ => rfl) (by decide) (by decide) (Nat.le_of_ble_eq_true rfl) ⟨by decide, by decide⟩ dX12_init_191 193 rfl (sz + 161) (congrArg (fun n => sz + n) lenM16) ?_
  refine XK_go (es1 := esM17 ca sz) (cs1 := 162) (sl1 := 5440) rfl rfl rfl ?_
  refine k_putF C inX12 tyX12_ok nmX12 rfl 25 (by decide) wmf_X12_69 rfl rfl rfl rfl (Nat.le_of_ble_eq_true rfl) dX12_init_193 196 rfl [.int 0, .ref (sz + 0), .int 0, .int 0, .int 0, .int (-1), .int 0, .int 0, .ref (sz + 1), .ref (sz + 2), .int 0, .ref (sz + 3), .ref (sz + 65), .ref (sz + 66), .ref (sz + 67), .int 1, .ref (sz + 68), .ref (sz + 69), .ref (sz + 70), .ref (sz + 71), .ref (sz + 72), .ref (sz + 73), .ref (sz + 74), .ref (sz + 117), .ref (sz + 160), .ref (sz + 161), .int 0, .null, .null, .null, .null, .null, .null, .int 0, .null, .null, .null, .null, .null, .null, .null, .null, .int 0, .int 0, .int 0, .null, .null, .null, .null, .int 0, .int 0, .int 0, .int 0, .int 0, .null, .null, .null, .null, .null, .null, .null, .null, .int 0, .null, .null, .null, .null, .null, .null, .int 0, .int 0, .int 0, .null, .null] rfl ?_
  refine k_aload_n C dX12_init_196 197 rfl 0 rfl ?_
  refine k_iconst C dX12_init_197 198 rfl 2 rfl ?_
  refine k_bipush C dX12_init_198 200 rfl 40 rfl ?_
  refine k_multi2 (V := mV2 ca) (K := 3) (S := 82) (b := blkN (ca 2) 2 1 (blk1 (ca 0) 40)) C wmd_X12_23 (C.2.2.2.2.2.1.2 2 _ rfl).2 (fun vm hvm => (xMA.alike hvm hMA).2.2) (fun h1 h2 => (mkS h1 h2 (mk1 h1 h2 rfl (by decide) ⟨by decide, by decide⟩) (by decide) rfl (by decide) (by decide) rfl ⟨by decide, by decide⟩)) (blkN_ok blk1_ok (by decide)) (by decide) ⟨by decide, by decide⟩ dX12_init_200 204 rfl (sz + 162) (congrArg (fun n => sz + n) lenM17) ?_
  refine XK_go (es1 := esM18 ca sz) (cs1 := 165) (sl1 := 5522) rfl rfl rfl ?_
  refine k_putF C inX12 tyX12_ok nmX12 rfl 27 (by decide) wmf_X12_72 rfl rfl rfl rfl (Nat.le_of_ble_eq_true rfl) dX12_init_204 207 rfl [.int 0, .ref (sz + 0), .int 0, .int 0, .int 0, .int (-1), .int 0, .int 0, .ref (sz + 1), .ref (sz + 2), .int 0, .ref (sz + 3), .ref (sz + 65), .ref (sz + 66), .ref (sz + 67), .int 1, .ref (sz + 68), .ref (sz + 69), .ref (sz + 70), .ref (sz + 71), .ref (sz + 72), .ref (sz + 73), .ref (sz + 74), .ref (sz + 117), .ref (sz + 160), .ref (sz + 161), .int 0, .ref (sz + 162), .null, .null, .null, .null, .null, .int 0, .null, .null, .null, .null, .null, .null, .null, .null, .int 0, .int 0, .int 0, .null, .null, .null, .null, .int 0, .int 0, .int 0, .int 0, .int 0, .null, .null, .null, .null, .null, .null, .null, .null, .int 0, .null, .null, .null, .null, .null, .null, .int 0, .int 0, .int 0, .null, .null] rfl ?_
  refine k_aload_n C dX12_init_207 208 rfl 0 rfl ?_
  refine k_iconst C dX12_init_208 209 rfl 2 rfl ?_
  refine k_bipush C dX12_init_209 211 rfl 40 rfl ?_
  refine k_multi2 (V := mV2 ca) (K := 3) (S := 82) (b := blkN (ca 2) 2 1 (blk1 (ca 0) 40)) C wmd_X12_23 (C.2.2.2.2.2.1.2 2 _ rfl).2 (fun vm hvm => (xMA.alike hvm hMA).2.2) (fun h1 h2 => (mkS h1 h2 (mk1 h1 h2 rfl (by decide) ⟨by decide, by decide⟩) (by decide) rfl (by decide) (by decide) rfl ⟨by decide, by decide⟩)) (blkN_ok blk1_ok (by decide)) (by decide) ⟨by decide, by decide⟩ dX12_init_211 215 rfl (sz + 165) (congrArg (fun n => sz + n) lenM18) ?_
  refine XK_go (es1 := esM19 ca sz) (cs1 := 168) (sl1 := 5604) rfl rfl rfl ?_
  refine k_putF C inX12 tyX12_ok nmX12 rfl 28 (by decide) wmf_X12_75 rfl rfl rfl rfl (Nat.le_of_ble_eq_true rfl) dX12_init_215 218 rfl [.int 0, .ref (sz + 0), .int 0, .int 0, .int 0, .int (-1), .int 0, .int 0, .ref (sz + 1), .ref (sz + 2), .int 0, .ref (sz + 3), .ref (sz + 65), .ref (sz + 66), .ref (sz + 67), .int 1, .ref (sz + 68), .ref (sz + 69), .ref (sz + 70), .ref (sz + 71), .ref (sz + 72), .ref (sz + 73), .ref (sz + 74), .ref (sz + 117), .ref (sz + 160), .ref (sz + 161), .int 0, .ref (sz + 162), .ref (sz + 165), .null, .null, .null, .null, .int 0, .null, .null, .null, .null, .null, .null, .null, .null, .int 0, .int 0, .int 0, .null, .null, .null, .null, .int 0, .int 0, .int 0, .int 0, .int 0, .null, .null, .null, .null, .null, .null, .null, .null, .int 0, .null, .null, .null, .null, .null, .null, .int 0, .int 0, .int 0, .null, .null] rfl ?_
  refine k_aload_n C dX12_init_218 219 rfl 0 rfl ?_
  refine k_iconst C dX12_init_219 220 rfl 2 rfl ?_
  refine k_bipush C dX12_init_220 222 rfl 40 rfl ?_
  refine k_multi2 (V := mV2 ca) (K := 3) (S := 82) (b := blkN (ca 2) 2 1 (blk1 (ca 0) 40)) C wmd_X12_23 (C.2.2.2.2.2.1.2 2 _ rfl).2 (fun vm hvm => (xMA.alike hvm hMA).2.2) (fun h1 h2 => (mkS h1 h2 (mk1 h1 h2 rfl (by decide) ⟨by decide, by decide⟩) (by decide) rfl (by decide) (by decide) rfl ⟨by decide, by decide⟩)) (blkN_ok blk1_ok (by decide)) (by decide) ⟨by decide, by decide⟩ dX12_init_222 226 rfl (sz + 168) (congrArg (fun n => sz + n) lenM19) ?_
  refine XK_go (es1 := esM20 ca sz) (cs1 := 171) (sl1 := 5686) rfl rfl rfl ?_
  refine k_putF C inX12 tyX12_ok nmX12 rfl 29 (by decide) wmf_X12_78 rfl rfl rfl rfl (Nat.le_of_ble_eq_true rfl) dX12_init_226 229 rfl [.int 0, .ref (sz + 0), .int 0, .int 0, .int 0, .int (-1), .int 0, .int 0, .ref (sz + 1), .ref (sz + 2), .int 0, .ref (sz + 3), .ref (sz + 65), .ref (sz + 66), .ref (sz + 67), .int 1, .ref (sz + 68), .ref (sz + 69), .ref (sz + 70), .ref (sz + 71), .ref (sz + 72), .ref (sz + 73), .ref (sz + 74), .ref (sz + 117), .ref (sz + 160), .ref (sz + 161), .int 0, .ref (sz + 162), .ref (sz + 165), .ref (sz + 168), .null, .null, .null, .int 0, .null, .null, .null, .null, .null, .null, .null, .null, .int 0, .int 0, .int 0, .null, .null, .null, .null, .int 0, .int 0, .int 0, .int 0, .int 0, .null, .null, .null, .null, .null, .null, .null, .null, .int 0, .null, .null, .null, .null, .null, .null, .int 0, .int 0, .int 0, .null, .null] rfl ?_
  refine k_aload_n C dX12_init_229 230 rfl 0 rfl ?_
  refine k_iconst C dX12_init_230 231 rfl 2 rfl ?_
  refine k_bipush C dX12_init_231 233 rfl 40 rfl ?_
  refine k_bipush C dX12_init_233 235 rfl 24 rfl ?_
  refine k_bipush C dX12_init_235 237 rfl 8 rfl ?_
  refine k_multi4 (V := xMA ca) (K := 2003) (S := 17362) (b := blkN (ca 4) 2 1001 (blkN (ca 3) 40 25 (blkN (ca 2) 24 1 (blk1 (ca 0) 8)))) C wmd_X12_81 (C.2.2.2.2.2.1.2 4 _ rfl).2 (fun vm hvm => (xMA.alike hvm hMA)) (fun h1 h2 => (mkS h1 h2 (mkS h1 h2 (mkS h1 h2 (mk1 h1 h2 rfl (by decide) ⟨by decide, by decide⟩) (by decide) rfl (by decide) (by decide) rfl ⟨by decide, by decide⟩) (by decide) rfl (by decide) (by decide) rfl ⟨by decide, by decide⟩) (by decide) rfl (by decide) (by decide) rfl ⟨by decide, by decide⟩)) (blkN_ok (blkN_ok (blkN_ok blk1_ok (by decide)) (by decide)) (by decide)) (by decide) ⟨by decide, by decide⟩ dX12_init_237 241 rfl (sz + 171) (congrArg (fun n => sz + n) lenM20) ?_
  refine XK_go (es1 := esM21 ca sz) (cs1 := 2174) (sl1 := 23048) rfl rfl rfl ?_
  refine k_putF C inX12 tyX12_ok nmX12 rfl 30 (by decide) wmf_X12_83 rfl rfl rfl rfl (Nat.le_of_ble_eq_true rfl) dX12_init_241 244 rfl [.int 0, .ref (sz + 0), .int 0, .int 0, .int 0, .int (-1), .int 0, .int 0, .ref (sz + 1), .ref (sz + 2), .int 0, .ref (sz + 3), .ref (sz + 65), .ref (sz + 66), .ref (sz + 67), .int 1, .ref (sz + 68), .ref (sz + 69), .ref (sz + 70), .ref (sz + 71), .ref (sz + 72), .ref (sz + 73), .ref (sz + 74), .ref (sz + 117), .ref (sz + 160), .ref (sz + 161), .int 0, .ref (sz + 162), .ref (sz + 165), .ref (sz + 168), .ref (sz + 171), .null, .null, .int 0, .null, .null, .null, .null, .null, .null, .null, .null, .int 0, .int 0, .int 0, .null, .null, .null, .null, .int 0, .int 0, .int 0, .int 0, .int 0, .null, .null, .null, .null, .null, .null, .null, .null, .int 0, .null, .null, .null, .null, .null, .null, .int 0, .int 0, .int 0, .null, .null] rfl ?_
  refine k_aload_n C dX12_init_244 245 rfl 0 rfl ?_
  refine k_iconst C dX12_init_245 246 rfl 2 rfl ?_
  refine k_newa (atype := .int) (a0 := (2, .inl (fun _ => 0))) C 0 rfl (fun h => h) wma_int 2 (fun _ => rfl) (by decide) (by decide) (Nat.le_of_ble_eq_true rfl) ⟨by decide, by decide⟩ dX12_init_246 248 rfl (sz + 2174) (congrArg (fun n => sz + n) lenM21) ?_
  refine XK_go (es1 := esM22 ca sz) (cs1 := 2175) (sl1 := 23050) rfl rfl rfl ?_
  refine k_putF C inX12 tyX12_ok nmX12 rfl 31 (by decide) wmf_X12_86 rfl rfl rfl rfl (Nat.le_of_ble_eq_true rfl) dX12_init_248 251 rfl [.int 0, .ref (sz + 0), .int 0, .int 0, .int 0, .int (-1), .int 0, .int 0, .ref (sz + 1), .ref (sz + 2), .int 0, .ref (sz + 3), .ref (sz + 65), .ref (sz + 66), .ref (sz + 67), .int 1, .ref (sz + 68), .ref (sz + 69), .ref (sz + 70), .ref (sz + 71), .ref (sz + 72), .ref (sz + 73), .ref (sz + 74), .ref (sz + 117), .ref (sz + 160), .ref (sz + 161), .int 0, .ref (sz + 162), .ref (sz + 165), .ref (sz + 168), .ref (sz + 171), .ref (sz + 2174), .null, .int 0, .null, .null, .null, .null, .null, .null, .null, .null, .int 0, .int 0, .int 0, .null, .null, .null, .null, .int 0, .int 0, .int 0, .int 0, .int 0, .null, .null, .null, .null, .null, .null, .null, .null, .int 0, .null, .null, .null, .null, .null, .null, .int 0, .int 0, .int 0, .null, .null] rfl ?_
  refine k_aload_n C dX12_init_251 252 rfl 0 rfl ?_
  refine k_iconst C dX12_init_252 253 rfl 2 rfl ?_
  refine k_bipush C dX12_init_253 255 rfl 60 rfl ?_
  refine k_iconst C dX12_init_255 256 rfl 3 rfl ?_
  refine k_multi3 (V := mV3 ca) (K := 123) (S := 482) (b := blkN (ca 3) 2 61 (blkN (ca 2) 60 1 (blk1 (ca 0) 3))) C wmd_X12_58 (C.2.2.2.2.2.1.2 3 _ rfl).2 (fun vm hvm => (xMA.alike hvm hMA).2) (fun h1 h2 => (mkS h1 h2 (mkS h1 h2 (mk1 h1 h2 rfl (by decide) ⟨by decide, by decide⟩) (by decide) rfl (by decide) (by decide) rfl ⟨by decide, by decide⟩) (by decide) rfl (by decide) (by decide) rfl ⟨by decide, by decide⟩)) (blkN_ok (blkN_ok blk1_ok (by decide)) (by decide)) (by decide) ⟨by decide, by decide⟩ dX12_init_256 260 rfl (sz + 2175) (congrArg (fun n => sz + n) lenM22) ?_
  refine XK_go (es1 := esM23 ca sz) (cs1 := 2298) (sl1 := 23532) rfl rfl rfl ?_
  refine k_putF C inX12 tyX12_ok nmX12 rfl 32 (by decide) wmf_X12_89 rfl rfl rfl rfl (Nat.le_of_ble_eq_true rfl) dX12_init_260 263 rfl [.int 0, .ref (sz + 0), .int 0, .int 0, .int 0, .int (-1), .int 0, .int 0, .ref (sz + 1), .ref (sz + 2), .int 0, .ref (sz + 3), .ref (sz + 65), .ref (sz + 66), .ref (sz + 67), .int 1, .ref (sz + 68), .ref (sz + 69), .ref (sz + 70), .ref (sz + 71), .ref (sz + 72), .ref (sz + 73), .ref (sz + 74), .ref (sz + 117), .ref (sz + 160), .ref (sz + 161), .int 0, .ref (sz + 162), .ref (sz + 165), .ref (sz + 168), .ref (sz + 171), .ref (sz + 2174), .ref (sz + 2175), .int 0, .null, .null, .null, .null, .null, .null, .null, .null, .int 0, .int 0, .int 0, .null, .null, .null, .null, .int 0, .int 0, .int 0, .int 0, .int 0, .null, .null, .null, .null, .null, .null, .null, .null, .int 0, .null, .null, .null, .null, .null, .null, .int 0, .int 0, .int 0, .null, .null] rfl ?_
  refine k_aload_n C dX12_init_263 264 rfl 0 rfl ?_
  refine k_bipush C dX12_init_264 266 rfl 48 rfl ?_
  refine k_bipush C dX12_init_266 268 rfl 8 rfl ?_
  refine k_multi2 (V := mV2 ca) (K := 49) (S := 432) (b := blkN (ca 2) 48 1 (blk1 (ca 0) 8)) C wmd_X12_23 (C.2.2.2.2.2.1.2 2 _ rfl).2 (fun vm hvm => (xMA.alike hvm hMA).2.2) (fun h1 h2 => (mkS h1 h2 (mk1 h1 h2 rfl (by decide) ⟨by decide, by decide⟩) (by decide) rfl (by decide) (by decide) rfl ⟨by decide, by decide⟩)) (blkN_ok blk1_ok (by decide)) (by decide) ⟨by decide, by decide⟩ dX12_init_268 272 rfl (sz + 2298) (congrArg (fun n => sz + n) lenM23) ?_
  refine XK_go (es1 := esM24 ca sz) (cs1 := 2347) (sl1 := 23964) rfl rfl rfl ?_
  refine k_putF C inX12 tyX12_ok nmX12 rfl 34 (by decide) wmf_X12_92 rfl rfl rfl rfl (Nat.le_of_ble_eq_true rfl) dX12_init_272 275 rfl [.int 0, .ref (sz + 0), .int 0, .int 0, .int 0, .int (-1), .int 0, .int 0, .ref (sz + 1), .ref (sz + 2), .int 0, .ref (sz + 3), .ref (sz + 65), .ref (sz + 66), .ref (sz + 67), .int 1, .ref (sz + 68), .ref (sz + 69), .ref (sz + 70), .ref (sz + 71), .ref (sz + 72), .ref (sz + 73), .ref (sz + 74), .ref (sz + 117), .ref (sz + 160), .ref (sz + 161), .int 0, .ref (sz + 162), .ref (sz + 165), .ref (sz + 168), .ref (sz + 171), .ref (sz + 2174), .ref (sz + 2175), .int 0, .ref (sz + 2298), .null, .null, .null, .null, .null, .null, .null, .int 0, .int 0, .int 0, .null, .null, .null, .null, .int 0, .int 0, .int 0, .int 0, .int 0, .null, .null, .null, .null, .null, .null, .null, .null, .int 0, .null, .null, .null, .null, .null, .null, .int 0, .int 0, .int 0, .null, .null] rfl ?_
  refine k_aload_n C dX12_init_275 276 rfl 0 rfl ?_
  refine k_bipush C dX12_init_276 278 rfl 49 rfl ?_
  refine k_newa (atype := .int) (a0 := (49, .inl (fun _ => 0))) C 0 rfl (fun h => h) wma_int 49 (fun _ => rfl) (by decide) (by decide) (Nat.le_of_ble_eq_true rfl) ⟨by decide, by decide⟩ dX12_init_278 280 rfl (sz + 2347) (congrArg (fun n => sz + n) lenM24) ?_
  refine XK_go (es1 := esM25 ca sz) (cs1 := 2348) (sl1 := 24013) rfl rfl rfl ?_
  refine k_putF C inX12 tyX12_ok nmX12 rfl 35 (by decide) wmf_X12_95 rfl rfl rfl rfl (Nat.le_of_ble_eq_true rfl) dX12_init_280 283 rfl [.int 0, .ref (sz + 0), .int 0, .int 0, .int 0, .int (-1), .int 0, .int 0, .ref (sz + 1), .ref (sz + 2), .int 0, .ref (sz + 3), .ref (sz + 65), .ref (sz + 66), .ref (sz + 67), .int 1, .ref (sz + 68), .ref (sz + 69), .ref (sz + 70), .ref (sz + 71), .ref (sz + 72), .ref (sz + 73), .ref (sz + 74), .ref (sz + 117), .ref (sz + 160), .ref (sz + 161), .int 0, .ref (sz + 162), .ref (sz + 165), .ref (sz + 168), .ref (sz + 171), .ref (sz + 2174), .ref (sz + 2175), .int 0, .ref (sz + 2298), .ref (sz + 2347), .null, .null, .null, .null, .null, .null, .int 0, .int 0, .int 0, .null, .null, .null, .null, .int 0, .int 0, .int 0, .int 0, .int 0, .null, .null, .null, .null, .null, .null, .null, .null, .int 0, .null, .null, .null, .null, .null, .null, .int 0, .int 0, .int 0, .null, .null] rfl ?_
  refine k_aload_n C dX12_init_283 284 rfl 0 rfl ?_
  refine k_bipush C dX12_init_284 286 rfl 49 rfl ?_
  refine k_newa (atype := .int) (a0 := (49, .inl (fun _ => 0))) C 0 rfl (fun h => h) wma_int 49 (fun _ => rfl) (by decide) (by decide) (Nat.le_of_ble_eq_true rfl) ⟨by decide, by decide⟩ dX12_init_286 288 rfl (sz + 2348) (congrArg (fun n => sz + n) lenM25) ?_
  refine XK_go (es1 := esM26 ca sz) (cs1 := 2349) (sl1 := 24062) rfl rfl rfl ?_
  refine k_putF C inX12 tyX12_ok nmX12 rfl 36 (by decide) wmf_X12_98 rfl rfl rfl rfl (Nat.le_of_ble_eq_true rfl) dX12_init_288 291 rfl [.int 0, .ref (sz + 0), .int 0, .int 0, .int 0, .int (-1), .int 0, .int 0, .ref (sz + 1), .ref (sz + 2), .int 0, .ref (sz + 3), .ref (sz + 65), .ref (sz + 66), .ref (sz + 67), .int 1, .ref (sz + 68), .ref (sz + 69), .ref (sz + 70), .ref (sz + 71), .ref (sz + 72), .ref (sz + 73), .ref (sz + 74), .ref (sz + 117), .ref (sz + 160), .ref (sz + 161), .int 0, .ref (sz + 162), .ref (sz + 165), .ref (sz + 168), .ref (sz + 171), .ref (sz + 2174), .ref (sz + 2175), .int 0, .ref (sz + 2298), .ref (sz + 2347), .ref (sz + 2348), .null, .null, .null, .null, .null, .int 0, .int 0, .int 0, .null, .null, .null, .null, .int 0, .int 0, .int 0, .int 0, .int 0, .null, .null, .null, .null, .null, .null, .null, .null, .int 0, .null, .null, .null, .null, .null, .null, .int 0, .int 0, .int 0, .null, .null] rfl ?_
  refine k_aload_n C dX12_init_291 292 rfl 0 rfl ?_
  refine k_bipush C dX12_init_292 294 rfl 48 rfl ?_
  refine k_bipush C dX12_init_294 296 rfl 60 rfl ?_
  refine k_bipush C dX12_init_296 298 rfl 7 rfl ?_
  refine k_multi3 (V := mV3 ca) (K := 2929) (S := 23088) (b := blkN (ca 3) 48 61 (blkN (ca 2) 60 1 (blk1 (ca 0) 7))) C wmd_X12_58 (C.2.2.2.2.2.1.2 3 _ rfl).2 (fun vm hvm => (xMA.alike hvm hMA).2) (fun h1 h2 => (mkS h1 h2 (mkS h1 h2 (mk1 h1 h2 rfl (by decide) ⟨by decide, by decide⟩) (by decide) rfl (by decide) (by decide) rfl ⟨by decide, by decide⟩) (by decide) rfl (by decide) (by decide) rfl ⟨by decide, by decide⟩)) (blkN_ok (blkN_ok blk1_ok (by decide)) (by decide)) (by decide) ⟨by decide, by decide⟩ dX12_init_298 302 rfl (sz + 2349) (congrArg (fun n => sz + n) lenM26) ?_
  refine XK_go (es1 := esM27 ca sz) (cs1 := 5278) (sl1 := 47150) rfl rfl rfl ?_
  refine k_putF C inX12 tyX12_ok nmX12 rfl 37 (by decide) wmf_X12_101 rfl rfl rfl rfl (Nat.le_of_ble_eq_true rfl) dX12_init_302 305 rfl [.int 0, .ref (sz + 0), .int 0, .int 0, .int 0, .int (-1), .int 0, .int 0, .ref (sz + 1), .ref (sz + 2), .int 0, .ref (sz + 3), .ref (sz + 65), .ref (sz + 66), .ref (sz + 67), .int 1, .ref (sz + 68), .ref (sz + 69), .ref (sz + 70), .ref (sz + 71), .ref (sz + 72), .ref (sz + 73), .ref (sz + 74), .ref (sz + 117), .ref (sz + 160), .ref (sz + 161), .int 0, .ref (sz + 162), .ref (sz + 165), .ref (sz + 168), .ref (sz + 171), .ref (sz + 2174), .ref (sz + 2175), .int 0, .ref (sz + 2298), .ref (sz + 2347), .ref (sz + 2348), .ref (sz + 2349), .null, .null, .null, .null, .int 0, .int 0, .int 0, .null, .null, .null, .null, .int 0, .int 0, .int 0, .int 0, .int 0, .null, .null, .null, .null, .null, .null, .null, .null, .int 0, .null, .null, .null, .null, .null, .null, .int 0, .int 0, .int 0, .null, .null] rfl ?_
  refine k_aload_n C dX12_init_305 306 rfl 0 rfl ?_
  refine k_bipush C dX12_init_306 308 rfl 49 rfl ?_
  refine k_bipush C dX12_init_308 310 rfl 13 rfl ?_
  refine k_multi2 (V := mV2 ca) (K := 50) (S := 686) (b := blkN (ca 2) 49 1 (blk1 (ca 0) 13)) C wmd_X12_23 (C.2.2.2.2.2.1.2 2 _ rfl).2 (fun vm hvm => (xMA.alike hvm hMA).2.2) (fun h1 h2 => (mkS h1 h2 (mk1 h1 h2 rfl (by decide) ⟨by decide, by decide⟩) (by decide) rfl (by decide) (by decide) rfl ⟨by decide, by decide⟩)) (blkN_ok blk1_ok (by decide)) (by decide) ⟨by decide, by decide⟩ dX12_init_310 314 rfl (sz + 5278) (congrArg (fun n => sz + n) lenM27) ?_
  refine XK_go (es1 := esM28 ca sz) (cs1 := 5328) (sl1 := 47836) rfl rfl rfl ?_
  refine k_putF C inX12 tyX12_ok nmX12 rfl 38 (by decide) wmf_X12_104 rfl rfl rfl rfl (Nat.le_of_ble_eq_true rfl) dX12_init_314 317 rfl [.int 0, .ref (sz + 0), .int 0, .int 0, .int 0, .int (-1), .int 0, .int 0, .ref (sz + 1), .ref (sz + 2), .int 0, .ref (sz + 3), .ref (sz + 65), .ref (sz + 66), .ref (sz + 67), .int 1, .ref (sz + 68), .ref (sz + 69), .ref (sz + 70), .ref (sz + 71), .ref (sz + 72), .ref (sz + 73), .ref (sz + 74), .ref (sz + 117), .ref (sz + 160), .ref (sz + 161), .int 0, .ref (sz + 162), .ref (sz + 165), .ref (sz + 168), .ref (sz + 171), .ref (sz + 2174), .ref (sz + 2175), .int 0, .ref (sz + 2298), .ref (sz + 2347), .ref (sz + 2348), .ref (sz + 2349), .ref (sz + 5278), .null, .null, .null, .int 0, .int 0, .int 0, .null, .null, .null, .null, .int 0, .int 0, .int 0, .int 0, .int 0, .null, .null, .null, .null, .null, .null, .null, .null, .int 0, .null, .null, .null, .null, .null, .null, .int 0, .int 0, .int 0, .null, .null] rfl ?_
  refine k_aload_n C dX12_init_317 318 rfl 0 rfl ?_
  refine k_sipush C dX12_init_318 321 rfl 18025 rfl ?_
  refine k_newa (atype := .int) (a0 := (18025, .inl (fun _ => 0))) C 0 rfl (fun h => h) wma_int 18025 (fun _ => rfl) (by decide) (by decide) (Nat.le_of_ble_eq_true rfl) ⟨by decide, by decide⟩ dX12_init_321 323 rfl (sz + 5328) (congrArg (fun n => sz + n) lenM28) ?_
  refine XK_go (es1 := esM29 ca sz) (cs1 := 5329) (sl1 := 65861) rfl rfl rfl ?_
  refine k_putF C inX12 tyX12_ok nmX12 rfl 39 (by decide) wmf_X12_107 rfl rfl rfl rfl (Nat.le_of_ble_eq_true rfl) dX12_init_323 326 rfl [.int 0, .ref (sz + 0), .int 0, .int 0, .int 0, .int (-1), .int 0, .int 0, .ref (sz + 1), .ref (sz + 2), .int 0, .ref (sz + 3), .ref (sz + 65), .ref (sz + 66), .ref (sz + 67), .int 1, .ref (sz + 68), .ref (sz + 69), .ref (sz + 70), .ref (sz + 71), .ref (sz + 72), .ref (sz + 73), .ref (sz + 74), .ref (sz + 117), .ref (sz + 160), .ref (sz + 161), .int 0, .ref (sz + 162), .ref (sz + 165), .ref (sz + 168), .ref (sz + 171), .ref (sz + 2174), .ref (sz + 2175), .int 0, .ref (sz + 2298), .ref (sz + 2347), .ref (sz + 2348), .ref (sz + 2349), .ref (sz + 5278), .ref (sz + 5328), .null, .null, .int 0, .int 0, .int 0, .null, .null, .null, .null, .int 0, .int 0, .int 0, .int 0, .int 0, .null, .null, .null, .null, .null, .null, .null, .null, .int 0, .null, .null, .null, .null, .null, .null, .int 0, .int 0, .int 0, .null, .null] rfl ?_
  refine k_aload_n C dX12_init_326 327 rfl 0 rfl ?_
  refine k_sipush C dX12_init_327 330 rfl 18025 rfl ?_
  refine k_newa (atype := .int) (a0 := (18025, .inl (fun _ => 0))) C 0 rfl (fun h => h) wma_int 18025 (fun _ => rfl) (by decide) (by decide) (Nat.le_of_ble_eq_true rfl) ⟨by decide, by decide⟩ dX12_init_330 332 rfl (sz + 5329) (congrArg (fun n => sz + n) lenM29) ?_
  refine XK_go (es1 := esM30 ca sz) (cs1 := 5330) (sl1 := 83886) rfl rfl rfl ?_
  refine k_putF C inX12 tyX12_ok nmX12 rfl 40 (by decide) wmf_X12_110 rfl rfl rfl rfl (Nat.le_of_ble_eq_true rfl) dX12_init_332 335 rfl [.int 0, .ref (sz + 0), .int 0, .int 0, .int 0, .int (-1), .int 0, .int 0, .ref (sz + 1), .ref (sz + 2), .int 0, .ref (sz + 3), .ref (sz + 65), .ref (sz + 66), .ref (sz + 67), .int 1, .ref (sz + 68), .ref (sz + 69), .ref (sz + 70), .ref (sz + 71), .ref (sz + 72), .ref (sz + 73), .ref (sz + 74), .ref (sz + 117), .ref (sz + 160), .ref (sz + 161), .int 0, .ref (sz + 162), .ref (sz + 165), .ref (sz + 168), .ref (sz + 171), .ref (sz + 2174), .ref (sz + 2175), .int 0, .ref (sz + 2298), .ref (sz + 2347), .ref (sz + 2348), .ref (sz + 2349), .ref (sz + 5278), .ref (sz + 5328), .ref (sz + 5329), .null, .int 0, .int 0, .int 0, .null, .null, .null, .null, .int 0, .int 0, .int 0, .int 0, .int 0, .null, .null, .null, .null, .null, .null, .null, .null, .int 0, .null, .null, .null, .null, .null, .null, .int 0, .int 0, .int 0, .null, .null] rfl ?_
  refine k_aload_n C dX12_init_335 336 rfl 0 rfl ?_
  refine k_sipush C dX12_init_336 339 rfl 18025 rfl ?_
  refine k_newa (atype := .int) (a0 := (18025, .inl (fun _ => 0))) C 0 rfl (fun h => h) wma_int 18025 (fun _ => rfl) (by decide) (by decide) (Nat.le_of_ble_eq_true rfl) ⟨by decide, by decide⟩ dX12_init_339 341 rfl (sz + 5330) (congrArg (fun n => sz + n) lenM30) ?_
  refine XK_go (es1 := esM31 ca sz) (cs1 := 5331) (sl1 := 101911) rfl rfl rfl ?_
  refine k_putF C inX12 tyX12_ok nmX12 rfl 41 (by decide) wmf_X12_113 rfl rfl rfl rfl (Nat.le_of_ble_eq_true rfl) dX12_init_341 344 rfl [.int 0, .ref (sz + 0), .int 0, .int 0, .int 0, .int (-1), .int 0, .int 0, .ref (sz + 1), .ref (sz + 2), .int 0, .ref (sz + 3), .ref (sz + 65), .ref (sz + 66), .ref (sz + 67), .int 1, .ref (sz + 68), .ref (sz + 69), .ref (sz + 70), .ref (sz + 71), .ref (sz + 72), .ref (sz + 73), .ref (sz + 74), .ref (sz + 117), .ref (sz + 160), .ref (sz + 161), .int 0, .ref (sz + 162), .ref (sz + 165), .ref (sz + 168), .ref (sz + 171), .ref (sz + 2174), .ref (sz + 2175), .int 0, .ref (sz + 2298), .ref (sz + 2347), .ref (sz + 2348), .ref (sz + 2349), .ref (sz + 5278), .ref (sz + 5328), .ref (sz + 5329), .ref (sz + 5330), .int 0, .int 0, .int 0, .null, .null, .null, .null, .int 0, .int 0, .int 0, .int 0, .int 0, .null, .null, .null, .null, .null, .null, .null, .null, .int 0, .null, .null, .null, .null, .null, .null, .int 0, .int 0, .int 0, .null, .null] rfl ?_
  refine k_aload_n C dX12_init_344 345 rfl 0 rfl ?_
  refine k_bipush C dX12_init_345 347 rfl 60 rfl ?_
  refine k_newa (atype := .int) (a0 := (60, .inl (fun _ => 0))) C 0 rfl (fun h => h) wma_int 60 (fun _ => rfl) (by decide) (by decide) (Nat.le_of_ble_eq_true rfl) ⟨by decide, by decide⟩ dX12_init_347 349 rfl (sz + 5331) (congrArg (fun n => sz + n) lenM31) ?_
  refine XK_go (es1 := esM32 ca sz) (cs1 := 5332) (sl1 := 101971) rfl rfl rfl ?_
  refine k_putF C inX12 tyX12_ok nmX12 rfl 45 (by decide) wmf_X12_116 rfl rfl rfl rfl (Nat.le_of_ble_eq_true rfl) dX12_init_349 352 rfl [.int 0, .ref (sz + 0), .int 0, .int 0, .int 0, .int (-1), .int 0, .int 0, .ref (sz + 1), .ref (sz + 2), .int 0, .ref (sz + 3), .ref (sz + 65), .ref (sz + 66), .ref (sz + 67), .int 1, .ref (sz + 68), .ref (sz + 69), .ref (sz + 70), .ref (sz + 71), .ref (sz + 72), .ref (sz + 73), .ref (sz + 74), .ref (sz + 117), .ref (sz + 160), .ref (sz + 161), .int 0, .ref (sz + 162), .ref (sz + 165), .ref (sz + 168), .ref (sz + 171), .ref (sz + 2174), .ref (sz + 2175), .int 0, .ref (sz + 2298), .ref (sz + 2347), .ref (sz + 2348), .ref (sz + 2349), .ref (sz + 5278), .ref (sz + 5328), .ref (sz + 5329), .ref (sz + 5330), .int 0, .int 0, .int 0, .ref (sz + 5331), .null, .null, .null, .int 0, .int 0, .int 0, .int 0, .int 0, .null, .null, .null, .null, .null, .null, .null, .null, .int 0, .null, .null, .null, .null, .null, .null, .int 0, .int 0, .int 0, .null, .null] rfl ?_
  refine k_aload_n C dX12_init_352 353 rfl 0 rfl ?_
  refine k_bipush C dX12_init_353 355 rfl 60 rfl ?_
  refine k_newa (atype := .int) (a0 := (60, .inl (fun _ => 0))) C 0 rfl (fun h => h) wma_int 60 (fun _ => rfl) (by decide) (by decide) (Nat.le_of_ble_eq_true rfl) ⟨by decide, by decide⟩ dX12_init_355 357 rfl (sz + 5332) (congrArg (fun n => sz + n) lenM32) ?_
  refine XK_go (es1 := esM33 ca sz) (cs1 := 5333) (sl1 := 102031) rfl rfl rfl ?_
  refine k_putF C inX12 tyX12_ok nmX12 rfl 46 (by decide) wmf_X12_119 rfl rfl rfl rfl (Nat.le_of_ble_eq_true rfl) dX12_init_357 360 rfl [.int 0, .ref (sz + 0), .int 0, .int 0, .int 0, .int (-1), .int 0, .int 0, .ref (sz + 1), .ref (sz + 2), .int 0, .ref (sz + 3), .ref (sz + 65), .ref (sz + 66), .ref (sz + 67), .int 1, .ref (sz + 68), .ref (sz + 69), .ref (sz + 70), .ref (sz + 71), .ref (sz + 72), .ref (sz + 73), .ref (sz + 74), .ref (sz + 117), .ref (sz + 160), .ref (sz + 161), .int 0, .ref (sz + 162), .ref (sz + 165), .ref (sz + 168), .ref (sz + 171), .ref (sz + 2174), .ref (sz + 2175), .int 0, .ref (sz + 2298), .ref (sz + 2347), .ref (sz + 2348), .ref (sz + 2349), .ref (sz + 5278), .ref (sz + 5328), .ref (sz + 5329), .ref (sz + 5330), .int 0, .int 0, .int 0, .ref (sz + 5331), .ref (sz + 5332), .null, .null, .int 0, .int 0, .int 0, .int 0, .int 0, .null, .null, .null, .null, .null, .null, .null, .null, .int 0, .null, .null, .null, .null, .null, .null, .int 0, .int 0, .int 0, .null, .null] rfl ?_
  refine k_aload_n C dX12_init_360 361 rfl 0 rfl ?_
  refine k_bipush C dX12_init_361 363 rfl 60 rfl ?_
  refine k_newa (atype := .int) (a0 := (60, .inl (fun _ => 0))) C 0 rfl (fun h => h) wma_int 60 (fun _ => rfl) (by decide) (by decide) (Nat.le_of_ble_eq_true rfl) ⟨by decide, by decide⟩ dX12_init_363 365 rfl (sz + 5333) (congrArg (fun n => sz + n) lenM33) ?_
  refine XK_go (es1 := esM34 ca sz) (cs1 := 5334) (sl1 := 102091) rfl rfl rfl ?_
  refine k_putF C inX12 tyX12_ok nmX12 rfl 47 (by decide) wmf_X12_122 rfl rfl rfl rfl (Nat.le_of_ble_eq_true rfl) dX12_init_365 368 rfl [.int 0, .ref (sz + 0), .int 0, .int 0, .int 0, .int (-1), .int 0, .int 0, .ref (sz + 1), .ref (sz + 2), .int 0, .ref (sz + 3), .ref (sz + 65), .ref (sz + 66), .ref (sz + 67), .int 1, .ref (sz + 68), .ref (sz + 69), .ref (sz + 70), .ref (sz + 71), .ref (sz + 72), .ref (sz + 73), .ref (sz + 74), .ref (sz + 117), .ref (sz + 160), .ref (sz + 161), .int 0, .ref (sz + 162), .ref (sz + 165), .ref (sz + 168), .ref (sz + 171), .ref (sz + 2174), .ref (sz + 2175), .int 0, .ref (sz + 2298), .ref (sz + 2347), .ref (sz + 2348), .ref (sz + 2349), .ref (sz + 5278), .ref (sz + 5328), .ref (sz + 5329), .ref (sz + 5330), .int 0, .int 0, .int 0, .ref (sz + 5331), .ref (sz + 5332), .ref (sz + 5333), .null, .int 0, .int 0, .int 0, .int 0, .int 0, .null, .null, .null, .null, .null, .null, .null, .null, .int 0, .null, .null, .null, .null, .null, .null, .int 0, .int 0, .int 0, .null, .null] rfl ?_
  refine k_aload_n C dX12_init_368 369 rfl 0 rfl ?_
  refine k_bipush C dX12_init_369 371 rfl 60 rfl ?_
  refine k_newa (atype := .int) (a0 := (60, .inl (fun _ => 0))) C 0 rfl (fun h => h) wma_int 60 (fun _ => rfl) (by decide) (by decide) (Nat.le_of_ble_eq_true rfl) ⟨by decide, by decide⟩ dX12_init_371 373 rfl (sz + 5334) (congrArg (fun n => sz + n) lenM34) ?_
  refine XK_go (es1 := esM35 ca sz) (cs1 := 5335) (sl1 := 102151) rfl rfl rfl ?_
  refine k_putF C inX12 tyX12_ok nmX12 rfl 48 (by decide) wmf_X12_125 rfl rfl rfl rfl (Nat.le_of_ble_eq_true rfl) dX12_init_373 376 rfl [.int 0, .ref (sz + 0), .int 0, .int 0, .int 0, .int (-1), .int 0, .int 0, .ref (sz + 1), .ref (sz + 2), .int 0, .ref (sz + 3), .ref (sz + 65), .ref (sz + 66), .ref (sz + 67), .int 1, .ref (sz + 68), .ref (sz + 69), .ref (sz + 70), .ref (sz + 71), .ref (sz + 72), .ref (sz + 73), .ref (sz + 74), .ref (sz + 117), .ref (sz + 160), .ref (sz + 161), .int 0, .ref (sz + 162), .ref (sz + 165), .ref (sz + 168), .ref (sz + 171), .ref (sz + 2174), .ref (sz + 2175), .int 0, .ref (sz + 2298), .ref (sz + 2347), .ref (sz + 2348), .ref (sz + 2349), .ref (sz + 5278), .ref (sz + 5328), .ref (sz + 5329), .ref (sz + 5330), .int 0, .int 0, .int 0, .ref (sz + 5331), .ref (sz + 5332), .ref (sz + 5333), .ref (sz + 5334), .int 0, .int 0, .int 0, .int 0, .int 0, .null, .null, .null, .null, .null, .null, .null, .null, .int 0, .null, .null, .null, .null, .null, .null, .int 0, .int 0, .int 0, .null, .null] rfl ?_
  refine k_aload_n C dX12_init_376 377 rfl 0 rfl ?_
  refine k_bipush C dX12_init_377 379 rfl 24 rfl ?_
  refine k_newa (atype := .int) (a0 := (24, .inl (fun _ => 0))) C 0 rfl (fun h => h) wma_int 24 (fun _ => rfl) (by decide) (by decide) (Nat.le_of_ble_eq_true rfl) ⟨by decide, by decide⟩ dX12_init_379 381 rfl (sz + 5335) (congrArg (fun n => sz + n) lenM35) ?_
  refine XK_go (es1 := esM36 ca sz) (cs1 := 5336) (sl1 := 102175) rfl rfl rfl ?_
  refine k_putF C inX12 tyX12_ok nmX12 rfl 54 (by decide) wmf_X12_128 rfl rfl rfl rfl (Nat.le_of_ble_eq_true rfl) dX12_init_381 384 rfl [.int 0, .ref (sz + 0), .int 0, .int 0, .int 0, .int (-1), .int 0, .int 0, .ref (sz + 1), .ref (sz + 2), .int 0, .ref (sz + 3), .ref (sz + 65), .ref (sz + 66), .ref (sz + 67), .int 1, .ref (sz + 68), .ref (sz + 69), .ref (sz + 70), .ref (sz + 71), .ref (sz + 72), .ref (sz + 73), .ref (sz + 74), .ref (sz + 117), .ref (sz + 160), .ref (sz + 161), .int 0, .ref (sz + 162), .ref (sz + 165), .ref (sz + 168), .ref (sz + 171), .ref (sz + 2174), .ref (sz + 2175), .int 0, .ref (sz + 2298), .ref (sz + 2347), .ref (sz + 2348), .ref (sz + 2349), .ref (sz + 5278), .ref (sz + 5328), .ref (sz + 5329), .ref (sz + 5330), .int 0, .int 0, .int 0, .ref (sz + 5331), .ref (sz + 5332), .ref (sz + 5333), .ref (sz + 5334), .int 0, .int 0, .int 0, .int 0, .int 0, .ref (sz + 5335), .null, .null, .null, .null, .null, .null, .null, .int 0, .null, .null, .null, .null, .null, .null, .int 0, .int 0, .int 0, .null, .null] rfl ?_
  refine k_aload_n C dX12_init_384 385 rfl 0 rfl ?_
  refine k_bipush C dX12_init_385 387 rfl 24 rfl ?_
  refine k_newa (atype := .int) (a0 := (24, .inl (fun _ => 0))) C 0 rfl (fun h => h) wma_int 24 (fun _ => rfl) (by decide) (by decide) (Nat.le_of_ble_eq_true rfl) ⟨by decide, by decide⟩ dX12_init_387 389 rfl (sz + 5336) (congrArg (fun n => sz + n) lenM36) ?_
  refine XK_go (es1 := esM37 ca sz) (cs1 := 5337) (sl1 := 102199) rfl rfl rfl ?_
  refine k_putF C inX12 tyX12_ok nmX12 rfl 55 (by decide) wmf_X12_131 rfl rfl rfl rfl (Nat.le_of_ble_eq_true rfl) dX12_init_389 392 rfl [.int 0, .ref (sz + 0), .int 0, .int 0, .int 0, .int (-1), .int 0, .int 0, .ref (sz + 1), .ref (sz + 2), .int 0, .ref (sz + 3), .ref (sz + 65), .ref (sz + 66), .ref (sz + 67), .int 1, .ref (sz + 68), .ref (sz + 69), .ref (sz + 70), .ref (sz + 71), .ref (sz + 72), .ref (sz + 73), .ref (sz + 74), .ref (sz + 117), .ref (sz + 160), .ref (sz + 161), .int 0, .ref (sz + 162), .ref (sz + 165), .ref (sz + 168), .ref (sz + 171), .ref (sz + 2174), .ref (sz + 2175), .int 0, .ref (sz + 2298), .ref (sz + 2347), .ref (sz + 2348), .ref (sz + 2349), .ref (sz + 5278), .ref (sz + 5328), .ref (sz + 5329), .ref (sz + 5330), .int 0, .int 0, .int 0, .ref (sz + 5331), .ref (sz + 5332), .ref (sz + 5333), .ref (sz + 5334), .int 0, .int 0, .int 0, .int 0, .int 0, .ref (sz + 5335), .ref (sz + 5336), .null, .null, .null, .null, .null, .null, .int 0, .null, .null, .null, .null, .null, .null, .int 0, .int 0, .int 0, .null, .null] rfl ?_
  refine k_aload_n C dX12_init_392 393 rfl 0 rfl ?_
  refine k_bipush C dX12_init_393 395 rfl 40 rfl ?_
  refine k_newa (atype := .int) (a0 := (40, .inl (fun _ => 0))) C 0 rfl (fun h => h) wma_int 40 (fun _ => rfl) (by decide) (by decide) (Nat.le_of_ble_eq_true rfl) ⟨by decide, by decide⟩ dX12_init_395 397 rfl (sz + 5337) (congrArg (fun n => sz + n) lenM37) ?_
  refine XK_go (es1 := esM38 ca sz) (cs1 := 5338) (sl1 := 102239) rfl rfl rfl ?_
  refine k_putF C inX12 tyX12_ok nmX12 rfl 56 (by decide) wmf_X12_134 rfl rfl rfl rfl (Nat.le_of_ble_eq_true rfl) dX12_init_397 400 rfl [.int 0, .ref (sz + 0), .int 0, .int 0, .int 0, .int (-1), .int 0, .int 0, .ref (sz + 1), .ref (sz + 2), .int 0, .ref (sz + 3), .ref (sz + 65), .ref (sz + 66), .ref (sz + 67), .int 1, .ref (sz + 68), .ref (sz + 69), .ref (sz + 70), .ref (sz + 71), .ref (sz + 72), .ref (sz + 73), .ref (sz + 74), .ref (sz + 117), .ref (sz + 160), .ref (sz + 161), .int 0, .ref (sz + 162), .ref (sz + 165), .ref (sz + 168), .ref (sz + 171), .ref (sz + 2174), .ref (sz + 2175), .int 0, .ref (sz + 2298), .ref (sz + 2347), .ref (sz + 2348), .ref (sz + 2349), .ref (sz + 5278), .ref (sz + 5328), .ref (sz + 5329), .ref (sz + 5330), .int 0, .int 0, .int 0, .ref (sz + 5331), .ref (sz + 5332), .ref (sz + 5333), .ref (sz + 5334), .int 0, .int 0, .int 0, .int 0, .int 0, .ref (sz + 5335), .ref (sz + 5336), .ref (sz + 5337), .null, .null, .null, .null, .null, .int 0, .null, .null, .null, .null, .null, .null, .int 0, .int 0, .int 0, .null, .null] rfl ?_
  refine k_aload_n C dX12_init_400 401 rfl 0 rfl ?_
  refine k_bipush C dX12_init_401 403 rfl 40 rfl ?_
  refine k_iconst C dX12_init_403 404 rfl 5 rfl ?_
  refine k_multi2 (V := mV2 ca) (K := 41) (S := 240) (b := blkN (ca 2) 40 1 (blk1 (ca 0) 5)) C wmd_X12_23 (C.2.2.2.2.2.1.2 2 _ rfl).2 (fun vm hvm => (xMA.alike hvm hMA).2.2) (fun h1 h2 => (mkS h1 h2 (mk1 h1 h2 rfl (by decide) ⟨by decide, by decide⟩) (by decide) rfl (by decide) (by decide) rfl ⟨by decide, by decide⟩)) (blkN_ok blk1_ok (by decide)) (by decide) ⟨by decide, by decide⟩ dX12_init_404 408 rfl (sz + 5338) (congrArg (fun n => sz + n) lenM38) ?_
  refine XK_go (es1 := esM39 ca sz) (cs1 := 5379) (sl1 := 102479) rfl rfl rfl ?_
  refine k_putF C inX12 tyX12_ok nmX12 rfl 57 (by decide) wmf_X12_137 rfl rfl rfl rfl (Nat.le_of_ble_eq_true rfl) dX12_init_408 411 rfl [.int 0, .ref (sz + 0), .int 0, .int 0, .int 0, .int (-1), .int 0, .int 0, .ref (sz + 1), .ref (sz + 2), .int 0, .ref (sz + 3), .ref (sz + 65), .ref (sz + 66), .ref (sz + 67), .int 1, .ref (sz + 68), .ref (sz + 69), .ref (sz + 70), .ref (sz + 71), .ref (sz + 72), .ref (sz + 73), .ref (sz + 74), .ref (sz + 117), .ref (sz + 160), .ref (sz + 161), .int 0, .ref (sz + 162), .ref (sz + 165), .ref (sz + 168), .ref (sz + 171), .ref (sz + 2174), .ref (sz + 2175), .int 0, .ref (sz + 2298), .ref (sz + 2347), .ref (sz + 2348), .ref (sz + 2349), .ref (sz + 5278), .ref (sz + 5328), .ref (sz + 5329), .ref (sz + 5330), .int 0, .int 0, .int 0, .ref (sz + 5331), .ref (sz + 5332), .ref (sz + 5333), .ref (sz + 5334), .int 0, .int 0, .int 0, .int 0, .int 0, .ref (sz + 5335), .ref (sz + 5336), .ref (sz + 5337), .ref (sz + 5338), .null, .null, .null, .null, .int 0, .null, .null, .null, .null, .null, .null, .int 0, .int 0, .int 0, .null, .null] rfl ?_
  refine k_aload_n C dX12_init_411 412 rfl 0 rfl ?_
  refine k_bipush C dX12_init_412 414 rfl 40 rfl ?_
  refine k_iconst C dX12_init_414 415 rfl 5 rfl ?_
  refine k_multi2 (V := mV2 ca) (K := 41) (S := 240) (b := blkN (ca 2) 40 1 (blk1 (ca 0) 5)) C wmd_X12_23 (C.2.2.2.2.2.1.2 2 _ rfl).2 (fun vm hvm => (xMA.alike hvm hMA).2.2) (fun h1 h2 => (mkS h1 h2 (mk1 h1 h2 rfl (by decide) ⟨by decide, by decide⟩) (by decide) rfl (by decide) (by decide) rfl ⟨by decide, by decide⟩)) (blkN_ok blk1_ok (by decide)) (by decide) ⟨by decide, by decide⟩ dX12_init_415 419 rfl (sz + 5379) (congrArg (fun n => sz + n) lenM39) ?_
  refine XK_go (es1 := esM40 ca sz) (cs1 := 5420) (sl1 := 102719) rfl rfl rfl ?_
  refine k_putF C inX12 tyX12_ok nmX12 rfl 58 (by decide) wmf_X12_140 rfl rfl rfl rfl (Nat.le_of_ble_eq_true rfl) dX12_init_419 422 rfl [.int 0, .ref (sz + 0), .int 0, .int 0, .int 0, .int (-1), .int 0, .int 0, .ref (sz + 1), .ref (sz + 2), .int 0, .ref (sz + 3), .ref (sz + 65), .ref (sz + 66), .ref (sz + 67), .int 1, .ref (sz + 68), .ref (sz + 69), .ref (sz + 70), .ref (sz + 71), .ref (sz + 72), .ref (sz + 73), .ref (sz + 74), .ref (sz + 117), .ref (sz + 160), .ref (sz + 161), .int 0, .ref (sz + 162), .ref (sz + 165), .ref (sz + 168), .ref (sz + 171), .ref (sz + 2174), .ref (sz + 2175), .int 0, .ref (sz + 2298), .ref (sz + 2347), .ref (sz + 2348), .ref (sz + 2349), .ref (sz + 5278), .ref (sz + 5328), .ref (sz + 5329), .ref (sz + 5330), .int 0, .int 0, .int 0, .ref (sz + 5331), .ref (sz + 5332), .ref (sz + 5333), .ref (sz + 5334), .int 0, .int 0, .int 0, .int 0, .int 0, .ref (sz + 5335), .ref (sz + 5336), .ref (sz + 5337), .ref (sz + 5338), .ref (sz + 5379), .null, .null, .null, .int 0, .null, .null, .null, .null, .null, .null, .int 0, .int 0, .int 0, .null, .null] rfl ?_
  refine k_aload_n C dX12_init_422 423 rfl 0 rfl ?_
  refine k_bipush C dX12_init_423 425 rfl 41 rfl ?_
  refine k_iconst C dX12_init_425 426 rfl 5 rfl ?_
  refine k_multi2 (V := mV2 ca) (K := 42) (S := 246) (b := blkN (ca 2) 41 1 (blk1 (ca 0) 5)) C wmd_X12_23 (C.2.2.2.2.2.1.2 2 _ rfl).2 (fun vm hvm => (xMA.alike hvm hMA).2.2) (fun h1 h2 => (mkS h1 h2 (mk1 h1 h2 rfl (by decide) ⟨by decide, by decide⟩) (by decide) rfl (by decide) (by decide) rfl ⟨by decide, by decide⟩)) (blkN_ok blk1_ok (by decide)) (by decide) ⟨by decide, by decide⟩ dX12_init_426 430 rfl (sz + 5420) (congrArg (fun n => sz + n) lenM40) ?_
  refine XK_go (es1 := esM41 ca sz) (cs1 := 5462) (sl1 := 102965) rfl rfl rfl ?_
  refine k_putF C inX12 tyX12_ok nmX12 rfl 59 (by decide) wmf_X12_143 rfl rfl rfl rfl (Nat.le_of_ble_eq_true rfl) dX12_init_430 433 rfl [.int 0, .ref (sz + 0), .int 0, .int 0, .int 0, .int (-1), .int 0, .int 0, .ref (sz + 1), .ref (sz + 2), .int 0, .ref (sz + 3), .ref (sz + 65), .ref (sz + 66), .ref (sz + 67), .int 1, .ref (sz + 68), .ref (sz + 69), .ref (sz + 70), .ref (sz + 71), .ref (sz + 72), .ref (sz + 73), .ref (sz + 74), .ref (sz + 117), .ref (sz + 160), .ref (sz + 161), .int 0, .ref (sz + 162), .ref (sz + 165), .ref (sz + 168), .ref (sz + 171), .ref (sz + 2174), .ref (sz + 2175), .int 0, .ref (sz + 2298), .ref (sz + 2347), .ref (sz + 2348), .ref (sz + 2349), .ref (sz + 5278), .ref (sz + 5328), .ref (sz + 5329), .ref (sz + 5330), .int 0, .int 0, .int 0, .ref (sz + 5331), .ref (sz + 5332), .ref (sz + 5333), .ref (sz + 5334), .int 0, .int 0, .int 0, .int 0, .int 0, .ref (sz + 5335), .ref (sz + 5336), .ref (sz + 5337), .ref (sz + 5338), .ref (sz + 5379), .ref (sz + 5420), .null, .null, .int 0, .null, .null, .null, .null, .null, .null, .int 0, .int 0, .int 0, .null, .null] rfl ?_
  refine k_aload_n C dX12_init_433 434 rfl 0 rfl ?_
  refine k_bipush C dX12_init_434 436 rfl 40 rfl ?_
  refine k_iconst C dX12_init_436 437 rfl 5 rfl ?_
  refine k_multi2 (V := mV2 ca) (K := 41) (S := 240) (b := blkN (ca 2) 40 1 (blk1 (ca 0) 5)) C wmd_X12_23 (C.2.2.2.2.2.1.2 2 _ rfl).2 (fun vm hvm => (xMA.alike hvm hMA).2.2) (fun h1 h2 => (mkS h1 h2 (mk1 h1 h2 rfl (by decide) ⟨by decide, by decide⟩) (by decide) rfl (by decide) (by decide) rfl ⟨by decide, by decide⟩)) (blkN_ok blk1_ok (by decide)) (by decide) ⟨by decide, by decide⟩ dX12_init_437 441 rfl (sz + 5462) (congrArg (fun n => sz + n) lenM41) ?_
  refine XK_go (es1 := esM42 ca sz) (cs1 := 5503) (sl1 := 103205) rfl rfl rfl ?_
  refine k_putF C inX12 tyX12_ok nmX12 rfl 60 (by decide) wmf_X12_146 rfl rfl rfl rfl (Nat.le_of_ble_eq_true rfl) dX12_init_441 444 rfl [.int 0, .ref (sz + 0), .int 0, .int 0, .int 0, .int (-1), .int 0, .int 0, .ref (sz + 1), .ref (sz + 2), .int 0, .ref (sz + 3), .ref (sz + 65), .ref (sz + 66), .ref (sz + 67), .int 1, .ref (sz + 68), .ref (sz + 69), .ref (sz + 70), .ref (sz + 71), .ref (sz + 72), .ref (sz + 73), .ref (sz + 74), .ref (sz + 117), .ref (sz + 160), .ref (sz + 161), .int 0, .ref (sz + 162), .ref (sz + 165), .ref (sz + 168), .ref (sz + 171), .ref (sz + 2174), .ref (sz + 2175), .int 0, .ref (sz + 2298), .ref (sz + 2347), .ref (sz + 2348), .ref (sz + 2349), .ref (sz + 5278), .ref (sz + 5328), .ref (sz + 5329), .ref (sz + 5330), .int 0, .int 0, .int 0, .ref (sz + 5331), .ref (sz + 5332), .ref (sz + 5333), .ref (sz + 5334), .int 0, .int 0, .int 0, .int 0, .int 0, .ref (sz + 5335), .ref (sz + 5336), .ref (sz + 5337), .ref (sz + 5338), .ref (sz + 5379), .ref (sz + 5420), .ref (sz + 5462), .null, .int 0, .null, .null, .null, .null, .null, .null, .int 0, .int 0, .int 0, .null, .null] rfl ?_
  refine k_aload_n C dX12_init_444 445 rfl 0 rfl ?_
  refine k_bipush C dX12_init_445 447 rfl 40 rfl ?_
  refine k_newa (atype := .int) (a0 := (40, .inl (fun _ => 0))) C 0 rfl (fun h => h) wma_int 40 (fun _ => rfl) (by decide) (by decide) (Nat.le_of_ble_eq_true rfl) ⟨by decide, by decide⟩ dX12_init_447 449 rfl (sz + 5503) (congrArg (fun n => sz + n) lenM42) ?_
  refine XK_go (es1 := esM43 ca sz) (cs1 := 5504) (sl1 := 103245) rfl rfl rfl ?_
  refine k_putF C inX12 tyX12_ok nmX12 rfl 61 (by decide) wmf_X12_149 rfl rfl rfl rfl (Nat.le_of_ble_eq_true rfl) dX12_init_449 452 rfl [.int 0, .ref (sz + 0), .int 0, .int 0, .int 0, .int (-1), .int 0, .int 0, .ref (sz + 1), .ref (sz + 2), .int 0, .ref (sz + 3), .ref (sz + 65), .ref (sz + 66), .ref (sz + 67), .int 1, .ref (sz + 68), .ref (sz + 69), .ref (sz + 70), .ref (sz + 71), .ref (sz + 72), .ref (sz + 73), .ref (sz + 74), .ref (sz + 117), .ref (sz + 160), .ref (sz + 161), .int 0, .ref (sz + 162), .ref (sz + 165), .ref (sz + 168), .ref (sz + 171), .ref (sz + 2174), .ref (sz + 2175), .int 0, .ref (sz + 2298), .ref (sz + 2347), .ref (sz + 2348), .ref (sz + 2349), .ref (sz + 5278), .ref (sz + 5328), .ref (sz + 5329), .ref (sz + 5330), .int 0, .int 0, .int 0, .ref (sz + 5331), .ref (sz + 5332), .ref (sz + 5333), .ref (sz + 5334), .int 0, .int 0, .int 0, .int 0, .int 0, .ref (sz + 5335), .ref (sz + 5336), .ref (sz + 5337), .ref (sz + 5338), .ref (sz + 5379), .ref (sz + 5420), .ref (sz + 5462), .ref (sz + 5503), .int 0, .null, .null, .null, .null, .null, .null, .int 0, .int 0, .int 0, .null, .null] rfl ?_
  refine k_aload_n C dX12_init_452 453 rfl 0 rfl ?_
  refine k_bipush C dX12_init_453 455 rfl 40 rfl ?_
  refine k_newa (atype := .int) (a0 := (40, .inl (fun _ => 0))) C 0 rfl (fun h => h) wma_int 40 (fun _ => rfl) (by decide) (by decide) (Nat.le_of_ble_eq_true rfl) ⟨by decide, by decide⟩ dX12_init_455 457 rfl (sz + 5504) (congrArg (fun n => sz + n) lenM43) ?_
  refine XK_go (es1 := esM44 ca sz) (cs1 := 5505) (sl1 := 103285) rfl rfl rfl ?_
  refine k_putF C inX12 tyX12_ok nmX12 rfl 63 (by decide) wmf_X12_152 rfl rfl rfl rfl (Nat.le_of_ble_eq_true rfl) dX12_init_457 460 rfl [.int 0, .ref (sz + 0), .int 0, .int 0, .int 0, .int (-1), .int 0, .int 0, .ref (sz + 1), .ref (sz + 2), .int 0, .ref (sz + 3), .ref (sz + 65), .ref (sz + 66), .ref (sz + 67), .int 1, .ref (sz + 68), .ref (sz + 69), .ref (sz + 70), .ref (sz + 71), .ref (sz + 72), .ref (sz + 73), .ref (sz + 74), .ref (sz + 117), .ref (sz + 160), .ref (sz + 161), .int 0, .ref (sz + 162), .ref (sz + 165), .ref (sz + 168), .ref (sz + 171), .ref (sz + 2174), .ref (sz + 2175), .int 0, .ref (sz + 2298), .ref (sz + 2347), .ref (sz + 2348), .ref (sz + 2349), .ref (sz + 5278), .ref (sz + 5328), .ref (sz + 5329), .ref (sz + 5330), .int 0, .int 0, .int 0, .ref (sz + 5331), .ref (sz + 5332), .ref (sz + 5333), .ref (sz + 5334), .int 0, .int 0, .int 0, .int 0, .int 0, .ref (sz + 5335), .ref (sz + 5336), .ref (sz + 5337), .ref (sz + 5338), .ref (sz + 5379), .ref (sz + 5420), .ref (sz + 5462), .ref (sz + 5503), .int 0, .ref (sz + 5504), .null, .null, .null, .null, .null, .int 0, .int 0, .int 0, .null, .null] rfl ?_
  refine k_aload_n C dX12_init_460 461 rfl 0 rfl ?_
  refine k_bipush C dX12_init_461 463 rfl 40 rfl ?_
  refine k_newa (atype := .int) (a0 := (40, .inl (fun _ => 0))) C 0 rfl (fun h => h) wma_int 40 (fun _ => rfl) (by decide) (by decide) (Nat.le_of_ble_eq_true rfl) ⟨by decide, by decide⟩ dX12_init_463 465 rfl (sz + 5505) (congrArg (fun n => sz + n) lenM44) ?_
  refine XK_go (es1 := esM45 ca sz) (cs1 := 5506) (sl1 := 103325) rfl rfl rfl ?_
  refine k_putF C inX12 tyX12_ok nmX12 rfl 64 (by decide) wmf_X12_155 rfl rfl rfl rfl (Nat.le_of_ble_eq_true rfl) dX12_init_465 468 rfl [.int 0, .ref (sz + 0), .int 0, .int 0, .int 0, .int (-1), .int 0, .int 0, .ref (sz + 1), .ref (sz + 2), .int 0, .ref (sz + 3), .ref (sz + 65), .ref (sz + 66), .ref (sz + 67), .int 1, .ref (sz + 68), .ref (sz + 69), .ref (sz + 70), .ref (sz + 71), .ref (sz + 72), .ref (sz + 73), .ref (sz + 74), .ref (sz + 117), .ref (sz + 160), .ref (sz + 161), .int 0, .ref (sz + 162), .ref (sz + 165), .ref (sz + 168), .ref (sz + 171), .ref (sz + 2174), .ref (sz + 2175), .int 0, .ref (sz + 2298), .ref (sz + 2347), .ref (sz + 2348), .ref (sz + 2349), .ref (sz + 5278), .ref (sz + 5328), .ref (sz + 5329), .ref (sz + 5330), .int 0, .int 0, .int 0, .ref (sz + 5331), .ref (sz + 5332), .ref (sz + 5333), .ref (sz + 5334), .int 0, .int 0, .int 0, .int 0, .int 0, .ref (sz + 5335), .ref (sz + 5336), .ref (sz + 5337), .ref (sz + 5338), .ref (sz + 5379), .ref (sz + 5420), .ref (sz + 5462), .ref (sz + 5503), .int 0, .ref (sz + 5504), .ref (sz + 5505), .null, .null, .null, .null, .int 0, .int 0, .int 0, .null, .null] rfl ?_
  refine k_aload_n C dX12_init_468 469 rfl 0 rfl ?_
  refine k_bipush C dX12_init_469 471 rfl 40 rfl ?_
  refine k_newa (atype := .int) (a0 := (40, .inl (fun _ => 0))) C 0 rfl (fun h => h) wma_int 40 (fun _ => rfl) (by decide) (by decide) (Nat.le_of_ble_eq_true rfl) ⟨by decide, by decide⟩ dX12_init_471 473 rfl (sz + 5506) (congrArg (fun n => sz + n) lenM45) ?_
  refine XK_go (es1 := esM46 ca sz) (cs1 := 5507) (sl1 := 103365) rfl rfl rfl ?_
  refine k_putF C inX12 tyX12_ok nmX12 rfl 65 (by decide) wmf_X12_158 rfl rfl rfl rfl (Nat.le_of_ble_eq_true rfl) dX12_init_473 476 rfl [.int 0, .ref (sz + 0), .int 0, .int 0, .int 0, .int (-1), .int 0, .int 0, .ref (sz + 1), .ref (sz + 2), .int 0, .ref (sz + 3), .ref (sz + 65), .ref (sz + 66), .ref (sz + 67), .int 1, .ref (sz + 68), .ref (sz + 69), .ref (sz + 70), .ref (sz + 71), .ref (sz + 72), .ref (sz + 73), .ref (sz + 74), .ref (sz + 117), .ref (sz + 160), .ref (sz + 161), .int 0, .ref (sz + 162), .ref (sz + 165), .ref (sz + 168), .ref (sz + 171), .ref (sz + 2174), .ref (sz + 2175), .int 0, .ref (sz + 2298), .ref (sz + 2347), .ref (sz + 2348), .ref (sz + 2349), .ref (sz + 5278), .ref (sz + 5328), .ref (sz + 5329), .ref (sz + 5330), .int 0, .int 0, .int 0, .ref (sz + 5331), .ref (sz + 5332), .ref (sz + 5333), .ref (sz + 5334), .int 0, .int 0, .int 0, .int 0, .int 0, .ref (sz + 5335), .ref (sz + 5336), .ref (sz + 5337), .ref (sz + 5338), .ref (sz + 5379), .ref (sz + 5420), .ref (sz + 5462), .ref (sz + 5503), .int 0, .ref (sz + 5504), .ref (sz + 5505), .ref (sz + 5506), .null, .null, .null, .int 0, .int 0, .int 0, .null, .null] rfl ?_
  refine k_aload_n C dX12_init_476 477 rfl 0 rfl ?_
  refine k_bipush C dX12_init_477 479 rfl 40 rfl ?_
  refine k_newa (atype := .int) (a0 := (40, .inl (fun _ => 0))) C 0 rfl (fun h => h) wma_int 40 (fun _ => rfl) (by decide) (by decide) (Nat.le_of_ble_eq_true rfl) ⟨by decide, by decide⟩ dX12_init_479 481 rfl (sz + 5507) (congrArg (fun n => sz + n) lenM46) ?_
  refine XK_go (es1 := esM47 ca sz) (cs1 := 5508) (sl1 := 103405) rfl rfl rfl ?_
  refine k_putF C inX12 tyX12_ok nmX12 rfl 66 (by decide) wmf_X12_161 rfl rfl rfl rfl (Nat.le_of_ble_eq_true rfl) dX12_init_481 484 rfl [.int 0, .ref (sz + 0), .int 0, .int 0, .int 0, .int (-1), .int 0, .int 0, .ref (sz + 1), .ref (sz + 2), .int 0, .ref (sz + 3), .ref (sz + 65), .ref (sz + 66), .ref (sz + 67), .int 1, .ref (sz + 68), .ref (sz + 69), .ref (sz + 70), .ref (sz + 71), .ref (sz + 72), .ref (sz + 73), .ref (sz + 74), .ref (sz + 117), .ref (sz + 160), .ref (sz + 161), .int 0, .ref (sz + 162), .ref (sz + 165), .ref (sz + 168), .ref (sz + 171), .ref (sz + 2174), .ref (sz + 2175), .int 0, .ref (sz + 2298), .ref (sz + 2347), .ref (sz + 2348), .ref (sz + 2349), .ref (sz + 5278), .ref (sz + 5328), .ref (sz + 5329), .ref (sz + 5330), .int 0, .int 0, .int 0, .ref (sz + 5331), .ref (sz + 5332), .ref (sz + 5333), .ref (sz + 5334), .int 0, .int 0, .int 0, .int 0, .int 0, .ref (sz + 5335), .ref (sz + 5336), .ref (sz + 5337), .ref (sz + 5338), .ref (sz + 5379), .ref (sz + 5420), .ref (sz + 5462), .ref (sz + 5503), .int 0, .ref (sz + 5504), .ref (sz + 5505), .ref (sz + 5506), .ref (sz + 5507), .null, .null, .int 0, .int 0, .int 0, .null, .null] rfl ?_
  refine k_aload_n C dX12_init_484 485 rfl 0 rfl ?_
  refine k_bipush C dX12_init_485 487 rfl 42 rfl ?_
  refine k_newa (atype := .int) (a0 := (42, .inl (fun _ => 0))) C 0 rfl (fun h => h) wma_int 42 (fun _ => rfl) (by decide) (by decide) (Nat.le_of_ble_eq_true rfl) ⟨by decide, by decide⟩ dX12_init_487 489 rfl (sz + 5508) (congrArg (fun n => sz + n) lenM47) ?_
  refine XK_go (es1 := esM48 ca sz) (cs1 := 5509) (sl1 := 103447) rfl rfl rfl ?_
  refine k_putF C inX12 tyX12_ok nmX12 rfl 67 (by decide) wmf_X12_164 rfl rfl rfl rfl (Nat.le_of_ble_eq_true rfl) dX12_init_489 492 rfl [.int 0, .ref (sz + 0), .int 0, .int 0, .int 0, .int (-1), .int 0, .int 0, .ref (sz + 1), .ref (sz + 2), .int 0, .ref (sz + 3), .ref (sz + 65), .ref (sz + 66), .ref (sz + 67), .int 1, .ref (sz + 68), .ref (sz + 69), .ref (sz + 70), .ref (sz + 71), .ref (sz + 72), .ref (sz + 73), .ref (sz + 74), .ref (sz + 117), .ref (sz + 160), .ref (sz + 161), .int 0, .ref (sz + 162), .ref (sz + 165), .ref (sz + 168), .ref (sz + 171), .ref (sz + 2174), .ref (sz + 2175), .int 0, .ref (sz + 2298), .ref (sz + 2347), .ref (sz + 2348), .ref (sz + 2349), .ref (sz + 5278), .ref (sz + 5328), .ref (sz + 5329), .ref (sz + 5330), .int 0, .int 0, .int 0, .ref (sz + 5331), .ref (sz + 5332), .ref (sz + 5333), .ref (sz + 5334), .int 0, .int 0, .int 0, .int 0, .int 0, .ref (sz + 5335), .ref (sz + 5336), .ref (sz + 5337), .ref (sz + 5338), .ref (sz + 5379), .ref (sz + 5420), .ref (sz + 5462), .ref (sz + 5503), .int 0, .ref (sz + 5504), .ref (sz + 5505), .ref (sz + 5506), .ref (sz + 5507), .ref (sz + 5508), .null, .int 0, .int 0, .int 0, .null, .null] rfl ?_
  refine k_aload_n C dX12_init_492 493 rfl 0 rfl ?_
  refine k_bipush C dX12_init_493 495 rfl 40 rfl ?_
  refine k_newa (atype := .boolean) (a0 := (40, .inl (fun _ => 0))) C 1 rfl (fun h => h) wma_boolean 40 (fun _ => rfl) (by decide) (by decide) (Nat.le_of_ble_eq_true rfl) ⟨by decide, by decide⟩ dX12_init_495 497 rfl (sz + 5509) (congrArg (fun n => sz + n) lenM48) ?_
  refine XK_go (es1 := esM49 ca sz) (cs1 := 5510) (sl1 := 103487) rfl rfl rfl ?_
  refine k_putF C inX12 tyX12_ok nmX12 rfl 68 (by decide) wmf_X12_167 rfl rfl rfl rfl (Nat.le_of_ble_eq_true rfl) dX12_init_497 500 rfl [.int 0, .ref (sz + 0), .int 0, .int 0, .int 0, .int (-1), .int 0, .int 0, .ref (sz + 1), .ref (sz + 2), .int 0, .ref (sz + 3), .ref (sz + 65), .ref (sz + 66), .ref (sz + 67), .int 1, .ref (sz + 68), .ref (sz + 69), .ref (sz + 70), .ref (sz + 71), .ref (sz + 72), .ref (sz + 73), .ref (sz + 74), .ref (sz + 117), .ref (sz + 160), .ref (sz + 161), .int 0, .ref (sz + 162), .ref (sz + 165), .ref (sz + 168), .ref (sz + 171), .ref (sz + 2174), .ref (sz + 2175), .int 0, .ref (sz + 2298), .ref (sz + 2347), .ref (sz + 2348), .ref (sz + 2349), .ref (sz + 5278), .ref (sz + 5328), .ref (sz + 5329), .ref (sz + 5330), .int 0, .int 0, .int 0, .ref (sz + 5331), .ref (sz + 5332), .ref (sz + 5333), .ref (sz + 5334), .int 0, .int 0, .int 0, .int 0, .int 0, .ref (sz + 5335), .ref (sz + 5336), .ref (sz + 5337), .ref (sz + 5338), .ref (sz + 5379), .ref (sz + 5420), .ref (sz + 5462), .ref (sz + 5503), .int 0, .ref (sz + 5504), .ref (sz + 5505), .ref (sz + 5506), .ref (sz + 5507), .ref (sz + 5508), .ref (sz + 5509), .int 0, .int 0, .int 0, .null, .null] rfl ?_
  refine k_aload_n C dX12_init_500 501 rfl 0 rfl ?_
  refine k_sipush C dX12_init_501 504 rfl 2000 rfl ?_
  refine k_newa (atype := .int) (a0 := (2000, .inl (fun _ => 0))) C 0 rfl (fun h => h) wma_int 2000 (fun _ => rfl) (by decide) (by decide) (Nat.le_of_ble_eq_true rfl) ⟨by decide, by decide⟩ dX12_init_504 506 rfl (sz + 5510) (congrArg (fun n => sz + n) lenM49) ?_
  refine XK_go (es1 := esM50 ca sz) (cs1 := 5511) (sl1 := 105487) rfl rfl rfl ?_
  refine k_putF C inX12 tyX12_ok nmX12 rfl 72 (by decide) wmf_X12_171 rfl rfl rfl rfl (Nat.le_of_ble_eq_true rfl) dX12_init_506 509 rfl [.int 0, .ref (sz + 0), .int 0, .int 0, .int 0, .int (-1), .int 0, .int 0, .ref (sz + 1), .ref (sz + 2), .int 0, .ref (sz + 3), .ref (sz + 65), .ref (sz + 66), .ref (sz + 67), .int 1, .ref (sz + 68), .ref (sz + 69), .ref (sz + 70), .ref (sz + 71), .ref (sz + 72), .ref (sz + 73), .ref (sz + 74), .ref (sz + 117), .ref (sz + 160), .ref (sz + 161), .int 0, .ref (sz + 162), .ref (sz + 165), .ref (sz + 168), .ref (sz + 171), .ref (sz + 2174), .ref (sz + 2175), .int 0, .ref (sz + 2298), .ref (sz + 2347), .ref (sz + 2348), .ref (sz + 2349), .ref (sz + 5278), .ref (sz + 5328), .ref (sz + 5329), .ref (sz + 5330), .int 0, .int 0, .int 0, .ref (sz + 5331), .ref (sz + 5332), .ref (sz + 5333), .ref (sz + 5334), .int 0, .int 0, .int 0, .int 0, .int 0, .ref (sz + 5335), .ref (sz + 5336), .ref (sz + 5337), .ref (sz + 5338), .ref (sz + 5379), .ref (sz + 5420), .ref (sz + 5462), .ref (sz + 5503), .int 0, .ref (sz + 5504), .ref (sz + 5505), .ref (sz + 5506), .ref (sz + 5507), .ref (sz + 5508), .ref (sz + 5509), .int 0, .int 0, .int 0, .ref (sz + 5510), .null] rfl ?_
  refine k_aload_n C dX12_init_509 510 rfl 0 rfl ?_
  refine k_bipush C dX12_init_510 512 rfl 40 rfl ?_
  refine k_newa (atype := .boolean) (a0 := (40, .inl (fun _ => 0))) C 1 rfl (fun h => h) wma_boolean 40 (fun _ => rfl) (by decide) (by decide) (Nat.le_of_ble_eq_true rfl) ⟨by decide, by decide⟩ dX12_init_512 514 rfl (sz + 5511) (congrArg (fun n => sz + n) lenM50) ?_
  refine XK_go (es1 := esM51 ca sz) (cs1 := 5512) (sl1 := 105527) rfl rfl rfl ?_
  refine k_putF C inX12 tyX12_ok nmX12 rfl 73 (by decide) wmf_X12_174 rfl rfl rfl rfl (Nat.le_of_ble_eq_true rfl) dX12_init_514 517 rfl [.int 0, .ref (sz + 0), .int 0, .int 0, .int 0, .int (-1), .int 0, .int 0, .ref (sz + 1), .ref (sz + 2), .int 0, .ref (sz + 3), .ref (sz + 65), .ref (sz + 66), .ref (sz + 67), .int 1, .ref (sz + 68), .ref (sz + 69), .ref (sz + 70), .ref (sz + 71), .ref (sz + 72), .ref (sz + 73), .ref (sz + 74), .ref (sz + 117), .ref (sz + 160), .ref (sz + 161), .int 0, .ref (sz + 162), .ref (sz + 165), .ref (sz + 168), .ref (sz + 171), .ref (sz + 2174), .ref (sz + 2175), .int 0, .ref (sz + 2298), .ref (sz + 2347), .ref (sz + 2348), .ref (sz + 2349), .ref (sz + 5278), .ref (sz + 5328), .ref (sz + 5329), .ref (sz + 5330), .int 0, .int 0, .int 0, .ref (sz + 5331), .ref (sz + 5332), .ref (sz + 5333), .ref (sz + 5334), .int 0, .int 0, .int 0, .int 0, .int 0, .ref (sz + 5335), .ref (sz + 5336), .ref (sz + 5337), .ref (sz + 5338), .ref (sz + 5379), .ref (sz + 5420), .ref (sz + 5462), .ref (sz + 5503), .int 0, .ref (sz + 5504), .ref (sz + 5505), .ref (sz + 5506), .ref (sz + 5507), .ref (sz + 5508), .ref (sz + 5509), .int 0, .int 0, .int 0, .ref (sz + 5510), .ref (sz + 5511)] rfl ?_
  refine k_aload_n C dX12_init_517 518 rfl 0 rfl ?_
  subst hQ
  clear hP hz hl
  intro H locs ls hP hz hS hss ho hl
  have hP' := wM_all hP
  rw [lenM51] at hz
  clear hP
  obtain ⟨w1, w2, w3, w4, w5⟩ := wq_X12_plants
  have cb := callB_of (R := rm_X12_init) (own := RX12) (index := 177) (ws := Cond.code yX12_plants cX12_plants 1 none :: xWs) (ws' := xWs) (rm := rm_X12_plants) (mc := 0) (ms := 0) 0 C.2.2.2.2.1 (xGood yX12_plants cX12_plants 1 none w4) rfl rfl rfl (C.2.2.2.2.1 _ w3) (C.2.2.2.2.1 _ wml_X12_177) w5 ⟨by decide, by decide⟩
  have hin : ∀ q, xA (adM o sz) NCM H.size q → kA o sz q := fun q h => by
    rcases h with ⟨k, hk, rfl⟩ | h
    · unfold adM
      by_cases h0 : k = 0
      · rw [if_pos h0]; exact Or.inl rfl
      · rw [if_neg h0]; exact Or.inr (by omega)
    · exact Or.inr (by omega)
  refine va_callv (va_runV (As := []) (rest := []) (C := RX12) ⟨C.1, C.2.1, C.2.2.1, C.2.2.2.1, C.2.2.2.2.1⟩ (c_X12_plants (ad := adM o sz) (adM_inj ho) h0 H.size) ⟨cb, C.2.2.2.2.1 _ w1, C.2.2.2.2.1 _ w2⟩ ⟨xPre_blind, va_recv C.2.2.2.2.2.1 hP' (ci := 12) rfl (xw_get lm0 EM_0), fun U hU hW => ⟨rfl, by rw [hU], by rw [hU]; exact hP', va_K.moved hW.alike C.2.2.2.2.2.1, C.2.2.2.2.2.2.2.2.2.warm hW⟩⟩ rfl rfl hl.1 rfl (lv_room (Nat.le_of_ble_eq_true rfl)) dX12_init_518 ⟨by decide, by decide⟩) hS (fun q _ h => hin q h) (fun q h => hin q h) (fun u t H1 locs1 ht hvm hw hB _ _ hS1 => ?_)
  subst hw
  obtain ⟨⟨hP1, -⟩, z1⟩ := hB
  rw [ht] at hP1 z1
  exact W.vret C.1 C.2.1 C.2.2.2.2.2.2.1 (fun t ht hW => ⟨⟨(), rfl, trivial, ⟨by rw [ht]; exact hP1, va_K.moved hW.alike C.2.2.2.2.2.1⟩, by rw [ht]; exact z1.trans hz⟩, hS1.F ht⟩) hS1.2.2 dX12_init_521 C.2.2.2.2.2.2.2.1
