abbrev rm_X9_init : Room := { frames := 1, cells := 1, slots := 400, locals := 12 }
theorem k_X9 {l : Launch} {D : va_G} {ca : Nat → ClassId} {o sz : Nat} : xMk l yX9_init cX9_init 1 rm_X9_init D vwCl (tysC ca) [.ref o] o (.inr (9, [.null, .int 0, .int 0, .int 0, .int 0, .int 0])) sz (.inr (9, [.ref (sz + 0), .int 0, .int 0, .int 0, .int 0, .int (-1)])) [.inl (ca 0, 400, .inl (fun _ => 0))] := by
  refine k_met (by decide) (Nat.le_of_ble_eq_true rfl) ?_ rfl
  intro p e s m args below meth c C hn
  refine k_aload_n C dX9_init_0 1 rfl 0 rfl ?_
  refine k_oinit C wml_X9_3 dX9_init_1 4 rfl ⟨by decide, Nat.le_of_ble_eq_true rfl⟩ ?_
  refine k_aload_n C dX9_init_4 5 rfl 0 rfl ?_
  refine k_sipush C dX9_init_5 8 rfl 400 rfl ?_
  refine k_newa (atype := .int) (a0 := (400, .inl (fun _ => 0))) C 0 rfl (fun h => h) wma_int 400 (fun _ => rfl) (by decide) (by decide) (Nat.le_of_ble_eq_true rfl) ⟨by decide, by decide⟩ dX9_init_8 10 rfl (sz + 0) rfl ?_
  refine k_putF C inX9 tyX9_ok nmX9 rfl 0 (by decide) wmf_X9_9 rfl rfl rfl rfl (Nat.le_of_ble_eq_true rfl) dX9_init_10 13 rfl [.ref (sz + 0), .int 0, .int 0, .int 0, .int 0, .int 0] rfl ?_
  refine k_aload_n C dX9_init_13 14 rfl 0 rfl ?_
  refine k_iconst C dX9_init_14 15 rfl (-1) rfl ?_
  refine k_put C inX9 tyX9_ok nmX9 rfl 5 (by decide) wmf_X9_15 rfl rfl rfl (Nat.le_of_ble_eq_true rfl) dX9_init_15 18 rfl [.ref (sz + 0), .int 0, .int 0, .int 0, .int 0, .int (-1)] rfl ?_
  exact k_vret C dX9_init_18 rfl rfl
abbrev rm_X8_init : Room := { frames := 1, cells := 5, slots := 180, locals := 12 }
theorem k_X8 {l : Launch} {D : va_G} {ca : Nat → ClassId} {o sz : Nat} : xMk l yX8_init cX8_init 1 rm_X8_init D vwCl (tysC ca) [.ref o] o (.inr (8, [.int 0, .null, .null, .null, .null, .null])) sz (.inr (8, [.int 0, .ref (sz + 0), .ref (sz + 1), .ref (sz + 2), .ref (sz + 3), .ref (sz + 4)])) [.inl (ca 0, 20, .inl (fun _ => 0)), .inl (ca 0, 20, .inl (fun _ => 0)), .inl (ca 0, 20, .inl (fun _ => 0)), .inl (ca 0, 60, .inl (fun _ => 0)), .inl (ca 0, 60, .inl (fun _ => 0))] := by
  refine k_met (by decide) (Nat.le_of_ble_eq_true rfl) ?_ rfl
  intro p e s m args below meth c C hn
  refine k_aload_n C dX8_init_0 1 rfl 0 rfl ?_
  refine k_oinit C wml_X8_3 dX8_init_1 4 rfl ⟨by decide, Nat.le_of_ble_eq_true rfl⟩ ?_
  refine k_aload_n C dX8_init_4 5 rfl 0 rfl ?_
  refine k_bipush C dX8_init_5 7 rfl 20 rfl ?_
  refine k_newa (atype := .int) (a0 := (20, .inl (fun _ => 0))) C 0 rfl (fun h => h) wma_int 20 (fun _ => rfl) (by decide) (by decide) (Nat.le_of_ble_eq_true rfl) ⟨by decide, by decide⟩ dX8_init_7 9 rfl (sz + 0) rfl ?_
  refine k_putF C inX8 tyX8_ok nmX8 rfl 1 (by decide) wmf_X8_9 rfl rfl rfl rfl (Nat.le_of_ble_eq_true rfl) dX8_init_9 12 rfl [.int 0, .ref (sz + 0), .null, .null, .null, .null] rfl ?_
  refine k_aload_n C dX8_init_12 13 rfl 0 rfl ?_
  refine k_bipush C dX8_init_13 15 rfl 20 rfl ?_
  refine k_newa (atype := .int) (a0 := (20, .inl (fun _ => 0))) C 0 rfl (fun h => h) wma_int 20 (fun _ => rfl) (by decide) (by decide) (Nat.le_of_ble_eq_true rfl) ⟨by decide, by decide⟩ dX8_init_15 17 rfl (sz + 1) rfl ?_
  refine k_putF C inX8 tyX8_ok nmX8 rfl 2 (by decide) wmf_X8_15 rfl rfl rfl rfl (Nat.le_of_ble_eq_true rfl) dX8_init_17 20 rfl [.int 0, .ref (sz + 0), .ref (sz + 1), .null, .null, .null] rfl ?_
  refine k_aload_n C dX8_init_20 21 rfl 0 rfl ?_
  refine k_bipush C dX8_init_21 23 rfl 20 rfl ?_
  refine k_newa (atype := .int) (a0 := (20, .inl (fun _ => 0))) C 0 rfl (fun h => h) wma_int 20 (fun _ => rfl) (by decide) (by decide) (Nat.le_of_ble_eq_true rfl) ⟨by decide, by decide⟩ dX8_init_23 25 rfl (sz + 2) rfl ?_
  refine k_putF C inX8 tyX8_ok nmX8 rfl 3 (by decide) wmf_X8_18 rfl rfl rfl rfl (Nat.le_of_ble_eq_true rfl) dX8_init_25 28 rfl [.int 0, .ref (sz + 0), .ref (sz + 1), .ref (sz + 2), .null, .null] rfl ?_
  refine k_aload_n C dX8_init_28 29 rfl 0 rfl ?_
  refine k_bipush C dX8_init_29 31 rfl 60 rfl ?_
  refine k_newa (atype := .int) (a0 := (60, .inl (fun _ => 0))) C 0 rfl (fun h => h) wma_int 60 (fun _ => rfl) (by decide) (by decide) (Nat.le_of_ble_eq_true rfl) ⟨by decide, by decide⟩ dX8_init_31 33 rfl (sz + 3) rfl ?_
  refine k_putF C inX8 tyX8_ok nmX8 rfl 4 (by decide) wmf_X8_21 rfl rfl rfl rfl (Nat.le_of_ble_eq_true rfl) dX8_init_33 36 rfl [.int 0, .ref (sz + 0), .ref (sz + 1), .ref (sz + 2), .ref (sz + 3), .null] rfl ?_
  refine k_aload_n C dX8_init_36 37 rfl 0 rfl ?_
  refine k_bipush C dX8_init_37 39 rfl 60 rfl ?_
  refine k_newa (atype := .int) (a0 := (60, .inl (fun _ => 0))) C 0 rfl (fun h => h) wma_int 60 (fun _ => rfl) (by decide) (by decide) (Nat.le_of_ble_eq_true rfl) ⟨by decide, by decide⟩ dX8_init_39 41 rfl (sz + 4) rfl ?_
  refine k_putF C inX8 tyX8_ok nmX8 rfl 5 (by decide) wmf_X8_24 rfl rfl rfl rfl (Nat.le_of_ble_eq_true rfl) dX8_init_41 44 rfl [.int 0, .ref (sz + 0), .ref (sz + 1), .ref (sz + 2), .ref (sz + 3), .ref (sz + 4)] rfl ?_
  exact k_vret C dX8_init_44 rfl rfl
abbrev rm_X5_init : Room := { frames := 1, cells := 8, slots := 3361, locals := 12 }
theorem k_X5 {l : Launch} {D : va_G} {ca : Nat → ClassId} {o sz : Nat} : xMk l yX5_init cX5_init 1 rm_X5_init D vwCl (tysC ca) [.ref o] o (.inr (5, [.int 0, .int 0, .int 0, .null, .null, .null, .null, .null, .null, .null, .null])) sz (.inr (5, [.int 0, .int 0, .int 0, .ref (sz + 0), .ref (sz + 1), .ref (sz + 2), .ref (sz + 3), .ref (sz + 4), .ref (sz + 5), .ref (sz + 6), .ref (sz + 7)])) [.inl (ca 0, 41, .inl (fun _ => 0)), .inl (ca 0, 40, .inl (fun _ => 0)), .inl (ca 1, 40, .inl (fun _ => 0)), .inl (ca 1, 40, .inl (fun _ => 0)), .inl (ca 0, 400, .inl (fun _ => 0)), .inl (ca 0, 400, .inl (fun _ => 0)), .inl (ca 0, 1200, .inl (fun _ => 0)), .inl (ca 0, 1200, .inl (fun _ => 0))] := by
  refine k_met (by decide) (Nat.le_of_ble_eq_true rfl) ?_ rfl
  intro p e s m args below meth c C hn
  refine k_aload_n C dX5_init_0 1 rfl 0 rfl ?_
  refine k_oinit C wml_X5_3 dX5_init_1 4 rfl ⟨by decide, Nat.le_of_ble_eq_true rfl⟩ ?_
  refine k_aload_n C dX5_init_4 5 rfl 0 rfl ?_
  refine k_bipush C dX5_init_5 7 rfl 41 rfl ?_
  refine k_newa (atype := .int) (a0 := (41, .inl (fun _ => 0))) C 0 rfl (fun h => h) wma_int 41 (fun _ => rfl) (by decide) (by decide) (Nat.le_of_ble_eq_true rfl) ⟨by decide, by decide⟩ dX5_init_7 9 rfl (sz + 0) rfl ?_
  refine k_putF C inX5 tyX5_ok nmX5 rfl 3 (by decide) wmf_X5_9 rfl rfl rfl rfl (Nat.le_of_ble_eq_true rfl) dX5_init_9 12 rfl [.int 0, .int 0, .int 0, .ref (sz + 0), .null, .null, .null, .null, .null, .null, .null] rfl ?_
  refine k_aload_n C dX5_init_12 13 rfl 0 rfl ?_
  refine k_bipush C dX5_init_13 15 rfl 40 rfl ?_
  refine k_newa (atype := .int) (a0 := (40, .inl (fun _ => 0))) C 0 rfl (fun h => h) wma_int 40 (fun _ => rfl) (by decide) (by decide) (Nat.le_of_ble_eq_true rfl) ⟨by decide, by decide⟩ dX5_init_15 17 rfl (sz + 1) rfl ?_
  refine k_putF C inX5 tyX5_ok nmX5 rfl 4 (by decide) wmf_X5_15 rfl rfl rfl rfl (Nat.le_of_ble_eq_true rfl) dX5_init_17 20 rfl [.int 0, .int 0, .int 0, .ref (sz + 0), .ref (sz + 1), .null, .null, .null, .null, .null, .null] rfl ?_
  refine k_aload_n C dX5_init_20 21 rfl 0 rfl ?_
  refine k_bipush C dX5_init_21 23 rfl 40 rfl ?_
  refine k_newa (atype := .boolean) (a0 := (40, .inl (fun _ => 0))) C 1 rfl (fun h => h) wma_boolean 40 (fun _ => rfl) (by decide) (by decide) (Nat.le_of_ble_eq_true rfl) ⟨by decide, by decide⟩ dX5_init_23 25 rfl (sz + 2) rfl ?_
  refine k_putF C inX5 tyX5_ok nmX5 rfl 5 (by decide) wmf_X5_18 rfl rfl rfl rfl (Nat.le_of_ble_eq_true rfl) dX5_init_25 28 rfl [.int 0, .int 0, .int 0, .ref (sz + 0), .ref (sz + 1), .ref (sz + 2), .null, .null, .null, .null, .null] rfl ?_
  refine k_aload_n C dX5_init_28 29 rfl 0 rfl ?_
  refine k_bipush C dX5_init_29 31 rfl 40 rfl ?_
  refine k_newa (atype := .boolean) (a0 := (40, .inl (fun _ => 0))) C 1 rfl (fun h => h) wma_boolean 40 (fun _ => rfl) (by decide) (by decide) (Nat.le_of_ble_eq_true rfl) ⟨by decide, by decide⟩ dX5_init_31 33 rfl (sz + 3) rfl ?_
  refine k_putF C inX5 tyX5_ok nmX5 rfl 6 (by decide) wmf_X5_22 rfl rfl rfl rfl (Nat.le_of_ble_eq_true rfl) dX5_init_33 36 rfl [.int 0, .int 0, .int 0, .ref (sz + 0), .ref (sz + 1), .ref (sz + 2), .ref (sz + 3), .null, .null, .null, .null] rfl ?_
  refine k_aload_n C dX5_init_36 37 rfl 0 rfl ?_
  refine k_sipush C dX5_init_37 40 rfl 400 rfl ?_
  refine k_newa (atype := .int) (a0 := (400, .inl (fun _ => 0))) C 0 rfl (fun h => h) wma_int 400 (fun _ => rfl) (by decide) (by decide) (Nat.le_of_ble_eq_true rfl) ⟨by decide, by decide⟩ dX5_init_40 42 rfl (sz + 4) rfl ?_
  refine k_putF C inX5 tyX5_ok nmX5 rfl 7 (by decide) wmf_X5_25 rfl rfl rfl rfl (Nat.le_of_ble_eq_true rfl) dX5_init_42 45 rfl [.int 0, .int 0, .int 0, .ref (sz + 0), .ref (sz + 1), .ref (sz + 2), .ref (sz + 3), .ref (sz + 4), .null, .null, .null] rfl ?_
  refine k_aload_n C dX5_init_45 46 rfl 0 rfl ?_
  refine k_sipush C dX5_init_46 49 rfl 400 rfl ?_
  refine k_newa (atype := .int) (a0 := (400, .inl (fun _ => 0))) C 0 rfl (fun h => h) wma_int 400 (fun _ => rfl) (by decide) (by decide) (Nat.le_of_ble_eq_true rfl) ⟨by decide, by decide⟩ dX5_init_49 51 rfl (sz + 5) rfl ?_
  refine k_putF C inX5 tyX5_ok nmX5 rfl 8 (by decide) wmf_X5_28 rfl rfl rfl rfl (Nat.le_of_ble_eq_true rfl) dX5_init_51 54 rfl [.int 0, .int 0, .int 0, .ref (sz + 0), .ref (sz + 1), .ref (sz + 2), .ref (sz + 3), .ref (sz + 4), .ref (sz + 5), .null, .null] rfl ?_
  refine k_aload_n C dX5_init_54 55 rfl 0 rfl ?_
  refine k_sipush C dX5_init_55 58 rfl 1200 rfl ?_
  refine k_newa (atype := .int) (a0 := (1200, .inl (fun _ => 0))) C 0 rfl (fun h => h) wma_int 1200 (fun _ => rfl) (by decide) (by decide) (Nat.le_of_ble_eq_true rfl) ⟨by decide, by decide⟩ dX5_init_58 60 rfl (sz + 6) rfl ?_
  refine k_putF C inX5 tyX5_ok nmX5 rfl 9 (by decide) wmf_X5_31 rfl rfl rfl rfl (Nat.le_of_ble_eq_true rfl) dX5_init_60 63 rfl [.int 0, .int 0, .int 0, .ref (sz + 0), .ref (sz + 1), .ref (sz + 2), .ref (sz + 3), .ref (sz + 4), .ref (sz + 5), .ref (sz + 6), .null] rfl ?_
  refine k_aload_n C dX5_init_63 64 rfl 0 rfl ?_
  refine k_sipush C dX5_init_64 67 rfl 1200 rfl ?_
  refine k_newa (atype := .int) (a0 := (1200, .inl (fun _ => 0))) C 0 rfl (fun h => h) wma_int 1200 (fun _ => rfl) (by decide) (by decide) (Nat.le_of_ble_eq_true rfl) ⟨by decide, by decide⟩ dX5_init_67 69 rfl (sz + 7) rfl ?_
  refine k_putF C inX5 tyX5_ok nmX5 rfl 10 (by decide) wmf_X5_34 rfl rfl rfl rfl (Nat.le_of_ble_eq_true rfl) dX5_init_69 72 rfl [.int 0, .int 0, .int 0, .ref (sz + 0), .ref (sz + 1), .ref (sz + 2), .ref (sz + 3), .ref (sz + 4), .ref (sz + 5), .ref (sz + 6), .ref (sz + 7)] rfl ?_
  exact k_vret C dX5_init_72 rfl rfl
abbrev rm_X1_init : Room := { frames := 1, cells := 3, slots := 180, locals := 12 }
theorem k_X1 {l : Launch} {D : va_G} {ca : Nat → ClassId} {o sz a1 : Nat} : xMk l yX1_init cX1_init 2 rm_X1_init D vwCl (tysC ca) [.ref o, .ref a1] o (.inr (1, [.null, .int 0, .null, .null, .null])) sz (.inr (1, [.ref a1, .int 0, .ref (sz + 0), .ref (sz + 1), .ref (sz + 2)])) [.inl (ca 0, 60, .inl (fun _ => 0)), .inl (ca 0, 60, .inl (fun _ => 0)), .inl (ca 0, 60, .inl (fun _ => 0))] := by
  refine k_met (by decide) (Nat.le_of_ble_eq_true rfl) ?_ rfl
  intro p e s m args below meth c C hn
  refine k_aload_n C dX1_init_0 1 rfl 0 rfl ?_
  refine k_oinit C wml_X1_3 dX1_init_1 4 rfl ⟨by decide, Nat.le_of_ble_eq_true rfl⟩ ?_
  refine k_aload_n C dX1_init_4 5 rfl 0 rfl ?_
  refine k_bipush C dX1_init_5 7 rfl 60 rfl ?_
  refine k_newa (atype := .int) (a0 := (60, .inl (fun _ => 0))) C 0 rfl (fun h => h) wma_int 60 (fun _ => rfl) (by decide) (by decide) (Nat.le_of_ble_eq_true rfl) ⟨by decide, by decide⟩ dX1_init_7 9 rfl (sz + 0) rfl ?_
  refine k_putF C inX1 tyX1_ok nmX1 rfl 2 (by decide) wmf_X1_9 rfl rfl rfl rfl (Nat.le_of_ble_eq_true rfl) dX1_init_9 12 rfl [.null, .int 0, .ref (sz + 0), .null, .null] rfl ?_
  refine k_aload_n C dX1_init_12 13 rfl 0 rfl ?_
  refine k_bipush C dX1_init_13 15 rfl 60 rfl ?_
  refine k_newa (atype := .int) (a0 := (60, .inl (fun _ => 0))) C 0 rfl (fun h => h) wma_int 60 (fun _ => rfl) (by decide) (by decide) (Nat.le_of_ble_eq_true rfl) ⟨by decide, by decide⟩ dX1_init_15 17 rfl (sz + 1) rfl ?_
  refine k_putF C inX1 tyX1_ok nmX1 rfl 3 (by decide) wmf_X1_15 rfl rfl rfl rfl (Nat.le_of_ble_eq_true rfl) dX1_init_17 20 rfl [.null, .int 0, .ref (sz + 0), .ref (sz + 1), .null] rfl ?_
  refine k_aload_n C dX1_init_20 21 rfl 0 rfl ?_
  refine k_bipush C dX1_init_21 23 rfl 60 rfl ?_
  refine k_newa (atype := .int) (a0 := (60, .inl (fun _ => 0))) C 0 rfl (fun h => h) wma_int 60 (fun _ => rfl) (by decide) (by decide) (Nat.le_of_ble_eq_true rfl) ⟨by decide, by decide⟩ dX1_init_23 25 rfl (sz + 2) rfl ?_
  refine k_putF C inX1 tyX1_ok nmX1 rfl 4 (by decide) wmf_X1_18 rfl rfl rfl rfl (Nat.le_of_ble_eq_true rfl) dX1_init_25 28 rfl [.null, .int 0, .ref (sz + 0), .ref (sz + 1), .ref (sz + 2)] rfl ?_
  refine k_aload_n C dX1_init_28 29 rfl 0 rfl ?_
  refine k_aload_n C dX1_init_29 30 rfl 1 rfl ?_
  refine k_putF C inX1 tyX1_ok nmX1 rfl 0 (by decide) wmf_X1_21 rfl rfl rfl rfl (Nat.le_of_ble_eq_true rfl) dX1_init_30 33 rfl [.ref a1, .int 0, .ref (sz + 0), .ref (sz + 1), .ref (sz + 2)] rfl ?_
  exact k_vret C dX1_init_33 rfl rfl
abbrev rm_X4_init : Room := { frames := 1, cells := 9, slots := 5067, locals := 12 }
theorem k_X4 {l : Launch} {D : va_G} {ca : Nat → ClassId} {o sz a1 a2 a3 a4 : Nat} : xMk l yX4_init cX4_init 5 rm_X4_init D vwCl (tysC ca) [.ref o, .ref a1, .ref a2, .ref a3, .ref a4] o (.inr (4, [.null, .null, .null, .null, .int 0, .int 0, .null, .null, .null, .null, .null, .null, .null, .null, .null])) sz (.inr (4, [.ref a1, .ref a2, .ref a3, .ref a4, .int 0, .int 0, .ref (sz + 0), .ref (sz + 1), .ref (sz + 2), .ref (sz + 3), .ref (sz + 4), .ref (sz + 5), .ref (sz + 6), .ref (sz + 7), .ref (sz + 8)])) [.inl (ca 0, 24, .inl (fun _ => 0)), .inl (ca 0, 26, .inl (fun _ => 0)), .inl (ca 0, 624, .inl (fun _ => 0)), .inl (ca 0, 624, .inl (fun _ => 0)), .inl (ca 0, 624, .inl (fun _ => 0)), .inl (ca 0, 624, .inl (fun _ => 0)), .inl (ca 0, 1872, .inl (fun _ => 0)), .inl (ca 0, 624, .inl (fun _ => 0)), .inl (ca 0, 25, .inl (fun _ => 0))] := by
  refine k_met (by decide) (Nat.le_of_ble_eq_true rfl) ?_ rfl
  intro p e s m args below meth c C hn
  refine k_aload_n C dX4_init_0 1 rfl 0 rfl ?_
  refine k_oinit C wml_X4_3 dX4_init_1 4 rfl ⟨by decide, Nat.le_of_ble_eq_true rfl⟩ ?_
  refine k_aload_n C dX4_init_4 5 rfl 0 rfl ?_
  refine k_bipush C dX4_init_5 7 rfl 24 rfl ?_
  refine k_newa (atype := .int) (a0 := (24, .inl (fun _ => 0))) C 0 rfl (fun h => h) wma_int 24 (fun _ => rfl) (by decide) (by decide) (Nat.le_of_ble_eq_true rfl) ⟨by decide, by decide⟩ dX4_init_7 9 rfl (sz + 0) rfl ?_
  refine k_putF C inX4 tyX4_ok nmX4 rfl 6 (by decide) wmf_X4_9 rfl rfl rfl rfl (Nat.le_of_ble_eq_true rfl) dX4_init_9 12 rfl [.null, .null, .null, .null, .int 0, .int 0, .ref (sz + 0), .null, .null, .null, .null, .null, .null, .null, .null] rfl ?_
  refine k_aload_n C dX4_init_12 13 rfl 0 rfl ?_
  refine k_bipush C dX4_init_13 15 rfl 26 rfl ?_
  refine k_newa (atype := .int) (a0 := (26, .inl (fun _ => 0))) C 0 rfl (fun h => h) wma_int 26 (fun _ => rfl) (by decide) (by decide) (Nat.le_of_ble_eq_true rfl) ⟨by decide, by decide⟩ dX4_init_15 17 rfl (sz + 1) rfl ?_
  refine k_putF C inX4 tyX4_ok nmX4 rfl 7 (by decide) wmf_X4_15 rfl rfl rfl rfl (Nat.le_of_ble_eq_true rfl) dX4_init_17 20 rfl [.null, .null, .null, .null, .int 0, .int 0, .ref (sz + 0), .ref (sz + 1), .null, .null, .null, .null, .null, .null, .null] rfl ?_
  refine k_aload_n C dX4_init_20 21 rfl 0 rfl ?_
  refine k_sipush C dX4_init_21 24 rfl 624 rfl ?_
  refine k_newa (atype := .int) (a0 := (624, .inl (fun _ => 0))) C 0 rfl (fun h => h) wma_int 624 (fun _ => rfl) (by decide) (by decide) (Nat.le_of_ble_eq_true rfl) ⟨by decide, by decide⟩ dX4_init_24 26 rfl (sz + 2) rfl ?_
  refine k_putF C inX4 tyX4_ok nmX4 rfl 8 (by decide) wmf_X4_18 rfl rfl rfl rfl (Nat.le_of_ble_eq_true rfl) dX4_init_26 29 rfl [.null, .null, .null, .null, .int 0, .int 0, .ref (sz + 0), .ref (sz + 1), .ref (sz + 2), .null, .null, .null, .null, .null, .null] rfl ?_
  refine k_aload_n C dX4_init_29 30 rfl 0 rfl ?_
  refine k_sipush C dX4_init_30 33 rfl 624 rfl ?_
  refine k_newa (atype := .int) (a0 := (624, .inl (fun _ => 0))) C 0 rfl (fun h => h) wma_int 624 (fun _ => rfl) (by decide) (by decide) (Nat.le_of_ble_eq_true rfl) ⟨by decide, by decide⟩ dX4_init_33 35 rfl (sz + 3) rfl ?_
  refine k_putF C inX4 tyX4_ok nmX4 rfl 9 (by decide) wmf_X4_21 rfl rfl rfl rfl (Nat.le_of_ble_eq_true rfl) dX4_init_35 38 rfl [.null, .null, .null, .null, .int 0, .int 0, .ref (sz + 0), .ref (sz + 1), .ref (sz + 2), .ref (sz + 3), .null, .null, .null, .null, .null] rfl ?_
  refine k_aload_n C dX4_init_38 39 rfl 0 rfl ?_
  refine k_sipush C dX4_init_39 42 rfl 624 rfl ?_
  refine k_newa (atype := .int) (a0 := (624, .inl (fun _ => 0))) C 0 rfl (fun h => h) wma_int 624 (fun _ => rfl) (by decide) (by decide) (Nat.le_of_ble_eq_true rfl) ⟨by decide, by decide⟩ dX4_init_42 44 rfl (sz + 4) rfl ?_
  refine k_putF C inX4 tyX4_ok nmX4 rfl 10 (by decide) wmf_X4_24 rfl rfl rfl rfl (Nat.le_of_ble_eq_true rfl) dX4_init_44 47 rfl [.null, .null, .null, .null, .int 0, .int 0, .ref (sz + 0), .ref (sz + 1), .ref (sz + 2), .ref (sz + 3), .ref (sz + 4), .null, .null, .null, .null] rfl ?_
  refine k_aload_n C dX4_init_47 48 rfl 0 rfl ?_
  refine k_sipush C dX4_init_48 51 rfl 624 rfl ?_
  refine k_newa (atype := .int) (a0 := (624, .inl (fun _ => 0))) C 0 rfl (fun h => h) wma_int 624 (fun _ => rfl) (by decide) (by decide) (Nat.le_of_ble_eq_true rfl) ⟨by decide, by decide⟩ dX4_init_51 53 rfl (sz + 5) rfl ?_
  refine k_putF C inX4 tyX4_ok nmX4 rfl 11 (by decide) wmf_X4_27 rfl rfl rfl rfl (Nat.le_of_ble_eq_true rfl) dX4_init_53 56 rfl [.null, .null, .null, .null, .int 0, .int 0, .ref (sz + 0), .ref (sz + 1), .ref (sz + 2), .ref (sz + 3), .ref (sz + 4), .ref (sz + 5), .null, .null, .null] rfl ?_
  refine k_aload_n C dX4_init_56 57 rfl 0 rfl ?_
  refine k_sipush C dX4_init_57 60 rfl 1872 rfl ?_
  refine k_newa (atype := .int) (a0 := (1872, .inl (fun _ => 0))) C 0 rfl (fun h => h) wma_int 1872 (fun _ => rfl) (by decide) (by decide) (Nat.le_of_ble_eq_true rfl) ⟨by decide, by decide⟩ dX4_init_60 62 rfl (sz + 6) rfl ?_
  refine k_putF C inX4 tyX4_ok nmX4 rfl 12 (by decide) wmf_X4_30 rfl rfl rfl rfl (Nat.le_of_ble_eq_true rfl) dX4_init_62 65 rfl [.null, .null, .null, .null, .int 0, .int 0, .ref (sz + 0), .ref (sz + 1), .ref (sz + 2), .ref (sz + 3), .ref (sz + 4), .ref (sz + 5), .ref (sz + 6), .null, .null] rfl ?_
  refine k_aload_n C dX4_init_65 66 rfl 0 rfl ?_
  refine k_sipush C dX4_init_66 69 rfl 624 rfl ?_
  refine k_newa (atype := .int) (a0 := (624, .inl (fun _ => 0))) C 0 rfl (fun h => h) wma_int 624 (fun _ => rfl) (by decide) (by decide) (Nat.le_of_ble_eq_true rfl) ⟨by decide, by decide⟩ dX4_init_69 71 rfl (sz + 7) rfl ?_
  refine k_putF C inX4 tyX4_ok nmX4 rfl 13 (by decide) wmf_X4_33 rfl rfl rfl rfl (Nat.le_of_ble_eq_true rfl) dX4_init_71 74 rfl [.null, .null, .null, .null, .int 0, .int 0, .ref (sz + 0), .ref (sz + 1), .ref (sz + 2), .ref (sz + 3), .ref (sz + 4), .ref (sz + 5), .ref (sz + 6), .ref (sz + 7), .null] rfl ?_
  refine k_aload_n C dX4_init_74 75 rfl 0 rfl ?_
  refine k_bipush C dX4_init_75 77 rfl 25 rfl ?_
  refine k_newa (atype := .int) (a0 := (25, .inl (fun _ => 0))) C 0 rfl (fun h => h) wma_int 25 (fun _ => rfl) (by decide) (by decide) (Nat.le_of_ble_eq_true rfl) ⟨by decide, by decide⟩ dX4_init_77 79 rfl (sz + 8) rfl ?_
  refine k_putF C inX4 tyX4_ok nmX4 rfl 14 (by decide) wmf_X4_36 rfl rfl rfl rfl (Nat.le_of_ble_eq_true rfl) dX4_init_79 82 rfl [.null, .null, .null, .null, .int 0, .int 0, .ref (sz + 0), .ref (sz + 1), .ref (sz + 2), .ref (sz + 3), .ref (sz + 4), .ref (sz + 5), .ref (sz + 6), .ref (sz + 7), .ref (sz + 8)] rfl ?_
  refine k_aload_n C dX4_init_82 83 rfl 0 rfl ?_
  refine k_aload_n C dX4_init_83 84 rfl 1 rfl ?_
  refine k_putF C inX4 tyX4_ok nmX4 rfl 0 (by decide) wmf_X4_39 rfl rfl rfl rfl (Nat.le_of_ble_eq_true rfl) dX4_init_84 87 rfl [.ref a1, .null, .null, .null, .int 0, .int 0, .ref (sz + 0), .ref (sz + 1), .ref (sz + 2), .ref (sz + 3), .ref (sz + 4), .ref (sz + 5), .ref (sz + 6), .ref (sz + 7), .ref (sz + 8)] rfl ?_
  refine k_aload_n C dX4_init_87 88 rfl 0 rfl ?_
  refine k_aload_n C dX4_init_88 89 rfl 2 rfl ?_
  refine k_putF C inX4 tyX4_ok nmX4 rfl 1 (by decide) wmf_X4_43 rfl rfl rfl rfl (Nat.le_of_ble_eq_true rfl) dX4_init_89 92 rfl [.ref a1, .ref a2, .null, .null, .int 0, .int 0, .ref (sz + 0), .ref (sz + 1), .ref (sz + 2), .ref (sz + 3), .ref (sz + 4), .ref (sz + 5), .ref (sz + 6), .ref (sz + 7), .ref (sz + 8)] rfl ?_
  refine k_aload_n C dX4_init_92 93 rfl 0 rfl ?_
  refine k_aload_n C dX4_init_93 94 rfl 3 rfl ?_
  refine k_putF C inX4 tyX4_ok nmX4 rfl 2 (by decide) wmf_X4_47 rfl rfl rfl rfl (Nat.le_of_ble_eq_true rfl) dX4_init_94 97 rfl [.ref a1, .ref a2, .ref a3, .null, .int 0, .int 0, .ref (sz + 0), .ref (sz + 1), .ref (sz + 2), .ref (sz + 3), .ref (sz + 4), .ref (sz + 5), .ref (sz + 6), .ref (sz + 7), .ref (sz + 8)] rfl ?_
  refine k_aload_n C dX4_init_97 98 rfl 0 rfl ?_
  refine k_aload C dX4_init_98 100 rfl 4 rfl ?_
  refine k_putF C inX4 tyX4_ok nmX4 rfl 3 (by decide) wmf_X4_51 rfl rfl rfl rfl (Nat.le_of_ble_eq_true rfl) dX4_init_100 103 rfl [.ref a1, .ref a2, .ref a3, .ref a4, .int 0, .int 0, .ref (sz + 0), .ref (sz + 1), .ref (sz + 2), .ref (sz + 3), .ref (sz + 4), .ref (sz + 5), .ref (sz + 6), .ref (sz + 7), .ref (sz + 8)] rfl ?_
  exact k_vret C dX4_init_103 rfl rfl
abbrev rm_X6_init : Room := { frames := 1, cells := 6, slots := 54435, locals := 12 }
theorem k_X6 {l : Launch} {D : va_G} {ca : Nat → ClassId} {o sz a1 a2 : Nat} : xMk l yX6_init cX6_init 3 rm_X6_init D vwCl (tysC ca) [.ref o, .ref a1, .ref a2] o (.inr (6, [.null, .null, .int 0, .null, .null, .null, .int 0, .int 0, .null, .null, .int 0, .null])) sz (.inr (6, [.ref a1, .ref a2, .int 0, .ref (sz + 0), .ref (sz + 1), .ref (sz + 2), .int 0, .int 0, .ref (sz + 3), .ref (sz + 4), .int 0, .ref (sz + 5)])) [.inl (ca 0, 60, .inl (fun _ => 0)), .inl (ca 0, 60, .inl (fun _ => 0)), .inl (ca 0, 60, .inl (fun _ => 0)), .inl (ca 0, 18085, .inl (fun _ => 0)), .inl (ca 0, 18085, .inl (fun _ => 0)), .inl (ca 0, 18085, .inl (fun _ => 0))] := by
  refine k_met (by decide) (Nat.le_of_ble_eq_true rfl) ?_ rfl
  intro p e s m args below meth c C hn
  refine k_aload_n C dX6_init_0 1 rfl 0 rfl ?_
  refine k_oinit C wml_X6_5 dX6_init_1 4 rfl ⟨by decide, Nat.le_of_ble_eq_true rfl⟩ ?_
  refine k_aload_n C dX6_init_4 5 rfl 0 rfl ?_
  refine k_bipush C dX6_init_5 7 rfl 60 rfl ?_
  refine k_newa (atype := .int) (a0 := (60, .inl (fun _ => 0))) C 0 rfl (fun h => h) wma_int 60 (fun _ => rfl) (by decide) (by decide) (Nat.le_of_ble_eq_true rfl) ⟨by decide, by decide⟩ dX6_init_7 9 rfl (sz + 0) rfl ?_
  refine k_putF C inX6 tyX6_ok nmX6 rfl 3 (by decide) wmf_X6_11 rfl rfl rfl rfl (Nat.le_of_ble_eq_true rfl) dX6_init_9 12 rfl [.null, .null, .int 0, .ref (sz + 0), .null, .null, .int 0, .int 0, .null, .null, .int 0, .null] rfl ?_
  refine k_aload_n C dX6_init_12 13 rfl 0 rfl ?_
  refine k_bipush C dX6_init_13 15 rfl 60 rfl ?_
  refine k_newa (atype := .int) (a0 := (60, .inl (fun _ => 0))) C 0 rfl (fun h => h) wma_int 60 (fun _ => rfl) (by decide) (by decide) (Nat.le_of_ble_eq_true rfl) ⟨by decide, by decide⟩ dX6_init_15 17 rfl (sz + 1) rfl ?_
  refine k_putF C inX6 tyX6_ok nmX6 rfl 4 (by decide) wmf_X6_15 rfl rfl rfl rfl (Nat.le_of_ble_eq_true rfl) dX6_init_17 20 rfl [.null, .null, .int 0, .ref (sz + 0), .ref (sz + 1), .null, .int 0, .int 0, .null, .null, .int 0, .null] rfl ?_
  refine k_aload_n C dX6_init_20 21 rfl 0 rfl ?_
  refine k_bipush C dX6_init_21 23 rfl 60 rfl ?_
  refine k_newa (atype := .int) (a0 := (60, .inl (fun _ => 0))) C 0 rfl (fun h => h) wma_int 60 (fun _ => rfl) (by decide) (by decide) (Nat.le_of_ble_eq_true rfl) ⟨by decide, by decide⟩ dX6_init_23 25 rfl (sz + 2) rfl ?_
  refine k_putF C inX6 tyX6_ok nmX6 rfl 5 (by decide) wmf_X6_18 rfl rfl rfl rfl (Nat.le_of_ble_eq_true rfl) dX6_init_25 28 rfl [.null, .null, .int 0, .ref (sz + 0), .ref (sz + 1), .ref (sz + 2), .int 0, .int 0, .null, .null, .int 0, .null] rfl ?_
  refine k_aload_n C dX6_init_28 29 rfl 0 rfl ?_
  refine k_sipush C dX6_init_29 32 rfl 18085 rfl ?_
  refine k_newa (atype := .int) (a0 := (18085, .inl (fun _ => 0))) C 0 rfl (fun h => h) wma_int 18085 (fun _ => rfl) (by decide) (by decide) (Nat.le_of_ble_eq_true rfl) ⟨by decide, by decide⟩ dX6_init_32 34 rfl (sz + 3) rfl ?_
  refine k_putF C inX6 tyX6_ok nmX6 rfl 8 (by decide) wmf_X6_21 rfl rfl rfl rfl (Nat.le_of_ble_eq_true rfl) dX6_init_34 37 rfl [.null, .null, .int 0, .ref (sz + 0), .ref (sz + 1), .ref (sz + 2), .int 0, .int 0, .ref (sz + 3), .null, .int 0, .null] rfl ?_
  refine k_aload_n C dX6_init_37 38 rfl 0 rfl ?_
  refine k_sipush C dX6_init_38 41 rfl 18085 rfl ?_
  refine k_newa (atype := .int) (a0 := (18085, .inl (fun _ => 0))) C 0 rfl (fun h => h) wma_int 18085 (fun _ => rfl) (by decide) (by decide) (Nat.le_of_ble_eq_true rfl) ⟨by decide, by decide⟩ dX6_init_41 43 rfl (sz + 4) rfl ?_
  refine k_putF C inX6 tyX6_ok nmX6 rfl 9 (by decide) wmf_X6_24 rfl rfl rfl rfl (Nat.le_of_ble_eq_true rfl) dX6_init_43 46 rfl [.null, .null, .int 0, .ref (sz + 0), .ref (sz + 1), .ref (sz + 2), .int 0, .int 0, .ref (sz + 3), .ref (sz + 4), .int 0, .null] rfl ?_
  refine k_aload_n C dX6_init_46 47 rfl 0 rfl ?_
  refine k_sipush C dX6_init_47 50 rfl 18085 rfl ?_
  refine k_newa (atype := .int) (a0 := (18085, .inl (fun _ => 0))) C 0 rfl (fun h => h) wma_int 18085 (fun _ => rfl) (by decide) (by decide) (Nat.le_of_ble_eq_true rfl) ⟨by decide, by decide⟩ dX6_init_50 52 rfl (sz + 5) rfl ?_
  refine k_putF C inX6 tyX6_ok nmX6 rfl 11 (by decide) wmf_X6_27 rfl rfl rfl rfl (Nat.le_of_ble_eq_true rfl) dX6_init_52 55 rfl [.null, .null, .int 0, .ref (sz + 0), .ref (sz + 1), .ref (sz + 2), .int 0, .int 0, .ref (sz + 3), .ref (sz + 4), .int 0, .ref (sz + 5)] rfl ?_
  refine k_aload_n C dX6_init_55 56 rfl 0 rfl ?_
  refine k_aload_n C dX6_init_56 57 rfl 1 rfl ?_
  refine k_putF C inX6 tyX6_ok nmX6 rfl 0 (by decide) wmf_X6_30 rfl rfl rfl rfl (Nat.le_of_ble_eq_true rfl) dX6_init_57 60 rfl [.ref a1, .null, .int 0, .ref (sz + 0), .ref (sz + 1), .ref (sz + 2), .int 0, .int 0, .ref (sz + 3), .ref (sz + 4), .int 0, .ref (sz + 5)] rfl ?_
  refine k_aload_n C dX6_init_60 61 rfl 0 rfl ?_
  refine k_aload_n C dX6_init_61 62 rfl 2 rfl ?_
  refine k_putF C inX6 tyX6_ok nmX6 rfl 1 (by decide) wmf_X6_34 rfl rfl rfl rfl (Nat.le_of_ble_eq_true rfl) dX6_init_62 65 rfl [.ref a1, .ref a2, .int 0, .ref (sz + 0), .ref (sz + 1), .ref (sz + 2), .int 0, .int 0, .ref (sz + 3), .ref (sz + 4), .int 0, .ref (sz + 5)] rfl ?_
  exact k_vret C dX6_init_65 rfl rfl
abbrev rm_X0_init : Room := { frames := 1, cells := 5, slots := 25480, locals := 12 }
theorem k_X0 {l : Launch} {D : va_G} {ca : Nat → ClassId} {o sz a1 a2 a3 : Nat} : xMk l yX0_init cX0_init 4 rm_X0_init D vwCl (tysC ca) [.ref o, .ref a1, .ref a2, .ref a3] o (.inr (0, [.null, .null, .null, .null, .null, .null, .null, .null])) sz (.inr (0, [.ref a1, .ref a2, .ref a3, .ref (sz + 0), .ref (sz + 1), .ref (sz + 2), .ref (sz + 3), .ref (sz + 4)])) [.inl (ca 1, 140, .inl (fun _ => 0)), .inl (ca 0, 140, .inl (fun _ => 0)), .inl (ca 0, 8400, .inl (fun _ => 0)), .inl (ca 0, 8400, .inl (fun _ => 0)), .inl (ca 0, 8400, .inl (fun _ => 0))] := by
  refine k_met (by decide) (Nat.le_of_ble_eq_true rfl) ?_ rfl
  intro p e s m args below meth c C hn
  refine k_aload_n C dX0_init_0 1 rfl 0 rfl ?_
  refine k_oinit C wml_X0_5 dX0_init_1 4 rfl ⟨by decide, Nat.le_of_ble_eq_true rfl⟩ ?_
  refine k_aload_n C dX0_init_4 5 rfl 0 rfl ?_
  refine k_sipush C dX0_init_5 8 rfl 140 rfl ?_
  refine k_newa (atype := .boolean) (a0 := (140, .inl (fun _ => 0))) C 1 rfl (fun h => h) wma_boolean 140 (fun _ => rfl) (by decide) (by decide) (Nat.le_of_ble_eq_true rfl) ⟨by decide, by decide⟩ dX0_init_8 10 rfl (sz + 0) rfl ?_
  refine k_putF C inX0 tyX0_ok nmX0 rfl 3 (by decide) wmf_X0_11 rfl rfl rfl rfl (Nat.le_of_ble_eq_true rfl) dX0_init_10 13 rfl [.null, .null, .null, .ref (sz + 0), .null, .null, .null, .null] rfl ?_
  refine k_aload_n C dX0_init_13 14 rfl 0 rfl ?_
  refine k_sipush C dX0_init_14 17 rfl 140 rfl ?_
  refine k_newa (atype := .int) (a0 := (140, .inl (fun _ => 0))) C 0 rfl (fun h => h) wma_int 140 (fun _ => rfl) (by decide) (by decide) (Nat.le_of_ble_eq_true rfl) ⟨by decide, by decide⟩ dX0_init_17 19 rfl (sz + 1) rfl ?_
  refine k_putF C inX0 tyX0_ok nmX0 rfl 4 (by decide) wmf_X0_15 rfl rfl rfl rfl (Nat.le_of_ble_eq_true rfl) dX0_init_19 22 rfl [.null, .null, .null, .ref (sz + 0), .ref (sz + 1), .null, .null, .null] rfl ?_
  refine k_aload_n C dX0_init_22 23 rfl 0 rfl ?_
  refine k_sipush C dX0_init_23 26 rfl 8400 rfl ?_
  refine k_newa (atype := .int) (a0 := (8400, .inl (fun _ => 0))) C 0 rfl (fun h => h) wma_int 8400 (fun _ => rfl) (by decide) (by decide) (Nat.le_of_ble_eq_true rfl) ⟨by decide, by decide⟩ dX0_init_26 28 rfl (sz + 2) rfl ?_
  refine k_putF C inX0 tyX0_ok nmX0 rfl 5 (by decide) wmf_X0_19 rfl rfl rfl rfl (Nat.le_of_ble_eq_true rfl) dX0_init_28 31 rfl [.null, .null, .null, .ref (sz + 0), .ref (sz + 1), .ref (sz + 2), .null, .null] rfl ?_
  refine k_aload_n C dX0_init_31 32 rfl 0 rfl ?_
  refine k_sipush C dX0_init_32 35 rfl 8400 rfl ?_
  refine k_newa (atype := .int) (a0 := (8400, .inl (fun _ => 0))) C 0 rfl (fun h => h) wma_int 8400 (fun _ => rfl) (by decide) (by decide) (Nat.le_of_ble_eq_true rfl) ⟨by decide, by decide⟩ dX0_init_35 37 rfl (sz + 3) rfl ?_
  refine k_putF C inX0 tyX0_ok nmX0 rfl 6 (by decide) wmf_X0_22 rfl rfl rfl rfl (Nat.le_of_ble_eq_true rfl) dX0_init_37 40 rfl [.null, .null, .null, .ref (sz + 0), .ref (sz + 1), .ref (sz + 2), .ref (sz + 3), .null] rfl ?_
  refine k_aload_n C dX0_init_40 41 rfl 0 rfl ?_
  refine k_sipush C dX0_init_41 44 rfl 8400 rfl ?_
  refine k_newa (atype := .int) (a0 := (8400, .inl (fun _ => 0))) C 0 rfl (fun h => h) wma_int 8400 (fun _ => rfl) (by decide) (by decide) (Nat.le_of_ble_eq_true rfl) ⟨by decide, by decide⟩ dX0_init_44 46 rfl (sz + 4) rfl ?_
  refine k_putF C inX0 tyX0_ok nmX0 rfl 7 (by decide) wmf_X0_25 rfl rfl rfl rfl (Nat.le_of_ble_eq_true rfl) dX0_init_46 49 rfl [.null, .null, .null, .ref (sz + 0), .ref (sz + 1), .ref (sz + 2), .ref (sz + 3), .ref (sz + 4)] rfl ?_
  refine k_aload_n C dX0_init_49 50 rfl 0 rfl ?_
  refine k_aload_n C dX0_init_50 51 rfl 1 rfl ?_
  refine k_putF C inX0 tyX0_ok nmX0 rfl 0 (by decide) wmf_X0_28 rfl rfl rfl rfl (Nat.le_of_ble_eq_true rfl) dX0_init_51 54 rfl [.ref a1, .null, .null, .ref (sz + 0), .ref (sz + 1), .ref (sz + 2), .ref (sz + 3), .ref (sz + 4)] rfl ?_
  refine k_aload_n C dX0_init_54 55 rfl 0 rfl ?_
  refine k_aload_n C dX0_init_55 56 rfl 2 rfl ?_
  refine k_putF C inX0 tyX0_ok nmX0 rfl 1 (by decide) wmf_X0_32 rfl rfl rfl rfl (Nat.le_of_ble_eq_true rfl) dX0_init_56 59 rfl [.ref a1, .ref a2, .null, .ref (sz + 0), .ref (sz + 1), .ref (sz + 2), .ref (sz + 3), .ref (sz + 4)] rfl ?_
  refine k_aload_n C dX0_init_59 60 rfl 0 rfl ?_
  refine k_aload_n C dX0_init_60 61 rfl 3 rfl ?_
  refine k_putF C inX0 tyX0_ok nmX0 rfl 2 (by decide) wmf_X0_36 rfl rfl rfl rfl (Nat.le_of_ble_eq_true rfl) dX0_init_61 64 rfl [.ref a1, .ref a2, .ref a3, .ref (sz + 0), .ref (sz + 1), .ref (sz + 2), .ref (sz + 3), .ref (sz + 4)] rfl ?_
  exact k_vret C dX0_init_64 rfl rfl
abbrev rm_X3_init : Room := { frames := 1, cells := 3, slots := 1082, locals := 12 }
theorem k_X3 {l : Launch} {D : va_G} {ca : Nat → ClassId} {o sz a1 a2 a3 : Nat} : xMk l yX3_init cX3_init 4 rm_X3_init D vwCl (tysC ca) [.ref o, .ref a1, .ref a2, .ref a3] o (.inr (3, [.null, .null, .null, .int 0, .int 0, .int 0, .int 0, .int 0, .null, .null, .null])) sz (.inr (3, [.ref a1, .ref a2, .ref a3, .int 0, .int 0, .int 0, .int 0, .int 0, .ref (sz + 0), .ref (sz + 1), .ref (sz + 2)])) [.inl (ca 0, 1000, .inl (fun _ => 0)), .inl (ca 1, 40, .inl (fun _ => 0)), .inl (ca 0, 42, .inl (fun _ => 0))] := by
  refine k_met (by decide) (Nat.le_of_ble_eq_true rfl) ?_ rfl
  intro p e s m args below meth c C hn
  refine k_aload_n C dX3_init_0 1 rfl 0 rfl ?_
  refine k_oinit C wml_X3_3 dX3_init_1 4 rfl ⟨by decide, Nat.le_of_ble_eq_true rfl⟩ ?_
  refine k_aload_n C dX3_init_4 5 rfl 0 rfl ?_
  refine k_sipush C dX3_init_5 8 rfl 1000 rfl ?_
  refine k_newa (atype := .int) (a0 := (1000, .inl (fun _ => 0))) C 0 rfl (fun h => h) wma_int 1000 (fun _ => rfl) (by decide) (by decide) (Nat.le_of_ble_eq_true rfl) ⟨by decide, by decide⟩ dX3_init_8 10 rfl (sz + 0) rfl ?_
  refine k_putF C inX3 tyX3_ok nmX3 rfl 8 (by decide) wmf_X3_11 rfl rfl rfl rfl (Nat.le_of_ble_eq_true rfl) dX3_init_10 13 rfl [.null, .null, .null, .int 0, .int 0, .int 0, .int 0, .int 0, .ref (sz + 0), .null, .null] rfl ?_
  refine k_aload_n C dX3_init_13 14 rfl 0 rfl ?_
  refine k_bipush C dX3_init_14 16 rfl 40 rfl ?_
  refine k_newa (atype := .boolean) (a0 := (40, .inl (fun _ => 0))) C 1 rfl (fun h => h) wma_boolean 40 (fun _ => rfl) (by decide) (by decide) (Nat.le_of_ble_eq_true rfl) ⟨by decide, by decide⟩ dX3_init_16 18 rfl (sz + 1) rfl ?_
  refine k_putF C inX3 tyX3_ok nmX3 rfl 9 (by decide) wmf_X3_15 rfl rfl rfl rfl (Nat.le_of_ble_eq_true rfl) dX3_init_18 21 rfl [.null, .null, .null, .int 0, .int 0, .int 0, .int 0, .int 0, .ref (sz + 0), .ref (sz + 1), .null] rfl ?_
  refine k_aload_n C dX3_init_21 22 rfl 0 rfl ?_
  refine k_bipush C dX3_init_22 24 rfl 42 rfl ?_
  refine k_newa (atype := .int) (a0 := (42, .inl (fun _ => 0))) C 0 rfl (fun h => h) wma_int 42 (fun _ => rfl) (by decide) (by decide) (Nat.le_of_ble_eq_true rfl) ⟨by decide, by decide⟩ dX3_init_24 26 rfl (sz + 2) rfl ?_
  refine k_putF C inX3 tyX3_ok nmX3 rfl 10 (by decide) wmf_X3_19 rfl rfl rfl rfl (Nat.le_of_ble_eq_true rfl) dX3_init_26 29 rfl [.null, .null, .null, .int 0, .int 0, .int 0, .int 0, .int 0, .ref (sz + 0), .ref (sz + 1), .ref (sz + 2)] rfl ?_
  refine k_aload_n C dX3_init_29 30 rfl 0 rfl ?_
  refine k_aload_n C dX3_init_30 31 rfl 1 rfl ?_
  refine k_putF C inX3 tyX3_ok nmX3 rfl 0 (by decide) wmf_X3_22 rfl rfl rfl rfl (Nat.le_of_ble_eq_true rfl) dX3_init_31 34 rfl [.ref a1, .null, .null, .int 0, .int 0, .int 0, .int 0, .int 0, .ref (sz + 0), .ref (sz + 1), .ref (sz + 2)] rfl ?_
  refine k_aload_n C dX3_init_34 35 rfl 0 rfl ?_
  refine k_aload_n C dX3_init_35 36 rfl 2 rfl ?_
  refine k_putF C inX3 tyX3_ok nmX3 rfl 1 (by decide) wmf_X3_26 rfl rfl rfl rfl (Nat.le_of_ble_eq_true rfl) dX3_init_36 39 rfl [.ref a1, .ref a2, .null, .int 0, .int 0, .int 0, .int 0, .int 0, .ref (sz + 0), .ref (sz + 1), .ref (sz + 2)] rfl ?_
  refine k_aload_n C dX3_init_39 40 rfl 0 rfl ?_
  refine k_aload_n C dX3_init_40 41 rfl 3 rfl ?_
  refine k_putF C inX3 tyX3_ok nmX3 rfl 2 (by decide) wmf_X3_30 rfl rfl rfl rfl (Nat.le_of_ble_eq_true rfl) dX3_init_41 44 rfl [.ref a1, .ref a2, .ref a3, .int 0, .int 0, .int 0, .int 0, .int 0, .ref (sz + 0), .ref (sz + 1), .ref (sz + 2)] rfl ?_
  exact k_vret C dX3_init_44 rfl rfl
abbrev rm_X7_init : Room := { frames := 1, cells := 3, slots := 440, locals := 12 }
theorem k_X7 {l : Launch} {D : va_G} {ca : Nat → ClassId} {o sz a1 a2 a3 a4 : Nat} : xMk l yX7_init cX7_init 5 rm_X7_init D vwCl (tysC ca) [.ref o, .ref a1, .ref a2, .ref a3, .ref a4] o (.inr (7, [.null, .null, .null, .null, .int 0, .int 0, .int 0, .int 0, .null, .null, .null])) sz (.inr (7, [.ref a1, .ref a2, .ref a3, .ref a4, .int 0, .int 0, .int 0, .int 0, .ref (sz + 0), .ref (sz + 1), .ref (sz + 2)])) [.inl (ca 0, 40, .inl (fun _ => 0)), .inl (ca 0, 200, .inl (fun _ => 0)), .inl (ca 0, 200, .inl (fun _ => 0))] := by
  refine k_met (by decide) (Nat.le_of_ble_eq_true rfl) ?_ rfl
  intro p e s m args below meth c C hn
  refine k_aload_n C dX7_init_0 1 rfl 0 rfl ?_
  refine k_oinit C wml_X7_5 dX7_init_1 4 rfl ⟨by decide, Nat.le_of_ble_eq_true rfl⟩ ?_
  refine k_aload_n C dX7_init_4 5 rfl 0 rfl ?_
  refine k_bipush C dX7_init_5 7 rfl 40 rfl ?_
  refine k_newa (atype := .int) (a0 := (40, .inl (fun _ => 0))) C 0 rfl (fun h => h) wma_int 40 (fun _ => rfl) (by decide) (by decide) (Nat.le_of_ble_eq_true rfl) ⟨by decide, by decide⟩ dX7_init_7 9 rfl (sz + 0) rfl ?_
  refine k_putF C inX7 tyX7_ok nmX7 rfl 8 (by decide) wmf_X7_11 rfl rfl rfl rfl (Nat.le_of_ble_eq_true rfl) dX7_init_9 12 rfl [.null, .null, .null, .null, .int 0, .int 0, .int 0, .int 0, .ref (sz + 0), .null, .null] rfl ?_
  refine k_aload_n C dX7_init_12 13 rfl 0 rfl ?_
  refine k_sipush C dX7_init_13 16 rfl 200 rfl ?_
  refine k_newa (atype := .int) (a0 := (200, .inl (fun _ => 0))) C 0 rfl (fun h => h) wma_int 200 (fun _ => rfl) (by decide) (by decide) (Nat.le_of_ble_eq_true rfl) ⟨by decide, by decide⟩ dX7_init_16 18 rfl (sz + 1) rfl ?_
  refine k_putF C inX7 tyX7_ok nmX7 rfl 9 (by decide) wmf_X7_15 rfl rfl rfl rfl (Nat.le_of_ble_eq_true rfl) dX7_init_18 21 rfl [.null, .null, .null, .null, .int 0, .int 0, .int 0, .int 0, .ref (sz + 0), .ref (sz + 1), .null] rfl ?_
  refine k_aload_n C dX7_init_21 22 rfl 0 rfl ?_
  refine k_sipush C dX7_init_22 25 rfl 200 rfl ?_
  refine k_newa (atype := .int) (a0 := (200, .inl (fun _ => 0))) C 0 rfl (fun h => h) wma_int 200 (fun _ => rfl) (by decide) (by decide) (Nat.le_of_ble_eq_true rfl) ⟨by decide, by decide⟩ dX7_init_25 27 rfl (sz + 2) rfl ?_
  refine k_putF C inX7 tyX7_ok nmX7 rfl 10 (by decide) wmf_X7_18 rfl rfl rfl rfl (Nat.le_of_ble_eq_true rfl) dX7_init_27 30 rfl [.null, .null, .null, .null, .int 0, .int 0, .int 0, .int 0, .ref (sz + 0), .ref (sz + 1), .ref (sz + 2)] rfl ?_
  refine k_aload_n C dX7_init_30 31 rfl 0 rfl ?_
  refine k_aload_n C dX7_init_31 32 rfl 1 rfl ?_
  refine k_putF C inX7 tyX7_ok nmX7 rfl 0 (by decide) wmf_X7_21 rfl rfl rfl rfl (Nat.le_of_ble_eq_true rfl) dX7_init_32 35 rfl [.ref a1, .null, .null, .null, .int 0, .int 0, .int 0, .int 0, .ref (sz + 0), .ref (sz + 1), .ref (sz + 2)] rfl ?_
  refine k_aload_n C dX7_init_35 36 rfl 0 rfl ?_
  refine k_aload_n C dX7_init_36 37 rfl 2 rfl ?_
  refine k_putF C inX7 tyX7_ok nmX7 rfl 1 (by decide) wmf_X7_25 rfl rfl rfl rfl (Nat.le_of_ble_eq_true rfl) dX7_init_37 40 rfl [.ref a1, .ref a2, .null, .null, .int 0, .int 0, .int 0, .int 0, .ref (sz + 0), .ref (sz + 1), .ref (sz + 2)] rfl ?_
  refine k_aload_n C dX7_init_40 41 rfl 0 rfl ?_
  refine k_aload_n C dX7_init_41 42 rfl 3 rfl ?_
  refine k_putF C inX7 tyX7_ok nmX7 rfl 2 (by decide) wmf_X7_29 rfl rfl rfl rfl (Nat.le_of_ble_eq_true rfl) dX7_init_42 45 rfl [.ref a1, .ref a2, .ref a3, .null, .int 0, .int 0, .int 0, .int 0, .ref (sz + 0), .ref (sz + 1), .ref (sz + 2)] rfl ?_
  refine k_aload_n C dX7_init_45 46 rfl 0 rfl ?_
  refine k_aload C dX7_init_46 48 rfl 4 rfl ?_
  refine k_putF C inX7 tyX7_ok nmX7 rfl 3 (by decide) wmf_X7_33 rfl rfl rfl rfl (Nat.le_of_ble_eq_true rfl) dX7_init_48 51 rfl [.ref a1, .ref a2, .ref a3, .ref a4, .int 0, .int 0, .int 0, .int 0, .ref (sz + 0), .ref (sz + 1), .ref (sz + 2)] rfl ?_
  exact k_vret C dX7_init_51 rfl rfl
abbrev rm_X10_init : Room := { frames := 1, cells := 2, slots := 349, locals := 12 }
theorem k_X10 {l : Launch} {D : va_G} {ca : Nat → ClassId} {o sz a1 a2 : Nat} : xMk l yX10_init cX10_init 3 rm_X10_init D vwCl (tysC ca) [.ref o, .ref a1, .ref a2] o (.inr (10, [.null, .null, .int 0, .int 0, .null, .null])) sz (.inr (10, [.ref a1, .ref a2, .int 0, .int 0, .ref (sz + 0), .ref (sz + 1)])) [.inl (ca 0, 24, .inl (fun _ => 0)), .inl (ca 0, 325, .inl (fun _ => 0))] := by
  refine k_met (by decide) (Nat.le_of_ble_eq_true rfl) ?_ rfl
  intro p e s m args below meth c C hn
  refine k_aload_n C dX10_init_0 1 rfl 0 rfl ?_
  refine k_oinit C wml_X10_3 dX10_init_1 4 rfl ⟨by decide, Nat.le_of_ble_eq_true rfl⟩ ?_
  refine k_aload_n C dX10_init_4 5 rfl 0 rfl ?_
  refine k_bipush C dX10_init_5 7 rfl 24 rfl ?_
  refine k_newa (atype := .int) (a0 := (24, .inl (fun _ => 0))) C 0 rfl (fun h => h) wma_int 24 (fun _ => rfl) (by decide) (by decide) (Nat.le_of_ble_eq_true rfl) ⟨by decide, by decide⟩ dX10_init_7 9 rfl (sz + 0) rfl ?_
  refine k_putF C inX10 tyX10_ok nmX10 rfl 4 (by decide) wmf_X10_9 rfl rfl rfl rfl (Nat.le_of_ble_eq_true rfl) dX10_init_9 12 rfl [.null, .null, .int 0, .int 0, .ref (sz + 0), .null] rfl ?_
  refine k_aload_n C dX10_init_12 13 rfl 0 rfl ?_
  refine k_sipush C dX10_init_13 16 rfl 325 rfl ?_
  refine k_newa (atype := .int) (a0 := (325, .inl (fun _ => 0))) C 0 rfl (fun h => h) wma_int 325 (fun _ => rfl) (by decide) (by decide) (Nat.le_of_ble_eq_true rfl) ⟨by decide, by decide⟩ dX10_init_16 18 rfl (sz + 1) rfl ?_
  refine k_putF C inX10 tyX10_ok nmX10 rfl 5 (by decide) wmf_X10_15 rfl rfl rfl rfl (Nat.le_of_ble_eq_true rfl) dX10_init_18 21 rfl [.null, .null, .int 0, .int 0, .ref (sz + 0), .ref (sz + 1)] rfl ?_
  refine k_aload_n C dX10_init_21 22 rfl 0 rfl ?_
  refine k_aload_n C dX10_init_22 23 rfl 1 rfl ?_
  refine k_putF C inX10 tyX10_ok nmX10 rfl 0 (by decide) wmf_X10_18 rfl rfl rfl rfl (Nat.le_of_ble_eq_true rfl) dX10_init_23 26 rfl [.ref a1, .null, .int 0, .int 0, .ref (sz + 0), .ref (sz + 1)] rfl ?_
  refine k_aload_n C dX10_init_26 27 rfl 0 rfl ?_
  refine k_aload_n C dX10_init_27 28 rfl 2 rfl ?_
  refine k_putF C inX10 tyX10_ok nmX10 rfl 1 (by decide) wmf_X10_22 rfl rfl rfl rfl (Nat.le_of_ble_eq_true rfl) dX10_init_28 31 rfl [.ref a1, .ref a2, .int 0, .int 0, .ref (sz + 0), .ref (sz + 1)] rfl ?_
  exact k_vret C dX10_init_31 rfl rfl
