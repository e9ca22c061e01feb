variable {p : Program} {l : Launch} {e : Env} {s : State} {m : MethodId} {args : Array Value} {below : List Frame} {meth : Method} {c : Code} {D : va_G} {ca : Nat → ClassId} {ad : Nat → Nat}
abbrev rm_X11_needBetween : Room := { frames := 6, cells := 1, slots := 6, locals := 82 }
theorem wq_X11_needBetween : xcV RX11 yX11_needBetween cX11_needBetween 4 none 3 := ⟨wmi_X11_needBetween, wms_X11_needBetween, wmn_X11, wmc_X11_needBetween, by decide, by decide, by decide +kernel⟩
def F_X11_needBetween_10 (N : Nat) (ah : AH) : Option XR := xlet (xu ah 0 15 ((ah 0 15) + 1)) (fun a17 => some (2, 0, a17))
def F_X11_needBetween (N : Nat) (ah : AH) (p1 : Int32) (p2 : Int32) (p3 : Int32) : Option XR := if p1 < p2 then F_X11_needBetween_10 N ah else if p1 ≤ p3 then some (0, 0, ah) else F_X11_needBetween_10 N ah
theorem b_X11_needBetween_10 (C : XC p l s m args meth c cX11_needBetween 4 none RX11 D vwCl (tysC ca) (EC ad ca) NCC ad) (T : XT l s c ad NCC) {N : Nat} {o : XR} {ah : AH} (h : F_X11_needBetween_10 N ah = some o) : XW p l e rm_X11_needBetween s m args below meth c 4 0 (xQn below args s D vwCl (tysC ca) (EC ad ca) NCC ad o) D vwCl (EC ad ca) NCC ad ah 10 [(0, .ref (ad 0))] [] := by
  unfold F_X11_needBetween_10 at h
  refine x_aload_n C dX11_needBetween_10 11 rfl 0 rfl ?_
  refine x_dup C dX11_needBetween_11 12 rfl rfl ?_
  refine x_get C inX11 0 lc0 EC_0 rfl 15 (by decide) dX11_needBetween_12 15 rfl wmf_X11_380 rfl ?_
  refine x_iconst C dX11_needBetween_15 16 rfl 1 rfl ?_
  refine x_iadd C dX11_needBetween_16 17 rfl ?_
  refine x_put C inX11 0 lc0 EC_0 rfl 15 (by decide) tyX11_ok nmX11 dX11_needBetween_17 20 rfl wmf_X11_380 rfl rfl rfl (Nat.le_of_ble_eq_true rfl) EP_0_15 h (fun a17 h => ?_)
  exact x_throw2 C T dX11_needBetween_20 dX11_needBetween_23 dX11_needBetween_24 dX11_needBetween_27 dX11_needBetween_30 (by decide) (by decide) (by decide) (by decide) (by decide) (by decide) h
theorem c_X11_needBetween {l : Launch} {D : va_G} {ca : Nat → ClassId} {ad : Nat → Nat} (hI : xInj ad NCC) (hst : l.stackTraces = false) {N : Nat} {ah : AH} {p1 : Int32} {p2 : Int32} {p3 : Int32} {o : XR} (h : F_X11_needBetween N ah p1 p2 p3 = some o) : xMn l yX11_needBetween cX11_needBetween 4 none rm_X11_needBetween D vwCl (tysC ca) (EC ad ca) NCC ad [.ref (ad 0), .int p1, .int p2, .int p3] ah o := by
  refine x_metn (by decide) (Nat.le_of_ble_eq_true rfl) hI EC_loc hst ?_
  intro p e s m args below meth c C T
  unfold F_X11_needBetween at h
  refine x_iload_n C dX11_needBetween_0 1 rfl 1 rfl ?_
  refine x_iload_n C dX11_needBetween_1 2 rfl 2 rfl ?_
  refine x_icmp_lt C dX11_needBetween_2 5 rfl 10 rfl h (fun h => ?_) (fun h => ?_)
  · exact x_sub [0] rfl (b_X11_needBetween_10 C T  h)
  · refine x_iload_n C dX11_needBetween_5 6 rfl 1 rfl ?_
    refine x_iload_n C dX11_needBetween_6 7 rfl 3 rfl ?_
    refine x_icmp_le C dX11_needBetween_7 10 rfl 31 rfl h (fun h => ?_) (fun h => ?_)
    · exact x_vretX C rfl (by decide) dX11_needBetween_31 h
    · exact x_sub [0] rfl (b_X11_needBetween_10 C T  h)
abbrev rm_X11_lexicon : Room := { frames := 7, cells := 3, slots := 18, locals := 114 }
theorem wq_X11_lexicon : xcV RX11 yX11_lexicon cX11_lexicon 2 (some .int) 1 := ⟨wmi_X11_lexicon, wms_X11_lexicon, wmn_X11, wmc_X11_lexicon, by decide, by decide, by decide +kernel⟩
def F_X11_lexicon_39 (N : Nat) (ah : AH) : Option XR := xb (F_X9_finish N ah (ah 4 0)) (fun r50 a50 => some (0, r50, a50))
def F_X11_lexicon (N : Nat) (ah : AH) (p1 : Int32) : Option XR := xbx (F_X11_needBetween N ah p1 0 (ah 2 1)) (fun a10 => xbv (F_X9_begin N a10 p1) (fun a18 => xb (F_X2_readText N a18) (fun r29 a29 => if r29 = 0 then F_X11_lexicon_39 N a29 else xbv (F_X11_changed N a29) (fun a36 => F_X11_lexicon_39 N a36))))
theorem b_X11_lexicon_39 (C : XC p l s m args meth c cX11_lexicon 2 (some .int) RX11 D vwCl (tysC ca) (EC ad ca) NCC ad) (T : XT l s c ad NCC) {N : Nat} {o : XR} {ah : AH} (h : F_X11_lexicon_39 N ah = some o) : XW p l e rm_X11_lexicon s m args below meth c 2 1 (xQx below args s D vwCl (tysC ca) (EC ad ca) NCC ad o) D vwCl (EC ad ca) NCC ad ah 39 [(0, .ref (ad 0))] [] := by
  unfold F_X11_lexicon_39 at h
  refine x_aload_n C dX11_lexicon_39 40 rfl 0 rfl ?_
  refine x_get C inX11 0 lc0 EC_0 rfl 0 (by decide) dX11_lexicon_40 43 rfl wmf_X11_12 rfl ?_
  refine x_aload_n C dX11_lexicon_43 44 rfl 0 rfl ?_
  refine x_get C inX11 0 lc0 EC_0 rfl 1 (by decide) dX11_lexicon_44 47 rfl wmf_X11_19 rfl ?_
  refine x_get C inX2 4 lc4 EC_4 rfl 0 (by decide) dX11_lexicon_47 50 rfl wmf_X11_139 rfl ?_
  obtain ⟨r50, a50, hq, h⟩ := xb_some h
  refine x_callVi C 2 (c_X9_finish C.2.2.2.2.2.2.1 hq) lc2 EC_2 rfl wml_X11_140 wq_X9_finish rfl ⟨by decide, by decide⟩ rfl rfl ⟨by decide, by decide⟩ dX11_lexicon_50 53 rfl rfl (Nat.le_of_ble_eq_true rfl) ?_
  exact x_iretX C rfl (by decide) dX11_lexicon_53 h
theorem c_X11_lexicon {l : Launch} {D : va_G} {ca : Nat → ClassId} {ad : Nat → Nat} (hI : xInj ad NCC) (hst : l.stackTraces = false) {N : Nat} {ah : AH} {p1 : Int32} {o : XR} (h : F_X11_lexicon N ah p1 = some o) : xMx l yX11_lexicon cX11_lexicon 2 (some .int) rm_X11_lexicon D vwCl (tysC ca) (EC ad ca) NCC ad [.ref (ad 0), .int p1] ah o := by
  refine x_metx (by decide) (Nat.le_of_ble_eq_true rfl) hI EC_loc hst ?_
  intro p e s m args below meth c C T
  unfold F_X11_lexicon at h
  refine x_aload_n C dX11_lexicon_0 1 rfl 0 rfl ?_
  refine x_iload_n C dX11_lexicon_1 2 rfl 1 rfl ?_
  refine x_iconst C dX11_lexicon_2 3 rfl 0 rfl ?_
  refine x_aload_n C dX11_lexicon_3 4 rfl 0 rfl ?_
  refine x_get C inX11 0 lc0 EC_0 rfl 0 (by decide) dX11_lexicon_4 7 rfl wmf_X11_12 rfl ?_
  refine x_get C inX9 2 lc2 EC_2 rfl 1 (by decide) dX11_lexicon_7 10 rfl wmf_X11_117 rfl ?_
  obtain ⟨k10, r10, a10, hq, h⟩ := xbx_some h
  refine x_callX C T 0 (c_X11_needBetween C.2.2.2.2.2.2.1 T.1 hq) lc0 EC_0 rfl wml_X11_125 wq_X11_needBetween rfl ⟨by decide, by decide⟩ ⟨by decide, by decide⟩ rfl rfl ⟨by decide, by decide⟩ dX11_lexicon_10 13 rfl rfl (Nat.le_of_ble_eq_true rfl) h (fun h => ?_)
  refine x_aload_n C dX11_lexicon_13 14 rfl 0 rfl ?_
  refine x_get C inX11 0 lc0 EC_0 rfl 0 (by decide) dX11_lexicon_14 17 rfl wmf_X11_12 rfl ?_
  refine x_iload_n C dX11_lexicon_17 18 rfl 1 rfl ?_
  obtain ⟨a18, hq, h⟩ := xbv_some h
  refine x_callVv C 2 (c_X9_begin C.2.2.2.2.2.2.1 hq) lc2 EC_2 rfl wml_X11_129 wq_X9_begin rfl ⟨by decide, by decide⟩ rfl rfl ⟨by decide, by decide⟩ dX11_lexicon_18 21 rfl rfl (Nat.le_of_ble_eq_true rfl) ?_
  refine x_aload_n C dX11_lexicon_21 22 rfl 0 rfl ?_
  refine x_get C inX11 0 lc0 EC_0 rfl 1 (by decide) dX11_lexicon_22 25 rfl wmf_X11_19 rfl ?_
  refine x_aload_n C dX11_lexicon_25 26 rfl 0 rfl ?_
  refine x_get C inX11 0 lc0 EC_0 rfl 0 (by decide) dX11_lexicon_26 29 rfl wmf_X11_12 rfl ?_
  obtain ⟨r29, a29, hq, h⟩ := xb_some h
  refine x_callVi C 4 (c_X2_readText C.2.2.2.2.2.2.1 hq) lc4 EC_4 rfl wml_X11_132 wq_X2_readText rfl ⟨by decide, by decide⟩ rfl rfl ⟨by decide, by decide⟩ dX11_lexicon_29 32 rfl rfl (Nat.le_of_ble_eq_true rfl) ?_
  refine x_if_eq C dX11_lexicon_32 35 rfl 39 rfl h (fun h => ?_) (fun h => ?_)
  · exact x_sub [0] rfl (b_X11_lexicon_39 C T  h)
  · refine x_aload_n C dX11_lexicon_35 36 rfl 0 rfl ?_
    obtain ⟨a36, hq, h⟩ := xbv_some h
    refine x_callVv C 0 (c_X11_changed C.2.2.2.2.2.2.1 hq) lc0 EC_0 rfl wml_X11_136 wq_X11_changed rfl ⟨by decide, by decide⟩ rfl rfl ⟨by decide, by decide⟩ dX11_lexicon_36 39 rfl rfl (Nat.le_of_ble_eq_true rfl) ?_
    exact x_sub [0] rfl (b_X11_lexicon_39 C T  h)
abbrev rm_X11_shapes : Room := { frames := 7, cells := 3, slots := 18, locals := 112 }
theorem wq_X11_shapes : xcV RX11 yX11_shapes cX11_shapes 2 (some .int) 1 := ⟨wmi_X11_shapes, wms_X11_shapes, wmn_X11, wmc_X11_shapes, by decide, by decide, by decide +kernel⟩
def F_X11_shapes_59 (N : Nat) (ah : AH) : Option XR := xb (F_X9_finish N ah (ah 19 0)) (fun r70 a70 => some (0, r70, a70))
def F_X11_shapes (N : Nat) (ah : AH) (p1 : Int32) : Option XR := xbx (F_X11_needBetween N ah p1 0 (ah 2 1)) (fun a10 => xbv (F_X9_begin N a10 p1) (fun a18 => xb (F_X8_readText N 25 a18) (fun r29 a29 => if r29 = 0 then F_X11_shapes_59 N a29 else xbv (F_X9_begin N a29 p1) (fun a40 => xb (F_X8_readText N 19 a40) (fun r51 a51 => xbv (F_X11_changed N a51) (fun a56 => F_X11_shapes_59 N a56))))))
theorem b_X11_shapes_59 (C : XC p l s m args meth c cX11_shapes 2 (some .int) RX11 D vwCl (tysC ca) (EC ad ca) NCC ad) (T : XT l s c ad NCC) {N : Nat} {o : XR} {ah : AH} (h : F_X11_shapes_59 N ah = some o) : XW p l e rm_X11_shapes s m args below meth c 2 1 (xQx below args s D vwCl (tysC ca) (EC ad ca) NCC ad o) D vwCl (EC ad ca) NCC ad ah 59 [(0, .ref (ad 0))] [] := by
  unfold F_X11_shapes_59 at h
  refine x_aload_n C dX11_shapes_59 60 rfl 0 rfl ?_
  refine x_get C inX11 0 lc0 EC_0 rfl 0 (by decide) dX11_shapes_60 63 rfl wmf_X11_12 rfl ?_
  refine x_aload_n C dX11_shapes_63 64 rfl 0 rfl ?_
  refine x_get C inX11 0 lc0 EC_0 rfl 2 (by decide) dX11_shapes_64 67 rfl wmf_X11_26 rfl ?_
  refine x_get C inX8 19 lc19 EC_19 rfl 0 (by decide) dX11_shapes_67 70 rfl wmf_X11_145 rfl ?_
  obtain ⟨r70, a70, hq, h⟩ := xb_some h
  refine x_callVi C 2 (c_X9_finish C.2.2.2.2.2.2.1 hq) lc2 EC_2 rfl wml_X11_140 wq_X9_finish rfl ⟨by decide, by decide⟩ rfl rfl ⟨by decide, by decide⟩ dX11_shapes_70 73 rfl rfl (Nat.le_of_ble_eq_true rfl) ?_
  exact x_iretX C rfl (by decide) dX11_shapes_73 h
theorem c_X11_shapes {l : Launch} {D : va_G} {ca : Nat → ClassId} {ad : Nat → Nat} (hI : xInj ad NCC) (hst : l.stackTraces = false) {N : Nat} {ah : AH} {p1 : Int32} {o : XR} (h : F_X11_shapes N ah p1 = some o) : xMx l yX11_shapes cX11_shapes 2 (some .int) rm_X11_shapes D vwCl (tysC ca) (EC ad ca) NCC ad [.ref (ad 0), .int p1] ah o := by
  refine x_metx (by decide) (Nat.le_of_ble_eq_true rfl) hI EC_loc hst ?_
  intro p e s m args below meth c C T
  unfold F_X11_shapes at h
  refine x_aload_n C dX11_shapes_0 1 rfl 0 rfl ?_
  refine x_iload_n C dX11_shapes_1 2 rfl 1 rfl ?_
  refine x_iconst C dX11_shapes_2 3 rfl 0 rfl ?_
  refine x_aload_n C dX11_shapes_3 4 rfl 0 rfl ?_
  refine x_get C inX11 0 lc0 EC_0 rfl 0 (by decide) dX11_shapes_4 7 rfl wmf_X11_12 rfl ?_
  refine x_get C inX9 2 lc2 EC_2 rfl 1 (by decide) dX11_shapes_7 10 rfl wmf_X11_117 rfl ?_
  obtain ⟨k10, r10, a10, hq, h⟩ := xbx_some h
  refine x_callX C T 0 (c_X11_needBetween C.2.2.2.2.2.2.1 T.1 hq) lc0 EC_0 rfl wml_X11_125 wq_X11_needBetween rfl ⟨by decide, by decide⟩ ⟨by decide, by decide⟩ rfl rfl ⟨by decide, by decide⟩ dX11_shapes_10 13 rfl rfl (Nat.le_of_ble_eq_true rfl) h (fun h => ?_)
  refine x_aload_n C dX11_shapes_13 14 rfl 0 rfl ?_
  refine x_get C inX11 0 lc0 EC_0 rfl 0 (by decide) dX11_shapes_14 17 rfl wmf_X11_12 rfl ?_
  refine x_iload_n C dX11_shapes_17 18 rfl 1 rfl ?_
  obtain ⟨a18, hq, h⟩ := xbv_some h
  refine x_callVv C 2 (c_X9_begin C.2.2.2.2.2.2.1 hq) lc2 EC_2 rfl wml_X11_129 wq_X9_begin rfl ⟨by decide, by decide⟩ rfl rfl ⟨by decide, by decide⟩ dX11_shapes_18 21 rfl rfl (Nat.le_of_ble_eq_true rfl) ?_
  refine x_aload_n C dX11_shapes_21 22 rfl 0 rfl ?_
  refine x_get C inX11 0 lc0 EC_0 rfl 3 (by decide) dX11_shapes_22 25 rfl wmf_X11_30 rfl ?_
  refine x_aload_n C dX11_shapes_25 26 rfl 0 rfl ?_
  refine x_get C inX11 0 lc0 EC_0 rfl 0 (by decide) dX11_shapes_26 29 rfl wmf_X11_12 rfl ?_
  obtain ⟨r29, a29, hq, h⟩ := xb_some h
  refine x_callVi C 25 (c_X8_readText_trialShapes C.2.2.2.2.2.2.1 hq) lc25 EC_25 rfl wml_X11_144 wq_X8_readText rfl ⟨by decide, by decide⟩ rfl rfl ⟨by decide, by decide⟩ dX11_shapes_29 32 rfl rfl (Nat.le_of_ble_eq_true rfl) ?_
  refine x_if_eq C dX11_shapes_32 35 rfl 59 rfl h (fun h => ?_) (fun h => ?_)
  · exact x_sub [0] rfl (b_X11_shapes_59 C T  h)
  · refine x_aload_n C dX11_shapes_35 36 rfl 0 rfl ?_
    refine x_get C inX11 0 lc0 EC_0 rfl 0 (by decide) dX11_shapes_36 39 rfl wmf_X11_12 rfl ?_
    refine x_iload_n C dX11_shapes_39 40 rfl 1 rfl ?_
    obtain ⟨a40, hq, h⟩ := xbv_some h
    refine x_callVv C 2 (c_X9_begin C.2.2.2.2.2.2.1 hq) lc2 EC_2 rfl wml_X11_129 wq_X9_begin rfl ⟨by decide, by decide⟩ rfl rfl ⟨by decide, by decide⟩ dX11_shapes_40 43 rfl rfl (Nat.le_of_ble_eq_true rfl) ?_
    refine x_aload_n C dX11_shapes_43 44 rfl 0 rfl ?_
    refine x_get C inX11 0 lc0 EC_0 rfl 2 (by decide) dX11_shapes_44 47 rfl wmf_X11_26 rfl ?_
    refine x_aload_n C dX11_shapes_47 48 rfl 0 rfl ?_
    refine x_get C inX11 0 lc0 EC_0 rfl 0 (by decide) dX11_shapes_48 51 rfl wmf_X11_12 rfl ?_
    obtain ⟨r51, a51, hq, h⟩ := xb_some h
    refine x_callVi C 19 (c_X8_readText_shapes C.2.2.2.2.2.2.1 hq) lc19 EC_19 rfl wml_X11_144 wq_X8_readText rfl ⟨by decide, by decide⟩ rfl rfl ⟨by decide, by decide⟩ dX11_shapes_51 54 rfl rfl (Nat.le_of_ble_eq_true rfl) ?_
    refine x_pop C dX11_shapes_54 55 rfl rfl ?_
    refine x_aload_n C dX11_shapes_55 56 rfl 0 rfl ?_
    obtain ⟨a56, hq, h⟩ := xbv_some h
    refine x_callVv C 0 (c_X11_changed C.2.2.2.2.2.2.1 hq) lc0 EC_0 rfl wml_X11_136 wq_X11_changed rfl ⟨by decide, by decide⟩ rfl rfl ⟨by decide, by decide⟩ dX11_shapes_56 59 rfl rfl (Nat.le_of_ble_eq_true rfl) ?_
    exact x_sub [0] rfl (b_X11_shapes_59 C T  h)
abbrev rm_X11_reading : Room := { frames := 7, cells := 3, slots := 18, locals := 138 }
theorem wq_X11_reading : xcV RX11 yX11_reading cX11_reading 2 (some .int) 1 := ⟨wmi_X11_reading, wms_X11_reading, wmn_X11, wmc_X11_reading, by decide, by decide, by decide +kernel⟩
def F_X11_reading_59 (N : Nat) (ah : AH) : Option XR := xb (F_X9_finish N ah (ah 31 0)) (fun r70 a70 => some (0, r70, a70))
def F_X11_reading (N : Nat) (ah : AH) (p1 : Int32) : Option XR := xbx (F_X11_needBetween N ah p1 0 (ah 2 1)) (fun a10 => xbv (F_X9_begin N a10 p1) (fun a18 => xb (F_X5_readText N 40 a18) (fun r29 a29 => if r29 = 0 then F_X11_reading_59 N a29 else xbv (F_X9_begin N a29 p1) (fun a40 => xb (F_X5_readText N 31 a40) (fun r51 a51 => xbv (F_X11_changed N a51) (fun a56 => F_X11_reading_59 N a56))))))
theorem b_X11_reading_59 (C : XC p l s m args meth c cX11_reading 2 (some .int) RX11 D vwCl (tysC ca) (EC ad ca) NCC ad) (T : XT l s c ad NCC) {N : Nat} {o : XR} {ah : AH} (h : F_X11_reading_59 N ah = some o) : XW p l e rm_X11_reading s m args below meth c 2 1 (xQx below args s D vwCl (tysC ca) (EC ad ca) NCC ad o) D vwCl (EC ad ca) NCC ad ah 59 [(0, .ref (ad 0))] [] := by
  unfold F_X11_reading_59 at h
  refine x_aload_n C dX11_reading_59 60 rfl 0 rfl ?_
  refine x_get C inX11 0 lc0 EC_0 rfl 0 (by decide) dX11_reading_60 63 rfl wmf_X11_12 rfl ?_
  refine x_aload_n C dX11_reading_63 64 rfl 0 rfl ?_
  refine x_get C inX11 0 lc0 EC_0 rfl 4 (by decide) dX11_reading_64 67 rfl wmf_X11_36 rfl ?_
  refine x_get C inX5 31 lc31 EC_31 rfl 0 (by decide) dX11_reading_67 70 rfl wmf_X11_147 rfl ?_
  obtain ⟨r70, a70, hq, h⟩ := xb_some h
  refine x_callVi C 2 (c_X9_finish C.2.2.2.2.2.2.1 hq) lc2 EC_2 rfl wml_X11_140 wq_X9_finish rfl ⟨by decide, by decide⟩ rfl rfl ⟨by decide, by decide⟩ dX11_reading_70 73 rfl rfl (Nat.le_of_ble_eq_true rfl) ?_
  exact x_iretX C rfl (by decide) dX11_reading_73 h
theorem c_X11_reading {l : Launch} {D : va_G} {ca : Nat → ClassId} {ad : Nat → Nat} (hI : xInj ad NCC) (hst : l.stackTraces = false) {N : Nat} {ah : AH} {p1 : Int32} {o : XR} (h : F_X11_reading N ah p1 = some o) : xMx l yX11_reading cX11_reading 2 (some .int) rm_X11_reading D vwCl (tysC ca) (EC ad ca) NCC ad [.ref (ad 0), .int p1] ah o := by
  refine x_metx (by decide) (Nat.le_of_ble_eq_true rfl) hI EC_loc hst ?_
  intro p e s m args below meth c C T
  unfold F_X11_reading at h
  refine x_aload_n C dX11_reading_0 1 rfl 0 rfl ?_
  refine x_iload_n C dX11_reading_1 2 rfl 1 rfl ?_
  refine x_iconst C dX11_reading_2 3 rfl 0 rfl ?_
  refine x_aload_n C dX11_reading_3 4 rfl 0 rfl ?_
  refine x_get C inX11 0 lc0 EC_0 rfl 0 (by decide) dX11_reading_4 7 rfl wmf_X11_12 rfl ?_
  refine x_get C inX9 2 lc2 EC_2 rfl 1 (by decide) dX11_reading_7 10 rfl wmf_X11_117 rfl ?_
  obtain ⟨k10, r10, a10, hq, h⟩ := xbx_some h
  refine x_callX C T 0 (c_X11_needBetween C.2.2.2.2.2.2.1 T.1 hq) lc0 EC_0 rfl wml_X11_125 wq_X11_needBetween rfl ⟨by decide, by decide⟩ ⟨by decide, by decide⟩ rfl rfl ⟨by decide, by decide⟩ dX11_reading_10 13 rfl rfl (Nat.le_of_ble_eq_true rfl) h (fun h => ?_)
  refine x_aload_n C dX11_reading_13 14 rfl 0 rfl ?_
  refine x_get C inX11 0 lc0 EC_0 rfl 0 (by decide) dX11_reading_14 17 rfl wmf_X11_12 rfl ?_
  refine x_iload_n C dX11_reading_17 18 rfl 1 rfl ?_
  obtain ⟨a18, hq, h⟩ := xbv_some h
  refine x_callVv C 2 (c_X9_begin C.2.2.2.2.2.2.1 hq) lc2 EC_2 rfl wml_X11_129 wq_X9_begin rfl ⟨by decide, by decide⟩ rfl rfl ⟨by decide, by decide⟩ dX11_reading_18 21 rfl rfl (Nat.le_of_ble_eq_true rfl) ?_
  refine x_aload_n C dX11_reading_21 22 rfl 0 rfl ?_
  refine x_get C inX11 0 lc0 EC_0 rfl 5 (by decide) dX11_reading_22 25 rfl wmf_X11_40 rfl ?_
  refine x_aload_n C dX11_reading_25 26 rfl 0 rfl ?_
  refine x_get C inX11 0 lc0 EC_0 rfl 0 (by decide) dX11_reading_26 29 rfl wmf_X11_12 rfl ?_
  obtain ⟨r29, a29, hq, h⟩ := xb_some h
  refine x_callVi C 40 (c_X5_readText_trialReading C.2.2.2.2.2.2.1 hq) lc40 EC_40 rfl wml_X11_146 wq_X5_readText rfl ⟨by decide, by decide⟩ rfl rfl ⟨by decide, by decide⟩ dX11_reading_29 32 rfl rfl (Nat.le_of_ble_eq_true rfl) ?_
  refine x_if_eq C dX11_reading_32 35 rfl 59 rfl h (fun h => ?_) (fun h => ?_)
  · exact x_sub [0] rfl (b_X11_reading_59 C T  h)
  · refine x_aload_n C dX11_reading_35 36 rfl 0 rfl ?_
    refine x_get C inX11 0 lc0 EC_0 rfl 0 (by decide) dX11_reading_36 39 rfl wmf_X11_12 rfl ?_
    refine x_iload_n C dX11_reading_39 40 rfl 1 rfl ?_
    obtain ⟨a40, hq, h⟩ := xbv_some h
    refine x_callVv C 2 (c_X9_begin C.2.2.2.2.2.2.1 hq) lc2 EC_2 rfl wml_X11_129 wq_X9_begin rfl ⟨by decide, by decide⟩ rfl rfl ⟨by decide, by decide⟩ dX11_reading_40 43 rfl rfl (Nat.le_of_ble_eq_true rfl) ?_
    refine x_aload_n C dX11_reading_43 44 rfl 0 rfl ?_
    refine x_get C inX11 0 lc0 EC_0 rfl 4 (by decide) dX11_reading_44 47 rfl wmf_X11_36 rfl ?_
    refine x_aload_n C dX11_reading_47 48 rfl 0 rfl ?_
    refine x_get C inX11 0 lc0 EC_0 rfl 0 (by decide) dX11_reading_48 51 rfl wmf_X11_12 rfl ?_
    obtain ⟨r51, a51, hq, h⟩ := xb_some h
    refine x_callVi C 31 (c_X5_readText_reading C.2.2.2.2.2.2.1 hq) lc31 EC_31 rfl wml_X11_146 wq_X5_readText rfl ⟨by decide, by decide⟩ rfl rfl ⟨by decide, by decide⟩ dX11_reading_51 54 rfl rfl (Nat.le_of_ble_eq_true rfl) ?_
    refine x_pop C dX11_reading_54 55 rfl rfl ?_
    refine x_aload_n C dX11_reading_55 56 rfl 0 rfl ?_
    obtain ⟨a56, hq, h⟩ := xbv_some h
    refine x_callVv C 0 (c_X11_changed C.2.2.2.2.2.2.1 hq) lc0 EC_0 rfl wml_X11_136 wq_X11_changed rfl ⟨by decide, by decide⟩ rfl rfl ⟨by decide, by decide⟩ dX11_reading_56 59 rfl rfl (Nat.le_of_ble_eq_true rfl) ?_
    exact x_sub [0] rfl (b_X11_reading_59 C T  h)
abbrev rm_X11_follows : Room := { frames := 7, cells := 3, slots := 18, locals := 118 }
theorem wq_X11_follows : xcV RX11 yX11_follows cX11_follows 2 (some .int) 1 := ⟨wmi_X11_follows, wms_X11_follows, wmn_X11, wmc_X11_follows, by decide, by decide, by decide +kernel⟩
def F_X11_follows_59 (N : Nat) (ah : AH) : Option XR := xb (F_X9_finish N ah (ah 49 1)) (fun r70 a70 => some (0, r70, a70))
def F_X11_follows (N : Nat) (ah : AH) (p1 : Int32) : Option XR := xbx (F_X11_needBetween N ah p1 0 (ah 2 1)) (fun a10 => xbv (F_X9_begin N a10 p1) (fun a18 => xb (F_X1_readText N 53 a18) (fun r29 a29 => if r29 = 0 then F_X11_follows_59 N a29 else xbv (F_X9_begin N a29 p1) (fun a40 => xb (F_X1_readText N 49 a40) (fun r51 a51 => xbv (F_X11_changed N a51) (fun a56 => F_X11_follows_59 N a56))))))
theorem b_X11_follows_59 (C : XC p l s m args meth c cX11_follows 2 (some .int) RX11 D vwCl (tysC ca) (EC ad ca) NCC ad) (T : XT l s c ad NCC) {N : Nat} {o : XR} {ah : AH} (h : F_X11_follows_59 N ah = some o) : XW p l e rm_X11_follows s m args below meth c 2 1 (xQx below args s D vwCl (tysC ca) (EC ad ca) NCC ad o) D vwCl (EC ad ca) NCC ad ah 59 [(0, .ref (ad 0))] [] := by
  unfold F_X11_follows_59 at h
  refine x_aload_n C dX11_follows_59 60 rfl 0 rfl ?_
  refine x_get C inX11 0 lc0 EC_0 rfl 0 (by decide) dX11_follows_60 63 rfl wmf_X11_12 rfl ?_
  refine x_aload_n C dX11_follows_63 64 rfl 0 rfl ?_
  refine x_get C inX11 0 lc0 EC_0 rfl 6 (by decide) dX11_follows_64 67 rfl wmf_X11_48 rfl ?_
  refine x_get C inX1 49 lc49 EC_49 rfl 1 (by decide) dX11_follows_67 70 rfl wmf_X11_154 rfl ?_
  obtain ⟨r70, a70, hq, h⟩ := xb_some h
  refine x_callVi C 2 (c_X9_finish C.2.2.2.2.2.2.1 hq) lc2 EC_2 rfl wml_X11_140 wq_X9_finish rfl ⟨by decide, by decide⟩ rfl rfl ⟨by decide, by decide⟩ dX11_follows_70 73 rfl rfl (Nat.le_of_ble_eq_true rfl) ?_
  exact x_iretX C rfl (by decide) dX11_follows_73 h
theorem c_X11_follows {l : Launch} {D : va_G} {ca : Nat → ClassId} {ad : Nat → Nat} (hI : xInj ad NCC) (hst : l.stackTraces = false) {N : Nat} {ah : AH} {p1 : Int32} {o : XR} (h : F_X11_follows N ah p1 = some o) : xMx l yX11_follows cX11_follows 2 (some .int) rm_X11_follows D vwCl (tysC ca) (EC ad ca) NCC ad [.ref (ad 0), .int p1] ah o := by
  refine x_metx (by decide) (Nat.le_of_ble_eq_true rfl) hI EC_loc hst ?_
  intro p e s m args below meth c C T
  unfold F_X11_follows at h
  refine x_aload_n C dX11_follows_0 1 rfl 0 rfl ?_
  refine x_iload_n C dX11_follows_1 2 rfl 1 rfl ?_
  refine x_iconst C dX11_follows_2 3 rfl 0 rfl ?_
  refine x_aload_n C dX11_follows_3 4 rfl 0 rfl ?_
  refine x_get C inX11 0 lc0 EC_0 rfl 0 (by decide) dX11_follows_4 7 rfl wmf_X11_12 rfl ?_
  refine x_get C inX9 2 lc2 EC_2 rfl 1 (by decide) dX11_follows_7 10 rfl wmf_X11_117 rfl ?_
  obtain ⟨k10, r10, a10, hq, h⟩ := xbx_some h
  refine x_callX C T 0 (c_X11_needBetween C.2.2.2.2.2.2.1 T.1 hq) lc0 EC_0 rfl wml_X11_125 wq_X11_needBetween rfl ⟨by decide, by decide⟩ ⟨by decide, by decide⟩ rfl rfl ⟨by decide, by decide⟩ dX11_follows_10 13 rfl rfl (Nat.le_of_ble_eq_true rfl) h (fun h => ?_)
  refine x_aload_n C dX11_follows_13 14 rfl 0 rfl ?_
  refine x_get C inX11 0 lc0 EC_0 rfl 0 (by decide) dX11_follows_14 17 rfl wmf_X11_12 rfl ?_
  refine x_iload_n C dX11_follows_17 18 rfl 1 rfl ?_
  obtain ⟨a18, hq, h⟩ := xbv_some h
  refine x_callVv C 2 (c_X9_begin C.2.2.2.2.2.2.1 hq) lc2 EC_2 rfl wml_X11_129 wq_X9_begin rfl ⟨by decide, by decide⟩ rfl rfl ⟨by decide, by decide⟩ dX11_follows_18 21 rfl rfl (Nat.le_of_ble_eq_true rfl) ?_
  refine x_aload_n C dX11_follows_21 22 rfl 0 rfl ?_
  refine x_get C inX11 0 lc0 EC_0 rfl 7 (by decide) dX11_follows_22 25 rfl wmf_X11_52 rfl ?_
  refine x_aload_n C dX11_follows_25 26 rfl 0 rfl ?_
  refine x_get C inX11 0 lc0 EC_0 rfl 0 (by decide) dX11_follows_26 29 rfl wmf_X11_12 rfl ?_
  obtain ⟨r29, a29, hq, h⟩ := xb_some h
  refine x_callVi C 53 (c_X1_readText_trialFollows C.2.2.2.2.2.2.1 hq) lc53 EC_53 rfl wml_X11_153 wq_X1_readText rfl ⟨by decide, by decide⟩ rfl rfl ⟨by decide, by decide⟩ dX11_follows_29 32 rfl rfl (Nat.le_of_ble_eq_true rfl) ?_
  refine x_if_eq C dX11_follows_32 35 rfl 59 rfl h (fun h => ?_) (fun h => ?_)
  · exact x_sub [0] rfl (b_X11_follows_59 C T  h)
  · refine x_aload_n C dX11_follows_35 36 rfl 0 rfl ?_
    refine x_get C inX11 0 lc0 EC_0 rfl 0 (by decide) dX11_follows_36 39 rfl wmf_X11_12 rfl ?_
    refine x_iload_n C dX11_follows_39 40 rfl 1 rfl ?_
    obtain ⟨a40, hq, h⟩ := xbv_some h
    refine x_callVv C 2 (c_X9_begin C.2.2.2.2.2.2.1 hq) lc2 EC_2 rfl wml_X11_129 wq_X9_begin rfl ⟨by decide, by decide⟩ rfl rfl ⟨by decide, by decide⟩ dX11_follows_40 43 rfl rfl (Nat.le_of_ble_eq_true rfl) ?_
    refine x_aload_n C dX11_follows_43 44 rfl 0 rfl ?_
    refine x_get C inX11 0 lc0 EC_0 rfl 6 (by decide) dX11_follows_44 47 rfl wmf_X11_48 rfl ?_
    refine x_aload_n C dX11_follows_47 48 rfl 0 rfl ?_
    refine x_get C inX11 0 lc0 EC_0 rfl 0 (by decide) dX11_follows_48 51 rfl wmf_X11_12 rfl ?_
    obtain ⟨r51, a51, hq, h⟩ := xb_some h
    refine x_callVi C 49 (c_X1_readText_follows C.2.2.2.2.2.2.1 hq) lc49 EC_49 rfl wml_X11_153 wq_X1_readText rfl ⟨by decide, by decide⟩ rfl rfl ⟨by decide, by decide⟩ dX11_follows_51 54 rfl rfl (Nat.le_of_ble_eq_true rfl) ?_
    refine x_pop C dX11_follows_54 55 rfl rfl ?_
    refine x_aload_n C dX11_follows_55 56 rfl 0 rfl ?_
    obtain ⟨a56, hq, h⟩ := xbv_some h
    refine x_callVv C 0 (c_X11_changed C.2.2.2.2.2.2.1 hq) lc0 EC_0 rfl wml_X11_136 wq_X11_changed rfl ⟨by decide, by decide⟩ rfl rfl ⟨by decide, by decide⟩ dX11_follows_56 59 rfl rfl (Nat.le_of_ble_eq_true rfl) ?_
    exact x_sub [0] rfl (b_X11_follows_59 C T  h)
abbrev rm_X11_set : Room := { frames := 7, cells := 3, slots := 18, locals := 105 }
theorem wq_X11_set : xcV RX11 yX11_set cX11_set 4 (some .int) 2 := ⟨wmi_X11_set, wms_X11_set, wmn_X11, wmc_X11_set, by decide, by decide, by decide +kernel⟩
def F_X11_set (N : Nat) (ah : AH) (p1 : Int32) (p2 : Int32) : Option XR := xbx (F_X11_needBetween N ah p1 0 6) (fun a5 => xg p1 7 (xbx (F_X11_needBetween N a5 p2 0 (hcv (Int32.toNatClampNeg p1))) (fun a16 => xg p1 7 (xlet (a16 1 (Int32.toNatClampNeg p1)) (fun v3_25 => xg p1 7 (xlet (xu a16 1 (Int32.toNatClampNeg p1) p2) (fun a32 => xbv (F_X11_changed N a32) (fun a34 => some (0, v3_25, a34)))))))))
theorem c_X11_set {l : Launch} {D : va_G} {ca : Nat → ClassId} {ad : Nat → Nat} (hI : xInj ad NCC) (hst : l.stackTraces = false) {N : Nat} {ah : AH} {p1 : Int32} {p2 : Int32} {o : XR} (h : F_X11_set N ah p1 p2 = some o) : xMx l yX11_set cX11_set 4 (some .int) rm_X11_set D vwCl (tysC ca) (EC ad ca) NCC ad [.ref (ad 0), .int p1, .int p2] ah o := by
  refine x_metx (by decide) (Nat.le_of_ble_eq_true rfl) hI EC_loc hst ?_
  intro p e s m args below meth c C T
  unfold F_X11_set at h
  refine x_aload_n C dX11_set_0 1 rfl 0 rfl ?_
  refine x_iload_n C dX11_set_1 2 rfl 1 rfl ?_
  refine x_iconst C dX11_set_2 3 rfl 0 rfl ?_
  refine x_bipush C dX11_set_3 5 rfl 6 rfl ?_
  obtain ⟨k5, r5, a5, hq, h⟩ := xbx_some h
  refine x_callX C T 0 (c_X11_needBetween C.2.2.2.2.2.2.1 T.1 hq) lc0 EC_0 rfl wml_X11_125 wq_X11_needBetween rfl ⟨by decide, by decide⟩ ⟨by decide, by decide⟩ rfl rfl ⟨by decide, by decide⟩ dX11_set_5 8 rfl rfl (Nat.le_of_ble_eq_true rfl) h (fun h => ?_)
  refine x_aload_n C dX11_set_8 9 rfl 0 rfl ?_
  refine x_iload_n C dX11_set_9 10 rfl 2 rfl ?_
  refine x_iconst C dX11_set_10 11 rfl 0 rfl ?_
  obtain ⟨tq, hz, ht⟩ := T.2.1.2.2.2.2.2.2
  refine x_gets C hz wmf_X11_159 dX11_set_11 14 rfl ?_
  refine x_iload_n C dX11_set_14 15 rfl 1 rfl ?_
  refine x_tald C ht dX11_set_15 16 rfl h (fun h => ?_)
  obtain ⟨k16, r16, a16, hq, h⟩ := xbx_some h
  refine x_callX C T 0 (c_X11_needBetween C.2.2.2.2.2.2.1 T.1 hq) lc0 EC_0 rfl wml_X11_125 wq_X11_needBetween rfl ⟨by decide, by decide⟩ ⟨by decide, by decide⟩ rfl rfl ⟨by decide, by decide⟩ dX11_set_16 19 rfl rfl (Nat.le_of_ble_eq_true rfl) h (fun h => ?_)
  refine x_aload_n C dX11_set_19 20 rfl 0 rfl ?_
  refine x_get C inX11 0 lc0 EC_0 rfl 8 (by decide) dX11_set_20 23 rfl wmf_X11_64 rfl ?_
  refine x_iload_n C dX11_set_23 24 rfl 1 rfl ?_
  refine x_iald C 1 lc1 EC_1 0 rfl dX11_set_24 25 rfl h (fun h => ?_)
  refine x_istore_n C dX11_set_25 26 rfl (by decide) (fun v3_25 => [(3, .int v3_25), (0, .ref (ad 0)), (1, .int p1), (2, .int p2)]) (fun _ => rfl) h (fun v3_25 h => ?_)
  refine x_aload_n C dX11_set_26 27 rfl 1 rfl ?_
  refine x_get C inX11 0 lc0 EC_0 rfl 8 (by decide) dX11_set_27 30 rfl wmf_X11_64 rfl ?_
  refine x_iload_n C dX11_set_30 31 rfl 2 rfl ?_
  refine x_iload_n C dX11_set_31 32 rfl 3 rfl ?_
  refine x_iast C 1 lc1 (fun _ => EC_1) 0 rfl dX11_set_32 33 rfl h (fun a32 h => ?_)
  refine x_aload_n C dX11_set_33 34 rfl 1 rfl ?_
  obtain ⟨a34, hq, h⟩ := xbv_some h
  refine x_callVv C 0 (c_X11_changed C.2.2.2.2.2.2.1 hq) lc0 EC_0 rfl wml_X11_136 wq_X11_changed rfl ⟨by decide, by decide⟩ rfl rfl ⟨by decide, by decide⟩ dX11_set_34 37 rfl rfl (Nat.le_of_ble_eq_true rfl) ?_
  refine x_iload_n C dX11_set_37 38 rfl 0 rfl ?_
  exact x_iretX C rfl (by decide) dX11_set_38 h
abbrev rm_X11_needElement : Room := { frames := 6, cells := 1, slots := 6, locals := 82 }
theorem wq_X11_needElement : xcV RX11 yX11_needElement cX11_needElement 3 none 2 := ⟨wmi_X11_needElement, wms_X11_needElement, wmn_X11, wmc_X11_needElement, by decide, by decide, by decide +kernel⟩
def F_X11_needElement_9 (N : Nat) (ah : AH) : Option XR := xlet (xu ah 0 14 ((ah 0 14) + 1)) (fun a16 => some (1, 0, a16))
def F_X11_needElement (N : Nat) (ah : AH) (p1 : Int32) (p2 : Int32) : Option XR := if p1 < 0 then F_X11_needElement_9 N ah else if p1 < p2 then some (0, 0, ah) else F_X11_needElement_9 N ah
theorem b_X11_needElement_9 (C : XC p l s m args meth c cX11_needElement 3 none RX11 D vwCl (tysC ca) (EC ad ca) NCC ad) (T : XT l s c ad NCC) {N : Nat} {o : XR} {ah : AH} (h : F_X11_needElement_9 N ah = some o) : XW p l e rm_X11_needElement s m args below meth c 3 0 (xQn below args s D vwCl (tysC ca) (EC ad ca) NCC ad o) D vwCl (EC ad ca) NCC ad ah 9 [(0, .ref (ad 0))] [] := by
  unfold F_X11_needElement_9 at h
  refine x_aload_n C dX11_needElement_9 10 rfl 0 rfl ?_
  refine x_dup C dX11_needElement_10 11 rfl rfl ?_
  refine x_get C inX11 0 lc0 EC_0 rfl 14 (by decide) dX11_needElement_11 14 rfl wmf_X11_377 rfl ?_
  refine x_iconst C dX11_needElement_14 15 rfl 1 rfl ?_
  refine x_iadd C dX11_needElement_15 16 rfl ?_
  refine x_put C inX11 0 lc0 EC_0 rfl 14 (by decide) tyX11_ok nmX11 dX11_needElement_16 19 rfl wmf_X11_377 rfl rfl rfl (Nat.le_of_ble_eq_true rfl) EP_0_14 h (fun a16 h => ?_)
  exact x_throw1 C T dX11_needElement_19 dX11_needElement_22 dX11_needElement_23 dX11_needElement_26 dX11_needElement_29 (by decide) (by decide) (by decide) (by decide) (by decide) (by decide) h
theorem c_X11_needElement {l : Launch} {D : va_G} {ca : Nat → ClassId} {ad : Nat → Nat} (hI : xInj ad NCC) (hst : l.stackTraces = false) {N : Nat} {ah : AH} {p1 : Int32} {p2 : Int32} {o : XR} (h : F_X11_needElement N ah p1 p2 = some o) : xMn l yX11_needElement cX11_needElement 3 none rm_X11_needElement D vwCl (tysC ca) (EC ad ca) NCC ad [.ref (ad 0), .int p1, .int p2] ah o := by
  refine x_metn (by decide) (Nat.le_of_ble_eq_true rfl) hI EC_loc hst ?_
  intro p e s m args below meth c C T
  unfold F_X11_needElement at h
  refine x_iload_n C dX11_needElement_0 1 rfl 1 rfl ?_
  refine x_if_lt C dX11_needElement_1 4 rfl 9 rfl h (fun h => ?_) (fun h => ?_)
  · exact x_sub [0] rfl (b_X11_needElement_9 C T  h)
  · refine x_iload_n C dX11_needElement_4 5 rfl 1 rfl ?_
    refine x_iload_n C dX11_needElement_5 6 rfl 2 rfl ?_
    refine x_icmp_lt C dX11_needElement_6 9 rfl 30 rfl h (fun h => ?_) (fun h => ?_)
    · exact x_vretX C rfl (by decide) dX11_needElement_30 h
    · exact x_sub [0] rfl (b_X11_needElement_9 C T  h)
abbrev rm_X11_needWord : Room := { frames := 7, cells := 1, slots := 6, locals := 104 }
theorem wq_X11_needWord : xcV RX11 yX11_needWord cX11_needWord 2 none 1 := ⟨wmi_X11_needWord, wms_X11_needWord, wmn_X11, wmc_X11_needWord, by decide, by decide, by decide +kernel⟩
def F_X11_needWord (N : Nat) (ah : AH) (p1 : Int32) : Option XR := xbx (F_X11_needElement N ah p1 (ah 4 0)) (fun a9 => some (0, 0, a9))
theorem c_X11_needWord {l : Launch} {D : va_G} {ca : Nat → ClassId} {ad : Nat → Nat} (hI : xInj ad NCC) (hst : l.stackTraces = false) {N : Nat} {ah : AH} {p1 : Int32} {o : XR} (h : F_X11_needWord N ah p1 = some o) : xMn l yX11_needWord cX11_needWord 2 none rm_X11_needWord D vwCl (tysC ca) (EC ad ca) NCC ad [.ref (ad 0), .int p1] ah o := by
  refine x_metn (by decide) (Nat.le_of_ble_eq_true rfl) hI EC_loc hst ?_
  intro p e s m args below meth c C T
  unfold F_X11_needWord at h
  refine x_aload_n C dX11_needWord_0 1 rfl 0 rfl ?_
  refine x_iload_n C dX11_needWord_1 2 rfl 1 rfl ?_
  refine x_aload_n C dX11_needWord_2 3 rfl 0 rfl ?_
  refine x_get C inX11 0 lc0 EC_0 rfl 1 (by decide) dX11_needWord_3 6 rfl wmf_X11_19 rfl ?_
  refine x_get C inX2 4 lc4 EC_4 rfl 0 (by decide) dX11_needWord_6 9 rfl wmf_X11_139 rfl ?_
  obtain ⟨k9, r9, a9, hq, h⟩ := xbx_some h
  refine x_callX C T 0 (c_X11_needElement C.2.2.2.2.2.2.1 T.1 hq) lc0 EC_0 rfl wml_X11_278 wq_X11_needElement rfl ⟨by decide, by decide⟩ ⟨by decide, by decide⟩ rfl rfl ⟨by decide, by decide⟩ dX11_needWord_9 12 rfl rfl (Nat.le_of_ble_eq_true rfl) h (fun h => ?_)
  exact x_vretX C rfl (by decide) dX11_needWord_12 h
abbrev rm_X11_weigh : Room := { frames := 8, cells := 3, slots := 18, locals := 125 }
theorem wq_X11_weigh : xcV RX11 yX11_weigh cX11_weigh 4 (some .int) 2 := ⟨wmi_X11_weigh, wms_X11_weigh, wmn_X11, wmc_X11_weigh, by decide, by decide, by decide +kernel⟩
def F_X11_weigh (N : Nat) (ah : AH) (p1 : Int32) (p2 : Int32) : Option XR := xbx (F_X11_needWord N ah p1) (fun a2 => xbx (F_X11_needBetween N a2 p2 0 99) (fun a10 => xg p1 60 (xlet (a10 6 (Int32.toNatClampNeg p1)) (fun v3_22 => xbv (F_X2_weighWord N a10 p1 p2) (fun a29 => xbv (F_X11_changed N a29) (fun a33 => some (0, v3_22, a33)))))))
theorem c_X11_weigh {l : Launch} {D : va_G} {ca : Nat → ClassId} {ad : Nat → Nat} (hI : xInj ad NCC) (hst : l.stackTraces = false) {N : Nat} {ah : AH} {p1 : Int32} {p2 : Int32} {o : XR} (h : F_X11_weigh N ah p1 p2 = some o) : xMx l yX11_weigh cX11_weigh 4 (some .int) rm_X11_weigh D vwCl (tysC ca) (EC ad ca) NCC ad [.ref (ad 0), .int p1, .int p2] ah o := by
  refine x_metx (by decide) (Nat.le_of_ble_eq_true rfl) hI EC_loc hst ?_
  intro p e s m args below meth c C T
  unfold F_X11_weigh at h
  refine x_aload_n C dX11_weigh_0 1 rfl 0 rfl ?_
  refine x_iload_n C dX11_weigh_1 2 rfl 1 rfl ?_
  obtain ⟨k2, r2, a2, hq, h⟩ := xbx_some h
  refine x_callX C T 0 (c_X11_needWord C.2.2.2.2.2.2.1 T.1 hq) lc0 EC_0 rfl wml_X11_162 wq_X11_needWord rfl ⟨by decide, by decide⟩ ⟨by decide, by decide⟩ rfl rfl ⟨by decide, by decide⟩ dX11_weigh_2 5 rfl rfl (Nat.le_of_ble_eq_true rfl) h (fun h => ?_)
  refine x_aload_n C dX11_weigh_5 6 rfl 0 rfl ?_
  refine x_iload_n C dX11_weigh_6 7 rfl 2 rfl ?_
  refine x_iconst C dX11_weigh_7 8 rfl 0 rfl ?_
  refine x_bipush C dX11_weigh_8 10 rfl 99 rfl ?_
  obtain ⟨k10, r10, a10, hq, h⟩ := xbx_some h
  refine x_callX C T 0 (c_X11_needBetween C.2.2.2.2.2.2.1 T.1 hq) lc0 EC_0 rfl wml_X11_125 wq_X11_needBetween rfl ⟨by decide, by decide⟩ ⟨by decide, by decide⟩ rfl rfl ⟨by decide, by decide⟩ dX11_weigh_10 13 rfl rfl (Nat.le_of_ble_eq_true rfl) h (fun h => ?_)
  refine x_aload_n C dX11_weigh_13 14 rfl 0 rfl ?_
  refine x_get C inX11 0 lc0 EC_0 rfl 1 (by decide) dX11_weigh_14 17 rfl wmf_X11_19 rfl ?_
  refine x_get C inX2 4 lc4 EC_4 rfl 2 (by decide) dX11_weigh_17 20 rfl wmf_X11_165 rfl ?_
  refine x_iload_n C dX11_weigh_20 21 rfl 1 rfl ?_
  refine x_iald C 6 lc6 EC_6 0 rfl dX11_weigh_21 22 rfl h (fun h => ?_)
  refine x_istore_n C dX11_weigh_22 23 rfl (by decide) (fun v3_22 => [(3, .int v3_22), (0, .ref (ad 0)), (1, .int p1), (2, .int p2)]) (fun _ => rfl) h (fun v3_22 h => ?_)
  refine x_aload_n C dX11_weigh_23 24 rfl 1 rfl ?_
  refine x_get C inX11 0 lc0 EC_0 rfl 1 (by decide) dX11_weigh_24 27 rfl wmf_X11_19 rfl ?_
  refine x_iload_n C dX11_weigh_27 28 rfl 2 rfl ?_
  refine x_iload_n C dX11_weigh_28 29 rfl 3 rfl ?_
  obtain ⟨a29, hq, h⟩ := xbv_some h
  refine x_callVv C 4 (c_X2_weighWord C.2.2.2.2.2.2.1 hq) lc4 EC_4 rfl wml_X11_168 wq_X2_weighWord rfl ⟨by decide, by decide⟩ rfl rfl ⟨by decide, by decide⟩ dX11_weigh_29 32 rfl rfl (Nat.le_of_ble_eq_true rfl) ?_
  refine x_aload_n C dX11_weigh_32 33 rfl 1 rfl ?_
  obtain ⟨a33, hq, h⟩ := xbv_some h
  refine x_callVv C 0 (c_X11_changed C.2.2.2.2.2.2.1 hq) lc0 EC_0 rfl wml_X11_136 wq_X11_changed rfl ⟨by decide, by decide⟩ rfl rfl ⟨by decide, by decide⟩ dX11_weigh_33 36 rfl rfl (Nat.le_of_ble_eq_true rfl) ?_
  refine x_iload_n C dX11_weigh_36 37 rfl 0 rfl ?_
  exact x_iretX C rfl (by decide) dX11_weigh_37 h
abbrev rm_X11_needToken : Room := { frames := 7, cells := 1, slots := 6, locals := 104 }
theorem wq_X11_needToken : xcV RX11 yX11_needToken cX11_needToken 2 none 1 := ⟨wmi_X11_needToken, wms_X11_needToken, wmn_X11, wmc_X11_needToken, by decide, by decide, by decide +kernel⟩
def F_X11_needToken (N : Nat) (ah : AH) (p1 : Int32) : Option XR := xbx (F_X11_needElement N ah p1 (ah 31 0)) (fun a9 => some (0, 0, a9))
theorem c_X11_needToken {l : Launch} {D : va_G} {ca : Nat → ClassId} {ad : Nat → Nat} (hI : xInj ad NCC) (hst : l.stackTraces = false) {N : Nat} {ah : AH} {p1 : Int32} {o : XR} (h : F_X11_needToken N ah p1 = some o) : xMn l yX11_needToken cX11_needToken 2 none rm_X11_needToken D vwCl (tysC ca) (EC ad ca) NCC ad [.ref (ad 0), .int p1] ah o := by
  refine x_metn (by decide) (Nat.le_of_ble_eq_true rfl) hI EC_loc hst ?_
  intro p e s m args below meth c C T
  unfold F_X11_needToken at h
  refine x_aload_n C dX11_needToken_0 1 rfl 0 rfl ?_
  refine x_iload_n C dX11_needToken_1 2 rfl 1 rfl ?_
  refine x_aload_n C dX11_needToken_2 3 rfl 0 rfl ?_
  refine x_get C inX11 0 lc0 EC_0 rfl 4 (by decide) dX11_needToken_3 6 rfl wmf_X11_36 rfl ?_
  refine x_get C inX5 31 lc31 EC_31 rfl 0 (by decide) dX11_needToken_6 9 rfl wmf_X11_147 rfl ?_
  obtain ⟨k9, r9, a9, hq, h⟩ := xbx_some h
  refine x_callX C T 0 (c_X11_needElement C.2.2.2.2.2.2.1 T.1 hq) lc0 EC_0 rfl wml_X11_278 wq_X11_needElement rfl ⟨by decide, by decide⟩ ⟨by decide, by decide⟩ rfl rfl ⟨by decide, by decide⟩ dX11_needToken_9 12 rfl rfl (Nat.le_of_ble_eq_true rfl) h (fun h => ?_)
  exact x_vretX C rfl (by decide) dX11_needToken_12 h
abbrev rm_X11_learn : Room := { frames := 8, cells := 3, slots := 18, locals := 125 }
theorem wq_X11_learn : xcV RX11 yX11_learn cX11_learn 4 (some .int) 1 := ⟨wmi_X11_learn, wms_X11_learn, wmn_X11, wmc_X11_learn, by decide, by decide, by decide +kernel⟩
def F_X11_learn_91 (N : Nat) (ah : AH) (v2 : Int32) : Option XR := xbv (F_X11_changed N ah) (fun a92 => some (0, v2, a92))
def F_X11_learn (N : Nat) (ah : AH) (p1 : Int32) : Option XR := xbx (F_X11_needToken N ah p1) (fun a2 => xbv (F_X0_lookAlone N a2 p1) (fun a10 => xb (F_X0_mendedWord N a10 p1) (fun r18 a18 => xlet r18 (fun v2_21 => if v2_21 = ((-1)) then some (0, (-1), a18) else xb (F_X0_wordOf N a18 p1 1) (fun r35 a35 => xlet r35 (fun v3_38 => xg v2_21 60 (xbv (F_X2_weighWord N a35 v2_21 (xmax 0 ((a35 6 (Int32.toNatClampNeg v2_21)) - 1))) (fun a59 => if v3_38 = ((-1)) then F_X11_learn_91 N a59 v2_21 else xg v3_38 60 (xbv (F_X2_weighWord N a59 v3_38 (xmin 99 ((a59 6 (Int32.toNatClampNeg v3_38)) + 1))) (fun a88 => F_X11_learn_91 N a88 v2_21))))))))))
theorem b_X11_learn_91 (C : XC p l s m args meth c cX11_learn 4 (some .int) RX11 D vwCl (tysC ca) (EC ad ca) NCC ad) (T : XT l s c ad NCC) {N : Nat} {o : XR} {ah : AH} {v2 : Int32} (h : F_X11_learn_91 N ah v2 = some o) : XW p l e rm_X11_learn s m args below meth c 4 1 (xQx below args s D vwCl (tysC ca) (EC ad ca) NCC ad o) D vwCl (EC ad ca) NCC ad ah 91 [(0, .ref (ad 0)), (2, .int v2)] [] := by
  unfold F_X11_learn_91 at h
  refine x_aload_n C dX11_learn_91 92 rfl 0 rfl ?_
  obtain ⟨a92, hq, h⟩ := xbv_some h
  refine x_callVv C 0 (c_X11_changed C.2.2.2.2.2.2.1 hq) lc0 EC_0 rfl wml_X11_136 wq_X11_changed rfl ⟨by decide, by decide⟩ rfl rfl ⟨by decide, by decide⟩ dX11_learn_92 95 rfl rfl (Nat.le_of_ble_eq_true rfl) ?_
  refine x_iload_n C dX11_learn_95 96 rfl 1 rfl ?_
  exact x_iretX C rfl (by decide) dX11_learn_96 h
theorem c_X11_learn {l : Launch} {D : va_G} {ca : Nat → ClassId} {ad : Nat → Nat} (hI : xInj ad NCC) (hst : l.stackTraces = false) {N : Nat} {ah : AH} {p1 : Int32} {o : XR} (h : F_X11_learn N ah p1 = some o) : xMx l yX11_learn cX11_learn 4 (some .int) rm_X11_learn D vwCl (tysC ca) (EC ad ca) NCC ad [.ref (ad 0), .int p1] ah o := by
  refine x_metx (by decide) (Nat.le_of_ble_eq_true rfl) hI EC_loc hst ?_
  intro p e s m args below meth c C T
  unfold F_X11_learn at h
  refine x_aload_n C dX11_learn_0 1 rfl 0 rfl ?_
  refine x_iload_n C dX11_learn_1 2 rfl 1 rfl ?_
  obtain ⟨k2, r2, a2, hq, h⟩ := xbx_some h
  refine x_callX C T 0 (c_X11_needToken C.2.2.2.2.2.2.1 T.1 hq) lc0 EC_0 rfl wml_X11_172 wq_X11_needToken rfl ⟨by decide, by decide⟩ ⟨by decide, by decide⟩ rfl rfl ⟨by decide, by decide⟩ dX11_learn_2 5 rfl rfl (Nat.le_of_ble_eq_true rfl) h (fun h => ?_)
  refine x_aload_n C dX11_learn_5 6 rfl 0 rfl ?_
  refine x_get C inX11 0 lc0 EC_0 rfl 10 (by decide) dX11_learn_6 9 rfl wmf_X11_86 rfl ?_
  refine x_iload_n C dX11_learn_9 10 rfl 1 rfl ?_
  obtain ⟨a10, hq, h⟩ := xbv_some h
  refine x_callVv C 74 (c_X0_lookAlone C.2.2.2.2.2.2.1 hq) lc74 EC_74 rfl wml_X11_175 wq_X0_lookAlone rfl ⟨by decide, by decide⟩ rfl rfl ⟨by decide, by decide⟩ dX11_learn_10 13 rfl rfl (Nat.le_of_ble_eq_true rfl) ?_
  refine x_aload_n C dX11_learn_13 14 rfl 0 rfl ?_
  refine x_get C inX11 0 lc0 EC_0 rfl 10 (by decide) dX11_learn_14 17 rfl wmf_X11_86 rfl ?_
  refine x_iload_n C dX11_learn_17 18 rfl 1 rfl ?_
  obtain ⟨r18, a18, hq, h⟩ := xb_some h
  refine x_callVi C 74 (c_X0_mendedWord C.2.2.2.2.2.2.1 hq) lc74 EC_74 rfl wml_X11_178 wq_X0_mendedWord rfl ⟨by decide, by decide⟩ rfl rfl ⟨by decide, by decide⟩ dX11_learn_18 21 rfl rfl (Nat.le_of_ble_eq_true rfl) ?_
  refine x_istore_n C dX11_learn_21 22 rfl (by decide) (fun v2_21 => [(2, .int v2_21), (0, .ref (ad 0)), (1, .int p1)]) (fun _ => rfl) h (fun v2_21 h => ?_)
  refine x_iload_n C dX11_learn_22 23 rfl 0 rfl ?_
  refine x_iconst C dX11_learn_23 24 rfl (-1) rfl ?_
  refine x_icmp_ne C dX11_learn_24 27 rfl 29 rfl h (fun h => ?_) (fun h => ?_)
  · refine x_aload_n C dX11_learn_29 30 rfl 1 rfl ?_
    refine x_get C inX11 0 lc0 EC_0 rfl 10 (by decide) dX11_learn_30 33 rfl wmf_X11_86 rfl ?_
    refine x_iload_n C dX11_learn_33 34 rfl 2 rfl ?_
    refine x_iconst C dX11_learn_34 35 rfl 1 rfl ?_
    obtain ⟨r35, a35, hq, h⟩ := xb_some h
    refine x_callVi C 74 (c_X0_wordOf C.2.2.2.2.2.2.1 hq) lc74 EC_74 rfl wml_X11_181 wq_X0_wordOf rfl ⟨by decide, by decide⟩ rfl rfl ⟨by decide, by decide⟩ dX11_learn_35 38 rfl rfl (Nat.le_of_ble_eq_true rfl) ?_
    refine x_istore_n C dX11_learn_38 39 rfl (by decide) (fun v3_38 => [(3, .int v3_38), (2, .int v2_21), (0, .ref (ad 0)), (1, .int p1)]) (fun _ => rfl) h (fun v3_38 h => ?_)
    refine x_aload_n C dX11_learn_39 40 rfl 2 rfl ?_
    refine x_get C inX11 0 lc0 EC_0 rfl 1 (by decide) dX11_learn_40 43 rfl wmf_X11_19 rfl ?_
    refine x_iload_n C dX11_learn_43 44 rfl 1 rfl ?_
    refine x_iconst C dX11_learn_44 45 rfl 0 rfl ?_
    refine x_aload_n C dX11_learn_45 46 rfl 2 rfl ?_
    refine x_get C inX11 0 lc0 EC_0 rfl 1 (by decide) dX11_learn_46 49 rfl wmf_X11_19 rfl ?_
    refine x_get C inX2 4 lc4 EC_4 rfl 2 (by decide) dX11_learn_49 52 rfl wmf_X11_165 rfl ?_
    refine x_iload_n C dX11_learn_52 53 rfl 1 rfl ?_
    refine x_iald C 6 lc6 EC_6 0 rfl dX11_learn_53 54 rfl h (fun h => ?_)
    refine x_iconst C dX11_learn_54 55 rfl 1 rfl ?_
    refine x_isub C dX11_learn_55 56 rfl ?_
    refine x_mmax C wml_X11_185 wmt_J9_max wmn_J9 wmc_J9_max ⟨by decide, by decide⟩ (by decide) (Nat.le_of_ble_eq_true rfl) dX11_learn_56 59 rfl ?_
    obtain ⟨a59, hq, h⟩ := xbv_some h
    refine x_callVv C 4 (c_X2_weighWord C.2.2.2.2.2.2.1 hq) lc4 EC_4 rfl wml_X11_168 wq_X2_weighWord rfl ⟨by decide, by decide⟩ rfl rfl ⟨by decide, by decide⟩ dX11_learn_59 62 rfl rfl (Nat.le_of_ble_eq_true rfl) ?_
    refine x_iload_n C dX11_learn_62 63 rfl 0 rfl ?_
    refine x_iconst C dX11_learn_63 64 rfl (-1) rfl ?_
    refine x_icmp_eq C dX11_learn_64 67 rfl 91 rfl h (fun h => ?_) (fun h => ?_)
    · exact x_sub [2, 1] rfl (b_X11_learn_91 C T  h)
    · refine x_aload_n C dX11_learn_67 68 rfl 2 rfl ?_
      refine x_get C inX11 0 lc0 EC_0 rfl 1 (by decide) dX11_learn_68 71 rfl wmf_X11_19 rfl ?_
      refine x_iload_n C dX11_learn_71 72 rfl 0 rfl ?_
      refine x_bipush C dX11_learn_72 74 rfl 99 rfl ?_
      refine x_aload_n C dX11_learn_74 75 rfl 2 rfl ?_
      refine x_get C inX11 0 lc0 EC_0 rfl 1 (by decide) dX11_learn_75 78 rfl wmf_X11_19 rfl ?_
      refine x_get C inX2 4 lc4 EC_4 rfl 2 (by decide) dX11_learn_78 81 rfl wmf_X11_165 rfl ?_
      refine x_iload_n C dX11_learn_81 82 rfl 0 rfl ?_
      refine x_iald C 6 lc6 EC_6 0 rfl dX11_learn_82 83 rfl h (fun h => ?_)
      refine x_iconst C dX11_learn_83 84 rfl 1 rfl ?_
      refine x_iadd C dX11_learn_84 85 rfl ?_
      refine x_mmin C wml_X11_190 wmt_J9_min wmn_J9 wmc_J9_min ⟨by decide, by decide⟩ (by decide) (Nat.le_of_ble_eq_true rfl) dX11_learn_85 88 rfl ?_
      obtain ⟨a88, hq, h⟩ := xbv_some h
      refine x_callVv C 4 (c_X2_weighWord C.2.2.2.2.2.2.1 hq) lc4 EC_4 rfl wml_X11_168 wq_X2_weighWord rfl ⟨by decide, by decide⟩ rfl rfl ⟨by decide, by decide⟩ dX11_learn_88 91 rfl rfl (Nat.le_of_ble_eq_true rfl) ?_
      exact x_sub [2, 1] rfl (b_X11_learn_91 C T  h)
  · refine x_iconst C dX11_learn_27 28 rfl (-1) rfl ?_
    exact x_iretX C rfl (by decide) dX11_learn_28 h
abbrev rm_X11_told : Room := { frames := 7, cells := 3, slots := 18, locals := 105 }
theorem wq_X11_told : xcV RX11 yX11_told cX11_told 2 (some .int) 1 := ⟨wmi_X11_told, wms_X11_told, wmn_X11, wmc_X11_told, by decide, by decide, by decide +kernel⟩
def F_X11_told (N : Nat) (ah : AH) (p1 : Int32) : Option XR := xbx (F_X11_needBetween N ah p1 0 12) (fun a5 => if p1 < 0 then xg (p1 - 5) 7 (some (0, a5 1 (Int32.toNatClampNeg (p1 - 5)), a5)) else if 12 < p1 then xg (p1 - 5) 7 (some (0, a5 1 (Int32.toNatClampNeg (p1 - 5)), a5)) else if p1 = 0 then some (0, a5 4 0, a5) else if p1 = 1 then some (0, a5 4 5, a5) else if p1 = 2 then some (0, a5 19 0, a5) else if p1 = 3 then some (0, a5 31 0, a5) else if p1 = 4 then some (0, a5 31 1, a5) else if p1 = 5 then xg (p1 - 5) 7 (some (0, a5 1 (Int32.toNatClampNeg (p1 - 5)), a5)) else if p1 = 6 then xg (p1 - 5) 7 (some (0, a5 1 (Int32.toNatClampNeg (p1 - 5)), a5)) else if p1 = 7 then xg (p1 - 5) 7 (some (0, a5 1 (Int32.toNatClampNeg (p1 - 5)), a5)) else if p1 = 8 then xg (p1 - 5) 7 (some (0, a5 1 (Int32.toNatClampNeg (p1 - 5)), a5)) else if p1 = 9 then xg (p1 - 5) 7 (some (0, a5 1 (Int32.toNatClampNeg (p1 - 5)), a5)) else if p1 = 10 then xg (p1 - 5) 7 (some (0, a5 1 (Int32.toNatClampNeg (p1 - 5)), a5)) else if p1 = 11 then some (0, a5 2 1, a5) else if p1 = 12 then some (0, a5 1 6, a5) else none)
theorem c_X11_told {l : Launch} {D : va_G} {ca : Nat → ClassId} {ad : Nat → Nat} (hI : xInj ad NCC) (hst : l.stackTraces = false) {N : Nat} {ah : AH} {p1 : Int32} {o : XR} (h : F_X11_told N ah p1 = some o) : xMx l yX11_told cX11_told 2 (some .int) rm_X11_told D vwCl (tysC ca) (EC ad ca) NCC ad [.ref (ad 0), .int p1] ah o := by
  refine x_metx (by decide) (Nat.le_of_ble_eq_true rfl) hI EC_loc hst ?_
  intro p e s m args below meth c C T
  unfold F_X11_told at h
  refine x_aload_n C dX11_told_0 1 rfl 0 rfl ?_
  refine x_iload_n C dX11_told_1 2 rfl 1 rfl ?_
  refine x_iconst C dX11_told_2 3 rfl 0 rfl ?_
  refine x_bipush C dX11_told_3 5 rfl 12 rfl ?_
  obtain ⟨k5, r5, a5, hq, h⟩ := xbx_some h
  refine x_callX C T 0 (c_X11_needBetween C.2.2.2.2.2.2.1 T.1 hq) lc0 EC_0 rfl wml_X11_125 wq_X11_needBetween rfl ⟨by decide, by decide⟩ ⟨by decide, by decide⟩ rfl rfl ⟨by decide, by decide⟩ dX11_told_5 8 rfl rfl (Nat.le_of_ble_eq_true rfl) h (fun h => ?_)
  refine x_iload_n C dX11_told_8 9 rfl 1 rfl ?_
  refine x_swL 0 0 (by decide) h (fun q h => ?_) (fun h => ?_)
  · refine x_tabOut C 132 dX11_told_9 (Or.inl q) rfl ?_
    refine x_aload_n C dX11_told_132 133 rfl 0 rfl ?_
    refine x_get C inX11 0 lc0 EC_0 rfl 8 (by decide) dX11_told_133 136 rfl wmf_X11_64 rfl ?_
    refine x_iload_n C dX11_told_136 137 rfl 1 rfl ?_
    refine x_iconst C dX11_told_137 138 rfl 5 rfl ?_
    refine x_isub C dX11_told_138 139 rfl ?_
    refine x_iald C 1 lc1 EC_1 0 rfl dX11_told_139 140 rfl h (fun h => ?_)
    exact x_iretX C rfl (by decide) dX11_told_140 h
  · skip
    refine x_swG 12 12 (by decide) h (fun q h => ?_) (fun h => ?_)
    · refine x_tabOut C 132 dX11_told_9 (Or.inr q) rfl ?_
      refine x_aload_n C dX11_told_132 133 rfl 0 rfl ?_
      refine x_get C inX11 0 lc0 EC_0 rfl 8 (by decide) dX11_told_133 136 rfl wmf_X11_64 rfl ?_
      refine x_iload_n C dX11_told_136 137 rfl 1 rfl ?_
      refine x_iconst C dX11_told_137 138 rfl 5 rfl ?_
      refine x_isub C dX11_told_138 139 rfl ?_
      refine x_iald C 1 lc1 EC_1 0 rfl dX11_told_139 140 rfl h (fun h => ?_)
      exact x_iretX C rfl (by decide) dX11_told_140 h
    · skip
      refine x_sw 0 h (fun q h => ?_) (fun h => ?_)
      · refine x_tabIn C 76 0 dX11_told_9 q (by decide) (by decide) rfl rfl ?_
        refine x_aload_n C dX11_told_76 77 rfl 0 rfl ?_
        refine x_get C inX11 0 lc0 EC_0 rfl 1 (by decide) dX11_told_77 80 rfl wmf_X11_19 rfl ?_
        refine x_get C inX2 4 lc4 EC_4 rfl 0 (by decide) dX11_told_80 83 rfl wmf_X11_139 rfl ?_
        exact x_iretX C rfl (by decide) dX11_told_83 h
      · skip
        refine x_sw 1 h (fun q h => ?_) (fun h => ?_)
        · refine x_tabIn C 84 1 dX11_told_9 q (by decide) (by decide) rfl rfl ?_
          refine x_aload_n C dX11_told_84 85 rfl 0 rfl ?_
          refine x_get C inX11 0 lc0 EC_0 rfl 1 (by decide) dX11_told_85 88 rfl wmf_X11_19 rfl ?_
          refine x_get C inX2 4 lc4 EC_4 rfl 5 (by decide) dX11_told_88 91 rfl wmf_X11_193 rfl ?_
          exact x_iretX C rfl (by decide) dX11_told_91 h
        · skip
          refine x_sw 2 h (fun q h => ?_) (fun h => ?_)
          · refine x_tabIn C 92 2 dX11_told_9 q (by decide) (by decide) rfl rfl ?_
            refine x_aload_n C dX11_told_92 93 rfl 0 rfl ?_
            refine x_get C inX11 0 lc0 EC_0 rfl 2 (by decide) dX11_told_93 96 rfl wmf_X11_26 rfl ?_
            refine x_get C inX8 19 lc19 EC_19 rfl 0 (by decide) dX11_told_96 99 rfl wmf_X11_145 rfl ?_
            exact x_iretX C rfl (by decide) dX11_told_99 h
          · skip
            refine x_sw 3 h (fun q h => ?_) (fun h => ?_)
            · refine x_tabIn C 100 3 dX11_told_9 q (by decide) (by decide) rfl rfl ?_
              refine x_aload_n C dX11_told_100 101 rfl 0 rfl ?_
              refine x_get C inX11 0 lc0 EC_0 rfl 4 (by decide) dX11_told_101 104 rfl wmf_X11_36 rfl ?_
              refine x_get C inX5 31 lc31 EC_31 rfl 0 (by decide) dX11_told_104 107 rfl wmf_X11_147 rfl ?_
              exact x_iretX C rfl (by decide) dX11_told_107 h
            · skip
              refine x_sw 4 h (fun q h => ?_) (fun h => ?_)
              · refine x_tabIn C 108 4 dX11_told_9 q (by decide) (by decide) rfl rfl ?_
                refine x_aload_n C dX11_told_108 109 rfl 0 rfl ?_
                refine x_get C inX11 0 lc0 EC_0 rfl 4 (by decide) dX11_told_109 112 rfl wmf_X11_36 rfl ?_
                refine x_get C inX5 31 lc31 EC_31 rfl 1 (by decide) dX11_told_112 115 rfl wmf_X11_196 rfl ?_
                exact x_iretX C rfl (by decide) dX11_told_115 h
              · skip
                refine x_sw 5 h (fun q h => ?_) (fun h => ?_)
                · refine x_tabIn C 132 5 dX11_told_9 q (by decide) (by decide) rfl rfl ?_
                  refine x_aload_n C dX11_told_132 133 rfl 0 rfl ?_
                  refine x_get C inX11 0 lc0 EC_0 rfl 8 (by decide) dX11_told_133 136 rfl wmf_X11_64 rfl ?_
                  refine x_iload_n C dX11_told_136 137 rfl 1 rfl ?_
                  refine x_iconst C dX11_told_137 138 rfl 5 rfl ?_
                  refine x_isub C dX11_told_138 139 rfl ?_
                  refine x_iald C 1 lc1 EC_1 0 rfl dX11_told_139 140 rfl h (fun h => ?_)
                  exact x_iretX C rfl (by decide) dX11_told_140 h
                · skip
                  refine x_sw 6 h (fun q h => ?_) (fun h => ?_)
                  · refine x_tabIn C 132 6 dX11_told_9 q (by decide) (by decide) rfl rfl ?_
                    refine x_aload_n C dX11_told_132 133 rfl 0 rfl ?_
                    refine x_get C inX11 0 lc0 EC_0 rfl 8 (by decide) dX11_told_133 136 rfl wmf_X11_64 rfl ?_
                    refine x_iload_n C dX11_told_136 137 rfl 1 rfl ?_
                    refine x_iconst C dX11_told_137 138 rfl 5 rfl ?_
                    refine x_isub C dX11_told_138 139 rfl ?_
                    refine x_iald C 1 lc1 EC_1 0 rfl dX11_told_139 140 rfl h (fun h => ?_)
                    exact x_iretX C rfl (by decide) dX11_told_140 h
                  · skip
                    refine x_sw 7 h (fun q h => ?_) (fun h => ?_)
                    · refine x_tabIn C 132 7 dX11_told_9 q (by decide) (by decide) rfl rfl ?_
                      refine x_aload_n C dX11_told_132 133 rfl 0 rfl ?_
                      refine x_get C inX11 0 lc0 EC_0 rfl 8 (by decide) dX11_told_133 136 rfl wmf_X11_64 rfl ?_
                      refine x_iload_n C dX11_told_136 137 rfl 1 rfl ?_
                      refine x_iconst C dX11_told_137 138 rfl 5 rfl ?_
                      refine x_isub C dX11_told_138 139 rfl ?_
                      refine x_iald C 1 lc1 EC_1 0 rfl dX11_told_139 140 rfl h (fun h => ?_)
                      exact x_iretX C rfl (by decide) dX11_told_140 h
                    · skip
                      refine x_sw 8 h (fun q h => ?_) (fun h => ?_)
                      · refine x_tabIn C 132 8 dX11_told_9 q (by decide) (by decide) rfl rfl ?_
                        refine x_aload_n C dX11_told_132 133 rfl 0 rfl ?_
                        refine x_get C inX11 0 lc0 EC_0 rfl 8 (by decide) dX11_told_133 136 rfl wmf_X11_64 rfl ?_
                        refine x_iload_n C dX11_told_136 137 rfl 1 rfl ?_
                        refine x_iconst C dX11_told_137 138 rfl 5 rfl ?_
                        refine x_isub C dX11_told_138 139 rfl ?_
                        refine x_iald C 1 lc1 EC_1 0 rfl dX11_told_139 140 rfl h (fun h => ?_)
                        exact x_iretX C rfl (by decide) dX11_told_140 h
                      · skip
                        refine x_sw 9 h (fun q h => ?_) (fun h => ?_)
                        · refine x_tabIn C 132 9 dX11_told_9 q (by decide) (by decide) rfl rfl ?_
                          refine x_aload_n C dX11_told_132 133 rfl 0 rfl ?_
                          refine x_get C inX11 0 lc0 EC_0 rfl 8 (by decide) dX11_told_133 136 rfl wmf_X11_64 rfl ?_
                          refine x_iload_n C dX11_told_136 137 rfl 1 rfl ?_
                          refine x_iconst C dX11_told_137 138 rfl 5 rfl ?_
                          refine x_isub C dX11_told_138 139 rfl ?_
                          refine x_iald C 1 lc1 EC_1 0 rfl dX11_told_139 140 rfl h (fun h => ?_)
                          exact x_iretX C rfl (by decide) dX11_told_140 h
                        · skip
                          refine x_sw 10 h (fun q h => ?_) (fun h => ?_)
                          · refine x_tabIn C 132 10 dX11_told_9 q (by decide) (by decide) rfl rfl ?_
                            refine x_aload_n C dX11_told_132 133 rfl 0 rfl ?_
                            refine x_get C inX11 0 lc0 EC_0 rfl 8 (by decide) dX11_told_133 136 rfl wmf_X11_64 rfl ?_
                            refine x_iload_n C dX11_told_136 137 rfl 1 rfl ?_
                            refine x_iconst C dX11_told_137 138 rfl 5 rfl ?_
                            refine x_isub C dX11_told_138 139 rfl ?_
                            refine x_iald C 1 lc1 EC_1 0 rfl dX11_told_139 140 rfl h (fun h => ?_)
                            exact x_iretX C rfl (by decide) dX11_told_140 h
                          · skip
                            refine x_sw 11 h (fun q h => ?_) (fun h => ?_)
                            · refine x_tabIn C 116 11 dX11_told_9 q (by decide) (by decide) rfl rfl ?_
                              refine x_aload_n C dX11_told_116 117 rfl 0 rfl ?_
                              refine x_get C inX11 0 lc0 EC_0 rfl 0 (by decide) dX11_told_117 120 rfl wmf_X11_12 rfl ?_
                              refine x_get C inX9 2 lc2 EC_2 rfl 1 (by decide) dX11_told_120 123 rfl wmf_X11_117 rfl ?_
                              exact x_iretX C rfl (by decide) dX11_told_123 h
                            · skip
                              refine x_sw 12 h (fun q h => ?_) (fun h => ?_)
                              · refine x_tabIn C 124 12 dX11_told_9 q (by decide) (by decide) rfl rfl ?_
                                refine x_aload_n C dX11_told_124 125 rfl 0 rfl ?_
                                refine x_get C inX11 0 lc0 EC_0 rfl 8 (by decide) dX11_told_125 128 rfl wmf_X11_64 rfl ?_
                                refine x_bipush C dX11_told_128 130 rfl 6 rfl ?_
                                refine x_ialdK C 1 lc1 EC_1 0 rfl dX11_told_130 131 rfl (by decide) 6 (by decide) ?_
                                exact x_iretX C rfl (by decide) dX11_told_131 h
                              · skip
                                cases h
abbrev rm_X11_word : Room := { frames := 8, cells := 3, slots := 18, locals := 125 }
theorem wq_X11_word : xcV RX11 yX11_word cX11_word 3 (some .int) 2 := ⟨wmi_X11_word, wms_X11_word, wmn_X11, wmc_X11_word, by decide, by decide, by decide +kernel⟩
def F_X11_word (N : Nat) (ah : AH) (p1 : Int32) (p2 : Int32) : Option XR := xbx (F_X11_needWord N ah p1) (fun a2 => xbx (F_X11_needBetween N a2 p2 0 3) (fun a9 => if p2 < 0 then xg p1 60 (xg (a9 7 (Int32.toNatClampNeg p1)) 721 (some (0, (a9 14 (Int32.toNatClampNeg (a9 7 (Int32.toNatClampNeg p1)))) - 1, a9))) else if 2 < p2 then xg p1 60 (xg (a9 7 (Int32.toNatClampNeg p1)) 721 (some (0, (a9 14 (Int32.toNatClampNeg (a9 7 (Int32.toNatClampNeg p1)))) - 1, a9))) else if p2 = 0 then xg p1 60 (some (0, a9 5 (Int32.toNatClampNeg p1), a9)) else if p2 = 1 then xg p1 60 (some (0, a9 6 (Int32.toNatClampNeg p1), a9)) else if p2 = 2 then xg p1 60 (some (0, a9 7 (Int32.toNatClampNeg p1), a9)) else none))
theorem c_X11_word {l : Launch} {D : va_G} {ca : Nat → ClassId} {ad : Nat → Nat} (hI : xInj ad NCC) (hst : l.stackTraces = false) {N : Nat} {ah : AH} {p1 : Int32} {p2 : Int32} {o : XR} (h : F_X11_word N ah p1 p2 = some o) : xMx l yX11_word cX11_word 3 (some .int) rm_X11_word D vwCl (tysC ca) (EC ad ca) NCC ad [.ref (ad 0), .int p1, .int p2] ah o := by
  refine x_metx (by decide) (Nat.le_of_ble_eq_true rfl) hI EC_loc hst ?_
  intro p e s m args below meth c C T
  unfold F_X11_word at h
  refine x_aload_n C dX11_word_0 1 rfl 0 rfl ?_
  refine x_iload_n C dX11_word_1 2 rfl 1 rfl ?_
  obtain ⟨k2, r2, a2, hq, h⟩ := xbx_some h
  refine x_callX C T 0 (c_X11_needWord C.2.2.2.2.2.2.1 T.1 hq) lc0 EC_0 rfl wml_X11_162 wq_X11_needWord rfl ⟨by decide, by decide⟩ ⟨by decide, by decide⟩ rfl rfl ⟨by decide, by decide⟩ dX11_word_2 5 rfl rfl (Nat.le_of_ble_eq_true rfl) h (fun h => ?_)
  refine x_aload_n C dX11_word_5 6 rfl 0 rfl ?_
  refine x_iload_n C dX11_word_6 7 rfl 2 rfl ?_
  refine x_iconst C dX11_word_7 8 rfl 0 rfl ?_
  refine x_iconst C dX11_word_8 9 rfl 3 rfl ?_
  obtain ⟨k9, r9, a9, hq, h⟩ := xbx_some h
  refine x_callX C T 0 (c_X11_needBetween C.2.2.2.2.2.2.1 T.1 hq) lc0 EC_0 rfl wml_X11_125 wq_X11_needBetween rfl ⟨by decide, by decide⟩ ⟨by decide, by decide⟩ rfl rfl ⟨by decide, by decide⟩ dX11_word_9 12 rfl rfl (Nat.le_of_ble_eq_true rfl) h (fun h => ?_)
  refine x_iload_n C dX11_word_12 13 rfl 2 rfl ?_
  refine x_swL 0 0 (by decide) h (fun q h => ?_) (fun h => ?_)
  · refine x_tabOut C 70 dX11_word_13 (Or.inl q) rfl ?_
    refine x_aload_n C dX11_word_70 71 rfl 0 rfl ?_
    refine x_get C inX11 0 lc0 EC_0 rfl 1 (by decide) dX11_word_71 74 rfl wmf_X11_19 rfl ?_
    refine x_get C inX2 4 lc4 EC_4 rfl 11 (by decide) dX11_word_74 77 rfl wmf_X11_205 rfl ?_
    refine x_aload_n C dX11_word_77 78 rfl 0 rfl ?_
    refine x_get C inX11 0 lc0 EC_0 rfl 1 (by decide) dX11_word_78 81 rfl wmf_X11_19 rfl ?_
    refine x_get C inX2 4 lc4 EC_4 rfl 3 (by decide) dX11_word_81 84 rfl wmf_X11_202 rfl ?_
    refine x_iload_n C dX11_word_84 85 rfl 1 rfl ?_
    refine x_iald C 7 lc7 EC_7 0 rfl dX11_word_85 86 rfl h (fun h => ?_)
    refine x_iald C 14 lc14 EC_14 0 rfl dX11_word_86 87 rfl h (fun h => ?_)
    refine x_iconst C dX11_word_87 88 rfl 1 rfl ?_
    refine x_isub C dX11_word_88 89 rfl ?_
    exact x_iretX C rfl (by decide) dX11_word_89 h
  · skip
    refine x_swG 2 2 (by decide) h (fun q h => ?_) (fun h => ?_)
    · refine x_tabOut C 70 dX11_word_13 (Or.inr q) rfl ?_
      refine x_aload_n C dX11_word_70 71 rfl 0 rfl ?_
      refine x_get C inX11 0 lc0 EC_0 rfl 1 (by decide) dX11_word_71 74 rfl wmf_X11_19 rfl ?_
      refine x_get C inX2 4 lc4 EC_4 rfl 11 (by decide) dX11_word_74 77 rfl wmf_X11_205 rfl ?_
      refine x_aload_n C dX11_word_77 78 rfl 0 rfl ?_
      refine x_get C inX11 0 lc0 EC_0 rfl 1 (by decide) dX11_word_78 81 rfl wmf_X11_19 rfl ?_
      refine x_get C inX2 4 lc4 EC_4 rfl 3 (by decide) dX11_word_81 84 rfl wmf_X11_202 rfl ?_
      refine x_iload_n C dX11_word_84 85 rfl 1 rfl ?_
      refine x_iald C 7 lc7 EC_7 0 rfl dX11_word_85 86 rfl h (fun h => ?_)
      refine x_iald C 14 lc14 EC_14 0 rfl dX11_word_86 87 rfl h (fun h => ?_)
      refine x_iconst C dX11_word_87 88 rfl 1 rfl ?_
      refine x_isub C dX11_word_88 89 rfl ?_
      exact x_iretX C rfl (by decide) dX11_word_89 h
    · skip
      refine x_sw 0 h (fun q h => ?_) (fun h => ?_)
      · refine x_tabIn C 40 0 dX11_word_13 q (by decide) (by decide) rfl rfl ?_
        refine x_aload_n C dX11_word_40 41 rfl 0 rfl ?_
        refine x_get C inX11 0 lc0 EC_0 rfl 1 (by decide) dX11_word_41 44 rfl wmf_X11_19 rfl ?_
        refine x_get C inX2 4 lc4 EC_4 rfl 1 (by decide) dX11_word_44 47 rfl wmf_X11_199 rfl ?_
        refine x_iload_n C dX11_word_47 48 rfl 1 rfl ?_
        refine x_iald C 5 lc5 EC_5 0 rfl dX11_word_48 49 rfl h (fun h => ?_)
        exact x_iretX C rfl (by decide) dX11_word_49 h
      · skip
        refine x_sw 1 h (fun q h => ?_) (fun h => ?_)
        · refine x_tabIn C 50 1 dX11_word_13 q (by decide) (by decide) rfl rfl ?_
          refine x_aload_n C dX11_word_50 51 rfl 0 rfl ?_
          refine x_get C inX11 0 lc0 EC_0 rfl 1 (by decide) dX11_word_51 54 rfl wmf_X11_19 rfl ?_
          refine x_get C inX2 4 lc4 EC_4 rfl 2 (by decide) dX11_word_54 57 rfl wmf_X11_165 rfl ?_
          refine x_iload_n C dX11_word_57 58 rfl 1 rfl ?_
          refine x_iald C 6 lc6 EC_6 0 rfl dX11_word_58 59 rfl h (fun h => ?_)
          exact x_iretX C rfl (by decide) dX11_word_59 h
        · skip
          refine x_sw 2 h (fun q h => ?_) (fun h => ?_)
          · refine x_tabIn C 60 2 dX11_word_13 q (by decide) (by decide) rfl rfl ?_
            refine x_aload_n C dX11_word_60 61 rfl 0 rfl ?_
            refine x_get C inX11 0 lc0 EC_0 rfl 1 (by decide) dX11_word_61 64 rfl wmf_X11_19 rfl ?_
            refine x_get C inX2 4 lc4 EC_4 rfl 3 (by decide) dX11_word_64 67 rfl wmf_X11_202 rfl ?_
            refine x_iload_n C dX11_word_67 68 rfl 1 rfl ?_
            refine x_iald C 7 lc7 EC_7 0 rfl dX11_word_68 69 rfl h (fun h => ?_)
            exact x_iretX C rfl (by decide) dX11_word_69 h
          · skip
            cases h
abbrev rm_X11_sign : Room := { frames := 8, cells := 3, slots := 18, locals := 125 }
theorem wq_X11_sign : xcV RX11 yX11_sign cX11_sign 3 (some .int) 2 := ⟨wmi_X11_sign, wms_X11_sign, wmn_X11, wmc_X11_sign, by decide, by decide, by decide +kernel⟩
def F_X11_sign (N : Nat) (ah : AH) (p1 : Int32) (p2 : Int32) : Option XR := xbx (F_X11_needWord N ah p1) (fun a2 => if p2 < 0 then some (0, (-1), a2) else xg p1 60 (if (a2 5 (Int32.toNatClampNeg p1)) ≤ p2 then some (0, (-1), a2) else xb (F_X2_signOf N a2 p1 p2) (fun r28 a28 => some (0, r28, a28))))
theorem c_X11_sign {l : Launch} {D : va_G} {ca : Nat → ClassId} {ad : Nat → Nat} (hI : xInj ad NCC) (hst : l.stackTraces = false) {N : Nat} {ah : AH} {p1 : Int32} {p2 : Int32} {o : XR} (h : F_X11_sign N ah p1 p2 = some o) : xMx l yX11_sign cX11_sign 3 (some .int) rm_X11_sign D vwCl (tysC ca) (EC ad ca) NCC ad [.ref (ad 0), .int p1, .int p2] ah o := by
  refine x_metx (by decide) (Nat.le_of_ble_eq_true rfl) hI EC_loc hst ?_
  intro p e s m args below meth c C T
  unfold F_X11_sign at h
  refine x_aload_n C dX11_sign_0 1 rfl 0 rfl ?_
  refine x_iload_n C dX11_sign_1 2 rfl 1 rfl ?_
  obtain ⟨k2, r2, a2, hq, h⟩ := xbx_some h
  refine x_callX C T 0 (c_X11_needWord C.2.2.2.2.2.2.1 T.1 hq) lc0 EC_0 rfl wml_X11_162 wq_X11_needWord rfl ⟨by decide, by decide⟩ ⟨by decide, by decide⟩ rfl rfl ⟨by decide, by decide⟩ dX11_sign_2 5 rfl rfl (Nat.le_of_ble_eq_true rfl) h (fun h => ?_)
  refine x_iload_n C dX11_sign_5 6 rfl 2 rfl ?_
  refine x_if_lt C dX11_sign_6 9 rfl 34 rfl h (fun h => ?_) (fun h => ?_)
  · refine x_iconst C dX11_sign_34 35 rfl (-1) rfl ?_
    exact x_iretX C rfl (by decide) dX11_sign_35 h
  · refine x_iload_n C dX11_sign_9 10 rfl 2 rfl ?_
    refine x_aload_n C dX11_sign_10 11 rfl 0 rfl ?_
    refine x_get C inX11 0 lc0 EC_0 rfl 1 (by decide) dX11_sign_11 14 rfl wmf_X11_19 rfl ?_
    refine x_get C inX2 4 lc4 EC_4 rfl 1 (by decide) dX11_sign_14 17 rfl wmf_X11_199 rfl ?_
    refine x_iload_n C dX11_sign_17 18 rfl 1 rfl ?_
    refine x_iald C 5 lc5 EC_5 0 rfl dX11_sign_18 19 rfl h (fun h => ?_)
    refine x_icmp_ge C dX11_sign_19 22 rfl 34 rfl h (fun h => ?_) (fun h => ?_)
    · refine x_iconst C dX11_sign_34 35 rfl (-1) rfl ?_
      exact x_iretX C rfl (by decide) dX11_sign_35 h
    · refine x_aload_n C dX11_sign_22 23 rfl 0 rfl ?_
      refine x_get C inX11 0 lc0 EC_0 rfl 1 (by decide) dX11_sign_23 26 rfl wmf_X11_19 rfl ?_
      refine x_iload_n C dX11_sign_26 27 rfl 1 rfl ?_
      refine x_iload_n C dX11_sign_27 28 rfl 2 rfl ?_
      obtain ⟨r28, a28, hq, h⟩ := xb_some h
      refine x_callVi C 4 (c_X2_signOf C.2.2.2.2.2.2.1 hq) lc4 EC_4 rfl wml_X11_208 wq_X2_signOf rfl ⟨by decide, by decide⟩ rfl rfl ⟨by decide, by decide⟩ dX11_sign_28 31 rfl rfl (Nat.le_of_ble_eq_true rfl) ?_
      refine x_goto C dX11_sign_31 35 rfl ?_
      exact x_iretX C rfl (by decide) dX11_sign_35 h
abbrev rm_X11_find : Room := { frames := 7, cells := 3, slots := 18, locals := 105 }
theorem wq_X11_find : xcV RX11 yX11_find cX11_find 2 (some .int) 1 := ⟨wmi_X11_find, wms_X11_find, wmn_X11, wmc_X11_find, by decide, by decide, by decide +kernel⟩
def F_X11_find (N : Nat) (ah : AH) (p1 : Int32) : Option XR := xbx (F_X11_needBetween N ah p1 0 (ah 2 1)) (fun a10 => xb (F_X2_look N 3 a10 0 p1) (fun r26 a26 => some (0, r26, a26)))
theorem c_X11_find {l : Launch} {D : va_G} {ca : Nat → ClassId} {ad : Nat → Nat} (hI : xInj ad NCC) (hst : l.stackTraces = false) {N : Nat} {ah : AH} {p1 : Int32} {o : XR} (h : F_X11_find N ah p1 = some o) : xMx l yX11_find cX11_find 2 (some .int) rm_X11_find D vwCl (tysC ca) (EC ad ca) NCC ad [.ref (ad 0), .int p1] ah o := by
  refine x_metx (by decide) (Nat.le_of_ble_eq_true rfl) hI EC_loc hst ?_
  intro p e s m args below meth c C T
  unfold F_X11_find at h
  refine x_aload_n C dX11_find_0 1 rfl 0 rfl ?_
  refine x_iload_n C dX11_find_1 2 rfl 1 rfl ?_
  refine x_iconst C dX11_find_2 3 rfl 0 rfl ?_
  refine x_aload_n C dX11_find_3 4 rfl 0 rfl ?_
  refine x_get C inX11 0 lc0 EC_0 rfl 0 (by decide) dX11_find_4 7 rfl wmf_X11_12 rfl ?_
  refine x_get C inX9 2 lc2 EC_2 rfl 1 (by decide) dX11_find_7 10 rfl wmf_X11_117 rfl ?_
  obtain ⟨k10, r10, a10, hq, h⟩ := xbx_some h
  refine x_callX C T 0 (c_X11_needBetween C.2.2.2.2.2.2.1 T.1 hq) lc0 EC_0 rfl wml_X11_125 wq_X11_needBetween rfl ⟨by decide, by decide⟩ ⟨by decide, by decide⟩ rfl rfl ⟨by decide, by decide⟩ dX11_find_10 13 rfl rfl (Nat.le_of_ble_eq_true rfl) h (fun h => ?_)
  refine x_aload_n C dX11_find_13 14 rfl 0 rfl ?_
  refine x_get C inX11 0 lc0 EC_0 rfl 1 (by decide) dX11_find_14 17 rfl wmf_X11_19 rfl ?_
  refine x_aload_n C dX11_find_17 18 rfl 0 rfl ?_
  refine x_get C inX11 0 lc0 EC_0 rfl 0 (by decide) dX11_find_18 21 rfl wmf_X11_12 rfl ?_
  refine x_get C inX9 2 lc2 EC_2 rfl 0 (by decide) dX11_find_21 24 rfl wmf_X11_211 rfl ?_
  refine x_iconst C dX11_find_24 25 rfl 0 rfl ?_
  refine x_iload_n C dX11_find_25 26 rfl 1 rfl ?_
  obtain ⟨r26, a26, hq, h⟩ := xb_some h
  refine x_callVi C 4 (c_X2_look_3 C.2.2.2.2.2.2.1 hq) lc4 EC_4 rfl wml_X11_214 wq_X2_look rfl ⟨by decide, by decide⟩ rfl rfl ⟨by decide, by decide⟩ dX11_find_26 29 rfl rfl (Nat.le_of_ble_eq_true rfl) ?_
  exact x_iretX C rfl (by decide) dX11_find_29 h
abbrev rm_X11_needNode : Room := { frames := 7, cells := 1, slots := 6, locals := 104 }
theorem wq_X11_needNode : xcV RX11 yX11_needNode cX11_needNode 2 none 1 := ⟨wmi_X11_needNode, wms_X11_needNode, wmn_X11, wmc_X11_needNode, by decide, by decide, by decide +kernel⟩
def F_X11_needNode (N : Nat) (ah : AH) (p1 : Int32) : Option XR := xbx (F_X11_needElement N ah p1 (ah 4 5)) (fun a9 => some (0, 0, a9))
theorem c_X11_needNode {l : Launch} {D : va_G} {ca : Nat → ClassId} {ad : Nat → Nat} (hI : xInj ad NCC) (hst : l.stackTraces = false) {N : Nat} {ah : AH} {p1 : Int32} {o : XR} (h : F_X11_needNode N ah p1 = some o) : xMn l yX11_needNode cX11_needNode 2 none rm_X11_needNode D vwCl (tysC ca) (EC ad ca) NCC ad [.ref (ad 0), .int p1] ah o := by
  refine x_metn (by decide) (Nat.le_of_ble_eq_true rfl) hI EC_loc hst ?_
  intro p e s m args below meth c C T
  unfold F_X11_needNode at h
  refine x_aload_n C dX11_needNode_0 1 rfl 0 rfl ?_
  refine x_iload_n C dX11_needNode_1 2 rfl 1 rfl ?_
  refine x_aload_n C dX11_needNode_2 3 rfl 0 rfl ?_
  refine x_get C inX11 0 lc0 EC_0 rfl 1 (by decide) dX11_needNode_3 6 rfl wmf_X11_19 rfl ?_
  refine x_get C inX2 4 lc4 EC_4 rfl 5 (by decide) dX11_needNode_6 9 rfl wmf_X11_193 rfl ?_
  obtain ⟨k9, r9, a9, hq, h⟩ := xbx_some h
  refine x_callX C T 0 (c_X11_needElement C.2.2.2.2.2.2.1 T.1 hq) lc0 EC_0 rfl wml_X11_278 wq_X11_needElement rfl ⟨by decide, by decide⟩ ⟨by decide, by decide⟩ rfl rfl ⟨by decide, by decide⟩ dX11_needNode_9 12 rfl rfl (Nat.le_of_ble_eq_true rfl) h (fun h => ?_)
  exact x_vretX C rfl (by decide) dX11_needNode_12 h
abbrev rm_X11_node : Room := { frames := 8, cells := 3, slots := 18, locals := 125 }
theorem wq_X11_node : xcV RX11 yX11_node cX11_node 3 (some .int) 2 := ⟨wmi_X11_node, wms_X11_node, wmn_X11, wmc_X11_node, by decide, by decide, by decide +kernel⟩
def F_X11_node (N : Nat) (ah : AH) (p1 : Int32) (p2 : Int32) : Option XR := xbx (F_X11_needNode N ah p1) (fun a2 => xbx (F_X11_needBetween N a2 p2 0 5) (fun a9 => if p2 < 0 then xg p1 721 (some (0, a9 14 (Int32.toNatClampNeg p1), a9)) else if 4 < p2 then xg p1 721 (some (0, a9 14 (Int32.toNatClampNeg p1), a9)) else if p2 = 0 then xg p1 721 (some (0, a9 9 (Int32.toNatClampNeg p1), a9)) else if p2 = 1 then xg p1 721 (some (0, a9 10 (Int32.toNatClampNeg p1), a9)) else if p2 = 2 then xg p1 721 (some (0, a9 11 (Int32.toNatClampNeg p1), a9)) else if p2 = 3 then if (a9 4 0) = 0 then some (0, (-1), a9) else xg p1 721 (some (0, a9 15 (Int32.toNatClampNeg p1), a9)) else if p2 = 4 then xb (F_X2_countChildren N a9 p1) (fun r107 a107 => some (0, r107, a107)) else none))
theorem c_X11_node {l : Launch} {D : va_G} {ca : Nat → ClassId} {ad : Nat → Nat} (hI : xInj ad NCC) (hst : l.stackTraces = false) {N : Nat} {ah : AH} {p1 : Int32} {p2 : Int32} {o : XR} (h : F_X11_node N ah p1 p2 = some o) : xMx l yX11_node cX11_node 3 (some .int) rm_X11_node D vwCl (tysC ca) (EC ad ca) NCC ad [.ref (ad 0), .int p1, .int p2] ah o := by
  refine x_metx (by decide) (Nat.le_of_ble_eq_true rfl) hI EC_loc hst ?_
  intro p e s m args below meth c C T
  unfold F_X11_node at h
  refine x_aload_n C dX11_node_0 1 rfl 0 rfl ?_
  refine x_iload_n C dX11_node_1 2 rfl 1 rfl ?_
  obtain ⟨k2, r2, a2, hq, h⟩ := xbx_some h
  refine x_callX C T 0 (c_X11_needNode C.2.2.2.2.2.2.1 T.1 hq) lc0 EC_0 rfl wml_X11_218 wq_X11_needNode rfl ⟨by decide, by decide⟩ ⟨by decide, by decide⟩ rfl rfl ⟨by decide, by decide⟩ dX11_node_2 5 rfl rfl (Nat.le_of_ble_eq_true rfl) h (fun h => ?_)
  refine x_aload_n C dX11_node_5 6 rfl 0 rfl ?_
  refine x_iload_n C dX11_node_6 7 rfl 2 rfl ?_
  refine x_iconst C dX11_node_7 8 rfl 0 rfl ?_
  refine x_iconst C dX11_node_8 9 rfl 5 rfl ?_
  obtain ⟨k9, r9, a9, hq, h⟩ := xbx_some h
  refine x_callX C T 0 (c_X11_needBetween C.2.2.2.2.2.2.1 T.1 hq) lc0 EC_0 rfl wml_X11_125 wq_X11_needBetween rfl ⟨by decide, by decide⟩ ⟨by decide, by decide⟩ rfl rfl ⟨by decide, by decide⟩ dX11_node_9 12 rfl rfl (Nat.le_of_ble_eq_true rfl) h (fun h => ?_)
  refine x_iload_n C dX11_node_12 13 rfl 2 rfl ?_
  refine x_swL 0 0 (by decide) h (fun q h => ?_) (fun h => ?_)
  · refine x_tabOut C 111 dX11_node_13 (Or.inl q) rfl ?_
    refine x_aload_n C dX11_node_111 112 rfl 0 rfl ?_
    refine x_get C inX11 0 lc0 EC_0 rfl 1 (by decide) dX11_node_112 115 rfl wmf_X11_19 rfl ?_
    refine x_get C inX2 4 lc4 EC_4 rfl 11 (by decide) dX11_node_115 118 rfl wmf_X11_205 rfl ?_
    refine x_iload_n C dX11_node_118 119 rfl 1 rfl ?_
    refine x_iald C 14 lc14 EC_14 0 rfl dX11_node_119 120 rfl h (fun h => ?_)
    exact x_iretX C rfl (by decide) dX11_node_120 h
  · skip
    refine x_swG 4 4 (by decide) h (fun q h => ?_) (fun h => ?_)
    · refine x_tabOut C 111 dX11_node_13 (Or.inr q) rfl ?_
      refine x_aload_n C dX11_node_111 112 rfl 0 rfl ?_
      refine x_get C inX11 0 lc0 EC_0 rfl 1 (by decide) dX11_node_112 115 rfl wmf_X11_19 rfl ?_
      refine x_get C inX2 4 lc4 EC_4 rfl 11 (by decide) dX11_node_115 118 rfl wmf_X11_205 rfl ?_
      refine x_iload_n C dX11_node_118 119 rfl 1 rfl ?_
      refine x_iald C 14 lc14 EC_14 0 rfl dX11_node_119 120 rfl h (fun h => ?_)
      exact x_iretX C rfl (by decide) dX11_node_120 h
    · skip
      refine x_sw 0 h (fun q h => ?_) (fun h => ?_)
      · refine x_tabIn C 48 0 dX11_node_13 q (by decide) (by decide) rfl rfl ?_
        refine x_aload_n C dX11_node_48 49 rfl 0 rfl ?_
        refine x_get C inX11 0 lc0 EC_0 rfl 1 (by decide) dX11_node_49 52 rfl wmf_X11_19 rfl ?_
        refine x_get C inX2 4 lc4 EC_4 rfl 6 (by decide) dX11_node_52 55 rfl wmf_X11_221 rfl ?_
        refine x_iload_n C dX11_node_55 56 rfl 1 rfl ?_
        refine x_iald C 9 lc9 EC_9 0 rfl dX11_node_56 57 rfl h (fun h => ?_)
        exact x_iretX C rfl (by decide) dX11_node_57 h
      · skip
        refine x_sw 1 h (fun q h => ?_) (fun h => ?_)
        · refine x_tabIn C 58 1 dX11_node_13 q (by decide) (by decide) rfl rfl ?_
          refine x_aload_n C dX11_node_58 59 rfl 0 rfl ?_
          refine x_get C inX11 0 lc0 EC_0 rfl 1 (by decide) dX11_node_59 62 rfl wmf_X11_19 rfl ?_
          refine x_get C inX2 4 lc4 EC_4 rfl 7 (by decide) dX11_node_62 65 rfl wmf_X11_224 rfl ?_
          refine x_iload_n C dX11_node_65 66 rfl 1 rfl ?_
          refine x_iald C 10 lc10 EC_10 0 rfl dX11_node_66 67 rfl h (fun h => ?_)
          exact x_iretX C rfl (by decide) dX11_node_67 h
        · skip
          refine x_sw 2 h (fun q h => ?_) (fun h => ?_)
          · refine x_tabIn C 68 2 dX11_node_13 q (by decide) (by decide) rfl rfl ?_
            refine x_aload_n C dX11_node_68 69 rfl 0 rfl ?_
            refine x_get C inX11 0 lc0 EC_0 rfl 1 (by decide) dX11_node_69 72 rfl wmf_X11_19 rfl ?_
            refine x_get C inX2 4 lc4 EC_4 rfl 8 (by decide) dX11_node_72 75 rfl wmf_X11_227 rfl ?_
            refine x_iload_n C dX11_node_75 76 rfl 1 rfl ?_
            refine x_iald C 11 lc11 EC_11 0 rfl dX11_node_76 77 rfl h (fun h => ?_)
            exact x_iretX C rfl (by decide) dX11_node_77 h
          · skip
            refine x_sw 3 h (fun q h => ?_) (fun h => ?_)
            · refine x_tabIn C 78 3 dX11_node_13 q (by decide) (by decide) rfl rfl ?_
              refine x_aload_n C dX11_node_78 79 rfl 0 rfl ?_
              refine x_get C inX11 0 lc0 EC_0 rfl 1 (by decide) dX11_node_79 82 rfl wmf_X11_19 rfl ?_
              refine x_get C inX2 4 lc4 EC_4 rfl 0 (by decide) dX11_node_82 85 rfl wmf_X11_139 rfl ?_
              refine x_if_ne C dX11_node_85 88 rfl 92 rfl h (fun h => ?_) (fun h => ?_)
              · refine x_aload_n C dX11_node_92 93 rfl 0 rfl ?_
                refine x_get C inX11 0 lc0 EC_0 rfl 1 (by decide) dX11_node_93 96 rfl wmf_X11_19 rfl ?_
                refine x_get C inX2 4 lc4 EC_4 rfl 12 (by decide) dX11_node_96 99 rfl wmf_X11_230 rfl ?_
                refine x_iload_n C dX11_node_99 100 rfl 1 rfl ?_
                refine x_iald C 15 lc15 EC_15 0 rfl dX11_node_100 101 rfl h (fun h => ?_)
                exact x_iretX C rfl (by decide) dX11_node_101 h
              · refine x_iconst C dX11_node_88 89 rfl (-1) rfl ?_
                refine x_goto C dX11_node_89 101 rfl ?_
                exact x_iretX C rfl (by decide) dX11_node_101 h
            · skip
              refine x_sw 4 h (fun q h => ?_) (fun h => ?_)
              · refine x_tabIn C 102 4 dX11_node_13 q (by decide) (by decide) rfl rfl ?_
                refine x_aload_n C dX11_node_102 103 rfl 0 rfl ?_
                refine x_get C inX11 0 lc0 EC_0 rfl 1 (by decide) dX11_node_103 106 rfl wmf_X11_19 rfl ?_
                refine x_iload_n C dX11_node_106 107 rfl 1 rfl ?_
                obtain ⟨r107, a107, hq, h⟩ := xb_some h
                refine x_callVi C 4 (c_X2_countChildren C.2.2.2.2.2.2.1 hq) lc4 EC_4 rfl wml_X11_233 wq_X2_countChildren rfl ⟨by decide, by decide⟩ rfl rfl ⟨by decide, by decide⟩ dX11_node_107 110 rfl rfl (Nat.le_of_ble_eq_true rfl) ?_
                exact x_iretX C rfl (by decide) dX11_node_110 h
              · skip
                cases h
abbrev rm_X11_child : Room := { frames := 8, cells := 3, slots := 18, locals := 125 }
theorem wq_X11_child : xcV RX11 yX11_child cX11_child 3 (some .int) 2 := ⟨wmi_X11_child, wms_X11_child, wmn_X11, wmc_X11_child, by decide, by decide, by decide +kernel⟩
def F_X11_child (N : Nat) (ah : AH) (p1 : Int32) (p2 : Int32) : Option XR := xbx (F_X11_needNode N ah p1) (fun a2 => xb (F_X2_childOf N a2 p1 p2) (fun r11 a11 => some (0, r11, a11)))
theorem c_X11_child {l : Launch} {D : va_G} {ca : Nat → ClassId} {ad : Nat → Nat} (hI : xInj ad NCC) (hst : l.stackTraces = false) {N : Nat} {ah : AH} {p1 : Int32} {p2 : Int32} {o : XR} (h : F_X11_child N ah p1 p2 = some o) : xMx l yX11_child cX11_child 3 (some .int) rm_X11_child D vwCl (tysC ca) (EC ad ca) NCC ad [.ref (ad 0), .int p1, .int p2] ah o := by
  refine x_metx (by decide) (Nat.le_of_ble_eq_true rfl) hI EC_loc hst ?_
  intro p e s m args below meth c C T
  unfold F_X11_child at h
  refine x_aload_n C dX11_child_0 1 rfl 0 rfl ?_
  refine x_iload_n C dX11_child_1 2 rfl 1 rfl ?_
  obtain ⟨k2, r2, a2, hq, h⟩ := xbx_some h
  refine x_callX C T 0 (c_X11_needNode C.2.2.2.2.2.2.1 T.1 hq) lc0 EC_0 rfl wml_X11_218 wq_X11_needNode rfl ⟨by decide, by decide⟩ ⟨by decide, by decide⟩ rfl rfl ⟨by decide, by decide⟩ dX11_child_2 5 rfl rfl (Nat.le_of_ble_eq_true rfl) h (fun h => ?_)
  refine x_aload_n C dX11_child_5 6 rfl 0 rfl ?_
  refine x_get C inX11 0 lc0 EC_0 rfl 1 (by decide) dX11_child_6 9 rfl wmf_X11_19 rfl ?_
  refine x_iload_n C dX11_child_9 10 rfl 1 rfl ?_
  refine x_iload_n C dX11_child_10 11 rfl 2 rfl ?_
  obtain ⟨r11, a11, hq, h⟩ := xb_some h
  refine x_callVi C 4 (c_X2_childOf C.2.2.2.2.2.2.1 hq) lc4 EC_4 rfl wml_X11_236 wq_X2_childOf rfl ⟨by decide, by decide⟩ rfl rfl ⟨by decide, by decide⟩ dX11_child_11 14 rfl rfl (Nat.le_of_ble_eq_true rfl) ?_
  exact x_iretX C rfl (by decide) dX11_child_14 h
abbrev rm_X11_needShape : Room := { frames := 7, cells := 1, slots := 6, locals := 104 }
theorem wq_X11_needShape : xcV RX11 yX11_needShape cX11_needShape 2 none 1 := ⟨wmi_X11_needShape, wms_X11_needShape, wmn_X11, wmc_X11_needShape, by decide, by decide, by decide +kernel⟩
def F_X11_needShape (N : Nat) (ah : AH) (p1 : Int32) : Option XR := xbx (F_X11_needElement N ah p1 (ah 19 0)) (fun a9 => some (0, 0, a9))
theorem c_X11_needShape {l : Launch} {D : va_G} {ca : Nat → ClassId} {ad : Nat → Nat} (hI : xInj ad NCC) (hst : l.stackTraces = false) {N : Nat} {ah : AH} {p1 : Int32} {o : XR} (h : F_X11_needShape N ah p1 = some o) : xMn l yX11_needShape cX11_needShape 2 none rm_X11_needShape D vwCl (tysC ca) (EC ad ca) NCC ad [.ref (ad 0), .int p1] ah o := by
  refine x_metn (by decide) (Nat.le_of_ble_eq_true rfl) hI EC_loc hst ?_
  intro p e s m args below meth c C T
  unfold F_X11_needShape at h
  refine x_aload_n C dX11_needShape_0 1 rfl 0 rfl ?_
  refine x_iload_n C dX11_needShape_1 2 rfl 1 rfl ?_
  refine x_aload_n C dX11_needShape_2 3 rfl 0 rfl ?_
  refine x_get C inX11 0 lc0 EC_0 rfl 2 (by decide) dX11_needShape_3 6 rfl wmf_X11_26 rfl ?_
  refine x_get C inX8 19 lc19 EC_19 rfl 0 (by decide) dX11_needShape_6 9 rfl wmf_X11_145 rfl ?_
  obtain ⟨k9, r9, a9, hq, h⟩ := xbx_some h
  refine x_callX C T 0 (c_X11_needElement C.2.2.2.2.2.2.1 T.1 hq) lc0 EC_0 rfl wml_X11_278 wq_X11_needElement rfl ⟨by decide, by decide⟩ ⟨by decide, by decide⟩ rfl rfl ⟨by decide, by decide⟩ dX11_needShape_9 12 rfl rfl (Nat.le_of_ble_eq_true rfl) h (fun h => ?_)
  exact x_vretX C rfl (by decide) dX11_needShape_12 h
abbrev rm_X11_shape : Room := { frames := 8, cells := 3, slots := 18, locals := 125 }
theorem wq_X11_shape : xcV RX11 yX11_shape cX11_shape 3 (some .int) 2 := ⟨wmi_X11_shape, wms_X11_shape, wmn_X11, wmc_X11_shape, by decide, by decide, by decide +kernel⟩
def F_X11_shape (N : Nat) (ah : AH) (p1 : Int32) (p2 : Int32) : Option XR := xbx (F_X11_needShape N ah p1) (fun a2 => xbx (F_X11_needBetween N a2 p2 0 2) (fun a9 => if p2 = 0 then xg p1 20 (some (0, a9 20 (Int32.toNatClampNeg p1), a9)) else if p2 = 1 then xg p1 20 (some (0, a9 21 (Int32.toNatClampNeg p1), a9)) else xg p1 20 (some (0, a9 22 (Int32.toNatClampNeg p1), a9))))
theorem c_X11_shape {l : Launch} {D : va_G} {ca : Nat → ClassId} {ad : Nat → Nat} (hI : xInj ad NCC) (hst : l.stackTraces = false) {N : Nat} {ah : AH} {p1 : Int32} {p2 : Int32} {o : XR} (h : F_X11_shape N ah p1 p2 = some o) : xMx l yX11_shape cX11_shape 3 (some .int) rm_X11_shape D vwCl (tysC ca) (EC ad ca) NCC ad [.ref (ad 0), .int p1, .int p2] ah o := by
  refine x_metx (by decide) (Nat.le_of_ble_eq_true rfl) hI EC_loc hst ?_
  intro p e s m args below meth c C T
  unfold F_X11_shape at h
  refine x_aload_n C dX11_shape_0 1 rfl 0 rfl ?_
  refine x_iload_n C dX11_shape_1 2 rfl 1 rfl ?_
  obtain ⟨k2, r2, a2, hq, h⟩ := xbx_some h
  refine x_callX C T 0 (c_X11_needShape C.2.2.2.2.2.2.1 T.1 hq) lc0 EC_0 rfl wml_X11_239 wq_X11_needShape rfl ⟨by decide, by decide⟩ ⟨by decide, by decide⟩ rfl rfl ⟨by decide, by decide⟩ dX11_shape_2 5 rfl rfl (Nat.le_of_ble_eq_true rfl) h (fun h => ?_)
  refine x_aload_n C dX11_shape_5 6 rfl 0 rfl ?_
  refine x_iload_n C dX11_shape_6 7 rfl 2 rfl ?_
  refine x_iconst C dX11_shape_7 8 rfl 0 rfl ?_
  refine x_iconst C dX11_shape_8 9 rfl 2 rfl ?_
  obtain ⟨k9, r9, a9, hq, h⟩ := xbx_some h
  refine x_callX C T 0 (c_X11_needBetween C.2.2.2.2.2.2.1 T.1 hq) lc0 EC_0 rfl wml_X11_125 wq_X11_needBetween rfl ⟨by decide, by decide⟩ ⟨by decide, by decide⟩ rfl rfl ⟨by decide, by decide⟩ dX11_shape_9 12 rfl rfl (Nat.le_of_ble_eq_true rfl) h (fun h => ?_)
  refine x_iload_n C dX11_shape_12 13 rfl 2 rfl ?_
  refine x_swM 0 0 (by decide) h (fun q h => ?_) (fun q0 h => ?_)
  · refine x_lookIn C 40 0 dX11_shape_13 q rfl rfl rfl ?_
    refine x_aload_n C dX11_shape_40 41 rfl 0 rfl ?_
    refine x_get C inX11 0 lc0 EC_0 rfl 2 (by decide) dX11_shape_41 44 rfl wmf_X11_26 rfl ?_
    refine x_get C inX8 19 lc19 EC_19 rfl 1 (by decide) dX11_shape_44 47 rfl wmf_X11_242 rfl ?_
    refine x_iload_n C dX11_shape_47 48 rfl 1 rfl ?_
    refine x_iald C 20 lc20 EC_20 0 rfl dX11_shape_48 49 rfl h (fun h => ?_)
    exact x_iretX C rfl (by decide) dX11_shape_49 h
  · skip
    refine x_swM 1 1 (by decide) h (fun q h => ?_) (fun q1 h => ?_)
    · refine x_lookIn C 50 1 dX11_shape_13 q rfl rfl rfl ?_
      refine x_aload_n C dX11_shape_50 51 rfl 0 rfl ?_
      refine x_get C inX11 0 lc0 EC_0 rfl 2 (by decide) dX11_shape_51 54 rfl wmf_X11_26 rfl ?_
      refine x_get C inX8 19 lc19 EC_19 rfl 2 (by decide) dX11_shape_54 57 rfl wmf_X11_243 rfl ?_
      refine x_iload_n C dX11_shape_57 58 rfl 1 rfl ?_
      refine x_iald C 21 lc21 EC_21 0 rfl dX11_shape_58 59 rfl h (fun h => ?_)
      exact x_iretX C rfl (by decide) dX11_shape_59 h
    · skip
      refine x_look (off := 47) C 60 dX11_shape_13 rfl (by simp [Op.lookupswitch.offset, q0, q1]) rfl ?_
      refine x_aload_n C dX11_shape_60 61 rfl 0 rfl ?_
      refine x_get C inX11 0 lc0 EC_0 rfl 2 (by decide) dX11_shape_61 64 rfl wmf_X11_26 rfl ?_
      refine x_get C inX8 19 lc19 EC_19 rfl 3 (by decide) dX11_shape_64 67 rfl wmf_X11_246 rfl ?_
      refine x_iload_n C dX11_shape_67 68 rfl 1 rfl ?_
      refine x_iald C 22 lc22 EC_22 0 rfl dX11_shape_68 69 rfl h (fun h => ?_)
      exact x_iretX C rfl (by decide) dX11_shape_69 h
abbrev rm_X11_token : Room := { frames := 8, cells := 3, slots := 18, locals := 125 }
theorem wq_X11_token : xcV RX11 yX11_token cX11_token 3 (some .int) 2 := ⟨wmi_X11_token, wms_X11_token, wmn_X11, wmc_X11_token, by decide, by decide, by decide +kernel⟩
def F_X11_token (N : Nat) (ah : AH) (p1 : Int32) (p2 : Int32) : Option XR := xbx (F_X11_needToken N ah p1) (fun a2 => xbx (F_X11_needBetween N a2 p2 0 6) (fun a10 => if p2 < 0 then xb (F_X5_readAs N 31 a10 p1) (fun r148 a148 => if r148 = ((-1)) then some (0, 0, a148) else some (0, 1, a148)) else if 5 < p2 then xb (F_X5_readAs N 31 a10 p1) (fun r148 a148 => if r148 = ((-1)) then some (0, 0, a148) else some (0, 1, a148)) else if p2 = 0 then xb (F_X5_cellsOf N 31 a10 p1) (fun r57 a57 => some (0, r57, a57)) else if p2 = 1 then xg p1 40 (some (0, a10 33 (Int32.toNatClampNeg p1), a10)) else if p2 = 2 then xb (F_X5_countBreaks N 31 a10 p1) (fun r76 a76 => some (0, r76, a76)) else if p2 = 3 then xg p1 41 (xb (F_X5_cellsOf N 31 a10 p1) (fun r98 a98 => xbv (F_X4_ofCells N a98 (a10 32 (Int32.toNatClampNeg p1)) r98) (fun a101 => some (0, a101 57 5, a101)))) else if p2 = 4 then xb (F_X0_outsidePrice N a10 p1) (fun r117 a117 => some (0, r117, a117)) else if p2 = 5 then xg p1 40 (if (a10 34 (Int32.toNatClampNeg p1)) = 0 then some (0, 0, a10) else some (0, 1, a10)) else none))
theorem c_X11_token {l : Launch} {D : va_G} {ca : Nat → ClassId} {ad : Nat → Nat} (hI : xInj ad NCC) (hst : l.stackTraces = false) {N : Nat} {ah : AH} {p1 : Int32} {p2 : Int32} {o : XR} (h : F_X11_token N ah p1 p2 = some o) : xMx l yX11_token cX11_token 3 (some .int) rm_X11_token D vwCl (tysC ca) (EC ad ca) NCC ad [.ref (ad 0), .int p1, .int p2] ah o := by
  refine x_metx (by decide) (Nat.le_of_ble_eq_true rfl) hI EC_loc hst ?_
  intro p e s m args below meth c C T
  unfold F_X11_token at h
  refine x_aload_n C dX11_token_0 1 rfl 0 rfl ?_
  refine x_iload_n C dX11_token_1 2 rfl 1 rfl ?_
  obtain ⟨k2, r2, a2, hq, h⟩ := xbx_some h
  refine x_callX C T 0 (c_X11_needToken C.2.2.2.2.2.2.1 T.1 hq) lc0 EC_0 rfl wml_X11_172 wq_X11_needToken rfl ⟨by decide, by decide⟩ ⟨by decide, by decide⟩ rfl rfl ⟨by decide, by decide⟩ dX11_token_2 5 rfl rfl (Nat.le_of_ble_eq_true rfl) h (fun h => ?_)
  refine x_aload_n C dX11_token_5 6 rfl 0 rfl ?_
  refine x_iload_n C dX11_token_6 7 rfl 2 rfl ?_
  refine x_iconst C dX11_token_7 8 rfl 0 rfl ?_
  refine x_bipush C dX11_token_8 10 rfl 6 rfl ?_
  obtain ⟨k10, r10, a10, hq, h⟩ := xbx_some h
  refine x_callX C T 0 (c_X11_needBetween C.2.2.2.2.2.2.1 T.1 hq) lc0 EC_0 rfl wml_X11_125 wq_X11_needBetween rfl ⟨by decide, by decide⟩ ⟨by decide, by decide⟩ rfl rfl ⟨by decide, by decide⟩ dX11_token_10 13 rfl rfl (Nat.le_of_ble_eq_true rfl) h (fun h => ?_)
  refine x_iload_n C dX11_token_13 14 rfl 2 rfl ?_
  refine x_swL 0 0 (by decide) h (fun q h => ?_) (fun h => ?_)
  · refine x_tabOut C 139 dX11_token_14 (Or.inl q) rfl ?_
    refine x_aload_n C dX11_token_139 140 rfl 0 rfl ?_
    refine x_get C inX11 0 lc0 EC_0 rfl 4 (by decide) dX11_token_140 143 rfl wmf_X11_36 rfl ?_
    refine x_iload_n C dX11_token_143 144 rfl 1 rfl ?_
    refine x_aload_n C dX11_token_144 145 rfl 0 rfl ?_
    refine x_get C inX11 0 lc0 EC_0 rfl 1 (by decide) dX11_token_145 148 rfl wmf_X11_19 rfl ?_
    obtain ⟨r148, a148, hq, h⟩ := xb_some h
    refine x_callVi C 31 (c_X5_readAs_reading C.2.2.2.2.2.2.1 hq) lc31 EC_31 rfl wml_X11_274 wq_X5_readAs rfl ⟨by decide, by decide⟩ rfl rfl ⟨by decide, by decide⟩ dX11_token_148 151 rfl rfl (Nat.le_of_ble_eq_true rfl) ?_
    refine x_iconst C dX11_token_151 152 rfl (-1) rfl ?_
    refine x_icmp_eq C dX11_token_152 155 rfl 159 rfl h (fun h => ?_) (fun h => ?_)
    · refine x_iconst C dX11_token_159 160 rfl 0 rfl ?_
      exact x_iretX C rfl (by decide) dX11_token_160 h
    · refine x_iconst C dX11_token_155 156 rfl 1 rfl ?_
      refine x_goto C dX11_token_156 160 rfl ?_
      exact x_iretX C rfl (by decide) dX11_token_160 h
  · skip
    refine x_swG 5 5 (by decide) h (fun q h => ?_) (fun h => ?_)
    · refine x_tabOut C 139 dX11_token_14 (Or.inr q) rfl ?_
      refine x_aload_n C dX11_token_139 140 rfl 0 rfl ?_
      refine x_get C inX11 0 lc0 EC_0 rfl 4 (by decide) dX11_token_140 143 rfl wmf_X11_36 rfl ?_
      refine x_iload_n C dX11_token_143 144 rfl 1 rfl ?_
      refine x_aload_n C dX11_token_144 145 rfl 0 rfl ?_
      refine x_get C inX11 0 lc0 EC_0 rfl 1 (by decide) dX11_token_145 148 rfl wmf_X11_19 rfl ?_
      obtain ⟨r148, a148, hq, h⟩ := xb_some h
      refine x_callVi C 31 (c_X5_readAs_reading C.2.2.2.2.2.2.1 hq) lc31 EC_31 rfl wml_X11_274 wq_X5_readAs rfl ⟨by decide, by decide⟩ rfl rfl ⟨by decide, by decide⟩ dX11_token_148 151 rfl rfl (Nat.le_of_ble_eq_true rfl) ?_
      refine x_iconst C dX11_token_151 152 rfl (-1) rfl ?_
      refine x_icmp_eq C dX11_token_152 155 rfl 159 rfl h (fun h => ?_) (fun h => ?_)
      · refine x_iconst C dX11_token_159 160 rfl 0 rfl ?_
        exact x_iretX C rfl (by decide) dX11_token_160 h
      · refine x_iconst C dX11_token_155 156 rfl 1 rfl ?_
        refine x_goto C dX11_token_156 160 rfl ?_
        exact x_iretX C rfl (by decide) dX11_token_160 h
    · skip
      refine x_sw 0 h (fun q h => ?_) (fun h => ?_)
      · refine x_tabIn C 52 0 dX11_token_14 q (by decide) (by decide) rfl rfl ?_
        refine x_aload_n C dX11_token_52 53 rfl 0 rfl ?_
        refine x_get C inX11 0 lc0 EC_0 rfl 4 (by decide) dX11_token_53 56 rfl wmf_X11_36 rfl ?_
        refine x_iload_n C dX11_token_56 57 rfl 1 rfl ?_
        obtain ⟨r57, a57, hq, h⟩ := xb_some h
        refine x_callVi C 31 (c_X5_cellsOf_reading C.2.2.2.2.2.2.1 hq) lc31 EC_31 rfl wml_X11_249 wq_X5_cellsOf rfl ⟨by decide, by decide⟩ rfl rfl ⟨by decide, by decide⟩ dX11_token_57 60 rfl rfl (Nat.le_of_ble_eq_true rfl) ?_
        exact x_iretX C rfl (by decide) dX11_token_60 h
      · skip
        refine x_sw 1 h (fun q h => ?_) (fun h => ?_)
        · refine x_tabIn C 61 1 dX11_token_14 q (by decide) (by decide) rfl rfl ?_
          refine x_aload_n C dX11_token_61 62 rfl 0 rfl ?_
          refine x_get C inX11 0 lc0 EC_0 rfl 4 (by decide) dX11_token_62 65 rfl wmf_X11_36 rfl ?_
          refine x_get C inX5 31 lc31 EC_31 rfl 4 (by decide) dX11_token_65 68 rfl wmf_X11_252 rfl ?_
          refine x_iload_n C dX11_token_68 69 rfl 1 rfl ?_
          refine x_iald C 33 lc33 EC_33 0 rfl dX11_token_69 70 rfl h (fun h => ?_)
          exact x_iretX C rfl (by decide) dX11_token_70 h
        · skip
          refine x_sw 2 h (fun q h => ?_) (fun h => ?_)
          · refine x_tabIn C 71 2 dX11_token_14 q (by decide) (by decide) rfl rfl ?_
            refine x_aload_n C dX11_token_71 72 rfl 0 rfl ?_
            refine x_get C inX11 0 lc0 EC_0 rfl 4 (by decide) dX11_token_72 75 rfl wmf_X11_36 rfl ?_
            refine x_iload_n C dX11_token_75 76 rfl 1 rfl ?_
            obtain ⟨r76, a76, hq, h⟩ := xb_some h
            refine x_callVi C 31 (c_X5_countBreaks_reading C.2.2.2.2.2.2.1 hq) lc31 EC_31 rfl wml_X11_255 wq_X5_countBreaks rfl ⟨by decide, by decide⟩ rfl rfl ⟨by decide, by decide⟩ dX11_token_76 79 rfl rfl (Nat.le_of_ble_eq_true rfl) ?_
            exact x_iretX C rfl (by decide) dX11_token_79 h
          · skip
            refine x_sw 3 h (fun q h => ?_) (fun h => ?_)
            · refine x_tabIn C 80 3 dX11_token_14 q (by decide) (by decide) rfl rfl ?_
              refine x_aload_n C dX11_token_80 81 rfl 0 rfl ?_
              refine x_get C inX11 0 lc0 EC_0 rfl 9 (by decide) dX11_token_81 84 rfl wmf_X11_72 rfl ?_
              refine x_aload_n C dX11_token_84 85 rfl 0 rfl ?_
              refine x_get C inX11 0 lc0 EC_0 rfl 4 (by decide) dX11_token_85 88 rfl wmf_X11_36 rfl ?_
              refine x_get C inX5 31 lc31 EC_31 rfl 3 (by decide) dX11_token_88 91 rfl wmf_X11_258 rfl ?_
              refine x_iload_n C dX11_token_91 92 rfl 1 rfl ?_
              refine x_iald C 32 lc32 EC_32 0 rfl dX11_token_92 93 rfl h (fun h => ?_)
              refine x_aload_n C dX11_token_93 94 rfl 0 rfl ?_
              refine x_get C inX11 0 lc0 EC_0 rfl 4 (by decide) dX11_token_94 97 rfl wmf_X11_36 rfl ?_
              refine x_iload_n C dX11_token_97 98 rfl 1 rfl ?_
              obtain ⟨r98, a98, hq, h⟩ := xb_some h
              refine x_callVi C 31 (c_X5_cellsOf_reading C.2.2.2.2.2.2.1 hq) lc31 EC_31 rfl wml_X11_249 wq_X5_cellsOf rfl ⟨by decide, by decide⟩ rfl rfl ⟨by decide, by decide⟩ dX11_token_98 101 rfl rfl (Nat.le_of_ble_eq_true rfl) ?_
              obtain ⟨a101, hq, h⟩ := xbv_some h
              refine x_callVv C 57 (c_X4_ofCells C.2.2.2.2.2.2.1 hq) lc57 EC_57 rfl wml_X11_261 wq_X4_ofCells rfl ⟨by decide, by decide⟩ rfl rfl ⟨by decide, by decide⟩ dX11_token_101 104 rfl rfl (Nat.le_of_ble_eq_true rfl) ?_
              refine x_aload_n C dX11_token_104 105 rfl 0 rfl ?_
              refine x_get C inX11 0 lc0 EC_0 rfl 9 (by decide) dX11_token_105 108 rfl wmf_X11_72 rfl ?_
              refine x_get C inX4 57 lc57 EC_57 rfl 5 (by decide) dX11_token_108 111 rfl wmf_X11_264 rfl ?_
              exact x_iretX C rfl (by decide) dX11_token_111 h
            · skip
              refine x_sw 4 h (fun q h => ?_) (fun h => ?_)
              · refine x_tabIn C 112 4 dX11_token_14 q (by decide) (by decide) rfl rfl ?_
                refine x_aload_n C dX11_token_112 113 rfl 0 rfl ?_
                refine x_get C inX11 0 lc0 EC_0 rfl 10 (by decide) dX11_token_113 116 rfl wmf_X11_86 rfl ?_
                refine x_iload_n C dX11_token_116 117 rfl 1 rfl ?_
                obtain ⟨r117, a117, hq, h⟩ := xb_some h
                refine x_callVi C 74 (c_X0_outsidePrice C.2.2.2.2.2.2.1 hq) lc74 EC_74 rfl wml_X11_267 wq_X0_outsidePrice rfl ⟨by decide, by decide⟩ rfl rfl ⟨by decide, by decide⟩ dX11_token_117 120 rfl rfl (Nat.le_of_ble_eq_true rfl) ?_
                exact x_iretX C rfl (by decide) dX11_token_120 h
              · skip
                refine x_sw 5 h (fun q h => ?_) (fun h => ?_)
                · refine x_tabIn C 121 5 dX11_token_14 q (by decide) (by decide) rfl rfl ?_
                  refine x_aload_n C dX11_token_121 122 rfl 0 rfl ?_
                  refine x_get C inX11 0 lc0 EC_0 rfl 4 (by decide) dX11_token_122 125 rfl wmf_X11_36 rfl ?_
                  refine x_get C inX5 31 lc31 EC_31 rfl 5 (by decide) dX11_token_125 128 rfl wmf_X11_270 rfl ?_
                  refine x_iload_n C dX11_token_128 129 rfl 1 rfl ?_
                  refine x_zald C 34 lc34 EC_34 1 rfl dX11_token_129 130 rfl h (fun h => ?_)
                  refine x_if_eq C dX11_token_130 133 rfl 137 rfl h (fun h => ?_) (fun h => ?_)
                  · refine x_iconst C dX11_token_137 138 rfl 0 rfl ?_
                    exact x_iretX C rfl (by decide) dX11_token_138 h
                  · refine x_iconst C dX11_token_133 134 rfl 1 rfl ?_
                    refine x_goto C dX11_token_134 138 rfl ?_
                    exact x_iretX C rfl (by decide) dX11_token_138 h
                · skip
                  cases h
abbrev rm_X11_cell : Room := { frames := 8, cells := 3, slots := 18, locals := 125 }
theorem wq_X11_cell : xcV RX11 yX11_cell cX11_cell 5 (some .int) 3 := ⟨wmi_X11_cell, wms_X11_cell, wmn_X11, wmc_X11_cell, by decide, by decide, by decide +kernel⟩
def F_X11_cell (N : Nat) (ah : AH) (p1 : Int32) (p2 : Int32) (p3 : Int32) : Option XR := xbx (F_X11_needToken N ah p1) (fun a2 => xb (F_X5_cellsOf N 31 a2 p1) (fun r12 a12 => xbx (F_X11_needElement N a12 p2 r12) (fun a15 => xbx (F_X11_needBetween N a15 p3 0 2) (fun a22 => xg p1 41 (xlet ((a22 32 (Int32.toNatClampNeg p1)) + p2) (fun v4_36 => if p3 = 0 then xg v4_36 400 (some (0, a22 36 (Int32.toNatClampNeg v4_36), a22)) else if p3 = 1 then xg v4_36 400 (some (0, a22 37 (Int32.toNatClampNeg v4_36), a22)) else xb (F_X5_leastOther N 31 a22 v4_36) (fun r92 a92 => some (0, r92, a92))))))))
theorem c_X11_cell {l : Launch} {D : va_G} {ca : Nat → ClassId} {ad : Nat → Nat} (hI : xInj ad NCC) (hst : l.stackTraces = false) {N : Nat} {ah : AH} {p1 : Int32} {p2 : Int32} {p3 : Int32} {o : XR} (h : F_X11_cell N ah p1 p2 p3 = some o) : xMx l yX11_cell cX11_cell 5 (some .int) rm_X11_cell D vwCl (tysC ca) (EC ad ca) NCC ad [.ref (ad 0), .int p1, .int p2, .int p3] ah o := by
  refine x_metx (by decide) (Nat.le_of_ble_eq_true rfl) hI EC_loc hst ?_
  intro p e s m args below meth c C T
  unfold F_X11_cell at h
  refine x_aload_n C dX11_cell_0 1 rfl 0 rfl ?_
  refine x_iload_n C dX11_cell_1 2 rfl 1 rfl ?_
  obtain ⟨k2, r2, a2, hq, h⟩ := xbx_some h
  refine x_callX C T 0 (c_X11_needToken C.2.2.2.2.2.2.1 T.1 hq) lc0 EC_0 rfl wml_X11_172 wq_X11_needToken rfl ⟨by decide, by decide⟩ ⟨by decide, by decide⟩ rfl rfl ⟨by decide, by decide⟩ dX11_cell_2 5 rfl rfl (Nat.le_of_ble_eq_true rfl) h (fun h => ?_)
  refine x_aload_n C dX11_cell_5 6 rfl 0 rfl ?_
  refine x_iload_n C dX11_cell_6 7 rfl 2 rfl ?_
  refine x_aload_n C dX11_cell_7 8 rfl 0 rfl ?_
  refine x_get C inX11 0 lc0 EC_0 rfl 4 (by decide) dX11_cell_8 11 rfl wmf_X11_36 rfl ?_
  refine x_iload_n C dX11_cell_11 12 rfl 1 rfl ?_
  obtain ⟨r12, a12, hq, h⟩ := xb_some h
  refine x_callVi C 31 (c_X5_cellsOf_reading C.2.2.2.2.2.2.1 hq) lc31 EC_31 rfl wml_X11_249 wq_X5_cellsOf rfl ⟨by decide, by decide⟩ rfl rfl ⟨by decide, by decide⟩ dX11_cell_12 15 rfl rfl (Nat.le_of_ble_eq_true rfl) ?_
  obtain ⟨k15, r15, a15, hq, h⟩ := xbx_some h
  refine x_callX C T 0 (c_X11_needElement C.2.2.2.2.2.2.1 T.1 hq) lc0 EC_0 rfl wml_X11_278 wq_X11_needElement rfl ⟨by decide, by decide⟩ ⟨by decide, by decide⟩ rfl rfl ⟨by decide, by decide⟩ dX11_cell_15 18 rfl rfl (Nat.le_of_ble_eq_true rfl) h (fun h => ?_)
  refine x_aload_n C dX11_cell_18 19 rfl 0 rfl ?_
  refine x_iload_n C dX11_cell_19 20 rfl 3 rfl ?_
  refine x_iconst C dX11_cell_20 21 rfl 0 rfl ?_
  refine x_iconst C dX11_cell_21 22 rfl 2 rfl ?_
  obtain ⟨k22, r22, a22, hq, h⟩ := xbx_some h
  refine x_callX C T 0 (c_X11_needBetween C.2.2.2.2.2.2.1 T.1 hq) lc0 EC_0 rfl wml_X11_125 wq_X11_needBetween rfl ⟨by decide, by decide⟩ ⟨by decide, by decide⟩ rfl rfl ⟨by decide, by decide⟩ dX11_cell_22 25 rfl rfl (Nat.le_of_ble_eq_true rfl) h (fun h => ?_)
  refine x_aload_n C dX11_cell_25 26 rfl 0 rfl ?_
  refine x_get C inX11 0 lc0 EC_0 rfl 4 (by decide) dX11_cell_26 29 rfl wmf_X11_36 rfl ?_
  refine x_get C inX5 31 lc31 EC_31 rfl 3 (by decide) dX11_cell_29 32 rfl wmf_X11_258 rfl ?_
  refine x_iload_n C dX11_cell_32 33 rfl 1 rfl ?_
  refine x_iald C 32 lc32 EC_32 0 rfl dX11_cell_33 34 rfl h (fun h => ?_)
  refine x_iload_n C dX11_cell_34 35 rfl 2 rfl ?_
  refine x_iadd C dX11_cell_35 36 rfl ?_
  refine x_istore C dX11_cell_36 38 rfl (by decide) (fun v4_36 => [(4, .int v4_36), (0, .ref (ad 0)), (1, .int p1), (2, .int p2), (3, .int p3)]) (fun _ => rfl) h (fun v4_36 h => ?_)
  refine x_iload_n C dX11_cell_38 39 rfl 4 rfl ?_
  refine x_swM 0 0 (by decide) h (fun q h => ?_) (fun q0 h => ?_)
  · refine x_lookIn C 64 0 dX11_cell_39 q rfl rfl rfl ?_
    refine x_aload_n C dX11_cell_64 65 rfl 1 rfl ?_
    refine x_get C inX11 0 lc0 EC_0 rfl 4 (by decide) dX11_cell_65 68 rfl wmf_X11_36 rfl ?_
    refine x_get C inX5 31 lc31 EC_31 rfl 7 (by decide) dX11_cell_68 71 rfl wmf_X11_281 rfl ?_
    refine x_iload C dX11_cell_71 73 rfl 0 rfl ?_
    refine x_iald C 36 lc36 EC_36 0 rfl dX11_cell_73 74 rfl h (fun h => ?_)
    exact x_iretX C rfl (by decide) dX11_cell_74 h
  · skip
    refine x_swM 1 1 (by decide) h (fun q h => ?_) (fun q1 h => ?_)
    · refine x_lookIn C 75 1 dX11_cell_39 q rfl rfl rfl ?_
      refine x_aload_n C dX11_cell_75 76 rfl 1 rfl ?_
      refine x_get C inX11 0 lc0 EC_0 rfl 4 (by decide) dX11_cell_76 79 rfl wmf_X11_36 rfl ?_
      refine x_get C inX5 31 lc31 EC_31 rfl 8 (by decide) dX11_cell_79 82 rfl wmf_X11_284 rfl ?_
      refine x_iload C dX11_cell_82 84 rfl 0 rfl ?_
      refine x_iald C 37 lc37 EC_37 0 rfl dX11_cell_84 85 rfl h (fun h => ?_)
      exact x_iretX C rfl (by decide) dX11_cell_85 h
    · skip
      refine x_look (off := 47) C 86 dX11_cell_39 rfl (by simp [Op.lookupswitch.offset, q0, q1]) rfl ?_
      refine x_aload_n C dX11_cell_86 87 rfl 1 rfl ?_
      refine x_get C inX11 0 lc0 EC_0 rfl 4 (by decide) dX11_cell_87 90 rfl wmf_X11_36 rfl ?_
      refine x_iload C dX11_cell_90 92 rfl 0 rfl ?_
      obtain ⟨r92, a92, hq, h⟩ := xb_some h
      refine x_callVi C 31 (c_X5_leastOther_reading C.2.2.2.2.2.2.1 hq) lc31 EC_31 rfl wml_X11_287 wq_X5_leastOther rfl ⟨by decide, by decide⟩ rfl rfl ⟨by decide, by decide⟩ dX11_cell_92 95 rfl rfl (Nat.le_of_ble_eq_true rfl) ?_
      exact x_iretX C rfl (by decide) dX11_cell_95 h
abbrev rm_X11_rest : Room := { frames := 8, cells := 3, slots := 18, locals := 125 }
theorem wq_X11_rest : xcV RX11 yX11_rest cX11_rest 3 (some .int) 2 := ⟨wmi_X11_rest, wms_X11_rest, wmn_X11, wmc_X11_rest, by decide, by decide, by decide +kernel⟩
def F_X11_rest (N : Nat) (ah : AH) (p1 : Int32) (p2 : Int32) : Option XR := xbx (F_X11_needToken N ah p1) (fun a2 => xb (F_X5_cellsOf N 31 a2 p1) (fun r12 a12 => xbx (F_X11_needElement N a12 p2 (r12 + 1)) (fun a17 => xg p1 41 (xb (F_X5_cellsOf N 31 a17 p1) (fun r38 a38 => xbv (F_X4_ofCells N a38 (a17 32 (Int32.toNatClampNeg p1)) r38) (fun a41 => xg p2 25 (some (0, a41 66 (Int32.toNatClampNeg p2), a41))))))))
theorem c_X11_rest {l : Launch} {D : va_G} {ca : Nat → ClassId} {ad : Nat → Nat} (hI : xInj ad NCC) (hst : l.stackTraces = false) {N : Nat} {ah : AH} {p1 : Int32} {p2 : Int32} {o : XR} (h : F_X11_rest N ah p1 p2 = some o) : xMx l yX11_rest cX11_rest 3 (some .int) rm_X11_rest D vwCl (tysC ca) (EC ad ca) NCC ad [.ref (ad 0), .int p1, .int p2] ah o := by
  refine x_metx (by decide) (Nat.le_of_ble_eq_true rfl) hI EC_loc hst ?_
  intro p e s m args below meth c C T
  unfold F_X11_rest at h
  refine x_aload_n C dX11_rest_0 1 rfl 0 rfl ?_
  refine x_iload_n C dX11_rest_1 2 rfl 1 rfl ?_
  obtain ⟨k2, r2, a2, hq, h⟩ := xbx_some h
  refine x_callX C T 0 (c_X11_needToken C.2.2.2.2.2.2.1 T.1 hq) lc0 EC_0 rfl wml_X11_172 wq_X11_needToken rfl ⟨by decide, by decide⟩ ⟨by decide, by decide⟩ rfl rfl ⟨by decide, by decide⟩ dX11_rest_2 5 rfl rfl (Nat.le_of_ble_eq_true rfl) h (fun h => ?_)
  refine x_aload_n C dX11_rest_5 6 rfl 0 rfl ?_
  refine x_iload_n C dX11_rest_6 7 rfl 2 rfl ?_
  refine x_aload_n C dX11_rest_7 8 rfl 0 rfl ?_
  refine x_get C inX11 0 lc0 EC_0 rfl 4 (by decide) dX11_rest_8 11 rfl wmf_X11_36 rfl ?_
  refine x_iload_n C dX11_rest_11 12 rfl 1 rfl ?_
  obtain ⟨r12, a12, hq, h⟩ := xb_some h
  refine x_callVi C 31 (c_X5_cellsOf_reading C.2.2.2.2.2.2.1 hq) lc31 EC_31 rfl wml_X11_249 wq_X5_cellsOf rfl ⟨by decide, by decide⟩ rfl rfl ⟨by decide, by decide⟩ dX11_rest_12 15 rfl rfl (Nat.le_of_ble_eq_true rfl) ?_
  refine x_iconst C dX11_rest_15 16 rfl 1 rfl ?_
  refine x_iadd C dX11_rest_16 17 rfl ?_
  obtain ⟨k17, r17, a17, hq, h⟩ := xbx_some h
  refine x_callX C T 0 (c_X11_needElement C.2.2.2.2.2.2.1 T.1 hq) lc0 EC_0 rfl wml_X11_278 wq_X11_needElement rfl ⟨by decide, by decide⟩ ⟨by decide, by decide⟩ rfl rfl ⟨by decide, by decide⟩ dX11_rest_17 20 rfl rfl (Nat.le_of_ble_eq_true rfl) h (fun h => ?_)
  refine x_aload_n C dX11_rest_20 21 rfl 0 rfl ?_
  refine x_get C inX11 0 lc0 EC_0 rfl 9 (by decide) dX11_rest_21 24 rfl wmf_X11_72 rfl ?_
  refine x_aload_n C dX11_rest_24 25 rfl 0 rfl ?_
  refine x_get C inX11 0 lc0 EC_0 rfl 4 (by decide) dX11_rest_25 28 rfl wmf_X11_36 rfl ?_
  refine x_get C inX5 31 lc31 EC_31 rfl 3 (by decide) dX11_rest_28 31 rfl wmf_X11_258 rfl ?_
  refine x_iload_n C dX11_rest_31 32 rfl 1 rfl ?_
  refine x_iald C 32 lc32 EC_32 0 rfl dX11_rest_32 33 rfl h (fun h => ?_)
  refine x_aload_n C dX11_rest_33 34 rfl 0 rfl ?_
  refine x_get C inX11 0 lc0 EC_0 rfl 4 (by decide) dX11_rest_34 37 rfl wmf_X11_36 rfl ?_
  refine x_iload_n C dX11_rest_37 38 rfl 1 rfl ?_
  obtain ⟨r38, a38, hq, h⟩ := xb_some h
  refine x_callVi C 31 (c_X5_cellsOf_reading C.2.2.2.2.2.2.1 hq) lc31 EC_31 rfl wml_X11_249 wq_X5_cellsOf rfl ⟨by decide, by decide⟩ rfl rfl ⟨by decide, by decide⟩ dX11_rest_38 41 rfl rfl (Nat.le_of_ble_eq_true rfl) ?_
  obtain ⟨a41, hq, h⟩ := xbv_some h
  refine x_callVv C 57 (c_X4_ofCells C.2.2.2.2.2.2.1 hq) lc57 EC_57 rfl wml_X11_261 wq_X4_ofCells rfl ⟨by decide, by decide⟩ rfl rfl ⟨by decide, by decide⟩ dX11_rest_41 44 rfl rfl (Nat.le_of_ble_eq_true rfl) ?_
  refine x_aload_n C dX11_rest_44 45 rfl 0 rfl ?_
  refine x_get C inX11 0 lc0 EC_0 rfl 9 (by decide) dX11_rest_45 48 rfl wmf_X11_72 rfl ?_
  refine x_get C inX4 57 lc57 EC_57 rfl 14 (by decide) dX11_rest_48 51 rfl wmf_X11_290 rfl ?_
  refine x_iload_n C dX11_rest_51 52 rfl 2 rfl ?_
  refine x_iald C 66 lc66 EC_66 0 rfl dX11_rest_52 53 rfl h (fun h => ?_)
  exact x_iretX C rfl (by decide) dX11_rest_53 h
abbrev rm_X11_best : Room := { frames := 8, cells := 3, slots := 18, locals := 125 }
theorem wq_X11_best : xcV RX11 yX11_best cX11_best 4 (some .int) 3 := ⟨wmi_X11_best, wms_X11_best, wmn_X11, wmc_X11_best, by decide, by decide, by decide +kernel⟩
def F_X11_best (N : Nat) (ah : AH) (p1 : Int32) (p2 : Int32) (p3 : Int32) : Option XR := xbx (F_X11_needToken N ah p1) (fun a2 => xbx (F_X11_needBetween N a2 p3 0 2) (fun a9 => xbv (F_X0_lookAlone N a9 p1) (fun a17 => if p3 = 0 then xb (F_X0_wordOf N a17 p1 p2) (fun r54 a54 => some (0, r54, a54)) else if p3 = 1 then xb (F_X0_priceOf N a17 p1 p2) (fun r64 a64 => some (0, r64, a64)) else xb (F_X0_openedFor N a17 p1 p2) (fun r74 a74 => some (0, r74, a74)))))
theorem c_X11_best {l : Launch} {D : va_G} {ca : Nat → ClassId} {ad : Nat → Nat} (hI : xInj ad NCC) (hst : l.stackTraces = false) {N : Nat} {ah : AH} {p1 : Int32} {p2 : Int32} {p3 : Int32} {o : XR} (h : F_X11_best N ah p1 p2 p3 = some o) : xMx l yX11_best cX11_best 4 (some .int) rm_X11_best D vwCl (tysC ca) (EC ad ca) NCC ad [.ref (ad 0), .int p1, .int p2, .int p3] ah o := by
  refine x_metx (by decide) (Nat.le_of_ble_eq_true rfl) hI EC_loc hst ?_
  intro p e s m args below meth c C T
  unfold F_X11_best at h
  refine x_aload_n C dX11_best_0 1 rfl 0 rfl ?_
  refine x_iload_n C dX11_best_1 2 rfl 1 rfl ?_
  obtain ⟨k2, r2, a2, hq, h⟩ := xbx_some h
  refine x_callX C T 0 (c_X11_needToken C.2.2.2.2.2.2.1 T.1 hq) lc0 EC_0 rfl wml_X11_172 wq_X11_needToken rfl ⟨by decide, by decide⟩ ⟨by decide, by decide⟩ rfl rfl ⟨by decide, by decide⟩ dX11_best_2 5 rfl rfl (Nat.le_of_ble_eq_true rfl) h (fun h => ?_)
  refine x_aload_n C dX11_best_5 6 rfl 0 rfl ?_
  refine x_iload_n C dX11_best_6 7 rfl 3 rfl ?_
  refine x_iconst C dX11_best_7 8 rfl 0 rfl ?_
  refine x_iconst C dX11_best_8 9 rfl 2 rfl ?_
  obtain ⟨k9, r9, a9, hq, h⟩ := xbx_some h
  refine x_callX C T 0 (c_X11_needBetween C.2.2.2.2.2.2.1 T.1 hq) lc0 EC_0 rfl wml_X11_125 wq_X11_needBetween rfl ⟨by decide, by decide⟩ ⟨by decide, by decide⟩ rfl rfl ⟨by decide, by decide⟩ dX11_best_9 12 rfl rfl (Nat.le_of_ble_eq_true rfl) h (fun h => ?_)
  refine x_aload_n C dX11_best_12 13 rfl 0 rfl ?_
  refine x_get C inX11 0 lc0 EC_0 rfl 10 (by decide) dX11_best_13 16 rfl wmf_X11_86 rfl ?_
  refine x_iload_n C dX11_best_16 17 rfl 1 rfl ?_
  obtain ⟨a17, hq, h⟩ := xbv_some h
  refine x_callVv C 74 (c_X0_lookAlone C.2.2.2.2.2.2.1 hq) lc74 EC_74 rfl wml_X11_175 wq_X0_lookAlone rfl ⟨by decide, by decide⟩ rfl rfl ⟨by decide, by decide⟩ dX11_best_17 20 rfl rfl (Nat.le_of_ble_eq_true rfl) ?_
  refine x_iload_n C dX11_best_20 21 rfl 3 rfl ?_
  refine x_swM 0 0 (by decide) h (fun q h => ?_) (fun q0 h => ?_)
  · refine x_lookIn C 48 0 dX11_best_21 q rfl rfl rfl ?_
    refine x_aload_n C dX11_best_48 49 rfl 0 rfl ?_
    refine x_get C inX11 0 lc0 EC_0 rfl 10 (by decide) dX11_best_49 52 rfl wmf_X11_86 rfl ?_
    refine x_iload_n C dX11_best_52 53 rfl 1 rfl ?_
    refine x_iload_n C dX11_best_53 54 rfl 2 rfl ?_
    obtain ⟨r54, a54, hq, h⟩ := xb_some h
    refine x_callVi C 74 (c_X0_wordOf C.2.2.2.2.2.2.1 hq) lc74 EC_74 rfl wml_X11_181 wq_X0_wordOf rfl ⟨by decide, by decide⟩ rfl rfl ⟨by decide, by decide⟩ dX11_best_54 57 rfl rfl (Nat.le_of_ble_eq_true rfl) ?_
    exact x_iretX C rfl (by decide) dX11_best_57 h
  · skip
    refine x_swM 1 1 (by decide) h (fun q h => ?_) (fun q1 h => ?_)
    · refine x_lookIn C 58 1 dX11_best_21 q rfl rfl rfl ?_
      refine x_aload_n C dX11_best_58 59 rfl 0 rfl ?_
      refine x_get C inX11 0 lc0 EC_0 rfl 10 (by decide) dX11_best_59 62 rfl wmf_X11_86 rfl ?_
      refine x_iload_n C dX11_best_62 63 rfl 1 rfl ?_
      refine x_iload_n C dX11_best_63 64 rfl 2 rfl ?_
      obtain ⟨r64, a64, hq, h⟩ := xb_some h
      refine x_callVi C 74 (c_X0_priceOf C.2.2.2.2.2.2.1 hq) lc74 EC_74 rfl wml_X11_293 wq_X0_priceOf rfl ⟨by decide, by decide⟩ rfl rfl ⟨by decide, by decide⟩ dX11_best_64 67 rfl rfl (Nat.le_of_ble_eq_true rfl) ?_
      exact x_iretX C rfl (by decide) dX11_best_67 h
    · skip
      refine x_look (off := 47) C 68 dX11_best_21 rfl (by simp [Op.lookupswitch.offset, q0, q1]) rfl ?_
      refine x_aload_n C dX11_best_68 69 rfl 0 rfl ?_
      refine x_get C inX11 0 lc0 EC_0 rfl 10 (by decide) dX11_best_69 72 rfl wmf_X11_86 rfl ?_
      refine x_iload_n C dX11_best_72 73 rfl 1 rfl ?_
      refine x_iload_n C dX11_best_73 74 rfl 2 rfl ?_
      obtain ⟨r74, a74, hq, h⟩ := xb_some h
      refine x_callVi C 74 (c_X0_openedFor C.2.2.2.2.2.2.1 hq) lc74 EC_74 rfl wml_X11_296 wq_X0_openedFor rfl ⟨by decide, by decide⟩ rfl rfl ⟨by decide, by decide⟩ dX11_best_74 77 rfl rfl (Nat.le_of_ble_eq_true rfl) ?_
      exact x_iretX C rfl (by decide) dX11_best_77 h
abbrev rm_X11_price : Room := { frames := 8, cells := 3, slots := 18, locals := 125 }
theorem wq_X11_price : xcV RX11 yX11_price cX11_price 3 (some .int) 2 := ⟨wmi_X11_price, wms_X11_price, wmn_X11, wmc_X11_price, by decide, by decide, by decide +kernel⟩
def F_X11_price (N : Nat) (ah : AH) (p1 : Int32) (p2 : Int32) : Option XR := xbx (F_X11_needToken N ah p1) (fun a2 => xbx (F_X11_needWord N a2 p2) (fun a7 => xbv (F_X0_lookAlone N a7 p1) (fun a15 => xb (F_X0_priceFor N a15 p1 p2) (fun r24 a24 => some (0, r24, a24)))))
theorem c_X11_price {l : Launch} {D : va_G} {ca : Nat → ClassId} {ad : Nat → Nat} (hI : xInj ad NCC) (hst : l.stackTraces = false) {N : Nat} {ah : AH} {p1 : Int32} {p2 : Int32} {o : XR} (h : F_X11_price N ah p1 p2 = some o) : xMx l yX11_price cX11_price 3 (some .int) rm_X11_price D vwCl (tysC ca) (EC ad ca) NCC ad [.ref (ad 0), .int p1, .int p2] ah o := by
  refine x_metx (by decide) (Nat.le_of_ble_eq_true rfl) hI EC_loc hst ?_
  intro p e s m args below meth c C T
  unfold F_X11_price at h
  refine x_aload_n C dX11_price_0 1 rfl 0 rfl ?_
  refine x_iload_n C dX11_price_1 2 rfl 1 rfl ?_
  obtain ⟨k2, r2, a2, hq, h⟩ := xbx_some h
  refine x_callX C T 0 (c_X11_needToken C.2.2.2.2.2.2.1 T.1 hq) lc0 EC_0 rfl wml_X11_172 wq_X11_needToken rfl ⟨by decide, by decide⟩ ⟨by decide, by decide⟩ rfl rfl ⟨by decide, by decide⟩ dX11_price_2 5 rfl rfl (Nat.le_of_ble_eq_true rfl) h (fun h => ?_)
  refine x_aload_n C dX11_price_5 6 rfl 0 rfl ?_
  refine x_iload_n C dX11_price_6 7 rfl 2 rfl ?_
  obtain ⟨k7, r7, a7, hq, h⟩ := xbx_some h
  refine x_callX C T 0 (c_X11_needWord C.2.2.2.2.2.2.1 T.1 hq) lc0 EC_0 rfl wml_X11_162 wq_X11_needWord rfl ⟨by decide, by decide⟩ ⟨by decide, by decide⟩ rfl rfl ⟨by decide, by decide⟩ dX11_price_7 10 rfl rfl (Nat.le_of_ble_eq_true rfl) h (fun h => ?_)
  refine x_aload_n C dX11_price_10 11 rfl 0 rfl ?_
  refine x_get C inX11 0 lc0 EC_0 rfl 10 (by decide) dX11_price_11 14 rfl wmf_X11_86 rfl ?_
  refine x_iload_n C dX11_price_14 15 rfl 1 rfl ?_
  obtain ⟨a15, hq, h⟩ := xbv_some h
  refine x_callVv C 74 (c_X0_lookAlone C.2.2.2.2.2.2.1 hq) lc74 EC_74 rfl wml_X11_175 wq_X0_lookAlone rfl ⟨by decide, by decide⟩ rfl rfl ⟨by decide, by decide⟩ dX11_price_15 18 rfl rfl (Nat.le_of_ble_eq_true rfl) ?_
  refine x_aload_n C dX11_price_18 19 rfl 0 rfl ?_
  refine x_get C inX11 0 lc0 EC_0 rfl 10 (by decide) dX11_price_19 22 rfl wmf_X11_86 rfl ?_
  refine x_iload_n C dX11_price_22 23 rfl 1 rfl ?_
  refine x_iload_n C dX11_price_23 24 rfl 2 rfl ?_
  obtain ⟨r24, a24, hq, h⟩ := xb_some h
  refine x_callVi C 74 (c_X0_priceFor C.2.2.2.2.2.2.1 hq) lc74 EC_74 rfl wml_X11_299 wq_X0_priceFor rfl ⟨by decide, by decide⟩ rfl rfl ⟨by decide, by decide⟩ dX11_price_24 27 rfl rfl (Nat.le_of_ble_eq_true rfl) ?_
  exact x_iretX C rfl (by decide) dX11_price_27 h
abbrev rm_X11_within : Room := { frames := 8, cells := 3, slots := 18, locals := 125 }
theorem wq_X11_within : xcV RX11 yX11_within cX11_within 5 (some .int) 2 := ⟨wmi_X11_within, wms_X11_within, wmn_X11, wmc_X11_within, by decide, by decide, by decide +kernel⟩
def F_X11_within_58 (N : Nat) (k27 : AH → Int32 → Int32 → Int32 → Int32 → Option XR) (ah : AH) (v1 : Int32) (v2 : Int32) (v3 : Int32) (v4 : Int32) : Option XR := xlet (v4 + 1) (fun v4_58 => k27 ah v1 v2 v3 v4_58)
def F_X11_within_27 (N : Nat) : Nat → AH → Int32 → Int32 → Int32 → Int32 → Option XR
  | 0, _, _, _, _, _ => none
  | n + 1, ah, v1, v2, v3, v4 => xg v1 140 (if (ah 76 (Int32.toNatClampNeg v1)) ≤ v4 then some (0, v3, ah) else xb (F_X0_priceOf N ah v1 v4) (fun r48 a48 => if v2 < r48 then F_X11_within_58 N (F_X11_within_27 N n) a48 v1 v2 v3 v4 else xlet (v3 + 1) (fun v3_55 => F_X11_within_58 N (F_X11_within_27 N n) a48 v1 v2 v3_55 v4)))
def F_X11_within (N : Nat) (ah : AH) (p1 : Int32) (p2 : Int32) : Option XR := xbx (F_X11_needToken N ah p1) (fun a2 => xbx (F_X11_needBetween N a2 p2 0 9999) (fun a11 => xbv (F_X0_lookAlone N a11 p1) (fun a19 => xlet 0 (fun v3_23 => xlet 0 (fun v4_25 => F_X11_within_27 N N a19 p1 p2 v3_23 v4_25)))))
theorem b_X11_within_58 (C : XC p l s m args meth c cX11_within 5 (some .int) RX11 D vwCl (tysC ca) (EC ad ca) NCC ad) (T : XT l s c ad NCC) {N : Nat} {o : XR} {k27 : AH → Int32 → Int32 → Int32 → Int32 → Option XR} (hk27 : ∀ (ah : AH) (v1 : Int32) (v2 : Int32) (v3 : Int32) (v4 : Int32), k27 ah v1 v2 v3 v4 = some o → XW p l e rm_X11_within s m args below meth c 5 2 (xQx below args s D vwCl (tysC ca) (EC ad ca) NCC ad o) D vwCl (EC ad ca) NCC ad ah 27 [(0, .ref (ad 0)), (1, .int v1), (2, .int v2), (3, .int v3), (4, .int v4)] []) {ah : AH} {v1 : Int32} {v2 : Int32} {v3 : Int32} {v4 : Int32} (h : F_X11_within_58 N k27 ah v1 v2 v3 v4 = some o) : XW p l e rm_X11_within s m args below meth c 5 2 (xQx below args s D vwCl (tysC ca) (EC ad ca) NCC ad o) D vwCl (EC ad ca) NCC ad ah 58 [(0, .ref (ad 0)), (1, .int v1), (2, .int v2), (3, .int v3), (4, .int v4)] [] := by
  unfold F_X11_within_58 at h
  refine x_iinc C dX11_within_58 61 rfl 4 rfl (d := 1) rfl (by decide) (fun v4_58 => [(4, .int v4_58), (0, .ref (ad 0)), (1, .int v1), (2, .int v2), (3, .int v3)]) (fun _ => rfl) h (fun v4_58 h => ?_)
  refine x_goto C dX11_within_61 27 rfl ?_
  exact x_sub [1, 2, 3, 4, 0] rfl (hk27 _ _ _ _ _ h)
theorem b_X11_within_27 (C : XC p l s m args meth c cX11_within 5 (some .int) RX11 D vwCl (tysC ca) (EC ad ca) NCC ad) (T : XT l s c ad NCC) {N : Nat} {o : XR} : ∀ (n : Nat) {ah : AH} {v1 : Int32} {v2 : Int32} {v3 : Int32} {v4 : Int32}, F_X11_within_27 N n ah v1 v2 v3 v4 = some o → XW p l e rm_X11_within s m args below meth c 5 2 (xQx below args s D vwCl (tysC ca) (EC ad ca) NCC ad o) D vwCl (EC ad ca) NCC ad ah 27 [(0, .ref (ad 0)), (1, .int v1), (2, .int v2), (3, .int v3), (4, .int v4)] [] := by
  intro n
  induction n with
  | zero => intro ah v1 v2 v3 v4 h; unfold F_X11_within_27 at h; cases h
  | succ n ih =>
    intro ah v1 v2 v3 v4 h
    unfold F_X11_within_27 at h
    refine x_iload C dX11_within_27 29 rfl 4 rfl ?_
    refine x_aload_n C dX11_within_29 30 rfl 0 rfl ?_
    refine x_get C inX11 0 lc0 EC_0 rfl 10 (by decide) dX11_within_30 33 rfl wmf_X11_86 rfl ?_
    refine x_get C inX0 74 lc74 EC_74 rfl 4 (by decide) dX11_within_33 36 rfl wmf_X11_302 rfl ?_
    refine x_iload_n C dX11_within_36 37 rfl 1 rfl ?_
    refine x_iald C 76 lc76 EC_76 0 rfl dX11_within_37 38 rfl h (fun h => ?_)
    refine x_icmp_ge C dX11_within_38 41 rfl 64 rfl h (fun h => ?_) (fun h => ?_)
    · refine x_iload_n C dX11_within_64 65 rfl 3 rfl ?_
      exact x_iretX C rfl (by decide) dX11_within_65 h
    · refine x_aload_n C dX11_within_41 42 rfl 0 rfl ?_
      refine x_get C inX11 0 lc0 EC_0 rfl 10 (by decide) dX11_within_42 45 rfl wmf_X11_86 rfl ?_
      refine x_iload_n C dX11_within_45 46 rfl 1 rfl ?_
      refine x_iload C dX11_within_46 48 rfl 4 rfl ?_
      obtain ⟨r48, a48, hq, h⟩ := xb_some h
      refine x_callVi C 74 (c_X0_priceOf C.2.2.2.2.2.2.1 hq) lc74 EC_74 rfl wml_X11_293 wq_X0_priceOf rfl ⟨by decide, by decide⟩ rfl rfl ⟨by decide, by decide⟩ dX11_within_48 51 rfl rfl (Nat.le_of_ble_eq_true rfl) ?_
      refine x_iload_n C dX11_within_51 52 rfl 2 rfl ?_
      refine x_icmp_gt C dX11_within_52 55 rfl 58 rfl h (fun h => ?_) (fun h => ?_)
      · exact b_X11_within_58 C T (fun _ _ _ _ _ h => ih h) h
      · refine x_iinc C dX11_within_55 58 rfl 3 rfl (d := 1) rfl (by decide) (fun v3_55 => [(3, .int v3_55), (0, .ref (ad 0)), (1, .int v1), (2, .int v2), (4, .int v4)]) (fun _ => rfl) h (fun v3_55 h => ?_)
        exact x_sub [1, 2, 3, 0, 4] rfl (b_X11_within_58 C T (fun _ _ _ _ _ h => ih h) h)
theorem c_X11_within {l : Launch} {D : va_G} {ca : Nat → ClassId} {ad : Nat → Nat} (hI : xInj ad NCC) (hst : l.stackTraces = false) {N : Nat} {ah : AH} {p1 : Int32} {p2 : Int32} {o : XR} (h : F_X11_within N ah p1 p2 = some o) : xMx l yX11_within cX11_within 5 (some .int) rm_X11_within D vwCl (tysC ca) (EC ad ca) NCC ad [.ref (ad 0), .int p1, .int p2] ah o := by
  refine x_metx (by decide) (Nat.le_of_ble_eq_true rfl) hI EC_loc hst ?_
  intro p e s m args below meth c C T
  unfold F_X11_within at h
  refine x_aload_n C dX11_within_0 1 rfl 0 rfl ?_
  refine x_iload_n C dX11_within_1 2 rfl 1 rfl ?_
  obtain ⟨k2, r2, a2, hq, h⟩ := xbx_some h
  refine x_callX C T 0 (c_X11_needToken C.2.2.2.2.2.2.1 T.1 hq) lc0 EC_0 rfl wml_X11_172 wq_X11_needToken rfl ⟨by decide, by decide⟩ ⟨by decide, by decide⟩ rfl rfl ⟨by decide, by decide⟩ dX11_within_2 5 rfl rfl (Nat.le_of_ble_eq_true rfl) h (fun h => ?_)
  refine x_aload_n C dX11_within_5 6 rfl 0 rfl ?_
  refine x_iload_n C dX11_within_6 7 rfl 2 rfl ?_
  refine x_iconst C dX11_within_7 8 rfl 0 rfl ?_
  refine x_sipush C dX11_within_8 11 rfl 9999 rfl ?_
  obtain ⟨k11, r11, a11, hq, h⟩ := xbx_some h
  refine x_callX C T 0 (c_X11_needBetween C.2.2.2.2.2.2.1 T.1 hq) lc0 EC_0 rfl wml_X11_125 wq_X11_needBetween rfl ⟨by decide, by decide⟩ ⟨by decide, by decide⟩ rfl rfl ⟨by decide, by decide⟩ dX11_within_11 14 rfl rfl (Nat.le_of_ble_eq_true rfl) h (fun h => ?_)
  refine x_aload_n C dX11_within_14 15 rfl 0 rfl ?_
  refine x_get C inX11 0 lc0 EC_0 rfl 10 (by decide) dX11_within_15 18 rfl wmf_X11_86 rfl ?_
  refine x_iload_n C dX11_within_18 19 rfl 1 rfl ?_
  obtain ⟨a19, hq, h⟩ := xbv_some h
  refine x_callVv C 74 (c_X0_lookAlone C.2.2.2.2.2.2.1 hq) lc74 EC_74 rfl wml_X11_175 wq_X0_lookAlone rfl ⟨by decide, by decide⟩ rfl rfl ⟨by decide, by decide⟩ dX11_within_19 22 rfl rfl (Nat.le_of_ble_eq_true rfl) ?_
  refine x_iconst C dX11_within_22 23 rfl 0 rfl ?_
  refine x_istore_n C dX11_within_23 24 rfl (by decide) (fun v3_23 => [(3, .int v3_23), (0, .ref (ad 0)), (1, .int p1), (2, .int p2)]) (fun _ => rfl) h (fun v3_23 h => ?_)
  refine x_iconst C dX11_within_24 25 rfl 0 rfl ?_
  refine x_istore C dX11_within_25 27 rfl (by decide) (fun v4_25 => [(4, .int v4_25), (3, .int v3_23), (0, .ref (ad 0)), (1, .int p1), (2, .int p2)]) (fun _ => rfl) h (fun v4_25 h => ?_)
  exact x_sub [2, 3, 4, 1, 0] rfl (b_X11_within_27 C T  N h)
abbrev rm_X11_mended : Room := { frames := 8, cells := 3, slots := 18, locals := 125 }
theorem wq_X11_mended : xcV RX11 yX11_mended cX11_mended 3 (some .int) 2 := ⟨wmi_X11_mended, wms_X11_mended, wmn_X11, wmc_X11_mended, by decide, by decide, by decide +kernel⟩
def F_X11_mended (N : Nat) (ah : AH) (p1 : Int32) (p2 : Int32) : Option XR := xbx (F_X11_needToken N ah p1) (fun a2 => xbx (F_X11_needBetween N a2 p2 0 2) (fun a9 => xbv (F_X0_lookAlone N a9 p1) (fun a17 => if p2 = 0 then xb (F_X0_mendedWord N a17 p1) (fun r53 a53 => some (0, r53, a53)) else if p2 = 1 then xb (F_X0_mendedPrice N a17 p1) (fun r62 a62 => some (0, r62, a62)) else xb (F_X0_nextCostsMore N a17 p1) (fun r71 a71 => some (0, r71, a71)))))
theorem c_X11_mended {l : Launch} {D : va_G} {ca : Nat → ClassId} {ad : Nat → Nat} (hI : xInj ad NCC) (hst : l.stackTraces = false) {N : Nat} {ah : AH} {p1 : Int32} {p2 : Int32} {o : XR} (h : F_X11_mended N ah p1 p2 = some o) : xMx l yX11_mended cX11_mended 3 (some .int) rm_X11_mended D vwCl (tysC ca) (EC ad ca) NCC ad [.ref (ad 0), .int p1, .int p2] ah o := by
  refine x_metx (by decide) (Nat.le_of_ble_eq_true rfl) hI EC_loc hst ?_
  intro p e s m args below meth c C T
  unfold F_X11_mended at h
  refine x_aload_n C dX11_mended_0 1 rfl 0 rfl ?_
  refine x_iload_n C dX11_mended_1 2 rfl 1 rfl ?_
  obtain ⟨k2, r2, a2, hq, h⟩ := xbx_some h
  refine x_callX C T 0 (c_X11_needToken C.2.2.2.2.2.2.1 T.1 hq) lc0 EC_0 rfl wml_X11_172 wq_X11_needToken rfl ⟨by decide, by decide⟩ ⟨by decide, by decide⟩ rfl rfl ⟨by decide, by decide⟩ dX11_mended_2 5 rfl rfl (Nat.le_of_ble_eq_true rfl) h (fun h => ?_)
  refine x_aload_n C dX11_mended_5 6 rfl 0 rfl ?_
  refine x_iload_n C dX11_mended_6 7 rfl 2 rfl ?_
  refine x_iconst C dX11_mended_7 8 rfl 0 rfl ?_
  refine x_iconst C dX11_mended_8 9 rfl 2 rfl ?_
  obtain ⟨k9, r9, a9, hq, h⟩ := xbx_some h
  refine x_callX C T 0 (c_X11_needBetween C.2.2.2.2.2.2.1 T.1 hq) lc0 EC_0 rfl wml_X11_125 wq_X11_needBetween rfl ⟨by decide, by decide⟩ ⟨by decide, by decide⟩ rfl rfl ⟨by decide, by decide⟩ dX11_mended_9 12 rfl rfl (Nat.le_of_ble_eq_true rfl) h (fun h => ?_)
  refine x_aload_n C dX11_mended_12 13 rfl 0 rfl ?_
  refine x_get C inX11 0 lc0 EC_0 rfl 10 (by decide) dX11_mended_13 16 rfl wmf_X11_86 rfl ?_
  refine x_iload_n C dX11_mended_16 17 rfl 1 rfl ?_
  obtain ⟨a17, hq, h⟩ := xbv_some h
  refine x_callVv C 74 (c_X0_lookAlone C.2.2.2.2.2.2.1 hq) lc74 EC_74 rfl wml_X11_175 wq_X0_lookAlone rfl ⟨by decide, by decide⟩ rfl rfl ⟨by decide, by decide⟩ dX11_mended_17 20 rfl rfl (Nat.le_of_ble_eq_true rfl) ?_
  refine x_iload_n C dX11_mended_20 21 rfl 2 rfl ?_
  refine x_swM 0 0 (by decide) h (fun q h => ?_) (fun q0 h => ?_)
  · refine x_lookIn C 48 0 dX11_mended_21 q rfl rfl rfl ?_
    refine x_aload_n C dX11_mended_48 49 rfl 0 rfl ?_
    refine x_get C inX11 0 lc0 EC_0 rfl 10 (by decide) dX11_mended_49 52 rfl wmf_X11_86 rfl ?_
    refine x_iload_n C dX11_mended_52 53 rfl 1 rfl ?_
    obtain ⟨r53, a53, hq, h⟩ := xb_some h
    refine x_callVi C 74 (c_X0_mendedWord C.2.2.2.2.2.2.1 hq) lc74 EC_74 rfl wml_X11_178 wq_X0_mendedWord rfl ⟨by decide, by decide⟩ rfl rfl ⟨by decide, by decide⟩ dX11_mended_53 56 rfl rfl (Nat.le_of_ble_eq_true rfl) ?_
    exact x_iretX C rfl (by decide) dX11_mended_56 h
  · skip
    refine x_swM 1 1 (by decide) h (fun q h => ?_) (fun q1 h => ?_)
    · refine x_lookIn C 57 1 dX11_mended_21 q rfl rfl rfl ?_
      refine x_aload_n C dX11_mended_57 58 rfl 0 rfl ?_
      refine x_get C inX11 0 lc0 EC_0 rfl 10 (by decide) dX11_mended_58 61 rfl wmf_X11_86 rfl ?_
      refine x_iload_n C dX11_mended_61 62 rfl 1 rfl ?_
      obtain ⟨r62, a62, hq, h⟩ := xb_some h
      refine x_callVi C 74 (c_X0_mendedPrice C.2.2.2.2.2.2.1 hq) lc74 EC_74 rfl wml_X11_305 wq_X0_mendedPrice rfl ⟨by decide, by decide⟩ rfl rfl ⟨by decide, by decide⟩ dX11_mended_62 65 rfl rfl (Nat.le_of_ble_eq_true rfl) ?_
      exact x_iretX C rfl (by decide) dX11_mended_65 h
    · skip
      refine x_look (off := 45) C 66 dX11_mended_21 rfl (by simp [Op.lookupswitch.offset, q0, q1]) rfl ?_
      refine x_aload_n C dX11_mended_66 67 rfl 0 rfl ?_
      refine x_get C inX11 0 lc0 EC_0 rfl 10 (by decide) dX11_mended_67 70 rfl wmf_X11_86 rfl ?_
      refine x_iload_n C dX11_mended_70 71 rfl 1 rfl ?_
      obtain ⟨r71, a71, hq, h⟩ := xb_some h
      refine x_callVi C 74 (c_X0_nextCostsMore C.2.2.2.2.2.2.1 hq) lc74 EC_74 rfl wml_X11_308 wq_X0_nextCostsMore rfl ⟨by decide, by decide⟩ rfl rfl ⟨by decide, by decide⟩ dX11_mended_71 74 rfl rfl (Nat.le_of_ble_eq_true rfl) ?_
      exact x_iretX C rfl (by decide) dX11_mended_74 h
abbrev rm_X11_text : Room := { frames := 7, cells := 3, slots := 18, locals := 149 }
theorem wq_X11_text : xcV RX11 yX11_text cX11_text 2 (some .int) 1 := ⟨wmi_X11_text, wms_X11_text, wmn_X11, wmc_X11_text, by decide, by decide, by decide +kernel⟩
def F_X11_text (N : Nat) (ah : AH) (p1 : Int32) : Option XR := xbx (F_X11_needBetween N ah p1 0 3) (fun a4 => xbv (F_X3_make N a4) (fun a11 => if p1 < 0 then some (0, a11 80 7, a11) else if 2 < p1 then some (0, a11 80 7, a11) else if p1 = 0 then some (0, a11 80 4, a11) else if p1 = 1 then some (0, a11 80 5, a11) else if p1 = 2 then some (0, a11 80 6, a11) else none))
theorem c_X11_text {l : Launch} {D : va_G} {ca : Nat → ClassId} {ad : Nat → Nat} (hI : xInj ad NCC) (hst : l.stackTraces = false) {N : Nat} {ah : AH} {p1 : Int32} {o : XR} (h : F_X11_text N ah p1 = some o) : xMx l yX11_text cX11_text 2 (some .int) rm_X11_text D vwCl (tysC ca) (EC ad ca) NCC ad [.ref (ad 0), .int p1] ah o := by
  refine x_metx (by decide) (Nat.le_of_ble_eq_true rfl) hI EC_loc hst ?_
  intro p e s m args below meth c C T
  unfold F_X11_text at h
  refine x_aload_n C dX11_text_0 1 rfl 0 rfl ?_
  refine x_iload_n C dX11_text_1 2 rfl 1 rfl ?_
  refine x_iconst C dX11_text_2 3 rfl 0 rfl ?_
  refine x_iconst C dX11_text_3 4 rfl 3 rfl ?_
  obtain ⟨k4, r4, a4, hq, h⟩ := xbx_some h
  refine x_callX C T 0 (c_X11_needBetween C.2.2.2.2.2.2.1 T.1 hq) lc0 EC_0 rfl wml_X11_125 wq_X11_needBetween rfl ⟨by decide, by decide⟩ ⟨by decide, by decide⟩ rfl rfl ⟨by decide, by decide⟩ dX11_text_4 7 rfl rfl (Nat.le_of_ble_eq_true rfl) h (fun h => ?_)
  refine x_aload_n C dX11_text_7 8 rfl 0 rfl ?_
  refine x_get C inX11 0 lc0 EC_0 rfl 11 (by decide) dX11_text_8 11 rfl wmf_X11_95 rfl ?_
  obtain ⟨a11, hq, h⟩ := xbv_some h
  refine x_callVv C 80 (c_X3_make C.2.2.2.2.2.2.1 hq) lc80 EC_80 rfl wml_X11_311 wq_X3_make rfl ⟨by decide, by decide⟩ rfl rfl ⟨by decide, by decide⟩ dX11_text_11 14 rfl rfl (Nat.le_of_ble_eq_true rfl) ?_
  refine x_iload_n C dX11_text_14 15 rfl 1 rfl ?_
  refine x_swL 0 0 (by decide) h (fun q h => ?_) (fun h => ?_)
  · refine x_tabOut C 64 dX11_text_15 (Or.inl q) rfl ?_
    refine x_aload_n C dX11_text_64 65 rfl 0 rfl ?_
    refine x_get C inX11 0 lc0 EC_0 rfl 11 (by decide) dX11_text_65 68 rfl wmf_X11_95 rfl ?_
    refine x_get C inX3 80 lc80 EC_80 rfl 7 (by decide) dX11_text_68 71 rfl wmf_X11_323 rfl ?_
    exact x_iretX C rfl (by decide) dX11_text_71 h
  · skip
    refine x_swG 2 2 (by decide) h (fun q h => ?_) (fun h => ?_)
    · refine x_tabOut C 64 dX11_text_15 (Or.inr q) rfl ?_
      refine x_aload_n C dX11_text_64 65 rfl 0 rfl ?_
      refine x_get C inX11 0 lc0 EC_0 rfl 11 (by decide) dX11_text_65 68 rfl wmf_X11_95 rfl ?_
      refine x_get C inX3 80 lc80 EC_80 rfl 7 (by decide) dX11_text_68 71 rfl wmf_X11_323 rfl ?_
      exact x_iretX C rfl (by decide) dX11_text_71 h
    · skip
      refine x_sw 0 h (fun q h => ?_) (fun h => ?_)
      · refine x_tabIn C 40 0 dX11_text_15 q (by decide) (by decide) rfl rfl ?_
        refine x_aload_n C dX11_text_40 41 rfl 0 rfl ?_
        refine x_get C inX11 0 lc0 EC_0 rfl 11 (by decide) dX11_text_41 44 rfl wmf_X11_95 rfl ?_
        refine x_get C inX3 80 lc80 EC_80 rfl 4 (by decide) dX11_text_44 47 rfl wmf_X11_314 rfl ?_
        exact x_iretX C rfl (by decide) dX11_text_47 h
      · skip
        refine x_sw 1 h (fun q h => ?_) (fun h => ?_)
        · refine x_tabIn C 48 1 dX11_text_15 q (by decide) (by decide) rfl rfl ?_
          refine x_aload_n C dX11_text_48 49 rfl 0 rfl ?_
          refine x_get C inX11 0 lc0 EC_0 rfl 11 (by decide) dX11_text_49 52 rfl wmf_X11_95 rfl ?_
          refine x_get C inX3 80 lc80 EC_80 rfl 5 (by decide) dX11_text_52 55 rfl wmf_X11_317 rfl ?_
          exact x_iretX C rfl (by decide) dX11_text_55 h
        · skip
          refine x_sw 2 h (fun q h => ?_) (fun h => ?_)
          · refine x_tabIn C 56 2 dX11_text_15 q (by decide) (by decide) rfl rfl ?_
            refine x_aload_n C dX11_text_56 57 rfl 0 rfl ?_
            refine x_get C inX11 0 lc0 EC_0 rfl 11 (by decide) dX11_text_57 60 rfl wmf_X11_95 rfl ?_
            refine x_get C inX3 80 lc80 EC_80 rfl 6 (by decide) dX11_text_60 63 rfl wmf_X11_320 rfl ?_
            exact x_iretX C rfl (by decide) dX11_text_63 h
          · skip
            cases h
abbrev rm_X11_lost : Room := { frames := 8, cells := 3, slots := 18, locals := 149 }
theorem wq_X11_lost : xcV RX11 yX11_lost cX11_lost 3 (some .boolean) 2 := ⟨wmi_X11_lost, wms_X11_lost, wmn_X11, wmc_X11_lost, by decide, by decide, by decide +kernel⟩
def F_X11_lost (N : Nat) (ah : AH) (p1 : Int32) (p2 : Int32) : Option XR := xbx (F_X11_needToken N ah p1) (fun a2 => xbx (F_X11_needBetween N a2 p2 0 1) (fun a9 => xbv (F_X3_make N a9) (fun a16 => if p2 = 0 then xg p1 40 (xbo (a16 82 (Int32.toNatClampNeg p1)) (some (0, a16 82 (Int32.toNatClampNeg p1), a16))) else if p1 ≤ 0 then some (0, 0, a16) else xg (p1 - 1) 40 (if (a16 82 (Int32.toNatClampNeg (p1 - 1))) = 0 then some (0, 0, a16) else some (0, 1, a16)))))
theorem c_X11_lost {l : Launch} {D : va_G} {ca : Nat → ClassId} {ad : Nat → Nat} (hI : xInj ad NCC) (hst : l.stackTraces = false) {N : Nat} {ah : AH} {p1 : Int32} {p2 : Int32} {o : XR} (h : F_X11_lost N ah p1 p2 = some o) : xMx l yX11_lost cX11_lost 3 (some .boolean) rm_X11_lost D vwCl (tysC ca) (EC ad ca) NCC ad [.ref (ad 0), .int p1, .int p2] ah o := by
  refine x_metx (by decide) (Nat.le_of_ble_eq_true rfl) hI EC_loc hst ?_
  intro p e s m args below meth c C T
  unfold F_X11_lost at h
  refine x_aload_n C dX11_lost_0 1 rfl 0 rfl ?_
  refine x_iload_n C dX11_lost_1 2 rfl 1 rfl ?_
  obtain ⟨k2, r2, a2, hq, h⟩ := xbx_some h
  refine x_callX C T 0 (c_X11_needToken C.2.2.2.2.2.2.1 T.1 hq) lc0 EC_0 rfl wml_X11_172 wq_X11_needToken rfl ⟨by decide, by decide⟩ ⟨by decide, by decide⟩ rfl rfl ⟨by decide, by decide⟩ dX11_lost_2 5 rfl rfl (Nat.le_of_ble_eq_true rfl) h (fun h => ?_)
  refine x_aload_n C dX11_lost_5 6 rfl 0 rfl ?_
  refine x_iload_n C dX11_lost_6 7 rfl 2 rfl ?_
  refine x_iconst C dX11_lost_7 8 rfl 0 rfl ?_
  refine x_iconst C dX11_lost_8 9 rfl 1 rfl ?_
  obtain ⟨k9, r9, a9, hq, h⟩ := xbx_some h
  refine x_callX C T 0 (c_X11_needBetween C.2.2.2.2.2.2.1 T.1 hq) lc0 EC_0 rfl wml_X11_125 wq_X11_needBetween rfl ⟨by decide, by decide⟩ ⟨by decide, by decide⟩ rfl rfl ⟨by decide, by decide⟩ dX11_lost_9 12 rfl rfl (Nat.le_of_ble_eq_true rfl) h (fun h => ?_)
  refine x_aload_n C dX11_lost_12 13 rfl 0 rfl ?_
  refine x_get C inX11 0 lc0 EC_0 rfl 11 (by decide) dX11_lost_13 16 rfl wmf_X11_95 rfl ?_
  obtain ⟨a16, hq, h⟩ := xbv_some h
  refine x_callVv C 80 (c_X3_make C.2.2.2.2.2.2.1 hq) lc80 EC_80 rfl wml_X11_311 wq_X3_make rfl ⟨by decide, by decide⟩ rfl rfl ⟨by decide, by decide⟩ dX11_lost_16 19 rfl rfl (Nat.le_of_ble_eq_true rfl) ?_
  refine x_iload_n C dX11_lost_19 20 rfl 2 rfl ?_
  refine x_if_ne C dX11_lost_20 23 rfl 33 rfl h (fun h => ?_) (fun h => ?_)
  · refine x_iload_n C dX11_lost_33 34 rfl 1 rfl ?_
    refine x_if_le C dX11_lost_34 37 rfl 55 rfl h (fun h => ?_) (fun h => ?_)
    · refine x_iconst C dX11_lost_55 56 rfl 0 rfl ?_
      exact x_zretX C rfl (by decide) dX11_lost_56 (by decide) h
    · refine x_aload_n C dX11_lost_37 38 rfl 0 rfl ?_
      refine x_get C inX11 0 lc0 EC_0 rfl 11 (by decide) dX11_lost_38 41 rfl wmf_X11_95 rfl ?_
      refine x_get C inX3 80 lc80 EC_80 rfl 9 (by decide) dX11_lost_41 44 rfl wmf_X11_327 rfl ?_
      refine x_iload_n C dX11_lost_44 45 rfl 1 rfl ?_
      refine x_iconst C dX11_lost_45 46 rfl 1 rfl ?_
      refine x_isub C dX11_lost_46 47 rfl ?_
      refine x_zald C 82 lc82 EC_82 1 rfl dX11_lost_47 48 rfl h (fun h => ?_)
      refine x_if_eq C dX11_lost_48 51 rfl 55 rfl h (fun h => ?_) (fun h => ?_)
      · refine x_iconst C dX11_lost_55 56 rfl 0 rfl ?_
        exact x_zretX C rfl (by decide) dX11_lost_56 (by decide) h
      · refine x_iconst C dX11_lost_51 52 rfl 1 rfl ?_
        refine x_goto C dX11_lost_52 56 rfl ?_
        exact x_zretX C rfl (by decide) dX11_lost_56 (by decide) h
  · refine x_aload_n C dX11_lost_23 24 rfl 0 rfl ?_
    refine x_get C inX11 0 lc0 EC_0 rfl 11 (by decide) dX11_lost_24 27 rfl wmf_X11_95 rfl ?_
    refine x_get C inX3 80 lc80 EC_80 rfl 9 (by decide) dX11_lost_27 30 rfl wmf_X11_327 rfl ?_
    refine x_iload_n C dX11_lost_30 31 rfl 1 rfl ?_
    refine x_zald C 82 lc82 EC_82 1 rfl dX11_lost_31 32 rfl h (fun h => ?_)
    exact x_zretXB C rfl (by decide) dX11_lost_32 h
abbrev rm_X11_way : Room := { frames := 8, cells := 3, slots := 18, locals := 146 }
theorem wq_X11_way : xcV RX11 yX11_way cX11_way 3 (some .int) 2 := ⟨wmi_X11_way, wms_X11_way, wmn_X11, wmc_X11_way, by decide, by decide, by decide +kernel⟩
def F_X11_way (N : Nat) (ah : AH) (p1 : Int32) (p2 : Int32) : Option XR := xbx (F_X11_needToken N ah p1) (fun a2 => xbx (F_X11_needBetween N a2 p2 0 1) (fun a9 => xb (F_X11_findWay N a9 p1) (fun r14 a14 => if r14 = 0 then some (0, (-1), a14) else if p2 = 0 then some (0, a14 88 2, a14) else some (0, a14 88 3, a14))))
theorem c_X11_way {l : Launch} {D : va_G} {ca : Nat → ClassId} {ad : Nat → Nat} (hI : xInj ad NCC) (hst : l.stackTraces = false) {N : Nat} {ah : AH} {p1 : Int32} {p2 : Int32} {o : XR} (h : F_X11_way N ah p1 p2 = some o) : xMx l yX11_way cX11_way 3 (some .int) rm_X11_way D vwCl (tysC ca) (EC ad ca) NCC ad [.ref (ad 0), .int p1, .int p2] ah o := by
  refine x_metx (by decide) (Nat.le_of_ble_eq_true rfl) hI EC_loc hst ?_
  intro p e s m args below meth c C T
  unfold F_X11_way at h
  refine x_aload_n C dX11_way_0 1 rfl 0 rfl ?_
  refine x_iload_n C dX11_way_1 2 rfl 1 rfl ?_
  obtain ⟨k2, r2, a2, hq, h⟩ := xbx_some h
  refine x_callX C T 0 (c_X11_needToken C.2.2.2.2.2.2.1 T.1 hq) lc0 EC_0 rfl wml_X11_172 wq_X11_needToken rfl ⟨by decide, by decide⟩ ⟨by decide, by decide⟩ rfl rfl ⟨by decide, by decide⟩ dX11_way_2 5 rfl rfl (Nat.le_of_ble_eq_true rfl) h (fun h => ?_)
  refine x_aload_n C dX11_way_5 6 rfl 0 rfl ?_
  refine x_iload_n C dX11_way_6 7 rfl 2 rfl ?_
  refine x_iconst C dX11_way_7 8 rfl 0 rfl ?_
  refine x_iconst C dX11_way_8 9 rfl 1 rfl ?_
  obtain ⟨k9, r9, a9, hq, h⟩ := xbx_some h
  refine x_callX C T 0 (c_X11_needBetween C.2.2.2.2.2.2.1 T.1 hq) lc0 EC_0 rfl wml_X11_125 wq_X11_needBetween rfl ⟨by decide, by decide⟩ ⟨by decide, by decide⟩ rfl rfl ⟨by decide, by decide⟩ dX11_way_9 12 rfl rfl (Nat.le_of_ble_eq_true rfl) h (fun h => ?_)
  refine x_aload_n C dX11_way_12 13 rfl 0 rfl ?_
  refine x_iload_n C dX11_way_13 14 rfl 1 rfl ?_
  obtain ⟨r14, a14, hq, h⟩ := xb_some h
  refine x_callVi C 0 (c_X11_findWay C.2.2.2.2.2.2.1 hq) lc0 EC_0 rfl wml_X11_330 wq_X11_findWay rfl ⟨by decide, by decide⟩ rfl rfl ⟨by decide, by decide⟩ dX11_way_14 17 rfl rfl (Nat.le_of_ble_eq_true rfl) ?_
  refine x_if_ne C dX11_way_17 20 rfl 22 rfl h (fun h => ?_) (fun h => ?_)
  · refine x_iload_n C dX11_way_22 23 rfl 2 rfl ?_
    refine x_if_ne C dX11_way_23 26 rfl 36 rfl h (fun h => ?_) (fun h => ?_)
    · refine x_aload_n C dX11_way_36 37 rfl 0 rfl ?_
      refine x_get C inX11 0 lc0 EC_0 rfl 13 (by decide) dX11_way_37 40 rfl wmf_X11_113 rfl ?_
      refine x_get C inX10 88 lc88 EC_88 rfl 3 (by decide) dX11_way_40 43 rfl wmf_X11_337 rfl ?_
      exact x_iretX C rfl (by decide) dX11_way_43 h
    · refine x_aload_n C dX11_way_26 27 rfl 0 rfl ?_
      refine x_get C inX11 0 lc0 EC_0 rfl 13 (by decide) dX11_way_27 30 rfl wmf_X11_113 rfl ?_
      refine x_get C inX10 88 lc88 EC_88 rfl 2 (by decide) dX11_way_30 33 rfl wmf_X11_334 rfl ?_
      refine x_goto C dX11_way_33 43 rfl ?_
      exact x_iretX C rfl (by decide) dX11_way_43 h
  · refine x_iconst C dX11_way_20 21 rfl (-1) rfl ?_
    exact x_iretX C rfl (by decide) dX11_way_21 h
abbrev rm_X11_edge : Room := { frames := 8, cells := 3, slots := 18, locals := 146 }
theorem wq_X11_edge : xcV RX11 yX11_edge cX11_edge 5 (some .int) 3 := ⟨wmi_X11_edge, wms_X11_edge, wmn_X11, wmc_X11_edge, by decide, by decide, by decide +kernel⟩
def F_X11_edge_26 (N : Nat) (ah : AH) (v2 : Int32) (v3 : Int32) (s1 : Int32) (s2 : Int32) : Option XR := xbx (F_X11_needElement N ah s1 s2) (fun a26 => xbx (F_X11_needBetween N a26 v3 0 4) (fun a33 => xg v2 24 (xlet (a33 89 (Int32.toNatClampNeg v2)) (fun v4_45 => if v3 < 0 then xg v4_45 624 (some (0, a33 65 (Int32.toNatClampNeg v4_45), a33)) else if 3 < v3 then xg v4_45 624 (some (0, a33 65 (Int32.toNatClampNeg v4_45), a33)) else if v3 = 0 then xg v4_45 624 (some (0, a33 60 (Int32.toNatClampNeg v4_45), a33)) else if v3 = 1 then xg v4_45 624 (some (0, a33 61 (Int32.toNatClampNeg v4_45), a33)) else if v3 = 2 then xg v4_45 624 (some (0, a33 62 (Int32.toNatClampNeg v4_45), a33)) else if v3 = 3 then xg v4_45 624 (some (0, a33 63 (Int32.toNatClampNeg v4_45), a33)) else none))))
def F_X11_edge (N : Nat) (ah : AH) (p1 : Int32) (p2 : Int32) (p3 : Int32) : Option XR := xbx (F_X11_needToken N ah p1) (fun a2 => xb (F_X11_findWay N a2 p1) (fun r9 a9 => if r9 = 0 then F_X11_edge_26 N a9 p2 p3 p2 0 else F_X11_edge_26 N a9 p2 p3 p2 (a9 88 2)))
theorem b_X11_edge_26 (C : XC p l s m args meth c cX11_edge 5 (some .int) RX11 D vwCl (tysC ca) (EC ad ca) NCC ad) (T : XT l s c ad NCC) {N : Nat} {o : XR} {ah : AH} {v2 : Int32} {v3 : Int32} {s1 : Int32} {s2 : Int32} (h : F_X11_edge_26 N ah v2 v3 s1 s2 = some o) : XW p l e rm_X11_edge s m args below meth c 5 1 (xQx below args s D vwCl (tysC ca) (EC ad ca) NCC ad o) D vwCl (EC ad ca) NCC ad ah 26 [(0, .ref (ad 0)), (2, .int v2), (3, .int v3)] [.int s2, .int s1, .ref (ad 0)] := by
  unfold F_X11_edge_26 at h
  obtain ⟨k26, r26, a26, hq, h⟩ := xbx_some h
  refine x_callX C T 0 (c_X11_needElement C.2.2.2.2.2.2.1 T.1 hq) lc0 EC_0 rfl wml_X11_278 wq_X11_needElement rfl ⟨by decide, by decide⟩ ⟨by decide, by decide⟩ rfl rfl ⟨by decide, by decide⟩ dX11_edge_26 29 rfl rfl (Nat.le_of_ble_eq_true rfl) h (fun h => ?_)
  refine x_aload_n C dX11_edge_29 30 rfl 0 rfl ?_
  refine x_iload_n C dX11_edge_30 31 rfl 2 rfl ?_
  refine x_iconst C dX11_edge_31 32 rfl 0 rfl ?_
  refine x_iconst C dX11_edge_32 33 rfl 4 rfl ?_
  obtain ⟨k33, r33, a33, hq, h⟩ := xbx_some h
  refine x_callX C T 0 (c_X11_needBetween C.2.2.2.2.2.2.1 T.1 hq) lc0 EC_0 rfl wml_X11_125 wq_X11_needBetween rfl ⟨by decide, by decide⟩ ⟨by decide, by decide⟩ rfl rfl ⟨by decide, by decide⟩ dX11_edge_33 36 rfl rfl (Nat.le_of_ble_eq_true rfl) h (fun h => ?_)
  refine x_aload_n C dX11_edge_36 37 rfl 0 rfl ?_
  refine x_get C inX11 0 lc0 EC_0 rfl 13 (by decide) dX11_edge_37 40 rfl wmf_X11_113 rfl ?_
  refine x_get C inX10 88 lc88 EC_88 rfl 4 (by decide) dX11_edge_40 43 rfl wmf_X11_340 rfl ?_
  refine x_iload_n C dX11_edge_43 44 rfl 1 rfl ?_
  refine x_iald C 89 lc89 EC_89 0 rfl dX11_edge_44 45 rfl h (fun h => ?_)
  refine x_istore C dX11_edge_45 47 rfl (by decide) (fun v4_45 => [(4, .int v4_45), (0, .ref (ad 0)), (2, .int v2), (3, .int v3)]) (fun _ => rfl) h (fun v4_45 h => ?_)
  refine x_iload_n C dX11_edge_47 48 rfl 3 rfl ?_
  refine x_swL 0 0 (by decide) h (fun q h => ?_) (fun h => ?_)
  · refine x_tabOut C 124 dX11_edge_48 (Or.inl q) rfl ?_
    refine x_aload_n C dX11_edge_124 125 rfl 1 rfl ?_
    refine x_get C inX11 0 lc0 EC_0 rfl 9 (by decide) dX11_edge_125 128 rfl wmf_X11_72 rfl ?_
    refine x_get C inX4 57 lc57 EC_57 rfl 13 (by decide) dX11_edge_128 131 rfl wmf_X11_355 rfl ?_
    refine x_iload C dX11_edge_131 133 rfl 0 rfl ?_
    refine x_iald C 65 lc65 EC_65 0 rfl dX11_edge_133 134 rfl h (fun h => ?_)
    exact x_iretX C rfl (by decide) dX11_edge_134 h
  · skip
    refine x_swG 3 3 (by decide) h (fun q h => ?_) (fun h => ?_)
    · refine x_tabOut C 124 dX11_edge_48 (Or.inr q) rfl ?_
      refine x_aload_n C dX11_edge_124 125 rfl 1 rfl ?_
      refine x_get C inX11 0 lc0 EC_0 rfl 9 (by decide) dX11_edge_125 128 rfl wmf_X11_72 rfl ?_
      refine x_get C inX4 57 lc57 EC_57 rfl 13 (by decide) dX11_edge_128 131 rfl wmf_X11_355 rfl ?_
      refine x_iload C dX11_edge_131 133 rfl 0 rfl ?_
      refine x_iald C 65 lc65 EC_65 0 rfl dX11_edge_133 134 rfl h (fun h => ?_)
      exact x_iretX C rfl (by decide) dX11_edge_134 h
    · skip
      refine x_sw 0 h (fun q h => ?_) (fun h => ?_)
      · refine x_tabIn C 80 0 dX11_edge_48 q (by decide) (by decide) rfl rfl ?_
        refine x_aload_n C dX11_edge_80 81 rfl 1 rfl ?_
        refine x_get C inX11 0 lc0 EC_0 rfl 9 (by decide) dX11_edge_81 84 rfl wmf_X11_72 rfl ?_
        refine x_get C inX4 57 lc57 EC_57 rfl 8 (by decide) dX11_edge_84 87 rfl wmf_X11_343 rfl ?_
        refine x_iload C dX11_edge_87 89 rfl 0 rfl ?_
        refine x_iald C 60 lc60 EC_60 0 rfl dX11_edge_89 90 rfl h (fun h => ?_)
        exact x_iretX C rfl (by decide) dX11_edge_90 h
      · skip
        refine x_sw 1 h (fun q h => ?_) (fun h => ?_)
        · refine x_tabIn C 91 1 dX11_edge_48 q (by decide) (by decide) rfl rfl ?_
          refine x_aload_n C dX11_edge_91 92 rfl 1 rfl ?_
          refine x_get C inX11 0 lc0 EC_0 rfl 9 (by decide) dX11_edge_92 95 rfl wmf_X11_72 rfl ?_
          refine x_get C inX4 57 lc57 EC_57 rfl 9 (by decide) dX11_edge_95 98 rfl wmf_X11_346 rfl ?_
          refine x_iload C dX11_edge_98 100 rfl 0 rfl ?_
          refine x_iald C 61 lc61 EC_61 0 rfl dX11_edge_100 101 rfl h (fun h => ?_)
          exact x_iretX C rfl (by decide) dX11_edge_101 h
        · skip
          refine x_sw 2 h (fun q h => ?_) (fun h => ?_)
          · refine x_tabIn C 102 2 dX11_edge_48 q (by decide) (by decide) rfl rfl ?_
            refine x_aload_n C dX11_edge_102 103 rfl 1 rfl ?_
            refine x_get C inX11 0 lc0 EC_0 rfl 9 (by decide) dX11_edge_103 106 rfl wmf_X11_72 rfl ?_
            refine x_get C inX4 57 lc57 EC_57 rfl 10 (by decide) dX11_edge_106 109 rfl wmf_X11_349 rfl ?_
            refine x_iload C dX11_edge_109 111 rfl 0 rfl ?_
            refine x_iald C 62 lc62 EC_62 0 rfl dX11_edge_111 112 rfl h (fun h => ?_)
            exact x_iretX C rfl (by decide) dX11_edge_112 h
          · skip
            refine x_sw 3 h (fun q h => ?_) (fun h => ?_)
            · refine x_tabIn C 113 3 dX11_edge_48 q (by decide) (by decide) rfl rfl ?_
              refine x_aload_n C dX11_edge_113 114 rfl 1 rfl ?_
              refine x_get C inX11 0 lc0 EC_0 rfl 9 (by decide) dX11_edge_114 117 rfl wmf_X11_72 rfl ?_
              refine x_get C inX4 57 lc57 EC_57 rfl 11 (by decide) dX11_edge_117 120 rfl wmf_X11_352 rfl ?_
              refine x_iload C dX11_edge_120 122 rfl 0 rfl ?_
              refine x_iald C 63 lc63 EC_63 0 rfl dX11_edge_122 123 rfl h (fun h => ?_)
              exact x_iretX C rfl (by decide) dX11_edge_123 h
            · skip
              cases h
theorem c_X11_edge {l : Launch} {D : va_G} {ca : Nat → ClassId} {ad : Nat → Nat} (hI : xInj ad NCC) (hst : l.stackTraces = false) {N : Nat} {ah : AH} {p1 : Int32} {p2 : Int32} {p3 : Int32} {o : XR} (h : F_X11_edge N ah p1 p2 p3 = some o) : xMx l yX11_edge cX11_edge 5 (some .int) rm_X11_edge D vwCl (tysC ca) (EC ad ca) NCC ad [.ref (ad 0), .int p1, .int p2, .int p3] ah o := by
  refine x_metx (by decide) (Nat.le_of_ble_eq_true rfl) hI EC_loc hst ?_
  intro p e s m args below meth c C T
  unfold F_X11_edge at h
  refine x_aload_n C dX11_edge_0 1 rfl 0 rfl ?_
  refine x_iload_n C dX11_edge_1 2 rfl 1 rfl ?_
  obtain ⟨k2, r2, a2, hq, h⟩ := xbx_some h
  refine x_callX C T 0 (c_X11_needToken C.2.2.2.2.2.2.1 T.1 hq) lc0 EC_0 rfl wml_X11_172 wq_X11_needToken rfl ⟨by decide, by decide⟩ ⟨by decide, by decide⟩ rfl rfl ⟨by decide, by decide⟩ dX11_edge_2 5 rfl rfl (Nat.le_of_ble_eq_true rfl) h (fun h => ?_)
  refine x_aload_n C dX11_edge_5 6 rfl 0 rfl ?_
  refine x_iload_n C dX11_edge_6 7 rfl 2 rfl ?_
  refine x_aload_n C dX11_edge_7 8 rfl 0 rfl ?_
  refine x_iload_n C dX11_edge_8 9 rfl 1 rfl ?_
  obtain ⟨r9, a9, hq, h⟩ := xb_some h
  refine x_callVi C 0 (c_X11_findWay C.2.2.2.2.2.2.1 hq) lc0 EC_0 rfl wml_X11_330 wq_X11_findWay rfl ⟨by decide, by decide⟩ rfl rfl ⟨by decide, by decide⟩ dX11_edge_9 12 rfl rfl (Nat.le_of_ble_eq_true rfl) ?_
  refine x_if_eq C dX11_edge_12 15 rfl 25 rfl h (fun h => ?_) (fun h => ?_)
  · refine x_iconst C dX11_edge_25 26 rfl 0 rfl ?_
    exact x_sub [0, 2, 3] rfl (b_X11_edge_26 C T  h)
  · refine x_aload_n C dX11_edge_15 16 rfl 0 rfl ?_
    refine x_get C inX11 0 lc0 EC_0 rfl 13 (by decide) dX11_edge_16 19 rfl wmf_X11_113 rfl ?_
    refine x_get C inX10 88 lc88 EC_88 rfl 2 (by decide) dX11_edge_19 22 rfl wmf_X11_334 rfl ?_
    refine x_goto C dX11_edge_22 26 rfl ?_
    exact x_sub [0, 2, 3] rfl (b_X11_edge_26 C T  h)
abbrev rm_X11_used : Room := { frames := 8, cells := 3, slots := 18, locals := 146 }
theorem wq_X11_used : xcV RX11 yX11_used cX11_used 4 (some .int) 1 := ⟨wmi_X11_used, wms_X11_used, wmn_X11, wmc_X11_used, by decide, by decide, by decide +kernel⟩
def F_X11_used_39 (N : Nat) (k9 : AH → Int32 → Int32 → Int32 → Option XR) (ah : AH) (v1 : Int32) (v2 : Int32) (v3 : Int32) : Option XR := xlet (v3 + 1) (fun v3_39 => k9 ah v1 v2 v3_39)
def F_X11_used_9 (N : Nat) : Nat → AH → Int32 → Int32 → Int32 → Option XR
  | 0, _, _, _, _ => none
  | n + 1, ah, v1, v2, v3 => if (ah 31 0) ≤ v3 then some (0, v2, ah) else xb (F_X11_findWay N ah v3) (fun r22 a22 => if r22 = 0 then F_X11_used_39 N (F_X11_used_9 N n) a22 v1 v2 v3 else xb (F_X10_countShape N a22 v1) (fun r34 a34 => xlet (v2 + r34) (fun v2_38 => F_X11_used_39 N (F_X11_used_9 N n) a34 v1 v2_38 v3)))
def F_X11_used (N : Nat) (ah : AH) (p1 : Int32) : Option XR := xbx (F_X11_needShape N ah p1) (fun a2 => xlet 0 (fun v2_6 => xlet 0 (fun v3_8 => F_X11_used_9 N N a2 p1 v2_6 v3_8)))
theorem b_X11_used_39 (C : XC p l s m args meth c cX11_used 4 (some .int) RX11 D vwCl (tysC ca) (EC ad ca) NCC ad) (T : XT l s c ad NCC) {N : Nat} {o : XR} {k9 : AH → Int32 → Int32 → Int32 → Option XR} (hk9 : ∀ (ah : AH) (v1 : Int32) (v2 : Int32) (v3 : Int32), k9 ah v1 v2 v3 = some o → XW p l e rm_X11_used s m args below meth c 4 1 (xQx below args s D vwCl (tysC ca) (EC ad ca) NCC ad o) D vwCl (EC ad ca) NCC ad ah 9 [(0, .ref (ad 0)), (1, .int v1), (2, .int v2), (3, .int v3)] []) {ah : AH} {v1 : Int32} {v2 : Int32} {v3 : Int32} (h : F_X11_used_39 N k9 ah v1 v2 v3 = some o) : XW p l e rm_X11_used s m args below meth c 4 1 (xQx below args s D vwCl (tysC ca) (EC ad ca) NCC ad o) D vwCl (EC ad ca) NCC ad ah 39 [(0, .ref (ad 0)), (1, .int v1), (2, .int v2), (3, .int v3)] [] := by
  unfold F_X11_used_39 at h
  refine x_iinc C dX11_used_39 42 rfl 3 rfl (d := 1) rfl (by decide) (fun v3_39 => [(3, .int v3_39), (0, .ref (ad 0)), (1, .int v1), (2, .int v2)]) (fun _ => rfl) h (fun v3_39 h => ?_)
  refine x_goto C dX11_used_42 9 rfl ?_
  exact x_sub [1, 2, 3, 0] rfl (hk9 _ _ _ _ h)
theorem b_X11_used_9 (C : XC p l s m args meth c cX11_used 4 (some .int) RX11 D vwCl (tysC ca) (EC ad ca) NCC ad) (T : XT l s c ad NCC) {N : Nat} {o : XR} : ∀ (n : Nat) {ah : AH} {v1 : Int32} {v2 : Int32} {v3 : Int32}, F_X11_used_9 N n ah v1 v2 v3 = some o → XW p l e rm_X11_used s m args below meth c 4 1 (xQx below args s D vwCl (tysC ca) (EC ad ca) NCC ad o) D vwCl (EC ad ca) NCC ad ah 9 [(0, .ref (ad 0)), (1, .int v1), (2, .int v2), (3, .int v3)] [] := by
  intro n
  induction n with
  | zero => intro ah v1 v2 v3 h; unfold F_X11_used_9 at h; cases h
  | succ n ih =>
    intro ah v1 v2 v3 h
    unfold F_X11_used_9 at h
    refine x_iload_n C dX11_used_9 10 rfl 3 rfl ?_
    refine x_aload_n C dX11_used_10 11 rfl 0 rfl ?_
    refine x_get C inX11 0 lc0 EC_0 rfl 4 (by decide) dX11_used_11 14 rfl wmf_X11_36 rfl ?_
    refine x_get C inX5 31 lc31 EC_31 rfl 0 (by decide) dX11_used_14 17 rfl wmf_X11_147 rfl ?_
    refine x_icmp_ge C dX11_used_17 20 rfl 45 rfl h (fun h => ?_) (fun h => ?_)
    · refine x_iload_n C dX11_used_45 46 rfl 2 rfl ?_
      exact x_iretX C rfl (by decide) dX11_used_46 h
    · refine x_aload_n C dX11_used_20 21 rfl 0 rfl ?_
      refine x_iload_n C dX11_used_21 22 rfl 3 rfl ?_
      obtain ⟨r22, a22, hq, h⟩ := xb_some h
      refine x_callVi C 0 (c_X11_findWay C.2.2.2.2.2.2.1 hq) lc0 EC_0 rfl wml_X11_330 wq_X11_findWay rfl ⟨by decide, by decide⟩ rfl rfl ⟨by decide, by decide⟩ dX11_used_22 25 rfl rfl (Nat.le_of_ble_eq_true rfl) ?_
      refine x_if_eq C dX11_used_25 28 rfl 39 rfl h (fun h => ?_) (fun h => ?_)
      · exact b_X11_used_39 C T (fun _ _ _ _ h => ih h) h
      · refine x_iload_n C dX11_used_28 29 rfl 2 rfl ?_
        refine x_aload_n C dX11_used_29 30 rfl 0 rfl ?_
        refine x_get C inX11 0 lc0 EC_0 rfl 13 (by decide) dX11_used_30 33 rfl wmf_X11_113 rfl ?_
        refine x_iload_n C dX11_used_33 34 rfl 1 rfl ?_
        obtain ⟨r34, a34, hq, h⟩ := xb_some h
        refine x_callVi C 88 (c_X10_countShape C.2.2.2.2.2.2.1 hq) lc88 EC_88 rfl wml_X11_358 wq_X10_countShape rfl ⟨by decide, by decide⟩ rfl rfl ⟨by decide, by decide⟩ dX11_used_34 37 rfl rfl (Nat.le_of_ble_eq_true rfl) ?_
        refine x_iadd C dX11_used_37 38 rfl ?_
        refine x_istore_n C dX11_used_38 39 rfl (by decide) (fun v2_38 => [(2, .int v2_38), (0, .ref (ad 0)), (1, .int v1), (3, .int v3)]) (fun _ => rfl) h (fun v2_38 h => ?_)
        exact x_sub [1, 2, 0, 3] rfl (b_X11_used_39 C T (fun _ _ _ _ h => ih h) h)
theorem c_X11_used {l : Launch} {D : va_G} {ca : Nat → ClassId} {ad : Nat → Nat} (hI : xInj ad NCC) (hst : l.stackTraces = false) {N : Nat} {ah : AH} {p1 : Int32} {o : XR} (h : F_X11_used N ah p1 = some o) : xMx l yX11_used cX11_used 4 (some .int) rm_X11_used D vwCl (tysC ca) (EC ad ca) NCC ad [.ref (ad 0), .int p1] ah o := by
  refine x_metx (by decide) (Nat.le_of_ble_eq_true rfl) hI EC_loc hst ?_
  intro p e s m args below meth c C T
  unfold F_X11_used at h
  refine x_aload_n C dX11_used_0 1 rfl 0 rfl ?_
  refine x_iload_n C dX11_used_1 2 rfl 1 rfl ?_
  obtain ⟨k2, r2, a2, hq, h⟩ := xbx_some h
  refine x_callX C T 0 (c_X11_needShape C.2.2.2.2.2.2.1 T.1 hq) lc0 EC_0 rfl wml_X11_239 wq_X11_needShape rfl ⟨by decide, by decide⟩ ⟨by decide, by decide⟩ rfl rfl ⟨by decide, by decide⟩ dX11_used_2 5 rfl rfl (Nat.le_of_ble_eq_true rfl) h (fun h => ?_)
  refine x_iconst C dX11_used_5 6 rfl 0 rfl ?_
  refine x_istore_n C dX11_used_6 7 rfl (by decide) (fun v2_6 => [(2, .int v2_6), (0, .ref (ad 0)), (1, .int p1)]) (fun _ => rfl) h (fun v2_6 h => ?_)
  refine x_iconst C dX11_used_7 8 rfl 0 rfl ?_
  refine x_istore_n C dX11_used_8 9 rfl (by decide) (fun v3_8 => [(3, .int v3_8), (2, .int v2_6), (0, .ref (ad 0)), (1, .int p1)]) (fun _ => rfl) h (fun v3_8 h => ?_)
  exact x_sub [2, 3, 1, 0] rfl (b_X11_used_9 C T  N h)
abbrev rm_X11_dear : Room := { frames := 8, cells := 3, slots := 18, locals := 125 }
theorem wq_X11_dear : xcV RX11 yX11_dear cX11_dear 3 (some .int) 2 := ⟨wmi_X11_dear, wms_X11_dear, wmn_X11, wmc_X11_dear, by decide, by decide, by decide +kernel⟩
def F_X11_dear (N : Nat) (ah : AH) (p1 : Int32) (p2 : Int32) : Option XR := xbx (F_X11_needWord N ah p1) (fun a2 => xbx (F_X11_needWord N a2 p2) (fun a7 => xb (F_X1_dearOf N 49 a7 p1 p2 (a7 1 6)) (fun r23 a23 => some (0, r23, a23))))
theorem c_X11_dear {l : Launch} {D : va_G} {ca : Nat → ClassId} {ad : Nat → Nat} (hI : xInj ad NCC) (hst : l.stackTraces = false) {N : Nat} {ah : AH} {p1 : Int32} {p2 : Int32} {o : XR} (h : F_X11_dear N ah p1 p2 = some o) : xMx l yX11_dear cX11_dear 3 (some .int) rm_X11_dear D vwCl (tysC ca) (EC ad ca) NCC ad [.ref (ad 0), .int p1, .int p2] ah o := by
  refine x_metx (by decide) (Nat.le_of_ble_eq_true rfl) hI EC_loc hst ?_
  intro p e s m args below meth c C T
  unfold F_X11_dear at h
  refine x_aload_n C dX11_dear_0 1 rfl 0 rfl ?_
  refine x_iload_n C dX11_dear_1 2 rfl 1 rfl ?_
  obtain ⟨k2, r2, a2, hq, h⟩ := xbx_some h
  refine x_callX C T 0 (c_X11_needWord C.2.2.2.2.2.2.1 T.1 hq) lc0 EC_0 rfl wml_X11_162 wq_X11_needWord rfl ⟨by decide, by decide⟩ ⟨by decide, by decide⟩ rfl rfl ⟨by decide, by decide⟩ dX11_dear_2 5 rfl rfl (Nat.le_of_ble_eq_true rfl) h (fun h => ?_)
  refine x_aload_n C dX11_dear_5 6 rfl 0 rfl ?_
  refine x_iload_n C dX11_dear_6 7 rfl 2 rfl ?_
  obtain ⟨k7, r7, a7, hq, h⟩ := xbx_some h
  refine x_callX C T 0 (c_X11_needWord C.2.2.2.2.2.2.1 T.1 hq) lc0 EC_0 rfl wml_X11_162 wq_X11_needWord rfl ⟨by decide, by decide⟩ ⟨by decide, by decide⟩ rfl rfl ⟨by decide, by decide⟩ dX11_dear_7 10 rfl rfl (Nat.le_of_ble_eq_true rfl) h (fun h => ?_)
  refine x_aload_n C dX11_dear_10 11 rfl 0 rfl ?_
  refine x_get C inX11 0 lc0 EC_0 rfl 6 (by decide) dX11_dear_11 14 rfl wmf_X11_48 rfl ?_
  refine x_iload_n C dX11_dear_14 15 rfl 1 rfl ?_
  refine x_iload_n C dX11_dear_15 16 rfl 2 rfl ?_
  refine x_aload_n C dX11_dear_16 17 rfl 0 rfl ?_
  refine x_get C inX11 0 lc0 EC_0 rfl 8 (by decide) dX11_dear_17 20 rfl wmf_X11_64 rfl ?_
  refine x_bipush C dX11_dear_20 22 rfl 6 rfl ?_
  refine x_ialdK C 1 lc1 EC_1 0 rfl dX11_dear_22 23 rfl (by decide) 6 (by decide) ?_
  obtain ⟨r23, a23, hq, h⟩ := xb_some h
  refine x_callVi C 49 (c_X1_dearOf_follows C.2.2.2.2.2.2.1 hq) lc49 EC_49 rfl wml_X11_361 wq_X1_dearOf rfl ⟨by decide, by decide⟩ rfl rfl ⟨by decide, by decide⟩ dX11_dear_23 26 rfl rfl (Nat.le_of_ble_eq_true rfl) ?_
  exact x_iretX C rfl (by decide) dX11_dear_26 h
abbrev rm_X11_sentence : Room := { frames := 7, cells := 3, slots := 18, locals := 146 }
theorem wq_X11_sentence : xcV RX11 yX11_sentence cX11_sentence 2 (some .int) 1 := ⟨wmi_X11_sentence, wms_X11_sentence, wmn_X11, wmc_X11_sentence, by decide, by decide, by decide +kernel⟩
def F_X11_sentence (N : Nat) (ah : AH) (p1 : Int32) : Option XR := xbx (F_X11_needBetween N ah p1 0 2) (fun a4 => xbv (F_X7_make N a4) (fun a11 => if p1 = 0 then some (0, a11 84 5, a11) else if p1 = 1 then some (0, a11 84 6, a11) else some (0, a11 84 7, a11)))
theorem c_X11_sentence {l : Launch} {D : va_G} {ca : Nat → ClassId} {ad : Nat → Nat} (hI : xInj ad NCC) (hst : l.stackTraces = false) {N : Nat} {ah : AH} {p1 : Int32} {o : XR} (h : F_X11_sentence N ah p1 = some o) : xMx l yX11_sentence cX11_sentence 2 (some .int) rm_X11_sentence D vwCl (tysC ca) (EC ad ca) NCC ad [.ref (ad 0), .int p1] ah o := by
  refine x_metx (by decide) (Nat.le_of_ble_eq_true rfl) hI EC_loc hst ?_
  intro p e s m args below meth c C T
  unfold F_X11_sentence at h
  refine x_aload_n C dX11_sentence_0 1 rfl 0 rfl ?_
  refine x_iload_n C dX11_sentence_1 2 rfl 1 rfl ?_
  refine x_iconst C dX11_sentence_2 3 rfl 0 rfl ?_
  refine x_iconst C dX11_sentence_3 4 rfl 2 rfl ?_
  obtain ⟨k4, r4, a4, hq, h⟩ := xbx_some h
  refine x_callX C T 0 (c_X11_needBetween C.2.2.2.2.2.2.1 T.1 hq) lc0 EC_0 rfl wml_X11_125 wq_X11_needBetween rfl ⟨by decide, by decide⟩ ⟨by decide, by decide⟩ rfl rfl ⟨by decide, by decide⟩ dX11_sentence_4 7 rfl rfl (Nat.le_of_ble_eq_true rfl) h (fun h => ?_)
  refine x_aload_n C dX11_sentence_7 8 rfl 0 rfl ?_
  refine x_get C inX11 0 lc0 EC_0 rfl 12 (by decide) dX11_sentence_8 11 rfl wmf_X11_104 rfl ?_
  obtain ⟨a11, hq, h⟩ := xbv_some h
  refine x_callVv C 84 (c_X7_make C.2.2.2.2.2.2.1 hq) lc84 EC_84 rfl wml_X11_365 wq_X7_make rfl ⟨by decide, by decide⟩ rfl rfl ⟨by decide, by decide⟩ dX11_sentence_11 14 rfl rfl (Nat.le_of_ble_eq_true rfl) ?_
  refine x_iload_n C dX11_sentence_14 15 rfl 1 rfl ?_
  refine x_swM 0 0 (by decide) h (fun q h => ?_) (fun q0 h => ?_)
  · refine x_lookIn C 40 0 dX11_sentence_15 q rfl rfl rfl ?_
    refine x_aload_n C dX11_sentence_40 41 rfl 0 rfl ?_
    refine x_get C inX11 0 lc0 EC_0 rfl 12 (by decide) dX11_sentence_41 44 rfl wmf_X11_104 rfl ?_
    refine x_get C inX7 84 lc84 EC_84 rfl 5 (by decide) dX11_sentence_44 47 rfl wmf_X11_366 rfl ?_
    exact x_iretX C rfl (by decide) dX11_sentence_47 h
  · skip
    refine x_swM 1 1 (by decide) h (fun q h => ?_) (fun q1 h => ?_)
    · refine x_lookIn C 48 1 dX11_sentence_15 q rfl rfl rfl ?_
      refine x_aload_n C dX11_sentence_48 49 rfl 0 rfl ?_
      refine x_get C inX11 0 lc0 EC_0 rfl 12 (by decide) dX11_sentence_49 52 rfl wmf_X11_104 rfl ?_
      refine x_get C inX7 84 lc84 EC_84 rfl 6 (by decide) dX11_sentence_52 55 rfl wmf_X11_367 rfl ?_
      exact x_iretX C rfl (by decide) dX11_sentence_55 h
    · skip
      refine x_look (off := 41) C 56 dX11_sentence_15 rfl (by simp [Op.lookupswitch.offset, q0, q1]) rfl ?_
      refine x_aload_n C dX11_sentence_56 57 rfl 0 rfl ?_
      refine x_get C inX11 0 lc0 EC_0 rfl 12 (by decide) dX11_sentence_57 60 rfl wmf_X11_104 rfl ?_
      refine x_get C inX7 84 lc84 EC_84 rfl 7 (by decide) dX11_sentence_60 63 rfl wmf_X11_370 rfl ?_
      exact x_iretX C rfl (by decide) dX11_sentence_63 h
abbrev rm_X11_said : Room := { frames := 8, cells := 3, slots := 18, locals := 146 }
theorem wq_X11_said : xcV RX11 yX11_said cX11_said 2 (some .int) 1 := ⟨wmi_X11_said, wms_X11_said, wmn_X11, wmc_X11_said, by decide, by decide, by decide +kernel⟩
def F_X11_said (N : Nat) (ah : AH) (p1 : Int32) : Option XR := xbx (F_X11_needToken N ah p1) (fun a2 => xbv (F_X7_make N a2) (fun a9 => xg p1 40 (some (0, a9 85 (Int32.toNatClampNeg p1), a9))))
theorem c_X11_said {l : Launch} {D : va_G} {ca : Nat → ClassId} {ad : Nat → Nat} (hI : xInj ad NCC) (hst : l.stackTraces = false) {N : Nat} {ah : AH} {p1 : Int32} {o : XR} (h : F_X11_said N ah p1 = some o) : xMx l yX11_said cX11_said 2 (some .int) rm_X11_said D vwCl (tysC ca) (EC ad ca) NCC ad [.ref (ad 0), .int p1] ah o := by
  refine x_metx (by decide) (Nat.le_of_ble_eq_true rfl) hI EC_loc hst ?_
  intro p e s m args below meth c C T
  unfold F_X11_said at h
  refine x_aload_n C dX11_said_0 1 rfl 0 rfl ?_
  refine x_iload_n C dX11_said_1 2 rfl 1 rfl ?_
  obtain ⟨k2, r2, a2, hq, h⟩ := xbx_some h
  refine x_callX C T 0 (c_X11_needToken C.2.2.2.2.2.2.1 T.1 hq) lc0 EC_0 rfl wml_X11_172 wq_X11_needToken rfl ⟨by decide, by decide⟩ ⟨by decide, by decide⟩ rfl rfl ⟨by decide, by decide⟩ dX11_said_2 5 rfl rfl (Nat.le_of_ble_eq_true rfl) h (fun h => ?_)
  refine x_aload_n C dX11_said_5 6 rfl 0 rfl ?_
  refine x_get C inX11 0 lc0 EC_0 rfl 12 (by decide) dX11_said_6 9 rfl wmf_X11_104 rfl ?_
  obtain ⟨a9, hq, h⟩ := xbv_some h
  refine x_callVv C 84 (c_X7_make C.2.2.2.2.2.2.1 hq) lc84 EC_84 rfl wml_X11_365 wq_X7_make rfl ⟨by decide, by decide⟩ rfl rfl ⟨by decide, by decide⟩ dX11_said_9 12 rfl rfl (Nat.le_of_ble_eq_true rfl) ?_
  refine x_aload_n C dX11_said_12 13 rfl 0 rfl ?_
  refine x_get C inX11 0 lc0 EC_0 rfl 12 (by decide) dX11_said_13 16 rfl wmf_X11_104 rfl ?_
  refine x_get C inX7 84 lc84 EC_84 rfl 8 (by decide) dX11_said_16 19 rfl wmf_X11_371 rfl ?_
  refine x_iload_n C dX11_said_19 20 rfl 1 rfl ?_
  refine x_iald C 85 lc85 EC_85 0 rfl dX11_said_20 21 rfl h (fun h => ?_)
  exact x_iretX C rfl (by decide) dX11_said_21 h
abbrev rm_X11_apart : Room := { frames := 8, cells := 3, slots := 18, locals := 147 }
theorem wq_X11_apart : xcV RX11 yX11_apart cX11_apart 3 (some .int) 2 := ⟨wmi_X11_apart, wms_X11_apart, wmn_X11, wmc_X11_apart, by decide, by decide, by decide +kernel⟩
def F_X11_apart (N : Nat) (ah : AH) (p1 : Int32) (p2 : Int32) : Option XR := xbx (F_X11_needWord N ah p1) (fun a2 => xbx (F_X11_needWord N a2 p2) (fun a7 => xb (F_X11_costBetween N a7 p1 p2) (fun r13 a13 => some (0, r13, a13))))
theorem c_X11_apart {l : Launch} {D : va_G} {ca : Nat → ClassId} {ad : Nat → Nat} (hI : xInj ad NCC) (hst : l.stackTraces = false) {N : Nat} {ah : AH} {p1 : Int32} {p2 : Int32} {o : XR} (h : F_X11_apart N ah p1 p2 = some o) : xMx l yX11_apart cX11_apart 3 (some .int) rm_X11_apart D vwCl (tysC ca) (EC ad ca) NCC ad [.ref (ad 0), .int p1, .int p2] ah o := by
  refine x_metx (by decide) (Nat.le_of_ble_eq_true rfl) hI EC_loc hst ?_
  intro p e s m args below meth c C T
  unfold F_X11_apart at h
  refine x_aload_n C dX11_apart_0 1 rfl 0 rfl ?_
  refine x_iload_n C dX11_apart_1 2 rfl 1 rfl ?_
  obtain ⟨k2, r2, a2, hq, h⟩ := xbx_some h
  refine x_callX C T 0 (c_X11_needWord C.2.2.2.2.2.2.1 T.1 hq) lc0 EC_0 rfl wml_X11_162 wq_X11_needWord rfl ⟨by decide, by decide⟩ ⟨by decide, by decide⟩ rfl rfl ⟨by decide, by decide⟩ dX11_apart_2 5 rfl rfl (Nat.le_of_ble_eq_true rfl) h (fun h => ?_)
  refine x_aload_n C dX11_apart_5 6 rfl 0 rfl ?_
  refine x_iload_n C dX11_apart_6 7 rfl 2 rfl ?_
  obtain ⟨k7, r7, a7, hq, h⟩ := xbx_some h
  refine x_callX C T 0 (c_X11_needWord C.2.2.2.2.2.2.1 T.1 hq) lc0 EC_0 rfl wml_X11_162 wq_X11_needWord rfl ⟨by decide, by decide⟩ ⟨by decide, by decide⟩ rfl rfl ⟨by decide, by decide⟩ dX11_apart_7 10 rfl rfl (Nat.le_of_ble_eq_true rfl) h (fun h => ?_)
  refine x_aload_n C dX11_apart_10 11 rfl 0 rfl ?_
  refine x_iload_n C dX11_apart_11 12 rfl 1 rfl ?_
  refine x_iload_n C dX11_apart_12 13 rfl 2 rfl ?_
  obtain ⟨r13, a13, hq, h⟩ := xb_some h
  refine x_callVi C 0 (c_X11_costBetween C.2.2.2.2.2.2.1 hq) lc0 EC_0 rfl wml_X11_374 wq_X11_costBetween rfl ⟨by decide, by decide⟩ rfl rfl ⟨by decide, by decide⟩ dX11_apart_13 16 rfl rfl (Nat.le_of_ble_eq_true rfl) ?_
  exact x_iretX C rfl (by decide) dX11_apart_16 h
abbrev rm_X11_twin : Room := { frames := 8, cells := 3, slots := 18, locals := 147 }
theorem wq_X11_twin : xcV RX11 yX11_twin cX11_twin 7 (some .int) 2 := ⟨wmi_X11_twin, wms_X11_twin, wmn_X11, wmc_X11_twin, by decide, by decide, by decide +kernel⟩
def F_X11_twin_77 (N : Nat) (k20 : AH → Int32 → Int32 → Int32 → Int32 → Int32 → Option XR) (ah : AH) (v1 : Int32) (v2 : Int32) (v3 : Int32) (v4 : Int32) (v5 : Int32) : Option XR := xlet (v5 + 1) (fun v5_77 => k20 ah v1 v2 v3 v4 v5_77)
def F_X11_twin_70 (N : Nat) (k20 : AH → Int32 → Int32 → Int32 → Int32 → Int32 → Option XR) (ah : AH) (v1 : Int32) (v2 : Int32) (v5 : Int32) (v6 : Int32) : Option XR := xlet v5 (fun v3_72 => xlet v6 (fun v4_75 => F_X11_twin_77 N k20 ah v1 v2 v3_72 v4_75 v5))
def F_X11_twin_49 (N : Nat) (k20 : AH → Int32 → Int32 → Int32 → Int32 → Int32 → Option XR) (ah : AH) (v1 : Int32) (v2 : Int32) (v3 : Int32) (v4 : Int32) (v5 : Int32) (s0 : Int32) : Option XR := xlet s0 (fun v6_49 => if v6_49 = ((-1)) then F_X11_twin_77 N k20 ah v1 v2 v3 v4 v5 else if v4 = ((-1)) then F_X11_twin_70 N k20 ah v1 v2 v5 v6_49 else if v4 ≤ v6_49 then F_X11_twin_77 N k20 ah v1 v2 v3 v4 v5 else F_X11_twin_70 N k20 ah v1 v2 v5 v6_49)
def F_X11_twin_20 (N : Nat) : Nat → AH → Int32 → Int32 → Int32 → Int32 → Int32 → Option XR
  | 0, _, _, _, _, _, _ => none
  | n + 1, ah, v1, v2, v3, v4, v5 => if (ah 4 0) ≤ v5 then if v2 = 0 then some (0, v3, ah) else some (0, v4, ah) else if v5 = v1 then F_X11_twin_49 N (F_X11_twin_20 N n) ah v1 v2 v3 v4 v5 ((-1)) else xb (F_X11_costBetween N ah v1 v5) (fun r46 a46 => F_X11_twin_49 N (F_X11_twin_20 N n) a46 v1 v2 v3 v4 v5 r46)
def F_X11_twin (N : Nat) (ah : AH) (p1 : Int32) (p2 : Int32) : Option XR := xbx (F_X11_needWord N ah p1) (fun a2 => xbx (F_X11_needBetween N a2 p2 0 1) (fun a9 => xlet ((-1)) (fun v3_13 => xlet ((-1)) (fun v4_15 => xlet 0 (fun v5_18 => F_X11_twin_20 N N a9 p1 p2 v3_13 v4_15 v5_18)))))
theorem b_X11_twin_77 (C : XC p l s m args meth c cX11_twin 7 (some .int) RX11 D vwCl (tysC ca) (EC ad ca) NCC ad) (T : XT l s c ad NCC) {N : Nat} {o : XR} {k20 : AH → Int32 → Int32 → Int32 → Int32 → Int32 → Option XR} (hk20 : ∀ (ah : AH) (v1 : Int32) (v2 : Int32) (v3 : Int32) (v4 : Int32) (v5 : Int32), k20 ah v1 v2 v3 v4 v5 = some o → XW p l e rm_X11_twin s m args below meth c 7 2 (xQx below args s D vwCl (tysC ca) (EC ad ca) NCC ad o) D vwCl (EC ad ca) NCC ad ah 20 [(0, .ref (ad 0)), (1, .int v1), (2, .int v2), (3, .int v3), (4, .int v4), (5, .int v5)] []) {ah : AH} {v1 : Int32} {v2 : Int32} {v3 : Int32} {v4 : Int32} {v5 : Int32} (h : F_X11_twin_77 N k20 ah v1 v2 v3 v4 v5 = some o) : XW p l e rm_X11_twin s m args below meth c 7 2 (xQx below args s D vwCl (tysC ca) (EC ad ca) NCC ad o) D vwCl (EC ad ca) NCC ad ah 77 [(0, .ref (ad 0)), (1, .int v1), (2, .int v2), (3, .int v3), (4, .int v4), (5, .int v5)] [] := by
  unfold F_X11_twin_77 at h
  refine x_iinc C dX11_twin_77 80 rfl 5 rfl (d := 1) rfl (by decide) (fun v5_77 => [(5, .int v5_77), (0, .ref (ad 0)), (1, .int v1), (2, .int v2), (3, .int v3), (4, .int v4)]) (fun _ => rfl) h (fun v5_77 h => ?_)
  refine x_goto C dX11_twin_80 20 rfl ?_
  exact x_sub [1, 2, 3, 4, 5, 0] rfl (hk20 _ _ _ _ _ _ h)
theorem b_X11_twin_70 (C : XC p l s m args meth c cX11_twin 7 (some .int) RX11 D vwCl (tysC ca) (EC ad ca) NCC ad) (T : XT l s c ad NCC) {N : Nat} {o : XR} {k20 : AH → Int32 → Int32 → Int32 → Int32 → Int32 → Option XR} (hk20 : ∀ (ah : AH) (v1 : Int32) (v2 : Int32) (v3 : Int32) (v4 : Int32) (v5 : Int32), k20 ah v1 v2 v3 v4 v5 = some o → XW p l e rm_X11_twin s m args below meth c 7 2 (xQx below args s D vwCl (tysC ca) (EC ad ca) NCC ad o) D vwCl (EC ad ca) NCC ad ah 20 [(0, .ref (ad 0)), (1, .int v1), (2, .int v2), (3, .int v3), (4, .int v4), (5, .int v5)] []) {ah : AH} {v1 : Int32} {v2 : Int32} {v5 : Int32} {v6 : Int32} (h : F_X11_twin_70 N k20 ah v1 v2 v5 v6 = some o) : XW p l e rm_X11_twin s m args below meth c 7 2 (xQx below args s D vwCl (tysC ca) (EC ad ca) NCC ad o) D vwCl (EC ad ca) NCC ad ah 70 [(0, .ref (ad 0)), (1, .int v1), (2, .int v2), (5, .int v5), (6, .int v6)] [] := by
  unfold F_X11_twin_70 at h
  refine x_iload C dX11_twin_70 72 rfl 3 rfl ?_
  refine x_istore_n C dX11_twin_72 73 rfl (by decide) (fun v3_72 => [(3, .int v3_72), (0, .ref (ad 0)), (1, .int v1), (2, .int v2), (5, .int v5), (6, .int v6)]) (fun _ => rfl) h (fun v3_72 h => ?_)
  refine x_iload C dX11_twin_73 75 rfl 5 rfl ?_
  refine x_istore C dX11_twin_75 77 rfl (by decide) (fun v4_75 => [(4, .int v4_75), (3, .int v3_72), (0, .ref (ad 0)), (1, .int v1), (2, .int v2), (5, .int v5), (6, .int v6)]) (fun _ => rfl) h (fun v4_75 h => ?_)
  exact x_sub [2, 3, 4, 1, 0, 5] rfl (b_X11_twin_77 C T hk20 h)
theorem b_X11_twin_49 (C : XC p l s m args meth c cX11_twin 7 (some .int) RX11 D vwCl (tysC ca) (EC ad ca) NCC ad) (T : XT l s c ad NCC) {N : Nat} {o : XR} {k20 : AH → Int32 → Int32 → Int32 → Int32 → Int32 → Option XR} (hk20 : ∀ (ah : AH) (v1 : Int32) (v2 : Int32) (v3 : Int32) (v4 : Int32) (v5 : Int32), k20 ah v1 v2 v3 v4 v5 = some o → XW p l e rm_X11_twin s m args below meth c 7 2 (xQx below args s D vwCl (tysC ca) (EC ad ca) NCC ad o) D vwCl (EC ad ca) NCC ad ah 20 [(0, .ref (ad 0)), (1, .int v1), (2, .int v2), (3, .int v3), (4, .int v4), (5, .int v5)] []) {ah : AH} {v1 : Int32} {v2 : Int32} {v3 : Int32} {v4 : Int32} {v5 : Int32} {s0 : Int32} (h : F_X11_twin_49 N k20 ah v1 v2 v3 v4 v5 s0 = some o) : XW p l e rm_X11_twin s m args below meth c 7 2 (xQx below args s D vwCl (tysC ca) (EC ad ca) NCC ad o) D vwCl (EC ad ca) NCC ad ah 49 [(0, .ref (ad 0)), (1, .int v1), (2, .int v2), (3, .int v3), (4, .int v4), (5, .int v5)] [.int s0] := by
  unfold F_X11_twin_49 at h
  refine x_istore C dX11_twin_49 51 rfl (by decide) (fun v6_49 => [(6, .int v6_49), (0, .ref (ad 0)), (1, .int v1), (2, .int v2), (3, .int v3), (4, .int v4), (5, .int v5)]) (fun _ => rfl) h (fun v6_49 h => ?_)
  refine x_iload C dX11_twin_51 53 rfl 0 rfl ?_
  refine x_iconst C dX11_twin_53 54 rfl (-1) rfl ?_
  refine x_icmp_eq C dX11_twin_54 57 rfl 77 rfl h (fun h => ?_) (fun h => ?_)
  · exact x_sub [1, 2, 3, 4, 5, 6] rfl (b_X11_twin_77 C T hk20 h)
  · refine x_iload C dX11_twin_57 59 rfl 5 rfl ?_
    refine x_iconst C dX11_twin_59 60 rfl (-1) rfl ?_
    refine x_icmp_eq C dX11_twin_60 63 rfl 70 rfl h (fun h => ?_) (fun h => ?_)
    · exact x_sub [1, 2, 3, 6, 0] rfl (b_X11_twin_70 C T hk20 h)
    · refine x_iload C dX11_twin_63 65 rfl 0 rfl ?_
      refine x_iload C dX11_twin_65 67 rfl 5 rfl ?_
      refine x_icmp_ge C dX11_twin_67 70 rfl 77 rfl h (fun h => ?_) (fun h => ?_)
      · exact x_sub [1, 2, 3, 4, 5, 6] rfl (b_X11_twin_77 C T hk20 h)
      · exact x_sub [1, 2, 3, 6, 0] rfl (b_X11_twin_70 C T hk20 h)
theorem b_X11_twin_20 (C : XC p l s m args meth c cX11_twin 7 (some .int) RX11 D vwCl (tysC ca) (EC ad ca) NCC ad) (T : XT l s c ad NCC) {N : Nat} {o : XR} : ∀ (n : Nat) {ah : AH} {v1 : Int32} {v2 : Int32} {v3 : Int32} {v4 : Int32} {v5 : Int32}, F_X11_twin_20 N n ah v1 v2 v3 v4 v5 = some o → XW p l e rm_X11_twin s m args below meth c 7 2 (xQx below args s D vwCl (tysC ca) (EC ad ca) NCC ad o) D vwCl (EC ad ca) NCC ad ah 20 [(0, .ref (ad 0)), (1, .int v1), (2, .int v2), (3, .int v3), (4, .int v4), (5, .int v5)] [] := by
  intro n
  induction n with
  | zero => intro ah v1 v2 v3 v4 v5 h; unfold F_X11_twin_20 at h; cases h
  | succ n ih =>
    intro ah v1 v2 v3 v4 v5 h
    unfold F_X11_twin_20 at h
    refine x_iload C dX11_twin_20 22 rfl 5 rfl ?_
    refine x_aload_n C dX11_twin_22 23 rfl 0 rfl ?_
    refine x_get C inX11 0 lc0 EC_0 rfl 1 (by decide) dX11_twin_23 26 rfl wmf_X11_19 rfl ?_
    refine x_get C inX2 4 lc4 EC_4 rfl 0 (by decide) dX11_twin_26 29 rfl wmf_X11_139 rfl ?_
    refine x_icmp_ge C dX11_twin_29 32 rfl 83 rfl h (fun h => ?_) (fun h => ?_)
    · refine x_iload_n C dX11_twin_83 84 rfl 2 rfl ?_
      refine x_if_ne C dX11_twin_84 87 rfl 91 rfl h (fun h => ?_) (fun h => ?_)
      · refine x_iload C dX11_twin_91 93 rfl 4 rfl ?_
        exact x_iretX C rfl (by decide) dX11_twin_93 h
      · refine x_iload_n C dX11_twin_87 88 rfl 3 rfl ?_
        refine x_goto C dX11_twin_88 93 rfl ?_
        exact x_iretX C rfl (by decide) dX11_twin_93 h
    · refine x_iload C dX11_twin_32 34 rfl 5 rfl ?_
      refine x_iload_n C dX11_twin_34 35 rfl 1 rfl ?_
      refine x_icmp_ne C dX11_twin_35 38 rfl 42 rfl h (fun h => ?_) (fun h => ?_)
      · refine x_aload_n C dX11_twin_42 43 rfl 0 rfl ?_
        refine x_iload_n C dX11_twin_43 44 rfl 1 rfl ?_
        refine x_iload C dX11_twin_44 46 rfl 5 rfl ?_
        obtain ⟨r46, a46, hq, h⟩ := xb_some h
        refine x_callVi C 0 (c_X11_costBetween C.2.2.2.2.2.2.1 hq) lc0 EC_0 rfl wml_X11_374 wq_X11_costBetween rfl ⟨by decide, by decide⟩ rfl rfl ⟨by decide, by decide⟩ dX11_twin_46 49 rfl rfl (Nat.le_of_ble_eq_true rfl) ?_
        exact b_X11_twin_49 C T (fun _ _ _ _ _ _ h => ih h) h
      · refine x_iconst C dX11_twin_38 39 rfl (-1) rfl ?_
        refine x_goto C dX11_twin_39 49 rfl ?_
        exact b_X11_twin_49 C T (fun _ _ _ _ _ _ h => ih h) h
theorem c_X11_twin {l : Launch} {D : va_G} {ca : Nat → ClassId} {ad : Nat → Nat} (hI : xInj ad NCC) (hst : l.stackTraces = false) {N : Nat} {ah : AH} {p1 : Int32} {p2 : Int32} {o : XR} (h : F_X11_twin N ah p1 p2 = some o) : xMx l yX11_twin cX11_twin 7 (some .int) rm_X11_twin D vwCl (tysC ca) (EC ad ca) NCC ad [.ref (ad 0), .int p1, .int p2] ah o := by
  refine x_metx (by decide) (Nat.le_of_ble_eq_true rfl) hI EC_loc hst ?_
  intro p e s m args below meth c C T
  unfold F_X11_twin at h
  refine x_aload_n C dX11_twin_0 1 rfl 0 rfl ?_
  refine x_iload_n C dX11_twin_1 2 rfl 1 rfl ?_
  obtain ⟨k2, r2, a2, hq, h⟩ := xbx_some h
  refine x_callX C T 0 (c_X11_needWord C.2.2.2.2.2.2.1 T.1 hq) lc0 EC_0 rfl wml_X11_162 wq_X11_needWord rfl ⟨by decide, by decide⟩ ⟨by decide, by decide⟩ rfl rfl ⟨by decide, by decide⟩ dX11_twin_2 5 rfl rfl (Nat.le_of_ble_eq_true rfl) h (fun h => ?_)
  refine x_aload_n C dX11_twin_5 6 rfl 0 rfl ?_
  refine x_iload_n C dX11_twin_6 7 rfl 2 rfl ?_
  refine x_iconst C dX11_twin_7 8 rfl 0 rfl ?_
  refine x_iconst C dX11_twin_8 9 rfl 1 rfl ?_
  obtain ⟨k9, r9, a9, hq, h⟩ := xbx_some h
  refine x_callX C T 0 (c_X11_needBetween C.2.2.2.2.2.2.1 T.1 hq) lc0 EC_0 rfl wml_X11_125 wq_X11_needBetween rfl ⟨by decide, by decide⟩ ⟨by decide, by decide⟩ rfl rfl ⟨by decide, by decide⟩ dX11_twin_9 12 rfl rfl (Nat.le_of_ble_eq_true rfl) h (fun h => ?_)
  refine x_iconst C dX11_twin_12 13 rfl (-1) rfl ?_
  refine x_istore_n C dX11_twin_13 14 rfl (by decide) (fun v3_13 => [(3, .int v3_13), (0, .ref (ad 0)), (1, .int p1), (2, .int p2)]) (fun _ => rfl) h (fun v3_13 h => ?_)
  refine x_iconst C dX11_twin_14 15 rfl (-1) rfl ?_
  refine x_istore C dX11_twin_15 17 rfl (by decide) (fun v4_15 => [(4, .int v4_15), (3, .int v3_13), (0, .ref (ad 0)), (1, .int p1), (2, .int p2)]) (fun _ => rfl) h (fun v4_15 h => ?_)
  refine x_iconst C dX11_twin_17 18 rfl 0 rfl ?_
  refine x_istore C dX11_twin_18 20 rfl (by decide) (fun v5_18 => [(5, .int v5_18), (4, .int v4_15), (3, .int v3_13), (0, .ref (ad 0)), (1, .int p1), (2, .int p2)]) (fun _ => rfl) h (fun v5_18 h => ?_)
  exact x_sub [3, 4, 5, 2, 1, 0] rfl (b_X11_twin_20 C T  N h)
abbrev rm_X11_twins : Room := { frames := 7, cells := 3, slots := 18, locals := 147 }
theorem wq_X11_twins : xcV RX11 yX11_twins cX11_twins 6 (some .int) 1 := ⟨wmi_X11_twins, wms_X11_twins, wmn_X11, wmc_X11_twins, by decide, by decide, by decide +kernel⟩
def F_X11_twins_73 (N : Nat) (k13 : AH → Int32 → Int32 → Int32 → Option XR) (k27 : AH → Int32 → Int32 → Int32 → Int32 → Option XR) (ah : AH) (v1 : Int32) (v2 : Int32) (v3 : Int32) (v4 : Int32) : Option XR := xlet (v4 + 1) (fun v4_73 => k27 ah v1 v2 v3 v4_73)
def F_X11_twins_56 (N : Nat) (k13 : AH → Int32 → Int32 → Int32 → Option XR) (k27 : AH → Int32 → Int32 → Int32 → Int32 → Option XR) (ah : AH) (v1 : Int32) (v2 : Int32) (v3 : Int32) (v4 : Int32) (s0 : Int32) : Option XR := xlet s0 (fun v5_56 => if v5_56 = ((-1)) then F_X11_twins_73 N k13 k27 ah v1 v2 v3 v4 else if v1 < v5_56 then F_X11_twins_73 N k13 k27 ah v1 v2 v3 v4 else xlet (v2 + 1) (fun v2_70 => F_X11_twins_73 N k13 k27 ah v1 v2_70 v3 v4))
def F_X11_twins_27 (N : Nat) (k13 : AH → Int32 → Int32 → Int32 → Option XR) : Nat → AH → Int32 → Int32 → Int32 → Int32 → Option XR
  | 0, _, _, _, _, _ => none
  | n + 1, ah, v1, v2, v3, v4 => if (ah 4 0) ≤ v4 then xlet (v3 + 1) (fun v3_79 => k13 ah v1 v2 v3_79) else if v4 = v3 then F_X11_twins_56 N k13 (F_X11_twins_27 N k13 n) ah v1 v2 v3 v4 ((-1)) else xb (F_X11_costBetween N ah v3 v4) (fun r53 a53 => F_X11_twins_56 N k13 (F_X11_twins_27 N k13 n) a53 v1 v2 v3 v4 r53)
def F_X11_twins_13 (N : Nat) : Nat → AH → Int32 → Int32 → Int32 → Option XR
  | 0, _, _, _, _ => none
  | n + 1, ah, v1, v2, v3 => if (ah 4 0) ≤ v3 then some (0, v2, ah) else xlet 0 (fun v4_25 => F_X11_twins_27 N (F_X11_twins_13 N n) N ah v1 v2 v3 v4_25)
def F_X11_twins (N : Nat) (ah : AH) (p1 : Int32) : Option XR := xbx (F_X11_needBetween N ah p1 0 999) (fun a6 => xlet 0 (fun v2_10 => xlet 0 (fun v3_12 => F_X11_twins_13 N N a6 p1 v2_10 v3_12)))
theorem b_X11_twins_73 (C : XC p l s m args meth c cX11_twins 6 (some .int) RX11 D vwCl (tysC ca) (EC ad ca) NCC ad) (T : XT l s c ad NCC) {N : Nat} {o : XR} {k13 : AH → Int32 → Int32 → Int32 → Option XR} (hk13 : ∀ (ah : AH) (v1 : Int32) (v2 : Int32) (v3 : Int32), k13 ah v1 v2 v3 = some o → XW p l e rm_X11_twins s m args below meth c 6 1 (xQx below args s D vwCl (tysC ca) (EC ad ca) NCC ad o) D vwCl (EC ad ca) NCC ad ah 13 [(0, .ref (ad 0)), (1, .int v1), (2, .int v2), (3, .int v3)] []) {k27 : AH → Int32 → Int32 → Int32 → Int32 → Option XR} (hk27 : ∀ (ah : AH) (v1 : Int32) (v2 : Int32) (v3 : Int32) (v4 : Int32), k27 ah v1 v2 v3 v4 = some o → XW p l e rm_X11_twins s m args below meth c 6 1 (xQx below args s D vwCl (tysC ca) (EC ad ca) NCC ad o) D vwCl (EC ad ca) NCC ad ah 27 [(0, .ref (ad 0)), (1, .int v1), (2, .int v2), (3, .int v3), (4, .int v4)] []) {ah : AH} {v1 : Int32} {v2 : Int32} {v3 : Int32} {v4 : Int32} (h : F_X11_twins_73 N k13 k27 ah v1 v2 v3 v4 = some o) : XW p l e rm_X11_twins s m args below meth c 6 1 (xQx below args s D vwCl (tysC ca) (EC ad ca) NCC ad o) D vwCl (EC ad ca) NCC ad ah 73 [(0, .ref (ad 0)), (1, .int v1), (2, .int v2), (3, .int v3), (4, .int v4)] [] := by
  unfold F_X11_twins_73 at h
  refine x_iinc C dX11_twins_73 76 rfl 4 rfl (d := 1) rfl (by decide) (fun v4_73 => [(4, .int v4_73), (0, .ref (ad 0)), (1, .int v1), (2, .int v2), (3, .int v3)]) (fun _ => rfl) h (fun v4_73 h => ?_)
  refine x_goto C dX11_twins_76 27 rfl ?_
  exact x_sub [1, 2, 3, 4, 0] rfl (hk27 _ _ _ _ _ h)
theorem b_X11_twins_56 (C : XC p l s m args meth c cX11_twins 6 (some .int) RX11 D vwCl (tysC ca) (EC ad ca) NCC ad) (T : XT l s c ad NCC) {N : Nat} {o : XR} {k13 : AH → Int32 → Int32 → Int32 → Option XR} (hk13 : ∀ (ah : AH) (v1 : Int32) (v2 : Int32) (v3 : Int32), k13 ah v1 v2 v3 = some o → XW p l e rm_X11_twins s m args below meth c 6 1 (xQx below args s D vwCl (tysC ca) (EC ad ca) NCC ad o) D vwCl (EC ad ca) NCC ad ah 13 [(0, .ref (ad 0)), (1, .int v1), (2, .int v2), (3, .int v3)] []) {k27 : AH → Int32 → Int32 → Int32 → Int32 → Option XR} (hk27 : ∀ (ah : AH) (v1 : Int32) (v2 : Int32) (v3 : Int32) (v4 : Int32), k27 ah v1 v2 v3 v4 = some o → XW p l e rm_X11_twins s m args below meth c 6 1 (xQx below args s D vwCl (tysC ca) (EC ad ca) NCC ad o) D vwCl (EC ad ca) NCC ad ah 27 [(0, .ref (ad 0)), (1, .int v1), (2, .int v2), (3, .int v3), (4, .int v4)] []) {ah : AH} {v1 : Int32} {v2 : Int32} {v3 : Int32} {v4 : Int32} {s0 : Int32} (h : F_X11_twins_56 N k13 k27 ah v1 v2 v3 v4 s0 = some o) : XW p l e rm_X11_twins s m args below meth c 6 1 (xQx below args s D vwCl (tysC ca) (EC ad ca) NCC ad o) D vwCl (EC ad ca) NCC ad ah 56 [(0, .ref (ad 0)), (1, .int v1), (2, .int v2), (3, .int v3), (4, .int v4)] [.int s0] := by
  unfold F_X11_twins_56 at h
  refine x_istore C dX11_twins_56 58 rfl (by decide) (fun v5_56 => [(5, .int v5_56), (0, .ref (ad 0)), (1, .int v1), (2, .int v2), (3, .int v3), (4, .int v4)]) (fun _ => rfl) h (fun v5_56 h => ?_)
  refine x_iload C dX11_twins_58 60 rfl 0 rfl ?_
  refine x_iconst C dX11_twins_60 61 rfl (-1) rfl ?_
  refine x_icmp_eq C dX11_twins_61 64 rfl 73 rfl h (fun h => ?_) (fun h => ?_)
  · exact x_sub [1, 2, 3, 4, 5] rfl (b_X11_twins_73 C T hk13 hk27 h)
  · refine x_iload C dX11_twins_64 66 rfl 0 rfl ?_
    refine x_iload_n C dX11_twins_66 67 rfl 2 rfl ?_
    refine x_icmp_gt C dX11_twins_67 70 rfl 73 rfl h (fun h => ?_) (fun h => ?_)
    · exact x_sub [1, 2, 3, 4, 5] rfl (b_X11_twins_73 C T hk13 hk27 h)
    · refine x_iinc C dX11_twins_70 73 rfl 3 rfl (d := 1) rfl (by decide) (fun v2_70 => [(2, .int v2_70), (5, .int v5_56), (0, .ref (ad 0)), (1, .int v1), (3, .int v3), (4, .int v4)]) (fun _ => rfl) h (fun v2_70 h => ?_)
      exact x_sub [2, 3, 0, 4, 5] rfl (b_X11_twins_73 C T hk13 hk27 h)
theorem b_X11_twins_27 (C : XC p l s m args meth c cX11_twins 6 (some .int) RX11 D vwCl (tysC ca) (EC ad ca) NCC ad) (T : XT l s c ad NCC) {N : Nat} {o : XR} {k13 : AH → Int32 → Int32 → Int32 → Option XR} (hk13 : ∀ (ah : AH) (v1 : Int32) (v2 : Int32) (v3 : Int32), k13 ah v1 v2 v3 = some o → XW p l e rm_X11_twins s m args below meth c 6 1 (xQx below args s D vwCl (tysC ca) (EC ad ca) NCC ad o) D vwCl (EC ad ca) NCC ad ah 13 [(0, .ref (ad 0)), (1, .int v1), (2, .int v2), (3, .int v3)] []) : ∀ (n : Nat) {ah : AH} {v1 : Int32} {v2 : Int32} {v3 : Int32} {v4 : Int32}, F_X11_twins_27 N k13 n ah v1 v2 v3 v4 = some o → XW p l e rm_X11_twins s m args below meth c 6 1 (xQx below args s D vwCl (tysC ca) (EC ad ca) NCC ad o) D vwCl (EC ad ca) NCC ad ah 27 [(0, .ref (ad 0)), (1, .int v1), (2, .int v2), (3, .int v3), (4, .int v4)] [] := by
  intro n
  induction n with
  | zero => intro ah v1 v2 v3 v4 h; unfold F_X11_twins_27 at h; cases h
  | succ n ih =>
    intro ah v1 v2 v3 v4 h
    unfold F_X11_twins_27 at h
    refine x_iload C dX11_twins_27 29 rfl 4 rfl ?_
    refine x_aload_n C dX11_twins_29 30 rfl 0 rfl ?_
    refine x_get C inX11 0 lc0 EC_0 rfl 1 (by decide) dX11_twins_30 33 rfl wmf_X11_19 rfl ?_
    refine x_get C inX2 4 lc4 EC_4 rfl 0 (by decide) dX11_twins_33 36 rfl wmf_X11_139 rfl ?_
    refine x_icmp_ge C dX11_twins_36 39 rfl 79 rfl h (fun h => ?_) (fun h => ?_)
    · refine x_iinc C dX11_twins_79 82 rfl 3 rfl (d := 1) rfl (by decide) (fun v3_79 => [(3, .int v3_79), (0, .ref (ad 0)), (1, .int v1), (2, .int v2), (4, .int v4)]) (fun _ => rfl) h (fun v3_79 h => ?_)
      refine x_goto C dX11_twins_82 13 rfl ?_
      exact x_sub [1, 2, 3, 0] rfl (hk13 _ _ _ _ h)
    · refine x_iload C dX11_twins_39 41 rfl 4 rfl ?_
      refine x_iload_n C dX11_twins_41 42 rfl 3 rfl ?_
      refine x_icmp_ne C dX11_twins_42 45 rfl 49 rfl h (fun h => ?_) (fun h => ?_)
      · refine x_aload_n C dX11_twins_49 50 rfl 0 rfl ?_
        refine x_iload_n C dX11_twins_50 51 rfl 3 rfl ?_
        refine x_iload C dX11_twins_51 53 rfl 4 rfl ?_
        obtain ⟨r53, a53, hq, h⟩ := xb_some h
        refine x_callVi C 0 (c_X11_costBetween C.2.2.2.2.2.2.1 hq) lc0 EC_0 rfl wml_X11_374 wq_X11_costBetween rfl ⟨by decide, by decide⟩ rfl rfl ⟨by decide, by decide⟩ dX11_twins_53 56 rfl rfl (Nat.le_of_ble_eq_true rfl) ?_
        exact b_X11_twins_56 C T hk13 (fun _ _ _ _ _ h => ih h) h
      · refine x_iconst C dX11_twins_45 46 rfl (-1) rfl ?_
        refine x_goto C dX11_twins_46 56 rfl ?_
        exact b_X11_twins_56 C T hk13 (fun _ _ _ _ _ h => ih h) h
theorem b_X11_twins_13 (C : XC p l s m args meth c cX11_twins 6 (some .int) RX11 D vwCl (tysC ca) (EC ad ca) NCC ad) (T : XT l s c ad NCC) {N : Nat} {o : XR} : ∀ (n : Nat) {ah : AH} {v1 : Int32} {v2 : Int32} {v3 : Int32}, F_X11_twins_13 N n ah v1 v2 v3 = some o → XW p l e rm_X11_twins s m args below meth c 6 1 (xQx below args s D vwCl (tysC ca) (EC ad ca) NCC ad o) D vwCl (EC ad ca) NCC ad ah 13 [(0, .ref (ad 0)), (1, .int v1), (2, .int v2), (3, .int v3)] [] := by
  intro n
  induction n with
  | zero => intro ah v1 v2 v3 h; unfold F_X11_twins_13 at h; cases h
  | succ n ih =>
    intro ah v1 v2 v3 h
    unfold F_X11_twins_13 at h
    refine x_iload_n C dX11_twins_13 14 rfl 3 rfl ?_
    refine x_aload_n C dX11_twins_14 15 rfl 0 rfl ?_
    refine x_get C inX11 0 lc0 EC_0 rfl 1 (by decide) dX11_twins_15 18 rfl wmf_X11_19 rfl ?_
    refine x_get C inX2 4 lc4 EC_4 rfl 0 (by decide) dX11_twins_18 21 rfl wmf_X11_139 rfl ?_
    refine x_icmp_ge C dX11_twins_21 24 rfl 85 rfl h (fun h => ?_) (fun h => ?_)
    · refine x_iload_n C dX11_twins_85 86 rfl 2 rfl ?_
      exact x_iretX C rfl (by decide) dX11_twins_86 h
    · refine x_iconst C dX11_twins_24 25 rfl 0 rfl ?_
      refine x_istore C dX11_twins_25 27 rfl (by decide) (fun v4_25 => [(4, .int v4_25), (0, .ref (ad 0)), (1, .int v1), (2, .int v2), (3, .int v3)]) (fun _ => rfl) h (fun v4_25 h => ?_)
      exact x_sub [1, 2, 3, 4, 0] rfl (b_X11_twins_27 C T (fun _ _ _ _ h => ih h) N h)
theorem c_X11_twins {l : Launch} {D : va_G} {ca : Nat → ClassId} {ad : Nat → Nat} (hI : xInj ad NCC) (hst : l.stackTraces = false) {N : Nat} {ah : AH} {p1 : Int32} {o : XR} (h : F_X11_twins N ah p1 = some o) : xMx l yX11_twins cX11_twins 6 (some .int) rm_X11_twins D vwCl (tysC ca) (EC ad ca) NCC ad [.ref (ad 0), .int p1] ah o := by
  refine x_metx (by decide) (Nat.le_of_ble_eq_true rfl) hI EC_loc hst ?_
  intro p e s m args below meth c C T
  unfold F_X11_twins at h
  refine x_aload_n C dX11_twins_0 1 rfl 0 rfl ?_
  refine x_iload_n C dX11_twins_1 2 rfl 1 rfl ?_
  refine x_iconst C dX11_twins_2 3 rfl 0 rfl ?_
  refine x_sipush C dX11_twins_3 6 rfl 999 rfl ?_
  obtain ⟨k6, r6, a6, hq, h⟩ := xbx_some h
  refine x_callX C T 0 (c_X11_needBetween C.2.2.2.2.2.2.1 T.1 hq) lc0 EC_0 rfl wml_X11_125 wq_X11_needBetween rfl ⟨by decide, by decide⟩ ⟨by decide, by decide⟩ rfl rfl ⟨by decide, by decide⟩ dX11_twins_6 9 rfl rfl (Nat.le_of_ble_eq_true rfl) h (fun h => ?_)
  refine x_iconst C dX11_twins_9 10 rfl 0 rfl ?_
  refine x_istore_n C dX11_twins_10 11 rfl (by decide) (fun v2_10 => [(2, .int v2_10), (0, .ref (ad 0)), (1, .int p1)]) (fun _ => rfl) h (fun v2_10 h => ?_)
  refine x_iconst C dX11_twins_11 12 rfl 0 rfl ?_
  refine x_istore_n C dX11_twins_12 13 rfl (by decide) (fun v3_12 => [(3, .int v3_12), (2, .int v2_10), (0, .ref (ad 0)), (1, .int p1)]) (fun _ => rfl) h (fun v3_12 h => ?_)
  exact x_sub [2, 3, 1, 0] rfl (b_X11_twins_13 C T  N h)
