variable {p : Program} {l : Launch} {e : Env} {s : State} {m : MethodId} {args : Array Value} {below : List Frame} {meth : Method} {c : Code} {D : va_G} {ca : Nat → ClassId} {ad : Nat → Nat}
abbrev rm_X9_add : Room := { frames := 0, cells := 0, slots := 0, locals := 0 }
theorem wq_X9_add : xcV RX9 yX9_add cX9_add 3 none 1 := ⟨wmi_X9_add, wms_X9_add, wmn_X9, wmc_X9_add, by decide, by decide, by decide +kernel⟩
def F_X9_add_3 (N : Nat) : Nat → AH → Int32 → Int32 → Option AH
  | 0, _, _, _ => none
  | n + 1, ah, v1, v2 => if v2 < 0 then some ah else if 400 ≤ (ah 2 1) then some ah else xg (ah 2 1) 400 (xlet (xu ah 3 (Int32.toNatClampNeg (ah 2 1)) ((xushr v1 v2) &&& 255)) (fun a32 => xlet (xu a32 2 1 ((a32 2 1) + 1)) (fun a40 => xlet (v2 + (-8)) (fun v2_43 => F_X9_add_3 N n a40 v1 v2_43))))
def F_X9_add (N : Nat) (ah : AH) (p1 : Int32) : Option AH := xlet 24 (fun v2_2 => F_X9_add_3 N N ah p1 v2_2)
theorem b_X9_add_3 (C : XC p l s m args meth c cX9_add 3 none RX9 D vwCl (tysC ca) (EC ad ca) NCC ad) {N : Nat} {o : AH} : ∀ (n : Nat) {ah : AH} {v1 : Int32} {v2 : Int32}, F_X9_add_3 N n ah v1 v2 = some o → XW p l e rm_X9_add s m args below meth c 3 0 (xQv below args s D vwCl (tysC ca) (EC ad ca) NCC ad o) D vwCl (EC ad ca) NCC ad ah 3 [(0, .ref (ad 2)), (1, .int v1), (2, .int v2)] [] := by
  intro n
  induction n with
  | zero => intro ah v1 v2 h; unfold F_X9_add_3 at h; cases h
  | succ n ih =>
    intro ah v1 v2 h
    unfold F_X9_add_3 at h
    refine x_iload_n C dX9_add_3 4 rfl 2 rfl ?_
    refine x_if_lt C dX9_add_4 7 rfl 49 rfl h (fun h => ?_) (fun h => ?_)
    · exact x_vret C rfl dX9_add_49 h
    · refine x_aload_n C dX9_add_7 8 rfl 0 rfl ?_
      refine x_get C inX9 2 lc2 EC_2 rfl 1 (by decide) dX9_add_8 11 rfl wmf_X9_19 rfl ?_
      refine x_sipush C dX9_add_11 14 rfl 400 rfl ?_
      refine x_icmp_ge C dX9_add_14 17 rfl 49 rfl h (fun h => ?_) (fun h => ?_)
      · exact x_vret C rfl dX9_add_49 h
      · refine x_aload_n C dX9_add_17 18 rfl 0 rfl ?_
        refine x_get C inX9 2 lc2 EC_2 rfl 0 (by decide) dX9_add_18 21 rfl wmf_X9_9 rfl ?_
        refine x_aload_n C dX9_add_21 22 rfl 0 rfl ?_
        refine x_get C inX9 2 lc2 EC_2 rfl 1 (by decide) dX9_add_22 25 rfl wmf_X9_19 rfl ?_
        refine x_iload_n C dX9_add_25 26 rfl 1 rfl ?_
        refine x_iload_n C dX9_add_26 27 rfl 2 rfl ?_
        refine x_iushr C dX9_add_27 28 rfl ?_
        refine x_sipush C dX9_add_28 31 rfl 255 rfl ?_
        refine x_iand C dX9_add_31 32 rfl ?_
        refine x_iast C 3 lc3 (fun _ => EC_3) 0 rfl dX9_add_32 33 rfl h (fun a32 h => ?_)
        refine x_aload_n C dX9_add_33 34 rfl 0 rfl ?_
        refine x_dup C dX9_add_34 35 rfl rfl ?_
        refine x_get C inX9 2 lc2 EC_2 rfl 1 (by decide) dX9_add_35 38 rfl wmf_X9_19 rfl ?_
        refine x_iconst C dX9_add_38 39 rfl 1 rfl ?_
        refine x_iadd C dX9_add_39 40 rfl ?_
        refine x_put C inX9 2 lc2 EC_2 rfl 1 (by decide) tyX9_ok nmX9 dX9_add_40 43 rfl wmf_X9_19 rfl rfl rfl (Nat.le_of_ble_eq_true rfl) EP_2_1 h (fun a40 h => ?_)
        refine x_iinc C dX9_add_43 46 rfl 2 rfl (d := (-8)) rfl (by decide) (fun v2_43 => [(2, .int v2_43), (0, .ref (ad 2)), (1, .int v1)]) (fun _ => rfl) h (fun v2_43 h => ?_)
        refine x_goto C dX9_add_46 3 rfl ?_
        exact x_sub [1, 2, 0] rfl (ih h)
theorem c_X9_add {l : Launch} {D : va_G} {ca : Nat → ClassId} {ad : Nat → Nat} (hI : xInj ad NCC) {N : Nat} {ah : AH} {p1 : Int32} {a : AH} (h : F_X9_add N ah p1 = some a) : xMv l yX9_add cX9_add 3 rm_X9_add D vwCl (tysC ca) (EC ad ca) NCC ad [.ref (ad 2), .int p1] ah a := by
  refine x_metv (by decide) (Nat.le_of_ble_eq_true rfl) hI EC_loc ?_
  intro p e s m args below meth c C
  unfold F_X9_add at h
  refine x_bipush C dX9_add_0 2 rfl 24 rfl ?_
  refine x_istore_n C dX9_add_2 3 rfl (by decide) (fun v2_2 => [(2, .int v2_2), (0, .ref (ad 2)), (1, .int p1)]) (fun _ => rfl) h (fun v2_2 h => ?_)
  exact x_sub [1, 2, 0] rfl (b_X9_add_3 C  N h)
abbrev rm_X11_feed : Room := { frames := 1, cells := 0, slots := 0, locals := 22 }
theorem wq_X11_feed : xcV RX11 yX11_feed cX11_feed 6 (some .int) 5 := ⟨wmi_X11_feed, wms_X11_feed, wmn_X11, wmc_X11_feed, by decide, by decide, by decide +kernel⟩
def F_X11_feed (N : Nat) (ah : AH) (p1 : Int32) (p2 : Int32) (p3 : Int32) (p4 : Int32) (p5 : Int32) : Option (Int32 × AH) := if (ah 2 1) ≤ 380 then xbv (F_X9_add N ah p1) (fun a20 => xbv (F_X9_add N a20 p2) (fun a28 => xbv (F_X9_add N a28 p3) (fun a36 => xbv (F_X9_add N a36 p4) (fun a45 => xbv (F_X9_add N a45 p5) (fun a54 => some (a54 2 1, a54)))))) else some ((-1), ah)
theorem c_X11_feed {l : Launch} {D : va_G} {ca : Nat → ClassId} {ad : Nat → Nat} (hI : xInj ad NCC) {N : Nat} {ah : AH} {p1 : Int32} {p2 : Int32} {p3 : Int32} {p4 : Int32} {p5 : Int32} {r : Int32} {a : AH} (h : F_X11_feed N ah p1 p2 p3 p4 p5 = some (r, a)) : xMi l yX11_feed cX11_feed 6 (some .int) rm_X11_feed D vwCl (tysC ca) (EC ad ca) NCC ad [.ref (ad 0), .int p1, .int p2, .int p3, .int p4, .int p5] ah (r, a) := by
  refine x_meti (by decide) (Nat.le_of_ble_eq_true rfl) hI EC_loc ?_
  intro p e s m args below meth c C
  unfold F_X11_feed at h
  refine x_aload_n C dX11_feed_0 1 rfl 0 rfl ?_
  refine x_get C inX11 0 lc0 EC_0 rfl 0 (by decide) dX11_feed_1 4 rfl wmf_X11_12 rfl ?_
  refine x_get C inX9 2 lc2 EC_2 rfl 1 (by decide) dX11_feed_4 7 rfl wmf_X11_117 rfl ?_
  refine x_sipush C dX11_feed_7 10 rfl 380 rfl ?_
  refine x_icmp_le C dX11_feed_10 13 rfl 15 rfl h (fun h => ?_) (fun h => ?_)
  · refine x_aload_n C dX11_feed_15 16 rfl 0 rfl ?_
    refine x_get C inX11 0 lc0 EC_0 rfl 0 (by decide) dX11_feed_16 19 rfl wmf_X11_12 rfl ?_
    refine x_iload_n C dX11_feed_19 20 rfl 1 rfl ?_
    obtain ⟨a20, hq, h⟩ := xbv_some h
    refine x_callVv C 2 (c_X9_add C.2.2.2.2.2.2.1 hq) lc2 EC_2 rfl wml_X11_121 wq_X9_add rfl ⟨by decide, by decide⟩ rfl rfl ⟨by decide, by decide⟩ dX11_feed_20 23 rfl rfl (Nat.le_of_ble_eq_true rfl) ?_
    refine x_aload_n C dX11_feed_23 24 rfl 0 rfl ?_
    refine x_get C inX11 0 lc0 EC_0 rfl 0 (by decide) dX11_feed_24 27 rfl wmf_X11_12 rfl ?_
    refine x_iload_n C dX11_feed_27 28 rfl 2 rfl ?_
    obtain ⟨a28, hq, h⟩ := xbv_some h
    refine x_callVv C 2 (c_X9_add C.2.2.2.2.2.2.1 hq) lc2 EC_2 rfl wml_X11_121 wq_X9_add rfl ⟨by decide, by decide⟩ rfl rfl ⟨by decide, by decide⟩ dX11_feed_28 31 rfl rfl (Nat.le_of_ble_eq_true rfl) ?_
    refine x_aload_n C dX11_feed_31 32 rfl 0 rfl ?_
    refine x_get C inX11 0 lc0 EC_0 rfl 0 (by decide) dX11_feed_32 35 rfl wmf_X11_12 rfl ?_
    refine x_iload_n C dX11_feed_35 36 rfl 3 rfl ?_
    obtain ⟨a36, hq, h⟩ := xbv_some h
    refine x_callVv C 2 (c_X9_add C.2.2.2.2.2.2.1 hq) lc2 EC_2 rfl wml_X11_121 wq_X9_add rfl ⟨by decide, by decide⟩ rfl rfl ⟨by decide, by decide⟩ dX11_feed_36 39 rfl rfl (Nat.le_of_ble_eq_true rfl) ?_
    refine x_aload_n C dX11_feed_39 40 rfl 0 rfl ?_
    refine x_get C inX11 0 lc0 EC_0 rfl 0 (by decide) dX11_feed_40 43 rfl wmf_X11_12 rfl ?_
    refine x_iload C dX11_feed_43 45 rfl 4 rfl ?_
    obtain ⟨a45, hq, h⟩ := xbv_some h
    refine x_callVv C 2 (c_X9_add C.2.2.2.2.2.2.1 hq) lc2 EC_2 rfl wml_X11_121 wq_X9_add rfl ⟨by decide, by decide⟩ rfl rfl ⟨by decide, by decide⟩ dX11_feed_45 48 rfl rfl (Nat.le_of_ble_eq_true rfl) ?_
    refine x_aload_n C dX11_feed_48 49 rfl 0 rfl ?_
    refine x_get C inX11 0 lc0 EC_0 rfl 0 (by decide) dX11_feed_49 52 rfl wmf_X11_12 rfl ?_
    refine x_iload C dX11_feed_52 54 rfl 5 rfl ?_
    obtain ⟨a54, hq, h⟩ := xbv_some h
    refine x_callVv C 2 (c_X9_add C.2.2.2.2.2.2.1 hq) lc2 EC_2 rfl wml_X11_121 wq_X9_add rfl ⟨by decide, by decide⟩ rfl rfl ⟨by decide, by decide⟩ dX11_feed_54 57 rfl rfl (Nat.le_of_ble_eq_true rfl) ?_
    refine x_aload_n C dX11_feed_57 58 rfl 0 rfl ?_
    refine x_get C inX11 0 lc0 EC_0 rfl 0 (by decide) dX11_feed_58 61 rfl wmf_X11_12 rfl ?_
    refine x_get C inX9 2 lc2 EC_2 rfl 1 (by decide) dX11_feed_61 64 rfl wmf_X11_117 rfl ?_
    exact x_iret C rfl dX11_feed_64 h
  · refine x_iconst C dX11_feed_13 14 rfl (-1) rfl ?_
    exact x_iret C rfl dX11_feed_14 h
abbrev rm_X11_fault : Room := { frames := 0, cells := 0, slots := 0, locals := 0 }
theorem wq_X11_fault : xcV RX11 yX11_fault cX11_fault 1 (some .int) 0 := ⟨wmi_X11_fault, wms_X11_fault, wmn_X11, wmc_X11_fault, by decide, by decide, by decide +kernel⟩
def F_X11_fault (N : Nat) (ah : AH) : Option (Int32 × AH) := some (ah 2 5, ah)
theorem c_X11_fault {l : Launch} {D : va_G} {ca : Nat → ClassId} {ad : Nat → Nat} (hI : xInj ad NCC) {N : Nat} {ah : AH} {r : Int32} {a : AH} (h : F_X11_fault N ah = some (r, a)) : xMi l yX11_fault cX11_fault 1 (some .int) rm_X11_fault D vwCl (tysC ca) (EC ad ca) NCC ad [.ref (ad 0)] ah (r, a) := by
  refine x_meti (by decide) (Nat.le_of_ble_eq_true rfl) hI EC_loc ?_
  intro p e s m args below meth c C
  unfold F_X11_fault at h
  refine x_aload_n C dX11_fault_0 1 rfl 0 rfl ?_
  refine x_get C inX11 0 lc0 EC_0 rfl 0 (by decide) dX11_fault_1 4 rfl wmf_X11_12 rfl ?_
  refine x_get C inX9 2 lc2 EC_2 rfl 5 (by decide) dX11_fault_4 7 rfl wmf_X11_150 rfl ?_
  exact x_iret C rfl dX11_fault_7 h
abbrev rm_X2_addNode : Room := { frames := 0, cells := 0, slots := 0, locals := 0 }
theorem wq_X2_addNode : xcV RX2 yX2_addNode cX2_addNode 4 (some .int) 2 := ⟨wmi_X2_addNode, wms_X2_addNode, wmn_X2, wmc_X2_addNode, by decide, by decide, by decide +kernel⟩
def F_X2_addNode (N : Nat) (ah : AH) (p1 : Int32) (p2 : Int32) : Option (Int32 × AH) := xlet (ah 4 5) (fun v3_4 => if v3_4 < 721 then xlet (xu ah 4 5 ((ah 4 5) + 1)) (fun a21 => xg v3_4 721 (xlet (xu a21 9 (Int32.toNatClampNeg v3_4) p1) (fun a30 => xg v3_4 721 (xlet (xu a30 10 (Int32.toNatClampNeg v3_4) p2) (fun a37 => xg v3_4 721 (xlet (xu a37 11 (Int32.toNatClampNeg v3_4) ((-1))) (fun a44 => xg v3_4 721 (xlet (xu a44 12 (Int32.toNatClampNeg v3_4) ((-1))) (fun a51 => xg v3_4 721 (xlet (xu a51 13 (Int32.toNatClampNeg v3_4) ((-1))) (fun a58 => xg v3_4 721 (xlet (xu a58 14 (Int32.toNatClampNeg v3_4) 0) (fun a65 => xg v3_4 721 (xlet (xu a65 15 (Int32.toNatClampNeg v3_4) ((-1))) (fun a72 => if p1 < 0 then some (v3_4, a72) else xg p1 721 (xg v3_4 721 (xlet (xu a72 13 (Int32.toNatClampNeg v3_4) (a72 12 (Int32.toNatClampNeg p1))) (fun a88 => xg p1 721 (xlet (xu a88 12 (Int32.toNatClampNeg p1) v3_4) (fun a95 => some (v3_4, a95))))))))))))))))))))) else some ((-1), ah))
theorem c_X2_addNode {l : Launch} {D : va_G} {ca : Nat → ClassId} {ad : Nat → Nat} (hI : xInj ad NCC) {N : Nat} {ah : AH} {p1 : Int32} {p2 : Int32} {r : Int32} {a : AH} (h : F_X2_addNode N ah p1 p2 = some (r, a)) : xMi l yX2_addNode cX2_addNode 4 (some .int) rm_X2_addNode D vwCl (tysC ca) (EC ad ca) NCC ad [.ref (ad 4), .int p1, .int p2] ah (r, a) := by
  refine x_meti (by decide) (Nat.le_of_ble_eq_true rfl) hI EC_loc ?_
  intro p e s m args below meth c C
  unfold F_X2_addNode at h
  refine x_aload_n C dX2_addNode_0 1 rfl 0 rfl ?_
  refine x_get C inX2 4 lc4 EC_4 rfl 5 (by decide) dX2_addNode_1 4 rfl wmf_X2_24 rfl ?_
  refine x_istore_n C dX2_addNode_4 5 rfl (by decide) (fun v3_4 => [(3, .int v3_4), (0, .ref (ad 4)), (1, .int p1), (2, .int p2)]) (fun _ => rfl) h (fun v3_4 h => ?_)
  refine x_iload_n C dX2_addNode_5 6 rfl 0 rfl ?_
  refine x_sipush C dX2_addNode_6 9 rfl 721 rfl ?_
  refine x_icmp_lt C dX2_addNode_9 12 rfl 14 rfl h (fun h => ?_) (fun h => ?_)
  · refine x_aload_n C dX2_addNode_14 15 rfl 1 rfl ?_
    refine x_dup C dX2_addNode_15 16 rfl rfl ?_
    refine x_get C inX2 4 lc4 EC_4 rfl 5 (by decide) dX2_addNode_16 19 rfl wmf_X2_24 rfl ?_
    refine x_iconst C dX2_addNode_19 20 rfl 1 rfl ?_
    refine x_iadd C dX2_addNode_20 21 rfl ?_
    refine x_put C inX2 4 lc4 EC_4 rfl 5 (by decide) tyX2_ok nmX2 dX2_addNode_21 24 rfl wmf_X2_24 rfl rfl rfl (Nat.le_of_ble_eq_true rfl) EP_4_5 h (fun a21 h => ?_)
    refine x_aload_n C dX2_addNode_24 25 rfl 1 rfl ?_
    refine x_get C inX2 4 lc4 EC_4 rfl 6 (by decide) dX2_addNode_25 28 rfl wmf_X2_28 rfl ?_
    refine x_iload_n C dX2_addNode_28 29 rfl 0 rfl ?_
    refine x_iload_n C dX2_addNode_29 30 rfl 2 rfl ?_
    refine x_iast C 9 lc9 (fun _ => EC_9) 0 rfl dX2_addNode_30 31 rfl h (fun a30 h => ?_)
    refine x_aload_n C dX2_addNode_31 32 rfl 1 rfl ?_
    refine x_get C inX2 4 lc4 EC_4 rfl 7 (by decide) dX2_addNode_32 35 rfl wmf_X2_31 rfl ?_
    refine x_iload_n C dX2_addNode_35 36 rfl 0 rfl ?_
    refine x_iload_n C dX2_addNode_36 37 rfl 3 rfl ?_
    refine x_iast C 10 lc10 (fun _ => EC_10) 0 rfl dX2_addNode_37 38 rfl h (fun a37 h => ?_)
    refine x_aload_n C dX2_addNode_38 39 rfl 1 rfl ?_
    refine x_get C inX2 4 lc4 EC_4 rfl 8 (by decide) dX2_addNode_39 42 rfl wmf_X2_34 rfl ?_
    refine x_iload_n C dX2_addNode_42 43 rfl 0 rfl ?_
    refine x_iconst C dX2_addNode_43 44 rfl (-1) rfl ?_
    refine x_iast C 11 lc11 (fun _ => EC_11) 0 rfl dX2_addNode_44 45 rfl h (fun a44 h => ?_)
    refine x_aload_n C dX2_addNode_45 46 rfl 1 rfl ?_
    refine x_get C inX2 4 lc4 EC_4 rfl 9 (by decide) dX2_addNode_46 49 rfl wmf_X2_37 rfl ?_
    refine x_iload_n C dX2_addNode_49 50 rfl 0 rfl ?_
    refine x_iconst C dX2_addNode_50 51 rfl (-1) rfl ?_
    refine x_iast C 12 lc12 (fun _ => EC_12) 0 rfl dX2_addNode_51 52 rfl h (fun a51 h => ?_)
    refine x_aload_n C dX2_addNode_52 53 rfl 1 rfl ?_
    refine x_get C inX2 4 lc4 EC_4 rfl 10 (by decide) dX2_addNode_53 56 rfl wmf_X2_40 rfl ?_
    refine x_iload_n C dX2_addNode_56 57 rfl 0 rfl ?_
    refine x_iconst C dX2_addNode_57 58 rfl (-1) rfl ?_
    refine x_iast C 13 lc13 (fun _ => EC_13) 0 rfl dX2_addNode_58 59 rfl h (fun a58 h => ?_)
    refine x_aload_n C dX2_addNode_59 60 rfl 1 rfl ?_
    refine x_get C inX2 4 lc4 EC_4 rfl 11 (by decide) dX2_addNode_60 63 rfl wmf_X2_43 rfl ?_
    refine x_iload_n C dX2_addNode_63 64 rfl 0 rfl ?_
    refine x_iconst C dX2_addNode_64 65 rfl 0 rfl ?_
    refine x_iast C 14 lc14 (fun _ => EC_14) 0 rfl dX2_addNode_65 66 rfl h (fun a65 h => ?_)
    refine x_aload_n C dX2_addNode_66 67 rfl 1 rfl ?_
    refine x_get C inX2 4 lc4 EC_4 rfl 12 (by decide) dX2_addNode_67 70 rfl wmf_X2_46 rfl ?_
    refine x_iload_n C dX2_addNode_70 71 rfl 0 rfl ?_
    refine x_iconst C dX2_addNode_71 72 rfl (-1) rfl ?_
    refine x_iast C 15 lc15 (fun _ => EC_15) 0 rfl dX2_addNode_72 73 rfl h (fun a72 h => ?_)
    refine x_iload_n C dX2_addNode_73 74 rfl 2 rfl ?_
    refine x_if_lt C dX2_addNode_74 77 rfl 96 rfl h (fun h => ?_) (fun h => ?_)
    · refine x_iload_n C dX2_addNode_96 97 rfl 0 rfl ?_
      exact x_iret C rfl dX2_addNode_97 h
    · refine x_aload_n C dX2_addNode_77 78 rfl 1 rfl ?_
      refine x_get C inX2 4 lc4 EC_4 rfl 10 (by decide) dX2_addNode_78 81 rfl wmf_X2_40 rfl ?_
      refine x_iload_n C dX2_addNode_81 82 rfl 0 rfl ?_
      refine x_aload_n C dX2_addNode_82 83 rfl 1 rfl ?_
      refine x_get C inX2 4 lc4 EC_4 rfl 9 (by decide) dX2_addNode_83 86 rfl wmf_X2_37 rfl ?_
      refine x_iload_n C dX2_addNode_86 87 rfl 2 rfl ?_
      refine x_iald C 12 lc12 EC_12 0 rfl dX2_addNode_87 88 rfl h (fun h => ?_)
      refine x_iast C 13 lc13 (fun _ => EC_13) 0 rfl dX2_addNode_88 89 rfl h (fun a88 h => ?_)
      refine x_aload_n C dX2_addNode_89 90 rfl 1 rfl ?_
      refine x_get C inX2 4 lc4 EC_4 rfl 9 (by decide) dX2_addNode_90 93 rfl wmf_X2_37 rfl ?_
      refine x_iload_n C dX2_addNode_93 94 rfl 2 rfl ?_
      refine x_iload_n C dX2_addNode_94 95 rfl 0 rfl ?_
      refine x_iast C 12 lc12 (fun _ => EC_12) 0 rfl dX2_addNode_95 96 rfl h (fun a95 h => ?_)
      refine x_iload_n C dX2_addNode_96 97 rfl 0 rfl ?_
      exact x_iret C rfl dX2_addNode_97 h
  · refine x_iconst C dX2_addNode_12 13 rfl (-1) rfl ?_
    exact x_iret C rfl dX2_addNode_13 h
abbrev rm_X2_clear : Room := { frames := 1, cells := 0, slots := 0, locals := 23 }
theorem wq_X2_clear : xcV RX2 yX2_clear cX2_clear 1 none 0 := ⟨wmi_X2_clear, wms_X2_clear, wmn_X2, wmc_X2_clear, by decide, by decide, by decide +kernel⟩
def F_X2_clear (N : Nat) (ah : AH) : Option AH := xlet (xu ah 4 0 0) (fun a2 => xlet (xu a2 4 5 0) (fun a7 => xb (F_X2_addNode N a7 ((-1)) 0) (fun r13 a13 => some a13)))
theorem c_X2_clear {l : Launch} {D : va_G} {ca : Nat → ClassId} {ad : Nat → Nat} (hI : xInj ad NCC) {N : Nat} {ah : AH} {a : AH} (h : F_X2_clear N ah = some a) : xMv l yX2_clear cX2_clear 1 rm_X2_clear D vwCl (tysC ca) (EC ad ca) NCC ad [.ref (ad 4)] ah a := by
  refine x_metv (by decide) (Nat.le_of_ble_eq_true rfl) hI EC_loc ?_
  intro p e s m args below meth c C
  unfold F_X2_clear at h
  refine x_aload_n C dX2_clear_0 1 rfl 0 rfl ?_
  refine x_iconst C dX2_clear_1 2 rfl 0 rfl ?_
  refine x_put C inX2 4 lc4 EC_4 rfl 0 (by decide) tyX2_ok nmX2 dX2_clear_2 5 rfl wmf_X2_61 rfl rfl rfl (Nat.le_of_ble_eq_true rfl) EP_4_0 h (fun a2 h => ?_)
  refine x_aload_n C dX2_clear_5 6 rfl 0 rfl ?_
  refine x_iconst C dX2_clear_6 7 rfl 0 rfl ?_
  refine x_put C inX2 4 lc4 EC_4 rfl 5 (by decide) tyX2_ok nmX2 dX2_clear_7 10 rfl wmf_X2_24 rfl rfl rfl (Nat.le_of_ble_eq_true rfl) EP_4_5 h (fun a7 h => ?_)
  refine x_aload_n C dX2_clear_10 11 rfl 0 rfl ?_
  refine x_iconst C dX2_clear_11 12 rfl (-1) rfl ?_
  refine x_iconst C dX2_clear_12 13 rfl 0 rfl ?_
  obtain ⟨r13, a13, hq, h⟩ := xb_some h
  refine x_callVi C 4 (c_X2_addNode C.2.2.2.2.2.2.1 hq) lc4 EC_4 rfl wml_X2_64 wq_X2_addNode rfl ⟨by decide, by decide⟩ rfl rfl ⟨by decide, by decide⟩ dX2_clear_13 16 rfl rfl (Nat.le_of_ble_eq_true rfl) ?_
  refine x_pop C dX2_clear_16 17 rfl rfl ?_
  exact x_vret C rfl dX2_clear_17 h
abbrev rm_X1_clear : Room := { frames := 0, cells := 0, slots := 0, locals := 0 }
theorem wq_X1_clear : xcV RX1 yX1_clear cX1_clear 1 none 0 := ⟨wmi_X1_clear, wms_X1_clear, wmn_X1, wmc_X1_clear, by decide, by decide, by decide +kernel⟩
def F_X1_clear (N : Nat) (k : Nat) (ah : AH) : Option AH := xlet (xu ah k 1 0) (fun a2 => some a2)
theorem c_X1_clear_follows {l : Launch} {D : va_G} {ca : Nat → ClassId} {ad : Nat → Nat} (hI : xInj ad NCC) {N : Nat} {ah : AH} {a : AH} (h : F_X1_clear N 49 ah = some a) : xMv l yX1_clear cX1_clear 1 rm_X1_clear D vwCl (tysC ca) (EC ad ca) NCC ad [.ref (ad 49)] ah a := by
  refine x_metv (by decide) (Nat.le_of_ble_eq_true rfl) hI EC_loc ?_
  intro p e s m args below meth c C
  unfold F_X1_clear at h
  refine x_aload_n C dX1_clear_0 1 rfl 0 rfl ?_
  refine x_iconst C dX1_clear_1 2 rfl 0 rfl ?_
  refine x_put C inX1 49 lc49 EC_49 rfl 1 (by decide) tyX1_ok nmX1 dX1_clear_2 5 rfl wmf_X1_25 rfl rfl rfl (Nat.le_of_ble_eq_true rfl) EP_49_1 h (fun a2 h => ?_)
  exact x_vret C rfl dX1_clear_5 h
abbrev rm_X0_forgetAll : Room := { frames := 0, cells := 0, slots := 0, locals := 0 }
theorem wq_X0_forgetAll : xcV RX0 yX0_forgetAll cX0_forgetAll 2 none 0 := ⟨wmi_X0_forgetAll, wms_X0_forgetAll, wmn_X0, wmc_X0_forgetAll, by decide, by decide, by decide +kernel⟩
def F_X0_forgetAll_2 (N : Nat) : Nat → AH → Int32 → Option AH
  | 0, _, _ => none
  | n + 1, ah, v1 => if 140 ≤ v1 then some ah else xg v1 140 (xlet (xu ah 75 (Int32.toNatClampNeg v1) (vp_nar .boolean 0)) (fun a15 => xlet (v1 + 1) (fun v1_16 => F_X0_forgetAll_2 N n a15 v1_16)))
def F_X0_forgetAll (N : Nat) (ah : AH) : Option AH := xlet 0 (fun v1_1 => F_X0_forgetAll_2 N N ah v1_1)
theorem b_X0_forgetAll_2 (C : XC p l s m args meth c cX0_forgetAll 2 none RX0 D vwCl (tysC ca) (EC ad ca) NCC ad) {N : Nat} {o : AH} : ∀ (n : Nat) {ah : AH} {v1 : Int32}, F_X0_forgetAll_2 N n ah v1 = some o → XW p l e rm_X0_forgetAll s m args below meth c 2 0 (xQv below args s D vwCl (tysC ca) (EC ad ca) NCC ad o) D vwCl (EC ad ca) NCC ad ah 2 [(0, .ref (ad 74)), (1, .int v1)] [] := by
  intro n
  induction n with
  | zero => intro ah v1 h; unfold F_X0_forgetAll_2 at h; cases h
  | succ n ih =>
    intro ah v1 h
    unfold F_X0_forgetAll_2 at h
    refine x_iload_n C dX0_forgetAll_2 3 rfl 1 rfl ?_
    refine x_sipush C dX0_forgetAll_3 6 rfl 140 rfl ?_
    refine x_icmp_ge C dX0_forgetAll_6 9 rfl 22 rfl h (fun h => ?_) (fun h => ?_)
    · exact x_vret C rfl dX0_forgetAll_22 h
    · refine x_aload_n C dX0_forgetAll_9 10 rfl 0 rfl ?_
      refine x_get C inX0 74 lc74 EC_74 rfl 3 (by decide) dX0_forgetAll_10 13 rfl wmf_X0_11 rfl ?_
      refine x_iload_n C dX0_forgetAll_13 14 rfl 1 rfl ?_
      refine x_iconst C dX0_forgetAll_14 15 rfl 0 rfl ?_
      refine x_zast C 75 lc75 (fun _ => EC_75) 1 rfl dX0_forgetAll_15 16 rfl h (fun a15 h => ?_)
      refine x_iinc C dX0_forgetAll_16 19 rfl 1 rfl (d := 1) rfl (by decide) (fun v1_16 => [(1, .int v1_16), (0, .ref (ad 74))]) (fun _ => rfl) h (fun v1_16 h => ?_)
      refine x_goto C dX0_forgetAll_19 2 rfl ?_
      exact x_sub [1, 0] rfl (ih h)
theorem c_X0_forgetAll {l : Launch} {D : va_G} {ca : Nat → ClassId} {ad : Nat → Nat} (hI : xInj ad NCC) {N : Nat} {ah : AH} {a : AH} (h : F_X0_forgetAll N ah = some a) : xMv l yX0_forgetAll cX0_forgetAll 2 rm_X0_forgetAll D vwCl (tysC ca) (EC ad ca) NCC ad [.ref (ad 74)] ah a := by
  refine x_metv (by decide) (Nat.le_of_ble_eq_true rfl) hI EC_loc ?_
  intro p e s m args below meth c C
  unfold F_X0_forgetAll at h
  refine x_iconst C dX0_forgetAll_0 1 rfl 0 rfl ?_
  refine x_istore_n C dX0_forgetAll_1 2 rfl (by decide) (fun v1_1 => [(1, .int v1_1), (0, .ref (ad 74))]) (fun _ => rfl) h (fun v1_1 h => ?_)
  exact x_sub [1, 0] rfl (b_X0_forgetAll_2 C  N h)
abbrev rm_X11_changed : Room := { frames := 1, cells := 0, slots := 0, locals := 21 }
theorem wq_X11_changed : xcV RX11 yX11_changed cX11_changed 1 none 0 := ⟨wmi_X11_changed, wms_X11_changed, wmn_X11, wmc_X11_changed, by decide, by decide, by decide +kernel⟩
def F_X11_changed (N : Nat) (ah : AH) : Option AH := xbv (F_X0_forgetAll N ah) (fun a4 => xlet (xu a4 80 3 0) (fun a12 => xlet (xu a12 84 4 0) (fun a20 => some a20)))
theorem c_X11_changed {l : Launch} {D : va_G} {ca : Nat → ClassId} {ad : Nat → Nat} (hI : xInj ad NCC) {N : Nat} {ah : AH} {a : AH} (h : F_X11_changed N ah = some a) : xMv l yX11_changed cX11_changed 1 rm_X11_changed D vwCl (tysC ca) (EC ad ca) NCC ad [.ref (ad 0)] ah a := by
  refine x_metv (by decide) (Nat.le_of_ble_eq_true rfl) hI EC_loc ?_
  intro p e s m args below meth c C
  unfold F_X11_changed at h
  refine x_aload_n C dX11_changed_0 1 rfl 0 rfl ?_
  refine x_get C inX11 0 lc0 EC_0 rfl 10 (by decide) dX11_changed_1 4 rfl wmf_X11_86 rfl ?_
  obtain ⟨a4, hq, h⟩ := xbv_some h
  refine x_callVv C 74 (c_X0_forgetAll C.2.2.2.2.2.2.1 hq) lc74 EC_74 rfl wml_X11_383 wq_X0_forgetAll rfl ⟨by decide, by decide⟩ rfl rfl ⟨by decide, by decide⟩ dX11_changed_4 7 rfl rfl (Nat.le_of_ble_eq_true rfl) ?_
  refine x_aload_n C dX11_changed_7 8 rfl 0 rfl ?_
  refine x_get C inX11 0 lc0 EC_0 rfl 11 (by decide) dX11_changed_8 11 rfl wmf_X11_95 rfl ?_
  refine x_iconst C dX11_changed_11 12 rfl 0 rfl ?_
  refine x_put C inX3 80 lc80 EC_80 rfl 3 (by decide) tyX3_ok nmX3 dX11_changed_12 15 rfl wmf_X11_386 rfl rfl rfl (Nat.le_of_ble_eq_true rfl) EP_80_3 h (fun a12 h => ?_)
  refine x_aload_n C dX11_changed_15 16 rfl 0 rfl ?_
  refine x_get C inX11 0 lc0 EC_0 rfl 12 (by decide) dX11_changed_16 19 rfl wmf_X11_104 rfl ?_
  refine x_iconst C dX11_changed_19 20 rfl 0 rfl ?_
  refine x_put C inX7 84 lc84 EC_84 rfl 4 (by decide) tyX7_ok nmX7 dX11_changed_20 23 rfl wmf_X11_390 rfl rfl rfl (Nat.le_of_ble_eq_true rfl) EP_84_4 h (fun a20 h => ?_)
  exact x_vret C rfl dX11_changed_23 h
abbrev rm_X11_forget : Room := { frames := 2, cells := 0, slots := 0, locals := 43 }
theorem wq_X11_forget : xcV RX11 yX11_forget cX11_forget 2 (some .int) 0 := ⟨wmi_X11_forget, wms_X11_forget, wmn_X11, wmc_X11_forget, by decide, by decide, by decide +kernel⟩
def F_X11_forget (N : Nat) (ah : AH) : Option (Int32 × AH) := xlet (ah 4 0) (fun v1_7 => xbv (F_X2_clear N ah) (fun a12 => xbv (F_X1_clear N 49 a12) (fun a19 => xbv (F_X11_changed N a19) (fun a23 => some (v1_7, a23)))))
theorem c_X11_forget {l : Launch} {D : va_G} {ca : Nat → ClassId} {ad : Nat → Nat} (hI : xInj ad NCC) {N : Nat} {ah : AH} {r : Int32} {a : AH} (h : F_X11_forget N ah = some (r, a)) : xMi l yX11_forget cX11_forget 2 (some .int) rm_X11_forget D vwCl (tysC ca) (EC ad ca) NCC ad [.ref (ad 0)] ah (r, a) := by
  refine x_meti (by decide) (Nat.le_of_ble_eq_true rfl) hI EC_loc ?_
  intro p e s m args below meth c C
  unfold F_X11_forget at h
  refine x_aload_n C dX11_forget_0 1 rfl 0 rfl ?_
  refine x_get C inX11 0 lc0 EC_0 rfl 1 (by decide) dX11_forget_1 4 rfl wmf_X11_19 rfl ?_
  refine x_get C inX2 4 lc4 EC_4 rfl 0 (by decide) dX11_forget_4 7 rfl wmf_X11_139 rfl ?_
  refine x_istore_n C dX11_forget_7 8 rfl (by decide) (fun v1_7 => [(1, .int v1_7), (0, .ref (ad 0))]) (fun _ => rfl) h (fun v1_7 h => ?_)
  refine x_aload_n C dX11_forget_8 9 rfl 1 rfl ?_
  refine x_get C inX11 0 lc0 EC_0 rfl 1 (by decide) dX11_forget_9 12 rfl wmf_X11_19 rfl ?_
  obtain ⟨a12, hq, h⟩ := xbv_some h
  refine x_callVv C 4 (c_X2_clear C.2.2.2.2.2.2.1 hq) lc4 EC_4 rfl wml_X11_155 wq_X2_clear rfl ⟨by decide, by decide⟩ rfl rfl ⟨by decide, by decide⟩ dX11_forget_12 15 rfl rfl (Nat.le_of_ble_eq_true rfl) ?_
  refine x_aload_n C dX11_forget_15 16 rfl 1 rfl ?_
  refine x_get C inX11 0 lc0 EC_0 rfl 6 (by decide) dX11_forget_16 19 rfl wmf_X11_48 rfl ?_
  obtain ⟨a19, hq, h⟩ := xbv_some h
  refine x_callVv C 49 (c_X1_clear_follows C.2.2.2.2.2.2.1 hq) lc49 EC_49 rfl wml_X11_158 wq_X1_clear rfl ⟨by decide, by decide⟩ rfl rfl ⟨by decide, by decide⟩ dX11_forget_19 22 rfl rfl (Nat.le_of_ble_eq_true rfl) ?_
  refine x_aload_n C dX11_forget_22 23 rfl 1 rfl ?_
  obtain ⟨a23, hq, h⟩ := xbv_some h
  refine x_callVv C 0 (c_X11_changed C.2.2.2.2.2.2.1 hq) lc0 EC_0 rfl wml_X11_136 wq_X11_changed rfl ⟨by decide, by decide⟩ rfl rfl ⟨by decide, by decide⟩ dX11_forget_23 26 rfl rfl (Nat.le_of_ble_eq_true rfl) ?_
  refine x_iload_n C dX11_forget_26 27 rfl 0 rfl ?_
  exact x_iret C rfl dX11_forget_27 h
abbrev rm_X0_priceOf : Room := { frames := 0, cells := 0, slots := 0, locals := 0 }
theorem wq_X0_priceOf : xcV RX0 yX0_priceOf cX0_priceOf 3 (some .int) 2 := ⟨wmi_X0_priceOf, wms_X0_priceOf, wmn_X0, wmc_X0_priceOf, by decide, by decide, by decide +kernel⟩
def F_X0_priceOf (N : Nat) (ah : AH) (p1 : Int32) (p2 : Int32) : Option (Int32 × AH) := if p2 < 0 then some ((-1), ah) else xg p1 140 (if (ah 76 (Int32.toNatClampNeg p1)) ≤ p2 then some ((-1), ah) else xg ((p1 * 60) + p2) 8400 (some (ah 78 (Int32.toNatClampNeg ((p1 * 60) + p2)), ah)))
theorem c_X0_priceOf {l : Launch} {D : va_G} {ca : Nat → ClassId} {ad : Nat → Nat} (hI : xInj ad NCC) {N : Nat} {ah : AH} {p1 : Int32} {p2 : Int32} {r : Int32} {a : AH} (h : F_X0_priceOf N ah p1 p2 = some (r, a)) : xMi l yX0_priceOf cX0_priceOf 3 (some .int) rm_X0_priceOf D vwCl (tysC ca) (EC ad ca) NCC ad [.ref (ad 74), .int p1, .int p2] ah (r, a) := by
  refine x_meti (by decide) (Nat.le_of_ble_eq_true rfl) hI EC_loc ?_
  intro p e s m args below meth c C
  unfold F_X0_priceOf at h
  refine x_iload_n C dX0_priceOf_0 1 rfl 2 rfl ?_
  refine x_if_lt C dX0_priceOf_1 4 rfl 28 rfl h (fun h => ?_) (fun h => ?_)
  · refine x_iconst C dX0_priceOf_28 29 rfl (-1) rfl ?_
    exact x_iret C rfl dX0_priceOf_29 h
  · refine x_iload_n C dX0_priceOf_4 5 rfl 2 rfl ?_
    refine x_aload_n C dX0_priceOf_5 6 rfl 0 rfl ?_
    refine x_get C inX0 74 lc74 EC_74 rfl 4 (by decide) dX0_priceOf_6 9 rfl wmf_X0_15 rfl ?_
    refine x_iload_n C dX0_priceOf_9 10 rfl 1 rfl ?_
    refine x_iald C 76 lc76 EC_76 0 rfl dX0_priceOf_10 11 rfl h (fun h => ?_)
    refine x_icmp_ge C dX0_priceOf_11 14 rfl 28 rfl h (fun h => ?_) (fun h => ?_)
    · refine x_iconst C dX0_priceOf_28 29 rfl (-1) rfl ?_
      exact x_iret C rfl dX0_priceOf_29 h
    · refine x_aload_n C dX0_priceOf_14 15 rfl 0 rfl ?_
      refine x_get C inX0 74 lc74 EC_74 rfl 6 (by decide) dX0_priceOf_15 18 rfl wmf_X0_22 rfl ?_
      refine x_iload_n C dX0_priceOf_18 19 rfl 1 rfl ?_
      refine x_bipush C dX0_priceOf_19 21 rfl 60 rfl ?_
      refine x_imul C dX0_priceOf_21 22 rfl ?_
      refine x_iload_n C dX0_priceOf_22 23 rfl 2 rfl ?_
      refine x_iadd C dX0_priceOf_23 24 rfl ?_
      refine x_iald C 78 lc78 EC_78 0 rfl dX0_priceOf_24 25 rfl h (fun h => ?_)
      refine x_goto C dX0_priceOf_25 29 rfl ?_
      exact x_iret C rfl dX0_priceOf_29 h
abbrev rm_X5_cellsOf : Room := { frames := 0, cells := 0, slots := 0, locals := 0 }
theorem wq_X5_cellsOf : xcV RX5 yX5_cellsOf cX5_cellsOf 2 (some .int) 1 := ⟨wmi_X5_cellsOf, wms_X5_cellsOf, wmn_X5, wmc_X5_cellsOf, by decide, by decide, by decide +kernel⟩
def F_X5_cellsOf (N : Nat) (k : Nat) (ah : AH) (p1 : Int32) : Option (Int32 × AH) := xg (p1 + 1) 41 (xg p1 41 (some ((ah (k + 1) (Int32.toNatClampNeg (p1 + 1))) - (ah (k + 1) (Int32.toNatClampNeg p1)), ah)))
theorem c_X5_cellsOf_reading {l : Launch} {D : va_G} {ca : Nat → ClassId} {ad : Nat → Nat} (hI : xInj ad NCC) {N : Nat} {ah : AH} {p1 : Int32} {r : Int32} {a : AH} (h : F_X5_cellsOf N 31 ah p1 = some (r, a)) : xMi l yX5_cellsOf cX5_cellsOf 2 (some .int) rm_X5_cellsOf D vwCl (tysC ca) (EC ad ca) NCC ad [.ref (ad 31), .int p1] ah (r, a) := by
  refine x_meti (by decide) (Nat.le_of_ble_eq_true rfl) hI EC_loc ?_
  intro p e s m args below meth c C
  unfold F_X5_cellsOf at h
  refine x_aload_n C dX5_cellsOf_0 1 rfl 0 rfl ?_
  refine x_get C inX5 31 lc31 EC_31 rfl 3 (by decide) dX5_cellsOf_1 4 rfl wmf_X5_9 rfl ?_
  refine x_iload_n C dX5_cellsOf_4 5 rfl 1 rfl ?_
  refine x_iconst C dX5_cellsOf_5 6 rfl 1 rfl ?_
  refine x_iadd C dX5_cellsOf_6 7 rfl ?_
  refine x_iald C 32 lc32 EC_32 0 rfl dX5_cellsOf_7 8 rfl h (fun h => ?_)
  refine x_aload_n C dX5_cellsOf_8 9 rfl 0 rfl ?_
  refine x_get C inX5 31 lc31 EC_31 rfl 3 (by decide) dX5_cellsOf_9 12 rfl wmf_X5_9 rfl ?_
  refine x_iload_n C dX5_cellsOf_12 13 rfl 1 rfl ?_
  refine x_iald C 32 lc32 EC_32 0 rfl dX5_cellsOf_13 14 rfl h (fun h => ?_)
  refine x_isub C dX5_cellsOf_14 15 rfl ?_
  exact x_iret C rfl dX5_cellsOf_15 h
abbrev rm_X0_outsidePrice : Room := { frames := 1, cells := 0, slots := 0, locals := 21 }
theorem wq_X0_outsidePrice : xcV RX0 yX0_outsidePrice cX0_outsidePrice 2 (some .int) 1 := ⟨wmi_X0_outsidePrice, wms_X0_outsidePrice, wmn_X0, wmc_X0_outsidePrice, by decide, by decide, by decide +kernel⟩
def F_X0_outsidePrice (N : Nat) (ah : AH) (p1 : Int32) : Option (Int32 × AH) := xb (F_X5_cellsOf N 31 ah p1) (fun r17 a17 => some ((ah 1 0) + ((ah 1 1) * r17), a17))
theorem c_X0_outsidePrice {l : Launch} {D : va_G} {ca : Nat → ClassId} {ad : Nat → Nat} (hI : xInj ad NCC) {N : Nat} {ah : AH} {p1 : Int32} {r : Int32} {a : AH} (h : F_X0_outsidePrice N ah p1 = some (r, a)) : xMi l yX0_outsidePrice cX0_outsidePrice 2 (some .int) rm_X0_outsidePrice D vwCl (tysC ca) (EC ad ca) NCC ad [.ref (ad 74), .int p1] ah (r, a) := by
  refine x_meti (by decide) (Nat.le_of_ble_eq_true rfl) hI EC_loc ?_
  intro p e s m args below meth c C
  unfold F_X0_outsidePrice at h
  refine x_aload_n C dX0_outsidePrice_0 1 rfl 0 rfl ?_
  refine x_get C inX0 74 lc74 EC_74 rfl 2 (by decide) dX0_outsidePrice_1 4 rfl wmf_X0_36 rfl ?_
  refine x_iconst C dX0_outsidePrice_4 5 rfl 0 rfl ?_
  refine x_ialdK C 1 lc1 EC_1 0 rfl dX0_outsidePrice_5 6 rfl (by decide) 0 (by decide) ?_
  refine x_aload_n C dX0_outsidePrice_6 7 rfl 0 rfl ?_
  refine x_get C inX0 74 lc74 EC_74 rfl 2 (by decide) dX0_outsidePrice_7 10 rfl wmf_X0_36 rfl ?_
  refine x_iconst C dX0_outsidePrice_10 11 rfl 1 rfl ?_
  refine x_ialdK C 1 lc1 EC_1 0 rfl dX0_outsidePrice_11 12 rfl (by decide) 1 (by decide) ?_
  refine x_aload_n C dX0_outsidePrice_12 13 rfl 0 rfl ?_
  refine x_get C inX0 74 lc74 EC_74 rfl 1 (by decide) dX0_outsidePrice_13 16 rfl wmf_X0_32 rfl ?_
  refine x_iload_n C dX0_outsidePrice_16 17 rfl 1 rfl ?_
  obtain ⟨r17, a17, hq, h⟩ := xb_some h
  refine x_callVi C 31 (c_X5_cellsOf_reading C.2.2.2.2.2.2.1 hq) lc31 EC_31 rfl wml_X0_50 wq_X5_cellsOf rfl ⟨by decide, by decide⟩ rfl rfl ⟨by decide, by decide⟩ dX0_outsidePrice_17 20 rfl rfl (Nat.le_of_ble_eq_true rfl) ?_
  refine x_imul C dX0_outsidePrice_20 21 rfl ?_
  refine x_iadd C dX0_outsidePrice_21 22 rfl ?_
  exact x_iret C rfl dX0_outsidePrice_22 h
abbrev rm_X0_wordOf : Room := { frames := 0, cells := 0, slots := 0, locals := 0 }
theorem wq_X0_wordOf : xcV RX0 yX0_wordOf cX0_wordOf 3 (some .int) 2 := ⟨wmi_X0_wordOf, wms_X0_wordOf, wmn_X0, wmc_X0_wordOf, by decide, by decide, by decide +kernel⟩
def F_X0_wordOf (N : Nat) (ah : AH) (p1 : Int32) (p2 : Int32) : Option (Int32 × AH) := if p2 < 0 then some ((-1), ah) else xg p1 140 (if (ah 76 (Int32.toNatClampNeg p1)) ≤ p2 then some ((-1), ah) else xg ((p1 * 60) + p2) 8400 (some (ah 77 (Int32.toNatClampNeg ((p1 * 60) + p2)), ah)))
theorem c_X0_wordOf {l : Launch} {D : va_G} {ca : Nat → ClassId} {ad : Nat → Nat} (hI : xInj ad NCC) {N : Nat} {ah : AH} {p1 : Int32} {p2 : Int32} {r : Int32} {a : AH} (h : F_X0_wordOf N ah p1 p2 = some (r, a)) : xMi l yX0_wordOf cX0_wordOf 3 (some .int) rm_X0_wordOf D vwCl (tysC ca) (EC ad ca) NCC ad [.ref (ad 74), .int p1, .int p2] ah (r, a) := by
  refine x_meti (by decide) (Nat.le_of_ble_eq_true rfl) hI EC_loc ?_
  intro p e s m args below meth c C
  unfold F_X0_wordOf at h
  refine x_iload_n C dX0_wordOf_0 1 rfl 2 rfl ?_
  refine x_if_lt C dX0_wordOf_1 4 rfl 28 rfl h (fun h => ?_) (fun h => ?_)
  · refine x_iconst C dX0_wordOf_28 29 rfl (-1) rfl ?_
    exact x_iret C rfl dX0_wordOf_29 h
  · refine x_iload_n C dX0_wordOf_4 5 rfl 2 rfl ?_
    refine x_aload_n C dX0_wordOf_5 6 rfl 0 rfl ?_
    refine x_get C inX0 74 lc74 EC_74 rfl 4 (by decide) dX0_wordOf_6 9 rfl wmf_X0_15 rfl ?_
    refine x_iload_n C dX0_wordOf_9 10 rfl 1 rfl ?_
    refine x_iald C 76 lc76 EC_76 0 rfl dX0_wordOf_10 11 rfl h (fun h => ?_)
    refine x_icmp_ge C dX0_wordOf_11 14 rfl 28 rfl h (fun h => ?_) (fun h => ?_)
    · refine x_iconst C dX0_wordOf_28 29 rfl (-1) rfl ?_
      exact x_iret C rfl dX0_wordOf_29 h
    · refine x_aload_n C dX0_wordOf_14 15 rfl 0 rfl ?_
      refine x_get C inX0 74 lc74 EC_74 rfl 5 (by decide) dX0_wordOf_15 18 rfl wmf_X0_19 rfl ?_
      refine x_iload_n C dX0_wordOf_18 19 rfl 1 rfl ?_
      refine x_bipush C dX0_wordOf_19 21 rfl 60 rfl ?_
      refine x_imul C dX0_wordOf_21 22 rfl ?_
      refine x_iload_n C dX0_wordOf_22 23 rfl 2 rfl ?_
      refine x_iadd C dX0_wordOf_23 24 rfl ?_
      refine x_iald C 77 lc77 EC_77 0 rfl dX0_wordOf_24 25 rfl h (fun h => ?_)
      refine x_goto C dX0_wordOf_25 29 rfl ?_
      exact x_iret C rfl dX0_wordOf_29 h
abbrev rm_X0_wordInside : Room := { frames := 2, cells := 0, slots := 0, locals := 42 }
theorem wq_X0_wordInside : xcV RX0 yX0_wordInside cX0_wordInside 3 (some .int) 2 := ⟨wmi_X0_wordInside, wms_X0_wordInside, wmn_X0, wmc_X0_wordInside, by decide, by decide, by decide +kernel⟩
def F_X0_wordInside (N : Nat) (ah : AH) (p1 : Int32) (p2 : Int32) : Option (Int32 × AH) := xb (F_X0_priceOf N ah p1 p2) (fun r3 a3 => xb (F_X0_outsidePrice N a3 p1) (fun r8 a8 => if r8 < r3 then some ((-1), a8) else xb (F_X0_wordOf N a8 p1 p2) (fun r17 a17 => some (r17, a17))))
theorem c_X0_wordInside {l : Launch} {D : va_G} {ca : Nat → ClassId} {ad : Nat → Nat} (hI : xInj ad NCC) {N : Nat} {ah : AH} {p1 : Int32} {p2 : Int32} {r : Int32} {a : AH} (h : F_X0_wordInside N ah p1 p2 = some (r, a)) : xMi l yX0_wordInside cX0_wordInside 3 (some .int) rm_X0_wordInside D vwCl (tysC ca) (EC ad ca) NCC ad [.ref (ad 74), .int p1, .int p2] ah (r, a) := by
  refine x_meti (by decide) (Nat.le_of_ble_eq_true rfl) hI EC_loc ?_
  intro p e s m args below meth c C
  unfold F_X0_wordInside at h
  refine x_aload_n C dX0_wordInside_0 1 rfl 0 rfl ?_
  refine x_iload_n C dX0_wordInside_1 2 rfl 1 rfl ?_
  refine x_iload_n C dX0_wordInside_2 3 rfl 2 rfl ?_
  obtain ⟨r3, a3, hq, h⟩ := xb_some h
  refine x_callVi C 74 (c_X0_priceOf C.2.2.2.2.2.2.1 hq) lc74 EC_74 rfl wml_X0_82 wq_X0_priceOf rfl ⟨by decide, by decide⟩ rfl rfl ⟨by decide, by decide⟩ dX0_wordInside_3 6 rfl rfl (Nat.le_of_ble_eq_true rfl) ?_
  refine x_aload_n C dX0_wordInside_6 7 rfl 0 rfl ?_
  refine x_iload_n C dX0_wordInside_7 8 rfl 1 rfl ?_
  obtain ⟨r8, a8, hq, h⟩ := xb_some h
  refine x_callVi C 74 (c_X0_outsidePrice C.2.2.2.2.2.2.1 hq) lc74 EC_74 rfl wml_X0_86 wq_X0_outsidePrice rfl ⟨by decide, by decide⟩ rfl rfl ⟨by decide, by decide⟩ dX0_wordInside_8 11 rfl rfl (Nat.le_of_ble_eq_true rfl) ?_
  refine x_icmp_gt C dX0_wordInside_11 14 rfl 23 rfl h (fun h => ?_) (fun h => ?_)
  · refine x_iconst C dX0_wordInside_23 24 rfl (-1) rfl ?_
    exact x_iret C rfl dX0_wordInside_24 h
  · refine x_aload_n C dX0_wordInside_14 15 rfl 0 rfl ?_
    refine x_iload_n C dX0_wordInside_15 16 rfl 1 rfl ?_
    refine x_iload_n C dX0_wordInside_16 17 rfl 2 rfl ?_
    obtain ⟨r17, a17, hq, h⟩ := xb_some h
    refine x_callVi C 74 (c_X0_wordOf C.2.2.2.2.2.2.1 hq) lc74 EC_74 rfl wml_X0_89 wq_X0_wordOf rfl ⟨by decide, by decide⟩ rfl rfl ⟨by decide, by decide⟩ dX0_wordInside_17 20 rfl rfl (Nat.le_of_ble_eq_true rfl) ?_
    refine x_goto C dX0_wordInside_20 24 rfl ?_
    exact x_iret C rfl dX0_wordInside_24 h
abbrev rm_X2_signOf : Room := { frames := 0, cells := 0, slots := 0, locals := 0 }
theorem wq_X2_signOf : xcV RX2 yX2_signOf cX2_signOf 3 (some .int) 2 := ⟨wmi_X2_signOf, wms_X2_signOf, wmn_X2, wmc_X2_signOf, by decide, by decide, by decide +kernel⟩
def F_X2_signOf (N : Nat) (ah : AH) (p1 : Int32) (p2 : Int32) : Option (Int32 × AH) := xg ((p1 * 12) + p2) 720 (some (ah 8 (Int32.toNatClampNeg ((p1 * 12) + p2)), ah))
theorem c_X2_signOf {l : Launch} {D : va_G} {ca : Nat → ClassId} {ad : Nat → Nat} (hI : xInj ad NCC) {N : Nat} {ah : AH} {p1 : Int32} {p2 : Int32} {r : Int32} {a : AH} (h : F_X2_signOf N ah p1 p2 = some (r, a)) : xMi l yX2_signOf cX2_signOf 3 (some .int) rm_X2_signOf D vwCl (tysC ca) (EC ad ca) NCC ad [.ref (ad 4), .int p1, .int p2] ah (r, a) := by
  refine x_meti (by decide) (Nat.le_of_ble_eq_true rfl) hI EC_loc ?_
  intro p e s m args below meth c C
  unfold F_X2_signOf at h
  refine x_aload_n C dX2_signOf_0 1 rfl 0 rfl ?_
  refine x_get C inX2 4 lc4 EC_4 rfl 4 (by decide) dX2_signOf_1 4 rfl wmf_X2_21 rfl ?_
  refine x_iload_n C dX2_signOf_4 5 rfl 1 rfl ?_
  refine x_bipush C dX2_signOf_5 7 rfl 12 rfl ?_
  refine x_imul C dX2_signOf_7 8 rfl ?_
  refine x_iload_n C dX2_signOf_8 9 rfl 2 rfl ?_
  refine x_iadd C dX2_signOf_9 10 rfl ?_
  refine x_iald C 8 lc8 EC_8 0 rfl dX2_signOf_10 11 rfl h (fun h => ?_)
  exact x_iret C rfl dX2_signOf_11 h
abbrev rm_X3_writeByte : Room := { frames := 0, cells := 0, slots := 0, locals := 0 }
theorem wq_X3_writeByte : xcV RX3 yX3_writeByte cX3_writeByte 2 none 1 := ⟨wmi_X3_writeByte, wms_X3_writeByte, wmn_X3, wmc_X3_writeByte, by decide, by decide, by decide +kernel⟩
def F_X3_writeByte (N : Nat) (ah : AH) (p1 : Int32) : Option AH := if 1000 ≤ (ah 80 4) then some ah else xg (ah 80 4) 1000 (xlet (xu ah 81 (Int32.toNatClampNeg (ah 80 4)) p1) (fun a19 => xlet (xu a19 80 4 ((a19 80 4) + 1)) (fun a27 => some a27)))
theorem c_X3_writeByte {l : Launch} {D : va_G} {ca : Nat → ClassId} {ad : Nat → Nat} (hI : xInj ad NCC) {N : Nat} {ah : AH} {p1 : Int32} {a : AH} (h : F_X3_writeByte N ah p1 = some a) : xMv l yX3_writeByte cX3_writeByte 2 rm_X3_writeByte D vwCl (tysC ca) (EC ad ca) NCC ad [.ref (ad 80), .int p1] ah a := by
  refine x_metv (by decide) (Nat.le_of_ble_eq_true rfl) hI EC_loc ?_
  intro p e s m args below meth c C
  unfold F_X3_writeByte at h
  refine x_aload_n C dX3_writeByte_0 1 rfl 0 rfl ?_
  refine x_get C inX3 80 lc80 EC_80 rfl 4 (by decide) dX3_writeByte_1 4 rfl wmf_X3_63 rfl ?_
  refine x_sipush C dX3_writeByte_4 7 rfl 1000 rfl ?_
  refine x_icmp_ge C dX3_writeByte_7 10 rfl 30 rfl h (fun h => ?_) (fun h => ?_)
  · exact x_vret C rfl dX3_writeByte_30 h
  · refine x_aload_n C dX3_writeByte_10 11 rfl 0 rfl ?_
    refine x_get C inX3 80 lc80 EC_80 rfl 8 (by decide) dX3_writeByte_11 14 rfl wmf_X3_11 rfl ?_
    refine x_aload_n C dX3_writeByte_14 15 rfl 0 rfl ?_
    refine x_get C inX3 80 lc80 EC_80 rfl 4 (by decide) dX3_writeByte_15 18 rfl wmf_X3_63 rfl ?_
    refine x_iload_n C dX3_writeByte_18 19 rfl 1 rfl ?_
    refine x_iast C 81 lc81 (fun _ => EC_81) 0 rfl dX3_writeByte_19 20 rfl h (fun a19 h => ?_)
    refine x_aload_n C dX3_writeByte_20 21 rfl 0 rfl ?_
    refine x_dup C dX3_writeByte_21 22 rfl rfl ?_
    refine x_get C inX3 80 lc80 EC_80 rfl 4 (by decide) dX3_writeByte_22 25 rfl wmf_X3_63 rfl ?_
    refine x_iconst C dX3_writeByte_25 26 rfl 1 rfl ?_
    refine x_iadd C dX3_writeByte_26 27 rfl ?_
    refine x_put C inX3 80 lc80 EC_80 rfl 4 (by decide) tyX3_ok nmX3 dX3_writeByte_27 30 rfl wmf_X3_63 rfl rfl rfl (Nat.le_of_ble_eq_true rfl) EP_80_4 h (fun a27 h => ?_)
    exact x_vret C rfl dX3_writeByte_30 h
abbrev rm_X3_writeWord : Room := { frames := 1, cells := 0, slots := 0, locals := 22 }
theorem wq_X3_writeWord : xcV RX3 yX3_writeWord cX3_writeWord 3 none 1 := ⟨wmi_X3_writeWord, wms_X3_writeWord, wmn_X3, wmc_X3_writeWord, by decide, by decide, by decide +kernel⟩
def F_X3_writeWord_2 (N : Nat) : Nat → AH → Int32 → Int32 → Option AH
  | 0, _, _, _ => none
  | n + 1, ah, v1, v2 => xg v1 60 (if (ah 5 (Int32.toNatClampNeg v1)) ≤ v2 then some ah else xb (F_X2_signOf N ah v1 v2) (fun r22 a22 => xbv (F_X3_writeByte N a22 r22) (fun a25 => xlet (v2 + 1) (fun v2_28 => F_X3_writeWord_2 N n a25 v1 v2_28))))
def F_X3_writeWord (N : Nat) (ah : AH) (p1 : Int32) : Option AH := xlet 0 (fun v2_1 => F_X3_writeWord_2 N N ah p1 v2_1)
theorem b_X3_writeWord_2 (C : XC p l s m args meth c cX3_writeWord 3 none RX3 D vwCl (tysC ca) (EC ad ca) NCC ad) {N : Nat} {o : AH} : ∀ (n : Nat) {ah : AH} {v1 : Int32} {v2 : Int32}, F_X3_writeWord_2 N n ah v1 v2 = some o → XW p l e rm_X3_writeWord s m args below meth c 3 0 (xQv below args s D vwCl (tysC ca) (EC ad ca) NCC ad o) D vwCl (EC ad ca) NCC ad ah 2 [(0, .ref (ad 80)), (1, .int v1), (2, .int v2)] [] := by
  intro n
  induction n with
  | zero => intro ah v1 v2 h; unfold F_X3_writeWord_2 at h; cases h
  | succ n ih =>
    intro ah v1 v2 h
    unfold F_X3_writeWord_2 at h
    refine x_iload_n C dX3_writeWord_2 3 rfl 2 rfl ?_
    refine x_aload_n C dX3_writeWord_3 4 rfl 0 rfl ?_
    refine x_get C inX3 80 lc80 EC_80 rfl 0 (by decide) dX3_writeWord_4 7 rfl wmf_X3_22 rfl ?_
    refine x_get C inX2 4 lc4 EC_4 rfl 1 (by decide) dX3_writeWord_7 10 rfl wmf_X3_104 rfl ?_
    refine x_iload_n C dX3_writeWord_10 11 rfl 1 rfl ?_
    refine x_iald C 5 lc5 EC_5 0 rfl dX3_writeWord_11 12 rfl h (fun h => ?_)
    refine x_icmp_ge C dX3_writeWord_12 15 rfl 34 rfl h (fun h => ?_) (fun h => ?_)
    · exact x_vret C rfl dX3_writeWord_34 h
    · refine x_aload_n C dX3_writeWord_15 16 rfl 0 rfl ?_
      refine x_aload_n C dX3_writeWord_16 17 rfl 0 rfl ?_
      refine x_get C inX3 80 lc80 EC_80 rfl 0 (by decide) dX3_writeWord_17 20 rfl wmf_X3_22 rfl ?_
      refine x_iload_n C dX3_writeWord_20 21 rfl 1 rfl ?_
      refine x_iload_n C dX3_writeWord_21 22 rfl 2 rfl ?_
      obtain ⟨r22, a22, hq, h⟩ := xb_some h
      refine x_callVi C 4 (c_X2_signOf C.2.2.2.2.2.2.1 hq) lc4 EC_4 rfl wml_X3_109 wq_X2_signOf rfl ⟨by decide, by decide⟩ rfl rfl ⟨by decide, by decide⟩ dX3_writeWord_22 25 rfl rfl (Nat.le_of_ble_eq_true rfl) ?_
      obtain ⟨a25, hq, h⟩ := xbv_some h
      refine x_callVv C 80 (c_X3_writeByte C.2.2.2.2.2.2.1 hq) lc80 EC_80 rfl wml_X3_88 wq_X3_writeByte rfl ⟨by decide, by decide⟩ rfl rfl ⟨by decide, by decide⟩ dX3_writeWord_25 28 rfl rfl (Nat.le_of_ble_eq_true rfl) ?_
      refine x_iinc C dX3_writeWord_28 31 rfl 2 rfl (d := 1) rfl (by decide) (fun v2_28 => [(2, .int v2_28), (0, .ref (ad 80)), (1, .int v1)]) (fun _ => rfl) h (fun v2_28 h => ?_)
      refine x_goto C dX3_writeWord_31 2 rfl ?_
      exact x_sub [1, 2, 0] rfl (ih h)
theorem c_X3_writeWord {l : Launch} {D : va_G} {ca : Nat → ClassId} {ad : Nat → Nat} (hI : xInj ad NCC) {N : Nat} {ah : AH} {p1 : Int32} {a : AH} (h : F_X3_writeWord N ah p1 = some a) : xMv l yX3_writeWord cX3_writeWord 3 rm_X3_writeWord D vwCl (tysC ca) (EC ad ca) NCC ad [.ref (ad 80), .int p1] ah a := by
  refine x_metv (by decide) (Nat.le_of_ble_eq_true rfl) hI EC_loc ?_
  intro p e s m args below meth c C
  unfold F_X3_writeWord at h
  refine x_iconst C dX3_writeWord_0 1 rfl 0 rfl ?_
  refine x_istore_n C dX3_writeWord_1 2 rfl (by decide) (fun v2_1 => [(2, .int v2_1), (0, .ref (ad 80)), (1, .int p1)]) (fun _ => rfl) h (fun v2_1 h => ?_)
  exact x_sub [1, 2, 0] rfl (b_X3_writeWord_2 C  N h)
abbrev rm_X3_writeCells : Room := { frames := 1, cells := 0, slots := 0, locals := 21 }
theorem wq_X3_writeCells : xcV RX3 yX3_writeCells cX3_writeCells 3 none 1 := ⟨wmi_X3_writeCells, wms_X3_writeCells, wmn_X3, wmc_X3_writeCells, by decide, by decide, by decide +kernel⟩
def F_X3_writeCells_52 (N : Nat) (k10 : AH → Int32 → Int32 → Option AH) (ah : AH) (v1 : Int32) (v2 : Int32) : Option AH := xlet (v2 + 1) (fun v2_52 => k10 ah v1 v2_52)
def F_X3_writeCells_10 (N : Nat) : Nat → AH → Int32 → Int32 → Option AH
  | 0, _, _, _ => none
  | n + 1, ah, v1, v2 => xg (v1 + 1) 41 (if (ah 32 (Int32.toNatClampNeg (v1 + 1))) ≤ v2 then some ah else xg v2 400 (if (ah 36 (Int32.toNatClampNeg v2)) = 10 then F_X3_writeCells_52 N (F_X3_writeCells_10 N n) ah v1 v2 else xg v2 400 (xbv (F_X3_writeByte N ah (ah 36 (Int32.toNatClampNeg v2))) (fun a49 => F_X3_writeCells_52 N (F_X3_writeCells_10 N n) a49 v1 v2))))
def F_X3_writeCells (N : Nat) (ah : AH) (p1 : Int32) : Option AH := xg p1 41 (xlet (ah 32 (Int32.toNatClampNeg p1)) (fun v2_9 => F_X3_writeCells_10 N N ah p1 v2_9))
theorem b_X3_writeCells_52 (C : XC p l s m args meth c cX3_writeCells 3 none RX3 D vwCl (tysC ca) (EC ad ca) NCC ad) {N : Nat} {o : AH} {k10 : AH → Int32 → Int32 → Option AH} (hk10 : ∀ (ah : AH) (v1 : Int32) (v2 : Int32), k10 ah v1 v2 = some o → XW p l e rm_X3_writeCells s m args below meth c 3 0 (xQv below args s D vwCl (tysC ca) (EC ad ca) NCC ad o) D vwCl (EC ad ca) NCC ad ah 10 [(0, .ref (ad 80)), (1, .int v1), (2, .int v2)] []) {ah : AH} {v1 : Int32} {v2 : Int32} (h : F_X3_writeCells_52 N k10 ah v1 v2 = some o) : XW p l e rm_X3_writeCells s m args below meth c 3 0 (xQv below args s D vwCl (tysC ca) (EC ad ca) NCC ad o) D vwCl (EC ad ca) NCC ad ah 52 [(0, .ref (ad 80)), (1, .int v1), (2, .int v2)] [] := by
  unfold F_X3_writeCells_52 at h
  refine x_iinc C dX3_writeCells_52 55 rfl 2 rfl (d := 1) rfl (by decide) (fun v2_52 => [(2, .int v2_52), (0, .ref (ad 80)), (1, .int v1)]) (fun _ => rfl) h (fun v2_52 h => ?_)
  refine x_goto C dX3_writeCells_55 10 rfl ?_
  exact x_sub [1, 2, 0] rfl (hk10 _ _ _ h)
theorem b_X3_writeCells_10 (C : XC p l s m args meth c cX3_writeCells 3 none RX3 D vwCl (tysC ca) (EC ad ca) NCC ad) {N : Nat} {o : AH} : ∀ (n : Nat) {ah : AH} {v1 : Int32} {v2 : Int32}, F_X3_writeCells_10 N n ah v1 v2 = some o → XW p l e rm_X3_writeCells s m args below meth c 3 0 (xQv below args s D vwCl (tysC ca) (EC ad ca) NCC ad o) D vwCl (EC ad ca) NCC ad ah 10 [(0, .ref (ad 80)), (1, .int v1), (2, .int v2)] [] := by
  intro n
  induction n with
  | zero => intro ah v1 v2 h; unfold F_X3_writeCells_10 at h; cases h
  | succ n ih =>
    intro ah v1 v2 h
    unfold F_X3_writeCells_10 at h
    refine x_iload_n C dX3_writeCells_10 11 rfl 2 rfl ?_
    refine x_aload_n C dX3_writeCells_11 12 rfl 0 rfl ?_
    refine x_get C inX3 80 lc80 EC_80 rfl 1 (by decide) dX3_writeCells_12 15 rfl wmf_X3_26 rfl ?_
    refine x_get C inX5 31 lc31 EC_31 rfl 3 (by decide) dX3_writeCells_15 18 rfl wmf_X3_112 rfl ?_
    refine x_iload_n C dX3_writeCells_18 19 rfl 1 rfl ?_
    refine x_iconst C dX3_writeCells_19 20 rfl 1 rfl ?_
    refine x_iadd C dX3_writeCells_20 21 rfl ?_
    refine x_iald C 32 lc32 EC_32 0 rfl dX3_writeCells_21 22 rfl h (fun h => ?_)
    refine x_icmp_ge C dX3_writeCells_22 25 rfl 58 rfl h (fun h => ?_) (fun h => ?_)
    · exact x_vret C rfl dX3_writeCells_58 h
    · refine x_aload_n C dX3_writeCells_25 26 rfl 0 rfl ?_
      refine x_get C inX3 80 lc80 EC_80 rfl 1 (by decide) dX3_writeCells_26 29 rfl wmf_X3_26 rfl ?_
      refine x_get C inX5 31 lc31 EC_31 rfl 7 (by decide) dX3_writeCells_29 32 rfl wmf_X3_115 rfl ?_
      refine x_iload_n C dX3_writeCells_32 33 rfl 2 rfl ?_
      refine x_iald C 36 lc36 EC_36 0 rfl dX3_writeCells_33 34 rfl h (fun h => ?_)
      refine x_bipush C dX3_writeCells_34 36 rfl 10 rfl ?_
      refine x_icmp_eq C dX3_writeCells_36 39 rfl 52 rfl h (fun h => ?_) (fun h => ?_)
      · exact b_X3_writeCells_52 C (fun _ _ _ h => ih h) h
      · refine x_aload_n C dX3_writeCells_39 40 rfl 0 rfl ?_
        refine x_aload_n C dX3_writeCells_40 41 rfl 0 rfl ?_
        refine x_get C inX3 80 lc80 EC_80 rfl 1 (by decide) dX3_writeCells_41 44 rfl wmf_X3_26 rfl ?_
        refine x_get C inX5 31 lc31 EC_31 rfl 7 (by decide) dX3_writeCells_44 47 rfl wmf_X3_115 rfl ?_
        refine x_iload_n C dX3_writeCells_47 48 rfl 2 rfl ?_
        refine x_iald C 36 lc36 EC_36 0 rfl dX3_writeCells_48 49 rfl h (fun h => ?_)
        obtain ⟨a49, hq, h⟩ := xbv_some h
        refine x_callVv C 80 (c_X3_writeByte C.2.2.2.2.2.2.1 hq) lc80 EC_80 rfl wml_X3_88 wq_X3_writeByte rfl ⟨by decide, by decide⟩ rfl rfl ⟨by decide, by decide⟩ dX3_writeCells_49 52 rfl rfl (Nat.le_of_ble_eq_true rfl) ?_
        exact b_X3_writeCells_52 C (fun _ _ _ h => ih h) h
theorem c_X3_writeCells {l : Launch} {D : va_G} {ca : Nat → ClassId} {ad : Nat → Nat} (hI : xInj ad NCC) {N : Nat} {ah : AH} {p1 : Int32} {a : AH} (h : F_X3_writeCells N ah p1 = some a) : xMv l yX3_writeCells cX3_writeCells 3 rm_X3_writeCells D vwCl (tysC ca) (EC ad ca) NCC ad [.ref (ad 80), .int p1] ah a := by
  refine x_metv (by decide) (Nat.le_of_ble_eq_true rfl) hI EC_loc ?_
  intro p e s m args below meth c C
  unfold F_X3_writeCells at h
  refine x_aload_n C dX3_writeCells_0 1 rfl 0 rfl ?_
  refine x_get C inX3 80 lc80 EC_80 rfl 1 (by decide) dX3_writeCells_1 4 rfl wmf_X3_26 rfl ?_
  refine x_get C inX5 31 lc31 EC_31 rfl 3 (by decide) dX3_writeCells_4 7 rfl wmf_X3_112 rfl ?_
  refine x_iload_n C dX3_writeCells_7 8 rfl 1 rfl ?_
  refine x_iald C 32 lc32 EC_32 0 rfl dX3_writeCells_8 9 rfl h (fun h => ?_)
  refine x_istore_n C dX3_writeCells_9 10 rfl (by decide) (fun v2_9 => [(2, .int v2_9), (0, .ref (ad 80)), (1, .int p1)]) (fun _ => rfl) h (fun v2_9 h => ?_)
  exact x_sub [1, 2, 0] rfl (b_X3_writeCells_10 C  N h)
abbrev rm_X3_writeOne : Room := { frames := 3, cells := 0, slots := 0, locals := 64 }
theorem wq_X3_writeOne : xcV RX3 yX3_writeOne cX3_writeOne 3 (some .int) 1 := ⟨wmi_X3_writeOne, wms_X3_writeOne, wmn_X3, wmc_X3_writeOne, by decide, by decide, by decide +kernel⟩
def F_X3_writeOne (N : Nat) (ah : AH) (p1 : Int32) : Option (Int32 × AH) := xg p1 40 (if (ah 82 (Int32.toNatClampNeg p1)) = 0 then xb (F_X0_wordInside N ah p1 0) (fun r54 a54 => xlet r54 (fun v2_57 => if v2_57 = ((-1)) then xlet (xu a54 80 7 ((a54 80 7) + 1)) (fun a70 => xbv (F_X3_writeCells N a70 p1) (fun a75 => some (p1, a75))) else xbv (F_X3_writeWord N a54 v2_57) (fun a83 => some (p1, a83)))) else xlet (xu ah 80 6 ((ah 80 6) + 1)) (fun a16 => xb (F_X0_wordOf N a16 (40 + p1) 0) (fun r29 a29 => xbv (F_X3_writeWord N a29 r29) (fun a32 => xg (p1 + 1) 40 (xlet (xu a32 82 (Int32.toNatClampNeg (p1 + 1)) (vp_nar .boolean 0)) (fun a43 => some (p1 + 1, a43)))))))
theorem c_X3_writeOne {l : Launch} {D : va_G} {ca : Nat → ClassId} {ad : Nat → Nat} (hI : xInj ad NCC) {N : Nat} {ah : AH} {p1 : Int32} {r : Int32} {a : AH} (h : F_X3_writeOne N ah p1 = some (r, a)) : xMi l yX3_writeOne cX3_writeOne 3 (some .int) rm_X3_writeOne D vwCl (tysC ca) (EC ad ca) NCC ad [.ref (ad 80), .int p1] ah (r, a) := by
  refine x_meti (by decide) (Nat.le_of_ble_eq_true rfl) hI EC_loc ?_
  intro p e s m args below meth c C
  unfold F_X3_writeOne at h
  refine x_aload_n C dX3_writeOne_0 1 rfl 0 rfl ?_
  refine x_get C inX3 80 lc80 EC_80 rfl 9 (by decide) dX3_writeOne_1 4 rfl wmf_X3_15 rfl ?_
  refine x_iload_n C dX3_writeOne_4 5 rfl 1 rfl ?_
  refine x_zald C 82 lc82 EC_82 1 rfl dX3_writeOne_5 6 rfl h (fun h => ?_)
  refine x_if_eq C dX3_writeOne_6 9 rfl 48 rfl h (fun h => ?_) (fun h => ?_)
  · refine x_aload_n C dX3_writeOne_48 49 rfl 0 rfl ?_
    refine x_get C inX3 80 lc80 EC_80 rfl 2 (by decide) dX3_writeOne_49 52 rfl wmf_X3_30 rfl ?_
    refine x_iload_n C dX3_writeOne_52 53 rfl 1 rfl ?_
    refine x_iconst C dX3_writeOne_53 54 rfl 0 rfl ?_
    obtain ⟨r54, a54, hq, h⟩ := xb_some h
    refine x_callVi C 74 (c_X0_wordInside C.2.2.2.2.2.2.1 hq) lc74 EC_74 rfl wml_X3_98 wq_X0_wordInside rfl ⟨by decide, by decide⟩ rfl rfl ⟨by decide, by decide⟩ dX3_writeOne_54 57 rfl rfl (Nat.le_of_ble_eq_true rfl) ?_
    refine x_istore_n C dX3_writeOne_57 58 rfl (by decide) (fun v2_57 => [(2, .int v2_57), (0, .ref (ad 80)), (1, .int p1)]) (fun _ => rfl) h (fun v2_57 h => ?_)
    refine x_iload_n C dX3_writeOne_58 59 rfl 0 rfl ?_
    refine x_iconst C dX3_writeOne_59 60 rfl (-1) rfl ?_
    refine x_icmp_ne C dX3_writeOne_60 63 rfl 81 rfl h (fun h => ?_) (fun h => ?_)
    · refine x_aload_n C dX3_writeOne_81 82 rfl 1 rfl ?_
      refine x_iload_n C dX3_writeOne_82 83 rfl 0 rfl ?_
      obtain ⟨a83, hq, h⟩ := xbv_some h
      refine x_callVv C 80 (c_X3_writeWord C.2.2.2.2.2.2.1 hq) lc80 EC_80 rfl wml_X3_95 wq_X3_writeWord rfl ⟨by decide, by decide⟩ rfl rfl ⟨by decide, by decide⟩ dX3_writeOne_83 86 rfl rfl (Nat.le_of_ble_eq_true rfl) ?_
      refine x_iload_n C dX3_writeOne_86 87 rfl 2 rfl ?_
      exact x_iret C rfl dX3_writeOne_87 h
    · refine x_aload_n C dX3_writeOne_63 64 rfl 1 rfl ?_
      refine x_dup C dX3_writeOne_64 65 rfl rfl ?_
      refine x_get C inX3 80 lc80 EC_80 rfl 7 (by decide) dX3_writeOne_65 68 rfl wmf_X3_69 rfl ?_
      refine x_iconst C dX3_writeOne_68 69 rfl 1 rfl ?_
      refine x_iadd C dX3_writeOne_69 70 rfl ?_
      refine x_put C inX3 80 lc80 EC_80 rfl 7 (by decide) tyX3_ok nmX3 dX3_writeOne_70 73 rfl wmf_X3_69 rfl rfl rfl (Nat.le_of_ble_eq_true rfl) EP_80_7 h (fun a70 h => ?_)
      refine x_aload_n C dX3_writeOne_73 74 rfl 1 rfl ?_
      refine x_iload_n C dX3_writeOne_74 75 rfl 2 rfl ?_
      obtain ⟨a75, hq, h⟩ := xbv_some h
      refine x_callVv C 80 (c_X3_writeCells C.2.2.2.2.2.2.1 hq) lc80 EC_80 rfl wml_X3_101 wq_X3_writeCells rfl ⟨by decide, by decide⟩ rfl rfl ⟨by decide, by decide⟩ dX3_writeOne_75 78 rfl rfl (Nat.le_of_ble_eq_true rfl) ?_
      refine x_goto C dX3_writeOne_78 86 rfl ?_
      refine x_iload_n C dX3_writeOne_86 87 rfl 2 rfl ?_
      exact x_iret C rfl dX3_writeOne_87 h
  · refine x_aload_n C dX3_writeOne_9 10 rfl 0 rfl ?_
    refine x_dup C dX3_writeOne_10 11 rfl rfl ?_
    refine x_get C inX3 80 lc80 EC_80 rfl 6 (by decide) dX3_writeOne_11 14 rfl wmf_X3_66 rfl ?_
    refine x_iconst C dX3_writeOne_14 15 rfl 1 rfl ?_
    refine x_iadd C dX3_writeOne_15 16 rfl ?_
    refine x_put C inX3 80 lc80 EC_80 rfl 6 (by decide) tyX3_ok nmX3 dX3_writeOne_16 19 rfl wmf_X3_66 rfl rfl rfl (Nat.le_of_ble_eq_true rfl) EP_80_6 h (fun a16 h => ?_)
    refine x_aload_n C dX3_writeOne_19 20 rfl 0 rfl ?_
    refine x_aload_n C dX3_writeOne_20 21 rfl 0 rfl ?_
    refine x_get C inX3 80 lc80 EC_80 rfl 2 (by decide) dX3_writeOne_21 24 rfl wmf_X3_30 rfl ?_
    refine x_bipush C dX3_writeOne_24 26 rfl 40 rfl ?_
    refine x_iload_n C dX3_writeOne_26 27 rfl 1 rfl ?_
    refine x_iadd C dX3_writeOne_27 28 rfl ?_
    refine x_iconst C dX3_writeOne_28 29 rfl 0 rfl ?_
    obtain ⟨r29, a29, hq, h⟩ := xb_some h
    refine x_callVi C 74 (c_X0_wordOf C.2.2.2.2.2.2.1 hq) lc74 EC_74 rfl wml_X3_91 wq_X0_wordOf rfl ⟨by decide, by decide⟩ rfl rfl ⟨by decide, by decide⟩ dX3_writeOne_29 32 rfl rfl (Nat.le_of_ble_eq_true rfl) ?_
    obtain ⟨a32, hq, h⟩ := xbv_some h
    refine x_callVv C 80 (c_X3_writeWord C.2.2.2.2.2.2.1 hq) lc80 EC_80 rfl wml_X3_95 wq_X3_writeWord rfl ⟨by decide, by decide⟩ rfl rfl ⟨by decide, by decide⟩ dX3_writeOne_32 35 rfl rfl (Nat.le_of_ble_eq_true rfl) ?_
    refine x_aload_n C dX3_writeOne_35 36 rfl 0 rfl ?_
    refine x_get C inX3 80 lc80 EC_80 rfl 9 (by decide) dX3_writeOne_36 39 rfl wmf_X3_15 rfl ?_
    refine x_iload_n C dX3_writeOne_39 40 rfl 1 rfl ?_
    refine x_iconst C dX3_writeOne_40 41 rfl 1 rfl ?_
    refine x_iadd C dX3_writeOne_41 42 rfl ?_
    refine x_iconst C dX3_writeOne_42 43 rfl 0 rfl ?_
    refine x_zast C 82 lc82 (fun _ => EC_82) 1 rfl dX3_writeOne_43 44 rfl h (fun a43 h => ?_)
    refine x_iload_n C dX3_writeOne_44 45 rfl 1 rfl ?_
    refine x_iconst C dX3_writeOne_45 46 rfl 1 rfl ?_
    refine x_iadd C dX3_writeOne_46 47 rfl ?_
    exact x_iret C rfl dX3_writeOne_47 h
abbrev rm_X3_write : Room := { frames := 4, cells := 0, slots := 0, locals := 86 }
theorem wq_X3_write : xcV RX3 yX3_write cX3_write 4 none 0 := ⟨wmi_X3_write, wms_X3_write, wmn_X3, wmc_X3_write, by decide, by decide, by decide +kernel⟩
def F_X3_write_63 (N : Nat) (k4 : AH → Int32 → Int32 → Option AH) (ah : AH) (v2 : Int32) (v3 : Int32) : Option AH := xlet (v3 + 1) (fun v1_66 => xlet (v2 + 1) (fun v2_67 => k4 ah v1_66 v2_67))
def F_X3_write_60 (N : Nat) (k4 : AH → Int32 → Int32 → Option AH) (ah : AH) (v2 : Int32) (v3 : Int32) (s1 : Int32) : Option AH := xbv (F_X3_writeByte N ah s1) (fun a60 => F_X3_write_63 N k4 a60 v2 v3)
def F_X3_write_4 (N : Nat) : Nat → AH → Int32 → Int32 → Option AH
  | 0, _, _, _ => none
  | n + 1, ah, v1, v2 => if 40 ≤ v2 then some ah else if (ah 31 0) ≤ v1 then some ah else xb (F_X3_writeOne N ah v1) (fun r23 a23 => xlet r23 (fun v3_26 => if (a23 31 0) ≤ (v3_26 + 1) then F_X3_write_63 N (F_X3_write_4 N n) a23 v2 v3_26 else xg v3_26 40 (if (a23 35 (Int32.toNatClampNeg v3_26)) = 0 then F_X3_write_60 N (F_X3_write_4 N n) a23 v2 v3_26 32 else F_X3_write_60 N (F_X3_write_4 N n) a23 v2 v3_26 10)))
def F_X3_write (N : Nat) (ah : AH) : Option AH := xlet 0 (fun v1_1 => xlet 0 (fun v2_3 => F_X3_write_4 N N ah v1_1 v2_3))
theorem b_X3_write_63 (C : XC p l s m args meth c cX3_write 4 none RX3 D vwCl (tysC ca) (EC ad ca) NCC ad) {N : Nat} {o : AH} {k4 : AH → Int32 → Int32 → Option AH} (hk4 : ∀ (ah : AH) (v1 : Int32) (v2 : Int32), k4 ah v1 v2 = some o → XW p l e rm_X3_write s m args below meth c 4 0 (xQv below args s D vwCl (tysC ca) (EC ad ca) NCC ad o) D vwCl (EC ad ca) NCC ad ah 4 [(0, .ref (ad 80)), (1, .int v1), (2, .int v2)] []) {ah : AH} {v2 : Int32} {v3 : Int32} (h : F_X3_write_63 N k4 ah v2 v3 = some o) : XW p l e rm_X3_write s m args below meth c 4 0 (xQv below args s D vwCl (tysC ca) (EC ad ca) NCC ad o) D vwCl (EC ad ca) NCC ad ah 63 [(0, .ref (ad 80)), (2, .int v2), (3, .int v3)] [] := by
  unfold F_X3_write_63 at h
  refine x_iload_n C dX3_write_63 64 rfl 2 rfl ?_
  refine x_iconst C dX3_write_64 65 rfl 1 rfl ?_
  refine x_iadd C dX3_write_65 66 rfl ?_
  refine x_istore_n C dX3_write_66 67 rfl (by decide) (fun v1_66 => [(1, .int v1_66), (0, .ref (ad 80)), (2, .int v2), (3, .int v3)]) (fun _ => rfl) h (fun v1_66 h => ?_)
  refine x_iinc C dX3_write_67 70 rfl 2 rfl (d := 1) rfl (by decide) (fun v2_67 => [(2, .int v2_67), (1, .int v1_66), (0, .ref (ad 80)), (3, .int v3)]) (fun _ => rfl) h (fun v2_67 h => ?_)
  refine x_goto C dX3_write_70 4 rfl ?_
  exact x_sub [2, 1, 0] rfl (hk4 _ _ _ h)
theorem b_X3_write_60 (C : XC p l s m args meth c cX3_write 4 none RX3 D vwCl (tysC ca) (EC ad ca) NCC ad) {N : Nat} {o : AH} {k4 : AH → Int32 → Int32 → Option AH} (hk4 : ∀ (ah : AH) (v1 : Int32) (v2 : Int32), k4 ah v1 v2 = some o → XW p l e rm_X3_write s m args below meth c 4 0 (xQv below args s D vwCl (tysC ca) (EC ad ca) NCC ad o) D vwCl (EC ad ca) NCC ad ah 4 [(0, .ref (ad 80)), (1, .int v1), (2, .int v2)] []) {ah : AH} {v2 : Int32} {v3 : Int32} {s1 : Int32} (h : F_X3_write_60 N k4 ah v2 v3 s1 = some o) : XW p l e rm_X3_write s m args below meth c 4 0 (xQv below args s D vwCl (tysC ca) (EC ad ca) NCC ad o) D vwCl (EC ad ca) NCC ad ah 60 [(0, .ref (ad 80)), (2, .int v2), (3, .int v3)] [.int s1, .ref (ad 80)] := by
  unfold F_X3_write_60 at h
  obtain ⟨a60, hq, h⟩ := xbv_some h
  refine x_callVv C 80 (c_X3_writeByte C.2.2.2.2.2.2.1 hq) lc80 EC_80 rfl wml_X3_88 wq_X3_writeByte rfl ⟨by decide, by decide⟩ rfl rfl ⟨by decide, by decide⟩ dX3_write_60 63 rfl rfl (Nat.le_of_ble_eq_true rfl) ?_
  exact b_X3_write_63 C hk4 h
theorem b_X3_write_4 (C : XC p l s m args meth c cX3_write 4 none RX3 D vwCl (tysC ca) (EC ad ca) NCC ad) {N : Nat} {o : AH} : ∀ (n : Nat) {ah : AH} {v1 : Int32} {v2 : Int32}, F_X3_write_4 N n ah v1 v2 = some o → XW p l e rm_X3_write s m args below meth c 4 0 (xQv below args s D vwCl (tysC ca) (EC ad ca) NCC ad o) D vwCl (EC ad ca) NCC ad ah 4 [(0, .ref (ad 80)), (1, .int v1), (2, .int v2)] [] := by
  intro n
  induction n with
  | zero => intro ah v1 v2 h; unfold F_X3_write_4 at h; cases h
  | succ n ih =>
    intro ah v1 v2 h
    unfold F_X3_write_4 at h
    refine x_iload_n C dX3_write_4 5 rfl 2 rfl ?_
    refine x_bipush C dX3_write_5 7 rfl 40 rfl ?_
    refine x_icmp_ge C dX3_write_7 10 rfl 73 rfl h (fun h => ?_) (fun h => ?_)
    · exact x_vret C rfl dX3_write_73 h
    · refine x_iload_n C dX3_write_10 11 rfl 1 rfl ?_
      refine x_aload_n C dX3_write_11 12 rfl 0 rfl ?_
      refine x_get C inX3 80 lc80 EC_80 rfl 1 (by decide) dX3_write_12 15 rfl wmf_X3_26 rfl ?_
      refine x_get C inX5 31 lc31 EC_31 rfl 0 (by decide) dX3_write_15 18 rfl wmf_X3_38 rfl ?_
      refine x_icmp_ge C dX3_write_18 21 rfl 73 rfl h (fun h => ?_) (fun h => ?_)
      · exact x_vret C rfl dX3_write_73 h
      · refine x_aload_n C dX3_write_21 22 rfl 0 rfl ?_
        refine x_iload_n C dX3_write_22 23 rfl 1 rfl ?_
        obtain ⟨r23, a23, hq, h⟩ := xb_some h
        refine x_callVi C 80 (c_X3_writeOne C.2.2.2.2.2.2.1 hq) lc80 EC_80 rfl wml_X3_82 wq_X3_writeOne rfl ⟨by decide, by decide⟩ rfl rfl ⟨by decide, by decide⟩ dX3_write_23 26 rfl rfl (Nat.le_of_ble_eq_true rfl) ?_
        refine x_istore_n C dX3_write_26 27 rfl (by decide) (fun v3_26 => [(3, .int v3_26), (0, .ref (ad 80)), (1, .int v1), (2, .int v2)]) (fun _ => rfl) h (fun v3_26 h => ?_)
        refine x_iload_n C dX3_write_27 28 rfl 0 rfl ?_
        refine x_iconst C dX3_write_28 29 rfl 1 rfl ?_
        refine x_iadd C dX3_write_29 30 rfl ?_
        refine x_aload_n C dX3_write_30 31 rfl 1 rfl ?_
        refine x_get C inX3 80 lc80 EC_80 rfl 1 (by decide) dX3_write_31 34 rfl wmf_X3_26 rfl ?_
        refine x_get C inX5 31 lc31 EC_31 rfl 0 (by decide) dX3_write_34 37 rfl wmf_X3_38 rfl ?_
        refine x_icmp_ge C dX3_write_37 40 rfl 63 rfl h (fun h => ?_) (fun h => ?_)
        · exact x_sub [1, 3, 0] rfl (b_X3_write_63 C (fun _ _ _ h => ih h) h)
        · refine x_aload_n C dX3_write_40 41 rfl 1 rfl ?_
          refine x_aload_n C dX3_write_41 42 rfl 1 rfl ?_
          refine x_get C inX3 80 lc80 EC_80 rfl 1 (by decide) dX3_write_42 45 rfl wmf_X3_26 rfl ?_
          refine x_get C inX5 31 lc31 EC_31 rfl 6 (by decide) dX3_write_45 48 rfl wmf_X3_85 rfl ?_
          refine x_iload_n C dX3_write_48 49 rfl 0 rfl ?_
          refine x_zald C 35 lc35 EC_35 1 rfl dX3_write_49 50 rfl h (fun h => ?_)
          refine x_if_eq C dX3_write_50 53 rfl 58 rfl h (fun h => ?_) (fun h => ?_)
          · refine x_bipush C dX3_write_58 60 rfl 32 rfl ?_
            exact x_sub [1, 3, 0] rfl (b_X3_write_60 C (fun _ _ _ h => ih h) h)
          · refine x_bipush C dX3_write_53 55 rfl 10 rfl ?_
            refine x_goto C dX3_write_55 60 rfl ?_
            exact x_sub [1, 3, 0] rfl (b_X3_write_60 C (fun _ _ _ h => ih h) h)
theorem c_X3_write {l : Launch} {D : va_G} {ca : Nat → ClassId} {ad : Nat → Nat} (hI : xInj ad NCC) {N : Nat} {ah : AH} {a : AH} (h : F_X3_write N ah = some a) : xMv l yX3_write cX3_write 4 rm_X3_write D vwCl (tysC ca) (EC ad ca) NCC ad [.ref (ad 80)] ah a := by
  refine x_metv (by decide) (Nat.le_of_ble_eq_true rfl) hI EC_loc ?_
  intro p e s m args below meth c C
  unfold F_X3_write at h
  refine x_iconst C dX3_write_0 1 rfl 0 rfl ?_
  refine x_istore_n C dX3_write_1 2 rfl (by decide) (fun v1_1 => [(1, .int v1_1), (0, .ref (ad 80))]) (fun _ => rfl) h (fun v1_1 h => ?_)
  refine x_iconst C dX3_write_2 3 rfl 0 rfl ?_
  refine x_istore_n C dX3_write_3 4 rfl (by decide) (fun v2_3 => [(2, .int v2_3), (1, .int v1_1), (0, .ref (ad 80))]) (fun _ => rfl) h (fun v2_3 h => ?_)
  exact x_sub [2, 1, 0] rfl (b_X3_write_4 C  N h)
abbrev rm_X4_begin : Room := { frames := 1, cells := 0, slots := 0, locals := 14 }
theorem wq_X4_begin : xcV RX4 yX4_begin cX4_begin 2 none 1 := ⟨wmi_X4_begin, wms_X4_begin, wmn_X4, wmc_X4_begin, by decide, by decide, by decide +kernel⟩
def F_X4_begin (N : Nat) (ah : AH) (p1 : Int32) : Option AH := xlet (xu ah 57 4 (xmin p1 24)) (fun a7 => xlet (xu a7 57 5 0) (fun a12 => some a12))
theorem c_X4_begin {l : Launch} {D : va_G} {ca : Nat → ClassId} {ad : Nat → Nat} (hI : xInj ad NCC) {N : Nat} {ah : AH} {p1 : Int32} {a : AH} (h : F_X4_begin N ah p1 = some a) : xMv l yX4_begin cX4_begin 2 rm_X4_begin D vwCl (tysC ca) (EC ad ca) NCC ad [.ref (ad 57), .int p1] ah a := by
  refine x_metv (by decide) (Nat.le_of_ble_eq_true rfl) hI EC_loc ?_
  intro p e s m args below meth c C
  unfold F_X4_begin at h
  refine x_aload_n C dX4_begin_0 1 rfl 0 rfl ?_
  refine x_iload_n C dX4_begin_1 2 rfl 1 rfl ?_
  refine x_bipush C dX4_begin_2 4 rfl 24 rfl ?_
  refine x_mmin C wml_X4_90 wmt_J9_min wmn_J9 wmc_J9_min ⟨by decide, by decide⟩ (by decide) (Nat.le_of_ble_eq_true rfl) dX4_begin_4 7 rfl ?_
  refine x_put C inX4 57 lc57 EC_57 rfl 4 (by decide) tyX4_ok nmX4 dX4_begin_7 10 rfl wmf_X4_58 rfl rfl rfl (Nat.le_of_ble_eq_true rfl) EP_57_4 h (fun a7 h => ?_)
  refine x_aload_n C dX4_begin_10 11 rfl 0 rfl ?_
  refine x_iconst C dX4_begin_11 12 rfl 0 rfl ?_
  refine x_put C inX4 57 lc57 EC_57 rfl 5 (by decide) tyX4_ok nmX4 dX4_begin_12 15 rfl wmf_X4_65 rfl rfl rfl (Nat.le_of_ble_eq_true rfl) EP_57_5 h (fun a12 h => ?_)
  exact x_vret C rfl dX4_begin_15 h
abbrev rm_X4_end : Room := { frames := 1, cells := 0, slots := 0, locals := 15 }
theorem wq_X4_end : xcV RX4 yX4_end cX4_end 3 none 0 := ⟨wmi_X4_end, wms_X4_end, wmn_X4, wmc_X4_end, by decide, by decide, by decide +kernel⟩
def F_X4_end_64 (N : Nat) (k45 : AH → Int32 → Option AH) : Nat → AH → Int32 → Int32 → Option AH
  | 0, _, _, _ => none
  | n + 1, ah, v1, v2 => xg (v1 + 1) 26 (if (ah 59 (Int32.toNatClampNeg (v1 + 1))) ≤ v2 then xlet (v1 + (-1)) (fun v1_115 => k45 ah v1_115) else xg v1 25 (xg v2 624 (xg v2 624 (xg (ah 61 (Int32.toNatClampNeg v2)) 25 (xg v1 25 (xlet (xu ah 66 (Int32.toNatClampNeg v1) (xmin (ah 66 (Int32.toNatClampNeg v1)) ((ah 62 (Int32.toNatClampNeg v2)) + (ah 66 (Int32.toNatClampNeg (ah 61 (Int32.toNatClampNeg v2))))))) (fun a108 => xlet (v2 + 1) (fun v2_109 => F_X4_end_64 N k45 n a108 v1 v2_109))))))))
def F_X4_end_45 (N : Nat) : Nat → AH → Int32 → Option AH
  | 0, _, _ => none
  | n + 1, ah, v1 => if v1 < 0 then some ah else xg v1 25 (xlet (xu ah 66 (Int32.toNatClampNeg v1) 1000000) (fun a56 => xg v1 26 (xlet (a56 59 (Int32.toNatClampNeg v1)) (fun v2_63 => F_X4_end_64 N (F_X4_end_45 N n) N a56 v1 v2_63))))
def F_X4_end (N : Nat) (ah : AH) : Option AH := xg (ah 57 4) 26 (xlet (xu ah 59 (Int32.toNatClampNeg (ah 57 4)) (ah 57 5)) (fun a12 => xg ((a12 57 4) + 1) 26 (xlet (xu a12 59 (Int32.toNatClampNeg ((a12 57 4) + 1)) (a12 57 5)) (fun a27 => xg (a27 57 4) 25 (xlet (xu a27 66 (Int32.toNatClampNeg (a27 57 4)) 0) (fun a37 => xlet ((a37 57 4) - 1) (fun v1_44 => F_X4_end_45 N N a37 v1_44)))))))
theorem b_X4_end_64 (C : XC p l s m args meth c cX4_end 3 none RX4 D vwCl (tysC ca) (EC ad ca) NCC ad) {N : Nat} {o : AH} {k45 : AH → Int32 → Option AH} (hk45 : ∀ (ah : AH) (v1 : Int32), k45 ah v1 = some o → XW p l e rm_X4_end s m args below meth c 3 0 (xQv below args s D vwCl (tysC ca) (EC ad ca) NCC ad o) D vwCl (EC ad ca) NCC ad ah 45 [(0, .ref (ad 57)), (1, .int v1)] []) : ∀ (n : Nat) {ah : AH} {v1 : Int32} {v2 : Int32}, F_X4_end_64 N k45 n ah v1 v2 = some o → XW p l e rm_X4_end s m args below meth c 3 0 (xQv below args s D vwCl (tysC ca) (EC ad ca) NCC ad o) D vwCl (EC ad ca) NCC ad ah 64 [(0, .ref (ad 57)), (1, .int v1), (2, .int v2)] [] := by
  intro n
  induction n with
  | zero => intro ah v1 v2 h; unfold F_X4_end_64 at h; cases h
  | succ n ih =>
    intro ah v1 v2 h
    unfold F_X4_end_64 at h
    refine x_iload_n C dX4_end_64 65 rfl 2 rfl ?_
    refine x_aload_n C dX4_end_65 66 rfl 0 rfl ?_
    refine x_get C inX4 57 lc57 EC_57 rfl 7 (by decide) dX4_end_66 69 rfl wmf_X4_15 rfl ?_
    refine x_iload_n C dX4_end_69 70 rfl 1 rfl ?_
    refine x_iconst C dX4_end_70 71 rfl 1 rfl ?_
    refine x_iadd C dX4_end_71 72 rfl ?_
    refine x_iald C 59 lc59 EC_59 0 rfl dX4_end_72 73 rfl h (fun h => ?_)
    refine x_icmp_ge C dX4_end_73 76 rfl 115 rfl h (fun h => ?_) (fun h => ?_)
    · refine x_iinc C dX4_end_115 118 rfl 1 rfl (d := (-1)) rfl (by decide) (fun v1_115 => [(1, .int v1_115), (0, .ref (ad 57)), (2, .int v2)]) (fun _ => rfl) h (fun v1_115 h => ?_)
      refine x_goto C dX4_end_118 45 rfl ?_
      exact x_sub [1, 0] rfl (hk45 _ _ h)
    · refine x_aload_n C dX4_end_76 77 rfl 0 rfl ?_
      refine x_get C inX4 57 lc57 EC_57 rfl 14 (by decide) dX4_end_77 80 rfl wmf_X4_36 rfl ?_
      refine x_iload_n C dX4_end_80 81 rfl 1 rfl ?_
      refine x_aload_n C dX4_end_81 82 rfl 0 rfl ?_
      refine x_get C inX4 57 lc57 EC_57 rfl 14 (by decide) dX4_end_82 85 rfl wmf_X4_36 rfl ?_
      refine x_iload_n C dX4_end_85 86 rfl 1 rfl ?_
      refine x_iald C 66 lc66 EC_66 0 rfl dX4_end_86 87 rfl h (fun h => ?_)
      refine x_aload_n C dX4_end_87 88 rfl 0 rfl ?_
      refine x_get C inX4 57 lc57 EC_57 rfl 10 (by decide) dX4_end_88 91 rfl wmf_X4_24 rfl ?_
      refine x_iload_n C dX4_end_91 92 rfl 2 rfl ?_
      refine x_iald C 62 lc62 EC_62 0 rfl dX4_end_92 93 rfl h (fun h => ?_)
      refine x_aload_n C dX4_end_93 94 rfl 0 rfl ?_
      refine x_get C inX4 57 lc57 EC_57 rfl 14 (by decide) dX4_end_94 97 rfl wmf_X4_36 rfl ?_
      refine x_aload_n C dX4_end_97 98 rfl 0 rfl ?_
      refine x_get C inX4 57 lc57 EC_57 rfl 9 (by decide) dX4_end_98 101 rfl wmf_X4_21 rfl ?_
      refine x_iload_n C dX4_end_101 102 rfl 2 rfl ?_
      refine x_iald C 61 lc61 EC_61 0 rfl dX4_end_102 103 rfl h (fun h => ?_)
      refine x_iald C 66 lc66 EC_66 0 rfl dX4_end_103 104 rfl h (fun h => ?_)
      refine x_iadd C dX4_end_104 105 rfl ?_
      refine x_mmin C wml_X4_90 wmt_J9_min wmn_J9 wmc_J9_min ⟨by decide, by decide⟩ (by decide) (Nat.le_of_ble_eq_true rfl) dX4_end_105 108 rfl ?_
      refine x_iast C 66 lc66 (fun _ => EC_66) 0 rfl dX4_end_108 109 rfl h (fun a108 h => ?_)
      refine x_iinc C dX4_end_109 112 rfl 2 rfl (d := 1) rfl (by decide) (fun v2_109 => [(2, .int v2_109), (0, .ref (ad 57)), (1, .int v1)]) (fun _ => rfl) h (fun v2_109 h => ?_)
      refine x_goto C dX4_end_112 64 rfl ?_
      exact x_sub [1, 2, 0] rfl (ih h)
theorem b_X4_end_45 (C : XC p l s m args meth c cX4_end 3 none RX4 D vwCl (tysC ca) (EC ad ca) NCC ad) {N : Nat} {o : AH} : ∀ (n : Nat) {ah : AH} {v1 : Int32}, F_X4_end_45 N n ah v1 = some o → XW p l e rm_X4_end s m args below meth c 3 0 (xQv below args s D vwCl (tysC ca) (EC ad ca) NCC ad o) D vwCl (EC ad ca) NCC ad ah 45 [(0, .ref (ad 57)), (1, .int v1)] [] := by
  intro n
  induction n with
  | zero => intro ah v1 h; unfold F_X4_end_45 at h; cases h
  | succ n ih =>
    intro ah v1 h
    unfold F_X4_end_45 at h
    refine x_iload_n C dX4_end_45 46 rfl 1 rfl ?_
    refine x_if_lt C dX4_end_46 49 rfl 121 rfl h (fun h => ?_) (fun h => ?_)
    · exact x_vret C rfl dX4_end_121 h
    · refine x_aload_n C dX4_end_49 50 rfl 0 rfl ?_
      refine x_get C inX4 57 lc57 EC_57 rfl 14 (by decide) dX4_end_50 53 rfl wmf_X4_36 rfl ?_
      refine x_iload_n C dX4_end_53 54 rfl 1 rfl ?_
      refine x_ldc C dX4_end_54 56 rfl wmk_X4_137 ?_
      refine x_iast C 66 lc66 (fun _ => EC_66) 0 rfl dX4_end_56 57 rfl h (fun a56 h => ?_)
      refine x_aload_n C dX4_end_57 58 rfl 0 rfl ?_
      refine x_get C inX4 57 lc57 EC_57 rfl 7 (by decide) dX4_end_58 61 rfl wmf_X4_15 rfl ?_
      refine x_iload_n C dX4_end_61 62 rfl 1 rfl ?_
      refine x_iald C 59 lc59 EC_59 0 rfl dX4_end_62 63 rfl h (fun h => ?_)
      refine x_istore_n C dX4_end_63 64 rfl (by decide) (fun v2_63 => [(2, .int v2_63), (0, .ref (ad 57)), (1, .int v1)]) (fun _ => rfl) h (fun v2_63 h => ?_)
      exact x_sub [1, 2, 0] rfl (b_X4_end_64 C (fun _ _ h => ih h) N h)
theorem c_X4_end {l : Launch} {D : va_G} {ca : Nat → ClassId} {ad : Nat → Nat} (hI : xInj ad NCC) {N : Nat} {ah : AH} {a : AH} (h : F_X4_end N ah = some a) : xMv l yX4_end cX4_end 3 rm_X4_end D vwCl (tysC ca) (EC ad ca) NCC ad [.ref (ad 57)] ah a := by
  refine x_metv (by decide) (Nat.le_of_ble_eq_true rfl) hI EC_loc ?_
  intro p e s m args below meth c C
  unfold F_X4_end at h
  refine x_aload_n C dX4_end_0 1 rfl 0 rfl ?_
  refine x_get C inX4 57 lc57 EC_57 rfl 7 (by decide) dX4_end_1 4 rfl wmf_X4_15 rfl ?_
  refine x_aload_n C dX4_end_4 5 rfl 0 rfl ?_
  refine x_get C inX4 57 lc57 EC_57 rfl 4 (by decide) dX4_end_5 8 rfl wmf_X4_58 rfl ?_
  refine x_aload_n C dX4_end_8 9 rfl 0 rfl ?_
  refine x_get C inX4 57 lc57 EC_57 rfl 5 (by decide) dX4_end_9 12 rfl wmf_X4_65 rfl ?_
  refine x_iast C 59 lc59 (fun _ => EC_59) 0 rfl dX4_end_12 13 rfl h (fun a12 h => ?_)
  refine x_aload_n C dX4_end_13 14 rfl 0 rfl ?_
  refine x_get C inX4 57 lc57 EC_57 rfl 7 (by decide) dX4_end_14 17 rfl wmf_X4_15 rfl ?_
  refine x_aload_n C dX4_end_17 18 rfl 0 rfl ?_
  refine x_get C inX4 57 lc57 EC_57 rfl 4 (by decide) dX4_end_18 21 rfl wmf_X4_58 rfl ?_
  refine x_iconst C dX4_end_21 22 rfl 1 rfl ?_
  refine x_iadd C dX4_end_22 23 rfl ?_
  refine x_aload_n C dX4_end_23 24 rfl 0 rfl ?_
  refine x_get C inX4 57 lc57 EC_57 rfl 5 (by decide) dX4_end_24 27 rfl wmf_X4_65 rfl ?_
  refine x_iast C 59 lc59 (fun _ => EC_59) 0 rfl dX4_end_27 28 rfl h (fun a27 h => ?_)
  refine x_aload_n C dX4_end_28 29 rfl 0 rfl ?_
  refine x_get C inX4 57 lc57 EC_57 rfl 14 (by decide) dX4_end_29 32 rfl wmf_X4_36 rfl ?_
  refine x_aload_n C dX4_end_32 33 rfl 0 rfl ?_
  refine x_get C inX4 57 lc57 EC_57 rfl 4 (by decide) dX4_end_33 36 rfl wmf_X4_58 rfl ?_
  refine x_iconst C dX4_end_36 37 rfl 0 rfl ?_
  refine x_iast C 66 lc66 (fun _ => EC_66) 0 rfl dX4_end_37 38 rfl h (fun a37 h => ?_)
  refine x_aload_n C dX4_end_38 39 rfl 0 rfl ?_
  refine x_get C inX4 57 lc57 EC_57 rfl 4 (by decide) dX4_end_39 42 rfl wmf_X4_58 rfl ?_
  refine x_iconst C dX4_end_42 43 rfl 1 rfl ?_
  refine x_isub C dX4_end_43 44 rfl ?_
  refine x_istore_n C dX4_end_44 45 rfl (by decide) (fun v1_44 => [(1, .int v1_44), (0, .ref (ad 57))]) (fun _ => rfl) h (fun v1_44 h => ?_)
  exact x_sub [1, 0] rfl (b_X4_end_45 C  N h)
abbrev rm_X4_addEdge : Room := { frames := 0, cells := 0, slots := 0, locals := 0 }
theorem wq_X4_addEdge : xcV RX4 yX4_addEdge cX4_addEdge 5 (some .int) 3 := ⟨wmi_X4_addEdge, wms_X4_addEdge, wmn_X4, wmc_X4_addEdge, by decide, by decide, by decide +kernel⟩
def F_X4_addEdge (N : Nat) (ah : AH) (p1 : Int32) (p2 : Int32) (p3 : Int32) : Option (Int32 × AH) := xlet (ah 57 5) (fun v4_4 => if v4_4 < 624 then xlet (xu ah 57 5 ((ah 57 5) + 1)) (fun a23 => xg v4_4 624 (xlet (xu a23 60 (Int32.toNatClampNeg v4_4) p1) (fun a33 => xg v4_4 624 (xlet (xu a33 61 (Int32.toNatClampNeg v4_4) p2) (fun a41 => xg v4_4 624 (xlet (xu a41 62 (Int32.toNatClampNeg v4_4) p3) (fun a49 => xg v4_4 624 (xlet (xu a49 63 (Int32.toNatClampNeg v4_4) 0) (fun a57 => xg v4_4 624 (xlet (xu a57 65 (Int32.toNatClampNeg v4_4) ((-1))) (fun a65 => some (v4_4, a65)))))))))))) else some ((-1), ah))
theorem c_X4_addEdge {l : Launch} {D : va_G} {ca : Nat → ClassId} {ad : Nat → Nat} (hI : xInj ad NCC) {N : Nat} {ah : AH} {p1 : Int32} {p2 : Int32} {p3 : Int32} {r : Int32} {a : AH} (h : F_X4_addEdge N ah p1 p2 p3 = some (r, a)) : xMi l yX4_addEdge cX4_addEdge 5 (some .int) rm_X4_addEdge D vwCl (tysC ca) (EC ad ca) NCC ad [.ref (ad 57), .int p1, .int p2, .int p3] ah (r, a) := by
  refine x_meti (by decide) (Nat.le_of_ble_eq_true rfl) hI EC_loc ?_
  intro p e s m args below meth c C
  unfold F_X4_addEdge at h
  refine x_aload_n C dX4_addEdge_0 1 rfl 0 rfl ?_
  refine x_get C inX4 57 lc57 EC_57 rfl 5 (by decide) dX4_addEdge_1 4 rfl wmf_X4_65 rfl ?_
  refine x_istore C dX4_addEdge_4 6 rfl (by decide) (fun v4_4 => [(4, .int v4_4), (0, .ref (ad 57)), (1, .int p1), (2, .int p2), (3, .int p3)]) (fun _ => rfl) h (fun v4_4 h => ?_)
  refine x_iload C dX4_addEdge_6 8 rfl 0 rfl ?_
  refine x_sipush C dX4_addEdge_8 11 rfl 624 rfl ?_
  refine x_icmp_lt C dX4_addEdge_11 14 rfl 16 rfl h (fun h => ?_) (fun h => ?_)
  · refine x_aload_n C dX4_addEdge_16 17 rfl 1 rfl ?_
    refine x_dup C dX4_addEdge_17 18 rfl rfl ?_
    refine x_get C inX4 57 lc57 EC_57 rfl 5 (by decide) dX4_addEdge_18 21 rfl wmf_X4_65 rfl ?_
    refine x_iconst C dX4_addEdge_21 22 rfl 1 rfl ?_
    refine x_iadd C dX4_addEdge_22 23 rfl ?_
    refine x_put C inX4 57 lc57 EC_57 rfl 5 (by decide) tyX4_ok nmX4 dX4_addEdge_23 26 rfl wmf_X4_65 rfl rfl rfl (Nat.le_of_ble_eq_true rfl) EP_57_5 h (fun a23 h => ?_)
    refine x_aload_n C dX4_addEdge_26 27 rfl 1 rfl ?_
    refine x_get C inX4 57 lc57 EC_57 rfl 8 (by decide) dX4_addEdge_27 30 rfl wmf_X4_18 rfl ?_
    refine x_iload C dX4_addEdge_30 32 rfl 0 rfl ?_
    refine x_iload_n C dX4_addEdge_32 33 rfl 2 rfl ?_
    refine x_iast C 60 lc60 (fun _ => EC_60) 0 rfl dX4_addEdge_33 34 rfl h (fun a33 h => ?_)
    refine x_aload_n C dX4_addEdge_34 35 rfl 1 rfl ?_
    refine x_get C inX4 57 lc57 EC_57 rfl 9 (by decide) dX4_addEdge_35 38 rfl wmf_X4_21 rfl ?_
    refine x_iload C dX4_addEdge_38 40 rfl 0 rfl ?_
    refine x_iload_n C dX4_addEdge_40 41 rfl 3 rfl ?_
    refine x_iast C 61 lc61 (fun _ => EC_61) 0 rfl dX4_addEdge_41 42 rfl h (fun a41 h => ?_)
    refine x_aload_n C dX4_addEdge_42 43 rfl 1 rfl ?_
    refine x_get C inX4 57 lc57 EC_57 rfl 10 (by decide) dX4_addEdge_43 46 rfl wmf_X4_24 rfl ?_
    refine x_iload C dX4_addEdge_46 48 rfl 0 rfl ?_
    refine x_iload_n C dX4_addEdge_48 49 rfl 4 rfl ?_
    refine x_iast C 62 lc62 (fun _ => EC_62) 0 rfl dX4_addEdge_49 50 rfl h (fun a49 h => ?_)
    refine x_aload_n C dX4_addEdge_50 51 rfl 1 rfl ?_
    refine x_get C inX4 57 lc57 EC_57 rfl 11 (by decide) dX4_addEdge_51 54 rfl wmf_X4_27 rfl ?_
    refine x_iload C dX4_addEdge_54 56 rfl 0 rfl ?_
    refine x_iconst C dX4_addEdge_56 57 rfl 0 rfl ?_
    refine x_iast C 63 lc63 (fun _ => EC_63) 0 rfl dX4_addEdge_57 58 rfl h (fun a57 h => ?_)
    refine x_aload_n C dX4_addEdge_58 59 rfl 1 rfl ?_
    refine x_get C inX4 57 lc57 EC_57 rfl 13 (by decide) dX4_addEdge_59 62 rfl wmf_X4_33 rfl ?_
    refine x_iload C dX4_addEdge_62 64 rfl 0 rfl ?_
    refine x_iconst C dX4_addEdge_64 65 rfl (-1) rfl ?_
    refine x_iast C 65 lc65 (fun _ => EC_65) 0 rfl dX4_addEdge_65 66 rfl h (fun a65 h => ?_)
    refine x_iload C dX4_addEdge_66 68 rfl 0 rfl ?_
    exact x_iret C rfl dX4_addEdge_68 h
  · refine x_iconst C dX4_addEdge_14 15 rfl (-1) rfl ?_
    exact x_iret C rfl dX4_addEdge_15 h
abbrev rm_X4_addSign : Room := { frames := 1, cells := 0, slots := 0, locals := 24 }
theorem wq_X4_addSign : xcV RX4 yX4_addSign cX4_addSign 5 none 3 := ⟨wmi_X4_addSign, wms_X4_addSign, wmn_X4, wmc_X4_addSign, by decide, by decide, by decide +kernel⟩
def F_X4_addSign (N : Nat) (ah : AH) (p1 : Int32) (p2 : Int32) (p3 : Int32) : Option AH := xb (F_X4_addEdge N ah p1 (p1 + 1) p3) (fun r6 a6 => xlet r6 (fun v4_9 => if v4_9 = ((-1)) then some a6 else xg v4_9 624 (xlet (xu a6 63 (Int32.toNatClampNeg v4_9) 1) (fun a24 => xg (v4_9 * 3) 1872 (xlet (xu a24 64 (Int32.toNatClampNeg (v4_9 * 3)) p2) (fun a34 => some a34))))))
theorem c_X4_addSign {l : Launch} {D : va_G} {ca : Nat → ClassId} {ad : Nat → Nat} (hI : xInj ad NCC) {N : Nat} {ah : AH} {p1 : Int32} {p2 : Int32} {p3 : Int32} {a : AH} (h : F_X4_addSign N ah p1 p2 p3 = some a) : xMv l yX4_addSign cX4_addSign 5 rm_X4_addSign D vwCl (tysC ca) (EC ad ca) NCC ad [.ref (ad 57), .int p1, .int p2, .int p3] ah a := by
  refine x_metv (by decide) (Nat.le_of_ble_eq_true rfl) hI EC_loc ?_
  intro p e s m args below meth c C
  unfold F_X4_addSign at h
  refine x_aload_n C dX4_addSign_0 1 rfl 0 rfl ?_
  refine x_iload_n C dX4_addSign_1 2 rfl 1 rfl ?_
  refine x_iload_n C dX4_addSign_2 3 rfl 1 rfl ?_
  refine x_iconst C dX4_addSign_3 4 rfl 1 rfl ?_
  refine x_iadd C dX4_addSign_4 5 rfl ?_
  refine x_iload_n C dX4_addSign_5 6 rfl 3 rfl ?_
  obtain ⟨r6, a6, hq, h⟩ := xb_some h
  refine x_callVi C 57 (c_X4_addEdge C.2.2.2.2.2.2.1 hq) lc57 EC_57 rfl wml_X4_99 wq_X4_addEdge rfl ⟨by decide, by decide⟩ rfl rfl ⟨by decide, by decide⟩ dX4_addSign_6 9 rfl rfl (Nat.le_of_ble_eq_true rfl) ?_
  refine x_istore C dX4_addSign_9 11 rfl (by decide) (fun v4_9 => [(4, .int v4_9), (0, .ref (ad 57)), (1, .int p1), (2, .int p2), (3, .int p3)]) (fun _ => rfl) h (fun v4_9 h => ?_)
  refine x_iload C dX4_addSign_11 13 rfl 0 rfl ?_
  refine x_iconst C dX4_addSign_13 14 rfl (-1) rfl ?_
  refine x_icmp_eq C dX4_addSign_14 17 rfl 35 rfl h (fun h => ?_) (fun h => ?_)
  · exact x_vret C rfl dX4_addSign_35 h
  · refine x_aload_n C dX4_addSign_17 18 rfl 1 rfl ?_
    refine x_get C inX4 57 lc57 EC_57 rfl 11 (by decide) dX4_addSign_18 21 rfl wmf_X4_27 rfl ?_
    refine x_iload C dX4_addSign_21 23 rfl 0 rfl ?_
    refine x_iconst C dX4_addSign_23 24 rfl 1 rfl ?_
    refine x_iast C 63 lc63 (fun _ => EC_63) 0 rfl dX4_addSign_24 25 rfl h (fun a24 h => ?_)
    refine x_aload_n C dX4_addSign_25 26 rfl 1 rfl ?_
    refine x_get C inX4 57 lc57 EC_57 rfl 12 (by decide) dX4_addSign_26 29 rfl wmf_X4_30 rfl ?_
    refine x_iload C dX4_addSign_29 31 rfl 0 rfl ?_
    refine x_iconst C dX4_addSign_31 32 rfl 3 rfl ?_
    refine x_imul C dX4_addSign_32 33 rfl ?_
    refine x_iload_n C dX4_addSign_33 34 rfl 3 rfl ?_
    refine x_iast C 64 lc64 (fun _ => EC_64) 0 rfl dX4_addSign_34 35 rfl h (fun a34 h => ?_)
    exact x_vret C rfl dX4_addSign_35 h
abbrev rm_X4_addRead : Room := { frames := 2, cells := 0, slots := 0, locals := 48 }
theorem wq_X4_addRead : xcV RX4 yX4_addRead cX4_addRead 4 none 1 := ⟨wmi_X4_addRead, wms_X4_addRead, wmn_X4, wmc_X4_addRead, by decide, by decide, by decide +kernel⟩
def F_X4_addRead_84 (N : Nat) (ah : AH) (v1 : Int32) (v2 : Int32) : Option AH := if v2 = 45 then xb (F_X4_addEdge N ah v1 (v1 + 1) (ah 1 3)) (fun r101 a101 => some a101) else some ah
def F_X4_addRead_15 (N : Nat) : Nat → AH → Int32 → Int32 → Int32 → Option AH
  | 0, _, _, _, _ => none
  | n + 1, ah, v1, v2, v3 => if 26 ≤ v3 then F_X4_addRead_84 N ah v1 v2 else xbv (F_X4_addSign N ah v1 (97 + v3) (ah 1 2)) (fun a33 => xlet (v3 + 1) (fun v3_36 => F_X4_addRead_15 N n a33 v1 v2 v3_36))
def F_X4_addRead (N : Nat) (ah : AH) (p1 : Int32) : Option AH := xg p1 24 (xlet (ah 58 (Int32.toNatClampNeg p1)) (fun v2_6 => if v2_6 = 63 then xlet 0 (fun v3_14 => F_X4_addRead_15 N N ah p1 v2_6 v3_14) else if v2_6 = 10 then xb (F_X4_addEdge N ah p1 (p1 + 1) 0) (fun r57 a57 => xbv (F_X4_addSign N a57 p1 45 (a57 1 4)) (fun a71 => F_X4_addRead_84 N a71 p1 v2_6)) else xbv (F_X4_addSign N ah p1 v2_6 0) (fun a81 => F_X4_addRead_84 N a81 p1 v2_6)))
theorem b_X4_addRead_84 (C : XC p l s m args meth c cX4_addRead 4 none RX4 D vwCl (tysC ca) (EC ad ca) NCC ad) {N : Nat} {o : AH} {ah : AH} {v1 : Int32} {v2 : Int32} (h : F_X4_addRead_84 N ah v1 v2 = some o) : XW p l e rm_X4_addRead s m args below meth c 4 0 (xQv below args s D vwCl (tysC ca) (EC ad ca) NCC ad o) D vwCl (EC ad ca) NCC ad ah 84 [(0, .ref (ad 57)), (1, .int v1), (2, .int v2)] [] := by
  unfold F_X4_addRead_84 at h
  refine x_iload_n C dX4_addRead_84 85 rfl 2 rfl ?_
  refine x_bipush C dX4_addRead_85 87 rfl 45 rfl ?_
  refine x_icmp_ne C dX4_addRead_87 90 rfl 105 rfl h (fun h => ?_) (fun h => ?_)
  · exact x_vret C rfl dX4_addRead_105 h
  · refine x_aload_n C dX4_addRead_90 91 rfl 0 rfl ?_
    refine x_iload_n C dX4_addRead_91 92 rfl 1 rfl ?_
    refine x_iload_n C dX4_addRead_92 93 rfl 1 rfl ?_
    refine x_iconst C dX4_addRead_93 94 rfl 1 rfl ?_
    refine x_iadd C dX4_addRead_94 95 rfl ?_
    refine x_aload_n C dX4_addRead_95 96 rfl 0 rfl ?_
    refine x_get C inX4 57 lc57 EC_57 rfl 3 (by decide) dX4_addRead_96 99 rfl wmf_X4_51 rfl ?_
    refine x_iconst C dX4_addRead_99 100 rfl 3 rfl ?_
    refine x_ialdK C 1 lc1 EC_1 0 rfl dX4_addRead_100 101 rfl (by decide) 3 (by decide) ?_
    obtain ⟨r101, a101, hq, h⟩ := xb_some h
    refine x_callVi C 57 (c_X4_addEdge C.2.2.2.2.2.2.1 hq) lc57 EC_57 rfl wml_X4_99 wq_X4_addEdge rfl ⟨by decide, by decide⟩ rfl rfl ⟨by decide, by decide⟩ dX4_addRead_101 104 rfl rfl (Nat.le_of_ble_eq_true rfl) ?_
    refine x_pop C dX4_addRead_104 105 rfl rfl ?_
    exact x_vret C rfl dX4_addRead_105 h
theorem b_X4_addRead_15 (C : XC p l s m args meth c cX4_addRead 4 none RX4 D vwCl (tysC ca) (EC ad ca) NCC ad) {N : Nat} {o : AH} : ∀ (n : Nat) {ah : AH} {v1 : Int32} {v2 : Int32} {v3 : Int32}, F_X4_addRead_15 N n ah v1 v2 v3 = some o → XW p l e rm_X4_addRead s m args below meth c 4 0 (xQv below args s D vwCl (tysC ca) (EC ad ca) NCC ad o) D vwCl (EC ad ca) NCC ad ah 15 [(0, .ref (ad 57)), (1, .int v1), (2, .int v2), (3, .int v3)] [] := by
  intro n
  induction n with
  | zero => intro ah v1 v2 v3 h; unfold F_X4_addRead_15 at h; cases h
  | succ n ih =>
    intro ah v1 v2 v3 h
    unfold F_X4_addRead_15 at h
    refine x_iload_n C dX4_addRead_15 16 rfl 3 rfl ?_
    refine x_bipush C dX4_addRead_16 18 rfl 26 rfl ?_
    refine x_icmp_ge C dX4_addRead_18 21 rfl 42 rfl h (fun h => ?_) (fun h => ?_)
    · refine x_goto C dX4_addRead_42 84 rfl ?_
      exact x_sub [0, 1, 2] rfl (b_X4_addRead_84 C  h)
    · refine x_aload_n C dX4_addRead_21 22 rfl 0 rfl ?_
      refine x_iload_n C dX4_addRead_22 23 rfl 1 rfl ?_
      refine x_bipush C dX4_addRead_23 25 rfl 97 rfl ?_
      refine x_iload_n C dX4_addRead_25 26 rfl 3 rfl ?_
      refine x_iadd C dX4_addRead_26 27 rfl ?_
      refine x_aload_n C dX4_addRead_27 28 rfl 0 rfl ?_
      refine x_get C inX4 57 lc57 EC_57 rfl 3 (by decide) dX4_addRead_28 31 rfl wmf_X4_51 rfl ?_
      refine x_iconst C dX4_addRead_31 32 rfl 2 rfl ?_
      refine x_ialdK C 1 lc1 EC_1 0 rfl dX4_addRead_32 33 rfl (by decide) 2 (by decide) ?_
      obtain ⟨a33, hq, h⟩ := xbv_some h
      refine x_callVv C 57 (c_X4_addSign C.2.2.2.2.2.2.1 hq) lc57 EC_57 rfl wml_X4_95 wq_X4_addSign rfl ⟨by decide, by decide⟩ rfl rfl ⟨by decide, by decide⟩ dX4_addRead_33 36 rfl rfl (Nat.le_of_ble_eq_true rfl) ?_
      refine x_iinc C dX4_addRead_36 39 rfl 3 rfl (d := 1) rfl (by decide) (fun v3_36 => [(3, .int v3_36), (0, .ref (ad 57)), (1, .int v1), (2, .int v2)]) (fun _ => rfl) h (fun v3_36 h => ?_)
      refine x_goto C dX4_addRead_39 15 rfl ?_
      exact x_sub [1, 2, 3, 0] rfl (ih h)
theorem c_X4_addRead {l : Launch} {D : va_G} {ca : Nat → ClassId} {ad : Nat → Nat} (hI : xInj ad NCC) {N : Nat} {ah : AH} {p1 : Int32} {a : AH} (h : F_X4_addRead N ah p1 = some a) : xMv l yX4_addRead cX4_addRead 4 rm_X4_addRead D vwCl (tysC ca) (EC ad ca) NCC ad [.ref (ad 57), .int p1] ah a := by
  refine x_metv (by decide) (Nat.le_of_ble_eq_true rfl) hI EC_loc ?_
  intro p e s m args below meth c C
  unfold F_X4_addRead at h
  refine x_aload_n C dX4_addRead_0 1 rfl 0 rfl ?_
  refine x_get C inX4 57 lc57 EC_57 rfl 6 (by decide) dX4_addRead_1 4 rfl wmf_X4_9 rfl ?_
  refine x_iload_n C dX4_addRead_4 5 rfl 1 rfl ?_
  refine x_iald C 58 lc58 EC_58 0 rfl dX4_addRead_5 6 rfl h (fun h => ?_)
  refine x_istore_n C dX4_addRead_6 7 rfl (by decide) (fun v2_6 => [(2, .int v2_6), (0, .ref (ad 57)), (1, .int p1)]) (fun _ => rfl) h (fun v2_6 h => ?_)
  refine x_iload_n C dX4_addRead_7 8 rfl 0 rfl ?_
  refine x_bipush C dX4_addRead_8 10 rfl 63 rfl ?_
  refine x_icmp_ne C dX4_addRead_10 13 rfl 45 rfl h (fun h => ?_) (fun h => ?_)
  · refine x_iload_n C dX4_addRead_45 46 rfl 0 rfl ?_
    refine x_bipush C dX4_addRead_46 48 rfl 10 rfl ?_
    refine x_icmp_ne C dX4_addRead_48 51 rfl 77 rfl h (fun h => ?_) (fun h => ?_)
    · refine x_aload_n C dX4_addRead_77 78 rfl 1 rfl ?_
      refine x_iload_n C dX4_addRead_78 79 rfl 2 rfl ?_
      refine x_iload_n C dX4_addRead_79 80 rfl 0 rfl ?_
      refine x_iconst C dX4_addRead_80 81 rfl 0 rfl ?_
      obtain ⟨a81, hq, h⟩ := xbv_some h
      refine x_callVv C 57 (c_X4_addSign C.2.2.2.2.2.2.1 hq) lc57 EC_57 rfl wml_X4_95 wq_X4_addSign rfl ⟨by decide, by decide⟩ rfl rfl ⟨by decide, by decide⟩ dX4_addRead_81 84 rfl rfl (Nat.le_of_ble_eq_true rfl) ?_
      exact x_sub [1, 2, 0] rfl (b_X4_addRead_84 C  h)
    · refine x_aload_n C dX4_addRead_51 52 rfl 1 rfl ?_
      refine x_iload_n C dX4_addRead_52 53 rfl 2 rfl ?_
      refine x_iload_n C dX4_addRead_53 54 rfl 2 rfl ?_
      refine x_iconst C dX4_addRead_54 55 rfl 1 rfl ?_
      refine x_iadd C dX4_addRead_55 56 rfl ?_
      refine x_iconst C dX4_addRead_56 57 rfl 0 rfl ?_
      obtain ⟨r57, a57, hq, h⟩ := xb_some h
      refine x_callVi C 57 (c_X4_addEdge C.2.2.2.2.2.2.1 hq) lc57 EC_57 rfl wml_X4_99 wq_X4_addEdge rfl ⟨by decide, by decide⟩ rfl rfl ⟨by decide, by decide⟩ dX4_addRead_57 60 rfl rfl (Nat.le_of_ble_eq_true rfl) ?_
      refine x_pop C dX4_addRead_60 61 rfl rfl ?_
      refine x_aload_n C dX4_addRead_61 62 rfl 1 rfl ?_
      refine x_iload_n C dX4_addRead_62 63 rfl 2 rfl ?_
      refine x_bipush C dX4_addRead_63 65 rfl 45 rfl ?_
      refine x_aload_n C dX4_addRead_65 66 rfl 1 rfl ?_
      refine x_get C inX4 57 lc57 EC_57 rfl 3 (by decide) dX4_addRead_66 69 rfl wmf_X4_51 rfl ?_
      refine x_iconst C dX4_addRead_69 70 rfl 4 rfl ?_
      refine x_ialdK C 1 lc1 EC_1 0 rfl dX4_addRead_70 71 rfl (by decide) 4 (by decide) ?_
      obtain ⟨a71, hq, h⟩ := xbv_some h
      refine x_callVv C 57 (c_X4_addSign C.2.2.2.2.2.2.1 hq) lc57 EC_57 rfl wml_X4_95 wq_X4_addSign rfl ⟨by decide, by decide⟩ rfl rfl ⟨by decide, by decide⟩ dX4_addRead_71 74 rfl rfl (Nat.le_of_ble_eq_true rfl) ?_
      refine x_goto C dX4_addRead_74 84 rfl ?_
      exact x_sub [1, 2, 0] rfl (b_X4_addRead_84 C  h)
  · refine x_iconst C dX4_addRead_13 14 rfl 0 rfl ?_
    refine x_istore_n C dX4_addRead_14 15 rfl (by decide) (fun v3_14 => [(3, .int v3_14), (2, .int v2_6), (0, .ref (ad 57)), (1, .int p1)]) (fun _ => rfl) h (fun v3_14 h => ?_)
    exact x_sub [2, 3, 1, 0] rfl (b_X4_addRead_15 C  N h)
abbrev rm_X4_addOthers : Room := { frames := 2, cells := 0, slots := 0, locals := 48 }
theorem wq_X4_addOthers : xcV RX4 yX4_addOthers cX4_addOthers 5 none 2 := ⟨wmi_X4_addOthers, wms_X4_addOthers, wmn_X4, wmc_X4_addOthers, by decide, by decide, by decide +kernel⟩
def F_X4_addOthers_2 (N : Nat) : Nat → AH → Int32 → Int32 → Int32 → Option AH
  | 0, _, _, _, _ => none
  | n + 1, ah, v1, v2, v3 => xg v2 400 (if (ah 37 (Int32.toNatClampNeg v2)) ≤ v3 then some ah else xlet ((v2 * 3) + v3) (fun v4_20 => xg v4_20 1200 (xg v4_20 1200 (xbv (F_X4_addSign N ah v1 (ah 38 (Int32.toNatClampNeg v4_20)) (ah 39 (Int32.toNatClampNeg v4_20))) (fun a44 => xlet (v3 + 1) (fun v3_47 => F_X4_addOthers_2 N n a44 v1 v2 v3_47))))))
def F_X4_addOthers (N : Nat) (ah : AH) (p1 : Int32) (p2 : Int32) : Option AH := xlet 0 (fun v3_1 => F_X4_addOthers_2 N N ah p1 p2 v3_1)
theorem b_X4_addOthers_2 (C : XC p l s m args meth c cX4_addOthers 5 none RX4 D vwCl (tysC ca) (EC ad ca) NCC ad) {N : Nat} {o : AH} : ∀ (n : Nat) {ah : AH} {v1 : Int32} {v2 : Int32} {v3 : Int32}, F_X4_addOthers_2 N n ah v1 v2 v3 = some o → XW p l e rm_X4_addOthers s m args below meth c 5 0 (xQv below args s D vwCl (tysC ca) (EC ad ca) NCC ad o) D vwCl (EC ad ca) NCC ad ah 2 [(0, .ref (ad 57)), (1, .int v1), (2, .int v2), (3, .int v3)] [] := by
  intro n
  induction n with
  | zero => intro ah v1 v2 v3 h; unfold F_X4_addOthers_2 at h; cases h
  | succ n ih =>
    intro ah v1 v2 v3 h
    unfold F_X4_addOthers_2 at h
    refine x_iload_n C dX4_addOthers_2 3 rfl 3 rfl ?_
    refine x_aload_n C dX4_addOthers_3 4 rfl 0 rfl ?_
    refine x_get C inX4 57 lc57 EC_57 rfl 2 (by decide) dX4_addOthers_4 7 rfl wmf_X4_47 rfl ?_
    refine x_get C inX5 31 lc31 EC_31 rfl 8 (by decide) dX4_addOthers_7 10 rfl wmf_X4_103 rfl ?_
    refine x_iload_n C dX4_addOthers_10 11 rfl 2 rfl ?_
    refine x_iald C 37 lc37 EC_37 0 rfl dX4_addOthers_11 12 rfl h (fun h => ?_)
    refine x_icmp_ge C dX4_addOthers_12 15 rfl 53 rfl h (fun h => ?_) (fun h => ?_)
    · exact x_vret C rfl dX4_addOthers_53 h
    · refine x_iload_n C dX4_addOthers_15 16 rfl 2 rfl ?_
      refine x_iconst C dX4_addOthers_16 17 rfl 3 rfl ?_
      refine x_imul C dX4_addOthers_17 18 rfl ?_
      refine x_iload_n C dX4_addOthers_18 19 rfl 3 rfl ?_
      refine x_iadd C dX4_addOthers_19 20 rfl ?_
      refine x_istore C dX4_addOthers_20 22 rfl (by decide) (fun v4_20 => [(4, .int v4_20), (0, .ref (ad 57)), (1, .int v1), (2, .int v2), (3, .int v3)]) (fun _ => rfl) h (fun v4_20 h => ?_)
      refine x_aload_n C dX4_addOthers_22 23 rfl 1 rfl ?_
      refine x_iload_n C dX4_addOthers_23 24 rfl 2 rfl ?_
      refine x_aload_n C dX4_addOthers_24 25 rfl 1 rfl ?_
      refine x_get C inX4 57 lc57 EC_57 rfl 2 (by decide) dX4_addOthers_25 28 rfl wmf_X4_47 rfl ?_
      refine x_get C inX5 31 lc31 EC_31 rfl 9 (by decide) dX4_addOthers_28 31 rfl wmf_X4_106 rfl ?_
      refine x_iload C dX4_addOthers_31 33 rfl 0 rfl ?_
      refine x_iald C 38 lc38 EC_38 0 rfl dX4_addOthers_33 34 rfl h (fun h => ?_)
      refine x_aload_n C dX4_addOthers_34 35 rfl 1 rfl ?_
      refine x_get C inX4 57 lc57 EC_57 rfl 2 (by decide) dX4_addOthers_35 38 rfl wmf_X4_47 rfl ?_
      refine x_get C inX5 31 lc31 EC_31 rfl 10 (by decide) dX4_addOthers_38 41 rfl wmf_X4_109 rfl ?_
      refine x_iload C dX4_addOthers_41 43 rfl 0 rfl ?_
      refine x_iald C 39 lc39 EC_39 0 rfl dX4_addOthers_43 44 rfl h (fun h => ?_)
      obtain ⟨a44, hq, h⟩ := xbv_some h
      refine x_callVv C 57 (c_X4_addSign C.2.2.2.2.2.2.1 hq) lc57 EC_57 rfl wml_X4_95 wq_X4_addSign rfl ⟨by decide, by decide⟩ rfl rfl ⟨by decide, by decide⟩ dX4_addOthers_44 47 rfl rfl (Nat.le_of_ble_eq_true rfl) ?_
      refine x_iinc C dX4_addOthers_47 50 rfl 4 rfl (d := 1) rfl (by decide) (fun v3_47 => [(3, .int v3_47), (4, .int v4_20), (0, .ref (ad 57)), (1, .int v1), (2, .int v2)]) (fun _ => rfl) h (fun v3_47 h => ?_)
      refine x_goto C dX4_addOthers_50 2 rfl ?_
      exact x_sub [2, 3, 4, 0] rfl (ih h)
theorem c_X4_addOthers {l : Launch} {D : va_G} {ca : Nat → ClassId} {ad : Nat → Nat} (hI : xInj ad NCC) {N : Nat} {ah : AH} {p1 : Int32} {p2 : Int32} {a : AH} (h : F_X4_addOthers N ah p1 p2 = some a) : xMv l yX4_addOthers cX4_addOthers 5 rm_X4_addOthers D vwCl (tysC ca) (EC ad ca) NCC ad [.ref (ad 57), .int p1, .int p2] ah a := by
  refine x_metv (by decide) (Nat.le_of_ble_eq_true rfl) hI EC_loc ?_
  intro p e s m args below meth c C
  unfold F_X4_addOthers at h
  refine x_iconst C dX4_addOthers_0 1 rfl 0 rfl ?_
  refine x_istore_n C dX4_addOthers_1 2 rfl (by decide) (fun v3_1 => [(3, .int v3_1), (0, .ref (ad 57)), (1, .int p1), (2, .int p2)]) (fun _ => rfl) h (fun v3_1 h => ?_)
  exact x_sub [1, 2, 3, 0] rfl (b_X4_addOthers_2 C  N h)
abbrev rm_X4_standsAt : Room := { frames := 0, cells := 0, slots := 0, locals := 0 }
theorem wq_X4_standsAt : xcV RX4 yX4_standsAt cX4_standsAt 5 (some .boolean) 2 := ⟨wmi_X4_standsAt, wms_X4_standsAt, wmn_X4, wmc_X4_standsAt, by decide, by decide, by decide +kernel⟩
def F_X4_standsAt_25 (N : Nat) : Nat → AH → Int32 → Int32 → Int32 → Int32 → Option (Int32 × AH)
  | 0, _, _, _, _, _ => none
  | n + 1, ah, v1, v2, v3, v4 => if v3 ≤ v4 then some (1, ah) else xg (v2 + v4) 24 (xg ((v1 * 3) + v4) 60 (if (ah 58 (Int32.toNatClampNeg (v2 + v4))) = (ah 23 (Int32.toNatClampNeg ((v1 * 3) + v4))) then xlet (v4 + 1) (fun v4_59 => F_X4_standsAt_25 N n ah v1 v2 v3 v4_59) else some (0, ah)))
def F_X4_standsAt (N : Nat) (ah : AH) (p1 : Int32) (p2 : Int32) : Option (Int32 × AH) := xg p1 20 (xlet (ah 21 (Int32.toNatClampNeg p1)) (fun v3_9 => if (p2 + v3_9) ≤ (ah 57 4) then xlet 0 (fun v4_23 => F_X4_standsAt_25 N N ah p1 p2 v3_9 v4_23) else some (0, ah)))
theorem b_X4_standsAt_25 (C : XC p l s m args meth c cX4_standsAt 5 (some .boolean) RX4 D vwCl (tysC ca) (EC ad ca) NCC ad) {N : Nat} {o : (Int32 × AH)} : ∀ (n : Nat) {ah : AH} {v1 : Int32} {v2 : Int32} {v3 : Int32} {v4 : Int32}, F_X4_standsAt_25 N n ah v1 v2 v3 v4 = some o → XW p l e rm_X4_standsAt s m args below meth c 5 0 (xQi below args s D vwCl (tysC ca) (EC ad ca) NCC ad o) D vwCl (EC ad ca) NCC ad ah 25 [(0, .ref (ad 57)), (1, .int v1), (2, .int v2), (3, .int v3), (4, .int v4)] [] := by
  intro n
  induction n with
  | zero => intro ah v1 v2 v3 v4 h; unfold F_X4_standsAt_25 at h; cases h
  | succ n ih =>
    intro ah v1 v2 v3 v4 h
    unfold F_X4_standsAt_25 at h
    refine x_iload C dX4_standsAt_25 27 rfl 4 rfl ?_
    refine x_iload_n C dX4_standsAt_27 28 rfl 3 rfl ?_
    refine x_icmp_ge C dX4_standsAt_28 31 rfl 65 rfl h (fun h => ?_) (fun h => ?_)
    · refine x_iconst C dX4_standsAt_65 66 rfl 1 rfl ?_
      exact x_zret C rfl dX4_standsAt_66 (by decide) h
    · refine x_aload_n C dX4_standsAt_31 32 rfl 0 rfl ?_
      refine x_get C inX4 57 lc57 EC_57 rfl 6 (by decide) dX4_standsAt_32 35 rfl wmf_X4_9 rfl ?_
      refine x_iload_n C dX4_standsAt_35 36 rfl 2 rfl ?_
      refine x_iload C dX4_standsAt_36 38 rfl 4 rfl ?_
      refine x_iadd C dX4_standsAt_38 39 rfl ?_
      refine x_iald C 58 lc58 EC_58 0 rfl dX4_standsAt_39 40 rfl h (fun h => ?_)
      refine x_aload_n C dX4_standsAt_40 41 rfl 0 rfl ?_
      refine x_get C inX4 57 lc57 EC_57 rfl 1 (by decide) dX4_standsAt_41 44 rfl wmf_X4_43 rfl ?_
      refine x_get C inX8 19 lc19 EC_19 rfl 4 (by decide) dX4_standsAt_44 47 rfl wmf_X4_127 rfl ?_
      refine x_iload_n C dX4_standsAt_47 48 rfl 1 rfl ?_
      refine x_iconst C dX4_standsAt_48 49 rfl 3 rfl ?_
      refine x_imul C dX4_standsAt_49 50 rfl ?_
      refine x_iload C dX4_standsAt_50 52 rfl 4 rfl ?_
      refine x_iadd C dX4_standsAt_52 53 rfl ?_
      refine x_iald C 23 lc23 EC_23 0 rfl dX4_standsAt_53 54 rfl h (fun h => ?_)
      refine x_icmp_eq C dX4_standsAt_54 57 rfl 59 rfl h (fun h => ?_) (fun h => ?_)
      · refine x_iinc C dX4_standsAt_59 62 rfl 4 rfl (d := 1) rfl (by decide) (fun v4_59 => [(4, .int v4_59), (0, .ref (ad 57)), (1, .int v1), (2, .int v2), (3, .int v3)]) (fun _ => rfl) h (fun v4_59 h => ?_)
        refine x_goto C dX4_standsAt_62 25 rfl ?_
        exact x_sub [1, 2, 3, 4, 0] rfl (ih h)
      · refine x_iconst C dX4_standsAt_57 58 rfl 0 rfl ?_
        exact x_zret C rfl dX4_standsAt_58 (by decide) h
theorem c_X4_standsAt {l : Launch} {D : va_G} {ca : Nat → ClassId} {ad : Nat → Nat} (hI : xInj ad NCC) {N : Nat} {ah : AH} {p1 : Int32} {p2 : Int32} {r : Int32} {a : AH} (h : F_X4_standsAt N ah p1 p2 = some (r, a)) : xMi l yX4_standsAt cX4_standsAt 5 (some .boolean) rm_X4_standsAt D vwCl (tysC ca) (EC ad ca) NCC ad [.ref (ad 57), .int p1, .int p2] ah (r, a) := by
  refine x_meti (by decide) (Nat.le_of_ble_eq_true rfl) hI EC_loc ?_
  intro p e s m args below meth c C
  unfold F_X4_standsAt at h
  refine x_aload_n C dX4_standsAt_0 1 rfl 0 rfl ?_
  refine x_get C inX4 57 lc57 EC_57 rfl 1 (by decide) dX4_standsAt_1 4 rfl wmf_X4_43 rfl ?_
  refine x_get C inX8 19 lc19 EC_19 rfl 2 (by decide) dX4_standsAt_4 7 rfl wmf_X4_124 rfl ?_
  refine x_iload_n C dX4_standsAt_7 8 rfl 1 rfl ?_
  refine x_iald C 21 lc21 EC_21 0 rfl dX4_standsAt_8 9 rfl h (fun h => ?_)
  refine x_istore_n C dX4_standsAt_9 10 rfl (by decide) (fun v3_9 => [(3, .int v3_9), (0, .ref (ad 57)), (1, .int p1), (2, .int p2)]) (fun _ => rfl) h (fun v3_9 h => ?_)
  refine x_iload_n C dX4_standsAt_10 11 rfl 3 rfl ?_
  refine x_iload_n C dX4_standsAt_11 12 rfl 0 rfl ?_
  refine x_iadd C dX4_standsAt_12 13 rfl ?_
  refine x_aload_n C dX4_standsAt_13 14 rfl 1 rfl ?_
  refine x_get C inX4 57 lc57 EC_57 rfl 4 (by decide) dX4_standsAt_14 17 rfl wmf_X4_58 rfl ?_
  refine x_icmp_le C dX4_standsAt_17 20 rfl 22 rfl h (fun h => ?_) (fun h => ?_)
  · refine x_iconst C dX4_standsAt_22 23 rfl 0 rfl ?_
    refine x_istore C dX4_standsAt_23 25 rfl (by decide) (fun v4_23 => [(4, .int v4_23), (3, .int v3_9), (0, .ref (ad 57)), (1, .int p1), (2, .int p2)]) (fun _ => rfl) h (fun v4_23 h => ?_)
    exact x_sub [2, 3, 4, 1, 0] rfl (b_X4_standsAt_25 C  N h)
  · refine x_iconst C dX4_standsAt_20 21 rfl 0 rfl ?_
    exact x_zret C rfl dX4_standsAt_21 (by decide) h
abbrev rm_X4_addShape : Room := { frames := 1, cells := 0, slots := 0, locals := 24 }
theorem wq_X4_addShape : xcV RX4 yX4_addShape cX4_addShape 5 none 2 := ⟨wmi_X4_addShape, wms_X4_addShape, wmn_X4, wmc_X4_addShape, by decide, by decide, by decide +kernel⟩
def F_X4_addShape_57 (N : Nat) : Nat → AH → Int32 → Int32 → Int32 → Option AH
  | 0, _, _, _, _ => none
  | n + 1, ah, v1, v3, v4 => xg v3 624 (if (ah 63 (Int32.toNatClampNeg v3)) ≤ v4 then some ah else xg ((v1 * 3) + v4) 60 (xg ((v3 * 3) + v4) 1872 (xlet (xu ah 64 (Int32.toNatClampNeg ((v3 * 3) + v4)) (ah 24 (Int32.toNatClampNeg ((v1 * 3) + v4)))) (fun a92 => xlet (v4 + 1) (fun v4_93 => F_X4_addShape_57 N n a92 v1 v3 v4_93)))))
def F_X4_addShape (N : Nat) (ah : AH) (p1 : Int32) (p2 : Int32) : Option AH := xg p1 20 (xg p1 20 (xb (F_X4_addEdge N ah p2 (p2 + (ah 21 (Int32.toNatClampNeg p1))) (ah 20 (Int32.toNatClampNeg p1))) (fun r22 a22 => xlet r22 (fun v3_25 => if v3_25 = ((-1)) then some a22 else xg v3_25 624 (xlet (xu a22 65 (Int32.toNatClampNeg v3_25) p1) (fun a38 => xg p1 20 (xg v3_25 624 (xlet (xu a38 63 (Int32.toNatClampNeg v3_25) (a38 22 (Int32.toNatClampNeg p1))) (fun a53 => xlet 0 (fun v4_55 => F_X4_addShape_57 N N a53 p1 v3_25 v4_55))))))))))
theorem b_X4_addShape_57 (C : XC p l s m args meth c cX4_addShape 5 none RX4 D vwCl (tysC ca) (EC ad ca) NCC ad) {N : Nat} {o : AH} : ∀ (n : Nat) {ah : AH} {v1 : Int32} {v3 : Int32} {v4 : Int32}, F_X4_addShape_57 N n ah v1 v3 v4 = some o → XW p l e rm_X4_addShape s m args below meth c 5 0 (xQv below args s D vwCl (tysC ca) (EC ad ca) NCC ad o) D vwCl (EC ad ca) NCC ad ah 57 [(0, .ref (ad 57)), (1, .int v1), (3, .int v3), (4, .int v4)] [] := by
  intro n
  induction n with
  | zero => intro ah v1 v3 v4 h; unfold F_X4_addShape_57 at h; cases h
  | succ n ih =>
    intro ah v1 v3 v4 h
    unfold F_X4_addShape_57 at h
    refine x_iload C dX4_addShape_57 59 rfl 3 rfl ?_
    refine x_aload_n C dX4_addShape_59 60 rfl 0 rfl ?_
    refine x_get C inX4 57 lc57 EC_57 rfl 11 (by decide) dX4_addShape_60 63 rfl wmf_X4_27 rfl ?_
    refine x_iload_n C dX4_addShape_63 64 rfl 2 rfl ?_
    refine x_iald C 63 lc63 EC_63 0 rfl dX4_addShape_64 65 rfl h (fun h => ?_)
    refine x_icmp_ge C dX4_addShape_65 68 rfl 99 rfl h (fun h => ?_) (fun h => ?_)
    · exact x_vret C rfl dX4_addShape_99 h
    · refine x_aload_n C dX4_addShape_68 69 rfl 0 rfl ?_
      refine x_get C inX4 57 lc57 EC_57 rfl 12 (by decide) dX4_addShape_69 72 rfl wmf_X4_30 rfl ?_
      refine x_iload_n C dX4_addShape_72 73 rfl 2 rfl ?_
      refine x_iconst C dX4_addShape_73 74 rfl 3 rfl ?_
      refine x_imul C dX4_addShape_74 75 rfl ?_
      refine x_iload C dX4_addShape_75 77 rfl 3 rfl ?_
      refine x_iadd C dX4_addShape_77 78 rfl ?_
      refine x_aload_n C dX4_addShape_78 79 rfl 0 rfl ?_
      refine x_get C inX4 57 lc57 EC_57 rfl 1 (by decide) dX4_addShape_79 82 rfl wmf_X4_43 rfl ?_
      refine x_get C inX8 19 lc19 EC_19 rfl 5 (by decide) dX4_addShape_82 85 rfl wmf_X4_134 rfl ?_
      refine x_iload_n C dX4_addShape_85 86 rfl 1 rfl ?_
      refine x_iconst C dX4_addShape_86 87 rfl 3 rfl ?_
      refine x_imul C dX4_addShape_87 88 rfl ?_
      refine x_iload C dX4_addShape_88 90 rfl 3 rfl ?_
      refine x_iadd C dX4_addShape_90 91 rfl ?_
      refine x_iald C 24 lc24 EC_24 0 rfl dX4_addShape_91 92 rfl h (fun h => ?_)
      refine x_iast C 64 lc64 (fun _ => EC_64) 0 rfl dX4_addShape_92 93 rfl h (fun a92 h => ?_)
      refine x_iinc C dX4_addShape_93 96 rfl 3 rfl (d := 1) rfl (by decide) (fun v4_93 => [(4, .int v4_93), (0, .ref (ad 57)), (1, .int v1), (3, .int v3)]) (fun _ => rfl) h (fun v4_93 h => ?_)
      refine x_goto C dX4_addShape_96 57 rfl ?_
      exact x_sub [1, 2, 3, 0] rfl (ih h)
theorem c_X4_addShape {l : Launch} {D : va_G} {ca : Nat → ClassId} {ad : Nat → Nat} (hI : xInj ad NCC) {N : Nat} {ah : AH} {p1 : Int32} {p2 : Int32} {a : AH} (h : F_X4_addShape N ah p1 p2 = some a) : xMv l yX4_addShape cX4_addShape 5 rm_X4_addShape D vwCl (tysC ca) (EC ad ca) NCC ad [.ref (ad 57), .int p1, .int p2] ah a := by
  refine x_metv (by decide) (Nat.le_of_ble_eq_true rfl) hI EC_loc ?_
  intro p e s m args below meth c C
  unfold F_X4_addShape at h
  refine x_aload_n C dX4_addShape_0 1 rfl 0 rfl ?_
  refine x_iload_n C dX4_addShape_1 2 rfl 2 rfl ?_
  refine x_iload_n C dX4_addShape_2 3 rfl 2 rfl ?_
  refine x_aload_n C dX4_addShape_3 4 rfl 0 rfl ?_
  refine x_get C inX4 57 lc57 EC_57 rfl 1 (by decide) dX4_addShape_4 7 rfl wmf_X4_43 rfl ?_
  refine x_get C inX8 19 lc19 EC_19 rfl 2 (by decide) dX4_addShape_7 10 rfl wmf_X4_124 rfl ?_
  refine x_iload_n C dX4_addShape_10 11 rfl 1 rfl ?_
  refine x_iald C 21 lc21 EC_21 0 rfl dX4_addShape_11 12 rfl h (fun h => ?_)
  refine x_iadd C dX4_addShape_12 13 rfl ?_
  refine x_aload_n C dX4_addShape_13 14 rfl 0 rfl ?_
  refine x_get C inX4 57 lc57 EC_57 rfl 1 (by decide) dX4_addShape_14 17 rfl wmf_X4_43 rfl ?_
  refine x_get C inX8 19 lc19 EC_19 rfl 1 (by decide) dX4_addShape_17 20 rfl wmf_X4_130 rfl ?_
  refine x_iload_n C dX4_addShape_20 21 rfl 1 rfl ?_
  refine x_iald C 20 lc20 EC_20 0 rfl dX4_addShape_21 22 rfl h (fun h => ?_)
  obtain ⟨r22, a22, hq, h⟩ := xb_some h
  refine x_callVi C 57 (c_X4_addEdge C.2.2.2.2.2.2.1 hq) lc57 EC_57 rfl wml_X4_99 wq_X4_addEdge rfl ⟨by decide, by decide⟩ rfl rfl ⟨by decide, by decide⟩ dX4_addShape_22 25 rfl rfl (Nat.le_of_ble_eq_true rfl) ?_
  refine x_istore_n C dX4_addShape_25 26 rfl (by decide) (fun v3_25 => [(3, .int v3_25), (0, .ref (ad 57)), (1, .int p1), (2, .int p2)]) (fun _ => rfl) h (fun v3_25 h => ?_)
  refine x_iload_n C dX4_addShape_26 27 rfl 0 rfl ?_
  refine x_iconst C dX4_addShape_27 28 rfl (-1) rfl ?_
  refine x_icmp_ne C dX4_addShape_28 31 rfl 32 rfl h (fun h => ?_) (fun h => ?_)
  · refine x_aload_n C dX4_addShape_32 33 rfl 1 rfl ?_
    refine x_get C inX4 57 lc57 EC_57 rfl 13 (by decide) dX4_addShape_33 36 rfl wmf_X4_33 rfl ?_
    refine x_iload_n C dX4_addShape_36 37 rfl 0 rfl ?_
    refine x_iload_n C dX4_addShape_37 38 rfl 2 rfl ?_
    refine x_iast C 65 lc65 (fun _ => EC_65) 0 rfl dX4_addShape_38 39 rfl h (fun a38 h => ?_)
    refine x_aload_n C dX4_addShape_39 40 rfl 1 rfl ?_
    refine x_get C inX4 57 lc57 EC_57 rfl 11 (by decide) dX4_addShape_40 43 rfl wmf_X4_27 rfl ?_
    refine x_iload_n C dX4_addShape_43 44 rfl 0 rfl ?_
    refine x_aload_n C dX4_addShape_44 45 rfl 1 rfl ?_
    refine x_get C inX4 57 lc57 EC_57 rfl 1 (by decide) dX4_addShape_45 48 rfl wmf_X4_43 rfl ?_
    refine x_get C inX8 19 lc19 EC_19 rfl 3 (by decide) dX4_addShape_48 51 rfl wmf_X4_131 rfl ?_
    refine x_iload_n C dX4_addShape_51 52 rfl 2 rfl ?_
    refine x_iald C 22 lc22 EC_22 0 rfl dX4_addShape_52 53 rfl h (fun h => ?_)
    refine x_iast C 63 lc63 (fun _ => EC_63) 0 rfl dX4_addShape_53 54 rfl h (fun a53 h => ?_)
    refine x_iconst C dX4_addShape_54 55 rfl 0 rfl ?_
    refine x_istore C dX4_addShape_55 57 rfl (by decide) (fun v4_55 => [(4, .int v4_55), (3, .int v3_25), (0, .ref (ad 57)), (1, .int p1), (2, .int p2)]) (fun _ => rfl) h (fun v4_55 h => ?_)
    exact x_sub [2, 3, 1, 0] rfl (b_X4_addShape_57 C  N h)
  · exact x_vret C rfl dX4_addShape_31 h
abbrev rm_X4_addShapes : Room := { frames := 2, cells := 0, slots := 0, locals := 48 }
theorem wq_X4_addShapes : xcV RX4 yX4_addShapes cX4_addShapes 3 none 1 := ⟨wmi_X4_addShapes, wms_X4_addShapes, wmn_X4, wmc_X4_addShapes, by decide, by decide, by decide +kernel⟩
def F_X4_addShapes_28 (N : Nat) (k2 : AH → Int32 → Int32 → Option AH) (ah : AH) (v1 : Int32) (v2 : Int32) : Option AH := xlet (v2 + 1) (fun v2_28 => k2 ah v1 v2_28)
def F_X4_addShapes_2 (N : Nat) : Nat → AH → Int32 → Int32 → Option AH
  | 0, _, _, _ => none
  | n + 1, ah, v1, v2 => if (ah 19 0) ≤ v2 then some ah else xb (F_X4_standsAt N ah v2 v1) (fun r16 a16 => if r16 = 0 then F_X4_addShapes_28 N (F_X4_addShapes_2 N n) a16 v1 v2 else xbv (F_X4_addShape N a16 v2 v1) (fun a25 => F_X4_addShapes_28 N (F_X4_addShapes_2 N n) a25 v1 v2))
def F_X4_addShapes (N : Nat) (ah : AH) (p1 : Int32) : Option AH := xlet 0 (fun v2_1 => F_X4_addShapes_2 N N ah p1 v2_1)
theorem b_X4_addShapes_28 (C : XC p l s m args meth c cX4_addShapes 3 none RX4 D vwCl (tysC ca) (EC ad ca) NCC ad) {N : Nat} {o : AH} {k2 : AH → Int32 → Int32 → Option AH} (hk2 : ∀ (ah : AH) (v1 : Int32) (v2 : Int32), k2 ah v1 v2 = some o → XW p l e rm_X4_addShapes s m args below meth c 3 0 (xQv below args s D vwCl (tysC ca) (EC ad ca) NCC ad o) D vwCl (EC ad ca) NCC ad ah 2 [(0, .ref (ad 57)), (1, .int v1), (2, .int v2)] []) {ah : AH} {v1 : Int32} {v2 : Int32} (h : F_X4_addShapes_28 N k2 ah v1 v2 = some o) : XW p l e rm_X4_addShapes s m args below meth c 3 0 (xQv below args s D vwCl (tysC ca) (EC ad ca) NCC ad o) D vwCl (EC ad ca) NCC ad ah 28 [(0, .ref (ad 57)), (1, .int v1), (2, .int v2)] [] := by
  unfold F_X4_addShapes_28 at h
  refine x_iinc C dX4_addShapes_28 31 rfl 2 rfl (d := 1) rfl (by decide) (fun v2_28 => [(2, .int v2_28), (0, .ref (ad 57)), (1, .int v1)]) (fun _ => rfl) h (fun v2_28 h => ?_)
  refine x_goto C dX4_addShapes_31 2 rfl ?_
  exact x_sub [1, 2, 0] rfl (hk2 _ _ _ h)
theorem b_X4_addShapes_2 (C : XC p l s m args meth c cX4_addShapes 3 none RX4 D vwCl (tysC ca) (EC ad ca) NCC ad) {N : Nat} {o : AH} : ∀ (n : Nat) {ah : AH} {v1 : Int32} {v2 : Int32}, F_X4_addShapes_2 N n ah v1 v2 = some o → XW p l e rm_X4_addShapes s m args below meth c 3 0 (xQv below args s D vwCl (tysC ca) (EC ad ca) NCC ad o) D vwCl (EC ad ca) NCC ad ah 2 [(0, .ref (ad 57)), (1, .int v1), (2, .int v2)] [] := by
  intro n
  induction n with
  | zero => intro ah v1 v2 h; unfold F_X4_addShapes_2 at h; cases h
  | succ n ih =>
    intro ah v1 v2 h
    unfold F_X4_addShapes_2 at h
    refine x_iload_n C dX4_addShapes_2 3 rfl 2 rfl ?_
    refine x_aload_n C dX4_addShapes_3 4 rfl 0 rfl ?_
    refine x_get C inX4 57 lc57 EC_57 rfl 1 (by decide) dX4_addShapes_4 7 rfl wmf_X4_43 rfl ?_
    refine x_get C inX8 19 lc19 EC_19 rfl 0 (by decide) dX4_addShapes_7 10 rfl wmf_X4_112 rfl ?_
    refine x_icmp_ge C dX4_addShapes_10 13 rfl 34 rfl h (fun h => ?_) (fun h => ?_)
    · exact x_vret C rfl dX4_addShapes_34 h
    · refine x_aload_n C dX4_addShapes_13 14 rfl 0 rfl ?_
      refine x_iload_n C dX4_addShapes_14 15 rfl 2 rfl ?_
      refine x_iload_n C dX4_addShapes_15 16 rfl 1 rfl ?_
      obtain ⟨r16, a16, hq, h⟩ := xb_some h
      refine x_callVi C 57 (c_X4_standsAt C.2.2.2.2.2.2.1 hq) lc57 EC_57 rfl wml_X4_117 wq_X4_standsAt rfl ⟨by decide, by decide⟩ rfl rfl ⟨by decide, by decide⟩ dX4_addShapes_16 19 rfl rfl (Nat.le_of_ble_eq_true rfl) ?_
      refine x_if_eq C dX4_addShapes_19 22 rfl 28 rfl h (fun h => ?_) (fun h => ?_)
      · exact b_X4_addShapes_28 C (fun _ _ _ h => ih h) h
      · refine x_aload_n C dX4_addShapes_22 23 rfl 0 rfl ?_
        refine x_iload_n C dX4_addShapes_23 24 rfl 2 rfl ?_
        refine x_iload_n C dX4_addShapes_24 25 rfl 1 rfl ?_
        obtain ⟨a25, hq, h⟩ := xbv_some h
        refine x_callVv C 57 (c_X4_addShape C.2.2.2.2.2.2.1 hq) lc57 EC_57 rfl wml_X4_121 wq_X4_addShape rfl ⟨by decide, by decide⟩ rfl rfl ⟨by decide, by decide⟩ dX4_addShapes_25 28 rfl rfl (Nat.le_of_ble_eq_true rfl) ?_
        exact b_X4_addShapes_28 C (fun _ _ _ h => ih h) h
theorem c_X4_addShapes {l : Launch} {D : va_G} {ca : Nat → ClassId} {ad : Nat → Nat} (hI : xInj ad NCC) {N : Nat} {ah : AH} {p1 : Int32} {a : AH} (h : F_X4_addShapes N ah p1 = some a) : xMv l yX4_addShapes cX4_addShapes 3 rm_X4_addShapes D vwCl (tysC ca) (EC ad ca) NCC ad [.ref (ad 57), .int p1] ah a := by
  refine x_metv (by decide) (Nat.le_of_ble_eq_true rfl) hI EC_loc ?_
  intro p e s m args below meth c C
  unfold F_X4_addShapes at h
  refine x_iconst C dX4_addShapes_0 1 rfl 0 rfl ?_
  refine x_istore_n C dX4_addShapes_1 2 rfl (by decide) (fun v2_1 => [(2, .int v2_1), (0, .ref (ad 57)), (1, .int p1)]) (fun _ => rfl) h (fun v2_1 h => ?_)
  exact x_sub [1, 2, 0] rfl (b_X4_addShapes_2 C  N h)
abbrev rm_X4_ofCells : Room := { frames := 3, cells := 0, slots := 0, locals := 72 }
theorem wq_X4_ofCells : xcV RX4 yX4_ofCells cX4_ofCells 4 none 2 := ⟨wmi_X4_ofCells, wms_X4_ofCells, wmn_X4, wmc_X4_ofCells, by decide, by decide, by decide +kernel⟩
def F_X4_ofCells_40 (N : Nat) : Nat → AH → Int32 → Int32 → Option AH
  | 0, _, _, _ => none
  | n + 1, ah, v1, v3 => if (ah 57 4) ≤ v3 then xbv (F_X4_end N ah) (fun a83 => some a83) else xg v3 26 (xlet (xu ah 59 (Int32.toNatClampNeg v3) (ah 57 5)) (fun a57 => xbv (F_X4_addRead N a57 v3) (fun a60 => xbv (F_X4_addOthers N a60 v3 (v1 + v3)) (fun a68 => xbv (F_X4_addShapes N a68 v3) (fun a73 => xlet (v3 + 1) (fun v3_76 => F_X4_ofCells_40 N n a73 v1 v3_76))))))
def F_X4_ofCells_7 (N : Nat) : Nat → AH → Int32 → Int32 → Option AH
  | 0, _, _, _ => none
  | n + 1, ah, v1, v3 => if (ah 57 4) ≤ v3 then xlet 0 (fun v3_39 => F_X4_ofCells_40 N N ah v1 v3_39) else xg (v1 + v3) 400 (xg v3 24 (xlet (xu ah 58 (Int32.toNatClampNeg v3) (ah 36 (Int32.toNatClampNeg (v1 + v3)))) (fun a31 => xlet (v3 + 1) (fun v3_32 => F_X4_ofCells_7 N n a31 v1 v3_32))))
def F_X4_ofCells (N : Nat) (ah : AH) (p1 : Int32) (p2 : Int32) : Option AH := xbv (F_X4_begin N ah p2) (fun a2 => xlet 0 (fun v3_6 => F_X4_ofCells_7 N N a2 p1 v3_6))
theorem b_X4_ofCells_40 (C : XC p l s m args meth c cX4_ofCells 4 none RX4 D vwCl (tysC ca) (EC ad ca) NCC ad) {N : Nat} {o : AH} : ∀ (n : Nat) {ah : AH} {v1 : Int32} {v3 : Int32}, F_X4_ofCells_40 N n ah v1 v3 = some o → XW p l e rm_X4_ofCells s m args below meth c 4 0 (xQv below args s D vwCl (tysC ca) (EC ad ca) NCC ad o) D vwCl (EC ad ca) NCC ad ah 40 [(0, .ref (ad 57)), (1, .int v1), (3, .int v3)] [] := by
  intro n
  induction n with
  | zero => intro ah v1 v3 h; unfold F_X4_ofCells_40 at h; cases h
  | succ n ih =>
    intro ah v1 v3 h
    unfold F_X4_ofCells_40 at h
    refine x_iload_n C dX4_ofCells_40 41 rfl 2 rfl ?_
    refine x_aload_n C dX4_ofCells_41 42 rfl 0 rfl ?_
    refine x_get C inX4 57 lc57 EC_57 rfl 4 (by decide) dX4_ofCells_42 45 rfl wmf_X4_58 rfl ?_
    refine x_icmp_ge C dX4_ofCells_45 48 rfl 82 rfl h (fun h => ?_) (fun h => ?_)
    · refine x_aload_n C dX4_ofCells_82 83 rfl 0 rfl ?_
      obtain ⟨a83, hq, h⟩ := xbv_some h
      refine x_callVv C 57 (c_X4_end C.2.2.2.2.2.2.1 hq) lc57 EC_57 rfl wml_X4_78 wq_X4_end rfl ⟨by decide, by decide⟩ rfl rfl ⟨by decide, by decide⟩ dX4_ofCells_83 86 rfl rfl (Nat.le_of_ble_eq_true rfl) ?_
      exact x_vret C rfl dX4_ofCells_86 h
    · refine x_aload_n C dX4_ofCells_48 49 rfl 0 rfl ?_
      refine x_get C inX4 57 lc57 EC_57 rfl 7 (by decide) dX4_ofCells_49 52 rfl wmf_X4_15 rfl ?_
      refine x_iload_n C dX4_ofCells_52 53 rfl 2 rfl ?_
      refine x_aload_n C dX4_ofCells_53 54 rfl 0 rfl ?_
      refine x_get C inX4 57 lc57 EC_57 rfl 5 (by decide) dX4_ofCells_54 57 rfl wmf_X4_65 rfl ?_
      refine x_iast C 59 lc59 (fun _ => EC_59) 0 rfl dX4_ofCells_57 58 rfl h (fun a57 h => ?_)
      refine x_aload_n C dX4_ofCells_58 59 rfl 0 rfl ?_
      refine x_iload_n C dX4_ofCells_59 60 rfl 2 rfl ?_
      obtain ⟨a60, hq, h⟩ := xbv_some h
      refine x_callVv C 57 (c_X4_addRead C.2.2.2.2.2.2.1 hq) lc57 EC_57 rfl wml_X4_68 wq_X4_addRead rfl ⟨by decide, by decide⟩ rfl rfl ⟨by decide, by decide⟩ dX4_ofCells_60 63 rfl rfl (Nat.le_of_ble_eq_true rfl) ?_
      refine x_aload_n C dX4_ofCells_63 64 rfl 0 rfl ?_
      refine x_iload_n C dX4_ofCells_64 65 rfl 2 rfl ?_
      refine x_iload_n C dX4_ofCells_65 66 rfl 1 rfl ?_
      refine x_iload_n C dX4_ofCells_66 67 rfl 2 rfl ?_
      refine x_iadd C dX4_ofCells_67 68 rfl ?_
      obtain ⟨a68, hq, h⟩ := xbv_some h
      refine x_callVv C 57 (c_X4_addOthers C.2.2.2.2.2.2.1 hq) lc57 EC_57 rfl wml_X4_71 wq_X4_addOthers rfl ⟨by decide, by decide⟩ rfl rfl ⟨by decide, by decide⟩ dX4_ofCells_68 71 rfl rfl (Nat.le_of_ble_eq_true rfl) ?_
      refine x_aload_n C dX4_ofCells_71 72 rfl 0 rfl ?_
      refine x_iload_n C dX4_ofCells_72 73 rfl 2 rfl ?_
      obtain ⟨a73, hq, h⟩ := xbv_some h
      refine x_callVv C 57 (c_X4_addShapes C.2.2.2.2.2.2.1 hq) lc57 EC_57 rfl wml_X4_75 wq_X4_addShapes rfl ⟨by decide, by decide⟩ rfl rfl ⟨by decide, by decide⟩ dX4_ofCells_73 76 rfl rfl (Nat.le_of_ble_eq_true rfl) ?_
      refine x_iinc C dX4_ofCells_76 79 rfl 2 rfl (d := 1) rfl (by decide) (fun v3_76 => [(3, .int v3_76), (0, .ref (ad 57)), (1, .int v1)]) (fun _ => rfl) h (fun v3_76 h => ?_)
      refine x_goto C dX4_ofCells_79 40 rfl ?_
      exact x_sub [1, 2, 0] rfl (ih h)
theorem b_X4_ofCells_7 (C : XC p l s m args meth c cX4_ofCells 4 none RX4 D vwCl (tysC ca) (EC ad ca) NCC ad) {N : Nat} {o : AH} : ∀ (n : Nat) {ah : AH} {v1 : Int32} {v3 : Int32}, F_X4_ofCells_7 N n ah v1 v3 = some o → XW p l e rm_X4_ofCells s m args below meth c 4 0 (xQv below args s D vwCl (tysC ca) (EC ad ca) NCC ad o) D vwCl (EC ad ca) NCC ad ah 7 [(0, .ref (ad 57)), (1, .int v1), (3, .int v3)] [] := by
  intro n
  induction n with
  | zero => intro ah v1 v3 h; unfold F_X4_ofCells_7 at h; cases h
  | succ n ih =>
    intro ah v1 v3 h
    unfold F_X4_ofCells_7 at h
    refine x_iload_n C dX4_ofCells_7 8 rfl 2 rfl ?_
    refine x_aload_n C dX4_ofCells_8 9 rfl 0 rfl ?_
    refine x_get C inX4 57 lc57 EC_57 rfl 4 (by decide) dX4_ofCells_9 12 rfl wmf_X4_58 rfl ?_
    refine x_icmp_ge C dX4_ofCells_12 15 rfl 38 rfl h (fun h => ?_) (fun h => ?_)
    · refine x_iconst C dX4_ofCells_38 39 rfl 0 rfl ?_
      refine x_istore_n C dX4_ofCells_39 40 rfl (by decide) (fun v3_39 => [(3, .int v3_39), (0, .ref (ad 57)), (1, .int v1)]) (fun _ => rfl) h (fun v3_39 h => ?_)
      exact x_sub [1, 2, 0] rfl (b_X4_ofCells_40 C  N h)
    · refine x_aload_n C dX4_ofCells_15 16 rfl 0 rfl ?_
      refine x_get C inX4 57 lc57 EC_57 rfl 6 (by decide) dX4_ofCells_16 19 rfl wmf_X4_9 rfl ?_
      refine x_iload_n C dX4_ofCells_19 20 rfl 2 rfl ?_
      refine x_aload_n C dX4_ofCells_20 21 rfl 0 rfl ?_
      refine x_get C inX4 57 lc57 EC_57 rfl 2 (by decide) dX4_ofCells_21 24 rfl wmf_X4_47 rfl ?_
      refine x_get C inX5 31 lc31 EC_31 rfl 7 (by decide) dX4_ofCells_24 27 rfl wmf_X4_62 rfl ?_
      refine x_iload_n C dX4_ofCells_27 28 rfl 1 rfl ?_
      refine x_iload_n C dX4_ofCells_28 29 rfl 2 rfl ?_
      refine x_iadd C dX4_ofCells_29 30 rfl ?_
      refine x_iald C 36 lc36 EC_36 0 rfl dX4_ofCells_30 31 rfl h (fun h => ?_)
      refine x_iast C 58 lc58 (fun _ => EC_58) 0 rfl dX4_ofCells_31 32 rfl h (fun a31 h => ?_)
      refine x_iinc C dX4_ofCells_32 35 rfl 2 rfl (d := 1) rfl (by decide) (fun v3_32 => [(3, .int v3_32), (0, .ref (ad 57)), (1, .int v1)]) (fun _ => rfl) h (fun v3_32 h => ?_)
      refine x_goto C dX4_ofCells_35 7 rfl ?_
      exact x_sub [1, 2, 0] rfl (ih h)
theorem c_X4_ofCells {l : Launch} {D : va_G} {ca : Nat → ClassId} {ad : Nat → Nat} (hI : xInj ad NCC) {N : Nat} {ah : AH} {p1 : Int32} {p2 : Int32} {a : AH} (h : F_X4_ofCells N ah p1 p2 = some a) : xMv l yX4_ofCells cX4_ofCells 4 rm_X4_ofCells D vwCl (tysC ca) (EC ad ca) NCC ad [.ref (ad 57), .int p1, .int p2] ah a := by
  refine x_metv (by decide) (Nat.le_of_ble_eq_true rfl) hI EC_loc ?_
  intro p e s m args below meth c C
  unfold F_X4_ofCells at h
  refine x_aload_n C dX4_ofCells_0 1 rfl 0 rfl ?_
  refine x_iload_n C dX4_ofCells_1 2 rfl 2 rfl ?_
  obtain ⟨a2, hq, h⟩ := xbv_some h
  refine x_callVv C 57 (c_X4_begin C.2.2.2.2.2.2.1 hq) lc57 EC_57 rfl wml_X4_54 wq_X4_begin rfl ⟨by decide, by decide⟩ rfl rfl ⟨by decide, by decide⟩ dX4_ofCells_2 5 rfl rfl (Nat.le_of_ble_eq_true rfl) ?_
  refine x_iconst C dX4_ofCells_5 6 rfl 0 rfl ?_
  refine x_istore_n C dX4_ofCells_6 7 rfl (by decide) (fun v3_6 => [(3, .int v3_6), (0, .ref (ad 57)), (1, .int p1), (2, .int p2)]) (fun _ => rfl) h (fun v3_6 h => ?_)
  exact x_sub [1, 2, 0] rfl (b_X4_ofCells_7 C  N h)
abbrev rm_X6_clear : Room := { frames := 0, cells := 0, slots := 0, locals := 0 }
theorem wq_X6_clear : xcV RX6 yX6_clear cX6_clear 2 none 0 := ⟨wmi_X6_clear, wms_X6_clear, wmn_X6, wmc_X6_clear, by decide, by decide, by decide +kernel⟩
def F_X6_clear_2 (N : Nat) : Nat → AH → Int32 → Option AH
  | 0, _, _ => none
  | n + 1, ah, v1 => if (ah 67 10) ≤ v1 then xlet (xu ah 67 10 0) (fun a30 => xlet (xu a30 67 7 0) (fun a35 => xlet (xu a35 67 2 0) (fun a40 => xlet (xu a40 67 6 0) (fun a45 => some a45)))) else xg v1 18085 (xg (ah 73 (Int32.toNatClampNeg v1)) 18085 (xlet (xu ah 72 (Int32.toNatClampNeg (ah 73 (Int32.toNatClampNeg v1))) 0) (fun a21 => xlet (v1 + 1) (fun v1_22 => F_X6_clear_2 N n a21 v1_22))))
def F_X6_clear (N : Nat) (ah : AH) : Option AH := xlet 0 (fun v1_1 => F_X6_clear_2 N N ah v1_1)
theorem b_X6_clear_2 (C : XC p l s m args meth c cX6_clear 2 none RX6 D vwCl (tysC ca) (EC ad ca) NCC ad) {N : Nat} {o : AH} : ∀ (n : Nat) {ah : AH} {v1 : Int32}, F_X6_clear_2 N n ah v1 = some o → XW p l e rm_X6_clear s m args below meth c 2 0 (xQv below args s D vwCl (tysC ca) (EC ad ca) NCC ad o) D vwCl (EC ad ca) NCC ad ah 2 [(0, .ref (ad 67)), (1, .int v1)] [] := by
  intro n
  induction n with
  | zero => intro ah v1 h; unfold F_X6_clear_2 at h; cases h
  | succ n ih =>
    intro ah v1 h
    unfold F_X6_clear_2 at h
    refine x_iload_n C dX6_clear_2 3 rfl 1 rfl ?_
    refine x_aload_n C dX6_clear_3 4 rfl 0 rfl ?_
    refine x_get C inX6 67 lc67 EC_67 rfl 10 (by decide) dX6_clear_4 7 rfl wmf_X6_79 rfl ?_
    refine x_icmp_ge C dX6_clear_7 10 rfl 28 rfl h (fun h => ?_) (fun h => ?_)
    · refine x_aload_n C dX6_clear_28 29 rfl 0 rfl ?_
      refine x_iconst C dX6_clear_29 30 rfl 0 rfl ?_
      refine x_put C inX6 67 lc67 EC_67 rfl 10 (by decide) tyX6_ok nmX6 dX6_clear_30 33 rfl wmf_X6_79 rfl rfl rfl (Nat.le_of_ble_eq_true rfl) EP_67_10 h (fun a30 h => ?_)
      refine x_aload_n C dX6_clear_33 34 rfl 0 rfl ?_
      refine x_iconst C dX6_clear_34 35 rfl 0 rfl ?_
      refine x_put C inX6 67 lc67 EC_67 rfl 7 (by decide) tyX6_ok nmX6 dX6_clear_35 38 rfl wmf_X6_63 rfl rfl rfl (Nat.le_of_ble_eq_true rfl) EP_67_7 h (fun a35 h => ?_)
      refine x_aload_n C dX6_clear_38 39 rfl 0 rfl ?_
      refine x_iconst C dX6_clear_39 40 rfl 0 rfl ?_
      refine x_put C inX6 67 lc67 EC_67 rfl 2 (by decide) tyX6_ok nmX6 dX6_clear_40 43 rfl wmf_X6_66 rfl rfl rfl (Nat.le_of_ble_eq_true rfl) EP_67_2 h (fun a40 h => ?_)
      refine x_aload_n C dX6_clear_43 44 rfl 0 rfl ?_
      refine x_iconst C dX6_clear_44 45 rfl 0 rfl ?_
      refine x_put C inX6 67 lc67 EC_67 rfl 6 (by decide) tyX6_ok nmX6 dX6_clear_45 48 rfl wmf_X6_82 rfl rfl rfl (Nat.le_of_ble_eq_true rfl) EP_67_6 h (fun a45 h => ?_)
      exact x_vret C rfl dX6_clear_48 h
    · refine x_aload_n C dX6_clear_10 11 rfl 0 rfl ?_
      refine x_get C inX6 67 lc67 EC_67 rfl 9 (by decide) dX6_clear_11 14 rfl wmf_X6_24 rfl ?_
      refine x_aload_n C dX6_clear_14 15 rfl 0 rfl ?_
      refine x_get C inX6 67 lc67 EC_67 rfl 11 (by decide) dX6_clear_15 18 rfl wmf_X6_27 rfl ?_
      refine x_iload_n C dX6_clear_18 19 rfl 1 rfl ?_
      refine x_iald C 73 lc73 EC_73 0 rfl dX6_clear_19 20 rfl h (fun h => ?_)
      refine x_iconst C dX6_clear_20 21 rfl 0 rfl ?_
      refine x_iast C 72 lc72 (fun _ => EC_72) 0 rfl dX6_clear_21 22 rfl h (fun a21 h => ?_)
      refine x_iinc C dX6_clear_22 25 rfl 1 rfl (d := 1) rfl (by decide) (fun v1_22 => [(1, .int v1_22), (0, .ref (ad 67))]) (fun _ => rfl) h (fun v1_22 h => ?_)
      refine x_goto C dX6_clear_25 2 rfl ?_
      exact x_sub [1, 0] rfl (ih h)
theorem c_X6_clear {l : Launch} {D : va_G} {ca : Nat → ClassId} {ad : Nat → Nat} (hI : xInj ad NCC) {N : Nat} {ah : AH} {a : AH} (h : F_X6_clear N ah = some a) : xMv l yX6_clear cX6_clear 2 rm_X6_clear D vwCl (tysC ca) (EC ad ca) NCC ad [.ref (ad 67)] ah a := by
  refine x_metv (by decide) (Nat.le_of_ble_eq_true rfl) hI EC_loc ?_
  intro p e s m args below meth c C
  unfold F_X6_clear at h
  refine x_iconst C dX6_clear_0 1 rfl 0 rfl ?_
  refine x_istore_n C dX6_clear_1 2 rfl (by decide) (fun v1_1 => [(1, .int v1_1), (0, .ref (ad 67))]) (fun _ => rfl) h (fun v1_1 h => ?_)
  exact x_sub [1, 0] rfl (b_X6_clear_2 C  N h)
abbrev rm_X6_itemOf : Room := { frames := 0, cells := 0, slots := 0, locals := 0 }
theorem wq_X6_itemOf : xcV RX6 yX6_itemOf cX6_itemOf 3 (some .int) 2 := ⟨wmi_X6_itemOf, wms_X6_itemOf, wmn_X6, wmc_X6_itemOf, by decide, by decide, by decide +kernel⟩
def F_X6_itemOf (N : Nat) (ah : AH) (p1 : Int32) (p2 : Int32) : Option (Int32 × AH) := some ((60 + ((24 - p1) * 721)) + p2, ah)
theorem c_X6_itemOf {l : Launch} {D : va_G} {ca : Nat → ClassId} {ad : Nat → Nat} (hI : xInj ad NCC) {N : Nat} {ah : AH} {p1 : Int32} {p2 : Int32} {r : Int32} {a : AH} (h : F_X6_itemOf N ah p1 p2 = some (r, a)) : xMi l yX6_itemOf cX6_itemOf 3 (some .int) rm_X6_itemOf D vwCl (tysC ca) (EC ad ca) NCC ad [.ref (ad 67), .int p1, .int p2] ah (r, a) := by
  refine x_meti (by decide) (Nat.le_of_ble_eq_true rfl) hI EC_loc ?_
  intro p e s m args below meth c C
  unfold F_X6_itemOf at h
  refine x_bipush C dX6_itemOf_0 2 rfl 60 rfl ?_
  refine x_bipush C dX6_itemOf_2 4 rfl 24 rfl ?_
  refine x_iload_n C dX6_itemOf_4 5 rfl 1 rfl ?_
  refine x_isub C dX6_itemOf_5 6 rfl ?_
  refine x_sipush C dX6_itemOf_6 9 rfl 721 rfl ?_
  refine x_imul C dX6_itemOf_9 10 rfl ?_
  refine x_iadd C dX6_itemOf_10 11 rfl ?_
  refine x_iload_n C dX6_itemOf_11 12 rfl 2 rfl ?_
  refine x_iadd C dX6_itemOf_12 13 rfl ?_
  exact x_iret C rfl dX6_itemOf_13 h
abbrev rm_X6_lift : Room := { frames := 0, cells := 0, slots := 0, locals := 0 }
theorem wq_X6_lift : xcV RX6 yX6_lift cX6_lift 6 none 2 := ⟨wmi_X6_lift, wms_X6_lift, wmn_X6, wmc_X6_lift, by decide, by decide, by decide +kernel⟩
def F_X6_lift_77 (N : Nat) (ah : AH) (v2 : Int32) (v3 : Int32) : Option AH := xg v3 18085 (xlet (xu ah 71 (Int32.toNatClampNeg v3) v2) (fun a83 => xg (v2 &&& 32767) 18085 (xlet (xu a83 72 (Int32.toNatClampNeg (v2 &&& 32767)) (v3 + 1)) (fun a96 => some a96))))
def F_X6_lift_5 (N : Nat) : Nat → AH → Int32 → Int32 → Int32 → Option AH
  | 0, _, _, _, _ => none
  | n + 1, ah, v2, v3, v4 => if 16 ≤ v4 then F_X6_lift_77 N ah v2 v3 else if v3 ≤ 0 then F_X6_lift_77 N ah v2 v3 else xz 2 (xlet ((v3 - 1) / 2) (fun v5_21 => xg v5_21 18085 (if v2 ≤ (ah 71 (Int32.toNatClampNeg v5_21)) then xg v5_21 18085 (xg v3 18085 (xlet (xu ah 71 (Int32.toNatClampNeg v3) (ah 71 (Int32.toNatClampNeg v5_21))) (fun a49 => xg v3 18085 (xg ((a49 71 (Int32.toNatClampNeg v3)) &&& 32767) 18085 (xlet (xu a49 72 (Int32.toNatClampNeg ((a49 71 (Int32.toNatClampNeg v3)) &&& 32767)) (v3 + 1)) (fun a67 => xlet v5_21 (fun v3_70 => xlet (v4 + 1) (fun v4_71 => F_X6_lift_5 N n a67 v2 v3_70 v4_71)))))))) else F_X6_lift_77 N ah v2 v3)))
def F_X6_lift (N : Nat) (ah : AH) (p1 : Int32) (p2 : Int32) : Option AH := xlet p1 (fun v3_1 => xlet 0 (fun v4_3 => F_X6_lift_5 N N ah p2 v3_1 v4_3))
theorem b_X6_lift_77 (C : XC p l s m args meth c cX6_lift 6 none RX6 D vwCl (tysC ca) (EC ad ca) NCC ad) {N : Nat} {o : AH} {ah : AH} {v2 : Int32} {v3 : Int32} (h : F_X6_lift_77 N ah v2 v3 = some o) : XW p l e rm_X6_lift s m args below meth c 6 0 (xQv below args s D vwCl (tysC ca) (EC ad ca) NCC ad o) D vwCl (EC ad ca) NCC ad ah 77 [(0, .ref (ad 67)), (2, .int v2), (3, .int v3)] [] := by
  unfold F_X6_lift_77 at h
  refine x_aload_n C dX6_lift_77 78 rfl 0 rfl ?_
  refine x_get C inX6 67 lc67 EC_67 rfl 8 (by decide) dX6_lift_78 81 rfl wmf_X6_21 rfl ?_
  refine x_iload_n C dX6_lift_81 82 rfl 2 rfl ?_
  refine x_iload_n C dX6_lift_82 83 rfl 1 rfl ?_
  refine x_iast C 71 lc71 (fun _ => EC_71) 0 rfl dX6_lift_83 84 rfl h (fun a83 h => ?_)
  refine x_aload_n C dX6_lift_84 85 rfl 0 rfl ?_
  refine x_get C inX6 67 lc67 EC_67 rfl 9 (by decide) dX6_lift_85 88 rfl wmf_X6_24 rfl ?_
  refine x_iload_n C dX6_lift_88 89 rfl 1 rfl ?_
  refine x_sipush C dX6_lift_89 92 rfl 32767 rfl ?_
  refine x_iand C dX6_lift_92 93 rfl ?_
  refine x_iload_n C dX6_lift_93 94 rfl 2 rfl ?_
  refine x_iconst C dX6_lift_94 95 rfl 1 rfl ?_
  refine x_iadd C dX6_lift_95 96 rfl ?_
  refine x_iast C 72 lc72 (fun _ => EC_72) 0 rfl dX6_lift_96 97 rfl h (fun a96 h => ?_)
  exact x_vret C rfl dX6_lift_97 h
theorem b_X6_lift_5 (C : XC p l s m args meth c cX6_lift 6 none RX6 D vwCl (tysC ca) (EC ad ca) NCC ad) {N : Nat} {o : AH} : ∀ (n : Nat) {ah : AH} {v2 : Int32} {v3 : Int32} {v4 : Int32}, F_X6_lift_5 N n ah v2 v3 v4 = some o → XW p l e rm_X6_lift s m args below meth c 6 0 (xQv below args s D vwCl (tysC ca) (EC ad ca) NCC ad o) D vwCl (EC ad ca) NCC ad ah 5 [(0, .ref (ad 67)), (2, .int v2), (3, .int v3), (4, .int v4)] [] := by
  intro n
  induction n with
  | zero => intro ah v2 v3 v4 h; unfold F_X6_lift_5 at h; cases h
  | succ n ih =>
    intro ah v2 v3 v4 h
    unfold F_X6_lift_5 at h
    refine x_iload C dX6_lift_5 7 rfl 3 rfl ?_
    refine x_bipush C dX6_lift_7 9 rfl 16 rfl ?_
    refine x_icmp_ge C dX6_lift_9 12 rfl 77 rfl h (fun h => ?_) (fun h => ?_)
    · exact x_sub [0, 1, 2] rfl (b_X6_lift_77 C  h)
    · refine x_iload_n C dX6_lift_12 13 rfl 2 rfl ?_
      refine x_if_le C dX6_lift_13 16 rfl 77 rfl h (fun h => ?_) (fun h => ?_)
      · exact x_sub [0, 1, 2] rfl (b_X6_lift_77 C  h)
      · refine x_iload_n C dX6_lift_16 17 rfl 2 rfl ?_
        refine x_iconst C dX6_lift_17 18 rfl 1 rfl ?_
        refine x_isub C dX6_lift_18 19 rfl ?_
        refine x_iconst C dX6_lift_19 20 rfl 2 rfl ?_
        refine x_idiv C dX6_lift_20 21 rfl h (fun h => ?_)
        refine x_istore C dX6_lift_21 23 rfl (by decide) (fun v5_21 => [(5, .int v5_21), (0, .ref (ad 67)), (2, .int v2), (3, .int v3), (4, .int v4)]) (fun _ => rfl) h (fun v5_21 h => ?_)
        refine x_aload_n C dX6_lift_23 24 rfl 1 rfl ?_
        refine x_get C inX6 67 lc67 EC_67 rfl 8 (by decide) dX6_lift_24 27 rfl wmf_X6_21 rfl ?_
        refine x_iload C dX6_lift_27 29 rfl 0 rfl ?_
        refine x_iald C 71 lc71 EC_71 0 rfl dX6_lift_29 30 rfl h (fun h => ?_)
        refine x_iload_n C dX6_lift_30 31 rfl 2 rfl ?_
        refine x_icmp_ge C dX6_lift_31 34 rfl 37 rfl h (fun h => ?_) (fun h => ?_)
        · refine x_aload_n C dX6_lift_37 38 rfl 1 rfl ?_
          refine x_get C inX6 67 lc67 EC_67 rfl 8 (by decide) dX6_lift_38 41 rfl wmf_X6_21 rfl ?_
          refine x_iload_n C dX6_lift_41 42 rfl 3 rfl ?_
          refine x_aload_n C dX6_lift_42 43 rfl 1 rfl ?_
          refine x_get C inX6 67 lc67 EC_67 rfl 8 (by decide) dX6_lift_43 46 rfl wmf_X6_21 rfl ?_
          refine x_iload C dX6_lift_46 48 rfl 0 rfl ?_
          refine x_iald C 71 lc71 EC_71 0 rfl dX6_lift_48 49 rfl h (fun h => ?_)
          refine x_iast C 71 lc71 (fun _ => EC_71) 0 rfl dX6_lift_49 50 rfl h (fun a49 h => ?_)
          refine x_aload_n C dX6_lift_50 51 rfl 1 rfl ?_
          refine x_get C inX6 67 lc67 EC_67 rfl 9 (by decide) dX6_lift_51 54 rfl wmf_X6_24 rfl ?_
          refine x_aload_n C dX6_lift_54 55 rfl 1 rfl ?_
          refine x_get C inX6 67 lc67 EC_67 rfl 8 (by decide) dX6_lift_55 58 rfl wmf_X6_21 rfl ?_
          refine x_iload_n C dX6_lift_58 59 rfl 3 rfl ?_
          refine x_iald C 71 lc71 EC_71 0 rfl dX6_lift_59 60 rfl h (fun h => ?_)
          refine x_sipush C dX6_lift_60 63 rfl 32767 rfl ?_
          refine x_iand C dX6_lift_63 64 rfl ?_
          refine x_iload_n C dX6_lift_64 65 rfl 3 rfl ?_
          refine x_iconst C dX6_lift_65 66 rfl 1 rfl ?_
          refine x_iadd C dX6_lift_66 67 rfl ?_
          refine x_iast C 72 lc72 (fun _ => EC_72) 0 rfl dX6_lift_67 68 rfl h (fun a67 h => ?_)
          refine x_iload C dX6_lift_68 70 rfl 0 rfl ?_
          refine x_istore_n C dX6_lift_70 71 rfl (by decide) (fun v3_70 => [(3, .int v3_70), (5, .int v5_21), (0, .ref (ad 67)), (2, .int v2), (4, .int v4)]) (fun _ => rfl) h (fun v3_70 h => ?_)
          refine x_iinc C dX6_lift_71 74 rfl 4 rfl (d := 1) rfl (by decide) (fun v4_71 => [(4, .int v4_71), (3, .int v3_70), (5, .int v5_21), (0, .ref (ad 67)), (2, .int v2)]) (fun _ => rfl) h (fun v4_71 h => ?_)
          refine x_goto C dX6_lift_74 5 rfl ?_
          exact x_sub [3, 4, 1, 0] rfl (ih h)
        · refine x_goto C dX6_lift_34 77 rfl ?_
          exact x_sub [1, 2, 3] rfl (b_X6_lift_77 C  h)
theorem c_X6_lift {l : Launch} {D : va_G} {ca : Nat → ClassId} {ad : Nat → Nat} (hI : xInj ad NCC) {N : Nat} {ah : AH} {p1 : Int32} {p2 : Int32} {a : AH} (h : F_X6_lift N ah p1 p2 = some a) : xMv l yX6_lift cX6_lift 6 rm_X6_lift D vwCl (tysC ca) (EC ad ca) NCC ad [.ref (ad 67), .int p1, .int p2] ah a := by
  refine x_metv (by decide) (Nat.le_of_ble_eq_true rfl) hI EC_loc ?_
  intro p e s m args below meth c C
  unfold F_X6_lift at h
  refine x_iload_n C dX6_lift_0 1 rfl 1 rfl ?_
  refine x_istore_n C dX6_lift_1 2 rfl (by decide) (fun v3_1 => [(3, .int v3_1), (0, .ref (ad 67)), (1, .int p1), (2, .int p2)]) (fun _ => rfl) h (fun v3_1 h => ?_)
  refine x_iconst C dX6_lift_2 3 rfl 0 rfl ?_
  refine x_istore C dX6_lift_3 5 rfl (by decide) (fun v4_3 => [(4, .int v4_3), (3, .int v3_1), (0, .ref (ad 67)), (1, .int p1), (2, .int p2)]) (fun _ => rfl) h (fun v4_3 h => ?_)
  exact x_sub [2, 4, 1, 0] rfl (b_X6_lift_5 C  N h)
abbrev rm_X6_put : Room := { frames := 1, cells := 0, slots := 0, locals := 25 }
theorem wq_X6_put : xcV RX6 yX6_put cX6_put 5 none 2 := ⟨wmi_X6_put, wms_X6_put, wmn_X6, wmc_X6_put, by decide, by decide, by decide +kernel⟩
def F_X6_put_84 (N : Nat) (ah : AH) (v3 : Int32) (v4 : Int32) : Option AH := if v4 ≤ 0 then some ah else xg (v4 - 1) 18085 (if (ah 71 (Int32.toNatClampNeg (v4 - 1))) ≤ v3 then some ah else xbv (F_X6_lift N ah (v4 - 1) v3) (fun a108 => some a108))
def F_X6_put (N : Nat) (ah : AH) (p1 : Int32) (p2 : Int32) : Option AH := xlet ((p2 <<< (15 &&& 31)) ||| p1) (fun v3_6 => xg p1 18085 (xlet (ah 72 (Int32.toNatClampNeg p1)) (fun v4_13 => if v4_13 = 0 then if 18085 ≤ (ah 67 7) then F_X6_put_84 N ah v3_6 v4_13 else if 18085 ≤ (ah 67 10) then F_X6_put_84 N ah v3_6 v4_13 else xg (ah 67 10) 18085 (xlet (xu ah 73 (Int32.toNatClampNeg (ah 67 10)) p1) (fun a49 => xlet (xu a49 67 10 ((a49 67 10) + 1)) (fun a57 => xlet (xu a57 67 7 ((a57 67 7) + 1)) (fun a67 => xbv (F_X6_lift N a67 ((a67 67 7) - 1) v3_6) (fun a78 => some a78))))) else F_X6_put_84 N ah v3_6 v4_13)))
theorem b_X6_put_84 (C : XC p l s m args meth c cX6_put 5 none RX6 D vwCl (tysC ca) (EC ad ca) NCC ad) {N : Nat} {o : AH} {ah : AH} {v3 : Int32} {v4 : Int32} (h : F_X6_put_84 N ah v3 v4 = some o) : XW p l e rm_X6_put s m args below meth c 5 0 (xQv below args s D vwCl (tysC ca) (EC ad ca) NCC ad o) D vwCl (EC ad ca) NCC ad ah 84 [(0, .ref (ad 67)), (3, .int v3), (4, .int v4)] [] := by
  unfold F_X6_put_84 at h
  refine x_iload C dX6_put_84 86 rfl 2 rfl ?_
  refine x_if_le C dX6_put_86 89 rfl 111 rfl h (fun h => ?_) (fun h => ?_)
  · exact x_vret C rfl dX6_put_111 h
  · refine x_iload_n C dX6_put_89 90 rfl 1 rfl ?_
    refine x_aload_n C dX6_put_90 91 rfl 0 rfl ?_
    refine x_get C inX6 67 lc67 EC_67 rfl 8 (by decide) dX6_put_91 94 rfl wmf_X6_21 rfl ?_
    refine x_iload C dX6_put_94 96 rfl 2 rfl ?_
    refine x_iconst C dX6_put_96 97 rfl 1 rfl ?_
    refine x_isub C dX6_put_97 98 rfl ?_
    refine x_iald C 71 lc71 EC_71 0 rfl dX6_put_98 99 rfl h (fun h => ?_)
    refine x_icmp_ge C dX6_put_99 102 rfl 111 rfl h (fun h => ?_) (fun h => ?_)
    · exact x_vret C rfl dX6_put_111 h
    · refine x_aload_n C dX6_put_102 103 rfl 0 rfl ?_
      refine x_iload C dX6_put_103 105 rfl 2 rfl ?_
      refine x_iconst C dX6_put_105 106 rfl 1 rfl ?_
      refine x_isub C dX6_put_106 107 rfl ?_
      refine x_iload_n C dX6_put_107 108 rfl 1 rfl ?_
      obtain ⟨a108, hq, h⟩ := xbv_some h
      refine x_callVv C 67 (c_X6_lift C.2.2.2.2.2.2.1 hq) lc67 EC_67 rfl wml_X6_115 wq_X6_lift rfl ⟨by decide, by decide⟩ rfl rfl ⟨by decide, by decide⟩ dX6_put_108 111 rfl rfl (Nat.le_of_ble_eq_true rfl) ?_
      exact x_vret C rfl dX6_put_111 h
theorem c_X6_put {l : Launch} {D : va_G} {ca : Nat → ClassId} {ad : Nat → Nat} (hI : xInj ad NCC) {N : Nat} {ah : AH} {p1 : Int32} {p2 : Int32} {a : AH} (h : F_X6_put N ah p1 p2 = some a) : xMv l yX6_put cX6_put 5 rm_X6_put D vwCl (tysC ca) (EC ad ca) NCC ad [.ref (ad 67), .int p1, .int p2] ah a := by
  refine x_metv (by decide) (Nat.le_of_ble_eq_true rfl) hI EC_loc ?_
  intro p e s m args below meth c C
  unfold F_X6_put at h
  refine x_iload_n C dX6_put_0 1 rfl 2 rfl ?_
  refine x_bipush C dX6_put_1 3 rfl 15 rfl ?_
  refine x_ishl C dX6_put_3 4 rfl ?_
  refine x_iload_n C dX6_put_4 5 rfl 1 rfl ?_
  refine x_ior C dX6_put_5 6 rfl ?_
  refine x_istore_n C dX6_put_6 7 rfl (by decide) (fun v3_6 => [(3, .int v3_6), (0, .ref (ad 67)), (1, .int p1), (2, .int p2)]) (fun _ => rfl) h (fun v3_6 h => ?_)
  refine x_aload_n C dX6_put_7 8 rfl 1 rfl ?_
  refine x_get C inX6 67 lc67 EC_67 rfl 9 (by decide) dX6_put_8 11 rfl wmf_X6_24 rfl ?_
  refine x_iload_n C dX6_put_11 12 rfl 2 rfl ?_
  refine x_iald C 72 lc72 EC_72 0 rfl dX6_put_12 13 rfl h (fun h => ?_)
  refine x_istore C dX6_put_13 15 rfl (by decide) (fun v4_13 => [(4, .int v4_13), (3, .int v3_6), (0, .ref (ad 67)), (1, .int p1), (2, .int p2)]) (fun _ => rfl) h (fun v4_13 h => ?_)
  refine x_iload C dX6_put_15 17 rfl 0 rfl ?_
  refine x_if_ne C dX6_put_17 20 rfl 84 rfl h (fun h => ?_) (fun h => ?_)
  · exact x_sub [2, 1, 0] rfl (b_X6_put_84 C  h)
  · refine x_aload_n C dX6_put_20 21 rfl 2 rfl ?_
    refine x_get C inX6 67 lc67 EC_67 rfl 7 (by decide) dX6_put_21 24 rfl wmf_X6_63 rfl ?_
    refine x_sipush C dX6_put_24 27 rfl 18085 rfl ?_
    refine x_icmp_ge C dX6_put_27 30 rfl 84 rfl h (fun h => ?_) (fun h => ?_)
    · exact x_sub [2, 1, 0] rfl (b_X6_put_84 C  h)
    · refine x_aload_n C dX6_put_30 31 rfl 2 rfl ?_
      refine x_get C inX6 67 lc67 EC_67 rfl 10 (by decide) dX6_put_31 34 rfl wmf_X6_79 rfl ?_
      refine x_sipush C dX6_put_34 37 rfl 18085 rfl ?_
      refine x_icmp_ge C dX6_put_37 40 rfl 84 rfl h (fun h => ?_) (fun h => ?_)
      · exact x_sub [2, 1, 0] rfl (b_X6_put_84 C  h)
      · refine x_aload_n C dX6_put_40 41 rfl 2 rfl ?_
        refine x_get C inX6 67 lc67 EC_67 rfl 11 (by decide) dX6_put_41 44 rfl wmf_X6_27 rfl ?_
        refine x_aload_n C dX6_put_44 45 rfl 2 rfl ?_
        refine x_get C inX6 67 lc67 EC_67 rfl 10 (by decide) dX6_put_45 48 rfl wmf_X6_79 rfl ?_
        refine x_iload_n C dX6_put_48 49 rfl 3 rfl ?_
        refine x_iast C 73 lc73 (fun _ => EC_73) 0 rfl dX6_put_49 50 rfl h (fun a49 h => ?_)
        refine x_aload_n C dX6_put_50 51 rfl 2 rfl ?_
        refine x_dup C dX6_put_51 52 rfl rfl ?_
        refine x_get C inX6 67 lc67 EC_67 rfl 10 (by decide) dX6_put_52 55 rfl wmf_X6_79 rfl ?_
        refine x_iconst C dX6_put_55 56 rfl 1 rfl ?_
        refine x_iadd C dX6_put_56 57 rfl ?_
        refine x_put C inX6 67 lc67 EC_67 rfl 10 (by decide) tyX6_ok nmX6 dX6_put_57 60 rfl wmf_X6_79 rfl rfl rfl (Nat.le_of_ble_eq_true rfl) EP_67_10 h (fun a57 h => ?_)
        refine x_aload_n C dX6_put_60 61 rfl 2 rfl ?_
        refine x_dup C dX6_put_61 62 rfl rfl ?_
        refine x_get C inX6 67 lc67 EC_67 rfl 7 (by decide) dX6_put_62 65 rfl wmf_X6_63 rfl ?_
        refine x_iconst C dX6_put_65 66 rfl 1 rfl ?_
        refine x_iadd C dX6_put_66 67 rfl ?_
        refine x_put C inX6 67 lc67 EC_67 rfl 7 (by decide) tyX6_ok nmX6 dX6_put_67 70 rfl wmf_X6_63 rfl rfl rfl (Nat.le_of_ble_eq_true rfl) EP_67_7 h (fun a67 h => ?_)
        refine x_aload_n C dX6_put_70 71 rfl 2 rfl ?_
        refine x_aload_n C dX6_put_71 72 rfl 2 rfl ?_
        refine x_get C inX6 67 lc67 EC_67 rfl 7 (by decide) dX6_put_72 75 rfl wmf_X6_63 rfl ?_
        refine x_iconst C dX6_put_75 76 rfl 1 rfl ?_
        refine x_isub C dX6_put_76 77 rfl ?_
        refine x_iload_n C dX6_put_77 78 rfl 1 rfl ?_
        obtain ⟨a78, hq, h⟩ := xbv_some h
        refine x_callVv C 67 (c_X6_lift C.2.2.2.2.2.2.1 hq) lc67 EC_67 rfl wml_X6_115 wq_X6_lift rfl ⟨by decide, by decide⟩ rfl rfl ⟨by decide, by decide⟩ dX6_put_78 81 rfl rfl (Nat.le_of_ble_eq_true rfl) ?_
        refine x_goto C dX6_put_81 111 rfl ?_
        exact x_vret C rfl dX6_put_111 h
abbrev rm_X6_sink : Room := { frames := 0, cells := 0, slots := 0, locals := 0 }
theorem wq_X6_sink : xcV RX6 yX6_sink cX6_sink 5 none 1 := ⟨wmi_X6_sink, wms_X6_sink, wmn_X6, wmc_X6_sink, by decide, by decide, by decide +kernel⟩
def F_X6_sink_116 (N : Nat) (ah : AH) (v1 : Int32) (v2 : Int32) : Option AH := xg v2 18085 (xlet (xu ah 71 (Int32.toNatClampNeg v2) v1) (fun a122 => xg (v1 &&& 32767) 18085 (xlet (xu a122 72 (Int32.toNatClampNeg (v1 &&& 32767)) (v2 + 1)) (fun a135 => some a135))))
def F_X6_sink_62 (N : Nat) (k4 : AH → Int32 → Int32 → Int32 → Option AH) (ah : AH) (v1 : Int32) (v2 : Int32) (v3 : Int32) (v4 : Int32) : Option AH := xg v4 18085 (if (ah 71 (Int32.toNatClampNeg v4)) ≤ v1 then xg v4 18085 (xg v2 18085 (xlet (xu ah 71 (Int32.toNatClampNeg v2) (ah 71 (Int32.toNatClampNeg v4))) (fun a88 => xg v2 18085 (xg ((a88 71 (Int32.toNatClampNeg v2)) &&& 32767) 18085 (xlet (xu a88 72 (Int32.toNatClampNeg ((a88 71 (Int32.toNatClampNeg v2)) &&& 32767)) (v2 + 1)) (fun a106 => xlet v4 (fun v2_109 => xlet (v3 + 1) (fun v3_110 => k4 a106 v1 v2_109 v3_110)))))))) else F_X6_sink_116 N ah v1 v2)
def F_X6_sink_4 (N : Nat) : Nat → AH → Int32 → Int32 → Int32 → Option AH
  | 0, _, _, _, _ => none
  | n + 1, ah, v1, v2, v3 => if 16 ≤ v3 then F_X6_sink_116 N ah v1 v2 else if (ah 67 7) ≤ ((2 * v2) + 1) then F_X6_sink_116 N ah v1 v2 else xlet ((2 * v2) + 1) (fun v4_27 => if (ah 67 7) ≤ (v4_27 + 1) then F_X6_sink_62 N (F_X6_sink_4 N n) ah v1 v2 v3 v4_27 else xg (v4_27 + 1) 18085 (xg v4_27 18085 (if (ah 71 (Int32.toNatClampNeg v4_27)) ≤ (ah 71 (Int32.toNatClampNeg (v4_27 + 1))) then F_X6_sink_62 N (F_X6_sink_4 N n) ah v1 v2 v3 v4_27 else xlet (v4_27 + 1) (fun v4_59 => F_X6_sink_62 N (F_X6_sink_4 N n) ah v1 v2 v3 v4_59))))
def F_X6_sink (N : Nat) (ah : AH) (p1 : Int32) : Option AH := xlet 0 (fun v2_1 => xlet 0 (fun v3_3 => F_X6_sink_4 N N ah p1 v2_1 v3_3))
theorem b_X6_sink_116 (C : XC p l s m args meth c cX6_sink 5 none RX6 D vwCl (tysC ca) (EC ad ca) NCC ad) {N : Nat} {o : AH} {ah : AH} {v1 : Int32} {v2 : Int32} (h : F_X6_sink_116 N ah v1 v2 = some o) : XW p l e rm_X6_sink s m args below meth c 5 0 (xQv below args s D vwCl (tysC ca) (EC ad ca) NCC ad o) D vwCl (EC ad ca) NCC ad ah 116 [(0, .ref (ad 67)), (1, .int v1), (2, .int v2)] [] := by
  unfold F_X6_sink_116 at h
  refine x_aload_n C dX6_sink_116 117 rfl 0 rfl ?_
  refine x_get C inX6 67 lc67 EC_67 rfl 8 (by decide) dX6_sink_117 120 rfl wmf_X6_21 rfl ?_
  refine x_iload_n C dX6_sink_120 121 rfl 2 rfl ?_
  refine x_iload_n C dX6_sink_121 122 rfl 1 rfl ?_
  refine x_iast C 71 lc71 (fun _ => EC_71) 0 rfl dX6_sink_122 123 rfl h (fun a122 h => ?_)
  refine x_aload_n C dX6_sink_123 124 rfl 0 rfl ?_
  refine x_get C inX6 67 lc67 EC_67 rfl 9 (by decide) dX6_sink_124 127 rfl wmf_X6_24 rfl ?_
  refine x_iload_n C dX6_sink_127 128 rfl 1 rfl ?_
  refine x_sipush C dX6_sink_128 131 rfl 32767 rfl ?_
  refine x_iand C dX6_sink_131 132 rfl ?_
  refine x_iload_n C dX6_sink_132 133 rfl 2 rfl ?_
  refine x_iconst C dX6_sink_133 134 rfl 1 rfl ?_
  refine x_iadd C dX6_sink_134 135 rfl ?_
  refine x_iast C 72 lc72 (fun _ => EC_72) 0 rfl dX6_sink_135 136 rfl h (fun a135 h => ?_)
  exact x_vret C rfl dX6_sink_136 h
theorem b_X6_sink_62 (C : XC p l s m args meth c cX6_sink 5 none RX6 D vwCl (tysC ca) (EC ad ca) NCC ad) {N : Nat} {o : AH} {k4 : AH → Int32 → Int32 → Int32 → Option AH} (hk4 : ∀ (ah : AH) (v1 : Int32) (v2 : Int32) (v3 : Int32), k4 ah v1 v2 v3 = some o → XW p l e rm_X6_sink s m args below meth c 5 0 (xQv below args s D vwCl (tysC ca) (EC ad ca) NCC ad o) D vwCl (EC ad ca) NCC ad ah 4 [(0, .ref (ad 67)), (1, .int v1), (2, .int v2), (3, .int v3)] []) {ah : AH} {v1 : Int32} {v2 : Int32} {v3 : Int32} {v4 : Int32} (h : F_X6_sink_62 N k4 ah v1 v2 v3 v4 = some o) : XW p l e rm_X6_sink s m args below meth c 5 0 (xQv below args s D vwCl (tysC ca) (EC ad ca) NCC ad o) D vwCl (EC ad ca) NCC ad ah 62 [(0, .ref (ad 67)), (1, .int v1), (2, .int v2), (3, .int v3), (4, .int v4)] [] := by
  unfold F_X6_sink_62 at h
  refine x_aload_n C dX6_sink_62 63 rfl 0 rfl ?_
  refine x_get C inX6 67 lc67 EC_67 rfl 8 (by decide) dX6_sink_63 66 rfl wmf_X6_21 rfl ?_
  refine x_iload C dX6_sink_66 68 rfl 4 rfl ?_
  refine x_iald C 71 lc71 EC_71 0 rfl dX6_sink_68 69 rfl h (fun h => ?_)
  refine x_iload_n C dX6_sink_69 70 rfl 1 rfl ?_
  refine x_icmp_le C dX6_sink_70 73 rfl 76 rfl h (fun h => ?_) (fun h => ?_)
  · refine x_aload_n C dX6_sink_76 77 rfl 0 rfl ?_
    refine x_get C inX6 67 lc67 EC_67 rfl 8 (by decide) dX6_sink_77 80 rfl wmf_X6_21 rfl ?_
    refine x_iload_n C dX6_sink_80 81 rfl 2 rfl ?_
    refine x_aload_n C dX6_sink_81 82 rfl 0 rfl ?_
    refine x_get C inX6 67 lc67 EC_67 rfl 8 (by decide) dX6_sink_82 85 rfl wmf_X6_21 rfl ?_
    refine x_iload C dX6_sink_85 87 rfl 4 rfl ?_
    refine x_iald C 71 lc71 EC_71 0 rfl dX6_sink_87 88 rfl h (fun h => ?_)
    refine x_iast C 71 lc71 (fun _ => EC_71) 0 rfl dX6_sink_88 89 rfl h (fun a88 h => ?_)
    refine x_aload_n C dX6_sink_89 90 rfl 0 rfl ?_
    refine x_get C inX6 67 lc67 EC_67 rfl 9 (by decide) dX6_sink_90 93 rfl wmf_X6_24 rfl ?_
    refine x_aload_n C dX6_sink_93 94 rfl 0 rfl ?_
    refine x_get C inX6 67 lc67 EC_67 rfl 8 (by decide) dX6_sink_94 97 rfl wmf_X6_21 rfl ?_
    refine x_iload_n C dX6_sink_97 98 rfl 2 rfl ?_
    refine x_iald C 71 lc71 EC_71 0 rfl dX6_sink_98 99 rfl h (fun h => ?_)
    refine x_sipush C dX6_sink_99 102 rfl 32767 rfl ?_
    refine x_iand C dX6_sink_102 103 rfl ?_
    refine x_iload_n C dX6_sink_103 104 rfl 2 rfl ?_
    refine x_iconst C dX6_sink_104 105 rfl 1 rfl ?_
    refine x_iadd C dX6_sink_105 106 rfl ?_
    refine x_iast C 72 lc72 (fun _ => EC_72) 0 rfl dX6_sink_106 107 rfl h (fun a106 h => ?_)
    refine x_iload C dX6_sink_107 109 rfl 4 rfl ?_
    refine x_istore_n C dX6_sink_109 110 rfl (by decide) (fun v2_109 => [(2, .int v2_109), (0, .ref (ad 67)), (1, .int v1), (3, .int v3), (4, .int v4)]) (fun _ => rfl) h (fun v2_109 h => ?_)
    refine x_iinc C dX6_sink_110 113 rfl 3 rfl (d := 1) rfl (by decide) (fun v3_110 => [(3, .int v3_110), (2, .int v2_109), (0, .ref (ad 67)), (1, .int v1), (4, .int v4)]) (fun _ => rfl) h (fun v3_110 h => ?_)
    refine x_goto C dX6_sink_113 4 rfl ?_
    exact x_sub [2, 3, 1, 0] rfl (hk4 _ _ _ _ h)
  · refine x_goto C dX6_sink_73 116 rfl ?_
    exact x_sub [0, 1, 2] rfl (b_X6_sink_116 C  h)
theorem b_X6_sink_4 (C : XC p l s m args meth c cX6_sink 5 none RX6 D vwCl (tysC ca) (EC ad ca) NCC ad) {N : Nat} {o : AH} : ∀ (n : Nat) {ah : AH} {v1 : Int32} {v2 : Int32} {v3 : Int32}, F_X6_sink_4 N n ah v1 v2 v3 = some o → XW p l e rm_X6_sink s m args below meth c 5 0 (xQv below args s D vwCl (tysC ca) (EC ad ca) NCC ad o) D vwCl (EC ad ca) NCC ad ah 4 [(0, .ref (ad 67)), (1, .int v1), (2, .int v2), (3, .int v3)] [] := by
  intro n
  induction n with
  | zero => intro ah v1 v2 v3 h; unfold F_X6_sink_4 at h; cases h
  | succ n ih =>
    intro ah v1 v2 v3 h
    unfold F_X6_sink_4 at h
    refine x_iload_n C dX6_sink_4 5 rfl 3 rfl ?_
    refine x_bipush C dX6_sink_5 7 rfl 16 rfl ?_
    refine x_icmp_ge C dX6_sink_7 10 rfl 116 rfl h (fun h => ?_) (fun h => ?_)
    · exact x_sub [0, 1, 2] rfl (b_X6_sink_116 C  h)
    · refine x_iconst C dX6_sink_10 11 rfl 2 rfl ?_
      refine x_iload_n C dX6_sink_11 12 rfl 2 rfl ?_
      refine x_imul C dX6_sink_12 13 rfl ?_
      refine x_iconst C dX6_sink_13 14 rfl 1 rfl ?_
      refine x_iadd C dX6_sink_14 15 rfl ?_
      refine x_aload_n C dX6_sink_15 16 rfl 0 rfl ?_
      refine x_get C inX6 67 lc67 EC_67 rfl 7 (by decide) dX6_sink_16 19 rfl wmf_X6_63 rfl ?_
      refine x_icmp_ge C dX6_sink_19 22 rfl 116 rfl h (fun h => ?_) (fun h => ?_)
      · exact x_sub [0, 1, 2] rfl (b_X6_sink_116 C  h)
      · refine x_iconst C dX6_sink_22 23 rfl 2 rfl ?_
        refine x_iload_n C dX6_sink_23 24 rfl 2 rfl ?_
        refine x_imul C dX6_sink_24 25 rfl ?_
        refine x_iconst C dX6_sink_25 26 rfl 1 rfl ?_
        refine x_iadd C dX6_sink_26 27 rfl ?_
        refine x_istore C dX6_sink_27 29 rfl (by decide) (fun v4_27 => [(4, .int v4_27), (0, .ref (ad 67)), (1, .int v1), (2, .int v2), (3, .int v3)]) (fun _ => rfl) h (fun v4_27 h => ?_)
        refine x_iload C dX6_sink_29 31 rfl 0 rfl ?_
        refine x_iconst C dX6_sink_31 32 rfl 1 rfl ?_
        refine x_iadd C dX6_sink_32 33 rfl ?_
        refine x_aload_n C dX6_sink_33 34 rfl 1 rfl ?_
        refine x_get C inX6 67 lc67 EC_67 rfl 7 (by decide) dX6_sink_34 37 rfl wmf_X6_63 rfl ?_
        refine x_icmp_ge C dX6_sink_37 40 rfl 62 rfl h (fun h => ?_) (fun h => ?_)
        · exact x_sub [1, 2, 3, 4, 0] rfl (b_X6_sink_62 C (fun _ _ _ _ h => ih h) h)
        · refine x_aload_n C dX6_sink_40 41 rfl 1 rfl ?_
          refine x_get C inX6 67 lc67 EC_67 rfl 8 (by decide) dX6_sink_41 44 rfl wmf_X6_21 rfl ?_
          refine x_iload C dX6_sink_44 46 rfl 0 rfl ?_
          refine x_iconst C dX6_sink_46 47 rfl 1 rfl ?_
          refine x_iadd C dX6_sink_47 48 rfl ?_
          refine x_iald C 71 lc71 EC_71 0 rfl dX6_sink_48 49 rfl h (fun h => ?_)
          refine x_aload_n C dX6_sink_49 50 rfl 1 rfl ?_
          refine x_get C inX6 67 lc67 EC_67 rfl 8 (by decide) dX6_sink_50 53 rfl wmf_X6_21 rfl ?_
          refine x_iload C dX6_sink_53 55 rfl 0 rfl ?_
          refine x_iald C 71 lc71 EC_71 0 rfl dX6_sink_55 56 rfl h (fun h => ?_)
          refine x_icmp_ge C dX6_sink_56 59 rfl 62 rfl h (fun h => ?_) (fun h => ?_)
          · exact x_sub [1, 2, 3, 4, 0] rfl (b_X6_sink_62 C (fun _ _ _ _ h => ih h) h)
          · refine x_iinc C dX6_sink_59 62 rfl 0 rfl (d := 1) rfl (by decide) (fun v4_59 => [(4, .int v4_59), (0, .ref (ad 67)), (1, .int v1), (2, .int v2), (3, .int v3)]) (fun _ => rfl) h (fun v4_59 h => ?_)
            exact x_sub [1, 2, 3, 4, 0] rfl (b_X6_sink_62 C (fun _ _ _ _ h => ih h) h)
theorem c_X6_sink {l : Launch} {D : va_G} {ca : Nat → ClassId} {ad : Nat → Nat} (hI : xInj ad NCC) {N : Nat} {ah : AH} {p1 : Int32} {a : AH} (h : F_X6_sink N ah p1 = some a) : xMv l yX6_sink cX6_sink 5 rm_X6_sink D vwCl (tysC ca) (EC ad ca) NCC ad [.ref (ad 67), .int p1] ah a := by
  refine x_metv (by decide) (Nat.le_of_ble_eq_true rfl) hI EC_loc ?_
  intro p e s m args below meth c C
  unfold F_X6_sink at h
  refine x_iconst C dX6_sink_0 1 rfl 0 rfl ?_
  refine x_istore_n C dX6_sink_1 2 rfl (by decide) (fun v2_1 => [(2, .int v2_1), (0, .ref (ad 67)), (1, .int p1)]) (fun _ => rfl) h (fun v2_1 h => ?_)
  refine x_iconst C dX6_sink_2 3 rfl 0 rfl ?_
  refine x_istore_n C dX6_sink_3 4 rfl (by decide) (fun v3_3 => [(3, .int v3_3), (2, .int v2_1), (0, .ref (ad 67)), (1, .int p1)]) (fun _ => rfl) h (fun v3_3 h => ?_)
  exact x_sub [2, 3, 1, 0] rfl (b_X6_sink_4 C  N h)
abbrev rm_X6_takeLeast : Room := { frames := 1, cells := 0, slots := 0, locals := 24 }
theorem wq_X6_takeLeast : xcV RX6 yX6_takeLeast cX6_takeLeast 2 (some .int) 0 := ⟨wmi_X6_takeLeast, wms_X6_takeLeast, wmn_X6, wmc_X6_takeLeast, by decide, by decide, by decide +kernel⟩
def F_X6_takeLeast (N : Nat) (ah : AH) : Option (Int32 × AH) := xlet (ah 71 0) (fun v1_6 => xlet (xu ah 67 7 ((ah 67 7) - 1)) (fun a14 => xg (a14 67 7) 18085 (xbv (F_X6_sink N a14 (a14 71 (Int32.toNatClampNeg (a14 67 7)))) (fun a27 => xg (v1_6 &&& 32767) 18085 (xlet (xu a27 72 (Int32.toNatClampNeg (v1_6 &&& 32767)) ((-1))) (fun a40 => some (v1_6, a40)))))))
theorem c_X6_takeLeast {l : Launch} {D : va_G} {ca : Nat → ClassId} {ad : Nat → Nat} (hI : xInj ad NCC) {N : Nat} {ah : AH} {r : Int32} {a : AH} (h : F_X6_takeLeast N ah = some (r, a)) : xMi l yX6_takeLeast cX6_takeLeast 2 (some .int) rm_X6_takeLeast D vwCl (tysC ca) (EC ad ca) NCC ad [.ref (ad 67)] ah (r, a) := by
  refine x_meti (by decide) (Nat.le_of_ble_eq_true rfl) hI EC_loc ?_
  intro p e s m args below meth c C
  unfold F_X6_takeLeast at h
  refine x_aload_n C dX6_takeLeast_0 1 rfl 0 rfl ?_
  refine x_get C inX6 67 lc67 EC_67 rfl 8 (by decide) dX6_takeLeast_1 4 rfl wmf_X6_21 rfl ?_
  refine x_iconst C dX6_takeLeast_4 5 rfl 0 rfl ?_
  refine x_ialdK C 71 lc71 EC_71 0 rfl dX6_takeLeast_5 6 rfl (by decide) 0 (by decide) ?_
  refine x_istore_n C dX6_takeLeast_6 7 rfl (by decide) (fun v1_6 => [(1, .int v1_6), (0, .ref (ad 67))]) (fun _ => rfl) h (fun v1_6 h => ?_)
  refine x_aload_n C dX6_takeLeast_7 8 rfl 1 rfl ?_
  refine x_dup C dX6_takeLeast_8 9 rfl rfl ?_
  refine x_get C inX6 67 lc67 EC_67 rfl 7 (by decide) dX6_takeLeast_9 12 rfl wmf_X6_63 rfl ?_
  refine x_iconst C dX6_takeLeast_12 13 rfl 1 rfl ?_
  refine x_isub C dX6_takeLeast_13 14 rfl ?_
  refine x_put C inX6 67 lc67 EC_67 rfl 7 (by decide) tyX6_ok nmX6 dX6_takeLeast_14 17 rfl wmf_X6_63 rfl rfl rfl (Nat.le_of_ble_eq_true rfl) EP_67_7 h (fun a14 h => ?_)
  refine x_aload_n C dX6_takeLeast_17 18 rfl 1 rfl ?_
  refine x_aload_n C dX6_takeLeast_18 19 rfl 1 rfl ?_
  refine x_get C inX6 67 lc67 EC_67 rfl 8 (by decide) dX6_takeLeast_19 22 rfl wmf_X6_21 rfl ?_
  refine x_aload_n C dX6_takeLeast_22 23 rfl 1 rfl ?_
  refine x_get C inX6 67 lc67 EC_67 rfl 7 (by decide) dX6_takeLeast_23 26 rfl wmf_X6_63 rfl ?_
  refine x_iald C 71 lc71 EC_71 0 rfl dX6_takeLeast_26 27 rfl h (fun h => ?_)
  obtain ⟨a27, hq, h⟩ := xbv_some h
  refine x_callVv C 67 (c_X6_sink C.2.2.2.2.2.2.1 hq) lc67 EC_67 rfl wml_X6_118 wq_X6_sink rfl ⟨by decide, by decide⟩ rfl rfl ⟨by decide, by decide⟩ dX6_takeLeast_27 30 rfl rfl (Nat.le_of_ble_eq_true rfl) ?_
  refine x_aload_n C dX6_takeLeast_30 31 rfl 1 rfl ?_
  refine x_get C inX6 67 lc67 EC_67 rfl 9 (by decide) dX6_takeLeast_31 34 rfl wmf_X6_24 rfl ?_
  refine x_iload_n C dX6_takeLeast_34 35 rfl 0 rfl ?_
  refine x_sipush C dX6_takeLeast_35 38 rfl 32767 rfl ?_
  refine x_iand C dX6_takeLeast_38 39 rfl ?_
  refine x_iconst C dX6_takeLeast_39 40 rfl (-1) rfl ?_
  refine x_iast C 72 lc72 (fun _ => EC_72) 0 rfl dX6_takeLeast_40 41 rfl h (fun a40 h => ?_)
  refine x_iload_n C dX6_takeLeast_41 42 rfl 0 rfl ?_
  exact x_iret C rfl dX6_takeLeast_42 h
abbrev rm_X2_childOf : Room := { frames := 0, cells := 0, slots := 0, locals := 0 }
theorem wq_X2_childOf : xcV RX2 yX2_childOf cX2_childOf 5 (some .int) 2 := ⟨wmi_X2_childOf, wms_X2_childOf, wmn_X2, wmc_X2_childOf, by decide, by decide, by decide +kernel⟩
def F_X2_childOf_10 (N : Nat) : Nat → AH → Int32 → Int32 → Int32 → Option (Int32 × AH)
  | 0, _, _, _, _ => none
  | n + 1, ah, v2, v3, v4 => if 26 < v4 then some ((-1), ah) else if v3 < 0 then some ((-1), ah) else xg v3 721 (if (ah 10 (Int32.toNatClampNeg v3)) = v2 then some (v3, ah) else xg v3 721 (xlet (ah 13 (Int32.toNatClampNeg v3)) (fun v3_39 => xlet (v4 + 1) (fun v4_40 => F_X2_childOf_10 N n ah v2 v3_39 v4_40))))
def F_X2_childOf (N : Nat) (ah : AH) (p1 : Int32) (p2 : Int32) : Option (Int32 × AH) := xg p1 721 (xlet (ah 12 (Int32.toNatClampNeg p1)) (fun v3_6 => xlet 0 (fun v4_8 => F_X2_childOf_10 N N ah p2 v3_6 v4_8)))
theorem b_X2_childOf_10 (C : XC p l s m args meth c cX2_childOf 5 (some .int) RX2 D vwCl (tysC ca) (EC ad ca) NCC ad) {N : Nat} {o : (Int32 × AH)} : ∀ (n : Nat) {ah : AH} {v2 : Int32} {v3 : Int32} {v4 : Int32}, F_X2_childOf_10 N n ah v2 v3 v4 = some o → XW p l e rm_X2_childOf s m args below meth c 5 0 (xQi below args s D vwCl (tysC ca) (EC ad ca) NCC ad o) D vwCl (EC ad ca) NCC ad ah 10 [(0, .ref (ad 4)), (2, .int v2), (3, .int v3), (4, .int v4)] [] := by
  intro n
  induction n with
  | zero => intro ah v2 v3 v4 h; unfold F_X2_childOf_10 at h; cases h
  | succ n ih =>
    intro ah v2 v3 v4 h
    unfold F_X2_childOf_10 at h
    refine x_iload C dX2_childOf_10 12 rfl 3 rfl ?_
    refine x_bipush C dX2_childOf_12 14 rfl 26 rfl ?_
    refine x_icmp_gt C dX2_childOf_14 17 rfl 46 rfl h (fun h => ?_) (fun h => ?_)
    · refine x_iconst C dX2_childOf_46 47 rfl (-1) rfl ?_
      exact x_iret C rfl dX2_childOf_47 h
    · refine x_iload_n C dX2_childOf_17 18 rfl 2 rfl ?_
      refine x_if_lt C dX2_childOf_18 21 rfl 46 rfl h (fun h => ?_) (fun h => ?_)
      · refine x_iconst C dX2_childOf_46 47 rfl (-1) rfl ?_
        exact x_iret C rfl dX2_childOf_47 h
      · refine x_aload_n C dX2_childOf_21 22 rfl 0 rfl ?_
        refine x_get C inX2 4 lc4 EC_4 rfl 7 (by decide) dX2_childOf_22 25 rfl wmf_X2_31 rfl ?_
        refine x_iload_n C dX2_childOf_25 26 rfl 2 rfl ?_
        refine x_iald C 10 lc10 EC_10 0 rfl dX2_childOf_26 27 rfl h (fun h => ?_)
        refine x_iload_n C dX2_childOf_27 28 rfl 1 rfl ?_
        refine x_icmp_ne C dX2_childOf_28 31 rfl 33 rfl h (fun h => ?_) (fun h => ?_)
        · refine x_aload_n C dX2_childOf_33 34 rfl 0 rfl ?_
          refine x_get C inX2 4 lc4 EC_4 rfl 10 (by decide) dX2_childOf_34 37 rfl wmf_X2_40 rfl ?_
          refine x_iload_n C dX2_childOf_37 38 rfl 2 rfl ?_
          refine x_iald C 13 lc13 EC_13 0 rfl dX2_childOf_38 39 rfl h (fun h => ?_)
          refine x_istore_n C dX2_childOf_39 40 rfl (by decide) (fun v3_39 => [(3, .int v3_39), (0, .ref (ad 4)), (2, .int v2), (4, .int v4)]) (fun _ => rfl) h (fun v3_39 h => ?_)
          refine x_iinc C dX2_childOf_40 43 rfl 3 rfl (d := 1) rfl (by decide) (fun v4_40 => [(4, .int v4_40), (3, .int v3_39), (0, .ref (ad 4)), (2, .int v2)]) (fun _ => rfl) h (fun v4_40 h => ?_)
          refine x_goto C dX2_childOf_43 10 rfl ?_
          exact x_sub [2, 3, 1, 0] rfl (ih h)
        · refine x_iload_n C dX2_childOf_31 32 rfl 2 rfl ?_
          exact x_iret C rfl dX2_childOf_32 h
theorem c_X2_childOf {l : Launch} {D : va_G} {ca : Nat → ClassId} {ad : Nat → Nat} (hI : xInj ad NCC) {N : Nat} {ah : AH} {p1 : Int32} {p2 : Int32} {r : Int32} {a : AH} (h : F_X2_childOf N ah p1 p2 = some (r, a)) : xMi l yX2_childOf cX2_childOf 5 (some .int) rm_X2_childOf D vwCl (tysC ca) (EC ad ca) NCC ad [.ref (ad 4), .int p1, .int p2] ah (r, a) := by
  refine x_meti (by decide) (Nat.le_of_ble_eq_true rfl) hI EC_loc ?_
  intro p e s m args below meth c C
  unfold F_X2_childOf at h
  refine x_aload_n C dX2_childOf_0 1 rfl 0 rfl ?_
  refine x_get C inX2 4 lc4 EC_4 rfl 9 (by decide) dX2_childOf_1 4 rfl wmf_X2_37 rfl ?_
  refine x_iload_n C dX2_childOf_4 5 rfl 1 rfl ?_
  refine x_iald C 12 lc12 EC_12 0 rfl dX2_childOf_5 6 rfl h (fun h => ?_)
  refine x_istore_n C dX2_childOf_6 7 rfl (by decide) (fun v3_6 => [(3, .int v3_6), (0, .ref (ad 4)), (1, .int p1), (2, .int p2)]) (fun _ => rfl) h (fun v3_6 h => ?_)
  refine x_iconst C dX2_childOf_7 8 rfl 0 rfl ?_
  refine x_istore C dX2_childOf_8 10 rfl (by decide) (fun v4_8 => [(4, .int v4_8), (3, .int v3_6), (0, .ref (ad 4)), (1, .int p1), (2, .int p2)]) (fun _ => rfl) h (fun v4_8 h => ?_)
  exact x_sub [2, 4, 1, 0] rfl (b_X2_childOf_10 C  N h)
abbrev rm_X6_walk : Room := { frames := 1, cells := 0, slots := 0, locals := 24 }
theorem wq_X6_walk : xcV RX6 yX6_walk cX6_walk 5 (some .int) 2 := ⟨wmi_X6_walk, wms_X6_walk, wmn_X6, wmc_X6_walk, by decide, by decide, by decide +kernel⟩
def F_X6_walk_5 (N : Nat) : Nat → AH → Int32 → Int32 → Int32 → Option (Int32 × AH)
  | 0, _, _, _, _ => none
  | n + 1, ah, v2, v3, v4 => xg v2 624 (if (ah 63 (Int32.toNatClampNeg v2)) ≤ v4 then some (v3, ah) else if v3 = ((-1)) then some (v3, ah) else xg ((v2 * 3) + v4) 1872 (xb (F_X2_childOf N ah v3 (ah 64 (Int32.toNatClampNeg ((v2 * 3) + v4)))) (fun r43 a43 => xlet r43 (fun v3_46 => xlet (v4 + 1) (fun v4_47 => F_X6_walk_5 N n a43 v2 v3_46 v4_47)))))
def F_X6_walk (N : Nat) (ah : AH) (p1 : Int32) (p2 : Int32) : Option (Int32 × AH) := xlet p1 (fun v3_1 => xlet 0 (fun v4_3 => F_X6_walk_5 N N ah p2 v3_1 v4_3))
theorem b_X6_walk_5 (C : XC p l s m args meth c cX6_walk 5 (some .int) RX6 D vwCl (tysC ca) (EC ad ca) NCC ad) {N : Nat} {o : (Int32 × AH)} : ∀ (n : Nat) {ah : AH} {v2 : Int32} {v3 : Int32} {v4 : Int32}, F_X6_walk_5 N n ah v2 v3 v4 = some o → XW p l e rm_X6_walk s m args below meth c 5 0 (xQi below args s D vwCl (tysC ca) (EC ad ca) NCC ad o) D vwCl (EC ad ca) NCC ad ah 5 [(0, .ref (ad 67)), (2, .int v2), (3, .int v3), (4, .int v4)] [] := by
  intro n
  induction n with
  | zero => intro ah v2 v3 v4 h; unfold F_X6_walk_5 at h; cases h
  | succ n ih =>
    intro ah v2 v3 v4 h
    unfold F_X6_walk_5 at h
    refine x_iload C dX6_walk_5 7 rfl 3 rfl ?_
    refine x_aload_n C dX6_walk_7 8 rfl 0 rfl ?_
    refine x_get C inX6 67 lc67 EC_67 rfl 1 (by decide) dX6_walk_8 11 rfl wmf_X6_34 rfl ?_
    refine x_get C inX4 57 lc57 EC_57 rfl 11 (by decide) dX6_walk_11 14 rfl wmf_X6_106 rfl ?_
    refine x_iload_n C dX6_walk_14 15 rfl 1 rfl ?_
    refine x_iald C 63 lc63 EC_63 0 rfl dX6_walk_15 16 rfl h (fun h => ?_)
    refine x_icmp_ge C dX6_walk_16 19 rfl 53 rfl h (fun h => ?_) (fun h => ?_)
    · refine x_iload_n C dX6_walk_53 54 rfl 2 rfl ?_
      exact x_iret C rfl dX6_walk_54 h
    · refine x_iload_n C dX6_walk_19 20 rfl 2 rfl ?_
      refine x_iconst C dX6_walk_20 21 rfl (-1) rfl ?_
      refine x_icmp_eq C dX6_walk_21 24 rfl 53 rfl h (fun h => ?_) (fun h => ?_)
      · refine x_iload_n C dX6_walk_53 54 rfl 2 rfl ?_
        exact x_iret C rfl dX6_walk_54 h
      · refine x_aload_n C dX6_walk_24 25 rfl 0 rfl ?_
        refine x_get C inX6 67 lc67 EC_67 rfl 0 (by decide) dX6_walk_25 28 rfl wmf_X6_30 rfl ?_
        refine x_iload_n C dX6_walk_28 29 rfl 2 rfl ?_
        refine x_aload_n C dX6_walk_29 30 rfl 0 rfl ?_
        refine x_get C inX6 67 lc67 EC_67 rfl 1 (by decide) dX6_walk_30 33 rfl wmf_X6_34 rfl ?_
        refine x_get C inX4 57 lc57 EC_57 rfl 12 (by decide) dX6_walk_33 36 rfl wmf_X6_109 rfl ?_
        refine x_iload_n C dX6_walk_36 37 rfl 1 rfl ?_
        refine x_iconst C dX6_walk_37 38 rfl 3 rfl ?_
        refine x_imul C dX6_walk_38 39 rfl ?_
        refine x_iload C dX6_walk_39 41 rfl 3 rfl ?_
        refine x_iadd C dX6_walk_41 42 rfl ?_
        refine x_iald C 64 lc64 EC_64 0 rfl dX6_walk_42 43 rfl h (fun h => ?_)
        obtain ⟨r43, a43, hq, h⟩ := xb_some h
        refine x_callVi C 4 (c_X2_childOf C.2.2.2.2.2.2.1 hq) lc4 EC_4 rfl wml_X6_112 wq_X2_childOf rfl ⟨by decide, by decide⟩ rfl rfl ⟨by decide, by decide⟩ dX6_walk_43 46 rfl rfl (Nat.le_of_ble_eq_true rfl) ?_
        refine x_istore_n C dX6_walk_46 47 rfl (by decide) (fun v3_46 => [(3, .int v3_46), (0, .ref (ad 67)), (2, .int v2), (4, .int v4)]) (fun _ => rfl) h (fun v3_46 h => ?_)
        refine x_iinc C dX6_walk_47 50 rfl 3 rfl (d := 1) rfl (by decide) (fun v4_47 => [(4, .int v4_47), (3, .int v3_46), (0, .ref (ad 67)), (2, .int v2)]) (fun _ => rfl) h (fun v4_47 h => ?_)
        refine x_goto C dX6_walk_50 5 rfl ?_
        exact x_sub [2, 3, 1, 0] rfl (ih h)
theorem c_X6_walk {l : Launch} {D : va_G} {ca : Nat → ClassId} {ad : Nat → Nat} (hI : xInj ad NCC) {N : Nat} {ah : AH} {p1 : Int32} {p2 : Int32} {r : Int32} {a : AH} (h : F_X6_walk N ah p1 p2 = some (r, a)) : xMi l yX6_walk cX6_walk 5 (some .int) rm_X6_walk D vwCl (tysC ca) (EC ad ca) NCC ad [.ref (ad 67), .int p1, .int p2] ah (r, a) := by
  refine x_meti (by decide) (Nat.le_of_ble_eq_true rfl) hI EC_loc ?_
  intro p e s m args below meth c C
  unfold F_X6_walk at h
  refine x_iload_n C dX6_walk_0 1 rfl 1 rfl ?_
  refine x_istore_n C dX6_walk_1 2 rfl (by decide) (fun v3_1 => [(3, .int v3_1), (0, .ref (ad 67)), (1, .int p1), (2, .int p2)]) (fun _ => rfl) h (fun v3_1 h => ?_)
  refine x_iconst C dX6_walk_2 3 rfl 0 rfl ?_
  refine x_istore C dX6_walk_3 5 rfl (by decide) (fun v4_3 => [(4, .int v4_3), (3, .int v3_1), (0, .ref (ad 67)), (1, .int p1), (2, .int p2)]) (fun _ => rfl) h (fun v4_3 h => ?_)
  exact x_sub [2, 4, 1, 0] rfl (b_X6_walk_5 C  N h)
abbrev rm_X6_open : Room := { frames := 2, cells := 0, slots := 0, locals := 49 }
theorem wq_X6_open : xcV RX6 yX6_open cX6_open 11 none 2 := ⟨wmi_X6_open, wms_X6_open, wmn_X6, wmc_X6_open, by decide, by decide, by decide +kernel⟩
def F_X6_open_210 (N : Nat) (k115 : AH → Int32 → Int32 → Int32 → Int32 → Option AH) (ah : AH) (v3 : Int32) (v4 : Int32) (v5 : Int32) (v7 : Int32) : Option AH := xlet (v7 + 1) (fun v7_210 => k115 ah v3 v4 v5 v7_210)
def F_X6_open_115 (N : Nat) : Nat → AH → Int32 → Int32 → Int32 → Int32 → Option AH
  | 0, _, _, _, _, _ => none
  | n + 1, ah, v3, v4, v5, v7 => xg (v3 + 1) 26 (if (ah 59 (Int32.toNatClampNeg (v3 + 1))) ≤ v7 then some ah else xb (F_X6_walk N ah v4 v7) (fun r136 a136 => xlet r136 (fun v8_139 => if v8_139 = ((-1)) then F_X6_open_210 N (F_X6_open_115 N n) a136 v3 v4 v5 v7 else xg v7 624 (xlet (a136 61 (Int32.toNatClampNeg v7)) (fun v9_157 => xg v7 624 (xlet (v5 + (a136 62 (Int32.toNatClampNeg v7))) (fun v10_172 => xb (F_X6_itemOf N a136 v9_157 v8_139) (fun r180 a180 => xg v9_157 25 (xg v8_139 721 (xbv (F_X6_put N a180 r180 ((v10_172 + (a180 66 (Int32.toNatClampNeg v9_157))) + (a180 15 (Int32.toNatClampNeg v8_139)))) (fun a207 => F_X6_open_210 N (F_X6_open_115 N n) a207 v3 v4 v5 v7)))))))))))
def F_X6_open_104 (N : Nat) (ah : AH) (v3 : Int32) (v4 : Int32) (v5 : Int32) : Option AH := xg v3 26 (xlet (ah 59 (Int32.toNatClampNeg v3)) (fun v7_113 => F_X6_open_115 N N ah v3 v4 v5 v7_113))
def F_X6_open (N : Nat) (ah : AH) (p1 : Int32) (p2 : Int32) : Option AH := xz 721 (xlet (24 - ((p1 - 60) / 721)) (fun v3_11 => xz 721 (xlet ((p1 - 60) - (p1 - 60) / 721 * 721) (fun v4_20 => xg v3_11 25 (xg v4_20 721 (xlet ((p2 - (ah 66 (Int32.toNatClampNeg v3_11))) - (ah 15 (Int32.toNatClampNeg v4_20))) (fun v5_44 => xlet (xu ah 67 6 ((ah 67 6) + 1)) (fun a53 => xg v4_20 721 (xlet (a53 11 (Int32.toNatClampNeg v4_20)) (fun v6_66 => if v3_11 = (a53 57 4) then if v6_66 = ((-1)) then F_X6_open_104 N a53 v3_11 v4_20 v5_44 else xg v6_66 60 (xbv (F_X6_put N a53 v6_66 (v5_44 + (a53 6 (Int32.toNatClampNeg v6_66)))) (fun a101 => F_X6_open_104 N a101 v3_11 v4_20 v5_44)) else F_X6_open_104 N a53 v3_11 v4_20 v5_44))))))))))
theorem b_X6_open_210 (C : XC p l s m args meth c cX6_open 11 none RX6 D vwCl (tysC ca) (EC ad ca) NCC ad) {N : Nat} {o : AH} {k115 : AH → Int32 → Int32 → Int32 → Int32 → Option AH} (hk115 : ∀ (ah : AH) (v3 : Int32) (v4 : Int32) (v5 : Int32) (v7 : Int32), k115 ah v3 v4 v5 v7 = some o → XW p l e rm_X6_open s m args below meth c 11 0 (xQv below args s D vwCl (tysC ca) (EC ad ca) NCC ad o) D vwCl (EC ad ca) NCC ad ah 115 [(0, .ref (ad 67)), (3, .int v3), (4, .int v4), (5, .int v5), (7, .int v7)] []) {ah : AH} {v3 : Int32} {v4 : Int32} {v5 : Int32} {v7 : Int32} (h : F_X6_open_210 N k115 ah v3 v4 v5 v7 = some o) : XW p l e rm_X6_open s m args below meth c 11 0 (xQv below args s D vwCl (tysC ca) (EC ad ca) NCC ad o) D vwCl (EC ad ca) NCC ad ah 210 [(0, .ref (ad 67)), (3, .int v3), (4, .int v4), (5, .int v5), (7, .int v7)] [] := by
  unfold F_X6_open_210 at h
  refine x_iinc C dX6_open_210 213 rfl 4 rfl (d := 1) rfl (by decide) (fun v7_210 => [(7, .int v7_210), (0, .ref (ad 67)), (3, .int v3), (4, .int v4), (5, .int v5)]) (fun _ => rfl) h (fun v7_210 h => ?_)
  refine x_goto C dX6_open_213 115 rfl ?_
  exact x_sub [1, 2, 3, 4, 0] rfl (hk115 _ _ _ _ _ h)
theorem b_X6_open_115 (C : XC p l s m args meth c cX6_open 11 none RX6 D vwCl (tysC ca) (EC ad ca) NCC ad) {N : Nat} {o : AH} : ∀ (n : Nat) {ah : AH} {v3 : Int32} {v4 : Int32} {v5 : Int32} {v7 : Int32}, F_X6_open_115 N n ah v3 v4 v5 v7 = some o → XW p l e rm_X6_open s m args below meth c 11 0 (xQv below args s D vwCl (tysC ca) (EC ad ca) NCC ad o) D vwCl (EC ad ca) NCC ad ah 115 [(0, .ref (ad 67)), (3, .int v3), (4, .int v4), (5, .int v5), (7, .int v7)] [] := by
  intro n
  induction n with
  | zero => intro ah v3 v4 v5 v7 h; unfold F_X6_open_115 at h; cases h
  | succ n ih =>
    intro ah v3 v4 v5 v7 h
    unfold F_X6_open_115 at h
    refine x_iload C dX6_open_115 117 rfl 4 rfl ?_
    refine x_aload_n C dX6_open_117 118 rfl 0 rfl ?_
    refine x_get C inX6 67 lc67 EC_67 rfl 1 (by decide) dX6_open_118 121 rfl wmf_X6_34 rfl ?_
    refine x_get C inX4 57 lc57 EC_57 rfl 7 (by decide) dX6_open_121 124 rfl wmf_X6_94 rfl ?_
    refine x_iload_n C dX6_open_124 125 rfl 1 rfl ?_
    refine x_iconst C dX6_open_125 126 rfl 1 rfl ?_
    refine x_iadd C dX6_open_126 127 rfl ?_
    refine x_iald C 59 lc59 EC_59 0 rfl dX6_open_127 128 rfl h (fun h => ?_)
    refine x_icmp_ge C dX6_open_128 131 rfl 216 rfl h (fun h => ?_) (fun h => ?_)
    · exact x_vret C rfl dX6_open_216 h
    · refine x_aload_n C dX6_open_131 132 rfl 0 rfl ?_
      refine x_iload C dX6_open_132 134 rfl 2 rfl ?_
      refine x_iload C dX6_open_134 136 rfl 4 rfl ?_
      obtain ⟨r136, a136, hq, h⟩ := xb_some h
      refine x_callVi C 67 (c_X6_walk C.2.2.2.2.2.2.1 hq) lc67 EC_67 rfl wml_X6_97 wq_X6_walk rfl ⟨by decide, by decide⟩ rfl rfl ⟨by decide, by decide⟩ dX6_open_136 139 rfl rfl (Nat.le_of_ble_eq_true rfl) ?_
      refine x_istore C dX6_open_139 141 rfl (by decide) (fun v8_139 => [(8, .int v8_139), (0, .ref (ad 67)), (3, .int v3), (4, .int v4), (5, .int v5), (7, .int v7)]) (fun _ => rfl) h (fun v8_139 h => ?_)
      refine x_iload C dX6_open_141 143 rfl 0 rfl ?_
      refine x_iconst C dX6_open_143 144 rfl (-1) rfl ?_
      refine x_icmp_eq C dX6_open_144 147 rfl 210 rfl h (fun h => ?_) (fun h => ?_)
      · exact x_sub [1, 2, 3, 4, 5] rfl (b_X6_open_210 C (fun _ _ _ _ _ h => ih h) h)
      · refine x_aload_n C dX6_open_147 148 rfl 1 rfl ?_
        refine x_get C inX6 67 lc67 EC_67 rfl 1 (by decide) dX6_open_148 151 rfl wmf_X6_34 rfl ?_
        refine x_get C inX4 57 lc57 EC_57 rfl 9 (by decide) dX6_open_151 154 rfl wmf_X6_100 rfl ?_
        refine x_iload C dX6_open_154 156 rfl 5 rfl ?_
        refine x_iald C 61 lc61 EC_61 0 rfl dX6_open_156 157 rfl h (fun h => ?_)
        refine x_istore C dX6_open_157 159 rfl (by decide) (fun v9_157 => [(9, .int v9_157), (8, .int v8_139), (0, .ref (ad 67)), (3, .int v3), (4, .int v4), (5, .int v5), (7, .int v7)]) (fun _ => rfl) h (fun v9_157 h => ?_)
        refine x_iload C dX6_open_159 161 rfl 5 rfl ?_
        refine x_aload_n C dX6_open_161 162 rfl 2 rfl ?_
        refine x_get C inX6 67 lc67 EC_67 rfl 1 (by decide) dX6_open_162 165 rfl wmf_X6_34 rfl ?_
        refine x_get C inX4 57 lc57 EC_57 rfl 10 (by decide) dX6_open_165 168 rfl wmf_X6_103 rfl ?_
        refine x_iload C dX6_open_168 170 rfl 6 rfl ?_
        refine x_iald C 62 lc62 EC_62 0 rfl dX6_open_170 171 rfl h (fun h => ?_)
        refine x_iadd C dX6_open_171 172 rfl ?_
        refine x_istore C dX6_open_172 174 rfl (by decide) (fun v10_172 => [(10, .int v10_172), (9, .int v9_157), (8, .int v8_139), (0, .ref (ad 67)), (3, .int v3), (4, .int v4), (5, .int v5), (7, .int v7)]) (fun _ => rfl) h (fun v10_172 h => ?_)
        refine x_aload_n C dX6_open_174 175 rfl 3 rfl ?_
        refine x_aload_n C dX6_open_175 176 rfl 3 rfl ?_
        refine x_iload C dX6_open_176 178 rfl 1 rfl ?_
        refine x_iload C dX6_open_178 180 rfl 2 rfl ?_
        obtain ⟨r180, a180, hq, h⟩ := xb_some h
        refine x_callVi C 67 (c_X6_itemOf C.2.2.2.2.2.2.1 hq) lc67 EC_67 rfl wml_X6_47 wq_X6_itemOf rfl ⟨by decide, by decide⟩ rfl rfl ⟨by decide, by decide⟩ dX6_open_180 183 rfl rfl (Nat.le_of_ble_eq_true rfl) ?_
        refine x_iload C dX6_open_183 185 rfl 0 rfl ?_
        refine x_aload_n C dX6_open_185 186 rfl 3 rfl ?_
        refine x_get C inX6 67 lc67 EC_67 rfl 1 (by decide) dX6_open_186 189 rfl wmf_X6_34 rfl ?_
        refine x_get C inX4 57 lc57 EC_57 rfl 14 (by decide) dX6_open_189 192 rfl wmf_X6_51 rfl ?_
        refine x_iload C dX6_open_192 194 rfl 1 rfl ?_
        refine x_iald C 66 lc66 EC_66 0 rfl dX6_open_194 195 rfl h (fun h => ?_)
        refine x_iadd C dX6_open_195 196 rfl ?_
        refine x_aload_n C dX6_open_196 197 rfl 3 rfl ?_
        refine x_get C inX6 67 lc67 EC_67 rfl 0 (by decide) dX6_open_197 200 rfl wmf_X6_30 rfl ?_
        refine x_get C inX2 4 lc4 EC_4 rfl 12 (by decide) dX6_open_200 203 rfl wmf_X6_56 rfl ?_
        refine x_iload C dX6_open_203 205 rfl 2 rfl ?_
        refine x_iald C 15 lc15 EC_15 0 rfl dX6_open_205 206 rfl h (fun h => ?_)
        refine x_iadd C dX6_open_206 207 rfl ?_
        obtain ⟨a207, hq, h⟩ := xbv_some h
        refine x_callVv C 67 (c_X6_put C.2.2.2.2.2.2.1 hq) lc67 EC_67 rfl wml_X6_59 wq_X6_put rfl ⟨by decide, by decide⟩ rfl rfl ⟨by decide, by decide⟩ dX6_open_207 210 rfl rfl (Nat.le_of_ble_eq_true rfl) ?_
        exact x_sub [3, 4, 5, 6, 7] rfl (b_X6_open_210 C (fun _ _ _ _ _ h => ih h) h)
theorem b_X6_open_104 (C : XC p l s m args meth c cX6_open 11 none RX6 D vwCl (tysC ca) (EC ad ca) NCC ad) {N : Nat} {o : AH} {ah : AH} {v3 : Int32} {v4 : Int32} {v5 : Int32} (h : F_X6_open_104 N ah v3 v4 v5 = some o) : XW p l e rm_X6_open s m args below meth c 11 0 (xQv below args s D vwCl (tysC ca) (EC ad ca) NCC ad o) D vwCl (EC ad ca) NCC ad ah 104 [(0, .ref (ad 67)), (3, .int v3), (4, .int v4), (5, .int v5)] [] := by
  unfold F_X6_open_104 at h
  refine x_aload_n C dX6_open_104 105 rfl 0 rfl ?_
  refine x_get C inX6 67 lc67 EC_67 rfl 1 (by decide) dX6_open_105 108 rfl wmf_X6_34 rfl ?_
  refine x_get C inX4 57 lc57 EC_57 rfl 7 (by decide) dX6_open_108 111 rfl wmf_X6_94 rfl ?_
  refine x_iload_n C dX6_open_111 112 rfl 1 rfl ?_
  refine x_iald C 59 lc59 EC_59 0 rfl dX6_open_112 113 rfl h (fun h => ?_)
  refine x_istore C dX6_open_113 115 rfl (by decide) (fun v7_113 => [(7, .int v7_113), (0, .ref (ad 67)), (3, .int v3), (4, .int v4), (5, .int v5)]) (fun _ => rfl) h (fun v7_113 h => ?_)
  exact x_sub [1, 2, 3, 4, 0] rfl (b_X6_open_115 C  N h)
theorem c_X6_open {l : Launch} {D : va_G} {ca : Nat → ClassId} {ad : Nat → Nat} (hI : xInj ad NCC) {N : Nat} {ah : AH} {p1 : Int32} {p2 : Int32} {a : AH} (h : F_X6_open N ah p1 p2 = some a) : xMv l yX6_open cX6_open 11 rm_X6_open D vwCl (tysC ca) (EC ad ca) NCC ad [.ref (ad 67), .int p1, .int p2] ah a := by
  refine x_metv (by decide) (Nat.le_of_ble_eq_true rfl) hI EC_loc ?_
  intro p e s m args below meth c C
  unfold F_X6_open at h
  refine x_bipush C dX6_open_0 2 rfl 24 rfl ?_
  refine x_iload_n C dX6_open_2 3 rfl 1 rfl ?_
  refine x_bipush C dX6_open_3 5 rfl 60 rfl ?_
  refine x_isub C dX6_open_5 6 rfl ?_
  refine x_sipush C dX6_open_6 9 rfl 721 rfl ?_
  refine x_idiv C dX6_open_9 10 rfl h (fun h => ?_)
  refine x_isub C dX6_open_10 11 rfl ?_
  refine x_istore_n C dX6_open_11 12 rfl (by decide) (fun v3_11 => [(3, .int v3_11), (0, .ref (ad 67)), (1, .int p1), (2, .int p2)]) (fun _ => rfl) h (fun v3_11 h => ?_)
  refine x_iload_n C dX6_open_12 13 rfl 2 rfl ?_
  refine x_bipush C dX6_open_13 15 rfl 60 rfl ?_
  refine x_isub C dX6_open_15 16 rfl ?_
  refine x_sipush C dX6_open_16 19 rfl 721 rfl ?_
  refine x_irem C dX6_open_19 20 rfl h (fun h => ?_)
  refine x_istore C dX6_open_20 22 rfl (by decide) (fun v4_20 => [(4, .int v4_20), (3, .int v3_11), (0, .ref (ad 67)), (1, .int p1), (2, .int p2)]) (fun _ => rfl) h (fun v4_20 h => ?_)
  refine x_iload_n C dX6_open_22 23 rfl 4 rfl ?_
  refine x_aload_n C dX6_open_23 24 rfl 2 rfl ?_
  refine x_get C inX6 67 lc67 EC_67 rfl 1 (by decide) dX6_open_24 27 rfl wmf_X6_34 rfl ?_
  refine x_get C inX4 57 lc57 EC_57 rfl 14 (by decide) dX6_open_27 30 rfl wmf_X6_51 rfl ?_
  refine x_iload_n C dX6_open_30 31 rfl 1 rfl ?_
  refine x_iald C 66 lc66 EC_66 0 rfl dX6_open_31 32 rfl h (fun h => ?_)
  refine x_isub C dX6_open_32 33 rfl ?_
  refine x_aload_n C dX6_open_33 34 rfl 2 rfl ?_
  refine x_get C inX6 67 lc67 EC_67 rfl 0 (by decide) dX6_open_34 37 rfl wmf_X6_30 rfl ?_
  refine x_get C inX2 4 lc4 EC_4 rfl 12 (by decide) dX6_open_37 40 rfl wmf_X6_56 rfl ?_
  refine x_iload C dX6_open_40 42 rfl 0 rfl ?_
  refine x_iald C 15 lc15 EC_15 0 rfl dX6_open_42 43 rfl h (fun h => ?_)
  refine x_isub C dX6_open_43 44 rfl ?_
  refine x_istore C dX6_open_44 46 rfl (by decide) (fun v5_44 => [(5, .int v5_44), (4, .int v4_20), (3, .int v3_11), (0, .ref (ad 67)), (1, .int p1), (2, .int p2)]) (fun _ => rfl) h (fun v5_44 h => ?_)
  refine x_aload_n C dX6_open_46 47 rfl 3 rfl ?_
  refine x_dup C dX6_open_47 48 rfl rfl ?_
  refine x_get C inX6 67 lc67 EC_67 rfl 6 (by decide) dX6_open_48 51 rfl wmf_X6_82 rfl ?_
  refine x_iconst C dX6_open_51 52 rfl 1 rfl ?_
  refine x_iadd C dX6_open_52 53 rfl ?_
  refine x_put C inX6 67 lc67 EC_67 rfl 6 (by decide) tyX6_ok nmX6 dX6_open_53 56 rfl wmf_X6_82 rfl rfl rfl (Nat.le_of_ble_eq_true rfl) EP_67_6 h (fun a53 h => ?_)
  refine x_aload_n C dX6_open_56 57 rfl 3 rfl ?_
  refine x_get C inX6 67 lc67 EC_67 rfl 0 (by decide) dX6_open_57 60 rfl wmf_X6_30 rfl ?_
  refine x_get C inX2 4 lc4 EC_4 rfl 8 (by decide) dX6_open_60 63 rfl wmf_X6_85 rfl ?_
  refine x_iload C dX6_open_63 65 rfl 1 rfl ?_
  refine x_iald C 11 lc11 EC_11 0 rfl dX6_open_65 66 rfl h (fun h => ?_)
  refine x_istore C dX6_open_66 68 rfl (by decide) (fun v6_66 => [(6, .int v6_66), (5, .int v5_44), (4, .int v4_20), (3, .int v3_11), (0, .ref (ad 67)), (1, .int p1), (2, .int p2)]) (fun _ => rfl) h (fun v6_66 h => ?_)
  refine x_iload_n C dX6_open_68 69 rfl 3 rfl ?_
  refine x_aload_n C dX6_open_69 70 rfl 4 rfl ?_
  refine x_get C inX6 67 lc67 EC_67 rfl 1 (by decide) dX6_open_70 73 rfl wmf_X6_34 rfl ?_
  refine x_get C inX4 57 lc57 EC_57 rfl 4 (by decide) dX6_open_73 76 rfl wmf_X6_88 rfl ?_
  refine x_icmp_ne C dX6_open_76 79 rfl 104 rfl h (fun h => ?_) (fun h => ?_)
  · exact x_sub [4, 3, 2, 1] rfl (b_X6_open_104 C  h)
  · refine x_iload C dX6_open_79 81 rfl 0 rfl ?_
    refine x_iconst C dX6_open_81 82 rfl (-1) rfl ?_
    refine x_icmp_eq C dX6_open_82 85 rfl 104 rfl h (fun h => ?_) (fun h => ?_)
    · exact x_sub [4, 3, 2, 1] rfl (b_X6_open_104 C  h)
    · refine x_aload_n C dX6_open_85 86 rfl 4 rfl ?_
      refine x_iload C dX6_open_86 88 rfl 0 rfl ?_
      refine x_iload C dX6_open_88 90 rfl 1 rfl ?_
      refine x_aload_n C dX6_open_90 91 rfl 4 rfl ?_
      refine x_get C inX6 67 lc67 EC_67 rfl 0 (by decide) dX6_open_91 94 rfl wmf_X6_30 rfl ?_
      refine x_get C inX2 4 lc4 EC_4 rfl 2 (by decide) dX6_open_94 97 rfl wmf_X6_91 rfl ?_
      refine x_iload C dX6_open_97 99 rfl 0 rfl ?_
      refine x_iald C 6 lc6 EC_6 0 rfl dX6_open_99 100 rfl h (fun h => ?_)
      refine x_iadd C dX6_open_100 101 rfl ?_
      obtain ⟨a101, hq, h⟩ := xbv_some h
      refine x_callVv C 67 (c_X6_put C.2.2.2.2.2.2.1 hq) lc67 EC_67 rfl wml_X6_59 wq_X6_put rfl ⟨by decide, by decide⟩ rfl rfl ⟨by decide, by decide⟩ dX6_open_101 104 rfl rfl (Nat.le_of_ble_eq_true rfl) ?_
      exact x_sub [4, 3, 2, 1] rfl (b_X6_open_104 C  h)
abbrev rm_X6_note : Room := { frames := 0, cells := 0, slots := 0, locals := 0 }
theorem wq_X6_note : xcV RX6 yX6_note cX6_note 3 none 2 := ⟨wmi_X6_note, wms_X6_note, wmn_X6, wmc_X6_note, by decide, by decide, by decide +kernel⟩
def F_X6_note (N : Nat) (ah : AH) (p1 : Int32) (p2 : Int32) : Option AH := if 60 ≤ (ah 67 2) then some ah else xg (ah 67 2) 60 (xlet (xu ah 68 (Int32.toNatClampNeg (ah 67 2)) p1) (fun a18 => xg (a18 67 2) 60 (xlet (xu a18 69 (Int32.toNatClampNeg (a18 67 2)) p2) (fun a28 => xg (a28 67 2) 60 (xlet (xu a28 70 (Int32.toNatClampNeg (a28 67 2)) (a28 67 6)) (fun a41 => xlet (xu a41 67 2 ((a41 67 2) + 1)) (fun a49 => some a49)))))))
theorem c_X6_note {l : Launch} {D : va_G} {ca : Nat → ClassId} {ad : Nat → Nat} (hI : xInj ad NCC) {N : Nat} {ah : AH} {p1 : Int32} {p2 : Int32} {a : AH} (h : F_X6_note N ah p1 p2 = some a) : xMv l yX6_note cX6_note 3 rm_X6_note D vwCl (tysC ca) (EC ad ca) NCC ad [.ref (ad 67), .int p1, .int p2] ah a := by
  refine x_metv (by decide) (Nat.le_of_ble_eq_true rfl) hI EC_loc ?_
  intro p e s m args below meth c C
  unfold F_X6_note at h
  refine x_aload_n C dX6_note_0 1 rfl 0 rfl ?_
  refine x_get C inX6 67 lc67 EC_67 rfl 2 (by decide) dX6_note_1 4 rfl wmf_X6_66 rfl ?_
  refine x_bipush C dX6_note_4 6 rfl 60 rfl ?_
  refine x_icmp_ge C dX6_note_6 9 rfl 52 rfl h (fun h => ?_) (fun h => ?_)
  · exact x_vret C rfl dX6_note_52 h
  · refine x_aload_n C dX6_note_9 10 rfl 0 rfl ?_
    refine x_get C inX6 67 lc67 EC_67 rfl 3 (by decide) dX6_note_10 13 rfl wmf_X6_11 rfl ?_
    refine x_aload_n C dX6_note_13 14 rfl 0 rfl ?_
    refine x_get C inX6 67 lc67 EC_67 rfl 2 (by decide) dX6_note_14 17 rfl wmf_X6_66 rfl ?_
    refine x_iload_n C dX6_note_17 18 rfl 1 rfl ?_
    refine x_iast C 68 lc68 (fun _ => EC_68) 0 rfl dX6_note_18 19 rfl h (fun a18 h => ?_)
    refine x_aload_n C dX6_note_19 20 rfl 0 rfl ?_
    refine x_get C inX6 67 lc67 EC_67 rfl 4 (by decide) dX6_note_20 23 rfl wmf_X6_15 rfl ?_
    refine x_aload_n C dX6_note_23 24 rfl 0 rfl ?_
    refine x_get C inX6 67 lc67 EC_67 rfl 2 (by decide) dX6_note_24 27 rfl wmf_X6_66 rfl ?_
    refine x_iload_n C dX6_note_27 28 rfl 2 rfl ?_
    refine x_iast C 69 lc69 (fun _ => EC_69) 0 rfl dX6_note_28 29 rfl h (fun a28 h => ?_)
    refine x_aload_n C dX6_note_29 30 rfl 0 rfl ?_
    refine x_get C inX6 67 lc67 EC_67 rfl 5 (by decide) dX6_note_30 33 rfl wmf_X6_18 rfl ?_
    refine x_aload_n C dX6_note_33 34 rfl 0 rfl ?_
    refine x_get C inX6 67 lc67 EC_67 rfl 2 (by decide) dX6_note_34 37 rfl wmf_X6_66 rfl ?_
    refine x_aload_n C dX6_note_37 38 rfl 0 rfl ?_
    refine x_get C inX6 67 lc67 EC_67 rfl 6 (by decide) dX6_note_38 41 rfl wmf_X6_82 rfl ?_
    refine x_iast C 70 lc70 (fun _ => EC_70) 0 rfl dX6_note_41 42 rfl h (fun a41 h => ?_)
    refine x_aload_n C dX6_note_42 43 rfl 0 rfl ?_
    refine x_dup C dX6_note_43 44 rfl rfl ?_
    refine x_get C inX6 67 lc67 EC_67 rfl 2 (by decide) dX6_note_44 47 rfl wmf_X6_66 rfl ?_
    refine x_iconst C dX6_note_47 48 rfl 1 rfl ?_
    refine x_iadd C dX6_note_48 49 rfl ?_
    refine x_put C inX6 67 lc67 EC_67 rfl 2 (by decide) tyX6_ok nmX6 dX6_note_49 52 rfl wmf_X6_66 rfl rfl rfl (Nat.le_of_ble_eq_true rfl) EP_67_2 h (fun a49 h => ?_)
    exact x_vret C rfl dX6_note_52 h
abbrev rm_X6_run : Room := { frames := 3, cells := 0, slots := 0, locals := 79 }
theorem wq_X6_run : xcV RX6 yX6_run cX6_run 5 none 1 := ⟨wmi_X6_run, wms_X6_run, wmn_X6, wmc_X6_run, by decide, by decide, by decide +kernel⟩
def F_X6_run_110 (N : Nat) (k46 : AH → Int32 → Int32 → Option AH) (ah : AH) (v1 : Int32) (v2 : Int32) : Option AH := xlet (v2 + 1) (fun v2_110 => k46 ah v1 v2_110)
def F_X6_run_46 (N : Nat) : Nat → AH → Int32 → Int32 → Option AH
  | 0, _, _, _ => none
  | n + 1, ah, v1, v2 => if 18085 ≤ v2 then some ah else if (ah 67 7) ≤ 0 then some ah else if v1 ≤ (ah 67 2) then some ah else xb (F_X6_takeLeast N ah) (fun r69 a69 => xlet r69 (fun v3_72 => xlet (v3_72 &&& 32767) (fun v4_78 => if 60 ≤ v4_78 then xbv (F_X6_open N a69 v4_78 (v3_72 >>> (15 &&& 31))) (fun a107 => F_X6_run_110 N (F_X6_run_46 N n) a107 v1 v2) else xbv (F_X6_note N a69 v4_78 (v3_72 >>> (15 &&& 31))) (fun a94 => F_X6_run_110 N (F_X6_run_46 N n) a94 v1 v2))))
def F_X6_run (N : Nat) (ah : AH) (p1 : Int32) : Option AH := xbv (F_X6_clear N ah) (fun a1 => if (a1 4 0) = 0 then some a1 else xb (F_X6_itemOf N a1 0 0) (fun r19 a19 => xbv (F_X6_put N a19 r19 ((a19 66 0) + (a19 15 0))) (fun a41 => xlet 0 (fun v2_45 => F_X6_run_46 N N a41 p1 v2_45))))
theorem b_X6_run_110 (C : XC p l s m args meth c cX6_run 5 none RX6 D vwCl (tysC ca) (EC ad ca) NCC ad) {N : Nat} {o : AH} {k46 : AH → Int32 → Int32 → Option AH} (hk46 : ∀ (ah : AH) (v1 : Int32) (v2 : Int32), k46 ah v1 v2 = some o → XW p l e rm_X6_run s m args below meth c 5 0 (xQv below args s D vwCl (tysC ca) (EC ad ca) NCC ad o) D vwCl (EC ad ca) NCC ad ah 46 [(0, .ref (ad 67)), (1, .int v1), (2, .int v2)] []) {ah : AH} {v1 : Int32} {v2 : Int32} (h : F_X6_run_110 N k46 ah v1 v2 = some o) : XW p l e rm_X6_run s m args below meth c 5 0 (xQv below args s D vwCl (tysC ca) (EC ad ca) NCC ad o) D vwCl (EC ad ca) NCC ad ah 110 [(0, .ref (ad 67)), (1, .int v1), (2, .int v2)] [] := by
  unfold F_X6_run_110 at h
  refine x_iinc C dX6_run_110 113 rfl 2 rfl (d := 1) rfl (by decide) (fun v2_110 => [(2, .int v2_110), (0, .ref (ad 67)), (1, .int v1)]) (fun _ => rfl) h (fun v2_110 h => ?_)
  refine x_goto C dX6_run_113 46 rfl ?_
  exact x_sub [1, 2, 0] rfl (hk46 _ _ _ h)
theorem b_X6_run_46 (C : XC p l s m args meth c cX6_run 5 none RX6 D vwCl (tysC ca) (EC ad ca) NCC ad) {N : Nat} {o : AH} : ∀ (n : Nat) {ah : AH} {v1 : Int32} {v2 : Int32}, F_X6_run_46 N n ah v1 v2 = some o → XW p l e rm_X6_run s m args below meth c 5 0 (xQv below args s D vwCl (tysC ca) (EC ad ca) NCC ad o) D vwCl (EC ad ca) NCC ad ah 46 [(0, .ref (ad 67)), (1, .int v1), (2, .int v2)] [] := by
  intro n
  induction n with
  | zero => intro ah v1 v2 h; unfold F_X6_run_46 at h; cases h
  | succ n ih =>
    intro ah v1 v2 h
    unfold F_X6_run_46 at h
    refine x_iload_n C dX6_run_46 47 rfl 2 rfl ?_
    refine x_sipush C dX6_run_47 50 rfl 18085 rfl ?_
    refine x_icmp_ge C dX6_run_50 53 rfl 116 rfl h (fun h => ?_) (fun h => ?_)
    · exact x_vret C rfl dX6_run_116 h
    · refine x_aload_n C dX6_run_53 54 rfl 0 rfl ?_
      refine x_get C inX6 67 lc67 EC_67 rfl 7 (by decide) dX6_run_54 57 rfl wmf_X6_63 rfl ?_
      refine x_if_le C dX6_run_57 60 rfl 116 rfl h (fun h => ?_) (fun h => ?_)
      · exact x_vret C rfl dX6_run_116 h
      · refine x_aload_n C dX6_run_60 61 rfl 0 rfl ?_
        refine x_get C inX6 67 lc67 EC_67 rfl 2 (by decide) dX6_run_61 64 rfl wmf_X6_66 rfl ?_
        refine x_iload_n C dX6_run_64 65 rfl 1 rfl ?_
        refine x_icmp_ge C dX6_run_65 68 rfl 116 rfl h (fun h => ?_) (fun h => ?_)
        · exact x_vret C rfl dX6_run_116 h
        · refine x_aload_n C dX6_run_68 69 rfl 0 rfl ?_
          obtain ⟨r69, a69, hq, h⟩ := xb_some h
          refine x_callVi C 67 (c_X6_takeLeast C.2.2.2.2.2.2.1 hq) lc67 EC_67 rfl wml_X6_69 wq_X6_takeLeast rfl ⟨by decide, by decide⟩ rfl rfl ⟨by decide, by decide⟩ dX6_run_69 72 rfl rfl (Nat.le_of_ble_eq_true rfl) ?_
          refine x_istore_n C dX6_run_72 73 rfl (by decide) (fun v3_72 => [(3, .int v3_72), (0, .ref (ad 67)), (1, .int v1), (2, .int v2)]) (fun _ => rfl) h (fun v3_72 h => ?_)
          refine x_iload_n C dX6_run_73 74 rfl 0 rfl ?_
          refine x_sipush C dX6_run_74 77 rfl 32767 rfl ?_
          refine x_iand C dX6_run_77 78 rfl ?_
          refine x_istore C dX6_run_78 80 rfl (by decide) (fun v4_78 => [(4, .int v4_78), (3, .int v3_72), (0, .ref (ad 67)), (1, .int v1), (2, .int v2)]) (fun _ => rfl) h (fun v4_78 h => ?_)
          refine x_iload C dX6_run_80 82 rfl 0 rfl ?_
          refine x_bipush C dX6_run_82 84 rfl 60 rfl ?_
          refine x_icmp_ge C dX6_run_84 87 rfl 100 rfl h (fun h => ?_) (fun h => ?_)
          · refine x_aload_n C dX6_run_100 101 rfl 2 rfl ?_
            refine x_iload C dX6_run_101 103 rfl 0 rfl ?_
            refine x_iload_n C dX6_run_103 104 rfl 1 rfl ?_
            refine x_bipush C dX6_run_104 106 rfl 15 rfl ?_
            refine x_ishr C dX6_run_106 107 rfl ?_
            obtain ⟨a107, hq, h⟩ := xbv_some h
            refine x_callVv C 67 (c_X6_open C.2.2.2.2.2.2.1 hq) lc67 EC_67 rfl wml_X6_76 wq_X6_open rfl ⟨by decide, by decide⟩ rfl rfl ⟨by decide, by decide⟩ dX6_run_107 110 rfl rfl (Nat.le_of_ble_eq_true rfl) ?_
            exact x_sub [2, 3, 4] rfl (b_X6_run_110 C (fun _ _ _ h => ih h) h)
          · refine x_aload_n C dX6_run_87 88 rfl 2 rfl ?_
            refine x_iload C dX6_run_88 90 rfl 0 rfl ?_
            refine x_iload_n C dX6_run_90 91 rfl 1 rfl ?_
            refine x_bipush C dX6_run_91 93 rfl 15 rfl ?_
            refine x_ishr C dX6_run_93 94 rfl ?_
            obtain ⟨a94, hq, h⟩ := xbv_some h
            refine x_callVv C 67 (c_X6_note C.2.2.2.2.2.2.1 hq) lc67 EC_67 rfl wml_X6_73 wq_X6_note rfl ⟨by decide, by decide⟩ rfl rfl ⟨by decide, by decide⟩ dX6_run_94 97 rfl rfl (Nat.le_of_ble_eq_true rfl) ?_
            refine x_goto C dX6_run_97 110 rfl ?_
            exact x_sub [2, 3, 4] rfl (b_X6_run_110 C (fun _ _ _ h => ih h) h)
theorem c_X6_run {l : Launch} {D : va_G} {ca : Nat → ClassId} {ad : Nat → Nat} (hI : xInj ad NCC) {N : Nat} {ah : AH} {p1 : Int32} {a : AH} (h : F_X6_run N ah p1 = some a) : xMv l yX6_run cX6_run 5 rm_X6_run D vwCl (tysC ca) (EC ad ca) NCC ad [.ref (ad 67), .int p1] ah a := by
  refine x_metv (by decide) (Nat.le_of_ble_eq_true rfl) hI EC_loc ?_
  intro p e s m args below meth c C
  unfold F_X6_run at h
  refine x_aload_n C dX6_run_0 1 rfl 0 rfl ?_
  obtain ⟨a1, hq, h⟩ := xbv_some h
  refine x_callVv C 67 (c_X6_clear C.2.2.2.2.2.2.1 hq) lc67 EC_67 rfl wml_X6_38 wq_X6_clear rfl ⟨by decide, by decide⟩ rfl rfl ⟨by decide, by decide⟩ dX6_run_1 4 rfl rfl (Nat.le_of_ble_eq_true rfl) ?_
  refine x_aload_n C dX6_run_4 5 rfl 0 rfl ?_
  refine x_get C inX6 67 lc67 EC_67 rfl 0 (by decide) dX6_run_5 8 rfl wmf_X6_30 rfl ?_
  refine x_get C inX2 4 lc4 EC_4 rfl 0 (by decide) dX6_run_8 11 rfl wmf_X6_41 rfl ?_
  refine x_if_ne C dX6_run_11 14 rfl 15 rfl h (fun h => ?_) (fun h => ?_)
  · refine x_aload_n C dX6_run_15 16 rfl 0 rfl ?_
    refine x_aload_n C dX6_run_16 17 rfl 0 rfl ?_
    refine x_iconst C dX6_run_17 18 rfl 0 rfl ?_
    refine x_iconst C dX6_run_18 19 rfl 0 rfl ?_
    obtain ⟨r19, a19, hq, h⟩ := xb_some h
    refine x_callVi C 67 (c_X6_itemOf C.2.2.2.2.2.2.1 hq) lc67 EC_67 rfl wml_X6_47 wq_X6_itemOf rfl ⟨by decide, by decide⟩ rfl rfl ⟨by decide, by decide⟩ dX6_run_19 22 rfl rfl (Nat.le_of_ble_eq_true rfl) ?_
    refine x_aload_n C dX6_run_22 23 rfl 0 rfl ?_
    refine x_get C inX6 67 lc67 EC_67 rfl 1 (by decide) dX6_run_23 26 rfl wmf_X6_34 rfl ?_
    refine x_get C inX4 57 lc57 EC_57 rfl 14 (by decide) dX6_run_26 29 rfl wmf_X6_51 rfl ?_
    refine x_iconst C dX6_run_29 30 rfl 0 rfl ?_
    refine x_ialdK C 66 lc66 EC_66 0 rfl dX6_run_30 31 rfl (by decide) 0 (by decide) ?_
    refine x_aload_n C dX6_run_31 32 rfl 0 rfl ?_
    refine x_get C inX6 67 lc67 EC_67 rfl 0 (by decide) dX6_run_32 35 rfl wmf_X6_30 rfl ?_
    refine x_get C inX2 4 lc4 EC_4 rfl 12 (by decide) dX6_run_35 38 rfl wmf_X6_56 rfl ?_
    refine x_iconst C dX6_run_38 39 rfl 0 rfl ?_
    refine x_ialdK C 15 lc15 EC_15 0 rfl dX6_run_39 40 rfl (by decide) 0 (by decide) ?_
    refine x_iadd C dX6_run_40 41 rfl ?_
    obtain ⟨a41, hq, h⟩ := xbv_some h
    refine x_callVv C 67 (c_X6_put C.2.2.2.2.2.2.1 hq) lc67 EC_67 rfl wml_X6_59 wq_X6_put rfl ⟨by decide, by decide⟩ rfl rfl ⟨by decide, by decide⟩ dX6_run_41 44 rfl rfl (Nat.le_of_ble_eq_true rfl) ?_
    refine x_iconst C dX6_run_44 45 rfl 0 rfl ?_
    refine x_istore_n C dX6_run_45 46 rfl (by decide) (fun v2_45 => [(2, .int v2_45), (0, .ref (ad 67)), (1, .int p1)]) (fun _ => rfl) h (fun v2_45 h => ?_)
    exact x_sub [1, 2, 0] rfl (b_X6_run_46 C  N h)
  · exact x_vret C rfl dX6_run_14 h
abbrev rm_X0_keep : Room := { frames := 0, cells := 0, slots := 0, locals := 0 }
theorem wq_X0_keep : xcV RX0 yX0_keep cX0_keep 3 none 1 := ⟨wmi_X0_keep, wms_X0_keep, wmn_X0, wmc_X0_keep, by decide, by decide, by decide +kernel⟩
def F_X0_keep_22 (N : Nat) : Nat → AH → Int32 → Int32 → Option AH
  | 0, _, _, _ => none
  | n + 1, ah, v1, v2 => if (ah 67 2) ≤ v2 then some ah else xg v2 60 (xg ((v1 * 60) + v2) 8400 (xlet (xu ah 77 (Int32.toNatClampNeg ((v1 * 60) + v2)) (ah 68 (Int32.toNatClampNeg v2))) (fun a52 => xg v2 60 (xg ((v1 * 60) + v2) 8400 (xlet (xu a52 78 (Int32.toNatClampNeg ((v1 * 60) + v2)) (a52 69 (Int32.toNatClampNeg v2))) (fun a72 => xg v2 60 (xg ((v1 * 60) + v2) 8400 (xlet (xu a72 79 (Int32.toNatClampNeg ((v1 * 60) + v2)) (a72 70 (Int32.toNatClampNeg v2))) (fun a92 => xlet (v2 + 1) (fun v2_93 => F_X0_keep_22 N n a92 v1 v2_93))))))))))
def F_X0_keep (N : Nat) (ah : AH) (p1 : Int32) : Option AH := xg p1 140 (xlet (xu ah 75 (Int32.toNatClampNeg p1) (vp_nar .boolean 1)) (fun a6 => xg p1 140 (xlet (xu a6 76 (Int32.toNatClampNeg p1) (a6 67 2)) (fun a19 => xlet 0 (fun v2_21 => F_X0_keep_22 N N a19 p1 v2_21)))))
theorem b_X0_keep_22 (C : XC p l s m args meth c cX0_keep 3 none RX0 D vwCl (tysC ca) (EC ad ca) NCC ad) {N : Nat} {o : AH} : ∀ (n : Nat) {ah : AH} {v1 : Int32} {v2 : Int32}, F_X0_keep_22 N n ah v1 v2 = some o → XW p l e rm_X0_keep s m args below meth c 3 0 (xQv below args s D vwCl (tysC ca) (EC ad ca) NCC ad o) D vwCl (EC ad ca) NCC ad ah 22 [(0, .ref (ad 74)), (1, .int v1), (2, .int v2)] [] := by
  intro n
  induction n with
  | zero => intro ah v1 v2 h; unfold F_X0_keep_22 at h; cases h
  | succ n ih =>
    intro ah v1 v2 h
    unfold F_X0_keep_22 at h
    refine x_iload_n C dX0_keep_22 23 rfl 2 rfl ?_
    refine x_aload_n C dX0_keep_23 24 rfl 0 rfl ?_
    refine x_get C inX0 74 lc74 EC_74 rfl 0 (by decide) dX0_keep_24 27 rfl wmf_X0_28 rfl ?_
    refine x_get C inX6 67 lc67 EC_67 rfl 2 (by decide) dX0_keep_27 30 rfl wmf_X0_73 rfl ?_
    refine x_icmp_ge C dX0_keep_30 33 rfl 99 rfl h (fun h => ?_) (fun h => ?_)
    · exact x_vret C rfl dX0_keep_99 h
    · refine x_aload_n C dX0_keep_33 34 rfl 0 rfl ?_
      refine x_get C inX0 74 lc74 EC_74 rfl 5 (by decide) dX0_keep_34 37 rfl wmf_X0_19 rfl ?_
      refine x_iload_n C dX0_keep_37 38 rfl 1 rfl ?_
      refine x_bipush C dX0_keep_38 40 rfl 60 rfl ?_
      refine x_imul C dX0_keep_40 41 rfl ?_
      refine x_iload_n C dX0_keep_41 42 rfl 2 rfl ?_
      refine x_iadd C dX0_keep_42 43 rfl ?_
      refine x_aload_n C dX0_keep_43 44 rfl 0 rfl ?_
      refine x_get C inX0 74 lc74 EC_74 rfl 0 (by decide) dX0_keep_44 47 rfl wmf_X0_28 rfl ?_
      refine x_get C inX6 67 lc67 EC_67 rfl 3 (by decide) dX0_keep_47 50 rfl wmf_X0_77 rfl ?_
      refine x_iload_n C dX0_keep_50 51 rfl 2 rfl ?_
      refine x_iald C 68 lc68 EC_68 0 rfl dX0_keep_51 52 rfl h (fun h => ?_)
      refine x_iast C 77 lc77 (fun _ => EC_77) 0 rfl dX0_keep_52 53 rfl h (fun a52 h => ?_)
      refine x_aload_n C dX0_keep_53 54 rfl 0 rfl ?_
      refine x_get C inX0 74 lc74 EC_74 rfl 6 (by decide) dX0_keep_54 57 rfl wmf_X0_22 rfl ?_
      refine x_iload_n C dX0_keep_57 58 rfl 1 rfl ?_
      refine x_bipush C dX0_keep_58 60 rfl 60 rfl ?_
      refine x_imul C dX0_keep_60 61 rfl ?_
      refine x_iload_n C dX0_keep_61 62 rfl 2 rfl ?_
      refine x_iadd C dX0_keep_62 63 rfl ?_
      refine x_aload_n C dX0_keep_63 64 rfl 0 rfl ?_
      refine x_get C inX0 74 lc74 EC_74 rfl 0 (by decide) dX0_keep_64 67 rfl wmf_X0_28 rfl ?_
      refine x_get C inX6 67 lc67 EC_67 rfl 4 (by decide) dX0_keep_67 70 rfl wmf_X0_78 rfl ?_
      refine x_iload_n C dX0_keep_70 71 rfl 2 rfl ?_
      refine x_iald C 69 lc69 EC_69 0 rfl dX0_keep_71 72 rfl h (fun h => ?_)
      refine x_iast C 78 lc78 (fun _ => EC_78) 0 rfl dX0_keep_72 73 rfl h (fun a72 h => ?_)
      refine x_aload_n C dX0_keep_73 74 rfl 0 rfl ?_
      refine x_get C inX0 74 lc74 EC_74 rfl 7 (by decide) dX0_keep_74 77 rfl wmf_X0_25 rfl ?_
      refine x_iload_n C dX0_keep_77 78 rfl 1 rfl ?_
      refine x_bipush C dX0_keep_78 80 rfl 60 rfl ?_
      refine x_imul C dX0_keep_80 81 rfl ?_
      refine x_iload_n C dX0_keep_81 82 rfl 2 rfl ?_
      refine x_iadd C dX0_keep_82 83 rfl ?_
      refine x_aload_n C dX0_keep_83 84 rfl 0 rfl ?_
      refine x_get C inX0 74 lc74 EC_74 rfl 0 (by decide) dX0_keep_84 87 rfl wmf_X0_28 rfl ?_
      refine x_get C inX6 67 lc67 EC_67 rfl 5 (by decide) dX0_keep_87 90 rfl wmf_X0_79 rfl ?_
      refine x_iload_n C dX0_keep_90 91 rfl 2 rfl ?_
      refine x_iald C 70 lc70 EC_70 0 rfl dX0_keep_91 92 rfl h (fun h => ?_)
      refine x_iast C 79 lc79 (fun _ => EC_79) 0 rfl dX0_keep_92 93 rfl h (fun a92 h => ?_)
      refine x_iinc C dX0_keep_93 96 rfl 2 rfl (d := 1) rfl (by decide) (fun v2_93 => [(2, .int v2_93), (0, .ref (ad 74)), (1, .int v1)]) (fun _ => rfl) h (fun v2_93 h => ?_)
      refine x_goto C dX0_keep_96 22 rfl ?_
      exact x_sub [1, 2, 0] rfl (ih h)
theorem c_X0_keep {l : Launch} {D : va_G} {ca : Nat → ClassId} {ad : Nat → Nat} (hI : xInj ad NCC) {N : Nat} {ah : AH} {p1 : Int32} {a : AH} (h : F_X0_keep N ah p1 = some a) : xMv l yX0_keep cX0_keep 3 rm_X0_keep D vwCl (tysC ca) (EC ad ca) NCC ad [.ref (ad 74), .int p1] ah a := by
  refine x_metv (by decide) (Nat.le_of_ble_eq_true rfl) hI EC_loc ?_
  intro p e s m args below meth c C
  unfold F_X0_keep at h
  refine x_aload_n C dX0_keep_0 1 rfl 0 rfl ?_
  refine x_get C inX0 74 lc74 EC_74 rfl 3 (by decide) dX0_keep_1 4 rfl wmf_X0_11 rfl ?_
  refine x_iload_n C dX0_keep_4 5 rfl 1 rfl ?_
  refine x_iconst C dX0_keep_5 6 rfl 1 rfl ?_
  refine x_zast C 75 lc75 (fun _ => EC_75) 1 rfl dX0_keep_6 7 rfl h (fun a6 h => ?_)
  refine x_aload_n C dX0_keep_7 8 rfl 0 rfl ?_
  refine x_get C inX0 74 lc74 EC_74 rfl 4 (by decide) dX0_keep_8 11 rfl wmf_X0_15 rfl ?_
  refine x_iload_n C dX0_keep_11 12 rfl 1 rfl ?_
  refine x_aload_n C dX0_keep_12 13 rfl 0 rfl ?_
  refine x_get C inX0 74 lc74 EC_74 rfl 0 (by decide) dX0_keep_13 16 rfl wmf_X0_28 rfl ?_
  refine x_get C inX6 67 lc67 EC_67 rfl 2 (by decide) dX0_keep_16 19 rfl wmf_X0_73 rfl ?_
  refine x_iast C 76 lc76 (fun _ => EC_76) 0 rfl dX0_keep_19 20 rfl h (fun a19 h => ?_)
  refine x_iconst C dX0_keep_20 21 rfl 0 rfl ?_
  refine x_istore_n C dX0_keep_21 22 rfl (by decide) (fun v2_21 => [(2, .int v2_21), (0, .ref (ad 74)), (1, .int p1)]) (fun _ => rfl) h (fun v2_21 h => ?_)
  exact x_sub [1, 2, 0] rfl (b_X0_keep_22 C  N h)
abbrev rm_X0_lookAlone : Room := { frames := 4, cells := 0, slots := 0, locals := 103 }
theorem wq_X0_lookAlone : xcV RX0 yX0_lookAlone cX0_lookAlone 2 none 1 := ⟨wmi_X0_lookAlone, wms_X0_lookAlone, wmn_X0, wmc_X0_lookAlone, by decide, by decide, by decide +kernel⟩
def F_X0_lookAlone (N : Nat) (ah : AH) (p1 : Int32) : Option AH := xg p1 140 (if (ah 75 (Int32.toNatClampNeg p1)) = 0 then xg p1 41 (xb (F_X5_cellsOf N 31 ah p1) (fun r30 a30 => xbv (F_X4_ofCells N a30 (ah 32 (Int32.toNatClampNeg p1)) r30) (fun a33 => xbv (F_X6_run N a33 60) (fun a42 => xbv (F_X0_keep N a42 p1) (fun a47 => some a47))))) else some ah)
theorem c_X0_lookAlone {l : Launch} {D : va_G} {ca : Nat → ClassId} {ad : Nat → Nat} (hI : xInj ad NCC) {N : Nat} {ah : AH} {p1 : Int32} {a : AH} (h : F_X0_lookAlone N ah p1 = some a) : xMv l yX0_lookAlone cX0_lookAlone 2 rm_X0_lookAlone D vwCl (tysC ca) (EC ad ca) NCC ad [.ref (ad 74), .int p1] ah a := by
  refine x_metv (by decide) (Nat.le_of_ble_eq_true rfl) hI EC_loc ?_
  intro p e s m args below meth c C
  unfold F_X0_lookAlone at h
  refine x_aload_n C dX0_lookAlone_0 1 rfl 0 rfl ?_
  refine x_get C inX0 74 lc74 EC_74 rfl 3 (by decide) dX0_lookAlone_1 4 rfl wmf_X0_11 rfl ?_
  refine x_iload_n C dX0_lookAlone_4 5 rfl 1 rfl ?_
  refine x_zald C 75 lc75 EC_75 1 rfl dX0_lookAlone_5 6 rfl h (fun h => ?_)
  refine x_if_ne C dX0_lookAlone_6 9 rfl 50 rfl h (fun h => ?_) (fun h => ?_)
  · exact x_vret C rfl dX0_lookAlone_50 h
  · refine x_aload_n C dX0_lookAlone_9 10 rfl 0 rfl ?_
    refine x_get C inX0 74 lc74 EC_74 rfl 0 (by decide) dX0_lookAlone_10 13 rfl wmf_X0_28 rfl ?_
    refine x_get C inX6 67 lc67 EC_67 rfl 1 (by decide) dX0_lookAlone_13 16 rfl wmf_X0_39 rfl ?_
    refine x_aload_n C dX0_lookAlone_16 17 rfl 0 rfl ?_
    refine x_get C inX0 74 lc74 EC_74 rfl 1 (by decide) dX0_lookAlone_17 20 rfl wmf_X0_32 rfl ?_
    refine x_get C inX5 31 lc31 EC_31 rfl 3 (by decide) dX0_lookAlone_20 23 rfl wmf_X0_45 rfl ?_
    refine x_iload_n C dX0_lookAlone_23 24 rfl 1 rfl ?_
    refine x_iald C 32 lc32 EC_32 0 rfl dX0_lookAlone_24 25 rfl h (fun h => ?_)
    refine x_aload_n C dX0_lookAlone_25 26 rfl 0 rfl ?_
    refine x_get C inX0 74 lc74 EC_74 rfl 1 (by decide) dX0_lookAlone_26 29 rfl wmf_X0_32 rfl ?_
    refine x_iload_n C dX0_lookAlone_29 30 rfl 1 rfl ?_
    obtain ⟨r30, a30, hq, h⟩ := xb_some h
    refine x_callVi C 31 (c_X5_cellsOf_reading C.2.2.2.2.2.2.1 hq) lc31 EC_31 rfl wml_X0_50 wq_X5_cellsOf rfl ⟨by decide, by decide⟩ rfl rfl ⟨by decide, by decide⟩ dX0_lookAlone_30 33 rfl rfl (Nat.le_of_ble_eq_true rfl) ?_
    obtain ⟨a33, hq, h⟩ := xbv_some h
    refine x_callVv C 57 (c_X4_ofCells C.2.2.2.2.2.2.1 hq) lc57 EC_57 rfl wml_X0_54 wq_X4_ofCells rfl ⟨by decide, by decide⟩ rfl rfl ⟨by decide, by decide⟩ dX0_lookAlone_33 36 rfl rfl (Nat.le_of_ble_eq_true rfl) ?_
    refine x_aload_n C dX0_lookAlone_36 37 rfl 0 rfl ?_
    refine x_get C inX0 74 lc74 EC_74 rfl 0 (by decide) dX0_lookAlone_37 40 rfl wmf_X0_28 rfl ?_
    refine x_bipush C dX0_lookAlone_40 42 rfl 60 rfl ?_
    obtain ⟨a42, hq, h⟩ := xbv_some h
    refine x_callVv C 67 (c_X6_run C.2.2.2.2.2.2.1 hq) lc67 EC_67 rfl wml_X0_60 wq_X6_run rfl ⟨by decide, by decide⟩ rfl rfl ⟨by decide, by decide⟩ dX0_lookAlone_42 45 rfl rfl (Nat.le_of_ble_eq_true rfl) ?_
    refine x_aload_n C dX0_lookAlone_45 46 rfl 0 rfl ?_
    refine x_iload_n C dX0_lookAlone_46 47 rfl 1 rfl ?_
    obtain ⟨a47, hq, h⟩ := xbv_some h
    refine x_callVv C 74 (c_X0_keep C.2.2.2.2.2.2.1 hq) lc74 EC_74 rfl wml_X0_64 wq_X0_keep rfl ⟨by decide, by decide⟩ rfl rfl ⟨by decide, by decide⟩ dX0_lookAlone_47 50 rfl rfl (Nat.le_of_ble_eq_true rfl) ?_
    exact x_vret C rfl dX0_lookAlone_50 h
abbrev rm_X0_joinedCells : Room := { frames := 1, cells := 0, slots := 0, locals := 21 }
theorem wq_X0_joinedCells : xcV RX0 yX0_joinedCells cX0_joinedCells 2 (some .int) 1 := ⟨wmi_X0_joinedCells, wms_X0_joinedCells, wmn_X0, wmc_X0_joinedCells, by decide, by decide, by decide +kernel⟩
def F_X0_joinedCells (N : Nat) (ah : AH) (p1 : Int32) : Option (Int32 × AH) := xb (F_X5_cellsOf N 31 ah p1) (fun r5 a5 => xb (F_X5_cellsOf N 31 a5 (p1 + 1)) (fun r15 a15 => some (r5 + r15, a15)))
theorem c_X0_joinedCells {l : Launch} {D : va_G} {ca : Nat → ClassId} {ad : Nat → Nat} (hI : xInj ad NCC) {N : Nat} {ah : AH} {p1 : Int32} {r : Int32} {a : AH} (h : F_X0_joinedCells N ah p1 = some (r, a)) : xMi l yX0_joinedCells cX0_joinedCells 2 (some .int) rm_X0_joinedCells D vwCl (tysC ca) (EC ad ca) NCC ad [.ref (ad 74), .int p1] ah (r, a) := by
  refine x_meti (by decide) (Nat.le_of_ble_eq_true rfl) hI EC_loc ?_
  intro p e s m args below meth c C
  unfold F_X0_joinedCells at h
  refine x_aload_n C dX0_joinedCells_0 1 rfl 0 rfl ?_
  refine x_get C inX0 74 lc74 EC_74 rfl 1 (by decide) dX0_joinedCells_1 4 rfl wmf_X0_32 rfl ?_
  refine x_iload_n C dX0_joinedCells_4 5 rfl 1 rfl ?_
  obtain ⟨r5, a5, hq, h⟩ := xb_some h
  refine x_callVi C 31 (c_X5_cellsOf_reading C.2.2.2.2.2.2.1 hq) lc31 EC_31 rfl wml_X0_50 wq_X5_cellsOf rfl ⟨by decide, by decide⟩ rfl rfl ⟨by decide, by decide⟩ dX0_joinedCells_5 8 rfl rfl (Nat.le_of_ble_eq_true rfl) ?_
  refine x_aload_n C dX0_joinedCells_8 9 rfl 0 rfl ?_
  refine x_get C inX0 74 lc74 EC_74 rfl 1 (by decide) dX0_joinedCells_9 12 rfl wmf_X0_32 rfl ?_
  refine x_iload_n C dX0_joinedCells_12 13 rfl 1 rfl ?_
  refine x_iconst C dX0_joinedCells_13 14 rfl 1 rfl ?_
  refine x_iadd C dX0_joinedCells_14 15 rfl ?_
  obtain ⟨r15, a15, hq, h⟩ := xb_some h
  refine x_callVi C 31 (c_X5_cellsOf_reading C.2.2.2.2.2.2.1 hq) lc31 EC_31 rfl wml_X0_50 wq_X5_cellsOf rfl ⟨by decide, by decide⟩ rfl rfl ⟨by decide, by decide⟩ dX0_joinedCells_15 18 rfl rfl (Nat.le_of_ble_eq_true rfl) ?_
  refine x_iadd C dX0_joinedCells_18 19 rfl ?_
  exact x_iret C rfl dX0_joinedCells_19 h
abbrev rm_X0_mayJoin : Room := { frames := 2, cells := 0, slots := 0, locals := 42 }
theorem wq_X0_mayJoin : xcV RX0 yX0_mayJoin cX0_mayJoin 2 (some .boolean) 1 := ⟨wmi_X0_mayJoin, wms_X0_mayJoin, wmn_X0, wmc_X0_mayJoin, by decide, by decide, by decide +kernel⟩
def F_X0_mayJoin (N : Nat) (ah : AH) (p1 : Int32) : Option (Int32 × AH) := if (ah 31 0) ≤ (p1 + 1) then some (0, ah) else xg p1 40 (if (ah 34 (Int32.toNatClampNeg p1)) = 0 then some (0, ah) else xb (F_X0_joinedCells N ah p1) (fun r27 a27 => if 24 < r27 then some (0, a27) else some (1, a27)))
theorem c_X0_mayJoin {l : Launch} {D : va_G} {ca : Nat → ClassId} {ad : Nat → Nat} (hI : xInj ad NCC) {N : Nat} {ah : AH} {p1 : Int32} {r : Int32} {a : AH} (h : F_X0_mayJoin N ah p1 = some (r, a)) : xMi l yX0_mayJoin cX0_mayJoin 2 (some .boolean) rm_X0_mayJoin D vwCl (tysC ca) (EC ad ca) NCC ad [.ref (ad 74), .int p1] ah (r, a) := by
  refine x_meti (by decide) (Nat.le_of_ble_eq_true rfl) hI EC_loc ?_
  intro p e s m args below meth c C
  unfold F_X0_mayJoin at h
  refine x_iload_n C dX0_mayJoin_0 1 rfl 1 rfl ?_
  refine x_iconst C dX0_mayJoin_1 2 rfl 1 rfl ?_
  refine x_iadd C dX0_mayJoin_2 3 rfl ?_
  refine x_aload_n C dX0_mayJoin_3 4 rfl 0 rfl ?_
  refine x_get C inX0 74 lc74 EC_74 rfl 1 (by decide) dX0_mayJoin_4 7 rfl wmf_X0_32 rfl ?_
  refine x_get C inX5 31 lc31 EC_31 rfl 0 (by decide) dX0_mayJoin_7 10 rfl wmf_X0_103 rfl ?_
  refine x_icmp_ge C dX0_mayJoin_10 13 rfl 39 rfl h (fun h => ?_) (fun h => ?_)
  · refine x_iconst C dX0_mayJoin_39 40 rfl 0 rfl ?_
    exact x_zret C rfl dX0_mayJoin_40 (by decide) h
  · refine x_aload_n C dX0_mayJoin_13 14 rfl 0 rfl ?_
    refine x_get C inX0 74 lc74 EC_74 rfl 1 (by decide) dX0_mayJoin_14 17 rfl wmf_X0_32 rfl ?_
    refine x_get C inX5 31 lc31 EC_31 rfl 5 (by decide) dX0_mayJoin_17 20 rfl wmf_X0_106 rfl ?_
    refine x_iload_n C dX0_mayJoin_20 21 rfl 1 rfl ?_
    refine x_zald C 34 lc34 EC_34 1 rfl dX0_mayJoin_21 22 rfl h (fun h => ?_)
    refine x_if_eq C dX0_mayJoin_22 25 rfl 39 rfl h (fun h => ?_) (fun h => ?_)
    · refine x_iconst C dX0_mayJoin_39 40 rfl 0 rfl ?_
      exact x_zret C rfl dX0_mayJoin_40 (by decide) h
    · refine x_aload_n C dX0_mayJoin_25 26 rfl 0 rfl ?_
      refine x_iload_n C dX0_mayJoin_26 27 rfl 1 rfl ?_
      obtain ⟨r27, a27, hq, h⟩ := xb_some h
      refine x_callVi C 74 (c_X0_joinedCells C.2.2.2.2.2.2.1 hq) lc74 EC_74 rfl wml_X0_70 wq_X0_joinedCells rfl ⟨by decide, by decide⟩ rfl rfl ⟨by decide, by decide⟩ dX0_mayJoin_27 30 rfl rfl (Nat.le_of_ble_eq_true rfl) ?_
      refine x_bipush C dX0_mayJoin_30 32 rfl 24 rfl ?_
      refine x_icmp_gt C dX0_mayJoin_32 35 rfl 39 rfl h (fun h => ?_) (fun h => ?_)
      · refine x_iconst C dX0_mayJoin_39 40 rfl 0 rfl ?_
        exact x_zret C rfl dX0_mayJoin_40 (by decide) h
      · refine x_iconst C dX0_mayJoin_35 36 rfl 1 rfl ?_
        refine x_goto C dX0_mayJoin_36 40 rfl ?_
        exact x_zret C rfl dX0_mayJoin_40 (by decide) h
abbrev rm_X0_lookJoined : Room := { frames := 4, cells := 0, slots := 0, locals := 103 }
theorem wq_X0_lookJoined : xcV RX0 yX0_lookJoined cX0_lookJoined 2 none 1 := ⟨wmi_X0_lookJoined, wms_X0_lookJoined, wmn_X0, wmc_X0_lookJoined, by decide, by decide, by decide +kernel⟩
def F_X0_lookJoined (N : Nat) (ah : AH) (p1 : Int32) : Option AH := xg (40 + p1) 140 (if (ah 75 (Int32.toNatClampNeg (40 + p1))) = 0 then xg p1 41 (xb (F_X0_joinedCells N ah p1) (fun r30 a30 => xbv (F_X4_ofCells N a30 (ah 32 (Int32.toNatClampNeg p1)) r30) (fun a33 => xbv (F_X6_run N a33 1) (fun a41 => xbv (F_X0_keep N a41 (40 + p1)) (fun a49 => some a49))))) else some ah)
theorem c_X0_lookJoined {l : Launch} {D : va_G} {ca : Nat → ClassId} {ad : Nat → Nat} (hI : xInj ad NCC) {N : Nat} {ah : AH} {p1 : Int32} {a : AH} (h : F_X0_lookJoined N ah p1 = some a) : xMv l yX0_lookJoined cX0_lookJoined 2 rm_X0_lookJoined D vwCl (tysC ca) (EC ad ca) NCC ad [.ref (ad 74), .int p1] ah a := by
  refine x_metv (by decide) (Nat.le_of_ble_eq_true rfl) hI EC_loc ?_
  intro p e s m args below meth c C
  unfold F_X0_lookJoined at h
  refine x_aload_n C dX0_lookJoined_0 1 rfl 0 rfl ?_
  refine x_get C inX0 74 lc74 EC_74 rfl 3 (by decide) dX0_lookJoined_1 4 rfl wmf_X0_11 rfl ?_
  refine x_bipush C dX0_lookJoined_4 6 rfl 40 rfl ?_
  refine x_iload_n C dX0_lookJoined_6 7 rfl 1 rfl ?_
  refine x_iadd C dX0_lookJoined_7 8 rfl ?_
  refine x_zald C 75 lc75 EC_75 1 rfl dX0_lookJoined_8 9 rfl h (fun h => ?_)
  refine x_if_ne C dX0_lookJoined_9 12 rfl 52 rfl h (fun h => ?_) (fun h => ?_)
  · exact x_vret C rfl dX0_lookJoined_52 h
  · refine x_aload_n C dX0_lookJoined_12 13 rfl 0 rfl ?_
    refine x_get C inX0 74 lc74 EC_74 rfl 0 (by decide) dX0_lookJoined_13 16 rfl wmf_X0_28 rfl ?_
    refine x_get C inX6 67 lc67 EC_67 rfl 1 (by decide) dX0_lookJoined_16 19 rfl wmf_X0_39 rfl ?_
    refine x_aload_n C dX0_lookJoined_19 20 rfl 0 rfl ?_
    refine x_get C inX0 74 lc74 EC_74 rfl 1 (by decide) dX0_lookJoined_20 23 rfl wmf_X0_32 rfl ?_
    refine x_get C inX5 31 lc31 EC_31 rfl 3 (by decide) dX0_lookJoined_23 26 rfl wmf_X0_45 rfl ?_
    refine x_iload_n C dX0_lookJoined_26 27 rfl 1 rfl ?_
    refine x_iald C 32 lc32 EC_32 0 rfl dX0_lookJoined_27 28 rfl h (fun h => ?_)
    refine x_aload_n C dX0_lookJoined_28 29 rfl 0 rfl ?_
    refine x_iload_n C dX0_lookJoined_29 30 rfl 1 rfl ?_
    obtain ⟨r30, a30, hq, h⟩ := xb_some h
    refine x_callVi C 74 (c_X0_joinedCells C.2.2.2.2.2.2.1 hq) lc74 EC_74 rfl wml_X0_70 wq_X0_joinedCells rfl ⟨by decide, by decide⟩ rfl rfl ⟨by decide, by decide⟩ dX0_lookJoined_30 33 rfl rfl (Nat.le_of_ble_eq_true rfl) ?_
    obtain ⟨a33, hq, h⟩ := xbv_some h
    refine x_callVv C 57 (c_X4_ofCells C.2.2.2.2.2.2.1 hq) lc57 EC_57 rfl wml_X0_54 wq_X4_ofCells rfl ⟨by decide, by decide⟩ rfl rfl ⟨by decide, by decide⟩ dX0_lookJoined_33 36 rfl rfl (Nat.le_of_ble_eq_true rfl) ?_
    refine x_aload_n C dX0_lookJoined_36 37 rfl 0 rfl ?_
    refine x_get C inX0 74 lc74 EC_74 rfl 0 (by decide) dX0_lookJoined_37 40 rfl wmf_X0_28 rfl ?_
    refine x_iconst C dX0_lookJoined_40 41 rfl 1 rfl ?_
    obtain ⟨a41, hq, h⟩ := xbv_some h
    refine x_callVv C 67 (c_X6_run C.2.2.2.2.2.2.1 hq) lc67 EC_67 rfl wml_X0_60 wq_X6_run rfl ⟨by decide, by decide⟩ rfl rfl ⟨by decide, by decide⟩ dX0_lookJoined_41 44 rfl rfl (Nat.le_of_ble_eq_true rfl) ?_
    refine x_aload_n C dX0_lookJoined_44 45 rfl 0 rfl ?_
    refine x_bipush C dX0_lookJoined_45 47 rfl 40 rfl ?_
    refine x_iload_n C dX0_lookJoined_47 48 rfl 1 rfl ?_
    refine x_iadd C dX0_lookJoined_48 49 rfl ?_
    obtain ⟨a49, hq, h⟩ := xbv_some h
    refine x_callVv C 74 (c_X0_keep C.2.2.2.2.2.2.1 hq) lc74 EC_74 rfl wml_X0_64 wq_X0_keep rfl ⟨by decide, by decide⟩ rfl rfl ⟨by decide, by decide⟩ dX0_lookJoined_49 52 rfl rfl (Nat.le_of_ble_eq_true rfl) ?_
    exact x_vret C rfl dX0_lookJoined_52 h
abbrev rm_X0_mendedWord : Room := { frames := 3, cells := 0, slots := 0, locals := 64 }
theorem wq_X0_mendedWord : xcV RX0 yX0_mendedWord cX0_mendedWord 2 (some .int) 1 := ⟨wmi_X0_mendedWord, wms_X0_mendedWord, wmn_X0, wmc_X0_mendedWord, by decide, by decide, by decide +kernel⟩
def F_X0_mendedWord (N : Nat) (ah : AH) (p1 : Int32) : Option (Int32 × AH) := xb (F_X0_wordInside N ah p1 0) (fun r3 a3 => some (r3, a3))
theorem c_X0_mendedWord {l : Launch} {D : va_G} {ca : Nat → ClassId} {ad : Nat → Nat} (hI : xInj ad NCC) {N : Nat} {ah : AH} {p1 : Int32} {r : Int32} {a : AH} (h : F_X0_mendedWord N ah p1 = some (r, a)) : xMi l yX0_mendedWord cX0_mendedWord 2 (some .int) rm_X0_mendedWord D vwCl (tysC ca) (EC ad ca) NCC ad [.ref (ad 74), .int p1] ah (r, a) := by
  refine x_meti (by decide) (Nat.le_of_ble_eq_true rfl) hI EC_loc ?_
  intro p e s m args below meth c C
  unfold F_X0_mendedWord at h
  refine x_aload_n C dX0_mendedWord_0 1 rfl 0 rfl ?_
  refine x_iload_n C dX0_mendedWord_1 2 rfl 1 rfl ?_
  refine x_iconst C dX0_mendedWord_2 3 rfl 0 rfl ?_
  obtain ⟨r3, a3, hq, h⟩ := xb_some h
  refine x_callVi C 74 (c_X0_wordInside C.2.2.2.2.2.2.1 hq) lc74 EC_74 rfl wml_X0_92 wq_X0_wordInside rfl ⟨by decide, by decide⟩ rfl rfl ⟨by decide, by decide⟩ dX0_mendedWord_3 6 rfl rfl (Nat.le_of_ble_eq_true rfl) ?_
  exact x_iret C rfl dX0_mendedWord_6 h
abbrev rm_X0_mendedPrice : Room := { frames := 4, cells := 0, slots := 0, locals := 85 }
theorem wq_X0_mendedPrice : xcV RX0 yX0_mendedPrice cX0_mendedPrice 2 (some .int) 1 := ⟨wmi_X0_mendedPrice, wms_X0_mendedPrice, wmn_X0, wmc_X0_mendedPrice, by decide, by decide, by decide +kernel⟩
def F_X0_mendedPrice (N : Nat) (ah : AH) (p1 : Int32) : Option (Int32 × AH) := xb (F_X0_mendedWord N ah p1) (fun r2 a2 => if r2 = ((-1)) then xb (F_X0_outsidePrice N a2 p1) (fun r11 a11 => some (r11, a11)) else xb (F_X0_priceOf N a2 p1 0) (fun r20 a20 => some (r20, a20)))
theorem c_X0_mendedPrice {l : Launch} {D : va_G} {ca : Nat → ClassId} {ad : Nat → Nat} (hI : xInj ad NCC) {N : Nat} {ah : AH} {p1 : Int32} {r : Int32} {a : AH} (h : F_X0_mendedPrice N ah p1 = some (r, a)) : xMi l yX0_mendedPrice cX0_mendedPrice 2 (some .int) rm_X0_mendedPrice D vwCl (tysC ca) (EC ad ca) NCC ad [.ref (ad 74), .int p1] ah (r, a) := by
  refine x_meti (by decide) (Nat.le_of_ble_eq_true rfl) hI EC_loc ?_
  intro p e s m args below meth c C
  unfold F_X0_mendedPrice at h
  refine x_aload_n C dX0_mendedPrice_0 1 rfl 0 rfl ?_
  refine x_iload_n C dX0_mendedPrice_1 2 rfl 1 rfl ?_
  obtain ⟨r2, a2, hq, h⟩ := xb_some h
  refine x_callVi C 74 (c_X0_mendedWord C.2.2.2.2.2.2.1 hq) lc74 EC_74 rfl wml_X0_95 wq_X0_mendedWord rfl ⟨by decide, by decide⟩ rfl rfl ⟨by decide, by decide⟩ dX0_mendedPrice_2 5 rfl rfl (Nat.le_of_ble_eq_true rfl) ?_
  refine x_iconst C dX0_mendedPrice_5 6 rfl (-1) rfl ?_
  refine x_icmp_ne C dX0_mendedPrice_6 9 rfl 17 rfl h (fun h => ?_) (fun h => ?_)
  · refine x_aload_n C dX0_mendedPrice_17 18 rfl 0 rfl ?_
    refine x_iload_n C dX0_mendedPrice_18 19 rfl 1 rfl ?_
    refine x_iconst C dX0_mendedPrice_19 20 rfl 0 rfl ?_
    obtain ⟨r20, a20, hq, h⟩ := xb_some h
    refine x_callVi C 74 (c_X0_priceOf C.2.2.2.2.2.2.1 hq) lc74 EC_74 rfl wml_X0_82 wq_X0_priceOf rfl ⟨by decide, by decide⟩ rfl rfl ⟨by decide, by decide⟩ dX0_mendedPrice_20 23 rfl rfl (Nat.le_of_ble_eq_true rfl) ?_
    exact x_iret C rfl dX0_mendedPrice_23 h
  · refine x_aload_n C dX0_mendedPrice_9 10 rfl 0 rfl ?_
    refine x_iload_n C dX0_mendedPrice_10 11 rfl 1 rfl ?_
    obtain ⟨r11, a11, hq, h⟩ := xb_some h
    refine x_callVi C 74 (c_X0_outsidePrice C.2.2.2.2.2.2.1 hq) lc74 EC_74 rfl wml_X0_86 wq_X0_outsidePrice rfl ⟨by decide, by decide⟩ rfl rfl ⟨by decide, by decide⟩ dX0_mendedPrice_11 14 rfl rfl (Nat.le_of_ble_eq_true rfl) ?_
    refine x_goto C dX0_mendedPrice_14 23 rfl ?_
    exact x_iret C rfl dX0_mendedPrice_23 h
abbrev rm_X0_joinedPrice : Room := { frames := 2, cells := 0, slots := 0, locals := 42 }
theorem wq_X0_joinedPrice : xcV RX0 yX0_joinedPrice cX0_joinedPrice 4 (some .int) 1 := ⟨wmi_X0_joinedPrice, wms_X0_joinedPrice, wmn_X0, wmc_X0_joinedPrice, by decide, by decide, by decide +kernel⟩
def F_X0_joinedPrice_40 (N : Nat) (ah : AH) : Option (Int32 × AH) := some ((-1), ah)
def F_X0_joinedPrice (N : Nat) (ah : AH) (p1 : Int32) : Option (Int32 × AH) := xb (F_X0_priceOf N ah (40 + p1) 0) (fun r6 a6 => xlet r6 (fun v2_9 => xb (F_X0_joinedCells N a6 p1) (fun r24 a24 => xlet ((a6 1 0) + ((a6 1 1) * r24)) (fun v3_29 => if v2_9 = ((-1)) then F_X0_joinedPrice_40 N a24 else if v2_9 ≤ v3_29 then some (v2_9 + (a24 1 5), a24) else F_X0_joinedPrice_40 N a24))))
theorem b_X0_joinedPrice_40 (C : XC p l s m args meth c cX0_joinedPrice 4 (some .int) RX0 D vwCl (tysC ca) (EC ad ca) NCC ad) {N : Nat} {o : (Int32 × AH)} {ah : AH} (h : F_X0_joinedPrice_40 N ah = some o) : XW p l e rm_X0_joinedPrice s m args below meth c 4 0 (xQi below args s D vwCl (tysC ca) (EC ad ca) NCC ad o) D vwCl (EC ad ca) NCC ad ah 40 [] [] := by
  unfold F_X0_joinedPrice_40 at h
  refine x_iconst C dX0_joinedPrice_40 41 rfl (-1) rfl ?_
  refine x_goto C dX0_joinedPrice_41 52 rfl ?_
  exact x_iret C rfl dX0_joinedPrice_52 h
theorem c_X0_joinedPrice {l : Launch} {D : va_G} {ca : Nat → ClassId} {ad : Nat → Nat} (hI : xInj ad NCC) {N : Nat} {ah : AH} {p1 : Int32} {r : Int32} {a : AH} (h : F_X0_joinedPrice N ah p1 = some (r, a)) : xMi l yX0_joinedPrice cX0_joinedPrice 4 (some .int) rm_X0_joinedPrice D vwCl (tysC ca) (EC ad ca) NCC ad [.ref (ad 74), .int p1] ah (r, a) := by
  refine x_meti (by decide) (Nat.le_of_ble_eq_true rfl) hI EC_loc ?_
  intro p e s m args below meth c C
  unfold F_X0_joinedPrice at h
  refine x_aload_n C dX0_joinedPrice_0 1 rfl 0 rfl ?_
  refine x_bipush C dX0_joinedPrice_1 3 rfl 40 rfl ?_
  refine x_iload_n C dX0_joinedPrice_3 4 rfl 1 rfl ?_
  refine x_iadd C dX0_joinedPrice_4 5 rfl ?_
  refine x_iconst C dX0_joinedPrice_5 6 rfl 0 rfl ?_
  obtain ⟨r6, a6, hq, h⟩ := xb_some h
  refine x_callVi C 74 (c_X0_priceOf C.2.2.2.2.2.2.1 hq) lc74 EC_74 rfl wml_X0_82 wq_X0_priceOf rfl ⟨by decide, by decide⟩ rfl rfl ⟨by decide, by decide⟩ dX0_joinedPrice_6 9 rfl rfl (Nat.le_of_ble_eq_true rfl) ?_
  refine x_istore_n C dX0_joinedPrice_9 10 rfl (by decide) (fun v2_9 => [(2, .int v2_9), (0, .ref (ad 74)), (1, .int p1)]) (fun _ => rfl) h (fun v2_9 h => ?_)
  refine x_aload_n C dX0_joinedPrice_10 11 rfl 1 rfl ?_
  refine x_get C inX0 74 lc74 EC_74 rfl 2 (by decide) dX0_joinedPrice_11 14 rfl wmf_X0_36 rfl ?_
  refine x_iconst C dX0_joinedPrice_14 15 rfl 0 rfl ?_
  refine x_ialdK C 1 lc1 EC_1 0 rfl dX0_joinedPrice_15 16 rfl (by decide) 0 (by decide) ?_
  refine x_aload_n C dX0_joinedPrice_16 17 rfl 1 rfl ?_
  refine x_get C inX0 74 lc74 EC_74 rfl 2 (by decide) dX0_joinedPrice_17 20 rfl wmf_X0_36 rfl ?_
  refine x_iconst C dX0_joinedPrice_20 21 rfl 1 rfl ?_
  refine x_ialdK C 1 lc1 EC_1 0 rfl dX0_joinedPrice_21 22 rfl (by decide) 1 (by decide) ?_
  refine x_aload_n C dX0_joinedPrice_22 23 rfl 1 rfl ?_
  refine x_iload_n C dX0_joinedPrice_23 24 rfl 2 rfl ?_
  obtain ⟨r24, a24, hq, h⟩ := xb_some h
  refine x_callVi C 74 (c_X0_joinedCells C.2.2.2.2.2.2.1 hq) lc74 EC_74 rfl wml_X0_70 wq_X0_joinedCells rfl ⟨by decide, by decide⟩ rfl rfl ⟨by decide, by decide⟩ dX0_joinedPrice_24 27 rfl rfl (Nat.le_of_ble_eq_true rfl) ?_
  refine x_imul C dX0_joinedPrice_27 28 rfl ?_
  refine x_iadd C dX0_joinedPrice_28 29 rfl ?_
  refine x_istore_n C dX0_joinedPrice_29 30 rfl (by decide) (fun v3_29 => [(3, .int v3_29), (2, .int v2_9), (0, .ref (ad 74)), (1, .int p1)]) (fun _ => rfl) h (fun v3_29 h => ?_)
  refine x_iload_n C dX0_joinedPrice_30 31 rfl 1 rfl ?_
  refine x_iconst C dX0_joinedPrice_31 32 rfl (-1) rfl ?_
  refine x_icmp_eq C dX0_joinedPrice_32 35 rfl 40 rfl h (fun h => ?_) (fun h => ?_)
  · exact x_sub [] rfl (b_X0_joinedPrice_40 C  h)
  · refine x_iload_n C dX0_joinedPrice_35 36 rfl 1 rfl ?_
    refine x_iload_n C dX0_joinedPrice_36 37 rfl 0 rfl ?_
    refine x_icmp_le C dX0_joinedPrice_37 40 rfl 44 rfl h (fun h => ?_) (fun h => ?_)
    · refine x_iload_n C dX0_joinedPrice_44 45 rfl 1 rfl ?_
      refine x_aload_n C dX0_joinedPrice_45 46 rfl 2 rfl ?_
      refine x_get C inX0 74 lc74 EC_74 rfl 2 (by decide) dX0_joinedPrice_46 49 rfl wmf_X0_36 rfl ?_
      refine x_iconst C dX0_joinedPrice_49 50 rfl 5 rfl ?_
      refine x_ialdK C 1 lc1 EC_1 0 rfl dX0_joinedPrice_50 51 rfl (by decide) 5 (by decide) ?_
      refine x_iadd C dX0_joinedPrice_51 52 rfl ?_
      exact x_iret C rfl dX0_joinedPrice_52 h
    · exact x_sub [] rfl (b_X0_joinedPrice_40 C  h)
abbrev rm_X3_choose : Room := { frames := 5, cells := 0, slots := 0, locals := 106 }
theorem wq_X3_choose : xcV RX3 yX3_choose cX3_choose 3 none 1 := ⟨wmi_X3_choose, wms_X3_choose, wmn_X3, wmc_X3_choose, by decide, by decide, by decide +kernel⟩
def F_X3_choose_53 (N : Nat) (ah : AH) (v1 : Int32) (s0 : Int32) : Option AH := xlet s0 (fun v2_53 => if v2_53 = ((-1)) then some ah else xg (v1 + 2) 42 (xg v1 42 (if (ah 83 (Int32.toNatClampNeg v1)) ≤ (v2_53 + (ah 83 (Int32.toNatClampNeg (v1 + 2)))) then some ah else xg (v1 + 2) 42 (xg v1 42 (xlet (xu ah 83 (Int32.toNatClampNeg v1) (v2_53 + (ah 83 (Int32.toNatClampNeg (v1 + 2))))) (fun a93 => xg v1 40 (xlet (xu a93 82 (Int32.toNatClampNeg v1) (vp_nar .boolean 1)) (fun a100 => some a100))))))))
def F_X3_choose (N : Nat) (ah : AH) (p1 : Int32) : Option AH := xb (F_X0_mendedPrice N ah p1) (fun r10 a10 => xg (p1 + 1) 42 (xg p1 42 (xlet (xu a10 83 (Int32.toNatClampNeg p1) (r10 + (a10 83 (Int32.toNatClampNeg (p1 + 1))))) (fun a22 => xg p1 40 (xlet (xu a22 82 (Int32.toNatClampNeg p1) (vp_nar .boolean 0)) (fun a29 => xb (F_X0_mayJoin N a29 p1) (fun r35 a35 => if r35 = 0 then F_X3_choose_53 N a35 p1 ((-1)) else xb (F_X0_joinedPrice N a35 p1) (fun r46 a46 => F_X3_choose_53 N a46 p1 r46))))))))
theorem b_X3_choose_53 (C : XC p l s m args meth c cX3_choose 3 none RX3 D vwCl (tysC ca) (EC ad ca) NCC ad) {N : Nat} {o : AH} {ah : AH} {v1 : Int32} {s0 : Int32} (h : F_X3_choose_53 N ah v1 s0 = some o) : XW p l e rm_X3_choose s m args below meth c 3 0 (xQv below args s D vwCl (tysC ca) (EC ad ca) NCC ad o) D vwCl (EC ad ca) NCC ad ah 53 [(0, .ref (ad 80)), (1, .int v1)] [.int s0] := by
  unfold F_X3_choose_53 at h
  refine x_istore_n C dX3_choose_53 54 rfl (by decide) (fun v2_53 => [(2, .int v2_53), (0, .ref (ad 80)), (1, .int v1)]) (fun _ => rfl) h (fun v2_53 h => ?_)
  refine x_iload_n C dX3_choose_54 55 rfl 0 rfl ?_
  refine x_iconst C dX3_choose_55 56 rfl (-1) rfl ?_
  refine x_icmp_eq C dX3_choose_56 59 rfl 101 rfl h (fun h => ?_) (fun h => ?_)
  · exact x_vret C rfl dX3_choose_101 h
  · refine x_iload_n C dX3_choose_59 60 rfl 0 rfl ?_
    refine x_aload_n C dX3_choose_60 61 rfl 1 rfl ?_
    refine x_get C inX3 80 lc80 EC_80 rfl 10 (by decide) dX3_choose_61 64 rfl wmf_X3_19 rfl ?_
    refine x_iload_n C dX3_choose_64 65 rfl 2 rfl ?_
    refine x_iconst C dX3_choose_65 66 rfl 2 rfl ?_
    refine x_iadd C dX3_choose_66 67 rfl ?_
    refine x_iald C 83 lc83 EC_83 0 rfl dX3_choose_67 68 rfl h (fun h => ?_)
    refine x_iadd C dX3_choose_68 69 rfl ?_
    refine x_aload_n C dX3_choose_69 70 rfl 1 rfl ?_
    refine x_get C inX3 80 lc80 EC_80 rfl 10 (by decide) dX3_choose_70 73 rfl wmf_X3_19 rfl ?_
    refine x_iload_n C dX3_choose_73 74 rfl 2 rfl ?_
    refine x_iald C 83 lc83 EC_83 0 rfl dX3_choose_74 75 rfl h (fun h => ?_)
    refine x_icmp_ge C dX3_choose_75 78 rfl 101 rfl h (fun h => ?_) (fun h => ?_)
    · exact x_vret C rfl dX3_choose_101 h
    · refine x_aload_n C dX3_choose_78 79 rfl 1 rfl ?_
      refine x_get C inX3 80 lc80 EC_80 rfl 10 (by decide) dX3_choose_79 82 rfl wmf_X3_19 rfl ?_
      refine x_iload_n C dX3_choose_82 83 rfl 2 rfl ?_
      refine x_iload_n C dX3_choose_83 84 rfl 0 rfl ?_
      refine x_aload_n C dX3_choose_84 85 rfl 1 rfl ?_
      refine x_get C inX3 80 lc80 EC_80 rfl 10 (by decide) dX3_choose_85 88 rfl wmf_X3_19 rfl ?_
      refine x_iload_n C dX3_choose_88 89 rfl 2 rfl ?_
      refine x_iconst C dX3_choose_89 90 rfl 2 rfl ?_
      refine x_iadd C dX3_choose_90 91 rfl ?_
      refine x_iald C 83 lc83 EC_83 0 rfl dX3_choose_91 92 rfl h (fun h => ?_)
      refine x_iadd C dX3_choose_92 93 rfl ?_
      refine x_iast C 83 lc83 (fun _ => EC_83) 0 rfl dX3_choose_93 94 rfl h (fun a93 h => ?_)
      refine x_aload_n C dX3_choose_94 95 rfl 1 rfl ?_
      refine x_get C inX3 80 lc80 EC_80 rfl 9 (by decide) dX3_choose_95 98 rfl wmf_X3_15 rfl ?_
      refine x_iload_n C dX3_choose_98 99 rfl 2 rfl ?_
      refine x_iconst C dX3_choose_99 100 rfl 1 rfl ?_
      refine x_zast C 82 lc82 (fun _ => EC_82) 1 rfl dX3_choose_100 101 rfl h (fun a100 h => ?_)
      exact x_vret C rfl dX3_choose_101 h
theorem c_X3_choose {l : Launch} {D : va_G} {ca : Nat → ClassId} {ad : Nat → Nat} (hI : xInj ad NCC) {N : Nat} {ah : AH} {p1 : Int32} {a : AH} (h : F_X3_choose N ah p1 = some a) : xMv l yX3_choose cX3_choose 3 rm_X3_choose D vwCl (tysC ca) (EC ad ca) NCC ad [.ref (ad 80), .int p1] ah a := by
  refine x_metv (by decide) (Nat.le_of_ble_eq_true rfl) hI EC_loc ?_
  intro p e s m args below meth c C
  unfold F_X3_choose at h
  refine x_aload_n C dX3_choose_0 1 rfl 0 rfl ?_
  refine x_get C inX3 80 lc80 EC_80 rfl 10 (by decide) dX3_choose_1 4 rfl wmf_X3_19 rfl ?_
  refine x_iload_n C dX3_choose_4 5 rfl 1 rfl ?_
  refine x_aload_n C dX3_choose_5 6 rfl 0 rfl ?_
  refine x_get C inX3 80 lc80 EC_80 rfl 2 (by decide) dX3_choose_6 9 rfl wmf_X3_30 rfl ?_
  refine x_iload_n C dX3_choose_9 10 rfl 1 rfl ?_
  obtain ⟨r10, a10, hq, h⟩ := xb_some h
  refine x_callVi C 74 (c_X0_mendedPrice C.2.2.2.2.2.2.1 hq) lc74 EC_74 rfl wml_X3_75 wq_X0_mendedPrice rfl ⟨by decide, by decide⟩ rfl rfl ⟨by decide, by decide⟩ dX3_choose_10 13 rfl rfl (Nat.le_of_ble_eq_true rfl) ?_
  refine x_aload_n C dX3_choose_13 14 rfl 0 rfl ?_
  refine x_get C inX3 80 lc80 EC_80 rfl 10 (by decide) dX3_choose_14 17 rfl wmf_X3_19 rfl ?_
  refine x_iload_n C dX3_choose_17 18 rfl 1 rfl ?_
  refine x_iconst C dX3_choose_18 19 rfl 1 rfl ?_
  refine x_iadd C dX3_choose_19 20 rfl ?_
  refine x_iald C 83 lc83 EC_83 0 rfl dX3_choose_20 21 rfl h (fun h => ?_)
  refine x_iadd C dX3_choose_21 22 rfl ?_
  refine x_iast C 83 lc83 (fun _ => EC_83) 0 rfl dX3_choose_22 23 rfl h (fun a22 h => ?_)
  refine x_aload_n C dX3_choose_23 24 rfl 0 rfl ?_
  refine x_get C inX3 80 lc80 EC_80 rfl 9 (by decide) dX3_choose_24 27 rfl wmf_X3_15 rfl ?_
  refine x_iload_n C dX3_choose_27 28 rfl 1 rfl ?_
  refine x_iconst C dX3_choose_28 29 rfl 0 rfl ?_
  refine x_zast C 82 lc82 (fun _ => EC_82) 1 rfl dX3_choose_29 30 rfl h (fun a29 h => ?_)
  refine x_aload_n C dX3_choose_30 31 rfl 0 rfl ?_
  refine x_get C inX3 80 lc80 EC_80 rfl 2 (by decide) dX3_choose_31 34 rfl wmf_X3_30 rfl ?_
  refine x_iload_n C dX3_choose_34 35 rfl 1 rfl ?_
  obtain ⟨r35, a35, hq, h⟩ := xb_some h
  refine x_callVi C 74 (c_X0_mayJoin C.2.2.2.2.2.2.1 hq) lc74 EC_74 rfl wml_X3_50 wq_X0_mayJoin rfl ⟨by decide, by decide⟩ rfl rfl ⟨by decide, by decide⟩ dX3_choose_35 38 rfl rfl (Nat.le_of_ble_eq_true rfl) ?_
  refine x_if_eq C dX3_choose_38 41 rfl 52 rfl h (fun h => ?_) (fun h => ?_)
  · refine x_iconst C dX3_choose_52 53 rfl (-1) rfl ?_
    exact b_X3_choose_53 C  h
  · refine x_aload_n C dX3_choose_41 42 rfl 0 rfl ?_
    refine x_get C inX3 80 lc80 EC_80 rfl 2 (by decide) dX3_choose_42 45 rfl wmf_X3_30 rfl ?_
    refine x_iload_n C dX3_choose_45 46 rfl 1 rfl ?_
    obtain ⟨r46, a46, hq, h⟩ := xb_some h
    refine x_callVi C 74 (c_X0_joinedPrice C.2.2.2.2.2.2.1 hq) lc74 EC_74 rfl wml_X3_79 wq_X0_joinedPrice rfl ⟨by decide, by decide⟩ rfl rfl ⟨by decide, by decide⟩ dX3_choose_46 49 rfl rfl (Nat.le_of_ble_eq_true rfl) ?_
    refine x_goto C dX3_choose_49 53 rfl ?_
    exact b_X3_choose_53 C  h
abbrev rm_X3_make : Room := { frames := 6, cells := 0, slots := 0, locals := 128 }
theorem wq_X3_make : xcV RX3 yX3_make cX3_make 2 none 0 := ⟨wmi_X3_make, wms_X3_make, wmn_X3, wmc_X3_make, by decide, by decide, by decide +kernel⟩
def F_X3_make_62 (N : Nat) (k31 : AH → Int32 → Option AH) (ah : AH) (v1 : Int32) : Option AH := xbv (F_X3_choose N ah v1) (fun a64 => xlet (v1 + (-1)) (fun v1_67 => k31 a64 v1_67))
def F_X3_make_31 (N : Nat) : Nat → AH → Int32 → Option AH
  | 0, _, _ => none
  | n + 1, ah, v1 => if v1 < 0 then xlet (xu ah 80 5 (ah 83 0)) (fun a80 => xlet (xu a80 80 4 0) (fun a85 => xlet (xu a85 80 6 0) (fun a90 => xlet (xu a90 80 7 0) (fun a95 => xbv (F_X3_write N a95) (fun a99 => xlet (xu a99 80 3 1) (fun a104 => some a104)))))) else xbv (F_X0_lookAlone N ah v1) (fun a40 => xb (F_X0_mayJoin N a40 v1) (fun r48 a48 => if r48 = 0 then F_X3_make_62 N (F_X3_make_31 N n) a48 v1 else xbv (F_X0_lookJoined N a48 v1) (fun a59 => F_X3_make_62 N (F_X3_make_31 N n) a59 v1)))
def F_X3_make (N : Nat) (ah : AH) : Option AH := if (ah 80 3) = 0 then xg (ah 31 0) 42 (xlet (xu ah 83 (Int32.toNatClampNeg (ah 31 0)) 0) (fun a20 => xlet ((a20 31 0) - 1) (fun v1_30 => F_X3_make_31 N N a20 v1_30))) else some ah
theorem b_X3_make_62 (C : XC p l s m args meth c cX3_make 2 none RX3 D vwCl (tysC ca) (EC ad ca) NCC ad) {N : Nat} {o : AH} {k31 : AH → Int32 → Option AH} (hk31 : ∀ (ah : AH) (v1 : Int32), k31 ah v1 = some o → XW p l e rm_X3_make s m args below meth c 2 0 (xQv below args s D vwCl (tysC ca) (EC ad ca) NCC ad o) D vwCl (EC ad ca) NCC ad ah 31 [(0, .ref (ad 80)), (1, .int v1)] []) {ah : AH} {v1 : Int32} (h : F_X3_make_62 N k31 ah v1 = some o) : XW p l e rm_X3_make s m args below meth c 2 0 (xQv below args s D vwCl (tysC ca) (EC ad ca) NCC ad o) D vwCl (EC ad ca) NCC ad ah 62 [(0, .ref (ad 80)), (1, .int v1)] [] := by
  unfold F_X3_make_62 at h
  refine x_aload_n C dX3_make_62 63 rfl 0 rfl ?_
  refine x_iload_n C dX3_make_63 64 rfl 1 rfl ?_
  obtain ⟨a64, hq, h⟩ := xbv_some h
  refine x_callVv C 80 (c_X3_choose C.2.2.2.2.2.2.1 hq) lc80 EC_80 rfl wml_X3_57 wq_X3_choose rfl ⟨by decide, by decide⟩ rfl rfl ⟨by decide, by decide⟩ dX3_make_64 67 rfl rfl (Nat.le_of_ble_eq_true rfl) ?_
  refine x_iinc C dX3_make_67 70 rfl 1 rfl (d := (-1)) rfl (by decide) (fun v1_67 => [(1, .int v1_67), (0, .ref (ad 80))]) (fun _ => rfl) h (fun v1_67 h => ?_)
  refine x_goto C dX3_make_70 31 rfl ?_
  exact x_sub [1, 0] rfl (hk31 _ _ h)
theorem b_X3_make_31 (C : XC p l s m args meth c cX3_make 2 none RX3 D vwCl (tysC ca) (EC ad ca) NCC ad) {N : Nat} {o : AH} : ∀ (n : Nat) {ah : AH} {v1 : Int32}, F_X3_make_31 N n ah v1 = some o → XW p l e rm_X3_make s m args below meth c 2 0 (xQv below args s D vwCl (tysC ca) (EC ad ca) NCC ad o) D vwCl (EC ad ca) NCC ad ah 31 [(0, .ref (ad 80)), (1, .int v1)] [] := by
  intro n
  induction n with
  | zero => intro ah v1 h; unfold F_X3_make_31 at h; cases h
  | succ n ih =>
    intro ah v1 h
    unfold F_X3_make_31 at h
    refine x_iload_n C dX3_make_31 32 rfl 1 rfl ?_
    refine x_if_lt C dX3_make_32 35 rfl 73 rfl h (fun h => ?_) (fun h => ?_)
    · refine x_aload_n C dX3_make_73 74 rfl 0 rfl ?_
      refine x_aload_n C dX3_make_74 75 rfl 0 rfl ?_
      refine x_get C inX3 80 lc80 EC_80 rfl 10 (by decide) dX3_make_75 78 rfl wmf_X3_19 rfl ?_
      refine x_iconst C dX3_make_78 79 rfl 0 rfl ?_
      refine x_ialdK C 83 lc83 EC_83 0 rfl dX3_make_79 80 rfl (by decide) 0 (by decide) ?_
      refine x_put C inX3 80 lc80 EC_80 rfl 5 (by decide) tyX3_ok nmX3 dX3_make_80 83 rfl wmf_X3_60 rfl rfl rfl (Nat.le_of_ble_eq_true rfl) EP_80_5 h (fun a80 h => ?_)
      refine x_aload_n C dX3_make_83 84 rfl 0 rfl ?_
      refine x_iconst C dX3_make_84 85 rfl 0 rfl ?_
      refine x_put C inX3 80 lc80 EC_80 rfl 4 (by decide) tyX3_ok nmX3 dX3_make_85 88 rfl wmf_X3_63 rfl rfl rfl (Nat.le_of_ble_eq_true rfl) EP_80_4 h (fun a85 h => ?_)
      refine x_aload_n C dX3_make_88 89 rfl 0 rfl ?_
      refine x_iconst C dX3_make_89 90 rfl 0 rfl ?_
      refine x_put C inX3 80 lc80 EC_80 rfl 6 (by decide) tyX3_ok nmX3 dX3_make_90 93 rfl wmf_X3_66 rfl rfl rfl (Nat.le_of_ble_eq_true rfl) EP_80_6 h (fun a90 h => ?_)
      refine x_aload_n C dX3_make_93 94 rfl 0 rfl ?_
      refine x_iconst C dX3_make_94 95 rfl 0 rfl ?_
      refine x_put C inX3 80 lc80 EC_80 rfl 7 (by decide) tyX3_ok nmX3 dX3_make_95 98 rfl wmf_X3_69 rfl rfl rfl (Nat.le_of_ble_eq_true rfl) EP_80_7 h (fun a95 h => ?_)
      refine x_aload_n C dX3_make_98 99 rfl 0 rfl ?_
      obtain ⟨a99, hq, h⟩ := xbv_some h
      refine x_callVv C 80 (c_X3_write C.2.2.2.2.2.2.1 hq) lc80 EC_80 rfl wml_X3_72 wq_X3_write rfl ⟨by decide, by decide⟩ rfl rfl ⟨by decide, by decide⟩ dX3_make_99 102 rfl rfl (Nat.le_of_ble_eq_true rfl) ?_
      refine x_aload_n C dX3_make_102 103 rfl 0 rfl ?_
      refine x_iconst C dX3_make_103 104 rfl 1 rfl ?_
      refine x_put C inX3 80 lc80 EC_80 rfl 3 (by decide) tyX3_ok nmX3 dX3_make_104 107 rfl wmf_X3_34 rfl rfl rfl (Nat.le_of_ble_eq_true rfl) EP_80_3 h (fun a104 h => ?_)
      exact x_vret C rfl dX3_make_107 h
    · refine x_aload_n C dX3_make_35 36 rfl 0 rfl ?_
      refine x_get C inX3 80 lc80 EC_80 rfl 2 (by decide) dX3_make_36 39 rfl wmf_X3_30 rfl ?_
      refine x_iload_n C dX3_make_39 40 rfl 1 rfl ?_
      obtain ⟨a40, hq, h⟩ := xbv_some h
      refine x_callVv C 74 (c_X0_lookAlone C.2.2.2.2.2.2.1 hq) lc74 EC_74 rfl wml_X3_44 wq_X0_lookAlone rfl ⟨by decide, by decide⟩ rfl rfl ⟨by decide, by decide⟩ dX3_make_40 43 rfl rfl (Nat.le_of_ble_eq_true rfl) ?_
      refine x_aload_n C dX3_make_43 44 rfl 0 rfl ?_
      refine x_get C inX3 80 lc80 EC_80 rfl 2 (by decide) dX3_make_44 47 rfl wmf_X3_30 rfl ?_
      refine x_iload_n C dX3_make_47 48 rfl 1 rfl ?_
      obtain ⟨r48, a48, hq, h⟩ := xb_some h
      refine x_callVi C 74 (c_X0_mayJoin C.2.2.2.2.2.2.1 hq) lc74 EC_74 rfl wml_X3_50 wq_X0_mayJoin rfl ⟨by decide, by decide⟩ rfl rfl ⟨by decide, by decide⟩ dX3_make_48 51 rfl rfl (Nat.le_of_ble_eq_true rfl) ?_
      refine x_if_eq C dX3_make_51 54 rfl 62 rfl h (fun h => ?_) (fun h => ?_)
      · exact b_X3_make_62 C (fun _ _ h => ih h) h
      · refine x_aload_n C dX3_make_54 55 rfl 0 rfl ?_
        refine x_get C inX3 80 lc80 EC_80 rfl 2 (by decide) dX3_make_55 58 rfl wmf_X3_30 rfl ?_
        refine x_iload_n C dX3_make_58 59 rfl 1 rfl ?_
        obtain ⟨a59, hq, h⟩ := xbv_some h
        refine x_callVv C 74 (c_X0_lookJoined C.2.2.2.2.2.2.1 hq) lc74 EC_74 rfl wml_X3_54 wq_X0_lookJoined rfl ⟨by decide, by decide⟩ rfl rfl ⟨by decide, by decide⟩ dX3_make_59 62 rfl rfl (Nat.le_of_ble_eq_true rfl) ?_
        exact b_X3_make_62 C (fun _ _ h => ih h) h
theorem c_X3_make {l : Launch} {D : va_G} {ca : Nat → ClassId} {ad : Nat → Nat} (hI : xInj ad NCC) {N : Nat} {ah : AH} {a : AH} (h : F_X3_make N ah = some a) : xMv l yX3_make cX3_make 2 rm_X3_make D vwCl (tysC ca) (EC ad ca) NCC ad [.ref (ad 80)] ah a := by
  refine x_metv (by decide) (Nat.le_of_ble_eq_true rfl) hI EC_loc ?_
  intro p e s m args below meth c C
  unfold F_X3_make at h
  refine x_aload_n C dX3_make_0 1 rfl 0 rfl ?_
  refine x_get C inX3 80 lc80 EC_80 rfl 3 (by decide) dX3_make_1 4 rfl wmf_X3_34 rfl ?_
  refine x_if_eq C dX3_make_4 7 rfl 8 rfl h (fun h => ?_) (fun h => ?_)
  · refine x_aload_n C dX3_make_8 9 rfl 0 rfl ?_
    refine x_get C inX3 80 lc80 EC_80 rfl 10 (by decide) dX3_make_9 12 rfl wmf_X3_19 rfl ?_
    refine x_aload_n C dX3_make_12 13 rfl 0 rfl ?_
    refine x_get C inX3 80 lc80 EC_80 rfl 1 (by decide) dX3_make_13 16 rfl wmf_X3_26 rfl ?_
    refine x_get C inX5 31 lc31 EC_31 rfl 0 (by decide) dX3_make_16 19 rfl wmf_X3_38 rfl ?_
    refine x_iconst C dX3_make_19 20 rfl 0 rfl ?_
    refine x_iast C 83 lc83 (fun _ => EC_83) 0 rfl dX3_make_20 21 rfl h (fun a20 h => ?_)
    refine x_aload_n C dX3_make_21 22 rfl 0 rfl ?_
    refine x_get C inX3 80 lc80 EC_80 rfl 1 (by decide) dX3_make_22 25 rfl wmf_X3_26 rfl ?_
    refine x_get C inX5 31 lc31 EC_31 rfl 0 (by decide) dX3_make_25 28 rfl wmf_X3_38 rfl ?_
    refine x_iconst C dX3_make_28 29 rfl 1 rfl ?_
    refine x_isub C dX3_make_29 30 rfl ?_
    refine x_istore_n C dX3_make_30 31 rfl (by decide) (fun v1_30 => [(1, .int v1_30), (0, .ref (ad 80))]) (fun _ => rfl) h (fun v1_30 h => ?_)
    exact x_sub [1, 0] rfl (b_X3_make_31 C  N h)
  · exact x_vret C rfl dX3_make_7 h
abbrev rm_X11_at : Room := { frames := 7, cells := 0, slots := 0, locals := 149 }
theorem wq_X11_at : xcV RX11 yX11_at cX11_at 2 (some .int) 1 := ⟨wmi_X11_at, wms_X11_at, wmn_X11, wmc_X11_at, by decide, by decide, by decide +kernel⟩
def F_X11_at (N : Nat) (ah : AH) (p1 : Int32) : Option (Int32 × AH) := xbv (F_X3_make N ah) (fun a4 => if p1 < 0 then some ((-1), a4) else if (a4 80 4) ≤ p1 then some ((-1), a4) else xg p1 1000 (some (a4 81 (Int32.toNatClampNeg p1), a4)))
theorem c_X11_at {l : Launch} {D : va_G} {ca : Nat → ClassId} {ad : Nat → Nat} (hI : xInj ad NCC) {N : Nat} {ah : AH} {p1 : Int32} {r : Int32} {a : AH} (h : F_X11_at N ah p1 = some (r, a)) : xMi l yX11_at cX11_at 2 (some .int) rm_X11_at D vwCl (tysC ca) (EC ad ca) NCC ad [.ref (ad 0), .int p1] ah (r, a) := by
  refine x_meti (by decide) (Nat.le_of_ble_eq_true rfl) hI EC_loc ?_
  intro p e s m args below meth c C
  unfold F_X11_at at h
  refine x_aload_n C dX11_at_0 1 rfl 0 rfl ?_
  refine x_get C inX11 0 lc0 EC_0 rfl 11 (by decide) dX11_at_1 4 rfl wmf_X11_95 rfl ?_
  obtain ⟨a4, hq, h⟩ := xbv_some h
  refine x_callVv C 80 (c_X3_make C.2.2.2.2.2.2.1 hq) lc80 EC_80 rfl wml_X11_311 wq_X3_make rfl ⟨by decide, by decide⟩ rfl rfl ⟨by decide, by decide⟩ dX11_at_4 7 rfl rfl (Nat.le_of_ble_eq_true rfl) ?_
  refine x_iload_n C dX11_at_7 8 rfl 1 rfl ?_
  refine x_if_lt C dX11_at_8 11 rfl 34 rfl h (fun h => ?_) (fun h => ?_)
  · refine x_iconst C dX11_at_34 35 rfl (-1) rfl ?_
    exact x_iret C rfl dX11_at_35 h
  · refine x_iload_n C dX11_at_11 12 rfl 1 rfl ?_
    refine x_aload_n C dX11_at_12 13 rfl 0 rfl ?_
    refine x_get C inX11 0 lc0 EC_0 rfl 11 (by decide) dX11_at_13 16 rfl wmf_X11_95 rfl ?_
    refine x_get C inX3 80 lc80 EC_80 rfl 4 (by decide) dX11_at_16 19 rfl wmf_X11_314 rfl ?_
    refine x_icmp_ge C dX11_at_19 22 rfl 34 rfl h (fun h => ?_) (fun h => ?_)
    · refine x_iconst C dX11_at_34 35 rfl (-1) rfl ?_
      exact x_iret C rfl dX11_at_35 h
    · refine x_aload_n C dX11_at_22 23 rfl 0 rfl ?_
      refine x_get C inX11 0 lc0 EC_0 rfl 11 (by decide) dX11_at_23 26 rfl wmf_X11_95 rfl ?_
      refine x_get C inX3 80 lc80 EC_80 rfl 8 (by decide) dX11_at_26 29 rfl wmf_X11_326 rfl ?_
      refine x_iload_n C dX11_at_29 30 rfl 1 rfl ?_
      refine x_iald C 81 lc81 EC_81 0 rfl dX11_at_30 31 rfl h (fun h => ?_)
      refine x_goto C dX11_at_31 35 rfl ?_
      exact x_iret C rfl dX11_at_35 h
abbrev rm_X11_status : Room := { frames := 0, cells := 0, slots := 0, locals := 0 }
theorem wq_X11_status : xcV RX11 yX11_status cX11_status 2 (some .int) 1 := ⟨wmi_X11_status, wms_X11_status, wmn_X11, wmc_X11_status, by decide, by decide, by decide +kernel⟩
def F_X11_status (N : Nat) (ah : AH) (p1 : Int32) : Option (Int32 × AH) := if p1 = 0 then some (ah 0 14, ah) else if p1 = 1 then some (ah 0 15, ah) else some ((-1), ah)
theorem c_X11_status {l : Launch} {D : va_G} {ca : Nat → ClassId} {ad : Nat → Nat} (hI : xInj ad NCC) {N : Nat} {ah : AH} {p1 : Int32} {r : Int32} {a : AH} (h : F_X11_status N ah p1 = some (r, a)) : xMi l yX11_status cX11_status 2 (some .int) rm_X11_status D vwCl (tysC ca) (EC ad ca) NCC ad [.ref (ad 0), .int p1] ah (r, a) := by
  refine x_meti (by decide) (Nat.le_of_ble_eq_true rfl) hI EC_loc ?_
  intro p e s m args below meth c C
  unfold F_X11_status at h
  refine x_iload_n C dX11_status_0 1 rfl 1 rfl ?_
  refine x_if_ne C dX11_status_1 4 rfl 9 rfl h (fun h => ?_) (fun h => ?_)
  · refine x_iload_n C dX11_status_9 10 rfl 1 rfl ?_
    refine x_iconst C dX11_status_10 11 rfl 1 rfl ?_
    refine x_icmp_ne C dX11_status_11 14 rfl 21 rfl h (fun h => ?_) (fun h => ?_)
    · refine x_iconst C dX11_status_21 22 rfl (-1) rfl ?_
      exact x_iret C rfl dX11_status_22 h
    · refine x_aload_n C dX11_status_14 15 rfl 0 rfl ?_
      refine x_get C inX11 0 lc0 EC_0 rfl 15 (by decide) dX11_status_15 18 rfl wmf_X11_380 rfl ?_
      refine x_goto C dX11_status_18 22 rfl ?_
      exact x_iret C rfl dX11_status_22 h
  · refine x_aload_n C dX11_status_4 5 rfl 0 rfl ?_
    refine x_get C inX11 0 lc0 EC_0 rfl 14 (by decide) dX11_status_5 8 rfl wmf_X11_377 rfl ?_
    exact x_iret C rfl dX11_status_8 h
abbrev rm_X10_needBy : Room := { frames := 1, cells := 0, slots := 0, locals := 22 }
theorem wq_X10_needBy : xcV RX10 yX10_needBy cX10_needBy 6 (some .int) 3 := ⟨wmi_X10_needBy, wms_X10_needBy, wmn_X10, wmc_X10_needBy, by decide, by decide, by decide +kernel⟩
def F_X10_needBy_33 (N : Nat) : Nat → AH → Int32 → Int32 → Int32 → Int32 → Int32 → Option (Int32 × AH)
  | 0, _, _, _, _, _, _ => none
  | n + 1, ah, v1, v2, v3, v4, v5 => if v4 ≤ v5 then xg v2 624 (xg v2 624 (xg ((((ah 61 (Int32.toNatClampNeg v2)) * 13) + v3) + v4) 325 (some (xmin 1000000 ((ah 62 (Int32.toNatClampNeg v2)) + (ah 90 (Int32.toNatClampNeg ((((ah 61 (Int32.toNatClampNeg v2)) * 13) + v3) + v4)))), ah)))) else xb (F_X2_signOf N ah v1 (v3 + v5)) (fun r49 a49 => xg ((v2 * 3) + v5) 1872 (if r49 = (a49 64 (Int32.toNatClampNeg ((v2 * 3) + v5))) then xlet (v5 + 1) (fun v5_72 => F_X10_needBy_33 N n a49 v1 v2 v3 v4 v5_72) else some (1000000, a49)))
def F_X10_needBy (N : Nat) (ah : AH) (p1 : Int32) (p2 : Int32) (p3 : Int32) : Option (Int32 × AH) := xg p2 624 (xlet (ah 63 (Int32.toNatClampNeg p2)) (fun v4_9 => xg p1 60 (if (p3 + v4_9) ≤ (ah 5 (Int32.toNatClampNeg p1)) then xlet 0 (fun v5_31 => F_X10_needBy_33 N N ah p1 p2 p3 v4_9 v5_31) else some (1000000, ah))))
theorem b_X10_needBy_33 (C : XC p l s m args meth c cX10_needBy 6 (some .int) RX10 D vwCl (tysC ca) (EC ad ca) NCC ad) {N : Nat} {o : (Int32 × AH)} : ∀ (n : Nat) {ah : AH} {v1 : Int32} {v2 : Int32} {v3 : Int32} {v4 : Int32} {v5 : Int32}, F_X10_needBy_33 N n ah v1 v2 v3 v4 v5 = some o → XW p l e rm_X10_needBy s m args below meth c 6 0 (xQi below args s D vwCl (tysC ca) (EC ad ca) NCC ad o) D vwCl (EC ad ca) NCC ad ah 33 [(0, .ref (ad 88)), (1, .int v1), (2, .int v2), (3, .int v3), (4, .int v4), (5, .int v5)] [] := by
  intro n
  induction n with
  | zero => intro ah v1 v2 v3 v4 v5 h; unfold F_X10_needBy_33 at h; cases h
  | succ n ih =>
    intro ah v1 v2 v3 v4 v5 h
    unfold F_X10_needBy_33 at h
    refine x_iload C dX10_needBy_33 35 rfl 5 rfl ?_
    refine x_iload C dX10_needBy_35 37 rfl 4 rfl ?_
    refine x_icmp_ge C dX10_needBy_37 40 rfl 78 rfl h (fun h => ?_) (fun h => ?_)
    · refine x_ldc C dX10_needBy_78 80 rfl wmk_X10_48 ?_
      refine x_aload_n C dX10_needBy_80 81 rfl 0 rfl ?_
      refine x_get C inX10 88 lc88 EC_88 rfl 0 (by decide) dX10_needBy_81 84 rfl wmf_X10_18 rfl ?_
      refine x_get C inX4 57 lc57 EC_57 rfl 10 (by decide) dX10_needBy_84 87 rfl wmf_X10_70 rfl ?_
      refine x_iload_n C dX10_needBy_87 88 rfl 2 rfl ?_
      refine x_iald C 62 lc62 EC_62 0 rfl dX10_needBy_88 89 rfl h (fun h => ?_)
      refine x_aload_n C dX10_needBy_89 90 rfl 0 rfl ?_
      refine x_get C inX10 88 lc88 EC_88 rfl 5 (by decide) dX10_needBy_90 93 rfl wmf_X10_15 rfl ?_
      refine x_aload_n C dX10_needBy_93 94 rfl 0 rfl ?_
      refine x_get C inX10 88 lc88 EC_88 rfl 0 (by decide) dX10_needBy_94 97 rfl wmf_X10_18 rfl ?_
      refine x_get C inX4 57 lc57 EC_57 rfl 9 (by decide) dX10_needBy_97 100 rfl wmf_X10_73 rfl ?_
      refine x_iload_n C dX10_needBy_100 101 rfl 2 rfl ?_
      refine x_iald C 61 lc61 EC_61 0 rfl dX10_needBy_101 102 rfl h (fun h => ?_)
      refine x_bipush C dX10_needBy_102 104 rfl 13 rfl ?_
      refine x_imul C dX10_needBy_104 105 rfl ?_
      refine x_iload_n C dX10_needBy_105 106 rfl 3 rfl ?_
      refine x_iadd C dX10_needBy_106 107 rfl ?_
      refine x_iload C dX10_needBy_107 109 rfl 4 rfl ?_
      refine x_iadd C dX10_needBy_109 110 rfl ?_
      refine x_iald C 90 lc90 EC_90 0 rfl dX10_needBy_110 111 rfl h (fun h => ?_)
      refine x_iadd C dX10_needBy_111 112 rfl ?_
      refine x_mmin C wml_X10_55 wmt_J9_min wmn_J9 wmc_J9_min ⟨by decide, by decide⟩ (by decide) (Nat.le_of_ble_eq_true rfl) dX10_needBy_112 115 rfl ?_
      exact x_iret C rfl dX10_needBy_115 h
    · refine x_aload_n C dX10_needBy_40 41 rfl 0 rfl ?_
      refine x_get C inX10 88 lc88 EC_88 rfl 1 (by decide) dX10_needBy_41 44 rfl wmf_X10_22 rfl ?_
      refine x_iload_n C dX10_needBy_44 45 rfl 1 rfl ?_
      refine x_iload_n C dX10_needBy_45 46 rfl 3 rfl ?_
      refine x_iload C dX10_needBy_46 48 rfl 5 rfl ?_
      refine x_iadd C dX10_needBy_48 49 rfl ?_
      obtain ⟨r49, a49, hq, h⟩ := xb_some h
      refine x_callVi C 4 (c_X2_signOf C.2.2.2.2.2.2.1 hq) lc4 EC_4 rfl wml_X10_64 wq_X2_signOf rfl ⟨by decide, by decide⟩ rfl rfl ⟨by decide, by decide⟩ dX10_needBy_49 52 rfl rfl (Nat.le_of_ble_eq_true rfl) ?_
      refine x_aload_n C dX10_needBy_52 53 rfl 0 rfl ?_
      refine x_get C inX10 88 lc88 EC_88 rfl 0 (by decide) dX10_needBy_53 56 rfl wmf_X10_18 rfl ?_
      refine x_get C inX4 57 lc57 EC_57 rfl 12 (by decide) dX10_needBy_56 59 rfl wmf_X10_67 rfl ?_
      refine x_iload_n C dX10_needBy_59 60 rfl 2 rfl ?_
      refine x_iconst C dX10_needBy_60 61 rfl 3 rfl ?_
      refine x_imul C dX10_needBy_61 62 rfl ?_
      refine x_iload C dX10_needBy_62 64 rfl 5 rfl ?_
      refine x_iadd C dX10_needBy_64 65 rfl ?_
      refine x_iald C 64 lc64 EC_64 0 rfl dX10_needBy_65 66 rfl h (fun h => ?_)
      refine x_icmp_eq C dX10_needBy_66 69 rfl 72 rfl h (fun h => ?_) (fun h => ?_)
      · refine x_iinc C dX10_needBy_72 75 rfl 5 rfl (d := 1) rfl (by decide) (fun v5_72 => [(5, .int v5_72), (0, .ref (ad 88)), (1, .int v1), (2, .int v2), (3, .int v3), (4, .int v4)]) (fun _ => rfl) h (fun v5_72 h => ?_)
        refine x_goto C dX10_needBy_75 33 rfl ?_
        exact x_sub [1, 2, 3, 4, 5, 0] rfl (ih h)
      · refine x_ldc C dX10_needBy_69 71 rfl wmk_X10_48 ?_
        exact x_iret C rfl dX10_needBy_71 h
theorem c_X10_needBy {l : Launch} {D : va_G} {ca : Nat → ClassId} {ad : Nat → Nat} (hI : xInj ad NCC) {N : Nat} {ah : AH} {p1 : Int32} {p2 : Int32} {p3 : Int32} {r : Int32} {a : AH} (h : F_X10_needBy N ah p1 p2 p3 = some (r, a)) : xMi l yX10_needBy cX10_needBy 6 (some .int) rm_X10_needBy D vwCl (tysC ca) (EC ad ca) NCC ad [.ref (ad 88), .int p1, .int p2, .int p3] ah (r, a) := by
  refine x_meti (by decide) (Nat.le_of_ble_eq_true rfl) hI EC_loc ?_
  intro p e s m args below meth c C
  unfold F_X10_needBy at h
  refine x_aload_n C dX10_needBy_0 1 rfl 0 rfl ?_
  refine x_get C inX10 88 lc88 EC_88 rfl 0 (by decide) dX10_needBy_1 4 rfl wmf_X10_18 rfl ?_
  refine x_get C inX4 57 lc57 EC_57 rfl 11 (by decide) dX10_needBy_4 7 rfl wmf_X10_61 rfl ?_
  refine x_iload_n C dX10_needBy_7 8 rfl 2 rfl ?_
  refine x_iald C 63 lc63 EC_63 0 rfl dX10_needBy_8 9 rfl h (fun h => ?_)
  refine x_istore C dX10_needBy_9 11 rfl (by decide) (fun v4_9 => [(4, .int v4_9), (0, .ref (ad 88)), (1, .int p1), (2, .int p2), (3, .int p3)]) (fun _ => rfl) h (fun v4_9 h => ?_)
  refine x_iload_n C dX10_needBy_11 12 rfl 4 rfl ?_
  refine x_iload C dX10_needBy_12 14 rfl 0 rfl ?_
  refine x_iadd C dX10_needBy_14 15 rfl ?_
  refine x_aload_n C dX10_needBy_15 16 rfl 1 rfl ?_
  refine x_get C inX10 88 lc88 EC_88 rfl 1 (by decide) dX10_needBy_16 19 rfl wmf_X10_22 rfl ?_
  refine x_get C inX2 4 lc4 EC_4 rfl 1 (by decide) dX10_needBy_19 22 rfl wmf_X10_26 rfl ?_
  refine x_iload_n C dX10_needBy_22 23 rfl 2 rfl ?_
  refine x_iald C 5 lc5 EC_5 0 rfl dX10_needBy_23 24 rfl h (fun h => ?_)
  refine x_icmp_le C dX10_needBy_24 27 rfl 30 rfl h (fun h => ?_) (fun h => ?_)
  · refine x_iconst C dX10_needBy_30 31 rfl 0 rfl ?_
    refine x_istore C dX10_needBy_31 33 rfl (by decide) (fun v5_31 => [(5, .int v5_31), (4, .int v4_9), (0, .ref (ad 88)), (1, .int p1), (2, .int p2), (3, .int p3)]) (fun _ => rfl) h (fun v5_31 h => ?_)
    exact x_sub [2, 3, 4, 5, 1, 0] rfl (b_X10_needBy_33 C  N h)
  · refine x_ldc C dX10_needBy_27 29 rfl wmk_X10_48 ?_
    exact x_iret C rfl dX10_needBy_29 h
abbrev rm_X10_firstBest : Room := { frames := 2, cells := 0, slots := 0, locals := 47 }
theorem wq_X10_firstBest : xcV RX10 yX10_firstBest cX10_firstBest 6 (some .int) 3 := ⟨wmi_X10_firstBest, wms_X10_firstBest, wmn_X10, wmc_X10_firstBest, by decide, by decide, by decide +kernel⟩
def F_X10_firstBest_63 (N : Nat) (k24 : AH → Int32 → Int32 → Int32 → Int32 → Int32 → Option (Int32 × AH)) (ah : AH) (v1 : Int32) (v2 : Int32) (v3 : Int32) (v4 : Int32) (v5 : Int32) : Option (Int32 × AH) := xlet (v5 + 1) (fun v5_63 => k24 ah v1 v2 v3 v4 v5_63)
def F_X10_firstBest_24 (N : Nat) : Nat → AH → Int32 → Int32 → Int32 → Int32 → Int32 → Option (Int32 × AH)
  | 0, _, _, _, _, _, _ => none
  | n + 1, ah, v1, v2, v3, v4, v5 => xg (v2 + 1) 26 (if (ah 59 (Int32.toNatClampNeg (v2 + 1))) ≤ v5 then some ((-1), ah) else if 1000000 ≤ v4 then F_X10_firstBest_63 N (F_X10_firstBest_24 N n) ah v1 v2 v3 v4 v5 else xb (F_X10_needBy N ah v1 v5 v3) (fun r52 a52 => if r52 = v4 then some (v5, a52) else F_X10_firstBest_63 N (F_X10_firstBest_24 N n) a52 v1 v2 v3 v4 v5))
def F_X10_firstBest (N : Nat) (ah : AH) (p1 : Int32) (p2 : Int32) (p3 : Int32) : Option (Int32 × AH) := xg ((p2 * 13) + p3) 325 (xlet (ah 90 (Int32.toNatClampNeg ((p2 * 13) + p3))) (fun v4_11 => xg p2 26 (xlet (ah 59 (Int32.toNatClampNeg p2)) (fun v5_22 => F_X10_firstBest_24 N N ah p1 p2 p3 v4_11 v5_22))))
theorem b_X10_firstBest_63 (C : XC p l s m args meth c cX10_firstBest 6 (some .int) RX10 D vwCl (tysC ca) (EC ad ca) NCC ad) {N : Nat} {o : (Int32 × AH)} {k24 : AH → Int32 → Int32 → Int32 → Int32 → Int32 → Option (Int32 × AH)} (hk24 : ∀ (ah : AH) (v1 : Int32) (v2 : Int32) (v3 : Int32) (v4 : Int32) (v5 : Int32), k24 ah v1 v2 v3 v4 v5 = some o → XW p l e rm_X10_firstBest s m args below meth c 6 0 (xQi below args s D vwCl (tysC ca) (EC ad ca) NCC ad o) D vwCl (EC ad ca) NCC ad ah 24 [(0, .ref (ad 88)), (1, .int v1), (2, .int v2), (3, .int v3), (4, .int v4), (5, .int v5)] []) {ah : AH} {v1 : Int32} {v2 : Int32} {v3 : Int32} {v4 : Int32} {v5 : Int32} (h : F_X10_firstBest_63 N k24 ah v1 v2 v3 v4 v5 = some o) : XW p l e rm_X10_firstBest s m args below meth c 6 0 (xQi below args s D vwCl (tysC ca) (EC ad ca) NCC ad o) D vwCl (EC ad ca) NCC ad ah 63 [(0, .ref (ad 88)), (1, .int v1), (2, .int v2), (3, .int v3), (4, .int v4), (5, .int v5)] [] := by
  unfold F_X10_firstBest_63 at h
  refine x_iinc C dX10_firstBest_63 66 rfl 5 rfl (d := 1) rfl (by decide) (fun v5_63 => [(5, .int v5_63), (0, .ref (ad 88)), (1, .int v1), (2, .int v2), (3, .int v3), (4, .int v4)]) (fun _ => rfl) h (fun v5_63 h => ?_)
  refine x_goto C dX10_firstBest_66 24 rfl ?_
  exact x_sub [1, 2, 3, 4, 5, 0] rfl (hk24 _ _ _ _ _ _ h)
theorem b_X10_firstBest_24 (C : XC p l s m args meth c cX10_firstBest 6 (some .int) RX10 D vwCl (tysC ca) (EC ad ca) NCC ad) {N : Nat} {o : (Int32 × AH)} : ∀ (n : Nat) {ah : AH} {v1 : Int32} {v2 : Int32} {v3 : Int32} {v4 : Int32} {v5 : Int32}, F_X10_firstBest_24 N n ah v1 v2 v3 v4 v5 = some o → XW p l e rm_X10_firstBest s m args below meth c 6 0 (xQi below args s D vwCl (tysC ca) (EC ad ca) NCC ad o) D vwCl (EC ad ca) NCC ad ah 24 [(0, .ref (ad 88)), (1, .int v1), (2, .int v2), (3, .int v3), (4, .int v4), (5, .int v5)] [] := by
  intro n
  induction n with
  | zero => intro ah v1 v2 v3 v4 v5 h; unfold F_X10_firstBest_24 at h; cases h
  | succ n ih =>
    intro ah v1 v2 v3 v4 v5 h
    unfold F_X10_firstBest_24 at h
    refine x_iload C dX10_firstBest_24 26 rfl 5 rfl ?_
    refine x_aload_n C dX10_firstBest_26 27 rfl 0 rfl ?_
    refine x_get C inX10 88 lc88 EC_88 rfl 0 (by decide) dX10_firstBest_27 30 rfl wmf_X10_18 rfl ?_
    refine x_get C inX4 57 lc57 EC_57 rfl 7 (by decide) dX10_firstBest_30 33 rfl wmf_X10_49 rfl ?_
    refine x_iload_n C dX10_firstBest_33 34 rfl 2 rfl ?_
    refine x_iconst C dX10_firstBest_34 35 rfl 1 rfl ?_
    refine x_iadd C dX10_firstBest_35 36 rfl ?_
    refine x_iald C 59 lc59 EC_59 0 rfl dX10_firstBest_36 37 rfl h (fun h => ?_)
    refine x_icmp_ge C dX10_firstBest_37 40 rfl 69 rfl h (fun h => ?_) (fun h => ?_)
    · refine x_iconst C dX10_firstBest_69 70 rfl (-1) rfl ?_
      exact x_iret C rfl dX10_firstBest_70 h
    · refine x_iload C dX10_firstBest_40 42 rfl 4 rfl ?_
      refine x_ldc C dX10_firstBest_42 44 rfl wmk_X10_48 ?_
      refine x_icmp_ge C dX10_firstBest_44 47 rfl 63 rfl h (fun h => ?_) (fun h => ?_)
      · exact b_X10_firstBest_63 C (fun _ _ _ _ _ _ h => ih h) h
      · refine x_aload_n C dX10_firstBest_47 48 rfl 0 rfl ?_
        refine x_iload_n C dX10_firstBest_48 49 rfl 1 rfl ?_
        refine x_iload C dX10_firstBest_49 51 rfl 5 rfl ?_
        refine x_iload_n C dX10_firstBest_51 52 rfl 3 rfl ?_
        obtain ⟨r52, a52, hq, h⟩ := xb_some h
        refine x_callVi C 88 (c_X10_needBy C.2.2.2.2.2.2.1 hq) lc88 EC_88 rfl wml_X10_52 wq_X10_needBy rfl ⟨by decide, by decide⟩ rfl rfl ⟨by decide, by decide⟩ dX10_firstBest_52 55 rfl rfl (Nat.le_of_ble_eq_true rfl) ?_
        refine x_iload C dX10_firstBest_55 57 rfl 4 rfl ?_
        refine x_icmp_ne C dX10_firstBest_57 60 rfl 63 rfl h (fun h => ?_) (fun h => ?_)
        · exact b_X10_firstBest_63 C (fun _ _ _ _ _ _ h => ih h) h
        · refine x_iload C dX10_firstBest_60 62 rfl 5 rfl ?_
          exact x_iret C rfl dX10_firstBest_62 h
theorem c_X10_firstBest {l : Launch} {D : va_G} {ca : Nat → ClassId} {ad : Nat → Nat} (hI : xInj ad NCC) {N : Nat} {ah : AH} {p1 : Int32} {p2 : Int32} {p3 : Int32} {r : Int32} {a : AH} (h : F_X10_firstBest N ah p1 p2 p3 = some (r, a)) : xMi l yX10_firstBest cX10_firstBest 6 (some .int) rm_X10_firstBest D vwCl (tysC ca) (EC ad ca) NCC ad [.ref (ad 88), .int p1, .int p2, .int p3] ah (r, a) := by
  refine x_meti (by decide) (Nat.le_of_ble_eq_true rfl) hI EC_loc ?_
  intro p e s m args below meth c C
  unfold F_X10_firstBest at h
  refine x_aload_n C dX10_firstBest_0 1 rfl 0 rfl ?_
  refine x_get C inX10 88 lc88 EC_88 rfl 5 (by decide) dX10_firstBest_1 4 rfl wmf_X10_15 rfl ?_
  refine x_iload_n C dX10_firstBest_4 5 rfl 2 rfl ?_
  refine x_bipush C dX10_firstBest_5 7 rfl 13 rfl ?_
  refine x_imul C dX10_firstBest_7 8 rfl ?_
  refine x_iload_n C dX10_firstBest_8 9 rfl 3 rfl ?_
  refine x_iadd C dX10_firstBest_9 10 rfl ?_
  refine x_iald C 90 lc90 EC_90 0 rfl dX10_firstBest_10 11 rfl h (fun h => ?_)
  refine x_istore C dX10_firstBest_11 13 rfl (by decide) (fun v4_11 => [(4, .int v4_11), (0, .ref (ad 88)), (1, .int p1), (2, .int p2), (3, .int p3)]) (fun _ => rfl) h (fun v4_11 h => ?_)
  refine x_aload_n C dX10_firstBest_13 14 rfl 1 rfl ?_
  refine x_get C inX10 88 lc88 EC_88 rfl 0 (by decide) dX10_firstBest_14 17 rfl wmf_X10_18 rfl ?_
  refine x_get C inX4 57 lc57 EC_57 rfl 7 (by decide) dX10_firstBest_17 20 rfl wmf_X10_49 rfl ?_
  refine x_iload_n C dX10_firstBest_20 21 rfl 3 rfl ?_
  refine x_iald C 59 lc59 EC_59 0 rfl dX10_firstBest_21 22 rfl h (fun h => ?_)
  refine x_istore C dX10_firstBest_22 24 rfl (by decide) (fun v5_22 => [(5, .int v5_22), (4, .int v4_11), (0, .ref (ad 88)), (1, .int p1), (2, .int p2), (3, .int p3)]) (fun _ => rfl) h (fun v5_22 h => ?_)
  exact x_sub [2, 3, 4, 5, 1, 0] rfl (b_X10_firstBest_24 C  N h)
abbrev rm_X10_follow : Room := { frames := 3, cells := 0, slots := 0, locals := 72 }
theorem wq_X10_follow : xcV RX10 yX10_follow cX10_follow 5 none 1 := ⟨wmi_X10_follow, wms_X10_follow, wmn_X10, wmc_X10_follow, by decide, by decide, by decide +kernel⟩
def F_X10_follow_9 (N : Nat) : Nat → AH → Int32 → Int32 → Int32 → Option AH
  | 0, _, _, _, _ => none
  | n + 1, ah, v1, v2, v3 => if 24 ≤ (ah 88 2) then some ah else if (ah 57 4) ≤ v2 then some ah else xb (F_X10_firstBest N ah v1 v2 v3) (fun r33 a33 => xlet r33 (fun v4_36 => if v4_36 = ((-1)) then some a33 else xg (a33 88 2) 24 (xlet (xu a33 89 (Int32.toNatClampNeg (a33 88 2)) v4_36) (fun a55 => xlet (xu a55 88 2 ((a55 88 2) + 1)) (fun a63 => xg v4_36 624 (xlet (a63 61 (Int32.toNatClampNeg v4_36)) (fun v2_76 => xg v4_36 624 (xlet (v3 + (a63 63 (Int32.toNatClampNeg v4_36))) (fun v3_89 => F_X10_follow_9 N n a63 v1 v2_76 v3_89)))))))))
def F_X10_follow (N : Nat) (ah : AH) (p1 : Int32) : Option AH := xlet (xu ah 88 2 0) (fun a2 => xlet 0 (fun v2_6 => xlet 0 (fun v3_8 => F_X10_follow_9 N N a2 p1 v2_6 v3_8)))
theorem b_X10_follow_9 (C : XC p l s m args meth c cX10_follow 5 none RX10 D vwCl (tysC ca) (EC ad ca) NCC ad) {N : Nat} {o : AH} : ∀ (n : Nat) {ah : AH} {v1 : Int32} {v2 : Int32} {v3 : Int32}, F_X10_follow_9 N n ah v1 v2 v3 = some o → XW p l e rm_X10_follow s m args below meth c 5 0 (xQv below args s D vwCl (tysC ca) (EC ad ca) NCC ad o) D vwCl (EC ad ca) NCC ad ah 9 [(0, .ref (ad 88)), (1, .int v1), (2, .int v2), (3, .int v3)] [] := by
  intro n
  induction n with
  | zero => intro ah v1 v2 v3 h; unfold F_X10_follow_9 at h; cases h
  | succ n ih =>
    intro ah v1 v2 v3 h
    unfold F_X10_follow_9 at h
    refine x_aload_n C dX10_follow_9 10 rfl 0 rfl ?_
    refine x_get C inX10 88 lc88 EC_88 rfl 2 (by decide) dX10_follow_10 13 rfl wmf_X10_76 rfl ?_
    refine x_bipush C dX10_follow_13 15 rfl 24 rfl ?_
    refine x_icmp_ge C dX10_follow_15 18 rfl 93 rfl h (fun h => ?_) (fun h => ?_)
    · exact x_vret C rfl dX10_follow_93 h
    · refine x_iload_n C dX10_follow_18 19 rfl 2 rfl ?_
      refine x_aload_n C dX10_follow_19 20 rfl 0 rfl ?_
      refine x_get C inX10 88 lc88 EC_88 rfl 0 (by decide) dX10_follow_20 23 rfl wmf_X10_18 rfl ?_
      refine x_get C inX4 57 lc57 EC_57 rfl 4 (by decide) dX10_follow_23 26 rfl wmf_X10_31 rfl ?_
      refine x_icmp_ge C dX10_follow_26 29 rfl 93 rfl h (fun h => ?_) (fun h => ?_)
      · exact x_vret C rfl dX10_follow_93 h
      · refine x_aload_n C dX10_follow_29 30 rfl 0 rfl ?_
        refine x_iload_n C dX10_follow_30 31 rfl 1 rfl ?_
        refine x_iload_n C dX10_follow_31 32 rfl 2 rfl ?_
        refine x_iload_n C dX10_follow_32 33 rfl 3 rfl ?_
        obtain ⟨r33, a33, hq, h⟩ := xb_some h
        refine x_callVi C 88 (c_X10_firstBest C.2.2.2.2.2.2.1 hq) lc88 EC_88 rfl wml_X10_79 wq_X10_firstBest rfl ⟨by decide, by decide⟩ rfl rfl ⟨by decide, by decide⟩ dX10_follow_33 36 rfl rfl (Nat.le_of_ble_eq_true rfl) ?_
        refine x_istore C dX10_follow_36 38 rfl (by decide) (fun v4_36 => [(4, .int v4_36), (0, .ref (ad 88)), (1, .int v1), (2, .int v2), (3, .int v3)]) (fun _ => rfl) h (fun v4_36 h => ?_)
        refine x_iload C dX10_follow_38 40 rfl 0 rfl ?_
        refine x_iconst C dX10_follow_40 41 rfl (-1) rfl ?_
        refine x_icmp_ne C dX10_follow_41 44 rfl 45 rfl h (fun h => ?_) (fun h => ?_)
        · refine x_aload_n C dX10_follow_45 46 rfl 1 rfl ?_
          refine x_get C inX10 88 lc88 EC_88 rfl 4 (by decide) dX10_follow_46 49 rfl wmf_X10_9 rfl ?_
          refine x_aload_n C dX10_follow_49 50 rfl 1 rfl ?_
          refine x_get C inX10 88 lc88 EC_88 rfl 2 (by decide) dX10_follow_50 53 rfl wmf_X10_76 rfl ?_
          refine x_iload C dX10_follow_53 55 rfl 0 rfl ?_
          refine x_iast C 89 lc89 (fun _ => EC_89) 0 rfl dX10_follow_55 56 rfl h (fun a55 h => ?_)
          refine x_aload_n C dX10_follow_56 57 rfl 1 rfl ?_
          refine x_dup C dX10_follow_57 58 rfl rfl ?_
          refine x_get C inX10 88 lc88 EC_88 rfl 2 (by decide) dX10_follow_58 61 rfl wmf_X10_76 rfl ?_
          refine x_iconst C dX10_follow_61 62 rfl 1 rfl ?_
          refine x_iadd C dX10_follow_62 63 rfl ?_
          refine x_put C inX10 88 lc88 EC_88 rfl 2 (by decide) tyX10_ok nmX10 dX10_follow_63 66 rfl wmf_X10_76 rfl rfl rfl (Nat.le_of_ble_eq_true rfl) EP_88_2 h (fun a63 h => ?_)
          refine x_aload_n C dX10_follow_66 67 rfl 1 rfl ?_
          refine x_get C inX10 88 lc88 EC_88 rfl 0 (by decide) dX10_follow_67 70 rfl wmf_X10_18 rfl ?_
          refine x_get C inX4 57 lc57 EC_57 rfl 9 (by decide) dX10_follow_70 73 rfl wmf_X10_73 rfl ?_
          refine x_iload C dX10_follow_73 75 rfl 0 rfl ?_
          refine x_iald C 61 lc61 EC_61 0 rfl dX10_follow_75 76 rfl h (fun h => ?_)
          refine x_istore_n C dX10_follow_76 77 rfl (by decide) (fun v2_76 => [(2, .int v2_76), (4, .int v4_36), (0, .ref (ad 88)), (1, .int v1), (3, .int v3)]) (fun _ => rfl) h (fun v2_76 h => ?_)
          refine x_iload_n C dX10_follow_77 78 rfl 4 rfl ?_
          refine x_aload_n C dX10_follow_78 79 rfl 2 rfl ?_
          refine x_get C inX10 88 lc88 EC_88 rfl 0 (by decide) dX10_follow_79 82 rfl wmf_X10_18 rfl ?_
          refine x_get C inX4 57 lc57 EC_57 rfl 11 (by decide) dX10_follow_82 85 rfl wmf_X10_61 rfl ?_
          refine x_iload C dX10_follow_85 87 rfl 1 rfl ?_
          refine x_iald C 63 lc63 EC_63 0 rfl dX10_follow_87 88 rfl h (fun h => ?_)
          refine x_iadd C dX10_follow_88 89 rfl ?_
          refine x_istore_n C dX10_follow_89 90 rfl (by decide) (fun v3_89 => [(3, .int v3_89), (2, .int v2_76), (4, .int v4_36), (0, .ref (ad 88)), (1, .int v1)]) (fun _ => rfl) h (fun v3_89 h => ?_)
          refine x_goto C dX10_follow_90 9 rfl ?_
          exact x_sub [3, 4, 1, 0] rfl (ih h)
        · exact x_vret C rfl dX10_follow_44 h
theorem c_X10_follow {l : Launch} {D : va_G} {ca : Nat → ClassId} {ad : Nat → Nat} (hI : xInj ad NCC) {N : Nat} {ah : AH} {p1 : Int32} {a : AH} (h : F_X10_follow N ah p1 = some a) : xMv l yX10_follow cX10_follow 5 rm_X10_follow D vwCl (tysC ca) (EC ad ca) NCC ad [.ref (ad 88), .int p1] ah a := by
  refine x_metv (by decide) (Nat.le_of_ble_eq_true rfl) hI EC_loc ?_
  intro p e s m args below meth c C
  unfold F_X10_follow at h
  refine x_aload_n C dX10_follow_0 1 rfl 0 rfl ?_
  refine x_iconst C dX10_follow_1 2 rfl 0 rfl ?_
  refine x_put C inX10 88 lc88 EC_88 rfl 2 (by decide) tyX10_ok nmX10 dX10_follow_2 5 rfl wmf_X10_76 rfl rfl rfl (Nat.le_of_ble_eq_true rfl) EP_88_2 h (fun a2 h => ?_)
  refine x_iconst C dX10_follow_5 6 rfl 0 rfl ?_
  refine x_istore_n C dX10_follow_6 7 rfl (by decide) (fun v2_6 => [(2, .int v2_6), (0, .ref (ad 88)), (1, .int p1)]) (fun _ => rfl) h (fun v2_6 h => ?_)
  refine x_iconst C dX10_follow_7 8 rfl 0 rfl ?_
  refine x_istore_n C dX10_follow_8 9 rfl (by decide) (fun v3_8 => [(3, .int v3_8), (2, .int v2_6), (0, .ref (ad 88)), (1, .int p1)]) (fun _ => rfl) h (fun v3_8 h => ?_)
  exact x_sub [2, 3, 1, 0] rfl (b_X10_follow_9 C  N h)
abbrev rm_X10_needAt : Room := { frames := 2, cells := 0, slots := 0, locals := 47 }
theorem wq_X10_needAt : xcV RX10 yX10_needAt cX10_needAt 6 (some .int) 3 := ⟨wmi_X10_needAt, wms_X10_needAt, wmn_X10, wmc_X10_needAt, by decide, by decide, by decide +kernel⟩
def F_X10_needAt_15 (N : Nat) : Nat → AH → Int32 → Int32 → Int32 → Int32 → Int32 → Option (Int32 × AH)
  | 0, _, _, _, _, _, _ => none
  | n + 1, ah, v1, v2, v3, v4, v5 => xg (v2 + 1) 26 (if (ah 59 (Int32.toNatClampNeg (v2 + 1))) ≤ v5 then some (v4, ah) else xb (F_X10_needBy N ah v1 v5 v3) (fun r38 a38 => xlet (xmin v4 r38) (fun v4_44 => xlet (v5 + 1) (fun v5_46 => F_X10_needAt_15 N n a38 v1 v2 v3 v4_44 v5_46))))
def F_X10_needAt (N : Nat) (ah : AH) (p1 : Int32) (p2 : Int32) (p3 : Int32) : Option (Int32 × AH) := xlet 1000000 (fun v4_2 => xg p2 26 (xlet (ah 59 (Int32.toNatClampNeg p2)) (fun v5_13 => F_X10_needAt_15 N N ah p1 p2 p3 v4_2 v5_13)))
theorem b_X10_needAt_15 (C : XC p l s m args meth c cX10_needAt 6 (some .int) RX10 D vwCl (tysC ca) (EC ad ca) NCC ad) {N : Nat} {o : (Int32 × AH)} : ∀ (n : Nat) {ah : AH} {v1 : Int32} {v2 : Int32} {v3 : Int32} {v4 : Int32} {v5 : Int32}, F_X10_needAt_15 N n ah v1 v2 v3 v4 v5 = some o → XW p l e rm_X10_needAt s m args below meth c 6 0 (xQi below args s D vwCl (tysC ca) (EC ad ca) NCC ad o) D vwCl (EC ad ca) NCC ad ah 15 [(0, .ref (ad 88)), (1, .int v1), (2, .int v2), (3, .int v3), (4, .int v4), (5, .int v5)] [] := by
  intro n
  induction n with
  | zero => intro ah v1 v2 v3 v4 v5 h; unfold F_X10_needAt_15 at h; cases h
  | succ n ih =>
    intro ah v1 v2 v3 v4 v5 h
    unfold F_X10_needAt_15 at h
    refine x_iload C dX10_needAt_15 17 rfl 5 rfl ?_
    refine x_aload_n C dX10_needAt_17 18 rfl 0 rfl ?_
    refine x_get C inX10 88 lc88 EC_88 rfl 0 (by decide) dX10_needAt_18 21 rfl wmf_X10_18 rfl ?_
    refine x_get C inX4 57 lc57 EC_57 rfl 7 (by decide) dX10_needAt_21 24 rfl wmf_X10_49 rfl ?_
    refine x_iload_n C dX10_needAt_24 25 rfl 2 rfl ?_
    refine x_iconst C dX10_needAt_25 26 rfl 1 rfl ?_
    refine x_iadd C dX10_needAt_26 27 rfl ?_
    refine x_iald C 59 lc59 EC_59 0 rfl dX10_needAt_27 28 rfl h (fun h => ?_)
    refine x_icmp_ge C dX10_needAt_28 31 rfl 52 rfl h (fun h => ?_) (fun h => ?_)
    · refine x_iload C dX10_needAt_52 54 rfl 4 rfl ?_
      exact x_iret C rfl dX10_needAt_54 h
    · refine x_iload C dX10_needAt_31 33 rfl 4 rfl ?_
      refine x_aload_n C dX10_needAt_33 34 rfl 0 rfl ?_
      refine x_iload_n C dX10_needAt_34 35 rfl 1 rfl ?_
      refine x_iload C dX10_needAt_35 37 rfl 5 rfl ?_
      refine x_iload_n C dX10_needAt_37 38 rfl 3 rfl ?_
      obtain ⟨r38, a38, hq, h⟩ := xb_some h
      refine x_callVi C 88 (c_X10_needBy C.2.2.2.2.2.2.1 hq) lc88 EC_88 rfl wml_X10_52 wq_X10_needBy rfl ⟨by decide, by decide⟩ rfl rfl ⟨by decide, by decide⟩ dX10_needAt_38 41 rfl rfl (Nat.le_of_ble_eq_true rfl) ?_
      refine x_mmin C wml_X10_55 wmt_J9_min wmn_J9 wmc_J9_min ⟨by decide, by decide⟩ (by decide) (Nat.le_of_ble_eq_true rfl) dX10_needAt_41 44 rfl ?_
      refine x_istore C dX10_needAt_44 46 rfl (by decide) (fun v4_44 => [(4, .int v4_44), (0, .ref (ad 88)), (1, .int v1), (2, .int v2), (3, .int v3), (5, .int v5)]) (fun _ => rfl) h (fun v4_44 h => ?_)
      refine x_iinc C dX10_needAt_46 49 rfl 5 rfl (d := 1) rfl (by decide) (fun v5_46 => [(5, .int v5_46), (4, .int v4_44), (0, .ref (ad 88)), (1, .int v1), (2, .int v2), (3, .int v3)]) (fun _ => rfl) h (fun v5_46 h => ?_)
      refine x_goto C dX10_needAt_49 15 rfl ?_
      exact x_sub [2, 3, 4, 5, 1, 0] rfl (ih h)
theorem c_X10_needAt {l : Launch} {D : va_G} {ca : Nat → ClassId} {ad : Nat → Nat} (hI : xInj ad NCC) {N : Nat} {ah : AH} {p1 : Int32} {p2 : Int32} {p3 : Int32} {r : Int32} {a : AH} (h : F_X10_needAt N ah p1 p2 p3 = some (r, a)) : xMi l yX10_needAt cX10_needAt 6 (some .int) rm_X10_needAt D vwCl (tysC ca) (EC ad ca) NCC ad [.ref (ad 88), .int p1, .int p2, .int p3] ah (r, a) := by
  refine x_meti (by decide) (Nat.le_of_ble_eq_true rfl) hI EC_loc ?_
  intro p e s m args below meth c C
  unfold F_X10_needAt at h
  refine x_ldc C dX10_needAt_0 2 rfl wmk_X10_48 ?_
  refine x_istore C dX10_needAt_2 4 rfl (by decide) (fun v4_2 => [(4, .int v4_2), (0, .ref (ad 88)), (1, .int p1), (2, .int p2), (3, .int p3)]) (fun _ => rfl) h (fun v4_2 h => ?_)
  refine x_aload_n C dX10_needAt_4 5 rfl 1 rfl ?_
  refine x_get C inX10 88 lc88 EC_88 rfl 0 (by decide) dX10_needAt_5 8 rfl wmf_X10_18 rfl ?_
  refine x_get C inX4 57 lc57 EC_57 rfl 7 (by decide) dX10_needAt_8 11 rfl wmf_X10_49 rfl ?_
  refine x_iload_n C dX10_needAt_11 12 rfl 3 rfl ?_
  refine x_iald C 59 lc59 EC_59 0 rfl dX10_needAt_12 13 rfl h (fun h => ?_)
  refine x_istore C dX10_needAt_13 15 rfl (by decide) (fun v5_13 => [(5, .int v5_13), (4, .int v4_2), (0, .ref (ad 88)), (1, .int p1), (2, .int p2), (3, .int p3)]) (fun _ => rfl) h (fun v5_13 h => ?_)
  exact x_sub [2, 3, 4, 5, 1, 0] rfl (b_X10_needAt_15 C  N h)
abbrev rm_X10_spell : Room := { frames := 4, cells := 0, slots := 0, locals := 96 }
theorem wq_X10_spell : xcV RX10 yX10_spell cX10_spell 5 none 1 := ⟨wmi_X10_spell, wms_X10_spell, wmn_X10, wmc_X10_spell, by decide, by decide, by decide +kernel⟩
def F_X10_spell_71 (N : Nat) (k18 : AH → Int32 → Int32 → Int32 → Option AH) (k25 : AH → Int32 → Int32 → Int32 → Int32 → Option AH) (ah : AH) (v1 : Int32) (v2 : Int32) (v3 : Int32) (v4 : Int32) (s1 : Int32) (s2 : Int32) : Option AH := xg s1 325 (xlet (xu ah 90 (Int32.toNatClampNeg s1) s2) (fun a71 => xlet (v4 + 1) (fun v4_72 => k25 a71 v1 v2 v3 v4_72)))
def F_X10_spell_63 (N : Nat) (k18 : AH → Int32 → Int32 → Int32 → Option AH) (k25 : AH → Int32 → Int32 → Int32 → Int32 → Option AH) (ah : AH) (v1 : Int32) (v2 : Int32) (v3 : Int32) (v4 : Int32) (s1 : Int32) : Option AH := xb (F_X10_needAt N ah v1 v3 v4) (fun r68 a68 => F_X10_spell_71 N k18 k25 a68 v1 v2 v3 v4 s1 r68)
def F_X10_spell_25 (N : Nat) (k18 : AH → Int32 → Int32 → Int32 → Option AH) : Nat → AH → Int32 → Int32 → Int32 → Int32 → Option AH
  | 0, _, _, _, _, _ => none
  | n + 1, ah, v1, v2, v3, v4 => if v2 < v4 then xlet (v3 + (-1)) (fun v3_78 => k18 ah v1 v2 v3_78) else if v3 = (ah 57 4) then if v4 = v2 then F_X10_spell_71 N k18 (F_X10_spell_25 N k18 n) ah v1 v2 v3 v4 ((v3 * 13) + v4) 0 else F_X10_spell_63 N k18 (F_X10_spell_25 N k18 n) ah v1 v2 v3 v4 ((v3 * 13) + v4) else F_X10_spell_63 N k18 (F_X10_spell_25 N k18 n) ah v1 v2 v3 v4 ((v3 * 13) + v4)
def F_X10_spell_18 (N : Nat) : Nat → AH → Int32 → Int32 → Int32 → Option AH
  | 0, _, _, _, _ => none
  | n + 1, ah, v1, v2, v3 => if v3 < 0 then xlet (xu ah 88 3 (ah 90 0)) (fun a91 => xbv (F_X10_follow N a91 v1) (fun a96 => some a96)) else xlet 0 (fun v4_23 => F_X10_spell_25 N (F_X10_spell_18 N n) N ah v1 v2 v3 v4_23)
def F_X10_spell (N : Nat) (ah : AH) (p1 : Int32) : Option AH := xg p1 60 (xlet (ah 5 (Int32.toNatClampNeg p1)) (fun v2_9 => xlet (ah 57 4) (fun v3_17 => F_X10_spell_18 N N ah p1 v2_9 v3_17)))
theorem b_X10_spell_71 (C : XC p l s m args meth c cX10_spell 5 none RX10 D vwCl (tysC ca) (EC ad ca) NCC ad) {N : Nat} {o : AH} {k18 : AH → Int32 → Int32 → Int32 → Option AH} (hk18 : ∀ (ah : AH) (v1 : Int32) (v2 : Int32) (v3 : Int32), k18 ah v1 v2 v3 = some o → XW p l e rm_X10_spell s m args below meth c 5 0 (xQv below args s D vwCl (tysC ca) (EC ad ca) NCC ad o) D vwCl (EC ad ca) NCC ad ah 18 [(0, .ref (ad 88)), (1, .int v1), (2, .int v2), (3, .int v3)] []) {k25 : AH → Int32 → Int32 → Int32 → Int32 → Option AH} (hk25 : ∀ (ah : AH) (v1 : Int32) (v2 : Int32) (v3 : Int32) (v4 : Int32), k25 ah v1 v2 v3 v4 = some o → XW p l e rm_X10_spell s m args below meth c 5 0 (xQv below args s D vwCl (tysC ca) (EC ad ca) NCC ad o) D vwCl (EC ad ca) NCC ad ah 25 [(0, .ref (ad 88)), (1, .int v1), (2, .int v2), (3, .int v3), (4, .int v4)] []) {ah : AH} {v1 : Int32} {v2 : Int32} {v3 : Int32} {v4 : Int32} {s1 : Int32} {s2 : Int32} (h : F_X10_spell_71 N k18 k25 ah v1 v2 v3 v4 s1 s2 = some o) : XW p l e rm_X10_spell s m args below meth c 5 0 (xQv below args s D vwCl (tysC ca) (EC ad ca) NCC ad o) D vwCl (EC ad ca) NCC ad ah 71 [(0, .ref (ad 88)), (1, .int v1), (2, .int v2), (3, .int v3), (4, .int v4)] [.int s2, .int s1, .ref (ad 90)] := by
  unfold F_X10_spell_71 at h
  refine x_iast C 90 lc90 (fun _ => EC_90) 0 rfl dX10_spell_71 72 rfl h (fun a71 h => ?_)
  refine x_iinc C dX10_spell_72 75 rfl 4 rfl (d := 1) rfl (by decide) (fun v4_72 => [(4, .int v4_72), (0, .ref (ad 88)), (1, .int v1), (2, .int v2), (3, .int v3)]) (fun _ => rfl) h (fun v4_72 h => ?_)
  refine x_goto C dX10_spell_75 25 rfl ?_
  exact x_sub [1, 2, 3, 4, 0] rfl (hk25 _ _ _ _ _ h)
theorem b_X10_spell_63 (C : XC p l s m args meth c cX10_spell 5 none RX10 D vwCl (tysC ca) (EC ad ca) NCC ad) {N : Nat} {o : AH} {k18 : AH → Int32 → Int32 → Int32 → Option AH} (hk18 : ∀ (ah : AH) (v1 : Int32) (v2 : Int32) (v3 : Int32), k18 ah v1 v2 v3 = some o → XW p l e rm_X10_spell s m args below meth c 5 0 (xQv below args s D vwCl (tysC ca) (EC ad ca) NCC ad o) D vwCl (EC ad ca) NCC ad ah 18 [(0, .ref (ad 88)), (1, .int v1), (2, .int v2), (3, .int v3)] []) {k25 : AH → Int32 → Int32 → Int32 → Int32 → Option AH} (hk25 : ∀ (ah : AH) (v1 : Int32) (v2 : Int32) (v3 : Int32) (v4 : Int32), k25 ah v1 v2 v3 v4 = some o → XW p l e rm_X10_spell s m args below meth c 5 0 (xQv below args s D vwCl (tysC ca) (EC ad ca) NCC ad o) D vwCl (EC ad ca) NCC ad ah 25 [(0, .ref (ad 88)), (1, .int v1), (2, .int v2), (3, .int v3), (4, .int v4)] []) {ah : AH} {v1 : Int32} {v2 : Int32} {v3 : Int32} {v4 : Int32} {s1 : Int32} (h : F_X10_spell_63 N k18 k25 ah v1 v2 v3 v4 s1 = some o) : XW p l e rm_X10_spell s m args below meth c 5 0 (xQv below args s D vwCl (tysC ca) (EC ad ca) NCC ad o) D vwCl (EC ad ca) NCC ad ah 63 [(0, .ref (ad 88)), (1, .int v1), (2, .int v2), (3, .int v3), (4, .int v4)] [.int s1, .ref (ad 90)] := by
  unfold F_X10_spell_63 at h
  refine x_aload_n C dX10_spell_63 64 rfl 0 rfl ?_
  refine x_iload_n C dX10_spell_64 65 rfl 1 rfl ?_
  refine x_iload_n C dX10_spell_65 66 rfl 3 rfl ?_
  refine x_iload C dX10_spell_66 68 rfl 4 rfl ?_
  obtain ⟨r68, a68, hq, h⟩ := xb_some h
  refine x_callVi C 88 (c_X10_needAt C.2.2.2.2.2.2.1 hq) lc88 EC_88 rfl wml_X10_37 wq_X10_needAt rfl ⟨by decide, by decide⟩ rfl rfl ⟨by decide, by decide⟩ dX10_spell_68 71 rfl rfl (Nat.le_of_ble_eq_true rfl) ?_
  exact b_X10_spell_71 C hk18 hk25 h
theorem b_X10_spell_25 (C : XC p l s m args meth c cX10_spell 5 none RX10 D vwCl (tysC ca) (EC ad ca) NCC ad) {N : Nat} {o : AH} {k18 : AH → Int32 → Int32 → Int32 → Option AH} (hk18 : ∀ (ah : AH) (v1 : Int32) (v2 : Int32) (v3 : Int32), k18 ah v1 v2 v3 = some o → XW p l e rm_X10_spell s m args below meth c 5 0 (xQv below args s D vwCl (tysC ca) (EC ad ca) NCC ad o) D vwCl (EC ad ca) NCC ad ah 18 [(0, .ref (ad 88)), (1, .int v1), (2, .int v2), (3, .int v3)] []) : ∀ (n : Nat) {ah : AH} {v1 : Int32} {v2 : Int32} {v3 : Int32} {v4 : Int32}, F_X10_spell_25 N k18 n ah v1 v2 v3 v4 = some o → XW p l e rm_X10_spell s m args below meth c 5 0 (xQv below args s D vwCl (tysC ca) (EC ad ca) NCC ad o) D vwCl (EC ad ca) NCC ad ah 25 [(0, .ref (ad 88)), (1, .int v1), (2, .int v2), (3, .int v3), (4, .int v4)] [] := by
  intro n
  induction n with
  | zero => intro ah v1 v2 v3 v4 h; unfold F_X10_spell_25 at h; cases h
  | succ n ih =>
    intro ah v1 v2 v3 v4 h
    unfold F_X10_spell_25 at h
    refine x_iload C dX10_spell_25 27 rfl 4 rfl ?_
    refine x_iload_n C dX10_spell_27 28 rfl 2 rfl ?_
    refine x_icmp_gt C dX10_spell_28 31 rfl 78 rfl h (fun h => ?_) (fun h => ?_)
    · refine x_iinc C dX10_spell_78 81 rfl 3 rfl (d := (-1)) rfl (by decide) (fun v3_78 => [(3, .int v3_78), (0, .ref (ad 88)), (1, .int v1), (2, .int v2), (4, .int v4)]) (fun _ => rfl) h (fun v3_78 h => ?_)
      refine x_goto C dX10_spell_81 18 rfl ?_
      exact x_sub [1, 2, 3, 0] rfl (hk18 _ _ _ _ h)
    · refine x_aload_n C dX10_spell_31 32 rfl 0 rfl ?_
      refine x_get C inX10 88 lc88 EC_88 rfl 5 (by decide) dX10_spell_32 35 rfl wmf_X10_15 rfl ?_
      refine x_iload_n C dX10_spell_35 36 rfl 3 rfl ?_
      refine x_bipush C dX10_spell_36 38 rfl 13 rfl ?_
      refine x_imul C dX10_spell_38 39 rfl ?_
      refine x_iload C dX10_spell_39 41 rfl 4 rfl ?_
      refine x_iadd C dX10_spell_41 42 rfl ?_
      refine x_iload_n C dX10_spell_42 43 rfl 3 rfl ?_
      refine x_aload_n C dX10_spell_43 44 rfl 0 rfl ?_
      refine x_get C inX10 88 lc88 EC_88 rfl 0 (by decide) dX10_spell_44 47 rfl wmf_X10_18 rfl ?_
      refine x_get C inX4 57 lc57 EC_57 rfl 4 (by decide) dX10_spell_47 50 rfl wmf_X10_31 rfl ?_
      refine x_icmp_ne C dX10_spell_50 53 rfl 63 rfl h (fun h => ?_) (fun h => ?_)
      · exact b_X10_spell_63 C hk18 (fun _ _ _ _ _ h => ih h) h
      · refine x_iload C dX10_spell_53 55 rfl 4 rfl ?_
        refine x_iload_n C dX10_spell_55 56 rfl 2 rfl ?_
        refine x_icmp_ne C dX10_spell_56 59 rfl 63 rfl h (fun h => ?_) (fun h => ?_)
        · exact b_X10_spell_63 C hk18 (fun _ _ _ _ _ h => ih h) h
        · refine x_iconst C dX10_spell_59 60 rfl 0 rfl ?_
          refine x_goto C dX10_spell_60 71 rfl ?_
          exact b_X10_spell_71 C hk18 (fun _ _ _ _ _ h => ih h) h
theorem b_X10_spell_18 (C : XC p l s m args meth c cX10_spell 5 none RX10 D vwCl (tysC ca) (EC ad ca) NCC ad) {N : Nat} {o : AH} : ∀ (n : Nat) {ah : AH} {v1 : Int32} {v2 : Int32} {v3 : Int32}, F_X10_spell_18 N n ah v1 v2 v3 = some o → XW p l e rm_X10_spell s m args below meth c 5 0 (xQv below args s D vwCl (tysC ca) (EC ad ca) NCC ad o) D vwCl (EC ad ca) NCC ad ah 18 [(0, .ref (ad 88)), (1, .int v1), (2, .int v2), (3, .int v3)] [] := by
  intro n
  induction n with
  | zero => intro ah v1 v2 v3 h; unfold F_X10_spell_18 at h; cases h
  | succ n ih =>
    intro ah v1 v2 v3 h
    unfold F_X10_spell_18 at h
    refine x_iload_n C dX10_spell_18 19 rfl 3 rfl ?_
    refine x_if_lt C dX10_spell_19 22 rfl 84 rfl h (fun h => ?_) (fun h => ?_)
    · refine x_aload_n C dX10_spell_84 85 rfl 0 rfl ?_
      refine x_aload_n C dX10_spell_85 86 rfl 0 rfl ?_
      refine x_get C inX10 88 lc88 EC_88 rfl 5 (by decide) dX10_spell_86 89 rfl wmf_X10_15 rfl ?_
      refine x_iconst C dX10_spell_89 90 rfl 0 rfl ?_
      refine x_ialdK C 90 lc90 EC_90 0 rfl dX10_spell_90 91 rfl (by decide) 0 (by decide) ?_
      refine x_put C inX10 88 lc88 EC_88 rfl 3 (by decide) tyX10_ok nmX10 dX10_spell_91 94 rfl wmf_X10_41 rfl rfl rfl (Nat.le_of_ble_eq_true rfl) EP_88_3 h (fun a91 h => ?_)
      refine x_aload_n C dX10_spell_94 95 rfl 0 rfl ?_
      refine x_iload_n C dX10_spell_95 96 rfl 1 rfl ?_
      obtain ⟨a96, hq, h⟩ := xbv_some h
      refine x_callVv C 88 (c_X10_follow C.2.2.2.2.2.2.1 hq) lc88 EC_88 rfl wml_X10_44 wq_X10_follow rfl ⟨by decide, by decide⟩ rfl rfl ⟨by decide, by decide⟩ dX10_spell_96 99 rfl rfl (Nat.le_of_ble_eq_true rfl) ?_
      exact x_vret C rfl dX10_spell_99 h
    · refine x_iconst C dX10_spell_22 23 rfl 0 rfl ?_
      refine x_istore C dX10_spell_23 25 rfl (by decide) (fun v4_23 => [(4, .int v4_23), (0, .ref (ad 88)), (1, .int v1), (2, .int v2), (3, .int v3)]) (fun _ => rfl) h (fun v4_23 h => ?_)
      exact x_sub [1, 2, 3, 4, 0] rfl (b_X10_spell_25 C (fun _ _ _ _ h => ih h) N h)
theorem c_X10_spell {l : Launch} {D : va_G} {ca : Nat → ClassId} {ad : Nat → Nat} (hI : xInj ad NCC) {N : Nat} {ah : AH} {p1 : Int32} {a : AH} (h : F_X10_spell N ah p1 = some a) : xMv l yX10_spell cX10_spell 5 rm_X10_spell D vwCl (tysC ca) (EC ad ca) NCC ad [.ref (ad 88), .int p1] ah a := by
  refine x_metv (by decide) (Nat.le_of_ble_eq_true rfl) hI EC_loc ?_
  intro p e s m args below meth c C
  unfold F_X10_spell at h
  refine x_aload_n C dX10_spell_0 1 rfl 0 rfl ?_
  refine x_get C inX10 88 lc88 EC_88 rfl 1 (by decide) dX10_spell_1 4 rfl wmf_X10_22 rfl ?_
  refine x_get C inX2 4 lc4 EC_4 rfl 1 (by decide) dX10_spell_4 7 rfl wmf_X10_26 rfl ?_
  refine x_iload_n C dX10_spell_7 8 rfl 1 rfl ?_
  refine x_iald C 5 lc5 EC_5 0 rfl dX10_spell_8 9 rfl h (fun h => ?_)
  refine x_istore_n C dX10_spell_9 10 rfl (by decide) (fun v2_9 => [(2, .int v2_9), (0, .ref (ad 88)), (1, .int p1)]) (fun _ => rfl) h (fun v2_9 h => ?_)
  refine x_aload_n C dX10_spell_10 11 rfl 1 rfl ?_
  refine x_get C inX10 88 lc88 EC_88 rfl 0 (by decide) dX10_spell_11 14 rfl wmf_X10_18 rfl ?_
  refine x_get C inX4 57 lc57 EC_57 rfl 4 (by decide) dX10_spell_14 17 rfl wmf_X10_31 rfl ?_
  refine x_istore_n C dX10_spell_17 18 rfl (by decide) (fun v3_17 => [(3, .int v3_17), (2, .int v2_9), (0, .ref (ad 88)), (1, .int p1)]) (fun _ => rfl) h (fun v3_17 h => ?_)
  exact x_sub [2, 3, 1, 0] rfl (b_X10_spell_18 C  N h)
abbrev rm_X11_findWay : Room := { frames := 5, cells := 0, slots := 0, locals := 124 }
theorem wq_X11_findWay : xcV RX11 yX11_findWay cX11_findWay 3 (some .boolean) 1 := ⟨wmi_X11_findWay, wms_X11_findWay, wmn_X11, wmc_X11_findWay, by decide, by decide, by decide +kernel⟩
def F_X11_findWay (N : Nat) (ah : AH) (p1 : Int32) : Option (Int32 × AH) := xbv (F_X0_lookAlone N ah p1) (fun a5 => xb (F_X0_mendedWord N a5 p1) (fun r13 a13 => xlet r13 (fun v2_16 => if v2_16 = ((-1)) then some (0, a13) else xg p1 41 (xb (F_X5_cellsOf N 31 a13 p1) (fun r42 a42 => xbv (F_X4_ofCells N a42 (a13 32 (Int32.toNatClampNeg p1)) r42) (fun a45 => xbv (F_X10_spell N a45 v2_16) (fun a53 => some (1, a53))))))))
theorem c_X11_findWay {l : Launch} {D : va_G} {ca : Nat → ClassId} {ad : Nat → Nat} (hI : xInj ad NCC) {N : Nat} {ah : AH} {p1 : Int32} {r : Int32} {a : AH} (h : F_X11_findWay N ah p1 = some (r, a)) : xMi l yX11_findWay cX11_findWay 3 (some .boolean) rm_X11_findWay D vwCl (tysC ca) (EC ad ca) NCC ad [.ref (ad 0), .int p1] ah (r, a) := by
  refine x_meti (by decide) (Nat.le_of_ble_eq_true rfl) hI EC_loc ?_
  intro p e s m args below meth c C
  unfold F_X11_findWay at h
  refine x_aload_n C dX11_findWay_0 1 rfl 0 rfl ?_
  refine x_get C inX11 0 lc0 EC_0 rfl 10 (by decide) dX11_findWay_1 4 rfl wmf_X11_86 rfl ?_
  refine x_iload_n C dX11_findWay_4 5 rfl 1 rfl ?_
  obtain ⟨a5, hq, h⟩ := xbv_some h
  refine x_callVv C 74 (c_X0_lookAlone C.2.2.2.2.2.2.1 hq) lc74 EC_74 rfl wml_X11_175 wq_X0_lookAlone rfl ⟨by decide, by decide⟩ rfl rfl ⟨by decide, by decide⟩ dX11_findWay_5 8 rfl rfl (Nat.le_of_ble_eq_true rfl) ?_
  refine x_aload_n C dX11_findWay_8 9 rfl 0 rfl ?_
  refine x_get C inX11 0 lc0 EC_0 rfl 10 (by decide) dX11_findWay_9 12 rfl wmf_X11_86 rfl ?_
  refine x_iload_n C dX11_findWay_12 13 rfl 1 rfl ?_
  obtain ⟨r13, a13, hq, h⟩ := xb_some h
  refine x_callVi C 74 (c_X0_mendedWord C.2.2.2.2.2.2.1 hq) lc74 EC_74 rfl wml_X11_178 wq_X0_mendedWord rfl ⟨by decide, by decide⟩ rfl rfl ⟨by decide, by decide⟩ dX11_findWay_13 16 rfl rfl (Nat.le_of_ble_eq_true rfl) ?_
  refine x_istore_n C dX11_findWay_16 17 rfl (by decide) (fun v2_16 => [(2, .int v2_16), (0, .ref (ad 0)), (1, .int p1)]) (fun _ => rfl) h (fun v2_16 h => ?_)
  refine x_iload_n C dX11_findWay_17 18 rfl 0 rfl ?_
  refine x_iconst C dX11_findWay_18 19 rfl (-1) rfl ?_
  refine x_icmp_ne C dX11_findWay_19 22 rfl 24 rfl h (fun h => ?_) (fun h => ?_)
  · refine x_aload_n C dX11_findWay_24 25 rfl 1 rfl ?_
    refine x_get C inX11 0 lc0 EC_0 rfl 9 (by decide) dX11_findWay_25 28 rfl wmf_X11_72 rfl ?_
    refine x_aload_n C dX11_findWay_28 29 rfl 1 rfl ?_
    refine x_get C inX11 0 lc0 EC_0 rfl 4 (by decide) dX11_findWay_29 32 rfl wmf_X11_36 rfl ?_
    refine x_get C inX5 31 lc31 EC_31 rfl 3 (by decide) dX11_findWay_32 35 rfl wmf_X11_258 rfl ?_
    refine x_iload_n C dX11_findWay_35 36 rfl 2 rfl ?_
    refine x_iald C 32 lc32 EC_32 0 rfl dX11_findWay_36 37 rfl h (fun h => ?_)
    refine x_aload_n C dX11_findWay_37 38 rfl 1 rfl ?_
    refine x_get C inX11 0 lc0 EC_0 rfl 4 (by decide) dX11_findWay_38 41 rfl wmf_X11_36 rfl ?_
    refine x_iload_n C dX11_findWay_41 42 rfl 2 rfl ?_
    obtain ⟨r42, a42, hq, h⟩ := xb_some h
    refine x_callVi C 31 (c_X5_cellsOf_reading C.2.2.2.2.2.2.1 hq) lc31 EC_31 rfl wml_X11_249 wq_X5_cellsOf rfl ⟨by decide, by decide⟩ rfl rfl ⟨by decide, by decide⟩ dX11_findWay_42 45 rfl rfl (Nat.le_of_ble_eq_true rfl) ?_
    obtain ⟨a45, hq, h⟩ := xbv_some h
    refine x_callVv C 57 (c_X4_ofCells C.2.2.2.2.2.2.1 hq) lc57 EC_57 rfl wml_X11_261 wq_X4_ofCells rfl ⟨by decide, by decide⟩ rfl rfl ⟨by decide, by decide⟩ dX11_findWay_45 48 rfl rfl (Nat.le_of_ble_eq_true rfl) ?_
    refine x_aload_n C dX11_findWay_48 49 rfl 1 rfl ?_
    refine x_get C inX11 0 lc0 EC_0 rfl 13 (by decide) dX11_findWay_49 52 rfl wmf_X11_113 rfl ?_
    refine x_iload_n C dX11_findWay_52 53 rfl 0 rfl ?_
    obtain ⟨a53, hq, h⟩ := xbv_some h
    refine x_callVv C 88 (c_X10_spell C.2.2.2.2.2.2.1 hq) lc88 EC_88 rfl wml_X11_391 wq_X10_spell rfl ⟨by decide, by decide⟩ rfl rfl ⟨by decide, by decide⟩ dX11_findWay_53 56 rfl rfl (Nat.le_of_ble_eq_true rfl) ?_
    refine x_iconst C dX11_findWay_56 57 rfl 1 rfl ?_
    exact x_zret C rfl dX11_findWay_57 (by decide) h
  · refine x_iconst C dX11_findWay_22 23 rfl 0 rfl ?_
    exact x_zret C rfl dX11_findWay_23 (by decide) h
abbrev rm_X4_ofWord : Room := { frames := 3, cells := 0, slots := 0, locals := 71 }
theorem wq_X4_ofWord : xcV RX4 yX4_ofWord cX4_ofWord 3 none 1 := ⟨wmi_X4_ofWord, wms_X4_ofWord, wmn_X4, wmc_X4_ofWord, by decide, by decide, by decide +kernel⟩
def F_X4_ofWord_46 (N : Nat) : Nat → AH → Int32 → Option AH
  | 0, _, _ => none
  | n + 1, ah, v2 => if (ah 57 4) ≤ v2 then xbv (F_X4_end N ah) (fun a81 => some a81) else xg v2 26 (xlet (xu ah 59 (Int32.toNatClampNeg v2) (ah 57 5)) (fun a63 => xbv (F_X4_addRead N a63 v2) (fun a66 => xbv (F_X4_addShapes N a66 v2) (fun a71 => xlet (v2 + 1) (fun v2_74 => F_X4_ofWord_46 N n a71 v2_74)))))
def F_X4_ofWord_15 (N : Nat) : Nat → AH → Int32 → Int32 → Option AH
  | 0, _, _, _ => none
  | n + 1, ah, v1, v2 => if (ah 57 4) ≤ v2 then xlet 0 (fun v2_45 => F_X4_ofWord_46 N N ah v2_45) else xb (F_X2_signOf N ah v1 v2) (fun r34 a34 => xg v2 24 (xlet (xu a34 58 (Int32.toNatClampNeg v2) r34) (fun a37 => xlet (v2 + 1) (fun v2_38 => F_X4_ofWord_15 N n a37 v1 v2_38))))
def F_X4_ofWord (N : Nat) (ah : AH) (p1 : Int32) : Option AH := xg p1 60 (xbv (F_X4_begin N ah (ah 5 (Int32.toNatClampNeg p1))) (fun a10 => xlet 0 (fun v2_14 => F_X4_ofWord_15 N N a10 p1 v2_14)))
theorem b_X4_ofWord_46 (C : XC p l s m args meth c cX4_ofWord 3 none RX4 D vwCl (tysC ca) (EC ad ca) NCC ad) {N : Nat} {o : AH} : ∀ (n : Nat) {ah : AH} {v2 : Int32}, F_X4_ofWord_46 N n ah v2 = some o → XW p l e rm_X4_ofWord s m args below meth c 3 0 (xQv below args s D vwCl (tysC ca) (EC ad ca) NCC ad o) D vwCl (EC ad ca) NCC ad ah 46 [(0, .ref (ad 57)), (2, .int v2)] [] := by
  intro n
  induction n with
  | zero => intro ah v2 h; unfold F_X4_ofWord_46 at h; cases h
  | succ n ih =>
    intro ah v2 h
    unfold F_X4_ofWord_46 at h
    refine x_iload_n C dX4_ofWord_46 47 rfl 1 rfl ?_
    refine x_aload_n C dX4_ofWord_47 48 rfl 0 rfl ?_
    refine x_get C inX4 57 lc57 EC_57 rfl 4 (by decide) dX4_ofWord_48 51 rfl wmf_X4_58 rfl ?_
    refine x_icmp_ge C dX4_ofWord_51 54 rfl 80 rfl h (fun h => ?_) (fun h => ?_)
    · refine x_aload_n C dX4_ofWord_80 81 rfl 0 rfl ?_
      obtain ⟨a81, hq, h⟩ := xbv_some h
      refine x_callVv C 57 (c_X4_end C.2.2.2.2.2.2.1 hq) lc57 EC_57 rfl wml_X4_78 wq_X4_end rfl ⟨by decide, by decide⟩ rfl rfl ⟨by decide, by decide⟩ dX4_ofWord_81 84 rfl rfl (Nat.le_of_ble_eq_true rfl) ?_
      exact x_vret C rfl dX4_ofWord_84 h
    · refine x_aload_n C dX4_ofWord_54 55 rfl 0 rfl ?_
      refine x_get C inX4 57 lc57 EC_57 rfl 7 (by decide) dX4_ofWord_55 58 rfl wmf_X4_15 rfl ?_
      refine x_iload_n C dX4_ofWord_58 59 rfl 1 rfl ?_
      refine x_aload_n C dX4_ofWord_59 60 rfl 0 rfl ?_
      refine x_get C inX4 57 lc57 EC_57 rfl 5 (by decide) dX4_ofWord_60 63 rfl wmf_X4_65 rfl ?_
      refine x_iast C 59 lc59 (fun _ => EC_59) 0 rfl dX4_ofWord_63 64 rfl h (fun a63 h => ?_)
      refine x_aload_n C dX4_ofWord_64 65 rfl 0 rfl ?_
      refine x_iload_n C dX4_ofWord_65 66 rfl 1 rfl ?_
      obtain ⟨a66, hq, h⟩ := xbv_some h
      refine x_callVv C 57 (c_X4_addRead C.2.2.2.2.2.2.1 hq) lc57 EC_57 rfl wml_X4_68 wq_X4_addRead rfl ⟨by decide, by decide⟩ rfl rfl ⟨by decide, by decide⟩ dX4_ofWord_66 69 rfl rfl (Nat.le_of_ble_eq_true rfl) ?_
      refine x_aload_n C dX4_ofWord_69 70 rfl 0 rfl ?_
      refine x_iload_n C dX4_ofWord_70 71 rfl 1 rfl ?_
      obtain ⟨a71, hq, h⟩ := xbv_some h
      refine x_callVv C 57 (c_X4_addShapes C.2.2.2.2.2.2.1 hq) lc57 EC_57 rfl wml_X4_75 wq_X4_addShapes rfl ⟨by decide, by decide⟩ rfl rfl ⟨by decide, by decide⟩ dX4_ofWord_71 74 rfl rfl (Nat.le_of_ble_eq_true rfl) ?_
      refine x_iinc C dX4_ofWord_74 77 rfl 1 rfl (d := 1) rfl (by decide) (fun v2_74 => [(2, .int v2_74), (0, .ref (ad 57))]) (fun _ => rfl) h (fun v2_74 h => ?_)
      refine x_goto C dX4_ofWord_77 46 rfl ?_
      exact x_sub [1, 0] rfl (ih h)
theorem b_X4_ofWord_15 (C : XC p l s m args meth c cX4_ofWord 3 none RX4 D vwCl (tysC ca) (EC ad ca) NCC ad) {N : Nat} {o : AH} : ∀ (n : Nat) {ah : AH} {v1 : Int32} {v2 : Int32}, F_X4_ofWord_15 N n ah v1 v2 = some o → XW p l e rm_X4_ofWord s m args below meth c 3 0 (xQv below args s D vwCl (tysC ca) (EC ad ca) NCC ad o) D vwCl (EC ad ca) NCC ad ah 15 [(0, .ref (ad 57)), (1, .int v1), (2, .int v2)] [] := by
  intro n
  induction n with
  | zero => intro ah v1 v2 h; unfold F_X4_ofWord_15 at h; cases h
  | succ n ih =>
    intro ah v1 v2 h
    unfold F_X4_ofWord_15 at h
    refine x_iload_n C dX4_ofWord_15 16 rfl 2 rfl ?_
    refine x_aload_n C dX4_ofWord_16 17 rfl 0 rfl ?_
    refine x_get C inX4 57 lc57 EC_57 rfl 4 (by decide) dX4_ofWord_17 20 rfl wmf_X4_58 rfl ?_
    refine x_icmp_ge C dX4_ofWord_20 23 rfl 44 rfl h (fun h => ?_) (fun h => ?_)
    · refine x_iconst C dX4_ofWord_44 45 rfl 0 rfl ?_
      refine x_istore_n C dX4_ofWord_45 46 rfl (by decide) (fun v2_45 => [(2, .int v2_45), (0, .ref (ad 57)), (1, .int v1)]) (fun _ => rfl) h (fun v2_45 h => ?_)
      exact x_sub [1, 0] rfl (b_X4_ofWord_46 C  N h)
    · refine x_aload_n C dX4_ofWord_23 24 rfl 0 rfl ?_
      refine x_get C inX4 57 lc57 EC_57 rfl 6 (by decide) dX4_ofWord_24 27 rfl wmf_X4_9 rfl ?_
      refine x_iload_n C dX4_ofWord_27 28 rfl 2 rfl ?_
      refine x_aload_n C dX4_ofWord_28 29 rfl 0 rfl ?_
      refine x_get C inX4 57 lc57 EC_57 rfl 0 (by decide) dX4_ofWord_29 32 rfl wmf_X4_39 rfl ?_
      refine x_iload_n C dX4_ofWord_32 33 rfl 1 rfl ?_
      refine x_iload_n C dX4_ofWord_33 34 rfl 2 rfl ?_
      obtain ⟨r34, a34, hq, h⟩ := xb_some h
      refine x_callVi C 4 (c_X2_signOf C.2.2.2.2.2.2.1 hq) lc4 EC_4 rfl wml_X4_86 wq_X2_signOf rfl ⟨by decide, by decide⟩ rfl rfl ⟨by decide, by decide⟩ dX4_ofWord_34 37 rfl rfl (Nat.le_of_ble_eq_true rfl) ?_
      refine x_iast C 58 lc58 (fun _ => EC_58) 0 rfl dX4_ofWord_37 38 rfl h (fun a37 h => ?_)
      refine x_iinc C dX4_ofWord_38 41 rfl 2 rfl (d := 1) rfl (by decide) (fun v2_38 => [(2, .int v2_38), (0, .ref (ad 57)), (1, .int v1)]) (fun _ => rfl) h (fun v2_38 h => ?_)
      refine x_goto C dX4_ofWord_41 15 rfl ?_
      exact x_sub [1, 2, 0] rfl (ih h)
theorem c_X4_ofWord {l : Launch} {D : va_G} {ca : Nat → ClassId} {ad : Nat → Nat} (hI : xInj ad NCC) {N : Nat} {ah : AH} {p1 : Int32} {a : AH} (h : F_X4_ofWord N ah p1 = some a) : xMv l yX4_ofWord cX4_ofWord 3 rm_X4_ofWord D vwCl (tysC ca) (EC ad ca) NCC ad [.ref (ad 57), .int p1] ah a := by
  refine x_metv (by decide) (Nat.le_of_ble_eq_true rfl) hI EC_loc ?_
  intro p e s m args below meth c C
  unfold F_X4_ofWord at h
  refine x_aload_n C dX4_ofWord_0 1 rfl 0 rfl ?_
  refine x_aload_n C dX4_ofWord_1 2 rfl 0 rfl ?_
  refine x_get C inX4 57 lc57 EC_57 rfl 0 (by decide) dX4_ofWord_2 5 rfl wmf_X4_39 rfl ?_
  refine x_get C inX2 4 lc4 EC_4 rfl 1 (by decide) dX4_ofWord_5 8 rfl wmf_X4_81 rfl ?_
  refine x_iload_n C dX4_ofWord_8 9 rfl 1 rfl ?_
  refine x_iald C 5 lc5 EC_5 0 rfl dX4_ofWord_9 10 rfl h (fun h => ?_)
  obtain ⟨a10, hq, h⟩ := xbv_some h
  refine x_callVv C 57 (c_X4_begin C.2.2.2.2.2.2.1 hq) lc57 EC_57 rfl wml_X4_54 wq_X4_begin rfl ⟨by decide, by decide⟩ rfl rfl ⟨by decide, by decide⟩ dX4_ofWord_10 13 rfl rfl (Nat.le_of_ble_eq_true rfl) ?_
  refine x_iconst C dX4_ofWord_13 14 rfl 0 rfl ?_
  refine x_istore_n C dX4_ofWord_14 15 rfl (by decide) (fun v2_14 => [(2, .int v2_14), (0, .ref (ad 57)), (1, .int p1)]) (fun _ => rfl) h (fun v2_14 h => ?_)
  exact x_sub [1, 2, 0] rfl (b_X4_ofWord_15 C  N h)
abbrev rm_X0_lookSurely : Room := { frames := 4, cells := 0, slots := 0, locals := 103 }
theorem wq_X0_lookSurely : xcV RX0 yX0_lookSurely cX0_lookSurely 2 none 1 := ⟨wmi_X0_lookSurely, wms_X0_lookSurely, wmn_X0, wmc_X0_lookSurely, by decide, by decide, by decide +kernel⟩
def F_X0_lookSurely (N : Nat) (ah : AH) (p1 : Int32) : Option AH := xg (80 + p1) 140 (if (ah 75 (Int32.toNatClampNeg (80 + p1))) = 0 then xbv (F_X4_ofWord N ah p1) (fun a20 => xbv (F_X6_run N a20 60) (fun a29 => xbv (F_X0_keep N a29 (80 + p1)) (fun a37 => some a37))) else some ah)
theorem c_X0_lookSurely {l : Launch} {D : va_G} {ca : Nat → ClassId} {ad : Nat → Nat} (hI : xInj ad NCC) {N : Nat} {ah : AH} {p1 : Int32} {a : AH} (h : F_X0_lookSurely N ah p1 = some a) : xMv l yX0_lookSurely cX0_lookSurely 2 rm_X0_lookSurely D vwCl (tysC ca) (EC ad ca) NCC ad [.ref (ad 74), .int p1] ah a := by
  refine x_metv (by decide) (Nat.le_of_ble_eq_true rfl) hI EC_loc ?_
  intro p e s m args below meth c C
  unfold F_X0_lookSurely at h
  refine x_aload_n C dX0_lookSurely_0 1 rfl 0 rfl ?_
  refine x_get C inX0 74 lc74 EC_74 rfl 3 (by decide) dX0_lookSurely_1 4 rfl wmf_X0_11 rfl ?_
  refine x_bipush C dX0_lookSurely_4 6 rfl 80 rfl ?_
  refine x_iload_n C dX0_lookSurely_6 7 rfl 1 rfl ?_
  refine x_iadd C dX0_lookSurely_7 8 rfl ?_
  refine x_zald C 75 lc75 EC_75 1 rfl dX0_lookSurely_8 9 rfl h (fun h => ?_)
  refine x_if_ne C dX0_lookSurely_9 12 rfl 40 rfl h (fun h => ?_) (fun h => ?_)
  · exact x_vret C rfl dX0_lookSurely_40 h
  · refine x_aload_n C dX0_lookSurely_12 13 rfl 0 rfl ?_
    refine x_get C inX0 74 lc74 EC_74 rfl 0 (by decide) dX0_lookSurely_13 16 rfl wmf_X0_28 rfl ?_
    refine x_get C inX6 67 lc67 EC_67 rfl 1 (by decide) dX0_lookSurely_16 19 rfl wmf_X0_39 rfl ?_
    refine x_iload_n C dX0_lookSurely_19 20 rfl 1 rfl ?_
    obtain ⟨a20, hq, h⟩ := xbv_some h
    refine x_callVv C 57 (c_X4_ofWord C.2.2.2.2.2.2.1 hq) lc57 EC_57 rfl wml_X0_67 wq_X4_ofWord rfl ⟨by decide, by decide⟩ rfl rfl ⟨by decide, by decide⟩ dX0_lookSurely_20 23 rfl rfl (Nat.le_of_ble_eq_true rfl) ?_
    refine x_aload_n C dX0_lookSurely_23 24 rfl 0 rfl ?_
    refine x_get C inX0 74 lc74 EC_74 rfl 0 (by decide) dX0_lookSurely_24 27 rfl wmf_X0_28 rfl ?_
    refine x_bipush C dX0_lookSurely_27 29 rfl 60 rfl ?_
    obtain ⟨a29, hq, h⟩ := xbv_some h
    refine x_callVv C 67 (c_X6_run C.2.2.2.2.2.2.1 hq) lc67 EC_67 rfl wml_X0_60 wq_X6_run rfl ⟨by decide, by decide⟩ rfl rfl ⟨by decide, by decide⟩ dX0_lookSurely_29 32 rfl rfl (Nat.le_of_ble_eq_true rfl) ?_
    refine x_aload_n C dX0_lookSurely_32 33 rfl 0 rfl ?_
    refine x_bipush C dX0_lookSurely_33 35 rfl 80 rfl ?_
    refine x_iload_n C dX0_lookSurely_35 36 rfl 1 rfl ?_
    refine x_iadd C dX0_lookSurely_36 37 rfl ?_
    obtain ⟨a37, hq, h⟩ := xbv_some h
    refine x_callVv C 74 (c_X0_keep C.2.2.2.2.2.2.1 hq) lc74 EC_74 rfl wml_X0_64 wq_X0_keep rfl ⟨by decide, by decide⟩ rfl rfl ⟨by decide, by decide⟩ dX0_lookSurely_37 40 rfl rfl (Nat.le_of_ble_eq_true rfl) ?_
    exact x_vret C rfl dX0_lookSurely_40 h
abbrev rm_X0_priceFor : Room := { frames := 0, cells := 0, slots := 0, locals := 0 }
theorem wq_X0_priceFor : xcV RX0 yX0_priceFor cX0_priceFor 4 (some .int) 2 := ⟨wmi_X0_priceFor, wms_X0_priceFor, wmn_X0, wmc_X0_priceFor, by decide, by decide, by decide +kernel⟩
def F_X0_priceFor_2 (N : Nat) : Nat → AH → Int32 → Int32 → Int32 → Option (Int32 × AH)
  | 0, _, _, _, _ => none
  | n + 1, ah, v1, v2, v3 => xg v1 140 (if (ah 76 (Int32.toNatClampNeg v1)) ≤ v3 then some ((-1), ah) else xg ((v1 * 60) + v3) 8400 (if (ah 77 (Int32.toNatClampNeg ((v1 * 60) + v3))) = v2 then xg ((v1 * 60) + v3) 8400 (some (ah 78 (Int32.toNatClampNeg ((v1 * 60) + v3)), ah)) else xlet (v3 + 1) (fun v3_39 => F_X0_priceFor_2 N n ah v1 v2 v3_39)))
def F_X0_priceFor (N : Nat) (ah : AH) (p1 : Int32) (p2 : Int32) : Option (Int32 × AH) := xlet 0 (fun v3_1 => F_X0_priceFor_2 N N ah p1 p2 v3_1)
theorem b_X0_priceFor_2 (C : XC p l s m args meth c cX0_priceFor 4 (some .int) RX0 D vwCl (tysC ca) (EC ad ca) NCC ad) {N : Nat} {o : (Int32 × AH)} : ∀ (n : Nat) {ah : AH} {v1 : Int32} {v2 : Int32} {v3 : Int32}, F_X0_priceFor_2 N n ah v1 v2 v3 = some o → XW p l e rm_X0_priceFor s m args below meth c 4 0 (xQi below args s D vwCl (tysC ca) (EC ad ca) NCC ad o) D vwCl (EC ad ca) NCC ad ah 2 [(0, .ref (ad 74)), (1, .int v1), (2, .int v2), (3, .int v3)] [] := by
  intro n
  induction n with
  | zero => intro ah v1 v2 v3 h; unfold F_X0_priceFor_2 at h; cases h
  | succ n ih =>
    intro ah v1 v2 v3 h
    unfold F_X0_priceFor_2 at h
    refine x_iload_n C dX0_priceFor_2 3 rfl 3 rfl ?_
    refine x_aload_n C dX0_priceFor_3 4 rfl 0 rfl ?_
    refine x_get C inX0 74 lc74 EC_74 rfl 4 (by decide) dX0_priceFor_4 7 rfl wmf_X0_15 rfl ?_
    refine x_iload_n C dX0_priceFor_7 8 rfl 1 rfl ?_
    refine x_iald C 76 lc76 EC_76 0 rfl dX0_priceFor_8 9 rfl h (fun h => ?_)
    refine x_icmp_ge C dX0_priceFor_9 12 rfl 45 rfl h (fun h => ?_) (fun h => ?_)
    · refine x_iconst C dX0_priceFor_45 46 rfl (-1) rfl ?_
      exact x_iret C rfl dX0_priceFor_46 h
    · refine x_aload_n C dX0_priceFor_12 13 rfl 0 rfl ?_
      refine x_get C inX0 74 lc74 EC_74 rfl 5 (by decide) dX0_priceFor_13 16 rfl wmf_X0_19 rfl ?_
      refine x_iload_n C dX0_priceFor_16 17 rfl 1 rfl ?_
      refine x_bipush C dX0_priceFor_17 19 rfl 60 rfl ?_
      refine x_imul C dX0_priceFor_19 20 rfl ?_
      refine x_iload_n C dX0_priceFor_20 21 rfl 3 rfl ?_
      refine x_iadd C dX0_priceFor_21 22 rfl ?_
      refine x_iald C 77 lc77 EC_77 0 rfl dX0_priceFor_22 23 rfl h (fun h => ?_)
      refine x_iload_n C dX0_priceFor_23 24 rfl 2 rfl ?_
      refine x_icmp_ne C dX0_priceFor_24 27 rfl 39 rfl h (fun h => ?_) (fun h => ?_)
      · refine x_iinc C dX0_priceFor_39 42 rfl 3 rfl (d := 1) rfl (by decide) (fun v3_39 => [(3, .int v3_39), (0, .ref (ad 74)), (1, .int v1), (2, .int v2)]) (fun _ => rfl) h (fun v3_39 h => ?_)
        refine x_goto C dX0_priceFor_42 2 rfl ?_
        exact x_sub [1, 2, 3, 0] rfl (ih h)
      · refine x_aload_n C dX0_priceFor_27 28 rfl 0 rfl ?_
        refine x_get C inX0 74 lc74 EC_74 rfl 6 (by decide) dX0_priceFor_28 31 rfl wmf_X0_22 rfl ?_
        refine x_iload_n C dX0_priceFor_31 32 rfl 1 rfl ?_
        refine x_bipush C dX0_priceFor_32 34 rfl 60 rfl ?_
        refine x_imul C dX0_priceFor_34 35 rfl ?_
        refine x_iload_n C dX0_priceFor_35 36 rfl 3 rfl ?_
        refine x_iadd C dX0_priceFor_36 37 rfl ?_
        refine x_iald C 78 lc78 EC_78 0 rfl dX0_priceFor_37 38 rfl h (fun h => ?_)
        exact x_iret C rfl dX0_priceFor_38 h
theorem c_X0_priceFor {l : Launch} {D : va_G} {ca : Nat → ClassId} {ad : Nat → Nat} (hI : xInj ad NCC) {N : Nat} {ah : AH} {p1 : Int32} {p2 : Int32} {r : Int32} {a : AH} (h : F_X0_priceFor N ah p1 p2 = some (r, a)) : xMi l yX0_priceFor cX0_priceFor 4 (some .int) rm_X0_priceFor D vwCl (tysC ca) (EC ad ca) NCC ad [.ref (ad 74), .int p1, .int p2] ah (r, a) := by
  refine x_meti (by decide) (Nat.le_of_ble_eq_true rfl) hI EC_loc ?_
  intro p e s m args below meth c C
  unfold F_X0_priceFor at h
  refine x_iconst C dX0_priceFor_0 1 rfl 0 rfl ?_
  refine x_istore_n C dX0_priceFor_1 2 rfl (by decide) (fun v3_1 => [(3, .int v3_1), (0, .ref (ad 74)), (1, .int p1), (2, .int p2)]) (fun _ => rfl) h (fun v3_1 h => ?_)
  exact x_sub [1, 2, 3, 0] rfl (b_X0_priceFor_2 C  N h)
abbrev rm_X11_costBetween : Room := { frames := 5, cells := 0, slots := 0, locals := 124 }
theorem wq_X11_costBetween : xcV RX11 yX11_costBetween cX11_costBetween 4 (some .int) 2 := ⟨wmi_X11_costBetween, wms_X11_costBetween, wmn_X11, wmc_X11_costBetween, by decide, by decide, by decide +kernel⟩
def F_X11_costBetween (N : Nat) (ah : AH) (p1 : Int32) (p2 : Int32) : Option (Int32 × AH) := xbv (F_X0_lookSurely N ah p1) (fun a5 => xb (F_X0_priceFor N a5 (80 + p1) p2) (fun r17 a17 => xlet r17 (fun v3_20 => if v3_20 = ((-1)) then some ((-1), a17) else xg p2 60 (some (v3_20 - (a17 6 (Int32.toNatClampNeg p2)), a17)))))
theorem c_X11_costBetween {l : Launch} {D : va_G} {ca : Nat → ClassId} {ad : Nat → Nat} (hI : xInj ad NCC) {N : Nat} {ah : AH} {p1 : Int32} {p2 : Int32} {r : Int32} {a : AH} (h : F_X11_costBetween N ah p1 p2 = some (r, a)) : xMi l yX11_costBetween cX11_costBetween 4 (some .int) rm_X11_costBetween D vwCl (tysC ca) (EC ad ca) NCC ad [.ref (ad 0), .int p1, .int p2] ah (r, a) := by
  refine x_meti (by decide) (Nat.le_of_ble_eq_true rfl) hI EC_loc ?_
  intro p e s m args below meth c C
  unfold F_X11_costBetween at h
  refine x_aload_n C dX11_costBetween_0 1 rfl 0 rfl ?_
  refine x_get C inX11 0 lc0 EC_0 rfl 10 (by decide) dX11_costBetween_1 4 rfl wmf_X11_86 rfl ?_
  refine x_iload_n C dX11_costBetween_4 5 rfl 1 rfl ?_
  obtain ⟨a5, hq, h⟩ := xbv_some h
  refine x_callVv C 74 (c_X0_lookSurely C.2.2.2.2.2.2.1 hq) lc74 EC_74 rfl wml_X11_394 wq_X0_lookSurely rfl ⟨by decide, by decide⟩ rfl rfl ⟨by decide, by decide⟩ dX11_costBetween_5 8 rfl rfl (Nat.le_of_ble_eq_true rfl) ?_
  refine x_aload_n C dX11_costBetween_8 9 rfl 0 rfl ?_
  refine x_get C inX11 0 lc0 EC_0 rfl 10 (by decide) dX11_costBetween_9 12 rfl wmf_X11_86 rfl ?_
  refine x_bipush C dX11_costBetween_12 14 rfl 80 rfl ?_
  refine x_iload_n C dX11_costBetween_14 15 rfl 1 rfl ?_
  refine x_iadd C dX11_costBetween_15 16 rfl ?_
  refine x_iload_n C dX11_costBetween_16 17 rfl 2 rfl ?_
  obtain ⟨r17, a17, hq, h⟩ := xb_some h
  refine x_callVi C 74 (c_X0_priceFor C.2.2.2.2.2.2.1 hq) lc74 EC_74 rfl wml_X11_299 wq_X0_priceFor rfl ⟨by decide, by decide⟩ rfl rfl ⟨by decide, by decide⟩ dX11_costBetween_17 20 rfl rfl (Nat.le_of_ble_eq_true rfl) ?_
  refine x_istore_n C dX11_costBetween_20 21 rfl (by decide) (fun v3_20 => [(3, .int v3_20), (0, .ref (ad 0)), (1, .int p1), (2, .int p2)]) (fun _ => rfl) h (fun v3_20 h => ?_)
  refine x_iload_n C dX11_costBetween_21 22 rfl 0 rfl ?_
  refine x_iconst C dX11_costBetween_22 23 rfl (-1) rfl ?_
  refine x_icmp_ne C dX11_costBetween_23 26 rfl 30 rfl h (fun h => ?_) (fun h => ?_)
  · refine x_iload_n C dX11_costBetween_30 31 rfl 0 rfl ?_
    refine x_aload_n C dX11_costBetween_31 32 rfl 1 rfl ?_
    refine x_get C inX11 0 lc0 EC_0 rfl 1 (by decide) dX11_costBetween_32 35 rfl wmf_X11_19 rfl ?_
    refine x_get C inX2 4 lc4 EC_4 rfl 2 (by decide) dX11_costBetween_35 38 rfl wmf_X11_165 rfl ?_
    refine x_iload_n C dX11_costBetween_38 39 rfl 3 rfl ?_
    refine x_iald C 6 lc6 EC_6 0 rfl dX11_costBetween_39 40 rfl h (fun h => ?_)
    refine x_isub C dX11_costBetween_40 41 rfl ?_
    exact x_iret C rfl dX11_costBetween_41 h
  · refine x_iconst C dX11_costBetween_26 27 rfl (-1) rfl ?_
    refine x_goto C dX11_costBetween_27 41 rfl ?_
    exact x_iret C rfl dX11_costBetween_41 h
abbrev rm_X11_isLetter : Room := { frames := 0, cells := 0, slots := 0, locals := 0 }
theorem wq_X11_isLetter : xcS yX11_isLetter cX11_isLetter 1 (some .boolean) 1 := ⟨wmt_X11_isLetter, wmn_X11, wmc_X11_isLetter, by decide, by decide, by decide +kernel⟩
def F_X11_isLetter (N : Nat) (ah : AH) (p0 : Int32) : Option (Int32 × AH) := if p0 < 97 then some (0, ah) else if 123 ≤ p0 then some (0, ah) else some (1, ah)
theorem c_X11_isLetter {l : Launch} {D : va_G} {ca : Nat → ClassId} {ad : Nat → Nat} (hI : xInj ad NCC) {N : Nat} {ah : AH} {p0 : Int32} {r : Int32} {a : AH} (h : F_X11_isLetter N ah p0 = some (r, a)) : xMi l yX11_isLetter cX11_isLetter 1 (some .boolean) rm_X11_isLetter D vwCl (tysC ca) (EC ad ca) NCC ad [.int p0] ah (r, a) := by
  refine x_meti (by decide) (Nat.le_of_ble_eq_true rfl) hI EC_loc ?_
  intro p e s m args below meth c C
  unfold F_X11_isLetter at h
  refine x_iload_n C dX11_isLetter_0 1 rfl 0 rfl ?_
  refine x_bipush C dX11_isLetter_1 3 rfl 97 rfl ?_
  refine x_icmp_lt C dX11_isLetter_3 6 rfl 16 rfl h (fun h => ?_) (fun h => ?_)
  · refine x_iconst C dX11_isLetter_16 17 rfl 0 rfl ?_
    exact x_zret C rfl dX11_isLetter_17 (by decide) h
  · refine x_iload_n C dX11_isLetter_6 7 rfl 0 rfl ?_
    refine x_bipush C dX11_isLetter_7 9 rfl 123 rfl ?_
    refine x_icmp_ge C dX11_isLetter_9 12 rfl 16 rfl h (fun h => ?_) (fun h => ?_)
    · refine x_iconst C dX11_isLetter_16 17 rfl 0 rfl ?_
      exact x_zret C rfl dX11_isLetter_17 (by decide) h
    · refine x_iconst C dX11_isLetter_12 13 rfl 1 rfl ?_
      refine x_goto C dX11_isLetter_13 17 rfl ?_
      exact x_zret C rfl dX11_isLetter_17 (by decide) h
abbrev rm_X11_isDigit : Room := { frames := 0, cells := 0, slots := 0, locals := 0 }
theorem wq_X11_isDigit : xcS yX11_isDigit cX11_isDigit 1 (some .boolean) 1 := ⟨wmt_X11_isDigit, wmn_X11, wmc_X11_isDigit, by decide, by decide, by decide +kernel⟩
def F_X11_isDigit (N : Nat) (ah : AH) (p0 : Int32) : Option (Int32 × AH) := if p0 < 48 then some (0, ah) else if 57 < p0 then some (0, ah) else some (1, ah)
theorem c_X11_isDigit {l : Launch} {D : va_G} {ca : Nat → ClassId} {ad : Nat → Nat} (hI : xInj ad NCC) {N : Nat} {ah : AH} {p0 : Int32} {r : Int32} {a : AH} (h : F_X11_isDigit N ah p0 = some (r, a)) : xMi l yX11_isDigit cX11_isDigit 1 (some .boolean) rm_X11_isDigit D vwCl (tysC ca) (EC ad ca) NCC ad [.int p0] ah (r, a) := by
  refine x_meti (by decide) (Nat.le_of_ble_eq_true rfl) hI EC_loc ?_
  intro p e s m args below meth c C
  unfold F_X11_isDigit at h
  refine x_iload_n C dX11_isDigit_0 1 rfl 0 rfl ?_
  refine x_bipush C dX11_isDigit_1 3 rfl 48 rfl ?_
  refine x_icmp_lt C dX11_isDigit_3 6 rfl 16 rfl h (fun h => ?_) (fun h => ?_)
  · refine x_iconst C dX11_isDigit_16 17 rfl 0 rfl ?_
    exact x_zret C rfl dX11_isDigit_17 (by decide) h
  · refine x_iload_n C dX11_isDigit_6 7 rfl 0 rfl ?_
    refine x_bipush C dX11_isDigit_7 9 rfl 57 rfl ?_
    refine x_icmp_gt C dX11_isDigit_9 12 rfl 16 rfl h (fun h => ?_) (fun h => ?_)
    · refine x_iconst C dX11_isDigit_16 17 rfl 0 rfl ?_
      exact x_zret C rfl dX11_isDigit_17 (by decide) h
    · refine x_iconst C dX11_isDigit_12 13 rfl 1 rfl ?_
      refine x_goto C dX11_isDigit_13 17 rfl ?_
      exact x_zret C rfl dX11_isDigit_17 (by decide) h
abbrev rm_X0_openedFor : Room := { frames := 0, cells := 0, slots := 0, locals := 0 }
theorem wq_X0_openedFor : xcV RX0 yX0_openedFor cX0_openedFor 3 (some .int) 2 := ⟨wmi_X0_openedFor, wms_X0_openedFor, wmn_X0, wmc_X0_openedFor, by decide, by decide, by decide +kernel⟩
def F_X0_openedFor (N : Nat) (ah : AH) (p1 : Int32) (p2 : Int32) : Option (Int32 × AH) := if p2 < 0 then some ((-1), ah) else xg p1 140 (if (ah 76 (Int32.toNatClampNeg p1)) ≤ p2 then some ((-1), ah) else xg ((p1 * 60) + p2) 8400 (some (ah 79 (Int32.toNatClampNeg ((p1 * 60) + p2)), ah)))
theorem c_X0_openedFor {l : Launch} {D : va_G} {ca : Nat → ClassId} {ad : Nat → Nat} (hI : xInj ad NCC) {N : Nat} {ah : AH} {p1 : Int32} {p2 : Int32} {r : Int32} {a : AH} (h : F_X0_openedFor N ah p1 p2 = some (r, a)) : xMi l yX0_openedFor cX0_openedFor 3 (some .int) rm_X0_openedFor D vwCl (tysC ca) (EC ad ca) NCC ad [.ref (ad 74), .int p1, .int p2] ah (r, a) := by
  refine x_meti (by decide) (Nat.le_of_ble_eq_true rfl) hI EC_loc ?_
  intro p e s m args below meth c C
  unfold F_X0_openedFor at h
  refine x_iload_n C dX0_openedFor_0 1 rfl 2 rfl ?_
  refine x_if_lt C dX0_openedFor_1 4 rfl 28 rfl h (fun h => ?_) (fun h => ?_)
  · refine x_iconst C dX0_openedFor_28 29 rfl (-1) rfl ?_
    exact x_iret C rfl dX0_openedFor_29 h
  · refine x_iload_n C dX0_openedFor_4 5 rfl 2 rfl ?_
    refine x_aload_n C dX0_openedFor_5 6 rfl 0 rfl ?_
    refine x_get C inX0 74 lc74 EC_74 rfl 4 (by decide) dX0_openedFor_6 9 rfl wmf_X0_15 rfl ?_
    refine x_iload_n C dX0_openedFor_9 10 rfl 1 rfl ?_
    refine x_iald C 76 lc76 EC_76 0 rfl dX0_openedFor_10 11 rfl h (fun h => ?_)
    refine x_icmp_ge C dX0_openedFor_11 14 rfl 28 rfl h (fun h => ?_) (fun h => ?_)
    · refine x_iconst C dX0_openedFor_28 29 rfl (-1) rfl ?_
      exact x_iret C rfl dX0_openedFor_29 h
    · refine x_aload_n C dX0_openedFor_14 15 rfl 0 rfl ?_
      refine x_get C inX0 74 lc74 EC_74 rfl 7 (by decide) dX0_openedFor_15 18 rfl wmf_X0_25 rfl ?_
      refine x_iload_n C dX0_openedFor_18 19 rfl 1 rfl ?_
      refine x_bipush C dX0_openedFor_19 21 rfl 60 rfl ?_
      refine x_imul C dX0_openedFor_21 22 rfl ?_
      refine x_iload_n C dX0_openedFor_22 23 rfl 2 rfl ?_
      refine x_iadd C dX0_openedFor_23 24 rfl ?_
      refine x_iald C 79 lc79 EC_79 0 rfl dX0_openedFor_24 25 rfl h (fun h => ?_)
      refine x_goto C dX0_openedFor_25 29 rfl ?_
      exact x_iret C rfl dX0_openedFor_29 h
abbrev rm_X0_nextCostsMore : Room := { frames := 4, cells := 0, slots := 0, locals := 85 }
theorem wq_X0_nextCostsMore : xcV RX0 yX0_nextCostsMore cX0_nextCostsMore 4 (some .int) 1 := ⟨wmi_X0_nextCostsMore, wms_X0_nextCostsMore, wmn_X0, wmc_X0_nextCostsMore, by decide, by decide, by decide +kernel⟩
def F_X0_nextCostsMore_61 (N : Nat) (ah : AH) (v1 : Int32) (s0 : Int32) : Option (Int32 × AH) := xlet s0 (fun v3_61 => xb (F_X0_priceOf N ah v1 0) (fun r66 a66 => some (v3_61 - r66, a66)))
def F_X0_nextCostsMore (N : Nat) (ah : AH) (p1 : Int32) : Option (Int32 × AH) := xb (F_X0_outsidePrice N ah p1) (fun r2 a2 => xlet r2 (fun v2_5 => xb (F_X0_mendedWord N a2 p1) (fun r8 a8 => if r8 = ((-1)) then xg p1 140 (if (a8 76 (Int32.toNatClampNeg p1)) = 0 then some ((-1), a8) else xb (F_X0_priceOf N a8 p1 0) (fun r31 a31 => some (r31 - v2_5, a31))) else xg p1 140 (if 2 ≤ (a8 76 (Int32.toNatClampNeg p1)) then xb (F_X0_priceOf N a8 p1 1) (fun r55 a55 => F_X0_nextCostsMore_61 N a55 p1 (xmin v2_5 r55)) else F_X0_nextCostsMore_61 N a8 p1 v2_5))))
theorem b_X0_nextCostsMore_61 (C : XC p l s m args meth c cX0_nextCostsMore 4 (some .int) RX0 D vwCl (tysC ca) (EC ad ca) NCC ad) {N : Nat} {o : (Int32 × AH)} {ah : AH} {v1 : Int32} {s0 : Int32} (h : F_X0_nextCostsMore_61 N ah v1 s0 = some o) : XW p l e rm_X0_nextCostsMore s m args below meth c 4 0 (xQi below args s D vwCl (tysC ca) (EC ad ca) NCC ad o) D vwCl (EC ad ca) NCC ad ah 61 [(0, .ref (ad 74)), (1, .int v1)] [.int s0] := by
  unfold F_X0_nextCostsMore_61 at h
  refine x_istore_n C dX0_nextCostsMore_61 62 rfl (by decide) (fun v3_61 => [(3, .int v3_61), (0, .ref (ad 74)), (1, .int v1)]) (fun _ => rfl) h (fun v3_61 h => ?_)
  refine x_iload_n C dX0_nextCostsMore_62 63 rfl 0 rfl ?_
  refine x_aload_n C dX0_nextCostsMore_63 64 rfl 1 rfl ?_
  refine x_iload_n C dX0_nextCostsMore_64 65 rfl 2 rfl ?_
  refine x_iconst C dX0_nextCostsMore_65 66 rfl 0 rfl ?_
  obtain ⟨r66, a66, hq, h⟩ := xb_some h
  refine x_callVi C 74 (c_X0_priceOf C.2.2.2.2.2.2.1 hq) lc74 EC_74 rfl wml_X0_82 wq_X0_priceOf rfl ⟨by decide, by decide⟩ rfl rfl ⟨by decide, by decide⟩ dX0_nextCostsMore_66 69 rfl rfl (Nat.le_of_ble_eq_true rfl) ?_
  refine x_isub C dX0_nextCostsMore_69 70 rfl ?_
  exact x_iret C rfl dX0_nextCostsMore_70 h
theorem c_X0_nextCostsMore {l : Launch} {D : va_G} {ca : Nat → ClassId} {ad : Nat → Nat} (hI : xInj ad NCC) {N : Nat} {ah : AH} {p1 : Int32} {r : Int32} {a : AH} (h : F_X0_nextCostsMore N ah p1 = some (r, a)) : xMi l yX0_nextCostsMore cX0_nextCostsMore 4 (some .int) rm_X0_nextCostsMore D vwCl (tysC ca) (EC ad ca) NCC ad [.ref (ad 74), .int p1] ah (r, a) := by
  refine x_meti (by decide) (Nat.le_of_ble_eq_true rfl) hI EC_loc ?_
  intro p e s m args below meth c C
  unfold F_X0_nextCostsMore at h
  refine x_aload_n C dX0_nextCostsMore_0 1 rfl 0 rfl ?_
  refine x_iload_n C dX0_nextCostsMore_1 2 rfl 1 rfl ?_
  obtain ⟨r2, a2, hq, h⟩ := xb_some h
  refine x_callVi C 74 (c_X0_outsidePrice C.2.2.2.2.2.2.1 hq) lc74 EC_74 rfl wml_X0_86 wq_X0_outsidePrice rfl ⟨by decide, by decide⟩ rfl rfl ⟨by decide, by decide⟩ dX0_nextCostsMore_2 5 rfl rfl (Nat.le_of_ble_eq_true rfl) ?_
  refine x_istore_n C dX0_nextCostsMore_5 6 rfl (by decide) (fun v2_5 => [(2, .int v2_5), (0, .ref (ad 74)), (1, .int p1)]) (fun _ => rfl) h (fun v2_5 h => ?_)
  refine x_aload_n C dX0_nextCostsMore_6 7 rfl 1 rfl ?_
  refine x_iload_n C dX0_nextCostsMore_7 8 rfl 2 rfl ?_
  obtain ⟨r8, a8, hq, h⟩ := xb_some h
  refine x_callVi C 74 (c_X0_mendedWord C.2.2.2.2.2.2.1 hq) lc74 EC_74 rfl wml_X0_95 wq_X0_mendedWord rfl ⟨by decide, by decide⟩ rfl rfl ⟨by decide, by decide⟩ dX0_nextCostsMore_8 11 rfl rfl (Nat.le_of_ble_eq_true rfl) ?_
  refine x_iconst C dX0_nextCostsMore_11 12 rfl (-1) rfl ?_
  refine x_icmp_ne C dX0_nextCostsMore_12 15 rfl 37 rfl h (fun h => ?_) (fun h => ?_)
  · refine x_aload_n C dX0_nextCostsMore_37 38 rfl 1 rfl ?_
    refine x_get C inX0 74 lc74 EC_74 rfl 4 (by decide) dX0_nextCostsMore_38 41 rfl wmf_X0_15 rfl ?_
    refine x_iload_n C dX0_nextCostsMore_41 42 rfl 2 rfl ?_
    refine x_iald C 76 lc76 EC_76 0 rfl dX0_nextCostsMore_42 43 rfl h (fun h => ?_)
    refine x_iconst C dX0_nextCostsMore_43 44 rfl 2 rfl ?_
    refine x_icmp_ge C dX0_nextCostsMore_44 47 rfl 51 rfl h (fun h => ?_) (fun h => ?_)
    · refine x_iload_n C dX0_nextCostsMore_51 52 rfl 0 rfl ?_
      refine x_aload_n C dX0_nextCostsMore_52 53 rfl 1 rfl ?_
      refine x_iload_n C dX0_nextCostsMore_53 54 rfl 2 rfl ?_
      refine x_iconst C dX0_nextCostsMore_54 55 rfl 1 rfl ?_
      obtain ⟨r55, a55, hq, h⟩ := xb_some h
      refine x_callVi C 74 (c_X0_priceOf C.2.2.2.2.2.2.1 hq) lc74 EC_74 rfl wml_X0_82 wq_X0_priceOf rfl ⟨by decide, by decide⟩ rfl rfl ⟨by decide, by decide⟩ dX0_nextCostsMore_55 58 rfl rfl (Nat.le_of_ble_eq_true rfl) ?_
      refine x_mmin C wml_X0_98 wmt_J9_min wmn_J9 wmc_J9_min ⟨by decide, by decide⟩ (by decide) (Nat.le_of_ble_eq_true rfl) dX0_nextCostsMore_58 61 rfl ?_
      exact x_sub [1, 2] rfl (b_X0_nextCostsMore_61 C  h)
    · refine x_iload_n C dX0_nextCostsMore_47 48 rfl 0 rfl ?_
      refine x_goto C dX0_nextCostsMore_48 61 rfl ?_
      exact x_sub [1, 2] rfl (b_X0_nextCostsMore_61 C  h)
  · refine x_aload_n C dX0_nextCostsMore_15 16 rfl 1 rfl ?_
    refine x_get C inX0 74 lc74 EC_74 rfl 4 (by decide) dX0_nextCostsMore_16 19 rfl wmf_X0_15 rfl ?_
    refine x_iload_n C dX0_nextCostsMore_19 20 rfl 2 rfl ?_
    refine x_iald C 76 lc76 EC_76 0 rfl dX0_nextCostsMore_20 21 rfl h (fun h => ?_)
    refine x_if_ne C dX0_nextCostsMore_21 24 rfl 28 rfl h (fun h => ?_) (fun h => ?_)
    · refine x_aload_n C dX0_nextCostsMore_28 29 rfl 1 rfl ?_
      refine x_iload_n C dX0_nextCostsMore_29 30 rfl 2 rfl ?_
      refine x_iconst C dX0_nextCostsMore_30 31 rfl 0 rfl ?_
      obtain ⟨r31, a31, hq, h⟩ := xb_some h
      refine x_callVi C 74 (c_X0_priceOf C.2.2.2.2.2.2.1 hq) lc74 EC_74 rfl wml_X0_82 wq_X0_priceOf rfl ⟨by decide, by decide⟩ rfl rfl ⟨by decide, by decide⟩ dX0_nextCostsMore_31 34 rfl rfl (Nat.le_of_ble_eq_true rfl) ?_
      refine x_iload_n C dX0_nextCostsMore_34 35 rfl 0 rfl ?_
      refine x_isub C dX0_nextCostsMore_35 36 rfl ?_
      exact x_iret C rfl dX0_nextCostsMore_36 h
    · refine x_iconst C dX0_nextCostsMore_24 25 rfl (-1) rfl ?_
      refine x_goto C dX0_nextCostsMore_25 36 rfl ?_
      exact x_iret C rfl dX0_nextCostsMore_36 h
theorem c_X1_clear_trialFollows {l : Launch} {D : va_G} {ca : Nat → ClassId} {ad : Nat → Nat} (hI : xInj ad NCC) {N : Nat} {ah : AH} {a : AH} (h : F_X1_clear N 53 ah = some a) : xMv l yX1_clear cX1_clear 1 rm_X1_clear D vwCl (tysC ca) (EC ad ca) NCC ad [.ref (ad 53)] ah a := by
  refine x_metv (by decide) (Nat.le_of_ble_eq_true rfl) hI EC_loc ?_
  intro p e s m args below meth c C
  unfold F_X1_clear at h
  refine x_aload_n C dX1_clear_0 1 rfl 0 rfl ?_
  refine x_iconst C dX1_clear_1 2 rfl 0 rfl ?_
  refine x_put C inX1 53 lc53 EC_53 rfl 1 (by decide) tyX1_ok nmX1 dX1_clear_2 5 rfl wmf_X1_25 rfl rfl rfl (Nat.le_of_ble_eq_true rfl) EP_53_1 h (fun a2 h => ?_)
  exact x_vret C rfl dX1_clear_5 h
abbrev rm_X1_dearOf : Room := { frames := 0, cells := 0, slots := 0, locals := 0 }
theorem wq_X1_dearOf : xcV RX1 yX1_dearOf cX1_dearOf 5 (some .int) 3 := ⟨wmi_X1_dearOf, wms_X1_dearOf, wmn_X1, wmc_X1_dearOf, by decide, by decide, by decide +kernel⟩
def F_X1_dearOf_43 (N : Nat) (k : Nat) (k8 : AH → Int32 → Int32 → Int32 → Int32 → Option (Int32 × AH)) (ah : AH) (v1 : Int32) (v2 : Int32) (v3 : Int32) (v4 : Int32) : Option (Int32 × AH) := xlet (v4 + (-1)) (fun v4_43 => k8 ah v1 v2 v3 v4_43)
def F_X1_dearOf_8 (N : Nat) (k : Nat) : Nat → AH → Int32 → Int32 → Int32 → Int32 → Option (Int32 × AH)
  | 0, _, _, _, _, _ => none
  | n + 1, ah, v1, v2, v3, v4 => if v4 < 0 then some (v3, ah) else xg v4 60 (if (ah (k + 1) (Int32.toNatClampNeg v4)) = v1 then xg v4 60 (if (ah (k + 2) (Int32.toNatClampNeg v4)) = v2 then xg v4 60 (some (ah (k + 3) (Int32.toNatClampNeg v4), ah)) else F_X1_dearOf_43 N k (F_X1_dearOf_8 N k n) ah v1 v2 v3 v4) else F_X1_dearOf_43 N k (F_X1_dearOf_8 N k n) ah v1 v2 v3 v4)
def F_X1_dearOf (N : Nat) (k : Nat) (ah : AH) (p1 : Int32) (p2 : Int32) (p3 : Int32) : Option (Int32 × AH) := xlet ((ah k 1) - 1) (fun v4_6 => F_X1_dearOf_8 N k N ah p1 p2 p3 v4_6)
theorem b_X1_dearOf_43_follows (C : XC p l s m args meth c cX1_dearOf 5 (some .int) RX1 D vwCl (tysC ca) (EC ad ca) NCC ad) {N : Nat} {o : (Int32 × AH)} {k8 : AH → Int32 → Int32 → Int32 → Int32 → Option (Int32 × AH)} (hk8 : ∀ (ah : AH) (v1 : Int32) (v2 : Int32) (v3 : Int32) (v4 : Int32), k8 ah v1 v2 v3 v4 = some o → XW p l e rm_X1_dearOf s m args below meth c 5 0 (xQi below args s D vwCl (tysC ca) (EC ad ca) NCC ad o) D vwCl (EC ad ca) NCC ad ah 8 [(0, .ref (ad 49)), (1, .int v1), (2, .int v2), (3, .int v3), (4, .int v4)] []) {ah : AH} {v1 : Int32} {v2 : Int32} {v3 : Int32} {v4 : Int32} (h : F_X1_dearOf_43 N 49 k8 ah v1 v2 v3 v4 = some o) : XW p l e rm_X1_dearOf s m args below meth c 5 0 (xQi below args s D vwCl (tysC ca) (EC ad ca) NCC ad o) D vwCl (EC ad ca) NCC ad ah 43 [(0, .ref (ad 49)), (1, .int v1), (2, .int v2), (3, .int v3), (4, .int v4)] [] := by
  unfold F_X1_dearOf_43 at h
  refine x_iinc C dX1_dearOf_43 46 rfl 4 rfl (d := (-1)) rfl (by decide) (fun v4_43 => [(4, .int v4_43), (0, .ref (ad 49)), (1, .int v1), (2, .int v2), (3, .int v3)]) (fun _ => rfl) h (fun v4_43 h => ?_)
  refine x_goto C dX1_dearOf_46 8 rfl ?_
  exact x_sub [1, 2, 3, 4, 0] rfl (hk8 _ _ _ _ _ h)
theorem b_X1_dearOf_8_follows (C : XC p l s m args meth c cX1_dearOf 5 (some .int) RX1 D vwCl (tysC ca) (EC ad ca) NCC ad) {N : Nat} {o : (Int32 × AH)} : ∀ (n : Nat) {ah : AH} {v1 : Int32} {v2 : Int32} {v3 : Int32} {v4 : Int32}, F_X1_dearOf_8 N 49 n ah v1 v2 v3 v4 = some o → XW p l e rm_X1_dearOf s m args below meth c 5 0 (xQi below args s D vwCl (tysC ca) (EC ad ca) NCC ad o) D vwCl (EC ad ca) NCC ad ah 8 [(0, .ref (ad 49)), (1, .int v1), (2, .int v2), (3, .int v3), (4, .int v4)] [] := by
  intro n
  induction n with
  | zero => intro ah v1 v2 v3 v4 h; unfold F_X1_dearOf_8 at h; cases h
  | succ n ih =>
    intro ah v1 v2 v3 v4 h
    unfold F_X1_dearOf_8 at h
    refine x_iload C dX1_dearOf_8 10 rfl 4 rfl ?_
    refine x_if_lt C dX1_dearOf_10 13 rfl 49 rfl h (fun h => ?_) (fun h => ?_)
    · refine x_iload_n C dX1_dearOf_49 50 rfl 3 rfl ?_
      exact x_iret C rfl dX1_dearOf_50 h
    · refine x_aload_n C dX1_dearOf_13 14 rfl 0 rfl ?_
      refine x_get C inX1 49 lc49 EC_49 rfl 2 (by decide) dX1_dearOf_14 17 rfl wmf_X1_9 rfl ?_
      refine x_iload C dX1_dearOf_17 19 rfl 4 rfl ?_
      refine x_iald C 50 lc50 EC_50 0 rfl dX1_dearOf_19 20 rfl h (fun h => ?_)
      refine x_iload_n C dX1_dearOf_20 21 rfl 1 rfl ?_
      refine x_icmp_ne C dX1_dearOf_21 24 rfl 43 rfl h (fun h => ?_) (fun h => ?_)
      · exact b_X1_dearOf_43_follows C (fun _ _ _ _ _ h => ih h) h
      · refine x_aload_n C dX1_dearOf_24 25 rfl 0 rfl ?_
        refine x_get C inX1 49 lc49 EC_49 rfl 3 (by decide) dX1_dearOf_25 28 rfl wmf_X1_15 rfl ?_
        refine x_iload C dX1_dearOf_28 30 rfl 4 rfl ?_
        refine x_iald C 51 lc51 EC_51 0 rfl dX1_dearOf_30 31 rfl h (fun h => ?_)
        refine x_iload_n C dX1_dearOf_31 32 rfl 2 rfl ?_
        refine x_icmp_ne C dX1_dearOf_32 35 rfl 43 rfl h (fun h => ?_) (fun h => ?_)
        · exact b_X1_dearOf_43_follows C (fun _ _ _ _ _ h => ih h) h
        · refine x_aload_n C dX1_dearOf_35 36 rfl 0 rfl ?_
          refine x_get C inX1 49 lc49 EC_49 rfl 4 (by decide) dX1_dearOf_36 39 rfl wmf_X1_18 rfl ?_
          refine x_iload C dX1_dearOf_39 41 rfl 4 rfl ?_
          refine x_iald C 52 lc52 EC_52 0 rfl dX1_dearOf_41 42 rfl h (fun h => ?_)
          exact x_iret C rfl dX1_dearOf_42 h
theorem c_X1_dearOf_follows {l : Launch} {D : va_G} {ca : Nat → ClassId} {ad : Nat → Nat} (hI : xInj ad NCC) {N : Nat} {ah : AH} {p1 : Int32} {p2 : Int32} {p3 : Int32} {r : Int32} {a : AH} (h : F_X1_dearOf N 49 ah p1 p2 p3 = some (r, a)) : xMi l yX1_dearOf cX1_dearOf 5 (some .int) rm_X1_dearOf D vwCl (tysC ca) (EC ad ca) NCC ad [.ref (ad 49), .int p1, .int p2, .int p3] ah (r, a) := by
  refine x_meti (by decide) (Nat.le_of_ble_eq_true rfl) hI EC_loc ?_
  intro p e s m args below meth c C
  unfold F_X1_dearOf at h
  refine x_aload_n C dX1_dearOf_0 1 rfl 0 rfl ?_
  refine x_get C inX1 49 lc49 EC_49 rfl 1 (by decide) dX1_dearOf_1 4 rfl wmf_X1_25 rfl ?_
  refine x_iconst C dX1_dearOf_4 5 rfl 1 rfl ?_
  refine x_isub C dX1_dearOf_5 6 rfl ?_
  refine x_istore C dX1_dearOf_6 8 rfl (by decide) (fun v4_6 => [(4, .int v4_6), (0, .ref (ad 49)), (1, .int p1), (2, .int p2), (3, .int p3)]) (fun _ => rfl) h (fun v4_6 h => ?_)
  exact x_sub [1, 2, 3, 4, 0] rfl (b_X1_dearOf_8_follows C  N h)
theorem b_X1_dearOf_43_trialFollows (C : XC p l s m args meth c cX1_dearOf 5 (some .int) RX1 D vwCl (tysC ca) (EC ad ca) NCC ad) {N : Nat} {o : (Int32 × AH)} {k8 : AH → Int32 → Int32 → Int32 → Int32 → Option (Int32 × AH)} (hk8 : ∀ (ah : AH) (v1 : Int32) (v2 : Int32) (v3 : Int32) (v4 : Int32), k8 ah v1 v2 v3 v4 = some o → XW p l e rm_X1_dearOf s m args below meth c 5 0 (xQi below args s D vwCl (tysC ca) (EC ad ca) NCC ad o) D vwCl (EC ad ca) NCC ad ah 8 [(0, .ref (ad 53)), (1, .int v1), (2, .int v2), (3, .int v3), (4, .int v4)] []) {ah : AH} {v1 : Int32} {v2 : Int32} {v3 : Int32} {v4 : Int32} (h : F_X1_dearOf_43 N 53 k8 ah v1 v2 v3 v4 = some o) : XW p l e rm_X1_dearOf s m args below meth c 5 0 (xQi below args s D vwCl (tysC ca) (EC ad ca) NCC ad o) D vwCl (EC ad ca) NCC ad ah 43 [(0, .ref (ad 53)), (1, .int v1), (2, .int v2), (3, .int v3), (4, .int v4)] [] := by
  unfold F_X1_dearOf_43 at h
  refine x_iinc C dX1_dearOf_43 46 rfl 4 rfl (d := (-1)) rfl (by decide) (fun v4_43 => [(4, .int v4_43), (0, .ref (ad 53)), (1, .int v1), (2, .int v2), (3, .int v3)]) (fun _ => rfl) h (fun v4_43 h => ?_)
  refine x_goto C dX1_dearOf_46 8 rfl ?_
  exact x_sub [1, 2, 3, 4, 0] rfl (hk8 _ _ _ _ _ h)
theorem b_X1_dearOf_8_trialFollows (C : XC p l s m args meth c cX1_dearOf 5 (some .int) RX1 D vwCl (tysC ca) (EC ad ca) NCC ad) {N : Nat} {o : (Int32 × AH)} : ∀ (n : Nat) {ah : AH} {v1 : Int32} {v2 : Int32} {v3 : Int32} {v4 : Int32}, F_X1_dearOf_8 N 53 n ah v1 v2 v3 v4 = some o → XW p l e rm_X1_dearOf s m args below meth c 5 0 (xQi below args s D vwCl (tysC ca) (EC ad ca) NCC ad o) D vwCl (EC ad ca) NCC ad ah 8 [(0, .ref (ad 53)), (1, .int v1), (2, .int v2), (3, .int v3), (4, .int v4)] [] := by
  intro n
  induction n with
  | zero => intro ah v1 v2 v3 v4 h; unfold F_X1_dearOf_8 at h; cases h
  | succ n ih =>
    intro ah v1 v2 v3 v4 h
    unfold F_X1_dearOf_8 at h
    refine x_iload C dX1_dearOf_8 10 rfl 4 rfl ?_
    refine x_if_lt C dX1_dearOf_10 13 rfl 49 rfl h (fun h => ?_) (fun h => ?_)
    · refine x_iload_n C dX1_dearOf_49 50 rfl 3 rfl ?_
      exact x_iret C rfl dX1_dearOf_50 h
    · refine x_aload_n C dX1_dearOf_13 14 rfl 0 rfl ?_
      refine x_get C inX1 53 lc53 EC_53 rfl 2 (by decide) dX1_dearOf_14 17 rfl wmf_X1_9 rfl ?_
      refine x_iload C dX1_dearOf_17 19 rfl 4 rfl ?_
      refine x_iald C 54 lc54 EC_54 0 rfl dX1_dearOf_19 20 rfl h (fun h => ?_)
      refine x_iload_n C dX1_dearOf_20 21 rfl 1 rfl ?_
      refine x_icmp_ne C dX1_dearOf_21 24 rfl 43 rfl h (fun h => ?_) (fun h => ?_)
      · exact b_X1_dearOf_43_trialFollows C (fun _ _ _ _ _ h => ih h) h
      · refine x_aload_n C dX1_dearOf_24 25 rfl 0 rfl ?_
        refine x_get C inX1 53 lc53 EC_53 rfl 3 (by decide) dX1_dearOf_25 28 rfl wmf_X1_15 rfl ?_
        refine x_iload C dX1_dearOf_28 30 rfl 4 rfl ?_
        refine x_iald C 55 lc55 EC_55 0 rfl dX1_dearOf_30 31 rfl h (fun h => ?_)
        refine x_iload_n C dX1_dearOf_31 32 rfl 2 rfl ?_
        refine x_icmp_ne C dX1_dearOf_32 35 rfl 43 rfl h (fun h => ?_) (fun h => ?_)
        · exact b_X1_dearOf_43_trialFollows C (fun _ _ _ _ _ h => ih h) h
        · refine x_aload_n C dX1_dearOf_35 36 rfl 0 rfl ?_
          refine x_get C inX1 53 lc53 EC_53 rfl 4 (by decide) dX1_dearOf_36 39 rfl wmf_X1_18 rfl ?_
          refine x_iload C dX1_dearOf_39 41 rfl 4 rfl ?_
          refine x_iald C 56 lc56 EC_56 0 rfl dX1_dearOf_41 42 rfl h (fun h => ?_)
          exact x_iret C rfl dX1_dearOf_42 h
theorem c_X1_dearOf_trialFollows {l : Launch} {D : va_G} {ca : Nat → ClassId} {ad : Nat → Nat} (hI : xInj ad NCC) {N : Nat} {ah : AH} {p1 : Int32} {p2 : Int32} {p3 : Int32} {r : Int32} {a : AH} (h : F_X1_dearOf N 53 ah p1 p2 p3 = some (r, a)) : xMi l yX1_dearOf cX1_dearOf 5 (some .int) rm_X1_dearOf D vwCl (tysC ca) (EC ad ca) NCC ad [.ref (ad 53), .int p1, .int p2, .int p3] ah (r, a) := by
  refine x_meti (by decide) (Nat.le_of_ble_eq_true rfl) hI EC_loc ?_
  intro p e s m args below meth c C
  unfold F_X1_dearOf at h
  refine x_aload_n C dX1_dearOf_0 1 rfl 0 rfl ?_
  refine x_get C inX1 53 lc53 EC_53 rfl 1 (by decide) dX1_dearOf_1 4 rfl wmf_X1_25 rfl ?_
  refine x_iconst C dX1_dearOf_4 5 rfl 1 rfl ?_
  refine x_isub C dX1_dearOf_5 6 rfl ?_
  refine x_istore C dX1_dearOf_6 8 rfl (by decide) (fun v4_6 => [(4, .int v4_6), (0, .ref (ad 53)), (1, .int p1), (2, .int p2), (3, .int p3)]) (fun _ => rfl) h (fun v4_6 h => ?_)
  exact x_sub [1, 2, 3, 4, 0] rfl (b_X1_dearOf_8_trialFollows C  N h)
abbrev rm_X9_skipBlanks : Room := { frames := 0, cells := 0, slots := 0, locals := 0 }
theorem wq_X9_skipBlanks : xcV RX9 yX9_skipBlanks cX9_skipBlanks 1 none 0 := ⟨wmi_X9_skipBlanks, wms_X9_skipBlanks, wmn_X9, wmc_X9_skipBlanks, by decide, by decide, by decide +kernel⟩
def F_X9_skipBlanks_0 (N : Nat) : Nat → AH → Option AH
  | 0, _ => none
  | n + 1, ah => if (ah 2 2) ≤ (ah 2 3) then some ah else xg (ah 2 3) 400 (if (ah 3 (Int32.toNatClampNeg (ah 2 3))) = 32 then xlet (xu ah 2 3 ((ah 2 3) + 1)) (fun a32 => F_X9_skipBlanks_0 N n a32) else some ah)
def F_X9_skipBlanks (N : Nat) (ah : AH) : Option AH := F_X9_skipBlanks_0 N  N ah
theorem b_X9_skipBlanks_0 (C : XC p l s m args meth c cX9_skipBlanks 1 none RX9 D vwCl (tysC ca) (EC ad ca) NCC ad) {N : Nat} {o : AH} : ∀ (n : Nat) {ah : AH}, F_X9_skipBlanks_0 N n ah = some o → XW p l e rm_X9_skipBlanks s m args below meth c 1 0 (xQv below args s D vwCl (tysC ca) (EC ad ca) NCC ad o) D vwCl (EC ad ca) NCC ad ah 0 [(0, .ref (ad 2))] [] := by
  intro n
  induction n with
  | zero => intro ah h; unfold F_X9_skipBlanks_0 at h; cases h
  | succ n ih =>
    intro ah h
    unfold F_X9_skipBlanks_0 at h
    refine x_aload_n C dX9_skipBlanks_0 1 rfl 0 rfl ?_
    refine x_get C inX9 2 lc2 EC_2 rfl 3 (by decide) dX9_skipBlanks_1 4 rfl wmf_X9_25 rfl ?_
    refine x_aload_n C dX9_skipBlanks_4 5 rfl 0 rfl ?_
    refine x_get C inX9 2 lc2 EC_2 rfl 2 (by decide) dX9_skipBlanks_5 8 rfl wmf_X9_22 rfl ?_
    refine x_icmp_ge C dX9_skipBlanks_8 11 rfl 38 rfl h (fun h => ?_) (fun h => ?_)
    · exact x_vret C rfl dX9_skipBlanks_38 h
    · refine x_aload_n C dX9_skipBlanks_11 12 rfl 0 rfl ?_
      refine x_get C inX9 2 lc2 EC_2 rfl 0 (by decide) dX9_skipBlanks_12 15 rfl wmf_X9_9 rfl ?_
      refine x_aload_n C dX9_skipBlanks_15 16 rfl 0 rfl ?_
      refine x_get C inX9 2 lc2 EC_2 rfl 3 (by decide) dX9_skipBlanks_16 19 rfl wmf_X9_25 rfl ?_
      refine x_iald C 3 lc3 EC_3 0 rfl dX9_skipBlanks_19 20 rfl h (fun h => ?_)
      refine x_bipush C dX9_skipBlanks_20 22 rfl 32 rfl ?_
      refine x_icmp_ne C dX9_skipBlanks_22 25 rfl 38 rfl h (fun h => ?_) (fun h => ?_)
      · exact x_vret C rfl dX9_skipBlanks_38 h
      · refine x_aload_n C dX9_skipBlanks_25 26 rfl 0 rfl ?_
        refine x_dup C dX9_skipBlanks_26 27 rfl rfl ?_
        refine x_get C inX9 2 lc2 EC_2 rfl 3 (by decide) dX9_skipBlanks_27 30 rfl wmf_X9_25 rfl ?_
        refine x_iconst C dX9_skipBlanks_30 31 rfl 1 rfl ?_
        refine x_iadd C dX9_skipBlanks_31 32 rfl ?_
        refine x_put C inX9 2 lc2 EC_2 rfl 3 (by decide) tyX9_ok nmX9 dX9_skipBlanks_32 35 rfl wmf_X9_25 rfl rfl rfl (Nat.le_of_ble_eq_true rfl) EP_2_3 h (fun a32 h => ?_)
        refine x_goto C dX9_skipBlanks_35 0 rfl ?_
        exact ih h
theorem c_X9_skipBlanks {l : Launch} {D : va_G} {ca : Nat → ClassId} {ad : Nat → Nat} (hI : xInj ad NCC) {N : Nat} {ah : AH} {a : AH} (h : F_X9_skipBlanks N ah = some a) : xMv l yX9_skipBlanks cX9_skipBlanks 1 rm_X9_skipBlanks D vwCl (tysC ca) (EC ad ca) NCC ad [.ref (ad 2)] ah a := by
  refine x_metv (by decide) (Nat.le_of_ble_eq_true rfl) hI EC_loc ?_
  intro p e s m args below meth c C
  unfold F_X9_skipBlanks at h
  exact (b_X9_skipBlanks_0 C N h)
abbrev rm_X9_atEnd : Room := { frames := 0, cells := 0, slots := 0, locals := 0 }
theorem wq_X9_atEnd : xcV RX9 yX9_atEnd cX9_atEnd 1 (some .boolean) 0 := ⟨wmi_X9_atEnd, wms_X9_atEnd, wmn_X9, wmc_X9_atEnd, by decide, by decide, by decide +kernel⟩
def F_X9_atEnd (N : Nat) (ah : AH) : Option (Int32 × AH) := if (ah 2 3) < (ah 2 2) then some (0, ah) else some (1, ah)
theorem c_X9_atEnd {l : Launch} {D : va_G} {ca : Nat → ClassId} {ad : Nat → Nat} (hI : xInj ad NCC) {N : Nat} {ah : AH} {r : Int32} {a : AH} (h : F_X9_atEnd N ah = some (r, a)) : xMi l yX9_atEnd cX9_atEnd 1 (some .boolean) rm_X9_atEnd D vwCl (tysC ca) (EC ad ca) NCC ad [.ref (ad 2)] ah (r, a) := by
  refine x_meti (by decide) (Nat.le_of_ble_eq_true rfl) hI EC_loc ?_
  intro p e s m args below meth c C
  unfold F_X9_atEnd at h
  refine x_aload_n C dX9_atEnd_0 1 rfl 0 rfl ?_
  refine x_get C inX9 2 lc2 EC_2 rfl 3 (by decide) dX9_atEnd_1 4 rfl wmf_X9_25 rfl ?_
  refine x_aload_n C dX9_atEnd_4 5 rfl 0 rfl ?_
  refine x_get C inX9 2 lc2 EC_2 rfl 2 (by decide) dX9_atEnd_5 8 rfl wmf_X9_22 rfl ?_
  refine x_icmp_lt C dX9_atEnd_8 11 rfl 15 rfl h (fun h => ?_) (fun h => ?_)
  · refine x_iconst C dX9_atEnd_15 16 rfl 0 rfl ?_
    exact x_zret C rfl dX9_atEnd_16 (by decide) h
  · refine x_iconst C dX9_atEnd_11 12 rfl 1 rfl ?_
    refine x_goto C dX9_atEnd_12 16 rfl ?_
    exact x_zret C rfl dX9_atEnd_16 (by decide) h
abbrev rm_X9_peek : Room := { frames := 0, cells := 0, slots := 0, locals := 0 }
theorem wq_X9_peek : xcV RX9 yX9_peek cX9_peek 3 (some .int) 1 := ⟨wmi_X9_peek, wms_X9_peek, wmn_X9, wmc_X9_peek, by decide, by decide, by decide +kernel⟩
def F_X9_peek (N : Nat) (ah : AH) (p1 : Int32) : Option (Int32 × AH) := xlet ((ah 2 3) + p1) (fun v2_6 => if v2_6 < 0 then some ((-1), ah) else if (ah 2 2) ≤ v2_6 then some ((-1), ah) else xg v2_6 400 (some (ah 3 (Int32.toNatClampNeg v2_6), ah)))
theorem c_X9_peek {l : Launch} {D : va_G} {ca : Nat → ClassId} {ad : Nat → Nat} (hI : xInj ad NCC) {N : Nat} {ah : AH} {p1 : Int32} {r : Int32} {a : AH} (h : F_X9_peek N ah p1 = some (r, a)) : xMi l yX9_peek cX9_peek 3 (some .int) rm_X9_peek D vwCl (tysC ca) (EC ad ca) NCC ad [.ref (ad 2), .int p1] ah (r, a) := by
  refine x_meti (by decide) (Nat.le_of_ble_eq_true rfl) hI EC_loc ?_
  intro p e s m args below meth c C
  unfold F_X9_peek at h
  refine x_aload_n C dX9_peek_0 1 rfl 0 rfl ?_
  refine x_get C inX9 2 lc2 EC_2 rfl 3 (by decide) dX9_peek_1 4 rfl wmf_X9_25 rfl ?_
  refine x_iload_n C dX9_peek_4 5 rfl 1 rfl ?_
  refine x_iadd C dX9_peek_5 6 rfl ?_
  refine x_istore_n C dX9_peek_6 7 rfl (by decide) (fun v2_6 => [(2, .int v2_6), (0, .ref (ad 2)), (1, .int p1)]) (fun _ => rfl) h (fun v2_6 h => ?_)
  refine x_iload_n C dX9_peek_7 8 rfl 0 rfl ?_
  refine x_if_lt C dX9_peek_8 11 rfl 28 rfl h (fun h => ?_) (fun h => ?_)
  · refine x_iconst C dX9_peek_28 29 rfl (-1) rfl ?_
    exact x_iret C rfl dX9_peek_29 h
  · refine x_iload_n C dX9_peek_11 12 rfl 0 rfl ?_
    refine x_aload_n C dX9_peek_12 13 rfl 1 rfl ?_
    refine x_get C inX9 2 lc2 EC_2 rfl 2 (by decide) dX9_peek_13 16 rfl wmf_X9_22 rfl ?_
    refine x_icmp_ge C dX9_peek_16 19 rfl 28 rfl h (fun h => ?_) (fun h => ?_)
    · refine x_iconst C dX9_peek_28 29 rfl (-1) rfl ?_
      exact x_iret C rfl dX9_peek_29 h
    · refine x_aload_n C dX9_peek_19 20 rfl 1 rfl ?_
      refine x_get C inX9 2 lc2 EC_2 rfl 0 (by decide) dX9_peek_20 23 rfl wmf_X9_9 rfl ?_
      refine x_iload_n C dX9_peek_23 24 rfl 0 rfl ?_
      refine x_iald C 3 lc3 EC_3 0 rfl dX9_peek_24 25 rfl h (fun h => ?_)
      refine x_goto C dX9_peek_25 29 rfl ?_
      exact x_iret C rfl dX9_peek_29 h
abbrev rm_X9_refuse : Room := { frames := 0, cells := 0, slots := 0, locals := 0 }
theorem wq_X9_refuse : xcV RX9 yX9_refuse cX9_refuse 3 (some .boolean) 2 := ⟨wmi_X9_refuse, wms_X9_refuse, wmn_X9, wmc_X9_refuse, by decide, by decide, by decide +kernel⟩
def F_X9_refuse (N : Nat) (ah : AH) (p1 : Int32) (p2 : Int32) : Option (Int32 × AH) := xlet (xu ah 2 4 p1) (fun a2 => xlet (xu a2 2 5 p2) (fun a7 => some (0, a7)))
theorem c_X9_refuse {l : Launch} {D : va_G} {ca : Nat → ClassId} {ad : Nat → Nat} (hI : xInj ad NCC) {N : Nat} {ah : AH} {p1 : Int32} {p2 : Int32} {r : Int32} {a : AH} (h : F_X9_refuse N ah p1 p2 = some (r, a)) : xMi l yX9_refuse cX9_refuse 3 (some .boolean) rm_X9_refuse D vwCl (tysC ca) (EC ad ca) NCC ad [.ref (ad 2), .int p1, .int p2] ah (r, a) := by
  refine x_meti (by decide) (Nat.le_of_ble_eq_true rfl) hI EC_loc ?_
  intro p e s m args below meth c C
  unfold F_X9_refuse at h
  refine x_aload_n C dX9_refuse_0 1 rfl 0 rfl ?_
  refine x_iload_n C dX9_refuse_1 2 rfl 1 rfl ?_
  refine x_put C inX9 2 lc2 EC_2 rfl 4 (by decide) tyX9_ok nmX9 dX9_refuse_2 5 rfl wmf_X9_28 rfl rfl rfl (Nat.le_of_ble_eq_true rfl) EP_2_4 h (fun a2 h => ?_)
  refine x_aload_n C dX9_refuse_5 6 rfl 0 rfl ?_
  refine x_iload_n C dX9_refuse_6 7 rfl 2 rfl ?_
  refine x_put C inX9 2 lc2 EC_2 rfl 5 (by decide) tyX9_ok nmX9 dX9_refuse_7 10 rfl wmf_X9_15 rfl rfl rfl (Nat.le_of_ble_eq_true rfl) EP_2_5 h (fun a7 h => ?_)
  refine x_iconst C dX9_refuse_10 11 rfl 0 rfl ?_
  exact x_zret C rfl dX9_refuse_11 (by decide) h
abbrev rm_X2_look : Room := { frames := 1, cells := 0, slots := 0, locals := 24 }
theorem wq_X2_look : xcV RX2 yX2_look cX2_look 6 (some .int) 3 := ⟨wmi_X2_look, wms_X2_look, wmn_X2, wmc_X2_look, by decide, by decide, by decide +kernel⟩
def F_X2_look_6 (N : Nat) (w1 : Nat) : Nat → AH → Int32 → Int32 → Int32 → Int32 → Option (Int32 × AH)
  | 0, _, _, _, _, _ => none
  | n + 1, ah, v2, v3, v4, v5 => if (v2 + v3) ≤ v5 then xg v4 721 (some (ah 11 (Int32.toNatClampNeg v4), ah)) else xg v5 400 (xb (F_X2_childOf N ah v4 (ah w1 (Int32.toNatClampNeg v5))) (fun r21 a21 => xlet r21 (fun v4_24 => if v4_24 = ((-1)) then some ((-1), a21) else xlet (v5 + 1) (fun v5_34 => F_X2_look_6 N w1 n a21 v2 v3 v4_24 v5_34))))
def F_X2_look (N : Nat) (w1 : Nat) (ah : AH) (p2 : Int32) (p3 : Int32) : Option (Int32 × AH) := xlet 0 (fun v4_1 => xlet p2 (fun v5_4 => F_X2_look_6 N w1 N ah p2 p3 v4_1 v5_4))
theorem b_X2_look_6_3 (C : XC p l s m args meth c cX2_look 6 (some .int) RX2 D vwCl (tysC ca) (EC ad ca) NCC ad) {N : Nat} {o : (Int32 × AH)} : ∀ (n : Nat) {ah : AH} {v2 : Int32} {v3 : Int32} {v4 : Int32} {v5 : Int32}, F_X2_look_6 N 3 n ah v2 v3 v4 v5 = some o → XW p l e rm_X2_look s m args below meth c 6 0 (xQi below args s D vwCl (tysC ca) (EC ad ca) NCC ad o) D vwCl (EC ad ca) NCC ad ah 6 [(0, .ref (ad 4)), (1, .ref (ad 3)), (2, .int v2), (3, .int v3), (4, .int v4), (5, .int v5)] [] := by
  intro n
  induction n with
  | zero => intro ah v2 v3 v4 v5 h; unfold F_X2_look_6 at h; cases h
  | succ n ih =>
    intro ah v2 v3 v4 v5 h
    unfold F_X2_look_6 at h
    refine x_iload C dX2_look_6 8 rfl 5 rfl ?_
    refine x_iload_n C dX2_look_8 9 rfl 2 rfl ?_
    refine x_iload_n C dX2_look_9 10 rfl 3 rfl ?_
    refine x_iadd C dX2_look_10 11 rfl ?_
    refine x_icmp_ge C dX2_look_11 14 rfl 40 rfl h (fun h => ?_) (fun h => ?_)
    · refine x_aload_n C dX2_look_40 41 rfl 0 rfl ?_
      refine x_get C inX2 4 lc4 EC_4 rfl 8 (by decide) dX2_look_41 44 rfl wmf_X2_34 rfl ?_
      refine x_iload C dX2_look_44 46 rfl 4 rfl ?_
      refine x_iald C 11 lc11 EC_11 0 rfl dX2_look_46 47 rfl h (fun h => ?_)
      exact x_iret C rfl dX2_look_47 h
    · refine x_aload_n C dX2_look_14 15 rfl 0 rfl ?_
      refine x_iload C dX2_look_15 17 rfl 4 rfl ?_
      refine x_aload_n C dX2_look_17 18 rfl 1 rfl ?_
      refine x_iload C dX2_look_18 20 rfl 5 rfl ?_
      refine x_iald C 3 lc3 EC_3 0 rfl dX2_look_20 21 rfl h (fun h => ?_)
      obtain ⟨r21, a21, hq, h⟩ := xb_some h
      refine x_callVi C 4 (c_X2_childOf C.2.2.2.2.2.2.1 hq) lc4 EC_4 rfl wml_X2_68 wq_X2_childOf rfl ⟨by decide, by decide⟩ rfl rfl ⟨by decide, by decide⟩ dX2_look_21 24 rfl rfl (Nat.le_of_ble_eq_true rfl) ?_
      refine x_istore C dX2_look_24 26 rfl (by decide) (fun v4_24 => [(4, .int v4_24), (0, .ref (ad 4)), (1, .ref (ad 3)), (2, .int v2), (3, .int v3), (5, .int v5)]) (fun _ => rfl) h (fun v4_24 h => ?_)
      refine x_iload C dX2_look_26 28 rfl 0 rfl ?_
      refine x_iconst C dX2_look_28 29 rfl (-1) rfl ?_
      refine x_icmp_ne C dX2_look_29 32 rfl 34 rfl h (fun h => ?_) (fun h => ?_)
      · refine x_iinc C dX2_look_34 37 rfl 5 rfl (d := 1) rfl (by decide) (fun v5_34 => [(5, .int v5_34), (4, .int v4_24), (0, .ref (ad 4)), (1, .ref (ad 3)), (2, .int v2), (3, .int v3)]) (fun _ => rfl) h (fun v5_34 h => ?_)
        refine x_goto C dX2_look_37 6 rfl ?_
        exact x_sub [2, 3, 4, 5, 1, 0] rfl (ih h)
      · refine x_iconst C dX2_look_32 33 rfl (-1) rfl ?_
        exact x_iret C rfl dX2_look_33 h
theorem c_X2_look_3 {l : Launch} {D : va_G} {ca : Nat → ClassId} {ad : Nat → Nat} (hI : xInj ad NCC) {N : Nat} {ah : AH} {p2 : Int32} {p3 : Int32} {r : Int32} {a : AH} (h : F_X2_look N 3 ah p2 p3 = some (r, a)) : xMi l yX2_look cX2_look 6 (some .int) rm_X2_look D vwCl (tysC ca) (EC ad ca) NCC ad [.ref (ad 4), .ref (ad 3), .int p2, .int p3] ah (r, a) := by
  refine x_meti (by decide) (Nat.le_of_ble_eq_true rfl) hI EC_loc ?_
  intro p e s m args below meth c C
  unfold F_X2_look at h
  refine x_iconst C dX2_look_0 1 rfl 0 rfl ?_
  refine x_istore C dX2_look_1 3 rfl (by decide) (fun v4_1 => [(4, .int v4_1), (0, .ref (ad 4)), (1, .ref (ad 3)), (2, .int p2), (3, .int p3)]) (fun _ => rfl) h (fun v4_1 h => ?_)
  refine x_iload_n C dX2_look_3 4 rfl 3 rfl ?_
  refine x_istore C dX2_look_4 6 rfl (by decide) (fun v5_4 => [(5, .int v5_4), (4, .int v4_1), (0, .ref (ad 4)), (1, .ref (ad 3)), (2, .int p2), (3, .int p3)]) (fun _ => rfl) h (fun v5_4 h => ?_)
  exact x_sub [2, 3, 4, 5, 1, 0] rfl (b_X2_look_6_3 C  N h)
abbrev rm_X1_readWord : Room := { frames := 2, cells := 0, slots := 0, locals := 49 }
theorem wq_X1_readWord : xcV RX1 yX1_readWord cX1_readWord 4 (some .int) 1 := ⟨wmi_X1_readWord, wms_X1_readWord, wmn_X1, wmc_X1_readWord, by decide, by decide, by decide +kernel⟩
def F_X1_readWord_66 (N : Nat) (k : Nat) (ah : AH) (v2 : Int32) : Option (Int32 × AH) := xb (F_X2_look N 3 ah v2 ((ah 2 3) - v2)) (fun r81 a81 => xlet r81 (fun v3_84 => if v3_84 = ((-1)) then xb (F_X9_refuse N a81 5 v2) (fun r93 a93 => some (v3_84, a93)) else some (v3_84, a81)))
def F_X1_readWord_53 (N : Nat) (k : Nat) (k25 : AH → Int32 → Option (Int32 × AH)) (ah : AH) (v2 : Int32) : Option (Int32 × AH) := xlet (xu ah 2 3 ((ah 2 3) + 1)) (fun a60 => k25 a60 v2)
def F_X1_readWord_25 (N : Nat) (k : Nat) : Nat → AH → Int32 → Option (Int32 × AH)
  | 0, _, _ => none
  | n + 1, ah, v2 => xb (F_X9_atEnd N ah) (fun r26 a26 => if r26 = 0 then xb (F_X9_peek N a26 0) (fun r34 a34 => xb (F_X11_isLetter N a34 r34) (fun r37 a37 => if r37 = 0 then xb (F_X9_peek N a37 0) (fun r45 a45 => if r45 = 45 then F_X1_readWord_53 N k (F_X1_readWord_25 N k n) a45 v2 else F_X1_readWord_66 N k a45 v2) else F_X1_readWord_53 N k (F_X1_readWord_25 N k n) a37 v2)) else F_X1_readWord_66 N k a26 v2)
def F_X1_readWord (N : Nat) (k : Nat) (ah : AH) : Option (Int32 × AH) := xlet (ah 2 3) (fun v2_4 => xb (F_X9_peek N ah 0) (fun r7 a7 => xb (F_X11_isLetter N a7 r7) (fun r10 a10 => if r10 = 0 then xb (F_X9_refuse N a10 1 v2_4) (fun r19 a19 => some ((-1), a19)) else F_X1_readWord_25 N k N a10 v2_4)))
theorem b_X1_readWord_66_follows (C : XC p l s m args meth c cX1_readWord 4 (some .int) RX1 D vwCl (tysC ca) (EC ad ca) NCC ad) {N : Nat} {o : (Int32 × AH)} {ah : AH} {v2 : Int32} (h : F_X1_readWord_66 N 49 ah v2 = some o) : XW p l e rm_X1_readWord s m args below meth c 4 0 (xQi below args s D vwCl (tysC ca) (EC ad ca) NCC ad o) D vwCl (EC ad ca) NCC ad ah 66 [(0, .ref (ad 49)), (1, .ref (ad 2)), (2, .int v2)] [] := by
  unfold F_X1_readWord_66 at h
  refine x_aload_n C dX1_readWord_66 67 rfl 0 rfl ?_
  refine x_get C inX1 49 lc49 EC_49 rfl 0 (by decide) dX1_readWord_67 70 rfl wmf_X1_21 rfl ?_
  refine x_aload_n C dX1_readWord_70 71 rfl 1 rfl ?_
  refine x_get C inX9 2 lc2 EC_2 rfl 0 (by decide) dX1_readWord_71 74 rfl wmf_X1_65 rfl ?_
  refine x_iload_n C dX1_readWord_74 75 rfl 2 rfl ?_
  refine x_aload_n C dX1_readWord_75 76 rfl 1 rfl ?_
  refine x_get C inX9 2 lc2 EC_2 rfl 3 (by decide) dX1_readWord_76 79 rfl wmf_X1_50 rfl ?_
  refine x_iload_n C dX1_readWord_79 80 rfl 2 rfl ?_
  refine x_isub C dX1_readWord_80 81 rfl ?_
  obtain ⟨r81, a81, hq, h⟩ := xb_some h
  refine x_callVi C 4 (c_X2_look_3 C.2.2.2.2.2.2.1 hq) lc4 EC_4 rfl wml_X1_68 wq_X2_look rfl ⟨by decide, by decide⟩ rfl rfl ⟨by decide, by decide⟩ dX1_readWord_81 84 rfl rfl (Nat.le_of_ble_eq_true rfl) ?_
  refine x_istore_n C dX1_readWord_84 85 rfl (by decide) (fun v3_84 => [(3, .int v3_84), (0, .ref (ad 49)), (1, .ref (ad 2)), (2, .int v2)]) (fun _ => rfl) h (fun v3_84 h => ?_)
  refine x_iload_n C dX1_readWord_85 86 rfl 0 rfl ?_
  refine x_iconst C dX1_readWord_86 87 rfl (-1) rfl ?_
  refine x_icmp_ne C dX1_readWord_87 90 rfl 97 rfl h (fun h => ?_) (fun h => ?_)
  · refine x_iload_n C dX1_readWord_97 98 rfl 0 rfl ?_
    exact x_iret C rfl dX1_readWord_98 h
  · refine x_aload_n C dX1_readWord_90 91 rfl 2 rfl ?_
    refine x_iconst C dX1_readWord_91 92 rfl 5 rfl ?_
    refine x_iload_n C dX1_readWord_92 93 rfl 3 rfl ?_
    obtain ⟨r93, a93, hq, h⟩ := xb_some h
    refine x_callVi C 2 (c_X9_refuse C.2.2.2.2.2.2.1 hq) lc2 EC_2 rfl wml_X1_53 wq_X9_refuse rfl ⟨by decide, by decide⟩ rfl rfl ⟨by decide, by decide⟩ dX1_readWord_93 96 rfl rfl (Nat.le_of_ble_eq_true rfl) ?_
    refine x_pop C dX1_readWord_96 97 rfl rfl ?_
    refine x_iload_n C dX1_readWord_97 98 rfl 0 rfl ?_
    exact x_iret C rfl dX1_readWord_98 h
theorem b_X1_readWord_53_follows (C : XC p l s m args meth c cX1_readWord 4 (some .int) RX1 D vwCl (tysC ca) (EC ad ca) NCC ad) {N : Nat} {o : (Int32 × AH)} {k25 : AH → Int32 → Option (Int32 × AH)} (hk25 : ∀ (ah : AH) (v2 : Int32), k25 ah v2 = some o → XW p l e rm_X1_readWord s m args below meth c 4 0 (xQi below args s D vwCl (tysC ca) (EC ad ca) NCC ad o) D vwCl (EC ad ca) NCC ad ah 25 [(0, .ref (ad 49)), (1, .ref (ad 2)), (2, .int v2)] []) {ah : AH} {v2 : Int32} (h : F_X1_readWord_53 N 49 k25 ah v2 = some o) : XW p l e rm_X1_readWord s m args below meth c 4 0 (xQi below args s D vwCl (tysC ca) (EC ad ca) NCC ad o) D vwCl (EC ad ca) NCC ad ah 53 [(0, .ref (ad 49)), (1, .ref (ad 2)), (2, .int v2)] [] := by
  unfold F_X1_readWord_53 at h
  refine x_aload_n C dX1_readWord_53 54 rfl 1 rfl ?_
  refine x_dup C dX1_readWord_54 55 rfl rfl ?_
  refine x_get C inX9 2 lc2 EC_2 rfl 3 (by decide) dX1_readWord_55 58 rfl wmf_X1_50 rfl ?_
  refine x_iconst C dX1_readWord_58 59 rfl 1 rfl ?_
  refine x_iadd C dX1_readWord_59 60 rfl ?_
  refine x_put C inX9 2 lc2 EC_2 rfl 3 (by decide) tyX9_ok nmX9 dX1_readWord_60 63 rfl wmf_X1_50 rfl rfl rfl (Nat.le_of_ble_eq_true rfl) EP_2_3 h (fun a60 h => ?_)
  refine x_goto C dX1_readWord_63 25 rfl ?_
  exact hk25 _ _ h
theorem b_X1_readWord_25_follows (C : XC p l s m args meth c cX1_readWord 4 (some .int) RX1 D vwCl (tysC ca) (EC ad ca) NCC ad) {N : Nat} {o : (Int32 × AH)} : ∀ (n : Nat) {ah : AH} {v2 : Int32}, F_X1_readWord_25 N 49 n ah v2 = some o → XW p l e rm_X1_readWord s m args below meth c 4 0 (xQi below args s D vwCl (tysC ca) (EC ad ca) NCC ad o) D vwCl (EC ad ca) NCC ad ah 25 [(0, .ref (ad 49)), (1, .ref (ad 2)), (2, .int v2)] [] := by
  intro n
  induction n with
  | zero => intro ah v2 h; unfold F_X1_readWord_25 at h; cases h
  | succ n ih =>
    intro ah v2 h
    unfold F_X1_readWord_25 at h
    refine x_aload_n C dX1_readWord_25 26 rfl 1 rfl ?_
    obtain ⟨r26, a26, hq, h⟩ := xb_some h
    refine x_callVi C 2 (c_X9_atEnd C.2.2.2.2.2.2.1 hq) lc2 EC_2 rfl wml_X1_34 wq_X9_atEnd rfl ⟨by decide, by decide⟩ rfl rfl ⟨by decide, by decide⟩ dX1_readWord_26 29 rfl rfl (Nat.le_of_ble_eq_true rfl) ?_
    refine x_if_ne C dX1_readWord_29 32 rfl 66 rfl h (fun h => ?_) (fun h => ?_)
    · exact b_X1_readWord_66_follows C  h
    · refine x_aload_n C dX1_readWord_32 33 rfl 1 rfl ?_
      refine x_iconst C dX1_readWord_33 34 rfl 0 rfl ?_
      obtain ⟨r34, a34, hq, h⟩ := xb_some h
      refine x_callVi C 2 (c_X9_peek C.2.2.2.2.2.2.1 hq) lc2 EC_2 rfl wml_X1_42 wq_X9_peek rfl ⟨by decide, by decide⟩ rfl rfl ⟨by decide, by decide⟩ dX1_readWord_34 37 rfl rfl (Nat.le_of_ble_eq_true rfl) ?_
      obtain ⟨r37, a37, hq, h⟩ := xb_some h
      refine x_callNi C (c_X11_isLetter C.2.2.2.2.2.2.1 hq) xn_X1_46 wq_X11_isLetter rfl ⟨by decide, by decide⟩ rfl rfl ⟨by decide, by decide⟩ dX1_readWord_37 40 rfl rfl (Nat.le_of_ble_eq_true rfl) ?_
      refine x_if_ne C dX1_readWord_40 43 rfl 53 rfl h (fun h => ?_) (fun h => ?_)
      · exact b_X1_readWord_53_follows C (fun _ _ h => ih h) h
      · refine x_aload_n C dX1_readWord_43 44 rfl 1 rfl ?_
        refine x_iconst C dX1_readWord_44 45 rfl 0 rfl ?_
        obtain ⟨r45, a45, hq, h⟩ := xb_some h
        refine x_callVi C 2 (c_X9_peek C.2.2.2.2.2.2.1 hq) lc2 EC_2 rfl wml_X1_42 wq_X9_peek rfl ⟨by decide, by decide⟩ rfl rfl ⟨by decide, by decide⟩ dX1_readWord_45 48 rfl rfl (Nat.le_of_ble_eq_true rfl) ?_
        refine x_bipush C dX1_readWord_48 50 rfl 45 rfl ?_
        refine x_icmp_ne C dX1_readWord_50 53 rfl 66 rfl h (fun h => ?_) (fun h => ?_)
        · exact b_X1_readWord_66_follows C  h
        · exact b_X1_readWord_53_follows C (fun _ _ h => ih h) h
theorem c_X1_readWord_follows {l : Launch} {D : va_G} {ca : Nat → ClassId} {ad : Nat → Nat} (hI : xInj ad NCC) {N : Nat} {ah : AH} {r : Int32} {a : AH} (h : F_X1_readWord N 49 ah = some (r, a)) : xMi l yX1_readWord cX1_readWord 4 (some .int) rm_X1_readWord D vwCl (tysC ca) (EC ad ca) NCC ad [.ref (ad 49), .ref (ad 2)] ah (r, a) := by
  refine x_meti (by decide) (Nat.le_of_ble_eq_true rfl) hI EC_loc ?_
  intro p e s m args below meth c C
  unfold F_X1_readWord at h
  refine x_aload_n C dX1_readWord_0 1 rfl 1 rfl ?_
  refine x_get C inX9 2 lc2 EC_2 rfl 3 (by decide) dX1_readWord_1 4 rfl wmf_X1_50 rfl ?_
  refine x_istore_n C dX1_readWord_4 5 rfl (by decide) (fun v2_4 => [(2, .int v2_4), (0, .ref (ad 49)), (1, .ref (ad 2))]) (fun _ => rfl) h (fun v2_4 h => ?_)
  refine x_aload_n C dX1_readWord_5 6 rfl 2 rfl ?_
  refine x_iconst C dX1_readWord_6 7 rfl 0 rfl ?_
  obtain ⟨r7, a7, hq, h⟩ := xb_some h
  refine x_callVi C 2 (c_X9_peek C.2.2.2.2.2.2.1 hq) lc2 EC_2 rfl wml_X1_42 wq_X9_peek rfl ⟨by decide, by decide⟩ rfl rfl ⟨by decide, by decide⟩ dX1_readWord_7 10 rfl rfl (Nat.le_of_ble_eq_true rfl) ?_
  obtain ⟨r10, a10, hq, h⟩ := xb_some h
  refine x_callNi C (c_X11_isLetter C.2.2.2.2.2.2.1 hq) xn_X1_46 wq_X11_isLetter rfl ⟨by decide, by decide⟩ rfl rfl ⟨by decide, by decide⟩ dX1_readWord_10 13 rfl rfl (Nat.le_of_ble_eq_true rfl) ?_
  refine x_if_ne C dX1_readWord_13 16 rfl 25 rfl h (fun h => ?_) (fun h => ?_)
  · exact x_sub [1, 2, 0] rfl (b_X1_readWord_25_follows C  N h)
  · refine x_aload_n C dX1_readWord_16 17 rfl 2 rfl ?_
    refine x_iconst C dX1_readWord_17 18 rfl 1 rfl ?_
    refine x_iload_n C dX1_readWord_18 19 rfl 0 rfl ?_
    obtain ⟨r19, a19, hq, h⟩ := xb_some h
    refine x_callVi C 2 (c_X9_refuse C.2.2.2.2.2.2.1 hq) lc2 EC_2 rfl wml_X1_53 wq_X9_refuse rfl ⟨by decide, by decide⟩ rfl rfl ⟨by decide, by decide⟩ dX1_readWord_19 22 rfl rfl (Nat.le_of_ble_eq_true rfl) ?_
    refine x_pop C dX1_readWord_22 23 rfl rfl ?_
    refine x_iconst C dX1_readWord_23 24 rfl (-1) rfl ?_
    exact x_iret C rfl dX1_readWord_24 h
abbrev rm_X9_readNumber : Room := { frames := 1, cells := 0, slots := 0, locals := 22 }
theorem wq_X9_readNumber : xcV RX9 yX9_readNumber cX9_readNumber 4 (some .int) 1 := ⟨wmi_X9_readNumber, wms_X9_readNumber, wmn_X9, wmc_X9_readNumber, by decide, by decide, by decide +kernel⟩
def F_X9_readNumber_100 (N : Nat) (ah : AH) (v2 : Int32) : Option (Int32 × AH) := xb (F_X9_refuse N ah 2 v2) (fun r103 a103 => some ((-1), a103))
def F_X9_readNumber_89 (N : Nat) (ah : AH) (v1 : Int32) (v2 : Int32) (v3 : Int32) : Option (Int32 × AH) := if v3 < v1 then F_X9_readNumber_100 N ah v2 else if v3 ≤ 99 then some (v3, ah) else F_X9_readNumber_100 N ah v2
def F_X9_readNumber_27 (N : Nat) : Nat → AH → Int32 → Int32 → Int32 → Option (Int32 × AH)
  | 0, _, _, _, _ => none
  | n + 1, ah, v1, v2, v3 => if (ah 2 2) ≤ (ah 2 3) then F_X9_readNumber_89 N ah v1 v2 v3 else xg (ah 2 3) 400 (xb (F_X11_isDigit N ah (ah 3 (Int32.toNatClampNeg (ah 2 3)))) (fun r47 a47 => if r47 = 0 then F_X9_readNumber_89 N a47 v1 v2 v3 else xg (a47 2 3) 400 (xlet (xmin (((v3 * 10) + (a47 3 (Int32.toNatClampNeg (a47 2 3)))) - 48) 100) (fun v3_75 => xlet (xu a47 2 3 ((a47 2 3) + 1)) (fun a83 => F_X9_readNumber_27 N n a83 v1 v2 v3_75)))))
def F_X9_readNumber (N : Nat) (ah : AH) (p1 : Int32) : Option (Int32 × AH) := xlet (ah 2 3) (fun v2_4 => xb (F_X9_peek N ah 0) (fun r7 a7 => xb (F_X11_isDigit N a7 r7) (fun r10 a10 => if r10 = 0 then xb (F_X9_refuse N a10 1 v2_4) (fun r19 a19 => some ((-1), a19)) else xlet 0 (fun v3_26 => F_X9_readNumber_27 N N a10 p1 v2_4 v3_26))))
theorem b_X9_readNumber_100 (C : XC p l s m args meth c cX9_readNumber 4 (some .int) RX9 D vwCl (tysC ca) (EC ad ca) NCC ad) {N : Nat} {o : (Int32 × AH)} {ah : AH} {v2 : Int32} (h : F_X9_readNumber_100 N ah v2 = some o) : XW p l e rm_X9_readNumber s m args below meth c 4 0 (xQi below args s D vwCl (tysC ca) (EC ad ca) NCC ad o) D vwCl (EC ad ca) NCC ad ah 100 [(0, .ref (ad 2)), (2, .int v2)] [] := by
  unfold F_X9_readNumber_100 at h
  refine x_aload_n C dX9_readNumber_100 101 rfl 0 rfl ?_
  refine x_iconst C dX9_readNumber_101 102 rfl 2 rfl ?_
  refine x_iload_n C dX9_readNumber_102 103 rfl 1 rfl ?_
  obtain ⟨r103, a103, hq, h⟩ := xb_some h
  refine x_callVi C 2 (c_X9_refuse C.2.2.2.2.2.2.1 hq) lc2 EC_2 rfl wml_X9_39 wq_X9_refuse rfl ⟨by decide, by decide⟩ rfl rfl ⟨by decide, by decide⟩ dX9_readNumber_103 106 rfl rfl (Nat.le_of_ble_eq_true rfl) ?_
  refine x_pop C dX9_readNumber_106 107 rfl rfl ?_
  refine x_iconst C dX9_readNumber_107 108 rfl (-1) rfl ?_
  exact x_iret C rfl dX9_readNumber_108 h
theorem b_X9_readNumber_89 (C : XC p l s m args meth c cX9_readNumber 4 (some .int) RX9 D vwCl (tysC ca) (EC ad ca) NCC ad) {N : Nat} {o : (Int32 × AH)} {ah : AH} {v1 : Int32} {v2 : Int32} {v3 : Int32} (h : F_X9_readNumber_89 N ah v1 v2 v3 = some o) : XW p l e rm_X9_readNumber s m args below meth c 4 0 (xQi below args s D vwCl (tysC ca) (EC ad ca) NCC ad o) D vwCl (EC ad ca) NCC ad ah 89 [(0, .ref (ad 2)), (1, .int v1), (2, .int v2), (3, .int v3)] [] := by
  unfold F_X9_readNumber_89 at h
  refine x_iload_n C dX9_readNumber_89 90 rfl 3 rfl ?_
  refine x_iload_n C dX9_readNumber_90 91 rfl 1 rfl ?_
  refine x_icmp_lt C dX9_readNumber_91 94 rfl 100 rfl h (fun h => ?_) (fun h => ?_)
  · exact x_sub [0, 2] rfl (b_X9_readNumber_100 C  h)
  · refine x_iload_n C dX9_readNumber_94 95 rfl 3 rfl ?_
    refine x_bipush C dX9_readNumber_95 97 rfl 99 rfl ?_
    refine x_icmp_le C dX9_readNumber_97 100 rfl 109 rfl h (fun h => ?_) (fun h => ?_)
    · refine x_iload_n C dX9_readNumber_109 110 rfl 3 rfl ?_
      exact x_iret C rfl dX9_readNumber_110 h
    · exact x_sub [0, 2] rfl (b_X9_readNumber_100 C  h)
theorem b_X9_readNumber_27 (C : XC p l s m args meth c cX9_readNumber 4 (some .int) RX9 D vwCl (tysC ca) (EC ad ca) NCC ad) {N : Nat} {o : (Int32 × AH)} : ∀ (n : Nat) {ah : AH} {v1 : Int32} {v2 : Int32} {v3 : Int32}, F_X9_readNumber_27 N n ah v1 v2 v3 = some o → XW p l e rm_X9_readNumber s m args below meth c 4 0 (xQi below args s D vwCl (tysC ca) (EC ad ca) NCC ad o) D vwCl (EC ad ca) NCC ad ah 27 [(0, .ref (ad 2)), (1, .int v1), (2, .int v2), (3, .int v3)] [] := by
  intro n
  induction n with
  | zero => intro ah v1 v2 v3 h; unfold F_X9_readNumber_27 at h; cases h
  | succ n ih =>
    intro ah v1 v2 v3 h
    unfold F_X9_readNumber_27 at h
    refine x_aload_n C dX9_readNumber_27 28 rfl 0 rfl ?_
    refine x_get C inX9 2 lc2 EC_2 rfl 3 (by decide) dX9_readNumber_28 31 rfl wmf_X9_25 rfl ?_
    refine x_aload_n C dX9_readNumber_31 32 rfl 0 rfl ?_
    refine x_get C inX9 2 lc2 EC_2 rfl 2 (by decide) dX9_readNumber_32 35 rfl wmf_X9_22 rfl ?_
    refine x_icmp_ge C dX9_readNumber_35 38 rfl 89 rfl h (fun h => ?_) (fun h => ?_)
    · exact b_X9_readNumber_89 C  h
    · refine x_aload_n C dX9_readNumber_38 39 rfl 0 rfl ?_
      refine x_get C inX9 2 lc2 EC_2 rfl 0 (by decide) dX9_readNumber_39 42 rfl wmf_X9_9 rfl ?_
      refine x_aload_n C dX9_readNumber_42 43 rfl 0 rfl ?_
      refine x_get C inX9 2 lc2 EC_2 rfl 3 (by decide) dX9_readNumber_43 46 rfl wmf_X9_25 rfl ?_
      refine x_iald C 3 lc3 EC_3 0 rfl dX9_readNumber_46 47 rfl h (fun h => ?_)
      obtain ⟨r47, a47, hq, h⟩ := xb_some h
      refine x_callNi C (c_X11_isDigit C.2.2.2.2.2.2.1 hq) xn_X9_35 wq_X11_isDigit rfl ⟨by decide, by decide⟩ rfl rfl ⟨by decide, by decide⟩ dX9_readNumber_47 50 rfl rfl (Nat.le_of_ble_eq_true rfl) ?_
      refine x_if_eq C dX9_readNumber_50 53 rfl 89 rfl h (fun h => ?_) (fun h => ?_)
      · exact b_X9_readNumber_89 C  h
      · refine x_iload_n C dX9_readNumber_53 54 rfl 3 rfl ?_
        refine x_bipush C dX9_readNumber_54 56 rfl 10 rfl ?_
        refine x_imul C dX9_readNumber_56 57 rfl ?_
        refine x_aload_n C dX9_readNumber_57 58 rfl 0 rfl ?_
        refine x_get C inX9 2 lc2 EC_2 rfl 0 (by decide) dX9_readNumber_58 61 rfl wmf_X9_9 rfl ?_
        refine x_aload_n C dX9_readNumber_61 62 rfl 0 rfl ?_
        refine x_get C inX9 2 lc2 EC_2 rfl 3 (by decide) dX9_readNumber_62 65 rfl wmf_X9_25 rfl ?_
        refine x_iald C 3 lc3 EC_3 0 rfl dX9_readNumber_65 66 rfl h (fun h => ?_)
        refine x_iadd C dX9_readNumber_66 67 rfl ?_
        refine x_bipush C dX9_readNumber_67 69 rfl 48 rfl ?_
        refine x_isub C dX9_readNumber_69 70 rfl ?_
        refine x_bipush C dX9_readNumber_70 72 rfl 100 rfl ?_
        refine x_mmin C wml_X9_43 wmt_J9_min wmn_J9 wmc_J9_min ⟨by decide, by decide⟩ (by decide) (Nat.le_of_ble_eq_true rfl) dX9_readNumber_72 75 rfl ?_
        refine x_istore_n C dX9_readNumber_75 76 rfl (by decide) (fun v3_75 => [(3, .int v3_75), (0, .ref (ad 2)), (1, .int v1), (2, .int v2)]) (fun _ => rfl) h (fun v3_75 h => ?_)
        refine x_aload_n C dX9_readNumber_76 77 rfl 1 rfl ?_
        refine x_dup C dX9_readNumber_77 78 rfl rfl ?_
        refine x_get C inX9 2 lc2 EC_2 rfl 3 (by decide) dX9_readNumber_78 81 rfl wmf_X9_25 rfl ?_
        refine x_iconst C dX9_readNumber_81 82 rfl 1 rfl ?_
        refine x_iadd C dX9_readNumber_82 83 rfl ?_
        refine x_put C inX9 2 lc2 EC_2 rfl 3 (by decide) tyX9_ok nmX9 dX9_readNumber_83 86 rfl wmf_X9_25 rfl rfl rfl (Nat.le_of_ble_eq_true rfl) EP_2_3 h (fun a83 h => ?_)
        refine x_goto C dX9_readNumber_86 27 rfl ?_
        exact x_sub [1, 2, 3, 0] rfl (ih h)
theorem c_X9_readNumber {l : Launch} {D : va_G} {ca : Nat → ClassId} {ad : Nat → Nat} (hI : xInj ad NCC) {N : Nat} {ah : AH} {p1 : Int32} {r : Int32} {a : AH} (h : F_X9_readNumber N ah p1 = some (r, a)) : xMi l yX9_readNumber cX9_readNumber 4 (some .int) rm_X9_readNumber D vwCl (tysC ca) (EC ad ca) NCC ad [.ref (ad 2), .int p1] ah (r, a) := by
  refine x_meti (by decide) (Nat.le_of_ble_eq_true rfl) hI EC_loc ?_
  intro p e s m args below meth c C
  unfold F_X9_readNumber at h
  refine x_aload_n C dX9_readNumber_0 1 rfl 0 rfl ?_
  refine x_get C inX9 2 lc2 EC_2 rfl 3 (by decide) dX9_readNumber_1 4 rfl wmf_X9_25 rfl ?_
  refine x_istore_n C dX9_readNumber_4 5 rfl (by decide) (fun v2_4 => [(2, .int v2_4), (0, .ref (ad 2)), (1, .int p1)]) (fun _ => rfl) h (fun v2_4 h => ?_)
  refine x_aload_n C dX9_readNumber_5 6 rfl 1 rfl ?_
  refine x_iconst C dX9_readNumber_6 7 rfl 0 rfl ?_
  obtain ⟨r7, a7, hq, h⟩ := xb_some h
  refine x_callVi C 2 (c_X9_peek C.2.2.2.2.2.2.1 hq) lc2 EC_2 rfl wml_X9_31 wq_X9_peek rfl ⟨by decide, by decide⟩ rfl rfl ⟨by decide, by decide⟩ dX9_readNumber_7 10 rfl rfl (Nat.le_of_ble_eq_true rfl) ?_
  obtain ⟨r10, a10, hq, h⟩ := xb_some h
  refine x_callNi C (c_X11_isDigit C.2.2.2.2.2.2.1 hq) xn_X9_35 wq_X11_isDigit rfl ⟨by decide, by decide⟩ rfl rfl ⟨by decide, by decide⟩ dX9_readNumber_10 13 rfl rfl (Nat.le_of_ble_eq_true rfl) ?_
  refine x_if_ne C dX9_readNumber_13 16 rfl 25 rfl h (fun h => ?_) (fun h => ?_)
  · refine x_iconst C dX9_readNumber_25 26 rfl 0 rfl ?_
    refine x_istore_n C dX9_readNumber_26 27 rfl (by decide) (fun v3_26 => [(3, .int v3_26), (2, .int v2_4), (0, .ref (ad 2)), (1, .int p1)]) (fun _ => rfl) h (fun v3_26 h => ?_)
    exact x_sub [2, 3, 1, 0] rfl (b_X9_readNumber_27 C  N h)
  · refine x_aload_n C dX9_readNumber_16 17 rfl 1 rfl ?_
    refine x_iconst C dX9_readNumber_17 18 rfl 1 rfl ?_
    refine x_iload_n C dX9_readNumber_18 19 rfl 0 rfl ?_
    obtain ⟨r19, a19, hq, h⟩ := xb_some h
    refine x_callVi C 2 (c_X9_refuse C.2.2.2.2.2.2.1 hq) lc2 EC_2 rfl wml_X9_39 wq_X9_refuse rfl ⟨by decide, by decide⟩ rfl rfl ⟨by decide, by decide⟩ dX9_readNumber_19 22 rfl rfl (Nat.le_of_ble_eq_true rfl) ?_
    refine x_pop C dX9_readNumber_22 23 rfl rfl ?_
    refine x_iconst C dX9_readNumber_23 24 rfl (-1) rfl ?_
    exact x_iret C rfl dX9_readNumber_24 h
abbrev rm_X9_readEnding : Room := { frames := 2, cells := 0, slots := 0, locals := 45 }
theorem wq_X9_readEnding : xcV RX9 yX9_readEnding cX9_readEnding 4 (some .int) 2 := ⟨wmi_X9_readEnding, wms_X9_readEnding, wmn_X9, wmc_X9_readEnding, by decide, by decide, by decide +kernel⟩
def F_X9_readEnding_39 (N : Nat) (ah : AH) (v3 : Int32) : Option (Int32 × AH) := xb (F_X9_peek N ah 0) (fun r41 a41 => if r41 = 59 then xlet (xu a41 2 3 ((a41 2 3) + 1)) (fun a68 => some (v3, a68)) else xb (F_X9_refuse N a41 1 (a41 2 3)) (fun r55 a55 => some ((-1), a55)))
def F_X9_readEnding_22 (N : Nat) (ah : AH) (v2 : Int32) : Option (Int32 × AH) := xb (F_X9_readNumber N ah v2) (fun r24 a24 => xlet r24 (fun v3_27 => if v3_27 = ((-1)) then some ((-1), a24) else xbv (F_X9_skipBlanks N a24) (fun a36 => F_X9_readEnding_39 N a36 v3_27)))
def F_X9_readEnding (N : Nat) (ah : AH) (p1 : Int32) (p2 : Int32) : Option (Int32 × AH) := xbv (F_X9_skipBlanks N ah) (fun a1 => xlet p1 (fun v3_5 => if p1 = ((-1)) then F_X9_readEnding_22 N a1 p2 else xb (F_X9_peek N a1 0) (fun r13 a13 => xb (F_X11_isDigit N a13 r13) (fun r16 a16 => if r16 = 0 then F_X9_readEnding_39 N a16 v3_5 else F_X9_readEnding_22 N a16 p2))))
theorem b_X9_readEnding_39 (C : XC p l s m args meth c cX9_readEnding 4 (some .int) RX9 D vwCl (tysC ca) (EC ad ca) NCC ad) {N : Nat} {o : (Int32 × AH)} {ah : AH} {v3 : Int32} (h : F_X9_readEnding_39 N ah v3 = some o) : XW p l e rm_X9_readEnding s m args below meth c 4 0 (xQi below args s D vwCl (tysC ca) (EC ad ca) NCC ad o) D vwCl (EC ad ca) NCC ad ah 39 [(0, .ref (ad 2)), (3, .int v3)] [] := by
  unfold F_X9_readEnding_39 at h
  refine x_aload_n C dX9_readEnding_39 40 rfl 0 rfl ?_
  refine x_iconst C dX9_readEnding_40 41 rfl 0 rfl ?_
  obtain ⟨r41, a41, hq, h⟩ := xb_some h
  refine x_callVi C 2 (c_X9_peek C.2.2.2.2.2.2.1 hq) lc2 EC_2 rfl wml_X9_31 wq_X9_peek rfl ⟨by decide, by decide⟩ rfl rfl ⟨by decide, by decide⟩ dX9_readEnding_41 44 rfl rfl (Nat.le_of_ble_eq_true rfl) ?_
  refine x_bipush C dX9_readEnding_44 46 rfl 59 rfl ?_
  refine x_icmp_eq C dX9_readEnding_46 49 rfl 61 rfl h (fun h => ?_) (fun h => ?_)
  · refine x_aload_n C dX9_readEnding_61 62 rfl 0 rfl ?_
    refine x_dup C dX9_readEnding_62 63 rfl rfl ?_
    refine x_get C inX9 2 lc2 EC_2 rfl 3 (by decide) dX9_readEnding_63 66 rfl wmf_X9_25 rfl ?_
    refine x_iconst C dX9_readEnding_66 67 rfl 1 rfl ?_
    refine x_iadd C dX9_readEnding_67 68 rfl ?_
    refine x_put C inX9 2 lc2 EC_2 rfl 3 (by decide) tyX9_ok nmX9 dX9_readEnding_68 71 rfl wmf_X9_25 rfl rfl rfl (Nat.le_of_ble_eq_true rfl) EP_2_3 h (fun a68 h => ?_)
    refine x_iload_n C dX9_readEnding_71 72 rfl 1 rfl ?_
    exact x_iret C rfl dX9_readEnding_72 h
  · refine x_aload_n C dX9_readEnding_49 50 rfl 0 rfl ?_
    refine x_iconst C dX9_readEnding_50 51 rfl 1 rfl ?_
    refine x_aload_n C dX9_readEnding_51 52 rfl 0 rfl ?_
    refine x_get C inX9 2 lc2 EC_2 rfl 3 (by decide) dX9_readEnding_52 55 rfl wmf_X9_25 rfl ?_
    obtain ⟨r55, a55, hq, h⟩ := xb_some h
    refine x_callVi C 2 (c_X9_refuse C.2.2.2.2.2.2.1 hq) lc2 EC_2 rfl wml_X9_39 wq_X9_refuse rfl ⟨by decide, by decide⟩ rfl rfl ⟨by decide, by decide⟩ dX9_readEnding_55 58 rfl rfl (Nat.le_of_ble_eq_true rfl) ?_
    refine x_pop C dX9_readEnding_58 59 rfl rfl ?_
    refine x_iconst C dX9_readEnding_59 60 rfl (-1) rfl ?_
    exact x_iret C rfl dX9_readEnding_60 h
theorem b_X9_readEnding_22 (C : XC p l s m args meth c cX9_readEnding 4 (some .int) RX9 D vwCl (tysC ca) (EC ad ca) NCC ad) {N : Nat} {o : (Int32 × AH)} {ah : AH} {v2 : Int32} (h : F_X9_readEnding_22 N ah v2 = some o) : XW p l e rm_X9_readEnding s m args below meth c 4 0 (xQi below args s D vwCl (tysC ca) (EC ad ca) NCC ad o) D vwCl (EC ad ca) NCC ad ah 22 [(0, .ref (ad 2)), (2, .int v2)] [] := by
  unfold F_X9_readEnding_22 at h
  refine x_aload_n C dX9_readEnding_22 23 rfl 0 rfl ?_
  refine x_iload_n C dX9_readEnding_23 24 rfl 1 rfl ?_
  obtain ⟨r24, a24, hq, h⟩ := xb_some h
  refine x_callVi C 2 (c_X9_readNumber C.2.2.2.2.2.2.1 hq) lc2 EC_2 rfl wml_X9_52 wq_X9_readNumber rfl ⟨by decide, by decide⟩ rfl rfl ⟨by decide, by decide⟩ dX9_readEnding_24 27 rfl rfl (Nat.le_of_ble_eq_true rfl) ?_
  refine x_istore_n C dX9_readEnding_27 28 rfl (by decide) (fun v3_27 => [(3, .int v3_27), (0, .ref (ad 2)), (2, .int v2)]) (fun _ => rfl) h (fun v3_27 h => ?_)
  refine x_iload_n C dX9_readEnding_28 29 rfl 0 rfl ?_
  refine x_iconst C dX9_readEnding_29 30 rfl (-1) rfl ?_
  refine x_icmp_ne C dX9_readEnding_30 33 rfl 35 rfl h (fun h => ?_) (fun h => ?_)
  · refine x_aload_n C dX9_readEnding_35 36 rfl 1 rfl ?_
    obtain ⟨a36, hq, h⟩ := xbv_some h
    refine x_callVv C 2 (c_X9_skipBlanks C.2.2.2.2.2.2.1 hq) lc2 EC_2 rfl wml_X9_49 wq_X9_skipBlanks rfl ⟨by decide, by decide⟩ rfl rfl ⟨by decide, by decide⟩ dX9_readEnding_36 39 rfl rfl (Nat.le_of_ble_eq_true rfl) ?_
    exact x_sub [1, 0] rfl (b_X9_readEnding_39 C  h)
  · refine x_iconst C dX9_readEnding_33 34 rfl (-1) rfl ?_
    exact x_iret C rfl dX9_readEnding_34 h
theorem c_X9_readEnding {l : Launch} {D : va_G} {ca : Nat → ClassId} {ad : Nat → Nat} (hI : xInj ad NCC) {N : Nat} {ah : AH} {p1 : Int32} {p2 : Int32} {r : Int32} {a : AH} (h : F_X9_readEnding N ah p1 p2 = some (r, a)) : xMi l yX9_readEnding cX9_readEnding 4 (some .int) rm_X9_readEnding D vwCl (tysC ca) (EC ad ca) NCC ad [.ref (ad 2), .int p1, .int p2] ah (r, a) := by
  refine x_meti (by decide) (Nat.le_of_ble_eq_true rfl) hI EC_loc ?_
  intro p e s m args below meth c C
  unfold F_X9_readEnding at h
  refine x_aload_n C dX9_readEnding_0 1 rfl 0 rfl ?_
  obtain ⟨a1, hq, h⟩ := xbv_some h
  refine x_callVv C 2 (c_X9_skipBlanks C.2.2.2.2.2.2.1 hq) lc2 EC_2 rfl wml_X9_49 wq_X9_skipBlanks rfl ⟨by decide, by decide⟩ rfl rfl ⟨by decide, by decide⟩ dX9_readEnding_1 4 rfl rfl (Nat.le_of_ble_eq_true rfl) ?_
  refine x_iload_n C dX9_readEnding_4 5 rfl 1 rfl ?_
  refine x_istore_n C dX9_readEnding_5 6 rfl (by decide) (fun v3_5 => [(3, .int v3_5), (0, .ref (ad 2)), (1, .int p1), (2, .int p2)]) (fun _ => rfl) h (fun v3_5 h => ?_)
  refine x_iload_n C dX9_readEnding_6 7 rfl 2 rfl ?_
  refine x_iconst C dX9_readEnding_7 8 rfl (-1) rfl ?_
  refine x_icmp_eq C dX9_readEnding_8 11 rfl 22 rfl h (fun h => ?_) (fun h => ?_)
  · exact x_sub [1, 3] rfl (b_X9_readEnding_22 C  h)
  · refine x_aload_n C dX9_readEnding_11 12 rfl 1 rfl ?_
    refine x_iconst C dX9_readEnding_12 13 rfl 0 rfl ?_
    obtain ⟨r13, a13, hq, h⟩ := xb_some h
    refine x_callVi C 2 (c_X9_peek C.2.2.2.2.2.2.1 hq) lc2 EC_2 rfl wml_X9_31 wq_X9_peek rfl ⟨by decide, by decide⟩ rfl rfl ⟨by decide, by decide⟩ dX9_readEnding_13 16 rfl rfl (Nat.le_of_ble_eq_true rfl) ?_
    obtain ⟨r16, a16, hq, h⟩ := xb_some h
    refine x_callNi C (c_X11_isDigit C.2.2.2.2.2.2.1 hq) xn_X9_35 wq_X11_isDigit rfl ⟨by decide, by decide⟩ rfl rfl ⟨by decide, by decide⟩ dX9_readEnding_16 19 rfl rfl (Nat.le_of_ble_eq_true rfl) ?_
    refine x_if_eq C dX9_readEnding_19 22 rfl 39 rfl h (fun h => ?_) (fun h => ?_)
    · exact x_sub [1, 0] rfl (b_X9_readEnding_39 C  h)
    · exact x_sub [1, 3] rfl (b_X9_readEnding_22 C  h)
abbrev rm_X1_readEntry : Room := { frames := 3, cells := 0, slots := 0, locals := 72 }
theorem wq_X1_readEntry : xcV RX1 yX1_readEntry cX1_readEntry 5 (some .boolean) 1 := ⟨wmi_X1_readEntry, wms_X1_readEntry, wmn_X1, wmc_X1_readEntry, by decide, by decide, by decide +kernel⟩
def F_X1_readEntry_30 (N : Nat) (k : Nat) (ah : AH) : Option (Int32 × AH) := xb (F_X1_readWord N k ah) (fun r32 a32 => xlet r32 (fun v2_35 => if v2_35 = ((-1)) then some (0, a32) else xb (F_X9_peek N a32 0) (fun r45 a45 => if r45 = 32 then xbv (F_X9_skipBlanks N a45) (fun a64 => xb (F_X1_readWord N k a64) (fun r69 a69 => xlet r69 (fun v3_72 => if v3_72 = ((-1)) then some (0, a69) else xb (F_X9_readEnding N a69 ((-1)) 0) (fun r83 a83 => xlet r83 (fun v4_86 => if v4_86 = ((-1)) then some (0, a83) else xg (a83 k 1) 60 (xlet (xu a83 (k + 1) (Int32.toNatClampNeg (a83 k 1)) v2_35) (fun a105 => xg (a105 k 1) 60 (xlet (xu a105 (k + 2) (Int32.toNatClampNeg (a105 k 1)) v3_72) (fun a115 => xg (a115 k 1) 60 (xlet (xu a115 (k + 3) (Int32.toNatClampNeg (a115 k 1)) v4_86) (fun a126 => xlet (xu a126 k 1 ((a126 k 1) + 1)) (fun a134 => some (1, a134))))))))))))) else xb (F_X9_refuse N a45 1 (a45 2 3)) (fun r59 a59 => xbo r59 (some (r59, a59))))))
def F_X1_readEntry (N : Nat) (k : Nat) (ah : AH) : Option (Int32 × AH) := xb (F_X9_peek N ah 0) (fun r2 a2 => xb (F_X11_isLetter N a2 r2) (fun r5 a5 => if r5 = 0 then F_X1_readEntry_30 N k a5 else if (a5 k 1) < 60 then F_X1_readEntry_30 N k a5 else xb (F_X9_refuse N a5 3 (a5 2 3)) (fun r26 a26 => xbo r26 (some (r26, a26)))))
theorem b_X1_readEntry_30_follows (C : XC p l s m args meth c cX1_readEntry 5 (some .boolean) RX1 D vwCl (tysC ca) (EC ad ca) NCC ad) {N : Nat} {o : (Int32 × AH)} {ah : AH} (h : F_X1_readEntry_30 N 49 ah = some o) : XW p l e rm_X1_readEntry s m args below meth c 5 0 (xQi below args s D vwCl (tysC ca) (EC ad ca) NCC ad o) D vwCl (EC ad ca) NCC ad ah 30 [(0, .ref (ad 49)), (1, .ref (ad 2))] [] := by
  unfold F_X1_readEntry_30 at h
  refine x_aload_n C dX1_readEntry_30 31 rfl 0 rfl ?_
  refine x_aload_n C dX1_readEntry_31 32 rfl 1 rfl ?_
  obtain ⟨r32, a32, hq, h⟩ := xb_some h
  refine x_callVi C 49 (c_X1_readWord_follows C.2.2.2.2.2.2.1 hq) lc49 EC_49 rfl wml_X1_57 wq_X1_readWord rfl ⟨by decide, by decide⟩ rfl rfl ⟨by decide, by decide⟩ dX1_readEntry_32 35 rfl rfl (Nat.le_of_ble_eq_true rfl) ?_
  refine x_istore_n C dX1_readEntry_35 36 rfl (by decide) (fun v2_35 => [(2, .int v2_35), (0, .ref (ad 49)), (1, .ref (ad 2))]) (fun _ => rfl) h (fun v2_35 h => ?_)
  refine x_iload_n C dX1_readEntry_36 37 rfl 0 rfl ?_
  refine x_iconst C dX1_readEntry_37 38 rfl (-1) rfl ?_
  refine x_icmp_ne C dX1_readEntry_38 41 rfl 43 rfl h (fun h => ?_) (fun h => ?_)
  · refine x_aload_n C dX1_readEntry_43 44 rfl 2 rfl ?_
    refine x_iconst C dX1_readEntry_44 45 rfl 0 rfl ?_
    obtain ⟨r45, a45, hq, h⟩ := xb_some h
    refine x_callVi C 2 (c_X9_peek C.2.2.2.2.2.2.1 hq) lc2 EC_2 rfl wml_X1_42 wq_X9_peek rfl ⟨by decide, by decide⟩ rfl rfl ⟨by decide, by decide⟩ dX1_readEntry_45 48 rfl rfl (Nat.le_of_ble_eq_true rfl) ?_
    refine x_bipush C dX1_readEntry_48 50 rfl 32 rfl ?_
    refine x_icmp_eq C dX1_readEntry_50 53 rfl 63 rfl h (fun h => ?_) (fun h => ?_)
    · refine x_aload_n C dX1_readEntry_63 64 rfl 2 rfl ?_
      obtain ⟨a64, hq, h⟩ := xbv_some h
      refine x_callVv C 2 (c_X9_skipBlanks C.2.2.2.2.2.2.1 hq) lc2 EC_2 rfl wml_X1_29 wq_X9_skipBlanks rfl ⟨by decide, by decide⟩ rfl rfl ⟨by decide, by decide⟩ dX1_readEntry_64 67 rfl rfl (Nat.le_of_ble_eq_true rfl) ?_
      refine x_aload_n C dX1_readEntry_67 68 rfl 1 rfl ?_
      refine x_aload_n C dX1_readEntry_68 69 rfl 2 rfl ?_
      obtain ⟨r69, a69, hq, h⟩ := xb_some h
      refine x_callVi C 49 (c_X1_readWord_follows C.2.2.2.2.2.2.1 hq) lc49 EC_49 rfl wml_X1_57 wq_X1_readWord rfl ⟨by decide, by decide⟩ rfl rfl ⟨by decide, by decide⟩ dX1_readEntry_69 72 rfl rfl (Nat.le_of_ble_eq_true rfl) ?_
      refine x_istore_n C dX1_readEntry_72 73 rfl (by decide) (fun v3_72 => [(3, .int v3_72), (2, .int v2_35), (0, .ref (ad 49)), (1, .ref (ad 2))]) (fun _ => rfl) h (fun v3_72 h => ?_)
      refine x_iload_n C dX1_readEntry_73 74 rfl 0 rfl ?_
      refine x_iconst C dX1_readEntry_74 75 rfl (-1) rfl ?_
      refine x_icmp_ne C dX1_readEntry_75 78 rfl 80 rfl h (fun h => ?_) (fun h => ?_)
      · refine x_aload_n C dX1_readEntry_80 81 rfl 3 rfl ?_
        refine x_iconst C dX1_readEntry_81 82 rfl (-1) rfl ?_
        refine x_iconst C dX1_readEntry_82 83 rfl 0 rfl ?_
        obtain ⟨r83, a83, hq, h⟩ := xb_some h
        refine x_callVi C 2 (c_X9_readEnding C.2.2.2.2.2.2.1 hq) lc2 EC_2 rfl wml_X1_61 wq_X9_readEnding rfl ⟨by decide, by decide⟩ rfl rfl ⟨by decide, by decide⟩ dX1_readEntry_83 86 rfl rfl (Nat.le_of_ble_eq_true rfl) ?_
        refine x_istore C dX1_readEntry_86 88 rfl (by decide) (fun v4_86 => [(4, .int v4_86), (3, .int v3_72), (2, .int v2_35), (0, .ref (ad 49)), (1, .ref (ad 2))]) (fun _ => rfl) h (fun v4_86 h => ?_)
        refine x_iload C dX1_readEntry_88 90 rfl 0 rfl ?_
        refine x_iconst C dX1_readEntry_90 91 rfl (-1) rfl ?_
        refine x_icmp_ne C dX1_readEntry_91 94 rfl 96 rfl h (fun h => ?_) (fun h => ?_)
        · refine x_aload_n C dX1_readEntry_96 97 rfl 3 rfl ?_
          refine x_get C inX1 49 lc49 EC_49 rfl 2 (by decide) dX1_readEntry_97 100 rfl wmf_X1_9 rfl ?_
          refine x_aload_n C dX1_readEntry_100 101 rfl 3 rfl ?_
          refine x_get C inX1 49 lc49 EC_49 rfl 1 (by decide) dX1_readEntry_101 104 rfl wmf_X1_25 rfl ?_
          refine x_iload_n C dX1_readEntry_104 105 rfl 2 rfl ?_
          refine x_iast C 50 lc50 (fun _ => EC_50) 0 rfl dX1_readEntry_105 106 rfl h (fun a105 h => ?_)
          refine x_aload_n C dX1_readEntry_106 107 rfl 3 rfl ?_
          refine x_get C inX1 49 lc49 EC_49 rfl 3 (by decide) dX1_readEntry_107 110 rfl wmf_X1_15 rfl ?_
          refine x_aload_n C dX1_readEntry_110 111 rfl 3 rfl ?_
          refine x_get C inX1 49 lc49 EC_49 rfl 1 (by decide) dX1_readEntry_111 114 rfl wmf_X1_25 rfl ?_
          refine x_iload_n C dX1_readEntry_114 115 rfl 1 rfl ?_
          refine x_iast C 51 lc51 (fun _ => EC_51) 0 rfl dX1_readEntry_115 116 rfl h (fun a115 h => ?_)
          refine x_aload_n C dX1_readEntry_116 117 rfl 3 rfl ?_
          refine x_get C inX1 49 lc49 EC_49 rfl 4 (by decide) dX1_readEntry_117 120 rfl wmf_X1_18 rfl ?_
          refine x_aload_n C dX1_readEntry_120 121 rfl 3 rfl ?_
          refine x_get C inX1 49 lc49 EC_49 rfl 1 (by decide) dX1_readEntry_121 124 rfl wmf_X1_25 rfl ?_
          refine x_iload C dX1_readEntry_124 126 rfl 0 rfl ?_
          refine x_iast C 52 lc52 (fun _ => EC_52) 0 rfl dX1_readEntry_126 127 rfl h (fun a126 h => ?_)
          refine x_aload_n C dX1_readEntry_127 128 rfl 3 rfl ?_
          refine x_dup C dX1_readEntry_128 129 rfl rfl ?_
          refine x_get C inX1 49 lc49 EC_49 rfl 1 (by decide) dX1_readEntry_129 132 rfl wmf_X1_25 rfl ?_
          refine x_iconst C dX1_readEntry_132 133 rfl 1 rfl ?_
          refine x_iadd C dX1_readEntry_133 134 rfl ?_
          refine x_put C inX1 49 lc49 EC_49 rfl 1 (by decide) tyX1_ok nmX1 dX1_readEntry_134 137 rfl wmf_X1_25 rfl rfl rfl (Nat.le_of_ble_eq_true rfl) EP_49_1 h (fun a134 h => ?_)
          refine x_iconst C dX1_readEntry_137 138 rfl 1 rfl ?_
          exact x_zret C rfl dX1_readEntry_138 (by decide) h
        · refine x_iconst C dX1_readEntry_94 95 rfl 0 rfl ?_
          exact x_zret C rfl dX1_readEntry_95 (by decide) h
      · refine x_iconst C dX1_readEntry_78 79 rfl 0 rfl ?_
        exact x_zret C rfl dX1_readEntry_79 (by decide) h
    · refine x_aload_n C dX1_readEntry_53 54 rfl 2 rfl ?_
      refine x_iconst C dX1_readEntry_54 55 rfl 1 rfl ?_
      refine x_aload_n C dX1_readEntry_55 56 rfl 2 rfl ?_
      refine x_get C inX9 2 lc2 EC_2 rfl 3 (by decide) dX1_readEntry_56 59 rfl wmf_X1_50 rfl ?_
      obtain ⟨r59, a59, hq, h⟩ := xb_some h
      refine x_callVi C 2 (c_X9_refuse C.2.2.2.2.2.2.1 hq) lc2 EC_2 rfl wml_X1_53 wq_X9_refuse rfl ⟨by decide, by decide⟩ rfl rfl ⟨by decide, by decide⟩ dX1_readEntry_59 62 rfl rfl (Nat.le_of_ble_eq_true rfl) ?_
      exact x_zretB C rfl dX1_readEntry_62 h
  · refine x_iconst C dX1_readEntry_41 42 rfl 0 rfl ?_
    exact x_zret C rfl dX1_readEntry_42 (by decide) h
theorem c_X1_readEntry_follows {l : Launch} {D : va_G} {ca : Nat → ClassId} {ad : Nat → Nat} (hI : xInj ad NCC) {N : Nat} {ah : AH} {r : Int32} {a : AH} (h : F_X1_readEntry N 49 ah = some (r, a)) : xMi l yX1_readEntry cX1_readEntry 5 (some .boolean) rm_X1_readEntry D vwCl (tysC ca) (EC ad ca) NCC ad [.ref (ad 49), .ref (ad 2)] ah (r, a) := by
  refine x_meti (by decide) (Nat.le_of_ble_eq_true rfl) hI EC_loc ?_
  intro p e s m args below meth c C
  unfold F_X1_readEntry at h
  refine x_aload_n C dX1_readEntry_0 1 rfl 1 rfl ?_
  refine x_iconst C dX1_readEntry_1 2 rfl 0 rfl ?_
  obtain ⟨r2, a2, hq, h⟩ := xb_some h
  refine x_callVi C 2 (c_X9_peek C.2.2.2.2.2.2.1 hq) lc2 EC_2 rfl wml_X1_42 wq_X9_peek rfl ⟨by decide, by decide⟩ rfl rfl ⟨by decide, by decide⟩ dX1_readEntry_2 5 rfl rfl (Nat.le_of_ble_eq_true rfl) ?_
  obtain ⟨r5, a5, hq, h⟩ := xb_some h
  refine x_callNi C (c_X11_isLetter C.2.2.2.2.2.2.1 hq) xn_X1_46 wq_X11_isLetter rfl ⟨by decide, by decide⟩ rfl rfl ⟨by decide, by decide⟩ dX1_readEntry_5 8 rfl rfl (Nat.le_of_ble_eq_true rfl) ?_
  refine x_if_eq C dX1_readEntry_8 11 rfl 30 rfl h (fun h => ?_) (fun h => ?_)
  · exact b_X1_readEntry_30_follows C  h
  · refine x_aload_n C dX1_readEntry_11 12 rfl 0 rfl ?_
    refine x_get C inX1 49 lc49 EC_49 rfl 1 (by decide) dX1_readEntry_12 15 rfl wmf_X1_25 rfl ?_
    refine x_bipush C dX1_readEntry_15 17 rfl 60 rfl ?_
    refine x_icmp_lt C dX1_readEntry_17 20 rfl 30 rfl h (fun h => ?_) (fun h => ?_)
    · exact b_X1_readEntry_30_follows C  h
    · refine x_aload_n C dX1_readEntry_20 21 rfl 1 rfl ?_
      refine x_iconst C dX1_readEntry_21 22 rfl 3 rfl ?_
      refine x_aload_n C dX1_readEntry_22 23 rfl 1 rfl ?_
      refine x_get C inX9 2 lc2 EC_2 rfl 3 (by decide) dX1_readEntry_23 26 rfl wmf_X1_50 rfl ?_
      obtain ⟨r26, a26, hq, h⟩ := xb_some h
      refine x_callVi C 2 (c_X9_refuse C.2.2.2.2.2.2.1 hq) lc2 EC_2 rfl wml_X1_53 wq_X9_refuse rfl ⟨by decide, by decide⟩ rfl rfl ⟨by decide, by decide⟩ dX1_readEntry_26 29 rfl rfl (Nat.le_of_ble_eq_true rfl) ?_
      exact x_zretB C rfl dX1_readEntry_29 h
abbrev rm_X1_readText : Room := { frames := 4, cells := 0, slots := 0, locals := 96 }
theorem wq_X1_readText : xcV RX1 yX1_readText cX1_readText 3 (some .boolean) 1 := ⟨wmi_X1_readText, wms_X1_readText, wmn_X1, wmc_X1_readText, by decide, by decide, by decide +kernel⟩
def F_X1_readText_7 (N : Nat) (k : Nat) : Nat → AH → Int32 → Option (Int32 × AH)
  | 0, _, _ => none
  | n + 1, ah, v2 => if 60 < v2 then some (0, ah) else xbv (F_X9_skipBlanks N ah) (fun a14 => xb (F_X9_atEnd N a14) (fun r18 a18 => if r18 = 0 then xb (F_X1_readEntry N k a18) (fun r28 a28 => if r28 = 0 then some (0, a28) else xlet (v2 + 1) (fun v2_36 => F_X1_readText_7 N k n a28 v2_36)) else some (1, a18)))
def F_X1_readText (N : Nat) (k : Nat) (ah : AH) : Option (Int32 × AH) := xlet (xu ah k 1 0) (fun a2 => xlet 0 (fun v2_6 => F_X1_readText_7 N k N a2 v2_6))
theorem b_X1_readText_7_follows (C : XC p l s m args meth c cX1_readText 3 (some .boolean) RX1 D vwCl (tysC ca) (EC ad ca) NCC ad) {N : Nat} {o : (Int32 × AH)} : ∀ (n : Nat) {ah : AH} {v2 : Int32}, F_X1_readText_7 N 49 n ah v2 = some o → XW p l e rm_X1_readText s m args below meth c 3 0 (xQi below args s D vwCl (tysC ca) (EC ad ca) NCC ad o) D vwCl (EC ad ca) NCC ad ah 7 [(0, .ref (ad 49)), (1, .ref (ad 2)), (2, .int v2)] [] := by
  intro n
  induction n with
  | zero => intro ah v2 h; unfold F_X1_readText_7 at h; cases h
  | succ n ih =>
    intro ah v2 h
    unfold F_X1_readText_7 at h
    refine x_iload_n C dX1_readText_7 8 rfl 2 rfl ?_
    refine x_bipush C dX1_readText_8 10 rfl 60 rfl ?_
    refine x_icmp_gt C dX1_readText_10 13 rfl 42 rfl h (fun h => ?_) (fun h => ?_)
    · refine x_iconst C dX1_readText_42 43 rfl 0 rfl ?_
      exact x_zret C rfl dX1_readText_43 (by decide) h
    · refine x_aload_n C dX1_readText_13 14 rfl 1 rfl ?_
      obtain ⟨a14, hq, h⟩ := xbv_some h
      refine x_callVv C 2 (c_X9_skipBlanks C.2.2.2.2.2.2.1 hq) lc2 EC_2 rfl wml_X1_29 wq_X9_skipBlanks rfl ⟨by decide, by decide⟩ rfl rfl ⟨by decide, by decide⟩ dX1_readText_14 17 rfl rfl (Nat.le_of_ble_eq_true rfl) ?_
      refine x_aload_n C dX1_readText_17 18 rfl 1 rfl ?_
      obtain ⟨r18, a18, hq, h⟩ := xb_some h
      refine x_callVi C 2 (c_X9_atEnd C.2.2.2.2.2.2.1 hq) lc2 EC_2 rfl wml_X1_34 wq_X9_atEnd rfl ⟨by decide, by decide⟩ rfl rfl ⟨by decide, by decide⟩ dX1_readText_18 21 rfl rfl (Nat.le_of_ble_eq_true rfl) ?_
      refine x_if_eq C dX1_readText_21 24 rfl 26 rfl h (fun h => ?_) (fun h => ?_)
      · refine x_aload_n C dX1_readText_26 27 rfl 0 rfl ?_
        refine x_aload_n C dX1_readText_27 28 rfl 1 rfl ?_
        obtain ⟨r28, a28, hq, h⟩ := xb_some h
        refine x_callVi C 49 (c_X1_readEntry_follows C.2.2.2.2.2.2.1 hq) lc49 EC_49 rfl wml_X1_38 wq_X1_readEntry rfl ⟨by decide, by decide⟩ rfl rfl ⟨by decide, by decide⟩ dX1_readText_28 31 rfl rfl (Nat.le_of_ble_eq_true rfl) ?_
        refine x_if_ne C dX1_readText_31 34 rfl 36 rfl h (fun h => ?_) (fun h => ?_)
        · refine x_iinc C dX1_readText_36 39 rfl 2 rfl (d := 1) rfl (by decide) (fun v2_36 => [(2, .int v2_36), (0, .ref (ad 49)), (1, .ref (ad 2))]) (fun _ => rfl) h (fun v2_36 h => ?_)
          refine x_goto C dX1_readText_39 7 rfl ?_
          exact x_sub [1, 2, 0] rfl (ih h)
        · refine x_iconst C dX1_readText_34 35 rfl 0 rfl ?_
          exact x_zret C rfl dX1_readText_35 (by decide) h
      · refine x_iconst C dX1_readText_24 25 rfl 1 rfl ?_
        exact x_zret C rfl dX1_readText_25 (by decide) h
theorem c_X1_readText_follows {l : Launch} {D : va_G} {ca : Nat → ClassId} {ad : Nat → Nat} (hI : xInj ad NCC) {N : Nat} {ah : AH} {r : Int32} {a : AH} (h : F_X1_readText N 49 ah = some (r, a)) : xMi l yX1_readText cX1_readText 3 (some .boolean) rm_X1_readText D vwCl (tysC ca) (EC ad ca) NCC ad [.ref (ad 49), .ref (ad 2)] ah (r, a) := by
  refine x_meti (by decide) (Nat.le_of_ble_eq_true rfl) hI EC_loc ?_
  intro p e s m args below meth c C
  unfold F_X1_readText at h
  refine x_aload_n C dX1_readText_0 1 rfl 0 rfl ?_
  refine x_iconst C dX1_readText_1 2 rfl 0 rfl ?_
  refine x_put C inX1 49 lc49 EC_49 rfl 1 (by decide) tyX1_ok nmX1 dX1_readText_2 5 rfl wmf_X1_25 rfl rfl rfl (Nat.le_of_ble_eq_true rfl) EP_49_1 h (fun a2 h => ?_)
  refine x_iconst C dX1_readText_5 6 rfl 0 rfl ?_
  refine x_istore_n C dX1_readText_6 7 rfl (by decide) (fun v2_6 => [(2, .int v2_6), (0, .ref (ad 49)), (1, .ref (ad 2))]) (fun _ => rfl) h (fun v2_6 h => ?_)
  exact x_sub [1, 2, 0] rfl (b_X1_readText_7_follows C  N h)
theorem b_X1_readWord_66_trialFollows (C : XC p l s m args meth c cX1_readWord 4 (some .int) RX1 D vwCl (tysC ca) (EC ad ca) NCC ad) {N : Nat} {o : (Int32 × AH)} {ah : AH} {v2 : Int32} (h : F_X1_readWord_66 N 53 ah v2 = some o) : XW p l e rm_X1_readWord s m args below meth c 4 0 (xQi below args s D vwCl (tysC ca) (EC ad ca) NCC ad o) D vwCl (EC ad ca) NCC ad ah 66 [(0, .ref (ad 53)), (1, .ref (ad 2)), (2, .int v2)] [] := by
  unfold F_X1_readWord_66 at h
  refine x_aload_n C dX1_readWord_66 67 rfl 0 rfl ?_
  refine x_get C inX1 53 lc53 EC_53 rfl 0 (by decide) dX1_readWord_67 70 rfl wmf_X1_21 rfl ?_
  refine x_aload_n C dX1_readWord_70 71 rfl 1 rfl ?_
  refine x_get C inX9 2 lc2 EC_2 rfl 0 (by decide) dX1_readWord_71 74 rfl wmf_X1_65 rfl ?_
  refine x_iload_n C dX1_readWord_74 75 rfl 2 rfl ?_
  refine x_aload_n C dX1_readWord_75 76 rfl 1 rfl ?_
  refine x_get C inX9 2 lc2 EC_2 rfl 3 (by decide) dX1_readWord_76 79 rfl wmf_X1_50 rfl ?_
  refine x_iload_n C dX1_readWord_79 80 rfl 2 rfl ?_
  refine x_isub C dX1_readWord_80 81 rfl ?_
  obtain ⟨r81, a81, hq, h⟩ := xb_some h
  refine x_callVi C 4 (c_X2_look_3 C.2.2.2.2.2.2.1 hq) lc4 EC_4 rfl wml_X1_68 wq_X2_look rfl ⟨by decide, by decide⟩ rfl rfl ⟨by decide, by decide⟩ dX1_readWord_81 84 rfl rfl (Nat.le_of_ble_eq_true rfl) ?_
  refine x_istore_n C dX1_readWord_84 85 rfl (by decide) (fun v3_84 => [(3, .int v3_84), (0, .ref (ad 53)), (1, .ref (ad 2)), (2, .int v2)]) (fun _ => rfl) h (fun v3_84 h => ?_)
  refine x_iload_n C dX1_readWord_85 86 rfl 0 rfl ?_
  refine x_iconst C dX1_readWord_86 87 rfl (-1) rfl ?_
  refine x_icmp_ne C dX1_readWord_87 90 rfl 97 rfl h (fun h => ?_) (fun h => ?_)
  · refine x_iload_n C dX1_readWord_97 98 rfl 0 rfl ?_
    exact x_iret C rfl dX1_readWord_98 h
  · refine x_aload_n C dX1_readWord_90 91 rfl 2 rfl ?_
    refine x_iconst C dX1_readWord_91 92 rfl 5 rfl ?_
    refine x_iload_n C dX1_readWord_92 93 rfl 3 rfl ?_
    obtain ⟨r93, a93, hq, h⟩ := xb_some h
    refine x_callVi C 2 (c_X9_refuse C.2.2.2.2.2.2.1 hq) lc2 EC_2 rfl wml_X1_53 wq_X9_refuse rfl ⟨by decide, by decide⟩ rfl rfl ⟨by decide, by decide⟩ dX1_readWord_93 96 rfl rfl (Nat.le_of_ble_eq_true rfl) ?_
    refine x_pop C dX1_readWord_96 97 rfl rfl ?_
    refine x_iload_n C dX1_readWord_97 98 rfl 0 rfl ?_
    exact x_iret C rfl dX1_readWord_98 h
theorem b_X1_readWord_53_trialFollows (C : XC p l s m args meth c cX1_readWord 4 (some .int) RX1 D vwCl (tysC ca) (EC ad ca) NCC ad) {N : Nat} {o : (Int32 × AH)} {k25 : AH → Int32 → Option (Int32 × AH)} (hk25 : ∀ (ah : AH) (v2 : Int32), k25 ah v2 = some o → XW p l e rm_X1_readWord s m args below meth c 4 0 (xQi below args s D vwCl (tysC ca) (EC ad ca) NCC ad o) D vwCl (EC ad ca) NCC ad ah 25 [(0, .ref (ad 53)), (1, .ref (ad 2)), (2, .int v2)] []) {ah : AH} {v2 : Int32} (h : F_X1_readWord_53 N 53 k25 ah v2 = some o) : XW p l e rm_X1_readWord s m args below meth c 4 0 (xQi below args s D vwCl (tysC ca) (EC ad ca) NCC ad o) D vwCl (EC ad ca) NCC ad ah 53 [(0, .ref (ad 53)), (1, .ref (ad 2)), (2, .int v2)] [] := by
  unfold F_X1_readWord_53 at h
  refine x_aload_n C dX1_readWord_53 54 rfl 1 rfl ?_
  refine x_dup C dX1_readWord_54 55 rfl rfl ?_
  refine x_get C inX9 2 lc2 EC_2 rfl 3 (by decide) dX1_readWord_55 58 rfl wmf_X1_50 rfl ?_
  refine x_iconst C dX1_readWord_58 59 rfl 1 rfl ?_
  refine x_iadd C dX1_readWord_59 60 rfl ?_
  refine x_put C inX9 2 lc2 EC_2 rfl 3 (by decide) tyX9_ok nmX9 dX1_readWord_60 63 rfl wmf_X1_50 rfl rfl rfl (Nat.le_of_ble_eq_true rfl) EP_2_3 h (fun a60 h => ?_)
  refine x_goto C dX1_readWord_63 25 rfl ?_
  exact hk25 _ _ h
theorem b_X1_readWord_25_trialFollows (C : XC p l s m args meth c cX1_readWord 4 (some .int) RX1 D vwCl (tysC ca) (EC ad ca) NCC ad) {N : Nat} {o : (Int32 × AH)} : ∀ (n : Nat) {ah : AH} {v2 : Int32}, F_X1_readWord_25 N 53 n ah v2 = some o → XW p l e rm_X1_readWord s m args below meth c 4 0 (xQi below args s D vwCl (tysC ca) (EC ad ca) NCC ad o) D vwCl (EC ad ca) NCC ad ah 25 [(0, .ref (ad 53)), (1, .ref (ad 2)), (2, .int v2)] [] := by
  intro n
  induction n with
  | zero => intro ah v2 h; unfold F_X1_readWord_25 at h; cases h
  | succ n ih =>
    intro ah v2 h
    unfold F_X1_readWord_25 at h
    refine x_aload_n C dX1_readWord_25 26 rfl 1 rfl ?_
    obtain ⟨r26, a26, hq, h⟩ := xb_some h
    refine x_callVi C 2 (c_X9_atEnd C.2.2.2.2.2.2.1 hq) lc2 EC_2 rfl wml_X1_34 wq_X9_atEnd rfl ⟨by decide, by decide⟩ rfl rfl ⟨by decide, by decide⟩ dX1_readWord_26 29 rfl rfl (Nat.le_of_ble_eq_true rfl) ?_
    refine x_if_ne C dX1_readWord_29 32 rfl 66 rfl h (fun h => ?_) (fun h => ?_)
    · exact b_X1_readWord_66_trialFollows C  h
    · refine x_aload_n C dX1_readWord_32 33 rfl 1 rfl ?_
      refine x_iconst C dX1_readWord_33 34 rfl 0 rfl ?_
      obtain ⟨r34, a34, hq, h⟩ := xb_some h
      refine x_callVi C 2 (c_X9_peek C.2.2.2.2.2.2.1 hq) lc2 EC_2 rfl wml_X1_42 wq_X9_peek rfl ⟨by decide, by decide⟩ rfl rfl ⟨by decide, by decide⟩ dX1_readWord_34 37 rfl rfl (Nat.le_of_ble_eq_true rfl) ?_
      obtain ⟨r37, a37, hq, h⟩ := xb_some h
      refine x_callNi C (c_X11_isLetter C.2.2.2.2.2.2.1 hq) xn_X1_46 wq_X11_isLetter rfl ⟨by decide, by decide⟩ rfl rfl ⟨by decide, by decide⟩ dX1_readWord_37 40 rfl rfl (Nat.le_of_ble_eq_true rfl) ?_
      refine x_if_ne C dX1_readWord_40 43 rfl 53 rfl h (fun h => ?_) (fun h => ?_)
      · exact b_X1_readWord_53_trialFollows C (fun _ _ h => ih h) h
      · refine x_aload_n C dX1_readWord_43 44 rfl 1 rfl ?_
        refine x_iconst C dX1_readWord_44 45 rfl 0 rfl ?_
        obtain ⟨r45, a45, hq, h⟩ := xb_some h
        refine x_callVi C 2 (c_X9_peek C.2.2.2.2.2.2.1 hq) lc2 EC_2 rfl wml_X1_42 wq_X9_peek rfl ⟨by decide, by decide⟩ rfl rfl ⟨by decide, by decide⟩ dX1_readWord_45 48 rfl rfl (Nat.le_of_ble_eq_true rfl) ?_
        refine x_bipush C dX1_readWord_48 50 rfl 45 rfl ?_
        refine x_icmp_ne C dX1_readWord_50 53 rfl 66 rfl h (fun h => ?_) (fun h => ?_)
        · exact b_X1_readWord_66_trialFollows C  h
        · exact b_X1_readWord_53_trialFollows C (fun _ _ h => ih h) h
theorem c_X1_readWord_trialFollows {l : Launch} {D : va_G} {ca : Nat → ClassId} {ad : Nat → Nat} (hI : xInj ad NCC) {N : Nat} {ah : AH} {r : Int32} {a : AH} (h : F_X1_readWord N 53 ah = some (r, a)) : xMi l yX1_readWord cX1_readWord 4 (some .int) rm_X1_readWord D vwCl (tysC ca) (EC ad ca) NCC ad [.ref (ad 53), .ref (ad 2)] ah (r, a) := by
  refine x_meti (by decide) (Nat.le_of_ble_eq_true rfl) hI EC_loc ?_
  intro p e s m args below meth c C
  unfold F_X1_readWord at h
  refine x_aload_n C dX1_readWord_0 1 rfl 1 rfl ?_
  refine x_get C inX9 2 lc2 EC_2 rfl 3 (by decide) dX1_readWord_1 4 rfl wmf_X1_50 rfl ?_
  refine x_istore_n C dX1_readWord_4 5 rfl (by decide) (fun v2_4 => [(2, .int v2_4), (0, .ref (ad 53)), (1, .ref (ad 2))]) (fun _ => rfl) h (fun v2_4 h => ?_)
  refine x_aload_n C dX1_readWord_5 6 rfl 2 rfl ?_
  refine x_iconst C dX1_readWord_6 7 rfl 0 rfl ?_
  obtain ⟨r7, a7, hq, h⟩ := xb_some h
  refine x_callVi C 2 (c_X9_peek C.2.2.2.2.2.2.1 hq) lc2 EC_2 rfl wml_X1_42 wq_X9_peek rfl ⟨by decide, by decide⟩ rfl rfl ⟨by decide, by decide⟩ dX1_readWord_7 10 rfl rfl (Nat.le_of_ble_eq_true rfl) ?_
  obtain ⟨r10, a10, hq, h⟩ := xb_some h
  refine x_callNi C (c_X11_isLetter C.2.2.2.2.2.2.1 hq) xn_X1_46 wq_X11_isLetter rfl ⟨by decide, by decide⟩ rfl rfl ⟨by decide, by decide⟩ dX1_readWord_10 13 rfl rfl (Nat.le_of_ble_eq_true rfl) ?_
  refine x_if_ne C dX1_readWord_13 16 rfl 25 rfl h (fun h => ?_) (fun h => ?_)
  · exact x_sub [1, 2, 0] rfl (b_X1_readWord_25_trialFollows C  N h)
  · refine x_aload_n C dX1_readWord_16 17 rfl 2 rfl ?_
    refine x_iconst C dX1_readWord_17 18 rfl 1 rfl ?_
    refine x_iload_n C dX1_readWord_18 19 rfl 0 rfl ?_
    obtain ⟨r19, a19, hq, h⟩ := xb_some h
    refine x_callVi C 2 (c_X9_refuse C.2.2.2.2.2.2.1 hq) lc2 EC_2 rfl wml_X1_53 wq_X9_refuse rfl ⟨by decide, by decide⟩ rfl rfl ⟨by decide, by decide⟩ dX1_readWord_19 22 rfl rfl (Nat.le_of_ble_eq_true rfl) ?_
    refine x_pop C dX1_readWord_22 23 rfl rfl ?_
    refine x_iconst C dX1_readWord_23 24 rfl (-1) rfl ?_
    exact x_iret C rfl dX1_readWord_24 h
theorem b_X1_readEntry_30_trialFollows (C : XC p l s m args meth c cX1_readEntry 5 (some .boolean) RX1 D vwCl (tysC ca) (EC ad ca) NCC ad) {N : Nat} {o : (Int32 × AH)} {ah : AH} (h : F_X1_readEntry_30 N 53 ah = some o) : XW p l e rm_X1_readEntry s m args below meth c 5 0 (xQi below args s D vwCl (tysC ca) (EC ad ca) NCC ad o) D vwCl (EC ad ca) NCC ad ah 30 [(0, .ref (ad 53)), (1, .ref (ad 2))] [] := by
  unfold F_X1_readEntry_30 at h
  refine x_aload_n C dX1_readEntry_30 31 rfl 0 rfl ?_
  refine x_aload_n C dX1_readEntry_31 32 rfl 1 rfl ?_
  obtain ⟨r32, a32, hq, h⟩ := xb_some h
  refine x_callVi C 53 (c_X1_readWord_trialFollows C.2.2.2.2.2.2.1 hq) lc53 EC_53 rfl wml_X1_57 wq_X1_readWord rfl ⟨by decide, by decide⟩ rfl rfl ⟨by decide, by decide⟩ dX1_readEntry_32 35 rfl rfl (Nat.le_of_ble_eq_true rfl) ?_
  refine x_istore_n C dX1_readEntry_35 36 rfl (by decide) (fun v2_35 => [(2, .int v2_35), (0, .ref (ad 53)), (1, .ref (ad 2))]) (fun _ => rfl) h (fun v2_35 h => ?_)
  refine x_iload_n C dX1_readEntry_36 37 rfl 0 rfl ?_
  refine x_iconst C dX1_readEntry_37 38 rfl (-1) rfl ?_
  refine x_icmp_ne C dX1_readEntry_38 41 rfl 43 rfl h (fun h => ?_) (fun h => ?_)
  · refine x_aload_n C dX1_readEntry_43 44 rfl 2 rfl ?_
    refine x_iconst C dX1_readEntry_44 45 rfl 0 rfl ?_
    obtain ⟨r45, a45, hq, h⟩ := xb_some h
    refine x_callVi C 2 (c_X9_peek C.2.2.2.2.2.2.1 hq) lc2 EC_2 rfl wml_X1_42 wq_X9_peek rfl ⟨by decide, by decide⟩ rfl rfl ⟨by decide, by decide⟩ dX1_readEntry_45 48 rfl rfl (Nat.le_of_ble_eq_true rfl) ?_
    refine x_bipush C dX1_readEntry_48 50 rfl 32 rfl ?_
    refine x_icmp_eq C dX1_readEntry_50 53 rfl 63 rfl h (fun h => ?_) (fun h => ?_)
    · refine x_aload_n C dX1_readEntry_63 64 rfl 2 rfl ?_
      obtain ⟨a64, hq, h⟩ := xbv_some h
      refine x_callVv C 2 (c_X9_skipBlanks C.2.2.2.2.2.2.1 hq) lc2 EC_2 rfl wml_X1_29 wq_X9_skipBlanks rfl ⟨by decide, by decide⟩ rfl rfl ⟨by decide, by decide⟩ dX1_readEntry_64 67 rfl rfl (Nat.le_of_ble_eq_true rfl) ?_
      refine x_aload_n C dX1_readEntry_67 68 rfl 1 rfl ?_
      refine x_aload_n C dX1_readEntry_68 69 rfl 2 rfl ?_
      obtain ⟨r69, a69, hq, h⟩ := xb_some h
      refine x_callVi C 53 (c_X1_readWord_trialFollows C.2.2.2.2.2.2.1 hq) lc53 EC_53 rfl wml_X1_57 wq_X1_readWord rfl ⟨by decide, by decide⟩ rfl rfl ⟨by decide, by decide⟩ dX1_readEntry_69 72 rfl rfl (Nat.le_of_ble_eq_true rfl) ?_
      refine x_istore_n C dX1_readEntry_72 73 rfl (by decide) (fun v3_72 => [(3, .int v3_72), (2, .int v2_35), (0, .ref (ad 53)), (1, .ref (ad 2))]) (fun _ => rfl) h (fun v3_72 h => ?_)
      refine x_iload_n C dX1_readEntry_73 74 rfl 0 rfl ?_
      refine x_iconst C dX1_readEntry_74 75 rfl (-1) rfl ?_
      refine x_icmp_ne C dX1_readEntry_75 78 rfl 80 rfl h (fun h => ?_) (fun h => ?_)
      · refine x_aload_n C dX1_readEntry_80 81 rfl 3 rfl ?_
        refine x_iconst C dX1_readEntry_81 82 rfl (-1) rfl ?_
        refine x_iconst C dX1_readEntry_82 83 rfl 0 rfl ?_
        obtain ⟨r83, a83, hq, h⟩ := xb_some h
        refine x_callVi C 2 (c_X9_readEnding C.2.2.2.2.2.2.1 hq) lc2 EC_2 rfl wml_X1_61 wq_X9_readEnding rfl ⟨by decide, by decide⟩ rfl rfl ⟨by decide, by decide⟩ dX1_readEntry_83 86 rfl rfl (Nat.le_of_ble_eq_true rfl) ?_
        refine x_istore C dX1_readEntry_86 88 rfl (by decide) (fun v4_86 => [(4, .int v4_86), (3, .int v3_72), (2, .int v2_35), (0, .ref (ad 53)), (1, .ref (ad 2))]) (fun _ => rfl) h (fun v4_86 h => ?_)
        refine x_iload C dX1_readEntry_88 90 rfl 0 rfl ?_
        refine x_iconst C dX1_readEntry_90 91 rfl (-1) rfl ?_
        refine x_icmp_ne C dX1_readEntry_91 94 rfl 96 rfl h (fun h => ?_) (fun h => ?_)
        · refine x_aload_n C dX1_readEntry_96 97 rfl 3 rfl ?_
          refine x_get C inX1 53 lc53 EC_53 rfl 2 (by decide) dX1_readEntry_97 100 rfl wmf_X1_9 rfl ?_
          refine x_aload_n C dX1_readEntry_100 101 rfl 3 rfl ?_
          refine x_get C inX1 53 lc53 EC_53 rfl 1 (by decide) dX1_readEntry_101 104 rfl wmf_X1_25 rfl ?_
          refine x_iload_n C dX1_readEntry_104 105 rfl 2 rfl ?_
          refine x_iast C 54 lc54 (fun _ => EC_54) 0 rfl dX1_readEntry_105 106 rfl h (fun a105 h => ?_)
          refine x_aload_n C dX1_readEntry_106 107 rfl 3 rfl ?_
          refine x_get C inX1 53 lc53 EC_53 rfl 3 (by decide) dX1_readEntry_107 110 rfl wmf_X1_15 rfl ?_
          refine x_aload_n C dX1_readEntry_110 111 rfl 3 rfl ?_
          refine x_get C inX1 53 lc53 EC_53 rfl 1 (by decide) dX1_readEntry_111 114 rfl wmf_X1_25 rfl ?_
          refine x_iload_n C dX1_readEntry_114 115 rfl 1 rfl ?_
          refine x_iast C 55 lc55 (fun _ => EC_55) 0 rfl dX1_readEntry_115 116 rfl h (fun a115 h => ?_)
          refine x_aload_n C dX1_readEntry_116 117 rfl 3 rfl ?_
          refine x_get C inX1 53 lc53 EC_53 rfl 4 (by decide) dX1_readEntry_117 120 rfl wmf_X1_18 rfl ?_
          refine x_aload_n C dX1_readEntry_120 121 rfl 3 rfl ?_
          refine x_get C inX1 53 lc53 EC_53 rfl 1 (by decide) dX1_readEntry_121 124 rfl wmf_X1_25 rfl ?_
          refine x_iload C dX1_readEntry_124 126 rfl 0 rfl ?_
          refine x_iast C 56 lc56 (fun _ => EC_56) 0 rfl dX1_readEntry_126 127 rfl h (fun a126 h => ?_)
          refine x_aload_n C dX1_readEntry_127 128 rfl 3 rfl ?_
          refine x_dup C dX1_readEntry_128 129 rfl rfl ?_
          refine x_get C inX1 53 lc53 EC_53 rfl 1 (by decide) dX1_readEntry_129 132 rfl wmf_X1_25 rfl ?_
          refine x_iconst C dX1_readEntry_132 133 rfl 1 rfl ?_
          refine x_iadd C dX1_readEntry_133 134 rfl ?_
          refine x_put C inX1 53 lc53 EC_53 rfl 1 (by decide) tyX1_ok nmX1 dX1_readEntry_134 137 rfl wmf_X1_25 rfl rfl rfl (Nat.le_of_ble_eq_true rfl) EP_53_1 h (fun a134 h => ?_)
          refine x_iconst C dX1_readEntry_137 138 rfl 1 rfl ?_
          exact x_zret C rfl dX1_readEntry_138 (by decide) h
        · refine x_iconst C dX1_readEntry_94 95 rfl 0 rfl ?_
          exact x_zret C rfl dX1_readEntry_95 (by decide) h
      · refine x_iconst C dX1_readEntry_78 79 rfl 0 rfl ?_
        exact x_zret C rfl dX1_readEntry_79 (by decide) h
    · refine x_aload_n C dX1_readEntry_53 54 rfl 2 rfl ?_
      refine x_iconst C dX1_readEntry_54 55 rfl 1 rfl ?_
      refine x_aload_n C dX1_readEntry_55 56 rfl 2 rfl ?_
      refine x_get C inX9 2 lc2 EC_2 rfl 3 (by decide) dX1_readEntry_56 59 rfl wmf_X1_50 rfl ?_
      obtain ⟨r59, a59, hq, h⟩ := xb_some h
      refine x_callVi C 2 (c_X9_refuse C.2.2.2.2.2.2.1 hq) lc2 EC_2 rfl wml_X1_53 wq_X9_refuse rfl ⟨by decide, by decide⟩ rfl rfl ⟨by decide, by decide⟩ dX1_readEntry_59 62 rfl rfl (Nat.le_of_ble_eq_true rfl) ?_
      exact x_zretB C rfl dX1_readEntry_62 h
  · refine x_iconst C dX1_readEntry_41 42 rfl 0 rfl ?_
    exact x_zret C rfl dX1_readEntry_42 (by decide) h
theorem c_X1_readEntry_trialFollows {l : Launch} {D : va_G} {ca : Nat → ClassId} {ad : Nat → Nat} (hI : xInj ad NCC) {N : Nat} {ah : AH} {r : Int32} {a : AH} (h : F_X1_readEntry N 53 ah = some (r, a)) : xMi l yX1_readEntry cX1_readEntry 5 (some .boolean) rm_X1_readEntry D vwCl (tysC ca) (EC ad ca) NCC ad [.ref (ad 53), .ref (ad 2)] ah (r, a) := by
  refine x_meti (by decide) (Nat.le_of_ble_eq_true rfl) hI EC_loc ?_
  intro p e s m args below meth c C
  unfold F_X1_readEntry at h
  refine x_aload_n C dX1_readEntry_0 1 rfl 1 rfl ?_
  refine x_iconst C dX1_readEntry_1 2 rfl 0 rfl ?_
  obtain ⟨r2, a2, hq, h⟩ := xb_some h
  refine x_callVi C 2 (c_X9_peek C.2.2.2.2.2.2.1 hq) lc2 EC_2 rfl wml_X1_42 wq_X9_peek rfl ⟨by decide, by decide⟩ rfl rfl ⟨by decide, by decide⟩ dX1_readEntry_2 5 rfl rfl (Nat.le_of_ble_eq_true rfl) ?_
  obtain ⟨r5, a5, hq, h⟩ := xb_some h
  refine x_callNi C (c_X11_isLetter C.2.2.2.2.2.2.1 hq) xn_X1_46 wq_X11_isLetter rfl ⟨by decide, by decide⟩ rfl rfl ⟨by decide, by decide⟩ dX1_readEntry_5 8 rfl rfl (Nat.le_of_ble_eq_true rfl) ?_
  refine x_if_eq C dX1_readEntry_8 11 rfl 30 rfl h (fun h => ?_) (fun h => ?_)
  · exact b_X1_readEntry_30_trialFollows C  h
  · refine x_aload_n C dX1_readEntry_11 12 rfl 0 rfl ?_
    refine x_get C inX1 53 lc53 EC_53 rfl 1 (by decide) dX1_readEntry_12 15 rfl wmf_X1_25 rfl ?_
    refine x_bipush C dX1_readEntry_15 17 rfl 60 rfl ?_
    refine x_icmp_lt C dX1_readEntry_17 20 rfl 30 rfl h (fun h => ?_) (fun h => ?_)
    · exact b_X1_readEntry_30_trialFollows C  h
    · refine x_aload_n C dX1_readEntry_20 21 rfl 1 rfl ?_
      refine x_iconst C dX1_readEntry_21 22 rfl 3 rfl ?_
      refine x_aload_n C dX1_readEntry_22 23 rfl 1 rfl ?_
      refine x_get C inX9 2 lc2 EC_2 rfl 3 (by decide) dX1_readEntry_23 26 rfl wmf_X1_50 rfl ?_
      obtain ⟨r26, a26, hq, h⟩ := xb_some h
      refine x_callVi C 2 (c_X9_refuse C.2.2.2.2.2.2.1 hq) lc2 EC_2 rfl wml_X1_53 wq_X9_refuse rfl ⟨by decide, by decide⟩ rfl rfl ⟨by decide, by decide⟩ dX1_readEntry_26 29 rfl rfl (Nat.le_of_ble_eq_true rfl) ?_
      exact x_zretB C rfl dX1_readEntry_29 h
theorem b_X1_readText_7_trialFollows (C : XC p l s m args meth c cX1_readText 3 (some .boolean) RX1 D vwCl (tysC ca) (EC ad ca) NCC ad) {N : Nat} {o : (Int32 × AH)} : ∀ (n : Nat) {ah : AH} {v2 : Int32}, F_X1_readText_7 N 53 n ah v2 = some o → XW p l e rm_X1_readText s m args below meth c 3 0 (xQi below args s D vwCl (tysC ca) (EC ad ca) NCC ad o) D vwCl (EC ad ca) NCC ad ah 7 [(0, .ref (ad 53)), (1, .ref (ad 2)), (2, .int v2)] [] := by
  intro n
  induction n with
  | zero => intro ah v2 h; unfold F_X1_readText_7 at h; cases h
  | succ n ih =>
    intro ah v2 h
    unfold F_X1_readText_7 at h
    refine x_iload_n C dX1_readText_7 8 rfl 2 rfl ?_
    refine x_bipush C dX1_readText_8 10 rfl 60 rfl ?_
    refine x_icmp_gt C dX1_readText_10 13 rfl 42 rfl h (fun h => ?_) (fun h => ?_)
    · refine x_iconst C dX1_readText_42 43 rfl 0 rfl ?_
      exact x_zret C rfl dX1_readText_43 (by decide) h
    · refine x_aload_n C dX1_readText_13 14 rfl 1 rfl ?_
      obtain ⟨a14, hq, h⟩ := xbv_some h
      refine x_callVv C 2 (c_X9_skipBlanks C.2.2.2.2.2.2.1 hq) lc2 EC_2 rfl wml_X1_29 wq_X9_skipBlanks rfl ⟨by decide, by decide⟩ rfl rfl ⟨by decide, by decide⟩ dX1_readText_14 17 rfl rfl (Nat.le_of_ble_eq_true rfl) ?_
      refine x_aload_n C dX1_readText_17 18 rfl 1 rfl ?_
      obtain ⟨r18, a18, hq, h⟩ := xb_some h
      refine x_callVi C 2 (c_X9_atEnd C.2.2.2.2.2.2.1 hq) lc2 EC_2 rfl wml_X1_34 wq_X9_atEnd rfl ⟨by decide, by decide⟩ rfl rfl ⟨by decide, by decide⟩ dX1_readText_18 21 rfl rfl (Nat.le_of_ble_eq_true rfl) ?_
      refine x_if_eq C dX1_readText_21 24 rfl 26 rfl h (fun h => ?_) (fun h => ?_)
      · refine x_aload_n C dX1_readText_26 27 rfl 0 rfl ?_
        refine x_aload_n C dX1_readText_27 28 rfl 1 rfl ?_
        obtain ⟨r28, a28, hq, h⟩ := xb_some h
        refine x_callVi C 53 (c_X1_readEntry_trialFollows C.2.2.2.2.2.2.1 hq) lc53 EC_53 rfl wml_X1_38 wq_X1_readEntry rfl ⟨by decide, by decide⟩ rfl rfl ⟨by decide, by decide⟩ dX1_readText_28 31 rfl rfl (Nat.le_of_ble_eq_true rfl) ?_
        refine x_if_ne C dX1_readText_31 34 rfl 36 rfl h (fun h => ?_) (fun h => ?_)
        · refine x_iinc C dX1_readText_36 39 rfl 2 rfl (d := 1) rfl (by decide) (fun v2_36 => [(2, .int v2_36), (0, .ref (ad 53)), (1, .ref (ad 2))]) (fun _ => rfl) h (fun v2_36 h => ?_)
          refine x_goto C dX1_readText_39 7 rfl ?_
          exact x_sub [1, 2, 0] rfl (ih h)
        · refine x_iconst C dX1_readText_34 35 rfl 0 rfl ?_
          exact x_zret C rfl dX1_readText_35 (by decide) h
      · refine x_iconst C dX1_readText_24 25 rfl 1 rfl ?_
        exact x_zret C rfl dX1_readText_25 (by decide) h
theorem c_X1_readText_trialFollows {l : Launch} {D : va_G} {ca : Nat → ClassId} {ad : Nat → Nat} (hI : xInj ad NCC) {N : Nat} {ah : AH} {r : Int32} {a : AH} (h : F_X1_readText N 53 ah = some (r, a)) : xMi l yX1_readText cX1_readText 3 (some .boolean) rm_X1_readText D vwCl (tysC ca) (EC ad ca) NCC ad [.ref (ad 53), .ref (ad 2)] ah (r, a) := by
  refine x_meti (by decide) (Nat.le_of_ble_eq_true rfl) hI EC_loc ?_
  intro p e s m args below meth c C
  unfold F_X1_readText at h
  refine x_aload_n C dX1_readText_0 1 rfl 0 rfl ?_
  refine x_iconst C dX1_readText_1 2 rfl 0 rfl ?_
  refine x_put C inX1 53 lc53 EC_53 rfl 1 (by decide) tyX1_ok nmX1 dX1_readText_2 5 rfl wmf_X1_25 rfl rfl rfl (Nat.le_of_ble_eq_true rfl) EP_53_1 h (fun a2 h => ?_)
  refine x_iconst C dX1_readText_5 6 rfl 0 rfl ?_
  refine x_istore_n C dX1_readText_6 7 rfl (by decide) (fun v2_6 => [(2, .int v2_6), (0, .ref (ad 53)), (1, .ref (ad 2))]) (fun _ => rfl) h (fun v2_6 h => ?_)
  exact x_sub [1, 2, 0] rfl (b_X1_readText_7_trialFollows C  N h)
abbrev rm_X2_countChildren : Room := { frames := 0, cells := 0, slots := 0, locals := 0 }
theorem wq_X2_countChildren : xcV RX2 yX2_countChildren cX2_countChildren 5 (some .int) 1 := ⟨wmi_X2_countChildren, wms_X2_countChildren, wmn_X2, wmc_X2_countChildren, by decide, by decide, by decide +kernel⟩
def F_X2_countChildren_12 (N : Nat) : Nat → AH → Int32 → Int32 → Int32 → Option (Int32 × AH)
  | 0, _, _, _, _ => none
  | n + 1, ah, v2, v3, v4 => if 26 < v4 then some (v2, ah) else if v3 < 0 then some (v2, ah) else xlet (v2 + 1) (fun v2_23 => xg v3 721 (xlet (ah 13 (Int32.toNatClampNeg v3)) (fun v3_32 => xlet (v4 + 1) (fun v4_33 => F_X2_countChildren_12 N n ah v2_23 v3_32 v4_33))))
def F_X2_countChildren (N : Nat) (ah : AH) (p1 : Int32) : Option (Int32 × AH) := xlet 0 (fun v2_1 => xg p1 721 (xlet (ah 12 (Int32.toNatClampNeg p1)) (fun v3_8 => xlet 0 (fun v4_10 => F_X2_countChildren_12 N N ah v2_1 v3_8 v4_10))))
theorem b_X2_countChildren_12 (C : XC p l s m args meth c cX2_countChildren 5 (some .int) RX2 D vwCl (tysC ca) (EC ad ca) NCC ad) {N : Nat} {o : (Int32 × AH)} : ∀ (n : Nat) {ah : AH} {v2 : Int32} {v3 : Int32} {v4 : Int32}, F_X2_countChildren_12 N n ah v2 v3 v4 = some o → XW p l e rm_X2_countChildren s m args below meth c 5 0 (xQi below args s D vwCl (tysC ca) (EC ad ca) NCC ad o) D vwCl (EC ad ca) NCC ad ah 12 [(0, .ref (ad 4)), (2, .int v2), (3, .int v3), (4, .int v4)] [] := by
  intro n
  induction n with
  | zero => intro ah v2 v3 v4 h; unfold F_X2_countChildren_12 at h; cases h
  | succ n ih =>
    intro ah v2 v3 v4 h
    unfold F_X2_countChildren_12 at h
    refine x_iload C dX2_countChildren_12 14 rfl 3 rfl ?_
    refine x_bipush C dX2_countChildren_14 16 rfl 26 rfl ?_
    refine x_icmp_gt C dX2_countChildren_16 19 rfl 39 rfl h (fun h => ?_) (fun h => ?_)
    · refine x_iload_n C dX2_countChildren_39 40 rfl 1 rfl ?_
      exact x_iret C rfl dX2_countChildren_40 h
    · refine x_iload_n C dX2_countChildren_19 20 rfl 2 rfl ?_
      refine x_if_lt C dX2_countChildren_20 23 rfl 39 rfl h (fun h => ?_) (fun h => ?_)
      · refine x_iload_n C dX2_countChildren_39 40 rfl 1 rfl ?_
        exact x_iret C rfl dX2_countChildren_40 h
      · refine x_iinc C dX2_countChildren_23 26 rfl 1 rfl (d := 1) rfl (by decide) (fun v2_23 => [(2, .int v2_23), (0, .ref (ad 4)), (3, .int v3), (4, .int v4)]) (fun _ => rfl) h (fun v2_23 h => ?_)
        refine x_aload_n C dX2_countChildren_26 27 rfl 1 rfl ?_
        refine x_get C inX2 4 lc4 EC_4 rfl 10 (by decide) dX2_countChildren_27 30 rfl wmf_X2_40 rfl ?_
        refine x_iload_n C dX2_countChildren_30 31 rfl 2 rfl ?_
        refine x_iald C 13 lc13 EC_13 0 rfl dX2_countChildren_31 32 rfl h (fun h => ?_)
        refine x_istore_n C dX2_countChildren_32 33 rfl (by decide) (fun v3_32 => [(3, .int v3_32), (2, .int v2_23), (0, .ref (ad 4)), (4, .int v4)]) (fun _ => rfl) h (fun v3_32 h => ?_)
        refine x_iinc C dX2_countChildren_33 36 rfl 3 rfl (d := 1) rfl (by decide) (fun v4_33 => [(4, .int v4_33), (3, .int v3_32), (2, .int v2_23), (0, .ref (ad 4))]) (fun _ => rfl) h (fun v4_33 h => ?_)
        refine x_goto C dX2_countChildren_36 12 rfl ?_
        exact x_sub [3, 2, 1, 0] rfl (ih h)
theorem c_X2_countChildren {l : Launch} {D : va_G} {ca : Nat → ClassId} {ad : Nat → Nat} (hI : xInj ad NCC) {N : Nat} {ah : AH} {p1 : Int32} {r : Int32} {a : AH} (h : F_X2_countChildren N ah p1 = some (r, a)) : xMi l yX2_countChildren cX2_countChildren 5 (some .int) rm_X2_countChildren D vwCl (tysC ca) (EC ad ca) NCC ad [.ref (ad 4), .int p1] ah (r, a) := by
  refine x_meti (by decide) (Nat.le_of_ble_eq_true rfl) hI EC_loc ?_
  intro p e s m args below meth c C
  unfold F_X2_countChildren at h
  refine x_iconst C dX2_countChildren_0 1 rfl 0 rfl ?_
  refine x_istore_n C dX2_countChildren_1 2 rfl (by decide) (fun v2_1 => [(2, .int v2_1), (0, .ref (ad 4)), (1, .int p1)]) (fun _ => rfl) h (fun v2_1 h => ?_)
  refine x_aload_n C dX2_countChildren_2 3 rfl 1 rfl ?_
  refine x_get C inX2 4 lc4 EC_4 rfl 9 (by decide) dX2_countChildren_3 6 rfl wmf_X2_37 rfl ?_
  refine x_iload_n C dX2_countChildren_6 7 rfl 2 rfl ?_
  refine x_iald C 12 lc12 EC_12 0 rfl dX2_countChildren_7 8 rfl h (fun h => ?_)
  refine x_istore_n C dX2_countChildren_8 9 rfl (by decide) (fun v3_8 => [(3, .int v3_8), (2, .int v2_1), (0, .ref (ad 4)), (1, .int p1)]) (fun _ => rfl) h (fun v3_8 h => ?_)
  refine x_iconst C dX2_countChildren_9 10 rfl 0 rfl ?_
  refine x_istore C dX2_countChildren_10 12 rfl (by decide) (fun v4_10 => [(4, .int v4_10), (3, .int v3_8), (2, .int v2_1), (0, .ref (ad 4)), (1, .int p1)]) (fun _ => rfl) h (fun v4_10 h => ?_)
  exact x_sub [3, 2, 1, 0] rfl (b_X2_countChildren_12 C  N h)
abbrev rm_X2_passWord : Room := { frames := 1, cells := 0, slots := 0, locals := 22 }
theorem wq_X2_passWord : xcV RX2 yX2_passWord cX2_passWord 5 (some .boolean) 1 := ⟨wmi_X2_passWord, wms_X2_passWord, wmn_X2, wmc_X2_passWord, by decide, by decide, by decide +kernel⟩
def F_X2_passWord_56 (N : Nat) (k4 : AH → Int32 → Int32 → Option (Int32 × AH)) (ah : AH) (v3 : Int32) (v4 : Int32) : Option (Int32 × AH) := if v3 = 12 then xb (F_X9_refuse N ah 3 (ah 2 3)) (fun r68 a68 => xbo r68 (some (r68, a68))) else xlet v4 (fun v2_74 => xlet (xu ah 2 3 ((ah 2 3) + 1)) (fun a82 => xlet (v3 + 1) (fun v3_85 => k4 a82 v2_74 v3_85)))
def F_X2_passWord_50 (N : Nat) (k4 : AH → Int32 → Int32 → Option (Int32 × AH)) (ah : AH) : Option (Int32 × AH) := some (1, ah)
def F_X2_passWord_4 (N : Nat) : Nat → AH → Int32 → Int32 → Option (Int32 × AH)
  | 0, _, _, _ => none
  | n + 1, ah, v2, v3 => if 12 < v3 then some (0, ah) else xb (F_X9_peek N ah 0) (fun r12 a12 => xlet r12 (fun v4_15 => xb (F_X11_isLetter N a12 v4_15) (fun r19 a19 => if r19 = 0 then if v4_15 = 45 then F_X2_passWord_56 N (F_X2_passWord_4 N n) a19 v3 v4_15 else if v2 = 45 then xb (F_X9_refuse N a19 1 (a19 2 3)) (fun r44 a44 => if r44 = 0 then some (0, a44) else F_X2_passWord_50 N (F_X2_passWord_4 N n) a44) else F_X2_passWord_50 N (F_X2_passWord_4 N n) a19 else F_X2_passWord_56 N (F_X2_passWord_4 N n) a19 v3 v4_15)))
def F_X2_passWord (N : Nat) (ah : AH) : Option (Int32 × AH) := xlet ((-1)) (fun v2_1 => xlet 0 (fun v3_3 => F_X2_passWord_4 N N ah v2_1 v3_3))
theorem b_X2_passWord_56 (C : XC p l s m args meth c cX2_passWord 5 (some .boolean) RX2 D vwCl (tysC ca) (EC ad ca) NCC ad) {N : Nat} {o : (Int32 × AH)} {k4 : AH → Int32 → Int32 → Option (Int32 × AH)} (hk4 : ∀ (ah : AH) (v2 : Int32) (v3 : Int32), k4 ah v2 v3 = some o → XW p l e rm_X2_passWord s m args below meth c 5 0 (xQi below args s D vwCl (tysC ca) (EC ad ca) NCC ad o) D vwCl (EC ad ca) NCC ad ah 4 [(1, .ref (ad 2)), (2, .int v2), (3, .int v3)] []) {ah : AH} {v3 : Int32} {v4 : Int32} (h : F_X2_passWord_56 N k4 ah v3 v4 = some o) : XW p l e rm_X2_passWord s m args below meth c 5 0 (xQi below args s D vwCl (tysC ca) (EC ad ca) NCC ad o) D vwCl (EC ad ca) NCC ad ah 56 [(1, .ref (ad 2)), (3, .int v3), (4, .int v4)] [] := by
  unfold F_X2_passWord_56 at h
  refine x_iload_n C dX2_passWord_56 57 rfl 1 rfl ?_
  refine x_bipush C dX2_passWord_57 59 rfl 12 rfl ?_
  refine x_icmp_ne C dX2_passWord_59 62 rfl 72 rfl h (fun h => ?_) (fun h => ?_)
  · refine x_iload C dX2_passWord_72 74 rfl 2 rfl ?_
    refine x_istore_n C dX2_passWord_74 75 rfl (by decide) (fun v2_74 => [(2, .int v2_74), (1, .ref (ad 2)), (3, .int v3), (4, .int v4)]) (fun _ => rfl) h (fun v2_74 h => ?_)
    refine x_aload_n C dX2_passWord_75 76 rfl 1 rfl ?_
    refine x_dup C dX2_passWord_76 77 rfl rfl ?_
    refine x_get C inX9 2 lc2 EC_2 rfl 3 (by decide) dX2_passWord_77 80 rfl wmf_X2_94 rfl ?_
    refine x_iconst C dX2_passWord_80 81 rfl 1 rfl ?_
    refine x_iadd C dX2_passWord_81 82 rfl ?_
    refine x_put C inX9 2 lc2 EC_2 rfl 3 (by decide) tyX9_ok nmX9 dX2_passWord_82 85 rfl wmf_X2_94 rfl rfl rfl (Nat.le_of_ble_eq_true rfl) EP_2_3 h (fun a82 h => ?_)
    refine x_iinc C dX2_passWord_85 88 rfl 2 rfl (d := 1) rfl (by decide) (fun v3_85 => [(3, .int v3_85), (2, .int v2_74), (1, .ref (ad 2)), (4, .int v4)]) (fun _ => rfl) h (fun v3_85 h => ?_)
    refine x_goto C dX2_passWord_88 4 rfl ?_
    exact x_sub [2, 1, 0] rfl (hk4 _ _ _ h)
  · refine x_aload_n C dX2_passWord_62 63 rfl 0 rfl ?_
    refine x_iconst C dX2_passWord_63 64 rfl 3 rfl ?_
    refine x_aload_n C dX2_passWord_64 65 rfl 0 rfl ?_
    refine x_get C inX9 2 lc2 EC_2 rfl 3 (by decide) dX2_passWord_65 68 rfl wmf_X2_94 rfl ?_
    obtain ⟨r68, a68, hq, h⟩ := xb_some h
    refine x_callVi C 2 (c_X9_refuse C.2.2.2.2.2.2.1 hq) lc2 EC_2 rfl wml_X2_105 wq_X9_refuse rfl ⟨by decide, by decide⟩ rfl rfl ⟨by decide, by decide⟩ dX2_passWord_68 71 rfl rfl (Nat.le_of_ble_eq_true rfl) ?_
    exact x_zretB C rfl dX2_passWord_71 h
theorem b_X2_passWord_50 (C : XC p l s m args meth c cX2_passWord 5 (some .boolean) RX2 D vwCl (tysC ca) (EC ad ca) NCC ad) {N : Nat} {o : (Int32 × AH)} {k4 : AH → Int32 → Int32 → Option (Int32 × AH)} (hk4 : ∀ (ah : AH) (v2 : Int32) (v3 : Int32), k4 ah v2 v3 = some o → XW p l e rm_X2_passWord s m args below meth c 5 0 (xQi below args s D vwCl (tysC ca) (EC ad ca) NCC ad o) D vwCl (EC ad ca) NCC ad ah 4 [(1, .ref (ad 2)), (2, .int v2), (3, .int v3)] []) {ah : AH} (h : F_X2_passWord_50 N k4 ah = some o) : XW p l e rm_X2_passWord s m args below meth c 5 0 (xQi below args s D vwCl (tysC ca) (EC ad ca) NCC ad o) D vwCl (EC ad ca) NCC ad ah 50 [] [] := by
  unfold F_X2_passWord_50 at h
  refine x_iconst C dX2_passWord_50 51 rfl 1 rfl ?_
  refine x_goto C dX2_passWord_51 55 rfl ?_
  exact x_zret C rfl dX2_passWord_55 (by decide) h
theorem b_X2_passWord_4 (C : XC p l s m args meth c cX2_passWord 5 (some .boolean) RX2 D vwCl (tysC ca) (EC ad ca) NCC ad) {N : Nat} {o : (Int32 × AH)} : ∀ (n : Nat) {ah : AH} {v2 : Int32} {v3 : Int32}, F_X2_passWord_4 N n ah v2 v3 = some o → XW p l e rm_X2_passWord s m args below meth c 5 0 (xQi below args s D vwCl (tysC ca) (EC ad ca) NCC ad o) D vwCl (EC ad ca) NCC ad ah 4 [(1, .ref (ad 2)), (2, .int v2), (3, .int v3)] [] := by
  intro n
  induction n with
  | zero => intro ah v2 v3 h; unfold F_X2_passWord_4 at h; cases h
  | succ n ih =>
    intro ah v2 v3 h
    unfold F_X2_passWord_4 at h
    refine x_iload_n C dX2_passWord_4 5 rfl 2 rfl ?_
    refine x_bipush C dX2_passWord_5 7 rfl 12 rfl ?_
    refine x_icmp_gt C dX2_passWord_7 10 rfl 91 rfl h (fun h => ?_) (fun h => ?_)
    · refine x_iconst C dX2_passWord_91 92 rfl 0 rfl ?_
      exact x_zret C rfl dX2_passWord_92 (by decide) h
    · refine x_aload_n C dX2_passWord_10 11 rfl 0 rfl ?_
      refine x_iconst C dX2_passWord_11 12 rfl 0 rfl ?_
      obtain ⟨r12, a12, hq, h⟩ := xb_some h
      refine x_callVi C 2 (c_X9_peek C.2.2.2.2.2.2.1 hq) lc2 EC_2 rfl wml_X2_97 wq_X9_peek rfl ⟨by decide, by decide⟩ rfl rfl ⟨by decide, by decide⟩ dX2_passWord_12 15 rfl rfl (Nat.le_of_ble_eq_true rfl) ?_
      refine x_istore C dX2_passWord_15 17 rfl (by decide) (fun v4_15 => [(4, .int v4_15), (1, .ref (ad 2)), (2, .int v2), (3, .int v3)]) (fun _ => rfl) h (fun v4_15 h => ?_)
      refine x_iload C dX2_passWord_17 19 rfl 0 rfl ?_
      obtain ⟨r19, a19, hq, h⟩ := xb_some h
      refine x_callNi C (c_X11_isLetter C.2.2.2.2.2.2.1 hq) xn_X2_101 wq_X11_isLetter rfl ⟨by decide, by decide⟩ rfl rfl ⟨by decide, by decide⟩ dX2_passWord_19 22 rfl rfl (Nat.le_of_ble_eq_true rfl) ?_
      refine x_if_ne C dX2_passWord_22 25 rfl 56 rfl h (fun h => ?_) (fun h => ?_)
      · exact x_sub [1, 3, 0] rfl (b_X2_passWord_56 C (fun _ _ _ h => ih h) h)
      · refine x_iload C dX2_passWord_25 27 rfl 0 rfl ?_
        refine x_bipush C dX2_passWord_27 29 rfl 45 rfl ?_
        refine x_icmp_eq C dX2_passWord_29 32 rfl 56 rfl h (fun h => ?_) (fun h => ?_)
        · exact x_sub [1, 3, 0] rfl (b_X2_passWord_56 C (fun _ _ _ h => ih h) h)
        · refine x_iload_n C dX2_passWord_32 33 rfl 2 rfl ?_
          refine x_bipush C dX2_passWord_33 35 rfl 45 rfl ?_
          refine x_icmp_ne C dX2_passWord_35 38 rfl 50 rfl h (fun h => ?_) (fun h => ?_)
          · exact x_sub [] rfl (b_X2_passWord_50 C (fun _ _ _ h => ih h) h)
          · refine x_aload_n C dX2_passWord_38 39 rfl 1 rfl ?_
            refine x_iconst C dX2_passWord_39 40 rfl 1 rfl ?_
            refine x_aload_n C dX2_passWord_40 41 rfl 1 rfl ?_
            refine x_get C inX9 2 lc2 EC_2 rfl 3 (by decide) dX2_passWord_41 44 rfl wmf_X2_94 rfl ?_
            obtain ⟨r44, a44, hq, h⟩ := xb_some h
            refine x_callVi C 2 (c_X9_refuse C.2.2.2.2.2.2.1 hq) lc2 EC_2 rfl wml_X2_105 wq_X9_refuse rfl ⟨by decide, by decide⟩ rfl rfl ⟨by decide, by decide⟩ dX2_passWord_44 47 rfl rfl (Nat.le_of_ble_eq_true rfl) ?_
            refine x_if_eq C dX2_passWord_47 50 rfl 54 rfl h (fun h => ?_) (fun h => ?_)
            · refine x_iconst C dX2_passWord_54 55 rfl 0 rfl ?_
              exact x_zret C rfl dX2_passWord_55 (by decide) h
            · exact x_sub [] rfl (b_X2_passWord_50 C (fun _ _ _ h => ih h) h)
theorem c_X2_passWord {l : Launch} {D : va_G} {ca : Nat → ClassId} {ad : Nat → Nat} (hI : xInj ad NCC) {N : Nat} {ah : AH} {r : Int32} {a : AH} (h : F_X2_passWord N ah = some (r, a)) : xMi l yX2_passWord cX2_passWord 5 (some .boolean) rm_X2_passWord D vwCl (tysC ca) (EC ad ca) NCC ad [.ref (ad 4), .ref (ad 2)] ah (r, a) := by
  refine x_meti (by decide) (Nat.le_of_ble_eq_true rfl) hI EC_loc ?_
  intro p e s m args below meth c C
  unfold F_X2_passWord at h
  refine x_iconst C dX2_passWord_0 1 rfl (-1) rfl ?_
  refine x_istore_n C dX2_passWord_1 2 rfl (by decide) (fun v2_1 => [(2, .int v2_1), (0, .ref (ad 4)), (1, .ref (ad 2))]) (fun _ => rfl) h (fun v2_1 h => ?_)
  refine x_iconst C dX2_passWord_2 3 rfl 0 rfl ?_
  refine x_istore_n C dX2_passWord_3 4 rfl (by decide) (fun v3_3 => [(3, .int v3_3), (2, .int v2_1), (0, .ref (ad 4)), (1, .ref (ad 2))]) (fun _ => rfl) h (fun v3_3 h => ?_)
  exact x_sub [3, 1, 0] rfl (b_X2_passWord_4 C  N h)
abbrev rm_X2_isFresh : Room := { frames := 0, cells := 0, slots := 0, locals := 0 }
theorem wq_X2_isFresh : xcV RX2 yX2_isFresh cX2_isFresh 6 (some .boolean) 3 := ⟨wmi_X2_isFresh, wms_X2_isFresh, wmn_X2, wmc_X2_isFresh, by decide, by decide, by decide +kernel⟩
def F_X2_isFresh_59 (N : Nat) (w1 : Nat) (k3 : AH → Int32 → Int32 → Int32 → Option (Int32 × AH)) (ah : AH) (v2 : Int32) (v3 : Int32) (v4 : Int32) (v5 : Int32) : Option (Int32 × AH) := if v5 = v3 then some (1, ah) else xlet (v4 + 1) (fun v4_67 => k3 ah v2 v3 v4_67)
def F_X2_isFresh_15 (N : Nat) (w1 : Nat) (k3 : AH → Int32 → Int32 → Int32 → Option (Int32 × AH)) : Nat → AH → Int32 → Int32 → Int32 → Int32 → Option (Int32 × AH)
  | 0, _, _, _, _, _ => none
  | n + 1, ah, v2, v3, v4, v5 => xg v4 60 (if (ah 17 (Int32.toNatClampNeg v4)) = v3 then if v3 ≤ v5 then F_X2_isFresh_59 N w1 k3 ah v2 v3 v4 v5 else xg v4 60 (xg ((ah 16 (Int32.toNatClampNeg v4)) + v5) 400 (xg (v2 + v5) 400 (if (ah w1 (Int32.toNatClampNeg ((ah 16 (Int32.toNatClampNeg v4)) + v5))) = (ah w1 (Int32.toNatClampNeg (v2 + v5))) then xlet (v5 + 1) (fun v5_53 => F_X2_isFresh_15 N w1 k3 n ah v2 v3 v4 v5_53) else F_X2_isFresh_59 N w1 k3 ah v2 v3 v4 v5))) else F_X2_isFresh_59 N w1 k3 ah v2 v3 v4 v5)
def F_X2_isFresh_3 (N : Nat) (w1 : Nat) : Nat → AH → Int32 → Int32 → Int32 → Option (Int32 × AH)
  | 0, _, _, _, _ => none
  | n + 1, ah, v2, v3, v4 => if (ah 4 13) ≤ v4 then some (0, ah) else xlet 0 (fun v5_13 => F_X2_isFresh_15 N w1 (F_X2_isFresh_3 N w1 n) N ah v2 v3 v4 v5_13)
def F_X2_isFresh (N : Nat) (w1 : Nat) (ah : AH) (p2 : Int32) (p3 : Int32) : Option (Int32 × AH) := xlet 0 (fun v4_1 => F_X2_isFresh_3 N w1 N ah p2 p3 v4_1)
theorem b_X2_isFresh_59_3 (C : XC p l s m args meth c cX2_isFresh 6 (some .boolean) RX2 D vwCl (tysC ca) (EC ad ca) NCC ad) {N : Nat} {o : (Int32 × AH)} {k3 : AH → Int32 → Int32 → Int32 → Option (Int32 × AH)} (hk3 : ∀ (ah : AH) (v2 : Int32) (v3 : Int32) (v4 : Int32), k3 ah v2 v3 v4 = some o → XW p l e rm_X2_isFresh s m args below meth c 6 0 (xQi below args s D vwCl (tysC ca) (EC ad ca) NCC ad o) D vwCl (EC ad ca) NCC ad ah 3 [(0, .ref (ad 4)), (1, .ref (ad 3)), (2, .int v2), (3, .int v3), (4, .int v4)] []) {ah : AH} {v2 : Int32} {v3 : Int32} {v4 : Int32} {v5 : Int32} (h : F_X2_isFresh_59 N 3 k3 ah v2 v3 v4 v5 = some o) : XW p l e rm_X2_isFresh s m args below meth c 6 0 (xQi below args s D vwCl (tysC ca) (EC ad ca) NCC ad o) D vwCl (EC ad ca) NCC ad ah 59 [(0, .ref (ad 4)), (1, .ref (ad 3)), (2, .int v2), (3, .int v3), (4, .int v4), (5, .int v5)] [] := by
  unfold F_X2_isFresh_59 at h
  refine x_iload C dX2_isFresh_59 61 rfl 5 rfl ?_
  refine x_iload_n C dX2_isFresh_61 62 rfl 3 rfl ?_
  refine x_icmp_ne C dX2_isFresh_62 65 rfl 67 rfl h (fun h => ?_) (fun h => ?_)
  · refine x_iinc C dX2_isFresh_67 70 rfl 4 rfl (d := 1) rfl (by decide) (fun v4_67 => [(4, .int v4_67), (0, .ref (ad 4)), (1, .ref (ad 3)), (2, .int v2), (3, .int v3), (5, .int v5)]) (fun _ => rfl) h (fun v4_67 h => ?_)
    refine x_goto C dX2_isFresh_70 3 rfl ?_
    exact x_sub [1, 2, 3, 4, 0] rfl (hk3 _ _ _ _ h)
  · refine x_iconst C dX2_isFresh_65 66 rfl 1 rfl ?_
    exact x_zret C rfl dX2_isFresh_66 (by decide) h
theorem b_X2_isFresh_15_3 (C : XC p l s m args meth c cX2_isFresh 6 (some .boolean) RX2 D vwCl (tysC ca) (EC ad ca) NCC ad) {N : Nat} {o : (Int32 × AH)} {k3 : AH → Int32 → Int32 → Int32 → Option (Int32 × AH)} (hk3 : ∀ (ah : AH) (v2 : Int32) (v3 : Int32) (v4 : Int32), k3 ah v2 v3 v4 = some o → XW p l e rm_X2_isFresh s m args below meth c 6 0 (xQi below args s D vwCl (tysC ca) (EC ad ca) NCC ad o) D vwCl (EC ad ca) NCC ad ah 3 [(0, .ref (ad 4)), (1, .ref (ad 3)), (2, .int v2), (3, .int v3), (4, .int v4)] []) : ∀ (n : Nat) {ah : AH} {v2 : Int32} {v3 : Int32} {v4 : Int32} {v5 : Int32}, F_X2_isFresh_15 N 3 k3 n ah v2 v3 v4 v5 = some o → XW p l e rm_X2_isFresh s m args below meth c 6 0 (xQi below args s D vwCl (tysC ca) (EC ad ca) NCC ad o) D vwCl (EC ad ca) NCC ad ah 15 [(0, .ref (ad 4)), (1, .ref (ad 3)), (2, .int v2), (3, .int v3), (4, .int v4), (5, .int v5)] [] := by
  intro n
  induction n with
  | zero => intro ah v2 v3 v4 v5 h; unfold F_X2_isFresh_15 at h; cases h
  | succ n ih =>
    intro ah v2 v3 v4 v5 h
    unfold F_X2_isFresh_15 at h
    refine x_aload_n C dX2_isFresh_15 16 rfl 0 rfl ?_
    refine x_get C inX2 4 lc4 EC_4 rfl 15 (by decide) dX2_isFresh_16 19 rfl wmf_X2_52 rfl ?_
    refine x_iload C dX2_isFresh_19 21 rfl 4 rfl ?_
    refine x_iald C 17 lc17 EC_17 0 rfl dX2_isFresh_21 22 rfl h (fun h => ?_)
    refine x_iload_n C dX2_isFresh_22 23 rfl 3 rfl ?_
    refine x_icmp_ne C dX2_isFresh_23 26 rfl 59 rfl h (fun h => ?_) (fun h => ?_)
    · exact b_X2_isFresh_59_3 C hk3 h
    · refine x_iload C dX2_isFresh_26 28 rfl 5 rfl ?_
      refine x_iload_n C dX2_isFresh_28 29 rfl 3 rfl ?_
      refine x_icmp_ge C dX2_isFresh_29 32 rfl 59 rfl h (fun h => ?_) (fun h => ?_)
      · exact b_X2_isFresh_59_3 C hk3 h
      · refine x_aload_n C dX2_isFresh_32 33 rfl 1 rfl ?_
        refine x_aload_n C dX2_isFresh_33 34 rfl 0 rfl ?_
        refine x_get C inX2 4 lc4 EC_4 rfl 14 (by decide) dX2_isFresh_34 37 rfl wmf_X2_49 rfl ?_
        refine x_iload C dX2_isFresh_37 39 rfl 4 rfl ?_
        refine x_iald C 16 lc16 EC_16 0 rfl dX2_isFresh_39 40 rfl h (fun h => ?_)
        refine x_iload C dX2_isFresh_40 42 rfl 5 rfl ?_
        refine x_iadd C dX2_isFresh_42 43 rfl ?_
        refine x_iald C 3 lc3 EC_3 0 rfl dX2_isFresh_43 44 rfl h (fun h => ?_)
        refine x_aload_n C dX2_isFresh_44 45 rfl 1 rfl ?_
        refine x_iload_n C dX2_isFresh_45 46 rfl 2 rfl ?_
        refine x_iload C dX2_isFresh_46 48 rfl 5 rfl ?_
        refine x_iadd C dX2_isFresh_48 49 rfl ?_
        refine x_iald C 3 lc3 EC_3 0 rfl dX2_isFresh_49 50 rfl h (fun h => ?_)
        refine x_icmp_ne C dX2_isFresh_50 53 rfl 59 rfl h (fun h => ?_) (fun h => ?_)
        · exact b_X2_isFresh_59_3 C hk3 h
        · refine x_iinc C dX2_isFresh_53 56 rfl 5 rfl (d := 1) rfl (by decide) (fun v5_53 => [(5, .int v5_53), (0, .ref (ad 4)), (1, .ref (ad 3)), (2, .int v2), (3, .int v3), (4, .int v4)]) (fun _ => rfl) h (fun v5_53 h => ?_)
          refine x_goto C dX2_isFresh_56 15 rfl ?_
          exact x_sub [1, 2, 3, 4, 5, 0] rfl (ih h)
theorem b_X2_isFresh_3_3 (C : XC p l s m args meth c cX2_isFresh 6 (some .boolean) RX2 D vwCl (tysC ca) (EC ad ca) NCC ad) {N : Nat} {o : (Int32 × AH)} : ∀ (n : Nat) {ah : AH} {v2 : Int32} {v3 : Int32} {v4 : Int32}, F_X2_isFresh_3 N 3 n ah v2 v3 v4 = some o → XW p l e rm_X2_isFresh s m args below meth c 6 0 (xQi below args s D vwCl (tysC ca) (EC ad ca) NCC ad o) D vwCl (EC ad ca) NCC ad ah 3 [(0, .ref (ad 4)), (1, .ref (ad 3)), (2, .int v2), (3, .int v3), (4, .int v4)] [] := by
  intro n
  induction n with
  | zero => intro ah v2 v3 v4 h; unfold F_X2_isFresh_3 at h; cases h
  | succ n ih =>
    intro ah v2 v3 v4 h
    unfold F_X2_isFresh_3 at h
    refine x_iload C dX2_isFresh_3 5 rfl 4 rfl ?_
    refine x_aload_n C dX2_isFresh_5 6 rfl 0 rfl ?_
    refine x_get C inX2 4 lc4 EC_4 rfl 13 (by decide) dX2_isFresh_6 9 rfl wmf_X2_71 rfl ?_
    refine x_icmp_ge C dX2_isFresh_9 12 rfl 73 rfl h (fun h => ?_) (fun h => ?_)
    · refine x_iconst C dX2_isFresh_73 74 rfl 0 rfl ?_
      exact x_zret C rfl dX2_isFresh_74 (by decide) h
    · refine x_iconst C dX2_isFresh_12 13 rfl 0 rfl ?_
      refine x_istore C dX2_isFresh_13 15 rfl (by decide) (fun v5_13 => [(5, .int v5_13), (0, .ref (ad 4)), (1, .ref (ad 3)), (2, .int v2), (3, .int v3), (4, .int v4)]) (fun _ => rfl) h (fun v5_13 h => ?_)
      exact x_sub [1, 2, 3, 4, 5, 0] rfl (b_X2_isFresh_15_3 C (fun _ _ _ _ h => ih h) N h)
theorem c_X2_isFresh_3 {l : Launch} {D : va_G} {ca : Nat → ClassId} {ad : Nat → Nat} (hI : xInj ad NCC) {N : Nat} {ah : AH} {p2 : Int32} {p3 : Int32} {r : Int32} {a : AH} (h : F_X2_isFresh N 3 ah p2 p3 = some (r, a)) : xMi l yX2_isFresh cX2_isFresh 6 (some .boolean) rm_X2_isFresh D vwCl (tysC ca) (EC ad ca) NCC ad [.ref (ad 4), .ref (ad 3), .int p2, .int p3] ah (r, a) := by
  refine x_meti (by decide) (Nat.le_of_ble_eq_true rfl) hI EC_loc ?_
  intro p e s m args below meth c C
  unfold F_X2_isFresh at h
  refine x_iconst C dX2_isFresh_0 1 rfl 0 rfl ?_
  refine x_istore C dX2_isFresh_1 3 rfl (by decide) (fun v4_1 => [(4, .int v4_1), (0, .ref (ad 4)), (1, .ref (ad 3)), (2, .int p2), (3, .int p3)]) (fun _ => rfl) h (fun v4_1 h => ?_)
  exact x_sub [1, 2, 3, 4, 0] rfl (b_X2_isFresh_3_3 C  N h)
abbrev rm_X2_readEntry : Room := { frames := 3, cells := 0, slots := 0, locals := 68 }
theorem wq_X2_readEntry : xcV RX2 yX2_readEntry cX2_readEntry 5 (some .boolean) 1 := ⟨wmi_X2_readEntry, wms_X2_readEntry, wmn_X2, wmc_X2_readEntry, by decide, by decide, by decide +kernel⟩
def F_X2_readEntry_88 (N : Nat) (ah : AH) (v2 : Int32) : Option (Int32 × AH) := xb (F_X9_refuse N ah 4 v2) (fun r91 a91 => xbo r91 (some (r91, a91)))
def F_X2_readEntry (N : Nat) (ah : AH) : Option (Int32 × AH) := xlet (ah 2 3) (fun v2_4 => xb (F_X9_peek N ah 0) (fun r7 a7 => xb (F_X11_isLetter N a7 r7) (fun r10 a10 => if r10 = 0 then xb (F_X9_refuse N a10 1 v2_4) (fun r19 a19 => xbo r19 (some (r19, a19))) else if ((a10 4 0) + (a10 4 13)) < 60 then xb (F_X2_passWord N a10) (fun r46 a46 => if r46 = 0 then some (0, a46) else xlet ((a46 2 3) - v2_4) (fun v3_60 => xb (F_X2_look N 3 a46 v2_4 v3_60) (fun r68 a68 => if r68 = ((-1)) then xb (F_X2_isFresh N 3 a68 v2_4 v3_60) (fun r82 a82 => if r82 = 0 then xb (F_X9_readEnding N a82 0 0) (fun r98 a98 => xlet r98 (fun v4_101 => if v4_101 = ((-1)) then some (0, a98) else xg (a98 4 13) 60 (xlet (xu a98 16 (Int32.toNatClampNeg (a98 4 13)) v2_4) (fun a120 => xg (a120 4 13) 60 (xlet (xu a120 17 (Int32.toNatClampNeg (a120 4 13)) v3_60) (fun a130 => xg (a130 4 13) 60 (xlet (xu a130 18 (Int32.toNatClampNeg (a130 4 13)) v4_101) (fun a141 => xlet (xu a141 4 13 ((a141 4 13) + 1)) (fun a149 => some (1, a149)))))))))) else F_X2_readEntry_88 N a82 v2_4) else F_X2_readEntry_88 N a68 v2_4))) else xb (F_X9_refuse N a10 3 v2_4) (fun r40 a40 => xbo r40 (some (r40, a40))))))
theorem b_X2_readEntry_88 (C : XC p l s m args meth c cX2_readEntry 5 (some .boolean) RX2 D vwCl (tysC ca) (EC ad ca) NCC ad) {N : Nat} {o : (Int32 × AH)} {ah : AH} {v2 : Int32} (h : F_X2_readEntry_88 N ah v2 = some o) : XW p l e rm_X2_readEntry s m args below meth c 5 0 (xQi below args s D vwCl (tysC ca) (EC ad ca) NCC ad o) D vwCl (EC ad ca) NCC ad ah 88 [(1, .ref (ad 2)), (2, .int v2)] [] := by
  unfold F_X2_readEntry_88 at h
  refine x_aload_n C dX2_readEntry_88 89 rfl 0 rfl ?_
  refine x_iconst C dX2_readEntry_89 90 rfl 4 rfl ?_
  refine x_iload_n C dX2_readEntry_90 91 rfl 1 rfl ?_
  obtain ⟨r91, a91, hq, h⟩ := xb_some h
  refine x_callVi C 2 (c_X9_refuse C.2.2.2.2.2.2.1 hq) lc2 EC_2 rfl wml_X2_105 wq_X9_refuse rfl ⟨by decide, by decide⟩ rfl rfl ⟨by decide, by decide⟩ dX2_readEntry_91 94 rfl rfl (Nat.le_of_ble_eq_true rfl) ?_
  exact x_zretB C rfl dX2_readEntry_94 h
theorem c_X2_readEntry {l : Launch} {D : va_G} {ca : Nat → ClassId} {ad : Nat → Nat} (hI : xInj ad NCC) {N : Nat} {ah : AH} {r : Int32} {a : AH} (h : F_X2_readEntry N ah = some (r, a)) : xMi l yX2_readEntry cX2_readEntry 5 (some .boolean) rm_X2_readEntry D vwCl (tysC ca) (EC ad ca) NCC ad [.ref (ad 4), .ref (ad 2)] ah (r, a) := by
  refine x_meti (by decide) (Nat.le_of_ble_eq_true rfl) hI EC_loc ?_
  intro p e s m args below meth c C
  unfold F_X2_readEntry at h
  refine x_aload_n C dX2_readEntry_0 1 rfl 1 rfl ?_
  refine x_get C inX9 2 lc2 EC_2 rfl 3 (by decide) dX2_readEntry_1 4 rfl wmf_X2_94 rfl ?_
  refine x_istore_n C dX2_readEntry_4 5 rfl (by decide) (fun v2_4 => [(2, .int v2_4), (0, .ref (ad 4)), (1, .ref (ad 2))]) (fun _ => rfl) h (fun v2_4 h => ?_)
  refine x_aload_n C dX2_readEntry_5 6 rfl 2 rfl ?_
  refine x_iconst C dX2_readEntry_6 7 rfl 0 rfl ?_
  obtain ⟨r7, a7, hq, h⟩ := xb_some h
  refine x_callVi C 2 (c_X9_peek C.2.2.2.2.2.2.1 hq) lc2 EC_2 rfl wml_X2_97 wq_X9_peek rfl ⟨by decide, by decide⟩ rfl rfl ⟨by decide, by decide⟩ dX2_readEntry_7 10 rfl rfl (Nat.le_of_ble_eq_true rfl) ?_
  obtain ⟨r10, a10, hq, h⟩ := xb_some h
  refine x_callNi C (c_X11_isLetter C.2.2.2.2.2.2.1 hq) xn_X2_101 wq_X11_isLetter rfl ⟨by decide, by decide⟩ rfl rfl ⟨by decide, by decide⟩ dX2_readEntry_10 13 rfl rfl (Nat.le_of_ble_eq_true rfl) ?_
  refine x_if_ne C dX2_readEntry_13 16 rfl 23 rfl h (fun h => ?_) (fun h => ?_)
  · refine x_aload_n C dX2_readEntry_23 24 rfl 1 rfl ?_
    refine x_get C inX2 4 lc4 EC_4 rfl 0 (by decide) dX2_readEntry_24 27 rfl wmf_X2_61 rfl ?_
    refine x_aload_n C dX2_readEntry_27 28 rfl 1 rfl ?_
    refine x_get C inX2 4 lc4 EC_4 rfl 13 (by decide) dX2_readEntry_28 31 rfl wmf_X2_71 rfl ?_
    refine x_iadd C dX2_readEntry_31 32 rfl ?_
    refine x_bipush C dX2_readEntry_32 34 rfl 60 rfl ?_
    refine x_icmp_lt C dX2_readEntry_34 37 rfl 44 rfl h (fun h => ?_) (fun h => ?_)
    · refine x_aload_n C dX2_readEntry_44 45 rfl 1 rfl ?_
      refine x_aload_n C dX2_readEntry_45 46 rfl 2 rfl ?_
      obtain ⟨r46, a46, hq, h⟩ := xb_some h
      refine x_callVi C 4 (c_X2_passWord C.2.2.2.2.2.2.1 hq) lc4 EC_4 rfl wml_X2_109 wq_X2_passWord rfl ⟨by decide, by decide⟩ rfl rfl ⟨by decide, by decide⟩ dX2_readEntry_46 49 rfl rfl (Nat.le_of_ble_eq_true rfl) ?_
      refine x_if_ne C dX2_readEntry_49 52 rfl 54 rfl h (fun h => ?_) (fun h => ?_)
      · refine x_aload_n C dX2_readEntry_54 55 rfl 2 rfl ?_
        refine x_get C inX9 2 lc2 EC_2 rfl 3 (by decide) dX2_readEntry_55 58 rfl wmf_X2_94 rfl ?_
        refine x_iload_n C dX2_readEntry_58 59 rfl 0 rfl ?_
        refine x_isub C dX2_readEntry_59 60 rfl ?_
        refine x_istore_n C dX2_readEntry_60 61 rfl (by decide) (fun v3_60 => [(3, .int v3_60), (2, .int v2_4), (0, .ref (ad 4)), (1, .ref (ad 2))]) (fun _ => rfl) h (fun v3_60 h => ?_)
        refine x_aload_n C dX2_readEntry_61 62 rfl 2 rfl ?_
        refine x_aload_n C dX2_readEntry_62 63 rfl 3 rfl ?_
        refine x_get C inX9 2 lc2 EC_2 rfl 0 (by decide) dX2_readEntry_63 66 rfl wmf_X2_83 rfl ?_
        refine x_iload_n C dX2_readEntry_66 67 rfl 1 rfl ?_
        refine x_iload_n C dX2_readEntry_67 68 rfl 0 rfl ?_
        obtain ⟨r68, a68, hq, h⟩ := xb_some h
        refine x_callVi C 4 (c_X2_look_3 C.2.2.2.2.2.2.1 hq) lc4 EC_4 rfl wml_X2_112 wq_X2_look rfl ⟨by decide, by decide⟩ rfl rfl ⟨by decide, by decide⟩ dX2_readEntry_68 71 rfl rfl (Nat.le_of_ble_eq_true rfl) ?_
        refine x_iconst C dX2_readEntry_71 72 rfl (-1) rfl ?_
        refine x_icmp_ne C dX2_readEntry_72 75 rfl 88 rfl h (fun h => ?_) (fun h => ?_)
        · exact x_sub [3, 1] rfl (b_X2_readEntry_88 C  h)
        · refine x_aload_n C dX2_readEntry_75 76 rfl 2 rfl ?_
          refine x_aload_n C dX2_readEntry_76 77 rfl 3 rfl ?_
          refine x_get C inX9 2 lc2 EC_2 rfl 0 (by decide) dX2_readEntry_77 80 rfl wmf_X2_83 rfl ?_
          refine x_iload_n C dX2_readEntry_80 81 rfl 1 rfl ?_
          refine x_iload_n C dX2_readEntry_81 82 rfl 0 rfl ?_
          obtain ⟨r82, a82, hq, h⟩ := xb_some h
          refine x_callVi C 4 (c_X2_isFresh_3 C.2.2.2.2.2.2.1 hq) lc4 EC_4 rfl wml_X2_116 wq_X2_isFresh rfl ⟨by decide, by decide⟩ rfl rfl ⟨by decide, by decide⟩ dX2_readEntry_82 85 rfl rfl (Nat.le_of_ble_eq_true rfl) ?_
          refine x_if_eq C dX2_readEntry_85 88 rfl 95 rfl h (fun h => ?_) (fun h => ?_)
          · refine x_aload_n C dX2_readEntry_95 96 rfl 3 rfl ?_
            refine x_iconst C dX2_readEntry_96 97 rfl 0 rfl ?_
            refine x_iconst C dX2_readEntry_97 98 rfl 0 rfl ?_
            obtain ⟨r98, a98, hq, h⟩ := xb_some h
            refine x_callVi C 2 (c_X9_readEnding C.2.2.2.2.2.2.1 hq) lc2 EC_2 rfl wml_X2_120 wq_X9_readEnding rfl ⟨by decide, by decide⟩ rfl rfl ⟨by decide, by decide⟩ dX2_readEntry_98 101 rfl rfl (Nat.le_of_ble_eq_true rfl) ?_
            refine x_istore C dX2_readEntry_101 103 rfl (by decide) (fun v4_101 => [(4, .int v4_101), (3, .int v3_60), (2, .int v2_4), (0, .ref (ad 4)), (1, .ref (ad 2))]) (fun _ => rfl) h (fun v4_101 h => ?_)
            refine x_iload C dX2_readEntry_103 105 rfl 0 rfl ?_
            refine x_iconst C dX2_readEntry_105 106 rfl (-1) rfl ?_
            refine x_icmp_ne C dX2_readEntry_106 109 rfl 111 rfl h (fun h => ?_) (fun h => ?_)
            · refine x_aload_n C dX2_readEntry_111 112 rfl 3 rfl ?_
              refine x_get C inX2 4 lc4 EC_4 rfl 14 (by decide) dX2_readEntry_112 115 rfl wmf_X2_49 rfl ?_
              refine x_aload_n C dX2_readEntry_115 116 rfl 3 rfl ?_
              refine x_get C inX2 4 lc4 EC_4 rfl 13 (by decide) dX2_readEntry_116 119 rfl wmf_X2_71 rfl ?_
              refine x_iload_n C dX2_readEntry_119 120 rfl 2 rfl ?_
              refine x_iast C 16 lc16 (fun _ => EC_16) 0 rfl dX2_readEntry_120 121 rfl h (fun a120 h => ?_)
              refine x_aload_n C dX2_readEntry_121 122 rfl 3 rfl ?_
              refine x_get C inX2 4 lc4 EC_4 rfl 15 (by decide) dX2_readEntry_122 125 rfl wmf_X2_52 rfl ?_
              refine x_aload_n C dX2_readEntry_125 126 rfl 3 rfl ?_
              refine x_get C inX2 4 lc4 EC_4 rfl 13 (by decide) dX2_readEntry_126 129 rfl wmf_X2_71 rfl ?_
              refine x_iload_n C dX2_readEntry_129 130 rfl 1 rfl ?_
              refine x_iast C 17 lc17 (fun _ => EC_17) 0 rfl dX2_readEntry_130 131 rfl h (fun a130 h => ?_)
              refine x_aload_n C dX2_readEntry_131 132 rfl 3 rfl ?_
              refine x_get C inX2 4 lc4 EC_4 rfl 16 (by decide) dX2_readEntry_132 135 rfl wmf_X2_55 rfl ?_
              refine x_aload_n C dX2_readEntry_135 136 rfl 3 rfl ?_
              refine x_get C inX2 4 lc4 EC_4 rfl 13 (by decide) dX2_readEntry_136 139 rfl wmf_X2_71 rfl ?_
              refine x_iload C dX2_readEntry_139 141 rfl 0 rfl ?_
              refine x_iast C 18 lc18 (fun _ => EC_18) 0 rfl dX2_readEntry_141 142 rfl h (fun a141 h => ?_)
              refine x_aload_n C dX2_readEntry_142 143 rfl 3 rfl ?_
              refine x_dup C dX2_readEntry_143 144 rfl rfl ?_
              refine x_get C inX2 4 lc4 EC_4 rfl 13 (by decide) dX2_readEntry_144 147 rfl wmf_X2_71 rfl ?_
              refine x_iconst C dX2_readEntry_147 148 rfl 1 rfl ?_
              refine x_iadd C dX2_readEntry_148 149 rfl ?_
              refine x_put C inX2 4 lc4 EC_4 rfl 13 (by decide) tyX2_ok nmX2 dX2_readEntry_149 152 rfl wmf_X2_71 rfl rfl rfl (Nat.le_of_ble_eq_true rfl) EP_4_13 h (fun a149 h => ?_)
              refine x_iconst C dX2_readEntry_152 153 rfl 1 rfl ?_
              exact x_zret C rfl dX2_readEntry_153 (by decide) h
            · refine x_iconst C dX2_readEntry_109 110 rfl 0 rfl ?_
              exact x_zret C rfl dX2_readEntry_110 (by decide) h
          · exact x_sub [3, 1] rfl (b_X2_readEntry_88 C  h)
      · refine x_iconst C dX2_readEntry_52 53 rfl 0 rfl ?_
        exact x_zret C rfl dX2_readEntry_53 (by decide) h
    · refine x_aload_n C dX2_readEntry_37 38 rfl 2 rfl ?_
      refine x_iconst C dX2_readEntry_38 39 rfl 3 rfl ?_
      refine x_iload_n C dX2_readEntry_39 40 rfl 0 rfl ?_
      obtain ⟨r40, a40, hq, h⟩ := xb_some h
      refine x_callVi C 2 (c_X9_refuse C.2.2.2.2.2.2.1 hq) lc2 EC_2 rfl wml_X2_105 wq_X9_refuse rfl ⟨by decide, by decide⟩ rfl rfl ⟨by decide, by decide⟩ dX2_readEntry_40 43 rfl rfl (Nat.le_of_ble_eq_true rfl) ?_
      exact x_zretB C rfl dX2_readEntry_43 h
  · refine x_aload_n C dX2_readEntry_16 17 rfl 2 rfl ?_
    refine x_iconst C dX2_readEntry_17 18 rfl 1 rfl ?_
    refine x_iload_n C dX2_readEntry_18 19 rfl 0 rfl ?_
    obtain ⟨r19, a19, hq, h⟩ := xb_some h
    refine x_callVi C 2 (c_X9_refuse C.2.2.2.2.2.2.1 hq) lc2 EC_2 rfl wml_X2_105 wq_X9_refuse rfl ⟨by decide, by decide⟩ rfl rfl ⟨by decide, by decide⟩ dX2_readEntry_19 22 rfl rfl (Nat.le_of_ble_eq_true rfl) ?_
    exact x_zretB C rfl dX2_readEntry_22 h
abbrev rm_X2_addWord : Room := { frames := 1, cells := 0, slots := 0, locals := 24 }
theorem wq_X2_addWord : xcV RX2 yX2_addWord cX2_addWord 8 none 3 := ⟨wmi_X2_addWord, wms_X2_addWord, wmn_X2, wmc_X2_addWord, by decide, by decide, by decide +kernel⟩
def F_X2_addWord_108 (N : Nat) (w1 : Nat) (ah : AH) (v3 : Int32) (v4 : Int32) : Option AH := xg (ah 4 0) 60 (xlet (xu ah 5 (Int32.toNatClampNeg (ah 4 0)) v3) (fun a117 => xg (a117 4 0) 60 (xlet (xu a117 7 (Int32.toNatClampNeg (a117 4 0)) v4) (fun a128 => xg v4 721 (xlet (xu a128 11 (Int32.toNatClampNeg v4) (a128 4 0)) (fun a139 => some a139))))))
def F_X2_addWord_80 (N : Nat) (w1 : Nat) (k16 : AH → Int32 → Int32 → Int32 → Int32 → Option AH) (ah : AH) (v2 : Int32) (v3 : Int32) (v5 : Int32) (v7 : Int32) : Option AH := if v7 = ((-1)) then some ah else xlet v7 (fun v4_89 => xg v4_89 721 (xg v4_89 721 (xlet (xu ah 14 (Int32.toNatClampNeg v4_89) ((ah 14 (Int32.toNatClampNeg v4_89)) + 1)) (fun a101 => xlet (v5 + 1) (fun v5_102 => k16 a101 v2 v3 v4_89 v5_102)))))
def F_X2_addWord_16 (N : Nat) (w1 : Nat) : Nat → AH → Int32 → Int32 → Int32 → Int32 → Option AH
  | 0, _, _, _, _, _ => none
  | n + 1, ah, v2, v3, v4, v5 => if v3 ≤ v5 then F_X2_addWord_108 N w1 ah v3 v4 else if 12 ≤ v5 then F_X2_addWord_108 N w1 ah v3 v4 else xg (v2 + v5) 400 (xlet (ah w1 (Int32.toNatClampNeg (v2 + v5))) (fun v6_35 => xg (((ah 4 0) * 12) + v5) 720 (xlet (xu ah 8 (Int32.toNatClampNeg (((ah 4 0) * 12) + v5)) v6_35) (fun a53 => xb (F_X2_childOf N a53 v4 v6_35) (fun r59 a59 => xlet r59 (fun v7_62 => if v7_62 = ((-1)) then xb (F_X2_addNode N a59 v4 v6_35) (fun r75 a75 => xlet r75 (fun v7_78 => F_X2_addWord_80 N w1 (F_X2_addWord_16 N w1 n) a75 v2 v3 v5 v7_78)) else F_X2_addWord_80 N w1 (F_X2_addWord_16 N w1 n) a59 v2 v3 v5 v7_62))))))
def F_X2_addWord (N : Nat) (w1 : Nat) (ah : AH) (p2 : Int32) (p3 : Int32) : Option AH := xlet 0 (fun v4_1 => xlet (xu ah 14 0 ((ah 14 0) + 1)) (fun a12 => xlet 0 (fun v5_14 => F_X2_addWord_16 N w1 N a12 p2 p3 v4_1 v5_14)))
theorem b_X2_addWord_108_3 (C : XC p l s m args meth c cX2_addWord 8 none RX2 D vwCl (tysC ca) (EC ad ca) NCC ad) {N : Nat} {o : AH} {ah : AH} {v3 : Int32} {v4 : Int32} (h : F_X2_addWord_108 N 3 ah v3 v4 = some o) : XW p l e rm_X2_addWord s m args below meth c 8 0 (xQv below args s D vwCl (tysC ca) (EC ad ca) NCC ad o) D vwCl (EC ad ca) NCC ad ah 108 [(0, .ref (ad 4)), (3, .int v3), (4, .int v4)] [] := by
  unfold F_X2_addWord_108 at h
  refine x_aload_n C dX2_addWord_108 109 rfl 0 rfl ?_
  refine x_get C inX2 4 lc4 EC_4 rfl 1 (by decide) dX2_addWord_109 112 rfl wmf_X2_9 rfl ?_
  refine x_aload_n C dX2_addWord_112 113 rfl 0 rfl ?_
  refine x_get C inX2 4 lc4 EC_4 rfl 0 (by decide) dX2_addWord_113 116 rfl wmf_X2_61 rfl ?_
  refine x_iload_n C dX2_addWord_116 117 rfl 1 rfl ?_
  refine x_iast C 5 lc5 (fun _ => EC_5) 0 rfl dX2_addWord_117 118 rfl h (fun a117 h => ?_)
  refine x_aload_n C dX2_addWord_118 119 rfl 0 rfl ?_
  refine x_get C inX2 4 lc4 EC_4 rfl 3 (by decide) dX2_addWord_119 122 rfl wmf_X2_18 rfl ?_
  refine x_aload_n C dX2_addWord_122 123 rfl 0 rfl ?_
  refine x_get C inX2 4 lc4 EC_4 rfl 0 (by decide) dX2_addWord_123 126 rfl wmf_X2_61 rfl ?_
  refine x_iload C dX2_addWord_126 128 rfl 2 rfl ?_
  refine x_iast C 7 lc7 (fun _ => EC_7) 0 rfl dX2_addWord_128 129 rfl h (fun a128 h => ?_)
  refine x_aload_n C dX2_addWord_129 130 rfl 0 rfl ?_
  refine x_get C inX2 4 lc4 EC_4 rfl 8 (by decide) dX2_addWord_130 133 rfl wmf_X2_34 rfl ?_
  refine x_iload C dX2_addWord_133 135 rfl 2 rfl ?_
  refine x_aload_n C dX2_addWord_135 136 rfl 0 rfl ?_
  refine x_get C inX2 4 lc4 EC_4 rfl 0 (by decide) dX2_addWord_136 139 rfl wmf_X2_61 rfl ?_
  refine x_iast C 11 lc11 (fun _ => EC_11) 0 rfl dX2_addWord_139 140 rfl h (fun a139 h => ?_)
  exact x_vret C rfl dX2_addWord_140 h
theorem b_X2_addWord_80_3 (C : XC p l s m args meth c cX2_addWord 8 none RX2 D vwCl (tysC ca) (EC ad ca) NCC ad) {N : Nat} {o : AH} {k16 : AH → Int32 → Int32 → Int32 → Int32 → Option AH} (hk16 : ∀ (ah : AH) (v2 : Int32) (v3 : Int32) (v4 : Int32) (v5 : Int32), k16 ah v2 v3 v4 v5 = some o → XW p l e rm_X2_addWord s m args below meth c 8 0 (xQv below args s D vwCl (tysC ca) (EC ad ca) NCC ad o) D vwCl (EC ad ca) NCC ad ah 16 [(0, .ref (ad 4)), (1, .ref (ad 3)), (2, .int v2), (3, .int v3), (4, .int v4), (5, .int v5)] []) {ah : AH} {v2 : Int32} {v3 : Int32} {v5 : Int32} {v7 : Int32} (h : F_X2_addWord_80 N 3 k16 ah v2 v3 v5 v7 = some o) : XW p l e rm_X2_addWord s m args below meth c 8 0 (xQv below args s D vwCl (tysC ca) (EC ad ca) NCC ad o) D vwCl (EC ad ca) NCC ad ah 80 [(0, .ref (ad 4)), (1, .ref (ad 3)), (2, .int v2), (3, .int v3), (5, .int v5), (7, .int v7)] [] := by
  unfold F_X2_addWord_80 at h
  refine x_iload C dX2_addWord_80 82 rfl 5 rfl ?_
  refine x_iconst C dX2_addWord_82 83 rfl (-1) rfl ?_
  refine x_icmp_ne C dX2_addWord_83 86 rfl 87 rfl h (fun h => ?_) (fun h => ?_)
  · refine x_iload C dX2_addWord_87 89 rfl 5 rfl ?_
    refine x_istore C dX2_addWord_89 91 rfl (by decide) (fun v4_89 => [(4, .int v4_89), (0, .ref (ad 4)), (1, .ref (ad 3)), (2, .int v2), (3, .int v3), (5, .int v5), (7, .int v7)]) (fun _ => rfl) h (fun v4_89 h => ?_)
    refine x_aload_n C dX2_addWord_91 92 rfl 1 rfl ?_
    refine x_get C inX2 4 lc4 EC_4 rfl 11 (by decide) dX2_addWord_92 95 rfl wmf_X2_43 rfl ?_
    refine x_iload C dX2_addWord_95 97 rfl 0 rfl ?_
    refine x_dup2 C dX2_addWord_97 98 rfl rfl rfl ?_
    refine x_iald C 14 lc14 EC_14 0 rfl dX2_addWord_98 99 rfl h (fun h => ?_)
    refine x_iconst C dX2_addWord_99 100 rfl 1 rfl ?_
    refine x_iadd C dX2_addWord_100 101 rfl ?_
    refine x_iast C 14 lc14 (fun _ => EC_14) 0 rfl dX2_addWord_101 102 rfl h (fun a101 h => ?_)
    refine x_iinc C dX2_addWord_102 105 rfl 5 rfl (d := 1) rfl (by decide) (fun v5_102 => [(5, .int v5_102), (4, .int v4_89), (0, .ref (ad 4)), (1, .ref (ad 3)), (2, .int v2), (3, .int v3), (7, .int v7)]) (fun _ => rfl) h (fun v5_102 h => ?_)
    refine x_goto C dX2_addWord_105 16 rfl ?_
    exact x_sub [2, 3, 4, 5, 1, 0] rfl (hk16 _ _ _ _ _ h)
  · exact x_vret C rfl dX2_addWord_86 h
theorem b_X2_addWord_16_3 (C : XC p l s m args meth c cX2_addWord 8 none RX2 D vwCl (tysC ca) (EC ad ca) NCC ad) {N : Nat} {o : AH} : ∀ (n : Nat) {ah : AH} {v2 : Int32} {v3 : Int32} {v4 : Int32} {v5 : Int32}, F_X2_addWord_16 N 3 n ah v2 v3 v4 v5 = some o → XW p l e rm_X2_addWord s m args below meth c 8 0 (xQv below args s D vwCl (tysC ca) (EC ad ca) NCC ad o) D vwCl (EC ad ca) NCC ad ah 16 [(0, .ref (ad 4)), (1, .ref (ad 3)), (2, .int v2), (3, .int v3), (4, .int v4), (5, .int v5)] [] := by
  intro n
  induction n with
  | zero => intro ah v2 v3 v4 v5 h; unfold F_X2_addWord_16 at h; cases h
  | succ n ih =>
    intro ah v2 v3 v4 v5 h
    unfold F_X2_addWord_16 at h
    refine x_iload C dX2_addWord_16 18 rfl 5 rfl ?_
    refine x_iload_n C dX2_addWord_18 19 rfl 3 rfl ?_
    refine x_icmp_ge C dX2_addWord_19 22 rfl 108 rfl h (fun h => ?_) (fun h => ?_)
    · exact x_sub [0, 3, 4] rfl (b_X2_addWord_108_3 C  h)
    · refine x_iload C dX2_addWord_22 24 rfl 5 rfl ?_
      refine x_bipush C dX2_addWord_24 26 rfl 12 rfl ?_
      refine x_icmp_ge C dX2_addWord_26 29 rfl 108 rfl h (fun h => ?_) (fun h => ?_)
      · exact x_sub [0, 3, 4] rfl (b_X2_addWord_108_3 C  h)
      · refine x_aload_n C dX2_addWord_29 30 rfl 1 rfl ?_
        refine x_iload_n C dX2_addWord_30 31 rfl 2 rfl ?_
        refine x_iload C dX2_addWord_31 33 rfl 5 rfl ?_
        refine x_iadd C dX2_addWord_33 34 rfl ?_
        refine x_iald C 3 lc3 EC_3 0 rfl dX2_addWord_34 35 rfl h (fun h => ?_)
        refine x_istore C dX2_addWord_35 37 rfl (by decide) (fun v6_35 => [(6, .int v6_35), (0, .ref (ad 4)), (1, .ref (ad 3)), (2, .int v2), (3, .int v3), (4, .int v4), (5, .int v5)]) (fun _ => rfl) h (fun v6_35 h => ?_)
        refine x_aload_n C dX2_addWord_37 38 rfl 1 rfl ?_
        refine x_get C inX2 4 lc4 EC_4 rfl 4 (by decide) dX2_addWord_38 41 rfl wmf_X2_21 rfl ?_
        refine x_aload_n C dX2_addWord_41 42 rfl 1 rfl ?_
        refine x_get C inX2 4 lc4 EC_4 rfl 0 (by decide) dX2_addWord_42 45 rfl wmf_X2_61 rfl ?_
        refine x_bipush C dX2_addWord_45 47 rfl 12 rfl ?_
        refine x_imul C dX2_addWord_47 48 rfl ?_
        refine x_iload C dX2_addWord_48 50 rfl 6 rfl ?_
        refine x_iadd C dX2_addWord_50 51 rfl ?_
        refine x_iload C dX2_addWord_51 53 rfl 0 rfl ?_
        refine x_iast C 8 lc8 (fun _ => EC_8) 0 rfl dX2_addWord_53 54 rfl h (fun a53 h => ?_)
        refine x_aload_n C dX2_addWord_54 55 rfl 1 rfl ?_
        refine x_iload C dX2_addWord_55 57 rfl 5 rfl ?_
        refine x_iload C dX2_addWord_57 59 rfl 0 rfl ?_
        obtain ⟨r59, a59, hq, h⟩ := xb_some h
        refine x_callVi C 4 (c_X2_childOf C.2.2.2.2.2.2.1 hq) lc4 EC_4 rfl wml_X2_68 wq_X2_childOf rfl ⟨by decide, by decide⟩ rfl rfl ⟨by decide, by decide⟩ dX2_addWord_59 62 rfl rfl (Nat.le_of_ble_eq_true rfl) ?_
        refine x_istore C dX2_addWord_62 64 rfl (by decide) (fun v7_62 => [(7, .int v7_62), (6, .int v6_35), (0, .ref (ad 4)), (1, .ref (ad 3)), (2, .int v2), (3, .int v3), (4, .int v4), (5, .int v5)]) (fun _ => rfl) h (fun v7_62 h => ?_)
        refine x_iload C dX2_addWord_64 66 rfl 0 rfl ?_
        refine x_iconst C dX2_addWord_66 67 rfl (-1) rfl ?_
        refine x_icmp_ne C dX2_addWord_67 70 rfl 80 rfl h (fun h => ?_) (fun h => ?_)
        · exact x_sub [2, 3, 4, 5, 7, 0] rfl (b_X2_addWord_80_3 C (fun _ _ _ _ _ h => ih h) h)
        · refine x_aload_n C dX2_addWord_70 71 rfl 2 rfl ?_
          refine x_iload C dX2_addWord_71 73 rfl 6 rfl ?_
          refine x_iload C dX2_addWord_73 75 rfl 1 rfl ?_
          obtain ⟨r75, a75, hq, h⟩ := xb_some h
          refine x_callVi C 4 (c_X2_addNode C.2.2.2.2.2.2.1 hq) lc4 EC_4 rfl wml_X2_64 wq_X2_addNode rfl ⟨by decide, by decide⟩ rfl rfl ⟨by decide, by decide⟩ dX2_addWord_75 78 rfl rfl (Nat.le_of_ble_eq_true rfl) ?_
          refine x_istore C dX2_addWord_78 80 rfl (by decide) (fun v7_78 => [(7, .int v7_78), (6, .int v6_35), (0, .ref (ad 4)), (1, .ref (ad 3)), (2, .int v2), (3, .int v3), (4, .int v4), (5, .int v5)]) (fun _ => rfl) h (fun v7_78 h => ?_)
          exact x_sub [2, 3, 4, 5, 7, 0] rfl (b_X2_addWord_80_3 C (fun _ _ _ _ _ h => ih h) h)
theorem c_X2_addWord_3 {l : Launch} {D : va_G} {ca : Nat → ClassId} {ad : Nat → Nat} (hI : xInj ad NCC) {N : Nat} {ah : AH} {p2 : Int32} {p3 : Int32} {a : AH} (h : F_X2_addWord N 3 ah p2 p3 = some a) : xMv l yX2_addWord cX2_addWord 8 rm_X2_addWord D vwCl (tysC ca) (EC ad ca) NCC ad [.ref (ad 4), .ref (ad 3), .int p2, .int p3] ah a := by
  refine x_metv (by decide) (Nat.le_of_ble_eq_true rfl) hI EC_loc ?_
  intro p e s m args below meth c C
  unfold F_X2_addWord at h
  refine x_iconst C dX2_addWord_0 1 rfl 0 rfl ?_
  refine x_istore C dX2_addWord_1 3 rfl (by decide) (fun v4_1 => [(4, .int v4_1), (0, .ref (ad 4)), (1, .ref (ad 3)), (2, .int p2), (3, .int p3)]) (fun _ => rfl) h (fun v4_1 h => ?_)
  refine x_aload_n C dX2_addWord_3 4 rfl 1 rfl ?_
  refine x_get C inX2 4 lc4 EC_4 rfl 11 (by decide) dX2_addWord_4 7 rfl wmf_X2_43 rfl ?_
  refine x_iconst C dX2_addWord_7 8 rfl 0 rfl ?_
  refine x_dup2 C dX2_addWord_8 9 rfl rfl rfl ?_
  refine x_ialdK C 14 lc14 EC_14 0 rfl dX2_addWord_9 10 rfl (by decide) 0 (by decide) ?_
  refine x_iconst C dX2_addWord_10 11 rfl 1 rfl ?_
  refine x_iadd C dX2_addWord_11 12 rfl ?_
  refine x_iastK C 14 lc14 (fun _ => EC_14) 0 rfl dX2_addWord_12 13 rfl (by decide) 0 (by decide) h (fun a12 h => ?_)
  refine x_iconst C dX2_addWord_13 14 rfl 0 rfl ?_
  refine x_istore C dX2_addWord_14 16 rfl (by decide) (fun v5_14 => [(5, .int v5_14), (4, .int v4_1), (0, .ref (ad 4)), (1, .ref (ad 3)), (2, .int p2), (3, .int p3)]) (fun _ => rfl) h (fun v5_14 h => ?_)
  exact x_sub [2, 3, 4, 5, 1, 0] rfl (b_X2_addWord_16_3 C  N h)
abbrev rm_X2_findLeast : Room := { frames := 0, cells := 0, slots := 0, locals := 0 }
theorem wq_X2_findLeast : xcV RX2 yX2_findLeast cX2_findLeast 4 none 0 := ⟨wmi_X2_findLeast, wms_X2_findLeast, wmn_X2, wmc_X2_findLeast, by decide, by decide, by decide +kernel⟩
def F_X2_findLeast_102 (N : Nat) (k25 : AH → Int32 → Option AH) (ah : AH) (v1 : Int32) : Option AH := xlet (v1 + 1) (fun v1_102 => k25 ah v1_102)
def F_X2_findLeast_89 (N : Nat) (k25 : AH → Int32 → Option AH) (k42 : AH → Int32 → Int32 → Int32 → Option AH) (ah : AH) (v1 : Int32) (v2 : Int32) (v3 : Int32) : Option AH := xg v2 721 (xlet (ah 9 (Int32.toNatClampNeg v2)) (fun v2_95 => xlet (v3 + 1) (fun v3_96 => k42 ah v1 v2_95 v3_96)))
def F_X2_findLeast_77 (N : Nat) (k25 : AH → Int32 → Option AH) (k42 : AH → Int32 → Int32 → Int32 → Option AH) (ah : AH) (v1 : Int32) (v2 : Int32) (v3 : Int32) : Option AH := xg v1 60 (xg v2 721 (xlet (xu ah 15 (Int32.toNatClampNeg v2) (ah 6 (Int32.toNatClampNeg v1))) (fun a88 => F_X2_findLeast_89 N k25 k42 a88 v1 v2 v3)))
def F_X2_findLeast_42 (N : Nat) (k25 : AH → Int32 → Option AH) : Nat → AH → Int32 → Int32 → Int32 → Option AH
  | 0, _, _, _, _ => none
  | n + 1, ah, v1, v2, v3 => if 12 < v3 then F_X2_findLeast_102 N k25 ah v1 else if v2 < 0 then F_X2_findLeast_102 N k25 ah v1 else xg v2 721 (if (ah 15 (Int32.toNatClampNeg v2)) = ((-1)) then F_X2_findLeast_77 N k25 (F_X2_findLeast_42 N k25 n) ah v1 v2 v3 else xg v1 60 (xg v2 721 (if (ah 15 (Int32.toNatClampNeg v2)) ≤ (ah 6 (Int32.toNatClampNeg v1)) then F_X2_findLeast_89 N k25 (F_X2_findLeast_42 N k25 n) ah v1 v2 v3 else F_X2_findLeast_77 N k25 (F_X2_findLeast_42 N k25 n) ah v1 v2 v3)))
def F_X2_findLeast_25 (N : Nat) : Nat → AH → Int32 → Option AH
  | 0, _, _ => none
  | n + 1, ah, v1 => if (ah 4 0) ≤ v1 then some ah else xg v1 60 (xlet (ah 7 (Int32.toNatClampNeg v1)) (fun v2_39 => xlet 0 (fun v3_41 => F_X2_findLeast_42 N (F_X2_findLeast_25 N n) N ah v1 v2_39 v3_41)))
def F_X2_findLeast_2 (N : Nat) : Nat → AH → Int32 → Option AH
  | 0, _, _ => none
  | n + 1, ah, v1 => if (ah 4 5) ≤ v1 then xlet 0 (fun v1_24 => F_X2_findLeast_25 N N ah v1_24) else xg v1 721 (xlet (xu ah 15 (Int32.toNatClampNeg v1) ((-1))) (fun a16 => xlet (v1 + 1) (fun v1_17 => F_X2_findLeast_2 N n a16 v1_17)))
def F_X2_findLeast (N : Nat) (ah : AH) : Option AH := xlet 0 (fun v1_1 => F_X2_findLeast_2 N N ah v1_1)
theorem b_X2_findLeast_102 (C : XC p l s m args meth c cX2_findLeast 4 none RX2 D vwCl (tysC ca) (EC ad ca) NCC ad) {N : Nat} {o : AH} {k25 : AH → Int32 → Option AH} (hk25 : ∀ (ah : AH) (v1 : Int32), k25 ah v1 = some o → XW p l e rm_X2_findLeast s m args below meth c 4 0 (xQv below args s D vwCl (tysC ca) (EC ad ca) NCC ad o) D vwCl (EC ad ca) NCC ad ah 25 [(0, .ref (ad 4)), (1, .int v1)] []) {ah : AH} {v1 : Int32} (h : F_X2_findLeast_102 N k25 ah v1 = some o) : XW p l e rm_X2_findLeast s m args below meth c 4 0 (xQv below args s D vwCl (tysC ca) (EC ad ca) NCC ad o) D vwCl (EC ad ca) NCC ad ah 102 [(0, .ref (ad 4)), (1, .int v1)] [] := by
  unfold F_X2_findLeast_102 at h
  refine x_iinc C dX2_findLeast_102 105 rfl 1 rfl (d := 1) rfl (by decide) (fun v1_102 => [(1, .int v1_102), (0, .ref (ad 4))]) (fun _ => rfl) h (fun v1_102 h => ?_)
  refine x_goto C dX2_findLeast_105 25 rfl ?_
  exact x_sub [1, 0] rfl (hk25 _ _ h)
theorem b_X2_findLeast_89 (C : XC p l s m args meth c cX2_findLeast 4 none RX2 D vwCl (tysC ca) (EC ad ca) NCC ad) {N : Nat} {o : AH} {k25 : AH → Int32 → Option AH} (hk25 : ∀ (ah : AH) (v1 : Int32), k25 ah v1 = some o → XW p l e rm_X2_findLeast s m args below meth c 4 0 (xQv below args s D vwCl (tysC ca) (EC ad ca) NCC ad o) D vwCl (EC ad ca) NCC ad ah 25 [(0, .ref (ad 4)), (1, .int v1)] []) {k42 : AH → Int32 → Int32 → Int32 → Option AH} (hk42 : ∀ (ah : AH) (v1 : Int32) (v2 : Int32) (v3 : Int32), k42 ah v1 v2 v3 = some o → XW p l e rm_X2_findLeast s m args below meth c 4 0 (xQv below args s D vwCl (tysC ca) (EC ad ca) NCC ad o) D vwCl (EC ad ca) NCC ad ah 42 [(0, .ref (ad 4)), (1, .int v1), (2, .int v2), (3, .int v3)] []) {ah : AH} {v1 : Int32} {v2 : Int32} {v3 : Int32} (h : F_X2_findLeast_89 N k25 k42 ah v1 v2 v3 = some o) : XW p l e rm_X2_findLeast s m args below meth c 4 0 (xQv below args s D vwCl (tysC ca) (EC ad ca) NCC ad o) D vwCl (EC ad ca) NCC ad ah 89 [(0, .ref (ad 4)), (1, .int v1), (2, .int v2), (3, .int v3)] [] := by
  unfold F_X2_findLeast_89 at h
  refine x_aload_n C dX2_findLeast_89 90 rfl 0 rfl ?_
  refine x_get C inX2 4 lc4 EC_4 rfl 6 (by decide) dX2_findLeast_90 93 rfl wmf_X2_28 rfl ?_
  refine x_iload_n C dX2_findLeast_93 94 rfl 2 rfl ?_
  refine x_iald C 9 lc9 EC_9 0 rfl dX2_findLeast_94 95 rfl h (fun h => ?_)
  refine x_istore_n C dX2_findLeast_95 96 rfl (by decide) (fun v2_95 => [(2, .int v2_95), (0, .ref (ad 4)), (1, .int v1), (3, .int v3)]) (fun _ => rfl) h (fun v2_95 h => ?_)
  refine x_iinc C dX2_findLeast_96 99 rfl 3 rfl (d := 1) rfl (by decide) (fun v3_96 => [(3, .int v3_96), (2, .int v2_95), (0, .ref (ad 4)), (1, .int v1)]) (fun _ => rfl) h (fun v3_96 h => ?_)
  refine x_goto C dX2_findLeast_99 42 rfl ?_
  exact x_sub [2, 3, 1, 0] rfl (hk42 _ _ _ _ h)
theorem b_X2_findLeast_77 (C : XC p l s m args meth c cX2_findLeast 4 none RX2 D vwCl (tysC ca) (EC ad ca) NCC ad) {N : Nat} {o : AH} {k25 : AH → Int32 → Option AH} (hk25 : ∀ (ah : AH) (v1 : Int32), k25 ah v1 = some o → XW p l e rm_X2_findLeast s m args below meth c 4 0 (xQv below args s D vwCl (tysC ca) (EC ad ca) NCC ad o) D vwCl (EC ad ca) NCC ad ah 25 [(0, .ref (ad 4)), (1, .int v1)] []) {k42 : AH → Int32 → Int32 → Int32 → Option AH} (hk42 : ∀ (ah : AH) (v1 : Int32) (v2 : Int32) (v3 : Int32), k42 ah v1 v2 v3 = some o → XW p l e rm_X2_findLeast s m args below meth c 4 0 (xQv below args s D vwCl (tysC ca) (EC ad ca) NCC ad o) D vwCl (EC ad ca) NCC ad ah 42 [(0, .ref (ad 4)), (1, .int v1), (2, .int v2), (3, .int v3)] []) {ah : AH} {v1 : Int32} {v2 : Int32} {v3 : Int32} (h : F_X2_findLeast_77 N k25 k42 ah v1 v2 v3 = some o) : XW p l e rm_X2_findLeast s m args below meth c 4 0 (xQv below args s D vwCl (tysC ca) (EC ad ca) NCC ad o) D vwCl (EC ad ca) NCC ad ah 77 [(0, .ref (ad 4)), (1, .int v1), (2, .int v2), (3, .int v3)] [] := by
  unfold F_X2_findLeast_77 at h
  refine x_aload_n C dX2_findLeast_77 78 rfl 0 rfl ?_
  refine x_get C inX2 4 lc4 EC_4 rfl 12 (by decide) dX2_findLeast_78 81 rfl wmf_X2_46 rfl ?_
  refine x_iload_n C dX2_findLeast_81 82 rfl 2 rfl ?_
  refine x_aload_n C dX2_findLeast_82 83 rfl 0 rfl ?_
  refine x_get C inX2 4 lc4 EC_4 rfl 2 (by decide) dX2_findLeast_83 86 rfl wmf_X2_15 rfl ?_
  refine x_iload_n C dX2_findLeast_86 87 rfl 1 rfl ?_
  refine x_iald C 6 lc6 EC_6 0 rfl dX2_findLeast_87 88 rfl h (fun h => ?_)
  refine x_iast C 15 lc15 (fun _ => EC_15) 0 rfl dX2_findLeast_88 89 rfl h (fun a88 h => ?_)
  exact b_X2_findLeast_89 C hk25 hk42 h
theorem b_X2_findLeast_42 (C : XC p l s m args meth c cX2_findLeast 4 none RX2 D vwCl (tysC ca) (EC ad ca) NCC ad) {N : Nat} {o : AH} {k25 : AH → Int32 → Option AH} (hk25 : ∀ (ah : AH) (v1 : Int32), k25 ah v1 = some o → XW p l e rm_X2_findLeast s m args below meth c 4 0 (xQv below args s D vwCl (tysC ca) (EC ad ca) NCC ad o) D vwCl (EC ad ca) NCC ad ah 25 [(0, .ref (ad 4)), (1, .int v1)] []) : ∀ (n : Nat) {ah : AH} {v1 : Int32} {v2 : Int32} {v3 : Int32}, F_X2_findLeast_42 N k25 n ah v1 v2 v3 = some o → XW p l e rm_X2_findLeast s m args below meth c 4 0 (xQv below args s D vwCl (tysC ca) (EC ad ca) NCC ad o) D vwCl (EC ad ca) NCC ad ah 42 [(0, .ref (ad 4)), (1, .int v1), (2, .int v2), (3, .int v3)] [] := by
  intro n
  induction n with
  | zero => intro ah v1 v2 v3 h; unfold F_X2_findLeast_42 at h; cases h
  | succ n ih =>
    intro ah v1 v2 v3 h
    unfold F_X2_findLeast_42 at h
    refine x_iload_n C dX2_findLeast_42 43 rfl 3 rfl ?_
    refine x_bipush C dX2_findLeast_43 45 rfl 12 rfl ?_
    refine x_icmp_gt C dX2_findLeast_45 48 rfl 102 rfl h (fun h => ?_) (fun h => ?_)
    · exact x_sub [0, 1] rfl (b_X2_findLeast_102 C hk25 h)
    · refine x_iload_n C dX2_findLeast_48 49 rfl 2 rfl ?_
      refine x_if_lt C dX2_findLeast_49 52 rfl 102 rfl h (fun h => ?_) (fun h => ?_)
      · exact x_sub [0, 1] rfl (b_X2_findLeast_102 C hk25 h)
      · refine x_aload_n C dX2_findLeast_52 53 rfl 0 rfl ?_
        refine x_get C inX2 4 lc4 EC_4 rfl 12 (by decide) dX2_findLeast_53 56 rfl wmf_X2_46 rfl ?_
        refine x_iload_n C dX2_findLeast_56 57 rfl 2 rfl ?_
        refine x_iald C 15 lc15 EC_15 0 rfl dX2_findLeast_57 58 rfl h (fun h => ?_)
        refine x_iconst C dX2_findLeast_58 59 rfl (-1) rfl ?_
        refine x_icmp_eq C dX2_findLeast_59 62 rfl 77 rfl h (fun h => ?_) (fun h => ?_)
        · exact b_X2_findLeast_77 C hk25 (fun _ _ _ _ h => ih h) h
        · refine x_aload_n C dX2_findLeast_62 63 rfl 0 rfl ?_
          refine x_get C inX2 4 lc4 EC_4 rfl 2 (by decide) dX2_findLeast_63 66 rfl wmf_X2_15 rfl ?_
          refine x_iload_n C dX2_findLeast_66 67 rfl 1 rfl ?_
          refine x_iald C 6 lc6 EC_6 0 rfl dX2_findLeast_67 68 rfl h (fun h => ?_)
          refine x_aload_n C dX2_findLeast_68 69 rfl 0 rfl ?_
          refine x_get C inX2 4 lc4 EC_4 rfl 12 (by decide) dX2_findLeast_69 72 rfl wmf_X2_46 rfl ?_
          refine x_iload_n C dX2_findLeast_72 73 rfl 2 rfl ?_
          refine x_iald C 15 lc15 EC_15 0 rfl dX2_findLeast_73 74 rfl h (fun h => ?_)
          refine x_icmp_ge C dX2_findLeast_74 77 rfl 89 rfl h (fun h => ?_) (fun h => ?_)
          · exact b_X2_findLeast_89 C hk25 (fun _ _ _ _ h => ih h) h
          · exact b_X2_findLeast_77 C hk25 (fun _ _ _ _ h => ih h) h
theorem b_X2_findLeast_25 (C : XC p l s m args meth c cX2_findLeast 4 none RX2 D vwCl (tysC ca) (EC ad ca) NCC ad) {N : Nat} {o : AH} : ∀ (n : Nat) {ah : AH} {v1 : Int32}, F_X2_findLeast_25 N n ah v1 = some o → XW p l e rm_X2_findLeast s m args below meth c 4 0 (xQv below args s D vwCl (tysC ca) (EC ad ca) NCC ad o) D vwCl (EC ad ca) NCC ad ah 25 [(0, .ref (ad 4)), (1, .int v1)] [] := by
  intro n
  induction n with
  | zero => intro ah v1 h; unfold F_X2_findLeast_25 at h; cases h
  | succ n ih =>
    intro ah v1 h
    unfold F_X2_findLeast_25 at h
    refine x_iload_n C dX2_findLeast_25 26 rfl 1 rfl ?_
    refine x_aload_n C dX2_findLeast_26 27 rfl 0 rfl ?_
    refine x_get C inX2 4 lc4 EC_4 rfl 0 (by decide) dX2_findLeast_27 30 rfl wmf_X2_61 rfl ?_
    refine x_icmp_ge C dX2_findLeast_30 33 rfl 108 rfl h (fun h => ?_) (fun h => ?_)
    · exact x_vret C rfl dX2_findLeast_108 h
    · refine x_aload_n C dX2_findLeast_33 34 rfl 0 rfl ?_
      refine x_get C inX2 4 lc4 EC_4 rfl 3 (by decide) dX2_findLeast_34 37 rfl wmf_X2_18 rfl ?_
      refine x_iload_n C dX2_findLeast_37 38 rfl 1 rfl ?_
      refine x_iald C 7 lc7 EC_7 0 rfl dX2_findLeast_38 39 rfl h (fun h => ?_)
      refine x_istore_n C dX2_findLeast_39 40 rfl (by decide) (fun v2_39 => [(2, .int v2_39), (0, .ref (ad 4)), (1, .int v1)]) (fun _ => rfl) h (fun v2_39 h => ?_)
      refine x_iconst C dX2_findLeast_40 41 rfl 0 rfl ?_
      refine x_istore_n C dX2_findLeast_41 42 rfl (by decide) (fun v3_41 => [(3, .int v3_41), (2, .int v2_39), (0, .ref (ad 4)), (1, .int v1)]) (fun _ => rfl) h (fun v3_41 h => ?_)
      exact x_sub [2, 3, 1, 0] rfl (b_X2_findLeast_42 C (fun _ _ h => ih h) N h)
theorem b_X2_findLeast_2 (C : XC p l s m args meth c cX2_findLeast 4 none RX2 D vwCl (tysC ca) (EC ad ca) NCC ad) {N : Nat} {o : AH} : ∀ (n : Nat) {ah : AH} {v1 : Int32}, F_X2_findLeast_2 N n ah v1 = some o → XW p l e rm_X2_findLeast s m args below meth c 4 0 (xQv below args s D vwCl (tysC ca) (EC ad ca) NCC ad o) D vwCl (EC ad ca) NCC ad ah 2 [(0, .ref (ad 4)), (1, .int v1)] [] := by
  intro n
  induction n with
  | zero => intro ah v1 h; unfold F_X2_findLeast_2 at h; cases h
  | succ n ih =>
    intro ah v1 h
    unfold F_X2_findLeast_2 at h
    refine x_iload_n C dX2_findLeast_2 3 rfl 1 rfl ?_
    refine x_aload_n C dX2_findLeast_3 4 rfl 0 rfl ?_
    refine x_get C inX2 4 lc4 EC_4 rfl 5 (by decide) dX2_findLeast_4 7 rfl wmf_X2_24 rfl ?_
    refine x_icmp_ge C dX2_findLeast_7 10 rfl 23 rfl h (fun h => ?_) (fun h => ?_)
    · refine x_iconst C dX2_findLeast_23 24 rfl 0 rfl ?_
      refine x_istore_n C dX2_findLeast_24 25 rfl (by decide) (fun v1_24 => [(1, .int v1_24), (0, .ref (ad 4))]) (fun _ => rfl) h (fun v1_24 h => ?_)
      exact x_sub [1, 0] rfl (b_X2_findLeast_25 C  N h)
    · refine x_aload_n C dX2_findLeast_10 11 rfl 0 rfl ?_
      refine x_get C inX2 4 lc4 EC_4 rfl 12 (by decide) dX2_findLeast_11 14 rfl wmf_X2_46 rfl ?_
      refine x_iload_n C dX2_findLeast_14 15 rfl 1 rfl ?_
      refine x_iconst C dX2_findLeast_15 16 rfl (-1) rfl ?_
      refine x_iast C 15 lc15 (fun _ => EC_15) 0 rfl dX2_findLeast_16 17 rfl h (fun a16 h => ?_)
      refine x_iinc C dX2_findLeast_17 20 rfl 1 rfl (d := 1) rfl (by decide) (fun v1_17 => [(1, .int v1_17), (0, .ref (ad 4))]) (fun _ => rfl) h (fun v1_17 h => ?_)
      refine x_goto C dX2_findLeast_20 2 rfl ?_
      exact x_sub [1, 0] rfl (ih h)
theorem c_X2_findLeast {l : Launch} {D : va_G} {ca : Nat → ClassId} {ad : Nat → Nat} (hI : xInj ad NCC) {N : Nat} {ah : AH} {a : AH} (h : F_X2_findLeast N ah = some a) : xMv l yX2_findLeast cX2_findLeast 4 rm_X2_findLeast D vwCl (tysC ca) (EC ad ca) NCC ad [.ref (ad 4)] ah a := by
  refine x_metv (by decide) (Nat.le_of_ble_eq_true rfl) hI EC_loc ?_
  intro p e s m args below meth c C
  unfold F_X2_findLeast at h
  refine x_iconst C dX2_findLeast_0 1 rfl 0 rfl ?_
  refine x_istore_n C dX2_findLeast_1 2 rfl (by decide) (fun v1_1 => [(1, .int v1_1), (0, .ref (ad 4))]) (fun _ => rfl) h (fun v1_1 h => ?_)
  exact x_sub [1, 0] rfl (b_X2_findLeast_2 C  N h)
abbrev rm_X2_addFresh : Room := { frames := 2, cells := 0, slots := 0, locals := 51 }
theorem wq_X2_addFresh : xcV RX2 yX2_addFresh cX2_addFresh 3 none 1 := ⟨wmi_X2_addFresh, wms_X2_addFresh, wmn_X2, wmc_X2_addFresh, by decide, by decide, by decide +kernel⟩
def F_X2_addFresh_67 (N : Nat) (w1 : Nat) (ah : AH) : Option AH := xbv (F_X2_findLeast N ah) (fun a68 => some a68)
def F_X2_addFresh_2 (N : Nat) (w1 : Nat) : Nat → AH → Int32 → Option AH
  | 0, _, _ => none
  | n + 1, ah, v2 => if (ah 4 13) ≤ v2 then F_X2_addFresh_67 N w1 ah else if 60 ≤ (ah 4 0) then F_X2_addFresh_67 N w1 ah else xg v2 60 (xg v2 60 (xbv (F_X2_addWord N w1 ah (ah 16 (Int32.toNatClampNeg v2)) (ah 17 (Int32.toNatClampNeg v2))) (fun a33 => xg v2 60 (xg (a33 4 0) 60 (xlet (xu a33 6 (Int32.toNatClampNeg (a33 4 0)) (a33 18 (Int32.toNatClampNeg v2))) (fun a50 => xlet (xu a50 4 0 ((a50 4 0) + 1)) (fun a58 => xlet (v2 + 1) (fun v2_61 => F_X2_addFresh_2 N w1 n a58 v2_61))))))))
def F_X2_addFresh (N : Nat) (w1 : Nat) (ah : AH) : Option AH := xlet 0 (fun v2_1 => F_X2_addFresh_2 N w1 N ah v2_1)
theorem b_X2_addFresh_67_3 (C : XC p l s m args meth c cX2_addFresh 3 none RX2 D vwCl (tysC ca) (EC ad ca) NCC ad) {N : Nat} {o : AH} {ah : AH} (h : F_X2_addFresh_67 N 3 ah = some o) : XW p l e rm_X2_addFresh s m args below meth c 3 0 (xQv below args s D vwCl (tysC ca) (EC ad ca) NCC ad o) D vwCl (EC ad ca) NCC ad ah 67 [(0, .ref (ad 4))] [] := by
  unfold F_X2_addFresh_67 at h
  refine x_aload_n C dX2_addFresh_67 68 rfl 0 rfl ?_
  obtain ⟨a68, hq, h⟩ := xbv_some h
  refine x_callVv C 4 (c_X2_findLeast C.2.2.2.2.2.2.1 hq) lc4 EC_4 rfl wml_X2_127 wq_X2_findLeast rfl ⟨by decide, by decide⟩ rfl rfl ⟨by decide, by decide⟩ dX2_addFresh_68 71 rfl rfl (Nat.le_of_ble_eq_true rfl) ?_
  exact x_vret C rfl dX2_addFresh_71 h
theorem b_X2_addFresh_2_3 (C : XC p l s m args meth c cX2_addFresh 3 none RX2 D vwCl (tysC ca) (EC ad ca) NCC ad) {N : Nat} {o : AH} : ∀ (n : Nat) {ah : AH} {v2 : Int32}, F_X2_addFresh_2 N 3 n ah v2 = some o → XW p l e rm_X2_addFresh s m args below meth c 3 0 (xQv below args s D vwCl (tysC ca) (EC ad ca) NCC ad o) D vwCl (EC ad ca) NCC ad ah 2 [(0, .ref (ad 4)), (1, .ref (ad 3)), (2, .int v2)] [] := by
  intro n
  induction n with
  | zero => intro ah v2 h; unfold F_X2_addFresh_2 at h; cases h
  | succ n ih =>
    intro ah v2 h
    unfold F_X2_addFresh_2 at h
    refine x_iload_n C dX2_addFresh_2 3 rfl 2 rfl ?_
    refine x_aload_n C dX2_addFresh_3 4 rfl 0 rfl ?_
    refine x_get C inX2 4 lc4 EC_4 rfl 13 (by decide) dX2_addFresh_4 7 rfl wmf_X2_71 rfl ?_
    refine x_icmp_ge C dX2_addFresh_7 10 rfl 67 rfl h (fun h => ?_) (fun h => ?_)
    · exact x_sub [0] rfl (b_X2_addFresh_67_3 C  h)
    · refine x_aload_n C dX2_addFresh_10 11 rfl 0 rfl ?_
      refine x_get C inX2 4 lc4 EC_4 rfl 0 (by decide) dX2_addFresh_11 14 rfl wmf_X2_61 rfl ?_
      refine x_bipush C dX2_addFresh_14 16 rfl 60 rfl ?_
      refine x_icmp_ge C dX2_addFresh_16 19 rfl 67 rfl h (fun h => ?_) (fun h => ?_)
      · exact x_sub [0] rfl (b_X2_addFresh_67_3 C  h)
      · refine x_aload_n C dX2_addFresh_19 20 rfl 0 rfl ?_
        refine x_aload_n C dX2_addFresh_20 21 rfl 1 rfl ?_
        refine x_aload_n C dX2_addFresh_21 22 rfl 0 rfl ?_
        refine x_get C inX2 4 lc4 EC_4 rfl 14 (by decide) dX2_addFresh_22 25 rfl wmf_X2_49 rfl ?_
        refine x_iload_n C dX2_addFresh_25 26 rfl 2 rfl ?_
        refine x_iald C 16 lc16 EC_16 0 rfl dX2_addFresh_26 27 rfl h (fun h => ?_)
        refine x_aload_n C dX2_addFresh_27 28 rfl 0 rfl ?_
        refine x_get C inX2 4 lc4 EC_4 rfl 15 (by decide) dX2_addFresh_28 31 rfl wmf_X2_52 rfl ?_
        refine x_iload_n C dX2_addFresh_31 32 rfl 2 rfl ?_
        refine x_iald C 17 lc17 EC_17 0 rfl dX2_addFresh_32 33 rfl h (fun h => ?_)
        obtain ⟨a33, hq, h⟩ := xbv_some h
        refine x_callVv C 4 (c_X2_addWord_3 C.2.2.2.2.2.2.1 hq) lc4 EC_4 rfl wml_X2_123 wq_X2_addWord rfl ⟨by decide, by decide⟩ rfl rfl ⟨by decide, by decide⟩ dX2_addFresh_33 36 rfl rfl (Nat.le_of_ble_eq_true rfl) ?_
        refine x_aload_n C dX2_addFresh_36 37 rfl 0 rfl ?_
        refine x_get C inX2 4 lc4 EC_4 rfl 2 (by decide) dX2_addFresh_37 40 rfl wmf_X2_15 rfl ?_
        refine x_aload_n C dX2_addFresh_40 41 rfl 0 rfl ?_
        refine x_get C inX2 4 lc4 EC_4 rfl 0 (by decide) dX2_addFresh_41 44 rfl wmf_X2_61 rfl ?_
        refine x_aload_n C dX2_addFresh_44 45 rfl 0 rfl ?_
        refine x_get C inX2 4 lc4 EC_4 rfl 16 (by decide) dX2_addFresh_45 48 rfl wmf_X2_55 rfl ?_
        refine x_iload_n C dX2_addFresh_48 49 rfl 2 rfl ?_
        refine x_iald C 18 lc18 EC_18 0 rfl dX2_addFresh_49 50 rfl h (fun h => ?_)
        refine x_iast C 6 lc6 (fun _ => EC_6) 0 rfl dX2_addFresh_50 51 rfl h (fun a50 h => ?_)
        refine x_aload_n C dX2_addFresh_51 52 rfl 0 rfl ?_
        refine x_dup C dX2_addFresh_52 53 rfl rfl ?_
        refine x_get C inX2 4 lc4 EC_4 rfl 0 (by decide) dX2_addFresh_53 56 rfl wmf_X2_61 rfl ?_
        refine x_iconst C dX2_addFresh_56 57 rfl 1 rfl ?_
        refine x_iadd C dX2_addFresh_57 58 rfl ?_
        refine x_put C inX2 4 lc4 EC_4 rfl 0 (by decide) tyX2_ok nmX2 dX2_addFresh_58 61 rfl wmf_X2_61 rfl rfl rfl (Nat.le_of_ble_eq_true rfl) EP_4_0 h (fun a58 h => ?_)
        refine x_iinc C dX2_addFresh_61 64 rfl 2 rfl (d := 1) rfl (by decide) (fun v2_61 => [(2, .int v2_61), (0, .ref (ad 4)), (1, .ref (ad 3))]) (fun _ => rfl) h (fun v2_61 h => ?_)
        refine x_goto C dX2_addFresh_64 2 rfl ?_
        exact x_sub [1, 2, 0] rfl (ih h)
theorem c_X2_addFresh_3 {l : Launch} {D : va_G} {ca : Nat → ClassId} {ad : Nat → Nat} (hI : xInj ad NCC) {N : Nat} {ah : AH} {a : AH} (h : F_X2_addFresh N 3 ah = some a) : xMv l yX2_addFresh cX2_addFresh 3 rm_X2_addFresh D vwCl (tysC ca) (EC ad ca) NCC ad [.ref (ad 4), .ref (ad 3)] ah a := by
  refine x_metv (by decide) (Nat.le_of_ble_eq_true rfl) hI EC_loc ?_
  intro p e s m args below meth c C
  unfold F_X2_addFresh at h
  refine x_iconst C dX2_addFresh_0 1 rfl 0 rfl ?_
  refine x_istore_n C dX2_addFresh_1 2 rfl (by decide) (fun v2_1 => [(2, .int v2_1), (0, .ref (ad 4)), (1, .ref (ad 3))]) (fun _ => rfl) h (fun v2_1 h => ?_)
  exact x_sub [1, 2, 0] rfl (b_X2_addFresh_2_3 C  N h)
abbrev rm_X2_readText : Room := { frames := 4, cells := 0, slots := 0, locals := 92 }
theorem wq_X2_readText : xcV RX2 yX2_readText cX2_readText 3 (some .boolean) 1 := ⟨wmi_X2_readText, wms_X2_readText, wmn_X2, wmc_X2_readText, by decide, by decide, by decide +kernel⟩
def F_X2_readText_7 (N : Nat) : Nat → AH → Int32 → Option (Int32 × AH)
  | 0, _, _ => none
  | n + 1, ah, v2 => if 60 < v2 then some (0, ah) else xbv (F_X9_skipBlanks N ah) (fun a14 => xb (F_X9_atEnd N a14) (fun r18 a18 => if r18 = 0 then xb (F_X2_readEntry N a18) (fun r36 a36 => if r36 = 0 then some (0, a36) else xlet (v2 + 1) (fun v2_44 => F_X2_readText_7 N n a36 v2_44)) else xbv (F_X2_addFresh N 3 a18) (fun a29 => some (1, a29))))
def F_X2_readText (N : Nat) (ah : AH) : Option (Int32 × AH) := xlet (xu ah 4 13 0) (fun a2 => xlet 0 (fun v2_6 => F_X2_readText_7 N N a2 v2_6))
theorem b_X2_readText_7 (C : XC p l s m args meth c cX2_readText 3 (some .boolean) RX2 D vwCl (tysC ca) (EC ad ca) NCC ad) {N : Nat} {o : (Int32 × AH)} : ∀ (n : Nat) {ah : AH} {v2 : Int32}, F_X2_readText_7 N n ah v2 = some o → XW p l e rm_X2_readText s m args below meth c 3 0 (xQi below args s D vwCl (tysC ca) (EC ad ca) NCC ad o) D vwCl (EC ad ca) NCC ad ah 7 [(0, .ref (ad 4)), (1, .ref (ad 2)), (2, .int v2)] [] := by
  intro n
  induction n with
  | zero => intro ah v2 h; unfold F_X2_readText_7 at h; cases h
  | succ n ih =>
    intro ah v2 h
    unfold F_X2_readText_7 at h
    refine x_iload_n C dX2_readText_7 8 rfl 2 rfl ?_
    refine x_bipush C dX2_readText_8 10 rfl 60 rfl ?_
    refine x_icmp_gt C dX2_readText_10 13 rfl 50 rfl h (fun h => ?_) (fun h => ?_)
    · refine x_iconst C dX2_readText_50 51 rfl 0 rfl ?_
      exact x_zret C rfl dX2_readText_51 (by decide) h
    · refine x_aload_n C dX2_readText_13 14 rfl 1 rfl ?_
      obtain ⟨a14, hq, h⟩ := xbv_some h
      refine x_callVv C 2 (c_X9_skipBlanks C.2.2.2.2.2.2.1 hq) lc2 EC_2 rfl wml_X2_74 wq_X9_skipBlanks rfl ⟨by decide, by decide⟩ rfl rfl ⟨by decide, by decide⟩ dX2_readText_14 17 rfl rfl (Nat.le_of_ble_eq_true rfl) ?_
      refine x_aload_n C dX2_readText_17 18 rfl 1 rfl ?_
      obtain ⟨r18, a18, hq, h⟩ := xb_some h
      refine x_callVi C 2 (c_X9_atEnd C.2.2.2.2.2.2.1 hq) lc2 EC_2 rfl wml_X2_79 wq_X9_atEnd rfl ⟨by decide, by decide⟩ rfl rfl ⟨by decide, by decide⟩ dX2_readText_18 21 rfl rfl (Nat.le_of_ble_eq_true rfl) ?_
      refine x_if_eq C dX2_readText_21 24 rfl 34 rfl h (fun h => ?_) (fun h => ?_)
      · refine x_aload_n C dX2_readText_34 35 rfl 0 rfl ?_
        refine x_aload_n C dX2_readText_35 36 rfl 1 rfl ?_
        obtain ⟨r36, a36, hq, h⟩ := xb_some h
        refine x_callVi C 4 (c_X2_readEntry C.2.2.2.2.2.2.1 hq) lc4 EC_4 rfl wml_X2_90 wq_X2_readEntry rfl ⟨by decide, by decide⟩ rfl rfl ⟨by decide, by decide⟩ dX2_readText_36 39 rfl rfl (Nat.le_of_ble_eq_true rfl) ?_
        refine x_if_ne C dX2_readText_39 42 rfl 44 rfl h (fun h => ?_) (fun h => ?_)
        · refine x_iinc C dX2_readText_44 47 rfl 2 rfl (d := 1) rfl (by decide) (fun v2_44 => [(2, .int v2_44), (0, .ref (ad 4)), (1, .ref (ad 2))]) (fun _ => rfl) h (fun v2_44 h => ?_)
          refine x_goto C dX2_readText_47 7 rfl ?_
          exact x_sub [1, 2, 0] rfl (ih h)
        · refine x_iconst C dX2_readText_42 43 rfl 0 rfl ?_
          exact x_zret C rfl dX2_readText_43 (by decide) h
      · refine x_aload_n C dX2_readText_24 25 rfl 0 rfl ?_
        refine x_aload_n C dX2_readText_25 26 rfl 1 rfl ?_
        refine x_get C inX9 2 lc2 EC_2 rfl 0 (by decide) dX2_readText_26 29 rfl wmf_X2_83 rfl ?_
        obtain ⟨a29, hq, h⟩ := xbv_some h
        refine x_callVv C 4 (c_X2_addFresh_3 C.2.2.2.2.2.2.1 hq) lc4 EC_4 rfl wml_X2_86 wq_X2_addFresh rfl ⟨by decide, by decide⟩ rfl rfl ⟨by decide, by decide⟩ dX2_readText_29 32 rfl rfl (Nat.le_of_ble_eq_true rfl) ?_
        refine x_iconst C dX2_readText_32 33 rfl 1 rfl ?_
        exact x_zret C rfl dX2_readText_33 (by decide) h
theorem c_X2_readText {l : Launch} {D : va_G} {ca : Nat → ClassId} {ad : Nat → Nat} (hI : xInj ad NCC) {N : Nat} {ah : AH} {r : Int32} {a : AH} (h : F_X2_readText N ah = some (r, a)) : xMi l yX2_readText cX2_readText 3 (some .boolean) rm_X2_readText D vwCl (tysC ca) (EC ad ca) NCC ad [.ref (ad 4), .ref (ad 2)] ah (r, a) := by
  refine x_meti (by decide) (Nat.le_of_ble_eq_true rfl) hI EC_loc ?_
  intro p e s m args below meth c C
  unfold F_X2_readText at h
  refine x_aload_n C dX2_readText_0 1 rfl 0 rfl ?_
  refine x_iconst C dX2_readText_1 2 rfl 0 rfl ?_
  refine x_put C inX2 4 lc4 EC_4 rfl 13 (by decide) tyX2_ok nmX2 dX2_readText_2 5 rfl wmf_X2_71 rfl rfl rfl (Nat.le_of_ble_eq_true rfl) EP_4_13 h (fun a2 h => ?_)
  refine x_iconst C dX2_readText_5 6 rfl 0 rfl ?_
  refine x_istore_n C dX2_readText_6 7 rfl (by decide) (fun v2_6 => [(2, .int v2_6), (0, .ref (ad 4)), (1, .ref (ad 2))]) (fun _ => rfl) h (fun v2_6 h => ?_)
  exact x_sub [1, 2, 0] rfl (b_X2_readText_7 C  N h)
abbrev rm_X2_weighWord : Room := { frames := 1, cells := 0, slots := 0, locals := 23 }
theorem wq_X2_weighWord : xcV RX2 yX2_weighWord cX2_weighWord 3 none 2 := ⟨wmi_X2_weighWord, wms_X2_weighWord, wmn_X2, wmc_X2_weighWord, by decide, by decide, by decide +kernel⟩
def F_X2_weighWord (N : Nat) (ah : AH) (p1 : Int32) (p2 : Int32) : Option AH := xg p1 60 (xlet (xu ah 6 (Int32.toNatClampNeg p1) p2) (fun a6 => xbv (F_X2_findLeast N a6) (fun a8 => some a8)))
theorem c_X2_weighWord {l : Launch} {D : va_G} {ca : Nat → ClassId} {ad : Nat → Nat} (hI : xInj ad NCC) {N : Nat} {ah : AH} {p1 : Int32} {p2 : Int32} {a : AH} (h : F_X2_weighWord N ah p1 p2 = some a) : xMv l yX2_weighWord cX2_weighWord 3 rm_X2_weighWord D vwCl (tysC ca) (EC ad ca) NCC ad [.ref (ad 4), .int p1, .int p2] ah a := by
  refine x_metv (by decide) (Nat.le_of_ble_eq_true rfl) hI EC_loc ?_
  intro p e s m args below meth c C
  unfold F_X2_weighWord at h
  refine x_aload_n C dX2_weighWord_0 1 rfl 0 rfl ?_
  refine x_get C inX2 4 lc4 EC_4 rfl 2 (by decide) dX2_weighWord_1 4 rfl wmf_X2_15 rfl ?_
  refine x_iload_n C dX2_weighWord_4 5 rfl 1 rfl ?_
  refine x_iload_n C dX2_weighWord_5 6 rfl 2 rfl ?_
  refine x_iast C 6 lc6 (fun _ => EC_6) 0 rfl dX2_weighWord_6 7 rfl h (fun a6 h => ?_)
  refine x_aload_n C dX2_weighWord_7 8 rfl 0 rfl ?_
  obtain ⟨a8, hq, h⟩ := xbv_some h
  refine x_callVv C 4 (c_X2_findLeast C.2.2.2.2.2.2.1 hq) lc4 EC_4 rfl wml_X2_127 wq_X2_findLeast rfl ⟨by decide, by decide⟩ rfl rfl ⟨by decide, by decide⟩ dX2_weighWord_8 11 rfl rfl (Nat.le_of_ble_eq_true rfl) ?_
  exact x_vret C rfl dX2_weighWord_11 h
theorem c_X5_cellsOf_trialReading {l : Launch} {D : va_G} {ca : Nat → ClassId} {ad : Nat → Nat} (hI : xInj ad NCC) {N : Nat} {ah : AH} {p1 : Int32} {r : Int32} {a : AH} (h : F_X5_cellsOf N 40 ah p1 = some (r, a)) : xMi l yX5_cellsOf cX5_cellsOf 2 (some .int) rm_X5_cellsOf D vwCl (tysC ca) (EC ad ca) NCC ad [.ref (ad 40), .int p1] ah (r, a) := by
  refine x_meti (by decide) (Nat.le_of_ble_eq_true rfl) hI EC_loc ?_
  intro p e s m args below meth c C
  unfold F_X5_cellsOf at h
  refine x_aload_n C dX5_cellsOf_0 1 rfl 0 rfl ?_
  refine x_get C inX5 40 lc40 EC_40 rfl 3 (by decide) dX5_cellsOf_1 4 rfl wmf_X5_9 rfl ?_
  refine x_iload_n C dX5_cellsOf_4 5 rfl 1 rfl ?_
  refine x_iconst C dX5_cellsOf_5 6 rfl 1 rfl ?_
  refine x_iadd C dX5_cellsOf_6 7 rfl ?_
  refine x_iald C 41 lc41 EC_41 0 rfl dX5_cellsOf_7 8 rfl h (fun h => ?_)
  refine x_aload_n C dX5_cellsOf_8 9 rfl 0 rfl ?_
  refine x_get C inX5 40 lc40 EC_40 rfl 3 (by decide) dX5_cellsOf_9 12 rfl wmf_X5_9 rfl ?_
  refine x_iload_n C dX5_cellsOf_12 13 rfl 1 rfl ?_
  refine x_iald C 41 lc41 EC_41 0 rfl dX5_cellsOf_13 14 rfl h (fun h => ?_)
  refine x_isub C dX5_cellsOf_14 15 rfl ?_
  exact x_iret C rfl dX5_cellsOf_15 h
abbrev rm_X5_countBreaks : Room := { frames := 0, cells := 0, slots := 0, locals := 0 }
theorem wq_X5_countBreaks : xcV RX5 yX5_countBreaks cX5_countBreaks 4 (some .int) 1 := ⟨wmi_X5_countBreaks, wms_X5_countBreaks, wmn_X5, wmc_X5_countBreaks, by decide, by decide, by decide +kernel⟩
def F_X5_countBreaks_35 (N : Nat) (k : Nat) (k9 : AH → Int32 → Int32 → Int32 → Option (Int32 × AH)) (ah : AH) (v1 : Int32) (v2 : Int32) (v3 : Int32) : Option (Int32 × AH) := xlet (v3 + 1) (fun v3_35 => k9 ah v1 v2 v3_35)
def F_X5_countBreaks_9 (N : Nat) (k : Nat) : Nat → AH → Int32 → Int32 → Int32 → Option (Int32 × AH)
  | 0, _, _, _, _ => none
  | n + 1, ah, v1, v2, v3 => xg (v1 + 1) 41 (if (ah (k + 1) (Int32.toNatClampNeg (v1 + 1))) ≤ v3 then some (v2, ah) else xg v3 400 (if (ah (k + 5) (Int32.toNatClampNeg v3)) = 10 then xlet (v2 + 1) (fun v2_32 => F_X5_countBreaks_35 N k (F_X5_countBreaks_9 N k n) ah v1 v2_32 v3) else F_X5_countBreaks_35 N k (F_X5_countBreaks_9 N k n) ah v1 v2 v3))
def F_X5_countBreaks (N : Nat) (k : Nat) (ah : AH) (p1 : Int32) : Option (Int32 × AH) := xlet 0 (fun v2_1 => xg p1 41 (xlet (ah (k + 1) (Int32.toNatClampNeg p1)) (fun v3_8 => F_X5_countBreaks_9 N k N ah p1 v2_1 v3_8)))
theorem b_X5_countBreaks_35_reading (C : XC p l s m args meth c cX5_countBreaks 4 (some .int) RX5 D vwCl (tysC ca) (EC ad ca) NCC ad) {N : Nat} {o : (Int32 × AH)} {k9 : AH → Int32 → Int32 → Int32 → Option (Int32 × AH)} (hk9 : ∀ (ah : AH) (v1 : Int32) (v2 : Int32) (v3 : Int32), k9 ah v1 v2 v3 = some o → XW p l e rm_X5_countBreaks s m args below meth c 4 0 (xQi below args s D vwCl (tysC ca) (EC ad ca) NCC ad o) D vwCl (EC ad ca) NCC ad ah 9 [(0, .ref (ad 31)), (1, .int v1), (2, .int v2), (3, .int v3)] []) {ah : AH} {v1 : Int32} {v2 : Int32} {v3 : Int32} (h : F_X5_countBreaks_35 N 31 k9 ah v1 v2 v3 = some o) : XW p l e rm_X5_countBreaks s m args below meth c 4 0 (xQi below args s D vwCl (tysC ca) (EC ad ca) NCC ad o) D vwCl (EC ad ca) NCC ad ah 35 [(0, .ref (ad 31)), (1, .int v1), (2, .int v2), (3, .int v3)] [] := by
  unfold F_X5_countBreaks_35 at h
  refine x_iinc C dX5_countBreaks_35 38 rfl 3 rfl (d := 1) rfl (by decide) (fun v3_35 => [(3, .int v3_35), (0, .ref (ad 31)), (1, .int v1), (2, .int v2)]) (fun _ => rfl) h (fun v3_35 h => ?_)
  refine x_goto C dX5_countBreaks_38 9 rfl ?_
  exact x_sub [1, 2, 3, 0] rfl (hk9 _ _ _ _ h)
theorem b_X5_countBreaks_9_reading (C : XC p l s m args meth c cX5_countBreaks 4 (some .int) RX5 D vwCl (tysC ca) (EC ad ca) NCC ad) {N : Nat} {o : (Int32 × AH)} : ∀ (n : Nat) {ah : AH} {v1 : Int32} {v2 : Int32} {v3 : Int32}, F_X5_countBreaks_9 N 31 n ah v1 v2 v3 = some o → XW p l e rm_X5_countBreaks s m args below meth c 4 0 (xQi below args s D vwCl (tysC ca) (EC ad ca) NCC ad o) D vwCl (EC ad ca) NCC ad ah 9 [(0, .ref (ad 31)), (1, .int v1), (2, .int v2), (3, .int v3)] [] := by
  intro n
  induction n with
  | zero => intro ah v1 v2 v3 h; unfold F_X5_countBreaks_9 at h; cases h
  | succ n ih =>
    intro ah v1 v2 v3 h
    unfold F_X5_countBreaks_9 at h
    refine x_iload_n C dX5_countBreaks_9 10 rfl 3 rfl ?_
    refine x_aload_n C dX5_countBreaks_10 11 rfl 0 rfl ?_
    refine x_get C inX5 31 lc31 EC_31 rfl 3 (by decide) dX5_countBreaks_11 14 rfl wmf_X5_9 rfl ?_
    refine x_iload_n C dX5_countBreaks_14 15 rfl 1 rfl ?_
    refine x_iconst C dX5_countBreaks_15 16 rfl 1 rfl ?_
    refine x_iadd C dX5_countBreaks_16 17 rfl ?_
    refine x_iald C 32 lc32 EC_32 0 rfl dX5_countBreaks_17 18 rfl h (fun h => ?_)
    refine x_icmp_ge C dX5_countBreaks_18 21 rfl 41 rfl h (fun h => ?_) (fun h => ?_)
    · refine x_iload_n C dX5_countBreaks_41 42 rfl 2 rfl ?_
      exact x_iret C rfl dX5_countBreaks_42 h
    · refine x_aload_n C dX5_countBreaks_21 22 rfl 0 rfl ?_
      refine x_get C inX5 31 lc31 EC_31 rfl 7 (by decide) dX5_countBreaks_22 25 rfl wmf_X5_25 rfl ?_
      refine x_iload_n C dX5_countBreaks_25 26 rfl 3 rfl ?_
      refine x_iald C 36 lc36 EC_36 0 rfl dX5_countBreaks_26 27 rfl h (fun h => ?_)
      refine x_bipush C dX5_countBreaks_27 29 rfl 10 rfl ?_
      refine x_icmp_ne C dX5_countBreaks_29 32 rfl 35 rfl h (fun h => ?_) (fun h => ?_)
      · exact b_X5_countBreaks_35_reading C (fun _ _ _ _ h => ih h) h
      · refine x_iinc C dX5_countBreaks_32 35 rfl 2 rfl (d := 1) rfl (by decide) (fun v2_32 => [(2, .int v2_32), (0, .ref (ad 31)), (1, .int v1), (3, .int v3)]) (fun _ => rfl) h (fun v2_32 h => ?_)
        exact x_sub [1, 2, 0, 3] rfl (b_X5_countBreaks_35_reading C (fun _ _ _ _ h => ih h) h)
theorem c_X5_countBreaks_reading {l : Launch} {D : va_G} {ca : Nat → ClassId} {ad : Nat → Nat} (hI : xInj ad NCC) {N : Nat} {ah : AH} {p1 : Int32} {r : Int32} {a : AH} (h : F_X5_countBreaks N 31 ah p1 = some (r, a)) : xMi l yX5_countBreaks cX5_countBreaks 4 (some .int) rm_X5_countBreaks D vwCl (tysC ca) (EC ad ca) NCC ad [.ref (ad 31), .int p1] ah (r, a) := by
  refine x_meti (by decide) (Nat.le_of_ble_eq_true rfl) hI EC_loc ?_
  intro p e s m args below meth c C
  unfold F_X5_countBreaks at h
  refine x_iconst C dX5_countBreaks_0 1 rfl 0 rfl ?_
  refine x_istore_n C dX5_countBreaks_1 2 rfl (by decide) (fun v2_1 => [(2, .int v2_1), (0, .ref (ad 31)), (1, .int p1)]) (fun _ => rfl) h (fun v2_1 h => ?_)
  refine x_aload_n C dX5_countBreaks_2 3 rfl 1 rfl ?_
  refine x_get C inX5 31 lc31 EC_31 rfl 3 (by decide) dX5_countBreaks_3 6 rfl wmf_X5_9 rfl ?_
  refine x_iload_n C dX5_countBreaks_6 7 rfl 2 rfl ?_
  refine x_iald C 32 lc32 EC_32 0 rfl dX5_countBreaks_7 8 rfl h (fun h => ?_)
  refine x_istore_n C dX5_countBreaks_8 9 rfl (by decide) (fun v3_8 => [(3, .int v3_8), (2, .int v2_1), (0, .ref (ad 31)), (1, .int p1)]) (fun _ => rfl) h (fun v3_8 h => ?_)
  exact x_sub [2, 3, 1, 0] rfl (b_X5_countBreaks_9_reading C  N h)
theorem b_X5_countBreaks_35_trialReading (C : XC p l s m args meth c cX5_countBreaks 4 (some .int) RX5 D vwCl (tysC ca) (EC ad ca) NCC ad) {N : Nat} {o : (Int32 × AH)} {k9 : AH → Int32 → Int32 → Int32 → Option (Int32 × AH)} (hk9 : ∀ (ah : AH) (v1 : Int32) (v2 : Int32) (v3 : Int32), k9 ah v1 v2 v3 = some o → XW p l e rm_X5_countBreaks s m args below meth c 4 0 (xQi below args s D vwCl (tysC ca) (EC ad ca) NCC ad o) D vwCl (EC ad ca) NCC ad ah 9 [(0, .ref (ad 40)), (1, .int v1), (2, .int v2), (3, .int v3)] []) {ah : AH} {v1 : Int32} {v2 : Int32} {v3 : Int32} (h : F_X5_countBreaks_35 N 40 k9 ah v1 v2 v3 = some o) : XW p l e rm_X5_countBreaks s m args below meth c 4 0 (xQi below args s D vwCl (tysC ca) (EC ad ca) NCC ad o) D vwCl (EC ad ca) NCC ad ah 35 [(0, .ref (ad 40)), (1, .int v1), (2, .int v2), (3, .int v3)] [] := by
  unfold F_X5_countBreaks_35 at h
  refine x_iinc C dX5_countBreaks_35 38 rfl 3 rfl (d := 1) rfl (by decide) (fun v3_35 => [(3, .int v3_35), (0, .ref (ad 40)), (1, .int v1), (2, .int v2)]) (fun _ => rfl) h (fun v3_35 h => ?_)
  refine x_goto C dX5_countBreaks_38 9 rfl ?_
  exact x_sub [1, 2, 3, 0] rfl (hk9 _ _ _ _ h)
theorem b_X5_countBreaks_9_trialReading (C : XC p l s m args meth c cX5_countBreaks 4 (some .int) RX5 D vwCl (tysC ca) (EC ad ca) NCC ad) {N : Nat} {o : (Int32 × AH)} : ∀ (n : Nat) {ah : AH} {v1 : Int32} {v2 : Int32} {v3 : Int32}, F_X5_countBreaks_9 N 40 n ah v1 v2 v3 = some o → XW p l e rm_X5_countBreaks s m args below meth c 4 0 (xQi below args s D vwCl (tysC ca) (EC ad ca) NCC ad o) D vwCl (EC ad ca) NCC ad ah 9 [(0, .ref (ad 40)), (1, .int v1), (2, .int v2), (3, .int v3)] [] := by
  intro n
  induction n with
  | zero => intro ah v1 v2 v3 h; unfold F_X5_countBreaks_9 at h; cases h
  | succ n ih =>
    intro ah v1 v2 v3 h
    unfold F_X5_countBreaks_9 at h
    refine x_iload_n C dX5_countBreaks_9 10 rfl 3 rfl ?_
    refine x_aload_n C dX5_countBreaks_10 11 rfl 0 rfl ?_
    refine x_get C inX5 40 lc40 EC_40 rfl 3 (by decide) dX5_countBreaks_11 14 rfl wmf_X5_9 rfl ?_
    refine x_iload_n C dX5_countBreaks_14 15 rfl 1 rfl ?_
    refine x_iconst C dX5_countBreaks_15 16 rfl 1 rfl ?_
    refine x_iadd C dX5_countBreaks_16 17 rfl ?_
    refine x_iald C 41 lc41 EC_41 0 rfl dX5_countBreaks_17 18 rfl h (fun h => ?_)
    refine x_icmp_ge C dX5_countBreaks_18 21 rfl 41 rfl h (fun h => ?_) (fun h => ?_)
    · refine x_iload_n C dX5_countBreaks_41 42 rfl 2 rfl ?_
      exact x_iret C rfl dX5_countBreaks_42 h
    · refine x_aload_n C dX5_countBreaks_21 22 rfl 0 rfl ?_
      refine x_get C inX5 40 lc40 EC_40 rfl 7 (by decide) dX5_countBreaks_22 25 rfl wmf_X5_25 rfl ?_
      refine x_iload_n C dX5_countBreaks_25 26 rfl 3 rfl ?_
      refine x_iald C 45 lc45 EC_45 0 rfl dX5_countBreaks_26 27 rfl h (fun h => ?_)
      refine x_bipush C dX5_countBreaks_27 29 rfl 10 rfl ?_
      refine x_icmp_ne C dX5_countBreaks_29 32 rfl 35 rfl h (fun h => ?_) (fun h => ?_)
      · exact b_X5_countBreaks_35_trialReading C (fun _ _ _ _ h => ih h) h
      · refine x_iinc C dX5_countBreaks_32 35 rfl 2 rfl (d := 1) rfl (by decide) (fun v2_32 => [(2, .int v2_32), (0, .ref (ad 40)), (1, .int v1), (3, .int v3)]) (fun _ => rfl) h (fun v2_32 h => ?_)
        exact x_sub [1, 2, 0, 3] rfl (b_X5_countBreaks_35_trialReading C (fun _ _ _ _ h => ih h) h)
theorem c_X5_countBreaks_trialReading {l : Launch} {D : va_G} {ca : Nat → ClassId} {ad : Nat → Nat} (hI : xInj ad NCC) {N : Nat} {ah : AH} {p1 : Int32} {r : Int32} {a : AH} (h : F_X5_countBreaks N 40 ah p1 = some (r, a)) : xMi l yX5_countBreaks cX5_countBreaks 4 (some .int) rm_X5_countBreaks D vwCl (tysC ca) (EC ad ca) NCC ad [.ref (ad 40), .int p1] ah (r, a) := by
  refine x_meti (by decide) (Nat.le_of_ble_eq_true rfl) hI EC_loc ?_
  intro p e s m args below meth c C
  unfold F_X5_countBreaks at h
  refine x_iconst C dX5_countBreaks_0 1 rfl 0 rfl ?_
  refine x_istore_n C dX5_countBreaks_1 2 rfl (by decide) (fun v2_1 => [(2, .int v2_1), (0, .ref (ad 40)), (1, .int p1)]) (fun _ => rfl) h (fun v2_1 h => ?_)
  refine x_aload_n C dX5_countBreaks_2 3 rfl 1 rfl ?_
  refine x_get C inX5 40 lc40 EC_40 rfl 3 (by decide) dX5_countBreaks_3 6 rfl wmf_X5_9 rfl ?_
  refine x_iload_n C dX5_countBreaks_6 7 rfl 2 rfl ?_
  refine x_iald C 41 lc41 EC_41 0 rfl dX5_countBreaks_7 8 rfl h (fun h => ?_)
  refine x_istore_n C dX5_countBreaks_8 9 rfl (by decide) (fun v3_8 => [(3, .int v3_8), (2, .int v2_1), (0, .ref (ad 40)), (1, .int p1)]) (fun _ => rfl) h (fun v3_8 h => ?_)
  exact x_sub [2, 3, 1, 0] rfl (b_X5_countBreaks_9_trialReading C  N h)
abbrev rm_X5_leastOther : Room := { frames := 1, cells := 0, slots := 0, locals := 13 }
theorem wq_X5_leastOther : xcV RX5 yX5_leastOther cX5_leastOther 5 (some .int) 1 := ⟨wmi_X5_leastOther, wms_X5_leastOther, wmn_X5, wmc_X5_leastOther, by decide, by decide, by decide +kernel⟩
def F_X5_leastOther_42 (N : Nat) (k : Nat) (k4 : AH → Int32 → Int32 → Int32 → Option (Int32 × AH)) (ah : AH) (v1 : Int32) (v3 : Int32) (s0 : Int32) : Option (Int32 × AH) := xlet s0 (fun v2_42 => xlet (v3 + 1) (fun v3_43 => k4 ah v1 v2_42 v3_43))
def F_X5_leastOther_4 (N : Nat) (k : Nat) : Nat → AH → Int32 → Int32 → Int32 → Option (Int32 × AH)
  | 0, _, _, _, _ => none
  | n + 1, ah, v1, v2, v3 => xg v1 400 (if (ah (k + 6) (Int32.toNatClampNeg v1)) ≤ v3 then some (v2, ah) else xg ((v1 * 3) + v3) 1200 (xlet (ah (k + 8) (Int32.toNatClampNeg ((v1 * 3) + v3))) (fun v4_24 => if v2 = ((-1)) then F_X5_leastOther_42 N k (F_X5_leastOther_4 N k n) ah v1 v3 v4_24 else F_X5_leastOther_42 N k (F_X5_leastOther_4 N k n) ah v1 v3 (xmin v2 v4_24))))
def F_X5_leastOther (N : Nat) (k : Nat) (ah : AH) (p1 : Int32) : Option (Int32 × AH) := xlet ((-1)) (fun v2_1 => xlet 0 (fun v3_3 => F_X5_leastOther_4 N k N ah p1 v2_1 v3_3))
theorem b_X5_leastOther_42_reading (C : XC p l s m args meth c cX5_leastOther 5 (some .int) RX5 D vwCl (tysC ca) (EC ad ca) NCC ad) {N : Nat} {o : (Int32 × AH)} {k4 : AH → Int32 → Int32 → Int32 → Option (Int32 × AH)} (hk4 : ∀ (ah : AH) (v1 : Int32) (v2 : Int32) (v3 : Int32), k4 ah v1 v2 v3 = some o → XW p l e rm_X5_leastOther s m args below meth c 5 0 (xQi below args s D vwCl (tysC ca) (EC ad ca) NCC ad o) D vwCl (EC ad ca) NCC ad ah 4 [(0, .ref (ad 31)), (1, .int v1), (2, .int v2), (3, .int v3)] []) {ah : AH} {v1 : Int32} {v3 : Int32} {s0 : Int32} (h : F_X5_leastOther_42 N 31 k4 ah v1 v3 s0 = some o) : XW p l e rm_X5_leastOther s m args below meth c 5 0 (xQi below args s D vwCl (tysC ca) (EC ad ca) NCC ad o) D vwCl (EC ad ca) NCC ad ah 42 [(0, .ref (ad 31)), (1, .int v1), (3, .int v3)] [.int s0] := by
  unfold F_X5_leastOther_42 at h
  refine x_istore_n C dX5_leastOther_42 43 rfl (by decide) (fun v2_42 => [(2, .int v2_42), (0, .ref (ad 31)), (1, .int v1), (3, .int v3)]) (fun _ => rfl) h (fun v2_42 h => ?_)
  refine x_iinc C dX5_leastOther_43 46 rfl 3 rfl (d := 1) rfl (by decide) (fun v3_43 => [(3, .int v3_43), (2, .int v2_42), (0, .ref (ad 31)), (1, .int v1)]) (fun _ => rfl) h (fun v3_43 h => ?_)
  refine x_goto C dX5_leastOther_46 4 rfl ?_
  exact x_sub [2, 3, 1, 0] rfl (hk4 _ _ _ _ h)
theorem b_X5_leastOther_4_reading (C : XC p l s m args meth c cX5_leastOther 5 (some .int) RX5 D vwCl (tysC ca) (EC ad ca) NCC ad) {N : Nat} {o : (Int32 × AH)} : ∀ (n : Nat) {ah : AH} {v1 : Int32} {v2 : Int32} {v3 : Int32}, F_X5_leastOther_4 N 31 n ah v1 v2 v3 = some o → XW p l e rm_X5_leastOther s m args below meth c 5 0 (xQi below args s D vwCl (tysC ca) (EC ad ca) NCC ad o) D vwCl (EC ad ca) NCC ad ah 4 [(0, .ref (ad 31)), (1, .int v1), (2, .int v2), (3, .int v3)] [] := by
  intro n
  induction n with
  | zero => intro ah v1 v2 v3 h; unfold F_X5_leastOther_4 at h; cases h
  | succ n ih =>
    intro ah v1 v2 v3 h
    unfold F_X5_leastOther_4 at h
    refine x_iload_n C dX5_leastOther_4 5 rfl 3 rfl ?_
    refine x_aload_n C dX5_leastOther_5 6 rfl 0 rfl ?_
    refine x_get C inX5 31 lc31 EC_31 rfl 8 (by decide) dX5_leastOther_6 9 rfl wmf_X5_28 rfl ?_
    refine x_iload_n C dX5_leastOther_9 10 rfl 1 rfl ?_
    refine x_iald C 37 lc37 EC_37 0 rfl dX5_leastOther_10 11 rfl h (fun h => ?_)
    refine x_icmp_ge C dX5_leastOther_11 14 rfl 49 rfl h (fun h => ?_) (fun h => ?_)
    · refine x_iload_n C dX5_leastOther_49 50 rfl 2 rfl ?_
      exact x_iret C rfl dX5_leastOther_50 h
    · refine x_aload_n C dX5_leastOther_14 15 rfl 0 rfl ?_
      refine x_get C inX5 31 lc31 EC_31 rfl 10 (by decide) dX5_leastOther_15 18 rfl wmf_X5_34 rfl ?_
      refine x_iload_n C dX5_leastOther_18 19 rfl 1 rfl ?_
      refine x_iconst C dX5_leastOther_19 20 rfl 3 rfl ?_
      refine x_imul C dX5_leastOther_20 21 rfl ?_
      refine x_iload_n C dX5_leastOther_21 22 rfl 3 rfl ?_
      refine x_iadd C dX5_leastOther_22 23 rfl ?_
      refine x_iald C 39 lc39 EC_39 0 rfl dX5_leastOther_23 24 rfl h (fun h => ?_)
      refine x_istore C dX5_leastOther_24 26 rfl (by decide) (fun v4_24 => [(4, .int v4_24), (0, .ref (ad 31)), (1, .int v1), (2, .int v2), (3, .int v3)]) (fun _ => rfl) h (fun v4_24 h => ?_)
      refine x_iload_n C dX5_leastOther_26 27 rfl 3 rfl ?_
      refine x_iconst C dX5_leastOther_27 28 rfl (-1) rfl ?_
      refine x_icmp_ne C dX5_leastOther_28 31 rfl 36 rfl h (fun h => ?_) (fun h => ?_)
      · refine x_iload_n C dX5_leastOther_36 37 rfl 3 rfl ?_
        refine x_iload C dX5_leastOther_37 39 rfl 0 rfl ?_
        refine x_mmin C wml_X5_37 wmt_J9_min wmn_J9 wmc_J9_min ⟨by decide, by decide⟩ (by decide) (Nat.le_of_ble_eq_true rfl) dX5_leastOther_39 42 rfl ?_
        exact x_sub [1, 2, 4] rfl (b_X5_leastOther_42_reading C (fun _ _ _ _ h => ih h) h)
      · refine x_iload C dX5_leastOther_31 33 rfl 0 rfl ?_
        refine x_goto C dX5_leastOther_33 42 rfl ?_
        exact x_sub [1, 2, 4] rfl (b_X5_leastOther_42_reading C (fun _ _ _ _ h => ih h) h)
theorem c_X5_leastOther_reading {l : Launch} {D : va_G} {ca : Nat → ClassId} {ad : Nat → Nat} (hI : xInj ad NCC) {N : Nat} {ah : AH} {p1 : Int32} {r : Int32} {a : AH} (h : F_X5_leastOther N 31 ah p1 = some (r, a)) : xMi l yX5_leastOther cX5_leastOther 5 (some .int) rm_X5_leastOther D vwCl (tysC ca) (EC ad ca) NCC ad [.ref (ad 31), .int p1] ah (r, a) := by
  refine x_meti (by decide) (Nat.le_of_ble_eq_true rfl) hI EC_loc ?_
  intro p e s m args below meth c C
  unfold F_X5_leastOther at h
  refine x_iconst C dX5_leastOther_0 1 rfl (-1) rfl ?_
  refine x_istore_n C dX5_leastOther_1 2 rfl (by decide) (fun v2_1 => [(2, .int v2_1), (0, .ref (ad 31)), (1, .int p1)]) (fun _ => rfl) h (fun v2_1 h => ?_)
  refine x_iconst C dX5_leastOther_2 3 rfl 0 rfl ?_
  refine x_istore_n C dX5_leastOther_3 4 rfl (by decide) (fun v3_3 => [(3, .int v3_3), (2, .int v2_1), (0, .ref (ad 31)), (1, .int p1)]) (fun _ => rfl) h (fun v3_3 h => ?_)
  exact x_sub [2, 3, 1, 0] rfl (b_X5_leastOther_4_reading C  N h)
theorem b_X5_leastOther_42_trialReading (C : XC p l s m args meth c cX5_leastOther 5 (some .int) RX5 D vwCl (tysC ca) (EC ad ca) NCC ad) {N : Nat} {o : (Int32 × AH)} {k4 : AH → Int32 → Int32 → Int32 → Option (Int32 × AH)} (hk4 : ∀ (ah : AH) (v1 : Int32) (v2 : Int32) (v3 : Int32), k4 ah v1 v2 v3 = some o → XW p l e rm_X5_leastOther s m args below meth c 5 0 (xQi below args s D vwCl (tysC ca) (EC ad ca) NCC ad o) D vwCl (EC ad ca) NCC ad ah 4 [(0, .ref (ad 40)), (1, .int v1), (2, .int v2), (3, .int v3)] []) {ah : AH} {v1 : Int32} {v3 : Int32} {s0 : Int32} (h : F_X5_leastOther_42 N 40 k4 ah v1 v3 s0 = some o) : XW p l e rm_X5_leastOther s m args below meth c 5 0 (xQi below args s D vwCl (tysC ca) (EC ad ca) NCC ad o) D vwCl (EC ad ca) NCC ad ah 42 [(0, .ref (ad 40)), (1, .int v1), (3, .int v3)] [.int s0] := by
  unfold F_X5_leastOther_42 at h
  refine x_istore_n C dX5_leastOther_42 43 rfl (by decide) (fun v2_42 => [(2, .int v2_42), (0, .ref (ad 40)), (1, .int v1), (3, .int v3)]) (fun _ => rfl) h (fun v2_42 h => ?_)
  refine x_iinc C dX5_leastOther_43 46 rfl 3 rfl (d := 1) rfl (by decide) (fun v3_43 => [(3, .int v3_43), (2, .int v2_42), (0, .ref (ad 40)), (1, .int v1)]) (fun _ => rfl) h (fun v3_43 h => ?_)
  refine x_goto C dX5_leastOther_46 4 rfl ?_
  exact x_sub [2, 3, 1, 0] rfl (hk4 _ _ _ _ h)
theorem b_X5_leastOther_4_trialReading (C : XC p l s m args meth c cX5_leastOther 5 (some .int) RX5 D vwCl (tysC ca) (EC ad ca) NCC ad) {N : Nat} {o : (Int32 × AH)} : ∀ (n : Nat) {ah : AH} {v1 : Int32} {v2 : Int32} {v3 : Int32}, F_X5_leastOther_4 N 40 n ah v1 v2 v3 = some o → XW p l e rm_X5_leastOther s m args below meth c 5 0 (xQi below args s D vwCl (tysC ca) (EC ad ca) NCC ad o) D vwCl (EC ad ca) NCC ad ah 4 [(0, .ref (ad 40)), (1, .int v1), (2, .int v2), (3, .int v3)] [] := by
  intro n
  induction n with
  | zero => intro ah v1 v2 v3 h; unfold F_X5_leastOther_4 at h; cases h
  | succ n ih =>
    intro ah v1 v2 v3 h
    unfold F_X5_leastOther_4 at h
    refine x_iload_n C dX5_leastOther_4 5 rfl 3 rfl ?_
    refine x_aload_n C dX5_leastOther_5 6 rfl 0 rfl ?_
    refine x_get C inX5 40 lc40 EC_40 rfl 8 (by decide) dX5_leastOther_6 9 rfl wmf_X5_28 rfl ?_
    refine x_iload_n C dX5_leastOther_9 10 rfl 1 rfl ?_
    refine x_iald C 46 lc46 EC_46 0 rfl dX5_leastOther_10 11 rfl h (fun h => ?_)
    refine x_icmp_ge C dX5_leastOther_11 14 rfl 49 rfl h (fun h => ?_) (fun h => ?_)
    · refine x_iload_n C dX5_leastOther_49 50 rfl 2 rfl ?_
      exact x_iret C rfl dX5_leastOther_50 h
    · refine x_aload_n C dX5_leastOther_14 15 rfl 0 rfl ?_
      refine x_get C inX5 40 lc40 EC_40 rfl 10 (by decide) dX5_leastOther_15 18 rfl wmf_X5_34 rfl ?_
      refine x_iload_n C dX5_leastOther_18 19 rfl 1 rfl ?_
      refine x_iconst C dX5_leastOther_19 20 rfl 3 rfl ?_
      refine x_imul C dX5_leastOther_20 21 rfl ?_
      refine x_iload_n C dX5_leastOther_21 22 rfl 3 rfl ?_
      refine x_iadd C dX5_leastOther_22 23 rfl ?_
      refine x_iald C 48 lc48 EC_48 0 rfl dX5_leastOther_23 24 rfl h (fun h => ?_)
      refine x_istore C dX5_leastOther_24 26 rfl (by decide) (fun v4_24 => [(4, .int v4_24), (0, .ref (ad 40)), (1, .int v1), (2, .int v2), (3, .int v3)]) (fun _ => rfl) h (fun v4_24 h => ?_)
      refine x_iload_n C dX5_leastOther_26 27 rfl 3 rfl ?_
      refine x_iconst C dX5_leastOther_27 28 rfl (-1) rfl ?_
      refine x_icmp_ne C dX5_leastOther_28 31 rfl 36 rfl h (fun h => ?_) (fun h => ?_)
      · refine x_iload_n C dX5_leastOther_36 37 rfl 3 rfl ?_
        refine x_iload C dX5_leastOther_37 39 rfl 0 rfl ?_
        refine x_mmin C wml_X5_37 wmt_J9_min wmn_J9 wmc_J9_min ⟨by decide, by decide⟩ (by decide) (Nat.le_of_ble_eq_true rfl) dX5_leastOther_39 42 rfl ?_
        exact x_sub [1, 2, 4] rfl (b_X5_leastOther_42_trialReading C (fun _ _ _ _ h => ih h) h)
      · refine x_iload C dX5_leastOther_31 33 rfl 0 rfl ?_
        refine x_goto C dX5_leastOther_33 42 rfl ?_
        exact x_sub [1, 2, 4] rfl (b_X5_leastOther_42_trialReading C (fun _ _ _ _ h => ih h) h)
theorem c_X5_leastOther_trialReading {l : Launch} {D : va_G} {ca : Nat → ClassId} {ad : Nat → Nat} (hI : xInj ad NCC) {N : Nat} {ah : AH} {p1 : Int32} {r : Int32} {a : AH} (h : F_X5_leastOther N 40 ah p1 = some (r, a)) : xMi l yX5_leastOther cX5_leastOther 5 (some .int) rm_X5_leastOther D vwCl (tysC ca) (EC ad ca) NCC ad [.ref (ad 40), .int p1] ah (r, a) := by
  refine x_meti (by decide) (Nat.le_of_ble_eq_true rfl) hI EC_loc ?_
  intro p e s m args below meth c C
  unfold F_X5_leastOther at h
  refine x_iconst C dX5_leastOther_0 1 rfl (-1) rfl ?_
  refine x_istore_n C dX5_leastOther_1 2 rfl (by decide) (fun v2_1 => [(2, .int v2_1), (0, .ref (ad 40)), (1, .int p1)]) (fun _ => rfl) h (fun v2_1 h => ?_)
  refine x_iconst C dX5_leastOther_2 3 rfl 0 rfl ?_
  refine x_istore_n C dX5_leastOther_3 4 rfl (by decide) (fun v3_3 => [(3, .int v3_3), (2, .int v2_1), (0, .ref (ad 40)), (1, .int p1)]) (fun _ => rfl) h (fun v3_3 h => ?_)
  exact x_sub [2, 3, 1, 0] rfl (b_X5_leastOther_4_trialReading C  N h)
abbrev rm_X5_readAs : Room := { frames := 1, cells := 0, slots := 0, locals := 24 }
theorem wq_X5_readAs : xcV RX5 yX5_readAs cX5_readAs 5 (some .int) 2 := ⟨wmi_X5_readAs, wms_X5_readAs, wmn_X5, wmc_X5_readAs, by decide, by decide, by decide +kernel⟩
def F_X5_readAs_48 (N : Nat) (k : Nat) (k10 : AH → Int32 → Int32 → Int32 → Option (Int32 × AH)) (ah : AH) (v1 : Int32) (v3 : Int32) (v4 : Int32) : Option (Int32 × AH) := if v3 = ((-1)) then some ((-1), ah) else xlet (v4 + 1) (fun v4_55 => k10 ah v1 v3 v4_55)
def F_X5_readAs_10 (N : Nat) (k : Nat) : Nat → AH → Int32 → Int32 → Int32 → Option (Int32 × AH)
  | 0, _, _, _, _ => none
  | n + 1, ah, v1, v3, v4 => xg (v1 + 1) 41 (if (ah (k + 1) (Int32.toNatClampNeg (v1 + 1))) ≤ v4 then xg v3 721 (some (ah 11 (Int32.toNatClampNeg v3), ah)) else xg v4 400 (if (ah (k + 5) (Int32.toNatClampNeg v4)) = 10 then F_X5_readAs_48 N k (F_X5_readAs_10 N k n) ah v1 v3 v4 else xg v4 400 (xb (F_X2_childOf N ah v3 (ah (k + 5) (Int32.toNatClampNeg v4))) (fun r44 a44 => xlet r44 (fun v3_47 => F_X5_readAs_48 N k (F_X5_readAs_10 N k n) a44 v1 v3_47 v4)))))
def F_X5_readAs (N : Nat) (k : Nat) (ah : AH) (p1 : Int32) : Option (Int32 × AH) := xlet 0 (fun v3_1 => xg p1 41 (xlet (ah (k + 1) (Int32.toNatClampNeg p1)) (fun v4_8 => F_X5_readAs_10 N k N ah p1 v3_1 v4_8)))
theorem b_X5_readAs_48_reading (C : XC p l s m args meth c cX5_readAs 5 (some .int) RX5 D vwCl (tysC ca) (EC ad ca) NCC ad) {N : Nat} {o : (Int32 × AH)} {k10 : AH → Int32 → Int32 → Int32 → Option (Int32 × AH)} (hk10 : ∀ (ah : AH) (v1 : Int32) (v3 : Int32) (v4 : Int32), k10 ah v1 v3 v4 = some o → XW p l e rm_X5_readAs s m args below meth c 5 0 (xQi below args s D vwCl (tysC ca) (EC ad ca) NCC ad o) D vwCl (EC ad ca) NCC ad ah 10 [(0, .ref (ad 31)), (1, .int v1), (2, .ref (ad 4)), (3, .int v3), (4, .int v4)] []) {ah : AH} {v1 : Int32} {v3 : Int32} {v4 : Int32} (h : F_X5_readAs_48 N 31 k10 ah v1 v3 v4 = some o) : XW p l e rm_X5_readAs s m args below meth c 5 0 (xQi below args s D vwCl (tysC ca) (EC ad ca) NCC ad o) D vwCl (EC ad ca) NCC ad ah 48 [(0, .ref (ad 31)), (1, .int v1), (2, .ref (ad 4)), (3, .int v3), (4, .int v4)] [] := by
  unfold F_X5_readAs_48 at h
  refine x_iload_n C dX5_readAs_48 49 rfl 3 rfl ?_
  refine x_iconst C dX5_readAs_49 50 rfl (-1) rfl ?_
  refine x_icmp_ne C dX5_readAs_50 53 rfl 55 rfl h (fun h => ?_) (fun h => ?_)
  · refine x_iinc C dX5_readAs_55 58 rfl 4 rfl (d := 1) rfl (by decide) (fun v4_55 => [(4, .int v4_55), (0, .ref (ad 31)), (1, .int v1), (2, .ref (ad 4)), (3, .int v3)]) (fun _ => rfl) h (fun v4_55 h => ?_)
    refine x_goto C dX5_readAs_58 10 rfl ?_
    exact x_sub [1, 2, 3, 4, 0] rfl (hk10 _ _ _ _ h)
  · refine x_iconst C dX5_readAs_53 54 rfl (-1) rfl ?_
    exact x_iret C rfl dX5_readAs_54 h
theorem b_X5_readAs_10_reading (C : XC p l s m args meth c cX5_readAs 5 (some .int) RX5 D vwCl (tysC ca) (EC ad ca) NCC ad) {N : Nat} {o : (Int32 × AH)} : ∀ (n : Nat) {ah : AH} {v1 : Int32} {v3 : Int32} {v4 : Int32}, F_X5_readAs_10 N 31 n ah v1 v3 v4 = some o → XW p l e rm_X5_readAs s m args below meth c 5 0 (xQi below args s D vwCl (tysC ca) (EC ad ca) NCC ad o) D vwCl (EC ad ca) NCC ad ah 10 [(0, .ref (ad 31)), (1, .int v1), (2, .ref (ad 4)), (3, .int v3), (4, .int v4)] [] := by
  intro n
  induction n with
  | zero => intro ah v1 v3 v4 h; unfold F_X5_readAs_10 at h; cases h
  | succ n ih =>
    intro ah v1 v3 v4 h
    unfold F_X5_readAs_10 at h
    refine x_iload C dX5_readAs_10 12 rfl 4 rfl ?_
    refine x_aload_n C dX5_readAs_12 13 rfl 0 rfl ?_
    refine x_get C inX5 31 lc31 EC_31 rfl 3 (by decide) dX5_readAs_13 16 rfl wmf_X5_9 rfl ?_
    refine x_iload_n C dX5_readAs_16 17 rfl 1 rfl ?_
    refine x_iconst C dX5_readAs_17 18 rfl 1 rfl ?_
    refine x_iadd C dX5_readAs_18 19 rfl ?_
    refine x_iald C 32 lc32 EC_32 0 rfl dX5_readAs_19 20 rfl h (fun h => ?_)
    refine x_icmp_ge C dX5_readAs_20 23 rfl 61 rfl h (fun h => ?_) (fun h => ?_)
    · refine x_aload_n C dX5_readAs_61 62 rfl 2 rfl ?_
      refine x_get C inX2 4 lc4 EC_4 rfl 8 (by decide) dX5_readAs_62 65 rfl wmf_X5_48 rfl ?_
      refine x_iload_n C dX5_readAs_65 66 rfl 3 rfl ?_
      refine x_iald C 11 lc11 EC_11 0 rfl dX5_readAs_66 67 rfl h (fun h => ?_)
      exact x_iret C rfl dX5_readAs_67 h
    · refine x_aload_n C dX5_readAs_23 24 rfl 0 rfl ?_
      refine x_get C inX5 31 lc31 EC_31 rfl 7 (by decide) dX5_readAs_24 27 rfl wmf_X5_25 rfl ?_
      refine x_iload C dX5_readAs_27 29 rfl 4 rfl ?_
      refine x_iald C 36 lc36 EC_36 0 rfl dX5_readAs_29 30 rfl h (fun h => ?_)
      refine x_bipush C dX5_readAs_30 32 rfl 10 rfl ?_
      refine x_icmp_eq C dX5_readAs_32 35 rfl 48 rfl h (fun h => ?_) (fun h => ?_)
      · exact b_X5_readAs_48_reading C (fun _ _ _ _ h => ih h) h
      · refine x_aload_n C dX5_readAs_35 36 rfl 2 rfl ?_
        refine x_iload_n C dX5_readAs_36 37 rfl 3 rfl ?_
        refine x_aload_n C dX5_readAs_37 38 rfl 0 rfl ?_
        refine x_get C inX5 31 lc31 EC_31 rfl 7 (by decide) dX5_readAs_38 41 rfl wmf_X5_25 rfl ?_
        refine x_iload C dX5_readAs_41 43 rfl 4 rfl ?_
        refine x_iald C 36 lc36 EC_36 0 rfl dX5_readAs_43 44 rfl h (fun h => ?_)
        obtain ⟨r44, a44, hq, h⟩ := xb_some h
        refine x_callVi C 4 (c_X2_childOf C.2.2.2.2.2.2.1 hq) lc4 EC_4 rfl wml_X5_43 wq_X2_childOf rfl ⟨by decide, by decide⟩ rfl rfl ⟨by decide, by decide⟩ dX5_readAs_44 47 rfl rfl (Nat.le_of_ble_eq_true rfl) ?_
        refine x_istore_n C dX5_readAs_47 48 rfl (by decide) (fun v3_47 => [(3, .int v3_47), (0, .ref (ad 31)), (1, .int v1), (2, .ref (ad 4)), (4, .int v4)]) (fun _ => rfl) h (fun v3_47 h => ?_)
        exact x_sub [1, 2, 3, 0, 4] rfl (b_X5_readAs_48_reading C (fun _ _ _ _ h => ih h) h)
theorem c_X5_readAs_reading {l : Launch} {D : va_G} {ca : Nat → ClassId} {ad : Nat → Nat} (hI : xInj ad NCC) {N : Nat} {ah : AH} {p1 : Int32} {r : Int32} {a : AH} (h : F_X5_readAs N 31 ah p1 = some (r, a)) : xMi l yX5_readAs cX5_readAs 5 (some .int) rm_X5_readAs D vwCl (tysC ca) (EC ad ca) NCC ad [.ref (ad 31), .int p1, .ref (ad 4)] ah (r, a) := by
  refine x_meti (by decide) (Nat.le_of_ble_eq_true rfl) hI EC_loc ?_
  intro p e s m args below meth c C
  unfold F_X5_readAs at h
  refine x_iconst C dX5_readAs_0 1 rfl 0 rfl ?_
  refine x_istore_n C dX5_readAs_1 2 rfl (by decide) (fun v3_1 => [(3, .int v3_1), (0, .ref (ad 31)), (1, .int p1), (2, .ref (ad 4))]) (fun _ => rfl) h (fun v3_1 h => ?_)
  refine x_aload_n C dX5_readAs_2 3 rfl 1 rfl ?_
  refine x_get C inX5 31 lc31 EC_31 rfl 3 (by decide) dX5_readAs_3 6 rfl wmf_X5_9 rfl ?_
  refine x_iload_n C dX5_readAs_6 7 rfl 2 rfl ?_
  refine x_iald C 32 lc32 EC_32 0 rfl dX5_readAs_7 8 rfl h (fun h => ?_)
  refine x_istore C dX5_readAs_8 10 rfl (by decide) (fun v4_8 => [(4, .int v4_8), (3, .int v3_1), (0, .ref (ad 31)), (1, .int p1), (2, .ref (ad 4))]) (fun _ => rfl) h (fun v4_8 h => ?_)
  exact x_sub [2, 3, 4, 1, 0] rfl (b_X5_readAs_10_reading C  N h)
theorem b_X5_readAs_48_trialReading (C : XC p l s m args meth c cX5_readAs 5 (some .int) RX5 D vwCl (tysC ca) (EC ad ca) NCC ad) {N : Nat} {o : (Int32 × AH)} {k10 : AH → Int32 → Int32 → Int32 → Option (Int32 × AH)} (hk10 : ∀ (ah : AH) (v1 : Int32) (v3 : Int32) (v4 : Int32), k10 ah v1 v3 v4 = some o → XW p l e rm_X5_readAs s m args below meth c 5 0 (xQi below args s D vwCl (tysC ca) (EC ad ca) NCC ad o) D vwCl (EC ad ca) NCC ad ah 10 [(0, .ref (ad 40)), (1, .int v1), (2, .ref (ad 4)), (3, .int v3), (4, .int v4)] []) {ah : AH} {v1 : Int32} {v3 : Int32} {v4 : Int32} (h : F_X5_readAs_48 N 40 k10 ah v1 v3 v4 = some o) : XW p l e rm_X5_readAs s m args below meth c 5 0 (xQi below args s D vwCl (tysC ca) (EC ad ca) NCC ad o) D vwCl (EC ad ca) NCC ad ah 48 [(0, .ref (ad 40)), (1, .int v1), (2, .ref (ad 4)), (3, .int v3), (4, .int v4)] [] := by
  unfold F_X5_readAs_48 at h
  refine x_iload_n C dX5_readAs_48 49 rfl 3 rfl ?_
  refine x_iconst C dX5_readAs_49 50 rfl (-1) rfl ?_
  refine x_icmp_ne C dX5_readAs_50 53 rfl 55 rfl h (fun h => ?_) (fun h => ?_)
  · refine x_iinc C dX5_readAs_55 58 rfl 4 rfl (d := 1) rfl (by decide) (fun v4_55 => [(4, .int v4_55), (0, .ref (ad 40)), (1, .int v1), (2, .ref (ad 4)), (3, .int v3)]) (fun _ => rfl) h (fun v4_55 h => ?_)
    refine x_goto C dX5_readAs_58 10 rfl ?_
    exact x_sub [1, 2, 3, 4, 0] rfl (hk10 _ _ _ _ h)
  · refine x_iconst C dX5_readAs_53 54 rfl (-1) rfl ?_
    exact x_iret C rfl dX5_readAs_54 h
theorem b_X5_readAs_10_trialReading (C : XC p l s m args meth c cX5_readAs 5 (some .int) RX5 D vwCl (tysC ca) (EC ad ca) NCC ad) {N : Nat} {o : (Int32 × AH)} : ∀ (n : Nat) {ah : AH} {v1 : Int32} {v3 : Int32} {v4 : Int32}, F_X5_readAs_10 N 40 n ah v1 v3 v4 = some o → XW p l e rm_X5_readAs s m args below meth c 5 0 (xQi below args s D vwCl (tysC ca) (EC ad ca) NCC ad o) D vwCl (EC ad ca) NCC ad ah 10 [(0, .ref (ad 40)), (1, .int v1), (2, .ref (ad 4)), (3, .int v3), (4, .int v4)] [] := by
  intro n
  induction n with
  | zero => intro ah v1 v3 v4 h; unfold F_X5_readAs_10 at h; cases h
  | succ n ih =>
    intro ah v1 v3 v4 h
    unfold F_X5_readAs_10 at h
    refine x_iload C dX5_readAs_10 12 rfl 4 rfl ?_
    refine x_aload_n C dX5_readAs_12 13 rfl 0 rfl ?_
    refine x_get C inX5 40 lc40 EC_40 rfl 3 (by decide) dX5_readAs_13 16 rfl wmf_X5_9 rfl ?_
    refine x_iload_n C dX5_readAs_16 17 rfl 1 rfl ?_
    refine x_iconst C dX5_readAs_17 18 rfl 1 rfl ?_
    refine x_iadd C dX5_readAs_18 19 rfl ?_
    refine x_iald C 41 lc41 EC_41 0 rfl dX5_readAs_19 20 rfl h (fun h => ?_)
    refine x_icmp_ge C dX5_readAs_20 23 rfl 61 rfl h (fun h => ?_) (fun h => ?_)
    · refine x_aload_n C dX5_readAs_61 62 rfl 2 rfl ?_
      refine x_get C inX2 4 lc4 EC_4 rfl 8 (by decide) dX5_readAs_62 65 rfl wmf_X5_48 rfl ?_
      refine x_iload_n C dX5_readAs_65 66 rfl 3 rfl ?_
      refine x_iald C 11 lc11 EC_11 0 rfl dX5_readAs_66 67 rfl h (fun h => ?_)
      exact x_iret C rfl dX5_readAs_67 h
    · refine x_aload_n C dX5_readAs_23 24 rfl 0 rfl ?_
      refine x_get C inX5 40 lc40 EC_40 rfl 7 (by decide) dX5_readAs_24 27 rfl wmf_X5_25 rfl ?_
      refine x_iload C dX5_readAs_27 29 rfl 4 rfl ?_
      refine x_iald C 45 lc45 EC_45 0 rfl dX5_readAs_29 30 rfl h (fun h => ?_)
      refine x_bipush C dX5_readAs_30 32 rfl 10 rfl ?_
      refine x_icmp_eq C dX5_readAs_32 35 rfl 48 rfl h (fun h => ?_) (fun h => ?_)
      · exact b_X5_readAs_48_trialReading C (fun _ _ _ _ h => ih h) h
      · refine x_aload_n C dX5_readAs_35 36 rfl 2 rfl ?_
        refine x_iload_n C dX5_readAs_36 37 rfl 3 rfl ?_
        refine x_aload_n C dX5_readAs_37 38 rfl 0 rfl ?_
        refine x_get C inX5 40 lc40 EC_40 rfl 7 (by decide) dX5_readAs_38 41 rfl wmf_X5_25 rfl ?_
        refine x_iload C dX5_readAs_41 43 rfl 4 rfl ?_
        refine x_iald C 45 lc45 EC_45 0 rfl dX5_readAs_43 44 rfl h (fun h => ?_)
        obtain ⟨r44, a44, hq, h⟩ := xb_some h
        refine x_callVi C 4 (c_X2_childOf C.2.2.2.2.2.2.1 hq) lc4 EC_4 rfl wml_X5_43 wq_X2_childOf rfl ⟨by decide, by decide⟩ rfl rfl ⟨by decide, by decide⟩ dX5_readAs_44 47 rfl rfl (Nat.le_of_ble_eq_true rfl) ?_
        refine x_istore_n C dX5_readAs_47 48 rfl (by decide) (fun v3_47 => [(3, .int v3_47), (0, .ref (ad 40)), (1, .int v1), (2, .ref (ad 4)), (4, .int v4)]) (fun _ => rfl) h (fun v3_47 h => ?_)
        exact x_sub [1, 2, 3, 0, 4] rfl (b_X5_readAs_48_trialReading C (fun _ _ _ _ h => ih h) h)
theorem c_X5_readAs_trialReading {l : Launch} {D : va_G} {ca : Nat → ClassId} {ad : Nat → Nat} (hI : xInj ad NCC) {N : Nat} {ah : AH} {p1 : Int32} {r : Int32} {a : AH} (h : F_X5_readAs N 40 ah p1 = some (r, a)) : xMi l yX5_readAs cX5_readAs 5 (some .int) rm_X5_readAs D vwCl (tysC ca) (EC ad ca) NCC ad [.ref (ad 40), .int p1, .ref (ad 4)] ah (r, a) := by
  refine x_meti (by decide) (Nat.le_of_ble_eq_true rfl) hI EC_loc ?_
  intro p e s m args below meth c C
  unfold F_X5_readAs at h
  refine x_iconst C dX5_readAs_0 1 rfl 0 rfl ?_
  refine x_istore_n C dX5_readAs_1 2 rfl (by decide) (fun v3_1 => [(3, .int v3_1), (0, .ref (ad 40)), (1, .int p1), (2, .ref (ad 4))]) (fun _ => rfl) h (fun v3_1 h => ?_)
  refine x_aload_n C dX5_readAs_2 3 rfl 1 rfl ?_
  refine x_get C inX5 40 lc40 EC_40 rfl 3 (by decide) dX5_readAs_3 6 rfl wmf_X5_9 rfl ?_
  refine x_iload_n C dX5_readAs_6 7 rfl 2 rfl ?_
  refine x_iald C 41 lc41 EC_41 0 rfl dX5_readAs_7 8 rfl h (fun h => ?_)
  refine x_istore C dX5_readAs_8 10 rfl (by decide) (fun v4_8 => [(4, .int v4_8), (3, .int v3_1), (0, .ref (ad 40)), (1, .int p1), (2, .ref (ad 4))]) (fun _ => rfl) h (fun v4_8 h => ?_)
  exact x_sub [2, 3, 4, 1, 0] rfl (b_X5_readAs_10_trialReading C  N h)
abbrev rm_X5_isGap : Room := { frames := 0, cells := 0, slots := 0, locals := 0 }
theorem wq_X5_isGap : xcV RX5 yX5_isGap cX5_isGap 2 (some .boolean) 1 := ⟨wmi_X5_isGap, wms_X5_isGap, wmn_X5, wmc_X5_isGap, by decide, by decide, by decide +kernel⟩
def F_X5_isGap_12 (N : Nat) (k : Nat) (ah : AH) : Option (Int32 × AH) := some (1, ah)
def F_X5_isGap (N : Nat) (k : Nat) (ah : AH) (p1 : Int32) : Option (Int32 × AH) := if p1 = 32 then F_X5_isGap_12 N k ah else if p1 = 10 then F_X5_isGap_12 N k ah else some (0, ah)
theorem b_X5_isGap_12_reading (C : XC p l s m args meth c cX5_isGap 2 (some .boolean) RX5 D vwCl (tysC ca) (EC ad ca) NCC ad) {N : Nat} {o : (Int32 × AH)} {ah : AH} (h : F_X5_isGap_12 N 31 ah = some o) : XW p l e rm_X5_isGap s m args below meth c 2 0 (xQi below args s D vwCl (tysC ca) (EC ad ca) NCC ad o) D vwCl (EC ad ca) NCC ad ah 12 [] [] := by
  unfold F_X5_isGap_12 at h
  refine x_iconst C dX5_isGap_12 13 rfl 1 rfl ?_
  refine x_goto C dX5_isGap_13 17 rfl ?_
  exact x_zret C rfl dX5_isGap_17 (by decide) h
theorem c_X5_isGap_reading {l : Launch} {D : va_G} {ca : Nat → ClassId} {ad : Nat → Nat} (hI : xInj ad NCC) {N : Nat} {ah : AH} {p1 : Int32} {r : Int32} {a : AH} (h : F_X5_isGap N 31 ah p1 = some (r, a)) : xMi l yX5_isGap cX5_isGap 2 (some .boolean) rm_X5_isGap D vwCl (tysC ca) (EC ad ca) NCC ad [.ref (ad 31), .int p1] ah (r, a) := by
  refine x_meti (by decide) (Nat.le_of_ble_eq_true rfl) hI EC_loc ?_
  intro p e s m args below meth c C
  unfold F_X5_isGap at h
  refine x_iload_n C dX5_isGap_0 1 rfl 1 rfl ?_
  refine x_bipush C dX5_isGap_1 3 rfl 32 rfl ?_
  refine x_icmp_eq C dX5_isGap_3 6 rfl 12 rfl h (fun h => ?_) (fun h => ?_)
  · exact x_sub [] rfl (b_X5_isGap_12_reading C  h)
  · refine x_iload_n C dX5_isGap_6 7 rfl 1 rfl ?_
    refine x_bipush C dX5_isGap_7 9 rfl 10 rfl ?_
    refine x_icmp_ne C dX5_isGap_9 12 rfl 16 rfl h (fun h => ?_) (fun h => ?_)
    · refine x_iconst C dX5_isGap_16 17 rfl 0 rfl ?_
      exact x_zret C rfl dX5_isGap_17 (by decide) h
    · exact x_sub [] rfl (b_X5_isGap_12_reading C  h)
abbrev rm_X5_readGap : Room := { frames := 1, cells := 0, slots := 0, locals := 22 }
theorem wq_X5_readGap : xcV RX5 yX5_readGap cX5_readGap 4 none 1 := ⟨wmi_X5_readGap, wms_X5_readGap, wmn_X5, wmc_X5_readGap, by decide, by decide, by decide +kernel⟩
def F_X5_readGap_123 (N : Nat) (k : Nat) (ah : AH) (s1 : Int32) (s2 : Int32) : Option AH := xg s1 40 (xlet (xu ah (k + 3) (Int32.toNatClampNeg s1) (vp_nar .boolean s2)) (fun a123 => some a123))
def F_X5_readGap_122 (N : Nat) (k : Nat) (ah : AH) (s1 : Int32) : Option AH := F_X5_readGap_123 N k ah s1 0
def F_X5_readGap_91 (N : Nat) (k : Nat) (ah : AH) (v2 : Int32) (v3 : Int32) (s1 : Int32) (s2 : Int32) : Option AH := xg s1 40 (xlet (xu ah (k + 4) (Int32.toNatClampNeg s1) (vp_nar .boolean s2)) (fun a91 => if v2 = 1 then if v3 = 0 then xb (F_X9_atEnd N a91) (fun r112 a112 => if r112 = 0 then F_X5_readGap_123 N k a112 ((a91 k 0) - 1) 1 else F_X5_readGap_122 N k a112 ((a91 k 0) - 1)) else F_X5_readGap_122 N k a91 ((a91 k 0) - 1) else F_X5_readGap_122 N k a91 ((a91 k 0) - 1)))
def F_X5_readGap_55 (N : Nat) (k : Nat) (ah : AH) (v2 : Int32) (v3 : Int32) : Option AH := xlet (xu ah k 1 ((ah k 1) + v2)) (fun a62 => if (a62 k 0) ≤ 0 then some a62 else if v2 ≤ 0 then F_X5_readGap_91 N k a62 v2 v3 ((a62 k 0) - 1) 0 else F_X5_readGap_91 N k a62 v2 v3 ((a62 k 0) - 1) 1)
def F_X5_readGap_42 (N : Nat) (k : Nat) (k4 : AH → Int32 → Int32 → Option AH) (ah : AH) (v2 : Int32) (v3 : Int32) : Option AH := xlet (xu ah 2 3 ((ah 2 3) + 1)) (fun a49 => k4 a49 v2 v3)
def F_X5_readGap_4 (N : Nat) (k : Nat) : Nat → AH → Int32 → Int32 → Option AH
  | 0, _, _, _ => none
  | n + 1, ah, v2, v3 => xb (F_X9_atEnd N ah) (fun r5 a5 => if r5 = 0 then xb (F_X9_peek N a5 0) (fun r14 a14 => xb (F_X5_isGap N k a14 r14) (fun r17 a17 => if r17 = 0 then F_X5_readGap_55 N k a17 v2 v3 else xb (F_X9_peek N a17 0) (fun r25 a25 => if r25 = 10 then xlet (v2 + 1) (fun v2_33 => F_X5_readGap_42 N k (F_X5_readGap_4 N k n) a25 v2_33 v3) else xlet (v3 + 1) (fun v3_39 => F_X5_readGap_42 N k (F_X5_readGap_4 N k n) a25 v2 v3_39)))) else F_X5_readGap_55 N k a5 v2 v3)
def F_X5_readGap (N : Nat) (k : Nat) (ah : AH) : Option AH := xlet 0 (fun v2_1 => xlet 0 (fun v3_3 => F_X5_readGap_4 N k N ah v2_1 v3_3))
theorem b_X5_readGap_123_reading (C : XC p l s m args meth c cX5_readGap 4 none RX5 D vwCl (tysC ca) (EC ad ca) NCC ad) {N : Nat} {o : AH} {ah : AH} {s1 : Int32} {s2 : Int32} (h : F_X5_readGap_123 N 31 ah s1 s2 = some o) : XW p l e rm_X5_readGap s m args below meth c 4 0 (xQv below args s D vwCl (tysC ca) (EC ad ca) NCC ad o) D vwCl (EC ad ca) NCC ad ah 123 [] [.int s2, .int s1, .ref (ad 34)] := by
  unfold F_X5_readGap_123 at h
  refine x_zast C 34 lc34 (fun _ => EC_34) 1 rfl dX5_readGap_123 124 rfl h (fun a123 h => ?_)
  exact x_vret C rfl dX5_readGap_124 h
theorem b_X5_readGap_122_reading (C : XC p l s m args meth c cX5_readGap 4 none RX5 D vwCl (tysC ca) (EC ad ca) NCC ad) {N : Nat} {o : AH} {ah : AH} {s1 : Int32} (h : F_X5_readGap_122 N 31 ah s1 = some o) : XW p l e rm_X5_readGap s m args below meth c 4 0 (xQv below args s D vwCl (tysC ca) (EC ad ca) NCC ad o) D vwCl (EC ad ca) NCC ad ah 122 [] [.int s1, .ref (ad 34)] := by
  unfold F_X5_readGap_122 at h
  refine x_iconst C dX5_readGap_122 123 rfl 0 rfl ?_
  exact b_X5_readGap_123_reading C  h
theorem b_X5_readGap_91_reading (C : XC p l s m args meth c cX5_readGap 4 none RX5 D vwCl (tysC ca) (EC ad ca) NCC ad) {N : Nat} {o : AH} {ah : AH} {v2 : Int32} {v3 : Int32} {s1 : Int32} {s2 : Int32} (h : F_X5_readGap_91 N 31 ah v2 v3 s1 s2 = some o) : XW p l e rm_X5_readGap s m args below meth c 4 0 (xQv below args s D vwCl (tysC ca) (EC ad ca) NCC ad o) D vwCl (EC ad ca) NCC ad ah 91 [(0, .ref (ad 31)), (1, .ref (ad 2)), (2, .int v2), (3, .int v3)] [.int s2, .int s1, .ref (ad 35)] := by
  unfold F_X5_readGap_91 at h
  refine x_zast C 35 lc35 (fun _ => EC_35) 1 rfl dX5_readGap_91 92 rfl h (fun a91 h => ?_)
  refine x_aload_n C dX5_readGap_92 93 rfl 0 rfl ?_
  refine x_get C inX5 31 lc31 EC_31 rfl 5 (by decide) dX5_readGap_93 96 rfl wmf_X5_18 rfl ?_
  refine x_aload_n C dX5_readGap_96 97 rfl 0 rfl ?_
  refine x_get C inX5 31 lc31 EC_31 rfl 0 (by decide) dX5_readGap_97 100 rfl wmf_X5_51 rfl ?_
  refine x_iconst C dX5_readGap_100 101 rfl 1 rfl ?_
  refine x_isub C dX5_readGap_101 102 rfl ?_
  refine x_iload_n C dX5_readGap_102 103 rfl 2 rfl ?_
  refine x_iconst C dX5_readGap_103 104 rfl 1 rfl ?_
  refine x_icmp_ne C dX5_readGap_104 107 rfl 122 rfl h (fun h => ?_) (fun h => ?_)
  · exact x_sub [] rfl (b_X5_readGap_122_reading C  h)
  · refine x_iload_n C dX5_readGap_107 108 rfl 3 rfl ?_
    refine x_if_ne C dX5_readGap_108 111 rfl 122 rfl h (fun h => ?_) (fun h => ?_)
    · exact x_sub [] rfl (b_X5_readGap_122_reading C  h)
    · refine x_aload_n C dX5_readGap_111 112 rfl 1 rfl ?_
      obtain ⟨r112, a112, hq, h⟩ := xb_some h
      refine x_callVi C 2 (c_X9_atEnd C.2.2.2.2.2.2.1 hq) lc2 EC_2 rfl wml_X5_65 wq_X9_atEnd rfl ⟨by decide, by decide⟩ rfl rfl ⟨by decide, by decide⟩ dX5_readGap_112 115 rfl rfl (Nat.le_of_ble_eq_true rfl) ?_
      refine x_if_ne C dX5_readGap_115 118 rfl 122 rfl h (fun h => ?_) (fun h => ?_)
      · exact x_sub [] rfl (b_X5_readGap_122_reading C  h)
      · refine x_iconst C dX5_readGap_118 119 rfl 1 rfl ?_
        refine x_goto C dX5_readGap_119 123 rfl ?_
        exact x_sub [] rfl (b_X5_readGap_123_reading C  h)
theorem b_X5_readGap_55_reading (C : XC p l s m args meth c cX5_readGap 4 none RX5 D vwCl (tysC ca) (EC ad ca) NCC ad) {N : Nat} {o : AH} {ah : AH} {v2 : Int32} {v3 : Int32} (h : F_X5_readGap_55 N 31 ah v2 v3 = some o) : XW p l e rm_X5_readGap s m args below meth c 4 0 (xQv below args s D vwCl (tysC ca) (EC ad ca) NCC ad o) D vwCl (EC ad ca) NCC ad ah 55 [(0, .ref (ad 31)), (1, .ref (ad 2)), (2, .int v2), (3, .int v3)] [] := by
  unfold F_X5_readGap_55 at h
  refine x_aload_n C dX5_readGap_55 56 rfl 0 rfl ?_
  refine x_dup C dX5_readGap_56 57 rfl rfl ?_
  refine x_get C inX5 31 lc31 EC_31 rfl 1 (by decide) dX5_readGap_57 60 rfl wmf_X5_58 rfl ?_
  refine x_iload_n C dX5_readGap_60 61 rfl 2 rfl ?_
  refine x_iadd C dX5_readGap_61 62 rfl ?_
  refine x_put C inX5 31 lc31 EC_31 rfl 1 (by decide) tyX5_ok nmX5 dX5_readGap_62 65 rfl wmf_X5_58 rfl rfl rfl (Nat.le_of_ble_eq_true rfl) EP_31_1 h (fun a62 h => ?_)
  refine x_aload_n C dX5_readGap_65 66 rfl 0 rfl ?_
  refine x_get C inX5 31 lc31 EC_31 rfl 0 (by decide) dX5_readGap_66 69 rfl wmf_X5_51 rfl ?_
  refine x_if_le C dX5_readGap_69 72 rfl 124 rfl h (fun h => ?_) (fun h => ?_)
  · exact x_vret C rfl dX5_readGap_124 h
  · refine x_aload_n C dX5_readGap_72 73 rfl 0 rfl ?_
    refine x_get C inX5 31 lc31 EC_31 rfl 6 (by decide) dX5_readGap_73 76 rfl wmf_X5_22 rfl ?_
    refine x_aload_n C dX5_readGap_76 77 rfl 0 rfl ?_
    refine x_get C inX5 31 lc31 EC_31 rfl 0 (by decide) dX5_readGap_77 80 rfl wmf_X5_51 rfl ?_
    refine x_iconst C dX5_readGap_80 81 rfl 1 rfl ?_
    refine x_isub C dX5_readGap_81 82 rfl ?_
    refine x_iload_n C dX5_readGap_82 83 rfl 2 rfl ?_
    refine x_if_le C dX5_readGap_83 86 rfl 90 rfl h (fun h => ?_) (fun h => ?_)
    · refine x_iconst C dX5_readGap_90 91 rfl 0 rfl ?_
      exact b_X5_readGap_91_reading C  h
    · refine x_iconst C dX5_readGap_86 87 rfl 1 rfl ?_
      refine x_goto C dX5_readGap_87 91 rfl ?_
      exact b_X5_readGap_91_reading C  h
theorem b_X5_readGap_42_reading (C : XC p l s m args meth c cX5_readGap 4 none RX5 D vwCl (tysC ca) (EC ad ca) NCC ad) {N : Nat} {o : AH} {k4 : AH → Int32 → Int32 → Option AH} (hk4 : ∀ (ah : AH) (v2 : Int32) (v3 : Int32), k4 ah v2 v3 = some o → XW p l e rm_X5_readGap s m args below meth c 4 0 (xQv below args s D vwCl (tysC ca) (EC ad ca) NCC ad o) D vwCl (EC ad ca) NCC ad ah 4 [(0, .ref (ad 31)), (1, .ref (ad 2)), (2, .int v2), (3, .int v3)] []) {ah : AH} {v2 : Int32} {v3 : Int32} (h : F_X5_readGap_42 N 31 k4 ah v2 v3 = some o) : XW p l e rm_X5_readGap s m args below meth c 4 0 (xQv below args s D vwCl (tysC ca) (EC ad ca) NCC ad o) D vwCl (EC ad ca) NCC ad ah 42 [(0, .ref (ad 31)), (1, .ref (ad 2)), (2, .int v2), (3, .int v3)] [] := by
  unfold F_X5_readGap_42 at h
  refine x_aload_n C dX5_readGap_42 43 rfl 1 rfl ?_
  refine x_dup C dX5_readGap_43 44 rfl rfl ?_
  refine x_get C inX9 2 lc2 EC_2 rfl 3 (by decide) dX5_readGap_44 47 rfl wmf_X5_83 rfl ?_
  refine x_iconst C dX5_readGap_47 48 rfl 1 rfl ?_
  refine x_iadd C dX5_readGap_48 49 rfl ?_
  refine x_put C inX9 2 lc2 EC_2 rfl 3 (by decide) tyX9_ok nmX9 dX5_readGap_49 52 rfl wmf_X5_83 rfl rfl rfl (Nat.le_of_ble_eq_true rfl) EP_2_3 h (fun a49 h => ?_)
  refine x_goto C dX5_readGap_52 4 rfl ?_
  exact hk4 _ _ _ h
theorem b_X5_readGap_4_reading (C : XC p l s m args meth c cX5_readGap 4 none RX5 D vwCl (tysC ca) (EC ad ca) NCC ad) {N : Nat} {o : AH} : ∀ (n : Nat) {ah : AH} {v2 : Int32} {v3 : Int32}, F_X5_readGap_4 N 31 n ah v2 v3 = some o → XW p l e rm_X5_readGap s m args below meth c 4 0 (xQv below args s D vwCl (tysC ca) (EC ad ca) NCC ad o) D vwCl (EC ad ca) NCC ad ah 4 [(0, .ref (ad 31)), (1, .ref (ad 2)), (2, .int v2), (3, .int v3)] [] := by
  intro n
  induction n with
  | zero => intro ah v2 v3 h; unfold F_X5_readGap_4 at h; cases h
  | succ n ih =>
    intro ah v2 v3 h
    unfold F_X5_readGap_4 at h
    refine x_aload_n C dX5_readGap_4 5 rfl 1 rfl ?_
    obtain ⟨r5, a5, hq, h⟩ := xb_some h
    refine x_callVi C 2 (c_X9_atEnd C.2.2.2.2.2.2.1 hq) lc2 EC_2 rfl wml_X5_65 wq_X9_atEnd rfl ⟨by decide, by decide⟩ rfl rfl ⟨by decide, by decide⟩ dX5_readGap_5 8 rfl rfl (Nat.le_of_ble_eq_true rfl) ?_
    refine x_if_ne C dX5_readGap_8 11 rfl 55 rfl h (fun h => ?_) (fun h => ?_)
    · exact b_X5_readGap_55_reading C  h
    · refine x_aload_n C dX5_readGap_11 12 rfl 0 rfl ?_
      refine x_aload_n C dX5_readGap_12 13 rfl 1 rfl ?_
      refine x_iconst C dX5_readGap_13 14 rfl 0 rfl ?_
      obtain ⟨r14, a14, hq, h⟩ := xb_some h
      refine x_callVi C 2 (c_X9_peek C.2.2.2.2.2.2.1 hq) lc2 EC_2 rfl wml_X5_75 wq_X9_peek rfl ⟨by decide, by decide⟩ rfl rfl ⟨by decide, by decide⟩ dX5_readGap_14 17 rfl rfl (Nat.le_of_ble_eq_true rfl) ?_
      obtain ⟨r17, a17, hq, h⟩ := xb_some h
      refine x_callVi C 31 (c_X5_isGap_reading C.2.2.2.2.2.2.1 hq) lc31 EC_31 rfl wml_X5_79 wq_X5_isGap rfl ⟨by decide, by decide⟩ rfl rfl ⟨by decide, by decide⟩ dX5_readGap_17 20 rfl rfl (Nat.le_of_ble_eq_true rfl) ?_
      refine x_if_eq C dX5_readGap_20 23 rfl 55 rfl h (fun h => ?_) (fun h => ?_)
      · exact b_X5_readGap_55_reading C  h
      · refine x_aload_n C dX5_readGap_23 24 rfl 1 rfl ?_
        refine x_iconst C dX5_readGap_24 25 rfl 0 rfl ?_
        obtain ⟨r25, a25, hq, h⟩ := xb_some h
        refine x_callVi C 2 (c_X9_peek C.2.2.2.2.2.2.1 hq) lc2 EC_2 rfl wml_X5_75 wq_X9_peek rfl ⟨by decide, by decide⟩ rfl rfl ⟨by decide, by decide⟩ dX5_readGap_25 28 rfl rfl (Nat.le_of_ble_eq_true rfl) ?_
        refine x_bipush C dX5_readGap_28 30 rfl 10 rfl ?_
        refine x_icmp_ne C dX5_readGap_30 33 rfl 39 rfl h (fun h => ?_) (fun h => ?_)
        · refine x_iinc C dX5_readGap_39 42 rfl 3 rfl (d := 1) rfl (by decide) (fun v3_39 => [(3, .int v3_39), (0, .ref (ad 31)), (1, .ref (ad 2)), (2, .int v2)]) (fun _ => rfl) h (fun v3_39 h => ?_)
          exact x_sub [1, 2, 3, 0] rfl (b_X5_readGap_42_reading C (fun _ _ _ h => ih h) h)
        · refine x_iinc C dX5_readGap_33 36 rfl 2 rfl (d := 1) rfl (by decide) (fun v2_33 => [(2, .int v2_33), (0, .ref (ad 31)), (1, .ref (ad 2)), (3, .int v3)]) (fun _ => rfl) h (fun v2_33 h => ?_)
          refine x_goto C dX5_readGap_36 42 rfl ?_
          exact x_sub [1, 2, 0, 3] rfl (b_X5_readGap_42_reading C (fun _ _ _ h => ih h) h)
theorem c_X5_readGap_reading {l : Launch} {D : va_G} {ca : Nat → ClassId} {ad : Nat → Nat} (hI : xInj ad NCC) {N : Nat} {ah : AH} {a : AH} (h : F_X5_readGap N 31 ah = some a) : xMv l yX5_readGap cX5_readGap 4 rm_X5_readGap D vwCl (tysC ca) (EC ad ca) NCC ad [.ref (ad 31), .ref (ad 2)] ah a := by
  refine x_metv (by decide) (Nat.le_of_ble_eq_true rfl) hI EC_loc ?_
  intro p e s m args below meth c C
  unfold F_X5_readGap at h
  refine x_iconst C dX5_readGap_0 1 rfl 0 rfl ?_
  refine x_istore_n C dX5_readGap_1 2 rfl (by decide) (fun v2_1 => [(2, .int v2_1), (0, .ref (ad 31)), (1, .ref (ad 2))]) (fun _ => rfl) h (fun v2_1 h => ?_)
  refine x_iconst C dX5_readGap_2 3 rfl 0 rfl ?_
  refine x_istore_n C dX5_readGap_3 4 rfl (by decide) (fun v3_3 => [(3, .int v3_3), (2, .int v2_1), (0, .ref (ad 31)), (1, .ref (ad 2))]) (fun _ => rfl) h (fun v3_3 h => ?_)
  exact x_sub [2, 3, 1, 0] rfl (b_X5_readGap_4_reading C  N h)
abbrev rm_X5_beginsCell : Room := { frames := 1, cells := 0, slots := 0, locals := 20 }
theorem wq_X5_beginsCell : xcV RX5 yX5_beginsCell cX5_beginsCell 2 (some .boolean) 1 := ⟨wmi_X5_beginsCell, wms_X5_beginsCell, wmn_X5, wmc_X5_beginsCell, by decide, by decide, by decide +kernel⟩
def F_X5_beginsCell_19 (N : Nat) (k : Nat) (ah : AH) : Option (Int32 × AH) := some (1, ah)
def F_X5_beginsCell (N : Nat) (k : Nat) (ah : AH) (p1 : Int32) : Option (Int32 × AH) := xb (F_X11_isLetter N ah p1) (fun r1 a1 => if r1 = 0 then if p1 = 63 then F_X5_beginsCell_19 N k a1 else if p1 = 45 then F_X5_beginsCell_19 N k a1 else some (0, a1) else F_X5_beginsCell_19 N k a1)
theorem b_X5_beginsCell_19_reading (C : XC p l s m args meth c cX5_beginsCell 2 (some .boolean) RX5 D vwCl (tysC ca) (EC ad ca) NCC ad) {N : Nat} {o : (Int32 × AH)} {ah : AH} (h : F_X5_beginsCell_19 N 31 ah = some o) : XW p l e rm_X5_beginsCell s m args below meth c 2 0 (xQi below args s D vwCl (tysC ca) (EC ad ca) NCC ad o) D vwCl (EC ad ca) NCC ad ah 19 [] [] := by
  unfold F_X5_beginsCell_19 at h
  refine x_iconst C dX5_beginsCell_19 20 rfl 1 rfl ?_
  refine x_goto C dX5_beginsCell_20 24 rfl ?_
  exact x_zret C rfl dX5_beginsCell_24 (by decide) h
theorem c_X5_beginsCell_reading {l : Launch} {D : va_G} {ca : Nat → ClassId} {ad : Nat → Nat} (hI : xInj ad NCC) {N : Nat} {ah : AH} {p1 : Int32} {r : Int32} {a : AH} (h : F_X5_beginsCell N 31 ah p1 = some (r, a)) : xMi l yX5_beginsCell cX5_beginsCell 2 (some .boolean) rm_X5_beginsCell D vwCl (tysC ca) (EC ad ca) NCC ad [.ref (ad 31), .int p1] ah (r, a) := by
  refine x_meti (by decide) (Nat.le_of_ble_eq_true rfl) hI EC_loc ?_
  intro p e s m args below meth c C
  unfold F_X5_beginsCell at h
  refine x_iload_n C dX5_beginsCell_0 1 rfl 1 rfl ?_
  obtain ⟨r1, a1, hq, h⟩ := xb_some h
  refine x_callNi C (c_X11_isLetter C.2.2.2.2.2.2.1 hq) xn_X5_97 wq_X11_isLetter rfl ⟨by decide, by decide⟩ rfl rfl ⟨by decide, by decide⟩ dX5_beginsCell_1 4 rfl rfl (Nat.le_of_ble_eq_true rfl) ?_
  refine x_if_ne C dX5_beginsCell_4 7 rfl 19 rfl h (fun h => ?_) (fun h => ?_)
  · exact x_sub [] rfl (b_X5_beginsCell_19_reading C  h)
  · refine x_iload_n C dX5_beginsCell_7 8 rfl 1 rfl ?_
    refine x_bipush C dX5_beginsCell_8 10 rfl 63 rfl ?_
    refine x_icmp_eq C dX5_beginsCell_10 13 rfl 19 rfl h (fun h => ?_) (fun h => ?_)
    · exact x_sub [] rfl (b_X5_beginsCell_19_reading C  h)
    · refine x_iload_n C dX5_beginsCell_13 14 rfl 1 rfl ?_
      refine x_bipush C dX5_beginsCell_14 16 rfl 45 rfl ?_
      refine x_icmp_ne C dX5_beginsCell_16 19 rfl 23 rfl h (fun h => ?_) (fun h => ?_)
      · refine x_iconst C dX5_beginsCell_23 24 rfl 0 rfl ?_
        exact x_zret C rfl dX5_beginsCell_24 (by decide) h
      · exact x_sub [] rfl (b_X5_beginsCell_19_reading C  h)
abbrev rm_X5_isBreak : Room := { frames := 1, cells := 0, slots := 0, locals := 22 }
theorem wq_X5_isBreak : xcV RX5 yX5_isBreak cX5_isBreak 2 (some .boolean) 1 := ⟨wmi_X5_isBreak, wms_X5_isBreak, wmn_X5, wmc_X5_isBreak, by decide, by decide, by decide +kernel⟩
def F_X5_isBreak_31 (N : Nat) (k : Nat) (ah : AH) : Option (Int32 × AH) := some (1, ah)
def F_X5_isBreak (N : Nat) (k : Nat) (ah : AH) : Option (Int32 × AH) := xb (F_X9_peek N ah 0) (fun r2 a2 => if r2 = 10 then xb (F_X9_peek N a2 1) (fun r12 a12 => xb (F_X11_isLetter N a12 r12) (fun r15 a15 => if r15 = 0 then xb (F_X9_peek N a15 1) (fun r23 a23 => if r23 = 63 then F_X5_isBreak_31 N k a23 else some (0, a23)) else F_X5_isBreak_31 N k a15)) else some (0, a2))
theorem b_X5_isBreak_31_reading (C : XC p l s m args meth c cX5_isBreak 2 (some .boolean) RX5 D vwCl (tysC ca) (EC ad ca) NCC ad) {N : Nat} {o : (Int32 × AH)} {ah : AH} (h : F_X5_isBreak_31 N 31 ah = some o) : XW p l e rm_X5_isBreak s m args below meth c 2 0 (xQi below args s D vwCl (tysC ca) (EC ad ca) NCC ad o) D vwCl (EC ad ca) NCC ad ah 31 [] [] := by
  unfold F_X5_isBreak_31 at h
  refine x_iconst C dX5_isBreak_31 32 rfl 1 rfl ?_
  refine x_goto C dX5_isBreak_32 36 rfl ?_
  exact x_zret C rfl dX5_isBreak_36 (by decide) h
theorem c_X5_isBreak_reading {l : Launch} {D : va_G} {ca : Nat → ClassId} {ad : Nat → Nat} (hI : xInj ad NCC) {N : Nat} {ah : AH} {r : Int32} {a : AH} (h : F_X5_isBreak N 31 ah = some (r, a)) : xMi l yX5_isBreak cX5_isBreak 2 (some .boolean) rm_X5_isBreak D vwCl (tysC ca) (EC ad ca) NCC ad [.ref (ad 31), .ref (ad 2)] ah (r, a) := by
  refine x_meti (by decide) (Nat.le_of_ble_eq_true rfl) hI EC_loc ?_
  intro p e s m args below meth c C
  unfold F_X5_isBreak at h
  refine x_aload_n C dX5_isBreak_0 1 rfl 1 rfl ?_
  refine x_iconst C dX5_isBreak_1 2 rfl 0 rfl ?_
  obtain ⟨r2, a2, hq, h⟩ := xb_some h
  refine x_callVi C 2 (c_X9_peek C.2.2.2.2.2.2.1 hq) lc2 EC_2 rfl wml_X5_75 wq_X9_peek rfl ⟨by decide, by decide⟩ rfl rfl ⟨by decide, by decide⟩ dX5_isBreak_2 5 rfl rfl (Nat.le_of_ble_eq_true rfl) ?_
  refine x_bipush C dX5_isBreak_5 7 rfl 10 rfl ?_
  refine x_icmp_ne C dX5_isBreak_7 10 rfl 35 rfl h (fun h => ?_) (fun h => ?_)
  · refine x_iconst C dX5_isBreak_35 36 rfl 0 rfl ?_
    exact x_zret C rfl dX5_isBreak_36 (by decide) h
  · refine x_aload_n C dX5_isBreak_10 11 rfl 1 rfl ?_
    refine x_iconst C dX5_isBreak_11 12 rfl 1 rfl ?_
    obtain ⟨r12, a12, hq, h⟩ := xb_some h
    refine x_callVi C 2 (c_X9_peek C.2.2.2.2.2.2.1 hq) lc2 EC_2 rfl wml_X5_75 wq_X9_peek rfl ⟨by decide, by decide⟩ rfl rfl ⟨by decide, by decide⟩ dX5_isBreak_12 15 rfl rfl (Nat.le_of_ble_eq_true rfl) ?_
    obtain ⟨r15, a15, hq, h⟩ := xb_some h
    refine x_callNi C (c_X11_isLetter C.2.2.2.2.2.2.1 hq) xn_X5_97 wq_X11_isLetter rfl ⟨by decide, by decide⟩ rfl rfl ⟨by decide, by decide⟩ dX5_isBreak_15 18 rfl rfl (Nat.le_of_ble_eq_true rfl) ?_
    refine x_if_ne C dX5_isBreak_18 21 rfl 31 rfl h (fun h => ?_) (fun h => ?_)
    · exact x_sub [] rfl (b_X5_isBreak_31_reading C  h)
    · refine x_aload_n C dX5_isBreak_21 22 rfl 1 rfl ?_
      refine x_iconst C dX5_isBreak_22 23 rfl 1 rfl ?_
      obtain ⟨r23, a23, hq, h⟩ := xb_some h
      refine x_callVi C 2 (c_X9_peek C.2.2.2.2.2.2.1 hq) lc2 EC_2 rfl wml_X5_75 wq_X9_peek rfl ⟨by decide, by decide⟩ rfl rfl ⟨by decide, by decide⟩ dX5_isBreak_23 26 rfl rfl (Nat.le_of_ble_eq_true rfl) ?_
      refine x_bipush C dX5_isBreak_26 28 rfl 63 rfl ?_
      refine x_icmp_ne C dX5_isBreak_28 31 rfl 35 rfl h (fun h => ?_) (fun h => ?_)
      · refine x_iconst C dX5_isBreak_35 36 rfl 0 rfl ?_
        exact x_zret C rfl dX5_isBreak_36 (by decide) h
      · exact x_sub [] rfl (b_X5_isBreak_31_reading C  h)
abbrev rm_X5_readOthers : Room := { frames := 2, cells := 0, slots := 0, locals := 45 }
theorem wq_X5_readOthers : xcV RX5 yX5_readOthers cX5_readOthers 6 (some .boolean) 2 := ⟨wmi_X5_readOthers, wms_X5_readOthers, wmn_X5, wmc_X5_readOthers, by decide, by decide, by decide +kernel⟩
def F_X5_readOthers_34 (N : Nat) (k : Nat) : Nat → AH → Int32 → Int32 → Option (Int32 × AH)
  | 0, _, _, _ => none
  | n + 1, ah, v2, v3 => if 3 < v3 then some (0, ah) else xb (F_X9_peek N ah 0) (fun r41 a41 => xlet r41 (fun v4_44 => xb (F_X11_isLetter N a41 v4_44) (fun r48 a48 => if r48 = 0 then xb (F_X9_refuse N a48 1 (a48 2 3)) (fun r60 a60 => xbo r60 (some (r60, a60))) else if v3 = 3 then xb (F_X9_refuse N a48 3 (a48 2 3)) (fun r75 a75 => xbo r75 (some (r75, a75))) else xlet (xu a48 2 3 ((a48 2 3) + 1)) (fun a86 => xb (F_X9_readNumber N a86 1) (fun r91 a91 => xlet r91 (fun v5_94 => if v5_94 = ((-1)) then some (0, a91) else xg ((v2 * 3) + v3) 1200 (xlet (xu a91 (k + 7) (Int32.toNatClampNeg ((v2 * 3) + v3)) v4_44) (fun a115 => xg ((v2 * 3) + v3) 1200 (xlet (xu a115 (k + 8) (Int32.toNatClampNeg ((v2 * 3) + v3)) v5_94) (fun a127 => xg v2 400 (xlet (xu a127 (k + 6) (Int32.toNatClampNeg v2) (v3 + 1)) (fun a136 => xb (F_X9_peek N a136 0) (fun r139 a139 => if r139 = 93 then xlet (xu a139 2 3 ((a139 2 3) + 1)) (fun a154 => some (1, a154)) else xb (F_X9_peek N a139 0) (fun r161 a161 => if r161 = 32 then xbv (F_X9_skipBlanks N a161) (fun a180 => xlet (v3 + 1) (fun v3_183 => F_X5_readOthers_34 N k n a180 v2 v3_183)) else xb (F_X9_refuse N a161 1 (a161 2 3)) (fun r175 a175 => xbo r175 (some (r175, a175)))))))))))))))))
def F_X5_readOthers (N : Nat) (k : Nat) (ah : AH) (p2 : Int32) : Option (Int32 × AH) := xlet (xu ah 2 3 ((ah 2 3) + 1)) (fun a7 => xb (F_X9_peek N a7 0) (fun r12 a12 => if r12 = 93 then xlet (xu a12 2 3 ((a12 2 3) + 1)) (fun a27 => some (1, a27)) else xlet 0 (fun v3_33 => F_X5_readOthers_34 N k N a12 p2 v3_33)))
theorem b_X5_readOthers_34_reading (C : XC p l s m args meth c cX5_readOthers 6 (some .boolean) RX5 D vwCl (tysC ca) (EC ad ca) NCC ad) {N : Nat} {o : (Int32 × AH)} : ∀ (n : Nat) {ah : AH} {v2 : Int32} {v3 : Int32}, F_X5_readOthers_34 N 31 n ah v2 v3 = some o → XW p l e rm_X5_readOthers s m args below meth c 6 0 (xQi below args s D vwCl (tysC ca) (EC ad ca) NCC ad o) D vwCl (EC ad ca) NCC ad ah 34 [(0, .ref (ad 31)), (1, .ref (ad 2)), (2, .int v2), (3, .int v3)] [] := by
  intro n
  induction n with
  | zero => intro ah v2 v3 h; unfold F_X5_readOthers_34 at h; cases h
  | succ n ih =>
    intro ah v2 v3 h
    unfold F_X5_readOthers_34 at h
    refine x_iload_n C dX5_readOthers_34 35 rfl 3 rfl ?_
    refine x_iconst C dX5_readOthers_35 36 rfl 3 rfl ?_
    refine x_icmp_gt C dX5_readOthers_36 39 rfl 189 rfl h (fun h => ?_) (fun h => ?_)
    · refine x_iconst C dX5_readOthers_189 190 rfl 0 rfl ?_
      exact x_zret C rfl dX5_readOthers_190 (by decide) h
    · refine x_aload_n C dX5_readOthers_39 40 rfl 1 rfl ?_
      refine x_iconst C dX5_readOthers_40 41 rfl 0 rfl ?_
      obtain ⟨r41, a41, hq, h⟩ := xb_some h
      refine x_callVi C 2 (c_X9_peek C.2.2.2.2.2.2.1 hq) lc2 EC_2 rfl wml_X5_75 wq_X9_peek rfl ⟨by decide, by decide⟩ rfl rfl ⟨by decide, by decide⟩ dX5_readOthers_41 44 rfl rfl (Nat.le_of_ble_eq_true rfl) ?_
      refine x_istore C dX5_readOthers_44 46 rfl (by decide) (fun v4_44 => [(4, .int v4_44), (0, .ref (ad 31)), (1, .ref (ad 2)), (2, .int v2), (3, .int v3)]) (fun _ => rfl) h (fun v4_44 h => ?_)
      refine x_iload C dX5_readOthers_46 48 rfl 0 rfl ?_
      obtain ⟨r48, a48, hq, h⟩ := xb_some h
      refine x_callNi C (c_X11_isLetter C.2.2.2.2.2.2.1 hq) xn_X5_97 wq_X11_isLetter rfl ⟨by decide, by decide⟩ rfl rfl ⟨by decide, by decide⟩ dX5_readOthers_48 51 rfl rfl (Nat.le_of_ble_eq_true rfl) ?_
      refine x_if_ne C dX5_readOthers_51 54 rfl 64 rfl h (fun h => ?_) (fun h => ?_)
      · refine x_iload_n C dX5_readOthers_64 65 rfl 4 rfl ?_
        refine x_iconst C dX5_readOthers_65 66 rfl 3 rfl ?_
        refine x_icmp_ne C dX5_readOthers_66 69 rfl 79 rfl h (fun h => ?_) (fun h => ?_)
        · refine x_aload_n C dX5_readOthers_79 80 rfl 2 rfl ?_
          refine x_dup C dX5_readOthers_80 81 rfl rfl ?_
          refine x_get C inX9 2 lc2 EC_2 rfl 3 (by decide) dX5_readOthers_81 84 rfl wmf_X5_83 rfl ?_
          refine x_iconst C dX5_readOthers_84 85 rfl 1 rfl ?_
          refine x_iadd C dX5_readOthers_85 86 rfl ?_
          refine x_put C inX9 2 lc2 EC_2 rfl 3 (by decide) tyX9_ok nmX9 dX5_readOthers_86 89 rfl wmf_X5_83 rfl rfl rfl (Nat.le_of_ble_eq_true rfl) EP_2_3 h (fun a86 h => ?_)
          refine x_aload_n C dX5_readOthers_89 90 rfl 2 rfl ?_
          refine x_iconst C dX5_readOthers_90 91 rfl 1 rfl ?_
          obtain ⟨r91, a91, hq, h⟩ := xb_some h
          refine x_callVi C 2 (c_X9_readNumber C.2.2.2.2.2.2.1 hq) lc2 EC_2 rfl wml_X5_106 wq_X9_readNumber rfl ⟨by decide, by decide⟩ rfl rfl ⟨by decide, by decide⟩ dX5_readOthers_91 94 rfl rfl (Nat.le_of_ble_eq_true rfl) ?_
          refine x_istore C dX5_readOthers_94 96 rfl (by decide) (fun v5_94 => [(5, .int v5_94), (4, .int v4_44), (0, .ref (ad 31)), (1, .ref (ad 2)), (2, .int v2), (3, .int v3)]) (fun _ => rfl) h (fun v5_94 h => ?_)
          refine x_iload C dX5_readOthers_96 98 rfl 0 rfl ?_
          refine x_iconst C dX5_readOthers_98 99 rfl (-1) rfl ?_
          refine x_icmp_ne C dX5_readOthers_99 102 rfl 104 rfl h (fun h => ?_) (fun h => ?_)
          · refine x_aload_n C dX5_readOthers_104 105 rfl 2 rfl ?_
            refine x_get C inX5 31 lc31 EC_31 rfl 9 (by decide) dX5_readOthers_105 108 rfl wmf_X5_31 rfl ?_
            refine x_iload_n C dX5_readOthers_108 109 rfl 4 rfl ?_
            refine x_iconst C dX5_readOthers_109 110 rfl 3 rfl ?_
            refine x_imul C dX5_readOthers_110 111 rfl ?_
            refine x_iload_n C dX5_readOthers_111 112 rfl 5 rfl ?_
            refine x_iadd C dX5_readOthers_112 113 rfl ?_
            refine x_iload C dX5_readOthers_113 115 rfl 1 rfl ?_
            refine x_iast C 38 lc38 (fun _ => EC_38) 0 rfl dX5_readOthers_115 116 rfl h (fun a115 h => ?_)
            refine x_aload_n C dX5_readOthers_116 117 rfl 2 rfl ?_
            refine x_get C inX5 31 lc31 EC_31 rfl 10 (by decide) dX5_readOthers_117 120 rfl wmf_X5_34 rfl ?_
            refine x_iload_n C dX5_readOthers_120 121 rfl 4 rfl ?_
            refine x_iconst C dX5_readOthers_121 122 rfl 3 rfl ?_
            refine x_imul C dX5_readOthers_122 123 rfl ?_
            refine x_iload_n C dX5_readOthers_123 124 rfl 5 rfl ?_
            refine x_iadd C dX5_readOthers_124 125 rfl ?_
            refine x_iload C dX5_readOthers_125 127 rfl 0 rfl ?_
            refine x_iast C 39 lc39 (fun _ => EC_39) 0 rfl dX5_readOthers_127 128 rfl h (fun a127 h => ?_)
            refine x_aload_n C dX5_readOthers_128 129 rfl 2 rfl ?_
            refine x_get C inX5 31 lc31 EC_31 rfl 8 (by decide) dX5_readOthers_129 132 rfl wmf_X5_28 rfl ?_
            refine x_iload_n C dX5_readOthers_132 133 rfl 4 rfl ?_
            refine x_iload_n C dX5_readOthers_133 134 rfl 5 rfl ?_
            refine x_iconst C dX5_readOthers_134 135 rfl 1 rfl ?_
            refine x_iadd C dX5_readOthers_135 136 rfl ?_
            refine x_iast C 37 lc37 (fun _ => EC_37) 0 rfl dX5_readOthers_136 137 rfl h (fun a136 h => ?_)
            refine x_aload_n C dX5_readOthers_137 138 rfl 3 rfl ?_
            refine x_iconst C dX5_readOthers_138 139 rfl 0 rfl ?_
            obtain ⟨r139, a139, hq, h⟩ := xb_some h
            refine x_callVi C 2 (c_X9_peek C.2.2.2.2.2.2.1 hq) lc2 EC_2 rfl wml_X5_75 wq_X9_peek rfl ⟨by decide, by decide⟩ rfl rfl ⟨by decide, by decide⟩ dX5_readOthers_139 142 rfl rfl (Nat.le_of_ble_eq_true rfl) ?_
            refine x_bipush C dX5_readOthers_142 144 rfl 93 rfl ?_
            refine x_icmp_ne C dX5_readOthers_144 147 rfl 159 rfl h (fun h => ?_) (fun h => ?_)
            · refine x_aload_n C dX5_readOthers_159 160 rfl 3 rfl ?_
              refine x_iconst C dX5_readOthers_160 161 rfl 0 rfl ?_
              obtain ⟨r161, a161, hq, h⟩ := xb_some h
              refine x_callVi C 2 (c_X9_peek C.2.2.2.2.2.2.1 hq) lc2 EC_2 rfl wml_X5_75 wq_X9_peek rfl ⟨by decide, by decide⟩ rfl rfl ⟨by decide, by decide⟩ dX5_readOthers_161 164 rfl rfl (Nat.le_of_ble_eq_true rfl) ?_
              refine x_bipush C dX5_readOthers_164 166 rfl 32 rfl ?_
              refine x_icmp_eq C dX5_readOthers_166 169 rfl 179 rfl h (fun h => ?_) (fun h => ?_)
              · refine x_aload_n C dX5_readOthers_179 180 rfl 3 rfl ?_
                obtain ⟨a180, hq, h⟩ := xbv_some h
                refine x_callVv C 2 (c_X9_skipBlanks C.2.2.2.2.2.2.1 hq) lc2 EC_2 rfl wml_X5_109 wq_X9_skipBlanks rfl ⟨by decide, by decide⟩ rfl rfl ⟨by decide, by decide⟩ dX5_readOthers_180 183 rfl rfl (Nat.le_of_ble_eq_true rfl) ?_
                refine x_iinc C dX5_readOthers_183 186 rfl 5 rfl (d := 1) rfl (by decide) (fun v3_183 => [(3, .int v3_183), (5, .int v5_94), (4, .int v4_44), (0, .ref (ad 31)), (1, .ref (ad 2)), (2, .int v2)]) (fun _ => rfl) h (fun v3_183 h => ?_)
                refine x_goto C dX5_readOthers_186 34 rfl ?_
                exact x_sub [3, 4, 5, 0] rfl (ih h)
              · refine x_aload_n C dX5_readOthers_169 170 rfl 3 rfl ?_
                refine x_iconst C dX5_readOthers_170 171 rfl 1 rfl ?_
                refine x_aload_n C dX5_readOthers_171 172 rfl 3 rfl ?_
                refine x_get C inX9 2 lc2 EC_2 rfl 3 (by decide) dX5_readOthers_172 175 rfl wmf_X5_83 rfl ?_
                obtain ⟨r175, a175, hq, h⟩ := xb_some h
                refine x_callVi C 2 (c_X9_refuse C.2.2.2.2.2.2.1 hq) lc2 EC_2 rfl wml_X5_89 wq_X9_refuse rfl ⟨by decide, by decide⟩ rfl rfl ⟨by decide, by decide⟩ dX5_readOthers_175 178 rfl rfl (Nat.le_of_ble_eq_true rfl) ?_
                exact x_zretB C rfl dX5_readOthers_178 h
            · refine x_aload_n C dX5_readOthers_147 148 rfl 3 rfl ?_
              refine x_dup C dX5_readOthers_148 149 rfl rfl ?_
              refine x_get C inX9 2 lc2 EC_2 rfl 3 (by decide) dX5_readOthers_149 152 rfl wmf_X5_83 rfl ?_
              refine x_iconst C dX5_readOthers_152 153 rfl 1 rfl ?_
              refine x_iadd C dX5_readOthers_153 154 rfl ?_
              refine x_put C inX9 2 lc2 EC_2 rfl 3 (by decide) tyX9_ok nmX9 dX5_readOthers_154 157 rfl wmf_X5_83 rfl rfl rfl (Nat.le_of_ble_eq_true rfl) EP_2_3 h (fun a154 h => ?_)
              refine x_iconst C dX5_readOthers_157 158 rfl 1 rfl ?_
              exact x_zret C rfl dX5_readOthers_158 (by decide) h
          · refine x_iconst C dX5_readOthers_102 103 rfl 0 rfl ?_
            exact x_zret C rfl dX5_readOthers_103 (by decide) h
        · refine x_aload_n C dX5_readOthers_69 70 rfl 2 rfl ?_
          refine x_iconst C dX5_readOthers_70 71 rfl 3 rfl ?_
          refine x_aload_n C dX5_readOthers_71 72 rfl 2 rfl ?_
          refine x_get C inX9 2 lc2 EC_2 rfl 3 (by decide) dX5_readOthers_72 75 rfl wmf_X5_83 rfl ?_
          obtain ⟨r75, a75, hq, h⟩ := xb_some h
          refine x_callVi C 2 (c_X9_refuse C.2.2.2.2.2.2.1 hq) lc2 EC_2 rfl wml_X5_89 wq_X9_refuse rfl ⟨by decide, by decide⟩ rfl rfl ⟨by decide, by decide⟩ dX5_readOthers_75 78 rfl rfl (Nat.le_of_ble_eq_true rfl) ?_
          exact x_zretB C rfl dX5_readOthers_78 h
      · refine x_aload_n C dX5_readOthers_54 55 rfl 2 rfl ?_
        refine x_iconst C dX5_readOthers_55 56 rfl 1 rfl ?_
        refine x_aload_n C dX5_readOthers_56 57 rfl 2 rfl ?_
        refine x_get C inX9 2 lc2 EC_2 rfl 3 (by decide) dX5_readOthers_57 60 rfl wmf_X5_83 rfl ?_
        obtain ⟨r60, a60, hq, h⟩ := xb_some h
        refine x_callVi C 2 (c_X9_refuse C.2.2.2.2.2.2.1 hq) lc2 EC_2 rfl wml_X5_89 wq_X9_refuse rfl ⟨by decide, by decide⟩ rfl rfl ⟨by decide, by decide⟩ dX5_readOthers_60 63 rfl rfl (Nat.le_of_ble_eq_true rfl) ?_
        exact x_zretB C rfl dX5_readOthers_63 h
theorem c_X5_readOthers_reading {l : Launch} {D : va_G} {ca : Nat → ClassId} {ad : Nat → Nat} (hI : xInj ad NCC) {N : Nat} {ah : AH} {p2 : Int32} {r : Int32} {a : AH} (h : F_X5_readOthers N 31 ah p2 = some (r, a)) : xMi l yX5_readOthers cX5_readOthers 6 (some .boolean) rm_X5_readOthers D vwCl (tysC ca) (EC ad ca) NCC ad [.ref (ad 31), .ref (ad 2), .int p2] ah (r, a) := by
  refine x_meti (by decide) (Nat.le_of_ble_eq_true rfl) hI EC_loc ?_
  intro p e s m args below meth c C
  unfold F_X5_readOthers at h
  refine x_aload_n C dX5_readOthers_0 1 rfl 1 rfl ?_
  refine x_dup C dX5_readOthers_1 2 rfl rfl ?_
  refine x_get C inX9 2 lc2 EC_2 rfl 3 (by decide) dX5_readOthers_2 5 rfl wmf_X5_83 rfl ?_
  refine x_iconst C dX5_readOthers_5 6 rfl 1 rfl ?_
  refine x_iadd C dX5_readOthers_6 7 rfl ?_
  refine x_put C inX9 2 lc2 EC_2 rfl 3 (by decide) tyX9_ok nmX9 dX5_readOthers_7 10 rfl wmf_X5_83 rfl rfl rfl (Nat.le_of_ble_eq_true rfl) EP_2_3 h (fun a7 h => ?_)
  refine x_aload_n C dX5_readOthers_10 11 rfl 1 rfl ?_
  refine x_iconst C dX5_readOthers_11 12 rfl 0 rfl ?_
  obtain ⟨r12, a12, hq, h⟩ := xb_some h
  refine x_callVi C 2 (c_X9_peek C.2.2.2.2.2.2.1 hq) lc2 EC_2 rfl wml_X5_75 wq_X9_peek rfl ⟨by decide, by decide⟩ rfl rfl ⟨by decide, by decide⟩ dX5_readOthers_12 15 rfl rfl (Nat.le_of_ble_eq_true rfl) ?_
  refine x_bipush C dX5_readOthers_15 17 rfl 93 rfl ?_
  refine x_icmp_ne C dX5_readOthers_17 20 rfl 32 rfl h (fun h => ?_) (fun h => ?_)
  · refine x_iconst C dX5_readOthers_32 33 rfl 0 rfl ?_
    refine x_istore_n C dX5_readOthers_33 34 rfl (by decide) (fun v3_33 => [(3, .int v3_33), (0, .ref (ad 31)), (1, .ref (ad 2)), (2, .int p2)]) (fun _ => rfl) h (fun v3_33 h => ?_)
    exact x_sub [1, 2, 3, 0] rfl (b_X5_readOthers_34_reading C  N h)
  · refine x_aload_n C dX5_readOthers_20 21 rfl 1 rfl ?_
    refine x_dup C dX5_readOthers_21 22 rfl rfl ?_
    refine x_get C inX9 2 lc2 EC_2 rfl 3 (by decide) dX5_readOthers_22 25 rfl wmf_X5_83 rfl ?_
    refine x_iconst C dX5_readOthers_25 26 rfl 1 rfl ?_
    refine x_iadd C dX5_readOthers_26 27 rfl ?_
    refine x_put C inX9 2 lc2 EC_2 rfl 3 (by decide) tyX9_ok nmX9 dX5_readOthers_27 30 rfl wmf_X5_83 rfl rfl rfl (Nat.le_of_ble_eq_true rfl) EP_2_3 h (fun a27 h => ?_)
    refine x_iconst C dX5_readOthers_30 31 rfl 1 rfl ?_
    exact x_zret C rfl dX5_readOthers_31 (by decide) h
abbrev rm_X5_readCell : Room := { frames := 3, cells := 0, slots := 0, locals := 70 }
theorem wq_X5_readCell : xcV RX5 yX5_readCell cX5_readCell 4 (some .boolean) 2 := ⟨wmi_X5_readCell, wms_X5_readCell, wmn_X5, wmc_X5_readCell, by decide, by decide, by decide +kernel⟩
def F_X5_readCell_116 (N : Nat) (k : Nat) (ah : AH) : Option (Int32 × AH) := some (1, ah)
def F_X5_readCell_90 (N : Nat) (k : Nat) (ah : AH) (v2 : Int32) (v3 : Int32) : Option (Int32 × AH) := xb (F_X11_isLetter N ah v2) (fun r91 a91 => if r91 = 0 then F_X5_readCell_116 N k a91 else xb (F_X9_peek N a91 0) (fun r99 a99 => if r99 = 91 then xb (F_X5_readOthers N k a99 v3) (fun r110 a110 => if r110 = 0 then some (0, a110) else F_X5_readCell_116 N k a110) else F_X5_readCell_116 N k a99))
def F_X5_readCell (N : Nat) (k : Nat) (ah : AH) (p2 : Int32) : Option (Int32 × AH) := xlet (ah k 2) (fun v3_4 => if v3_4 < 400 then xlet (xu ah k 2 ((ah k 2) + 1)) (fun a21 => xlet (xu a21 2 3 ((a21 2 3) + 1)) (fun a31 => xg v3_4 400 (xlet (xu a31 (k + 5) (Int32.toNatClampNeg v3_4) p2) (fun a40 => xg v3_4 400 (xlet (xu a40 (k + 6) (Int32.toNatClampNeg v3_4) 0) (fun a47 => if p2 = 45 then xb (F_X5_isBreak N k a47) (fun r56 a56 => if r56 = 0 then F_X5_readCell_90 N k a56 p2 v3_4 else xg v3_4 400 (xlet (xu a56 (k + 5) (Int32.toNatClampNeg v3_4) 10) (fun a69 => xlet (xu a69 k 1 ((a69 k 1) + 1)) (fun a77 => xlet (xu a77 2 3 ((a77 2 3) + 1)) (fun a87 => F_X5_readCell_90 N k a87 p2 v3_4))))) else F_X5_readCell_90 N k a47 p2 v3_4)))))) else some (0, ah))
theorem b_X5_readCell_116_reading (C : XC p l s m args meth c cX5_readCell 4 (some .boolean) RX5 D vwCl (tysC ca) (EC ad ca) NCC ad) {N : Nat} {o : (Int32 × AH)} {ah : AH} (h : F_X5_readCell_116 N 31 ah = some o) : XW p l e rm_X5_readCell s m args below meth c 4 0 (xQi below args s D vwCl (tysC ca) (EC ad ca) NCC ad o) D vwCl (EC ad ca) NCC ad ah 116 [] [] := by
  unfold F_X5_readCell_116 at h
  refine x_iconst C dX5_readCell_116 117 rfl 1 rfl ?_
  refine x_goto C dX5_readCell_117 121 rfl ?_
  exact x_zret C rfl dX5_readCell_121 (by decide) h
theorem b_X5_readCell_90_reading (C : XC p l s m args meth c cX5_readCell 4 (some .boolean) RX5 D vwCl (tysC ca) (EC ad ca) NCC ad) {N : Nat} {o : (Int32 × AH)} {ah : AH} {v2 : Int32} {v3 : Int32} (h : F_X5_readCell_90 N 31 ah v2 v3 = some o) : XW p l e rm_X5_readCell s m args below meth c 4 0 (xQi below args s D vwCl (tysC ca) (EC ad ca) NCC ad o) D vwCl (EC ad ca) NCC ad ah 90 [(0, .ref (ad 31)), (1, .ref (ad 2)), (2, .int v2), (3, .int v3)] [] := by
  unfold F_X5_readCell_90 at h
  refine x_iload_n C dX5_readCell_90 91 rfl 2 rfl ?_
  obtain ⟨r91, a91, hq, h⟩ := xb_some h
  refine x_callNi C (c_X11_isLetter C.2.2.2.2.2.2.1 hq) xn_X5_97 wq_X11_isLetter rfl ⟨by decide, by decide⟩ rfl rfl ⟨by decide, by decide⟩ dX5_readCell_91 94 rfl rfl (Nat.le_of_ble_eq_true rfl) ?_
  refine x_if_eq C dX5_readCell_94 97 rfl 116 rfl h (fun h => ?_) (fun h => ?_)
  · exact x_sub [] rfl (b_X5_readCell_116_reading C  h)
  · refine x_aload_n C dX5_readCell_97 98 rfl 1 rfl ?_
    refine x_iconst C dX5_readCell_98 99 rfl 0 rfl ?_
    obtain ⟨r99, a99, hq, h⟩ := xb_some h
    refine x_callVi C 2 (c_X9_peek C.2.2.2.2.2.2.1 hq) lc2 EC_2 rfl wml_X5_75 wq_X9_peek rfl ⟨by decide, by decide⟩ rfl rfl ⟨by decide, by decide⟩ dX5_readCell_99 102 rfl rfl (Nat.le_of_ble_eq_true rfl) ?_
    refine x_bipush C dX5_readCell_102 104 rfl 91 rfl ?_
    refine x_icmp_ne C dX5_readCell_104 107 rfl 116 rfl h (fun h => ?_) (fun h => ?_)
    · exact x_sub [] rfl (b_X5_readCell_116_reading C  h)
    · refine x_aload_n C dX5_readCell_107 108 rfl 0 rfl ?_
      refine x_aload_n C dX5_readCell_108 109 rfl 1 rfl ?_
      refine x_iload_n C dX5_readCell_109 110 rfl 3 rfl ?_
      obtain ⟨r110, a110, hq, h⟩ := xb_some h
      refine x_callVi C 31 (c_X5_readOthers_reading C.2.2.2.2.2.2.1 hq) lc31 EC_31 rfl wml_X5_103 wq_X5_readOthers rfl ⟨by decide, by decide⟩ rfl rfl ⟨by decide, by decide⟩ dX5_readCell_110 113 rfl rfl (Nat.le_of_ble_eq_true rfl) ?_
      refine x_if_eq C dX5_readCell_113 116 rfl 120 rfl h (fun h => ?_) (fun h => ?_)
      · refine x_iconst C dX5_readCell_120 121 rfl 0 rfl ?_
        exact x_zret C rfl dX5_readCell_121 (by decide) h
      · exact x_sub [] rfl (b_X5_readCell_116_reading C  h)
theorem c_X5_readCell_reading {l : Launch} {D : va_G} {ca : Nat → ClassId} {ad : Nat → Nat} (hI : xInj ad NCC) {N : Nat} {ah : AH} {p2 : Int32} {r : Int32} {a : AH} (h : F_X5_readCell N 31 ah p2 = some (r, a)) : xMi l yX5_readCell cX5_readCell 4 (some .boolean) rm_X5_readCell D vwCl (tysC ca) (EC ad ca) NCC ad [.ref (ad 31), .ref (ad 2), .int p2] ah (r, a) := by
  refine x_meti (by decide) (Nat.le_of_ble_eq_true rfl) hI EC_loc ?_
  intro p e s m args below meth c C
  unfold F_X5_readCell at h
  refine x_aload_n C dX5_readCell_0 1 rfl 0 rfl ?_
  refine x_get C inX5 31 lc31 EC_31 rfl 2 (by decide) dX5_readCell_1 4 rfl wmf_X5_55 rfl ?_
  refine x_istore_n C dX5_readCell_4 5 rfl (by decide) (fun v3_4 => [(3, .int v3_4), (0, .ref (ad 31)), (1, .ref (ad 2)), (2, .int p2)]) (fun _ => rfl) h (fun v3_4 h => ?_)
  refine x_iload_n C dX5_readCell_5 6 rfl 0 rfl ?_
  refine x_sipush C dX5_readCell_6 9 rfl 400 rfl ?_
  refine x_icmp_lt C dX5_readCell_9 12 rfl 14 rfl h (fun h => ?_) (fun h => ?_)
  · refine x_aload_n C dX5_readCell_14 15 rfl 1 rfl ?_
    refine x_dup C dX5_readCell_15 16 rfl rfl ?_
    refine x_get C inX5 31 lc31 EC_31 rfl 2 (by decide) dX5_readCell_16 19 rfl wmf_X5_55 rfl ?_
    refine x_iconst C dX5_readCell_19 20 rfl 1 rfl ?_
    refine x_iadd C dX5_readCell_20 21 rfl ?_
    refine x_put C inX5 31 lc31 EC_31 rfl 2 (by decide) tyX5_ok nmX5 dX5_readCell_21 24 rfl wmf_X5_55 rfl rfl rfl (Nat.le_of_ble_eq_true rfl) EP_31_2 h (fun a21 h => ?_)
    refine x_aload_n C dX5_readCell_24 25 rfl 2 rfl ?_
    refine x_dup C dX5_readCell_25 26 rfl rfl ?_
    refine x_get C inX9 2 lc2 EC_2 rfl 3 (by decide) dX5_readCell_26 29 rfl wmf_X5_83 rfl ?_
    refine x_iconst C dX5_readCell_29 30 rfl 1 rfl ?_
    refine x_iadd C dX5_readCell_30 31 rfl ?_
    refine x_put C inX9 2 lc2 EC_2 rfl 3 (by decide) tyX9_ok nmX9 dX5_readCell_31 34 rfl wmf_X5_83 rfl rfl rfl (Nat.le_of_ble_eq_true rfl) EP_2_3 h (fun a31 h => ?_)
    refine x_aload_n C dX5_readCell_34 35 rfl 1 rfl ?_
    refine x_get C inX5 31 lc31 EC_31 rfl 7 (by decide) dX5_readCell_35 38 rfl wmf_X5_25 rfl ?_
    refine x_iload_n C dX5_readCell_38 39 rfl 0 rfl ?_
    refine x_iload_n C dX5_readCell_39 40 rfl 3 rfl ?_
    refine x_iast C 36 lc36 (fun _ => EC_36) 0 rfl dX5_readCell_40 41 rfl h (fun a40 h => ?_)
    refine x_aload_n C dX5_readCell_41 42 rfl 1 rfl ?_
    refine x_get C inX5 31 lc31 EC_31 rfl 8 (by decide) dX5_readCell_42 45 rfl wmf_X5_28 rfl ?_
    refine x_iload_n C dX5_readCell_45 46 rfl 0 rfl ?_
    refine x_iconst C dX5_readCell_46 47 rfl 0 rfl ?_
    refine x_iast C 37 lc37 (fun _ => EC_37) 0 rfl dX5_readCell_47 48 rfl h (fun a47 h => ?_)
    refine x_iload_n C dX5_readCell_48 49 rfl 3 rfl ?_
    refine x_bipush C dX5_readCell_49 51 rfl 45 rfl ?_
    refine x_icmp_ne C dX5_readCell_51 54 rfl 90 rfl h (fun h => ?_) (fun h => ?_)
    · exact x_sub [1, 2, 3, 0] rfl (b_X5_readCell_90_reading C  h)
    · refine x_aload_n C dX5_readCell_54 55 rfl 1 rfl ?_
      refine x_aload_n C dX5_readCell_55 56 rfl 2 rfl ?_
      obtain ⟨r56, a56, hq, h⟩ := xb_some h
      refine x_callVi C 31 (c_X5_isBreak_reading C.2.2.2.2.2.2.1 hq) lc31 EC_31 rfl wml_X5_100 wq_X5_isBreak rfl ⟨by decide, by decide⟩ rfl rfl ⟨by decide, by decide⟩ dX5_readCell_56 59 rfl rfl (Nat.le_of_ble_eq_true rfl) ?_
      refine x_if_eq C dX5_readCell_59 62 rfl 90 rfl h (fun h => ?_) (fun h => ?_)
      · exact x_sub [1, 2, 3, 0] rfl (b_X5_readCell_90_reading C  h)
      · refine x_aload_n C dX5_readCell_62 63 rfl 1 rfl ?_
        refine x_get C inX5 31 lc31 EC_31 rfl 7 (by decide) dX5_readCell_63 66 rfl wmf_X5_25 rfl ?_
        refine x_iload_n C dX5_readCell_66 67 rfl 0 rfl ?_
        refine x_bipush C dX5_readCell_67 69 rfl 10 rfl ?_
        refine x_iast C 36 lc36 (fun _ => EC_36) 0 rfl dX5_readCell_69 70 rfl h (fun a69 h => ?_)
        refine x_aload_n C dX5_readCell_70 71 rfl 1 rfl ?_
        refine x_dup C dX5_readCell_71 72 rfl rfl ?_
        refine x_get C inX5 31 lc31 EC_31 rfl 1 (by decide) dX5_readCell_72 75 rfl wmf_X5_58 rfl ?_
        refine x_iconst C dX5_readCell_75 76 rfl 1 rfl ?_
        refine x_iadd C dX5_readCell_76 77 rfl ?_
        refine x_put C inX5 31 lc31 EC_31 rfl 1 (by decide) tyX5_ok nmX5 dX5_readCell_77 80 rfl wmf_X5_58 rfl rfl rfl (Nat.le_of_ble_eq_true rfl) EP_31_1 h (fun a77 h => ?_)
        refine x_aload_n C dX5_readCell_80 81 rfl 2 rfl ?_
        refine x_dup C dX5_readCell_81 82 rfl rfl ?_
        refine x_get C inX9 2 lc2 EC_2 rfl 3 (by decide) dX5_readCell_82 85 rfl wmf_X5_83 rfl ?_
        refine x_iconst C dX5_readCell_85 86 rfl 1 rfl ?_
        refine x_iadd C dX5_readCell_86 87 rfl ?_
        refine x_put C inX9 2 lc2 EC_2 rfl 3 (by decide) tyX9_ok nmX9 dX5_readCell_87 90 rfl wmf_X5_83 rfl rfl rfl (Nat.le_of_ble_eq_true rfl) EP_2_3 h (fun a87 h => ?_)
        exact x_sub [1, 2, 3, 0] rfl (b_X5_readCell_90_reading C  h)
  · refine x_iconst C dX5_readCell_12 13 rfl 0 rfl ?_
    exact x_zret C rfl dX5_readCell_13 (by decide) h
abbrev rm_X5_readToken : Room := { frames := 4, cells := 0, slots := 0, locals := 93 }
theorem wq_X5_readToken : xcV RX5 yX5_readToken cX5_readToken 4 (some .boolean) 1 := ⟨wmi_X5_readToken, wms_X5_readToken, wmn_X5, wmc_X5_readToken, by decide, by decide, by decide +kernel⟩
def F_X5_readToken_106 (N : Nat) (k : Nat) (k81 : AH → Int32 → Option (Int32 × AH)) (ah : AH) : Option (Int32 × AH) := xg (ah k 0) 41 (xlet (xu ah (k + 1) (Int32.toNatClampNeg (ah k 0)) (ah k 2)) (fun a118 => some (1, a118)))
def F_X5_readToken_81 (N : Nat) (k : Nat) : Nat → AH → Int32 → Option (Int32 × AH)
  | 0, _, _ => none
  | n + 1, ah, v2 => if 24 < v2 then some (0, ah) else xb (F_X9_peek N ah 0) (fun r89 a89 => xlet r89 (fun v3_92 => if v3_92 = ((-1)) then F_X5_readToken_106 N k (F_X5_readToken_81 N k n) a89 else xb (F_X5_isGap N k a89 v3_92) (fun r100 a100 => if r100 = 0 then xb (F_X5_beginsCell N k a100 v3_92) (fun r123 a123 => if r123 = 0 then xb (F_X9_refuse N a123 1 (a123 2 3)) (fun r135 a135 => xbo r135 (some (r135, a135))) else if v2 = 24 then xb (F_X9_refuse N a123 3 (a123 2 3)) (fun r151 a151 => xbo r151 (some (r151, a151))) else xb (F_X5_readCell N k a123 v3_92) (fun r158 a158 => if r158 = 0 then some (0, a158) else xlet (v2 + 1) (fun v2_166 => F_X5_readToken_81 N k n a158 v2_166))) else F_X5_readToken_106 N k (F_X5_readToken_81 N k n) a100)))
def F_X5_readToken (N : Nat) (k : Nat) (ah : AH) : Option (Int32 × AH) := xb (F_X9_peek N ah 0) (fun r3 a3 => xb (F_X5_beginsCell N k a3 r3) (fun r6 a6 => if r6 = 0 then xb (F_X9_refuse N a6 1 (a6 2 3)) (fun r18 a18 => xbo r18 (some (r18, a18))) else if (a6 k 0) < 40 then xg (a6 k 0) 41 (xlet (xu a6 (k + 1) (Int32.toNatClampNeg (a6 k 0)) (a6 k 2)) (fun a53 => xg (a53 k 0) 40 (xlet (xu a53 (k + 2) (Int32.toNatClampNeg (a53 k 0)) ((a53 k 1) - 1)) (fun a68 => xlet (xu a68 k 0 ((a68 k 0) + 1)) (fun a76 => xlet 0 (fun v2_80 => F_X5_readToken_81 N k N a76 v2_80)))))) else xb (F_X9_refuse N a6 3 (a6 2 3)) (fun r37 a37 => xbo r37 (some (r37, a37)))))
theorem b_X5_readToken_106_reading (C : XC p l s m args meth c cX5_readToken 4 (some .boolean) RX5 D vwCl (tysC ca) (EC ad ca) NCC ad) {N : Nat} {o : (Int32 × AH)} {k81 : AH → Int32 → Option (Int32 × AH)} (hk81 : ∀ (ah : AH) (v2 : Int32), k81 ah v2 = some o → XW p l e rm_X5_readToken s m args below meth c 4 0 (xQi below args s D vwCl (tysC ca) (EC ad ca) NCC ad o) D vwCl (EC ad ca) NCC ad ah 81 [(0, .ref (ad 31)), (1, .ref (ad 2)), (2, .int v2)] []) {ah : AH} (h : F_X5_readToken_106 N 31 k81 ah = some o) : XW p l e rm_X5_readToken s m args below meth c 4 0 (xQi below args s D vwCl (tysC ca) (EC ad ca) NCC ad o) D vwCl (EC ad ca) NCC ad ah 106 [(0, .ref (ad 31))] [] := by
  unfold F_X5_readToken_106 at h
  refine x_aload_n C dX5_readToken_106 107 rfl 0 rfl ?_
  refine x_get C inX5 31 lc31 EC_31 rfl 3 (by decide) dX5_readToken_107 110 rfl wmf_X5_9 rfl ?_
  refine x_aload_n C dX5_readToken_110 111 rfl 0 rfl ?_
  refine x_get C inX5 31 lc31 EC_31 rfl 0 (by decide) dX5_readToken_111 114 rfl wmf_X5_51 rfl ?_
  refine x_aload_n C dX5_readToken_114 115 rfl 0 rfl ?_
  refine x_get C inX5 31 lc31 EC_31 rfl 2 (by decide) dX5_readToken_115 118 rfl wmf_X5_55 rfl ?_
  refine x_iast C 32 lc32 (fun _ => EC_32) 0 rfl dX5_readToken_118 119 rfl h (fun a118 h => ?_)
  refine x_iconst C dX5_readToken_119 120 rfl 1 rfl ?_
  exact x_zret C rfl dX5_readToken_120 (by decide) h
theorem b_X5_readToken_81_reading (C : XC p l s m args meth c cX5_readToken 4 (some .boolean) RX5 D vwCl (tysC ca) (EC ad ca) NCC ad) {N : Nat} {o : (Int32 × AH)} : ∀ (n : Nat) {ah : AH} {v2 : Int32}, F_X5_readToken_81 N 31 n ah v2 = some o → XW p l e rm_X5_readToken s m args below meth c 4 0 (xQi below args s D vwCl (tysC ca) (EC ad ca) NCC ad o) D vwCl (EC ad ca) NCC ad ah 81 [(0, .ref (ad 31)), (1, .ref (ad 2)), (2, .int v2)] [] := by
  intro n
  induction n with
  | zero => intro ah v2 h; unfold F_X5_readToken_81 at h; cases h
  | succ n ih =>
    intro ah v2 h
    unfold F_X5_readToken_81 at h
    refine x_iload_n C dX5_readToken_81 82 rfl 2 rfl ?_
    refine x_bipush C dX5_readToken_82 84 rfl 24 rfl ?_
    refine x_icmp_gt C dX5_readToken_84 87 rfl 172 rfl h (fun h => ?_) (fun h => ?_)
    · refine x_iconst C dX5_readToken_172 173 rfl 0 rfl ?_
      exact x_zret C rfl dX5_readToken_173 (by decide) h
    · refine x_aload_n C dX5_readToken_87 88 rfl 1 rfl ?_
      refine x_iconst C dX5_readToken_88 89 rfl 0 rfl ?_
      obtain ⟨r89, a89, hq, h⟩ := xb_some h
      refine x_callVi C 2 (c_X9_peek C.2.2.2.2.2.2.1 hq) lc2 EC_2 rfl wml_X5_75 wq_X9_peek rfl ⟨by decide, by decide⟩ rfl rfl ⟨by decide, by decide⟩ dX5_readToken_89 92 rfl rfl (Nat.le_of_ble_eq_true rfl) ?_
      refine x_istore_n C dX5_readToken_92 93 rfl (by decide) (fun v3_92 => [(3, .int v3_92), (0, .ref (ad 31)), (1, .ref (ad 2)), (2, .int v2)]) (fun _ => rfl) h (fun v3_92 h => ?_)
      refine x_iload_n C dX5_readToken_93 94 rfl 0 rfl ?_
      refine x_iconst C dX5_readToken_94 95 rfl (-1) rfl ?_
      refine x_icmp_eq C dX5_readToken_95 98 rfl 106 rfl h (fun h => ?_) (fun h => ?_)
      · exact x_sub [1] rfl (b_X5_readToken_106_reading C (fun _ _ h => ih h) h)
      · refine x_aload_n C dX5_readToken_98 99 rfl 1 rfl ?_
        refine x_iload_n C dX5_readToken_99 100 rfl 0 rfl ?_
        obtain ⟨r100, a100, hq, h⟩ := xb_some h
        refine x_callVi C 31 (c_X5_isGap_reading C.2.2.2.2.2.2.1 hq) lc31 EC_31 rfl wml_X5_79 wq_X5_isGap rfl ⟨by decide, by decide⟩ rfl rfl ⟨by decide, by decide⟩ dX5_readToken_100 103 rfl rfl (Nat.le_of_ble_eq_true rfl) ?_
        refine x_if_eq C dX5_readToken_103 106 rfl 121 rfl h (fun h => ?_) (fun h => ?_)
        · refine x_aload_n C dX5_readToken_121 122 rfl 1 rfl ?_
          refine x_iload_n C dX5_readToken_122 123 rfl 0 rfl ?_
          obtain ⟨r123, a123, hq, h⟩ := xb_some h
          refine x_callVi C 31 (c_X5_beginsCell_reading C.2.2.2.2.2.2.1 hq) lc31 EC_31 rfl wml_X5_86 wq_X5_beginsCell rfl ⟨by decide, by decide⟩ rfl rfl ⟨by decide, by decide⟩ dX5_readToken_123 126 rfl rfl (Nat.le_of_ble_eq_true rfl) ?_
          refine x_if_ne C dX5_readToken_126 129 rfl 139 rfl h (fun h => ?_) (fun h => ?_)
          · refine x_iload_n C dX5_readToken_139 140 rfl 3 rfl ?_
            refine x_bipush C dX5_readToken_140 142 rfl 24 rfl ?_
            refine x_icmp_ne C dX5_readToken_142 145 rfl 155 rfl h (fun h => ?_) (fun h => ?_)
            · refine x_aload_n C dX5_readToken_155 156 rfl 1 rfl ?_
              refine x_aload_n C dX5_readToken_156 157 rfl 2 rfl ?_
              refine x_iload_n C dX5_readToken_157 158 rfl 0 rfl ?_
              obtain ⟨r158, a158, hq, h⟩ := xb_some h
              refine x_callVi C 31 (c_X5_readCell_reading C.2.2.2.2.2.2.1 hq) lc31 EC_31 rfl wml_X5_93 wq_X5_readCell rfl ⟨by decide, by decide⟩ rfl rfl ⟨by decide, by decide⟩ dX5_readToken_158 161 rfl rfl (Nat.le_of_ble_eq_true rfl) ?_
              refine x_if_ne C dX5_readToken_161 164 rfl 166 rfl h (fun h => ?_) (fun h => ?_)
              · refine x_iinc C dX5_readToken_166 169 rfl 3 rfl (d := 1) rfl (by decide) (fun v2_166 => [(2, .int v2_166), (3, .int v3_92), (0, .ref (ad 31)), (1, .ref (ad 2))]) (fun _ => rfl) h (fun v2_166 h => ?_)
                refine x_goto C dX5_readToken_169 81 rfl ?_
                exact x_sub [2, 3, 0] rfl (ih h)
              · refine x_iconst C dX5_readToken_164 165 rfl 0 rfl ?_
                exact x_zret C rfl dX5_readToken_165 (by decide) h
            · refine x_aload_n C dX5_readToken_145 146 rfl 2 rfl ?_
              refine x_iconst C dX5_readToken_146 147 rfl 3 rfl ?_
              refine x_aload_n C dX5_readToken_147 148 rfl 2 rfl ?_
              refine x_get C inX9 2 lc2 EC_2 rfl 3 (by decide) dX5_readToken_148 151 rfl wmf_X5_83 rfl ?_
              obtain ⟨r151, a151, hq, h⟩ := xb_some h
              refine x_callVi C 2 (c_X9_refuse C.2.2.2.2.2.2.1 hq) lc2 EC_2 rfl wml_X5_89 wq_X9_refuse rfl ⟨by decide, by decide⟩ rfl rfl ⟨by decide, by decide⟩ dX5_readToken_151 154 rfl rfl (Nat.le_of_ble_eq_true rfl) ?_
              exact x_zretB C rfl dX5_readToken_154 h
          · refine x_aload_n C dX5_readToken_129 130 rfl 2 rfl ?_
            refine x_iconst C dX5_readToken_130 131 rfl 1 rfl ?_
            refine x_aload_n C dX5_readToken_131 132 rfl 2 rfl ?_
            refine x_get C inX9 2 lc2 EC_2 rfl 3 (by decide) dX5_readToken_132 135 rfl wmf_X5_83 rfl ?_
            obtain ⟨r135, a135, hq, h⟩ := xb_some h
            refine x_callVi C 2 (c_X9_refuse C.2.2.2.2.2.2.1 hq) lc2 EC_2 rfl wml_X5_89 wq_X9_refuse rfl ⟨by decide, by decide⟩ rfl rfl ⟨by decide, by decide⟩ dX5_readToken_135 138 rfl rfl (Nat.le_of_ble_eq_true rfl) ?_
            exact x_zretB C rfl dX5_readToken_138 h
        · exact x_sub [1] rfl (b_X5_readToken_106_reading C (fun _ _ h => ih h) h)
theorem c_X5_readToken_reading {l : Launch} {D : va_G} {ca : Nat → ClassId} {ad : Nat → Nat} (hI : xInj ad NCC) {N : Nat} {ah : AH} {r : Int32} {a : AH} (h : F_X5_readToken N 31 ah = some (r, a)) : xMi l yX5_readToken cX5_readToken 4 (some .boolean) rm_X5_readToken D vwCl (tysC ca) (EC ad ca) NCC ad [.ref (ad 31), .ref (ad 2)] ah (r, a) := by
  refine x_meti (by decide) (Nat.le_of_ble_eq_true rfl) hI EC_loc ?_
  intro p e s m args below meth c C
  unfold F_X5_readToken at h
  refine x_aload_n C dX5_readToken_0 1 rfl 0 rfl ?_
  refine x_aload_n C dX5_readToken_1 2 rfl 1 rfl ?_
  refine x_iconst C dX5_readToken_2 3 rfl 0 rfl ?_
  obtain ⟨r3, a3, hq, h⟩ := xb_some h
  refine x_callVi C 2 (c_X9_peek C.2.2.2.2.2.2.1 hq) lc2 EC_2 rfl wml_X5_75 wq_X9_peek rfl ⟨by decide, by decide⟩ rfl rfl ⟨by decide, by decide⟩ dX5_readToken_3 6 rfl rfl (Nat.le_of_ble_eq_true rfl) ?_
  obtain ⟨r6, a6, hq, h⟩ := xb_some h
  refine x_callVi C 31 (c_X5_beginsCell_reading C.2.2.2.2.2.2.1 hq) lc31 EC_31 rfl wml_X5_86 wq_X5_beginsCell rfl ⟨by decide, by decide⟩ rfl rfl ⟨by decide, by decide⟩ dX5_readToken_6 9 rfl rfl (Nat.le_of_ble_eq_true rfl) ?_
  refine x_if_ne C dX5_readToken_9 12 rfl 22 rfl h (fun h => ?_) (fun h => ?_)
  · refine x_aload_n C dX5_readToken_22 23 rfl 0 rfl ?_
    refine x_get C inX5 31 lc31 EC_31 rfl 0 (by decide) dX5_readToken_23 26 rfl wmf_X5_51 rfl ?_
    refine x_bipush C dX5_readToken_26 28 rfl 40 rfl ?_
    refine x_icmp_lt C dX5_readToken_28 31 rfl 41 rfl h (fun h => ?_) (fun h => ?_)
    · refine x_aload_n C dX5_readToken_41 42 rfl 0 rfl ?_
      refine x_get C inX5 31 lc31 EC_31 rfl 3 (by decide) dX5_readToken_42 45 rfl wmf_X5_9 rfl ?_
      refine x_aload_n C dX5_readToken_45 46 rfl 0 rfl ?_
      refine x_get C inX5 31 lc31 EC_31 rfl 0 (by decide) dX5_readToken_46 49 rfl wmf_X5_51 rfl ?_
      refine x_aload_n C dX5_readToken_49 50 rfl 0 rfl ?_
      refine x_get C inX5 31 lc31 EC_31 rfl 2 (by decide) dX5_readToken_50 53 rfl wmf_X5_55 rfl ?_
      refine x_iast C 32 lc32 (fun _ => EC_32) 0 rfl dX5_readToken_53 54 rfl h (fun a53 h => ?_)
      refine x_aload_n C dX5_readToken_54 55 rfl 0 rfl ?_
      refine x_get C inX5 31 lc31 EC_31 rfl 4 (by decide) dX5_readToken_55 58 rfl wmf_X5_15 rfl ?_
      refine x_aload_n C dX5_readToken_58 59 rfl 0 rfl ?_
      refine x_get C inX5 31 lc31 EC_31 rfl 0 (by decide) dX5_readToken_59 62 rfl wmf_X5_51 rfl ?_
      refine x_aload_n C dX5_readToken_62 63 rfl 0 rfl ?_
      refine x_get C inX5 31 lc31 EC_31 rfl 1 (by decide) dX5_readToken_63 66 rfl wmf_X5_58 rfl ?_
      refine x_iconst C dX5_readToken_66 67 rfl 1 rfl ?_
      refine x_isub C dX5_readToken_67 68 rfl ?_
      refine x_iast C 33 lc33 (fun _ => EC_33) 0 rfl dX5_readToken_68 69 rfl h (fun a68 h => ?_)
      refine x_aload_n C dX5_readToken_69 70 rfl 0 rfl ?_
      refine x_dup C dX5_readToken_70 71 rfl rfl ?_
      refine x_get C inX5 31 lc31 EC_31 rfl 0 (by decide) dX5_readToken_71 74 rfl wmf_X5_51 rfl ?_
      refine x_iconst C dX5_readToken_74 75 rfl 1 rfl ?_
      refine x_iadd C dX5_readToken_75 76 rfl ?_
      refine x_put C inX5 31 lc31 EC_31 rfl 0 (by decide) tyX5_ok nmX5 dX5_readToken_76 79 rfl wmf_X5_51 rfl rfl rfl (Nat.le_of_ble_eq_true rfl) EP_31_0 h (fun a76 h => ?_)
      refine x_iconst C dX5_readToken_79 80 rfl 0 rfl ?_
      refine x_istore_n C dX5_readToken_80 81 rfl (by decide) (fun v2_80 => [(2, .int v2_80), (0, .ref (ad 31)), (1, .ref (ad 2))]) (fun _ => rfl) h (fun v2_80 h => ?_)
      exact x_sub [1, 2, 0] rfl (b_X5_readToken_81_reading C  N h)
    · refine x_aload_n C dX5_readToken_31 32 rfl 1 rfl ?_
      refine x_iconst C dX5_readToken_32 33 rfl 3 rfl ?_
      refine x_aload_n C dX5_readToken_33 34 rfl 1 rfl ?_
      refine x_get C inX9 2 lc2 EC_2 rfl 3 (by decide) dX5_readToken_34 37 rfl wmf_X5_83 rfl ?_
      obtain ⟨r37, a37, hq, h⟩ := xb_some h
      refine x_callVi C 2 (c_X9_refuse C.2.2.2.2.2.2.1 hq) lc2 EC_2 rfl wml_X5_89 wq_X9_refuse rfl ⟨by decide, by decide⟩ rfl rfl ⟨by decide, by decide⟩ dX5_readToken_37 40 rfl rfl (Nat.le_of_ble_eq_true rfl) ?_
      exact x_zretB C rfl dX5_readToken_40 h
  · refine x_aload_n C dX5_readToken_12 13 rfl 1 rfl ?_
    refine x_iconst C dX5_readToken_13 14 rfl 1 rfl ?_
    refine x_aload_n C dX5_readToken_14 15 rfl 1 rfl ?_
    refine x_get C inX9 2 lc2 EC_2 rfl 3 (by decide) dX5_readToken_15 18 rfl wmf_X5_83 rfl ?_
    obtain ⟨r18, a18, hq, h⟩ := xb_some h
    refine x_callVi C 2 (c_X9_refuse C.2.2.2.2.2.2.1 hq) lc2 EC_2 rfl wml_X5_89 wq_X9_refuse rfl ⟨by decide, by decide⟩ rfl rfl ⟨by decide, by decide⟩ dX5_readToken_18 21 rfl rfl (Nat.le_of_ble_eq_true rfl) ?_
    exact x_zretB C rfl dX5_readToken_21 h
abbrev rm_X5_readText : Room := { frames := 5, cells := 0, slots := 0, locals := 116 }
theorem wq_X5_readText : xcV RX5 yX5_readText cX5_readText 3 (some .boolean) 1 := ⟨wmi_X5_readText, wms_X5_readText, wmn_X5, wmc_X5_readText, by decide, by decide, by decide +kernel⟩
def F_X5_readText_17 (N : Nat) (k : Nat) : Nat → AH → Int32 → Option (Int32 × AH)
  | 0, _, _ => none
  | n + 1, ah, v2 => if 40 < v2 then some (0, ah) else xbv (F_X5_readGap N k ah) (fun a25 => xb (F_X9_atEnd N a25) (fun r29 a29 => if r29 = 0 then xb (F_X5_readToken N k a29) (fun r39 a39 => if r39 = 0 then some (0, a39) else xlet (v2 + 1) (fun v2_47 => F_X5_readText_17 N k n a39 v2_47)) else some (1, a29)))
def F_X5_readText (N : Nat) (k : Nat) (ah : AH) : Option (Int32 × AH) := xlet (xu ah k 0 0) (fun a2 => xlet (xu a2 k 2 0) (fun a7 => xlet (xu a7 k 1 1) (fun a12 => xlet 0 (fun v2_16 => F_X5_readText_17 N k N a12 v2_16))))
theorem b_X5_readText_17_reading (C : XC p l s m args meth c cX5_readText 3 (some .boolean) RX5 D vwCl (tysC ca) (EC ad ca) NCC ad) {N : Nat} {o : (Int32 × AH)} : ∀ (n : Nat) {ah : AH} {v2 : Int32}, F_X5_readText_17 N 31 n ah v2 = some o → XW p l e rm_X5_readText s m args below meth c 3 0 (xQi below args s D vwCl (tysC ca) (EC ad ca) NCC ad o) D vwCl (EC ad ca) NCC ad ah 17 [(0, .ref (ad 31)), (1, .ref (ad 2)), (2, .int v2)] [] := by
  intro n
  induction n with
  | zero => intro ah v2 h; unfold F_X5_readText_17 at h; cases h
  | succ n ih =>
    intro ah v2 h
    unfold F_X5_readText_17 at h
    refine x_iload_n C dX5_readText_17 18 rfl 2 rfl ?_
    refine x_bipush C dX5_readText_18 20 rfl 40 rfl ?_
    refine x_icmp_gt C dX5_readText_20 23 rfl 53 rfl h (fun h => ?_) (fun h => ?_)
    · refine x_iconst C dX5_readText_53 54 rfl 0 rfl ?_
      exact x_zret C rfl dX5_readText_54 (by decide) h
    · refine x_aload_n C dX5_readText_23 24 rfl 0 rfl ?_
      refine x_aload_n C dX5_readText_24 25 rfl 1 rfl ?_
      obtain ⟨a25, hq, h⟩ := xbv_some h
      refine x_callVv C 31 (c_X5_readGap_reading C.2.2.2.2.2.2.1 hq) lc31 EC_31 rfl wml_X5_61 wq_X5_readGap rfl ⟨by decide, by decide⟩ rfl rfl ⟨by decide, by decide⟩ dX5_readText_25 28 rfl rfl (Nat.le_of_ble_eq_true rfl) ?_
      refine x_aload_n C dX5_readText_28 29 rfl 1 rfl ?_
      obtain ⟨r29, a29, hq, h⟩ := xb_some h
      refine x_callVi C 2 (c_X9_atEnd C.2.2.2.2.2.2.1 hq) lc2 EC_2 rfl wml_X5_65 wq_X9_atEnd rfl ⟨by decide, by decide⟩ rfl rfl ⟨by decide, by decide⟩ dX5_readText_29 32 rfl rfl (Nat.le_of_ble_eq_true rfl) ?_
      refine x_if_eq C dX5_readText_32 35 rfl 37 rfl h (fun h => ?_) (fun h => ?_)
      · refine x_aload_n C dX5_readText_37 38 rfl 0 rfl ?_
        refine x_aload_n C dX5_readText_38 39 rfl 1 rfl ?_
        obtain ⟨r39, a39, hq, h⟩ := xb_some h
        refine x_callVi C 31 (c_X5_readToken_reading C.2.2.2.2.2.2.1 hq) lc31 EC_31 rfl wml_X5_71 wq_X5_readToken rfl ⟨by decide, by decide⟩ rfl rfl ⟨by decide, by decide⟩ dX5_readText_39 42 rfl rfl (Nat.le_of_ble_eq_true rfl) ?_
        refine x_if_ne C dX5_readText_42 45 rfl 47 rfl h (fun h => ?_) (fun h => ?_)
        · refine x_iinc C dX5_readText_47 50 rfl 2 rfl (d := 1) rfl (by decide) (fun v2_47 => [(2, .int v2_47), (0, .ref (ad 31)), (1, .ref (ad 2))]) (fun _ => rfl) h (fun v2_47 h => ?_)
          refine x_goto C dX5_readText_50 17 rfl ?_
          exact x_sub [1, 2, 0] rfl (ih h)
        · refine x_iconst C dX5_readText_45 46 rfl 0 rfl ?_
          exact x_zret C rfl dX5_readText_46 (by decide) h
      · refine x_iconst C dX5_readText_35 36 rfl 1 rfl ?_
        exact x_zret C rfl dX5_readText_36 (by decide) h
theorem c_X5_readText_reading {l : Launch} {D : va_G} {ca : Nat → ClassId} {ad : Nat → Nat} (hI : xInj ad NCC) {N : Nat} {ah : AH} {r : Int32} {a : AH} (h : F_X5_readText N 31 ah = some (r, a)) : xMi l yX5_readText cX5_readText 3 (some .boolean) rm_X5_readText D vwCl (tysC ca) (EC ad ca) NCC ad [.ref (ad 31), .ref (ad 2)] ah (r, a) := by
  refine x_meti (by decide) (Nat.le_of_ble_eq_true rfl) hI EC_loc ?_
  intro p e s m args below meth c C
  unfold F_X5_readText at h
  refine x_aload_n C dX5_readText_0 1 rfl 0 rfl ?_
  refine x_iconst C dX5_readText_1 2 rfl 0 rfl ?_
  refine x_put C inX5 31 lc31 EC_31 rfl 0 (by decide) tyX5_ok nmX5 dX5_readText_2 5 rfl wmf_X5_51 rfl rfl rfl (Nat.le_of_ble_eq_true rfl) EP_31_0 h (fun a2 h => ?_)
  refine x_aload_n C dX5_readText_5 6 rfl 0 rfl ?_
  refine x_iconst C dX5_readText_6 7 rfl 0 rfl ?_
  refine x_put C inX5 31 lc31 EC_31 rfl 2 (by decide) tyX5_ok nmX5 dX5_readText_7 10 rfl wmf_X5_55 rfl rfl rfl (Nat.le_of_ble_eq_true rfl) EP_31_2 h (fun a7 h => ?_)
  refine x_aload_n C dX5_readText_10 11 rfl 0 rfl ?_
  refine x_iconst C dX5_readText_11 12 rfl 1 rfl ?_
  refine x_put C inX5 31 lc31 EC_31 rfl 1 (by decide) tyX5_ok nmX5 dX5_readText_12 15 rfl wmf_X5_58 rfl rfl rfl (Nat.le_of_ble_eq_true rfl) EP_31_1 h (fun a12 h => ?_)
  refine x_iconst C dX5_readText_15 16 rfl 0 rfl ?_
  refine x_istore_n C dX5_readText_16 17 rfl (by decide) (fun v2_16 => [(2, .int v2_16), (0, .ref (ad 31)), (1, .ref (ad 2))]) (fun _ => rfl) h (fun v2_16 h => ?_)
  exact x_sub [1, 2, 0] rfl (b_X5_readText_17_reading C  N h)
theorem b_X5_isGap_12_trialReading (C : XC p l s m args meth c cX5_isGap 2 (some .boolean) RX5 D vwCl (tysC ca) (EC ad ca) NCC ad) {N : Nat} {o : (Int32 × AH)} {ah : AH} (h : F_X5_isGap_12 N 40 ah = some o) : XW p l e rm_X5_isGap s m args below meth c 2 0 (xQi below args s D vwCl (tysC ca) (EC ad ca) NCC ad o) D vwCl (EC ad ca) NCC ad ah 12 [] [] := by
  unfold F_X5_isGap_12 at h
  refine x_iconst C dX5_isGap_12 13 rfl 1 rfl ?_
  refine x_goto C dX5_isGap_13 17 rfl ?_
  exact x_zret C rfl dX5_isGap_17 (by decide) h
theorem c_X5_isGap_trialReading {l : Launch} {D : va_G} {ca : Nat → ClassId} {ad : Nat → Nat} (hI : xInj ad NCC) {N : Nat} {ah : AH} {p1 : Int32} {r : Int32} {a : AH} (h : F_X5_isGap N 40 ah p1 = some (r, a)) : xMi l yX5_isGap cX5_isGap 2 (some .boolean) rm_X5_isGap D vwCl (tysC ca) (EC ad ca) NCC ad [.ref (ad 40), .int p1] ah (r, a) := by
  refine x_meti (by decide) (Nat.le_of_ble_eq_true rfl) hI EC_loc ?_
  intro p e s m args below meth c C
  unfold F_X5_isGap at h
  refine x_iload_n C dX5_isGap_0 1 rfl 1 rfl ?_
  refine x_bipush C dX5_isGap_1 3 rfl 32 rfl ?_
  refine x_icmp_eq C dX5_isGap_3 6 rfl 12 rfl h (fun h => ?_) (fun h => ?_)
  · exact x_sub [] rfl (b_X5_isGap_12_trialReading C  h)
  · refine x_iload_n C dX5_isGap_6 7 rfl 1 rfl ?_
    refine x_bipush C dX5_isGap_7 9 rfl 10 rfl ?_
    refine x_icmp_ne C dX5_isGap_9 12 rfl 16 rfl h (fun h => ?_) (fun h => ?_)
    · refine x_iconst C dX5_isGap_16 17 rfl 0 rfl ?_
      exact x_zret C rfl dX5_isGap_17 (by decide) h
    · exact x_sub [] rfl (b_X5_isGap_12_trialReading C  h)
theorem b_X5_readGap_123_trialReading (C : XC p l s m args meth c cX5_readGap 4 none RX5 D vwCl (tysC ca) (EC ad ca) NCC ad) {N : Nat} {o : AH} {ah : AH} {s1 : Int32} {s2 : Int32} (h : F_X5_readGap_123 N 40 ah s1 s2 = some o) : XW p l e rm_X5_readGap s m args below meth c 4 0 (xQv below args s D vwCl (tysC ca) (EC ad ca) NCC ad o) D vwCl (EC ad ca) NCC ad ah 123 [] [.int s2, .int s1, .ref (ad 43)] := by
  unfold F_X5_readGap_123 at h
  refine x_zast C 43 lc43 (fun _ => EC_43) 1 rfl dX5_readGap_123 124 rfl h (fun a123 h => ?_)
  exact x_vret C rfl dX5_readGap_124 h
theorem b_X5_readGap_122_trialReading (C : XC p l s m args meth c cX5_readGap 4 none RX5 D vwCl (tysC ca) (EC ad ca) NCC ad) {N : Nat} {o : AH} {ah : AH} {s1 : Int32} (h : F_X5_readGap_122 N 40 ah s1 = some o) : XW p l e rm_X5_readGap s m args below meth c 4 0 (xQv below args s D vwCl (tysC ca) (EC ad ca) NCC ad o) D vwCl (EC ad ca) NCC ad ah 122 [] [.int s1, .ref (ad 43)] := by
  unfold F_X5_readGap_122 at h
  refine x_iconst C dX5_readGap_122 123 rfl 0 rfl ?_
  exact b_X5_readGap_123_trialReading C  h
theorem b_X5_readGap_91_trialReading (C : XC p l s m args meth c cX5_readGap 4 none RX5 D vwCl (tysC ca) (EC ad ca) NCC ad) {N : Nat} {o : AH} {ah : AH} {v2 : Int32} {v3 : Int32} {s1 : Int32} {s2 : Int32} (h : F_X5_readGap_91 N 40 ah v2 v3 s1 s2 = some o) : XW p l e rm_X5_readGap s m args below meth c 4 0 (xQv below args s D vwCl (tysC ca) (EC ad ca) NCC ad o) D vwCl (EC ad ca) NCC ad ah 91 [(0, .ref (ad 40)), (1, .ref (ad 2)), (2, .int v2), (3, .int v3)] [.int s2, .int s1, .ref (ad 44)] := by
  unfold F_X5_readGap_91 at h
  refine x_zast C 44 lc44 (fun _ => EC_44) 1 rfl dX5_readGap_91 92 rfl h (fun a91 h => ?_)
  refine x_aload_n C dX5_readGap_92 93 rfl 0 rfl ?_
  refine x_get C inX5 40 lc40 EC_40 rfl 5 (by decide) dX5_readGap_93 96 rfl wmf_X5_18 rfl ?_
  refine x_aload_n C dX5_readGap_96 97 rfl 0 rfl ?_
  refine x_get C inX5 40 lc40 EC_40 rfl 0 (by decide) dX5_readGap_97 100 rfl wmf_X5_51 rfl ?_
  refine x_iconst C dX5_readGap_100 101 rfl 1 rfl ?_
  refine x_isub C dX5_readGap_101 102 rfl ?_
  refine x_iload_n C dX5_readGap_102 103 rfl 2 rfl ?_
  refine x_iconst C dX5_readGap_103 104 rfl 1 rfl ?_
  refine x_icmp_ne C dX5_readGap_104 107 rfl 122 rfl h (fun h => ?_) (fun h => ?_)
  · exact x_sub [] rfl (b_X5_readGap_122_trialReading C  h)
  · refine x_iload_n C dX5_readGap_107 108 rfl 3 rfl ?_
    refine x_if_ne C dX5_readGap_108 111 rfl 122 rfl h (fun h => ?_) (fun h => ?_)
    · exact x_sub [] rfl (b_X5_readGap_122_trialReading C  h)
    · refine x_aload_n C dX5_readGap_111 112 rfl 1 rfl ?_
      obtain ⟨r112, a112, hq, h⟩ := xb_some h
      refine x_callVi C 2 (c_X9_atEnd C.2.2.2.2.2.2.1 hq) lc2 EC_2 rfl wml_X5_65 wq_X9_atEnd rfl ⟨by decide, by decide⟩ rfl rfl ⟨by decide, by decide⟩ dX5_readGap_112 115 rfl rfl (Nat.le_of_ble_eq_true rfl) ?_
      refine x_if_ne C dX5_readGap_115 118 rfl 122 rfl h (fun h => ?_) (fun h => ?_)
      · exact x_sub [] rfl (b_X5_readGap_122_trialReading C  h)
      · refine x_iconst C dX5_readGap_118 119 rfl 1 rfl ?_
        refine x_goto C dX5_readGap_119 123 rfl ?_
        exact x_sub [] rfl (b_X5_readGap_123_trialReading C  h)
theorem b_X5_readGap_55_trialReading (C : XC p l s m args meth c cX5_readGap 4 none RX5 D vwCl (tysC ca) (EC ad ca) NCC ad) {N : Nat} {o : AH} {ah : AH} {v2 : Int32} {v3 : Int32} (h : F_X5_readGap_55 N 40 ah v2 v3 = some o) : XW p l e rm_X5_readGap s m args below meth c 4 0 (xQv below args s D vwCl (tysC ca) (EC ad ca) NCC ad o) D vwCl (EC ad ca) NCC ad ah 55 [(0, .ref (ad 40)), (1, .ref (ad 2)), (2, .int v2), (3, .int v3)] [] := by
  unfold F_X5_readGap_55 at h
  refine x_aload_n C dX5_readGap_55 56 rfl 0 rfl ?_
  refine x_dup C dX5_readGap_56 57 rfl rfl ?_
  refine x_get C inX5 40 lc40 EC_40 rfl 1 (by decide) dX5_readGap_57 60 rfl wmf_X5_58 rfl ?_
  refine x_iload_n C dX5_readGap_60 61 rfl 2 rfl ?_
  refine x_iadd C dX5_readGap_61 62 rfl ?_
  refine x_put C inX5 40 lc40 EC_40 rfl 1 (by decide) tyX5_ok nmX5 dX5_readGap_62 65 rfl wmf_X5_58 rfl rfl rfl (Nat.le_of_ble_eq_true rfl) EP_40_1 h (fun a62 h => ?_)
  refine x_aload_n C dX5_readGap_65 66 rfl 0 rfl ?_
  refine x_get C inX5 40 lc40 EC_40 rfl 0 (by decide) dX5_readGap_66 69 rfl wmf_X5_51 rfl ?_
  refine x_if_le C dX5_readGap_69 72 rfl 124 rfl h (fun h => ?_) (fun h => ?_)
  · exact x_vret C rfl dX5_readGap_124 h
  · refine x_aload_n C dX5_readGap_72 73 rfl 0 rfl ?_
    refine x_get C inX5 40 lc40 EC_40 rfl 6 (by decide) dX5_readGap_73 76 rfl wmf_X5_22 rfl ?_
    refine x_aload_n C dX5_readGap_76 77 rfl 0 rfl ?_
    refine x_get C inX5 40 lc40 EC_40 rfl 0 (by decide) dX5_readGap_77 80 rfl wmf_X5_51 rfl ?_
    refine x_iconst C dX5_readGap_80 81 rfl 1 rfl ?_
    refine x_isub C dX5_readGap_81 82 rfl ?_
    refine x_iload_n C dX5_readGap_82 83 rfl 2 rfl ?_
    refine x_if_le C dX5_readGap_83 86 rfl 90 rfl h (fun h => ?_) (fun h => ?_)
    · refine x_iconst C dX5_readGap_90 91 rfl 0 rfl ?_
      exact b_X5_readGap_91_trialReading C  h
    · refine x_iconst C dX5_readGap_86 87 rfl 1 rfl ?_
      refine x_goto C dX5_readGap_87 91 rfl ?_
      exact b_X5_readGap_91_trialReading C  h
theorem b_X5_readGap_42_trialReading (C : XC p l s m args meth c cX5_readGap 4 none RX5 D vwCl (tysC ca) (EC ad ca) NCC ad) {N : Nat} {o : AH} {k4 : AH → Int32 → Int32 → Option AH} (hk4 : ∀ (ah : AH) (v2 : Int32) (v3 : Int32), k4 ah v2 v3 = some o → XW p l e rm_X5_readGap s m args below meth c 4 0 (xQv below args s D vwCl (tysC ca) (EC ad ca) NCC ad o) D vwCl (EC ad ca) NCC ad ah 4 [(0, .ref (ad 40)), (1, .ref (ad 2)), (2, .int v2), (3, .int v3)] []) {ah : AH} {v2 : Int32} {v3 : Int32} (h : F_X5_readGap_42 N 40 k4 ah v2 v3 = some o) : XW p l e rm_X5_readGap s m args below meth c 4 0 (xQv below args s D vwCl (tysC ca) (EC ad ca) NCC ad o) D vwCl (EC ad ca) NCC ad ah 42 [(0, .ref (ad 40)), (1, .ref (ad 2)), (2, .int v2), (3, .int v3)] [] := by
  unfold F_X5_readGap_42 at h
  refine x_aload_n C dX5_readGap_42 43 rfl 1 rfl ?_
  refine x_dup C dX5_readGap_43 44 rfl rfl ?_
  refine x_get C inX9 2 lc2 EC_2 rfl 3 (by decide) dX5_readGap_44 47 rfl wmf_X5_83 rfl ?_
  refine x_iconst C dX5_readGap_47 48 rfl 1 rfl ?_
  refine x_iadd C dX5_readGap_48 49 rfl ?_
  refine x_put C inX9 2 lc2 EC_2 rfl 3 (by decide) tyX9_ok nmX9 dX5_readGap_49 52 rfl wmf_X5_83 rfl rfl rfl (Nat.le_of_ble_eq_true rfl) EP_2_3 h (fun a49 h => ?_)
  refine x_goto C dX5_readGap_52 4 rfl ?_
  exact hk4 _ _ _ h
theorem b_X5_readGap_4_trialReading (C : XC p l s m args meth c cX5_readGap 4 none RX5 D vwCl (tysC ca) (EC ad ca) NCC ad) {N : Nat} {o : AH} : ∀ (n : Nat) {ah : AH} {v2 : Int32} {v3 : Int32}, F_X5_readGap_4 N 40 n ah v2 v3 = some o → XW p l e rm_X5_readGap s m args below meth c 4 0 (xQv below args s D vwCl (tysC ca) (EC ad ca) NCC ad o) D vwCl (EC ad ca) NCC ad ah 4 [(0, .ref (ad 40)), (1, .ref (ad 2)), (2, .int v2), (3, .int v3)] [] := by
  intro n
  induction n with
  | zero => intro ah v2 v3 h; unfold F_X5_readGap_4 at h; cases h
  | succ n ih =>
    intro ah v2 v3 h
    unfold F_X5_readGap_4 at h
    refine x_aload_n C dX5_readGap_4 5 rfl 1 rfl ?_
    obtain ⟨r5, a5, hq, h⟩ := xb_some h
    refine x_callVi C 2 (c_X9_atEnd C.2.2.2.2.2.2.1 hq) lc2 EC_2 rfl wml_X5_65 wq_X9_atEnd rfl ⟨by decide, by decide⟩ rfl rfl ⟨by decide, by decide⟩ dX5_readGap_5 8 rfl rfl (Nat.le_of_ble_eq_true rfl) ?_
    refine x_if_ne C dX5_readGap_8 11 rfl 55 rfl h (fun h => ?_) (fun h => ?_)
    · exact b_X5_readGap_55_trialReading C  h
    · refine x_aload_n C dX5_readGap_11 12 rfl 0 rfl ?_
      refine x_aload_n C dX5_readGap_12 13 rfl 1 rfl ?_
      refine x_iconst C dX5_readGap_13 14 rfl 0 rfl ?_
      obtain ⟨r14, a14, hq, h⟩ := xb_some h
      refine x_callVi C 2 (c_X9_peek C.2.2.2.2.2.2.1 hq) lc2 EC_2 rfl wml_X5_75 wq_X9_peek rfl ⟨by decide, by decide⟩ rfl rfl ⟨by decide, by decide⟩ dX5_readGap_14 17 rfl rfl (Nat.le_of_ble_eq_true rfl) ?_
      obtain ⟨r17, a17, hq, h⟩ := xb_some h
      refine x_callVi C 40 (c_X5_isGap_trialReading C.2.2.2.2.2.2.1 hq) lc40 EC_40 rfl wml_X5_79 wq_X5_isGap rfl ⟨by decide, by decide⟩ rfl rfl ⟨by decide, by decide⟩ dX5_readGap_17 20 rfl rfl (Nat.le_of_ble_eq_true rfl) ?_
      refine x_if_eq C dX5_readGap_20 23 rfl 55 rfl h (fun h => ?_) (fun h => ?_)
      · exact b_X5_readGap_55_trialReading C  h
      · refine x_aload_n C dX5_readGap_23 24 rfl 1 rfl ?_
        refine x_iconst C dX5_readGap_24 25 rfl 0 rfl ?_
        obtain ⟨r25, a25, hq, h⟩ := xb_some h
        refine x_callVi C 2 (c_X9_peek C.2.2.2.2.2.2.1 hq) lc2 EC_2 rfl wml_X5_75 wq_X9_peek rfl ⟨by decide, by decide⟩ rfl rfl ⟨by decide, by decide⟩ dX5_readGap_25 28 rfl rfl (Nat.le_of_ble_eq_true rfl) ?_
        refine x_bipush C dX5_readGap_28 30 rfl 10 rfl ?_
        refine x_icmp_ne C dX5_readGap_30 33 rfl 39 rfl h (fun h => ?_) (fun h => ?_)
        · refine x_iinc C dX5_readGap_39 42 rfl 3 rfl (d := 1) rfl (by decide) (fun v3_39 => [(3, .int v3_39), (0, .ref (ad 40)), (1, .ref (ad 2)), (2, .int v2)]) (fun _ => rfl) h (fun v3_39 h => ?_)
          exact x_sub [1, 2, 3, 0] rfl (b_X5_readGap_42_trialReading C (fun _ _ _ h => ih h) h)
        · refine x_iinc C dX5_readGap_33 36 rfl 2 rfl (d := 1) rfl (by decide) (fun v2_33 => [(2, .int v2_33), (0, .ref (ad 40)), (1, .ref (ad 2)), (3, .int v3)]) (fun _ => rfl) h (fun v2_33 h => ?_)
          refine x_goto C dX5_readGap_36 42 rfl ?_
          exact x_sub [1, 2, 0, 3] rfl (b_X5_readGap_42_trialReading C (fun _ _ _ h => ih h) h)
theorem c_X5_readGap_trialReading {l : Launch} {D : va_G} {ca : Nat → ClassId} {ad : Nat → Nat} (hI : xInj ad NCC) {N : Nat} {ah : AH} {a : AH} (h : F_X5_readGap N 40 ah = some a) : xMv l yX5_readGap cX5_readGap 4 rm_X5_readGap D vwCl (tysC ca) (EC ad ca) NCC ad [.ref (ad 40), .ref (ad 2)] ah a := by
  refine x_metv (by decide) (Nat.le_of_ble_eq_true rfl) hI EC_loc ?_
  intro p e s m args below meth c C
  unfold F_X5_readGap at h
  refine x_iconst C dX5_readGap_0 1 rfl 0 rfl ?_
  refine x_istore_n C dX5_readGap_1 2 rfl (by decide) (fun v2_1 => [(2, .int v2_1), (0, .ref (ad 40)), (1, .ref (ad 2))]) (fun _ => rfl) h (fun v2_1 h => ?_)
  refine x_iconst C dX5_readGap_2 3 rfl 0 rfl ?_
  refine x_istore_n C dX5_readGap_3 4 rfl (by decide) (fun v3_3 => [(3, .int v3_3), (2, .int v2_1), (0, .ref (ad 40)), (1, .ref (ad 2))]) (fun _ => rfl) h (fun v3_3 h => ?_)
  exact x_sub [2, 3, 1, 0] rfl (b_X5_readGap_4_trialReading C  N h)
theorem b_X5_beginsCell_19_trialReading (C : XC p l s m args meth c cX5_beginsCell 2 (some .boolean) RX5 D vwCl (tysC ca) (EC ad ca) NCC ad) {N : Nat} {o : (Int32 × AH)} {ah : AH} (h : F_X5_beginsCell_19 N 40 ah = some o) : XW p l e rm_X5_beginsCell s m args below meth c 2 0 (xQi below args s D vwCl (tysC ca) (EC ad ca) NCC ad o) D vwCl (EC ad ca) NCC ad ah 19 [] [] := by
  unfold F_X5_beginsCell_19 at h
  refine x_iconst C dX5_beginsCell_19 20 rfl 1 rfl ?_
  refine x_goto C dX5_beginsCell_20 24 rfl ?_
  exact x_zret C rfl dX5_beginsCell_24 (by decide) h
theorem c_X5_beginsCell_trialReading {l : Launch} {D : va_G} {ca : Nat → ClassId} {ad : Nat → Nat} (hI : xInj ad NCC) {N : Nat} {ah : AH} {p1 : Int32} {r : Int32} {a : AH} (h : F_X5_beginsCell N 40 ah p1 = some (r, a)) : xMi l yX5_beginsCell cX5_beginsCell 2 (some .boolean) rm_X5_beginsCell D vwCl (tysC ca) (EC ad ca) NCC ad [.ref (ad 40), .int p1] ah (r, a) := by
  refine x_meti (by decide) (Nat.le_of_ble_eq_true rfl) hI EC_loc ?_
  intro p e s m args below meth c C
  unfold F_X5_beginsCell at h
  refine x_iload_n C dX5_beginsCell_0 1 rfl 1 rfl ?_
  obtain ⟨r1, a1, hq, h⟩ := xb_some h
  refine x_callNi C (c_X11_isLetter C.2.2.2.2.2.2.1 hq) xn_X5_97 wq_X11_isLetter rfl ⟨by decide, by decide⟩ rfl rfl ⟨by decide, by decide⟩ dX5_beginsCell_1 4 rfl rfl (Nat.le_of_ble_eq_true rfl) ?_
  refine x_if_ne C dX5_beginsCell_4 7 rfl 19 rfl h (fun h => ?_) (fun h => ?_)
  · exact x_sub [] rfl (b_X5_beginsCell_19_trialReading C  h)
  · refine x_iload_n C dX5_beginsCell_7 8 rfl 1 rfl ?_
    refine x_bipush C dX5_beginsCell_8 10 rfl 63 rfl ?_
    refine x_icmp_eq C dX5_beginsCell_10 13 rfl 19 rfl h (fun h => ?_) (fun h => ?_)
    · exact x_sub [] rfl (b_X5_beginsCell_19_trialReading C  h)
    · refine x_iload_n C dX5_beginsCell_13 14 rfl 1 rfl ?_
      refine x_bipush C dX5_beginsCell_14 16 rfl 45 rfl ?_
      refine x_icmp_ne C dX5_beginsCell_16 19 rfl 23 rfl h (fun h => ?_) (fun h => ?_)
      · refine x_iconst C dX5_beginsCell_23 24 rfl 0 rfl ?_
        exact x_zret C rfl dX5_beginsCell_24 (by decide) h
      · exact x_sub [] rfl (b_X5_beginsCell_19_trialReading C  h)
theorem b_X5_isBreak_31_trialReading (C : XC p l s m args meth c cX5_isBreak 2 (some .boolean) RX5 D vwCl (tysC ca) (EC ad ca) NCC ad) {N : Nat} {o : (Int32 × AH)} {ah : AH} (h : F_X5_isBreak_31 N 40 ah = some o) : XW p l e rm_X5_isBreak s m args below meth c 2 0 (xQi below args s D vwCl (tysC ca) (EC ad ca) NCC ad o) D vwCl (EC ad ca) NCC ad ah 31 [] [] := by
  unfold F_X5_isBreak_31 at h
  refine x_iconst C dX5_isBreak_31 32 rfl 1 rfl ?_
  refine x_goto C dX5_isBreak_32 36 rfl ?_
  exact x_zret C rfl dX5_isBreak_36 (by decide) h
theorem c_X5_isBreak_trialReading {l : Launch} {D : va_G} {ca : Nat → ClassId} {ad : Nat → Nat} (hI : xInj ad NCC) {N : Nat} {ah : AH} {r : Int32} {a : AH} (h : F_X5_isBreak N 40 ah = some (r, a)) : xMi l yX5_isBreak cX5_isBreak 2 (some .boolean) rm_X5_isBreak D vwCl (tysC ca) (EC ad ca) NCC ad [.ref (ad 40), .ref (ad 2)] ah (r, a) := by
  refine x_meti (by decide) (Nat.le_of_ble_eq_true rfl) hI EC_loc ?_
  intro p e s m args below meth c C
  unfold F_X5_isBreak at h
  refine x_aload_n C dX5_isBreak_0 1 rfl 1 rfl ?_
  refine x_iconst C dX5_isBreak_1 2 rfl 0 rfl ?_
  obtain ⟨r2, a2, hq, h⟩ := xb_some h
  refine x_callVi C 2 (c_X9_peek C.2.2.2.2.2.2.1 hq) lc2 EC_2 rfl wml_X5_75 wq_X9_peek rfl ⟨by decide, by decide⟩ rfl rfl ⟨by decide, by decide⟩ dX5_isBreak_2 5 rfl rfl (Nat.le_of_ble_eq_true rfl) ?_
  refine x_bipush C dX5_isBreak_5 7 rfl 10 rfl ?_
  refine x_icmp_ne C dX5_isBreak_7 10 rfl 35 rfl h (fun h => ?_) (fun h => ?_)
  · refine x_iconst C dX5_isBreak_35 36 rfl 0 rfl ?_
    exact x_zret C rfl dX5_isBreak_36 (by decide) h
  · refine x_aload_n C dX5_isBreak_10 11 rfl 1 rfl ?_
    refine x_iconst C dX5_isBreak_11 12 rfl 1 rfl ?_
    obtain ⟨r12, a12, hq, h⟩ := xb_some h
    refine x_callVi C 2 (c_X9_peek C.2.2.2.2.2.2.1 hq) lc2 EC_2 rfl wml_X5_75 wq_X9_peek rfl ⟨by decide, by decide⟩ rfl rfl ⟨by decide, by decide⟩ dX5_isBreak_12 15 rfl rfl (Nat.le_of_ble_eq_true rfl) ?_
    obtain ⟨r15, a15, hq, h⟩ := xb_some h
    refine x_callNi C (c_X11_isLetter C.2.2.2.2.2.2.1 hq) xn_X5_97 wq_X11_isLetter rfl ⟨by decide, by decide⟩ rfl rfl ⟨by decide, by decide⟩ dX5_isBreak_15 18 rfl rfl (Nat.le_of_ble_eq_true rfl) ?_
    refine x_if_ne C dX5_isBreak_18 21 rfl 31 rfl h (fun h => ?_) (fun h => ?_)
    · exact x_sub [] rfl (b_X5_isBreak_31_trialReading C  h)
    · refine x_aload_n C dX5_isBreak_21 22 rfl 1 rfl ?_
      refine x_iconst C dX5_isBreak_22 23 rfl 1 rfl ?_
      obtain ⟨r23, a23, hq, h⟩ := xb_some h
      refine x_callVi C 2 (c_X9_peek C.2.2.2.2.2.2.1 hq) lc2 EC_2 rfl wml_X5_75 wq_X9_peek rfl ⟨by decide, by decide⟩ rfl rfl ⟨by decide, by decide⟩ dX5_isBreak_23 26 rfl rfl (Nat.le_of_ble_eq_true rfl) ?_
      refine x_bipush C dX5_isBreak_26 28 rfl 63 rfl ?_
      refine x_icmp_ne C dX5_isBreak_28 31 rfl 35 rfl h (fun h => ?_) (fun h => ?_)
      · refine x_iconst C dX5_isBreak_35 36 rfl 0 rfl ?_
        exact x_zret C rfl dX5_isBreak_36 (by decide) h
      · exact x_sub [] rfl (b_X5_isBreak_31_trialReading C  h)
theorem b_X5_readOthers_34_trialReading (C : XC p l s m args meth c cX5_readOthers 6 (some .boolean) RX5 D vwCl (tysC ca) (EC ad ca) NCC ad) {N : Nat} {o : (Int32 × AH)} : ∀ (n : Nat) {ah : AH} {v2 : Int32} {v3 : Int32}, F_X5_readOthers_34 N 40 n ah v2 v3 = some o → XW p l e rm_X5_readOthers s m args below meth c 6 0 (xQi below args s D vwCl (tysC ca) (EC ad ca) NCC ad o) D vwCl (EC ad ca) NCC ad ah 34 [(0, .ref (ad 40)), (1, .ref (ad 2)), (2, .int v2), (3, .int v3)] [] := by
  intro n
  induction n with
  | zero => intro ah v2 v3 h; unfold F_X5_readOthers_34 at h; cases h
  | succ n ih =>
    intro ah v2 v3 h
    unfold F_X5_readOthers_34 at h
    refine x_iload_n C dX5_readOthers_34 35 rfl 3 rfl ?_
    refine x_iconst C dX5_readOthers_35 36 rfl 3 rfl ?_
    refine x_icmp_gt C dX5_readOthers_36 39 rfl 189 rfl h (fun h => ?_) (fun h => ?_)
    · refine x_iconst C dX5_readOthers_189 190 rfl 0 rfl ?_
      exact x_zret C rfl dX5_readOthers_190 (by decide) h
    · refine x_aload_n C dX5_readOthers_39 40 rfl 1 rfl ?_
      refine x_iconst C dX5_readOthers_40 41 rfl 0 rfl ?_
      obtain ⟨r41, a41, hq, h⟩ := xb_some h
      refine x_callVi C 2 (c_X9_peek C.2.2.2.2.2.2.1 hq) lc2 EC_2 rfl wml_X5_75 wq_X9_peek rfl ⟨by decide, by decide⟩ rfl rfl ⟨by decide, by decide⟩ dX5_readOthers_41 44 rfl rfl (Nat.le_of_ble_eq_true rfl) ?_
      refine x_istore C dX5_readOthers_44 46 rfl (by decide) (fun v4_44 => [(4, .int v4_44), (0, .ref (ad 40)), (1, .ref (ad 2)), (2, .int v2), (3, .int v3)]) (fun _ => rfl) h (fun v4_44 h => ?_)
      refine x_iload C dX5_readOthers_46 48 rfl 0 rfl ?_
      obtain ⟨r48, a48, hq, h⟩ := xb_some h
      refine x_callNi C (c_X11_isLetter C.2.2.2.2.2.2.1 hq) xn_X5_97 wq_X11_isLetter rfl ⟨by decide, by decide⟩ rfl rfl ⟨by decide, by decide⟩ dX5_readOthers_48 51 rfl rfl (Nat.le_of_ble_eq_true rfl) ?_
      refine x_if_ne C dX5_readOthers_51 54 rfl 64 rfl h (fun h => ?_) (fun h => ?_)
      · refine x_iload_n C dX5_readOthers_64 65 rfl 4 rfl ?_
        refine x_iconst C dX5_readOthers_65 66 rfl 3 rfl ?_
        refine x_icmp_ne C dX5_readOthers_66 69 rfl 79 rfl h (fun h => ?_) (fun h => ?_)
        · refine x_aload_n C dX5_readOthers_79 80 rfl 2 rfl ?_
          refine x_dup C dX5_readOthers_80 81 rfl rfl ?_
          refine x_get C inX9 2 lc2 EC_2 rfl 3 (by decide) dX5_readOthers_81 84 rfl wmf_X5_83 rfl ?_
          refine x_iconst C dX5_readOthers_84 85 rfl 1 rfl ?_
          refine x_iadd C dX5_readOthers_85 86 rfl ?_
          refine x_put C inX9 2 lc2 EC_2 rfl 3 (by decide) tyX9_ok nmX9 dX5_readOthers_86 89 rfl wmf_X5_83 rfl rfl rfl (Nat.le_of_ble_eq_true rfl) EP_2_3 h (fun a86 h => ?_)
          refine x_aload_n C dX5_readOthers_89 90 rfl 2 rfl ?_
          refine x_iconst C dX5_readOthers_90 91 rfl 1 rfl ?_
          obtain ⟨r91, a91, hq, h⟩ := xb_some h
          refine x_callVi C 2 (c_X9_readNumber C.2.2.2.2.2.2.1 hq) lc2 EC_2 rfl wml_X5_106 wq_X9_readNumber rfl ⟨by decide, by decide⟩ rfl rfl ⟨by decide, by decide⟩ dX5_readOthers_91 94 rfl rfl (Nat.le_of_ble_eq_true rfl) ?_
          refine x_istore C dX5_readOthers_94 96 rfl (by decide) (fun v5_94 => [(5, .int v5_94), (4, .int v4_44), (0, .ref (ad 40)), (1, .ref (ad 2)), (2, .int v2), (3, .int v3)]) (fun _ => rfl) h (fun v5_94 h => ?_)
          refine x_iload C dX5_readOthers_96 98 rfl 0 rfl ?_
          refine x_iconst C dX5_readOthers_98 99 rfl (-1) rfl ?_
          refine x_icmp_ne C dX5_readOthers_99 102 rfl 104 rfl h (fun h => ?_) (fun h => ?_)
          · refine x_aload_n C dX5_readOthers_104 105 rfl 2 rfl ?_
            refine x_get C inX5 40 lc40 EC_40 rfl 9 (by decide) dX5_readOthers_105 108 rfl wmf_X5_31 rfl ?_
            refine x_iload_n C dX5_readOthers_108 109 rfl 4 rfl ?_
            refine x_iconst C dX5_readOthers_109 110 rfl 3 rfl ?_
            refine x_imul C dX5_readOthers_110 111 rfl ?_
            refine x_iload_n C dX5_readOthers_111 112 rfl 5 rfl ?_
            refine x_iadd C dX5_readOthers_112 113 rfl ?_
            refine x_iload C dX5_readOthers_113 115 rfl 1 rfl ?_
            refine x_iast C 47 lc47 (fun _ => EC_47) 0 rfl dX5_readOthers_115 116 rfl h (fun a115 h => ?_)
            refine x_aload_n C dX5_readOthers_116 117 rfl 2 rfl ?_
            refine x_get C inX5 40 lc40 EC_40 rfl 10 (by decide) dX5_readOthers_117 120 rfl wmf_X5_34 rfl ?_
            refine x_iload_n C dX5_readOthers_120 121 rfl 4 rfl ?_
            refine x_iconst C dX5_readOthers_121 122 rfl 3 rfl ?_
            refine x_imul C dX5_readOthers_122 123 rfl ?_
            refine x_iload_n C dX5_readOthers_123 124 rfl 5 rfl ?_
            refine x_iadd C dX5_readOthers_124 125 rfl ?_
            refine x_iload C dX5_readOthers_125 127 rfl 0 rfl ?_
            refine x_iast C 48 lc48 (fun _ => EC_48) 0 rfl dX5_readOthers_127 128 rfl h (fun a127 h => ?_)
            refine x_aload_n C dX5_readOthers_128 129 rfl 2 rfl ?_
            refine x_get C inX5 40 lc40 EC_40 rfl 8 (by decide) dX5_readOthers_129 132 rfl wmf_X5_28 rfl ?_
            refine x_iload_n C dX5_readOthers_132 133 rfl 4 rfl ?_
            refine x_iload_n C dX5_readOthers_133 134 rfl 5 rfl ?_
            refine x_iconst C dX5_readOthers_134 135 rfl 1 rfl ?_
            refine x_iadd C dX5_readOthers_135 136 rfl ?_
            refine x_iast C 46 lc46 (fun _ => EC_46) 0 rfl dX5_readOthers_136 137 rfl h (fun a136 h => ?_)
            refine x_aload_n C dX5_readOthers_137 138 rfl 3 rfl ?_
            refine x_iconst C dX5_readOthers_138 139 rfl 0 rfl ?_
            obtain ⟨r139, a139, hq, h⟩ := xb_some h
            refine x_callVi C 2 (c_X9_peek C.2.2.2.2.2.2.1 hq) lc2 EC_2 rfl wml_X5_75 wq_X9_peek rfl ⟨by decide, by decide⟩ rfl rfl ⟨by decide, by decide⟩ dX5_readOthers_139 142 rfl rfl (Nat.le_of_ble_eq_true rfl) ?_
            refine x_bipush C dX5_readOthers_142 144 rfl 93 rfl ?_
            refine x_icmp_ne C dX5_readOthers_144 147 rfl 159 rfl h (fun h => ?_) (fun h => ?_)
            · refine x_aload_n C dX5_readOthers_159 160 rfl 3 rfl ?_
              refine x_iconst C dX5_readOthers_160 161 rfl 0 rfl ?_
              obtain ⟨r161, a161, hq, h⟩ := xb_some h
              refine x_callVi C 2 (c_X9_peek C.2.2.2.2.2.2.1 hq) lc2 EC_2 rfl wml_X5_75 wq_X9_peek rfl ⟨by decide, by decide⟩ rfl rfl ⟨by decide, by decide⟩ dX5_readOthers_161 164 rfl rfl (Nat.le_of_ble_eq_true rfl) ?_
              refine x_bipush C dX5_readOthers_164 166 rfl 32 rfl ?_
              refine x_icmp_eq C dX5_readOthers_166 169 rfl 179 rfl h (fun h => ?_) (fun h => ?_)
              · refine x_aload_n C dX5_readOthers_179 180 rfl 3 rfl ?_
                obtain ⟨a180, hq, h⟩ := xbv_some h
                refine x_callVv C 2 (c_X9_skipBlanks C.2.2.2.2.2.2.1 hq) lc2 EC_2 rfl wml_X5_109 wq_X9_skipBlanks rfl ⟨by decide, by decide⟩ rfl rfl ⟨by decide, by decide⟩ dX5_readOthers_180 183 rfl rfl (Nat.le_of_ble_eq_true rfl) ?_
                refine x_iinc C dX5_readOthers_183 186 rfl 5 rfl (d := 1) rfl (by decide) (fun v3_183 => [(3, .int v3_183), (5, .int v5_94), (4, .int v4_44), (0, .ref (ad 40)), (1, .ref (ad 2)), (2, .int v2)]) (fun _ => rfl) h (fun v3_183 h => ?_)
                refine x_goto C dX5_readOthers_186 34 rfl ?_
                exact x_sub [3, 4, 5, 0] rfl (ih h)
              · refine x_aload_n C dX5_readOthers_169 170 rfl 3 rfl ?_
                refine x_iconst C dX5_readOthers_170 171 rfl 1 rfl ?_
                refine x_aload_n C dX5_readOthers_171 172 rfl 3 rfl ?_
                refine x_get C inX9 2 lc2 EC_2 rfl 3 (by decide) dX5_readOthers_172 175 rfl wmf_X5_83 rfl ?_
                obtain ⟨r175, a175, hq, h⟩ := xb_some h
                refine x_callVi C 2 (c_X9_refuse C.2.2.2.2.2.2.1 hq) lc2 EC_2 rfl wml_X5_89 wq_X9_refuse rfl ⟨by decide, by decide⟩ rfl rfl ⟨by decide, by decide⟩ dX5_readOthers_175 178 rfl rfl (Nat.le_of_ble_eq_true rfl) ?_
                exact x_zretB C rfl dX5_readOthers_178 h
            · refine x_aload_n C dX5_readOthers_147 148 rfl 3 rfl ?_
              refine x_dup C dX5_readOthers_148 149 rfl rfl ?_
              refine x_get C inX9 2 lc2 EC_2 rfl 3 (by decide) dX5_readOthers_149 152 rfl wmf_X5_83 rfl ?_
              refine x_iconst C dX5_readOthers_152 153 rfl 1 rfl ?_
              refine x_iadd C dX5_readOthers_153 154 rfl ?_
              refine x_put C inX9 2 lc2 EC_2 rfl 3 (by decide) tyX9_ok nmX9 dX5_readOthers_154 157 rfl wmf_X5_83 rfl rfl rfl (Nat.le_of_ble_eq_true rfl) EP_2_3 h (fun a154 h => ?_)
              refine x_iconst C dX5_readOthers_157 158 rfl 1 rfl ?_
              exact x_zret C rfl dX5_readOthers_158 (by decide) h
          · refine x_iconst C dX5_readOthers_102 103 rfl 0 rfl ?_
            exact x_zret C rfl dX5_readOthers_103 (by decide) h
        · refine x_aload_n C dX5_readOthers_69 70 rfl 2 rfl ?_
          refine x_iconst C dX5_readOthers_70 71 rfl 3 rfl ?_
          refine x_aload_n C dX5_readOthers_71 72 rfl 2 rfl ?_
          refine x_get C inX9 2 lc2 EC_2 rfl 3 (by decide) dX5_readOthers_72 75 rfl wmf_X5_83 rfl ?_
          obtain ⟨r75, a75, hq, h⟩ := xb_some h
          refine x_callVi C 2 (c_X9_refuse C.2.2.2.2.2.2.1 hq) lc2 EC_2 rfl wml_X5_89 wq_X9_refuse rfl ⟨by decide, by decide⟩ rfl rfl ⟨by decide, by decide⟩ dX5_readOthers_75 78 rfl rfl (Nat.le_of_ble_eq_true rfl) ?_
          exact x_zretB C rfl dX5_readOthers_78 h
      · refine x_aload_n C dX5_readOthers_54 55 rfl 2 rfl ?_
        refine x_iconst C dX5_readOthers_55 56 rfl 1 rfl ?_
        refine x_aload_n C dX5_readOthers_56 57 rfl 2 rfl ?_
        refine x_get C inX9 2 lc2 EC_2 rfl 3 (by decide) dX5_readOthers_57 60 rfl wmf_X5_83 rfl ?_
        obtain ⟨r60, a60, hq, h⟩ := xb_some h
        refine x_callVi C 2 (c_X9_refuse C.2.2.2.2.2.2.1 hq) lc2 EC_2 rfl wml_X5_89 wq_X9_refuse rfl ⟨by decide, by decide⟩ rfl rfl ⟨by decide, by decide⟩ dX5_readOthers_60 63 rfl rfl (Nat.le_of_ble_eq_true rfl) ?_
        exact x_zretB C rfl dX5_readOthers_63 h
theorem c_X5_readOthers_trialReading {l : Launch} {D : va_G} {ca : Nat → ClassId} {ad : Nat → Nat} (hI : xInj ad NCC) {N : Nat} {ah : AH} {p2 : Int32} {r : Int32} {a : AH} (h : F_X5_readOthers N 40 ah p2 = some (r, a)) : xMi l yX5_readOthers cX5_readOthers 6 (some .boolean) rm_X5_readOthers D vwCl (tysC ca) (EC ad ca) NCC ad [.ref (ad 40), .ref (ad 2), .int p2] ah (r, a) := by
  refine x_meti (by decide) (Nat.le_of_ble_eq_true rfl) hI EC_loc ?_
  intro p e s m args below meth c C
  unfold F_X5_readOthers at h
  refine x_aload_n C dX5_readOthers_0 1 rfl 1 rfl ?_
  refine x_dup C dX5_readOthers_1 2 rfl rfl ?_
  refine x_get C inX9 2 lc2 EC_2 rfl 3 (by decide) dX5_readOthers_2 5 rfl wmf_X5_83 rfl ?_
  refine x_iconst C dX5_readOthers_5 6 rfl 1 rfl ?_
  refine x_iadd C dX5_readOthers_6 7 rfl ?_
  refine x_put C inX9 2 lc2 EC_2 rfl 3 (by decide) tyX9_ok nmX9 dX5_readOthers_7 10 rfl wmf_X5_83 rfl rfl rfl (Nat.le_of_ble_eq_true rfl) EP_2_3 h (fun a7 h => ?_)
  refine x_aload_n C dX5_readOthers_10 11 rfl 1 rfl ?_
  refine x_iconst C dX5_readOthers_11 12 rfl 0 rfl ?_
  obtain ⟨r12, a12, hq, h⟩ := xb_some h
  refine x_callVi C 2 (c_X9_peek C.2.2.2.2.2.2.1 hq) lc2 EC_2 rfl wml_X5_75 wq_X9_peek rfl ⟨by decide, by decide⟩ rfl rfl ⟨by decide, by decide⟩ dX5_readOthers_12 15 rfl rfl (Nat.le_of_ble_eq_true rfl) ?_
  refine x_bipush C dX5_readOthers_15 17 rfl 93 rfl ?_
  refine x_icmp_ne C dX5_readOthers_17 20 rfl 32 rfl h (fun h => ?_) (fun h => ?_)
  · refine x_iconst C dX5_readOthers_32 33 rfl 0 rfl ?_
    refine x_istore_n C dX5_readOthers_33 34 rfl (by decide) (fun v3_33 => [(3, .int v3_33), (0, .ref (ad 40)), (1, .ref (ad 2)), (2, .int p2)]) (fun _ => rfl) h (fun v3_33 h => ?_)
    exact x_sub [1, 2, 3, 0] rfl (b_X5_readOthers_34_trialReading C  N h)
  · refine x_aload_n C dX5_readOthers_20 21 rfl 1 rfl ?_
    refine x_dup C dX5_readOthers_21 22 rfl rfl ?_
    refine x_get C inX9 2 lc2 EC_2 rfl 3 (by decide) dX5_readOthers_22 25 rfl wmf_X5_83 rfl ?_
    refine x_iconst C dX5_readOthers_25 26 rfl 1 rfl ?_
    refine x_iadd C dX5_readOthers_26 27 rfl ?_
    refine x_put C inX9 2 lc2 EC_2 rfl 3 (by decide) tyX9_ok nmX9 dX5_readOthers_27 30 rfl wmf_X5_83 rfl rfl rfl (Nat.le_of_ble_eq_true rfl) EP_2_3 h (fun a27 h => ?_)
    refine x_iconst C dX5_readOthers_30 31 rfl 1 rfl ?_
    exact x_zret C rfl dX5_readOthers_31 (by decide) h
theorem b_X5_readCell_116_trialReading (C : XC p l s m args meth c cX5_readCell 4 (some .boolean) RX5 D vwCl (tysC ca) (EC ad ca) NCC ad) {N : Nat} {o : (Int32 × AH)} {ah : AH} (h : F_X5_readCell_116 N 40 ah = some o) : XW p l e rm_X5_readCell s m args below meth c 4 0 (xQi below args s D vwCl (tysC ca) (EC ad ca) NCC ad o) D vwCl (EC ad ca) NCC ad ah 116 [] [] := by
  unfold F_X5_readCell_116 at h
  refine x_iconst C dX5_readCell_116 117 rfl 1 rfl ?_
  refine x_goto C dX5_readCell_117 121 rfl ?_
  exact x_zret C rfl dX5_readCell_121 (by decide) h
theorem b_X5_readCell_90_trialReading (C : XC p l s m args meth c cX5_readCell 4 (some .boolean) RX5 D vwCl (tysC ca) (EC ad ca) NCC ad) {N : Nat} {o : (Int32 × AH)} {ah : AH} {v2 : Int32} {v3 : Int32} (h : F_X5_readCell_90 N 40 ah v2 v3 = some o) : XW p l e rm_X5_readCell s m args below meth c 4 0 (xQi below args s D vwCl (tysC ca) (EC ad ca) NCC ad o) D vwCl (EC ad ca) NCC ad ah 90 [(0, .ref (ad 40)), (1, .ref (ad 2)), (2, .int v2), (3, .int v3)] [] := by
  unfold F_X5_readCell_90 at h
  refine x_iload_n C dX5_readCell_90 91 rfl 2 rfl ?_
  obtain ⟨r91, a91, hq, h⟩ := xb_some h
  refine x_callNi C (c_X11_isLetter C.2.2.2.2.2.2.1 hq) xn_X5_97 wq_X11_isLetter rfl ⟨by decide, by decide⟩ rfl rfl ⟨by decide, by decide⟩ dX5_readCell_91 94 rfl rfl (Nat.le_of_ble_eq_true rfl) ?_
  refine x_if_eq C dX5_readCell_94 97 rfl 116 rfl h (fun h => ?_) (fun h => ?_)
  · exact x_sub [] rfl (b_X5_readCell_116_trialReading C  h)
  · refine x_aload_n C dX5_readCell_97 98 rfl 1 rfl ?_
    refine x_iconst C dX5_readCell_98 99 rfl 0 rfl ?_
    obtain ⟨r99, a99, hq, h⟩ := xb_some h
    refine x_callVi C 2 (c_X9_peek C.2.2.2.2.2.2.1 hq) lc2 EC_2 rfl wml_X5_75 wq_X9_peek rfl ⟨by decide, by decide⟩ rfl rfl ⟨by decide, by decide⟩ dX5_readCell_99 102 rfl rfl (Nat.le_of_ble_eq_true rfl) ?_
    refine x_bipush C dX5_readCell_102 104 rfl 91 rfl ?_
    refine x_icmp_ne C dX5_readCell_104 107 rfl 116 rfl h (fun h => ?_) (fun h => ?_)
    · exact x_sub [] rfl (b_X5_readCell_116_trialReading C  h)
    · refine x_aload_n C dX5_readCell_107 108 rfl 0 rfl ?_
      refine x_aload_n C dX5_readCell_108 109 rfl 1 rfl ?_
      refine x_iload_n C dX5_readCell_109 110 rfl 3 rfl ?_
      obtain ⟨r110, a110, hq, h⟩ := xb_some h
      refine x_callVi C 40 (c_X5_readOthers_trialReading C.2.2.2.2.2.2.1 hq) lc40 EC_40 rfl wml_X5_103 wq_X5_readOthers rfl ⟨by decide, by decide⟩ rfl rfl ⟨by decide, by decide⟩ dX5_readCell_110 113 rfl rfl (Nat.le_of_ble_eq_true rfl) ?_
      refine x_if_eq C dX5_readCell_113 116 rfl 120 rfl h (fun h => ?_) (fun h => ?_)
      · refine x_iconst C dX5_readCell_120 121 rfl 0 rfl ?_
        exact x_zret C rfl dX5_readCell_121 (by decide) h
      · exact x_sub [] rfl (b_X5_readCell_116_trialReading C  h)
theorem c_X5_readCell_trialReading {l : Launch} {D : va_G} {ca : Nat → ClassId} {ad : Nat → Nat} (hI : xInj ad NCC) {N : Nat} {ah : AH} {p2 : Int32} {r : Int32} {a : AH} (h : F_X5_readCell N 40 ah p2 = some (r, a)) : xMi l yX5_readCell cX5_readCell 4 (some .boolean) rm_X5_readCell D vwCl (tysC ca) (EC ad ca) NCC ad [.ref (ad 40), .ref (ad 2), .int p2] ah (r, a) := by
  refine x_meti (by decide) (Nat.le_of_ble_eq_true rfl) hI EC_loc ?_
  intro p e s m args below meth c C
  unfold F_X5_readCell at h
  refine x_aload_n C dX5_readCell_0 1 rfl 0 rfl ?_
  refine x_get C inX5 40 lc40 EC_40 rfl 2 (by decide) dX5_readCell_1 4 rfl wmf_X5_55 rfl ?_
  refine x_istore_n C dX5_readCell_4 5 rfl (by decide) (fun v3_4 => [(3, .int v3_4), (0, .ref (ad 40)), (1, .ref (ad 2)), (2, .int p2)]) (fun _ => rfl) h (fun v3_4 h => ?_)
  refine x_iload_n C dX5_readCell_5 6 rfl 0 rfl ?_
  refine x_sipush C dX5_readCell_6 9 rfl 400 rfl ?_
  refine x_icmp_lt C dX5_readCell_9 12 rfl 14 rfl h (fun h => ?_) (fun h => ?_)
  · refine x_aload_n C dX5_readCell_14 15 rfl 1 rfl ?_
    refine x_dup C dX5_readCell_15 16 rfl rfl ?_
    refine x_get C inX5 40 lc40 EC_40 rfl 2 (by decide) dX5_readCell_16 19 rfl wmf_X5_55 rfl ?_
    refine x_iconst C dX5_readCell_19 20 rfl 1 rfl ?_
    refine x_iadd C dX5_readCell_20 21 rfl ?_
    refine x_put C inX5 40 lc40 EC_40 rfl 2 (by decide) tyX5_ok nmX5 dX5_readCell_21 24 rfl wmf_X5_55 rfl rfl rfl (Nat.le_of_ble_eq_true rfl) EP_40_2 h (fun a21 h => ?_)
    refine x_aload_n C dX5_readCell_24 25 rfl 2 rfl ?_
    refine x_dup C dX5_readCell_25 26 rfl rfl ?_
    refine x_get C inX9 2 lc2 EC_2 rfl 3 (by decide) dX5_readCell_26 29 rfl wmf_X5_83 rfl ?_
    refine x_iconst C dX5_readCell_29 30 rfl 1 rfl ?_
    refine x_iadd C dX5_readCell_30 31 rfl ?_
    refine x_put C inX9 2 lc2 EC_2 rfl 3 (by decide) tyX9_ok nmX9 dX5_readCell_31 34 rfl wmf_X5_83 rfl rfl rfl (Nat.le_of_ble_eq_true rfl) EP_2_3 h (fun a31 h => ?_)
    refine x_aload_n C dX5_readCell_34 35 rfl 1 rfl ?_
    refine x_get C inX5 40 lc40 EC_40 rfl 7 (by decide) dX5_readCell_35 38 rfl wmf_X5_25 rfl ?_
    refine x_iload_n C dX5_readCell_38 39 rfl 0 rfl ?_
    refine x_iload_n C dX5_readCell_39 40 rfl 3 rfl ?_
    refine x_iast C 45 lc45 (fun _ => EC_45) 0 rfl dX5_readCell_40 41 rfl h (fun a40 h => ?_)
    refine x_aload_n C dX5_readCell_41 42 rfl 1 rfl ?_
    refine x_get C inX5 40 lc40 EC_40 rfl 8 (by decide) dX5_readCell_42 45 rfl wmf_X5_28 rfl ?_
    refine x_iload_n C dX5_readCell_45 46 rfl 0 rfl ?_
    refine x_iconst C dX5_readCell_46 47 rfl 0 rfl ?_
    refine x_iast C 46 lc46 (fun _ => EC_46) 0 rfl dX5_readCell_47 48 rfl h (fun a47 h => ?_)
    refine x_iload_n C dX5_readCell_48 49 rfl 3 rfl ?_
    refine x_bipush C dX5_readCell_49 51 rfl 45 rfl ?_
    refine x_icmp_ne C dX5_readCell_51 54 rfl 90 rfl h (fun h => ?_) (fun h => ?_)
    · exact x_sub [1, 2, 3, 0] rfl (b_X5_readCell_90_trialReading C  h)
    · refine x_aload_n C dX5_readCell_54 55 rfl 1 rfl ?_
      refine x_aload_n C dX5_readCell_55 56 rfl 2 rfl ?_
      obtain ⟨r56, a56, hq, h⟩ := xb_some h
      refine x_callVi C 40 (c_X5_isBreak_trialReading C.2.2.2.2.2.2.1 hq) lc40 EC_40 rfl wml_X5_100 wq_X5_isBreak rfl ⟨by decide, by decide⟩ rfl rfl ⟨by decide, by decide⟩ dX5_readCell_56 59 rfl rfl (Nat.le_of_ble_eq_true rfl) ?_
      refine x_if_eq C dX5_readCell_59 62 rfl 90 rfl h (fun h => ?_) (fun h => ?_)
      · exact x_sub [1, 2, 3, 0] rfl (b_X5_readCell_90_trialReading C  h)
      · refine x_aload_n C dX5_readCell_62 63 rfl 1 rfl ?_
        refine x_get C inX5 40 lc40 EC_40 rfl 7 (by decide) dX5_readCell_63 66 rfl wmf_X5_25 rfl ?_
        refine x_iload_n C dX5_readCell_66 67 rfl 0 rfl ?_
        refine x_bipush C dX5_readCell_67 69 rfl 10 rfl ?_
        refine x_iast C 45 lc45 (fun _ => EC_45) 0 rfl dX5_readCell_69 70 rfl h (fun a69 h => ?_)
        refine x_aload_n C dX5_readCell_70 71 rfl 1 rfl ?_
        refine x_dup C dX5_readCell_71 72 rfl rfl ?_
        refine x_get C inX5 40 lc40 EC_40 rfl 1 (by decide) dX5_readCell_72 75 rfl wmf_X5_58 rfl ?_
        refine x_iconst C dX5_readCell_75 76 rfl 1 rfl ?_
        refine x_iadd C dX5_readCell_76 77 rfl ?_
        refine x_put C inX5 40 lc40 EC_40 rfl 1 (by decide) tyX5_ok nmX5 dX5_readCell_77 80 rfl wmf_X5_58 rfl rfl rfl (Nat.le_of_ble_eq_true rfl) EP_40_1 h (fun a77 h => ?_)
        refine x_aload_n C dX5_readCell_80 81 rfl 2 rfl ?_
        refine x_dup C dX5_readCell_81 82 rfl rfl ?_
        refine x_get C inX9 2 lc2 EC_2 rfl 3 (by decide) dX5_readCell_82 85 rfl wmf_X5_83 rfl ?_
        refine x_iconst C dX5_readCell_85 86 rfl 1 rfl ?_
        refine x_iadd C dX5_readCell_86 87 rfl ?_
        refine x_put C inX9 2 lc2 EC_2 rfl 3 (by decide) tyX9_ok nmX9 dX5_readCell_87 90 rfl wmf_X5_83 rfl rfl rfl (Nat.le_of_ble_eq_true rfl) EP_2_3 h (fun a87 h => ?_)
        exact x_sub [1, 2, 3, 0] rfl (b_X5_readCell_90_trialReading C  h)
  · refine x_iconst C dX5_readCell_12 13 rfl 0 rfl ?_
    exact x_zret C rfl dX5_readCell_13 (by decide) h
theorem b_X5_readToken_106_trialReading (C : XC p l s m args meth c cX5_readToken 4 (some .boolean) RX5 D vwCl (tysC ca) (EC ad ca) NCC ad) {N : Nat} {o : (Int32 × AH)} {k81 : AH → Int32 → Option (Int32 × AH)} (hk81 : ∀ (ah : AH) (v2 : Int32), k81 ah v2 = some o → XW p l e rm_X5_readToken s m args below meth c 4 0 (xQi below args s D vwCl (tysC ca) (EC ad ca) NCC ad o) D vwCl (EC ad ca) NCC ad ah 81 [(0, .ref (ad 40)), (1, .ref (ad 2)), (2, .int v2)] []) {ah : AH} (h : F_X5_readToken_106 N 40 k81 ah = some o) : XW p l e rm_X5_readToken s m args below meth c 4 0 (xQi below args s D vwCl (tysC ca) (EC ad ca) NCC ad o) D vwCl (EC ad ca) NCC ad ah 106 [(0, .ref (ad 40))] [] := by
  unfold F_X5_readToken_106 at h
  refine x_aload_n C dX5_readToken_106 107 rfl 0 rfl ?_
  refine x_get C inX5 40 lc40 EC_40 rfl 3 (by decide) dX5_readToken_107 110 rfl wmf_X5_9 rfl ?_
  refine x_aload_n C dX5_readToken_110 111 rfl 0 rfl ?_
  refine x_get C inX5 40 lc40 EC_40 rfl 0 (by decide) dX5_readToken_111 114 rfl wmf_X5_51 rfl ?_
  refine x_aload_n C dX5_readToken_114 115 rfl 0 rfl ?_
  refine x_get C inX5 40 lc40 EC_40 rfl 2 (by decide) dX5_readToken_115 118 rfl wmf_X5_55 rfl ?_
  refine x_iast C 41 lc41 (fun _ => EC_41) 0 rfl dX5_readToken_118 119 rfl h (fun a118 h => ?_)
  refine x_iconst C dX5_readToken_119 120 rfl 1 rfl ?_
  exact x_zret C rfl dX5_readToken_120 (by decide) h
theorem b_X5_readToken_81_trialReading (C : XC p l s m args meth c cX5_readToken 4 (some .boolean) RX5 D vwCl (tysC ca) (EC ad ca) NCC ad) {N : Nat} {o : (Int32 × AH)} : ∀ (n : Nat) {ah : AH} {v2 : Int32}, F_X5_readToken_81 N 40 n ah v2 = some o → XW p l e rm_X5_readToken s m args below meth c 4 0 (xQi below args s D vwCl (tysC ca) (EC ad ca) NCC ad o) D vwCl (EC ad ca) NCC ad ah 81 [(0, .ref (ad 40)), (1, .ref (ad 2)), (2, .int v2)] [] := by
  intro n
  induction n with
  | zero => intro ah v2 h; unfold F_X5_readToken_81 at h; cases h
  | succ n ih =>
    intro ah v2 h
    unfold F_X5_readToken_81 at h
    refine x_iload_n C dX5_readToken_81 82 rfl 2 rfl ?_
    refine x_bipush C dX5_readToken_82 84 rfl 24 rfl ?_
    refine x_icmp_gt C dX5_readToken_84 87 rfl 172 rfl h (fun h => ?_) (fun h => ?_)
    · refine x_iconst C dX5_readToken_172 173 rfl 0 rfl ?_
      exact x_zret C rfl dX5_readToken_173 (by decide) h
    · refine x_aload_n C dX5_readToken_87 88 rfl 1 rfl ?_
      refine x_iconst C dX5_readToken_88 89 rfl 0 rfl ?_
      obtain ⟨r89, a89, hq, h⟩ := xb_some h
      refine x_callVi C 2 (c_X9_peek C.2.2.2.2.2.2.1 hq) lc2 EC_2 rfl wml_X5_75 wq_X9_peek rfl ⟨by decide, by decide⟩ rfl rfl ⟨by decide, by decide⟩ dX5_readToken_89 92 rfl rfl (Nat.le_of_ble_eq_true rfl) ?_
      refine x_istore_n C dX5_readToken_92 93 rfl (by decide) (fun v3_92 => [(3, .int v3_92), (0, .ref (ad 40)), (1, .ref (ad 2)), (2, .int v2)]) (fun _ => rfl) h (fun v3_92 h => ?_)
      refine x_iload_n C dX5_readToken_93 94 rfl 0 rfl ?_
      refine x_iconst C dX5_readToken_94 95 rfl (-1) rfl ?_
      refine x_icmp_eq C dX5_readToken_95 98 rfl 106 rfl h (fun h => ?_) (fun h => ?_)
      · exact x_sub [1] rfl (b_X5_readToken_106_trialReading C (fun _ _ h => ih h) h)
      · refine x_aload_n C dX5_readToken_98 99 rfl 1 rfl ?_
        refine x_iload_n C dX5_readToken_99 100 rfl 0 rfl ?_
        obtain ⟨r100, a100, hq, h⟩ := xb_some h
        refine x_callVi C 40 (c_X5_isGap_trialReading C.2.2.2.2.2.2.1 hq) lc40 EC_40 rfl wml_X5_79 wq_X5_isGap rfl ⟨by decide, by decide⟩ rfl rfl ⟨by decide, by decide⟩ dX5_readToken_100 103 rfl rfl (Nat.le_of_ble_eq_true rfl) ?_
        refine x_if_eq C dX5_readToken_103 106 rfl 121 rfl h (fun h => ?_) (fun h => ?_)
        · refine x_aload_n C dX5_readToken_121 122 rfl 1 rfl ?_
          refine x_iload_n C dX5_readToken_122 123 rfl 0 rfl ?_
          obtain ⟨r123, a123, hq, h⟩ := xb_some h
          refine x_callVi C 40 (c_X5_beginsCell_trialReading C.2.2.2.2.2.2.1 hq) lc40 EC_40 rfl wml_X5_86 wq_X5_beginsCell rfl ⟨by decide, by decide⟩ rfl rfl ⟨by decide, by decide⟩ dX5_readToken_123 126 rfl rfl (Nat.le_of_ble_eq_true rfl) ?_
          refine x_if_ne C dX5_readToken_126 129 rfl 139 rfl h (fun h => ?_) (fun h => ?_)
          · refine x_iload_n C dX5_readToken_139 140 rfl 3 rfl ?_
            refine x_bipush C dX5_readToken_140 142 rfl 24 rfl ?_
            refine x_icmp_ne C dX5_readToken_142 145 rfl 155 rfl h (fun h => ?_) (fun h => ?_)
            · refine x_aload_n C dX5_readToken_155 156 rfl 1 rfl ?_
              refine x_aload_n C dX5_readToken_156 157 rfl 2 rfl ?_
              refine x_iload_n C dX5_readToken_157 158 rfl 0 rfl ?_
              obtain ⟨r158, a158, hq, h⟩ := xb_some h
              refine x_callVi C 40 (c_X5_readCell_trialReading C.2.2.2.2.2.2.1 hq) lc40 EC_40 rfl wml_X5_93 wq_X5_readCell rfl ⟨by decide, by decide⟩ rfl rfl ⟨by decide, by decide⟩ dX5_readToken_158 161 rfl rfl (Nat.le_of_ble_eq_true rfl) ?_
              refine x_if_ne C dX5_readToken_161 164 rfl 166 rfl h (fun h => ?_) (fun h => ?_)
              · refine x_iinc C dX5_readToken_166 169 rfl 3 rfl (d := 1) rfl (by decide) (fun v2_166 => [(2, .int v2_166), (3, .int v3_92), (0, .ref (ad 40)), (1, .ref (ad 2))]) (fun _ => rfl) h (fun v2_166 h => ?_)
                refine x_goto C dX5_readToken_169 81 rfl ?_
                exact x_sub [2, 3, 0] rfl (ih h)
              · refine x_iconst C dX5_readToken_164 165 rfl 0 rfl ?_
                exact x_zret C rfl dX5_readToken_165 (by decide) h
            · refine x_aload_n C dX5_readToken_145 146 rfl 2 rfl ?_
              refine x_iconst C dX5_readToken_146 147 rfl 3 rfl ?_
              refine x_aload_n C dX5_readToken_147 148 rfl 2 rfl ?_
              refine x_get C inX9 2 lc2 EC_2 rfl 3 (by decide) dX5_readToken_148 151 rfl wmf_X5_83 rfl ?_
              obtain ⟨r151, a151, hq, h⟩ := xb_some h
              refine x_callVi C 2 (c_X9_refuse C.2.2.2.2.2.2.1 hq) lc2 EC_2 rfl wml_X5_89 wq_X9_refuse rfl ⟨by decide, by decide⟩ rfl rfl ⟨by decide, by decide⟩ dX5_readToken_151 154 rfl rfl (Nat.le_of_ble_eq_true rfl) ?_
              exact x_zretB C rfl dX5_readToken_154 h
          · refine x_aload_n C dX5_readToken_129 130 rfl 2 rfl ?_
            refine x_iconst C dX5_readToken_130 131 rfl 1 rfl ?_
            refine x_aload_n C dX5_readToken_131 132 rfl 2 rfl ?_
            refine x_get C inX9 2 lc2 EC_2 rfl 3 (by decide) dX5_readToken_132 135 rfl wmf_X5_83 rfl ?_
            obtain ⟨r135, a135, hq, h⟩ := xb_some h
            refine x_callVi C 2 (c_X9_refuse C.2.2.2.2.2.2.1 hq) lc2 EC_2 rfl wml_X5_89 wq_X9_refuse rfl ⟨by decide, by decide⟩ rfl rfl ⟨by decide, by decide⟩ dX5_readToken_135 138 rfl rfl (Nat.le_of_ble_eq_true rfl) ?_
            exact x_zretB C rfl dX5_readToken_138 h
        · exact x_sub [1] rfl (b_X5_readToken_106_trialReading C (fun _ _ h => ih h) h)
theorem c_X5_readToken_trialReading {l : Launch} {D : va_G} {ca : Nat → ClassId} {ad : Nat → Nat} (hI : xInj ad NCC) {N : Nat} {ah : AH} {r : Int32} {a : AH} (h : F_X5_readToken N 40 ah = some (r, a)) : xMi l yX5_readToken cX5_readToken 4 (some .boolean) rm_X5_readToken D vwCl (tysC ca) (EC ad ca) NCC ad [.ref (ad 40), .ref (ad 2)] ah (r, a) := by
  refine x_meti (by decide) (Nat.le_of_ble_eq_true rfl) hI EC_loc ?_
  intro p e s m args below meth c C
  unfold F_X5_readToken at h
  refine x_aload_n C dX5_readToken_0 1 rfl 0 rfl ?_
  refine x_aload_n C dX5_readToken_1 2 rfl 1 rfl ?_
  refine x_iconst C dX5_readToken_2 3 rfl 0 rfl ?_
  obtain ⟨r3, a3, hq, h⟩ := xb_some h
  refine x_callVi C 2 (c_X9_peek C.2.2.2.2.2.2.1 hq) lc2 EC_2 rfl wml_X5_75 wq_X9_peek rfl ⟨by decide, by decide⟩ rfl rfl ⟨by decide, by decide⟩ dX5_readToken_3 6 rfl rfl (Nat.le_of_ble_eq_true rfl) ?_
  obtain ⟨r6, a6, hq, h⟩ := xb_some h
  refine x_callVi C 40 (c_X5_beginsCell_trialReading C.2.2.2.2.2.2.1 hq) lc40 EC_40 rfl wml_X5_86 wq_X5_beginsCell rfl ⟨by decide, by decide⟩ rfl rfl ⟨by decide, by decide⟩ dX5_readToken_6 9 rfl rfl (Nat.le_of_ble_eq_true rfl) ?_
  refine x_if_ne C dX5_readToken_9 12 rfl 22 rfl h (fun h => ?_) (fun h => ?_)
  · refine x_aload_n C dX5_readToken_22 23 rfl 0 rfl ?_
    refine x_get C inX5 40 lc40 EC_40 rfl 0 (by decide) dX5_readToken_23 26 rfl wmf_X5_51 rfl ?_
    refine x_bipush C dX5_readToken_26 28 rfl 40 rfl ?_
    refine x_icmp_lt C dX5_readToken_28 31 rfl 41 rfl h (fun h => ?_) (fun h => ?_)
    · refine x_aload_n C dX5_readToken_41 42 rfl 0 rfl ?_
      refine x_get C inX5 40 lc40 EC_40 rfl 3 (by decide) dX5_readToken_42 45 rfl wmf_X5_9 rfl ?_
      refine x_aload_n C dX5_readToken_45 46 rfl 0 rfl ?_
      refine x_get C inX5 40 lc40 EC_40 rfl 0 (by decide) dX5_readToken_46 49 rfl wmf_X5_51 rfl ?_
      refine x_aload_n C dX5_readToken_49 50 rfl 0 rfl ?_
      refine x_get C inX5 40 lc40 EC_40 rfl 2 (by decide) dX5_readToken_50 53 rfl wmf_X5_55 rfl ?_
      refine x_iast C 41 lc41 (fun _ => EC_41) 0 rfl dX5_readToken_53 54 rfl h (fun a53 h => ?_)
      refine x_aload_n C dX5_readToken_54 55 rfl 0 rfl ?_
      refine x_get C inX5 40 lc40 EC_40 rfl 4 (by decide) dX5_readToken_55 58 rfl wmf_X5_15 rfl ?_
      refine x_aload_n C dX5_readToken_58 59 rfl 0 rfl ?_
      refine x_get C inX5 40 lc40 EC_40 rfl 0 (by decide) dX5_readToken_59 62 rfl wmf_X5_51 rfl ?_
      refine x_aload_n C dX5_readToken_62 63 rfl 0 rfl ?_
      refine x_get C inX5 40 lc40 EC_40 rfl 1 (by decide) dX5_readToken_63 66 rfl wmf_X5_58 rfl ?_
      refine x_iconst C dX5_readToken_66 67 rfl 1 rfl ?_
      refine x_isub C dX5_readToken_67 68 rfl ?_
      refine x_iast C 42 lc42 (fun _ => EC_42) 0 rfl dX5_readToken_68 69 rfl h (fun a68 h => ?_)
      refine x_aload_n C dX5_readToken_69 70 rfl 0 rfl ?_
      refine x_dup C dX5_readToken_70 71 rfl rfl ?_
      refine x_get C inX5 40 lc40 EC_40 rfl 0 (by decide) dX5_readToken_71 74 rfl wmf_X5_51 rfl ?_
      refine x_iconst C dX5_readToken_74 75 rfl 1 rfl ?_
      refine x_iadd C dX5_readToken_75 76 rfl ?_
      refine x_put C inX5 40 lc40 EC_40 rfl 0 (by decide) tyX5_ok nmX5 dX5_readToken_76 79 rfl wmf_X5_51 rfl rfl rfl (Nat.le_of_ble_eq_true rfl) EP_40_0 h (fun a76 h => ?_)
      refine x_iconst C dX5_readToken_79 80 rfl 0 rfl ?_
      refine x_istore_n C dX5_readToken_80 81 rfl (by decide) (fun v2_80 => [(2, .int v2_80), (0, .ref (ad 40)), (1, .ref (ad 2))]) (fun _ => rfl) h (fun v2_80 h => ?_)
      exact x_sub [1, 2, 0] rfl (b_X5_readToken_81_trialReading C  N h)
    · refine x_aload_n C dX5_readToken_31 32 rfl 1 rfl ?_
      refine x_iconst C dX5_readToken_32 33 rfl 3 rfl ?_
      refine x_aload_n C dX5_readToken_33 34 rfl 1 rfl ?_
      refine x_get C inX9 2 lc2 EC_2 rfl 3 (by decide) dX5_readToken_34 37 rfl wmf_X5_83 rfl ?_
      obtain ⟨r37, a37, hq, h⟩ := xb_some h
      refine x_callVi C 2 (c_X9_refuse C.2.2.2.2.2.2.1 hq) lc2 EC_2 rfl wml_X5_89 wq_X9_refuse rfl ⟨by decide, by decide⟩ rfl rfl ⟨by decide, by decide⟩ dX5_readToken_37 40 rfl rfl (Nat.le_of_ble_eq_true rfl) ?_
      exact x_zretB C rfl dX5_readToken_40 h
  · refine x_aload_n C dX5_readToken_12 13 rfl 1 rfl ?_
    refine x_iconst C dX5_readToken_13 14 rfl 1 rfl ?_
    refine x_aload_n C dX5_readToken_14 15 rfl 1 rfl ?_
    refine x_get C inX9 2 lc2 EC_2 rfl 3 (by decide) dX5_readToken_15 18 rfl wmf_X5_83 rfl ?_
    obtain ⟨r18, a18, hq, h⟩ := xb_some h
    refine x_callVi C 2 (c_X9_refuse C.2.2.2.2.2.2.1 hq) lc2 EC_2 rfl wml_X5_89 wq_X9_refuse rfl ⟨by decide, by decide⟩ rfl rfl ⟨by decide, by decide⟩ dX5_readToken_18 21 rfl rfl (Nat.le_of_ble_eq_true rfl) ?_
    exact x_zretB C rfl dX5_readToken_21 h
theorem b_X5_readText_17_trialReading (C : XC p l s m args meth c cX5_readText 3 (some .boolean) RX5 D vwCl (tysC ca) (EC ad ca) NCC ad) {N : Nat} {o : (Int32 × AH)} : ∀ (n : Nat) {ah : AH} {v2 : Int32}, F_X5_readText_17 N 40 n ah v2 = some o → XW p l e rm_X5_readText s m args below meth c 3 0 (xQi below args s D vwCl (tysC ca) (EC ad ca) NCC ad o) D vwCl (EC ad ca) NCC ad ah 17 [(0, .ref (ad 40)), (1, .ref (ad 2)), (2, .int v2)] [] := by
  intro n
  induction n with
  | zero => intro ah v2 h; unfold F_X5_readText_17 at h; cases h
  | succ n ih =>
    intro ah v2 h
    unfold F_X5_readText_17 at h
    refine x_iload_n C dX5_readText_17 18 rfl 2 rfl ?_
    refine x_bipush C dX5_readText_18 20 rfl 40 rfl ?_
    refine x_icmp_gt C dX5_readText_20 23 rfl 53 rfl h (fun h => ?_) (fun h => ?_)
    · refine x_iconst C dX5_readText_53 54 rfl 0 rfl ?_
      exact x_zret C rfl dX5_readText_54 (by decide) h
    · refine x_aload_n C dX5_readText_23 24 rfl 0 rfl ?_
      refine x_aload_n C dX5_readText_24 25 rfl 1 rfl ?_
      obtain ⟨a25, hq, h⟩ := xbv_some h
      refine x_callVv C 40 (c_X5_readGap_trialReading C.2.2.2.2.2.2.1 hq) lc40 EC_40 rfl wml_X5_61 wq_X5_readGap rfl ⟨by decide, by decide⟩ rfl rfl ⟨by decide, by decide⟩ dX5_readText_25 28 rfl rfl (Nat.le_of_ble_eq_true rfl) ?_
      refine x_aload_n C dX5_readText_28 29 rfl 1 rfl ?_
      obtain ⟨r29, a29, hq, h⟩ := xb_some h
      refine x_callVi C 2 (c_X9_atEnd C.2.2.2.2.2.2.1 hq) lc2 EC_2 rfl wml_X5_65 wq_X9_atEnd rfl ⟨by decide, by decide⟩ rfl rfl ⟨by decide, by decide⟩ dX5_readText_29 32 rfl rfl (Nat.le_of_ble_eq_true rfl) ?_
      refine x_if_eq C dX5_readText_32 35 rfl 37 rfl h (fun h => ?_) (fun h => ?_)
      · refine x_aload_n C dX5_readText_37 38 rfl 0 rfl ?_
        refine x_aload_n C dX5_readText_38 39 rfl 1 rfl ?_
        obtain ⟨r39, a39, hq, h⟩ := xb_some h
        refine x_callVi C 40 (c_X5_readToken_trialReading C.2.2.2.2.2.2.1 hq) lc40 EC_40 rfl wml_X5_71 wq_X5_readToken rfl ⟨by decide, by decide⟩ rfl rfl ⟨by decide, by decide⟩ dX5_readText_39 42 rfl rfl (Nat.le_of_ble_eq_true rfl) ?_
        refine x_if_ne C dX5_readText_42 45 rfl 47 rfl h (fun h => ?_) (fun h => ?_)
        · refine x_iinc C dX5_readText_47 50 rfl 2 rfl (d := 1) rfl (by decide) (fun v2_47 => [(2, .int v2_47), (0, .ref (ad 40)), (1, .ref (ad 2))]) (fun _ => rfl) h (fun v2_47 h => ?_)
          refine x_goto C dX5_readText_50 17 rfl ?_
          exact x_sub [1, 2, 0] rfl (ih h)
        · refine x_iconst C dX5_readText_45 46 rfl 0 rfl ?_
          exact x_zret C rfl dX5_readText_46 (by decide) h
      · refine x_iconst C dX5_readText_35 36 rfl 1 rfl ?_
        exact x_zret C rfl dX5_readText_36 (by decide) h
theorem c_X5_readText_trialReading {l : Launch} {D : va_G} {ca : Nat → ClassId} {ad : Nat → Nat} (hI : xInj ad NCC) {N : Nat} {ah : AH} {r : Int32} {a : AH} (h : F_X5_readText N 40 ah = some (r, a)) : xMi l yX5_readText cX5_readText 3 (some .boolean) rm_X5_readText D vwCl (tysC ca) (EC ad ca) NCC ad [.ref (ad 40), .ref (ad 2)] ah (r, a) := by
  refine x_meti (by decide) (Nat.le_of_ble_eq_true rfl) hI EC_loc ?_
  intro p e s m args below meth c C
  unfold F_X5_readText at h
  refine x_aload_n C dX5_readText_0 1 rfl 0 rfl ?_
  refine x_iconst C dX5_readText_1 2 rfl 0 rfl ?_
  refine x_put C inX5 40 lc40 EC_40 rfl 0 (by decide) tyX5_ok nmX5 dX5_readText_2 5 rfl wmf_X5_51 rfl rfl rfl (Nat.le_of_ble_eq_true rfl) EP_40_0 h (fun a2 h => ?_)
  refine x_aload_n C dX5_readText_5 6 rfl 0 rfl ?_
  refine x_iconst C dX5_readText_6 7 rfl 0 rfl ?_
  refine x_put C inX5 40 lc40 EC_40 rfl 2 (by decide) tyX5_ok nmX5 dX5_readText_7 10 rfl wmf_X5_55 rfl rfl rfl (Nat.le_of_ble_eq_true rfl) EP_40_2 h (fun a7 h => ?_)
  refine x_aload_n C dX5_readText_10 11 rfl 0 rfl ?_
  refine x_iconst C dX5_readText_11 12 rfl 1 rfl ?_
  refine x_put C inX5 40 lc40 EC_40 rfl 1 (by decide) tyX5_ok nmX5 dX5_readText_12 15 rfl wmf_X5_58 rfl rfl rfl (Nat.le_of_ble_eq_true rfl) EP_40_1 h (fun a12 h => ?_)
  refine x_iconst C dX5_readText_15 16 rfl 0 rfl ?_
  refine x_istore_n C dX5_readText_16 17 rfl (by decide) (fun v2_16 => [(2, .int v2_16), (0, .ref (ad 40)), (1, .ref (ad 2))]) (fun _ => rfl) h (fun v2_16 h => ?_)
  exact x_sub [1, 2, 0] rfl (b_X5_readText_17_trialReading C  N h)
abbrev rm_X7_wordOfChoice : Room := { frames := 3, cells := 0, slots := 0, locals := 64 }
theorem wq_X7_wordOfChoice : xcV RX7 yX7_wordOfChoice cX7_wordOfChoice 3 (some .int) 2 := ⟨wmi_X7_wordOfChoice, wms_X7_wordOfChoice, wmn_X7, wmc_X7_wordOfChoice, by decide, by decide, by decide +kernel⟩
def F_X7_wordOfChoice (N : Nat) (ah : AH) (p1 : Int32) (p2 : Int32) : Option (Int32 × AH) := if 4 ≤ p2 then some ((-1), ah) else xb (F_X0_wordInside N ah p1 p2) (fun r11 a11 => some (r11, a11))
theorem c_X7_wordOfChoice {l : Launch} {D : va_G} {ca : Nat → ClassId} {ad : Nat → Nat} (hI : xInj ad NCC) {N : Nat} {ah : AH} {p1 : Int32} {p2 : Int32} {r : Int32} {a : AH} (h : F_X7_wordOfChoice N ah p1 p2 = some (r, a)) : xMi l yX7_wordOfChoice cX7_wordOfChoice 3 (some .int) rm_X7_wordOfChoice D vwCl (tysC ca) (EC ad ca) NCC ad [.ref (ad 84), .int p1, .int p2] ah (r, a) := by
  refine x_meti (by decide) (Nat.le_of_ble_eq_true rfl) hI EC_loc ?_
  intro p e s m args below meth c C
  unfold F_X7_wordOfChoice at h
  refine x_iload_n C dX7_wordOfChoice_0 1 rfl 2 rfl ?_
  refine x_iconst C dX7_wordOfChoice_1 2 rfl 4 rfl ?_
  refine x_icmp_ge C dX7_wordOfChoice_2 5 rfl 17 rfl h (fun h => ?_) (fun h => ?_)
  · refine x_iconst C dX7_wordOfChoice_17 18 rfl (-1) rfl ?_
    exact x_iret C rfl dX7_wordOfChoice_18 h
  · refine x_aload_n C dX7_wordOfChoice_5 6 rfl 0 rfl ?_
    refine x_get C inX7 84 lc84 EC_84 rfl 2 (by decide) dX7_wordOfChoice_6 9 rfl wmf_X7_29 rfl ?_
    refine x_iload_n C dX7_wordOfChoice_9 10 rfl 1 rfl ?_
    refine x_iload_n C dX7_wordOfChoice_10 11 rfl 2 rfl ?_
    obtain ⟨r11, a11, hq, h⟩ := xb_some h
    refine x_callVi C 74 (c_X0_wordInside C.2.2.2.2.2.2.1 hq) lc74 EC_74 rfl wml_X7_83 wq_X0_wordInside rfl ⟨by decide, by decide⟩ rfl rfl ⟨by decide, by decide⟩ dX7_wordOfChoice_11 14 rfl rfl (Nat.le_of_ble_eq_true rfl) ?_
    refine x_goto C dX7_wordOfChoice_14 18 rfl ?_
    exact x_iret C rfl dX7_wordOfChoice_18 h
abbrev rm_X7_say : Room := { frames := 4, cells := 0, slots := 0, locals := 86 }
theorem wq_X7_say : xcV RX7 yX7_say cX7_say 4 none 0 := ⟨wmi_X7_say, wms_X7_say, wmn_X7, wmc_X7_say, by decide, by decide, by decide +kernel⟩
def F_X7_say_121 (N : Nat) (k55 : AH → Int32 → Int32 → Option AH) (ah : AH) (v1 : Int32) (v2 : Int32) (s1 : Int32) (s2 : Int32) : Option AH := xlet (xu ah 84 6 (s1 + s2)) (fun a122 => xg ((v2 * 5) + v1) 200 (xlet (a122 87 (Int32.toNatClampNeg ((v2 * 5) + v1))) (fun v1_135 => xlet (v2 + 1) (fun v2_136 => k55 a122 v1_135 v2_136))))
def F_X7_say_95 (N : Nat) (k55 : AH → Int32 → Int32 → Option AH) (ah : AH) (v1 : Int32) (v2 : Int32) (v3 : Int32) (s1 : Int32) (s2 : Int32) : Option AH := xlet (xu ah 84 7 (s1 + s2)) (fun a96 => xb (F_X0_mendedWord N a96 v2) (fun r110 a110 => if v3 = r110 then F_X7_say_121 N k55 a110 v1 v2 (a96 84 6) 0 else F_X7_say_121 N k55 a110 v1 v2 (a96 84 6) 1))
def F_X7_say_55 (N : Nat) : Nat → AH → Int32 → Int32 → Option AH
  | 0, _, _, _ => none
  | n + 1, ah, v1, v2 => if (ah 31 0) ≤ v2 then some ah else xb (F_X7_wordOfChoice N ah v2 v1) (fun r69 a69 => xlet r69 (fun v3_72 => xg v2 40 (xlet (xu a69 85 (Int32.toNatClampNeg v2) v3_72) (fun a79 => if v3_72 = ((-1)) then F_X7_say_95 N (F_X7_say_55 N n) a79 v1 v2 v3_72 (a79 84 7) 1 else F_X7_say_95 N (F_X7_say_55 N n) a79 v1 v2 v3_72 (a79 84 7) 0))))
def F_X7_say_37 (N : Nat) (k15 : AH → Int32 → Int32 → Option AH) (ah : AH) (v1 : Int32) (v2 : Int32) : Option AH := xlet (v2 + 1) (fun v2_37 => k15 ah v1 v2_37)
def F_X7_say_15 (N : Nat) : Nat → AH → Int32 → Int32 → Option AH
  | 0, _, _, _ => none
  | n + 1, ah, v1, v2 => if 5 ≤ v2 then xg v1 200 (xlet (xu ah 84 5 (ah 86 (Int32.toNatClampNeg v1))) (fun a50 => xlet 0 (fun v2_54 => F_X7_say_55 N N a50 v1 v2_54))) else xg v2 200 (xg v1 200 (if (ah 86 (Int32.toNatClampNeg v1)) ≤ (ah 86 (Int32.toNatClampNeg v2)) then F_X7_say_37 N (F_X7_say_15 N n) ah v1 v2 else xlet v2 (fun v1_36 => F_X7_say_37 N (F_X7_say_15 N n) ah v1_36 v2)))
def F_X7_say (N : Nat) (ah : AH) : Option AH := if (ah 31 0) = 0 then some ah else xlet 0 (fun v1_12 => xlet 1 (fun v2_14 => F_X7_say_15 N N ah v1_12 v2_14))
theorem b_X7_say_121 (C : XC p l s m args meth c cX7_say 4 none RX7 D vwCl (tysC ca) (EC ad ca) NCC ad) {N : Nat} {o : AH} {k55 : AH → Int32 → Int32 → Option AH} (hk55 : ∀ (ah : AH) (v1 : Int32) (v2 : Int32), k55 ah v1 v2 = some o → XW p l e rm_X7_say s m args below meth c 4 0 (xQv below args s D vwCl (tysC ca) (EC ad ca) NCC ad o) D vwCl (EC ad ca) NCC ad ah 55 [(0, .ref (ad 84)), (1, .int v1), (2, .int v2)] []) {ah : AH} {v1 : Int32} {v2 : Int32} {s1 : Int32} {s2 : Int32} (h : F_X7_say_121 N k55 ah v1 v2 s1 s2 = some o) : XW p l e rm_X7_say s m args below meth c 4 0 (xQv below args s D vwCl (tysC ca) (EC ad ca) NCC ad o) D vwCl (EC ad ca) NCC ad ah 121 [(0, .ref (ad 84)), (1, .int v1), (2, .int v2)] [.int s2, .int s1, .ref (ad 84)] := by
  unfold F_X7_say_121 at h
  refine x_iadd C dX7_say_121 122 rfl ?_
  refine x_put C inX7 84 lc84 EC_84 rfl 6 (by decide) tyX7_ok nmX7 dX7_say_122 125 rfl wmf_X7_59 rfl rfl rfl (Nat.le_of_ble_eq_true rfl) EP_84_6 h (fun a122 h => ?_)
  refine x_aload_n C dX7_say_125 126 rfl 0 rfl ?_
  refine x_get C inX7 84 lc84 EC_84 rfl 10 (by decide) dX7_say_126 129 rfl wmf_X7_18 rfl ?_
  refine x_iload_n C dX7_say_129 130 rfl 2 rfl ?_
  refine x_iconst C dX7_say_130 131 rfl 5 rfl ?_
  refine x_imul C dX7_say_131 132 rfl ?_
  refine x_iload_n C dX7_say_132 133 rfl 1 rfl ?_
  refine x_iadd C dX7_say_133 134 rfl ?_
  refine x_iald C 87 lc87 EC_87 0 rfl dX7_say_134 135 rfl h (fun h => ?_)
  refine x_istore_n C dX7_say_135 136 rfl (by decide) (fun v1_135 => [(1, .int v1_135), (0, .ref (ad 84)), (2, .int v2)]) (fun _ => rfl) h (fun v1_135 h => ?_)
  refine x_iinc C dX7_say_136 139 rfl 2 rfl (d := 1) rfl (by decide) (fun v2_136 => [(2, .int v2_136), (1, .int v1_135), (0, .ref (ad 84))]) (fun _ => rfl) h (fun v2_136 h => ?_)
  refine x_goto C dX7_say_139 55 rfl ?_
  exact x_sub [2, 1, 0] rfl (hk55 _ _ _ h)
theorem b_X7_say_95 (C : XC p l s m args meth c cX7_say 4 none RX7 D vwCl (tysC ca) (EC ad ca) NCC ad) {N : Nat} {o : AH} {k55 : AH → Int32 → Int32 → Option AH} (hk55 : ∀ (ah : AH) (v1 : Int32) (v2 : Int32), k55 ah v1 v2 = some o → XW p l e rm_X7_say s m args below meth c 4 0 (xQv below args s D vwCl (tysC ca) (EC ad ca) NCC ad o) D vwCl (EC ad ca) NCC ad ah 55 [(0, .ref (ad 84)), (1, .int v1), (2, .int v2)] []) {ah : AH} {v1 : Int32} {v2 : Int32} {v3 : Int32} {s1 : Int32} {s2 : Int32} (h : F_X7_say_95 N k55 ah v1 v2 v3 s1 s2 = some o) : XW p l e rm_X7_say s m args below meth c 4 0 (xQv below args s D vwCl (tysC ca) (EC ad ca) NCC ad o) D vwCl (EC ad ca) NCC ad ah 95 [(0, .ref (ad 84)), (1, .int v1), (2, .int v2), (3, .int v3)] [.int s2, .int s1, .ref (ad 84)] := by
  unfold F_X7_say_95 at h
  refine x_iadd C dX7_say_95 96 rfl ?_
  refine x_put C inX7 84 lc84 EC_84 rfl 7 (by decide) tyX7_ok nmX7 dX7_say_96 99 rfl wmf_X7_62 rfl rfl rfl (Nat.le_of_ble_eq_true rfl) EP_84_7 h (fun a96 h => ?_)
  refine x_aload_n C dX7_say_99 100 rfl 0 rfl ?_
  refine x_dup C dX7_say_100 101 rfl rfl ?_
  refine x_get C inX7 84 lc84 EC_84 rfl 6 (by decide) dX7_say_101 104 rfl wmf_X7_59 rfl ?_
  refine x_iload_n C dX7_say_104 105 rfl 3 rfl ?_
  refine x_aload_n C dX7_say_105 106 rfl 0 rfl ?_
  refine x_get C inX7 84 lc84 EC_84 rfl 2 (by decide) dX7_say_106 109 rfl wmf_X7_29 rfl ?_
  refine x_iload_n C dX7_say_109 110 rfl 2 rfl ?_
  obtain ⟨r110, a110, hq, h⟩ := xb_some h
  refine x_callVi C 74 (c_X0_mendedWord C.2.2.2.2.2.2.1 hq) lc74 EC_74 rfl wml_X7_92 wq_X0_mendedWord rfl ⟨by decide, by decide⟩ rfl rfl ⟨by decide, by decide⟩ dX7_say_110 113 rfl rfl (Nat.le_of_ble_eq_true rfl) ?_
  refine x_icmp_ne C dX7_say_113 116 rfl 120 rfl h (fun h => ?_) (fun h => ?_)
  · refine x_iconst C dX7_say_120 121 rfl 1 rfl ?_
    exact x_sub [0, 1, 2] rfl (b_X7_say_121 C hk55 h)
  · refine x_iconst C dX7_say_116 117 rfl 0 rfl ?_
    refine x_goto C dX7_say_117 121 rfl ?_
    exact x_sub [0, 1, 2] rfl (b_X7_say_121 C hk55 h)
theorem b_X7_say_55 (C : XC p l s m args meth c cX7_say 4 none RX7 D vwCl (tysC ca) (EC ad ca) NCC ad) {N : Nat} {o : AH} : ∀ (n : Nat) {ah : AH} {v1 : Int32} {v2 : Int32}, F_X7_say_55 N n ah v1 v2 = some o → XW p l e rm_X7_say s m args below meth c 4 0 (xQv below args s D vwCl (tysC ca) (EC ad ca) NCC ad o) D vwCl (EC ad ca) NCC ad ah 55 [(0, .ref (ad 84)), (1, .int v1), (2, .int v2)] [] := by
  intro n
  induction n with
  | zero => intro ah v1 v2 h; unfold F_X7_say_55 at h; cases h
  | succ n ih =>
    intro ah v1 v2 h
    unfold F_X7_say_55 at h
    refine x_iload_n C dX7_say_55 56 rfl 2 rfl ?_
    refine x_aload_n C dX7_say_56 57 rfl 0 rfl ?_
    refine x_get C inX7 84 lc84 EC_84 rfl 0 (by decide) dX7_say_57 60 rfl wmf_X7_21 rfl ?_
    refine x_get C inX5 31 lc31 EC_31 rfl 0 (by decide) dX7_say_60 63 rfl wmf_X7_40 rfl ?_
    refine x_icmp_ge C dX7_say_63 66 rfl 142 rfl h (fun h => ?_) (fun h => ?_)
    · exact x_vret C rfl dX7_say_142 h
    · refine x_aload_n C dX7_say_66 67 rfl 0 rfl ?_
      refine x_iload_n C dX7_say_67 68 rfl 2 rfl ?_
      refine x_iload_n C dX7_say_68 69 rfl 1 rfl ?_
      obtain ⟨r69, a69, hq, h⟩ := xb_some h
      refine x_callVi C 84 (c_X7_wordOfChoice C.2.2.2.2.2.2.1 hq) lc84 EC_84 rfl wml_X7_68 wq_X7_wordOfChoice rfl ⟨by decide, by decide⟩ rfl rfl ⟨by decide, by decide⟩ dX7_say_69 72 rfl rfl (Nat.le_of_ble_eq_true rfl) ?_
      refine x_istore_n C dX7_say_72 73 rfl (by decide) (fun v3_72 => [(3, .int v3_72), (0, .ref (ad 84)), (1, .int v1), (2, .int v2)]) (fun _ => rfl) h (fun v3_72 h => ?_)
      refine x_aload_n C dX7_say_73 74 rfl 1 rfl ?_
      refine x_get C inX7 84 lc84 EC_84 rfl 8 (by decide) dX7_say_74 77 rfl wmf_X7_11 rfl ?_
      refine x_iload_n C dX7_say_77 78 rfl 3 rfl ?_
      refine x_iload_n C dX7_say_78 79 rfl 0 rfl ?_
      refine x_iast C 85 lc85 (fun _ => EC_85) 0 rfl dX7_say_79 80 rfl h (fun a79 h => ?_)
      refine x_aload_n C dX7_say_80 81 rfl 1 rfl ?_
      refine x_dup C dX7_say_81 82 rfl rfl ?_
      refine x_get C inX7 84 lc84 EC_84 rfl 7 (by decide) dX7_say_82 85 rfl wmf_X7_62 rfl ?_
      refine x_iload_n C dX7_say_85 86 rfl 0 rfl ?_
      refine x_iconst C dX7_say_86 87 rfl (-1) rfl ?_
      refine x_icmp_ne C dX7_say_87 90 rfl 94 rfl h (fun h => ?_) (fun h => ?_)
      · refine x_iconst C dX7_say_94 95 rfl 0 rfl ?_
        exact x_sub [1, 2, 3, 0] rfl (b_X7_say_95 C (fun _ _ _ h => ih h) h)
      · refine x_iconst C dX7_say_90 91 rfl 1 rfl ?_
        refine x_goto C dX7_say_91 95 rfl ?_
        exact x_sub [1, 2, 3, 0] rfl (b_X7_say_95 C (fun _ _ _ h => ih h) h)
theorem b_X7_say_37 (C : XC p l s m args meth c cX7_say 4 none RX7 D vwCl (tysC ca) (EC ad ca) NCC ad) {N : Nat} {o : AH} {k15 : AH → Int32 → Int32 → Option AH} (hk15 : ∀ (ah : AH) (v1 : Int32) (v2 : Int32), k15 ah v1 v2 = some o → XW p l e rm_X7_say s m args below meth c 4 0 (xQv below args s D vwCl (tysC ca) (EC ad ca) NCC ad o) D vwCl (EC ad ca) NCC ad ah 15 [(0, .ref (ad 84)), (1, .int v1), (2, .int v2)] []) {ah : AH} {v1 : Int32} {v2 : Int32} (h : F_X7_say_37 N k15 ah v1 v2 = some o) : XW p l e rm_X7_say s m args below meth c 4 0 (xQv below args s D vwCl (tysC ca) (EC ad ca) NCC ad o) D vwCl (EC ad ca) NCC ad ah 37 [(0, .ref (ad 84)), (1, .int v1), (2, .int v2)] [] := by
  unfold F_X7_say_37 at h
  refine x_iinc C dX7_say_37 40 rfl 2 rfl (d := 1) rfl (by decide) (fun v2_37 => [(2, .int v2_37), (0, .ref (ad 84)), (1, .int v1)]) (fun _ => rfl) h (fun v2_37 h => ?_)
  refine x_goto C dX7_say_40 15 rfl ?_
  exact x_sub [1, 2, 0] rfl (hk15 _ _ _ h)
theorem b_X7_say_15 (C : XC p l s m args meth c cX7_say 4 none RX7 D vwCl (tysC ca) (EC ad ca) NCC ad) {N : Nat} {o : AH} : ∀ (n : Nat) {ah : AH} {v1 : Int32} {v2 : Int32}, F_X7_say_15 N n ah v1 v2 = some o → XW p l e rm_X7_say s m args below meth c 4 0 (xQv below args s D vwCl (tysC ca) (EC ad ca) NCC ad o) D vwCl (EC ad ca) NCC ad ah 15 [(0, .ref (ad 84)), (1, .int v1), (2, .int v2)] [] := by
  intro n
  induction n with
  | zero => intro ah v1 v2 h; unfold F_X7_say_15 at h; cases h
  | succ n ih =>
    intro ah v1 v2 h
    unfold F_X7_say_15 at h
    refine x_iload_n C dX7_say_15 16 rfl 2 rfl ?_
    refine x_iconst C dX7_say_16 17 rfl 5 rfl ?_
    refine x_icmp_ge C dX7_say_17 20 rfl 43 rfl h (fun h => ?_) (fun h => ?_)
    · refine x_aload_n C dX7_say_43 44 rfl 0 rfl ?_
      refine x_aload_n C dX7_say_44 45 rfl 0 rfl ?_
      refine x_get C inX7 84 lc84 EC_84 rfl 9 (by decide) dX7_say_45 48 rfl wmf_X7_15 rfl ?_
      refine x_iload_n C dX7_say_48 49 rfl 1 rfl ?_
      refine x_iald C 86 lc86 EC_86 0 rfl dX7_say_49 50 rfl h (fun h => ?_)
      refine x_put C inX7 84 lc84 EC_84 rfl 5 (by decide) tyX7_ok nmX7 dX7_say_50 53 rfl wmf_X7_56 rfl rfl rfl (Nat.le_of_ble_eq_true rfl) EP_84_5 h (fun a50 h => ?_)
      refine x_iconst C dX7_say_53 54 rfl 0 rfl ?_
      refine x_istore_n C dX7_say_54 55 rfl (by decide) (fun v2_54 => [(2, .int v2_54), (0, .ref (ad 84)), (1, .int v1)]) (fun _ => rfl) h (fun v2_54 h => ?_)
      exact x_sub [1, 2, 0] rfl (b_X7_say_55 C  N h)
    · refine x_aload_n C dX7_say_20 21 rfl 0 rfl ?_
      refine x_get C inX7 84 lc84 EC_84 rfl 9 (by decide) dX7_say_21 24 rfl wmf_X7_15 rfl ?_
      refine x_iload_n C dX7_say_24 25 rfl 2 rfl ?_
      refine x_iald C 86 lc86 EC_86 0 rfl dX7_say_25 26 rfl h (fun h => ?_)
      refine x_aload_n C dX7_say_26 27 rfl 0 rfl ?_
      refine x_get C inX7 84 lc84 EC_84 rfl 9 (by decide) dX7_say_27 30 rfl wmf_X7_15 rfl ?_
      refine x_iload_n C dX7_say_30 31 rfl 1 rfl ?_
      refine x_iald C 86 lc86 EC_86 0 rfl dX7_say_31 32 rfl h (fun h => ?_)
      refine x_icmp_ge C dX7_say_32 35 rfl 37 rfl h (fun h => ?_) (fun h => ?_)
      · exact b_X7_say_37 C (fun _ _ _ h => ih h) h
      · refine x_iload_n C dX7_say_35 36 rfl 2 rfl ?_
        refine x_istore_n C dX7_say_36 37 rfl (by decide) (fun v1_36 => [(1, .int v1_36), (0, .ref (ad 84)), (2, .int v2)]) (fun _ => rfl) h (fun v1_36 h => ?_)
        exact x_sub [1, 0, 2] rfl (b_X7_say_37 C (fun _ _ _ h => ih h) h)
theorem c_X7_say {l : Launch} {D : va_G} {ca : Nat → ClassId} {ad : Nat → Nat} (hI : xInj ad NCC) {N : Nat} {ah : AH} {a : AH} (h : F_X7_say N ah = some a) : xMv l yX7_say cX7_say 4 rm_X7_say D vwCl (tysC ca) (EC ad ca) NCC ad [.ref (ad 84)] ah a := by
  refine x_metv (by decide) (Nat.le_of_ble_eq_true rfl) hI EC_loc ?_
  intro p e s m args below meth c C
  unfold F_X7_say at h
  refine x_aload_n C dX7_say_0 1 rfl 0 rfl ?_
  refine x_get C inX7 84 lc84 EC_84 rfl 0 (by decide) dX7_say_1 4 rfl wmf_X7_21 rfl ?_
  refine x_get C inX5 31 lc31 EC_31 rfl 0 (by decide) dX7_say_4 7 rfl wmf_X7_40 rfl ?_
  refine x_if_ne C dX7_say_7 10 rfl 11 rfl h (fun h => ?_) (fun h => ?_)
  · refine x_iconst C dX7_say_11 12 rfl 0 rfl ?_
    refine x_istore_n C dX7_say_12 13 rfl (by decide) (fun v1_12 => [(1, .int v1_12), (0, .ref (ad 84))]) (fun _ => rfl) h (fun v1_12 h => ?_)
    refine x_iconst C dX7_say_13 14 rfl 1 rfl ?_
    refine x_istore_n C dX7_say_14 15 rfl (by decide) (fun v2_14 => [(2, .int v2_14), (1, .int v1_12), (0, .ref (ad 84))]) (fun _ => rfl) h (fun v2_14 h => ?_)
    exact x_sub [2, 1, 0] rfl (b_X7_say_15 C  N h)
  · exact x_vret C rfl dX7_say_10 h
abbrev rm_X7_between : Room := { frames := 1, cells := 0, slots := 0, locals := 24 }
theorem wq_X7_between : xcV RX7 yX7_between cX7_between 3 (some .int) 2 := ⟨wmi_X7_between, wms_X7_between, wmn_X7, wmc_X7_between, by decide, by decide, by decide +kernel⟩
def F_X7_between_10 (N : Nat) (ah : AH) : Option (Int32 × AH) := some (0, ah)
def F_X7_between (N : Nat) (ah : AH) (p1 : Int32) (p2 : Int32) : Option (Int32 × AH) := if p1 = ((-1)) then F_X7_between_10 N ah else if p2 = ((-1)) then F_X7_between_10 N ah else xb (F_X1_dearOf N 49 ah p1 p2 (ah 1 6)) (fun r27 a27 => some (r27, a27))
theorem b_X7_between_10 (C : XC p l s m args meth c cX7_between 3 (some .int) RX7 D vwCl (tysC ca) (EC ad ca) NCC ad) {N : Nat} {o : (Int32 × AH)} {ah : AH} (h : F_X7_between_10 N ah = some o) : XW p l e rm_X7_between s m args below meth c 3 0 (xQi below args s D vwCl (tysC ca) (EC ad ca) NCC ad o) D vwCl (EC ad ca) NCC ad ah 10 [] [] := by
  unfold F_X7_between_10 at h
  refine x_iconst C dX7_between_10 11 rfl 0 rfl ?_
  refine x_goto C dX7_between_11 30 rfl ?_
  exact x_iret C rfl dX7_between_30 h
theorem c_X7_between {l : Launch} {D : va_G} {ca : Nat → ClassId} {ad : Nat → Nat} (hI : xInj ad NCC) {N : Nat} {ah : AH} {p1 : Int32} {p2 : Int32} {r : Int32} {a : AH} (h : F_X7_between N ah p1 p2 = some (r, a)) : xMi l yX7_between cX7_between 3 (some .int) rm_X7_between D vwCl (tysC ca) (EC ad ca) NCC ad [.ref (ad 84), .int p1, .int p2] ah (r, a) := by
  refine x_meti (by decide) (Nat.le_of_ble_eq_true rfl) hI EC_loc ?_
  intro p e s m args below meth c C
  unfold F_X7_between at h
  refine x_iload_n C dX7_between_0 1 rfl 1 rfl ?_
  refine x_iconst C dX7_between_1 2 rfl (-1) rfl ?_
  refine x_icmp_eq C dX7_between_2 5 rfl 10 rfl h (fun h => ?_) (fun h => ?_)
  · exact x_sub [] rfl (b_X7_between_10 C  h)
  · refine x_iload_n C dX7_between_5 6 rfl 2 rfl ?_
    refine x_iconst C dX7_between_6 7 rfl (-1) rfl ?_
    refine x_icmp_ne C dX7_between_7 10 rfl 14 rfl h (fun h => ?_) (fun h => ?_)
    · refine x_aload_n C dX7_between_14 15 rfl 0 rfl ?_
      refine x_get C inX7 84 lc84 EC_84 rfl 1 (by decide) dX7_between_15 18 rfl wmf_X7_25 rfl ?_
      refine x_iload_n C dX7_between_18 19 rfl 1 rfl ?_
      refine x_iload_n C dX7_between_19 20 rfl 2 rfl ?_
      refine x_aload_n C dX7_between_20 21 rfl 0 rfl ?_
      refine x_get C inX7 84 lc84 EC_84 rfl 3 (by decide) dX7_between_21 24 rfl wmf_X7_33 rfl ?_
      refine x_bipush C dX7_between_24 26 rfl 6 rfl ?_
      refine x_ialdK C 1 lc1 EC_1 0 rfl dX7_between_26 27 rfl (by decide) 6 (by decide) ?_
      obtain ⟨r27, a27, hq, h⟩ := xb_some h
      refine x_callVi C 49 (c_X1_dearOf_follows C.2.2.2.2.2.2.1 hq) lc49 EC_49 rfl wml_X7_86 wq_X1_dearOf rfl ⟨by decide, by decide⟩ rfl rfl ⟨by decide, by decide⟩ dX7_between_27 30 rfl rfl (Nat.le_of_ble_eq_true rfl) ?_
      exact x_iret C rfl dX7_between_30 h
    · exact x_sub [] rfl (b_X7_between_10 C  h)
abbrev rm_X7_weighChoice : Room := { frames := 4, cells := 0, slots := 0, locals := 86 }
theorem wq_X7_weighChoice : xcV RX7 yX7_weighChoice cX7_weighChoice 9 none 2 := ⟨wmi_X7_weighChoice, wms_X7_weighChoice, wmn_X7, wmc_X7_weighChoice, by decide, by decide, by decide +kernel⟩
def F_X7_weighChoice_172 (N : Nat) (k94 : AH → Int32 → Int32 → Int32 → Int32 → Int32 → Option AH) (ah : AH) (v1 : Int32) (v3 : Int32) (v4 : Int32) (v5 : Int32) (v6 : Int32) : Option AH := xlet (v6 + 1) (fun v6_172 => k94 ah v1 v3 v4 v5 v6_172)
def F_X7_weighChoice_94 (N : Nat) : Nat → AH → Int32 → Int32 → Int32 → Int32 → Int32 → Option AH
  | 0, _, _, _, _, _, _ => none
  | n + 1, ah, v1, v3, v4, v5, v6 => if 5 ≤ v6 then some ah else xg (((v1 + 1) * 5) + v6) 200 (xlet (ah 86 (Int32.toNatClampNeg (((v1 + 1) * 5) + v6))) (fun v7_113 => xb (F_X7_wordOfChoice N ah (v1 + 1) v6) (fun r129 a129 => xb (F_X7_between N a129 v4 r129) (fun r132 a132 => xlet ((v5 + v7_113) + r132) (fun v8_136 => if 1000000 ≤ v7_113 then F_X7_weighChoice_172 N (F_X7_weighChoice_94 N n) a132 v1 v3 v4 v5 v6 else xg v3 200 (if (a132 86 (Int32.toNatClampNeg v3)) ≤ v8_136 then F_X7_weighChoice_172 N (F_X7_weighChoice_94 N n) a132 v1 v3 v4 v5 v6 else xg v3 200 (xlet (xu a132 86 (Int32.toNatClampNeg v3) v8_136) (fun a163 => xg v3 200 (xlet (xu a163 87 (Int32.toNatClampNeg v3) v6) (fun a171 => F_X7_weighChoice_172 N (F_X7_weighChoice_94 N n) a171 v1 v3 v4 v5 v6))))))))))
def F_X7_weighChoice_67 (N : Nat) (ah : AH) (v1 : Int32) (v3 : Int32) (v4 : Int32) (s0 : Int32) : Option AH := xlet s0 (fun v5_67 => if (v1 + 1) < (ah 31 0) then xlet 0 (fun v6_92 => F_X7_weighChoice_94 N N ah v1 v3 v4 v5_67 v6_92) else xg v3 200 (xlet (xu ah 86 (Int32.toNatClampNeg v3) v5_67) (fun a89 => some a89)))
def F_X7_weighChoice_41 (N : Nat) (ah : AH) (v1 : Int32) (v2 : Int32) (v3 : Int32) (v4 : Int32) : Option AH := if v4 = ((-1)) then xb (F_X0_outsidePrice N ah v1) (fun r52 a52 => F_X7_weighChoice_67 N a52 v1 v3 v4 r52) else xb (F_X0_priceOf N ah v1 v2) (fun r64 a64 => F_X7_weighChoice_67 N a64 v1 v3 v4 r64)
def F_X7_weighChoice (N : Nat) (ah : AH) (p1 : Int32) (p2 : Int32) : Option AH := xlet ((p1 * 5) + p2) (fun v3_5 => xb (F_X7_wordOfChoice N ah p1 p2) (fun r9 a9 => xlet r9 (fun v4_12 => xg v3_5 200 (xlet (xu a9 86 (Int32.toNatClampNeg v3_5) 1000000) (fun a21 => xg v3_5 200 (xlet (xu a21 87 (Int32.toNatClampNeg v3_5) 0) (fun a28 => if v4_12 = ((-1)) then if 4 ≤ p2 then F_X7_weighChoice_41 N a28 p1 p2 v3_5 v4_12 else some a28 else F_X7_weighChoice_41 N a28 p1 p2 v3_5 v4_12)))))))
theorem b_X7_weighChoice_172 (C : XC p l s m args meth c cX7_weighChoice 9 none RX7 D vwCl (tysC ca) (EC ad ca) NCC ad) {N : Nat} {o : AH} {k94 : AH → Int32 → Int32 → Int32 → Int32 → Int32 → Option AH} (hk94 : ∀ (ah : AH) (v1 : Int32) (v3 : Int32) (v4 : Int32) (v5 : Int32) (v6 : Int32), k94 ah v1 v3 v4 v5 v6 = some o → XW p l e rm_X7_weighChoice s m args below meth c 9 0 (xQv below args s D vwCl (tysC ca) (EC ad ca) NCC ad o) D vwCl (EC ad ca) NCC ad ah 94 [(0, .ref (ad 84)), (1, .int v1), (3, .int v3), (4, .int v4), (5, .int v5), (6, .int v6)] []) {ah : AH} {v1 : Int32} {v3 : Int32} {v4 : Int32} {v5 : Int32} {v6 : Int32} (h : F_X7_weighChoice_172 N k94 ah v1 v3 v4 v5 v6 = some o) : XW p l e rm_X7_weighChoice s m args below meth c 9 0 (xQv below args s D vwCl (tysC ca) (EC ad ca) NCC ad o) D vwCl (EC ad ca) NCC ad ah 172 [(0, .ref (ad 84)), (1, .int v1), (3, .int v3), (4, .int v4), (5, .int v5), (6, .int v6)] [] := by
  unfold F_X7_weighChoice_172 at h
  refine x_iinc C dX7_weighChoice_172 175 rfl 5 rfl (d := 1) rfl (by decide) (fun v6_172 => [(6, .int v6_172), (0, .ref (ad 84)), (1, .int v1), (3, .int v3), (4, .int v4), (5, .int v5)]) (fun _ => rfl) h (fun v6_172 h => ?_)
  refine x_goto C dX7_weighChoice_175 94 rfl ?_
  exact x_sub [1, 2, 3, 4, 5, 0] rfl (hk94 _ _ _ _ _ _ h)
theorem b_X7_weighChoice_94 (C : XC p l s m args meth c cX7_weighChoice 9 none RX7 D vwCl (tysC ca) (EC ad ca) NCC ad) {N : Nat} {o : AH} : ∀ (n : Nat) {ah : AH} {v1 : Int32} {v3 : Int32} {v4 : Int32} {v5 : Int32} {v6 : Int32}, F_X7_weighChoice_94 N n ah v1 v3 v4 v5 v6 = some o → XW p l e rm_X7_weighChoice s m args below meth c 9 0 (xQv below args s D vwCl (tysC ca) (EC ad ca) NCC ad o) D vwCl (EC ad ca) NCC ad ah 94 [(0, .ref (ad 84)), (1, .int v1), (3, .int v3), (4, .int v4), (5, .int v5), (6, .int v6)] [] := by
  intro n
  induction n with
  | zero => intro ah v1 v3 v4 v5 v6 h; unfold F_X7_weighChoice_94 at h; cases h
  | succ n ih =>
    intro ah v1 v3 v4 v5 v6 h
    unfold F_X7_weighChoice_94 at h
    refine x_iload C dX7_weighChoice_94 96 rfl 5 rfl ?_
    refine x_iconst C dX7_weighChoice_96 97 rfl 5 rfl ?_
    refine x_icmp_ge C dX7_weighChoice_97 100 rfl 178 rfl h (fun h => ?_) (fun h => ?_)
    · exact x_vret C rfl dX7_weighChoice_178 h
    · refine x_aload_n C dX7_weighChoice_100 101 rfl 0 rfl ?_
      refine x_get C inX7 84 lc84 EC_84 rfl 9 (by decide) dX7_weighChoice_101 104 rfl wmf_X7_15 rfl ?_
      refine x_iload_n C dX7_weighChoice_104 105 rfl 1 rfl ?_
      refine x_iconst C dX7_weighChoice_105 106 rfl 1 rfl ?_
      refine x_iadd C dX7_weighChoice_106 107 rfl ?_
      refine x_iconst C dX7_weighChoice_107 108 rfl 5 rfl ?_
      refine x_imul C dX7_weighChoice_108 109 rfl ?_
      refine x_iload C dX7_weighChoice_109 111 rfl 5 rfl ?_
      refine x_iadd C dX7_weighChoice_111 112 rfl ?_
      refine x_iald C 86 lc86 EC_86 0 rfl dX7_weighChoice_112 113 rfl h (fun h => ?_)
      refine x_istore C dX7_weighChoice_113 115 rfl (by decide) (fun v7_113 => [(7, .int v7_113), (0, .ref (ad 84)), (1, .int v1), (3, .int v3), (4, .int v4), (5, .int v5), (6, .int v6)]) (fun _ => rfl) h (fun v7_113 h => ?_)
      refine x_iload C dX7_weighChoice_115 117 rfl 5 rfl ?_
      refine x_iload C dX7_weighChoice_117 119 rfl 0 rfl ?_
      refine x_iadd C dX7_weighChoice_119 120 rfl ?_
      refine x_aload_n C dX7_weighChoice_120 121 rfl 1 rfl ?_
      refine x_iload C dX7_weighChoice_121 123 rfl 4 rfl ?_
      refine x_aload_n C dX7_weighChoice_123 124 rfl 1 rfl ?_
      refine x_iload_n C dX7_weighChoice_124 125 rfl 2 rfl ?_
      refine x_iconst C dX7_weighChoice_125 126 rfl 1 rfl ?_
      refine x_iadd C dX7_weighChoice_126 127 rfl ?_
      refine x_iload C dX7_weighChoice_127 129 rfl 6 rfl ?_
      obtain ⟨r129, a129, hq, h⟩ := xb_some h
      refine x_callVi C 84 (c_X7_wordOfChoice C.2.2.2.2.2.2.1 hq) lc84 EC_84 rfl wml_X7_68 wq_X7_wordOfChoice rfl ⟨by decide, by decide⟩ rfl rfl ⟨by decide, by decide⟩ dX7_weighChoice_129 132 rfl rfl (Nat.le_of_ble_eq_true rfl) ?_
      obtain ⟨r132, a132, hq, h⟩ := xb_some h
      refine x_callVi C 84 (c_X7_between C.2.2.2.2.2.2.1 hq) lc84 EC_84 rfl wml_X7_80 wq_X7_between rfl ⟨by decide, by decide⟩ rfl rfl ⟨by decide, by decide⟩ dX7_weighChoice_132 135 rfl rfl (Nat.le_of_ble_eq_true rfl) ?_
      refine x_iadd C dX7_weighChoice_135 136 rfl ?_
      refine x_istore C dX7_weighChoice_136 138 rfl (by decide) (fun v8_136 => [(8, .int v8_136), (7, .int v7_113), (0, .ref (ad 84)), (1, .int v1), (3, .int v3), (4, .int v4), (5, .int v5), (6, .int v6)]) (fun _ => rfl) h (fun v8_136 h => ?_)
      refine x_iload C dX7_weighChoice_138 140 rfl 1 rfl ?_
      refine x_ldc C dX7_weighChoice_140 142 rfl wmk_X7_72 ?_
      refine x_icmp_ge C dX7_weighChoice_142 145 rfl 172 rfl h (fun h => ?_) (fun h => ?_)
      · exact x_sub [2, 3, 4, 5, 6, 7] rfl (b_X7_weighChoice_172 C (fun _ _ _ _ _ _ h => ih h) h)
      · refine x_iload C dX7_weighChoice_145 147 rfl 0 rfl ?_
        refine x_aload_n C dX7_weighChoice_147 148 rfl 2 rfl ?_
        refine x_get C inX7 84 lc84 EC_84 rfl 9 (by decide) dX7_weighChoice_148 151 rfl wmf_X7_15 rfl ?_
        refine x_iload_n C dX7_weighChoice_151 152 rfl 4 rfl ?_
        refine x_iald C 86 lc86 EC_86 0 rfl dX7_weighChoice_152 153 rfl h (fun h => ?_)
        refine x_icmp_ge C dX7_weighChoice_153 156 rfl 172 rfl h (fun h => ?_) (fun h => ?_)
        · exact x_sub [2, 3, 4, 5, 6, 7] rfl (b_X7_weighChoice_172 C (fun _ _ _ _ _ _ h => ih h) h)
        · refine x_aload_n C dX7_weighChoice_156 157 rfl 2 rfl ?_
          refine x_get C inX7 84 lc84 EC_84 rfl 9 (by decide) dX7_weighChoice_157 160 rfl wmf_X7_15 rfl ?_
          refine x_iload_n C dX7_weighChoice_160 161 rfl 4 rfl ?_
          refine x_iload C dX7_weighChoice_161 163 rfl 0 rfl ?_
          refine x_iast C 86 lc86 (fun _ => EC_86) 0 rfl dX7_weighChoice_163 164 rfl h (fun a163 h => ?_)
          refine x_aload_n C dX7_weighChoice_164 165 rfl 2 rfl ?_
          refine x_get C inX7 84 lc84 EC_84 rfl 10 (by decide) dX7_weighChoice_165 168 rfl wmf_X7_18 rfl ?_
          refine x_iload_n C dX7_weighChoice_168 169 rfl 4 rfl ?_
          refine x_iload C dX7_weighChoice_169 171 rfl 7 rfl ?_
          refine x_iast C 87 lc87 (fun _ => EC_87) 0 rfl dX7_weighChoice_171 172 rfl h (fun a171 h => ?_)
          exact x_sub [2, 3, 4, 5, 6, 7] rfl (b_X7_weighChoice_172 C (fun _ _ _ _ _ _ h => ih h) h)
theorem b_X7_weighChoice_67 (C : XC p l s m args meth c cX7_weighChoice 9 none RX7 D vwCl (tysC ca) (EC ad ca) NCC ad) {N : Nat} {o : AH} {ah : AH} {v1 : Int32} {v3 : Int32} {v4 : Int32} {s0 : Int32} (h : F_X7_weighChoice_67 N ah v1 v3 v4 s0 = some o) : XW p l e rm_X7_weighChoice s m args below meth c 9 0 (xQv below args s D vwCl (tysC ca) (EC ad ca) NCC ad o) D vwCl (EC ad ca) NCC ad ah 67 [(0, .ref (ad 84)), (1, .int v1), (3, .int v3), (4, .int v4)] [.int s0] := by
  unfold F_X7_weighChoice_67 at h
  refine x_istore C dX7_weighChoice_67 69 rfl (by decide) (fun v5_67 => [(5, .int v5_67), (0, .ref (ad 84)), (1, .int v1), (3, .int v3), (4, .int v4)]) (fun _ => rfl) h (fun v5_67 h => ?_)
  refine x_iload_n C dX7_weighChoice_69 70 rfl 2 rfl ?_
  refine x_iconst C dX7_weighChoice_70 71 rfl 1 rfl ?_
  refine x_iadd C dX7_weighChoice_71 72 rfl ?_
  refine x_aload_n C dX7_weighChoice_72 73 rfl 1 rfl ?_
  refine x_get C inX7 84 lc84 EC_84 rfl 0 (by decide) dX7_weighChoice_73 76 rfl wmf_X7_21 rfl ?_
  refine x_get C inX5 31 lc31 EC_31 rfl 0 (by decide) dX7_weighChoice_76 79 rfl wmf_X7_40 rfl ?_
  refine x_icmp_lt C dX7_weighChoice_79 82 rfl 91 rfl h (fun h => ?_) (fun h => ?_)
  · refine x_iconst C dX7_weighChoice_91 92 rfl 0 rfl ?_
    refine x_istore C dX7_weighChoice_92 94 rfl (by decide) (fun v6_92 => [(6, .int v6_92), (5, .int v5_67), (0, .ref (ad 84)), (1, .int v1), (3, .int v3), (4, .int v4)]) (fun _ => rfl) h (fun v6_92 h => ?_)
    exact x_sub [2, 3, 4, 5, 1, 0] rfl (b_X7_weighChoice_94 C  N h)
  · refine x_aload_n C dX7_weighChoice_82 83 rfl 1 rfl ?_
    refine x_get C inX7 84 lc84 EC_84 rfl 9 (by decide) dX7_weighChoice_83 86 rfl wmf_X7_15 rfl ?_
    refine x_iload_n C dX7_weighChoice_86 87 rfl 3 rfl ?_
    refine x_iload C dX7_weighChoice_87 89 rfl 0 rfl ?_
    refine x_iast C 86 lc86 (fun _ => EC_86) 0 rfl dX7_weighChoice_89 90 rfl h (fun a89 h => ?_)
    exact x_vret C rfl dX7_weighChoice_90 h
theorem b_X7_weighChoice_41 (C : XC p l s m args meth c cX7_weighChoice 9 none RX7 D vwCl (tysC ca) (EC ad ca) NCC ad) {N : Nat} {o : AH} {ah : AH} {v1 : Int32} {v2 : Int32} {v3 : Int32} {v4 : Int32} (h : F_X7_weighChoice_41 N ah v1 v2 v3 v4 = some o) : XW p l e rm_X7_weighChoice s m args below meth c 9 0 (xQv below args s D vwCl (tysC ca) (EC ad ca) NCC ad o) D vwCl (EC ad ca) NCC ad ah 41 [(0, .ref (ad 84)), (1, .int v1), (2, .int v2), (3, .int v3), (4, .int v4)] [] := by
  unfold F_X7_weighChoice_41 at h
  refine x_iload C dX7_weighChoice_41 43 rfl 4 rfl ?_
  refine x_iconst C dX7_weighChoice_43 44 rfl (-1) rfl ?_
  refine x_icmp_ne C dX7_weighChoice_44 47 rfl 58 rfl h (fun h => ?_) (fun h => ?_)
  · refine x_aload_n C dX7_weighChoice_58 59 rfl 0 rfl ?_
    refine x_get C inX7 84 lc84 EC_84 rfl 2 (by decide) dX7_weighChoice_59 62 rfl wmf_X7_29 rfl ?_
    refine x_iload_n C dX7_weighChoice_62 63 rfl 1 rfl ?_
    refine x_iload_n C dX7_weighChoice_63 64 rfl 2 rfl ?_
    obtain ⟨r64, a64, hq, h⟩ := xb_some h
    refine x_callVi C 74 (c_X0_priceOf C.2.2.2.2.2.2.1 hq) lc74 EC_74 rfl wml_X7_77 wq_X0_priceOf rfl ⟨by decide, by decide⟩ rfl rfl ⟨by decide, by decide⟩ dX7_weighChoice_64 67 rfl rfl (Nat.le_of_ble_eq_true rfl) ?_
    exact x_sub [0, 1, 3, 4] rfl (b_X7_weighChoice_67 C  h)
  · refine x_aload_n C dX7_weighChoice_47 48 rfl 0 rfl ?_
    refine x_get C inX7 84 lc84 EC_84 rfl 2 (by decide) dX7_weighChoice_48 51 rfl wmf_X7_29 rfl ?_
    refine x_iload_n C dX7_weighChoice_51 52 rfl 1 rfl ?_
    obtain ⟨r52, a52, hq, h⟩ := xb_some h
    refine x_callVi C 74 (c_X0_outsidePrice C.2.2.2.2.2.2.1 hq) lc74 EC_74 rfl wml_X7_73 wq_X0_outsidePrice rfl ⟨by decide, by decide⟩ rfl rfl ⟨by decide, by decide⟩ dX7_weighChoice_52 55 rfl rfl (Nat.le_of_ble_eq_true rfl) ?_
    refine x_goto C dX7_weighChoice_55 67 rfl ?_
    exact x_sub [0, 1, 3, 4] rfl (b_X7_weighChoice_67 C  h)
theorem c_X7_weighChoice {l : Launch} {D : va_G} {ca : Nat → ClassId} {ad : Nat → Nat} (hI : xInj ad NCC) {N : Nat} {ah : AH} {p1 : Int32} {p2 : Int32} {a : AH} (h : F_X7_weighChoice N ah p1 p2 = some a) : xMv l yX7_weighChoice cX7_weighChoice 9 rm_X7_weighChoice D vwCl (tysC ca) (EC ad ca) NCC ad [.ref (ad 84), .int p1, .int p2] ah a := by
  refine x_metv (by decide) (Nat.le_of_ble_eq_true rfl) hI EC_loc ?_
  intro p e s m args below meth c C
  unfold F_X7_weighChoice at h
  refine x_iload_n C dX7_weighChoice_0 1 rfl 1 rfl ?_
  refine x_iconst C dX7_weighChoice_1 2 rfl 5 rfl ?_
  refine x_imul C dX7_weighChoice_2 3 rfl ?_
  refine x_iload_n C dX7_weighChoice_3 4 rfl 2 rfl ?_
  refine x_iadd C dX7_weighChoice_4 5 rfl ?_
  refine x_istore_n C dX7_weighChoice_5 6 rfl (by decide) (fun v3_5 => [(3, .int v3_5), (0, .ref (ad 84)), (1, .int p1), (2, .int p2)]) (fun _ => rfl) h (fun v3_5 h => ?_)
  refine x_aload_n C dX7_weighChoice_6 7 rfl 1 rfl ?_
  refine x_iload_n C dX7_weighChoice_7 8 rfl 2 rfl ?_
  refine x_iload_n C dX7_weighChoice_8 9 rfl 3 rfl ?_
  obtain ⟨r9, a9, hq, h⟩ := xb_some h
  refine x_callVi C 84 (c_X7_wordOfChoice C.2.2.2.2.2.2.1 hq) lc84 EC_84 rfl wml_X7_68 wq_X7_wordOfChoice rfl ⟨by decide, by decide⟩ rfl rfl ⟨by decide, by decide⟩ dX7_weighChoice_9 12 rfl rfl (Nat.le_of_ble_eq_true rfl) ?_
  refine x_istore C dX7_weighChoice_12 14 rfl (by decide) (fun v4_12 => [(4, .int v4_12), (3, .int v3_5), (0, .ref (ad 84)), (1, .int p1), (2, .int p2)]) (fun _ => rfl) h (fun v4_12 h => ?_)
  refine x_aload_n C dX7_weighChoice_14 15 rfl 2 rfl ?_
  refine x_get C inX7 84 lc84 EC_84 rfl 9 (by decide) dX7_weighChoice_15 18 rfl wmf_X7_15 rfl ?_
  refine x_iload_n C dX7_weighChoice_18 19 rfl 1 rfl ?_
  refine x_ldc C dX7_weighChoice_19 21 rfl wmk_X7_72 ?_
  refine x_iast C 86 lc86 (fun _ => EC_86) 0 rfl dX7_weighChoice_21 22 rfl h (fun a21 h => ?_)
  refine x_aload_n C dX7_weighChoice_22 23 rfl 2 rfl ?_
  refine x_get C inX7 84 lc84 EC_84 rfl 10 (by decide) dX7_weighChoice_23 26 rfl wmf_X7_18 rfl ?_
  refine x_iload_n C dX7_weighChoice_26 27 rfl 1 rfl ?_
  refine x_iconst C dX7_weighChoice_27 28 rfl 0 rfl ?_
  refine x_iast C 87 lc87 (fun _ => EC_87) 0 rfl dX7_weighChoice_28 29 rfl h (fun a28 h => ?_)
  refine x_iload C dX7_weighChoice_29 31 rfl 0 rfl ?_
  refine x_iconst C dX7_weighChoice_31 32 rfl (-1) rfl ?_
  refine x_icmp_ne C dX7_weighChoice_32 35 rfl 41 rfl h (fun h => ?_) (fun h => ?_)
  · exact x_sub [2, 3, 4, 1, 0] rfl (b_X7_weighChoice_41 C  h)
  · refine x_iload_n C dX7_weighChoice_35 36 rfl 4 rfl ?_
    refine x_iconst C dX7_weighChoice_36 37 rfl 4 rfl ?_
    refine x_icmp_ge C dX7_weighChoice_37 40 rfl 41 rfl h (fun h => ?_) (fun h => ?_)
    · exact x_sub [2, 3, 4, 1, 0] rfl (b_X7_weighChoice_41 C  h)
    · exact x_vret C rfl dX7_weighChoice_40 h
abbrev rm_X7_make : Room := { frames := 5, cells := 0, slots := 0, locals := 124 }
theorem wq_X7_make : xcV RX7 yX7_make cX7_make 3 none 0 := ⟨wmi_X7_make, wms_X7_make, wmn_X7, wmc_X7_make, by decide, by decide, by decide +kernel⟩
def F_X7_make_32 (N : Nat) (k18 : AH → Int32 → Option AH) : Nat → AH → Int32 → Int32 → Option AH
  | 0, _, _, _ => none
  | n + 1, ah, v1, v2 => if 5 ≤ v2 then xlet (v1 + (-1)) (fun v1_49 => k18 ah v1_49) else xbv (F_X7_weighChoice N ah v1 v2) (fun a40 => xlet (v2 + 1) (fun v2_43 => F_X7_make_32 N k18 n a40 v1 v2_43))
def F_X7_make_18 (N : Nat) : Nat → AH → Int32 → Option AH
  | 0, _, _ => none
  | n + 1, ah, v1 => if v1 < 0 then xlet (xu ah 84 5 0) (fun a57 => xlet (xu a57 84 6 0) (fun a62 => xlet (xu a62 84 7 0) (fun a67 => xbv (F_X7_say N a67) (fun a71 => xlet (xu a71 84 4 1) (fun a76 => some a76))))) else xbv (F_X0_lookAlone N ah v1) (fun a27 => xlet 0 (fun v2_31 => F_X7_make_32 N (F_X7_make_18 N n) N a27 v1 v2_31))
def F_X7_make (N : Nat) (ah : AH) : Option AH := if (ah 84 4) = 0 then xlet ((ah 31 0) - 1) (fun v1_17 => F_X7_make_18 N N ah v1_17) else some ah
theorem b_X7_make_32 (C : XC p l s m args meth c cX7_make 3 none RX7 D vwCl (tysC ca) (EC ad ca) NCC ad) {N : Nat} {o : AH} {k18 : AH → Int32 → Option AH} (hk18 : ∀ (ah : AH) (v1 : Int32), k18 ah v1 = some o → XW p l e rm_X7_make s m args below meth c 3 0 (xQv below args s D vwCl (tysC ca) (EC ad ca) NCC ad o) D vwCl (EC ad ca) NCC ad ah 18 [(0, .ref (ad 84)), (1, .int v1)] []) : ∀ (n : Nat) {ah : AH} {v1 : Int32} {v2 : Int32}, F_X7_make_32 N k18 n ah v1 v2 = some o → XW p l e rm_X7_make s m args below meth c 3 0 (xQv below args s D vwCl (tysC ca) (EC ad ca) NCC ad o) D vwCl (EC ad ca) NCC ad ah 32 [(0, .ref (ad 84)), (1, .int v1), (2, .int v2)] [] := by
  intro n
  induction n with
  | zero => intro ah v1 v2 h; unfold F_X7_make_32 at h; cases h
  | succ n ih =>
    intro ah v1 v2 h
    unfold F_X7_make_32 at h
    refine x_iload_n C dX7_make_32 33 rfl 2 rfl ?_
    refine x_iconst C dX7_make_33 34 rfl 5 rfl ?_
    refine x_icmp_ge C dX7_make_34 37 rfl 49 rfl h (fun h => ?_) (fun h => ?_)
    · refine x_iinc C dX7_make_49 52 rfl 1 rfl (d := (-1)) rfl (by decide) (fun v1_49 => [(1, .int v1_49), (0, .ref (ad 84)), (2, .int v2)]) (fun _ => rfl) h (fun v1_49 h => ?_)
      refine x_goto C dX7_make_52 18 rfl ?_
      exact x_sub [1, 0] rfl (hk18 _ _ h)
    · refine x_aload_n C dX7_make_37 38 rfl 0 rfl ?_
      refine x_iload_n C dX7_make_38 39 rfl 1 rfl ?_
      refine x_iload_n C dX7_make_39 40 rfl 2 rfl ?_
      obtain ⟨a40, hq, h⟩ := xbv_some h
      refine x_callVv C 84 (c_X7_weighChoice C.2.2.2.2.2.2.1 hq) lc84 EC_84 rfl wml_X7_52 wq_X7_weighChoice rfl ⟨by decide, by decide⟩ rfl rfl ⟨by decide, by decide⟩ dX7_make_40 43 rfl rfl (Nat.le_of_ble_eq_true rfl) ?_
      refine x_iinc C dX7_make_43 46 rfl 2 rfl (d := 1) rfl (by decide) (fun v2_43 => [(2, .int v2_43), (0, .ref (ad 84)), (1, .int v1)]) (fun _ => rfl) h (fun v2_43 h => ?_)
      refine x_goto C dX7_make_46 32 rfl ?_
      exact x_sub [1, 2, 0] rfl (ih h)
theorem b_X7_make_18 (C : XC p l s m args meth c cX7_make 3 none RX7 D vwCl (tysC ca) (EC ad ca) NCC ad) {N : Nat} {o : AH} : ∀ (n : Nat) {ah : AH} {v1 : Int32}, F_X7_make_18 N n ah v1 = some o → XW p l e rm_X7_make s m args below meth c 3 0 (xQv below args s D vwCl (tysC ca) (EC ad ca) NCC ad o) D vwCl (EC ad ca) NCC ad ah 18 [(0, .ref (ad 84)), (1, .int v1)] [] := by
  intro n
  induction n with
  | zero => intro ah v1 h; unfold F_X7_make_18 at h; cases h
  | succ n ih =>
    intro ah v1 h
    unfold F_X7_make_18 at h
    refine x_iload_n C dX7_make_18 19 rfl 1 rfl ?_
    refine x_if_lt C dX7_make_19 22 rfl 55 rfl h (fun h => ?_) (fun h => ?_)
    · refine x_aload_n C dX7_make_55 56 rfl 0 rfl ?_
      refine x_iconst C dX7_make_56 57 rfl 0 rfl ?_
      refine x_put C inX7 84 lc84 EC_84 rfl 5 (by decide) tyX7_ok nmX7 dX7_make_57 60 rfl wmf_X7_56 rfl rfl rfl (Nat.le_of_ble_eq_true rfl) EP_84_5 h (fun a57 h => ?_)
      refine x_aload_n C dX7_make_60 61 rfl 0 rfl ?_
      refine x_iconst C dX7_make_61 62 rfl 0 rfl ?_
      refine x_put C inX7 84 lc84 EC_84 rfl 6 (by decide) tyX7_ok nmX7 dX7_make_62 65 rfl wmf_X7_59 rfl rfl rfl (Nat.le_of_ble_eq_true rfl) EP_84_6 h (fun a62 h => ?_)
      refine x_aload_n C dX7_make_65 66 rfl 0 rfl ?_
      refine x_iconst C dX7_make_66 67 rfl 0 rfl ?_
      refine x_put C inX7 84 lc84 EC_84 rfl 7 (by decide) tyX7_ok nmX7 dX7_make_67 70 rfl wmf_X7_62 rfl rfl rfl (Nat.le_of_ble_eq_true rfl) EP_84_7 h (fun a67 h => ?_)
      refine x_aload_n C dX7_make_70 71 rfl 0 rfl ?_
      obtain ⟨a71, hq, h⟩ := xbv_some h
      refine x_callVv C 84 (c_X7_say C.2.2.2.2.2.2.1 hq) lc84 EC_84 rfl wml_X7_65 wq_X7_say rfl ⟨by decide, by decide⟩ rfl rfl ⟨by decide, by decide⟩ dX7_make_71 74 rfl rfl (Nat.le_of_ble_eq_true rfl) ?_
      refine x_aload_n C dX7_make_74 75 rfl 0 rfl ?_
      refine x_iconst C dX7_make_75 76 rfl 1 rfl ?_
      refine x_put C inX7 84 lc84 EC_84 rfl 4 (by decide) tyX7_ok nmX7 dX7_make_76 79 rfl wmf_X7_36 rfl rfl rfl (Nat.le_of_ble_eq_true rfl) EP_84_4 h (fun a76 h => ?_)
      exact x_vret C rfl dX7_make_79 h
    · refine x_aload_n C dX7_make_22 23 rfl 0 rfl ?_
      refine x_get C inX7 84 lc84 EC_84 rfl 2 (by decide) dX7_make_23 26 rfl wmf_X7_29 rfl ?_
      refine x_iload_n C dX7_make_26 27 rfl 1 rfl ?_
      obtain ⟨a27, hq, h⟩ := xbv_some h
      refine x_callVv C 74 (c_X0_lookAlone C.2.2.2.2.2.2.1 hq) lc74 EC_74 rfl wml_X7_46 wq_X0_lookAlone rfl ⟨by decide, by decide⟩ rfl rfl ⟨by decide, by decide⟩ dX7_make_27 30 rfl rfl (Nat.le_of_ble_eq_true rfl) ?_
      refine x_iconst C dX7_make_30 31 rfl 0 rfl ?_
      refine x_istore_n C dX7_make_31 32 rfl (by decide) (fun v2_31 => [(2, .int v2_31), (0, .ref (ad 84)), (1, .int v1)]) (fun _ => rfl) h (fun v2_31 h => ?_)
      exact x_sub [1, 2, 0] rfl (b_X7_make_32 C (fun _ _ h => ih h) N h)
theorem c_X7_make {l : Launch} {D : va_G} {ca : Nat → ClassId} {ad : Nat → Nat} (hI : xInj ad NCC) {N : Nat} {ah : AH} {a : AH} (h : F_X7_make N ah = some a) : xMv l yX7_make cX7_make 3 rm_X7_make D vwCl (tysC ca) (EC ad ca) NCC ad [.ref (ad 84)] ah a := by
  refine x_metv (by decide) (Nat.le_of_ble_eq_true rfl) hI EC_loc ?_
  intro p e s m args below meth c C
  unfold F_X7_make at h
  refine x_aload_n C dX7_make_0 1 rfl 0 rfl ?_
  refine x_get C inX7 84 lc84 EC_84 rfl 4 (by decide) dX7_make_1 4 rfl wmf_X7_36 rfl ?_
  refine x_if_eq C dX7_make_4 7 rfl 8 rfl h (fun h => ?_) (fun h => ?_)
  · refine x_aload_n C dX7_make_8 9 rfl 0 rfl ?_
    refine x_get C inX7 84 lc84 EC_84 rfl 0 (by decide) dX7_make_9 12 rfl wmf_X7_21 rfl ?_
    refine x_get C inX5 31 lc31 EC_31 rfl 0 (by decide) dX7_make_12 15 rfl wmf_X7_40 rfl ?_
    refine x_iconst C dX7_make_15 16 rfl 1 rfl ?_
    refine x_isub C dX7_make_16 17 rfl ?_
    refine x_istore_n C dX7_make_17 18 rfl (by decide) (fun v1_17 => [(1, .int v1_17), (0, .ref (ad 84))]) (fun _ => rfl) h (fun v1_17 h => ?_)
    exact x_sub [1, 0] rfl (b_X7_make_18 C  N h)
  · exact x_vret C rfl dX7_make_7 h
abbrev rm_X8_readPart : Room := { frames := 1, cells := 0, slots := 0, locals := 22 }
theorem wq_X8_readPart : xcV RX8 yX8_readPart cX8_readPart 4 (some .int) 2 := ⟨wmi_X8_readPart, wms_X8_readPart, wmn_X8, wmc_X8_readPart, by decide, by decide, by decide +kernel⟩
def F_X8_readPart_2 (N : Nat) (k : Nat) (w2 : Nat) : Nat → AH → Int32 → Option (Int32 × AH)
  | 0, _, _ => none
  | n + 1, ah, v3 => if 3 < v3 then some ((-1), ah) else xb (F_X9_peek N ah 0) (fun r9 a9 => xb (F_X11_isLetter N a9 r9) (fun r12 a12 => if r12 = 0 then if v3 ≤ 0 then xb (F_X9_refuse N a12 1 (a12 2 3)) (fun r30 a30 => some ((-1), a30)) else some (v3, a12) else if v3 = 3 then xb (F_X9_refuse N a12 3 (a12 2 3)) (fun r47 a47 => some ((-1), a47)) else xb (F_X9_peek N a12 0) (fun r64 a64 => xg (((a12 k 0) * 3) + v3) 60 (xlet (xu a64 w2 (Int32.toNatClampNeg (((a12 k 0) * 3) + v3)) r64) (fun a67 => xlet (xu a67 2 3 ((a67 2 3) + 1)) (fun a75 => xlet (v3 + 1) (fun v3_78 => F_X8_readPart_2 N k w2 n a75 v3_78)))))))
def F_X8_readPart (N : Nat) (k : Nat) (w2 : Nat) (ah : AH) : Option (Int32 × AH) := xlet 0 (fun v3_1 => F_X8_readPart_2 N k w2 N ah v3_1)
theorem b_X8_readPart_2_shapes_23 (C : XC p l s m args meth c cX8_readPart 4 (some .int) RX8 D vwCl (tysC ca) (EC ad ca) NCC ad) {N : Nat} {o : (Int32 × AH)} : ∀ (n : Nat) {ah : AH} {v3 : Int32}, F_X8_readPart_2 N 19 23 n ah v3 = some o → XW p l e rm_X8_readPart s m args below meth c 4 0 (xQi below args s D vwCl (tysC ca) (EC ad ca) NCC ad o) D vwCl (EC ad ca) NCC ad ah 2 [(0, .ref (ad 19)), (1, .ref (ad 2)), (2, .ref (ad 23)), (3, .int v3)] [] := by
  intro n
  induction n with
  | zero => intro ah v3 h; unfold F_X8_readPart_2 at h; cases h
  | succ n ih =>
    intro ah v3 h
    unfold F_X8_readPart_2 at h
    refine x_iload_n C dX8_readPart_2 3 rfl 3 rfl ?_
    refine x_iconst C dX8_readPart_3 4 rfl 3 rfl ?_
    refine x_icmp_gt C dX8_readPart_4 7 rfl 84 rfl h (fun h => ?_) (fun h => ?_)
    · refine x_iconst C dX8_readPart_84 85 rfl (-1) rfl ?_
      exact x_iret C rfl dX8_readPart_85 h
    · refine x_aload_n C dX8_readPart_7 8 rfl 1 rfl ?_
      refine x_iconst C dX8_readPart_8 9 rfl 0 rfl ?_
      obtain ⟨r9, a9, hq, h⟩ := xb_some h
      refine x_callVi C 2 (c_X9_peek C.2.2.2.2.2.2.1 hq) lc2 EC_2 rfl wml_X8_44 wq_X9_peek rfl ⟨by decide, by decide⟩ rfl rfl ⟨by decide, by decide⟩ dX8_readPart_9 12 rfl rfl (Nat.le_of_ble_eq_true rfl) ?_
      obtain ⟨r12, a12, hq, h⟩ := xb_some h
      refine x_callNi C (c_X11_isLetter C.2.2.2.2.2.2.1 hq) xn_X8_48 wq_X11_isLetter rfl ⟨by decide, by decide⟩ rfl rfl ⟨by decide, by decide⟩ dX8_readPart_12 15 rfl rfl (Nat.le_of_ble_eq_true rfl) ?_
      refine x_if_ne C dX8_readPart_15 18 rfl 36 rfl h (fun h => ?_) (fun h => ?_)
      · refine x_iload_n C dX8_readPart_36 37 rfl 3 rfl ?_
        refine x_iconst C dX8_readPart_37 38 rfl 3 rfl ?_
        refine x_icmp_ne C dX8_readPart_38 41 rfl 53 rfl h (fun h => ?_) (fun h => ?_)
        · refine x_aload_n C dX8_readPart_53 54 rfl 2 rfl ?_
          refine x_aload_n C dX8_readPart_54 55 rfl 0 rfl ?_
          refine x_get C inX8 19 lc19 EC_19 rfl 0 (by decide) dX8_readPart_55 58 rfl wmf_X8_27 rfl ?_
          refine x_iconst C dX8_readPart_58 59 rfl 3 rfl ?_
          refine x_imul C dX8_readPart_59 60 rfl ?_
          refine x_iload_n C dX8_readPart_60 61 rfl 3 rfl ?_
          refine x_iadd C dX8_readPart_61 62 rfl ?_
          refine x_aload_n C dX8_readPart_62 63 rfl 1 rfl ?_
          refine x_iconst C dX8_readPart_63 64 rfl 0 rfl ?_
          obtain ⟨r64, a64, hq, h⟩ := xb_some h
          refine x_callVi C 2 (c_X9_peek C.2.2.2.2.2.2.1 hq) lc2 EC_2 rfl wml_X8_44 wq_X9_peek rfl ⟨by decide, by decide⟩ rfl rfl ⟨by decide, by decide⟩ dX8_readPart_64 67 rfl rfl (Nat.le_of_ble_eq_true rfl) ?_
          refine x_iast C 23 lc23 (fun _ => EC_23) 0 rfl dX8_readPart_67 68 rfl h (fun a67 h => ?_)
          refine x_aload_n C dX8_readPart_68 69 rfl 1 rfl ?_
          refine x_dup C dX8_readPart_69 70 rfl rfl ?_
          refine x_get C inX9 2 lc2 EC_2 rfl 3 (by decide) dX8_readPart_70 73 rfl wmf_X8_52 rfl ?_
          refine x_iconst C dX8_readPart_73 74 rfl 1 rfl ?_
          refine x_iadd C dX8_readPart_74 75 rfl ?_
          refine x_put C inX9 2 lc2 EC_2 rfl 3 (by decide) tyX9_ok nmX9 dX8_readPart_75 78 rfl wmf_X8_52 rfl rfl rfl (Nat.le_of_ble_eq_true rfl) EP_2_3 h (fun a75 h => ?_)
          refine x_iinc C dX8_readPart_78 81 rfl 3 rfl (d := 1) rfl (by decide) (fun v3_78 => [(3, .int v3_78), (0, .ref (ad 19)), (1, .ref (ad 2)), (2, .ref (ad 23))]) (fun _ => rfl) h (fun v3_78 h => ?_)
          refine x_goto C dX8_readPart_81 2 rfl ?_
          exact x_sub [1, 2, 3, 0] rfl (ih h)
        · refine x_aload_n C dX8_readPart_41 42 rfl 1 rfl ?_
          refine x_iconst C dX8_readPart_42 43 rfl 3 rfl ?_
          refine x_aload_n C dX8_readPart_43 44 rfl 1 rfl ?_
          refine x_get C inX9 2 lc2 EC_2 rfl 3 (by decide) dX8_readPart_44 47 rfl wmf_X8_52 rfl ?_
          obtain ⟨r47, a47, hq, h⟩ := xb_some h
          refine x_callVi C 2 (c_X9_refuse C.2.2.2.2.2.2.1 hq) lc2 EC_2 rfl wml_X8_55 wq_X9_refuse rfl ⟨by decide, by decide⟩ rfl rfl ⟨by decide, by decide⟩ dX8_readPart_47 50 rfl rfl (Nat.le_of_ble_eq_true rfl) ?_
          refine x_pop C dX8_readPart_50 51 rfl rfl ?_
          refine x_iconst C dX8_readPart_51 52 rfl (-1) rfl ?_
          exact x_iret C rfl dX8_readPart_52 h
      · refine x_iload_n C dX8_readPart_18 19 rfl 3 rfl ?_
        refine x_if_le C dX8_readPart_19 22 rfl 24 rfl h (fun h => ?_) (fun h => ?_)
        · refine x_aload_n C dX8_readPart_24 25 rfl 1 rfl ?_
          refine x_iconst C dX8_readPart_25 26 rfl 1 rfl ?_
          refine x_aload_n C dX8_readPart_26 27 rfl 1 rfl ?_
          refine x_get C inX9 2 lc2 EC_2 rfl 3 (by decide) dX8_readPart_27 30 rfl wmf_X8_52 rfl ?_
          obtain ⟨r30, a30, hq, h⟩ := xb_some h
          refine x_callVi C 2 (c_X9_refuse C.2.2.2.2.2.2.1 hq) lc2 EC_2 rfl wml_X8_55 wq_X9_refuse rfl ⟨by decide, by decide⟩ rfl rfl ⟨by decide, by decide⟩ dX8_readPart_30 33 rfl rfl (Nat.le_of_ble_eq_true rfl) ?_
          refine x_pop C dX8_readPart_33 34 rfl rfl ?_
          refine x_iconst C dX8_readPart_34 35 rfl (-1) rfl ?_
          exact x_iret C rfl dX8_readPart_35 h
        · refine x_iload_n C dX8_readPart_22 23 rfl 3 rfl ?_
          exact x_iret C rfl dX8_readPart_23 h
theorem c_X8_readPart_shapes_23 {l : Launch} {D : va_G} {ca : Nat → ClassId} {ad : Nat → Nat} (hI : xInj ad NCC) {N : Nat} {ah : AH} {r : Int32} {a : AH} (h : F_X8_readPart N 19 23 ah = some (r, a)) : xMi l yX8_readPart cX8_readPart 4 (some .int) rm_X8_readPart D vwCl (tysC ca) (EC ad ca) NCC ad [.ref (ad 19), .ref (ad 2), .ref (ad 23)] ah (r, a) := by
  refine x_meti (by decide) (Nat.le_of_ble_eq_true rfl) hI EC_loc ?_
  intro p e s m args below meth c C
  unfold F_X8_readPart at h
  refine x_iconst C dX8_readPart_0 1 rfl 0 rfl ?_
  refine x_istore_n C dX8_readPart_1 2 rfl (by decide) (fun v3_1 => [(3, .int v3_1), (0, .ref (ad 19)), (1, .ref (ad 2)), (2, .ref (ad 23))]) (fun _ => rfl) h (fun v3_1 h => ?_)
  exact x_sub [1, 2, 3, 0] rfl (b_X8_readPart_2_shapes_23 C  N h)
theorem b_X8_readPart_2_shapes_24 (C : XC p l s m args meth c cX8_readPart 4 (some .int) RX8 D vwCl (tysC ca) (EC ad ca) NCC ad) {N : Nat} {o : (Int32 × AH)} : ∀ (n : Nat) {ah : AH} {v3 : Int32}, F_X8_readPart_2 N 19 24 n ah v3 = some o → XW p l e rm_X8_readPart s m args below meth c 4 0 (xQi below args s D vwCl (tysC ca) (EC ad ca) NCC ad o) D vwCl (EC ad ca) NCC ad ah 2 [(0, .ref (ad 19)), (1, .ref (ad 2)), (2, .ref (ad 24)), (3, .int v3)] [] := by
  intro n
  induction n with
  | zero => intro ah v3 h; unfold F_X8_readPart_2 at h; cases h
  | succ n ih =>
    intro ah v3 h
    unfold F_X8_readPart_2 at h
    refine x_iload_n C dX8_readPart_2 3 rfl 3 rfl ?_
    refine x_iconst C dX8_readPart_3 4 rfl 3 rfl ?_
    refine x_icmp_gt C dX8_readPart_4 7 rfl 84 rfl h (fun h => ?_) (fun h => ?_)
    · refine x_iconst C dX8_readPart_84 85 rfl (-1) rfl ?_
      exact x_iret C rfl dX8_readPart_85 h
    · refine x_aload_n C dX8_readPart_7 8 rfl 1 rfl ?_
      refine x_iconst C dX8_readPart_8 9 rfl 0 rfl ?_
      obtain ⟨r9, a9, hq, h⟩ := xb_some h
      refine x_callVi C 2 (c_X9_peek C.2.2.2.2.2.2.1 hq) lc2 EC_2 rfl wml_X8_44 wq_X9_peek rfl ⟨by decide, by decide⟩ rfl rfl ⟨by decide, by decide⟩ dX8_readPart_9 12 rfl rfl (Nat.le_of_ble_eq_true rfl) ?_
      obtain ⟨r12, a12, hq, h⟩ := xb_some h
      refine x_callNi C (c_X11_isLetter C.2.2.2.2.2.2.1 hq) xn_X8_48 wq_X11_isLetter rfl ⟨by decide, by decide⟩ rfl rfl ⟨by decide, by decide⟩ dX8_readPart_12 15 rfl rfl (Nat.le_of_ble_eq_true rfl) ?_
      refine x_if_ne C dX8_readPart_15 18 rfl 36 rfl h (fun h => ?_) (fun h => ?_)
      · refine x_iload_n C dX8_readPart_36 37 rfl 3 rfl ?_
        refine x_iconst C dX8_readPart_37 38 rfl 3 rfl ?_
        refine x_icmp_ne C dX8_readPart_38 41 rfl 53 rfl h (fun h => ?_) (fun h => ?_)
        · refine x_aload_n C dX8_readPart_53 54 rfl 2 rfl ?_
          refine x_aload_n C dX8_readPart_54 55 rfl 0 rfl ?_
          refine x_get C inX8 19 lc19 EC_19 rfl 0 (by decide) dX8_readPart_55 58 rfl wmf_X8_27 rfl ?_
          refine x_iconst C dX8_readPart_58 59 rfl 3 rfl ?_
          refine x_imul C dX8_readPart_59 60 rfl ?_
          refine x_iload_n C dX8_readPart_60 61 rfl 3 rfl ?_
          refine x_iadd C dX8_readPart_61 62 rfl ?_
          refine x_aload_n C dX8_readPart_62 63 rfl 1 rfl ?_
          refine x_iconst C dX8_readPart_63 64 rfl 0 rfl ?_
          obtain ⟨r64, a64, hq, h⟩ := xb_some h
          refine x_callVi C 2 (c_X9_peek C.2.2.2.2.2.2.1 hq) lc2 EC_2 rfl wml_X8_44 wq_X9_peek rfl ⟨by decide, by decide⟩ rfl rfl ⟨by decide, by decide⟩ dX8_readPart_64 67 rfl rfl (Nat.le_of_ble_eq_true rfl) ?_
          refine x_iast C 24 lc24 (fun _ => EC_24) 0 rfl dX8_readPart_67 68 rfl h (fun a67 h => ?_)
          refine x_aload_n C dX8_readPart_68 69 rfl 1 rfl ?_
          refine x_dup C dX8_readPart_69 70 rfl rfl ?_
          refine x_get C inX9 2 lc2 EC_2 rfl 3 (by decide) dX8_readPart_70 73 rfl wmf_X8_52 rfl ?_
          refine x_iconst C dX8_readPart_73 74 rfl 1 rfl ?_
          refine x_iadd C dX8_readPart_74 75 rfl ?_
          refine x_put C inX9 2 lc2 EC_2 rfl 3 (by decide) tyX9_ok nmX9 dX8_readPart_75 78 rfl wmf_X8_52 rfl rfl rfl (Nat.le_of_ble_eq_true rfl) EP_2_3 h (fun a75 h => ?_)
          refine x_iinc C dX8_readPart_78 81 rfl 3 rfl (d := 1) rfl (by decide) (fun v3_78 => [(3, .int v3_78), (0, .ref (ad 19)), (1, .ref (ad 2)), (2, .ref (ad 24))]) (fun _ => rfl) h (fun v3_78 h => ?_)
          refine x_goto C dX8_readPart_81 2 rfl ?_
          exact x_sub [1, 2, 3, 0] rfl (ih h)
        · refine x_aload_n C dX8_readPart_41 42 rfl 1 rfl ?_
          refine x_iconst C dX8_readPart_42 43 rfl 3 rfl ?_
          refine x_aload_n C dX8_readPart_43 44 rfl 1 rfl ?_
          refine x_get C inX9 2 lc2 EC_2 rfl 3 (by decide) dX8_readPart_44 47 rfl wmf_X8_52 rfl ?_
          obtain ⟨r47, a47, hq, h⟩ := xb_some h
          refine x_callVi C 2 (c_X9_refuse C.2.2.2.2.2.2.1 hq) lc2 EC_2 rfl wml_X8_55 wq_X9_refuse rfl ⟨by decide, by decide⟩ rfl rfl ⟨by decide, by decide⟩ dX8_readPart_47 50 rfl rfl (Nat.le_of_ble_eq_true rfl) ?_
          refine x_pop C dX8_readPart_50 51 rfl rfl ?_
          refine x_iconst C dX8_readPart_51 52 rfl (-1) rfl ?_
          exact x_iret C rfl dX8_readPart_52 h
      · refine x_iload_n C dX8_readPart_18 19 rfl 3 rfl ?_
        refine x_if_le C dX8_readPart_19 22 rfl 24 rfl h (fun h => ?_) (fun h => ?_)
        · refine x_aload_n C dX8_readPart_24 25 rfl 1 rfl ?_
          refine x_iconst C dX8_readPart_25 26 rfl 1 rfl ?_
          refine x_aload_n C dX8_readPart_26 27 rfl 1 rfl ?_
          refine x_get C inX9 2 lc2 EC_2 rfl 3 (by decide) dX8_readPart_27 30 rfl wmf_X8_52 rfl ?_
          obtain ⟨r30, a30, hq, h⟩ := xb_some h
          refine x_callVi C 2 (c_X9_refuse C.2.2.2.2.2.2.1 hq) lc2 EC_2 rfl wml_X8_55 wq_X9_refuse rfl ⟨by decide, by decide⟩ rfl rfl ⟨by decide, by decide⟩ dX8_readPart_30 33 rfl rfl (Nat.le_of_ble_eq_true rfl) ?_
          refine x_pop C dX8_readPart_33 34 rfl rfl ?_
          refine x_iconst C dX8_readPart_34 35 rfl (-1) rfl ?_
          exact x_iret C rfl dX8_readPart_35 h
        · refine x_iload_n C dX8_readPart_22 23 rfl 3 rfl ?_
          exact x_iret C rfl dX8_readPart_23 h
theorem c_X8_readPart_shapes_24 {l : Launch} {D : va_G} {ca : Nat → ClassId} {ad : Nat → Nat} (hI : xInj ad NCC) {N : Nat} {ah : AH} {r : Int32} {a : AH} (h : F_X8_readPart N 19 24 ah = some (r, a)) : xMi l yX8_readPart cX8_readPart 4 (some .int) rm_X8_readPart D vwCl (tysC ca) (EC ad ca) NCC ad [.ref (ad 19), .ref (ad 2), .ref (ad 24)] ah (r, a) := by
  refine x_meti (by decide) (Nat.le_of_ble_eq_true rfl) hI EC_loc ?_
  intro p e s m args below meth c C
  unfold F_X8_readPart at h
  refine x_iconst C dX8_readPart_0 1 rfl 0 rfl ?_
  refine x_istore_n C dX8_readPart_1 2 rfl (by decide) (fun v3_1 => [(3, .int v3_1), (0, .ref (ad 19)), (1, .ref (ad 2)), (2, .ref (ad 24))]) (fun _ => rfl) h (fun v3_1 h => ?_)
  exact x_sub [1, 2, 3, 0] rfl (b_X8_readPart_2_shapes_24 C  N h)
abbrev rm_X8_partsAlike : Room := { frames := 0, cells := 0, slots := 0, locals := 0 }
theorem wq_X8_partsAlike : xcV RX8 yX8_partsAlike cX8_partsAlike 2 (some .boolean) 0 := ⟨wmi_X8_partsAlike, wms_X8_partsAlike, wmn_X8, wmc_X8_partsAlike, by decide, by decide, by decide +kernel⟩
def F_X8_partsAlike_25 (N : Nat) (k : Nat) : Nat → AH → Int32 → Option (Int32 × AH)
  | 0, _, _ => none
  | n + 1, ah, v1 => xg (ah k 0) 20 (if (ah (k + 2) (Int32.toNatClampNeg (ah k 0))) ≤ v1 then some (1, ah) else xg (((ah k 0) * 3) + v1) 60 (xg (((ah k 0) * 3) + v1) 60 (if (ah (k + 4) (Int32.toNatClampNeg (((ah k 0) * 3) + v1))) = (ah (k + 5) (Int32.toNatClampNeg (((ah k 0) * 3) + v1))) then xlet (v1 + 1) (fun v1_69 => F_X8_partsAlike_25 N k n ah v1_69) else some (0, ah))))
def F_X8_partsAlike (N : Nat) (k : Nat) (ah : AH) : Option (Int32 × AH) := xg (ah k 0) 20 (xg (ah k 0) 20 (if (ah (k + 2) (Int32.toNatClampNeg (ah k 0))) = (ah (k + 3) (Int32.toNatClampNeg (ah k 0))) then xlet 0 (fun v1_24 => F_X8_partsAlike_25 N k N ah v1_24) else some (0, ah)))
theorem b_X8_partsAlike_25_shapes (C : XC p l s m args meth c cX8_partsAlike 2 (some .boolean) RX8 D vwCl (tysC ca) (EC ad ca) NCC ad) {N : Nat} {o : (Int32 × AH)} : ∀ (n : Nat) {ah : AH} {v1 : Int32}, F_X8_partsAlike_25 N 19 n ah v1 = some o → XW p l e rm_X8_partsAlike s m args below meth c 2 0 (xQi below args s D vwCl (tysC ca) (EC ad ca) NCC ad o) D vwCl (EC ad ca) NCC ad ah 25 [(0, .ref (ad 19)), (1, .int v1)] [] := by
  intro n
  induction n with
  | zero => intro ah v1 h; unfold F_X8_partsAlike_25 at h; cases h
  | succ n ih =>
    intro ah v1 h
    unfold F_X8_partsAlike_25 at h
    refine x_iload_n C dX8_partsAlike_25 26 rfl 1 rfl ?_
    refine x_aload_n C dX8_partsAlike_26 27 rfl 0 rfl ?_
    refine x_get C inX8 19 lc19 EC_19 rfl 2 (by decide) dX8_partsAlike_27 30 rfl wmf_X8_15 rfl ?_
    refine x_aload_n C dX8_partsAlike_30 31 rfl 0 rfl ?_
    refine x_get C inX8 19 lc19 EC_19 rfl 0 (by decide) dX8_partsAlike_31 34 rfl wmf_X8_27 rfl ?_
    refine x_iald C 21 lc21 EC_21 0 rfl dX8_partsAlike_34 35 rfl h (fun h => ?_)
    refine x_icmp_ge C dX8_partsAlike_35 38 rfl 75 rfl h (fun h => ?_) (fun h => ?_)
    · refine x_iconst C dX8_partsAlike_75 76 rfl 1 rfl ?_
      exact x_zret C rfl dX8_partsAlike_76 (by decide) h
    · refine x_aload_n C dX8_partsAlike_38 39 rfl 0 rfl ?_
      refine x_get C inX8 19 lc19 EC_19 rfl 4 (by decide) dX8_partsAlike_39 42 rfl wmf_X8_21 rfl ?_
      refine x_aload_n C dX8_partsAlike_42 43 rfl 0 rfl ?_
      refine x_get C inX8 19 lc19 EC_19 rfl 0 (by decide) dX8_partsAlike_43 46 rfl wmf_X8_27 rfl ?_
      refine x_iconst C dX8_partsAlike_46 47 rfl 3 rfl ?_
      refine x_imul C dX8_partsAlike_47 48 rfl ?_
      refine x_iload_n C dX8_partsAlike_48 49 rfl 1 rfl ?_
      refine x_iadd C dX8_partsAlike_49 50 rfl ?_
      refine x_iald C 23 lc23 EC_23 0 rfl dX8_partsAlike_50 51 rfl h (fun h => ?_)
      refine x_aload_n C dX8_partsAlike_51 52 rfl 0 rfl ?_
      refine x_get C inX8 19 lc19 EC_19 rfl 5 (by decide) dX8_partsAlike_52 55 rfl wmf_X8_24 rfl ?_
      refine x_aload_n C dX8_partsAlike_55 56 rfl 0 rfl ?_
      refine x_get C inX8 19 lc19 EC_19 rfl 0 (by decide) dX8_partsAlike_56 59 rfl wmf_X8_27 rfl ?_
      refine x_iconst C dX8_partsAlike_59 60 rfl 3 rfl ?_
      refine x_imul C dX8_partsAlike_60 61 rfl ?_
      refine x_iload_n C dX8_partsAlike_61 62 rfl 1 rfl ?_
      refine x_iadd C dX8_partsAlike_62 63 rfl ?_
      refine x_iald C 24 lc24 EC_24 0 rfl dX8_partsAlike_63 64 rfl h (fun h => ?_)
      refine x_icmp_eq C dX8_partsAlike_64 67 rfl 69 rfl h (fun h => ?_) (fun h => ?_)
      · refine x_iinc C dX8_partsAlike_69 72 rfl 1 rfl (d := 1) rfl (by decide) (fun v1_69 => [(1, .int v1_69), (0, .ref (ad 19))]) (fun _ => rfl) h (fun v1_69 h => ?_)
        refine x_goto C dX8_partsAlike_72 25 rfl ?_
        exact x_sub [1, 0] rfl (ih h)
      · refine x_iconst C dX8_partsAlike_67 68 rfl 0 rfl ?_
        exact x_zret C rfl dX8_partsAlike_68 (by decide) h
theorem c_X8_partsAlike_shapes {l : Launch} {D : va_G} {ca : Nat → ClassId} {ad : Nat → Nat} (hI : xInj ad NCC) {N : Nat} {ah : AH} {r : Int32} {a : AH} (h : F_X8_partsAlike N 19 ah = some (r, a)) : xMi l yX8_partsAlike cX8_partsAlike 2 (some .boolean) rm_X8_partsAlike D vwCl (tysC ca) (EC ad ca) NCC ad [.ref (ad 19)] ah (r, a) := by
  refine x_meti (by decide) (Nat.le_of_ble_eq_true rfl) hI EC_loc ?_
  intro p e s m args below meth c C
  unfold F_X8_partsAlike at h
  refine x_aload_n C dX8_partsAlike_0 1 rfl 0 rfl ?_
  refine x_get C inX8 19 lc19 EC_19 rfl 2 (by decide) dX8_partsAlike_1 4 rfl wmf_X8_15 rfl ?_
  refine x_aload_n C dX8_partsAlike_4 5 rfl 0 rfl ?_
  refine x_get C inX8 19 lc19 EC_19 rfl 0 (by decide) dX8_partsAlike_5 8 rfl wmf_X8_27 rfl ?_
  refine x_iald C 21 lc21 EC_21 0 rfl dX8_partsAlike_8 9 rfl h (fun h => ?_)
  refine x_aload_n C dX8_partsAlike_9 10 rfl 0 rfl ?_
  refine x_get C inX8 19 lc19 EC_19 rfl 3 (by decide) dX8_partsAlike_10 13 rfl wmf_X8_18 rfl ?_
  refine x_aload_n C dX8_partsAlike_13 14 rfl 0 rfl ?_
  refine x_get C inX8 19 lc19 EC_19 rfl 0 (by decide) dX8_partsAlike_14 17 rfl wmf_X8_27 rfl ?_
  refine x_iald C 22 lc22 EC_22 0 rfl dX8_partsAlike_17 18 rfl h (fun h => ?_)
  refine x_icmp_eq C dX8_partsAlike_18 21 rfl 23 rfl h (fun h => ?_) (fun h => ?_)
  · refine x_iconst C dX8_partsAlike_23 24 rfl 0 rfl ?_
    refine x_istore_n C dX8_partsAlike_24 25 rfl (by decide) (fun v1_24 => [(1, .int v1_24), (0, .ref (ad 19))]) (fun _ => rfl) h (fun v1_24 h => ?_)
    exact x_sub [1, 0] rfl (b_X8_partsAlike_25_shapes C  N h)
  · refine x_iconst C dX8_partsAlike_21 22 rfl 0 rfl ?_
    exact x_zret C rfl dX8_partsAlike_22 (by decide) h
abbrev rm_X8_readEntry : Room := { frames := 3, cells := 0, slots := 0, locals := 68 }
theorem wq_X8_readEntry : xcV RX8 yX8_readEntry cX8_readEntry 3 (some .boolean) 1 := ⟨wmi_X8_readEntry, wms_X8_readEntry, wmn_X8, wmc_X8_readEntry, by decide, by decide, by decide +kernel⟩
def F_X8_readEntry (N : Nat) (k : Nat) (ah : AH) : Option (Int32 × AH) := xb (F_X9_peek N ah 0) (fun r2 a2 => xb (F_X11_isLetter N a2 r2) (fun r5 a5 => if r5 = 0 then xb (F_X9_refuse N a5 1 (a5 2 3)) (fun r17 a17 => xbo r17 (some (r17, a17))) else if (a5 k 0) < 20 then xb (F_X8_readPart N k (k + 4) a5) (fun r54 a54 => xg (a5 k 0) 20 (xlet (xu a54 (k + 2) (Int32.toNatClampNeg (a5 k 0)) r54) (fun a57 => xg (a57 k 0) 20 (if (a57 (k + 2) (Int32.toNatClampNeg (a57 k 0))) = ((-1)) then some (0, a57) else xb (F_X9_peek N a57 0) (fun r75 a75 => if r75 = 61 then xlet (xu a75 2 3 ((a75 2 3) + 1)) (fun a100 => xbv (F_X9_skipBlanks N a100) (fun a104 => xlet (a104 2 3) (fun v2_111 => xb (F_X8_readPart N k (k + 5) a104) (fun r126 a126 => xg (a104 k 0) 20 (xlet (xu a126 (k + 3) (Int32.toNatClampNeg (a104 k 0)) r126) (fun a129 => xg (a129 k 0) 20 (if (a129 (k + 3) (Int32.toNatClampNeg (a129 k 0))) = ((-1)) then some (0, a129) else xb (F_X8_partsAlike N k a129) (fun r146 a146 => if r146 = 0 then xb (F_X9_readEnding N a146 5 1) (fun r170 a170 => xg (a146 k 0) 20 (xlet (xu a170 (k + 1) (Int32.toNatClampNeg (a146 k 0)) r170) (fun a173 => xg (a173 k 0) 20 (if (a173 (k + 1) (Int32.toNatClampNeg (a173 k 0))) = ((-1)) then some (0, a173) else xlet (xu a173 k 0 ((a173 k 0) + 1)) (fun a196 => some (1, a196)))))) else xb (F_X9_refuse N a146 1 v2_111) (fun r155 a155 => xbo r155 (some (r155, a155))))))))))) else xb (F_X9_refuse N a75 1 (a75 2 3)) (fun r89 a89 => xbo r89 (some (r89, a89)))))))) else xb (F_X9_refuse N a5 3 (a5 2 3)) (fun r36 a36 => xbo r36 (some (r36, a36)))))
theorem c_X8_readEntry_shapes {l : Launch} {D : va_G} {ca : Nat → ClassId} {ad : Nat → Nat} (hI : xInj ad NCC) {N : Nat} {ah : AH} {r : Int32} {a : AH} (h : F_X8_readEntry N 19 ah = some (r, a)) : xMi l yX8_readEntry cX8_readEntry 3 (some .boolean) rm_X8_readEntry D vwCl (tysC ca) (EC ad ca) NCC ad [.ref (ad 19), .ref (ad 2)] ah (r, a) := by
  refine x_meti (by decide) (Nat.le_of_ble_eq_true rfl) hI EC_loc ?_
  intro p e s m args below meth c C
  unfold F_X8_readEntry at h
  refine x_aload_n C dX8_readEntry_0 1 rfl 1 rfl ?_
  refine x_iconst C dX8_readEntry_1 2 rfl 0 rfl ?_
  obtain ⟨r2, a2, hq, h⟩ := xb_some h
  refine x_callVi C 2 (c_X9_peek C.2.2.2.2.2.2.1 hq) lc2 EC_2 rfl wml_X8_44 wq_X9_peek rfl ⟨by decide, by decide⟩ rfl rfl ⟨by decide, by decide⟩ dX8_readEntry_2 5 rfl rfl (Nat.le_of_ble_eq_true rfl) ?_
  obtain ⟨r5, a5, hq, h⟩ := xb_some h
  refine x_callNi C (c_X11_isLetter C.2.2.2.2.2.2.1 hq) xn_X8_48 wq_X11_isLetter rfl ⟨by decide, by decide⟩ rfl rfl ⟨by decide, by decide⟩ dX8_readEntry_5 8 rfl rfl (Nat.le_of_ble_eq_true rfl) ?_
  refine x_if_ne C dX8_readEntry_8 11 rfl 21 rfl h (fun h => ?_) (fun h => ?_)
  · refine x_aload_n C dX8_readEntry_21 22 rfl 0 rfl ?_
    refine x_get C inX8 19 lc19 EC_19 rfl 0 (by decide) dX8_readEntry_22 25 rfl wmf_X8_27 rfl ?_
    refine x_bipush C dX8_readEntry_25 27 rfl 20 rfl ?_
    refine x_icmp_lt C dX8_readEntry_27 30 rfl 40 rfl h (fun h => ?_) (fun h => ?_)
    · refine x_aload_n C dX8_readEntry_40 41 rfl 0 rfl ?_
      refine x_get C inX8 19 lc19 EC_19 rfl 2 (by decide) dX8_readEntry_41 44 rfl wmf_X8_15 rfl ?_
      refine x_aload_n C dX8_readEntry_44 45 rfl 0 rfl ?_
      refine x_get C inX8 19 lc19 EC_19 rfl 0 (by decide) dX8_readEntry_45 48 rfl wmf_X8_27 rfl ?_
      refine x_aload_n C dX8_readEntry_48 49 rfl 0 rfl ?_
      refine x_aload_n C dX8_readEntry_49 50 rfl 1 rfl ?_
      refine x_aload_n C dX8_readEntry_50 51 rfl 0 rfl ?_
      refine x_get C inX8 19 lc19 EC_19 rfl 4 (by decide) dX8_readEntry_51 54 rfl wmf_X8_21 rfl ?_
      obtain ⟨r54, a54, hq, h⟩ := xb_some h
      refine x_callVi C 19 (c_X8_readPart_shapes_23 C.2.2.2.2.2.2.1 hq) lc19 EC_19 rfl wml_X8_59 wq_X8_readPart rfl ⟨by decide, by decide⟩ rfl rfl ⟨by decide, by decide⟩ dX8_readEntry_54 57 rfl rfl (Nat.le_of_ble_eq_true rfl) ?_
      refine x_iast C 21 lc21 (fun _ => EC_21) 0 rfl dX8_readEntry_57 58 rfl h (fun a57 h => ?_)
      refine x_aload_n C dX8_readEntry_58 59 rfl 0 rfl ?_
      refine x_get C inX8 19 lc19 EC_19 rfl 2 (by decide) dX8_readEntry_59 62 rfl wmf_X8_15 rfl ?_
      refine x_aload_n C dX8_readEntry_62 63 rfl 0 rfl ?_
      refine x_get C inX8 19 lc19 EC_19 rfl 0 (by decide) dX8_readEntry_63 66 rfl wmf_X8_27 rfl ?_
      refine x_iald C 21 lc21 EC_21 0 rfl dX8_readEntry_66 67 rfl h (fun h => ?_)
      refine x_iconst C dX8_readEntry_67 68 rfl (-1) rfl ?_
      refine x_icmp_ne C dX8_readEntry_68 71 rfl 73 rfl h (fun h => ?_) (fun h => ?_)
      · refine x_aload_n C dX8_readEntry_73 74 rfl 1 rfl ?_
        refine x_iconst C dX8_readEntry_74 75 rfl 0 rfl ?_
        obtain ⟨r75, a75, hq, h⟩ := xb_some h
        refine x_callVi C 2 (c_X9_peek C.2.2.2.2.2.2.1 hq) lc2 EC_2 rfl wml_X8_44 wq_X9_peek rfl ⟨by decide, by decide⟩ rfl rfl ⟨by decide, by decide⟩ dX8_readEntry_75 78 rfl rfl (Nat.le_of_ble_eq_true rfl) ?_
        refine x_bipush C dX8_readEntry_78 80 rfl 61 rfl ?_
        refine x_icmp_eq C dX8_readEntry_80 83 rfl 93 rfl h (fun h => ?_) (fun h => ?_)
        · refine x_aload_n C dX8_readEntry_93 94 rfl 1 rfl ?_
          refine x_dup C dX8_readEntry_94 95 rfl rfl ?_
          refine x_get C inX9 2 lc2 EC_2 rfl 3 (by decide) dX8_readEntry_95 98 rfl wmf_X8_52 rfl ?_
          refine x_iconst C dX8_readEntry_98 99 rfl 1 rfl ?_
          refine x_iadd C dX8_readEntry_99 100 rfl ?_
          refine x_put C inX9 2 lc2 EC_2 rfl 3 (by decide) tyX9_ok nmX9 dX8_readEntry_100 103 rfl wmf_X8_52 rfl rfl rfl (Nat.le_of_ble_eq_true rfl) EP_2_3 h (fun a100 h => ?_)
          refine x_aload_n C dX8_readEntry_103 104 rfl 1 rfl ?_
          obtain ⟨a104, hq, h⟩ := xbv_some h
          refine x_callVv C 2 (c_X9_skipBlanks C.2.2.2.2.2.2.1 hq) lc2 EC_2 rfl wml_X8_31 wq_X9_skipBlanks rfl ⟨by decide, by decide⟩ rfl rfl ⟨by decide, by decide⟩ dX8_readEntry_104 107 rfl rfl (Nat.le_of_ble_eq_true rfl) ?_
          refine x_aload_n C dX8_readEntry_107 108 rfl 1 rfl ?_
          refine x_get C inX9 2 lc2 EC_2 rfl 3 (by decide) dX8_readEntry_108 111 rfl wmf_X8_52 rfl ?_
          refine x_istore_n C dX8_readEntry_111 112 rfl (by decide) (fun v2_111 => [(2, .int v2_111), (0, .ref (ad 19)), (1, .ref (ad 2))]) (fun _ => rfl) h (fun v2_111 h => ?_)
          refine x_aload_n C dX8_readEntry_112 113 rfl 1 rfl ?_
          refine x_get C inX8 19 lc19 EC_19 rfl 3 (by decide) dX8_readEntry_113 116 rfl wmf_X8_18 rfl ?_
          refine x_aload_n C dX8_readEntry_116 117 rfl 1 rfl ?_
          refine x_get C inX8 19 lc19 EC_19 rfl 0 (by decide) dX8_readEntry_117 120 rfl wmf_X8_27 rfl ?_
          refine x_aload_n C dX8_readEntry_120 121 rfl 1 rfl ?_
          refine x_aload_n C dX8_readEntry_121 122 rfl 2 rfl ?_
          refine x_aload_n C dX8_readEntry_122 123 rfl 1 rfl ?_
          refine x_get C inX8 19 lc19 EC_19 rfl 5 (by decide) dX8_readEntry_123 126 rfl wmf_X8_24 rfl ?_
          obtain ⟨r126, a126, hq, h⟩ := xb_some h
          refine x_callVi C 19 (c_X8_readPart_shapes_24 C.2.2.2.2.2.2.1 hq) lc19 EC_19 rfl wml_X8_59 wq_X8_readPart rfl ⟨by decide, by decide⟩ rfl rfl ⟨by decide, by decide⟩ dX8_readEntry_126 129 rfl rfl (Nat.le_of_ble_eq_true rfl) ?_
          refine x_iast C 22 lc22 (fun _ => EC_22) 0 rfl dX8_readEntry_129 130 rfl h (fun a129 h => ?_)
          refine x_aload_n C dX8_readEntry_130 131 rfl 1 rfl ?_
          refine x_get C inX8 19 lc19 EC_19 rfl 3 (by decide) dX8_readEntry_131 134 rfl wmf_X8_18 rfl ?_
          refine x_aload_n C dX8_readEntry_134 135 rfl 1 rfl ?_
          refine x_get C inX8 19 lc19 EC_19 rfl 0 (by decide) dX8_readEntry_135 138 rfl wmf_X8_27 rfl ?_
          refine x_iald C 22 lc22 EC_22 0 rfl dX8_readEntry_138 139 rfl h (fun h => ?_)
          refine x_iconst C dX8_readEntry_139 140 rfl (-1) rfl ?_
          refine x_icmp_ne C dX8_readEntry_140 143 rfl 145 rfl h (fun h => ?_) (fun h => ?_)
          · refine x_aload_n C dX8_readEntry_145 146 rfl 1 rfl ?_
            obtain ⟨r146, a146, hq, h⟩ := xb_some h
            refine x_callVi C 19 (c_X8_partsAlike_shapes C.2.2.2.2.2.2.1 hq) lc19 EC_19 rfl wml_X8_63 wq_X8_partsAlike rfl ⟨by decide, by decide⟩ rfl rfl ⟨by decide, by decide⟩ dX8_readEntry_146 149 rfl rfl (Nat.le_of_ble_eq_true rfl) ?_
            refine x_if_eq C dX8_readEntry_149 152 rfl 159 rfl h (fun h => ?_) (fun h => ?_)
            · refine x_aload_n C dX8_readEntry_159 160 rfl 1 rfl ?_
              refine x_get C inX8 19 lc19 EC_19 rfl 1 (by decide) dX8_readEntry_160 163 rfl wmf_X8_9 rfl ?_
              refine x_aload_n C dX8_readEntry_163 164 rfl 1 rfl ?_
              refine x_get C inX8 19 lc19 EC_19 rfl 0 (by decide) dX8_readEntry_164 167 rfl wmf_X8_27 rfl ?_
              refine x_aload_n C dX8_readEntry_167 168 rfl 2 rfl ?_
              refine x_iconst C dX8_readEntry_168 169 rfl 5 rfl ?_
              refine x_iconst C dX8_readEntry_169 170 rfl 1 rfl ?_
              obtain ⟨r170, a170, hq, h⟩ := xb_some h
              refine x_callVi C 2 (c_X9_readEnding C.2.2.2.2.2.2.1 hq) lc2 EC_2 rfl wml_X8_66 wq_X9_readEnding rfl ⟨by decide, by decide⟩ rfl rfl ⟨by decide, by decide⟩ dX8_readEntry_170 173 rfl rfl (Nat.le_of_ble_eq_true rfl) ?_
              refine x_iast C 20 lc20 (fun _ => EC_20) 0 rfl dX8_readEntry_173 174 rfl h (fun a173 h => ?_)
              refine x_aload_n C dX8_readEntry_174 175 rfl 1 rfl ?_
              refine x_get C inX8 19 lc19 EC_19 rfl 1 (by decide) dX8_readEntry_175 178 rfl wmf_X8_9 rfl ?_
              refine x_aload_n C dX8_readEntry_178 179 rfl 1 rfl ?_
              refine x_get C inX8 19 lc19 EC_19 rfl 0 (by decide) dX8_readEntry_179 182 rfl wmf_X8_27 rfl ?_
              refine x_iald C 20 lc20 EC_20 0 rfl dX8_readEntry_182 183 rfl h (fun h => ?_)
              refine x_iconst C dX8_readEntry_183 184 rfl (-1) rfl ?_
              refine x_icmp_ne C dX8_readEntry_184 187 rfl 189 rfl h (fun h => ?_) (fun h => ?_)
              · refine x_aload_n C dX8_readEntry_189 190 rfl 1 rfl ?_
                refine x_dup C dX8_readEntry_190 191 rfl rfl ?_
                refine x_get C inX8 19 lc19 EC_19 rfl 0 (by decide) dX8_readEntry_191 194 rfl wmf_X8_27 rfl ?_
                refine x_iconst C dX8_readEntry_194 195 rfl 1 rfl ?_
                refine x_iadd C dX8_readEntry_195 196 rfl ?_
                refine x_put C inX8 19 lc19 EC_19 rfl 0 (by decide) tyX8_ok nmX8 dX8_readEntry_196 199 rfl wmf_X8_27 rfl rfl rfl (Nat.le_of_ble_eq_true rfl) EP_19_0 h (fun a196 h => ?_)
                refine x_iconst C dX8_readEntry_199 200 rfl 1 rfl ?_
                exact x_zret C rfl dX8_readEntry_200 (by decide) h
              · refine x_iconst C dX8_readEntry_187 188 rfl 0 rfl ?_
                exact x_zret C rfl dX8_readEntry_188 (by decide) h
            · refine x_aload_n C dX8_readEntry_152 153 rfl 2 rfl ?_
              refine x_iconst C dX8_readEntry_153 154 rfl 1 rfl ?_
              refine x_iload_n C dX8_readEntry_154 155 rfl 0 rfl ?_
              obtain ⟨r155, a155, hq, h⟩ := xb_some h
              refine x_callVi C 2 (c_X9_refuse C.2.2.2.2.2.2.1 hq) lc2 EC_2 rfl wml_X8_55 wq_X9_refuse rfl ⟨by decide, by decide⟩ rfl rfl ⟨by decide, by decide⟩ dX8_readEntry_155 158 rfl rfl (Nat.le_of_ble_eq_true rfl) ?_
              exact x_zretB C rfl dX8_readEntry_158 h
          · refine x_iconst C dX8_readEntry_143 144 rfl 0 rfl ?_
            exact x_zret C rfl dX8_readEntry_144 (by decide) h
        · refine x_aload_n C dX8_readEntry_83 84 rfl 1 rfl ?_
          refine x_iconst C dX8_readEntry_84 85 rfl 1 rfl ?_
          refine x_aload_n C dX8_readEntry_85 86 rfl 1 rfl ?_
          refine x_get C inX9 2 lc2 EC_2 rfl 3 (by decide) dX8_readEntry_86 89 rfl wmf_X8_52 rfl ?_
          obtain ⟨r89, a89, hq, h⟩ := xb_some h
          refine x_callVi C 2 (c_X9_refuse C.2.2.2.2.2.2.1 hq) lc2 EC_2 rfl wml_X8_55 wq_X9_refuse rfl ⟨by decide, by decide⟩ rfl rfl ⟨by decide, by decide⟩ dX8_readEntry_89 92 rfl rfl (Nat.le_of_ble_eq_true rfl) ?_
          exact x_zretB C rfl dX8_readEntry_92 h
      · refine x_iconst C dX8_readEntry_71 72 rfl 0 rfl ?_
        exact x_zret C rfl dX8_readEntry_72 (by decide) h
    · refine x_aload_n C dX8_readEntry_30 31 rfl 1 rfl ?_
      refine x_iconst C dX8_readEntry_31 32 rfl 3 rfl ?_
      refine x_aload_n C dX8_readEntry_32 33 rfl 1 rfl ?_
      refine x_get C inX9 2 lc2 EC_2 rfl 3 (by decide) dX8_readEntry_33 36 rfl wmf_X8_52 rfl ?_
      obtain ⟨r36, a36, hq, h⟩ := xb_some h
      refine x_callVi C 2 (c_X9_refuse C.2.2.2.2.2.2.1 hq) lc2 EC_2 rfl wml_X8_55 wq_X9_refuse rfl ⟨by decide, by decide⟩ rfl rfl ⟨by decide, by decide⟩ dX8_readEntry_36 39 rfl rfl (Nat.le_of_ble_eq_true rfl) ?_
      exact x_zretB C rfl dX8_readEntry_39 h
  · refine x_aload_n C dX8_readEntry_11 12 rfl 1 rfl ?_
    refine x_iconst C dX8_readEntry_12 13 rfl 1 rfl ?_
    refine x_aload_n C dX8_readEntry_13 14 rfl 1 rfl ?_
    refine x_get C inX9 2 lc2 EC_2 rfl 3 (by decide) dX8_readEntry_14 17 rfl wmf_X8_52 rfl ?_
    obtain ⟨r17, a17, hq, h⟩ := xb_some h
    refine x_callVi C 2 (c_X9_refuse C.2.2.2.2.2.2.1 hq) lc2 EC_2 rfl wml_X8_55 wq_X9_refuse rfl ⟨by decide, by decide⟩ rfl rfl ⟨by decide, by decide⟩ dX8_readEntry_17 20 rfl rfl (Nat.le_of_ble_eq_true rfl) ?_
    exact x_zretB C rfl dX8_readEntry_20 h
abbrev rm_X8_readText : Room := { frames := 4, cells := 0, slots := 0, locals := 90 }
theorem wq_X8_readText : xcV RX8 yX8_readText cX8_readText 3 (some .boolean) 1 := ⟨wmi_X8_readText, wms_X8_readText, wmn_X8, wmc_X8_readText, by decide, by decide, by decide +kernel⟩
def F_X8_readText_7 (N : Nat) (k : Nat) : Nat → AH → Int32 → Option (Int32 × AH)
  | 0, _, _ => none
  | n + 1, ah, v2 => if 20 < v2 then some (0, ah) else xbv (F_X9_skipBlanks N ah) (fun a14 => xb (F_X9_atEnd N a14) (fun r18 a18 => if r18 = 0 then xb (F_X8_readEntry N k a18) (fun r28 a28 => if r28 = 0 then some (0, a28) else xlet (v2 + 1) (fun v2_36 => F_X8_readText_7 N k n a28 v2_36)) else some (1, a18)))
def F_X8_readText (N : Nat) (k : Nat) (ah : AH) : Option (Int32 × AH) := xlet (xu ah k 0 0) (fun a2 => xlet 0 (fun v2_6 => F_X8_readText_7 N k N a2 v2_6))
theorem b_X8_readText_7_shapes (C : XC p l s m args meth c cX8_readText 3 (some .boolean) RX8 D vwCl (tysC ca) (EC ad ca) NCC ad) {N : Nat} {o : (Int32 × AH)} : ∀ (n : Nat) {ah : AH} {v2 : Int32}, F_X8_readText_7 N 19 n ah v2 = some o → XW p l e rm_X8_readText s m args below meth c 3 0 (xQi below args s D vwCl (tysC ca) (EC ad ca) NCC ad o) D vwCl (EC ad ca) NCC ad ah 7 [(0, .ref (ad 19)), (1, .ref (ad 2)), (2, .int v2)] [] := by
  intro n
  induction n with
  | zero => intro ah v2 h; unfold F_X8_readText_7 at h; cases h
  | succ n ih =>
    intro ah v2 h
    unfold F_X8_readText_7 at h
    refine x_iload_n C dX8_readText_7 8 rfl 2 rfl ?_
    refine x_bipush C dX8_readText_8 10 rfl 20 rfl ?_
    refine x_icmp_gt C dX8_readText_10 13 rfl 42 rfl h (fun h => ?_) (fun h => ?_)
    · refine x_iconst C dX8_readText_42 43 rfl 0 rfl ?_
      exact x_zret C rfl dX8_readText_43 (by decide) h
    · refine x_aload_n C dX8_readText_13 14 rfl 1 rfl ?_
      obtain ⟨a14, hq, h⟩ := xbv_some h
      refine x_callVv C 2 (c_X9_skipBlanks C.2.2.2.2.2.2.1 hq) lc2 EC_2 rfl wml_X8_31 wq_X9_skipBlanks rfl ⟨by decide, by decide⟩ rfl rfl ⟨by decide, by decide⟩ dX8_readText_14 17 rfl rfl (Nat.le_of_ble_eq_true rfl) ?_
      refine x_aload_n C dX8_readText_17 18 rfl 1 rfl ?_
      obtain ⟨r18, a18, hq, h⟩ := xb_some h
      refine x_callVi C 2 (c_X9_atEnd C.2.2.2.2.2.2.1 hq) lc2 EC_2 rfl wml_X8_36 wq_X9_atEnd rfl ⟨by decide, by decide⟩ rfl rfl ⟨by decide, by decide⟩ dX8_readText_18 21 rfl rfl (Nat.le_of_ble_eq_true rfl) ?_
      refine x_if_eq C dX8_readText_21 24 rfl 26 rfl h (fun h => ?_) (fun h => ?_)
      · refine x_aload_n C dX8_readText_26 27 rfl 0 rfl ?_
        refine x_aload_n C dX8_readText_27 28 rfl 1 rfl ?_
        obtain ⟨r28, a28, hq, h⟩ := xb_some h
        refine x_callVi C 19 (c_X8_readEntry_shapes C.2.2.2.2.2.2.1 hq) lc19 EC_19 rfl wml_X8_40 wq_X8_readEntry rfl ⟨by decide, by decide⟩ rfl rfl ⟨by decide, by decide⟩ dX8_readText_28 31 rfl rfl (Nat.le_of_ble_eq_true rfl) ?_
        refine x_if_ne C dX8_readText_31 34 rfl 36 rfl h (fun h => ?_) (fun h => ?_)
        · refine x_iinc C dX8_readText_36 39 rfl 2 rfl (d := 1) rfl (by decide) (fun v2_36 => [(2, .int v2_36), (0, .ref (ad 19)), (1, .ref (ad 2))]) (fun _ => rfl) h (fun v2_36 h => ?_)
          refine x_goto C dX8_readText_39 7 rfl ?_
          exact x_sub [1, 2, 0] rfl (ih h)
        · refine x_iconst C dX8_readText_34 35 rfl 0 rfl ?_
          exact x_zret C rfl dX8_readText_35 (by decide) h
      · refine x_iconst C dX8_readText_24 25 rfl 1 rfl ?_
        exact x_zret C rfl dX8_readText_25 (by decide) h
theorem c_X8_readText_shapes {l : Launch} {D : va_G} {ca : Nat → ClassId} {ad : Nat → Nat} (hI : xInj ad NCC) {N : Nat} {ah : AH} {r : Int32} {a : AH} (h : F_X8_readText N 19 ah = some (r, a)) : xMi l yX8_readText cX8_readText 3 (some .boolean) rm_X8_readText D vwCl (tysC ca) (EC ad ca) NCC ad [.ref (ad 19), .ref (ad 2)] ah (r, a) := by
  refine x_meti (by decide) (Nat.le_of_ble_eq_true rfl) hI EC_loc ?_
  intro p e s m args below meth c C
  unfold F_X8_readText at h
  refine x_aload_n C dX8_readText_0 1 rfl 0 rfl ?_
  refine x_iconst C dX8_readText_1 2 rfl 0 rfl ?_
  refine x_put C inX8 19 lc19 EC_19 rfl 0 (by decide) tyX8_ok nmX8 dX8_readText_2 5 rfl wmf_X8_27 rfl rfl rfl (Nat.le_of_ble_eq_true rfl) EP_19_0 h (fun a2 h => ?_)
  refine x_iconst C dX8_readText_5 6 rfl 0 rfl ?_
  refine x_istore_n C dX8_readText_6 7 rfl (by decide) (fun v2_6 => [(2, .int v2_6), (0, .ref (ad 19)), (1, .ref (ad 2))]) (fun _ => rfl) h (fun v2_6 h => ?_)
  exact x_sub [1, 2, 0] rfl (b_X8_readText_7_shapes C  N h)
theorem b_X8_readPart_2_trialShapes_29 (C : XC p l s m args meth c cX8_readPart 4 (some .int) RX8 D vwCl (tysC ca) (EC ad ca) NCC ad) {N : Nat} {o : (Int32 × AH)} : ∀ (n : Nat) {ah : AH} {v3 : Int32}, F_X8_readPart_2 N 25 29 n ah v3 = some o → XW p l e rm_X8_readPart s m args below meth c 4 0 (xQi below args s D vwCl (tysC ca) (EC ad ca) NCC ad o) D vwCl (EC ad ca) NCC ad ah 2 [(0, .ref (ad 25)), (1, .ref (ad 2)), (2, .ref (ad 29)), (3, .int v3)] [] := by
  intro n
  induction n with
  | zero => intro ah v3 h; unfold F_X8_readPart_2 at h; cases h
  | succ n ih =>
    intro ah v3 h
    unfold F_X8_readPart_2 at h
    refine x_iload_n C dX8_readPart_2 3 rfl 3 rfl ?_
    refine x_iconst C dX8_readPart_3 4 rfl 3 rfl ?_
    refine x_icmp_gt C dX8_readPart_4 7 rfl 84 rfl h (fun h => ?_) (fun h => ?_)
    · refine x_iconst C dX8_readPart_84 85 rfl (-1) rfl ?_
      exact x_iret C rfl dX8_readPart_85 h
    · refine x_aload_n C dX8_readPart_7 8 rfl 1 rfl ?_
      refine x_iconst C dX8_readPart_8 9 rfl 0 rfl ?_
      obtain ⟨r9, a9, hq, h⟩ := xb_some h
      refine x_callVi C 2 (c_X9_peek C.2.2.2.2.2.2.1 hq) lc2 EC_2 rfl wml_X8_44 wq_X9_peek rfl ⟨by decide, by decide⟩ rfl rfl ⟨by decide, by decide⟩ dX8_readPart_9 12 rfl rfl (Nat.le_of_ble_eq_true rfl) ?_
      obtain ⟨r12, a12, hq, h⟩ := xb_some h
      refine x_callNi C (c_X11_isLetter C.2.2.2.2.2.2.1 hq) xn_X8_48 wq_X11_isLetter rfl ⟨by decide, by decide⟩ rfl rfl ⟨by decide, by decide⟩ dX8_readPart_12 15 rfl rfl (Nat.le_of_ble_eq_true rfl) ?_
      refine x_if_ne C dX8_readPart_15 18 rfl 36 rfl h (fun h => ?_) (fun h => ?_)
      · refine x_iload_n C dX8_readPart_36 37 rfl 3 rfl ?_
        refine x_iconst C dX8_readPart_37 38 rfl 3 rfl ?_
        refine x_icmp_ne C dX8_readPart_38 41 rfl 53 rfl h (fun h => ?_) (fun h => ?_)
        · refine x_aload_n C dX8_readPart_53 54 rfl 2 rfl ?_
          refine x_aload_n C dX8_readPart_54 55 rfl 0 rfl ?_
          refine x_get C inX8 25 lc25 EC_25 rfl 0 (by decide) dX8_readPart_55 58 rfl wmf_X8_27 rfl ?_
          refine x_iconst C dX8_readPart_58 59 rfl 3 rfl ?_
          refine x_imul C dX8_readPart_59 60 rfl ?_
          refine x_iload_n C dX8_readPart_60 61 rfl 3 rfl ?_
          refine x_iadd C dX8_readPart_61 62 rfl ?_
          refine x_aload_n C dX8_readPart_62 63 rfl 1 rfl ?_
          refine x_iconst C dX8_readPart_63 64 rfl 0 rfl ?_
          obtain ⟨r64, a64, hq, h⟩ := xb_some h
          refine x_callVi C 2 (c_X9_peek C.2.2.2.2.2.2.1 hq) lc2 EC_2 rfl wml_X8_44 wq_X9_peek rfl ⟨by decide, by decide⟩ rfl rfl ⟨by decide, by decide⟩ dX8_readPart_64 67 rfl rfl (Nat.le_of_ble_eq_true rfl) ?_
          refine x_iast C 29 lc29 (fun _ => EC_29) 0 rfl dX8_readPart_67 68 rfl h (fun a67 h => ?_)
          refine x_aload_n C dX8_readPart_68 69 rfl 1 rfl ?_
          refine x_dup C dX8_readPart_69 70 rfl rfl ?_
          refine x_get C inX9 2 lc2 EC_2 rfl 3 (by decide) dX8_readPart_70 73 rfl wmf_X8_52 rfl ?_
          refine x_iconst C dX8_readPart_73 74 rfl 1 rfl ?_
          refine x_iadd C dX8_readPart_74 75 rfl ?_
          refine x_put C inX9 2 lc2 EC_2 rfl 3 (by decide) tyX9_ok nmX9 dX8_readPart_75 78 rfl wmf_X8_52 rfl rfl rfl (Nat.le_of_ble_eq_true rfl) EP_2_3 h (fun a75 h => ?_)
          refine x_iinc C dX8_readPart_78 81 rfl 3 rfl (d := 1) rfl (by decide) (fun v3_78 => [(3, .int v3_78), (0, .ref (ad 25)), (1, .ref (ad 2)), (2, .ref (ad 29))]) (fun _ => rfl) h (fun v3_78 h => ?_)
          refine x_goto C dX8_readPart_81 2 rfl ?_
          exact x_sub [1, 2, 3, 0] rfl (ih h)
        · refine x_aload_n C dX8_readPart_41 42 rfl 1 rfl ?_
          refine x_iconst C dX8_readPart_42 43 rfl 3 rfl ?_
          refine x_aload_n C dX8_readPart_43 44 rfl 1 rfl ?_
          refine x_get C inX9 2 lc2 EC_2 rfl 3 (by decide) dX8_readPart_44 47 rfl wmf_X8_52 rfl ?_
          obtain ⟨r47, a47, hq, h⟩ := xb_some h
          refine x_callVi C 2 (c_X9_refuse C.2.2.2.2.2.2.1 hq) lc2 EC_2 rfl wml_X8_55 wq_X9_refuse rfl ⟨by decide, by decide⟩ rfl rfl ⟨by decide, by decide⟩ dX8_readPart_47 50 rfl rfl (Nat.le_of_ble_eq_true rfl) ?_
          refine x_pop C dX8_readPart_50 51 rfl rfl ?_
          refine x_iconst C dX8_readPart_51 52 rfl (-1) rfl ?_
          exact x_iret C rfl dX8_readPart_52 h
      · refine x_iload_n C dX8_readPart_18 19 rfl 3 rfl ?_
        refine x_if_le C dX8_readPart_19 22 rfl 24 rfl h (fun h => ?_) (fun h => ?_)
        · refine x_aload_n C dX8_readPart_24 25 rfl 1 rfl ?_
          refine x_iconst C dX8_readPart_25 26 rfl 1 rfl ?_
          refine x_aload_n C dX8_readPart_26 27 rfl 1 rfl ?_
          refine x_get C inX9 2 lc2 EC_2 rfl 3 (by decide) dX8_readPart_27 30 rfl wmf_X8_52 rfl ?_
          obtain ⟨r30, a30, hq, h⟩ := xb_some h
          refine x_callVi C 2 (c_X9_refuse C.2.2.2.2.2.2.1 hq) lc2 EC_2 rfl wml_X8_55 wq_X9_refuse rfl ⟨by decide, by decide⟩ rfl rfl ⟨by decide, by decide⟩ dX8_readPart_30 33 rfl rfl (Nat.le_of_ble_eq_true rfl) ?_
          refine x_pop C dX8_readPart_33 34 rfl rfl ?_
          refine x_iconst C dX8_readPart_34 35 rfl (-1) rfl ?_
          exact x_iret C rfl dX8_readPart_35 h
        · refine x_iload_n C dX8_readPart_22 23 rfl 3 rfl ?_
          exact x_iret C rfl dX8_readPart_23 h
theorem c_X8_readPart_trialShapes_29 {l : Launch} {D : va_G} {ca : Nat → ClassId} {ad : Nat → Nat} (hI : xInj ad NCC) {N : Nat} {ah : AH} {r : Int32} {a : AH} (h : F_X8_readPart N 25 29 ah = some (r, a)) : xMi l yX8_readPart cX8_readPart 4 (some .int) rm_X8_readPart D vwCl (tysC ca) (EC ad ca) NCC ad [.ref (ad 25), .ref (ad 2), .ref (ad 29)] ah (r, a) := by
  refine x_meti (by decide) (Nat.le_of_ble_eq_true rfl) hI EC_loc ?_
  intro p e s m args below meth c C
  unfold F_X8_readPart at h
  refine x_iconst C dX8_readPart_0 1 rfl 0 rfl ?_
  refine x_istore_n C dX8_readPart_1 2 rfl (by decide) (fun v3_1 => [(3, .int v3_1), (0, .ref (ad 25)), (1, .ref (ad 2)), (2, .ref (ad 29))]) (fun _ => rfl) h (fun v3_1 h => ?_)
  exact x_sub [1, 2, 3, 0] rfl (b_X8_readPart_2_trialShapes_29 C  N h)
theorem b_X8_readPart_2_trialShapes_30 (C : XC p l s m args meth c cX8_readPart 4 (some .int) RX8 D vwCl (tysC ca) (EC ad ca) NCC ad) {N : Nat} {o : (Int32 × AH)} : ∀ (n : Nat) {ah : AH} {v3 : Int32}, F_X8_readPart_2 N 25 30 n ah v3 = some o → XW p l e rm_X8_readPart s m args below meth c 4 0 (xQi below args s D vwCl (tysC ca) (EC ad ca) NCC ad o) D vwCl (EC ad ca) NCC ad ah 2 [(0, .ref (ad 25)), (1, .ref (ad 2)), (2, .ref (ad 30)), (3, .int v3)] [] := by
  intro n
  induction n with
  | zero => intro ah v3 h; unfold F_X8_readPart_2 at h; cases h
  | succ n ih =>
    intro ah v3 h
    unfold F_X8_readPart_2 at h
    refine x_iload_n C dX8_readPart_2 3 rfl 3 rfl ?_
    refine x_iconst C dX8_readPart_3 4 rfl 3 rfl ?_
    refine x_icmp_gt C dX8_readPart_4 7 rfl 84 rfl h (fun h => ?_) (fun h => ?_)
    · refine x_iconst C dX8_readPart_84 85 rfl (-1) rfl ?_
      exact x_iret C rfl dX8_readPart_85 h
    · refine x_aload_n C dX8_readPart_7 8 rfl 1 rfl ?_
      refine x_iconst C dX8_readPart_8 9 rfl 0 rfl ?_
      obtain ⟨r9, a9, hq, h⟩ := xb_some h
      refine x_callVi C 2 (c_X9_peek C.2.2.2.2.2.2.1 hq) lc2 EC_2 rfl wml_X8_44 wq_X9_peek rfl ⟨by decide, by decide⟩ rfl rfl ⟨by decide, by decide⟩ dX8_readPart_9 12 rfl rfl (Nat.le_of_ble_eq_true rfl) ?_
      obtain ⟨r12, a12, hq, h⟩ := xb_some h
      refine x_callNi C (c_X11_isLetter C.2.2.2.2.2.2.1 hq) xn_X8_48 wq_X11_isLetter rfl ⟨by decide, by decide⟩ rfl rfl ⟨by decide, by decide⟩ dX8_readPart_12 15 rfl rfl (Nat.le_of_ble_eq_true rfl) ?_
      refine x_if_ne C dX8_readPart_15 18 rfl 36 rfl h (fun h => ?_) (fun h => ?_)
      · refine x_iload_n C dX8_readPart_36 37 rfl 3 rfl ?_
        refine x_iconst C dX8_readPart_37 38 rfl 3 rfl ?_
        refine x_icmp_ne C dX8_readPart_38 41 rfl 53 rfl h (fun h => ?_) (fun h => ?_)
        · refine x_aload_n C dX8_readPart_53 54 rfl 2 rfl ?_
          refine x_aload_n C dX8_readPart_54 55 rfl 0 rfl ?_
          refine x_get C inX8 25 lc25 EC_25 rfl 0 (by decide) dX8_readPart_55 58 rfl wmf_X8_27 rfl ?_
          refine x_iconst C dX8_readPart_58 59 rfl 3 rfl ?_
          refine x_imul C dX8_readPart_59 60 rfl ?_
          refine x_iload_n C dX8_readPart_60 61 rfl 3 rfl ?_
          refine x_iadd C dX8_readPart_61 62 rfl ?_
          refine x_aload_n C dX8_readPart_62 63 rfl 1 rfl ?_
          refine x_iconst C dX8_readPart_63 64 rfl 0 rfl ?_
          obtain ⟨r64, a64, hq, h⟩ := xb_some h
          refine x_callVi C 2 (c_X9_peek C.2.2.2.2.2.2.1 hq) lc2 EC_2 rfl wml_X8_44 wq_X9_peek rfl ⟨by decide, by decide⟩ rfl rfl ⟨by decide, by decide⟩ dX8_readPart_64 67 rfl rfl (Nat.le_of_ble_eq_true rfl) ?_
          refine x_iast C 30 lc30 (fun _ => EC_30) 0 rfl dX8_readPart_67 68 rfl h (fun a67 h => ?_)
          refine x_aload_n C dX8_readPart_68 69 rfl 1 rfl ?_
          refine x_dup C dX8_readPart_69 70 rfl rfl ?_
          refine x_get C inX9 2 lc2 EC_2 rfl 3 (by decide) dX8_readPart_70 73 rfl wmf_X8_52 rfl ?_
          refine x_iconst C dX8_readPart_73 74 rfl 1 rfl ?_
          refine x_iadd C dX8_readPart_74 75 rfl ?_
          refine x_put C inX9 2 lc2 EC_2 rfl 3 (by decide) tyX9_ok nmX9 dX8_readPart_75 78 rfl wmf_X8_52 rfl rfl rfl (Nat.le_of_ble_eq_true rfl) EP_2_3 h (fun a75 h => ?_)
          refine x_iinc C dX8_readPart_78 81 rfl 3 rfl (d := 1) rfl (by decide) (fun v3_78 => [(3, .int v3_78), (0, .ref (ad 25)), (1, .ref (ad 2)), (2, .ref (ad 30))]) (fun _ => rfl) h (fun v3_78 h => ?_)
          refine x_goto C dX8_readPart_81 2 rfl ?_
          exact x_sub [1, 2, 3, 0] rfl (ih h)
        · refine x_aload_n C dX8_readPart_41 42 rfl 1 rfl ?_
          refine x_iconst C dX8_readPart_42 43 rfl 3 rfl ?_
          refine x_aload_n C dX8_readPart_43 44 rfl 1 rfl ?_
          refine x_get C inX9 2 lc2 EC_2 rfl 3 (by decide) dX8_readPart_44 47 rfl wmf_X8_52 rfl ?_
          obtain ⟨r47, a47, hq, h⟩ := xb_some h
          refine x_callVi C 2 (c_X9_refuse C.2.2.2.2.2.2.1 hq) lc2 EC_2 rfl wml_X8_55 wq_X9_refuse rfl ⟨by decide, by decide⟩ rfl rfl ⟨by decide, by decide⟩ dX8_readPart_47 50 rfl rfl (Nat.le_of_ble_eq_true rfl) ?_
          refine x_pop C dX8_readPart_50 51 rfl rfl ?_
          refine x_iconst C dX8_readPart_51 52 rfl (-1) rfl ?_
          exact x_iret C rfl dX8_readPart_52 h
      · refine x_iload_n C dX8_readPart_18 19 rfl 3 rfl ?_
        refine x_if_le C dX8_readPart_19 22 rfl 24 rfl h (fun h => ?_) (fun h => ?_)
        · refine x_aload_n C dX8_readPart_24 25 rfl 1 rfl ?_
          refine x_iconst C dX8_readPart_25 26 rfl 1 rfl ?_
          refine x_aload_n C dX8_readPart_26 27 rfl 1 rfl ?_
          refine x_get C inX9 2 lc2 EC_2 rfl 3 (by decide) dX8_readPart_27 30 rfl wmf_X8_52 rfl ?_
          obtain ⟨r30, a30, hq, h⟩ := xb_some h
          refine x_callVi C 2 (c_X9_refuse C.2.2.2.2.2.2.1 hq) lc2 EC_2 rfl wml_X8_55 wq_X9_refuse rfl ⟨by decide, by decide⟩ rfl rfl ⟨by decide, by decide⟩ dX8_readPart_30 33 rfl rfl (Nat.le_of_ble_eq_true rfl) ?_
          refine x_pop C dX8_readPart_33 34 rfl rfl ?_
          refine x_iconst C dX8_readPart_34 35 rfl (-1) rfl ?_
          exact x_iret C rfl dX8_readPart_35 h
        · refine x_iload_n C dX8_readPart_22 23 rfl 3 rfl ?_
          exact x_iret C rfl dX8_readPart_23 h
theorem c_X8_readPart_trialShapes_30 {l : Launch} {D : va_G} {ca : Nat → ClassId} {ad : Nat → Nat} (hI : xInj ad NCC) {N : Nat} {ah : AH} {r : Int32} {a : AH} (h : F_X8_readPart N 25 30 ah = some (r, a)) : xMi l yX8_readPart cX8_readPart 4 (some .int) rm_X8_readPart D vwCl (tysC ca) (EC ad ca) NCC ad [.ref (ad 25), .ref (ad 2), .ref (ad 30)] ah (r, a) := by
  refine x_meti (by decide) (Nat.le_of_ble_eq_true rfl) hI EC_loc ?_
  intro p e s m args below meth c C
  unfold F_X8_readPart at h
  refine x_iconst C dX8_readPart_0 1 rfl 0 rfl ?_
  refine x_istore_n C dX8_readPart_1 2 rfl (by decide) (fun v3_1 => [(3, .int v3_1), (0, .ref (ad 25)), (1, .ref (ad 2)), (2, .ref (ad 30))]) (fun _ => rfl) h (fun v3_1 h => ?_)
  exact x_sub [1, 2, 3, 0] rfl (b_X8_readPart_2_trialShapes_30 C  N h)
theorem b_X8_partsAlike_25_trialShapes (C : XC p l s m args meth c cX8_partsAlike 2 (some .boolean) RX8 D vwCl (tysC ca) (EC ad ca) NCC ad) {N : Nat} {o : (Int32 × AH)} : ∀ (n : Nat) {ah : AH} {v1 : Int32}, F_X8_partsAlike_25 N 25 n ah v1 = some o → XW p l e rm_X8_partsAlike s m args below meth c 2 0 (xQi below args s D vwCl (tysC ca) (EC ad ca) NCC ad o) D vwCl (EC ad ca) NCC ad ah 25 [(0, .ref (ad 25)), (1, .int v1)] [] := by
  intro n
  induction n with
  | zero => intro ah v1 h; unfold F_X8_partsAlike_25 at h; cases h
  | succ n ih =>
    intro ah v1 h
    unfold F_X8_partsAlike_25 at h
    refine x_iload_n C dX8_partsAlike_25 26 rfl 1 rfl ?_
    refine x_aload_n C dX8_partsAlike_26 27 rfl 0 rfl ?_
    refine x_get C inX8 25 lc25 EC_25 rfl 2 (by decide) dX8_partsAlike_27 30 rfl wmf_X8_15 rfl ?_
    refine x_aload_n C dX8_partsAlike_30 31 rfl 0 rfl ?_
    refine x_get C inX8 25 lc25 EC_25 rfl 0 (by decide) dX8_partsAlike_31 34 rfl wmf_X8_27 rfl ?_
    refine x_iald C 27 lc27 EC_27 0 rfl dX8_partsAlike_34 35 rfl h (fun h => ?_)
    refine x_icmp_ge C dX8_partsAlike_35 38 rfl 75 rfl h (fun h => ?_) (fun h => ?_)
    · refine x_iconst C dX8_partsAlike_75 76 rfl 1 rfl ?_
      exact x_zret C rfl dX8_partsAlike_76 (by decide) h
    · refine x_aload_n C dX8_partsAlike_38 39 rfl 0 rfl ?_
      refine x_get C inX8 25 lc25 EC_25 rfl 4 (by decide) dX8_partsAlike_39 42 rfl wmf_X8_21 rfl ?_
      refine x_aload_n C dX8_partsAlike_42 43 rfl 0 rfl ?_
      refine x_get C inX8 25 lc25 EC_25 rfl 0 (by decide) dX8_partsAlike_43 46 rfl wmf_X8_27 rfl ?_
      refine x_iconst C dX8_partsAlike_46 47 rfl 3 rfl ?_
      refine x_imul C dX8_partsAlike_47 48 rfl ?_
      refine x_iload_n C dX8_partsAlike_48 49 rfl 1 rfl ?_
      refine x_iadd C dX8_partsAlike_49 50 rfl ?_
      refine x_iald C 29 lc29 EC_29 0 rfl dX8_partsAlike_50 51 rfl h (fun h => ?_)
      refine x_aload_n C dX8_partsAlike_51 52 rfl 0 rfl ?_
      refine x_get C inX8 25 lc25 EC_25 rfl 5 (by decide) dX8_partsAlike_52 55 rfl wmf_X8_24 rfl ?_
      refine x_aload_n C dX8_partsAlike_55 56 rfl 0 rfl ?_
      refine x_get C inX8 25 lc25 EC_25 rfl 0 (by decide) dX8_partsAlike_56 59 rfl wmf_X8_27 rfl ?_
      refine x_iconst C dX8_partsAlike_59 60 rfl 3 rfl ?_
      refine x_imul C dX8_partsAlike_60 61 rfl ?_
      refine x_iload_n C dX8_partsAlike_61 62 rfl 1 rfl ?_
      refine x_iadd C dX8_partsAlike_62 63 rfl ?_
      refine x_iald C 30 lc30 EC_30 0 rfl dX8_partsAlike_63 64 rfl h (fun h => ?_)
      refine x_icmp_eq C dX8_partsAlike_64 67 rfl 69 rfl h (fun h => ?_) (fun h => ?_)
      · refine x_iinc C dX8_partsAlike_69 72 rfl 1 rfl (d := 1) rfl (by decide) (fun v1_69 => [(1, .int v1_69), (0, .ref (ad 25))]) (fun _ => rfl) h (fun v1_69 h => ?_)
        refine x_goto C dX8_partsAlike_72 25 rfl ?_
        exact x_sub [1, 0] rfl (ih h)
      · refine x_iconst C dX8_partsAlike_67 68 rfl 0 rfl ?_
        exact x_zret C rfl dX8_partsAlike_68 (by decide) h
theorem c_X8_partsAlike_trialShapes {l : Launch} {D : va_G} {ca : Nat → ClassId} {ad : Nat → Nat} (hI : xInj ad NCC) {N : Nat} {ah : AH} {r : Int32} {a : AH} (h : F_X8_partsAlike N 25 ah = some (r, a)) : xMi l yX8_partsAlike cX8_partsAlike 2 (some .boolean) rm_X8_partsAlike D vwCl (tysC ca) (EC ad ca) NCC ad [.ref (ad 25)] ah (r, a) := by
  refine x_meti (by decide) (Nat.le_of_ble_eq_true rfl) hI EC_loc ?_
  intro p e s m args below meth c C
  unfold F_X8_partsAlike at h
  refine x_aload_n C dX8_partsAlike_0 1 rfl 0 rfl ?_
  refine x_get C inX8 25 lc25 EC_25 rfl 2 (by decide) dX8_partsAlike_1 4 rfl wmf_X8_15 rfl ?_
  refine x_aload_n C dX8_partsAlike_4 5 rfl 0 rfl ?_
  refine x_get C inX8 25 lc25 EC_25 rfl 0 (by decide) dX8_partsAlike_5 8 rfl wmf_X8_27 rfl ?_
  refine x_iald C 27 lc27 EC_27 0 rfl dX8_partsAlike_8 9 rfl h (fun h => ?_)
  refine x_aload_n C dX8_partsAlike_9 10 rfl 0 rfl ?_
  refine x_get C inX8 25 lc25 EC_25 rfl 3 (by decide) dX8_partsAlike_10 13 rfl wmf_X8_18 rfl ?_
  refine x_aload_n C dX8_partsAlike_13 14 rfl 0 rfl ?_
  refine x_get C inX8 25 lc25 EC_25 rfl 0 (by decide) dX8_partsAlike_14 17 rfl wmf_X8_27 rfl ?_
  refine x_iald C 28 lc28 EC_28 0 rfl dX8_partsAlike_17 18 rfl h (fun h => ?_)
  refine x_icmp_eq C dX8_partsAlike_18 21 rfl 23 rfl h (fun h => ?_) (fun h => ?_)
  · refine x_iconst C dX8_partsAlike_23 24 rfl 0 rfl ?_
    refine x_istore_n C dX8_partsAlike_24 25 rfl (by decide) (fun v1_24 => [(1, .int v1_24), (0, .ref (ad 25))]) (fun _ => rfl) h (fun v1_24 h => ?_)
    exact x_sub [1, 0] rfl (b_X8_partsAlike_25_trialShapes C  N h)
  · refine x_iconst C dX8_partsAlike_21 22 rfl 0 rfl ?_
    exact x_zret C rfl dX8_partsAlike_22 (by decide) h
theorem c_X8_readEntry_trialShapes {l : Launch} {D : va_G} {ca : Nat → ClassId} {ad : Nat → Nat} (hI : xInj ad NCC) {N : Nat} {ah : AH} {r : Int32} {a : AH} (h : F_X8_readEntry N 25 ah = some (r, a)) : xMi l yX8_readEntry cX8_readEntry 3 (some .boolean) rm_X8_readEntry D vwCl (tysC ca) (EC ad ca) NCC ad [.ref (ad 25), .ref (ad 2)] ah (r, a) := by
  refine x_meti (by decide) (Nat.le_of_ble_eq_true rfl) hI EC_loc ?_
  intro p e s m args below meth c C
  unfold F_X8_readEntry at h
  refine x_aload_n C dX8_readEntry_0 1 rfl 1 rfl ?_
  refine x_iconst C dX8_readEntry_1 2 rfl 0 rfl ?_
  obtain ⟨r2, a2, hq, h⟩ := xb_some h
  refine x_callVi C 2 (c_X9_peek C.2.2.2.2.2.2.1 hq) lc2 EC_2 rfl wml_X8_44 wq_X9_peek rfl ⟨by decide, by decide⟩ rfl rfl ⟨by decide, by decide⟩ dX8_readEntry_2 5 rfl rfl (Nat.le_of_ble_eq_true rfl) ?_
  obtain ⟨r5, a5, hq, h⟩ := xb_some h
  refine x_callNi C (c_X11_isLetter C.2.2.2.2.2.2.1 hq) xn_X8_48 wq_X11_isLetter rfl ⟨by decide, by decide⟩ rfl rfl ⟨by decide, by decide⟩ dX8_readEntry_5 8 rfl rfl (Nat.le_of_ble_eq_true rfl) ?_
  refine x_if_ne C dX8_readEntry_8 11 rfl 21 rfl h (fun h => ?_) (fun h => ?_)
  · refine x_aload_n C dX8_readEntry_21 22 rfl 0 rfl ?_
    refine x_get C inX8 25 lc25 EC_25 rfl 0 (by decide) dX8_readEntry_22 25 rfl wmf_X8_27 rfl ?_
    refine x_bipush C dX8_readEntry_25 27 rfl 20 rfl ?_
    refine x_icmp_lt C dX8_readEntry_27 30 rfl 40 rfl h (fun h => ?_) (fun h => ?_)
    · refine x_aload_n C dX8_readEntry_40 41 rfl 0 rfl ?_
      refine x_get C inX8 25 lc25 EC_25 rfl 2 (by decide) dX8_readEntry_41 44 rfl wmf_X8_15 rfl ?_
      refine x_aload_n C dX8_readEntry_44 45 rfl 0 rfl ?_
      refine x_get C inX8 25 lc25 EC_25 rfl 0 (by decide) dX8_readEntry_45 48 rfl wmf_X8_27 rfl ?_
      refine x_aload_n C dX8_readEntry_48 49 rfl 0 rfl ?_
      refine x_aload_n C dX8_readEntry_49 50 rfl 1 rfl ?_
      refine x_aload_n C dX8_readEntry_50 51 rfl 0 rfl ?_
      refine x_get C inX8 25 lc25 EC_25 rfl 4 (by decide) dX8_readEntry_51 54 rfl wmf_X8_21 rfl ?_
      obtain ⟨r54, a54, hq, h⟩ := xb_some h
      refine x_callVi C 25 (c_X8_readPart_trialShapes_29 C.2.2.2.2.2.2.1 hq) lc25 EC_25 rfl wml_X8_59 wq_X8_readPart rfl ⟨by decide, by decide⟩ rfl rfl ⟨by decide, by decide⟩ dX8_readEntry_54 57 rfl rfl (Nat.le_of_ble_eq_true rfl) ?_
      refine x_iast C 27 lc27 (fun _ => EC_27) 0 rfl dX8_readEntry_57 58 rfl h (fun a57 h => ?_)
      refine x_aload_n C dX8_readEntry_58 59 rfl 0 rfl ?_
      refine x_get C inX8 25 lc25 EC_25 rfl 2 (by decide) dX8_readEntry_59 62 rfl wmf_X8_15 rfl ?_
      refine x_aload_n C dX8_readEntry_62 63 rfl 0 rfl ?_
      refine x_get C inX8 25 lc25 EC_25 rfl 0 (by decide) dX8_readEntry_63 66 rfl wmf_X8_27 rfl ?_
      refine x_iald C 27 lc27 EC_27 0 rfl dX8_readEntry_66 67 rfl h (fun h => ?_)
      refine x_iconst C dX8_readEntry_67 68 rfl (-1) rfl ?_
      refine x_icmp_ne C dX8_readEntry_68 71 rfl 73 rfl h (fun h => ?_) (fun h => ?_)
      · refine x_aload_n C dX8_readEntry_73 74 rfl 1 rfl ?_
        refine x_iconst C dX8_readEntry_74 75 rfl 0 rfl ?_
        obtain ⟨r75, a75, hq, h⟩ := xb_some h
        refine x_callVi C 2 (c_X9_peek C.2.2.2.2.2.2.1 hq) lc2 EC_2 rfl wml_X8_44 wq_X9_peek rfl ⟨by decide, by decide⟩ rfl rfl ⟨by decide, by decide⟩ dX8_readEntry_75 78 rfl rfl (Nat.le_of_ble_eq_true rfl) ?_
        refine x_bipush C dX8_readEntry_78 80 rfl 61 rfl ?_
        refine x_icmp_eq C dX8_readEntry_80 83 rfl 93 rfl h (fun h => ?_) (fun h => ?_)
        · refine x_aload_n C dX8_readEntry_93 94 rfl 1 rfl ?_
          refine x_dup C dX8_readEntry_94 95 rfl rfl ?_
          refine x_get C inX9 2 lc2 EC_2 rfl 3 (by decide) dX8_readEntry_95 98 rfl wmf_X8_52 rfl ?_
          refine x_iconst C dX8_readEntry_98 99 rfl 1 rfl ?_
          refine x_iadd C dX8_readEntry_99 100 rfl ?_
          refine x_put C inX9 2 lc2 EC_2 rfl 3 (by decide) tyX9_ok nmX9 dX8_readEntry_100 103 rfl wmf_X8_52 rfl rfl rfl (Nat.le_of_ble_eq_true rfl) EP_2_3 h (fun a100 h => ?_)
          refine x_aload_n C dX8_readEntry_103 104 rfl 1 rfl ?_
          obtain ⟨a104, hq, h⟩ := xbv_some h
          refine x_callVv C 2 (c_X9_skipBlanks C.2.2.2.2.2.2.1 hq) lc2 EC_2 rfl wml_X8_31 wq_X9_skipBlanks rfl ⟨by decide, by decide⟩ rfl rfl ⟨by decide, by decide⟩ dX8_readEntry_104 107 rfl rfl (Nat.le_of_ble_eq_true rfl) ?_
          refine x_aload_n C dX8_readEntry_107 108 rfl 1 rfl ?_
          refine x_get C inX9 2 lc2 EC_2 rfl 3 (by decide) dX8_readEntry_108 111 rfl wmf_X8_52 rfl ?_
          refine x_istore_n C dX8_readEntry_111 112 rfl (by decide) (fun v2_111 => [(2, .int v2_111), (0, .ref (ad 25)), (1, .ref (ad 2))]) (fun _ => rfl) h (fun v2_111 h => ?_)
          refine x_aload_n C dX8_readEntry_112 113 rfl 1 rfl ?_
          refine x_get C inX8 25 lc25 EC_25 rfl 3 (by decide) dX8_readEntry_113 116 rfl wmf_X8_18 rfl ?_
          refine x_aload_n C dX8_readEntry_116 117 rfl 1 rfl ?_
          refine x_get C inX8 25 lc25 EC_25 rfl 0 (by decide) dX8_readEntry_117 120 rfl wmf_X8_27 rfl ?_
          refine x_aload_n C dX8_readEntry_120 121 rfl 1 rfl ?_
          refine x_aload_n C dX8_readEntry_121 122 rfl 2 rfl ?_
          refine x_aload_n C dX8_readEntry_122 123 rfl 1 rfl ?_
          refine x_get C inX8 25 lc25 EC_25 rfl 5 (by decide) dX8_readEntry_123 126 rfl wmf_X8_24 rfl ?_
          obtain ⟨r126, a126, hq, h⟩ := xb_some h
          refine x_callVi C 25 (c_X8_readPart_trialShapes_30 C.2.2.2.2.2.2.1 hq) lc25 EC_25 rfl wml_X8_59 wq_X8_readPart rfl ⟨by decide, by decide⟩ rfl rfl ⟨by decide, by decide⟩ dX8_readEntry_126 129 rfl rfl (Nat.le_of_ble_eq_true rfl) ?_
          refine x_iast C 28 lc28 (fun _ => EC_28) 0 rfl dX8_readEntry_129 130 rfl h (fun a129 h => ?_)
          refine x_aload_n C dX8_readEntry_130 131 rfl 1 rfl ?_
          refine x_get C inX8 25 lc25 EC_25 rfl 3 (by decide) dX8_readEntry_131 134 rfl wmf_X8_18 rfl ?_
          refine x_aload_n C dX8_readEntry_134 135 rfl 1 rfl ?_
          refine x_get C inX8 25 lc25 EC_25 rfl 0 (by decide) dX8_readEntry_135 138 rfl wmf_X8_27 rfl ?_
          refine x_iald C 28 lc28 EC_28 0 rfl dX8_readEntry_138 139 rfl h (fun h => ?_)
          refine x_iconst C dX8_readEntry_139 140 rfl (-1) rfl ?_
          refine x_icmp_ne C dX8_readEntry_140 143 rfl 145 rfl h (fun h => ?_) (fun h => ?_)
          · refine x_aload_n C dX8_readEntry_145 146 rfl 1 rfl ?_
            obtain ⟨r146, a146, hq, h⟩ := xb_some h
            refine x_callVi C 25 (c_X8_partsAlike_trialShapes C.2.2.2.2.2.2.1 hq) lc25 EC_25 rfl wml_X8_63 wq_X8_partsAlike rfl ⟨by decide, by decide⟩ rfl rfl ⟨by decide, by decide⟩ dX8_readEntry_146 149 rfl rfl (Nat.le_of_ble_eq_true rfl) ?_
            refine x_if_eq C dX8_readEntry_149 152 rfl 159 rfl h (fun h => ?_) (fun h => ?_)
            · refine x_aload_n C dX8_readEntry_159 160 rfl 1 rfl ?_
              refine x_get C inX8 25 lc25 EC_25 rfl 1 (by decide) dX8_readEntry_160 163 rfl wmf_X8_9 rfl ?_
              refine x_aload_n C dX8_readEntry_163 164 rfl 1 rfl ?_
              refine x_get C inX8 25 lc25 EC_25 rfl 0 (by decide) dX8_readEntry_164 167 rfl wmf_X8_27 rfl ?_
              refine x_aload_n C dX8_readEntry_167 168 rfl 2 rfl ?_
              refine x_iconst C dX8_readEntry_168 169 rfl 5 rfl ?_
              refine x_iconst C dX8_readEntry_169 170 rfl 1 rfl ?_
              obtain ⟨r170, a170, hq, h⟩ := xb_some h
              refine x_callVi C 2 (c_X9_readEnding C.2.2.2.2.2.2.1 hq) lc2 EC_2 rfl wml_X8_66 wq_X9_readEnding rfl ⟨by decide, by decide⟩ rfl rfl ⟨by decide, by decide⟩ dX8_readEntry_170 173 rfl rfl (Nat.le_of_ble_eq_true rfl) ?_
              refine x_iast C 26 lc26 (fun _ => EC_26) 0 rfl dX8_readEntry_173 174 rfl h (fun a173 h => ?_)
              refine x_aload_n C dX8_readEntry_174 175 rfl 1 rfl ?_
              refine x_get C inX8 25 lc25 EC_25 rfl 1 (by decide) dX8_readEntry_175 178 rfl wmf_X8_9 rfl ?_
              refine x_aload_n C dX8_readEntry_178 179 rfl 1 rfl ?_
              refine x_get C inX8 25 lc25 EC_25 rfl 0 (by decide) dX8_readEntry_179 182 rfl wmf_X8_27 rfl ?_
              refine x_iald C 26 lc26 EC_26 0 rfl dX8_readEntry_182 183 rfl h (fun h => ?_)
              refine x_iconst C dX8_readEntry_183 184 rfl (-1) rfl ?_
              refine x_icmp_ne C dX8_readEntry_184 187 rfl 189 rfl h (fun h => ?_) (fun h => ?_)
              · refine x_aload_n C dX8_readEntry_189 190 rfl 1 rfl ?_
                refine x_dup C dX8_readEntry_190 191 rfl rfl ?_
                refine x_get C inX8 25 lc25 EC_25 rfl 0 (by decide) dX8_readEntry_191 194 rfl wmf_X8_27 rfl ?_
                refine x_iconst C dX8_readEntry_194 195 rfl 1 rfl ?_
                refine x_iadd C dX8_readEntry_195 196 rfl ?_
                refine x_put C inX8 25 lc25 EC_25 rfl 0 (by decide) tyX8_ok nmX8 dX8_readEntry_196 199 rfl wmf_X8_27 rfl rfl rfl (Nat.le_of_ble_eq_true rfl) EP_25_0 h (fun a196 h => ?_)
                refine x_iconst C dX8_readEntry_199 200 rfl 1 rfl ?_
                exact x_zret C rfl dX8_readEntry_200 (by decide) h
              · refine x_iconst C dX8_readEntry_187 188 rfl 0 rfl ?_
                exact x_zret C rfl dX8_readEntry_188 (by decide) h
            · refine x_aload_n C dX8_readEntry_152 153 rfl 2 rfl ?_
              refine x_iconst C dX8_readEntry_153 154 rfl 1 rfl ?_
              refine x_iload_n C dX8_readEntry_154 155 rfl 0 rfl ?_
              obtain ⟨r155, a155, hq, h⟩ := xb_some h
              refine x_callVi C 2 (c_X9_refuse C.2.2.2.2.2.2.1 hq) lc2 EC_2 rfl wml_X8_55 wq_X9_refuse rfl ⟨by decide, by decide⟩ rfl rfl ⟨by decide, by decide⟩ dX8_readEntry_155 158 rfl rfl (Nat.le_of_ble_eq_true rfl) ?_
              exact x_zretB C rfl dX8_readEntry_158 h
          · refine x_iconst C dX8_readEntry_143 144 rfl 0 rfl ?_
            exact x_zret C rfl dX8_readEntry_144 (by decide) h
        · refine x_aload_n C dX8_readEntry_83 84 rfl 1 rfl ?_
          refine x_iconst C dX8_readEntry_84 85 rfl 1 rfl ?_
          refine x_aload_n C dX8_readEntry_85 86 rfl 1 rfl ?_
          refine x_get C inX9 2 lc2 EC_2 rfl 3 (by decide) dX8_readEntry_86 89 rfl wmf_X8_52 rfl ?_
          obtain ⟨r89, a89, hq, h⟩ := xb_some h
          refine x_callVi C 2 (c_X9_refuse C.2.2.2.2.2.2.1 hq) lc2 EC_2 rfl wml_X8_55 wq_X9_refuse rfl ⟨by decide, by decide⟩ rfl rfl ⟨by decide, by decide⟩ dX8_readEntry_89 92 rfl rfl (Nat.le_of_ble_eq_true rfl) ?_
          exact x_zretB C rfl dX8_readEntry_92 h
      · refine x_iconst C dX8_readEntry_71 72 rfl 0 rfl ?_
        exact x_zret C rfl dX8_readEntry_72 (by decide) h
    · refine x_aload_n C dX8_readEntry_30 31 rfl 1 rfl ?_
      refine x_iconst C dX8_readEntry_31 32 rfl 3 rfl ?_
      refine x_aload_n C dX8_readEntry_32 33 rfl 1 rfl ?_
      refine x_get C inX9 2 lc2 EC_2 rfl 3 (by decide) dX8_readEntry_33 36 rfl wmf_X8_52 rfl ?_
      obtain ⟨r36, a36, hq, h⟩ := xb_some h
      refine x_callVi C 2 (c_X9_refuse C.2.2.2.2.2.2.1 hq) lc2 EC_2 rfl wml_X8_55 wq_X9_refuse rfl ⟨by decide, by decide⟩ rfl rfl ⟨by decide, by decide⟩ dX8_readEntry_36 39 rfl rfl (Nat.le_of_ble_eq_true rfl) ?_
      exact x_zretB C rfl dX8_readEntry_39 h
  · refine x_aload_n C dX8_readEntry_11 12 rfl 1 rfl ?_
    refine x_iconst C dX8_readEntry_12 13 rfl 1 rfl ?_
    refine x_aload_n C dX8_readEntry_13 14 rfl 1 rfl ?_
    refine x_get C inX9 2 lc2 EC_2 rfl 3 (by decide) dX8_readEntry_14 17 rfl wmf_X8_52 rfl ?_
    obtain ⟨r17, a17, hq, h⟩ := xb_some h
    refine x_callVi C 2 (c_X9_refuse C.2.2.2.2.2.2.1 hq) lc2 EC_2 rfl wml_X8_55 wq_X9_refuse rfl ⟨by decide, by decide⟩ rfl rfl ⟨by decide, by decide⟩ dX8_readEntry_17 20 rfl rfl (Nat.le_of_ble_eq_true rfl) ?_
    exact x_zretB C rfl dX8_readEntry_20 h
theorem b_X8_readText_7_trialShapes (C : XC p l s m args meth c cX8_readText 3 (some .boolean) RX8 D vwCl (tysC ca) (EC ad ca) NCC ad) {N : Nat} {o : (Int32 × AH)} : ∀ (n : Nat) {ah : AH} {v2 : Int32}, F_X8_readText_7 N 25 n ah v2 = some o → XW p l e rm_X8_readText s m args below meth c 3 0 (xQi below args s D vwCl (tysC ca) (EC ad ca) NCC ad o) D vwCl (EC ad ca) NCC ad ah 7 [(0, .ref (ad 25)), (1, .ref (ad 2)), (2, .int v2)] [] := by
  intro n
  induction n with
  | zero => intro ah v2 h; unfold F_X8_readText_7 at h; cases h
  | succ n ih =>
    intro ah v2 h
    unfold F_X8_readText_7 at h
    refine x_iload_n C dX8_readText_7 8 rfl 2 rfl ?_
    refine x_bipush C dX8_readText_8 10 rfl 20 rfl ?_
    refine x_icmp_gt C dX8_readText_10 13 rfl 42 rfl h (fun h => ?_) (fun h => ?_)
    · refine x_iconst C dX8_readText_42 43 rfl 0 rfl ?_
      exact x_zret C rfl dX8_readText_43 (by decide) h
    · refine x_aload_n C dX8_readText_13 14 rfl 1 rfl ?_
      obtain ⟨a14, hq, h⟩ := xbv_some h
      refine x_callVv C 2 (c_X9_skipBlanks C.2.2.2.2.2.2.1 hq) lc2 EC_2 rfl wml_X8_31 wq_X9_skipBlanks rfl ⟨by decide, by decide⟩ rfl rfl ⟨by decide, by decide⟩ dX8_readText_14 17 rfl rfl (Nat.le_of_ble_eq_true rfl) ?_
      refine x_aload_n C dX8_readText_17 18 rfl 1 rfl ?_
      obtain ⟨r18, a18, hq, h⟩ := xb_some h
      refine x_callVi C 2 (c_X9_atEnd C.2.2.2.2.2.2.1 hq) lc2 EC_2 rfl wml_X8_36 wq_X9_atEnd rfl ⟨by decide, by decide⟩ rfl rfl ⟨by decide, by decide⟩ dX8_readText_18 21 rfl rfl (Nat.le_of_ble_eq_true rfl) ?_
      refine x_if_eq C dX8_readText_21 24 rfl 26 rfl h (fun h => ?_) (fun h => ?_)
      · refine x_aload_n C dX8_readText_26 27 rfl 0 rfl ?_
        refine x_aload_n C dX8_readText_27 28 rfl 1 rfl ?_
        obtain ⟨r28, a28, hq, h⟩ := xb_some h
        refine x_callVi C 25 (c_X8_readEntry_trialShapes C.2.2.2.2.2.2.1 hq) lc25 EC_25 rfl wml_X8_40 wq_X8_readEntry rfl ⟨by decide, by decide⟩ rfl rfl ⟨by decide, by decide⟩ dX8_readText_28 31 rfl rfl (Nat.le_of_ble_eq_true rfl) ?_
        refine x_if_ne C dX8_readText_31 34 rfl 36 rfl h (fun h => ?_) (fun h => ?_)
        · refine x_iinc C dX8_readText_36 39 rfl 2 rfl (d := 1) rfl (by decide) (fun v2_36 => [(2, .int v2_36), (0, .ref (ad 25)), (1, .ref (ad 2))]) (fun _ => rfl) h (fun v2_36 h => ?_)
          refine x_goto C dX8_readText_39 7 rfl ?_
          exact x_sub [1, 2, 0] rfl (ih h)
        · refine x_iconst C dX8_readText_34 35 rfl 0 rfl ?_
          exact x_zret C rfl dX8_readText_35 (by decide) h
      · refine x_iconst C dX8_readText_24 25 rfl 1 rfl ?_
        exact x_zret C rfl dX8_readText_25 (by decide) h
theorem c_X8_readText_trialShapes {l : Launch} {D : va_G} {ca : Nat → ClassId} {ad : Nat → Nat} (hI : xInj ad NCC) {N : Nat} {ah : AH} {r : Int32} {a : AH} (h : F_X8_readText N 25 ah = some (r, a)) : xMi l yX8_readText cX8_readText 3 (some .boolean) rm_X8_readText D vwCl (tysC ca) (EC ad ca) NCC ad [.ref (ad 25), .ref (ad 2)] ah (r, a) := by
  refine x_meti (by decide) (Nat.le_of_ble_eq_true rfl) hI EC_loc ?_
  intro p e s m args below meth c C
  unfold F_X8_readText at h
  refine x_aload_n C dX8_readText_0 1 rfl 0 rfl ?_
  refine x_iconst C dX8_readText_1 2 rfl 0 rfl ?_
  refine x_put C inX8 25 lc25 EC_25 rfl 0 (by decide) tyX8_ok nmX8 dX8_readText_2 5 rfl wmf_X8_27 rfl rfl rfl (Nat.le_of_ble_eq_true rfl) EP_25_0 h (fun a2 h => ?_)
  refine x_iconst C dX8_readText_5 6 rfl 0 rfl ?_
  refine x_istore_n C dX8_readText_6 7 rfl (by decide) (fun v2_6 => [(2, .int v2_6), (0, .ref (ad 25)), (1, .ref (ad 2))]) (fun _ => rfl) h (fun v2_6 h => ?_)
  exact x_sub [1, 2, 0] rfl (b_X8_readText_7_trialShapes C  N h)
abbrev rm_X9_begin : Room := { frames := 0, cells := 0, slots := 0, locals := 0 }
theorem wq_X9_begin : xcV RX9 yX9_begin cX9_begin 2 none 1 := ⟨wmi_X9_begin, wms_X9_begin, wmn_X9, wmc_X9_begin, by decide, by decide, by decide +kernel⟩
def F_X9_begin (N : Nat) (ah : AH) (p1 : Int32) : Option AH := xlet (xu ah 2 2 p1) (fun a2 => xlet (xu a2 2 3 0) (fun a7 => xlet (xu a7 2 4 0) (fun a12 => xlet (xu a12 2 5 ((-1))) (fun a17 => some a17))))
theorem c_X9_begin {l : Launch} {D : va_G} {ca : Nat → ClassId} {ad : Nat → Nat} (hI : xInj ad NCC) {N : Nat} {ah : AH} {p1 : Int32} {a : AH} (h : F_X9_begin N ah p1 = some a) : xMv l yX9_begin cX9_begin 2 rm_X9_begin D vwCl (tysC ca) (EC ad ca) NCC ad [.ref (ad 2), .int p1] ah a := by
  refine x_metv (by decide) (Nat.le_of_ble_eq_true rfl) hI EC_loc ?_
  intro p e s m args below meth c C
  unfold F_X9_begin at h
  refine x_aload_n C dX9_begin_0 1 rfl 0 rfl ?_
  refine x_iload_n C dX9_begin_1 2 rfl 1 rfl ?_
  refine x_put C inX9 2 lc2 EC_2 rfl 2 (by decide) tyX9_ok nmX9 dX9_begin_2 5 rfl wmf_X9_22 rfl rfl rfl (Nat.le_of_ble_eq_true rfl) EP_2_2 h (fun a2 h => ?_)
  refine x_aload_n C dX9_begin_5 6 rfl 0 rfl ?_
  refine x_iconst C dX9_begin_6 7 rfl 0 rfl ?_
  refine x_put C inX9 2 lc2 EC_2 rfl 3 (by decide) tyX9_ok nmX9 dX9_begin_7 10 rfl wmf_X9_25 rfl rfl rfl (Nat.le_of_ble_eq_true rfl) EP_2_3 h (fun a7 h => ?_)
  refine x_aload_n C dX9_begin_10 11 rfl 0 rfl ?_
  refine x_iconst C dX9_begin_11 12 rfl 0 rfl ?_
  refine x_put C inX9 2 lc2 EC_2 rfl 4 (by decide) tyX9_ok nmX9 dX9_begin_12 15 rfl wmf_X9_28 rfl rfl rfl (Nat.le_of_ble_eq_true rfl) EP_2_4 h (fun a12 h => ?_)
  refine x_aload_n C dX9_begin_15 16 rfl 0 rfl ?_
  refine x_iconst C dX9_begin_16 17 rfl (-1) rfl ?_
  refine x_put C inX9 2 lc2 EC_2 rfl 5 (by decide) tyX9_ok nmX9 dX9_begin_17 20 rfl wmf_X9_15 rfl rfl rfl (Nat.le_of_ble_eq_true rfl) EP_2_5 h (fun a17 h => ?_)
  exact x_vret C rfl dX9_begin_20 h
abbrev rm_X9_finish : Room := { frames := 0, cells := 0, slots := 0, locals := 0 }
theorem wq_X9_finish : xcV RX9 yX9_finish cX9_finish 2 (some .int) 1 := ⟨wmi_X9_finish, wms_X9_finish, wmn_X9, wmc_X9_finish, by decide, by decide, by decide +kernel⟩
def F_X9_finish (N : Nat) (ah : AH) (p1 : Int32) : Option (Int32 × AH) := xlet (xu ah 2 1 0) (fun a2 => if (a2 2 4) = 0 then some (p1, a2) else some ((a2 2 4) - 10, a2))
theorem c_X9_finish {l : Launch} {D : va_G} {ca : Nat → ClassId} {ad : Nat → Nat} (hI : xInj ad NCC) {N : Nat} {ah : AH} {p1 : Int32} {r : Int32} {a : AH} (h : F_X9_finish N ah p1 = some (r, a)) : xMi l yX9_finish cX9_finish 2 (some .int) rm_X9_finish D vwCl (tysC ca) (EC ad ca) NCC ad [.ref (ad 2), .int p1] ah (r, a) := by
  refine x_meti (by decide) (Nat.le_of_ble_eq_true rfl) hI EC_loc ?_
  intro p e s m args below meth c C
  unfold F_X9_finish at h
  refine x_aload_n C dX9_finish_0 1 rfl 0 rfl ?_
  refine x_iconst C dX9_finish_1 2 rfl 0 rfl ?_
  refine x_put C inX9 2 lc2 EC_2 rfl 1 (by decide) tyX9_ok nmX9 dX9_finish_2 5 rfl wmf_X9_19 rfl rfl rfl (Nat.le_of_ble_eq_true rfl) EP_2_1 h (fun a2 h => ?_)
  refine x_aload_n C dX9_finish_5 6 rfl 0 rfl ?_
  refine x_get C inX9 2 lc2 EC_2 rfl 4 (by decide) dX9_finish_6 9 rfl wmf_X9_28 rfl ?_
  refine x_if_ne C dX9_finish_9 12 rfl 16 rfl h (fun h => ?_) (fun h => ?_)
  · refine x_aload_n C dX9_finish_16 17 rfl 0 rfl ?_
    refine x_get C inX9 2 lc2 EC_2 rfl 4 (by decide) dX9_finish_17 20 rfl wmf_X9_28 rfl ?_
    refine x_bipush C dX9_finish_20 22 rfl 10 rfl ?_
    refine x_isub C dX9_finish_22 23 rfl ?_
    exact x_iret C rfl dX9_finish_23 h
  · refine x_iload_n C dX9_finish_12 13 rfl 1 rfl ?_
    refine x_goto C dX9_finish_13 23 rfl ?_
    exact x_iret C rfl dX9_finish_23 h
abbrev rm_X10_countShape : Room := { frames := 0, cells := 0, slots := 0, locals := 0 }
theorem wq_X10_countShape : xcV RX10 yX10_countShape cX10_countShape 4 (some .int) 1 := ⟨wmi_X10_countShape, wms_X10_countShape, wmn_X10, wmc_X10_countShape, by decide, by decide, by decide +kernel⟩
def F_X10_countShape_33 (N : Nat) (k4 : AH → Int32 → Int32 → Int32 → Option (Int32 × AH)) (ah : AH) (v1 : Int32) (v2 : Int32) (v3 : Int32) : Option (Int32 × AH) := xlet (v3 + 1) (fun v3_33 => k4 ah v1 v2 v3_33)
def F_X10_countShape_4 (N : Nat) : Nat → AH → Int32 → Int32 → Int32 → Option (Int32 × AH)
  | 0, _, _, _, _ => none
  | n + 1, ah, v1, v2, v3 => if (ah 88 2) ≤ v3 then some (v2, ah) else xg v3 24 (xg (ah 89 (Int32.toNatClampNeg v3)) 624 (if (ah 65 (Int32.toNatClampNeg (ah 89 (Int32.toNatClampNeg v3)))) = v1 then xlet (v2 + 1) (fun v2_30 => F_X10_countShape_33 N (F_X10_countShape_4 N n) ah v1 v2_30 v3) else F_X10_countShape_33 N (F_X10_countShape_4 N n) ah v1 v2 v3))
def F_X10_countShape (N : Nat) (ah : AH) (p1 : Int32) : Option (Int32 × AH) := xlet 0 (fun v2_1 => xlet 0 (fun v3_3 => F_X10_countShape_4 N N ah p1 v2_1 v3_3))
theorem b_X10_countShape_33 (C : XC p l s m args meth c cX10_countShape 4 (some .int) RX10 D vwCl (tysC ca) (EC ad ca) NCC ad) {N : Nat} {o : (Int32 × AH)} {k4 : AH → Int32 → Int32 → Int32 → Option (Int32 × AH)} (hk4 : ∀ (ah : AH) (v1 : Int32) (v2 : Int32) (v3 : Int32), k4 ah v1 v2 v3 = some o → XW p l e rm_X10_countShape s m args below meth c 4 0 (xQi below args s D vwCl (tysC ca) (EC ad ca) NCC ad o) D vwCl (EC ad ca) NCC ad ah 4 [(0, .ref (ad 88)), (1, .int v1), (2, .int v2), (3, .int v3)] []) {ah : AH} {v1 : Int32} {v2 : Int32} {v3 : Int32} (h : F_X10_countShape_33 N k4 ah v1 v2 v3 = some o) : XW p l e rm_X10_countShape s m args below meth c 4 0 (xQi below args s D vwCl (tysC ca) (EC ad ca) NCC ad o) D vwCl (EC ad ca) NCC ad ah 33 [(0, .ref (ad 88)), (1, .int v1), (2, .int v2), (3, .int v3)] [] := by
  unfold F_X10_countShape_33 at h
  refine x_iinc C dX10_countShape_33 36 rfl 3 rfl (d := 1) rfl (by decide) (fun v3_33 => [(3, .int v3_33), (0, .ref (ad 88)), (1, .int v1), (2, .int v2)]) (fun _ => rfl) h (fun v3_33 h => ?_)
  refine x_goto C dX10_countShape_36 4 rfl ?_
  exact x_sub [1, 2, 3, 0] rfl (hk4 _ _ _ _ h)
theorem b_X10_countShape_4 (C : XC p l s m args meth c cX10_countShape 4 (some .int) RX10 D vwCl (tysC ca) (EC ad ca) NCC ad) {N : Nat} {o : (Int32 × AH)} : ∀ (n : Nat) {ah : AH} {v1 : Int32} {v2 : Int32} {v3 : Int32}, F_X10_countShape_4 N n ah v1 v2 v3 = some o → XW p l e rm_X10_countShape s m args below meth c 4 0 (xQi below args s D vwCl (tysC ca) (EC ad ca) NCC ad o) D vwCl (EC ad ca) NCC ad ah 4 [(0, .ref (ad 88)), (1, .int v1), (2, .int v2), (3, .int v3)] [] := by
  intro n
  induction n with
  | zero => intro ah v1 v2 v3 h; unfold F_X10_countShape_4 at h; cases h
  | succ n ih =>
    intro ah v1 v2 v3 h
    unfold F_X10_countShape_4 at h
    refine x_iload_n C dX10_countShape_4 5 rfl 3 rfl ?_
    refine x_aload_n C dX10_countShape_5 6 rfl 0 rfl ?_
    refine x_get C inX10 88 lc88 EC_88 rfl 2 (by decide) dX10_countShape_6 9 rfl wmf_X10_76 rfl ?_
    refine x_icmp_ge C dX10_countShape_9 12 rfl 39 rfl h (fun h => ?_) (fun h => ?_)
    · refine x_iload_n C dX10_countShape_39 40 rfl 2 rfl ?_
      exact x_iret C rfl dX10_countShape_40 h
    · refine x_aload_n C dX10_countShape_12 13 rfl 0 rfl ?_
      refine x_get C inX10 88 lc88 EC_88 rfl 0 (by decide) dX10_countShape_13 16 rfl wmf_X10_18 rfl ?_
      refine x_get C inX4 57 lc57 EC_57 rfl 13 (by decide) dX10_countShape_16 19 rfl wmf_X10_82 rfl ?_
      refine x_aload_n C dX10_countShape_19 20 rfl 0 rfl ?_
      refine x_get C inX10 88 lc88 EC_88 rfl 4 (by decide) dX10_countShape_20 23 rfl wmf_X10_9 rfl ?_
      refine x_iload_n C dX10_countShape_23 24 rfl 3 rfl ?_
      refine x_iald C 89 lc89 EC_89 0 rfl dX10_countShape_24 25 rfl h (fun h => ?_)
      refine x_iald C 65 lc65 EC_65 0 rfl dX10_countShape_25 26 rfl h (fun h => ?_)
      refine x_iload_n C dX10_countShape_26 27 rfl 1 rfl ?_
      refine x_icmp_ne C dX10_countShape_27 30 rfl 33 rfl h (fun h => ?_) (fun h => ?_)
      · exact b_X10_countShape_33 C (fun _ _ _ _ h => ih h) h
      · refine x_iinc C dX10_countShape_30 33 rfl 2 rfl (d := 1) rfl (by decide) (fun v2_30 => [(2, .int v2_30), (0, .ref (ad 88)), (1, .int v1), (3, .int v3)]) (fun _ => rfl) h (fun v2_30 h => ?_)
        exact x_sub [1, 2, 0, 3] rfl (b_X10_countShape_33 C (fun _ _ _ _ h => ih h) h)
theorem c_X10_countShape {l : Launch} {D : va_G} {ca : Nat → ClassId} {ad : Nat → Nat} (hI : xInj ad NCC) {N : Nat} {ah : AH} {p1 : Int32} {r : Int32} {a : AH} (h : F_X10_countShape N ah p1 = some (r, a)) : xMi l yX10_countShape cX10_countShape 4 (some .int) rm_X10_countShape D vwCl (tysC ca) (EC ad ca) NCC ad [.ref (ad 88), .int p1] ah (r, a) := by
  refine x_meti (by decide) (Nat.le_of_ble_eq_true rfl) hI EC_loc ?_
  intro p e s m args below meth c C
  unfold F_X10_countShape at h
  refine x_iconst C dX10_countShape_0 1 rfl 0 rfl ?_
  refine x_istore_n C dX10_countShape_1 2 rfl (by decide) (fun v2_1 => [(2, .int v2_1), (0, .ref (ad 88)), (1, .int p1)]) (fun _ => rfl) h (fun v2_1 h => ?_)
  refine x_iconst C dX10_countShape_2 3 rfl 0 rfl ?_
  refine x_istore_n C dX10_countShape_3 4 rfl (by decide) (fun v3_3 => [(3, .int v3_3), (2, .int v2_1), (0, .ref (ad 88)), (1, .int p1)]) (fun _ => rfl) h (fun v3_3 h => ?_)
  exact x_sub [2, 3, 1, 0] rfl (b_X10_countShape_4 C  N h)
