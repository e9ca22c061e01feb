variable {p : Program} {l : Launch} {e : Env} {s : State} {m : MethodId} {args : Array Value} {below : List Frame} {meth : Method} {c : Code} {D : va_G} {ca : Nat → ClassId} {ad : Nat → Nat}
abbrev rm_X12_thrown : Room := { frames := 0, cells := 0, slots := 0, locals := 0 }
theorem wq_X12_thrown : xcV RX12 yX12_thrown cX12_thrown 1 (some .int) 0 := ⟨wmi_X12_thrown, wms_X12_thrown, wmn_X12, wmc_X12_thrown, by decide, by decide, by decide +kernel⟩
def F_X12_thrown (N : Nat) (ah : AH) : Option (Int32 × AH) := some (ah 0 0, ah)
theorem c_X12_thrown {l : Launch} {D : va_G} {ca : Nat → ClassId} {ad : Nat → Nat} (hI : xInj ad NCM) {N : Nat} {ah : AH} {r : Int32} {a : AH} (h : F_X12_thrown N ah = some (r, a)) : xMi l yX12_thrown cX12_thrown 1 (some .int) rm_X12_thrown D vwCl (tysM ca) (EM ad ca) NCM ad [.ref (ad 0)] ah (r, a) := by
  refine x_meti (by decide) (Nat.le_of_ble_eq_true rfl) hI EM_loc ?_
  intro p e s m args below meth c C
  unfold F_X12_thrown at h
  refine x_aload_n C dX12_thrown_0 1 rfl 0 rfl ?_
  refine x_get C inX12 0 lm0 EM_0 rfl 0 (by decide) dX12_thrown_1 4 rfl wmf_X12_180 rfl ?_
  exact x_iret C rfl dX12_thrown_4 h
abbrev rm_X12_bad : Room := { frames := 0, cells := 0, slots := 0, locals := 0 }
theorem wq_X12_bad : xcV RX12 yX12_bad cX12_bad 4 (some .boolean) 3 := ⟨wmi_X12_bad, wms_X12_bad, wmn_X12, wmc_X12_bad, by decide, by decide, by decide +kernel⟩
def F_X12_bad_26 (N : Nat) (ah : AH) : Option (Int32 × AH) := if (ah 0 0) = 0 then some (0, ah) else some (1, ah)
def F_X12_bad (N : Nat) (ah : AH) (p1 : Int32) (p2 : Int32) (p3 : Int32) : Option (Int32 × AH) := if p1 = 0 then F_X12_bad_26 N ah else if (ah 0 0) = 0 then xlet (xu ah 0 0 p2) (fun a13 => xg p3 2 (xg p3 2 (xlet (xu a13 1 (Int32.toNatClampNeg p3) ((a13 1 (Int32.toNatClampNeg p3)) + 1)) (fun a25 => F_X12_bad_26 N a25)))) else F_X12_bad_26 N ah
theorem b_X12_bad_26 (C : XC p l s m args meth c cX12_bad 4 (some .boolean) RX12 D vwCl (tysM ca) (EM ad ca) NCM ad) {N : Nat} {o : (Int32 × AH)} {ah : AH} (h : F_X12_bad_26 N ah = some o) : XW p l e rm_X12_bad s m args below meth c 4 0 (xQi below args s D vwCl (tysM ca) (EM ad ca) NCM ad o) D vwCl (EM ad ca) NCM ad ah 26 [(0, .ref (ad 0))] [] := by
  unfold F_X12_bad_26 at h
  refine x_aload_n C dX12_bad_26 27 rfl 0 rfl ?_
  refine x_get C inX12 0 lm0 EM_0 rfl 0 (by decide) dX12_bad_27 30 rfl wmf_X12_180 rfl ?_
  refine x_if_eq C dX12_bad_30 33 rfl 37 rfl h (fun h => ?_) (fun h => ?_)
  · refine x_iconst C dX12_bad_37 38 rfl 0 rfl ?_
    exact x_zret C rfl dX12_bad_38 (by decide) h
  · refine x_iconst C dX12_bad_33 34 rfl 1 rfl ?_
    refine x_goto C dX12_bad_34 38 rfl ?_
    exact x_zret C rfl dX12_bad_38 (by decide) h
theorem c_X12_bad {l : Launch} {D : va_G} {ca : Nat → ClassId} {ad : Nat → Nat} (hI : xInj ad NCM) {N : Nat} {ah : AH} {p1 : Int32} {p2 : Int32} {p3 : Int32} {r : Int32} {a : AH} (h : F_X12_bad N ah p1 p2 p3 = some (r, a)) : xMi l yX12_bad cX12_bad 4 (some .boolean) rm_X12_bad D vwCl (tysM ca) (EM ad ca) NCM ad [.ref (ad 0), .int p1, .int p2, .int p3] ah (r, a) := by
  refine x_meti (by decide) (Nat.le_of_ble_eq_true rfl) hI EM_loc ?_
  intro p e s m args below meth c C
  unfold F_X12_bad at h
  refine x_iload_n C dX12_bad_0 1 rfl 1 rfl ?_
  refine x_if_eq C dX12_bad_1 4 rfl 26 rfl h (fun h => ?_) (fun h => ?_)
  · exact x_sub [0] rfl (b_X12_bad_26 C  h)
  · refine x_aload_n C dX12_bad_4 5 rfl 0 rfl ?_
    refine x_get C inX12 0 lm0 EM_0 rfl 0 (by decide) dX12_bad_5 8 rfl wmf_X12_180 rfl ?_
    refine x_if_ne C dX12_bad_8 11 rfl 26 rfl h (fun h => ?_) (fun h => ?_)
    · exact x_sub [0] rfl (b_X12_bad_26 C  h)
    · refine x_aload_n C dX12_bad_11 12 rfl 0 rfl ?_
      refine x_iload_n C dX12_bad_12 13 rfl 2 rfl ?_
      refine x_put C inX12 0 lm0 EM_0 rfl 0 (by decide) tyX12_ok nmX12 dX12_bad_13 16 rfl wmf_X12_180 rfl rfl rfl (Nat.le_of_ble_eq_true rfl) EQ_0_0 h (fun a13 h => ?_)
      refine x_aload_n C dX12_bad_16 17 rfl 0 rfl ?_
      refine x_get C inX12 0 lm0 EM_0 rfl 1 (by decide) dX12_bad_17 20 rfl wmf_X12_7 rfl ?_
      refine x_iload_n C dX12_bad_20 21 rfl 3 rfl ?_
      refine x_dup2 C dX12_bad_21 22 rfl rfl rfl ?_
      refine x_iald C 1 lm1 EM_1 0 rfl dX12_bad_22 23 rfl h (fun h => ?_)
      refine x_iconst C dX12_bad_23 24 rfl 1 rfl ?_
      refine x_iadd C dX12_bad_24 25 rfl ?_
      refine x_iast C 1 lm1 (fun _ => EM_1) 0 rfl dX12_bad_25 26 rfl h (fun a25 h => ?_)
      exact x_sub [0] rfl (b_X12_bad_26 C  h)
abbrev rm_X12_in : Room := { frames := 0, cells := 0, slots := 0, locals := 0 }
theorem wq_X12_in : xcS yX12_in cX12_in 3 (some .boolean) 3 := ⟨wmt_X12_in, wmn_X12, wmc_X12_in, by decide, by decide, by decide +kernel⟩
def F_X12_in (N : Nat) (ah : AH) (p0 : Int32) (p1 : Int32) (p2 : Int32) : Option (Int32 × AH) := if p0 < p1 then some (0, ah) else if p2 < p0 then some (0, ah) else some (1, ah)
theorem c_X12_in {l : Launch} {D : va_G} {ca : Nat → ClassId} {ad : Nat → Nat} (hI : xInj ad NCM) {N : Nat} {ah : AH} {p0 : Int32} {p1 : Int32} {p2 : Int32} {r : Int32} {a : AH} (h : F_X12_in N ah p0 p1 p2 = some (r, a)) : xMi l yX12_in cX12_in 3 (some .boolean) rm_X12_in D vwCl (tysM ca) (EM ad ca) NCM ad [.int p0, .int p1, .int p2] ah (r, a) := by
  refine x_meti (by decide) (Nat.le_of_ble_eq_true rfl) hI EM_loc ?_
  intro p e s m args below meth c C
  unfold F_X12_in at h
  refine x_iload_n C dX12_in_0 1 rfl 0 rfl ?_
  refine x_iload_n C dX12_in_1 2 rfl 1 rfl ?_
  refine x_icmp_lt C dX12_in_2 5 rfl 14 rfl h (fun h => ?_) (fun h => ?_)
  · refine x_iconst C dX12_in_14 15 rfl 0 rfl ?_
    exact x_zret C rfl dX12_in_15 (by decide) h
  · refine x_iload_n C dX12_in_5 6 rfl 0 rfl ?_
    refine x_iload_n C dX12_in_6 7 rfl 2 rfl ?_
    refine x_icmp_gt C dX12_in_7 10 rfl 14 rfl h (fun h => ?_) (fun h => ?_)
    · refine x_iconst C dX12_in_14 15 rfl 0 rfl ?_
      exact x_zret C rfl dX12_in_15 (by decide) h
    · refine x_iconst C dX12_in_10 11 rfl 1 rfl ?_
      refine x_goto C dX12_in_11 15 rfl ?_
      exact x_zret C rfl dX12_in_15 (by decide) h
abbrev rm_X12_less : Room := { frames := 0, cells := 0, slots := 0, locals := 0 }
theorem wq_X12_less : xcS yX12_less cX12_less 2 (some .int) 2 := ⟨wmt_X12_less, wmn_X12, wmc_X12_less, by decide, by decide, by decide +kernel⟩
def F_X12_less (N : Nat) (ah : AH) (p0 : Int32) (p1 : Int32) : Option (Int32 × AH) := if p1 ≤ p0 then some (p1, ah) else some (p0, ah)
theorem c_X12_less {l : Launch} {D : va_G} {ca : Nat → ClassId} {ad : Nat → Nat} (hI : xInj ad NCM) {N : Nat} {ah : AH} {p0 : Int32} {p1 : Int32} {r : Int32} {a : AH} (h : F_X12_less N ah p0 p1 = some (r, a)) : xMi l yX12_less cX12_less 2 (some .int) rm_X12_less D vwCl (tysM ca) (EM ad ca) NCM ad [.int p0, .int p1] ah (r, a) := by
  refine x_meti (by decide) (Nat.le_of_ble_eq_true rfl) hI EM_loc ?_
  intro p e s m args below meth c C
  unfold F_X12_less at h
  refine x_iload_n C dX12_less_0 1 rfl 0 rfl ?_
  refine x_iload_n C dX12_less_1 2 rfl 1 rfl ?_
  refine x_icmp_ge C dX12_less_2 5 rfl 9 rfl h (fun h => ?_) (fun h => ?_)
  · refine x_iload_n C dX12_less_9 10 rfl 1 rfl ?_
    exact x_iret C rfl dX12_less_10 h
  · refine x_iload_n C dX12_less_5 6 rfl 0 rfl ?_
    refine x_goto C dX12_less_6 10 rfl ?_
    exact x_iret C rfl dX12_less_10 h
abbrev rm_X12_more : Room := { frames := 0, cells := 0, slots := 0, locals := 0 }
theorem wq_X12_more : xcS yX12_more cX12_more 2 (some .int) 2 := ⟨wmt_X12_more, wmn_X12, wmc_X12_more, by decide, by decide, by decide +kernel⟩
def F_X12_more (N : Nat) (ah : AH) (p0 : Int32) (p1 : Int32) : Option (Int32 × AH) := if p0 ≤ p1 then some (p1, ah) else some (p0, ah)
theorem c_X12_more {l : Launch} {D : va_G} {ca : Nat → ClassId} {ad : Nat → Nat} (hI : xInj ad NCM) {N : Nat} {ah : AH} {p0 : Int32} {p1 : Int32} {r : Int32} {a : AH} (h : F_X12_more N ah p0 p1 = some (r, a)) : xMi l yX12_more cX12_more 2 (some .int) rm_X12_more D vwCl (tysM ca) (EM ad ca) NCM ad [.int p0, .int p1] ah (r, a) := by
  refine x_meti (by decide) (Nat.le_of_ble_eq_true rfl) hI EM_loc ?_
  intro p e s m args below meth c C
  unfold F_X12_more at h
  refine x_iload_n C dX12_more_0 1 rfl 0 rfl ?_
  refine x_iload_n C dX12_more_1 2 rfl 1 rfl ?_
  refine x_icmp_le C dX12_more_2 5 rfl 9 rfl h (fun h => ?_) (fun h => ?_)
  · refine x_iload_n C dX12_more_9 10 rfl 1 rfl ?_
    exact x_iret C rfl dX12_more_10 h
  · refine x_iload_n C dX12_more_5 6 rfl 0 rfl ?_
    refine x_goto C dX12_more_6 10 rfl ?_
    exact x_iret C rfl dX12_more_10 h
abbrev rm_X12_feed : Room := { frames := 0, cells := 0, slots := 0, locals := 0 }
theorem wq_X12_feed : xcV RX12 yX12_feed cX12_feed 8 (some .int) 5 := ⟨wmi_X12_feed, wms_X12_feed, wmn_X12, wmc_X12_feed, by decide, by decide, by decide +kernel⟩
def F_X12_feed_76 (N : Nat) (k23 : AH → Int32 → Int32 → Int32 → Int32 → Int32 → Int32 → Option (Int32 × AH)) (ah : AH) (v1 : Int32) (v2 : Int32) (v3 : Int32) (v4 : Int32) (v5 : Int32) (v6 : Int32) (s0 : Int32) : Option (Int32 × AH) := xlet s0 (fun v7_76 => xz 4 (xg (ah 0 2) 400 (xlet (xu ah 2 (Int32.toNatClampNeg (ah 0 2)) ((v7_76 >>> ((24 - (8 * (v6 - v6 / 4 * 4))) &&& 31)) &&& 255)) (fun a103 => xlet (xu a103 0 2 ((a103 0 2) + 1)) (fun a111 => xlet (v6 + 1) (fun v6_114 => k23 a111 v1 v2 v3 v4 v5 v6_114))))))
def F_X12_feed_23 (N : Nat) : Nat → AH → Int32 → Int32 → Int32 → Int32 → Int32 → Int32 → Option (Int32 × AH)
  | 0, _, _, _, _, _, _, _ => none
  | n + 1, ah, v1, v2, v3, v4, v5, v6 => if 20 ≤ v6 then some (ah 0 2, ah) else if 4 ≤ v6 then if 8 ≤ v6 then if 12 ≤ v6 then if 16 ≤ v6 then F_X12_feed_76 N (F_X12_feed_23 N n) ah v1 v2 v3 v4 v5 v6 v5 else F_X12_feed_76 N (F_X12_feed_23 N n) ah v1 v2 v3 v4 v5 v6 v4 else F_X12_feed_76 N (F_X12_feed_23 N n) ah v1 v2 v3 v4 v5 v6 v3 else F_X12_feed_76 N (F_X12_feed_23 N n) ah v1 v2 v3 v4 v5 v6 v2 else F_X12_feed_76 N (F_X12_feed_23 N n) ah v1 v2 v3 v4 v5 v6 v1
def F_X12_feed (N : Nat) (ah : AH) (p1 : Int32) (p2 : Int32) (p3 : Int32) (p4 : Int32) (p5 : Int32) : Option (Int32 × AH) := xlet (xu ah 0 0 0) (fun a2 => if ((a2 0 2) + 20) ≤ 400 then xlet 0 (fun v6_21 => F_X12_feed_23 N N a2 p1 p2 p3 p4 p5 v6_21) else some ((-1), a2))
theorem b_X12_feed_76 (C : XC p l s m args meth c cX12_feed 8 (some .int) RX12 D vwCl (tysM ca) (EM ad ca) NCM ad) {N : Nat} {o : (Int32 × AH)} {k23 : AH → Int32 → Int32 → Int32 → Int32 → Int32 → Int32 → Option (Int32 × AH)} (hk23 : ∀ (ah : AH) (v1 : Int32) (v2 : Int32) (v3 : Int32) (v4 : Int32) (v5 : Int32) (v6 : Int32), k23 ah v1 v2 v3 v4 v5 v6 = some o → XW p l e rm_X12_feed s m args below meth c 8 0 (xQi below args s D vwCl (tysM ca) (EM ad ca) NCM ad o) D vwCl (EM ad ca) NCM ad ah 23 [(0, .ref (ad 0)), (1, .int v1), (2, .int v2), (3, .int v3), (4, .int v4), (5, .int v5), (6, .int v6)] []) {ah : AH} {v1 : Int32} {v2 : Int32} {v3 : Int32} {v4 : Int32} {v5 : Int32} {v6 : Int32} {s0 : Int32} (h : F_X12_feed_76 N k23 ah v1 v2 v3 v4 v5 v6 s0 = some o) : XW p l e rm_X12_feed s m args below meth c 8 0 (xQi below args s D vwCl (tysM ca) (EM ad ca) NCM ad o) D vwCl (EM ad ca) NCM ad ah 76 [(0, .ref (ad 0)), (1, .int v1), (2, .int v2), (3, .int v3), (4, .int v4), (5, .int v5), (6, .int v6)] [.int s0] := by
  unfold F_X12_feed_76 at h
  refine x_istore C dX12_feed_76 78 rfl (by decide) (fun v7_76 => [(7, .int v7_76), (0, .ref (ad 0)), (1, .int v1), (2, .int v2), (3, .int v3), (4, .int v4), (5, .int v5), (6, .int v6)]) (fun _ => rfl) h (fun v7_76 h => ?_)
  refine x_aload_n C dX12_feed_78 79 rfl 1 rfl ?_
  refine x_get C inX12 0 lm0 EM_0 rfl 8 (by decide) dX12_feed_79 82 rfl wmf_X12_17 rfl ?_
  refine x_aload_n C dX12_feed_82 83 rfl 1 rfl ?_
  refine x_get C inX12 0 lm0 EM_0 rfl 2 (by decide) dX12_feed_83 86 rfl wmf_X12_183 rfl ?_
  refine x_iload C dX12_feed_86 88 rfl 0 rfl ?_
  refine x_bipush C dX12_feed_88 90 rfl 24 rfl ?_
  refine x_bipush C dX12_feed_90 92 rfl 8 rfl ?_
  refine x_iload C dX12_feed_92 94 rfl 7 rfl ?_
  refine x_iconst C dX12_feed_94 95 rfl 4 rfl ?_
  refine x_irem C dX12_feed_95 96 rfl h (fun h => ?_)
  refine x_imul C dX12_feed_96 97 rfl ?_
  refine x_isub C dX12_feed_97 98 rfl ?_
  refine x_ishr C dX12_feed_98 99 rfl ?_
  refine x_sipush C dX12_feed_99 102 rfl 255 rfl ?_
  refine x_iand C dX12_feed_102 103 rfl ?_
  refine x_iast C 2 lm2 (fun _ => EM_2) 0 rfl dX12_feed_103 104 rfl h (fun a103 h => ?_)
  refine x_aload_n C dX12_feed_104 105 rfl 1 rfl ?_
  refine x_dup C dX12_feed_105 106 rfl rfl ?_
  refine x_get C inX12 0 lm0 EM_0 rfl 2 (by decide) dX12_feed_106 109 rfl wmf_X12_183 rfl ?_
  refine x_iconst C dX12_feed_109 110 rfl 1 rfl ?_
  refine x_iadd C dX12_feed_110 111 rfl ?_
  refine x_put C inX12 0 lm0 EM_0 rfl 2 (by decide) tyX12_ok nmX12 dX12_feed_111 114 rfl wmf_X12_183 rfl rfl rfl (Nat.le_of_ble_eq_true rfl) EQ_0_2 h (fun a111 h => ?_)
  refine x_iinc C dX12_feed_114 117 rfl 7 rfl (d := 1) rfl (by decide) (fun v6_114 => [(6, .int v6_114), (7, .int v7_76), (0, .ref (ad 0)), (1, .int v1), (2, .int v2), (3, .int v3), (4, .int v4), (5, .int v5)]) (fun _ => rfl) h (fun v6_114 h => ?_)
  refine x_goto C dX12_feed_117 23 rfl ?_
  exact x_sub [2, 3, 4, 5, 6, 7, 0] rfl (hk23 _ _ _ _ _ _ _ h)
theorem b_X12_feed_23 (C : XC p l s m args meth c cX12_feed 8 (some .int) RX12 D vwCl (tysM ca) (EM ad ca) NCM ad) {N : Nat} {o : (Int32 × AH)} : ∀ (n : Nat) {ah : AH} {v1 : Int32} {v2 : Int32} {v3 : Int32} {v4 : Int32} {v5 : Int32} {v6 : Int32}, F_X12_feed_23 N n ah v1 v2 v3 v4 v5 v6 = some o → XW p l e rm_X12_feed s m args below meth c 8 0 (xQi below args s D vwCl (tysM ca) (EM ad ca) NCM ad o) D vwCl (EM ad ca) NCM ad ah 23 [(0, .ref (ad 0)), (1, .int v1), (2, .int v2), (3, .int v3), (4, .int v4), (5, .int v5), (6, .int v6)] [] := by
  intro n
  induction n with
  | zero => intro ah v1 v2 v3 v4 v5 v6 h; unfold F_X12_feed_23 at h; cases h
  | succ n ih =>
    intro ah v1 v2 v3 v4 v5 v6 h
    unfold F_X12_feed_23 at h
    refine x_iload C dX12_feed_23 25 rfl 6 rfl ?_
    refine x_bipush C dX12_feed_25 27 rfl 20 rfl ?_
    refine x_icmp_ge C dX12_feed_27 30 rfl 120 rfl h (fun h => ?_) (fun h => ?_)
    · refine x_aload_n C dX12_feed_120 121 rfl 0 rfl ?_
      refine x_get C inX12 0 lm0 EM_0 rfl 2 (by decide) dX12_feed_121 124 rfl wmf_X12_183 rfl ?_
      exact x_iret C rfl dX12_feed_124 h
    · refine x_iload C dX12_feed_30 32 rfl 6 rfl ?_
      refine x_iconst C dX12_feed_32 33 rfl 4 rfl ?_
      refine x_icmp_ge C dX12_feed_33 36 rfl 40 rfl h (fun h => ?_) (fun h => ?_)
      · refine x_iload C dX12_feed_40 42 rfl 6 rfl ?_
        refine x_bipush C dX12_feed_42 44 rfl 8 rfl ?_
        refine x_icmp_ge C dX12_feed_44 47 rfl 51 rfl h (fun h => ?_) (fun h => ?_)
        · refine x_iload C dX12_feed_51 53 rfl 6 rfl ?_
          refine x_bipush C dX12_feed_53 55 rfl 12 rfl ?_
          refine x_icmp_ge C dX12_feed_55 58 rfl 62 rfl h (fun h => ?_) (fun h => ?_)
          · refine x_iload C dX12_feed_62 64 rfl 6 rfl ?_
            refine x_bipush C dX12_feed_64 66 rfl 16 rfl ?_
            refine x_icmp_ge C dX12_feed_66 69 rfl 74 rfl h (fun h => ?_) (fun h => ?_)
            · refine x_iload C dX12_feed_74 76 rfl 5 rfl ?_
              exact b_X12_feed_76 C (fun _ _ _ _ _ _ _ h => ih h) h
            · refine x_iload C dX12_feed_69 71 rfl 4 rfl ?_
              refine x_goto C dX12_feed_71 76 rfl ?_
              exact b_X12_feed_76 C (fun _ _ _ _ _ _ _ h => ih h) h
          · refine x_iload_n C dX12_feed_58 59 rfl 3 rfl ?_
            refine x_goto C dX12_feed_59 76 rfl ?_
            exact b_X12_feed_76 C (fun _ _ _ _ _ _ _ h => ih h) h
        · refine x_iload_n C dX12_feed_47 48 rfl 2 rfl ?_
          refine x_goto C dX12_feed_48 76 rfl ?_
          exact b_X12_feed_76 C (fun _ _ _ _ _ _ _ h => ih h) h
      · refine x_iload_n C dX12_feed_36 37 rfl 1 rfl ?_
        refine x_goto C dX12_feed_37 76 rfl ?_
        exact b_X12_feed_76 C (fun _ _ _ _ _ _ _ h => ih h) h
theorem c_X12_feed {l : Launch} {D : va_G} {ca : Nat → ClassId} {ad : Nat → Nat} (hI : xInj ad NCM) {N : Nat} {ah : AH} {p1 : Int32} {p2 : Int32} {p3 : Int32} {p4 : Int32} {p5 : Int32} {r : Int32} {a : AH} (h : F_X12_feed N ah p1 p2 p3 p4 p5 = some (r, a)) : xMi l yX12_feed cX12_feed 8 (some .int) rm_X12_feed D vwCl (tysM ca) (EM ad ca) NCM ad [.ref (ad 0), .int p1, .int p2, .int p3, .int p4, .int p5] ah (r, a) := by
  refine x_meti (by decide) (Nat.le_of_ble_eq_true rfl) hI EM_loc ?_
  intro p e s m args below meth c C
  unfold F_X12_feed at h
  refine x_aload_n C dX12_feed_0 1 rfl 0 rfl ?_
  refine x_iconst C dX12_feed_1 2 rfl 0 rfl ?_
  refine x_put C inX12 0 lm0 EM_0 rfl 0 (by decide) tyX12_ok nmX12 dX12_feed_2 5 rfl wmf_X12_180 rfl rfl rfl (Nat.le_of_ble_eq_true rfl) EQ_0_0 h (fun a2 h => ?_)
  refine x_aload_n C dX12_feed_5 6 rfl 0 rfl ?_
  refine x_get C inX12 0 lm0 EM_0 rfl 2 (by decide) dX12_feed_6 9 rfl wmf_X12_183 rfl ?_
  refine x_bipush C dX12_feed_9 11 rfl 20 rfl ?_
  refine x_iadd C dX12_feed_11 12 rfl ?_
  refine x_sipush C dX12_feed_12 15 rfl 400 rfl ?_
  refine x_icmp_le C dX12_feed_15 18 rfl 20 rfl h (fun h => ?_) (fun h => ?_)
  · refine x_iconst C dX12_feed_20 21 rfl 0 rfl ?_
    refine x_istore C dX12_feed_21 23 rfl (by decide) (fun v6_21 => [(6, .int v6_21), (0, .ref (ad 0)), (1, .int p1), (2, .int p2), (3, .int p3), (4, .int p4), (5, .int p5)]) (fun _ => rfl) h (fun v6_21 h => ?_)
    exact x_sub [1, 2, 3, 4, 5, 6, 0] rfl (b_X12_feed_23 C  N h)
  · refine x_iconst C dX12_feed_18 19 rfl (-1) rfl ?_
    exact x_iret C rfl dX12_feed_19 h
abbrev rm_X12_byteAt : Room := { frames := 0, cells := 0, slots := 0, locals := 0 }
theorem wq_X12_byteAt : xcV RX12 yX12_byteAt cX12_byteAt 2 (some .int) 1 := ⟨wmi_X12_byteAt, wms_X12_byteAt, wmn_X12, wmc_X12_byteAt, by decide, by decide, by decide +kernel⟩
def F_X12_byteAt (N : Nat) (ah : AH) (p1 : Int32) : Option (Int32 × AH) := if p1 < (ah 0 3) then xg p1 400 (some (ah 2 (Int32.toNatClampNeg p1), ah)) else some ((-1), ah)
theorem c_X12_byteAt {l : Launch} {D : va_G} {ca : Nat → ClassId} {ad : Nat → Nat} (hI : xInj ad NCM) {N : Nat} {ah : AH} {p1 : Int32} {r : Int32} {a : AH} (h : F_X12_byteAt N ah p1 = some (r, a)) : xMi l yX12_byteAt cX12_byteAt 2 (some .int) rm_X12_byteAt D vwCl (tysM ca) (EM ad ca) NCM ad [.ref (ad 0), .int p1] ah (r, a) := by
  refine x_meti (by decide) (Nat.le_of_ble_eq_true rfl) hI EM_loc ?_
  intro p e s m args below meth c C
  unfold F_X12_byteAt at h
  refine x_iload_n C dX12_byteAt_0 1 rfl 1 rfl ?_
  refine x_aload_n C dX12_byteAt_1 2 rfl 0 rfl ?_
  refine x_get C inX12 0 lm0 EM_0 rfl 3 (by decide) dX12_byteAt_2 5 rfl wmf_X12_186 rfl ?_
  refine x_icmp_lt C dX12_byteAt_5 8 rfl 12 rfl h (fun h => ?_) (fun h => ?_)
  · refine x_aload_n C dX12_byteAt_12 13 rfl 0 rfl ?_
    refine x_get C inX12 0 lm0 EM_0 rfl 8 (by decide) dX12_byteAt_13 16 rfl wmf_X12_17 rfl ?_
    refine x_iload_n C dX12_byteAt_16 17 rfl 1 rfl ?_
    refine x_iald C 2 lm2 EM_2 0 rfl dX12_byteAt_17 18 rfl h (fun h => ?_)
    exact x_iret C rfl dX12_byteAt_18 h
  · refine x_iconst C dX12_byteAt_8 9 rfl (-1) rfl ?_
    refine x_goto C dX12_byteAt_9 18 rfl ?_
    exact x_iret C rfl dX12_byteAt_18 h
abbrev rm_X12_here : Room := { frames := 1, cells := 0, slots := 0, locals := 21 }
theorem wq_X12_here : xcV RX12 yX12_here cX12_here 1 (some .int) 0 := ⟨wmi_X12_here, wms_X12_here, wmn_X12, wmc_X12_here, by decide, by decide, by decide +kernel⟩
def F_X12_here (N : Nat) (ah : AH) : Option (Int32 × AH) := xb (F_X12_byteAt N ah (ah 0 4)) (fun r5 a5 => some (r5, a5))
theorem c_X12_here {l : Launch} {D : va_G} {ca : Nat → ClassId} {ad : Nat → Nat} (hI : xInj ad NCM) {N : Nat} {ah : AH} {r : Int32} {a : AH} (h : F_X12_here N ah = some (r, a)) : xMi l yX12_here cX12_here 1 (some .int) rm_X12_here D vwCl (tysM ca) (EM ad ca) NCM ad [.ref (ad 0)] ah (r, a) := by
  refine x_meti (by decide) (Nat.le_of_ble_eq_true rfl) hI EM_loc ?_
  intro p e s m args below meth c C
  unfold F_X12_here at h
  refine x_aload_n C dX12_here_0 1 rfl 0 rfl ?_
  refine x_aload_n C dX12_here_1 2 rfl 0 rfl ?_
  refine x_get C inX12 0 lm0 EM_0 rfl 4 (by decide) dX12_here_2 5 rfl wmf_X12_189 rfl ?_
  obtain ⟨r5, a5, hq, h⟩ := xb_some h
  refine x_callVi C 0 (c_X12_byteAt C.2.2.2.2.2.2.1 hq) lm0 EM_0 rfl wml_X12_192 wq_X12_byteAt rfl ⟨by decide, by decide⟩ rfl rfl ⟨by decide, by decide⟩ dX12_here_5 8 rfl rfl (Nat.le_of_ble_eq_true rfl) ?_
  exact x_iret C rfl dX12_here_8 h
abbrev rm_X12_blanks : Room := { frames := 2, cells := 0, slots := 0, locals := 41 }
theorem wq_X12_blanks : xcV RX12 yX12_blanks cX12_blanks 1 (some .int) 0 := ⟨wmi_X12_blanks, wms_X12_blanks, wmn_X12, wmc_X12_blanks, by decide, by decide, by decide +kernel⟩
def F_X12_blanks_0 (N : Nat) : Nat → AH → Option (Int32 × AH)
  | 0, _ => none
  | n + 1, ah => xb (F_X12_here N ah) (fun r1 a1 => if r1 = 32 then xlet (xu a1 0 4 ((a1 0 4) + 1)) (fun a16 => F_X12_blanks_0 N n a16) else xb (F_X12_here N a1) (fun r23 a23 => some (r23, a23)))
def F_X12_blanks (N : Nat) (ah : AH) : Option (Int32 × AH) := F_X12_blanks_0 N  N ah
theorem b_X12_blanks_0 (C : XC p l s m args meth c cX12_blanks 1 (some .int) RX12 D vwCl (tysM ca) (EM ad ca) NCM ad) {N : Nat} {o : (Int32 × AH)} : ∀ (n : Nat) {ah : AH}, F_X12_blanks_0 N n ah = some o → XW p l e rm_X12_blanks s m args below meth c 1 0 (xQi below args s D vwCl (tysM ca) (EM ad ca) NCM ad o) D vwCl (EM ad ca) NCM ad ah 0 [(0, .ref (ad 0))] [] := by
  intro n
  induction n with
  | zero => intro ah h; unfold F_X12_blanks_0 at h; cases h
  | succ n ih =>
    intro ah h
    unfold F_X12_blanks_0 at h
    refine x_aload_n C dX12_blanks_0 1 rfl 0 rfl ?_
    obtain ⟨r1, a1, hq, h⟩ := xb_some h
    refine x_callVi C 0 (c_X12_here C.2.2.2.2.2.2.1 hq) lm0 EM_0 rfl wml_X12_196 wq_X12_here rfl ⟨by decide, by decide⟩ rfl rfl ⟨by decide, by decide⟩ dX12_blanks_1 4 rfl rfl (Nat.le_of_ble_eq_true rfl) ?_
    refine x_bipush C dX12_blanks_4 6 rfl 32 rfl ?_
    refine x_icmp_ne C dX12_blanks_6 9 rfl 22 rfl h (fun h => ?_) (fun h => ?_)
    · refine x_aload_n C dX12_blanks_22 23 rfl 0 rfl ?_
      obtain ⟨r23, a23, hq, h⟩ := xb_some h
      refine x_callVi C 0 (c_X12_here C.2.2.2.2.2.2.1 hq) lm0 EM_0 rfl wml_X12_196 wq_X12_here rfl ⟨by decide, by decide⟩ rfl rfl ⟨by decide, by decide⟩ dX12_blanks_23 26 rfl rfl (Nat.le_of_ble_eq_true rfl) ?_
      exact x_iret C rfl dX12_blanks_26 h
    · refine x_aload_n C dX12_blanks_9 10 rfl 0 rfl ?_
      refine x_dup C dX12_blanks_10 11 rfl rfl ?_
      refine x_get C inX12 0 lm0 EM_0 rfl 4 (by decide) dX12_blanks_11 14 rfl wmf_X12_189 rfl ?_
      refine x_iconst C dX12_blanks_14 15 rfl 1 rfl ?_
      refine x_iadd C dX12_blanks_15 16 rfl ?_
      refine x_put C inX12 0 lm0 EM_0 rfl 4 (by decide) tyX12_ok nmX12 dX12_blanks_16 19 rfl wmf_X12_189 rfl rfl rfl (Nat.le_of_ble_eq_true rfl) EQ_0_4 h (fun a16 h => ?_)
      refine x_goto C dX12_blanks_19 0 rfl ?_
      exact ih h
theorem c_X12_blanks {l : Launch} {D : va_G} {ca : Nat → ClassId} {ad : Nat → Nat} (hI : xInj ad NCM) {N : Nat} {ah : AH} {r : Int32} {a : AH} (h : F_X12_blanks N ah = some (r, a)) : xMi l yX12_blanks cX12_blanks 1 (some .int) rm_X12_blanks D vwCl (tysM ca) (EM ad ca) NCM ad [.ref (ad 0)] ah (r, a) := by
  refine x_meti (by decide) (Nat.le_of_ble_eq_true rfl) hI EM_loc ?_
  intro p e s m args below meth c C
  unfold F_X12_blanks at h
  exact (b_X12_blanks_0 C N h)
abbrev rm_X12_fine : Room := { frames := 0, cells := 0, slots := 0, locals := 0 }
theorem wq_X12_fine : xcV RX12 yX12_fine cX12_fine 1 (some .boolean) 0 := ⟨wmi_X12_fine, wms_X12_fine, wmn_X12, wmc_X12_fine, by decide, by decide, by decide +kernel⟩
def F_X12_fine (N : Nat) (ah : AH) : Option (Int32 × AH) := if (ah 0 6) = 0 then some (1, ah) else some (0, ah)
theorem c_X12_fine {l : Launch} {D : va_G} {ca : Nat → ClassId} {ad : Nat → Nat} (hI : xInj ad NCM) {N : Nat} {ah : AH} {r : Int32} {a : AH} (h : F_X12_fine N ah = some (r, a)) : xMi l yX12_fine cX12_fine 1 (some .boolean) rm_X12_fine D vwCl (tysM ca) (EM ad ca) NCM ad [.ref (ad 0)] ah (r, a) := by
  refine x_meti (by decide) (Nat.le_of_ble_eq_true rfl) hI EM_loc ?_
  intro p e s m args below meth c C
  unfold F_X12_fine at h
  refine x_aload_n C dX12_fine_0 1 rfl 0 rfl ?_
  refine x_get C inX12 0 lm0 EM_0 rfl 6 (by decide) dX12_fine_1 4 rfl wmf_X12_200 rfl ?_
  refine x_if_ne C dX12_fine_4 7 rfl 11 rfl h (fun h => ?_) (fun h => ?_)
  · refine x_iconst C dX12_fine_11 12 rfl 0 rfl ?_
    exact x_zret C rfl dX12_fine_12 (by decide) h
  · refine x_iconst C dX12_fine_7 8 rfl 1 rfl ?_
    refine x_goto C dX12_fine_8 12 rfl ?_
    exact x_zret C rfl dX12_fine_12 (by decide) h
abbrev rm_X12_wrong : Room := { frames := 0, cells := 0, slots := 0, locals := 0 }
theorem wq_X12_wrong : xcV RX12 yX12_wrong cX12_wrong 3 none 2 := ⟨wmi_X12_wrong, wms_X12_wrong, wmn_X12, wmc_X12_wrong, by decide, by decide, by decide +kernel⟩
def F_X12_wrong (N : Nat) (ah : AH) (p1 : Int32) (p2 : Int32) : Option AH := if (ah 0 6) = 0 then xlet (xu ah 0 6 p1) (fun a9 => xlet (xu a9 0 7 p2) (fun a14 => some a14)) else some ah
theorem c_X12_wrong {l : Launch} {D : va_G} {ca : Nat → ClassId} {ad : Nat → Nat} (hI : xInj ad NCM) {N : Nat} {ah : AH} {p1 : Int32} {p2 : Int32} {a : AH} (h : F_X12_wrong N ah p1 p2 = some a) : xMv l yX12_wrong cX12_wrong 3 rm_X12_wrong D vwCl (tysM ca) (EM ad ca) NCM ad [.ref (ad 0), .int p1, .int p2] ah a := by
  refine x_metv (by decide) (Nat.le_of_ble_eq_true rfl) hI EM_loc ?_
  intro p e s m args below meth c C
  unfold F_X12_wrong at h
  refine x_aload_n C dX12_wrong_0 1 rfl 0 rfl ?_
  refine x_get C inX12 0 lm0 EM_0 rfl 6 (by decide) dX12_wrong_1 4 rfl wmf_X12_200 rfl ?_
  refine x_if_ne C dX12_wrong_4 7 rfl 17 rfl h (fun h => ?_) (fun h => ?_)
  · exact x_vret C rfl dX12_wrong_17 h
  · refine x_aload_n C dX12_wrong_7 8 rfl 0 rfl ?_
    refine x_iload_n C dX12_wrong_8 9 rfl 1 rfl ?_
    refine x_put C inX12 0 lm0 EM_0 rfl 6 (by decide) tyX12_ok nmX12 dX12_wrong_9 12 rfl wmf_X12_200 rfl rfl rfl (Nat.le_of_ble_eq_true rfl) EQ_0_6 h (fun a9 h => ?_)
    refine x_aload_n C dX12_wrong_12 13 rfl 0 rfl ?_
    refine x_iload_n C dX12_wrong_13 14 rfl 2 rfl ?_
    refine x_put C inX12 0 lm0 EM_0 rfl 7 (by decide) tyX12_ok nmX12 dX12_wrong_14 17 rfl wmf_X12_203 rfl rfl rfl (Nat.le_of_ble_eq_true rfl) EQ_0_7 h (fun a14 h => ?_)
    exact x_vret C rfl dX12_wrong_17 h
abbrev rm_X12_starts : Room := { frames := 0, cells := 0, slots := 0, locals := 0 }
theorem wq_X12_starts : xcV RX12 yX12_starts cX12_starts 2 none 1 := ⟨wmi_X12_starts, wms_X12_starts, wmn_X12, wmc_X12_starts, by decide, by decide, by decide +kernel⟩
def F_X12_starts (N : Nat) (ah : AH) (p1 : Int32) : Option AH := xlet (xu ah 0 2 0) (fun a2 => xlet (xu a2 0 3 p1) (fun a7 => xlet (xu a7 0 4 0) (fun a12 => xlet (xu a12 0 6 0) (fun a17 => xlet (xu a17 0 7 ((-1))) (fun a22 => some a22)))))
theorem c_X12_starts {l : Launch} {D : va_G} {ca : Nat → ClassId} {ad : Nat → Nat} (hI : xInj ad NCM) {N : Nat} {ah : AH} {p1 : Int32} {a : AH} (h : F_X12_starts N ah p1 = some a) : xMv l yX12_starts cX12_starts 2 rm_X12_starts D vwCl (tysM ca) (EM ad ca) NCM ad [.ref (ad 0), .int p1] ah a := by
  refine x_metv (by decide) (Nat.le_of_ble_eq_true rfl) hI EM_loc ?_
  intro p e s m args below meth c C
  unfold F_X12_starts at h
  refine x_aload_n C dX12_starts_0 1 rfl 0 rfl ?_
  refine x_iconst C dX12_starts_1 2 rfl 0 rfl ?_
  refine x_put C inX12 0 lm0 EM_0 rfl 2 (by decide) tyX12_ok nmX12 dX12_starts_2 5 rfl wmf_X12_183 rfl rfl rfl (Nat.le_of_ble_eq_true rfl) EQ_0_2 h (fun a2 h => ?_)
  refine x_aload_n C dX12_starts_5 6 rfl 0 rfl ?_
  refine x_iload_n C dX12_starts_6 7 rfl 1 rfl ?_
  refine x_put C inX12 0 lm0 EM_0 rfl 3 (by decide) tyX12_ok nmX12 dX12_starts_7 10 rfl wmf_X12_186 rfl rfl rfl (Nat.le_of_ble_eq_true rfl) EQ_0_3 h (fun a7 h => ?_)
  refine x_aload_n C dX12_starts_10 11 rfl 0 rfl ?_
  refine x_iconst C dX12_starts_11 12 rfl 0 rfl ?_
  refine x_put C inX12 0 lm0 EM_0 rfl 4 (by decide) tyX12_ok nmX12 dX12_starts_12 15 rfl wmf_X12_189 rfl rfl rfl (Nat.le_of_ble_eq_true rfl) EQ_0_4 h (fun a12 h => ?_)
  refine x_aload_n C dX12_starts_15 16 rfl 0 rfl ?_
  refine x_iconst C dX12_starts_16 17 rfl 0 rfl ?_
  refine x_put C inX12 0 lm0 EM_0 rfl 6 (by decide) tyX12_ok nmX12 dX12_starts_17 20 rfl wmf_X12_200 rfl rfl rfl (Nat.le_of_ble_eq_true rfl) EQ_0_6 h (fun a17 h => ?_)
  refine x_aload_n C dX12_starts_20 21 rfl 0 rfl ?_
  refine x_iconst C dX12_starts_21 22 rfl (-1) rfl ?_
  refine x_put C inX12 0 lm0 EM_0 rfl 7 (by decide) tyX12_ok nmX12 dX12_starts_22 25 rfl wmf_X12_203 rfl rfl rfl (Nat.le_of_ble_eq_true rfl) EQ_0_7 h (fun a22 h => ?_)
  exact x_vret C rfl dX12_starts_25 h
abbrev rm_X12_ends : Room := { frames := 1, cells := 0, slots := 0, locals := 20 }
theorem wq_X12_ends : xcV RX12 yX12_ends cX12_ends 2 (some .int) 1 := ⟨wmi_X12_ends, wms_X12_ends, wmn_X12, wmc_X12_ends, by decide, by decide, by decide +kernel⟩
def F_X12_ends (N : Nat) (ah : AH) (p1 : Int32) : Option (Int32 × AH) := xlet (xu ah 0 5 (ah 0 7)) (fun a5 => xb (F_X12_fine N a5) (fun r9 a9 => if r9 = 0 then some ((a9 0 6) - 10, a9) else some (p1, a9)))
theorem c_X12_ends {l : Launch} {D : va_G} {ca : Nat → ClassId} {ad : Nat → Nat} (hI : xInj ad NCM) {N : Nat} {ah : AH} {p1 : Int32} {r : Int32} {a : AH} (h : F_X12_ends N ah p1 = some (r, a)) : xMi l yX12_ends cX12_ends 2 (some .int) rm_X12_ends D vwCl (tysM ca) (EM ad ca) NCM ad [.ref (ad 0), .int p1] ah (r, a) := by
  refine x_meti (by decide) (Nat.le_of_ble_eq_true rfl) hI EM_loc ?_
  intro p e s m args below meth c C
  unfold F_X12_ends at h
  refine x_aload_n C dX12_ends_0 1 rfl 0 rfl ?_
  refine x_aload_n C dX12_ends_1 2 rfl 0 rfl ?_
  refine x_get C inX12 0 lm0 EM_0 rfl 7 (by decide) dX12_ends_2 5 rfl wmf_X12_203 rfl ?_
  refine x_put C inX12 0 lm0 EM_0 rfl 5 (by decide) tyX12_ok nmX12 dX12_ends_5 8 rfl wmf_X12_13 rfl rfl rfl (Nat.le_of_ble_eq_true rfl) EQ_0_5 h (fun a5 h => ?_)
  refine x_aload_n C dX12_ends_8 9 rfl 0 rfl ?_
  obtain ⟨r9, a9, hq, h⟩ := xb_some h
  refine x_callVi C 0 (c_X12_fine C.2.2.2.2.2.2.1 hq) lm0 EM_0 rfl wml_X12_206 wq_X12_fine rfl ⟨by decide, by decide⟩ rfl rfl ⟨by decide, by decide⟩ dX12_ends_9 12 rfl rfl (Nat.le_of_ble_eq_true rfl) ?_
  refine x_if_eq C dX12_ends_12 15 rfl 19 rfl h (fun h => ?_) (fun h => ?_)
  · refine x_aload_n C dX12_ends_19 20 rfl 0 rfl ?_
    refine x_get C inX12 0 lm0 EM_0 rfl 6 (by decide) dX12_ends_20 23 rfl wmf_X12_200 rfl ?_
    refine x_bipush C dX12_ends_23 25 rfl 10 rfl ?_
    refine x_isub C dX12_ends_25 26 rfl ?_
    exact x_iret C rfl dX12_ends_26 h
  · refine x_iload_n C dX12_ends_15 16 rfl 1 rfl ?_
    refine x_goto C dX12_ends_16 26 rfl ?_
    exact x_iret C rfl dX12_ends_26 h
abbrev rm_X12_isDigit : Room := { frames := 0, cells := 0, slots := 0, locals := 0 }
theorem wq_X12_isDigit : xcS yX12_isDigit cX12_isDigit 1 (some .boolean) 1 := ⟨wmt_X12_isDigit, wmn_X12, wmc_X12_isDigit, by decide, by decide, by decide +kernel⟩
def F_X12_isDigit (N : Nat) (ah : AH) (p0 : Int32) : Option (Int32 × AH) := if p0 < 48 then some (0, ah) else if 57 < p0 then some (0, ah) else some (1, ah)
theorem c_X12_isDigit {l : Launch} {D : va_G} {ca : Nat → ClassId} {ad : Nat → Nat} (hI : xInj ad NCM) {N : Nat} {ah : AH} {p0 : Int32} {r : Int32} {a : AH} (h : F_X12_isDigit N ah p0 = some (r, a)) : xMi l yX12_isDigit cX12_isDigit 1 (some .boolean) rm_X12_isDigit D vwCl (tysM ca) (EM ad ca) NCM ad [.int p0] ah (r, a) := by
  refine x_meti (by decide) (Nat.le_of_ble_eq_true rfl) hI EM_loc ?_
  intro p e s m args below meth c C
  unfold F_X12_isDigit at h
  refine x_iload_n C dX12_isDigit_0 1 rfl 0 rfl ?_
  refine x_bipush C dX12_isDigit_1 3 rfl 48 rfl ?_
  refine x_icmp_lt C dX12_isDigit_3 6 rfl 16 rfl h (fun h => ?_) (fun h => ?_)
  · refine x_iconst C dX12_isDigit_16 17 rfl 0 rfl ?_
    exact x_zret C rfl dX12_isDigit_17 (by decide) h
  · refine x_iload_n C dX12_isDigit_6 7 rfl 0 rfl ?_
    refine x_bipush C dX12_isDigit_7 9 rfl 57 rfl ?_
    refine x_icmp_gt C dX12_isDigit_9 12 rfl 16 rfl h (fun h => ?_) (fun h => ?_)
    · refine x_iconst C dX12_isDigit_16 17 rfl 0 rfl ?_
      exact x_zret C rfl dX12_isDigit_17 (by decide) h
    · refine x_iconst C dX12_isDigit_12 13 rfl 1 rfl ?_
      refine x_goto C dX12_isDigit_13 17 rfl ?_
      exact x_zret C rfl dX12_isDigit_17 (by decide) h
abbrev rm_X12_isSmall : Room := { frames := 0, cells := 0, slots := 0, locals := 0 }
theorem wq_X12_isSmall : xcS yX12_isSmall cX12_isSmall 1 (some .boolean) 1 := ⟨wmt_X12_isSmall, wmn_X12, wmc_X12_isSmall, by decide, by decide, by decide +kernel⟩
def F_X12_isSmall (N : Nat) (ah : AH) (p0 : Int32) : Option (Int32 × AH) := if p0 < 97 then some (0, ah) else if 122 < p0 then some (0, ah) else some (1, ah)
theorem c_X12_isSmall {l : Launch} {D : va_G} {ca : Nat → ClassId} {ad : Nat → Nat} (hI : xInj ad NCM) {N : Nat} {ah : AH} {p0 : Int32} {r : Int32} {a : AH} (h : F_X12_isSmall N ah p0 = some (r, a)) : xMi l yX12_isSmall cX12_isSmall 1 (some .boolean) rm_X12_isSmall D vwCl (tysM ca) (EM ad ca) NCM ad [.int p0] ah (r, a) := by
  refine x_meti (by decide) (Nat.le_of_ble_eq_true rfl) hI EM_loc ?_
  intro p e s m args below meth c C
  unfold F_X12_isSmall at h
  refine x_iload_n C dX12_isSmall_0 1 rfl 0 rfl ?_
  refine x_bipush C dX12_isSmall_1 3 rfl 97 rfl ?_
  refine x_icmp_lt C dX12_isSmall_3 6 rfl 16 rfl h (fun h => ?_) (fun h => ?_)
  · refine x_iconst C dX12_isSmall_16 17 rfl 0 rfl ?_
    exact x_zret C rfl dX12_isSmall_17 (by decide) h
  · refine x_iload_n C dX12_isSmall_6 7 rfl 0 rfl ?_
    refine x_bipush C dX12_isSmall_7 9 rfl 122 rfl ?_
    refine x_icmp_gt C dX12_isSmall_9 12 rfl 16 rfl h (fun h => ?_) (fun h => ?_)
    · refine x_iconst C dX12_isSmall_16 17 rfl 0 rfl ?_
      exact x_zret C rfl dX12_isSmall_17 (by decide) h
    · refine x_iconst C dX12_isSmall_12 13 rfl 1 rfl ?_
      refine x_goto C dX12_isSmall_13 17 rfl ?_
      exact x_zret C rfl dX12_isSmall_17 (by decide) h
abbrev rm_X12_number : Room := { frames := 2, cells := 0, slots := 0, locals := 41 }
theorem wq_X12_number : xcV RX12 yX12_number cX12_number 5 (some .int) 2 := ⟨wmi_X12_number, wms_X12_number, wmn_X12, wmc_X12_number, by decide, by decide, by decide +kernel⟩
def F_X12_number_95 (N : Nat) (ah : AH) (v1 : Int32) (v4 : Int32) : Option (Int32 × AH) := xb (F_X12_fine N ah) (fun r96 a96 => if r96 = 0 then some (v1, a96) else some (v4, a96))
def F_X12_number_36 (N : Nat) : Nat → AH → Int32 → Int32 → Int32 → Int32 → Option (Int32 × AH)
  | 0, _, _, _, _, _ => none
  | n + 1, ah, v1, v2, v3, v4 => xb (F_X12_here N ah) (fun r37 a37 => xb (F_X12_isDigit N a37 r37) (fun r40 a40 => if r40 = 0 then xb (F_X12_in N a40 v4 v1 v2) (fun r83 a83 => if r83 = 0 then xbv (F_X12_wrong N a83 2 v3) (fun a92 => F_X12_number_95 N a92 v1 v4) else F_X12_number_95 N a83 v1 v4) else xb (F_X12_here N a40) (fun r54 a54 => xb (F_X12_less N a54 100000 (((10 * v4) + r54) - 48)) (fun r61 a61 => xlet r61 (fun v4_64 => xlet (xu a61 0 4 ((a61 0 4) + 1)) (fun a73 => F_X12_number_36 N n a73 v1 v2 v3 v4_64))))))
def F_X12_number_28 (N : Nat) (ah : AH) (v1 : Int32) (v2 : Int32) : Option (Int32 × AH) := xlet (ah 0 4) (fun v3_32 => xlet 0 (fun v4_34 => F_X12_number_36 N N ah v1 v2 v3_32 v4_34))
def F_X12_number (N : Nat) (ah : AH) (p1 : Int32) (p2 : Int32) : Option (Int32 × AH) := xb (F_X12_fine N ah) (fun r1 a1 => if r1 = 0 then some (p1, a1) else xb (F_X12_here N a1) (fun r10 a10 => xb (F_X12_isDigit N a10 r10) (fun r13 a13 => if r13 = 0 then xbv (F_X12_wrong N a13 1 (a13 0 4)) (fun a25 => F_X12_number_28 N a25 p1 p2) else F_X12_number_28 N a13 p1 p2)))
theorem b_X12_number_95 (C : XC p l s m args meth c cX12_number 5 (some .int) RX12 D vwCl (tysM ca) (EM ad ca) NCM ad) {N : Nat} {o : (Int32 × AH)} {ah : AH} {v1 : Int32} {v4 : Int32} (h : F_X12_number_95 N ah v1 v4 = some o) : XW p l e rm_X12_number s m args below meth c 5 0 (xQi below args s D vwCl (tysM ca) (EM ad ca) NCM ad o) D vwCl (EM ad ca) NCM ad ah 95 [(0, .ref (ad 0)), (1, .int v1), (4, .int v4)] [] := by
  unfold F_X12_number_95 at h
  refine x_aload_n C dX12_number_95 96 rfl 0 rfl ?_
  obtain ⟨r96, a96, hq, h⟩ := xb_some h
  refine x_callVi C 0 (c_X12_fine C.2.2.2.2.2.2.1 hq) lm0 EM_0 rfl wml_X12_206 wq_X12_fine rfl ⟨by decide, by decide⟩ rfl rfl ⟨by decide, by decide⟩ dX12_number_96 99 rfl rfl (Nat.le_of_ble_eq_true rfl) ?_
  refine x_if_eq C dX12_number_99 102 rfl 107 rfl h (fun h => ?_) (fun h => ?_)
  · refine x_iload_n C dX12_number_107 108 rfl 1 rfl ?_
    exact x_iret C rfl dX12_number_108 h
  · refine x_iload C dX12_number_102 104 rfl 2 rfl ?_
    refine x_goto C dX12_number_104 108 rfl ?_
    exact x_iret C rfl dX12_number_108 h
theorem b_X12_number_36 (C : XC p l s m args meth c cX12_number 5 (some .int) RX12 D vwCl (tysM ca) (EM ad ca) NCM ad) {N : Nat} {o : (Int32 × AH)} : ∀ (n : Nat) {ah : AH} {v1 : Int32} {v2 : Int32} {v3 : Int32} {v4 : Int32}, F_X12_number_36 N n ah v1 v2 v3 v4 = some o → XW p l e rm_X12_number s m args below meth c 5 0 (xQi below args s D vwCl (tysM ca) (EM ad ca) NCM ad o) D vwCl (EM ad ca) NCM ad ah 36 [(0, .ref (ad 0)), (1, .int v1), (2, .int v2), (3, .int v3), (4, .int v4)] [] := by
  intro n
  induction n with
  | zero => intro ah v1 v2 v3 v4 h; unfold F_X12_number_36 at h; cases h
  | succ n ih =>
    intro ah v1 v2 v3 v4 h
    unfold F_X12_number_36 at h
    refine x_aload_n C dX12_number_36 37 rfl 0 rfl ?_
    obtain ⟨r37, a37, hq, h⟩ := xb_some h
    refine x_callVi C 0 (c_X12_here C.2.2.2.2.2.2.1 hq) lm0 EM_0 rfl wml_X12_196 wq_X12_here rfl ⟨by decide, by decide⟩ rfl rfl ⟨by decide, by decide⟩ dX12_number_37 40 rfl rfl (Nat.le_of_ble_eq_true rfl) ?_
    obtain ⟨r40, a40, hq, h⟩ := xb_some h
    refine x_callSi C (c_X12_isDigit C.2.2.2.2.2.2.1 hq) wml_X12_210 wq_X12_isDigit rfl ⟨by decide, by decide⟩ rfl rfl ⟨by decide, by decide⟩ dX12_number_40 43 rfl rfl (Nat.le_of_ble_eq_true rfl) ?_
    refine x_if_eq C dX12_number_43 46 rfl 79 rfl h (fun h => ?_) (fun h => ?_)
    · refine x_iload C dX12_number_79 81 rfl 4 rfl ?_
      refine x_iload_n C dX12_number_81 82 rfl 1 rfl ?_
      refine x_iload_n C dX12_number_82 83 rfl 2 rfl ?_
      obtain ⟨r83, a83, hq, h⟩ := xb_some h
      refine x_callSi C (c_X12_in C.2.2.2.2.2.2.1 hq) wml_X12_223 wq_X12_in rfl ⟨by decide, by decide⟩ rfl rfl ⟨by decide, by decide⟩ dX12_number_83 86 rfl rfl (Nat.le_of_ble_eq_true rfl) ?_
      refine x_if_ne C dX12_number_86 89 rfl 95 rfl h (fun h => ?_) (fun h => ?_)
      · exact x_sub [0, 1, 4] rfl (b_X12_number_95 C  h)
      · refine x_aload_n C dX12_number_89 90 rfl 0 rfl ?_
        refine x_iconst C dX12_number_90 91 rfl 2 rfl ?_
        refine x_iload_n C dX12_number_91 92 rfl 3 rfl ?_
        obtain ⟨a92, hq, h⟩ := xbv_some h
        refine x_callVv C 0 (c_X12_wrong C.2.2.2.2.2.2.1 hq) lm0 EM_0 rfl wml_X12_214 wq_X12_wrong rfl ⟨by decide, by decide⟩ rfl rfl ⟨by decide, by decide⟩ dX12_number_92 95 rfl rfl (Nat.le_of_ble_eq_true rfl) ?_
        exact x_sub [0, 1, 4] rfl (b_X12_number_95 C  h)
    · refine x_ldc C dX12_number_46 48 rfl wmk_X12_218 ?_
      refine x_bipush C dX12_number_48 50 rfl 10 rfl ?_
      refine x_iload C dX12_number_50 52 rfl 4 rfl ?_
      refine x_imul C dX12_number_52 53 rfl ?_
      refine x_aload_n C dX12_number_53 54 rfl 0 rfl ?_
      obtain ⟨r54, a54, hq, h⟩ := xb_some h
      refine x_callVi C 0 (c_X12_here C.2.2.2.2.2.2.1 hq) lm0 EM_0 rfl wml_X12_196 wq_X12_here rfl ⟨by decide, by decide⟩ rfl rfl ⟨by decide, by decide⟩ dX12_number_54 57 rfl rfl (Nat.le_of_ble_eq_true rfl) ?_
      refine x_iadd C dX12_number_57 58 rfl ?_
      refine x_bipush C dX12_number_58 60 rfl 48 rfl ?_
      refine x_isub C dX12_number_60 61 rfl ?_
      obtain ⟨r61, a61, hq, h⟩ := xb_some h
      refine x_callSi C (c_X12_less C.2.2.2.2.2.2.1 hq) wml_X12_219 wq_X12_less rfl ⟨by decide, by decide⟩ rfl rfl ⟨by decide, by decide⟩ dX12_number_61 64 rfl rfl (Nat.le_of_ble_eq_true rfl) ?_
      refine x_istore C dX12_number_64 66 rfl (by decide) (fun v4_64 => [(4, .int v4_64), (0, .ref (ad 0)), (1, .int v1), (2, .int v2), (3, .int v3)]) (fun _ => rfl) h (fun v4_64 h => ?_)
      refine x_aload_n C dX12_number_66 67 rfl 1 rfl ?_
      refine x_dup C dX12_number_67 68 rfl rfl ?_
      refine x_get C inX12 0 lm0 EM_0 rfl 4 (by decide) dX12_number_68 71 rfl wmf_X12_189 rfl ?_
      refine x_iconst C dX12_number_71 72 rfl 1 rfl ?_
      refine x_iadd C dX12_number_72 73 rfl ?_
      refine x_put C inX12 0 lm0 EM_0 rfl 4 (by decide) tyX12_ok nmX12 dX12_number_73 76 rfl wmf_X12_189 rfl rfl rfl (Nat.le_of_ble_eq_true rfl) EQ_0_4 h (fun a73 h => ?_)
      refine x_goto C dX12_number_76 36 rfl ?_
      exact x_sub [1, 2, 3, 4, 0] rfl (ih h)
theorem b_X12_number_28 (C : XC p l s m args meth c cX12_number 5 (some .int) RX12 D vwCl (tysM ca) (EM ad ca) NCM ad) {N : Nat} {o : (Int32 × AH)} {ah : AH} {v1 : Int32} {v2 : Int32} (h : F_X12_number_28 N ah v1 v2 = some o) : XW p l e rm_X12_number s m args below meth c 5 0 (xQi below args s D vwCl (tysM ca) (EM ad ca) NCM ad o) D vwCl (EM ad ca) NCM ad ah 28 [(0, .ref (ad 0)), (1, .int v1), (2, .int v2)] [] := by
  unfold F_X12_number_28 at h
  refine x_aload_n C dX12_number_28 29 rfl 0 rfl ?_
  refine x_get C inX12 0 lm0 EM_0 rfl 4 (by decide) dX12_number_29 32 rfl wmf_X12_189 rfl ?_
  refine x_istore_n C dX12_number_32 33 rfl (by decide) (fun v3_32 => [(3, .int v3_32), (0, .ref (ad 0)), (1, .int v1), (2, .int v2)]) (fun _ => rfl) h (fun v3_32 h => ?_)
  refine x_iconst C dX12_number_33 34 rfl 0 rfl ?_
  refine x_istore C dX12_number_34 36 rfl (by decide) (fun v4_34 => [(4, .int v4_34), (3, .int v3_32), (0, .ref (ad 0)), (1, .int v1), (2, .int v2)]) (fun _ => rfl) h (fun v4_34 h => ?_)
  exact x_sub [2, 3, 4, 1, 0] rfl (b_X12_number_36 C  N h)
theorem c_X12_number {l : Launch} {D : va_G} {ca : Nat → ClassId} {ad : Nat → Nat} (hI : xInj ad NCM) {N : Nat} {ah : AH} {p1 : Int32} {p2 : Int32} {r : Int32} {a : AH} (h : F_X12_number N ah p1 p2 = some (r, a)) : xMi l yX12_number cX12_number 5 (some .int) rm_X12_number D vwCl (tysM ca) (EM ad ca) NCM ad [.ref (ad 0), .int p1, .int p2] ah (r, a) := by
  refine x_meti (by decide) (Nat.le_of_ble_eq_true rfl) hI EM_loc ?_
  intro p e s m args below meth c C
  unfold F_X12_number at h
  refine x_aload_n C dX12_number_0 1 rfl 0 rfl ?_
  obtain ⟨r1, a1, hq, h⟩ := xb_some h
  refine x_callVi C 0 (c_X12_fine C.2.2.2.2.2.2.1 hq) lm0 EM_0 rfl wml_X12_206 wq_X12_fine rfl ⟨by decide, by decide⟩ rfl rfl ⟨by decide, by decide⟩ dX12_number_1 4 rfl rfl (Nat.le_of_ble_eq_true rfl) ?_
  refine x_if_ne C dX12_number_4 7 rfl 9 rfl h (fun h => ?_) (fun h => ?_)
  · refine x_aload_n C dX12_number_9 10 rfl 0 rfl ?_
    obtain ⟨r10, a10, hq, h⟩ := xb_some h
    refine x_callVi C 0 (c_X12_here C.2.2.2.2.2.2.1 hq) lm0 EM_0 rfl wml_X12_196 wq_X12_here rfl ⟨by decide, by decide⟩ rfl rfl ⟨by decide, by decide⟩ dX12_number_10 13 rfl rfl (Nat.le_of_ble_eq_true rfl) ?_
    obtain ⟨r13, a13, hq, h⟩ := xb_some h
    refine x_callSi C (c_X12_isDigit C.2.2.2.2.2.2.1 hq) wml_X12_210 wq_X12_isDigit rfl ⟨by decide, by decide⟩ rfl rfl ⟨by decide, by decide⟩ dX12_number_13 16 rfl rfl (Nat.le_of_ble_eq_true rfl) ?_
    refine x_if_ne C dX12_number_16 19 rfl 28 rfl h (fun h => ?_) (fun h => ?_)
    · exact b_X12_number_28 C  h
    · refine x_aload_n C dX12_number_19 20 rfl 0 rfl ?_
      refine x_iconst C dX12_number_20 21 rfl 1 rfl ?_
      refine x_aload_n C dX12_number_21 22 rfl 0 rfl ?_
      refine x_get C inX12 0 lm0 EM_0 rfl 4 (by decide) dX12_number_22 25 rfl wmf_X12_189 rfl ?_
      obtain ⟨a25, hq, h⟩ := xbv_some h
      refine x_callVv C 0 (c_X12_wrong C.2.2.2.2.2.2.1 hq) lm0 EM_0 rfl wml_X12_214 wq_X12_wrong rfl ⟨by decide, by decide⟩ rfl rfl ⟨by decide, by decide⟩ dX12_number_25 28 rfl rfl (Nat.le_of_ble_eq_true rfl) ?_
      exact b_X12_number_28 C  h
  · refine x_iload_n C dX12_number_7 8 rfl 1 rfl ?_
    exact x_iret C rfl dX12_number_8 h
abbrev rm_X12_closes : Room := { frames := 3, cells := 0, slots := 0, locals := 61 }
theorem wq_X12_closes : xcV RX12 yX12_closes cX12_closes 1 none 0 := ⟨wmi_X12_closes, wms_X12_closes, wmn_X12, wmc_X12_closes, by decide, by decide, by decide +kernel⟩
def F_X12_closes (N : Nat) (ah : AH) : Option AH := xb (F_X12_fine N ah) (fun r1 a1 => if r1 = 0 then some a1 else xb (F_X12_blanks N a1) (fun r9 a9 => if r9 = 59 then xlet (xu a9 0 4 ((a9 0 4) + 1)) (fun a24 => some a24) else xbv (F_X12_wrong N a9 1 (a9 0 4)) (fun a36 => some a36)))
theorem c_X12_closes {l : Launch} {D : va_G} {ca : Nat → ClassId} {ad : Nat → Nat} (hI : xInj ad NCM) {N : Nat} {ah : AH} {a : AH} (h : F_X12_closes N ah = some a) : xMv l yX12_closes cX12_closes 1 rm_X12_closes D vwCl (tysM ca) (EM ad ca) NCM ad [.ref (ad 0)] ah a := by
  refine x_metv (by decide) (Nat.le_of_ble_eq_true rfl) hI EM_loc ?_
  intro p e s m args below meth c C
  unfold F_X12_closes at h
  refine x_aload_n C dX12_closes_0 1 rfl 0 rfl ?_
  obtain ⟨r1, a1, hq, h⟩ := xb_some h
  refine x_callVi C 0 (c_X12_fine C.2.2.2.2.2.2.1 hq) lm0 EM_0 rfl wml_X12_206 wq_X12_fine rfl ⟨by decide, by decide⟩ rfl rfl ⟨by decide, by decide⟩ dX12_closes_1 4 rfl rfl (Nat.le_of_ble_eq_true rfl) ?_
  refine x_if_ne C dX12_closes_4 7 rfl 8 rfl h (fun h => ?_) (fun h => ?_)
  · refine x_aload_n C dX12_closes_8 9 rfl 0 rfl ?_
    obtain ⟨r9, a9, hq, h⟩ := xb_some h
    refine x_callVi C 0 (c_X12_blanks C.2.2.2.2.2.2.1 hq) lm0 EM_0 rfl wml_X12_227 wq_X12_blanks rfl ⟨by decide, by decide⟩ rfl rfl ⟨by decide, by decide⟩ dX12_closes_9 12 rfl rfl (Nat.le_of_ble_eq_true rfl) ?_
    refine x_bipush C dX12_closes_12 14 rfl 59 rfl ?_
    refine x_icmp_ne C dX12_closes_14 17 rfl 30 rfl h (fun h => ?_) (fun h => ?_)
    · refine x_aload_n C dX12_closes_30 31 rfl 0 rfl ?_
      refine x_iconst C dX12_closes_31 32 rfl 1 rfl ?_
      refine x_aload_n C dX12_closes_32 33 rfl 0 rfl ?_
      refine x_get C inX12 0 lm0 EM_0 rfl 4 (by decide) dX12_closes_33 36 rfl wmf_X12_189 rfl ?_
      obtain ⟨a36, hq, h⟩ := xbv_some h
      refine x_callVv C 0 (c_X12_wrong C.2.2.2.2.2.2.1 hq) lm0 EM_0 rfl wml_X12_214 wq_X12_wrong rfl ⟨by decide, by decide⟩ rfl rfl ⟨by decide, by decide⟩ dX12_closes_36 39 rfl rfl (Nat.le_of_ble_eq_true rfl) ?_
      exact x_vret C rfl dX12_closes_39 h
    · refine x_aload_n C dX12_closes_17 18 rfl 0 rfl ?_
      refine x_dup C dX12_closes_18 19 rfl rfl ?_
      refine x_get C inX12 0 lm0 EM_0 rfl 4 (by decide) dX12_closes_19 22 rfl wmf_X12_189 rfl ?_
      refine x_iconst C dX12_closes_22 23 rfl 1 rfl ?_
      refine x_iadd C dX12_closes_23 24 rfl ?_
      refine x_put C inX12 0 lm0 EM_0 rfl 4 (by decide) tyX12_ok nmX12 dX12_closes_24 27 rfl wmf_X12_189 rfl rfl rfl (Nat.le_of_ble_eq_true rfl) EQ_0_4 h (fun a24 h => ?_)
      refine x_goto C dX12_closes_27 39 rfl ?_
      exact x_vret C rfl dX12_closes_39 h
  · exact x_vret C rfl dX12_closes_7 h
abbrev rm_X12_readsSigns : Room := { frames := 2, cells := 0, slots := 0, locals := 41 }
theorem wq_X12_readsSigns : xcV RX12 yX12_readsSigns cX12_readsSigns 3 (some .int) 1 := ⟨wmi_X12_readsSigns, wms_X12_readsSigns, wmn_X12, wmc_X12_readsSigns, by decide, by decide, by decide +kernel⟩
def F_X12_readsSigns_84 (N : Nat) (ah : AH) (v1 : Int32) (v2 : Int32) : Option (Int32 × AH) := xg v1 61 (xlet (xu ah 5 (Int32.toNatClampNeg v1) v2) (fun a90 => if v2 ≤ 0 then some (v2, a90) else xg v1 61 (xlet (52 + (Int32.toNatClampNeg v1)) (fun x100 => xg (v2 - 1) 12 (if (a90 x100 (Int32.toNatClampNeg (v2 - 1))) = 45 then xbv (F_X12_wrong N a90 1 (a90 0 4)) (fun a116 => some (v2, a116)) else some (v2, a90))))))
def F_X12_readsSigns_47 (N : Nat) (k2 : AH → Int32 → Int32 → Option (Int32 × AH)) (ah : AH) (v1 : Int32) (v2 : Int32) : Option (Int32 × AH) := xb (F_X12_fine N ah) (fun r48 a48 => if r48 = 0 then some (v2, a48) else xg v1 61 (xlet (52 + (Int32.toNatClampNeg v1)) (fun x61 => xb (F_X12_here N a48) (fun r64 a64 => xg v2 12 (xlet (xu a64 x61 (Int32.toNatClampNeg v2) r64) (fun a67 => xlet (v2 + 1) (fun v2_68 => xlet (xu a67 0 4 ((a67 0 4) + 1)) (fun a78 => k2 a78 v1 v2_68))))))))
def F_X12_readsSigns_32 (N : Nat) (k2 : AH → Int32 → Int32 → Option (Int32 × AH)) (ah : AH) (v1 : Int32) (v2 : Int32) : Option (Int32 × AH) := if v2 = 12 then xbv (F_X12_wrong N ah 3 (ah 0 4)) (fun a44 => F_X12_readsSigns_47 N k2 a44 v1 v2) else F_X12_readsSigns_47 N k2 ah v1 v2
def F_X12_readsSigns_2 (N : Nat) : Nat → AH → Int32 → Int32 → Option (Int32 × AH)
  | 0, _, _, _ => none
  | n + 1, ah, v1, v2 => xb (F_X12_fine N ah) (fun r3 a3 => if r3 = 0 then F_X12_readsSigns_84 N a3 v1 v2 else xb (F_X12_here N a3) (fun r10 a10 => xb (F_X12_isSmall N a10 r10) (fun r13 a13 => if r13 = 0 then if v2 ≤ 0 then F_X12_readsSigns_84 N a13 v1 v2 else xb (F_X12_here N a13) (fun r24 a24 => if r24 = 45 then F_X12_readsSigns_32 N (F_X12_readsSigns_2 N n) a24 v1 v2 else F_X12_readsSigns_84 N a24 v1 v2) else F_X12_readsSigns_32 N (F_X12_readsSigns_2 N n) a13 v1 v2)))
def F_X12_readsSigns (N : Nat) (ah : AH) (p1 : Int32) : Option (Int32 × AH) := xlet 0 (fun v2_1 => F_X12_readsSigns_2 N N ah p1 v2_1)
theorem b_X12_readsSigns_84 (C : XC p l s m args meth c cX12_readsSigns 3 (some .int) RX12 D vwCl (tysM ca) (EM ad ca) NCM ad) {N : Nat} {o : (Int32 × AH)} {ah : AH} {v1 : Int32} {v2 : Int32} (h : F_X12_readsSigns_84 N ah v1 v2 = some o) : XW p l e rm_X12_readsSigns s m args below meth c 3 0 (xQi below args s D vwCl (tysM ca) (EM ad ca) NCM ad o) D vwCl (EM ad ca) NCM ad ah 84 [(0, .ref (ad 0)), (1, .int v1), (2, .int v2)] [] := by
  unfold F_X12_readsSigns_84 at h
  refine x_aload_n C dX12_readsSigns_84 85 rfl 0 rfl ?_
  refine x_get C inX12 0 lm0 EM_0 rfl 12 (by decide) dX12_readsSigns_85 88 rfl wmf_X12_28 rfl ?_
  refine x_iload_n C dX12_readsSigns_88 89 rfl 1 rfl ?_
  refine x_iload_n C dX12_readsSigns_89 90 rfl 2 rfl ?_
  refine x_iast C 5 lm5 (fun _ => EM_5) 0 rfl dX12_readsSigns_90 91 rfl h (fun a90 h => ?_)
  refine x_iload_n C dX12_readsSigns_91 92 rfl 2 rfl ?_
  refine x_if_le C dX12_readsSigns_92 95 rfl 119 rfl h (fun h => ?_) (fun h => ?_)
  · refine x_iload_n C dX12_readsSigns_119 120 rfl 2 rfl ?_
    exact x_iret C rfl dX12_readsSigns_120 h
  · refine x_aload_n C dX12_readsSigns_95 96 rfl 0 rfl ?_
    refine x_get C inX12 0 lm0 EM_0 rfl 11 (by decide) dX12_readsSigns_96 99 rfl wmf_X12_25 rfl ?_
    refine x_iload_n C dX12_readsSigns_99 100 rfl 1 rfl ?_
    refine x_aaldL C (4) lm4 EM_4 2 rfl rfl dX12_readsSigns_100 101 rfl (52 + (Int32.toNatClampNeg v1)) rfl h (fun x100 ex100 hb100 h => ?_)
    have hx100 : mI x100 12 := ex100 ▸ mI_sign hb100
    refine x_iload_n C dX12_readsSigns_101 102 rfl 2 rfl ?_
    refine x_iconst C dX12_readsSigns_102 103 rfl 1 rfl ?_
    refine x_isub C dX12_readsSigns_103 104 rfl ?_
    refine x_iald C x100 hx100.1 (hx100.2 _ _ _) 0 rfl dX12_readsSigns_104 105 rfl h (fun h => ?_)
    refine x_bipush C dX12_readsSigns_105 107 rfl 45 rfl ?_
    refine x_icmp_ne C dX12_readsSigns_107 110 rfl 119 rfl h (fun h => ?_) (fun h => ?_)
    · refine x_iload_n C dX12_readsSigns_119 120 rfl 2 rfl ?_
      exact x_iret C rfl dX12_readsSigns_120 h
    · refine x_aload_n C dX12_readsSigns_110 111 rfl 0 rfl ?_
      refine x_iconst C dX12_readsSigns_111 112 rfl 1 rfl ?_
      refine x_aload_n C dX12_readsSigns_112 113 rfl 0 rfl ?_
      refine x_get C inX12 0 lm0 EM_0 rfl 4 (by decide) dX12_readsSigns_113 116 rfl wmf_X12_189 rfl ?_
      obtain ⟨a116, hq, h⟩ := xbv_some h
      refine x_callVv C 0 (c_X12_wrong C.2.2.2.2.2.2.1 hq) lm0 EM_0 rfl wml_X12_214 wq_X12_wrong rfl ⟨by decide, by decide⟩ rfl rfl ⟨by decide, by decide⟩ dX12_readsSigns_116 119 rfl rfl (Nat.le_of_ble_eq_true rfl) ?_
      refine x_iload_n C dX12_readsSigns_119 120 rfl 2 rfl ?_
      exact x_iret C rfl dX12_readsSigns_120 h
theorem b_X12_readsSigns_47 (C : XC p l s m args meth c cX12_readsSigns 3 (some .int) RX12 D vwCl (tysM ca) (EM ad ca) NCM ad) {N : Nat} {o : (Int32 × AH)} {k2 : AH → Int32 → Int32 → Option (Int32 × AH)} (hk2 : ∀ (ah : AH) (v1 : Int32) (v2 : Int32), k2 ah v1 v2 = some o → XW p l e rm_X12_readsSigns s m args below meth c 3 0 (xQi below args s D vwCl (tysM ca) (EM ad ca) NCM ad o) D vwCl (EM ad ca) NCM ad ah 2 [(0, .ref (ad 0)), (1, .int v1), (2, .int v2)] []) {ah : AH} {v1 : Int32} {v2 : Int32} (h : F_X12_readsSigns_47 N k2 ah v1 v2 = some o) : XW p l e rm_X12_readsSigns s m args below meth c 3 0 (xQi below args s D vwCl (tysM ca) (EM ad ca) NCM ad o) D vwCl (EM ad ca) NCM ad ah 47 [(0, .ref (ad 0)), (1, .int v1), (2, .int v2)] [] := by
  unfold F_X12_readsSigns_47 at h
  refine x_aload_n C dX12_readsSigns_47 48 rfl 0 rfl ?_
  obtain ⟨r48, a48, hq, h⟩ := xb_some h
  refine x_callVi C 0 (c_X12_fine C.2.2.2.2.2.2.1 hq) lm0 EM_0 rfl wml_X12_206 wq_X12_fine rfl ⟨by decide, by decide⟩ rfl rfl ⟨by decide, by decide⟩ dX12_readsSigns_48 51 rfl rfl (Nat.le_of_ble_eq_true rfl) ?_
  refine x_if_ne C dX12_readsSigns_51 54 rfl 56 rfl h (fun h => ?_) (fun h => ?_)
  · refine x_aload_n C dX12_readsSigns_56 57 rfl 0 rfl ?_
    refine x_get C inX12 0 lm0 EM_0 rfl 11 (by decide) dX12_readsSigns_57 60 rfl wmf_X12_25 rfl ?_
    refine x_iload_n C dX12_readsSigns_60 61 rfl 1 rfl ?_
    refine x_aaldL C (4) lm4 EM_4 2 rfl rfl dX12_readsSigns_61 62 rfl (52 + (Int32.toNatClampNeg v1)) rfl h (fun x61 ex61 hb61 h => ?_)
    have hx61 : mI x61 12 := ex61 ▸ mI_sign hb61
    refine x_iload_n C dX12_readsSigns_62 63 rfl 2 rfl ?_
    refine x_aload_n C dX12_readsSigns_63 64 rfl 0 rfl ?_
    obtain ⟨r64, a64, hq, h⟩ := xb_some h
    refine x_callVi C 0 (c_X12_here C.2.2.2.2.2.2.1 hq) lm0 EM_0 rfl wml_X12_196 wq_X12_here rfl ⟨by decide, by decide⟩ rfl rfl ⟨by decide, by decide⟩ dX12_readsSigns_64 67 rfl rfl (Nat.le_of_ble_eq_true rfl) ?_
    refine x_iast C x61 hx61.1 (hx61.2 _ _) 0 rfl dX12_readsSigns_67 68 rfl h (fun a67 h => ?_)
    refine x_iinc C dX12_readsSigns_68 71 rfl 2 rfl (d := 1) rfl (by decide) (fun v2_68 => [(2, .int v2_68), (0, .ref (ad 0)), (1, .int v1)]) (fun _ => rfl) h (fun v2_68 h => ?_)
    refine x_aload_n C dX12_readsSigns_71 72 rfl 1 rfl ?_
    refine x_dup C dX12_readsSigns_72 73 rfl rfl ?_
    refine x_get C inX12 0 lm0 EM_0 rfl 4 (by decide) dX12_readsSigns_73 76 rfl wmf_X12_189 rfl ?_
    refine x_iconst C dX12_readsSigns_76 77 rfl 1 rfl ?_
    refine x_iadd C dX12_readsSigns_77 78 rfl ?_
    refine x_put C inX12 0 lm0 EM_0 rfl 4 (by decide) tyX12_ok nmX12 dX12_readsSigns_78 81 rfl wmf_X12_189 rfl rfl rfl (Nat.le_of_ble_eq_true rfl) EQ_0_4 h (fun a78 h => ?_)
    refine x_goto C dX12_readsSigns_81 2 rfl ?_
    exact x_sub [1, 2, 0] rfl (hk2 _ _ _ h)
  · refine x_iload_n C dX12_readsSigns_54 55 rfl 2 rfl ?_
    exact x_iret C rfl dX12_readsSigns_55 h
theorem b_X12_readsSigns_32 (C : XC p l s m args meth c cX12_readsSigns 3 (some .int) RX12 D vwCl (tysM ca) (EM ad ca) NCM ad) {N : Nat} {o : (Int32 × AH)} {k2 : AH → Int32 → Int32 → Option (Int32 × AH)} (hk2 : ∀ (ah : AH) (v1 : Int32) (v2 : Int32), k2 ah v1 v2 = some o → XW p l e rm_X12_readsSigns s m args below meth c 3 0 (xQi below args s D vwCl (tysM ca) (EM ad ca) NCM ad o) D vwCl (EM ad ca) NCM ad ah 2 [(0, .ref (ad 0)), (1, .int v1), (2, .int v2)] []) {ah : AH} {v1 : Int32} {v2 : Int32} (h : F_X12_readsSigns_32 N k2 ah v1 v2 = some o) : XW p l e rm_X12_readsSigns s m args below meth c 3 0 (xQi below args s D vwCl (tysM ca) (EM ad ca) NCM ad o) D vwCl (EM ad ca) NCM ad ah 32 [(0, .ref (ad 0)), (1, .int v1), (2, .int v2)] [] := by
  unfold F_X12_readsSigns_32 at h
  refine x_iload_n C dX12_readsSigns_32 33 rfl 2 rfl ?_
  refine x_bipush C dX12_readsSigns_33 35 rfl 12 rfl ?_
  refine x_icmp_ne C dX12_readsSigns_35 38 rfl 47 rfl h (fun h => ?_) (fun h => ?_)
  · exact b_X12_readsSigns_47 C hk2 h
  · refine x_aload_n C dX12_readsSigns_38 39 rfl 0 rfl ?_
    refine x_iconst C dX12_readsSigns_39 40 rfl 3 rfl ?_
    refine x_aload_n C dX12_readsSigns_40 41 rfl 0 rfl ?_
    refine x_get C inX12 0 lm0 EM_0 rfl 4 (by decide) dX12_readsSigns_41 44 rfl wmf_X12_189 rfl ?_
    obtain ⟨a44, hq, h⟩ := xbv_some h
    refine x_callVv C 0 (c_X12_wrong C.2.2.2.2.2.2.1 hq) lm0 EM_0 rfl wml_X12_214 wq_X12_wrong rfl ⟨by decide, by decide⟩ rfl rfl ⟨by decide, by decide⟩ dX12_readsSigns_44 47 rfl rfl (Nat.le_of_ble_eq_true rfl) ?_
    exact b_X12_readsSigns_47 C hk2 h
theorem b_X12_readsSigns_2 (C : XC p l s m args meth c cX12_readsSigns 3 (some .int) RX12 D vwCl (tysM ca) (EM ad ca) NCM ad) {N : Nat} {o : (Int32 × AH)} : ∀ (n : Nat) {ah : AH} {v1 : Int32} {v2 : Int32}, F_X12_readsSigns_2 N n ah v1 v2 = some o → XW p l e rm_X12_readsSigns s m args below meth c 3 0 (xQi below args s D vwCl (tysM ca) (EM ad ca) NCM ad o) D vwCl (EM ad ca) NCM ad ah 2 [(0, .ref (ad 0)), (1, .int v1), (2, .int v2)] [] := by
  intro n
  induction n with
  | zero => intro ah v1 v2 h; unfold F_X12_readsSigns_2 at h; cases h
  | succ n ih =>
    intro ah v1 v2 h
    unfold F_X12_readsSigns_2 at h
    refine x_aload_n C dX12_readsSigns_2 3 rfl 0 rfl ?_
    obtain ⟨r3, a3, hq, h⟩ := xb_some h
    refine x_callVi C 0 (c_X12_fine C.2.2.2.2.2.2.1 hq) lm0 EM_0 rfl wml_X12_206 wq_X12_fine rfl ⟨by decide, by decide⟩ rfl rfl ⟨by decide, by decide⟩ dX12_readsSigns_3 6 rfl rfl (Nat.le_of_ble_eq_true rfl) ?_
    refine x_if_eq C dX12_readsSigns_6 9 rfl 84 rfl h (fun h => ?_) (fun h => ?_)
    · exact b_X12_readsSigns_84 C  h
    · refine x_aload_n C dX12_readsSigns_9 10 rfl 0 rfl ?_
      obtain ⟨r10, a10, hq, h⟩ := xb_some h
      refine x_callVi C 0 (c_X12_here C.2.2.2.2.2.2.1 hq) lm0 EM_0 rfl wml_X12_196 wq_X12_here rfl ⟨by decide, by decide⟩ rfl rfl ⟨by decide, by decide⟩ dX12_readsSigns_10 13 rfl rfl (Nat.le_of_ble_eq_true rfl) ?_
      obtain ⟨r13, a13, hq, h⟩ := xb_some h
      refine x_callSi C (c_X12_isSmall C.2.2.2.2.2.2.1 hq) wml_X12_230 wq_X12_isSmall rfl ⟨by decide, by decide⟩ rfl rfl ⟨by decide, by decide⟩ dX12_readsSigns_13 16 rfl rfl (Nat.le_of_ble_eq_true rfl) ?_
      refine x_if_ne C dX12_readsSigns_16 19 rfl 32 rfl h (fun h => ?_) (fun h => ?_)
      · exact b_X12_readsSigns_32 C (fun _ _ _ h => ih h) h
      · refine x_iload_n C dX12_readsSigns_19 20 rfl 2 rfl ?_
        refine x_if_le C dX12_readsSigns_20 23 rfl 84 rfl h (fun h => ?_) (fun h => ?_)
        · exact b_X12_readsSigns_84 C  h
        · refine x_aload_n C dX12_readsSigns_23 24 rfl 0 rfl ?_
          obtain ⟨r24, a24, hq, h⟩ := xb_some h
          refine x_callVi C 0 (c_X12_here C.2.2.2.2.2.2.1 hq) lm0 EM_0 rfl wml_X12_196 wq_X12_here rfl ⟨by decide, by decide⟩ rfl rfl ⟨by decide, by decide⟩ dX12_readsSigns_24 27 rfl rfl (Nat.le_of_ble_eq_true rfl) ?_
          refine x_bipush C dX12_readsSigns_27 29 rfl 45 rfl ?_
          refine x_icmp_ne C dX12_readsSigns_29 32 rfl 84 rfl h (fun h => ?_) (fun h => ?_)
          · exact b_X12_readsSigns_84 C  h
          · exact b_X12_readsSigns_32 C (fun _ _ _ h => ih h) h
theorem c_X12_readsSigns {l : Launch} {D : va_G} {ca : Nat → ClassId} {ad : Nat → Nat} (hI : xInj ad NCM) {N : Nat} {ah : AH} {p1 : Int32} {r : Int32} {a : AH} (h : F_X12_readsSigns N ah p1 = some (r, a)) : xMi l yX12_readsSigns cX12_readsSigns 3 (some .int) rm_X12_readsSigns D vwCl (tysM ca) (EM ad ca) NCM ad [.ref (ad 0), .int p1] ah (r, a) := by
  refine x_meti (by decide) (Nat.le_of_ble_eq_true rfl) hI EM_loc ?_
  intro p e s m args below meth c C
  unfold F_X12_readsSigns at h
  refine x_iconst C dX12_readsSigns_0 1 rfl 0 rfl ?_
  refine x_istore_n C dX12_readsSigns_1 2 rfl (by decide) (fun v2_1 => [(2, .int v2_1), (0, .ref (ad 0)), (1, .int p1)]) (fun _ => rfl) h (fun v2_1 h => ?_)
  exact x_sub [1, 2, 0] rfl (b_X12_readsSigns_2 C  N h)
abbrev rm_X12_areSame : Room := { frames := 0, cells := 0, slots := 0, locals := 0 }
theorem wq_X12_areSame : xcV RX12 yX12_areSame cX12_areSame 4 (some .boolean) 2 := ⟨wmi_X12_areSame, wms_X12_areSame, wmn_X12, wmc_X12_areSame, by decide, by decide, by decide +kernel⟩
def F_X12_areSame_19 (N : Nat) : Nat → AH → Int32 → Int32 → Int32 → Option (Int32 × AH)
  | 0, _, _, _, _ => none
  | n + 1, ah, v1, v2, v3 => xg v1 61 (if (ah 5 (Int32.toNatClampNeg v1)) ≤ v3 then some (1, ah) else xg v1 61 (xlet (52 + (Int32.toNatClampNeg v1)) (fun x34 => xg v3 12 (xg v2 61 (xlet (52 + (Int32.toNatClampNeg v2)) (fun x42 => xg v3 12 (if (ah x34 (Int32.toNatClampNeg v3)) = (ah x42 (Int32.toNatClampNeg v3)) then xlet (v3 + 1) (fun v3_50 => F_X12_areSame_19 N n ah v1 v2 v3_50) else some (0, ah))))))))
def F_X12_areSame (N : Nat) (ah : AH) (p1 : Int32) (p2 : Int32) : Option (Int32 × AH) := xg p1 61 (xg p2 61 (if (ah 5 (Int32.toNatClampNeg p1)) = (ah 5 (Int32.toNatClampNeg p2)) then xlet 0 (fun v3_18 => F_X12_areSame_19 N N ah p1 p2 v3_18) else some (0, ah)))
theorem b_X12_areSame_19 (C : XC p l s m args meth c cX12_areSame 4 (some .boolean) RX12 D vwCl (tysM ca) (EM ad ca) NCM ad) {N : Nat} {o : (Int32 × AH)} : ∀ (n : Nat) {ah : AH} {v1 : Int32} {v2 : Int32} {v3 : Int32}, F_X12_areSame_19 N n ah v1 v2 v3 = some o → XW p l e rm_X12_areSame s m args below meth c 4 0 (xQi below args s D vwCl (tysM ca) (EM ad ca) NCM ad o) D vwCl (EM ad ca) NCM ad ah 19 [(0, .ref (ad 0)), (1, .int v1), (2, .int v2), (3, .int v3)] [] := by
  intro n
  induction n with
  | zero => intro ah v1 v2 v3 h; unfold F_X12_areSame_19 at h; cases h
  | succ n ih =>
    intro ah v1 v2 v3 h
    unfold F_X12_areSame_19 at h
    refine x_iload_n C dX12_areSame_19 20 rfl 3 rfl ?_
    refine x_aload_n C dX12_areSame_20 21 rfl 0 rfl ?_
    refine x_get C inX12 0 lm0 EM_0 rfl 12 (by decide) dX12_areSame_21 24 rfl wmf_X12_28 rfl ?_
    refine x_iload_n C dX12_areSame_24 25 rfl 1 rfl ?_
    refine x_iald C 5 lm5 EM_5 0 rfl dX12_areSame_25 26 rfl h (fun h => ?_)
    refine x_icmp_ge C dX12_areSame_26 29 rfl 56 rfl h (fun h => ?_) (fun h => ?_)
    · refine x_iconst C dX12_areSame_56 57 rfl 1 rfl ?_
      exact x_zret C rfl dX12_areSame_57 (by decide) h
    · refine x_aload_n C dX12_areSame_29 30 rfl 0 rfl ?_
      refine x_get C inX12 0 lm0 EM_0 rfl 11 (by decide) dX12_areSame_30 33 rfl wmf_X12_25 rfl ?_
      refine x_iload_n C dX12_areSame_33 34 rfl 1 rfl ?_
      refine x_aaldL C (4) lm4 EM_4 2 rfl rfl dX12_areSame_34 35 rfl (52 + (Int32.toNatClampNeg v1)) rfl h (fun x34 ex34 hb34 h => ?_)
      have hx34 : mI x34 12 := ex34 ▸ mI_sign hb34
      refine x_iload_n C dX12_areSame_35 36 rfl 3 rfl ?_
      refine x_iald C x34 hx34.1 (hx34.2 _ _ _) 0 rfl dX12_areSame_36 37 rfl h (fun h => ?_)
      refine x_aload_n C dX12_areSame_37 38 rfl 0 rfl ?_
      refine x_get C inX12 0 lm0 EM_0 rfl 11 (by decide) dX12_areSame_38 41 rfl wmf_X12_25 rfl ?_
      refine x_iload_n C dX12_areSame_41 42 rfl 2 rfl ?_
      refine x_aaldL C (4) lm4 EM_4 2 rfl rfl dX12_areSame_42 43 rfl (52 + (Int32.toNatClampNeg v2)) rfl h (fun x42 ex42 hb42 h => ?_)
      have hx42 : mI x42 12 := ex42 ▸ mI_sign hb42
      refine x_iload_n C dX12_areSame_43 44 rfl 3 rfl ?_
      refine x_iald C x42 hx42.1 (hx42.2 _ _ _) 0 rfl dX12_areSame_44 45 rfl h (fun h => ?_)
      refine x_icmp_eq C dX12_areSame_45 48 rfl 50 rfl h (fun h => ?_) (fun h => ?_)
      · refine x_iinc C dX12_areSame_50 53 rfl 3 rfl (d := 1) rfl (by decide) (fun v3_50 => [(3, .int v3_50), (0, .ref (ad 0)), (1, .int v1), (2, .int v2)]) (fun _ => rfl) h (fun v3_50 h => ?_)
        refine x_goto C dX12_areSame_53 19 rfl ?_
        exact x_sub [1, 2, 3, 0] rfl (ih h)
      · refine x_iconst C dX12_areSame_48 49 rfl 0 rfl ?_
        exact x_zret C rfl dX12_areSame_49 (by decide) h
theorem c_X12_areSame {l : Launch} {D : va_G} {ca : Nat → ClassId} {ad : Nat → Nat} (hI : xInj ad NCM) {N : Nat} {ah : AH} {p1 : Int32} {p2 : Int32} {r : Int32} {a : AH} (h : F_X12_areSame N ah p1 p2 = some (r, a)) : xMi l yX12_areSame cX12_areSame 4 (some .boolean) rm_X12_areSame D vwCl (tysM ca) (EM ad ca) NCM ad [.ref (ad 0), .int p1, .int p2] ah (r, a) := by
  refine x_meti (by decide) (Nat.le_of_ble_eq_true rfl) hI EM_loc ?_
  intro p e s m args below meth c C
  unfold F_X12_areSame at h
  refine x_aload_n C dX12_areSame_0 1 rfl 0 rfl ?_
  refine x_get C inX12 0 lm0 EM_0 rfl 12 (by decide) dX12_areSame_1 4 rfl wmf_X12_28 rfl ?_
  refine x_iload_n C dX12_areSame_4 5 rfl 1 rfl ?_
  refine x_iald C 5 lm5 EM_5 0 rfl dX12_areSame_5 6 rfl h (fun h => ?_)
  refine x_aload_n C dX12_areSame_6 7 rfl 0 rfl ?_
  refine x_get C inX12 0 lm0 EM_0 rfl 12 (by decide) dX12_areSame_7 10 rfl wmf_X12_28 rfl ?_
  refine x_iload_n C dX12_areSame_10 11 rfl 2 rfl ?_
  refine x_iald C 5 lm5 EM_5 0 rfl dX12_areSame_11 12 rfl h (fun h => ?_)
  refine x_icmp_eq C dX12_areSame_12 15 rfl 17 rfl h (fun h => ?_) (fun h => ?_)
  · refine x_iconst C dX12_areSame_17 18 rfl 0 rfl ?_
    refine x_istore_n C dX12_areSame_18 19 rfl (by decide) (fun v3_18 => [(3, .int v3_18), (0, .ref (ad 0)), (1, .int p1), (2, .int p2)]) (fun _ => rfl) h (fun v3_18 h => ?_)
    exact x_sub [1, 2, 3, 0] rfl (b_X12_areSame_19 C  N h)
  · refine x_iconst C dX12_areSame_15 16 rfl 0 rfl ?_
    exact x_zret C rfl dX12_areSame_16 (by decide) h
abbrev rm_X12_sameAs : Room := { frames := 1, cells := 0, slots := 0, locals := 23 }
theorem wq_X12_sameAs : xcV RX12 yX12_sameAs cX12_sameAs 3 (some .int) 1 := ⟨wmi_X12_sameAs, wms_X12_sameAs, wmn_X12, wmc_X12_sameAs, by decide, by decide, by decide +kernel⟩
def F_X12_sameAs_2 (N : Nat) : Nat → AH → Int32 → Int32 → Option (Int32 × AH)
  | 0, _, _, _ => none
  | n + 1, ah, v1, v2 => if v1 ≤ v2 then some ((-1), ah) else xb (F_X12_areSame N ah v2 v1) (fun r10 a10 => if r10 = 0 then xlet (v2 + 1) (fun v2_18 => F_X12_sameAs_2 N n a10 v1 v2_18) else some (v2, a10))
def F_X12_sameAs (N : Nat) (ah : AH) (p1 : Int32) : Option (Int32 × AH) := xlet 0 (fun v2_1 => F_X12_sameAs_2 N N ah p1 v2_1)
theorem b_X12_sameAs_2 (C : XC p l s m args meth c cX12_sameAs 3 (some .int) RX12 D vwCl (tysM ca) (EM ad ca) NCM ad) {N : Nat} {o : (Int32 × AH)} : ∀ (n : Nat) {ah : AH} {v1 : Int32} {v2 : Int32}, F_X12_sameAs_2 N n ah v1 v2 = some o → XW p l e rm_X12_sameAs s m args below meth c 3 0 (xQi below args s D vwCl (tysM ca) (EM ad ca) NCM ad o) D vwCl (EM ad ca) NCM ad ah 2 [(0, .ref (ad 0)), (1, .int v1), (2, .int v2)] [] := by
  intro n
  induction n with
  | zero => intro ah v1 v2 h; unfold F_X12_sameAs_2 at h; cases h
  | succ n ih =>
    intro ah v1 v2 h
    unfold F_X12_sameAs_2 at h
    refine x_iload_n C dX12_sameAs_2 3 rfl 2 rfl ?_
    refine x_iload_n C dX12_sameAs_3 4 rfl 1 rfl ?_
    refine x_icmp_ge C dX12_sameAs_4 7 rfl 24 rfl h (fun h => ?_) (fun h => ?_)
    · refine x_iconst C dX12_sameAs_24 25 rfl (-1) rfl ?_
      exact x_iret C rfl dX12_sameAs_25 h
    · refine x_aload_n C dX12_sameAs_7 8 rfl 0 rfl ?_
      refine x_iload_n C dX12_sameAs_8 9 rfl 2 rfl ?_
      refine x_iload_n C dX12_sameAs_9 10 rfl 1 rfl ?_
      obtain ⟨r10, a10, hq, h⟩ := xb_some h
      refine x_callVi C 0 (c_X12_areSame C.2.2.2.2.2.2.1 hq) lm0 EM_0 rfl wml_X12_245 wq_X12_areSame rfl ⟨by decide, by decide⟩ rfl rfl ⟨by decide, by decide⟩ dX12_sameAs_10 13 rfl rfl (Nat.le_of_ble_eq_true rfl) ?_
      refine x_if_eq C dX12_sameAs_13 16 rfl 18 rfl h (fun h => ?_) (fun h => ?_)
      · refine x_iinc C dX12_sameAs_18 21 rfl 2 rfl (d := 1) rfl (by decide) (fun v2_18 => [(2, .int v2_18), (0, .ref (ad 0)), (1, .int v1)]) (fun _ => rfl) h (fun v2_18 h => ?_)
        refine x_goto C dX12_sameAs_21 2 rfl ?_
        exact x_sub [1, 2, 0] rfl (ih h)
      · refine x_iload_n C dX12_sameAs_16 17 rfl 2 rfl ?_
        exact x_iret C rfl dX12_sameAs_17 h
theorem c_X12_sameAs {l : Launch} {D : va_G} {ca : Nat → ClassId} {ad : Nat → Nat} (hI : xInj ad NCM) {N : Nat} {ah : AH} {p1 : Int32} {r : Int32} {a : AH} (h : F_X12_sameAs N ah p1 = some (r, a)) : xMi l yX12_sameAs cX12_sameAs 3 (some .int) rm_X12_sameAs D vwCl (tysM ca) (EM ad ca) NCM ad [.ref (ad 0), .int p1] ah (r, a) := by
  refine x_meti (by decide) (Nat.le_of_ble_eq_true rfl) hI EM_loc ?_
  intro p e s m args below meth c C
  unfold F_X12_sameAs at h
  refine x_iconst C dX12_sameAs_0 1 rfl 0 rfl ?_
  refine x_istore_n C dX12_sameAs_1 2 rfl (by decide) (fun v2_1 => [(2, .int v2_1), (0, .ref (ad 0)), (1, .int p1)]) (fun _ => rfl) h (fun v2_1 h => ?_)
  exact x_sub [1, 2, 0] rfl (b_X12_sameAs_2 C  N h)
abbrev rm_X12_readsWord : Room := { frames := 4, cells := 0, slots := 0, locals := 81 }
theorem wq_X12_readsWord : xcV RX12 yX12_readsWord cX12_readsWord 3 none 1 := ⟨wmi_X12_readsWord, wms_X12_readsWord, wmn_X12, wmc_X12_readsWord, by decide, by decide, by decide +kernel⟩
def F_X12_readsWord_70 (N : Nat) (ah : AH) : Option AH := xbv (F_X12_closes N ah) (fun a71 => some a71)
def F_X12_readsWord_33 (N : Nat) (ah : AH) (v1 : Int32) : Option AH := xg v1 61 (xlet (xu ah 6 (Int32.toNatClampNeg v1) 0) (fun a39 => xb (F_X12_fine N a39) (fun r41 a41 => if r41 = 0 then F_X12_readsWord_70 N a41 else xb (F_X12_blanks N a41) (fun r48 a48 => xb (F_X12_isDigit N a48 r48) (fun r51 a51 => if r51 = 0 then F_X12_readsWord_70 N a51 else xb (F_X12_number N a51 0 99) (fun r66 a66 => xg v1 61 (xlet (xu a66 6 (Int32.toNatClampNeg v1) r66) (fun a69 => F_X12_readsWord_70 N a69))))))))
def F_X12_readsWord (N : Nat) (ah : AH) (p1 : Int32) : Option AH := xlet (ah 0 4) (fun v2_4 => xb (F_X12_readsSigns N ah p1) (fun r7 a7 => xb (F_X12_fine N a7) (fun r12 a12 => if r12 = 0 then F_X12_readsWord_33 N a12 p1 else xb (F_X12_sameAs N a12 p1) (fun r20 a20 => if r20 = ((-1)) then F_X12_readsWord_33 N a20 p1 else xbv (F_X12_wrong N a20 4 v2_4) (fun a30 => F_X12_readsWord_33 N a30 p1)))))
theorem b_X12_readsWord_70 (C : XC p l s m args meth c cX12_readsWord 3 none RX12 D vwCl (tysM ca) (EM ad ca) NCM ad) {N : Nat} {o : AH} {ah : AH} (h : F_X12_readsWord_70 N ah = some o) : XW p l e rm_X12_readsWord s m args below meth c 3 0 (xQv below args s D vwCl (tysM ca) (EM ad ca) NCM ad o) D vwCl (EM ad ca) NCM ad ah 70 [(0, .ref (ad 0))] [] := by
  unfold F_X12_readsWord_70 at h
  refine x_aload_n C dX12_readsWord_70 71 rfl 0 rfl ?_
  obtain ⟨a71, hq, h⟩ := xbv_some h
  refine x_callVv C 0 (c_X12_closes C.2.2.2.2.2.2.1 hq) lm0 EM_0 rfl wml_X12_242 wq_X12_closes rfl ⟨by decide, by decide⟩ rfl rfl ⟨by decide, by decide⟩ dX12_readsWord_71 74 rfl rfl (Nat.le_of_ble_eq_true rfl) ?_
  exact x_vret C rfl dX12_readsWord_74 h
theorem b_X12_readsWord_33 (C : XC p l s m args meth c cX12_readsWord 3 none RX12 D vwCl (tysM ca) (EM ad ca) NCM ad) {N : Nat} {o : AH} {ah : AH} {v1 : Int32} (h : F_X12_readsWord_33 N ah v1 = some o) : XW p l e rm_X12_readsWord s m args below meth c 3 0 (xQv below args s D vwCl (tysM ca) (EM ad ca) NCM ad o) D vwCl (EM ad ca) NCM ad ah 33 [(0, .ref (ad 0)), (1, .int v1)] [] := by
  unfold F_X12_readsWord_33 at h
  refine x_aload_n C dX12_readsWord_33 34 rfl 0 rfl ?_
  refine x_get C inX12 0 lm0 EM_0 rfl 13 (by decide) dX12_readsWord_34 37 rfl wmf_X12_31 rfl ?_
  refine x_iload_n C dX12_readsWord_37 38 rfl 1 rfl ?_
  refine x_iconst C dX12_readsWord_38 39 rfl 0 rfl ?_
  refine x_iast C 6 lm6 (fun _ => EM_6) 0 rfl dX12_readsWord_39 40 rfl h (fun a39 h => ?_)
  refine x_aload_n C dX12_readsWord_40 41 rfl 0 rfl ?_
  obtain ⟨r41, a41, hq, h⟩ := xb_some h
  refine x_callVi C 0 (c_X12_fine C.2.2.2.2.2.2.1 hq) lm0 EM_0 rfl wml_X12_206 wq_X12_fine rfl ⟨by decide, by decide⟩ rfl rfl ⟨by decide, by decide⟩ dX12_readsWord_41 44 rfl rfl (Nat.le_of_ble_eq_true rfl) ?_
  refine x_if_eq C dX12_readsWord_44 47 rfl 70 rfl h (fun h => ?_) (fun h => ?_)
  · exact x_sub [0] rfl (b_X12_readsWord_70 C  h)
  · refine x_aload_n C dX12_readsWord_47 48 rfl 0 rfl ?_
    obtain ⟨r48, a48, hq, h⟩ := xb_some h
    refine x_callVi C 0 (c_X12_blanks C.2.2.2.2.2.2.1 hq) lm0 EM_0 rfl wml_X12_227 wq_X12_blanks rfl ⟨by decide, by decide⟩ rfl rfl ⟨by decide, by decide⟩ dX12_readsWord_48 51 rfl rfl (Nat.le_of_ble_eq_true rfl) ?_
    obtain ⟨r51, a51, hq, h⟩ := xb_some h
    refine x_callSi C (c_X12_isDigit C.2.2.2.2.2.2.1 hq) wml_X12_210 wq_X12_isDigit rfl ⟨by decide, by decide⟩ rfl rfl ⟨by decide, by decide⟩ dX12_readsWord_51 54 rfl rfl (Nat.le_of_ble_eq_true rfl) ?_
    refine x_if_eq C dX12_readsWord_54 57 rfl 70 rfl h (fun h => ?_) (fun h => ?_)
    · exact x_sub [0] rfl (b_X12_readsWord_70 C  h)
    · refine x_aload_n C dX12_readsWord_57 58 rfl 0 rfl ?_
      refine x_get C inX12 0 lm0 EM_0 rfl 13 (by decide) dX12_readsWord_58 61 rfl wmf_X12_31 rfl ?_
      refine x_iload_n C dX12_readsWord_61 62 rfl 1 rfl ?_
      refine x_aload_n C dX12_readsWord_62 63 rfl 0 rfl ?_
      refine x_iconst C dX12_readsWord_63 64 rfl 0 rfl ?_
      refine x_bipush C dX12_readsWord_64 66 rfl 99 rfl ?_
      obtain ⟨r66, a66, hq, h⟩ := xb_some h
      refine x_callVi C 0 (c_X12_number C.2.2.2.2.2.2.1 hq) lm0 EM_0 rfl wml_X12_239 wq_X12_number rfl ⟨by decide, by decide⟩ rfl rfl ⟨by decide, by decide⟩ dX12_readsWord_66 69 rfl rfl (Nat.le_of_ble_eq_true rfl) ?_
      refine x_iast C 6 lm6 (fun _ => EM_6) 0 rfl dX12_readsWord_69 70 rfl h (fun a69 h => ?_)
      exact x_sub [0] rfl (b_X12_readsWord_70 C  h)
theorem c_X12_readsWord {l : Launch} {D : va_G} {ca : Nat → ClassId} {ad : Nat → Nat} (hI : xInj ad NCM) {N : Nat} {ah : AH} {p1 : Int32} {a : AH} (h : F_X12_readsWord N ah p1 = some a) : xMv l yX12_readsWord cX12_readsWord 3 rm_X12_readsWord D vwCl (tysM ca) (EM ad ca) NCM ad [.ref (ad 0), .int p1] ah a := by
  refine x_metv (by decide) (Nat.le_of_ble_eq_true rfl) hI EM_loc ?_
  intro p e s m args below meth c C
  unfold F_X12_readsWord at h
  refine x_aload_n C dX12_readsWord_0 1 rfl 0 rfl ?_
  refine x_get C inX12 0 lm0 EM_0 rfl 4 (by decide) dX12_readsWord_1 4 rfl wmf_X12_189 rfl ?_
  refine x_istore_n C dX12_readsWord_4 5 rfl (by decide) (fun v2_4 => [(2, .int v2_4), (0, .ref (ad 0)), (1, .int p1)]) (fun _ => rfl) h (fun v2_4 h => ?_)
  refine x_aload_n C dX12_readsWord_5 6 rfl 1 rfl ?_
  refine x_iload_n C dX12_readsWord_6 7 rfl 2 rfl ?_
  obtain ⟨r7, a7, hq, h⟩ := xb_some h
  refine x_callVi C 0 (c_X12_readsSigns C.2.2.2.2.2.2.1 hq) lm0 EM_0 rfl wml_X12_233 wq_X12_readsSigns rfl ⟨by decide, by decide⟩ rfl rfl ⟨by decide, by decide⟩ dX12_readsWord_7 10 rfl rfl (Nat.le_of_ble_eq_true rfl) ?_
  refine x_pop C dX12_readsWord_10 11 rfl rfl ?_
  refine x_aload_n C dX12_readsWord_11 12 rfl 1 rfl ?_
  obtain ⟨r12, a12, hq, h⟩ := xb_some h
  refine x_callVi C 0 (c_X12_fine C.2.2.2.2.2.2.1 hq) lm0 EM_0 rfl wml_X12_206 wq_X12_fine rfl ⟨by decide, by decide⟩ rfl rfl ⟨by decide, by decide⟩ dX12_readsWord_12 15 rfl rfl (Nat.le_of_ble_eq_true rfl) ?_
  refine x_if_eq C dX12_readsWord_15 18 rfl 33 rfl h (fun h => ?_) (fun h => ?_)
  · exact x_sub [1, 2] rfl (b_X12_readsWord_33 C  h)
  · refine x_aload_n C dX12_readsWord_18 19 rfl 1 rfl ?_
    refine x_iload_n C dX12_readsWord_19 20 rfl 2 rfl ?_
    obtain ⟨r20, a20, hq, h⟩ := xb_some h
    refine x_callVi C 0 (c_X12_sameAs C.2.2.2.2.2.2.1 hq) lm0 EM_0 rfl wml_X12_236 wq_X12_sameAs rfl ⟨by decide, by decide⟩ rfl rfl ⟨by decide, by decide⟩ dX12_readsWord_20 23 rfl rfl (Nat.le_of_ble_eq_true rfl) ?_
    refine x_iconst C dX12_readsWord_23 24 rfl (-1) rfl ?_
    refine x_icmp_eq C dX12_readsWord_24 27 rfl 33 rfl h (fun h => ?_) (fun h => ?_)
    · exact x_sub [1, 2] rfl (b_X12_readsWord_33 C  h)
    · refine x_aload_n C dX12_readsWord_27 28 rfl 1 rfl ?_
      refine x_iconst C dX12_readsWord_28 29 rfl 4 rfl ?_
      refine x_iload_n C dX12_readsWord_29 30 rfl 0 rfl ?_
      obtain ⟨a30, hq, h⟩ := xbv_some h
      refine x_callVv C 0 (c_X12_wrong C.2.2.2.2.2.2.1 hq) lm0 EM_0 rfl wml_X12_214 wq_X12_wrong rfl ⟨by decide, by decide⟩ rfl rfl ⟨by decide, by decide⟩ dX12_readsWord_30 33 rfl rfl (Nat.le_of_ble_eq_true rfl) ?_
      exact x_sub [1, 2] rfl (b_X12_readsWord_33 C  h)
abbrev rm_X12_weighs : Room := { frames := 1, cells := 0, slots := 0, locals := 21 }
theorem wq_X12_weighs : xcV RX12 yX12_weighs cX12_weighs 3 none 0 := ⟨wmi_X12_weighs, wms_X12_weighs, wmn_X12, wmc_X12_weighs, by decide, by decide, by decide +kernel⟩
def F_X12_weighs_91 (N : Nat) (k32 : AH → Int32 → Option AH) (k47 : AH → Int32 → Int32 → Option AH) (ah : AH) (v1 : Int32) (v2 : Int32) (s1 : Int32) (s2 : Int32) : Option AH := xg s1 721 (xlet (xu ah 11 (Int32.toNatClampNeg s1) s2) (fun a91 => xg v2 721 (xg v2 721 (xlet (xu a91 12 (Int32.toNatClampNeg v2) ((a91 12 (Int32.toNatClampNeg v2)) + 1)) (fun a101 => xg v2 721 (xlet (a101 8 (Int32.toNatClampNeg v2)) (fun v2_108 => k47 a101 v1 v2_108)))))))
def F_X12_weighs_47 (N : Nat) (k32 : AH → Int32 → Option AH) : Nat → AH → Int32 → Int32 → Option AH
  | 0, _, _, _ => none
  | n + 1, ah, v1, v2 => if v2 = ((-1)) then xlet (v1 + 1) (fun v1_112 => k32 ah v1_112) else xg v2 721 (if (ah 11 (Int32.toNatClampNeg v2)) = ((-1)) then xg v1 61 (F_X12_weighs_91 N k32 (F_X12_weighs_47 N k32 n) ah v1 v2 v2 (ah 6 (Int32.toNatClampNeg v1))) else xg v2 721 (xg v1 61 (xb (F_X12_less N ah (ah 11 (Int32.toNatClampNeg v2)) (ah 6 (Int32.toNatClampNeg v1))) (fun r88 a88 => F_X12_weighs_91 N k32 (F_X12_weighs_47 N k32 n) a88 v1 v2 v2 r88))))
def F_X12_weighs_32 (N : Nat) : Nat → AH → Int32 → Option AH
  | 0, _, _ => none
  | n + 1, ah, v1 => if (ah 0 10) ≤ v1 then some ah else xg v1 61 (xlet (ah 7 (Int32.toNatClampNeg v1)) (fun v2_46 => F_X12_weighs_47 N (F_X12_weighs_32 N n) N ah v1 v2_46))
def F_X12_weighs_2 (N : Nat) : Nat → AH → Int32 → Option AH
  | 0, _, _ => none
  | n + 1, ah, v1 => if (ah 0 15) ≤ v1 then xlet 0 (fun v1_31 => F_X12_weighs_32 N N ah v1_31) else xg v1 721 (xlet (xu ah 11 (Int32.toNatClampNeg v1) ((-1))) (fun a16 => xg v1 721 (xlet (xu a16 12 (Int32.toNatClampNeg v1) 0) (fun a23 => xlet (v1 + 1) (fun v1_24 => F_X12_weighs_2 N n a23 v1_24)))))
def F_X12_weighs (N : Nat) (ah : AH) : Option AH := xlet 0 (fun v1_1 => F_X12_weighs_2 N N ah v1_1)
theorem b_X12_weighs_91 (C : XC p l s m args meth c cX12_weighs 3 none RX12 D vwCl (tysM ca) (EM ad ca) NCM ad) {N : Nat} {o : AH} {k32 : AH → Int32 → Option AH} (hk32 : ∀ (ah : AH) (v1 : Int32), k32 ah v1 = some o → XW p l e rm_X12_weighs s m args below meth c 3 0 (xQv below args s D vwCl (tysM ca) (EM ad ca) NCM ad o) D vwCl (EM ad ca) NCM ad ah 32 [(0, .ref (ad 0)), (1, .int v1)] []) {k47 : AH → Int32 → Int32 → Option AH} (hk47 : ∀ (ah : AH) (v1 : Int32) (v2 : Int32), k47 ah v1 v2 = some o → XW p l e rm_X12_weighs s m args below meth c 3 0 (xQv below args s D vwCl (tysM ca) (EM ad ca) NCM ad o) D vwCl (EM ad ca) NCM ad ah 47 [(0, .ref (ad 0)), (1, .int v1), (2, .int v2)] []) {ah : AH} {v1 : Int32} {v2 : Int32} {s1 : Int32} {s2 : Int32} (h : F_X12_weighs_91 N k32 k47 ah v1 v2 s1 s2 = some o) : XW p l e rm_X12_weighs s m args below meth c 3 0 (xQv below args s D vwCl (tysM ca) (EM ad ca) NCM ad o) D vwCl (EM ad ca) NCM ad ah 91 [(0, .ref (ad 0)), (1, .int v1), (2, .int v2)] [.int s2, .int s1, .ref (ad 11)] := by
  unfold F_X12_weighs_91 at h
  refine x_iast C 11 lm11 (fun _ => EM_11) 0 rfl dX12_weighs_91 92 rfl h (fun a91 h => ?_)
  refine x_aload_n C dX12_weighs_92 93 rfl 0 rfl ?_
  refine x_get C inX12 0 lm0 EM_0 rfl 20 (by decide) dX12_weighs_93 96 rfl wmf_X12_52 rfl ?_
  refine x_iload_n C dX12_weighs_96 97 rfl 2 rfl ?_
  refine x_dup2 C dX12_weighs_97 98 rfl rfl rfl ?_
  refine x_iald C 12 lm12 EM_12 0 rfl dX12_weighs_98 99 rfl h (fun h => ?_)
  refine x_iconst C dX12_weighs_99 100 rfl 1 rfl ?_
  refine x_iadd C dX12_weighs_100 101 rfl ?_
  refine x_iast C 12 lm12 (fun _ => EM_12) 0 rfl dX12_weighs_101 102 rfl h (fun a101 h => ?_)
  refine x_aload_n C dX12_weighs_102 103 rfl 0 rfl ?_
  refine x_get C inX12 0 lm0 EM_0 rfl 16 (by decide) dX12_weighs_103 106 rfl wmf_X12_40 rfl ?_
  refine x_iload_n C dX12_weighs_106 107 rfl 2 rfl ?_
  refine x_iald C 8 lm8 EM_8 0 rfl dX12_weighs_107 108 rfl h (fun h => ?_)
  refine x_istore_n C dX12_weighs_108 109 rfl (by decide) (fun v2_108 => [(2, .int v2_108), (0, .ref (ad 0)), (1, .int v1)]) (fun _ => rfl) h (fun v2_108 h => ?_)
  refine x_goto C dX12_weighs_109 47 rfl ?_
  exact x_sub [1, 2, 0] rfl (hk47 _ _ _ h)
theorem b_X12_weighs_47 (C : XC p l s m args meth c cX12_weighs 3 none RX12 D vwCl (tysM ca) (EM ad ca) NCM ad) {N : Nat} {o : AH} {k32 : AH → Int32 → Option AH} (hk32 : ∀ (ah : AH) (v1 : Int32), k32 ah v1 = some o → XW p l e rm_X12_weighs s m args below meth c 3 0 (xQv below args s D vwCl (tysM ca) (EM ad ca) NCM ad o) D vwCl (EM ad ca) NCM ad ah 32 [(0, .ref (ad 0)), (1, .int v1)] []) : ∀ (n : Nat) {ah : AH} {v1 : Int32} {v2 : Int32}, F_X12_weighs_47 N k32 n ah v1 v2 = some o → XW p l e rm_X12_weighs s m args below meth c 3 0 (xQv below args s D vwCl (tysM ca) (EM ad ca) NCM ad o) D vwCl (EM ad ca) NCM ad ah 47 [(0, .ref (ad 0)), (1, .int v1), (2, .int v2)] [] := by
  intro n
  induction n with
  | zero => intro ah v1 v2 h; unfold F_X12_weighs_47 at h; cases h
  | succ n ih =>
    intro ah v1 v2 h
    unfold F_X12_weighs_47 at h
    refine x_iload_n C dX12_weighs_47 48 rfl 2 rfl ?_
    refine x_iconst C dX12_weighs_48 49 rfl (-1) rfl ?_
    refine x_icmp_eq C dX12_weighs_49 52 rfl 112 rfl h (fun h => ?_) (fun h => ?_)
    · refine x_iinc C dX12_weighs_112 115 rfl 1 rfl (d := 1) rfl (by decide) (fun v1_112 => [(1, .int v1_112), (0, .ref (ad 0)), (2, .int v2)]) (fun _ => rfl) h (fun v1_112 h => ?_)
      refine x_goto C dX12_weighs_115 32 rfl ?_
      exact x_sub [1, 0] rfl (hk32 _ _ h)
    · refine x_aload_n C dX12_weighs_52 53 rfl 0 rfl ?_
      refine x_get C inX12 0 lm0 EM_0 rfl 19 (by decide) dX12_weighs_53 56 rfl wmf_X12_49 rfl ?_
      refine x_iload_n C dX12_weighs_56 57 rfl 2 rfl ?_
      refine x_aload_n C dX12_weighs_57 58 rfl 0 rfl ?_
      refine x_get C inX12 0 lm0 EM_0 rfl 19 (by decide) dX12_weighs_58 61 rfl wmf_X12_49 rfl ?_
      refine x_iload_n C dX12_weighs_61 62 rfl 2 rfl ?_
      refine x_iald C 11 lm11 EM_11 0 rfl dX12_weighs_62 63 rfl h (fun h => ?_)
      refine x_iconst C dX12_weighs_63 64 rfl (-1) rfl ?_
      refine x_icmp_ne C dX12_weighs_64 67 rfl 76 rfl h (fun h => ?_) (fun h => ?_)
      · refine x_aload_n C dX12_weighs_76 77 rfl 0 rfl ?_
        refine x_get C inX12 0 lm0 EM_0 rfl 19 (by decide) dX12_weighs_77 80 rfl wmf_X12_49 rfl ?_
        refine x_iload_n C dX12_weighs_80 81 rfl 2 rfl ?_
        refine x_iald C 11 lm11 EM_11 0 rfl dX12_weighs_81 82 rfl h (fun h => ?_)
        refine x_aload_n C dX12_weighs_82 83 rfl 0 rfl ?_
        refine x_get C inX12 0 lm0 EM_0 rfl 13 (by decide) dX12_weighs_83 86 rfl wmf_X12_31 rfl ?_
        refine x_iload_n C dX12_weighs_86 87 rfl 1 rfl ?_
        refine x_iald C 6 lm6 EM_6 0 rfl dX12_weighs_87 88 rfl h (fun h => ?_)
        obtain ⟨r88, a88, hq, h⟩ := xb_some h
        refine x_callSi C (c_X12_less C.2.2.2.2.2.2.1 hq) wml_X12_219 wq_X12_less rfl ⟨by decide, by decide⟩ rfl rfl ⟨by decide, by decide⟩ dX12_weighs_88 91 rfl rfl (Nat.le_of_ble_eq_true rfl) ?_
        exact b_X12_weighs_91 C hk32 (fun _ _ _ h => ih h) h
      · refine x_aload_n C dX12_weighs_67 68 rfl 0 rfl ?_
        refine x_get C inX12 0 lm0 EM_0 rfl 13 (by decide) dX12_weighs_68 71 rfl wmf_X12_31 rfl ?_
        refine x_iload_n C dX12_weighs_71 72 rfl 1 rfl ?_
        refine x_iald C 6 lm6 EM_6 0 rfl dX12_weighs_72 73 rfl h (fun h => ?_)
        refine x_goto C dX12_weighs_73 91 rfl ?_
        exact b_X12_weighs_91 C hk32 (fun _ _ _ h => ih h) h
theorem b_X12_weighs_32 (C : XC p l s m args meth c cX12_weighs 3 none RX12 D vwCl (tysM ca) (EM ad ca) NCM ad) {N : Nat} {o : AH} : ∀ (n : Nat) {ah : AH} {v1 : Int32}, F_X12_weighs_32 N n ah v1 = some o → XW p l e rm_X12_weighs s m args below meth c 3 0 (xQv below args s D vwCl (tysM ca) (EM ad ca) NCM ad o) D vwCl (EM ad ca) NCM ad ah 32 [(0, .ref (ad 0)), (1, .int v1)] [] := by
  intro n
  induction n with
  | zero => intro ah v1 h; unfold F_X12_weighs_32 at h; cases h
  | succ n ih =>
    intro ah v1 h
    unfold F_X12_weighs_32 at h
    refine x_iload_n C dX12_weighs_32 33 rfl 1 rfl ?_
    refine x_aload_n C dX12_weighs_33 34 rfl 0 rfl ?_
    refine x_get C inX12 0 lm0 EM_0 rfl 10 (by decide) dX12_weighs_34 37 rfl wmf_X12_257 rfl ?_
    refine x_icmp_ge C dX12_weighs_37 40 rfl 118 rfl h (fun h => ?_) (fun h => ?_)
    · exact x_vret C rfl dX12_weighs_118 h
    · refine x_aload_n C dX12_weighs_40 41 rfl 0 rfl ?_
      refine x_get C inX12 0 lm0 EM_0 rfl 14 (by decide) dX12_weighs_41 44 rfl wmf_X12_34 rfl ?_
      refine x_iload_n C dX12_weighs_44 45 rfl 1 rfl ?_
      refine x_iald C 7 lm7 EM_7 0 rfl dX12_weighs_45 46 rfl h (fun h => ?_)
      refine x_istore_n C dX12_weighs_46 47 rfl (by decide) (fun v2_46 => [(2, .int v2_46), (0, .ref (ad 0)), (1, .int v1)]) (fun _ => rfl) h (fun v2_46 h => ?_)
      exact x_sub [1, 2, 0] rfl (b_X12_weighs_47 C (fun _ _ h => ih h) N h)
theorem b_X12_weighs_2 (C : XC p l s m args meth c cX12_weighs 3 none RX12 D vwCl (tysM ca) (EM ad ca) NCM ad) {N : Nat} {o : AH} : ∀ (n : Nat) {ah : AH} {v1 : Int32}, F_X12_weighs_2 N n ah v1 = some o → XW p l e rm_X12_weighs s m args below meth c 3 0 (xQv below args s D vwCl (tysM ca) (EM ad ca) NCM ad o) D vwCl (EM ad ca) NCM ad ah 2 [(0, .ref (ad 0)), (1, .int v1)] [] := by
  intro n
  induction n with
  | zero => intro ah v1 h; unfold F_X12_weighs_2 at h; cases h
  | succ n ih =>
    intro ah v1 h
    unfold F_X12_weighs_2 at h
    refine x_iload_n C dX12_weighs_2 3 rfl 1 rfl ?_
    refine x_aload_n C dX12_weighs_3 4 rfl 0 rfl ?_
    refine x_get C inX12 0 lm0 EM_0 rfl 15 (by decide) dX12_weighs_4 7 rfl wmf_X12_37 rfl ?_
    refine x_icmp_ge C dX12_weighs_7 10 rfl 30 rfl h (fun h => ?_) (fun h => ?_)
    · refine x_iconst C dX12_weighs_30 31 rfl 0 rfl ?_
      refine x_istore_n C dX12_weighs_31 32 rfl (by decide) (fun v1_31 => [(1, .int v1_31), (0, .ref (ad 0))]) (fun _ => rfl) h (fun v1_31 h => ?_)
      exact x_sub [1, 0] rfl (b_X12_weighs_32 C  N h)
    · refine x_aload_n C dX12_weighs_10 11 rfl 0 rfl ?_
      refine x_get C inX12 0 lm0 EM_0 rfl 19 (by decide) dX12_weighs_11 14 rfl wmf_X12_49 rfl ?_
      refine x_iload_n C dX12_weighs_14 15 rfl 1 rfl ?_
      refine x_iconst C dX12_weighs_15 16 rfl (-1) rfl ?_
      refine x_iast C 11 lm11 (fun _ => EM_11) 0 rfl dX12_weighs_16 17 rfl h (fun a16 h => ?_)
      refine x_aload_n C dX12_weighs_17 18 rfl 0 rfl ?_
      refine x_get C inX12 0 lm0 EM_0 rfl 20 (by decide) dX12_weighs_18 21 rfl wmf_X12_52 rfl ?_
      refine x_iload_n C dX12_weighs_21 22 rfl 1 rfl ?_
      refine x_iconst C dX12_weighs_22 23 rfl 0 rfl ?_
      refine x_iast C 12 lm12 (fun _ => EM_12) 0 rfl dX12_weighs_23 24 rfl h (fun a23 h => ?_)
      refine x_iinc C dX12_weighs_24 27 rfl 1 rfl (d := 1) rfl (by decide) (fun v1_24 => [(1, .int v1_24), (0, .ref (ad 0))]) (fun _ => rfl) h (fun v1_24 h => ?_)
      refine x_goto C dX12_weighs_27 2 rfl ?_
      exact x_sub [1, 0] rfl (ih h)
theorem c_X12_weighs {l : Launch} {D : va_G} {ca : Nat → ClassId} {ad : Nat → Nat} (hI : xInj ad NCM) {N : Nat} {ah : AH} {a : AH} (h : F_X12_weighs N ah = some a) : xMv l yX12_weighs cX12_weighs 3 rm_X12_weighs D vwCl (tysM ca) (EM ad ca) NCM ad [.ref (ad 0)] ah a := by
  refine x_metv (by decide) (Nat.le_of_ble_eq_true rfl) hI EM_loc ?_
  intro p e s m args below meth c C
  unfold F_X12_weighs at h
  refine x_iconst C dX12_weighs_0 1 rfl 0 rfl ?_
  refine x_istore_n C dX12_weighs_1 2 rfl (by decide) (fun v1_1 => [(1, .int v1_1), (0, .ref (ad 0))]) (fun _ => rfl) h (fun v1_1 h => ?_)
  exact x_sub [1, 0] rfl (b_X12_weighs_2 C  N h)
abbrev rm_X12_childOf : Room := { frames := 0, cells := 0, slots := 0, locals := 0 }
theorem wq_X12_childOf : xcV RX12 yX12_childOf cX12_childOf 4 (some .int) 2 := ⟨wmi_X12_childOf, wms_X12_childOf, wmn_X12, wmc_X12_childOf, by decide, by decide, by decide +kernel⟩
def F_X12_childOf_34 (N : Nat) (k4 : AH → Int32 → Int32 → Int32 → Option (Int32 × AH)) (ah : AH) (v1 : Int32) (v2 : Int32) (v3 : Int32) : Option (Int32 × AH) := xlet (v3 + 1) (fun v3_34 => k4 ah v1 v2 v3_34)
def F_X12_childOf_4 (N : Nat) : Nat → AH → Int32 → Int32 → Int32 → Option (Int32 × AH)
  | 0, _, _, _, _ => none
  | n + 1, ah, v1, v2, v3 => if (ah 0 15) ≤ v3 then some ((-1), ah) else xg v3 721 (if (ah 8 (Int32.toNatClampNeg v3)) = v1 then xg v3 721 (if (ah 9 (Int32.toNatClampNeg v3)) = v2 then some (v3, ah) else F_X12_childOf_34 N (F_X12_childOf_4 N n) ah v1 v2 v3) else F_X12_childOf_34 N (F_X12_childOf_4 N n) ah v1 v2 v3)
def F_X12_childOf (N : Nat) (ah : AH) (p1 : Int32) (p2 : Int32) : Option (Int32 × AH) := xlet (p1 + 1) (fun v3_3 => F_X12_childOf_4 N N ah p1 p2 v3_3)
theorem b_X12_childOf_34 (C : XC p l s m args meth c cX12_childOf 4 (some .int) RX12 D vwCl (tysM ca) (EM ad ca) NCM ad) {N : Nat} {o : (Int32 × AH)} {k4 : AH → Int32 → Int32 → Int32 → Option (Int32 × AH)} (hk4 : ∀ (ah : AH) (v1 : Int32) (v2 : Int32) (v3 : Int32), k4 ah v1 v2 v3 = some o → XW p l e rm_X12_childOf s m args below meth c 4 0 (xQi below args s D vwCl (tysM ca) (EM ad ca) NCM ad o) D vwCl (EM ad ca) NCM ad ah 4 [(0, .ref (ad 0)), (1, .int v1), (2, .int v2), (3, .int v3)] []) {ah : AH} {v1 : Int32} {v2 : Int32} {v3 : Int32} (h : F_X12_childOf_34 N k4 ah v1 v2 v3 = some o) : XW p l e rm_X12_childOf s m args below meth c 4 0 (xQi below args s D vwCl (tysM ca) (EM ad ca) NCM ad o) D vwCl (EM ad ca) NCM ad ah 34 [(0, .ref (ad 0)), (1, .int v1), (2, .int v2), (3, .int v3)] [] := by
  unfold F_X12_childOf_34 at h
  refine x_iinc C dX12_childOf_34 37 rfl 3 rfl (d := 1) rfl (by decide) (fun v3_34 => [(3, .int v3_34), (0, .ref (ad 0)), (1, .int v1), (2, .int v2)]) (fun _ => rfl) h (fun v3_34 h => ?_)
  refine x_goto C dX12_childOf_37 4 rfl ?_
  exact x_sub [1, 2, 3, 0] rfl (hk4 _ _ _ _ h)
theorem b_X12_childOf_4 (C : XC p l s m args meth c cX12_childOf 4 (some .int) RX12 D vwCl (tysM ca) (EM ad ca) NCM ad) {N : Nat} {o : (Int32 × AH)} : ∀ (n : Nat) {ah : AH} {v1 : Int32} {v2 : Int32} {v3 : Int32}, F_X12_childOf_4 N n ah v1 v2 v3 = some o → XW p l e rm_X12_childOf s m args below meth c 4 0 (xQi below args s D vwCl (tysM ca) (EM ad ca) NCM ad o) D vwCl (EM ad ca) NCM ad ah 4 [(0, .ref (ad 0)), (1, .int v1), (2, .int v2), (3, .int v3)] [] := by
  intro n
  induction n with
  | zero => intro ah v1 v2 v3 h; unfold F_X12_childOf_4 at h; cases h
  | succ n ih =>
    intro ah v1 v2 v3 h
    unfold F_X12_childOf_4 at h
    refine x_iload_n C dX12_childOf_4 5 rfl 3 rfl ?_
    refine x_aload_n C dX12_childOf_5 6 rfl 0 rfl ?_
    refine x_get C inX12 0 lm0 EM_0 rfl 15 (by decide) dX12_childOf_6 9 rfl wmf_X12_37 rfl ?_
    refine x_icmp_ge C dX12_childOf_9 12 rfl 40 rfl h (fun h => ?_) (fun h => ?_)
    · refine x_iconst C dX12_childOf_40 41 rfl (-1) rfl ?_
      exact x_iret C rfl dX12_childOf_41 h
    · refine x_aload_n C dX12_childOf_12 13 rfl 0 rfl ?_
      refine x_get C inX12 0 lm0 EM_0 rfl 16 (by decide) dX12_childOf_13 16 rfl wmf_X12_40 rfl ?_
      refine x_iload_n C dX12_childOf_16 17 rfl 3 rfl ?_
      refine x_iald C 8 lm8 EM_8 0 rfl dX12_childOf_17 18 rfl h (fun h => ?_)
      refine x_iload_n C dX12_childOf_18 19 rfl 1 rfl ?_
      refine x_icmp_ne C dX12_childOf_19 22 rfl 34 rfl h (fun h => ?_) (fun h => ?_)
      · exact b_X12_childOf_34 C (fun _ _ _ _ h => ih h) h
      · refine x_aload_n C dX12_childOf_22 23 rfl 0 rfl ?_
        refine x_get C inX12 0 lm0 EM_0 rfl 17 (by decide) dX12_childOf_23 26 rfl wmf_X12_43 rfl ?_
        refine x_iload_n C dX12_childOf_26 27 rfl 3 rfl ?_
        refine x_iald C 9 lm9 EM_9 0 rfl dX12_childOf_27 28 rfl h (fun h => ?_)
        refine x_iload_n C dX12_childOf_28 29 rfl 2 rfl ?_
        refine x_icmp_ne C dX12_childOf_29 32 rfl 34 rfl h (fun h => ?_) (fun h => ?_)
        · exact b_X12_childOf_34 C (fun _ _ _ _ h => ih h) h
        · refine x_iload_n C dX12_childOf_32 33 rfl 3 rfl ?_
          exact x_iret C rfl dX12_childOf_33 h
theorem c_X12_childOf {l : Launch} {D : va_G} {ca : Nat → ClassId} {ad : Nat → Nat} (hI : xInj ad NCM) {N : Nat} {ah : AH} {p1 : Int32} {p2 : Int32} {r : Int32} {a : AH} (h : F_X12_childOf N ah p1 p2 = some (r, a)) : xMi l yX12_childOf cX12_childOf 4 (some .int) rm_X12_childOf D vwCl (tysM ca) (EM ad ca) NCM ad [.ref (ad 0), .int p1, .int p2] ah (r, a) := by
  refine x_meti (by decide) (Nat.le_of_ble_eq_true rfl) hI EM_loc ?_
  intro p e s m args below meth c C
  unfold F_X12_childOf at h
  refine x_iload_n C dX12_childOf_0 1 rfl 1 rfl ?_
  refine x_iconst C dX12_childOf_1 2 rfl 1 rfl ?_
  refine x_iadd C dX12_childOf_2 3 rfl ?_
  refine x_istore_n C dX12_childOf_3 4 rfl (by decide) (fun v3_3 => [(3, .int v3_3), (0, .ref (ad 0)), (1, .int p1), (2, .int p2)]) (fun _ => rfl) h (fun v3_3 h => ?_)
  exact x_sub [1, 2, 3, 0] rfl (b_X12_childOf_4 C  N h)
abbrev rm_X12_grows : Room := { frames := 1, cells := 0, slots := 0, locals := 23 }
theorem wq_X12_grows : xcV RX12 yX12_grows cX12_grows 5 none 1 := ⟨wmi_X12_grows, wms_X12_grows, wmn_X12, wmc_X12_grows, by decide, by decide, by decide +kernel⟩
def F_X12_grows_82 (N : Nat) (k4 : AH → Int32 → Int32 → Int32 → Option AH) (ah : AH) (v1 : Int32) (v3 : Int32) (v4 : Int32) : Option AH := xlet v4 (fun v2_84 => xlet (v3 + 1) (fun v3_85 => k4 ah v1 v2_84 v3_85))
def F_X12_grows_4 (N : Nat) : Nat → AH → Int32 → Int32 → Int32 → Option AH
  | 0, _, _, _, _ => none
  | n + 1, ah, v1, v2, v3 => xg v1 61 (if (ah 5 (Int32.toNatClampNeg v1)) ≤ v3 then xg v2 721 (xlet (xu ah 10 (Int32.toNatClampNeg v2) v1) (fun a97 => xg v1 61 (xlet (xu a97 7 (Int32.toNatClampNeg v1) v2) (fun a104 => some a104)))) else xg v1 61 (xlet (52 + (Int32.toNatClampNeg v1)) (fun x21 => xg v3 12 (xb (F_X12_childOf N ah v2 (ah x21 (Int32.toNatClampNeg v3))) (fun r24 a24 => xlet r24 (fun v4_27 => if v4_27 = ((-1)) then xlet (a24 0 15) (fun v4_39 => xg v4_39 721 (xlet (xu a24 8 (Int32.toNatClampNeg v4_39) v2) (fun a48 => xg v1 61 (xlet (52 + (Int32.toNatClampNeg v1)) (fun x60 => xg v3 12 (xg v4_39 721 (xlet (xu a48 9 (Int32.toNatClampNeg v4_39) (a48 x60 (Int32.toNatClampNeg v3))) (fun a63 => xg v4_39 721 (xlet (xu a63 10 (Int32.toNatClampNeg v4_39) ((-1))) (fun a71 => xlet (xu a71 0 15 ((a71 0 15) + 1)) (fun a79 => F_X12_grows_82 N (F_X12_grows_4 N n) a79 v1 v3 v4_39))))))))))) else F_X12_grows_82 N (F_X12_grows_4 N n) a24 v1 v3 v4_27))))))
def F_X12_grows (N : Nat) (ah : AH) (p1 : Int32) : Option AH := xlet 0 (fun v2_1 => xlet 0 (fun v3_3 => F_X12_grows_4 N N ah p1 v2_1 v3_3))
theorem b_X12_grows_82 (C : XC p l s m args meth c cX12_grows 5 none RX12 D vwCl (tysM ca) (EM ad ca) NCM ad) {N : Nat} {o : AH} {k4 : AH → Int32 → Int32 → Int32 → Option AH} (hk4 : ∀ (ah : AH) (v1 : Int32) (v2 : Int32) (v3 : Int32), k4 ah v1 v2 v3 = some o → XW p l e rm_X12_grows s m args below meth c 5 0 (xQv below args s D vwCl (tysM ca) (EM ad ca) NCM ad o) D vwCl (EM ad ca) NCM ad ah 4 [(0, .ref (ad 0)), (1, .int v1), (2, .int v2), (3, .int v3)] []) {ah : AH} {v1 : Int32} {v3 : Int32} {v4 : Int32} (h : F_X12_grows_82 N k4 ah v1 v3 v4 = some o) : XW p l e rm_X12_grows s m args below meth c 5 0 (xQv below args s D vwCl (tysM ca) (EM ad ca) NCM ad o) D vwCl (EM ad ca) NCM ad ah 82 [(0, .ref (ad 0)), (1, .int v1), (3, .int v3), (4, .int v4)] [] := by
  unfold F_X12_grows_82 at h
  refine x_iload C dX12_grows_82 84 rfl 3 rfl ?_
  refine x_istore_n C dX12_grows_84 85 rfl (by decide) (fun v2_84 => [(2, .int v2_84), (0, .ref (ad 0)), (1, .int v1), (3, .int v3), (4, .int v4)]) (fun _ => rfl) h (fun v2_84 h => ?_)
  refine x_iinc C dX12_grows_85 88 rfl 3 rfl (d := 1) rfl (by decide) (fun v3_85 => [(3, .int v3_85), (2, .int v2_84), (0, .ref (ad 0)), (1, .int v1), (4, .int v4)]) (fun _ => rfl) h (fun v3_85 h => ?_)
  refine x_goto C dX12_grows_88 4 rfl ?_
  exact x_sub [2, 3, 1, 0] rfl (hk4 _ _ _ _ h)
theorem b_X12_grows_4 (C : XC p l s m args meth c cX12_grows 5 none RX12 D vwCl (tysM ca) (EM ad ca) NCM ad) {N : Nat} {o : AH} : ∀ (n : Nat) {ah : AH} {v1 : Int32} {v2 : Int32} {v3 : Int32}, F_X12_grows_4 N n ah v1 v2 v3 = some o → XW p l e rm_X12_grows s m args below meth c 5 0 (xQv below args s D vwCl (tysM ca) (EM ad ca) NCM ad o) D vwCl (EM ad ca) NCM ad ah 4 [(0, .ref (ad 0)), (1, .int v1), (2, .int v2), (3, .int v3)] [] := by
  intro n
  induction n with
  | zero => intro ah v1 v2 v3 h; unfold F_X12_grows_4 at h; cases h
  | succ n ih =>
    intro ah v1 v2 v3 h
    unfold F_X12_grows_4 at h
    refine x_iload_n C dX12_grows_4 5 rfl 3 rfl ?_
    refine x_aload_n C dX12_grows_5 6 rfl 0 rfl ?_
    refine x_get C inX12 0 lm0 EM_0 rfl 12 (by decide) dX12_grows_6 9 rfl wmf_X12_28 rfl ?_
    refine x_iload_n C dX12_grows_9 10 rfl 1 rfl ?_
    refine x_iald C 5 lm5 EM_5 0 rfl dX12_grows_10 11 rfl h (fun h => ?_)
    refine x_icmp_ge C dX12_grows_11 14 rfl 91 rfl h (fun h => ?_) (fun h => ?_)
    · refine x_aload_n C dX12_grows_91 92 rfl 0 rfl ?_
      refine x_get C inX12 0 lm0 EM_0 rfl 18 (by decide) dX12_grows_92 95 rfl wmf_X12_46 rfl ?_
      refine x_iload_n C dX12_grows_95 96 rfl 2 rfl ?_
      refine x_iload_n C dX12_grows_96 97 rfl 1 rfl ?_
      refine x_iast C 10 lm10 (fun _ => EM_10) 0 rfl dX12_grows_97 98 rfl h (fun a97 h => ?_)
      refine x_aload_n C dX12_grows_98 99 rfl 0 rfl ?_
      refine x_get C inX12 0 lm0 EM_0 rfl 14 (by decide) dX12_grows_99 102 rfl wmf_X12_34 rfl ?_
      refine x_iload_n C dX12_grows_102 103 rfl 1 rfl ?_
      refine x_iload_n C dX12_grows_103 104 rfl 2 rfl ?_
      refine x_iast C 7 lm7 (fun _ => EM_7) 0 rfl dX12_grows_104 105 rfl h (fun a104 h => ?_)
      exact x_vret C rfl dX12_grows_105 h
    · refine x_aload_n C dX12_grows_14 15 rfl 0 rfl ?_
      refine x_iload_n C dX12_grows_15 16 rfl 2 rfl ?_
      refine x_aload_n C dX12_grows_16 17 rfl 0 rfl ?_
      refine x_get C inX12 0 lm0 EM_0 rfl 11 (by decide) dX12_grows_17 20 rfl wmf_X12_25 rfl ?_
      refine x_iload_n C dX12_grows_20 21 rfl 1 rfl ?_
      refine x_aaldL C (4) lm4 EM_4 2 rfl rfl dX12_grows_21 22 rfl (52 + (Int32.toNatClampNeg v1)) rfl h (fun x21 ex21 hb21 h => ?_)
      have hx21 : mI x21 12 := ex21 ▸ mI_sign hb21
      refine x_iload_n C dX12_grows_22 23 rfl 3 rfl ?_
      refine x_iald C x21 hx21.1 (hx21.2 _ _ _) 0 rfl dX12_grows_23 24 rfl h (fun h => ?_)
      obtain ⟨r24, a24, hq, h⟩ := xb_some h
      refine x_callVi C 0 (c_X12_childOf C.2.2.2.2.2.2.1 hq) lm0 EM_0 rfl wml_X12_272 wq_X12_childOf rfl ⟨by decide, by decide⟩ rfl rfl ⟨by decide, by decide⟩ dX12_grows_24 27 rfl rfl (Nat.le_of_ble_eq_true rfl) ?_
      refine x_istore C dX12_grows_27 29 rfl (by decide) (fun v4_27 => [(4, .int v4_27), (0, .ref (ad 0)), (1, .int v1), (2, .int v2), (3, .int v3)]) (fun _ => rfl) h (fun v4_27 h => ?_)
      refine x_iload C dX12_grows_29 31 rfl 0 rfl ?_
      refine x_iconst C dX12_grows_31 32 rfl (-1) rfl ?_
      refine x_icmp_ne C dX12_grows_32 35 rfl 82 rfl h (fun h => ?_) (fun h => ?_)
      · exact x_sub [1, 2, 4, 0] rfl (b_X12_grows_82 C (fun _ _ _ _ h => ih h) h)
      · refine x_aload_n C dX12_grows_35 36 rfl 1 rfl ?_
        refine x_get C inX12 0 lm0 EM_0 rfl 15 (by decide) dX12_grows_36 39 rfl wmf_X12_37 rfl ?_
        refine x_istore C dX12_grows_39 41 rfl (by decide) (fun v4_39 => [(4, .int v4_39), (0, .ref (ad 0)), (1, .int v1), (2, .int v2), (3, .int v3)]) (fun _ => rfl) h (fun v4_39 h => ?_)
        refine x_aload_n C dX12_grows_41 42 rfl 1 rfl ?_
        refine x_get C inX12 0 lm0 EM_0 rfl 16 (by decide) dX12_grows_42 45 rfl wmf_X12_40 rfl ?_
        refine x_iload C dX12_grows_45 47 rfl 0 rfl ?_
        refine x_iload_n C dX12_grows_47 48 rfl 3 rfl ?_
        refine x_iast C 8 lm8 (fun _ => EM_8) 0 rfl dX12_grows_48 49 rfl h (fun a48 h => ?_)
        refine x_aload_n C dX12_grows_49 50 rfl 1 rfl ?_
        refine x_get C inX12 0 lm0 EM_0 rfl 17 (by decide) dX12_grows_50 53 rfl wmf_X12_43 rfl ?_
        refine x_iload C dX12_grows_53 55 rfl 0 rfl ?_
        refine x_aload_n C dX12_grows_55 56 rfl 1 rfl ?_
        refine x_get C inX12 0 lm0 EM_0 rfl 11 (by decide) dX12_grows_56 59 rfl wmf_X12_25 rfl ?_
        refine x_iload_n C dX12_grows_59 60 rfl 2 rfl ?_
        refine x_aaldL C (4) lm4 EM_4 2 rfl rfl dX12_grows_60 61 rfl (52 + (Int32.toNatClampNeg v1)) rfl h (fun x60 ex60 hb60 h => ?_)
        have hx60 : mI x60 12 := ex60 ▸ mI_sign hb60
        refine x_iload_n C dX12_grows_61 62 rfl 4 rfl ?_
        refine x_iald C x60 hx60.1 (hx60.2 _ _ _) 0 rfl dX12_grows_62 63 rfl h (fun h => ?_)
        refine x_iast C 9 lm9 (fun _ => EM_9) 0 rfl dX12_grows_63 64 rfl h (fun a63 h => ?_)
        refine x_aload_n C dX12_grows_64 65 rfl 1 rfl ?_
        refine x_get C inX12 0 lm0 EM_0 rfl 18 (by decide) dX12_grows_65 68 rfl wmf_X12_46 rfl ?_
        refine x_iload C dX12_grows_68 70 rfl 0 rfl ?_
        refine x_iconst C dX12_grows_70 71 rfl (-1) rfl ?_
        refine x_iast C 10 lm10 (fun _ => EM_10) 0 rfl dX12_grows_71 72 rfl h (fun a71 h => ?_)
        refine x_aload_n C dX12_grows_72 73 rfl 1 rfl ?_
        refine x_dup C dX12_grows_73 74 rfl rfl ?_
        refine x_get C inX12 0 lm0 EM_0 rfl 15 (by decide) dX12_grows_74 77 rfl wmf_X12_37 rfl ?_
        refine x_iconst C dX12_grows_77 78 rfl 1 rfl ?_
        refine x_iadd C dX12_grows_78 79 rfl ?_
        refine x_put C inX12 0 lm0 EM_0 rfl 15 (by decide) tyX12_ok nmX12 dX12_grows_79 82 rfl wmf_X12_37 rfl rfl rfl (Nat.le_of_ble_eq_true rfl) EQ_0_15 h (fun a79 h => ?_)
        exact x_sub [1, 2, 4, 0] rfl (b_X12_grows_82 C (fun _ _ _ _ h => ih h) h)
theorem c_X12_grows {l : Launch} {D : va_G} {ca : Nat → ClassId} {ad : Nat → Nat} (hI : xInj ad NCM) {N : Nat} {ah : AH} {p1 : Int32} {a : AH} (h : F_X12_grows N ah p1 = some a) : xMv l yX12_grows cX12_grows 5 rm_X12_grows D vwCl (tysM ca) (EM ad ca) NCM ad [.ref (ad 0), .int p1] ah a := by
  refine x_metv (by decide) (Nat.le_of_ble_eq_true rfl) hI EM_loc ?_
  intro p e s m args below meth c C
  unfold F_X12_grows at h
  refine x_iconst C dX12_grows_0 1 rfl 0 rfl ?_
  refine x_istore_n C dX12_grows_1 2 rfl (by decide) (fun v2_1 => [(2, .int v2_1), (0, .ref (ad 0)), (1, .int p1)]) (fun _ => rfl) h (fun v2_1 h => ?_)
  refine x_iconst C dX12_grows_2 3 rfl 0 rfl ?_
  refine x_istore_n C dX12_grows_3 4 rfl (by decide) (fun v3_3 => [(3, .int v3_3), (2, .int v2_1), (0, .ref (ad 0)), (1, .int p1)]) (fun _ => rfl) h (fun v3_3 h => ?_)
  exact x_sub [2, 3, 1, 0] rfl (b_X12_grows_4 C  N h)
abbrev rm_X12_lexicon : Room := { frames := 5, cells := 0, slots := 0, locals := 103 }
theorem wq_X12_lexicon : xcV RX12 yX12_lexicon cX12_lexicon 5 (some .int) 1 := ⟨wmi_X12_lexicon, wms_X12_lexicon, wmn_X12, wmc_X12_lexicon, by decide, by decide, by decide +kernel⟩
def F_X12_lexicon_142 (N : Nat) : Nat → AH → Int32 → Option (Int32 × AH)
  | 0, _, _ => none
  | n + 1, ah, v4 => if (ah 0 10) ≤ v4 then xbv (F_X12_weighs N ah) (fun a164 => xb (F_X12_ends N a164 (a164 0 10)) (fun r172 a172 => some (r172, a172))) else xbv (F_X12_grows N ah v4) (fun a154 => xlet (v4 + 1) (fun v4_157 => F_X12_lexicon_142 N n a154 v4_157))
def F_X12_lexicon_121 (N : Nat) (ah : AH) (v2 : Int32) (v3 : Int32) : Option (Int32 × AH) := xb (F_X12_fine N ah) (fun r122 a122 => if r122 = 0 then xb (F_X12_ends N a122 0) (fun r130 a130 => some (r130, a130)) else xlet (xu a122 0 10 v3) (fun a136 => xlet v2 (fun v4_140 => F_X12_lexicon_142 N N a136 v4_140)))
def F_X12_lexicon_100 (N : Nat) (k48 : AH → Int32 → Int32 → Option (Int32 × AH)) (ah : AH) (v2 : Int32) (v3 : Int32) : Option (Int32 × AH) := xb (F_X12_fine N ah) (fun r101 a101 => if r101 = 0 then F_X12_lexicon_121 N a101 v2 v3 else xbv (F_X12_readsWord N a101 v3) (fun a112 => xlet (v3 + 1) (fun v3_115 => k48 a112 v2 v3_115)))
def F_X12_lexicon_48 (N : Nat) : Nat → AH → Int32 → Int32 → Option (Int32 × AH)
  | 0, _, _, _ => none
  | n + 1, ah, v2, v3 => xb (F_X12_fine N ah) (fun r49 a49 => if r49 = 0 then F_X12_lexicon_121 N a49 v2 v3 else xb (F_X12_blanks N a49) (fun r56 a56 => if r56 = ((-1)) then F_X12_lexicon_121 N a56 v2 v3 else xb (F_X12_here N a56) (fun r64 a64 => xb (F_X12_isSmall N a64 r64) (fun r67 a67 => if r67 = 0 then xbv (F_X12_wrong N a67 1 (a67 0 4)) (fun a79 => F_X12_lexicon_100 N (F_X12_lexicon_48 N n) a79 v2 v3) else if v3 = 60 then xbv (F_X12_wrong N a67 3 (a67 0 4)) (fun a97 => F_X12_lexicon_100 N (F_X12_lexicon_48 N n) a97 v2 v3) else F_X12_lexicon_100 N (F_X12_lexicon_48 N n) a67 v2 v3))))
def F_X12_lexicon_23 (N : Nat) (ah : AH) (v1 : Int32) (s1 : Int32) : Option (Int32 × AH) := xb (F_X12_bad N ah s1 1 1) (fun r25 a25 => if r25 = 0 then xbv (F_X12_starts N a25 v1) (fun a35 => xlet (a35 0 10) (fun v2_42 => xlet (a35 0 10) (fun v3_47 => F_X12_lexicon_48 N N a35 v2_42 v3_47))) else some (0, a25))
def F_X12_lexicon (N : Nat) (ah : AH) (p1 : Int32) : Option (Int32 × AH) := xlet (xu ah 0 0 0) (fun a2 => xb (F_X12_in N a2 p1 0 (a2 0 2)) (fun r12 a12 => if r12 = 0 then F_X12_lexicon_23 N a12 p1 1 else F_X12_lexicon_23 N a12 p1 0))
theorem b_X12_lexicon_142 (C : XC p l s m args meth c cX12_lexicon 5 (some .int) RX12 D vwCl (tysM ca) (EM ad ca) NCM ad) {N : Nat} {o : (Int32 × AH)} : ∀ (n : Nat) {ah : AH} {v4 : Int32}, F_X12_lexicon_142 N n ah v4 = some o → XW p l e rm_X12_lexicon s m args below meth c 5 0 (xQi below args s D vwCl (tysM ca) (EM ad ca) NCM ad o) D vwCl (EM ad ca) NCM ad ah 142 [(0, .ref (ad 0)), (4, .int v4)] [] := by
  intro n
  induction n with
  | zero => intro ah v4 h; unfold F_X12_lexicon_142 at h; cases h
  | succ n ih =>
    intro ah v4 h
    unfold F_X12_lexicon_142 at h
    refine x_iload C dX12_lexicon_142 144 rfl 1 rfl ?_
    refine x_aload_n C dX12_lexicon_144 145 rfl 0 rfl ?_
    refine x_get C inX12 0 lm0 EM_0 rfl 10 (by decide) dX12_lexicon_145 148 rfl wmf_X12_257 rfl ?_
    refine x_icmp_ge C dX12_lexicon_148 151 rfl 163 rfl h (fun h => ?_) (fun h => ?_)
    · refine x_aload_n C dX12_lexicon_163 164 rfl 0 rfl ?_
      obtain ⟨a164, hq, h⟩ := xbv_some h
      refine x_callVv C 0 (c_X12_weighs C.2.2.2.2.2.2.1 hq) lm0 EM_0 rfl wml_X12_269 wq_X12_weighs rfl ⟨by decide, by decide⟩ rfl rfl ⟨by decide, by decide⟩ dX12_lexicon_164 167 rfl rfl (Nat.le_of_ble_eq_true rfl) ?_
      refine x_aload_n C dX12_lexicon_167 168 rfl 0 rfl ?_
      refine x_aload_n C dX12_lexicon_168 169 rfl 0 rfl ?_
      refine x_get C inX12 0 lm0 EM_0 rfl 10 (by decide) dX12_lexicon_169 172 rfl wmf_X12_257 rfl ?_
      obtain ⟨r172, a172, hq, h⟩ := xb_some h
      refine x_callVi C 0 (c_X12_ends C.2.2.2.2.2.2.1 hq) lm0 EM_0 rfl wml_X12_263 wq_X12_ends rfl ⟨by decide, by decide⟩ rfl rfl ⟨by decide, by decide⟩ dX12_lexicon_172 175 rfl rfl (Nat.le_of_ble_eq_true rfl) ?_
      exact x_iret C rfl dX12_lexicon_175 h
    · refine x_aload_n C dX12_lexicon_151 152 rfl 0 rfl ?_
      refine x_iload C dX12_lexicon_152 154 rfl 1 rfl ?_
      obtain ⟨a154, hq, h⟩ := xbv_some h
      refine x_callVv C 0 (c_X12_grows C.2.2.2.2.2.2.1 hq) lm0 EM_0 rfl wml_X12_266 wq_X12_grows rfl ⟨by decide, by decide⟩ rfl rfl ⟨by decide, by decide⟩ dX12_lexicon_154 157 rfl rfl (Nat.le_of_ble_eq_true rfl) ?_
      refine x_iinc C dX12_lexicon_157 160 rfl 1 rfl (d := 1) rfl (by decide) (fun v4_157 => [(4, .int v4_157), (0, .ref (ad 0))]) (fun _ => rfl) h (fun v4_157 h => ?_)
      refine x_goto C dX12_lexicon_160 142 rfl ?_
      exact x_sub [1, 0] rfl (ih h)
theorem b_X12_lexicon_121 (C : XC p l s m args meth c cX12_lexicon 5 (some .int) RX12 D vwCl (tysM ca) (EM ad ca) NCM ad) {N : Nat} {o : (Int32 × AH)} {ah : AH} {v2 : Int32} {v3 : Int32} (h : F_X12_lexicon_121 N ah v2 v3 = some o) : XW p l e rm_X12_lexicon s m args below meth c 5 0 (xQi below args s D vwCl (tysM ca) (EM ad ca) NCM ad o) D vwCl (EM ad ca) NCM ad ah 121 [(0, .ref (ad 0)), (2, .int v2), (3, .int v3)] [] := by
  unfold F_X12_lexicon_121 at h
  refine x_aload_n C dX12_lexicon_121 122 rfl 0 rfl ?_
  obtain ⟨r122, a122, hq, h⟩ := xb_some h
  refine x_callVi C 0 (c_X12_fine C.2.2.2.2.2.2.1 hq) lm0 EM_0 rfl wml_X12_206 wq_X12_fine rfl ⟨by decide, by decide⟩ rfl rfl ⟨by decide, by decide⟩ dX12_lexicon_122 125 rfl rfl (Nat.le_of_ble_eq_true rfl) ?_
  refine x_if_ne C dX12_lexicon_125 128 rfl 134 rfl h (fun h => ?_) (fun h => ?_)
  · refine x_aload_n C dX12_lexicon_134 135 rfl 0 rfl ?_
    refine x_iload_n C dX12_lexicon_135 136 rfl 2 rfl ?_
    refine x_put C inX12 0 lm0 EM_0 rfl 10 (by decide) tyX12_ok nmX12 dX12_lexicon_136 139 rfl wmf_X12_257 rfl rfl rfl (Nat.le_of_ble_eq_true rfl) EQ_0_10 h (fun a136 h => ?_)
    refine x_iload_n C dX12_lexicon_139 140 rfl 1 rfl ?_
    refine x_istore C dX12_lexicon_140 142 rfl (by decide) (fun v4_140 => [(4, .int v4_140), (0, .ref (ad 0)), (2, .int v2), (3, .int v3)]) (fun _ => rfl) h (fun v4_140 h => ?_)
    exact x_sub [1, 0] rfl (b_X12_lexicon_142 C  N h)
  · refine x_aload_n C dX12_lexicon_128 129 rfl 0 rfl ?_
    refine x_iconst C dX12_lexicon_129 130 rfl 0 rfl ?_
    obtain ⟨r130, a130, hq, h⟩ := xb_some h
    refine x_callVi C 0 (c_X12_ends C.2.2.2.2.2.2.1 hq) lm0 EM_0 rfl wml_X12_263 wq_X12_ends rfl ⟨by decide, by decide⟩ rfl rfl ⟨by decide, by decide⟩ dX12_lexicon_130 133 rfl rfl (Nat.le_of_ble_eq_true rfl) ?_
    exact x_iret C rfl dX12_lexicon_133 h
theorem b_X12_lexicon_100 (C : XC p l s m args meth c cX12_lexicon 5 (some .int) RX12 D vwCl (tysM ca) (EM ad ca) NCM ad) {N : Nat} {o : (Int32 × AH)} {k48 : AH → Int32 → Int32 → Option (Int32 × AH)} (hk48 : ∀ (ah : AH) (v2 : Int32) (v3 : Int32), k48 ah v2 v3 = some o → XW p l e rm_X12_lexicon s m args below meth c 5 0 (xQi below args s D vwCl (tysM ca) (EM ad ca) NCM ad o) D vwCl (EM ad ca) NCM ad ah 48 [(0, .ref (ad 0)), (2, .int v2), (3, .int v3)] []) {ah : AH} {v2 : Int32} {v3 : Int32} (h : F_X12_lexicon_100 N k48 ah v2 v3 = some o) : XW p l e rm_X12_lexicon s m args below meth c 5 0 (xQi below args s D vwCl (tysM ca) (EM ad ca) NCM ad o) D vwCl (EM ad ca) NCM ad ah 100 [(0, .ref (ad 0)), (2, .int v2), (3, .int v3)] [] := by
  unfold F_X12_lexicon_100 at h
  refine x_aload_n C dX12_lexicon_100 101 rfl 0 rfl ?_
  obtain ⟨r101, a101, hq, h⟩ := xb_some h
  refine x_callVi C 0 (c_X12_fine C.2.2.2.2.2.2.1 hq) lm0 EM_0 rfl wml_X12_206 wq_X12_fine rfl ⟨by decide, by decide⟩ rfl rfl ⟨by decide, by decide⟩ dX12_lexicon_101 104 rfl rfl (Nat.le_of_ble_eq_true rfl) ?_
  refine x_if_ne C dX12_lexicon_104 107 rfl 110 rfl h (fun h => ?_) (fun h => ?_)
  · refine x_aload_n C dX12_lexicon_110 111 rfl 0 rfl ?_
    refine x_iload_n C dX12_lexicon_111 112 rfl 2 rfl ?_
    obtain ⟨a112, hq, h⟩ := xbv_some h
    refine x_callVv C 0 (c_X12_readsWord C.2.2.2.2.2.2.1 hq) lm0 EM_0 rfl wml_X12_260 wq_X12_readsWord rfl ⟨by decide, by decide⟩ rfl rfl ⟨by decide, by decide⟩ dX12_lexicon_112 115 rfl rfl (Nat.le_of_ble_eq_true rfl) ?_
    refine x_iinc C dX12_lexicon_115 118 rfl 2 rfl (d := 1) rfl (by decide) (fun v3_115 => [(3, .int v3_115), (0, .ref (ad 0)), (2, .int v2)]) (fun _ => rfl) h (fun v3_115 h => ?_)
    refine x_goto C dX12_lexicon_118 48 rfl ?_
    exact x_sub [1, 2, 0] rfl (hk48 _ _ _ h)
  · refine x_goto C dX12_lexicon_107 121 rfl ?_
    exact b_X12_lexicon_121 C  h
theorem b_X12_lexicon_48 (C : XC p l s m args meth c cX12_lexicon 5 (some .int) RX12 D vwCl (tysM ca) (EM ad ca) NCM ad) {N : Nat} {o : (Int32 × AH)} : ∀ (n : Nat) {ah : AH} {v2 : Int32} {v3 : Int32}, F_X12_lexicon_48 N n ah v2 v3 = some o → XW p l e rm_X12_lexicon s m args below meth c 5 0 (xQi below args s D vwCl (tysM ca) (EM ad ca) NCM ad o) D vwCl (EM ad ca) NCM ad ah 48 [(0, .ref (ad 0)), (2, .int v2), (3, .int v3)] [] := by
  intro n
  induction n with
  | zero => intro ah v2 v3 h; unfold F_X12_lexicon_48 at h; cases h
  | succ n ih =>
    intro ah v2 v3 h
    unfold F_X12_lexicon_48 at h
    refine x_aload_n C dX12_lexicon_48 49 rfl 0 rfl ?_
    obtain ⟨r49, a49, hq, h⟩ := xb_some h
    refine x_callVi C 0 (c_X12_fine C.2.2.2.2.2.2.1 hq) lm0 EM_0 rfl wml_X12_206 wq_X12_fine rfl ⟨by decide, by decide⟩ rfl rfl ⟨by decide, by decide⟩ dX12_lexicon_49 52 rfl rfl (Nat.le_of_ble_eq_true rfl) ?_
    refine x_if_eq C dX12_lexicon_52 55 rfl 121 rfl h (fun h => ?_) (fun h => ?_)
    · exact b_X12_lexicon_121 C  h
    · refine x_aload_n C dX12_lexicon_55 56 rfl 0 rfl ?_
      obtain ⟨r56, a56, hq, h⟩ := xb_some h
      refine x_callVi C 0 (c_X12_blanks C.2.2.2.2.2.2.1 hq) lm0 EM_0 rfl wml_X12_227 wq_X12_blanks rfl ⟨by decide, by decide⟩ rfl rfl ⟨by decide, by decide⟩ dX12_lexicon_56 59 rfl rfl (Nat.le_of_ble_eq_true rfl) ?_
      refine x_iconst C dX12_lexicon_59 60 rfl (-1) rfl ?_
      refine x_icmp_eq C dX12_lexicon_60 63 rfl 121 rfl h (fun h => ?_) (fun h => ?_)
      · exact b_X12_lexicon_121 C  h
      · refine x_aload_n C dX12_lexicon_63 64 rfl 0 rfl ?_
        obtain ⟨r64, a64, hq, h⟩ := xb_some h
        refine x_callVi C 0 (c_X12_here C.2.2.2.2.2.2.1 hq) lm0 EM_0 rfl wml_X12_196 wq_X12_here rfl ⟨by decide, by decide⟩ rfl rfl ⟨by decide, by decide⟩ dX12_lexicon_64 67 rfl rfl (Nat.le_of_ble_eq_true rfl) ?_
        obtain ⟨r67, a67, hq, h⟩ := xb_some h
        refine x_callSi C (c_X12_isSmall C.2.2.2.2.2.2.1 hq) wml_X12_230 wq_X12_isSmall rfl ⟨by decide, by decide⟩ rfl rfl ⟨by decide, by decide⟩ dX12_lexicon_67 70 rfl rfl (Nat.le_of_ble_eq_true rfl) ?_
        refine x_if_ne C dX12_lexicon_70 73 rfl 85 rfl h (fun h => ?_) (fun h => ?_)
        · refine x_iload_n C dX12_lexicon_85 86 rfl 2 rfl ?_
          refine x_bipush C dX12_lexicon_86 88 rfl 60 rfl ?_
          refine x_icmp_ne C dX12_lexicon_88 91 rfl 100 rfl h (fun h => ?_) (fun h => ?_)
          · exact b_X12_lexicon_100 C (fun _ _ _ h => ih h) h
          · refine x_aload_n C dX12_lexicon_91 92 rfl 0 rfl ?_
            refine x_iconst C dX12_lexicon_92 93 rfl 3 rfl ?_
            refine x_aload_n C dX12_lexicon_93 94 rfl 0 rfl ?_
            refine x_get C inX12 0 lm0 EM_0 rfl 4 (by decide) dX12_lexicon_94 97 rfl wmf_X12_189 rfl ?_
            obtain ⟨a97, hq, h⟩ := xbv_some h
            refine x_callVv C 0 (c_X12_wrong C.2.2.2.2.2.2.1 hq) lm0 EM_0 rfl wml_X12_214 wq_X12_wrong rfl ⟨by decide, by decide⟩ rfl rfl ⟨by decide, by decide⟩ dX12_lexicon_97 100 rfl rfl (Nat.le_of_ble_eq_true rfl) ?_
            exact b_X12_lexicon_100 C (fun _ _ _ h => ih h) h
        · refine x_aload_n C dX12_lexicon_73 74 rfl 0 rfl ?_
          refine x_iconst C dX12_lexicon_74 75 rfl 1 rfl ?_
          refine x_aload_n C dX12_lexicon_75 76 rfl 0 rfl ?_
          refine x_get C inX12 0 lm0 EM_0 rfl 4 (by decide) dX12_lexicon_76 79 rfl wmf_X12_189 rfl ?_
          obtain ⟨a79, hq, h⟩ := xbv_some h
          refine x_callVv C 0 (c_X12_wrong C.2.2.2.2.2.2.1 hq) lm0 EM_0 rfl wml_X12_214 wq_X12_wrong rfl ⟨by decide, by decide⟩ rfl rfl ⟨by decide, by decide⟩ dX12_lexicon_79 82 rfl rfl (Nat.le_of_ble_eq_true rfl) ?_
          refine x_goto C dX12_lexicon_82 100 rfl ?_
          exact b_X12_lexicon_100 C (fun _ _ _ h => ih h) h
theorem b_X12_lexicon_23 (C : XC p l s m args meth c cX12_lexicon 5 (some .int) RX12 D vwCl (tysM ca) (EM ad ca) NCM ad) {N : Nat} {o : (Int32 × AH)} {ah : AH} {v1 : Int32} {s1 : Int32} (h : F_X12_lexicon_23 N ah v1 s1 = some o) : XW p l e rm_X12_lexicon s m args below meth c 5 0 (xQi below args s D vwCl (tysM ca) (EM ad ca) NCM ad o) D vwCl (EM ad ca) NCM ad ah 23 [(0, .ref (ad 0)), (1, .int v1)] [.int s1, .ref (ad 0)] := by
  unfold F_X12_lexicon_23 at h
  refine x_iconst C dX12_lexicon_23 24 rfl 1 rfl ?_
  refine x_iconst C dX12_lexicon_24 25 rfl 1 rfl ?_
  obtain ⟨r25, a25, hq, h⟩ := xb_some h
  refine x_callVi C 0 (c_X12_bad C.2.2.2.2.2.2.1 hq) lm0 EM_0 rfl wml_X12_249 wq_X12_bad rfl ⟨by decide, by decide⟩ rfl rfl ⟨by decide, by decide⟩ dX12_lexicon_25 28 rfl rfl (Nat.le_of_ble_eq_true rfl) ?_
  refine x_if_eq C dX12_lexicon_28 31 rfl 33 rfl h (fun h => ?_) (fun h => ?_)
  · refine x_aload_n C dX12_lexicon_33 34 rfl 0 rfl ?_
    refine x_iload_n C dX12_lexicon_34 35 rfl 1 rfl ?_
    obtain ⟨a35, hq, h⟩ := xbv_some h
    refine x_callVv C 0 (c_X12_starts C.2.2.2.2.2.2.1 hq) lm0 EM_0 rfl wml_X12_253 wq_X12_starts rfl ⟨by decide, by decide⟩ rfl rfl ⟨by decide, by decide⟩ dX12_lexicon_35 38 rfl rfl (Nat.le_of_ble_eq_true rfl) ?_
    refine x_aload_n C dX12_lexicon_38 39 rfl 0 rfl ?_
    refine x_get C inX12 0 lm0 EM_0 rfl 10 (by decide) dX12_lexicon_39 42 rfl wmf_X12_257 rfl ?_
    refine x_istore_n C dX12_lexicon_42 43 rfl (by decide) (fun v2_42 => [(2, .int v2_42), (0, .ref (ad 0)), (1, .int v1)]) (fun _ => rfl) h (fun v2_42 h => ?_)
    refine x_aload_n C dX12_lexicon_43 44 rfl 1 rfl ?_
    refine x_get C inX12 0 lm0 EM_0 rfl 10 (by decide) dX12_lexicon_44 47 rfl wmf_X12_257 rfl ?_
    refine x_istore_n C dX12_lexicon_47 48 rfl (by decide) (fun v3_47 => [(3, .int v3_47), (2, .int v2_42), (0, .ref (ad 0)), (1, .int v1)]) (fun _ => rfl) h (fun v3_47 h => ?_)
    exact x_sub [2, 1, 0] rfl (b_X12_lexicon_48 C  N h)
  · refine x_iconst C dX12_lexicon_31 32 rfl 0 rfl ?_
    exact x_iret C rfl dX12_lexicon_32 h
theorem c_X12_lexicon {l : Launch} {D : va_G} {ca : Nat → ClassId} {ad : Nat → Nat} (hI : xInj ad NCM) {N : Nat} {ah : AH} {p1 : Int32} {r : Int32} {a : AH} (h : F_X12_lexicon N ah p1 = some (r, a)) : xMi l yX12_lexicon cX12_lexicon 5 (some .int) rm_X12_lexicon D vwCl (tysM ca) (EM ad ca) NCM ad [.ref (ad 0), .int p1] ah (r, a) := by
  refine x_meti (by decide) (Nat.le_of_ble_eq_true rfl) hI EM_loc ?_
  intro p e s m args below meth c C
  unfold F_X12_lexicon at h
  refine x_aload_n C dX12_lexicon_0 1 rfl 0 rfl ?_
  refine x_iconst C dX12_lexicon_1 2 rfl 0 rfl ?_
  refine x_put C inX12 0 lm0 EM_0 rfl 0 (by decide) tyX12_ok nmX12 dX12_lexicon_2 5 rfl wmf_X12_180 rfl rfl rfl (Nat.le_of_ble_eq_true rfl) EQ_0_0 h (fun a2 h => ?_)
  refine x_aload_n C dX12_lexicon_5 6 rfl 0 rfl ?_
  refine x_iload_n C dX12_lexicon_6 7 rfl 1 rfl ?_
  refine x_iconst C dX12_lexicon_7 8 rfl 0 rfl ?_
  refine x_aload_n C dX12_lexicon_8 9 rfl 0 rfl ?_
  refine x_get C inX12 0 lm0 EM_0 rfl 2 (by decide) dX12_lexicon_9 12 rfl wmf_X12_183 rfl ?_
  obtain ⟨r12, a12, hq, h⟩ := xb_some h
  refine x_callSi C (c_X12_in C.2.2.2.2.2.2.1 hq) wml_X12_223 wq_X12_in rfl ⟨by decide, by decide⟩ rfl rfl ⟨by decide, by decide⟩ dX12_lexicon_12 15 rfl rfl (Nat.le_of_ble_eq_true rfl) ?_
  refine x_if_ne C dX12_lexicon_15 18 rfl 22 rfl h (fun h => ?_) (fun h => ?_)
  · refine x_iconst C dX12_lexicon_22 23 rfl 0 rfl ?_
    exact b_X12_lexicon_23 C  h
  · refine x_iconst C dX12_lexicon_18 19 rfl 1 rfl ?_
    refine x_goto C dX12_lexicon_19 23 rfl ?_
    exact b_X12_lexicon_23 C  h
abbrev rm_X12_plants : Room := { frames := 2, cells := 0, slots := 0, locals := 43 }
theorem wq_X12_plants : xcV RX12 yX12_plants cX12_plants 1 none 0 := ⟨wmi_X12_plants, wms_X12_plants, wmn_X12, wmc_X12_plants, by decide, by decide, by decide +kernel⟩
def F_X12_plants (N : Nat) (ah : AH) : Option AH := xlet (xu ah 0 15 1) (fun a2 => xlet (xu a2 8 0 ((-1))) (fun a11 => xlet (xu a11 9 0 0) (fun a18 => xlet (xu a18 10 0 ((-1))) (fun a25 => xbv (F_X12_weighs N a25) (fun a27 => some a27)))))
theorem c_X12_plants {l : Launch} {D : va_G} {ca : Nat → ClassId} {ad : Nat → Nat} (hI : xInj ad NCM) {N : Nat} {ah : AH} {a : AH} (h : F_X12_plants N ah = some a) : xMv l yX12_plants cX12_plants 1 rm_X12_plants D vwCl (tysM ca) (EM ad ca) NCM ad [.ref (ad 0)] ah a := by
  refine x_metv (by decide) (Nat.le_of_ble_eq_true rfl) hI EM_loc ?_
  intro p e s m args below meth c C
  unfold F_X12_plants at h
  refine x_aload_n C dX12_plants_0 1 rfl 0 rfl ?_
  refine x_iconst C dX12_plants_1 2 rfl 1 rfl ?_
  refine x_put C inX12 0 lm0 EM_0 rfl 15 (by decide) tyX12_ok nmX12 dX12_plants_2 5 rfl wmf_X12_37 rfl rfl rfl (Nat.le_of_ble_eq_true rfl) EQ_0_15 h (fun a2 h => ?_)
  refine x_aload_n C dX12_plants_5 6 rfl 0 rfl ?_
  refine x_get C inX12 0 lm0 EM_0 rfl 16 (by decide) dX12_plants_6 9 rfl wmf_X12_40 rfl ?_
  refine x_iconst C dX12_plants_9 10 rfl 0 rfl ?_
  refine x_iconst C dX12_plants_10 11 rfl (-1) rfl ?_
  refine x_iastK C 8 lm8 (fun _ => EM_8) 0 rfl dX12_plants_11 12 rfl (by decide) 0 (by decide) h (fun a11 h => ?_)
  refine x_aload_n C dX12_plants_12 13 rfl 0 rfl ?_
  refine x_get C inX12 0 lm0 EM_0 rfl 17 (by decide) dX12_plants_13 16 rfl wmf_X12_43 rfl ?_
  refine x_iconst C dX12_plants_16 17 rfl 0 rfl ?_
  refine x_iconst C dX12_plants_17 18 rfl 0 rfl ?_
  refine x_iastK C 9 lm9 (fun _ => EM_9) 0 rfl dX12_plants_18 19 rfl (by decide) 0 (by decide) h (fun a18 h => ?_)
  refine x_aload_n C dX12_plants_19 20 rfl 0 rfl ?_
  refine x_get C inX12 0 lm0 EM_0 rfl 18 (by decide) dX12_plants_20 23 rfl wmf_X12_46 rfl ?_
  refine x_iconst C dX12_plants_23 24 rfl 0 rfl ?_
  refine x_iconst C dX12_plants_24 25 rfl (-1) rfl ?_
  refine x_iastK C 10 lm10 (fun _ => EM_10) 0 rfl dX12_plants_25 26 rfl (by decide) 0 (by decide) h (fun a25 h => ?_)
  refine x_aload_n C dX12_plants_26 27 rfl 0 rfl ?_
  obtain ⟨a27, hq, h⟩ := xbv_some h
  refine x_callVv C 0 (c_X12_weighs C.2.2.2.2.2.2.1 hq) lm0 EM_0 rfl wml_X12_269 wq_X12_weighs rfl ⟨by decide, by decide⟩ rfl rfl ⟨by decide, by decide⟩ dX12_plants_27 30 rfl rfl (Nat.le_of_ble_eq_true rfl) ?_
  exact x_vret C rfl dX12_plants_30 h
abbrev rm_X12_forget : Room := { frames := 3, cells := 0, slots := 0, locals := 63 }
theorem wq_X12_forget : xcV RX12 yX12_forget cX12_forget 2 (some .int) 0 := ⟨wmi_X12_forget, wms_X12_forget, wmn_X12, wmc_X12_forget, by decide, by decide, by decide +kernel⟩
def F_X12_forget (N : Nat) (ah : AH) : Option (Int32 × AH) := xlet (xu ah 0 0 0) (fun a2 => xlet (a2 0 10) (fun v1_9 => xlet (xu a2 0 10 0) (fun a12 => xlet (xu a12 22 0 0) (fun a21 => xbv (F_X12_plants N a21) (fun a23 => some (v1_9, a23))))))
theorem c_X12_forget {l : Launch} {D : va_G} {ca : Nat → ClassId} {ad : Nat → Nat} (hI : xInj ad NCM) {N : Nat} {ah : AH} {r : Int32} {a : AH} (h : F_X12_forget N ah = some (r, a)) : xMi l yX12_forget cX12_forget 2 (some .int) rm_X12_forget D vwCl (tysM ca) (EM ad ca) NCM ad [.ref (ad 0)] ah (r, a) := by
  refine x_meti (by decide) (Nat.le_of_ble_eq_true rfl) hI EM_loc ?_
  intro p e s m args below meth c C
  unfold F_X12_forget at h
  refine x_aload_n C dX12_forget_0 1 rfl 0 rfl ?_
  refine x_iconst C dX12_forget_1 2 rfl 0 rfl ?_
  refine x_put C inX12 0 lm0 EM_0 rfl 0 (by decide) tyX12_ok nmX12 dX12_forget_2 5 rfl wmf_X12_180 rfl rfl rfl (Nat.le_of_ble_eq_true rfl) EQ_0_0 h (fun a2 h => ?_)
  refine x_aload_n C dX12_forget_5 6 rfl 0 rfl ?_
  refine x_get C inX12 0 lm0 EM_0 rfl 10 (by decide) dX12_forget_6 9 rfl wmf_X12_257 rfl ?_
  refine x_istore_n C dX12_forget_9 10 rfl (by decide) (fun v1_9 => [(1, .int v1_9), (0, .ref (ad 0))]) (fun _ => rfl) h (fun v1_9 h => ?_)
  refine x_aload_n C dX12_forget_10 11 rfl 1 rfl ?_
  refine x_iconst C dX12_forget_11 12 rfl 0 rfl ?_
  refine x_put C inX12 0 lm0 EM_0 rfl 10 (by decide) tyX12_ok nmX12 dX12_forget_12 15 rfl wmf_X12_257 rfl rfl rfl (Nat.le_of_ble_eq_true rfl) EQ_0_10 h (fun a12 h => ?_)
  refine x_aload_n C dX12_forget_15 16 rfl 1 rfl ?_
  refine x_get C inX12 0 lm0 EM_0 rfl 31 (by decide) dX12_forget_16 19 rfl wmf_X12_86 rfl ?_
  refine x_iconst C dX12_forget_19 20 rfl 0 rfl ?_
  refine x_iconst C dX12_forget_20 21 rfl 0 rfl ?_
  refine x_iastK C 22 lm22 (fun _ => EM_22) 0 rfl dX12_forget_21 22 rfl (by decide) 0 (by decide) h (fun a21 h => ?_)
  refine x_aload_n C dX12_forget_22 23 rfl 1 rfl ?_
  obtain ⟨a23, hq, h⟩ := xbv_some h
  refine x_callVv C 0 (c_X12_plants C.2.2.2.2.2.2.1 hq) lm0 EM_0 rfl wml_X12_177 wq_X12_plants rfl ⟨by decide, by decide⟩ rfl rfl ⟨by decide, by decide⟩ dX12_forget_23 26 rfl rfl (Nat.le_of_ble_eq_true rfl) ?_
  refine x_iload_n C dX12_forget_26 27 rfl 0 rfl ?_
  exact x_iret C rfl dX12_forget_27 h
abbrev rm_X12_wordHere : Room := { frames := 3, cells := 0, slots := 0, locals := 61 }
theorem wq_X12_wordHere : xcV RX12 yX12_wordHere cX12_wordHere 4 (some .int) 0 := ⟨wmi_X12_wordHere, wms_X12_wordHere, wmn_X12, wmc_X12_wordHere, by decide, by decide, by decide +kernel⟩
def F_X12_wordHere_123 (N : Nat) (ah : AH) (v1 : Int32) (v3 : Int32) : Option (Int32 × AH) := if v3 = (ah 0 10) then xbv (F_X12_wrong N ah 5 v1) (fun a134 => some (v3, a134)) else some (v3, ah)
def F_X12_wordHere_99 (N : Nat) : Nat → AH → Int32 → Int32 → Option (Int32 × AH)
  | 0, _, _, _ => none
  | n + 1, ah, v1, v3 => if (ah 0 10) ≤ v3 then F_X12_wordHere_123 N ah v1 v3 else xb (F_X12_areSame N ah v3 60) (fun r111 a111 => if r111 = 0 then xlet (v3 + 1) (fun v3_117 => F_X12_wordHere_99 N n a111 v1 v3_117) else F_X12_wordHere_123 N a111 v1 v3)
def F_X12_wordHere_73 (N : Nat) (k35 : AH → Int32 → Int32 → Option (Int32 × AH)) (ah : AH) (v1 : Int32) (v2 : Int32) : Option (Int32 × AH) := xlet (v2 + 1) (fun v2_73 => xlet (xu ah 0 4 ((ah 0 4) + 1)) (fun a83 => k35 a83 v1 v2_73))
def F_X12_wordHere_54 (N : Nat) (k35 : AH → Int32 → Int32 → Option (Int32 × AH)) (ah : AH) (v1 : Int32) (v2 : Int32) : Option (Int32 × AH) := if 12 ≤ v2 then F_X12_wordHere_73 N k35 ah v1 v2 else xlet (52 + 60) (fun x66 => xb (F_X12_here N ah) (fun r69 a69 => xg v2 12 (xlet (xu a69 x66 (Int32.toNatClampNeg v2) r69) (fun a72 => F_X12_wordHere_73 N k35 a72 v1 v2))))
def F_X12_wordHere_35 (N : Nat) : Nat → AH → Int32 → Int32 → Option (Int32 × AH)
  | 0, _, _, _ => none
  | n + 1, ah, v1, v2 => xb (F_X12_here N ah) (fun r36 a36 => xb (F_X12_isSmall N a36 r36) (fun r39 a39 => if r39 = 0 then xb (F_X12_here N a39) (fun r46 a46 => if r46 = 45 then F_X12_wordHere_54 N (F_X12_wordHere_35 N n) a46 v1 v2 else xlet (xu a46 5 60 v2) (fun a96 => xlet 0 (fun v3_98 => F_X12_wordHere_99 N N a96 v1 v3_98))) else F_X12_wordHere_54 N (F_X12_wordHere_35 N n) a39 v1 v2))
def F_X12_wordHere_19 (N : Nat) (ah : AH) : Option (Int32 × AH) := xb (F_X12_fine N ah) (fun r20 a20 => if r20 = 0 then some ((-1), a20) else xlet (a20 0 4) (fun v1_32 => xlet 0 (fun v2_34 => F_X12_wordHere_35 N N a20 v1_32 v2_34)))
def F_X12_wordHere (N : Nat) (ah : AH) : Option (Int32 × AH) := xb (F_X12_blanks N ah) (fun r1 a1 => xb (F_X12_isSmall N a1 r1) (fun r4 a4 => if r4 = 0 then xbv (F_X12_wrong N a4 1 (a4 0 4)) (fun a16 => F_X12_wordHere_19 N a16) else F_X12_wordHere_19 N a4))
theorem b_X12_wordHere_123 (C : XC p l s m args meth c cX12_wordHere 4 (some .int) RX12 D vwCl (tysM ca) (EM ad ca) NCM ad) {N : Nat} {o : (Int32 × AH)} {ah : AH} {v1 : Int32} {v3 : Int32} (h : F_X12_wordHere_123 N ah v1 v3 = some o) : XW p l e rm_X12_wordHere s m args below meth c 4 0 (xQi below args s D vwCl (tysM ca) (EM ad ca) NCM ad o) D vwCl (EM ad ca) NCM ad ah 123 [(0, .ref (ad 0)), (1, .int v1), (3, .int v3)] [] := by
  unfold F_X12_wordHere_123 at h
  refine x_iload_n C dX12_wordHere_123 124 rfl 2 rfl ?_
  refine x_aload_n C dX12_wordHere_124 125 rfl 0 rfl ?_
  refine x_get C inX12 0 lm0 EM_0 rfl 10 (by decide) dX12_wordHere_125 128 rfl wmf_X12_257 rfl ?_
  refine x_icmp_ne C dX12_wordHere_128 131 rfl 137 rfl h (fun h => ?_) (fun h => ?_)
  · refine x_iload_n C dX12_wordHere_137 138 rfl 2 rfl ?_
    exact x_iret C rfl dX12_wordHere_138 h
  · refine x_aload_n C dX12_wordHere_131 132 rfl 0 rfl ?_
    refine x_iconst C dX12_wordHere_132 133 rfl 5 rfl ?_
    refine x_iload_n C dX12_wordHere_133 134 rfl 1 rfl ?_
    obtain ⟨a134, hq, h⟩ := xbv_some h
    refine x_callVv C 0 (c_X12_wrong C.2.2.2.2.2.2.1 hq) lm0 EM_0 rfl wml_X12_214 wq_X12_wrong rfl ⟨by decide, by decide⟩ rfl rfl ⟨by decide, by decide⟩ dX12_wordHere_134 137 rfl rfl (Nat.le_of_ble_eq_true rfl) ?_
    refine x_iload_n C dX12_wordHere_137 138 rfl 2 rfl ?_
    exact x_iret C rfl dX12_wordHere_138 h
theorem b_X12_wordHere_99 (C : XC p l s m args meth c cX12_wordHere 4 (some .int) RX12 D vwCl (tysM ca) (EM ad ca) NCM ad) {N : Nat} {o : (Int32 × AH)} : ∀ (n : Nat) {ah : AH} {v1 : Int32} {v3 : Int32}, F_X12_wordHere_99 N n ah v1 v3 = some o → XW p l e rm_X12_wordHere s m args below meth c 4 0 (xQi below args s D vwCl (tysM ca) (EM ad ca) NCM ad o) D vwCl (EM ad ca) NCM ad ah 99 [(0, .ref (ad 0)), (1, .int v1), (3, .int v3)] [] := by
  intro n
  induction n with
  | zero => intro ah v1 v3 h; unfold F_X12_wordHere_99 at h; cases h
  | succ n ih =>
    intro ah v1 v3 h
    unfold F_X12_wordHere_99 at h
    refine x_iload_n C dX12_wordHere_99 100 rfl 2 rfl ?_
    refine x_aload_n C dX12_wordHere_100 101 rfl 0 rfl ?_
    refine x_get C inX12 0 lm0 EM_0 rfl 10 (by decide) dX12_wordHere_101 104 rfl wmf_X12_257 rfl ?_
    refine x_icmp_ge C dX12_wordHere_104 107 rfl 123 rfl h (fun h => ?_) (fun h => ?_)
    · exact b_X12_wordHere_123 C  h
    · refine x_aload_n C dX12_wordHere_107 108 rfl 0 rfl ?_
      refine x_iload_n C dX12_wordHere_108 109 rfl 2 rfl ?_
      refine x_bipush C dX12_wordHere_109 111 rfl 60 rfl ?_
      obtain ⟨r111, a111, hq, h⟩ := xb_some h
      refine x_callVi C 0 (c_X12_areSame C.2.2.2.2.2.2.1 hq) lm0 EM_0 rfl wml_X12_245 wq_X12_areSame rfl ⟨by decide, by decide⟩ rfl rfl ⟨by decide, by decide⟩ dX12_wordHere_111 114 rfl rfl (Nat.le_of_ble_eq_true rfl) ?_
      refine x_if_ne C dX12_wordHere_114 117 rfl 123 rfl h (fun h => ?_) (fun h => ?_)
      · exact b_X12_wordHere_123 C  h
      · refine x_iinc C dX12_wordHere_117 120 rfl 2 rfl (d := 1) rfl (by decide) (fun v3_117 => [(3, .int v3_117), (0, .ref (ad 0)), (1, .int v1)]) (fun _ => rfl) h (fun v3_117 h => ?_)
        refine x_goto C dX12_wordHere_120 99 rfl ?_
        exact x_sub [1, 2, 0] rfl (ih h)
theorem b_X12_wordHere_73 (C : XC p l s m args meth c cX12_wordHere 4 (some .int) RX12 D vwCl (tysM ca) (EM ad ca) NCM ad) {N : Nat} {o : (Int32 × AH)} {k35 : AH → Int32 → Int32 → Option (Int32 × AH)} (hk35 : ∀ (ah : AH) (v1 : Int32) (v2 : Int32), k35 ah v1 v2 = some o → XW p l e rm_X12_wordHere s m args below meth c 4 0 (xQi below args s D vwCl (tysM ca) (EM ad ca) NCM ad o) D vwCl (EM ad ca) NCM ad ah 35 [(0, .ref (ad 0)), (1, .int v1), (2, .int v2)] []) {ah : AH} {v1 : Int32} {v2 : Int32} (h : F_X12_wordHere_73 N k35 ah v1 v2 = some o) : XW p l e rm_X12_wordHere s m args below meth c 4 0 (xQi below args s D vwCl (tysM ca) (EM ad ca) NCM ad o) D vwCl (EM ad ca) NCM ad ah 73 [(0, .ref (ad 0)), (1, .int v1), (2, .int v2)] [] := by
  unfold F_X12_wordHere_73 at h
  refine x_iinc C dX12_wordHere_73 76 rfl 2 rfl (d := 1) rfl (by decide) (fun v2_73 => [(2, .int v2_73), (0, .ref (ad 0)), (1, .int v1)]) (fun _ => rfl) h (fun v2_73 h => ?_)
  refine x_aload_n C dX12_wordHere_76 77 rfl 1 rfl ?_
  refine x_dup C dX12_wordHere_77 78 rfl rfl ?_
  refine x_get C inX12 0 lm0 EM_0 rfl 4 (by decide) dX12_wordHere_78 81 rfl wmf_X12_189 rfl ?_
  refine x_iconst C dX12_wordHere_81 82 rfl 1 rfl ?_
  refine x_iadd C dX12_wordHere_82 83 rfl ?_
  refine x_put C inX12 0 lm0 EM_0 rfl 4 (by decide) tyX12_ok nmX12 dX12_wordHere_83 86 rfl wmf_X12_189 rfl rfl rfl (Nat.le_of_ble_eq_true rfl) EQ_0_4 h (fun a83 h => ?_)
  refine x_goto C dX12_wordHere_86 35 rfl ?_
  exact x_sub [1, 2, 0] rfl (hk35 _ _ _ h)
theorem b_X12_wordHere_54 (C : XC p l s m args meth c cX12_wordHere 4 (some .int) RX12 D vwCl (tysM ca) (EM ad ca) NCM ad) {N : Nat} {o : (Int32 × AH)} {k35 : AH → Int32 → Int32 → Option (Int32 × AH)} (hk35 : ∀ (ah : AH) (v1 : Int32) (v2 : Int32), k35 ah v1 v2 = some o → XW p l e rm_X12_wordHere s m args below meth c 4 0 (xQi below args s D vwCl (tysM ca) (EM ad ca) NCM ad o) D vwCl (EM ad ca) NCM ad ah 35 [(0, .ref (ad 0)), (1, .int v1), (2, .int v2)] []) {ah : AH} {v1 : Int32} {v2 : Int32} (h : F_X12_wordHere_54 N k35 ah v1 v2 = some o) : XW p l e rm_X12_wordHere s m args below meth c 4 0 (xQi below args s D vwCl (tysM ca) (EM ad ca) NCM ad o) D vwCl (EM ad ca) NCM ad ah 54 [(0, .ref (ad 0)), (1, .int v1), (2, .int v2)] [] := by
  unfold F_X12_wordHere_54 at h
  refine x_iload_n C dX12_wordHere_54 55 rfl 2 rfl ?_
  refine x_bipush C dX12_wordHere_55 57 rfl 12 rfl ?_
  refine x_icmp_ge C dX12_wordHere_57 60 rfl 73 rfl h (fun h => ?_) (fun h => ?_)
  · exact b_X12_wordHere_73 C hk35 h
  · refine x_aload_n C dX12_wordHere_60 61 rfl 0 rfl ?_
    refine x_get C inX12 0 lm0 EM_0 rfl 11 (by decide) dX12_wordHere_61 64 rfl wmf_X12_25 rfl ?_
    refine x_bipush C dX12_wordHere_64 66 rfl 60 rfl ?_
    refine x_aaldLK C (4) lm4 EM_4 2 rfl rfl (by decide) 60 (by decide) dX12_wordHere_66 67 rfl (52 + 60) rfl h (fun x66 ex66 h => ?_)
    have hx66 : mI x66 12 := ex66 ▸ mI_sign (show 60 < 61 by decide)
    refine x_iload_n C dX12_wordHere_67 68 rfl 2 rfl ?_
    refine x_aload_n C dX12_wordHere_68 69 rfl 0 rfl ?_
    obtain ⟨r69, a69, hq, h⟩ := xb_some h
    refine x_callVi C 0 (c_X12_here C.2.2.2.2.2.2.1 hq) lm0 EM_0 rfl wml_X12_196 wq_X12_here rfl ⟨by decide, by decide⟩ rfl rfl ⟨by decide, by decide⟩ dX12_wordHere_69 72 rfl rfl (Nat.le_of_ble_eq_true rfl) ?_
    refine x_iast C x66 hx66.1 (hx66.2 _ _) 0 rfl dX12_wordHere_72 73 rfl h (fun a72 h => ?_)
    exact b_X12_wordHere_73 C hk35 h
theorem b_X12_wordHere_35 (C : XC p l s m args meth c cX12_wordHere 4 (some .int) RX12 D vwCl (tysM ca) (EM ad ca) NCM ad) {N : Nat} {o : (Int32 × AH)} : ∀ (n : Nat) {ah : AH} {v1 : Int32} {v2 : Int32}, F_X12_wordHere_35 N n ah v1 v2 = some o → XW p l e rm_X12_wordHere s m args below meth c 4 0 (xQi below args s D vwCl (tysM ca) (EM ad ca) NCM ad o) D vwCl (EM ad ca) NCM ad ah 35 [(0, .ref (ad 0)), (1, .int v1), (2, .int v2)] [] := by
  intro n
  induction n with
  | zero => intro ah v1 v2 h; unfold F_X12_wordHere_35 at h; cases h
  | succ n ih =>
    intro ah v1 v2 h
    unfold F_X12_wordHere_35 at h
    refine x_aload_n C dX12_wordHere_35 36 rfl 0 rfl ?_
    obtain ⟨r36, a36, hq, h⟩ := xb_some h
    refine x_callVi C 0 (c_X12_here C.2.2.2.2.2.2.1 hq) lm0 EM_0 rfl wml_X12_196 wq_X12_here rfl ⟨by decide, by decide⟩ rfl rfl ⟨by decide, by decide⟩ dX12_wordHere_36 39 rfl rfl (Nat.le_of_ble_eq_true rfl) ?_
    obtain ⟨r39, a39, hq, h⟩ := xb_some h
    refine x_callSi C (c_X12_isSmall C.2.2.2.2.2.2.1 hq) wml_X12_230 wq_X12_isSmall rfl ⟨by decide, by decide⟩ rfl rfl ⟨by decide, by decide⟩ dX12_wordHere_39 42 rfl rfl (Nat.le_of_ble_eq_true rfl) ?_
    refine x_if_ne C dX12_wordHere_42 45 rfl 54 rfl h (fun h => ?_) (fun h => ?_)
    · exact b_X12_wordHere_54 C (fun _ _ _ h => ih h) h
    · refine x_aload_n C dX12_wordHere_45 46 rfl 0 rfl ?_
      obtain ⟨r46, a46, hq, h⟩ := xb_some h
      refine x_callVi C 0 (c_X12_here C.2.2.2.2.2.2.1 hq) lm0 EM_0 rfl wml_X12_196 wq_X12_here rfl ⟨by decide, by decide⟩ rfl rfl ⟨by decide, by decide⟩ dX12_wordHere_46 49 rfl rfl (Nat.le_of_ble_eq_true rfl) ?_
      refine x_bipush C dX12_wordHere_49 51 rfl 45 rfl ?_
      refine x_icmp_ne C dX12_wordHere_51 54 rfl 89 rfl h (fun h => ?_) (fun h => ?_)
      · refine x_aload_n C dX12_wordHere_89 90 rfl 0 rfl ?_
        refine x_get C inX12 0 lm0 EM_0 rfl 12 (by decide) dX12_wordHere_90 93 rfl wmf_X12_28 rfl ?_
        refine x_bipush C dX12_wordHere_93 95 rfl 60 rfl ?_
        refine x_iload_n C dX12_wordHere_95 96 rfl 2 rfl ?_
        refine x_iastK C 5 lm5 (fun _ => EM_5) 0 rfl dX12_wordHere_96 97 rfl (by decide) 60 (by decide) h (fun a96 h => ?_)
        refine x_iconst C dX12_wordHere_97 98 rfl 0 rfl ?_
        refine x_istore_n C dX12_wordHere_98 99 rfl (by decide) (fun v3_98 => [(3, .int v3_98), (0, .ref (ad 0)), (1, .int v1), (2, .int v2)]) (fun _ => rfl) h (fun v3_98 h => ?_)
        exact x_sub [1, 2, 0] rfl (b_X12_wordHere_99 C  N h)
      · exact b_X12_wordHere_54 C (fun _ _ _ h => ih h) h
theorem b_X12_wordHere_19 (C : XC p l s m args meth c cX12_wordHere 4 (some .int) RX12 D vwCl (tysM ca) (EM ad ca) NCM ad) {N : Nat} {o : (Int32 × AH)} {ah : AH} (h : F_X12_wordHere_19 N ah = some o) : XW p l e rm_X12_wordHere s m args below meth c 4 0 (xQi below args s D vwCl (tysM ca) (EM ad ca) NCM ad o) D vwCl (EM ad ca) NCM ad ah 19 [(0, .ref (ad 0))] [] := by
  unfold F_X12_wordHere_19 at h
  refine x_aload_n C dX12_wordHere_19 20 rfl 0 rfl ?_
  obtain ⟨r20, a20, hq, h⟩ := xb_some h
  refine x_callVi C 0 (c_X12_fine C.2.2.2.2.2.2.1 hq) lm0 EM_0 rfl wml_X12_206 wq_X12_fine rfl ⟨by decide, by decide⟩ rfl rfl ⟨by decide, by decide⟩ dX12_wordHere_20 23 rfl rfl (Nat.le_of_ble_eq_true rfl) ?_
  refine x_if_ne C dX12_wordHere_23 26 rfl 28 rfl h (fun h => ?_) (fun h => ?_)
  · refine x_aload_n C dX12_wordHere_28 29 rfl 0 rfl ?_
    refine x_get C inX12 0 lm0 EM_0 rfl 4 (by decide) dX12_wordHere_29 32 rfl wmf_X12_189 rfl ?_
    refine x_istore_n C dX12_wordHere_32 33 rfl (by decide) (fun v1_32 => [(1, .int v1_32), (0, .ref (ad 0))]) (fun _ => rfl) h (fun v1_32 h => ?_)
    refine x_iconst C dX12_wordHere_33 34 rfl 0 rfl ?_
    refine x_istore_n C dX12_wordHere_34 35 rfl (by decide) (fun v2_34 => [(2, .int v2_34), (1, .int v1_32), (0, .ref (ad 0))]) (fun _ => rfl) h (fun v2_34 h => ?_)
    exact x_sub [2, 1, 0] rfl (b_X12_wordHere_35 C  N h)
  · refine x_iconst C dX12_wordHere_26 27 rfl (-1) rfl ?_
    exact x_iret C rfl dX12_wordHere_27 h
theorem c_X12_wordHere {l : Launch} {D : va_G} {ca : Nat → ClassId} {ad : Nat → Nat} (hI : xInj ad NCM) {N : Nat} {ah : AH} {r : Int32} {a : AH} (h : F_X12_wordHere N ah = some (r, a)) : xMi l yX12_wordHere cX12_wordHere 4 (some .int) rm_X12_wordHere D vwCl (tysM ca) (EM ad ca) NCM ad [.ref (ad 0)] ah (r, a) := by
  refine x_meti (by decide) (Nat.le_of_ble_eq_true rfl) hI EM_loc ?_
  intro p e s m args below meth c C
  unfold F_X12_wordHere at h
  refine x_aload_n C dX12_wordHere_0 1 rfl 0 rfl ?_
  obtain ⟨r1, a1, hq, h⟩ := xb_some h
  refine x_callVi C 0 (c_X12_blanks C.2.2.2.2.2.2.1 hq) lm0 EM_0 rfl wml_X12_227 wq_X12_blanks rfl ⟨by decide, by decide⟩ rfl rfl ⟨by decide, by decide⟩ dX12_wordHere_1 4 rfl rfl (Nat.le_of_ble_eq_true rfl) ?_
  obtain ⟨r4, a4, hq, h⟩ := xb_some h
  refine x_callSi C (c_X12_isSmall C.2.2.2.2.2.2.1 hq) wml_X12_230 wq_X12_isSmall rfl ⟨by decide, by decide⟩ rfl rfl ⟨by decide, by decide⟩ dX12_wordHere_4 7 rfl rfl (Nat.le_of_ble_eq_true rfl) ?_
  refine x_if_ne C dX12_wordHere_7 10 rfl 19 rfl h (fun h => ?_) (fun h => ?_)
  · exact b_X12_wordHere_19 C  h
  · refine x_aload_n C dX12_wordHere_10 11 rfl 0 rfl ?_
    refine x_iconst C dX12_wordHere_11 12 rfl 1 rfl ?_
    refine x_aload_n C dX12_wordHere_12 13 rfl 0 rfl ?_
    refine x_get C inX12 0 lm0 EM_0 rfl 4 (by decide) dX12_wordHere_13 16 rfl wmf_X12_189 rfl ?_
    obtain ⟨a16, hq, h⟩ := xbv_some h
    refine x_callVv C 0 (c_X12_wrong C.2.2.2.2.2.2.1 hq) lm0 EM_0 rfl wml_X12_214 wq_X12_wrong rfl ⟨by decide, by decide⟩ rfl rfl ⟨by decide, by decide⟩ dX12_wordHere_16 19 rfl rfl (Nat.le_of_ble_eq_true rfl) ?_
    exact b_X12_wordHere_19 C  h
abbrev rm_X12_readsFollow : Room := { frames := 4, cells := 0, slots := 0, locals := 84 }
theorem wq_X12_readsFollow : xcV RX12 yX12_readsFollow cX12_readsFollow 2 none 1 := ⟨wmi_X12_readsFollow, wms_X12_readsFollow, wmn_X12, wmc_X12_readsFollow, by decide, by decide, by decide +kernel⟩
def F_X12_readsFollow_49 (N : Nat) (ah : AH) (x1 : Nat) (y0 : Nat) (s1 : Int32) (s2 : Int32) : Option AH := xg s1 3 (xlet (xu ah y0 (Int32.toNatClampNeg s1) s2) (fun a49 => xb (F_X12_blanks N a49) (fun r51 a51 => xb (F_X12_number N a51 0 99) (fun r61 a61 => xlet (xu a61 x1 2 r61) (fun a64 => xbv (F_X12_closes N a64) (fun a66 => some a66))))))
def F_X12_readsFollow_32 (N : Nat) (ah : AH) (x1 : Nat) : Option AH := xb (F_X12_fine N ah) (fun r35 a35 => if r35 = 0 then F_X12_readsFollow_49 N a35 x1 x1 1 ((-1)) else xb (F_X12_wordHere N a35) (fun r42 a42 => F_X12_readsFollow_49 N a42 x1 x1 1 r42))
def F_X12_readsFollow (N : Nat) (ah : AH) (x1 : Nat) : Option AH := xb (F_X12_wordHere N ah) (fun r3 a3 => xlet (xu a3 x1 0 r3) (fun a6 => xb (F_X12_fine N a6) (fun r8 a8 => if r8 = 0 then F_X12_readsFollow_32 N a8 x1 else xb (F_X12_here N a8) (fun r15 a15 => if r15 = 32 then F_X12_readsFollow_32 N a15 x1 else xbv (F_X12_wrong N a15 1 (a15 0 4)) (fun a29 => F_X12_readsFollow_32 N a29 x1)))))
theorem b_X12_readsFollow_49 (C : XC p l s m args meth c cX12_readsFollow 2 none RX12 D vwCl (tysM ca) (EM ad ca) NCM ad) {N : Nat} {o : AH} {ah : AH} {x1 : Nat} {y0 : Nat} {s1 : Int32} {s2 : Int32} (hx1 : mI x1 3) (hy0 : mI y0 3) (h : F_X12_readsFollow_49 N ah x1 y0 s1 s2 = some o) : XW p l e rm_X12_readsFollow s m args below meth c 2 0 (xQv below args s D vwCl (tysM ca) (EM ad ca) NCM ad o) D vwCl (EM ad ca) NCM ad ah 49 [(0, .ref (ad 0)), (1, .ref (ad x1))] [.int s2, .int s1, .ref (ad y0)] := by
  unfold F_X12_readsFollow_49 at h
  refine x_iast C y0 hy0.1 (hy0.2 _ _) 0 rfl dX12_readsFollow_49 50 rfl h (fun a49 h => ?_)
  refine x_aload_n C dX12_readsFollow_50 51 rfl 0 rfl ?_
  obtain ⟨r51, a51, hq, h⟩ := xb_some h
  refine x_callVi C 0 (c_X12_blanks C.2.2.2.2.2.2.1 hq) lm0 EM_0 rfl wml_X12_227 wq_X12_blanks rfl ⟨by decide, by decide⟩ rfl rfl ⟨by decide, by decide⟩ dX12_readsFollow_51 54 rfl rfl (Nat.le_of_ble_eq_true rfl) ?_
  refine x_pop C dX12_readsFollow_54 55 rfl rfl ?_
  refine x_aload_n C dX12_readsFollow_55 56 rfl 1 rfl ?_
  refine x_iconst C dX12_readsFollow_56 57 rfl 2 rfl ?_
  refine x_aload_n C dX12_readsFollow_57 58 rfl 0 rfl ?_
  refine x_iconst C dX12_readsFollow_58 59 rfl 0 rfl ?_
  refine x_bipush C dX12_readsFollow_59 61 rfl 99 rfl ?_
  obtain ⟨r61, a61, hq, h⟩ := xb_some h
  refine x_callVi C 0 (c_X12_number C.2.2.2.2.2.2.1 hq) lm0 EM_0 rfl wml_X12_239 wq_X12_number rfl ⟨by decide, by decide⟩ rfl rfl ⟨by decide, by decide⟩ dX12_readsFollow_61 64 rfl rfl (Nat.le_of_ble_eq_true rfl) ?_
  refine x_iastK C x1 hx1.1 (hx1.2 _ _) 0 rfl dX12_readsFollow_64 65 rfl (by decide) 2 (by decide) h (fun a64 h => ?_)
  refine x_aload_n C dX12_readsFollow_65 66 rfl 0 rfl ?_
  obtain ⟨a66, hq, h⟩ := xbv_some h
  refine x_callVv C 0 (c_X12_closes C.2.2.2.2.2.2.1 hq) lm0 EM_0 rfl wml_X12_242 wq_X12_closes rfl ⟨by decide, by decide⟩ rfl rfl ⟨by decide, by decide⟩ dX12_readsFollow_66 69 rfl rfl (Nat.le_of_ble_eq_true rfl) ?_
  exact x_vret C rfl dX12_readsFollow_69 h
theorem b_X12_readsFollow_32 (C : XC p l s m args meth c cX12_readsFollow 2 none RX12 D vwCl (tysM ca) (EM ad ca) NCM ad) {N : Nat} {o : AH} {ah : AH} {x1 : Nat} (hx1 : mI x1 3) (h : F_X12_readsFollow_32 N ah x1 = some o) : XW p l e rm_X12_readsFollow s m args below meth c 2 0 (xQv below args s D vwCl (tysM ca) (EM ad ca) NCM ad o) D vwCl (EM ad ca) NCM ad ah 32 [(0, .ref (ad 0)), (1, .ref (ad x1))] [] := by
  unfold F_X12_readsFollow_32 at h
  refine x_aload_n C dX12_readsFollow_32 33 rfl 1 rfl ?_
  refine x_iconst C dX12_readsFollow_33 34 rfl 1 rfl ?_
  refine x_aload_n C dX12_readsFollow_34 35 rfl 0 rfl ?_
  obtain ⟨r35, a35, hq, h⟩ := xb_some h
  refine x_callVi C 0 (c_X12_fine C.2.2.2.2.2.2.1 hq) lm0 EM_0 rfl wml_X12_206 wq_X12_fine rfl ⟨by decide, by decide⟩ rfl rfl ⟨by decide, by decide⟩ dX12_readsFollow_35 38 rfl rfl (Nat.le_of_ble_eq_true rfl) ?_
  refine x_if_eq C dX12_readsFollow_38 41 rfl 48 rfl h (fun h => ?_) (fun h => ?_)
  · refine x_iconst C dX12_readsFollow_48 49 rfl (-1) rfl ?_
    exact b_X12_readsFollow_49 C  hx1 hx1 h
  · refine x_aload_n C dX12_readsFollow_41 42 rfl 0 rfl ?_
    obtain ⟨r42, a42, hq, h⟩ := xb_some h
    refine x_callVi C 0 (c_X12_wordHere C.2.2.2.2.2.2.1 hq) lm0 EM_0 rfl wml_X12_275 wq_X12_wordHere rfl ⟨by decide, by decide⟩ rfl rfl ⟨by decide, by decide⟩ dX12_readsFollow_42 45 rfl rfl (Nat.le_of_ble_eq_true rfl) ?_
    refine x_goto C dX12_readsFollow_45 49 rfl ?_
    exact b_X12_readsFollow_49 C  hx1 hx1 h
theorem c_X12_readsFollow {l : Launch} {D : va_G} {ca : Nat → ClassId} {ad : Nat → Nat} (hI : xInj ad NCM) {N : Nat} {ah : AH} {x1 : Nat} (hx1 : mI x1 3) {a : AH} (h : F_X12_readsFollow N ah x1 = some a) : xMv l yX12_readsFollow cX12_readsFollow 2 rm_X12_readsFollow D vwCl (tysM ca) (EM ad ca) NCM ad [.ref (ad 0), .ref (ad x1)] ah a := by
  refine x_metv (by decide) (Nat.le_of_ble_eq_true rfl) hI EM_loc ?_
  intro p e s m args below meth c C
  unfold F_X12_readsFollow at h
  refine x_aload_n C dX12_readsFollow_0 1 rfl 1 rfl ?_
  refine x_iconst C dX12_readsFollow_1 2 rfl 0 rfl ?_
  refine x_aload_n C dX12_readsFollow_2 3 rfl 0 rfl ?_
  obtain ⟨r3, a3, hq, h⟩ := xb_some h
  refine x_callVi C 0 (c_X12_wordHere C.2.2.2.2.2.2.1 hq) lm0 EM_0 rfl wml_X12_275 wq_X12_wordHere rfl ⟨by decide, by decide⟩ rfl rfl ⟨by decide, by decide⟩ dX12_readsFollow_3 6 rfl rfl (Nat.le_of_ble_eq_true rfl) ?_
  refine x_iastK C x1 hx1.1 (hx1.2 _ _) 0 rfl dX12_readsFollow_6 7 rfl (by decide) 0 (by decide) h (fun a6 h => ?_)
  refine x_aload_n C dX12_readsFollow_7 8 rfl 0 rfl ?_
  obtain ⟨r8, a8, hq, h⟩ := xb_some h
  refine x_callVi C 0 (c_X12_fine C.2.2.2.2.2.2.1 hq) lm0 EM_0 rfl wml_X12_206 wq_X12_fine rfl ⟨by decide, by decide⟩ rfl rfl ⟨by decide, by decide⟩ dX12_readsFollow_8 11 rfl rfl (Nat.le_of_ble_eq_true rfl) ?_
  refine x_if_eq C dX12_readsFollow_11 14 rfl 32 rfl h (fun h => ?_) (fun h => ?_)
  · exact b_X12_readsFollow_32 C  hx1 h
  · refine x_aload_n C dX12_readsFollow_14 15 rfl 0 rfl ?_
    obtain ⟨r15, a15, hq, h⟩ := xb_some h
    refine x_callVi C 0 (c_X12_here C.2.2.2.2.2.2.1 hq) lm0 EM_0 rfl wml_X12_196 wq_X12_here rfl ⟨by decide, by decide⟩ rfl rfl ⟨by decide, by decide⟩ dX12_readsFollow_15 18 rfl rfl (Nat.le_of_ble_eq_true rfl) ?_
    refine x_bipush C dX12_readsFollow_18 20 rfl 32 rfl ?_
    refine x_icmp_eq C dX12_readsFollow_20 23 rfl 32 rfl h (fun h => ?_) (fun h => ?_)
    · exact b_X12_readsFollow_32 C  hx1 h
    · refine x_aload_n C dX12_readsFollow_23 24 rfl 0 rfl ?_
      refine x_iconst C dX12_readsFollow_24 25 rfl 1 rfl ?_
      refine x_aload_n C dX12_readsFollow_25 26 rfl 0 rfl ?_
      refine x_get C inX12 0 lm0 EM_0 rfl 4 (by decide) dX12_readsFollow_26 29 rfl wmf_X12_189 rfl ?_
      obtain ⟨a29, hq, h⟩ := xbv_some h
      refine x_callVv C 0 (c_X12_wrong C.2.2.2.2.2.2.1 hq) lm0 EM_0 rfl wml_X12_214 wq_X12_wrong rfl ⟨by decide, by decide⟩ rfl rfl ⟨by decide, by decide⟩ dX12_readsFollow_29 32 rfl rfl (Nat.le_of_ble_eq_true rfl) ?_
      exact b_X12_readsFollow_32 C  hx1 h
abbrev rm_X12_follows : Room := { frames := 5, cells := 0, slots := 0, locals := 105 }
theorem wq_X12_follows : xcV RX12 yX12_follows cX12_follows 4 (some .int) 1 := ⟨wmi_X12_follows, wms_X12_follows, wmn_X12, wmc_X12_follows, by decide, by decide, by decide +kernel⟩
def F_X12_follows_181 (N : Nat) (k169 : AH → Int32 → Option (Int32 × AH)) : Nat → AH → Int32 → Int32 → Option (Int32 × AH)
  | 0, _, _, _ => none
  | n + 1, ah, v2, v3 => if 3 ≤ v3 then xlet (v2 + 1) (fun v2_212 => k169 ah v2_212) else xg v2 60 (xlet (2207 + (0 * 60 + Int32.toNatClampNeg v2)) (fun x193 => xg v2 60 (xlet (2207 + (1 * 60 + Int32.toNatClampNeg v2)) (fun x202 => xg v3 3 (xg v3 3 (xlet (xu ah x193 (Int32.toNatClampNeg v3) (ah x202 (Int32.toNatClampNeg v3))) (fun a205 => xlet (v3 + 1) (fun v3_206 => F_X12_follows_181 N k169 n a205 v2 v3_206))))))))
def F_X12_follows_169 (N : Nat) : Nat → AH → Int32 → Option (Int32 × AH)
  | 0, _, _ => none
  | n + 1, ah, v2 => if (ah 22 0) ≤ v2 then xb (F_X12_ends N ah (ah 22 0)) (fun r225 a225 => some (r225, a225)) else xlet 0 (fun v3_180 => F_X12_follows_181 N (F_X12_follows_169 N n) N ah v2 v3_180)
def F_X12_follows_142 (N : Nat) (ah : AH) : Option (Int32 × AH) := xb (F_X12_fine N ah) (fun r143 a143 => if r143 = 0 then xb (F_X12_ends N a143 0) (fun r151 a151 => some (r151, a151)) else xlet (xu a143 22 0 (a143 22 1)) (fun a166 => xlet 0 (fun v2_168 => F_X12_follows_169 N N a166 v2_168)))
def F_X12_follows_102 (N : Nat) (k45 : AH → Option (Int32 × AH)) (ah : AH) : Option (Int32 × AH) := xb (F_X12_fine N ah) (fun r103 a103 => if r103 = 0 then F_X12_follows_142 N a103 else xg (a103 22 1) 60 (xlet (2207 + (1 * 60 + Int32.toNatClampNeg (a103 22 1))) (fun x125 => xbv (F_X12_readsFollow N a103 x125) (fun a126 => xlet (xu a126 22 1 ((a126 22 1) + 1)) (fun a138 => k45 a138)))))
def F_X12_follows_45 (N : Nat) : Nat → AH → Option (Int32 × AH)
  | 0, _ => none
  | n + 1, ah => xb (F_X12_fine N ah) (fun r46 a46 => if r46 = 0 then F_X12_follows_142 N a46 else xb (F_X12_blanks N a46) (fun r53 a53 => if r53 = ((-1)) then F_X12_follows_142 N a53 else xb (F_X12_here N a53) (fun r61 a61 => xb (F_X12_isSmall N a61 r61) (fun r64 a64 => if r64 = 0 then xbv (F_X12_wrong N a64 1 (a64 0 4)) (fun a76 => F_X12_follows_102 N (F_X12_follows_45 N n) a76) else if (a64 22 1) = 60 then xbv (F_X12_wrong N a64 3 (a64 0 4)) (fun a99 => F_X12_follows_102 N (F_X12_follows_45 N n) a99) else F_X12_follows_102 N (F_X12_follows_45 N n) a64))))
def F_X12_follows_23 (N : Nat) (ah : AH) (v1 : Int32) (s1 : Int32) : Option (Int32 × AH) := xb (F_X12_bad N ah s1 1 1) (fun r25 a25 => if r25 = 0 then xbv (F_X12_starts N a25 v1) (fun a35 => xlet (xu a35 22 1 0) (fun a44 => F_X12_follows_45 N N a44)) else some (0, a25))
def F_X12_follows (N : Nat) (ah : AH) (p1 : Int32) : Option (Int32 × AH) := xlet (xu ah 0 0 0) (fun a2 => xb (F_X12_in N a2 p1 0 (a2 0 2)) (fun r12 a12 => if r12 = 0 then F_X12_follows_23 N a12 p1 1 else F_X12_follows_23 N a12 p1 0))
theorem b_X12_follows_181 (C : XC p l s m args meth c cX12_follows 4 (some .int) RX12 D vwCl (tysM ca) (EM ad ca) NCM ad) {N : Nat} {o : (Int32 × AH)} {k169 : AH → Int32 → Option (Int32 × AH)} (hk169 : ∀ (ah : AH) (v2 : Int32), k169 ah v2 = some o → XW p l e rm_X12_follows s m args below meth c 4 0 (xQi below args s D vwCl (tysM ca) (EM ad ca) NCM ad o) D vwCl (EM ad ca) NCM ad ah 169 [(0, .ref (ad 0)), (2, .int v2)] []) : ∀ (n : Nat) {ah : AH} {v2 : Int32} {v3 : Int32}, F_X12_follows_181 N k169 n ah v2 v3 = some o → XW p l e rm_X12_follows s m args below meth c 4 0 (xQi below args s D vwCl (tysM ca) (EM ad ca) NCM ad o) D vwCl (EM ad ca) NCM ad ah 181 [(0, .ref (ad 0)), (2, .int v2), (3, .int v3)] [] := by
  intro n
  induction n with
  | zero => intro ah v2 v3 h; unfold F_X12_follows_181 at h; cases h
  | succ n ih =>
    intro ah v2 v3 h
    unfold F_X12_follows_181 at h
    refine x_iload_n C dX12_follows_181 182 rfl 2 rfl ?_
    refine x_iconst C dX12_follows_182 183 rfl 3 rfl ?_
    refine x_icmp_ge C dX12_follows_183 186 rfl 212 rfl h (fun h => ?_) (fun h => ?_)
    · refine x_iinc C dX12_follows_212 215 rfl 1 rfl (d := 1) rfl (by decide) (fun v2_212 => [(2, .int v2_212), (0, .ref (ad 0)), (3, .int v3)]) (fun _ => rfl) h (fun v2_212 h => ?_)
      refine x_goto C dX12_follows_215 169 rfl ?_
      exact x_sub [1, 0] rfl (hk169 _ _ h)
    · refine x_aload_n C dX12_follows_186 187 rfl 0 rfl ?_
      refine x_get C inX12 0 lm0 EM_0 rfl 32 (by decide) dX12_follows_187 190 rfl wmf_X12_89 rfl ?_
      refine x_iconst C dX12_follows_190 191 rfl 0 rfl ?_
      refine x_aaldK C (23) lm23 EM_23 3 rfl rfl (by decide) 0 (by decide) dX12_follows_191 192 rfl (2205 + 0) rfl ?_
      refine x_iload_n C dX12_follows_192 193 rfl 1 rfl ?_
      refine x_aaldL C (2205 + 0) (lm_follow_1 (show 0 < 2 by decide)) (EM_follow_1 (show 0 < 2 by decide)) 2 rfl rfl dX12_follows_193 194 rfl (2207 + (0 * 60 + Int32.toNatClampNeg v2)) rfl h (fun x193 ex193 hb193 h => ?_)
      have hx193 : mI x193 3 := ex193 ▸ mI_follow (xfl (show 0 < 2 by decide) hb193)
      refine x_iload_n C dX12_follows_194 195 rfl 2 rfl ?_
      refine x_aload_n C dX12_follows_195 196 rfl 0 rfl ?_
      refine x_get C inX12 0 lm0 EM_0 rfl 32 (by decide) dX12_follows_196 199 rfl wmf_X12_89 rfl ?_
      refine x_iconst C dX12_follows_199 200 rfl 1 rfl ?_
      refine x_aaldK C (23) lm23 EM_23 3 rfl rfl (by decide) 1 (by decide) dX12_follows_200 201 rfl (2205 + 1) rfl ?_
      refine x_iload_n C dX12_follows_201 202 rfl 1 rfl ?_
      refine x_aaldL C (2205 + 1) (lm_follow_1 (show 1 < 2 by decide)) (EM_follow_1 (show 1 < 2 by decide)) 2 rfl rfl dX12_follows_202 203 rfl (2207 + (1 * 60 + Int32.toNatClampNeg v2)) rfl h (fun x202 ex202 hb202 h => ?_)
      have hx202 : mI x202 3 := ex202 ▸ mI_follow (xfl (show 1 < 2 by decide) hb202)
      refine x_iload_n C dX12_follows_203 204 rfl 2 rfl ?_
      refine x_iald C x202 hx202.1 (hx202.2 _ _ _) 0 rfl dX12_follows_204 205 rfl h (fun h => ?_)
      refine x_iast C x193 hx193.1 (hx193.2 _ _) 0 rfl dX12_follows_205 206 rfl h (fun a205 h => ?_)
      refine x_iinc C dX12_follows_206 209 rfl 2 rfl (d := 1) rfl (by decide) (fun v3_206 => [(3, .int v3_206), (0, .ref (ad 0)), (2, .int v2)]) (fun _ => rfl) h (fun v3_206 h => ?_)
      refine x_goto C dX12_follows_209 181 rfl ?_
      exact x_sub [1, 2, 0] rfl (ih h)
theorem b_X12_follows_169 (C : XC p l s m args meth c cX12_follows 4 (some .int) RX12 D vwCl (tysM ca) (EM ad ca) NCM ad) {N : Nat} {o : (Int32 × AH)} : ∀ (n : Nat) {ah : AH} {v2 : Int32}, F_X12_follows_169 N n ah v2 = some o → XW p l e rm_X12_follows s m args below meth c 4 0 (xQi below args s D vwCl (tysM ca) (EM ad ca) NCM ad o) D vwCl (EM ad ca) NCM ad ah 169 [(0, .ref (ad 0)), (2, .int v2)] [] := by
  intro n
  induction n with
  | zero => intro ah v2 h; unfold F_X12_follows_169 at h; cases h
  | succ n ih =>
    intro ah v2 h
    unfold F_X12_follows_169 at h
    refine x_iload_n C dX12_follows_169 170 rfl 1 rfl ?_
    refine x_aload_n C dX12_follows_170 171 rfl 0 rfl ?_
    refine x_get C inX12 0 lm0 EM_0 rfl 31 (by decide) dX12_follows_171 174 rfl wmf_X12_86 rfl ?_
    refine x_iconst C dX12_follows_174 175 rfl 0 rfl ?_
    refine x_ialdK C 22 lm22 EM_22 0 rfl dX12_follows_175 176 rfl (by decide) 0 (by decide) ?_
    refine x_icmp_ge C dX12_follows_176 179 rfl 218 rfl h (fun h => ?_) (fun h => ?_)
    · refine x_aload_n C dX12_follows_218 219 rfl 0 rfl ?_
      refine x_aload_n C dX12_follows_219 220 rfl 0 rfl ?_
      refine x_get C inX12 0 lm0 EM_0 rfl 31 (by decide) dX12_follows_220 223 rfl wmf_X12_86 rfl ?_
      refine x_iconst C dX12_follows_223 224 rfl 0 rfl ?_
      refine x_ialdK C 22 lm22 EM_22 0 rfl dX12_follows_224 225 rfl (by decide) 0 (by decide) ?_
      obtain ⟨r225, a225, hq, h⟩ := xb_some h
      refine x_callVi C 0 (c_X12_ends C.2.2.2.2.2.2.1 hq) lm0 EM_0 rfl wml_X12_263 wq_X12_ends rfl ⟨by decide, by decide⟩ rfl rfl ⟨by decide, by decide⟩ dX12_follows_225 228 rfl rfl (Nat.le_of_ble_eq_true rfl) ?_
      exact x_iret C rfl dX12_follows_228 h
    · refine x_iconst C dX12_follows_179 180 rfl 0 rfl ?_
      refine x_istore_n C dX12_follows_180 181 rfl (by decide) (fun v3_180 => [(3, .int v3_180), (0, .ref (ad 0)), (2, .int v2)]) (fun _ => rfl) h (fun v3_180 h => ?_)
      exact x_sub [1, 2, 0] rfl (b_X12_follows_181 C (fun _ _ h => ih h) N h)
theorem b_X12_follows_142 (C : XC p l s m args meth c cX12_follows 4 (some .int) RX12 D vwCl (tysM ca) (EM ad ca) NCM ad) {N : Nat} {o : (Int32 × AH)} {ah : AH} (h : F_X12_follows_142 N ah = some o) : XW p l e rm_X12_follows s m args below meth c 4 0 (xQi below args s D vwCl (tysM ca) (EM ad ca) NCM ad o) D vwCl (EM ad ca) NCM ad ah 142 [(0, .ref (ad 0))] [] := by
  unfold F_X12_follows_142 at h
  refine x_aload_n C dX12_follows_142 143 rfl 0 rfl ?_
  obtain ⟨r143, a143, hq, h⟩ := xb_some h
  refine x_callVi C 0 (c_X12_fine C.2.2.2.2.2.2.1 hq) lm0 EM_0 rfl wml_X12_206 wq_X12_fine rfl ⟨by decide, by decide⟩ rfl rfl ⟨by decide, by decide⟩ dX12_follows_143 146 rfl rfl (Nat.le_of_ble_eq_true rfl) ?_
  refine x_if_ne C dX12_follows_146 149 rfl 155 rfl h (fun h => ?_) (fun h => ?_)
  · refine x_aload_n C dX12_follows_155 156 rfl 0 rfl ?_
    refine x_get C inX12 0 lm0 EM_0 rfl 31 (by decide) dX12_follows_156 159 rfl wmf_X12_86 rfl ?_
    refine x_iconst C dX12_follows_159 160 rfl 0 rfl ?_
    refine x_aload_n C dX12_follows_160 161 rfl 0 rfl ?_
    refine x_get C inX12 0 lm0 EM_0 rfl 31 (by decide) dX12_follows_161 164 rfl wmf_X12_86 rfl ?_
    refine x_iconst C dX12_follows_164 165 rfl 1 rfl ?_
    refine x_ialdK C 22 lm22 EM_22 0 rfl dX12_follows_165 166 rfl (by decide) 1 (by decide) ?_
    refine x_iastK C 22 lm22 (fun _ => EM_22) 0 rfl dX12_follows_166 167 rfl (by decide) 0 (by decide) h (fun a166 h => ?_)
    refine x_iconst C dX12_follows_167 168 rfl 0 rfl ?_
    refine x_istore_n C dX12_follows_168 169 rfl (by decide) (fun v2_168 => [(2, .int v2_168), (0, .ref (ad 0))]) (fun _ => rfl) h (fun v2_168 h => ?_)
    exact x_sub [1, 0] rfl (b_X12_follows_169 C  N h)
  · refine x_aload_n C dX12_follows_149 150 rfl 0 rfl ?_
    refine x_iconst C dX12_follows_150 151 rfl 0 rfl ?_
    obtain ⟨r151, a151, hq, h⟩ := xb_some h
    refine x_callVi C 0 (c_X12_ends C.2.2.2.2.2.2.1 hq) lm0 EM_0 rfl wml_X12_263 wq_X12_ends rfl ⟨by decide, by decide⟩ rfl rfl ⟨by decide, by decide⟩ dX12_follows_151 154 rfl rfl (Nat.le_of_ble_eq_true rfl) ?_
    exact x_iret C rfl dX12_follows_154 h
theorem b_X12_follows_102 (C : XC p l s m args meth c cX12_follows 4 (some .int) RX12 D vwCl (tysM ca) (EM ad ca) NCM ad) {N : Nat} {o : (Int32 × AH)} {k45 : AH → Option (Int32 × AH)} (hk45 : ∀ (ah : AH), k45 ah = some o → XW p l e rm_X12_follows s m args below meth c 4 0 (xQi below args s D vwCl (tysM ca) (EM ad ca) NCM ad o) D vwCl (EM ad ca) NCM ad ah 45 [(0, .ref (ad 0))] []) {ah : AH} (h : F_X12_follows_102 N k45 ah = some o) : XW p l e rm_X12_follows s m args below meth c 4 0 (xQi below args s D vwCl (tysM ca) (EM ad ca) NCM ad o) D vwCl (EM ad ca) NCM ad ah 102 [(0, .ref (ad 0))] [] := by
  unfold F_X12_follows_102 at h
  refine x_aload_n C dX12_follows_102 103 rfl 0 rfl ?_
  obtain ⟨r103, a103, hq, h⟩ := xb_some h
  refine x_callVi C 0 (c_X12_fine C.2.2.2.2.2.2.1 hq) lm0 EM_0 rfl wml_X12_206 wq_X12_fine rfl ⟨by decide, by decide⟩ rfl rfl ⟨by decide, by decide⟩ dX12_follows_103 106 rfl rfl (Nat.le_of_ble_eq_true rfl) ?_
  refine x_if_ne C dX12_follows_106 109 rfl 112 rfl h (fun h => ?_) (fun h => ?_)
  · refine x_aload_n C dX12_follows_112 113 rfl 0 rfl ?_
    refine x_aload_n C dX12_follows_113 114 rfl 0 rfl ?_
    refine x_get C inX12 0 lm0 EM_0 rfl 32 (by decide) dX12_follows_114 117 rfl wmf_X12_89 rfl ?_
    refine x_iconst C dX12_follows_117 118 rfl 1 rfl ?_
    refine x_aaldK C (23) lm23 EM_23 3 rfl rfl (by decide) 1 (by decide) dX12_follows_118 119 rfl (2205 + 1) rfl ?_
    refine x_aload_n C dX12_follows_119 120 rfl 0 rfl ?_
    refine x_get C inX12 0 lm0 EM_0 rfl 31 (by decide) dX12_follows_120 123 rfl wmf_X12_86 rfl ?_
    refine x_iconst C dX12_follows_123 124 rfl 1 rfl ?_
    refine x_ialdK C 22 lm22 EM_22 0 rfl dX12_follows_124 125 rfl (by decide) 1 (by decide) ?_
    refine x_aaldL C (2205 + 1) (lm_follow_1 (show 1 < 2 by decide)) (EM_follow_1 (show 1 < 2 by decide)) 2 rfl rfl dX12_follows_125 126 rfl (2207 + (1 * 60 + Int32.toNatClampNeg (a103 22 1))) rfl h (fun x125 ex125 hb125 h => ?_)
    have hx125 : mI x125 3 := ex125 ▸ mI_follow (xfl (show 1 < 2 by decide) hb125)
    obtain ⟨a126, hq, h⟩ := xbv_some h
    refine x_callVv C 0 (c_X12_readsFollow C.2.2.2.2.2.2.1 hx125 hq) lm0 EM_0 rfl wml_X12_278 wq_X12_readsFollow rfl ⟨by decide, by decide⟩ rfl rfl ⟨by decide, by decide⟩ dX12_follows_126 129 rfl rfl (Nat.le_of_ble_eq_true rfl) ?_
    refine x_aload_n C dX12_follows_129 130 rfl 0 rfl ?_
    refine x_get C inX12 0 lm0 EM_0 rfl 31 (by decide) dX12_follows_130 133 rfl wmf_X12_86 rfl ?_
    refine x_iconst C dX12_follows_133 134 rfl 1 rfl ?_
    refine x_dup2 C dX12_follows_134 135 rfl rfl rfl ?_
    refine x_ialdK C 22 lm22 EM_22 0 rfl dX12_follows_135 136 rfl (by decide) 1 (by decide) ?_
    refine x_iconst C dX12_follows_136 137 rfl 1 rfl ?_
    refine x_iadd C dX12_follows_137 138 rfl ?_
    refine x_iastK C 22 lm22 (fun _ => EM_22) 0 rfl dX12_follows_138 139 rfl (by decide) 1 (by decide) h (fun a138 h => ?_)
    refine x_goto C dX12_follows_139 45 rfl ?_
    exact hk45 _ h
  · refine x_goto C dX12_follows_109 142 rfl ?_
    exact b_X12_follows_142 C  h
theorem b_X12_follows_45 (C : XC p l s m args meth c cX12_follows 4 (some .int) RX12 D vwCl (tysM ca) (EM ad ca) NCM ad) {N : Nat} {o : (Int32 × AH)} : ∀ (n : Nat) {ah : AH}, F_X12_follows_45 N n ah = some o → XW p l e rm_X12_follows s m args below meth c 4 0 (xQi below args s D vwCl (tysM ca) (EM ad ca) NCM ad o) D vwCl (EM ad ca) NCM ad ah 45 [(0, .ref (ad 0))] [] := by
  intro n
  induction n with
  | zero => intro ah h; unfold F_X12_follows_45 at h; cases h
  | succ n ih =>
    intro ah h
    unfold F_X12_follows_45 at h
    refine x_aload_n C dX12_follows_45 46 rfl 0 rfl ?_
    obtain ⟨r46, a46, hq, h⟩ := xb_some h
    refine x_callVi C 0 (c_X12_fine C.2.2.2.2.2.2.1 hq) lm0 EM_0 rfl wml_X12_206 wq_X12_fine rfl ⟨by decide, by decide⟩ rfl rfl ⟨by decide, by decide⟩ dX12_follows_46 49 rfl rfl (Nat.le_of_ble_eq_true rfl) ?_
    refine x_if_eq C dX12_follows_49 52 rfl 142 rfl h (fun h => ?_) (fun h => ?_)
    · exact b_X12_follows_142 C  h
    · refine x_aload_n C dX12_follows_52 53 rfl 0 rfl ?_
      obtain ⟨r53, a53, hq, h⟩ := xb_some h
      refine x_callVi C 0 (c_X12_blanks C.2.2.2.2.2.2.1 hq) lm0 EM_0 rfl wml_X12_227 wq_X12_blanks rfl ⟨by decide, by decide⟩ rfl rfl ⟨by decide, by decide⟩ dX12_follows_53 56 rfl rfl (Nat.le_of_ble_eq_true rfl) ?_
      refine x_iconst C dX12_follows_56 57 rfl (-1) rfl ?_
      refine x_icmp_eq C dX12_follows_57 60 rfl 142 rfl h (fun h => ?_) (fun h => ?_)
      · exact b_X12_follows_142 C  h
      · refine x_aload_n C dX12_follows_60 61 rfl 0 rfl ?_
        obtain ⟨r61, a61, hq, h⟩ := xb_some h
        refine x_callVi C 0 (c_X12_here C.2.2.2.2.2.2.1 hq) lm0 EM_0 rfl wml_X12_196 wq_X12_here rfl ⟨by decide, by decide⟩ rfl rfl ⟨by decide, by decide⟩ dX12_follows_61 64 rfl rfl (Nat.le_of_ble_eq_true rfl) ?_
        obtain ⟨r64, a64, hq, h⟩ := xb_some h
        refine x_callSi C (c_X12_isSmall C.2.2.2.2.2.2.1 hq) wml_X12_230 wq_X12_isSmall rfl ⟨by decide, by decide⟩ rfl rfl ⟨by decide, by decide⟩ dX12_follows_64 67 rfl rfl (Nat.le_of_ble_eq_true rfl) ?_
        refine x_if_ne C dX12_follows_67 70 rfl 82 rfl h (fun h => ?_) (fun h => ?_)
        · refine x_aload_n C dX12_follows_82 83 rfl 0 rfl ?_
          refine x_get C inX12 0 lm0 EM_0 rfl 31 (by decide) dX12_follows_83 86 rfl wmf_X12_86 rfl ?_
          refine x_iconst C dX12_follows_86 87 rfl 1 rfl ?_
          refine x_ialdK C 22 lm22 EM_22 0 rfl dX12_follows_87 88 rfl (by decide) 1 (by decide) ?_
          refine x_bipush C dX12_follows_88 90 rfl 60 rfl ?_
          refine x_icmp_ne C dX12_follows_90 93 rfl 102 rfl h (fun h => ?_) (fun h => ?_)
          · exact b_X12_follows_102 C (fun _ h => ih h) h
          · refine x_aload_n C dX12_follows_93 94 rfl 0 rfl ?_
            refine x_iconst C dX12_follows_94 95 rfl 3 rfl ?_
            refine x_aload_n C dX12_follows_95 96 rfl 0 rfl ?_
            refine x_get C inX12 0 lm0 EM_0 rfl 4 (by decide) dX12_follows_96 99 rfl wmf_X12_189 rfl ?_
            obtain ⟨a99, hq, h⟩ := xbv_some h
            refine x_callVv C 0 (c_X12_wrong C.2.2.2.2.2.2.1 hq) lm0 EM_0 rfl wml_X12_214 wq_X12_wrong rfl ⟨by decide, by decide⟩ rfl rfl ⟨by decide, by decide⟩ dX12_follows_99 102 rfl rfl (Nat.le_of_ble_eq_true rfl) ?_
            exact b_X12_follows_102 C (fun _ h => ih h) h
        · refine x_aload_n C dX12_follows_70 71 rfl 0 rfl ?_
          refine x_iconst C dX12_follows_71 72 rfl 1 rfl ?_
          refine x_aload_n C dX12_follows_72 73 rfl 0 rfl ?_
          refine x_get C inX12 0 lm0 EM_0 rfl 4 (by decide) dX12_follows_73 76 rfl wmf_X12_189 rfl ?_
          obtain ⟨a76, hq, h⟩ := xbv_some h
          refine x_callVv C 0 (c_X12_wrong C.2.2.2.2.2.2.1 hq) lm0 EM_0 rfl wml_X12_214 wq_X12_wrong rfl ⟨by decide, by decide⟩ rfl rfl ⟨by decide, by decide⟩ dX12_follows_76 79 rfl rfl (Nat.le_of_ble_eq_true rfl) ?_
          refine x_goto C dX12_follows_79 102 rfl ?_
          exact b_X12_follows_102 C (fun _ h => ih h) h
theorem b_X12_follows_23 (C : XC p l s m args meth c cX12_follows 4 (some .int) RX12 D vwCl (tysM ca) (EM ad ca) NCM ad) {N : Nat} {o : (Int32 × AH)} {ah : AH} {v1 : Int32} {s1 : Int32} (h : F_X12_follows_23 N ah v1 s1 = some o) : XW p l e rm_X12_follows s m args below meth c 4 0 (xQi below args s D vwCl (tysM ca) (EM ad ca) NCM ad o) D vwCl (EM ad ca) NCM ad ah 23 [(0, .ref (ad 0)), (1, .int v1)] [.int s1, .ref (ad 0)] := by
  unfold F_X12_follows_23 at h
  refine x_iconst C dX12_follows_23 24 rfl 1 rfl ?_
  refine x_iconst C dX12_follows_24 25 rfl 1 rfl ?_
  obtain ⟨r25, a25, hq, h⟩ := xb_some h
  refine x_callVi C 0 (c_X12_bad C.2.2.2.2.2.2.1 hq) lm0 EM_0 rfl wml_X12_249 wq_X12_bad rfl ⟨by decide, by decide⟩ rfl rfl ⟨by decide, by decide⟩ dX12_follows_25 28 rfl rfl (Nat.le_of_ble_eq_true rfl) ?_
  refine x_if_eq C dX12_follows_28 31 rfl 33 rfl h (fun h => ?_) (fun h => ?_)
  · refine x_aload_n C dX12_follows_33 34 rfl 0 rfl ?_
    refine x_iload_n C dX12_follows_34 35 rfl 1 rfl ?_
    obtain ⟨a35, hq, h⟩ := xbv_some h
    refine x_callVv C 0 (c_X12_starts C.2.2.2.2.2.2.1 hq) lm0 EM_0 rfl wml_X12_253 wq_X12_starts rfl ⟨by decide, by decide⟩ rfl rfl ⟨by decide, by decide⟩ dX12_follows_35 38 rfl rfl (Nat.le_of_ble_eq_true rfl) ?_
    refine x_aload_n C dX12_follows_38 39 rfl 0 rfl ?_
    refine x_get C inX12 0 lm0 EM_0 rfl 31 (by decide) dX12_follows_39 42 rfl wmf_X12_86 rfl ?_
    refine x_iconst C dX12_follows_42 43 rfl 1 rfl ?_
    refine x_iconst C dX12_follows_43 44 rfl 0 rfl ?_
    refine x_iastK C 22 lm22 (fun _ => EM_22) 0 rfl dX12_follows_44 45 rfl (by decide) 1 (by decide) h (fun a44 h => ?_)
    exact x_sub [0] rfl (b_X12_follows_45 C  N h)
  · refine x_iconst C dX12_follows_31 32 rfl 0 rfl ?_
    exact x_iret C rfl dX12_follows_32 h
theorem c_X12_follows {l : Launch} {D : va_G} {ca : Nat → ClassId} {ad : Nat → Nat} (hI : xInj ad NCM) {N : Nat} {ah : AH} {p1 : Int32} {r : Int32} {a : AH} (h : F_X12_follows N ah p1 = some (r, a)) : xMi l yX12_follows cX12_follows 4 (some .int) rm_X12_follows D vwCl (tysM ca) (EM ad ca) NCM ad [.ref (ad 0), .int p1] ah (r, a) := by
  refine x_meti (by decide) (Nat.le_of_ble_eq_true rfl) hI EM_loc ?_
  intro p e s m args below meth c C
  unfold F_X12_follows at h
  refine x_aload_n C dX12_follows_0 1 rfl 0 rfl ?_
  refine x_iconst C dX12_follows_1 2 rfl 0 rfl ?_
  refine x_put C inX12 0 lm0 EM_0 rfl 0 (by decide) tyX12_ok nmX12 dX12_follows_2 5 rfl wmf_X12_180 rfl rfl rfl (Nat.le_of_ble_eq_true rfl) EQ_0_0 h (fun a2 h => ?_)
  refine x_aload_n C dX12_follows_5 6 rfl 0 rfl ?_
  refine x_iload_n C dX12_follows_6 7 rfl 1 rfl ?_
  refine x_iconst C dX12_follows_7 8 rfl 0 rfl ?_
  refine x_aload_n C dX12_follows_8 9 rfl 0 rfl ?_
  refine x_get C inX12 0 lm0 EM_0 rfl 2 (by decide) dX12_follows_9 12 rfl wmf_X12_183 rfl ?_
  obtain ⟨r12, a12, hq, h⟩ := xb_some h
  refine x_callSi C (c_X12_in C.2.2.2.2.2.2.1 hq) wml_X12_223 wq_X12_in rfl ⟨by decide, by decide⟩ rfl rfl ⟨by decide, by decide⟩ dX12_follows_12 15 rfl rfl (Nat.le_of_ble_eq_true rfl) ?_
  refine x_if_ne C dX12_follows_15 18 rfl 22 rfl h (fun h => ?_) (fun h => ?_)
  · refine x_iconst C dX12_follows_22 23 rfl 0 rfl ?_
    exact b_X12_follows_23 C  h
  · refine x_iconst C dX12_follows_18 19 rfl 1 rfl ?_
    refine x_goto C dX12_follows_19 23 rfl ?_
    exact b_X12_follows_23 C  h
abbrev rm_X12_dearOf : Room := { frames := 0, cells := 0, slots := 0, locals := 0 }
theorem wq_X12_dearOf : xcV RX12 yX12_dearOf cX12_dearOf 4 (some .int) 2 := ⟨wmi_X12_dearOf, wms_X12_dearOf, wmn_X12, wmc_X12_dearOf, by decide, by decide, by decide +kernel⟩
def F_X12_dearOf_52 (N : Nat) (k9 : AH → Int32 → Int32 → Int32 → Option (Int32 × AH)) (ah : AH) (v1 : Int32) (v2 : Int32) (v3 : Int32) : Option (Int32 × AH) := xlet (v3 + (-1)) (fun v3_52 => k9 ah v1 v2 v3_52)
def F_X12_dearOf_9 (N : Nat) : Nat → AH → Int32 → Int32 → Int32 → Option (Int32 × AH)
  | 0, _, _, _, _ => none
  | n + 1, ah, v1, v2, v3 => if v3 < 0 then some (ah 3 6, ah) else xg v3 60 (xlet (2207 + (0 * 60 + Int32.toNatClampNeg v3)) (fun x20 => if (ah x20 0) = v1 then xg v3 60 (xlet (2207 + (0 * 60 + Int32.toNatClampNeg v3)) (fun x34 => if (ah x34 1) = v2 then xg v3 60 (xlet (2207 + (0 * 60 + Int32.toNatClampNeg v3)) (fun x48 => some (ah x48 2, ah))) else F_X12_dearOf_52 N (F_X12_dearOf_9 N n) ah v1 v2 v3)) else F_X12_dearOf_52 N (F_X12_dearOf_9 N n) ah v1 v2 v3))
def F_X12_dearOf (N : Nat) (ah : AH) (p1 : Int32) (p2 : Int32) : Option (Int32 × AH) := xlet ((ah 22 0) - 1) (fun v3_8 => F_X12_dearOf_9 N N ah p1 p2 v3_8)
theorem b_X12_dearOf_52 (C : XC p l s m args meth c cX12_dearOf 4 (some .int) RX12 D vwCl (tysM ca) (EM ad ca) NCM ad) {N : Nat} {o : (Int32 × AH)} {k9 : AH → Int32 → Int32 → Int32 → Option (Int32 × AH)} (hk9 : ∀ (ah : AH) (v1 : Int32) (v2 : Int32) (v3 : Int32), k9 ah v1 v2 v3 = some o → XW p l e rm_X12_dearOf s m args below meth c 4 0 (xQi below args s D vwCl (tysM ca) (EM ad ca) NCM ad o) D vwCl (EM ad ca) NCM ad ah 9 [(0, .ref (ad 0)), (1, .int v1), (2, .int v2), (3, .int v3)] []) {ah : AH} {v1 : Int32} {v2 : Int32} {v3 : Int32} (h : F_X12_dearOf_52 N k9 ah v1 v2 v3 = some o) : XW p l e rm_X12_dearOf s m args below meth c 4 0 (xQi below args s D vwCl (tysM ca) (EM ad ca) NCM ad o) D vwCl (EM ad ca) NCM ad ah 52 [(0, .ref (ad 0)), (1, .int v1), (2, .int v2), (3, .int v3)] [] := by
  unfold F_X12_dearOf_52 at h
  refine x_iinc C dX12_dearOf_52 55 rfl 3 rfl (d := (-1)) rfl (by decide) (fun v3_52 => [(3, .int v3_52), (0, .ref (ad 0)), (1, .int v1), (2, .int v2)]) (fun _ => rfl) h (fun v3_52 h => ?_)
  refine x_goto C dX12_dearOf_55 9 rfl ?_
  exact x_sub [1, 2, 3, 0] rfl (hk9 _ _ _ _ h)
theorem b_X12_dearOf_9 (C : XC p l s m args meth c cX12_dearOf 4 (some .int) RX12 D vwCl (tysM ca) (EM ad ca) NCM ad) {N : Nat} {o : (Int32 × AH)} : ∀ (n : Nat) {ah : AH} {v1 : Int32} {v2 : Int32} {v3 : Int32}, F_X12_dearOf_9 N n ah v1 v2 v3 = some o → XW p l e rm_X12_dearOf s m args below meth c 4 0 (xQi below args s D vwCl (tysM ca) (EM ad ca) NCM ad o) D vwCl (EM ad ca) NCM ad ah 9 [(0, .ref (ad 0)), (1, .int v1), (2, .int v2), (3, .int v3)] [] := by
  intro n
  induction n with
  | zero => intro ah v1 v2 v3 h; unfold F_X12_dearOf_9 at h; cases h
  | succ n ih =>
    intro ah v1 v2 v3 h
    unfold F_X12_dearOf_9 at h
    refine x_iload_n C dX12_dearOf_9 10 rfl 3 rfl ?_
    refine x_if_lt C dX12_dearOf_10 13 rfl 58 rfl h (fun h => ?_) (fun h => ?_)
    · refine x_aload_n C dX12_dearOf_58 59 rfl 0 rfl ?_
      refine x_get C inX12 0 lm0 EM_0 rfl 9 (by decide) dX12_dearOf_59 62 rfl wmf_X12_20 rfl ?_
      refine x_bipush C dX12_dearOf_62 64 rfl 6 rfl ?_
      refine x_ialdK C 3 lm3 EM_3 0 rfl dX12_dearOf_64 65 rfl (by decide) 6 (by decide) ?_
      exact x_iret C rfl dX12_dearOf_65 h
    · refine x_aload_n C dX12_dearOf_13 14 rfl 0 rfl ?_
      refine x_get C inX12 0 lm0 EM_0 rfl 32 (by decide) dX12_dearOf_14 17 rfl wmf_X12_89 rfl ?_
      refine x_iconst C dX12_dearOf_17 18 rfl 0 rfl ?_
      refine x_aaldK C (23) lm23 EM_23 3 rfl rfl (by decide) 0 (by decide) dX12_dearOf_18 19 rfl (2205 + 0) rfl ?_
      refine x_iload_n C dX12_dearOf_19 20 rfl 3 rfl ?_
      refine x_aaldL C (2205 + 0) (lm_follow_1 (show 0 < 2 by decide)) (EM_follow_1 (show 0 < 2 by decide)) 2 rfl rfl dX12_dearOf_20 21 rfl (2207 + (0 * 60 + Int32.toNatClampNeg v3)) rfl h (fun x20 ex20 hb20 h => ?_)
      have hx20 : mI x20 3 := ex20 ▸ mI_follow (xfl (show 0 < 2 by decide) hb20)
      refine x_iconst C dX12_dearOf_21 22 rfl 0 rfl ?_
      refine x_ialdK C x20 hx20.1 (hx20.2 _ _ _) 0 rfl dX12_dearOf_22 23 rfl (by decide) 0 (by decide) ?_
      refine x_iload_n C dX12_dearOf_23 24 rfl 1 rfl ?_
      refine x_icmp_ne C dX12_dearOf_24 27 rfl 52 rfl h (fun h => ?_) (fun h => ?_)
      · exact b_X12_dearOf_52 C (fun _ _ _ _ h => ih h) h
      · refine x_aload_n C dX12_dearOf_27 28 rfl 0 rfl ?_
        refine x_get C inX12 0 lm0 EM_0 rfl 32 (by decide) dX12_dearOf_28 31 rfl wmf_X12_89 rfl ?_
        refine x_iconst C dX12_dearOf_31 32 rfl 0 rfl ?_
        refine x_aaldK C (23) lm23 EM_23 3 rfl rfl (by decide) 0 (by decide) dX12_dearOf_32 33 rfl (2205 + 0) rfl ?_
        refine x_iload_n C dX12_dearOf_33 34 rfl 3 rfl ?_
        refine x_aaldL C (2205 + 0) (lm_follow_1 (show 0 < 2 by decide)) (EM_follow_1 (show 0 < 2 by decide)) 2 rfl rfl dX12_dearOf_34 35 rfl (2207 + (0 * 60 + Int32.toNatClampNeg v3)) rfl h (fun x34 ex34 hb34 h => ?_)
        have hx34 : mI x34 3 := ex34 ▸ mI_follow (xfl (show 0 < 2 by decide) hb34)
        refine x_iconst C dX12_dearOf_35 36 rfl 1 rfl ?_
        refine x_ialdK C x34 hx34.1 (hx34.2 _ _ _) 0 rfl dX12_dearOf_36 37 rfl (by decide) 1 (by decide) ?_
        refine x_iload_n C dX12_dearOf_37 38 rfl 2 rfl ?_
        refine x_icmp_ne C dX12_dearOf_38 41 rfl 52 rfl h (fun h => ?_) (fun h => ?_)
        · exact b_X12_dearOf_52 C (fun _ _ _ _ h => ih h) h
        · refine x_aload_n C dX12_dearOf_41 42 rfl 0 rfl ?_
          refine x_get C inX12 0 lm0 EM_0 rfl 32 (by decide) dX12_dearOf_42 45 rfl wmf_X12_89 rfl ?_
          refine x_iconst C dX12_dearOf_45 46 rfl 0 rfl ?_
          refine x_aaldK C (23) lm23 EM_23 3 rfl rfl (by decide) 0 (by decide) dX12_dearOf_46 47 rfl (2205 + 0) rfl ?_
          refine x_iload_n C dX12_dearOf_47 48 rfl 3 rfl ?_
          refine x_aaldL C (2205 + 0) (lm_follow_1 (show 0 < 2 by decide)) (EM_follow_1 (show 0 < 2 by decide)) 2 rfl rfl dX12_dearOf_48 49 rfl (2207 + (0 * 60 + Int32.toNatClampNeg v3)) rfl h (fun x48 ex48 hb48 h => ?_)
          have hx48 : mI x48 3 := ex48 ▸ mI_follow (xfl (show 0 < 2 by decide) hb48)
          refine x_iconst C dX12_dearOf_49 50 rfl 2 rfl ?_
          refine x_ialdK C x48 hx48.1 (hx48.2 _ _ _) 0 rfl dX12_dearOf_50 51 rfl (by decide) 2 (by decide) ?_
          exact x_iret C rfl dX12_dearOf_51 h
theorem c_X12_dearOf {l : Launch} {D : va_G} {ca : Nat → ClassId} {ad : Nat → Nat} (hI : xInj ad NCM) {N : Nat} {ah : AH} {p1 : Int32} {p2 : Int32} {r : Int32} {a : AH} (h : F_X12_dearOf N ah p1 p2 = some (r, a)) : xMi l yX12_dearOf cX12_dearOf 4 (some .int) rm_X12_dearOf D vwCl (tysM ca) (EM ad ca) NCM ad [.ref (ad 0), .int p1, .int p2] ah (r, a) := by
  refine x_meti (by decide) (Nat.le_of_ble_eq_true rfl) hI EM_loc ?_
  intro p e s m args below meth c C
  unfold F_X12_dearOf at h
  refine x_aload_n C dX12_dearOf_0 1 rfl 0 rfl ?_
  refine x_get C inX12 0 lm0 EM_0 rfl 31 (by decide) dX12_dearOf_1 4 rfl wmf_X12_86 rfl ?_
  refine x_iconst C dX12_dearOf_4 5 rfl 0 rfl ?_
  refine x_ialdK C 22 lm22 EM_22 0 rfl dX12_dearOf_5 6 rfl (by decide) 0 (by decide) ?_
  refine x_iconst C dX12_dearOf_6 7 rfl 1 rfl ?_
  refine x_isub C dX12_dearOf_7 8 rfl ?_
  refine x_istore_n C dX12_dearOf_8 9 rfl (by decide) (fun v3_8 => [(3, .int v3_8), (0, .ref (ad 0)), (1, .int p1), (2, .int p2)]) (fun _ => rfl) h (fun v3_8 h => ?_)
  exact x_sub [1, 2, 3, 0] rfl (b_X12_dearOf_9 C  N h)
abbrev rm_X12_isWord : Room := { frames := 1, cells := 0, slots := 0, locals := 22 }
theorem wq_X12_isWord : xcV RX12 yX12_isWord cX12_isWord 2 (some .boolean) 1 := ⟨wmi_X12_isWord, wms_X12_isWord, wmn_X12, wmc_X12_isWord, by decide, by decide, by decide +kernel⟩
def F_X12_isWord (N : Nat) (ah : AH) (p1 : Int32) : Option (Int32 × AH) := xb (F_X12_in N ah p1 0 ((ah 0 10) - 1)) (fun r8 a8 => xbo r8 (some (r8, a8)))
theorem c_X12_isWord {l : Launch} {D : va_G} {ca : Nat → ClassId} {ad : Nat → Nat} (hI : xInj ad NCM) {N : Nat} {ah : AH} {p1 : Int32} {r : Int32} {a : AH} (h : F_X12_isWord N ah p1 = some (r, a)) : xMi l yX12_isWord cX12_isWord 2 (some .boolean) rm_X12_isWord D vwCl (tysM ca) (EM ad ca) NCM ad [.ref (ad 0), .int p1] ah (r, a) := by
  refine x_meti (by decide) (Nat.le_of_ble_eq_true rfl) hI EM_loc ?_
  intro p e s m args below meth c C
  unfold F_X12_isWord at h
  refine x_iload_n C dX12_isWord_0 1 rfl 1 rfl ?_
  refine x_iconst C dX12_isWord_1 2 rfl 0 rfl ?_
  refine x_aload_n C dX12_isWord_2 3 rfl 0 rfl ?_
  refine x_get C inX12 0 lm0 EM_0 rfl 10 (by decide) dX12_isWord_3 6 rfl wmf_X12_257 rfl ?_
  refine x_iconst C dX12_isWord_6 7 rfl 1 rfl ?_
  refine x_isub C dX12_isWord_7 8 rfl ?_
  obtain ⟨r8, a8, hq, h⟩ := xb_some h
  refine x_callSi C (c_X12_in C.2.2.2.2.2.2.1 hq) wml_X12_223 wq_X12_in rfl ⟨by decide, by decide⟩ rfl rfl ⟨by decide, by decide⟩ dX12_isWord_8 11 rfl rfl (Nat.le_of_ble_eq_true rfl) ?_
  exact x_zretB C rfl dX12_isWord_11 h
abbrev rm_X12_dear : Room := { frames := 2, cells := 0, slots := 0, locals := 43 }
theorem wq_X12_dear : xcV RX12 yX12_dear cX12_dear 3 (some .int) 2 := ⟨wmi_X12_dear, wms_X12_dear, wmn_X12, wmc_X12_dear, by decide, by decide, by decide +kernel⟩
def F_X12_dear_27 (N : Nat) (ah : AH) (v1 : Int32) (v2 : Int32) (s1 : Int32) : Option (Int32 × AH) := xb (F_X12_bad N ah s1 1 0) (fun r29 a29 => if r29 = 0 then xb (F_X12_dearOf N a29 v1 v2) (fun r40 a40 => some (r40, a40)) else some (0, a29))
def F_X12_dear_22 (N : Nat) (ah : AH) (v1 : Int32) (v2 : Int32) : Option (Int32 × AH) := F_X12_dear_27 N ah v1 v2 1
def F_X12_dear (N : Nat) (ah : AH) (p1 : Int32) (p2 : Int32) : Option (Int32 × AH) := xlet (xu ah 0 0 0) (fun a2 => xb (F_X12_isWord N a2 p1) (fun r8 a8 => if r8 = 0 then F_X12_dear_22 N a8 p1 p2 else xb (F_X12_isWord N a8 p2) (fun r16 a16 => if r16 = 0 then F_X12_dear_22 N a16 p1 p2 else F_X12_dear_27 N a16 p1 p2 0)))
theorem b_X12_dear_27 (C : XC p l s m args meth c cX12_dear 3 (some .int) RX12 D vwCl (tysM ca) (EM ad ca) NCM ad) {N : Nat} {o : (Int32 × AH)} {ah : AH} {v1 : Int32} {v2 : Int32} {s1 : Int32} (h : F_X12_dear_27 N ah v1 v2 s1 = some o) : XW p l e rm_X12_dear s m args below meth c 3 0 (xQi below args s D vwCl (tysM ca) (EM ad ca) NCM ad o) D vwCl (EM ad ca) NCM ad ah 27 [(0, .ref (ad 0)), (1, .int v1), (2, .int v2)] [.int s1, .ref (ad 0)] := by
  unfold F_X12_dear_27 at h
  refine x_iconst C dX12_dear_27 28 rfl 1 rfl ?_
  refine x_iconst C dX12_dear_28 29 rfl 0 rfl ?_
  obtain ⟨r29, a29, hq, h⟩ := xb_some h
  refine x_callVi C 0 (c_X12_bad C.2.2.2.2.2.2.1 hq) lm0 EM_0 rfl wml_X12_249 wq_X12_bad rfl ⟨by decide, by decide⟩ rfl rfl ⟨by decide, by decide⟩ dX12_dear_29 32 rfl rfl (Nat.le_of_ble_eq_true rfl) ?_
  refine x_if_eq C dX12_dear_32 35 rfl 37 rfl h (fun h => ?_) (fun h => ?_)
  · refine x_aload_n C dX12_dear_37 38 rfl 0 rfl ?_
    refine x_iload_n C dX12_dear_38 39 rfl 1 rfl ?_
    refine x_iload_n C dX12_dear_39 40 rfl 2 rfl ?_
    obtain ⟨r40, a40, hq, h⟩ := xb_some h
    refine x_callVi C 0 (c_X12_dearOf C.2.2.2.2.2.2.1 hq) lm0 EM_0 rfl wml_X12_285 wq_X12_dearOf rfl ⟨by decide, by decide⟩ rfl rfl ⟨by decide, by decide⟩ dX12_dear_40 43 rfl rfl (Nat.le_of_ble_eq_true rfl) ?_
    exact x_iret C rfl dX12_dear_43 h
  · refine x_iconst C dX12_dear_35 36 rfl 0 rfl ?_
    exact x_iret C rfl dX12_dear_36 h
theorem b_X12_dear_22 (C : XC p l s m args meth c cX12_dear 3 (some .int) RX12 D vwCl (tysM ca) (EM ad ca) NCM ad) {N : Nat} {o : (Int32 × AH)} {ah : AH} {v1 : Int32} {v2 : Int32} (h : F_X12_dear_22 N ah v1 v2 = some o) : XW p l e rm_X12_dear s m args below meth c 3 0 (xQi below args s D vwCl (tysM ca) (EM ad ca) NCM ad o) D vwCl (EM ad ca) NCM ad ah 22 [(0, .ref (ad 0)), (1, .int v1), (2, .int v2)] [.ref (ad 0)] := by
  unfold F_X12_dear_22 at h
  refine x_iconst C dX12_dear_22 23 rfl 1 rfl ?_
  refine x_goto C dX12_dear_23 27 rfl ?_
  exact b_X12_dear_27 C  h
theorem c_X12_dear {l : Launch} {D : va_G} {ca : Nat → ClassId} {ad : Nat → Nat} (hI : xInj ad NCM) {N : Nat} {ah : AH} {p1 : Int32} {p2 : Int32} {r : Int32} {a : AH} (h : F_X12_dear N ah p1 p2 = some (r, a)) : xMi l yX12_dear cX12_dear 3 (some .int) rm_X12_dear D vwCl (tysM ca) (EM ad ca) NCM ad [.ref (ad 0), .int p1, .int p2] ah (r, a) := by
  refine x_meti (by decide) (Nat.le_of_ble_eq_true rfl) hI EM_loc ?_
  intro p e s m args below meth c C
  unfold F_X12_dear at h
  refine x_aload_n C dX12_dear_0 1 rfl 0 rfl ?_
  refine x_iconst C dX12_dear_1 2 rfl 0 rfl ?_
  refine x_put C inX12 0 lm0 EM_0 rfl 0 (by decide) tyX12_ok nmX12 dX12_dear_2 5 rfl wmf_X12_180 rfl rfl rfl (Nat.le_of_ble_eq_true rfl) EQ_0_0 h (fun a2 h => ?_)
  refine x_aload_n C dX12_dear_5 6 rfl 0 rfl ?_
  refine x_aload_n C dX12_dear_6 7 rfl 0 rfl ?_
  refine x_iload_n C dX12_dear_7 8 rfl 1 rfl ?_
  obtain ⟨r8, a8, hq, h⟩ := xb_some h
  refine x_callVi C 0 (c_X12_isWord C.2.2.2.2.2.2.1 hq) lm0 EM_0 rfl wml_X12_282 wq_X12_isWord rfl ⟨by decide, by decide⟩ rfl rfl ⟨by decide, by decide⟩ dX12_dear_8 11 rfl rfl (Nat.le_of_ble_eq_true rfl) ?_
  refine x_if_eq C dX12_dear_11 14 rfl 22 rfl h (fun h => ?_) (fun h => ?_)
  · exact b_X12_dear_22 C  h
  · refine x_aload_n C dX12_dear_14 15 rfl 0 rfl ?_
    refine x_iload_n C dX12_dear_15 16 rfl 2 rfl ?_
    obtain ⟨r16, a16, hq, h⟩ := xb_some h
    refine x_callVi C 0 (c_X12_isWord C.2.2.2.2.2.2.1 hq) lm0 EM_0 rfl wml_X12_282 wq_X12_isWord rfl ⟨by decide, by decide⟩ rfl rfl ⟨by decide, by decide⟩ dX12_dear_16 19 rfl rfl (Nat.le_of_ble_eq_true rfl) ?_
    refine x_if_ne C dX12_dear_19 22 rfl 26 rfl h (fun h => ?_) (fun h => ?_)
    · refine x_iconst C dX12_dear_26 27 rfl 0 rfl ?_
      exact b_X12_dear_27 C  h
    · exact b_X12_dear_22 C  h
abbrev rm_X12_readsPart : Room := { frames := 3, cells := 0, slots := 0, locals := 61 }
theorem wq_X12_readsPart : xcV RX12 yX12_readsPart cX12_readsPart 4 (some .int) 2 := ⟨wmi_X12_readsPart, wms_X12_readsPart, wmn_X12, wmc_X12_readsPart, by decide, by decide, by decide +kernel⟩
def F_X12_readsPart_52 (N : Nat) (k21 : AH → Nat → Int32 → Int32 → Option (Int32 × AH)) (ah : AH) (x1 : Nat) (v2 : Int32) (v3 : Int32) : Option (Int32 × AH) := xb (F_X12_fine N ah) (fun r53 a53 => if r53 = 0 then some (v3, a53) else xb (F_X12_here N a53) (fun r66 a66 => xg (v2 + v3) 6 (xlet (xu a66 x1 (Int32.toNatClampNeg (v2 + v3)) r66) (fun a69 => xlet (v3 + 1) (fun v3_70 => xlet (xu a69 0 4 ((a69 0 4) + 1)) (fun a80 => k21 a80 x1 v2 v3_70))))))
def F_X12_readsPart_21 (N : Nat) : Nat → AH → Nat → Int32 → Int32 → Option (Int32 × AH)
  | 0, _, _, _, _ => none
  | n + 1, ah, x1, v2, v3 => xb (F_X12_fine N ah) (fun r22 a22 => if r22 = 0 then some (v3, a22) else xb (F_X12_here N a22) (fun r29 a29 => xb (F_X12_isSmall N a29 r29) (fun r32 a32 => if r32 = 0 then some (v3, a32) else if v3 = 3 then xbv (F_X12_wrong N a32 3 (a32 0 4)) (fun a49 => F_X12_readsPart_52 N (F_X12_readsPart_21 N n) a49 x1 v2 v3) else F_X12_readsPart_52 N (F_X12_readsPart_21 N n) a32 x1 v2 v3)))
def F_X12_readsPart (N : Nat) (ah : AH) (x1 : Nat) (p2 : Int32) : Option (Int32 × AH) := xlet 0 (fun v3_1 => xb (F_X12_blanks N ah) (fun r3 a3 => xb (F_X12_isSmall N a3 r3) (fun r6 a6 => if r6 = 0 then xbv (F_X12_wrong N a6 1 (a6 0 4)) (fun a18 => F_X12_readsPart_21 N N a18 x1 p2 v3_1) else F_X12_readsPart_21 N N a6 x1 p2 v3_1)))
theorem b_X12_readsPart_52 (C : XC p l s m args meth c cX12_readsPart 4 (some .int) RX12 D vwCl (tysM ca) (EM ad ca) NCM ad) {N : Nat} {o : (Int32 × AH)} {k21 : AH → Nat → Int32 → Int32 → Option (Int32 × AH)} (hk21 : ∀ (ah : AH) (x1 : Nat) (v2 : Int32) (v3 : Int32) (hx1 : mI x1 6), k21 ah x1 v2 v3 = some o → XW p l e rm_X12_readsPart s m args below meth c 4 0 (xQi below args s D vwCl (tysM ca) (EM ad ca) NCM ad o) D vwCl (EM ad ca) NCM ad ah 21 [(0, .ref (ad 0)), (1, .ref (ad x1)), (2, .int v2), (3, .int v3)] []) {ah : AH} {x1 : Nat} {v2 : Int32} {v3 : Int32} (hx1 : mI x1 6) (h : F_X12_readsPart_52 N k21 ah x1 v2 v3 = some o) : XW p l e rm_X12_readsPart s m args below meth c 4 0 (xQi below args s D vwCl (tysM ca) (EM ad ca) NCM ad o) D vwCl (EM ad ca) NCM ad ah 52 [(0, .ref (ad 0)), (1, .ref (ad x1)), (2, .int v2), (3, .int v3)] [] := by
  unfold F_X12_readsPart_52 at h
  refine x_aload_n C dX12_readsPart_52 53 rfl 0 rfl ?_
  obtain ⟨r53, a53, hq, h⟩ := xb_some h
  refine x_callVi C 0 (c_X12_fine C.2.2.2.2.2.2.1 hq) lm0 EM_0 rfl wml_X12_206 wq_X12_fine rfl ⟨by decide, by decide⟩ rfl rfl ⟨by decide, by decide⟩ dX12_readsPart_53 56 rfl rfl (Nat.le_of_ble_eq_true rfl) ?_
  refine x_if_ne C dX12_readsPart_56 59 rfl 61 rfl h (fun h => ?_) (fun h => ?_)
  · refine x_aload_n C dX12_readsPart_61 62 rfl 1 rfl ?_
    refine x_iload_n C dX12_readsPart_62 63 rfl 2 rfl ?_
    refine x_iload_n C dX12_readsPart_63 64 rfl 3 rfl ?_
    refine x_iadd C dX12_readsPart_64 65 rfl ?_
    refine x_aload_n C dX12_readsPart_65 66 rfl 0 rfl ?_
    obtain ⟨r66, a66, hq, h⟩ := xb_some h
    refine x_callVi C 0 (c_X12_here C.2.2.2.2.2.2.1 hq) lm0 EM_0 rfl wml_X12_196 wq_X12_here rfl ⟨by decide, by decide⟩ rfl rfl ⟨by decide, by decide⟩ dX12_readsPart_66 69 rfl rfl (Nat.le_of_ble_eq_true rfl) ?_
    refine x_iast C x1 hx1.1 (hx1.2 _ _) 0 rfl dX12_readsPart_69 70 rfl h (fun a69 h => ?_)
    refine x_iinc C dX12_readsPart_70 73 rfl 3 rfl (d := 1) rfl (by decide) (fun v3_70 => [(3, .int v3_70), (0, .ref (ad 0)), (1, .ref (ad x1)), (2, .int v2)]) (fun _ => rfl) h (fun v3_70 h => ?_)
    refine x_aload_n C dX12_readsPart_73 74 rfl 1 rfl ?_
    refine x_dup C dX12_readsPart_74 75 rfl rfl ?_
    refine x_get C inX12 0 lm0 EM_0 rfl 4 (by decide) dX12_readsPart_75 78 rfl wmf_X12_189 rfl ?_
    refine x_iconst C dX12_readsPart_78 79 rfl 1 rfl ?_
    refine x_iadd C dX12_readsPart_79 80 rfl ?_
    refine x_put C inX12 0 lm0 EM_0 rfl 4 (by decide) tyX12_ok nmX12 dX12_readsPart_80 83 rfl wmf_X12_189 rfl rfl rfl (Nat.le_of_ble_eq_true rfl) EQ_0_4 h (fun a80 h => ?_)
    refine x_goto C dX12_readsPart_83 21 rfl ?_
    exact x_sub [1, 2, 3, 0] rfl (hk21 _ _ _ _ hx1 h)
  · refine x_iload_n C dX12_readsPart_59 60 rfl 3 rfl ?_
    exact x_iret C rfl dX12_readsPart_60 h
theorem b_X12_readsPart_21 (C : XC p l s m args meth c cX12_readsPart 4 (some .int) RX12 D vwCl (tysM ca) (EM ad ca) NCM ad) {N : Nat} {o : (Int32 × AH)} : ∀ (n : Nat) {ah : AH} {x1 : Nat} {v2 : Int32} {v3 : Int32} (hx1 : mI x1 6), F_X12_readsPart_21 N n ah x1 v2 v3 = some o → XW p l e rm_X12_readsPart s m args below meth c 4 0 (xQi below args s D vwCl (tysM ca) (EM ad ca) NCM ad o) D vwCl (EM ad ca) NCM ad ah 21 [(0, .ref (ad 0)), (1, .ref (ad x1)), (2, .int v2), (3, .int v3)] [] := by
  intro n
  induction n with
  | zero => intro ah x1 v2 v3 hx1 h; unfold F_X12_readsPart_21 at h; cases h
  | succ n ih =>
    intro ah x1 v2 v3 hx1 h
    unfold F_X12_readsPart_21 at h
    refine x_aload_n C dX12_readsPart_21 22 rfl 0 rfl ?_
    obtain ⟨r22, a22, hq, h⟩ := xb_some h
    refine x_callVi C 0 (c_X12_fine C.2.2.2.2.2.2.1 hq) lm0 EM_0 rfl wml_X12_206 wq_X12_fine rfl ⟨by decide, by decide⟩ rfl rfl ⟨by decide, by decide⟩ dX12_readsPart_22 25 rfl rfl (Nat.le_of_ble_eq_true rfl) ?_
    refine x_if_eq C dX12_readsPart_25 28 rfl 86 rfl h (fun h => ?_) (fun h => ?_)
    · refine x_iload_n C dX12_readsPart_86 87 rfl 3 rfl ?_
      exact x_iret C rfl dX12_readsPart_87 h
    · refine x_aload_n C dX12_readsPart_28 29 rfl 0 rfl ?_
      obtain ⟨r29, a29, hq, h⟩ := xb_some h
      refine x_callVi C 0 (c_X12_here C.2.2.2.2.2.2.1 hq) lm0 EM_0 rfl wml_X12_196 wq_X12_here rfl ⟨by decide, by decide⟩ rfl rfl ⟨by decide, by decide⟩ dX12_readsPart_29 32 rfl rfl (Nat.le_of_ble_eq_true rfl) ?_
      obtain ⟨r32, a32, hq, h⟩ := xb_some h
      refine x_callSi C (c_X12_isSmall C.2.2.2.2.2.2.1 hq) wml_X12_230 wq_X12_isSmall rfl ⟨by decide, by decide⟩ rfl rfl ⟨by decide, by decide⟩ dX12_readsPart_32 35 rfl rfl (Nat.le_of_ble_eq_true rfl) ?_
      refine x_if_eq C dX12_readsPart_35 38 rfl 86 rfl h (fun h => ?_) (fun h => ?_)
      · refine x_iload_n C dX12_readsPart_86 87 rfl 3 rfl ?_
        exact x_iret C rfl dX12_readsPart_87 h
      · refine x_iload_n C dX12_readsPart_38 39 rfl 3 rfl ?_
        refine x_iconst C dX12_readsPart_39 40 rfl 3 rfl ?_
        refine x_icmp_ne C dX12_readsPart_40 43 rfl 52 rfl h (fun h => ?_) (fun h => ?_)
        · exact b_X12_readsPart_52 C (fun _ _ _ _ g0 h => ih g0 h) hx1 h
        · refine x_aload_n C dX12_readsPart_43 44 rfl 0 rfl ?_
          refine x_iconst C dX12_readsPart_44 45 rfl 3 rfl ?_
          refine x_aload_n C dX12_readsPart_45 46 rfl 0 rfl ?_
          refine x_get C inX12 0 lm0 EM_0 rfl 4 (by decide) dX12_readsPart_46 49 rfl wmf_X12_189 rfl ?_
          obtain ⟨a49, hq, h⟩ := xbv_some h
          refine x_callVv C 0 (c_X12_wrong C.2.2.2.2.2.2.1 hq) lm0 EM_0 rfl wml_X12_214 wq_X12_wrong rfl ⟨by decide, by decide⟩ rfl rfl ⟨by decide, by decide⟩ dX12_readsPart_49 52 rfl rfl (Nat.le_of_ble_eq_true rfl) ?_
          exact b_X12_readsPart_52 C (fun _ _ _ _ g0 h => ih g0 h) hx1 h
theorem c_X12_readsPart {l : Launch} {D : va_G} {ca : Nat → ClassId} {ad : Nat → Nat} (hI : xInj ad NCM) {N : Nat} {ah : AH} {x1 : Nat} {p2 : Int32} (hx1 : mI x1 6) {r : Int32} {a : AH} (h : F_X12_readsPart N ah x1 p2 = some (r, a)) : xMi l yX12_readsPart cX12_readsPart 4 (some .int) rm_X12_readsPart D vwCl (tysM ca) (EM ad ca) NCM ad [.ref (ad 0), .ref (ad x1), .int p2] ah (r, a) := by
  refine x_meti (by decide) (Nat.le_of_ble_eq_true rfl) hI EM_loc ?_
  intro p e s m args below meth c C
  unfold F_X12_readsPart at h
  refine x_iconst C dX12_readsPart_0 1 rfl 0 rfl ?_
  refine x_istore_n C dX12_readsPart_1 2 rfl (by decide) (fun v3_1 => [(3, .int v3_1), (0, .ref (ad 0)), (1, .ref (ad x1)), (2, .int p2)]) (fun _ => rfl) h (fun v3_1 h => ?_)
  refine x_aload_n C dX12_readsPart_2 3 rfl 1 rfl ?_
  obtain ⟨r3, a3, hq, h⟩ := xb_some h
  refine x_callVi C 0 (c_X12_blanks C.2.2.2.2.2.2.1 hq) lm0 EM_0 rfl wml_X12_227 wq_X12_blanks rfl ⟨by decide, by decide⟩ rfl rfl ⟨by decide, by decide⟩ dX12_readsPart_3 6 rfl rfl (Nat.le_of_ble_eq_true rfl) ?_
  obtain ⟨r6, a6, hq, h⟩ := xb_some h
  refine x_callSi C (c_X12_isSmall C.2.2.2.2.2.2.1 hq) wml_X12_230 wq_X12_isSmall rfl ⟨by decide, by decide⟩ rfl rfl ⟨by decide, by decide⟩ dX12_readsPart_6 9 rfl rfl (Nat.le_of_ble_eq_true rfl) ?_
  refine x_if_ne C dX12_readsPart_9 12 rfl 21 rfl h (fun h => ?_) (fun h => ?_)
  · exact x_sub [1, 2, 3, 0] rfl (b_X12_readsPart_21 C  N hx1 h)
  · refine x_aload_n C dX12_readsPart_12 13 rfl 1 rfl ?_
    refine x_iconst C dX12_readsPart_13 14 rfl 1 rfl ?_
    refine x_aload_n C dX12_readsPart_14 15 rfl 1 rfl ?_
    refine x_get C inX12 0 lm0 EM_0 rfl 4 (by decide) dX12_readsPart_15 18 rfl wmf_X12_189 rfl ?_
    obtain ⟨a18, hq, h⟩ := xbv_some h
    refine x_callVv C 0 (c_X12_wrong C.2.2.2.2.2.2.1 hq) lm0 EM_0 rfl wml_X12_214 wq_X12_wrong rfl ⟨by decide, by decide⟩ rfl rfl ⟨by decide, by decide⟩ dX12_readsPart_18 21 rfl rfl (Nat.le_of_ble_eq_true rfl) ?_
    exact x_sub [1, 2, 3, 0] rfl (b_X12_readsPart_21 C  N hx1 h)
abbrev rm_X12_readsShape : Room := { frames := 4, cells := 0, slots := 0, locals := 84 }
theorem wq_X12_readsShape : xcV RX12 yX12_readsShape cX12_readsShape 7 none 1 := ⟨wmi_X12_readsShape, wms_X12_readsShape, wmn_X12, wmc_X12_readsShape, by decide, by decide, by decide +kernel⟩
def F_X12_readsShape_188 (N : Nat) (ah : AH) (y0 : Nat) (s1 : Int32) (s2 : Int32) : Option AH := xg s1 3 (xlet (xu ah y0 (Int32.toNatClampNeg s1) s2) (fun a188 => xbv (F_X12_closes N a188) (fun a190 => some a190)))
def F_X12_readsShape_187 (N : Nat) (ah : AH) (y0 : Nat) (s1 : Int32) : Option AH := F_X12_readsShape_188 N ah y0 s1 5
def F_X12_readsShape_158 (N : Nat) (ah : AH) (x3 : Nat) : Option AH := xb (F_X12_fine N ah) (fun r161 a161 => if r161 = 0 then F_X12_readsShape_187 N a161 x3 0 else xb (F_X12_blanks N a161) (fun r168 a168 => xb (F_X12_isDigit N a168 r168) (fun r171 a171 => if r171 = 0 then F_X12_readsShape_187 N a171 x3 0 else xb (F_X12_number N a171 1 99) (fun r181 a181 => F_X12_readsShape_188 N a181 x3 0 r181))))
def F_X12_readsShape_137 (N : Nat) (k109 : AH → Nat → Nat → Int32 → Int32 → Int32 → Option AH) (ah : AH) (x2 : Nat) (x3 : Nat) (v4 : Int32) (v6 : Int32) (s0 : Int32) (s1 : Int32) : Option AH := xlet (s0 &&& s1) (fun v5_138 => xlet (v6 + 1) (fun v6_140 => k109 ah x2 x3 v4 v5_138 v6_140))
def F_X12_readsShape_109 (N : Nat) : Nat → AH → Nat → Nat → Int32 → Int32 → Int32 → Option AH
  | 0, _, _, _, _, _, _ => none
  | n + 1, ah, x2, x3, v4, v5, v6 => if (ah x3 1) ≤ v6 then if v5 = 0 then F_X12_readsShape_158 N ah x3 else xbv (F_X12_wrong N ah 1 v4) (fun a155 => F_X12_readsShape_158 N a155 x3) else xg v6 6 (xg (3 + v6) 6 (if (ah x2 (Int32.toNatClampNeg v6)) = (ah x2 (Int32.toNatClampNeg (3 + v6))) then F_X12_readsShape_137 N (F_X12_readsShape_109 N n) ah x2 x3 v4 v6 v5 1 else F_X12_readsShape_137 N (F_X12_readsShape_109 N n) ah x2 x3 v4 v6 v5 0))
def F_X12_readsShape_104 (N : Nat) (ah : AH) (x2 : Nat) (x3 : Nat) (v4 : Int32) (s0 : Int32) : Option AH := xlet s0 (fun v5_104 => xlet 0 (fun v6_107 => F_X12_readsShape_109 N N ah x2 x3 v4 v5_104 v6_107))
def F_X12_readsShape_52 (N : Nat) (ah : AH) (x2 : Nat) (x3 : Nat) : Option AH := xlet (xu ah 0 4 ((ah 0 4) + 1)) (fun a59 => xb (F_X12_fine N a59) (fun r63 a63 => if r63 = 0 then some a63 else xb (F_X12_blanks N a63) (fun r71 a71 => xlet (a71 0 4) (fun v4_79 => xb (F_X12_readsPart N a71 x2 3) (fun r86 a86 => xlet (xu a86 x3 2 r86) (fun a89 => if (a89 x3 1) = (a89 x3 2) then F_X12_readsShape_104 N a89 x2 x3 v4_79 1 else F_X12_readsShape_104 N a89 x2 x3 v4_79 0))))))
def F_X12_readsShape (N : Nat) (ah : AH) (p1 : Int32) : Option AH := xg p1 20 (xlet (115 + (1 * 20 + Int32.toNatClampNeg p1)) (fun x7 => xg p1 20 (xlet (157 + (1 * 20 + Int32.toNatClampNeg p1)) (fun x16 => xb (F_X12_readsPart N ah x7 0) (fun r23 a23 => xlet (xu a23 x16 1 r23) (fun a26 => xb (F_X12_fine N a26) (fun r28 a28 => if r28 = 0 then F_X12_readsShape_52 N a28 x7 x16 else xb (F_X12_here N a28) (fun r35 a35 => if r35 = 61 then F_X12_readsShape_52 N a35 x7 x16 else xbv (F_X12_wrong N a35 1 (a35 0 4)) (fun a49 => F_X12_readsShape_52 N a49 x7 x16)))))))))
theorem b_X12_readsShape_188 (C : XC p l s m args meth c cX12_readsShape 7 none RX12 D vwCl (tysM ca) (EM ad ca) NCM ad) {N : Nat} {o : AH} {ah : AH} {y0 : Nat} {s1 : Int32} {s2 : Int32} (hy0 : mI y0 3) (h : F_X12_readsShape_188 N ah y0 s1 s2 = some o) : XW p l e rm_X12_readsShape s m args below meth c 7 0 (xQv below args s D vwCl (tysM ca) (EM ad ca) NCM ad o) D vwCl (EM ad ca) NCM ad ah 188 [(0, .ref (ad 0))] [.int s2, .int s1, .ref (ad y0)] := by
  unfold F_X12_readsShape_188 at h
  refine x_iast C y0 hy0.1 (hy0.2 _ _) 0 rfl dX12_readsShape_188 189 rfl h (fun a188 h => ?_)
  refine x_aload_n C dX12_readsShape_189 190 rfl 0 rfl ?_
  obtain ⟨a190, hq, h⟩ := xbv_some h
  refine x_callVv C 0 (c_X12_closes C.2.2.2.2.2.2.1 hq) lm0 EM_0 rfl wml_X12_242 wq_X12_closes rfl ⟨by decide, by decide⟩ rfl rfl ⟨by decide, by decide⟩ dX12_readsShape_190 193 rfl rfl (Nat.le_of_ble_eq_true rfl) ?_
  exact x_vret C rfl dX12_readsShape_193 h
theorem b_X12_readsShape_187 (C : XC p l s m args meth c cX12_readsShape 7 none RX12 D vwCl (tysM ca) (EM ad ca) NCM ad) {N : Nat} {o : AH} {ah : AH} {y0 : Nat} {s1 : Int32} (hy0 : mI y0 3) (h : F_X12_readsShape_187 N ah y0 s1 = some o) : XW p l e rm_X12_readsShape s m args below meth c 7 0 (xQv below args s D vwCl (tysM ca) (EM ad ca) NCM ad o) D vwCl (EM ad ca) NCM ad ah 187 [(0, .ref (ad 0))] [.int s1, .ref (ad y0)] := by
  unfold F_X12_readsShape_187 at h
  refine x_iconst C dX12_readsShape_187 188 rfl 5 rfl ?_
  exact b_X12_readsShape_188 C  hy0 h
theorem b_X12_readsShape_158 (C : XC p l s m args meth c cX12_readsShape 7 none RX12 D vwCl (tysM ca) (EM ad ca) NCM ad) {N : Nat} {o : AH} {ah : AH} {x3 : Nat} (hx3 : mI x3 3) (h : F_X12_readsShape_158 N ah x3 = some o) : XW p l e rm_X12_readsShape s m args below meth c 7 0 (xQv below args s D vwCl (tysM ca) (EM ad ca) NCM ad o) D vwCl (EM ad ca) NCM ad ah 158 [(0, .ref (ad 0)), (3, .ref (ad x3))] [] := by
  unfold F_X12_readsShape_158 at h
  refine x_aload_n C dX12_readsShape_158 159 rfl 1 rfl ?_
  refine x_iconst C dX12_readsShape_159 160 rfl 0 rfl ?_
  refine x_aload_n C dX12_readsShape_160 161 rfl 0 rfl ?_
  obtain ⟨r161, a161, hq, h⟩ := xb_some h
  refine x_callVi C 0 (c_X12_fine C.2.2.2.2.2.2.1 hq) lm0 EM_0 rfl wml_X12_206 wq_X12_fine rfl ⟨by decide, by decide⟩ rfl rfl ⟨by decide, by decide⟩ dX12_readsShape_161 164 rfl rfl (Nat.le_of_ble_eq_true rfl) ?_
  refine x_if_eq C dX12_readsShape_164 167 rfl 187 rfl h (fun h => ?_) (fun h => ?_)
  · exact x_sub [0] rfl (b_X12_readsShape_187 C  hx3 h)
  · refine x_aload_n C dX12_readsShape_167 168 rfl 0 rfl ?_
    obtain ⟨r168, a168, hq, h⟩ := xb_some h
    refine x_callVi C 0 (c_X12_blanks C.2.2.2.2.2.2.1 hq) lm0 EM_0 rfl wml_X12_227 wq_X12_blanks rfl ⟨by decide, by decide⟩ rfl rfl ⟨by decide, by decide⟩ dX12_readsShape_168 171 rfl rfl (Nat.le_of_ble_eq_true rfl) ?_
    obtain ⟨r171, a171, hq, h⟩ := xb_some h
    refine x_callSi C (c_X12_isDigit C.2.2.2.2.2.2.1 hq) wml_X12_210 wq_X12_isDigit rfl ⟨by decide, by decide⟩ rfl rfl ⟨by decide, by decide⟩ dX12_readsShape_171 174 rfl rfl (Nat.le_of_ble_eq_true rfl) ?_
    refine x_if_eq C dX12_readsShape_174 177 rfl 187 rfl h (fun h => ?_) (fun h => ?_)
    · exact x_sub [0] rfl (b_X12_readsShape_187 C  hx3 h)
    · refine x_aload_n C dX12_readsShape_177 178 rfl 0 rfl ?_
      refine x_iconst C dX12_readsShape_178 179 rfl 1 rfl ?_
      refine x_bipush C dX12_readsShape_179 181 rfl 99 rfl ?_
      obtain ⟨r181, a181, hq, h⟩ := xb_some h
      refine x_callVi C 0 (c_X12_number C.2.2.2.2.2.2.1 hq) lm0 EM_0 rfl wml_X12_239 wq_X12_number rfl ⟨by decide, by decide⟩ rfl rfl ⟨by decide, by decide⟩ dX12_readsShape_181 184 rfl rfl (Nat.le_of_ble_eq_true rfl) ?_
      refine x_goto C dX12_readsShape_184 188 rfl ?_
      exact x_sub [0] rfl (b_X12_readsShape_188 C  hx3 h)
theorem b_X12_readsShape_137 (C : XC p l s m args meth c cX12_readsShape 7 none RX12 D vwCl (tysM ca) (EM ad ca) NCM ad) {N : Nat} {o : AH} {k109 : AH → Nat → Nat → Int32 → Int32 → Int32 → Option AH} (hk109 : ∀ (ah : AH) (x2 : Nat) (x3 : Nat) (v4 : Int32) (v5 : Int32) (v6 : Int32) (hx2 : mI x2 6) (hx3 : mI x3 3), k109 ah x2 x3 v4 v5 v6 = some o → XW p l e rm_X12_readsShape s m args below meth c 7 0 (xQv below args s D vwCl (tysM ca) (EM ad ca) NCM ad o) D vwCl (EM ad ca) NCM ad ah 109 [(0, .ref (ad 0)), (2, .ref (ad x2)), (3, .ref (ad x3)), (4, .int v4), (5, .int v5), (6, .int v6)] []) {ah : AH} {x2 : Nat} {x3 : Nat} {v4 : Int32} {v6 : Int32} {s0 : Int32} {s1 : Int32} (hx2 : mI x2 6) (hx3 : mI x3 3) (h : F_X12_readsShape_137 N k109 ah x2 x3 v4 v6 s0 s1 = some o) : XW p l e rm_X12_readsShape s m args below meth c 7 0 (xQv below args s D vwCl (tysM ca) (EM ad ca) NCM ad o) D vwCl (EM ad ca) NCM ad ah 137 [(0, .ref (ad 0)), (2, .ref (ad x2)), (3, .ref (ad x3)), (4, .int v4), (6, .int v6)] [.int s1, .int s0] := by
  unfold F_X12_readsShape_137 at h
  refine x_iand C dX12_readsShape_137 138 rfl ?_
  refine x_istore C dX12_readsShape_138 140 rfl (by decide) (fun v5_138 => [(5, .int v5_138), (0, .ref (ad 0)), (2, .ref (ad x2)), (3, .ref (ad x3)), (4, .int v4), (6, .int v6)]) (fun _ => rfl) h (fun v5_138 h => ?_)
  refine x_iinc C dX12_readsShape_140 143 rfl 5 rfl (d := 1) rfl (by decide) (fun v6_140 => [(6, .int v6_140), (5, .int v5_138), (0, .ref (ad 0)), (2, .ref (ad x2)), (3, .ref (ad x3)), (4, .int v4)]) (fun _ => rfl) h (fun v6_140 h => ?_)
  refine x_goto C dX12_readsShape_143 109 rfl ?_
  exact x_sub [2, 3, 4, 5, 1, 0] rfl (hk109 _ _ _ _ _ _ hx2 hx3 h)
theorem b_X12_readsShape_109 (C : XC p l s m args meth c cX12_readsShape 7 none RX12 D vwCl (tysM ca) (EM ad ca) NCM ad) {N : Nat} {o : AH} : ∀ (n : Nat) {ah : AH} {x2 : Nat} {x3 : Nat} {v4 : Int32} {v5 : Int32} {v6 : Int32} (hx2 : mI x2 6) (hx3 : mI x3 3), F_X12_readsShape_109 N n ah x2 x3 v4 v5 v6 = some o → XW p l e rm_X12_readsShape s m args below meth c 7 0 (xQv below args s D vwCl (tysM ca) (EM ad ca) NCM ad o) D vwCl (EM ad ca) NCM ad ah 109 [(0, .ref (ad 0)), (2, .ref (ad x2)), (3, .ref (ad x3)), (4, .int v4), (5, .int v5), (6, .int v6)] [] := by
  intro n
  induction n with
  | zero => intro ah x2 x3 v4 v5 v6 hx2 hx3 h; unfold F_X12_readsShape_109 at h; cases h
  | succ n ih =>
    intro ah x2 x3 v4 v5 v6 hx2 hx3 h
    unfold F_X12_readsShape_109 at h
    refine x_iload C dX12_readsShape_109 111 rfl 5 rfl ?_
    refine x_aload_n C dX12_readsShape_111 112 rfl 2 rfl ?_
    refine x_iconst C dX12_readsShape_112 113 rfl 1 rfl ?_
    refine x_ialdK C x3 hx3.1 (hx3.2 _ _ _) 0 rfl dX12_readsShape_113 114 rfl (by decide) 1 (by decide) ?_
    refine x_icmp_ge C dX12_readsShape_114 117 rfl 146 rfl h (fun h => ?_) (fun h => ?_)
    · refine x_iload C dX12_readsShape_146 148 rfl 4 rfl ?_
      refine x_if_eq C dX12_readsShape_148 151 rfl 158 rfl h (fun h => ?_) (fun h => ?_)
      · exact x_sub [0, 2] rfl (b_X12_readsShape_158 C  hx3 h)
      · refine x_aload_n C dX12_readsShape_151 152 rfl 0 rfl ?_
        refine x_iconst C dX12_readsShape_152 153 rfl 1 rfl ?_
        refine x_iload C dX12_readsShape_153 155 rfl 3 rfl ?_
        obtain ⟨a155, hq, h⟩ := xbv_some h
        refine x_callVv C 0 (c_X12_wrong C.2.2.2.2.2.2.1 hq) lm0 EM_0 rfl wml_X12_214 wq_X12_wrong rfl ⟨by decide, by decide⟩ rfl rfl ⟨by decide, by decide⟩ dX12_readsShape_155 158 rfl rfl (Nat.le_of_ble_eq_true rfl) ?_
        exact x_sub [0, 2] rfl (b_X12_readsShape_158 C  hx3 h)
    · refine x_iload C dX12_readsShape_117 119 rfl 4 rfl ?_
      refine x_aload_n C dX12_readsShape_119 120 rfl 1 rfl ?_
      refine x_iload C dX12_readsShape_120 122 rfl 5 rfl ?_
      refine x_iald C x2 hx2.1 (hx2.2 _ _ _) 0 rfl dX12_readsShape_122 123 rfl h (fun h => ?_)
      refine x_aload_n C dX12_readsShape_123 124 rfl 1 rfl ?_
      refine x_iconst C dX12_readsShape_124 125 rfl 3 rfl ?_
      refine x_iload C dX12_readsShape_125 127 rfl 5 rfl ?_
      refine x_iadd C dX12_readsShape_127 128 rfl ?_
      refine x_iald C x2 hx2.1 (hx2.2 _ _ _) 0 rfl dX12_readsShape_128 129 rfl h (fun h => ?_)
      refine x_icmp_ne C dX12_readsShape_129 132 rfl 136 rfl h (fun h => ?_) (fun h => ?_)
      · refine x_iconst C dX12_readsShape_136 137 rfl 0 rfl ?_
        exact x_sub [0, 1, 2, 3, 5] rfl (b_X12_readsShape_137 C (fun _ _ _ _ _ _ g0 g1 h => ih g0 g1 h) hx2 hx3 h)
      · refine x_iconst C dX12_readsShape_132 133 rfl 1 rfl ?_
        refine x_goto C dX12_readsShape_133 137 rfl ?_
        exact x_sub [0, 1, 2, 3, 5] rfl (b_X12_readsShape_137 C (fun _ _ _ _ _ _ g0 g1 h => ih g0 g1 h) hx2 hx3 h)
theorem b_X12_readsShape_104 (C : XC p l s m args meth c cX12_readsShape 7 none RX12 D vwCl (tysM ca) (EM ad ca) NCM ad) {N : Nat} {o : AH} {ah : AH} {x2 : Nat} {x3 : Nat} {v4 : Int32} {s0 : Int32} (hx2 : mI x2 6) (hx3 : mI x3 3) (h : F_X12_readsShape_104 N ah x2 x3 v4 s0 = some o) : XW p l e rm_X12_readsShape s m args below meth c 7 0 (xQv below args s D vwCl (tysM ca) (EM ad ca) NCM ad o) D vwCl (EM ad ca) NCM ad ah 104 [(0, .ref (ad 0)), (2, .ref (ad x2)), (3, .ref (ad x3)), (4, .int v4)] [.int s0] := by
  unfold F_X12_readsShape_104 at h
  refine x_istore C dX12_readsShape_104 106 rfl (by decide) (fun v5_104 => [(5, .int v5_104), (0, .ref (ad 0)), (2, .ref (ad x2)), (3, .ref (ad x3)), (4, .int v4)]) (fun _ => rfl) h (fun v5_104 h => ?_)
  refine x_iconst C dX12_readsShape_106 107 rfl 0 rfl ?_
  refine x_istore C dX12_readsShape_107 109 rfl (by decide) (fun v6_107 => [(6, .int v6_107), (5, .int v5_104), (0, .ref (ad 0)), (2, .ref (ad x2)), (3, .ref (ad x3)), (4, .int v4)]) (fun _ => rfl) h (fun v6_107 h => ?_)
  exact x_sub [2, 3, 4, 5, 1, 0] rfl (b_X12_readsShape_109 C  N hx2 hx3 h)
theorem b_X12_readsShape_52 (C : XC p l s m args meth c cX12_readsShape 7 none RX12 D vwCl (tysM ca) (EM ad ca) NCM ad) {N : Nat} {o : AH} {ah : AH} {x2 : Nat} {x3 : Nat} (hx2 : mI x2 6) (hx3 : mI x3 3) (h : F_X12_readsShape_52 N ah x2 x3 = some o) : XW p l e rm_X12_readsShape s m args below meth c 7 0 (xQv below args s D vwCl (tysM ca) (EM ad ca) NCM ad o) D vwCl (EM ad ca) NCM ad ah 52 [(0, .ref (ad 0)), (2, .ref (ad x2)), (3, .ref (ad x3))] [] := by
  unfold F_X12_readsShape_52 at h
  refine x_aload_n C dX12_readsShape_52 53 rfl 0 rfl ?_
  refine x_dup C dX12_readsShape_53 54 rfl rfl ?_
  refine x_get C inX12 0 lm0 EM_0 rfl 4 (by decide) dX12_readsShape_54 57 rfl wmf_X12_189 rfl ?_
  refine x_iconst C dX12_readsShape_57 58 rfl 1 rfl ?_
  refine x_iadd C dX12_readsShape_58 59 rfl ?_
  refine x_put C inX12 0 lm0 EM_0 rfl 4 (by decide) tyX12_ok nmX12 dX12_readsShape_59 62 rfl wmf_X12_189 rfl rfl rfl (Nat.le_of_ble_eq_true rfl) EQ_0_4 h (fun a59 h => ?_)
  refine x_aload_n C dX12_readsShape_62 63 rfl 0 rfl ?_
  obtain ⟨r63, a63, hq, h⟩ := xb_some h
  refine x_callVi C 0 (c_X12_fine C.2.2.2.2.2.2.1 hq) lm0 EM_0 rfl wml_X12_206 wq_X12_fine rfl ⟨by decide, by decide⟩ rfl rfl ⟨by decide, by decide⟩ dX12_readsShape_63 66 rfl rfl (Nat.le_of_ble_eq_true rfl) ?_
  refine x_if_ne C dX12_readsShape_66 69 rfl 70 rfl h (fun h => ?_) (fun h => ?_)
  · refine x_aload_n C dX12_readsShape_70 71 rfl 0 rfl ?_
    obtain ⟨r71, a71, hq, h⟩ := xb_some h
    refine x_callVi C 0 (c_X12_blanks C.2.2.2.2.2.2.1 hq) lm0 EM_0 rfl wml_X12_227 wq_X12_blanks rfl ⟨by decide, by decide⟩ rfl rfl ⟨by decide, by decide⟩ dX12_readsShape_71 74 rfl rfl (Nat.le_of_ble_eq_true rfl) ?_
    refine x_pop C dX12_readsShape_74 75 rfl rfl ?_
    refine x_aload_n C dX12_readsShape_75 76 rfl 0 rfl ?_
    refine x_get C inX12 0 lm0 EM_0 rfl 4 (by decide) dX12_readsShape_76 79 rfl wmf_X12_189 rfl ?_
    refine x_istore C dX12_readsShape_79 81 rfl (by decide) (fun v4_79 => [(4, .int v4_79), (0, .ref (ad 0)), (2, .ref (ad x2)), (3, .ref (ad x3))]) (fun _ => rfl) h (fun v4_79 h => ?_)
    refine x_aload_n C dX12_readsShape_81 82 rfl 3 rfl ?_
    refine x_iconst C dX12_readsShape_82 83 rfl 2 rfl ?_
    refine x_aload_n C dX12_readsShape_83 84 rfl 1 rfl ?_
    refine x_aload_n C dX12_readsShape_84 85 rfl 2 rfl ?_
    refine x_iconst C dX12_readsShape_85 86 rfl 3 rfl ?_
    obtain ⟨r86, a86, hq, h⟩ := xb_some h
    refine x_callVi C 0 (c_X12_readsPart C.2.2.2.2.2.2.1 hx2 hq) lm0 EM_0 rfl wml_X12_288 wq_X12_readsPart rfl ⟨by decide, by decide⟩ rfl rfl ⟨by decide, by decide⟩ dX12_readsShape_86 89 rfl rfl (Nat.le_of_ble_eq_true rfl) ?_
    refine x_iastK C x3 hx3.1 (hx3.2 _ _) 0 rfl dX12_readsShape_89 90 rfl (by decide) 2 (by decide) h (fun a89 h => ?_)
    refine x_aload_n C dX12_readsShape_90 91 rfl 3 rfl ?_
    refine x_iconst C dX12_readsShape_91 92 rfl 1 rfl ?_
    refine x_ialdK C x3 hx3.1 (hx3.2 _ _ _) 0 rfl dX12_readsShape_92 93 rfl (by decide) 1 (by decide) ?_
    refine x_aload_n C dX12_readsShape_93 94 rfl 3 rfl ?_
    refine x_iconst C dX12_readsShape_94 95 rfl 2 rfl ?_
    refine x_ialdK C x3 hx3.1 (hx3.2 _ _ _) 0 rfl dX12_readsShape_95 96 rfl (by decide) 2 (by decide) ?_
    refine x_icmp_ne C dX12_readsShape_96 99 rfl 103 rfl h (fun h => ?_) (fun h => ?_)
    · refine x_iconst C dX12_readsShape_103 104 rfl 0 rfl ?_
      exact x_sub [1, 2, 3, 0] rfl (b_X12_readsShape_104 C  hx2 hx3 h)
    · refine x_iconst C dX12_readsShape_99 100 rfl 1 rfl ?_
      refine x_goto C dX12_readsShape_100 104 rfl ?_
      exact x_sub [1, 2, 3, 0] rfl (b_X12_readsShape_104 C  hx2 hx3 h)
  · exact x_vret C rfl dX12_readsShape_69 h
theorem c_X12_readsShape {l : Launch} {D : va_G} {ca : Nat → ClassId} {ad : Nat → Nat} (hI : xInj ad NCM) {N : Nat} {ah : AH} {p1 : Int32} {a : AH} (h : F_X12_readsShape N ah p1 = some a) : xMv l yX12_readsShape cX12_readsShape 7 rm_X12_readsShape D vwCl (tysM ca) (EM ad ca) NCM ad [.ref (ad 0), .int p1] ah a := by
  refine x_metv (by decide) (Nat.le_of_ble_eq_true rfl) hI EM_loc ?_
  intro p e s m args below meth c C
  unfold F_X12_readsShape at h
  refine x_aload_n C dX12_readsShape_0 1 rfl 0 rfl ?_
  refine x_get C inX12 0 lm0 EM_0 rfl 22 (by decide) dX12_readsShape_1 4 rfl wmf_X12_60 rfl ?_
  refine x_iconst C dX12_readsShape_4 5 rfl 1 rfl ?_
  refine x_aaldK C (14) lm14 EM_14 3 rfl rfl (by decide) 1 (by decide) dX12_readsShape_5 6 rfl (113 + 1) rfl ?_
  refine x_iload_n C dX12_readsShape_6 7 rfl 1 rfl ?_
  refine x_aaldL C (113 + 1) (lm_part_1 (show 1 < 2 by decide)) (EM_part_1 (show 1 < 2 by decide)) 2 rfl rfl dX12_readsShape_7 8 rfl (115 + (1 * 20 + Int32.toNatClampNeg p1)) rfl h (fun x7 ex7 hb7 h => ?_)
  have hx7 : mI x7 6 := ex7 ▸ mI_part (xfl (show 1 < 2 by decide) hb7)
  refine x_astore_n C dX12_readsShape_8 9 rfl (by decide) [(2, .ref (ad x7)), (0, .ref (ad 0)), (1, .int p1)] rfl ?_
  refine x_aload_n C dX12_readsShape_9 10 rfl 1 rfl ?_
  refine x_get C inX12 0 lm0 EM_0 rfl 23 (by decide) dX12_readsShape_10 13 rfl wmf_X12_63 rfl ?_
  refine x_iconst C dX12_readsShape_13 14 rfl 1 rfl ?_
  refine x_aaldK C (15) lm15 EM_15 3 rfl rfl (by decide) 1 (by decide) dX12_readsShape_14 15 rfl (155 + 1) rfl ?_
  refine x_iload_n C dX12_readsShape_15 16 rfl 2 rfl ?_
  refine x_aaldL C (155 + 1) (lm_shape_1 (show 1 < 2 by decide)) (EM_shape_1 (show 1 < 2 by decide)) 2 rfl rfl dX12_readsShape_16 17 rfl (157 + (1 * 20 + Int32.toNatClampNeg p1)) rfl h (fun x16 ex16 hb16 h => ?_)
  have hx16 : mI x16 3 := ex16 ▸ mI_shape (xfl (show 1 < 2 by decide) hb16)
  refine x_astore_n C dX12_readsShape_17 18 rfl (by decide) [(3, .ref (ad x16)), (2, .ref (ad x7)), (0, .ref (ad 0)), (1, .int p1)] rfl ?_
  refine x_aload_n C dX12_readsShape_18 19 rfl 0 rfl ?_
  refine x_iconst C dX12_readsShape_19 20 rfl 1 rfl ?_
  refine x_aload_n C dX12_readsShape_20 21 rfl 2 rfl ?_
  refine x_aload_n C dX12_readsShape_21 22 rfl 1 rfl ?_
  refine x_iconst C dX12_readsShape_22 23 rfl 0 rfl ?_
  obtain ⟨r23, a23, hq, h⟩ := xb_some h
  refine x_callVi C 0 (c_X12_readsPart C.2.2.2.2.2.2.1 hx7 hq) lm0 EM_0 rfl wml_X12_288 wq_X12_readsPart rfl ⟨by decide, by decide⟩ rfl rfl ⟨by decide, by decide⟩ dX12_readsShape_23 26 rfl rfl (Nat.le_of_ble_eq_true rfl) ?_
  refine x_iastK C x16 hx16.1 (hx16.2 _ _) 0 rfl dX12_readsShape_26 27 rfl (by decide) 1 (by decide) h (fun a26 h => ?_)
  refine x_aload_n C dX12_readsShape_27 28 rfl 2 rfl ?_
  obtain ⟨r28, a28, hq, h⟩ := xb_some h
  refine x_callVi C 0 (c_X12_fine C.2.2.2.2.2.2.1 hq) lm0 EM_0 rfl wml_X12_206 wq_X12_fine rfl ⟨by decide, by decide⟩ rfl rfl ⟨by decide, by decide⟩ dX12_readsShape_28 31 rfl rfl (Nat.le_of_ble_eq_true rfl) ?_
  refine x_if_eq C dX12_readsShape_31 34 rfl 52 rfl h (fun h => ?_) (fun h => ?_)
  · exact x_sub [2, 1, 0] rfl (b_X12_readsShape_52 C  hx7 hx16 h)
  · refine x_aload_n C dX12_readsShape_34 35 rfl 2 rfl ?_
    obtain ⟨r35, a35, hq, h⟩ := xb_some h
    refine x_callVi C 0 (c_X12_here C.2.2.2.2.2.2.1 hq) lm0 EM_0 rfl wml_X12_196 wq_X12_here rfl ⟨by decide, by decide⟩ rfl rfl ⟨by decide, by decide⟩ dX12_readsShape_35 38 rfl rfl (Nat.le_of_ble_eq_true rfl) ?_
    refine x_bipush C dX12_readsShape_38 40 rfl 61 rfl ?_
    refine x_icmp_eq C dX12_readsShape_40 43 rfl 52 rfl h (fun h => ?_) (fun h => ?_)
    · exact x_sub [2, 1, 0] rfl (b_X12_readsShape_52 C  hx7 hx16 h)
    · refine x_aload_n C dX12_readsShape_43 44 rfl 2 rfl ?_
      refine x_iconst C dX12_readsShape_44 45 rfl 1 rfl ?_
      refine x_aload_n C dX12_readsShape_45 46 rfl 2 rfl ?_
      refine x_get C inX12 0 lm0 EM_0 rfl 4 (by decide) dX12_readsShape_46 49 rfl wmf_X12_189 rfl ?_
      obtain ⟨a49, hq, h⟩ := xbv_some h
      refine x_callVv C 0 (c_X12_wrong C.2.2.2.2.2.2.1 hq) lm0 EM_0 rfl wml_X12_214 wq_X12_wrong rfl ⟨by decide, by decide⟩ rfl rfl ⟨by decide, by decide⟩ dX12_readsShape_49 52 rfl rfl (Nat.le_of_ble_eq_true rfl) ?_
      exact x_sub [2, 1, 0] rfl (b_X12_readsShape_52 C  hx7 hx16 h)
abbrev rm_X12_shapes : Room := { frames := 5, cells := 0, slots := 0, locals := 110 }
theorem wq_X12_shapes : xcV RX12 yX12_shapes cX12_shapes 4 (some .int) 1 := ⟨wmi_X12_shapes, wms_X12_shapes, wmn_X12, wmc_X12_shapes, by decide, by decide, by decide +kernel⟩
def F_X12_shapes_208 (N : Nat) (k162 : AH → Int32 → Option (Int32 × AH)) : Nat → AH → Int32 → Int32 → Option (Int32 × AH)
  | 0, _, _, _ => none
  | n + 1, ah, v2, v3 => if 3 ≤ v3 then xlet (v2 + 1) (fun v2_239 => k162 ah v2_239) else xg v2 20 (xlet (157 + (0 * 20 + Int32.toNatClampNeg v2)) (fun x220 => xg v2 20 (xlet (157 + (1 * 20 + Int32.toNatClampNeg v2)) (fun x229 => xg v3 3 (xg v3 3 (xlet (xu ah x220 (Int32.toNatClampNeg v3) (ah x229 (Int32.toNatClampNeg v3))) (fun a232 => xlet (v3 + 1) (fun v3_233 => F_X12_shapes_208 N k162 n a232 v2 v3_233))))))))
def F_X12_shapes_174 (N : Nat) (k162 : AH → Int32 → Option (Int32 × AH)) : Nat → AH → Int32 → Int32 → Option (Int32 × AH)
  | 0, _, _, _ => none
  | n + 1, ah, v2, v3 => if 6 ≤ v3 then xlet 0 (fun v3_207 => F_X12_shapes_208 N k162 N ah v2 v3_207) else xg v2 20 (xlet (115 + (0 * 20 + Int32.toNatClampNeg v2)) (fun x187 => xg v2 20 (xlet (115 + (1 * 20 + Int32.toNatClampNeg v2)) (fun x196 => xg v3 6 (xg v3 6 (xlet (xu ah x187 (Int32.toNatClampNeg v3) (ah x196 (Int32.toNatClampNeg v3))) (fun a199 => xlet (v3 + 1) (fun v3_200 => F_X12_shapes_174 N k162 n a199 v2 v3_200))))))))
def F_X12_shapes_162 (N : Nat) : Nat → AH → Int32 → Option (Int32 × AH)
  | 0, _, _ => none
  | n + 1, ah, v2 => if (ah 13 0) ≤ v2 then xb (F_X12_ends N ah (ah 13 0)) (fun r252 a252 => some (r252, a252)) else xlet 0 (fun v3_173 => F_X12_shapes_174 N (F_X12_shapes_162 N n) N ah v2 v3_173)
def F_X12_shapes_135 (N : Nat) (ah : AH) : Option (Int32 × AH) := xb (F_X12_fine N ah) (fun r136 a136 => if r136 = 0 then xb (F_X12_ends N a136 0) (fun r144 a144 => some (r144, a144)) else xlet (xu a136 13 0 (a136 13 1)) (fun a159 => xlet 0 (fun v2_161 => F_X12_shapes_162 N N a159 v2_161)))
def F_X12_shapes_102 (N : Nat) (k45 : AH → Option (Int32 × AH)) (ah : AH) : Option (Int32 × AH) := xb (F_X12_fine N ah) (fun r103 a103 => if r103 = 0 then F_X12_shapes_135 N a103 else xbv (F_X12_readsShape N a103 (a103 13 1)) (fun a119 => xlet (xu a119 13 1 ((a119 13 1) + 1)) (fun a131 => k45 a131)))
def F_X12_shapes_45 (N : Nat) : Nat → AH → Option (Int32 × AH)
  | 0, _ => none
  | n + 1, ah => xb (F_X12_fine N ah) (fun r46 a46 => if r46 = 0 then F_X12_shapes_135 N a46 else xb (F_X12_blanks N a46) (fun r53 a53 => if r53 = ((-1)) then F_X12_shapes_135 N a53 else xb (F_X12_here N a53) (fun r61 a61 => xb (F_X12_isSmall N a61 r61) (fun r64 a64 => if r64 = 0 then xbv (F_X12_wrong N a64 1 (a64 0 4)) (fun a76 => F_X12_shapes_102 N (F_X12_shapes_45 N n) a76) else if (a64 13 1) = 20 then xbv (F_X12_wrong N a64 3 (a64 0 4)) (fun a99 => F_X12_shapes_102 N (F_X12_shapes_45 N n) a99) else F_X12_shapes_102 N (F_X12_shapes_45 N n) a64))))
def F_X12_shapes_23 (N : Nat) (ah : AH) (v1 : Int32) (s1 : Int32) : Option (Int32 × AH) := xb (F_X12_bad N ah s1 1 1) (fun r25 a25 => if r25 = 0 then xbv (F_X12_starts N a25 v1) (fun a35 => xlet (xu a35 13 1 0) (fun a44 => F_X12_shapes_45 N N a44)) else some (0, a25))
def F_X12_shapes (N : Nat) (ah : AH) (p1 : Int32) : Option (Int32 × AH) := xlet (xu ah 0 0 0) (fun a2 => xb (F_X12_in N a2 p1 0 (a2 0 2)) (fun r12 a12 => if r12 = 0 then F_X12_shapes_23 N a12 p1 1 else F_X12_shapes_23 N a12 p1 0))
theorem b_X12_shapes_208 (C : XC p l s m args meth c cX12_shapes 4 (some .int) RX12 D vwCl (tysM ca) (EM ad ca) NCM ad) {N : Nat} {o : (Int32 × AH)} {k162 : AH → Int32 → Option (Int32 × AH)} (hk162 : ∀ (ah : AH) (v2 : Int32), k162 ah v2 = some o → XW p l e rm_X12_shapes s m args below meth c 4 0 (xQi below args s D vwCl (tysM ca) (EM ad ca) NCM ad o) D vwCl (EM ad ca) NCM ad ah 162 [(0, .ref (ad 0)), (2, .int v2)] []) : ∀ (n : Nat) {ah : AH} {v2 : Int32} {v3 : Int32}, F_X12_shapes_208 N k162 n ah v2 v3 = some o → XW p l e rm_X12_shapes s m args below meth c 4 0 (xQi below args s D vwCl (tysM ca) (EM ad ca) NCM ad o) D vwCl (EM ad ca) NCM ad ah 208 [(0, .ref (ad 0)), (2, .int v2), (3, .int v3)] [] := by
  intro n
  induction n with
  | zero => intro ah v2 v3 h; unfold F_X12_shapes_208 at h; cases h
  | succ n ih =>
    intro ah v2 v3 h
    unfold F_X12_shapes_208 at h
    refine x_iload_n C dX12_shapes_208 209 rfl 2 rfl ?_
    refine x_iconst C dX12_shapes_209 210 rfl 3 rfl ?_
    refine x_icmp_ge C dX12_shapes_210 213 rfl 239 rfl h (fun h => ?_) (fun h => ?_)
    · refine x_iinc C dX12_shapes_239 242 rfl 1 rfl (d := 1) rfl (by decide) (fun v2_239 => [(2, .int v2_239), (0, .ref (ad 0)), (3, .int v3)]) (fun _ => rfl) h (fun v2_239 h => ?_)
      refine x_goto C dX12_shapes_242 162 rfl ?_
      exact x_sub [1, 0] rfl (hk162 _ _ h)
    · refine x_aload_n C dX12_shapes_213 214 rfl 0 rfl ?_
      refine x_get C inX12 0 lm0 EM_0 rfl 23 (by decide) dX12_shapes_214 217 rfl wmf_X12_63 rfl ?_
      refine x_iconst C dX12_shapes_217 218 rfl 0 rfl ?_
      refine x_aaldK C (15) lm15 EM_15 3 rfl rfl (by decide) 0 (by decide) dX12_shapes_218 219 rfl (155 + 0) rfl ?_
      refine x_iload_n C dX12_shapes_219 220 rfl 1 rfl ?_
      refine x_aaldL C (155 + 0) (lm_shape_1 (show 0 < 2 by decide)) (EM_shape_1 (show 0 < 2 by decide)) 2 rfl rfl dX12_shapes_220 221 rfl (157 + (0 * 20 + Int32.toNatClampNeg v2)) rfl h (fun x220 ex220 hb220 h => ?_)
      have hx220 : mI x220 3 := ex220 ▸ mI_shape (xfl (show 0 < 2 by decide) hb220)
      refine x_iload_n C dX12_shapes_221 222 rfl 2 rfl ?_
      refine x_aload_n C dX12_shapes_222 223 rfl 0 rfl ?_
      refine x_get C inX12 0 lm0 EM_0 rfl 23 (by decide) dX12_shapes_223 226 rfl wmf_X12_63 rfl ?_
      refine x_iconst C dX12_shapes_226 227 rfl 1 rfl ?_
      refine x_aaldK C (15) lm15 EM_15 3 rfl rfl (by decide) 1 (by decide) dX12_shapes_227 228 rfl (155 + 1) rfl ?_
      refine x_iload_n C dX12_shapes_228 229 rfl 1 rfl ?_
      refine x_aaldL C (155 + 1) (lm_shape_1 (show 1 < 2 by decide)) (EM_shape_1 (show 1 < 2 by decide)) 2 rfl rfl dX12_shapes_229 230 rfl (157 + (1 * 20 + Int32.toNatClampNeg v2)) rfl h (fun x229 ex229 hb229 h => ?_)
      have hx229 : mI x229 3 := ex229 ▸ mI_shape (xfl (show 1 < 2 by decide) hb229)
      refine x_iload_n C dX12_shapes_230 231 rfl 2 rfl ?_
      refine x_iald C x229 hx229.1 (hx229.2 _ _ _) 0 rfl dX12_shapes_231 232 rfl h (fun h => ?_)
      refine x_iast C x220 hx220.1 (hx220.2 _ _) 0 rfl dX12_shapes_232 233 rfl h (fun a232 h => ?_)
      refine x_iinc C dX12_shapes_233 236 rfl 2 rfl (d := 1) rfl (by decide) (fun v3_233 => [(3, .int v3_233), (0, .ref (ad 0)), (2, .int v2)]) (fun _ => rfl) h (fun v3_233 h => ?_)
      refine x_goto C dX12_shapes_236 208 rfl ?_
      exact x_sub [1, 2, 0] rfl (ih h)
theorem b_X12_shapes_174 (C : XC p l s m args meth c cX12_shapes 4 (some .int) RX12 D vwCl (tysM ca) (EM ad ca) NCM ad) {N : Nat} {o : (Int32 × AH)} {k162 : AH → Int32 → Option (Int32 × AH)} (hk162 : ∀ (ah : AH) (v2 : Int32), k162 ah v2 = some o → XW p l e rm_X12_shapes s m args below meth c 4 0 (xQi below args s D vwCl (tysM ca) (EM ad ca) NCM ad o) D vwCl (EM ad ca) NCM ad ah 162 [(0, .ref (ad 0)), (2, .int v2)] []) : ∀ (n : Nat) {ah : AH} {v2 : Int32} {v3 : Int32}, F_X12_shapes_174 N k162 n ah v2 v3 = some o → XW p l e rm_X12_shapes s m args below meth c 4 0 (xQi below args s D vwCl (tysM ca) (EM ad ca) NCM ad o) D vwCl (EM ad ca) NCM ad ah 174 [(0, .ref (ad 0)), (2, .int v2), (3, .int v3)] [] := by
  intro n
  induction n with
  | zero => intro ah v2 v3 h; unfold F_X12_shapes_174 at h; cases h
  | succ n ih =>
    intro ah v2 v3 h
    unfold F_X12_shapes_174 at h
    refine x_iload_n C dX12_shapes_174 175 rfl 2 rfl ?_
    refine x_bipush C dX12_shapes_175 177 rfl 6 rfl ?_
    refine x_icmp_ge C dX12_shapes_177 180 rfl 206 rfl h (fun h => ?_) (fun h => ?_)
    · refine x_iconst C dX12_shapes_206 207 rfl 0 rfl ?_
      refine x_istore_n C dX12_shapes_207 208 rfl (by decide) (fun v3_207 => [(3, .int v3_207), (0, .ref (ad 0)), (2, .int v2)]) (fun _ => rfl) h (fun v3_207 h => ?_)
      exact x_sub [1, 2, 0] rfl (b_X12_shapes_208 C hk162 N h)
    · refine x_aload_n C dX12_shapes_180 181 rfl 0 rfl ?_
      refine x_get C inX12 0 lm0 EM_0 rfl 22 (by decide) dX12_shapes_181 184 rfl wmf_X12_60 rfl ?_
      refine x_iconst C dX12_shapes_184 185 rfl 0 rfl ?_
      refine x_aaldK C (14) lm14 EM_14 3 rfl rfl (by decide) 0 (by decide) dX12_shapes_185 186 rfl (113 + 0) rfl ?_
      refine x_iload_n C dX12_shapes_186 187 rfl 1 rfl ?_
      refine x_aaldL C (113 + 0) (lm_part_1 (show 0 < 2 by decide)) (EM_part_1 (show 0 < 2 by decide)) 2 rfl rfl dX12_shapes_187 188 rfl (115 + (0 * 20 + Int32.toNatClampNeg v2)) rfl h (fun x187 ex187 hb187 h => ?_)
      have hx187 : mI x187 6 := ex187 ▸ mI_part (xfl (show 0 < 2 by decide) hb187)
      refine x_iload_n C dX12_shapes_188 189 rfl 2 rfl ?_
      refine x_aload_n C dX12_shapes_189 190 rfl 0 rfl ?_
      refine x_get C inX12 0 lm0 EM_0 rfl 22 (by decide) dX12_shapes_190 193 rfl wmf_X12_60 rfl ?_
      refine x_iconst C dX12_shapes_193 194 rfl 1 rfl ?_
      refine x_aaldK C (14) lm14 EM_14 3 rfl rfl (by decide) 1 (by decide) dX12_shapes_194 195 rfl (113 + 1) rfl ?_
      refine x_iload_n C dX12_shapes_195 196 rfl 1 rfl ?_
      refine x_aaldL C (113 + 1) (lm_part_1 (show 1 < 2 by decide)) (EM_part_1 (show 1 < 2 by decide)) 2 rfl rfl dX12_shapes_196 197 rfl (115 + (1 * 20 + Int32.toNatClampNeg v2)) rfl h (fun x196 ex196 hb196 h => ?_)
      have hx196 : mI x196 6 := ex196 ▸ mI_part (xfl (show 1 < 2 by decide) hb196)
      refine x_iload_n C dX12_shapes_197 198 rfl 2 rfl ?_
      refine x_iald C x196 hx196.1 (hx196.2 _ _ _) 0 rfl dX12_shapes_198 199 rfl h (fun h => ?_)
      refine x_iast C x187 hx187.1 (hx187.2 _ _) 0 rfl dX12_shapes_199 200 rfl h (fun a199 h => ?_)
      refine x_iinc C dX12_shapes_200 203 rfl 2 rfl (d := 1) rfl (by decide) (fun v3_200 => [(3, .int v3_200), (0, .ref (ad 0)), (2, .int v2)]) (fun _ => rfl) h (fun v3_200 h => ?_)
      refine x_goto C dX12_shapes_203 174 rfl ?_
      exact x_sub [1, 2, 0] rfl (ih h)
theorem b_X12_shapes_162 (C : XC p l s m args meth c cX12_shapes 4 (some .int) RX12 D vwCl (tysM ca) (EM ad ca) NCM ad) {N : Nat} {o : (Int32 × AH)} : ∀ (n : Nat) {ah : AH} {v2 : Int32}, F_X12_shapes_162 N n ah v2 = some o → XW p l e rm_X12_shapes s m args below meth c 4 0 (xQi below args s D vwCl (tysM ca) (EM ad ca) NCM ad o) D vwCl (EM ad ca) NCM ad ah 162 [(0, .ref (ad 0)), (2, .int v2)] [] := by
  intro n
  induction n with
  | zero => intro ah v2 h; unfold F_X12_shapes_162 at h; cases h
  | succ n ih =>
    intro ah v2 h
    unfold F_X12_shapes_162 at h
    refine x_iload_n C dX12_shapes_162 163 rfl 1 rfl ?_
    refine x_aload_n C dX12_shapes_163 164 rfl 0 rfl ?_
    refine x_get C inX12 0 lm0 EM_0 rfl 21 (by decide) dX12_shapes_164 167 rfl wmf_X12_55 rfl ?_
    refine x_iconst C dX12_shapes_167 168 rfl 0 rfl ?_
    refine x_ialdK C 13 lm13 EM_13 0 rfl dX12_shapes_168 169 rfl (by decide) 0 (by decide) ?_
    refine x_icmp_ge C dX12_shapes_169 172 rfl 245 rfl h (fun h => ?_) (fun h => ?_)
    · refine x_aload_n C dX12_shapes_245 246 rfl 0 rfl ?_
      refine x_aload_n C dX12_shapes_246 247 rfl 0 rfl ?_
      refine x_get C inX12 0 lm0 EM_0 rfl 21 (by decide) dX12_shapes_247 250 rfl wmf_X12_55 rfl ?_
      refine x_iconst C dX12_shapes_250 251 rfl 0 rfl ?_
      refine x_ialdK C 13 lm13 EM_13 0 rfl dX12_shapes_251 252 rfl (by decide) 0 (by decide) ?_
      obtain ⟨r252, a252, hq, h⟩ := xb_some h
      refine x_callVi C 0 (c_X12_ends C.2.2.2.2.2.2.1 hq) lm0 EM_0 rfl wml_X12_263 wq_X12_ends rfl ⟨by decide, by decide⟩ rfl rfl ⟨by decide, by decide⟩ dX12_shapes_252 255 rfl rfl (Nat.le_of_ble_eq_true rfl) ?_
      exact x_iret C rfl dX12_shapes_255 h
    · refine x_iconst C dX12_shapes_172 173 rfl 0 rfl ?_
      refine x_istore_n C dX12_shapes_173 174 rfl (by decide) (fun v3_173 => [(3, .int v3_173), (0, .ref (ad 0)), (2, .int v2)]) (fun _ => rfl) h (fun v3_173 h => ?_)
      exact x_sub [1, 2, 0] rfl (b_X12_shapes_174 C (fun _ _ h => ih h) N h)
theorem b_X12_shapes_135 (C : XC p l s m args meth c cX12_shapes 4 (some .int) RX12 D vwCl (tysM ca) (EM ad ca) NCM ad) {N : Nat} {o : (Int32 × AH)} {ah : AH} (h : F_X12_shapes_135 N ah = some o) : XW p l e rm_X12_shapes s m args below meth c 4 0 (xQi below args s D vwCl (tysM ca) (EM ad ca) NCM ad o) D vwCl (EM ad ca) NCM ad ah 135 [(0, .ref (ad 0))] [] := by
  unfold F_X12_shapes_135 at h
  refine x_aload_n C dX12_shapes_135 136 rfl 0 rfl ?_
  obtain ⟨r136, a136, hq, h⟩ := xb_some h
  refine x_callVi C 0 (c_X12_fine C.2.2.2.2.2.2.1 hq) lm0 EM_0 rfl wml_X12_206 wq_X12_fine rfl ⟨by decide, by decide⟩ rfl rfl ⟨by decide, by decide⟩ dX12_shapes_136 139 rfl rfl (Nat.le_of_ble_eq_true rfl) ?_
  refine x_if_ne C dX12_shapes_139 142 rfl 148 rfl h (fun h => ?_) (fun h => ?_)
  · refine x_aload_n C dX12_shapes_148 149 rfl 0 rfl ?_
    refine x_get C inX12 0 lm0 EM_0 rfl 21 (by decide) dX12_shapes_149 152 rfl wmf_X12_55 rfl ?_
    refine x_iconst C dX12_shapes_152 153 rfl 0 rfl ?_
    refine x_aload_n C dX12_shapes_153 154 rfl 0 rfl ?_
    refine x_get C inX12 0 lm0 EM_0 rfl 21 (by decide) dX12_shapes_154 157 rfl wmf_X12_55 rfl ?_
    refine x_iconst C dX12_shapes_157 158 rfl 1 rfl ?_
    refine x_ialdK C 13 lm13 EM_13 0 rfl dX12_shapes_158 159 rfl (by decide) 1 (by decide) ?_
    refine x_iastK C 13 lm13 (fun _ => EM_13) 0 rfl dX12_shapes_159 160 rfl (by decide) 0 (by decide) h (fun a159 h => ?_)
    refine x_iconst C dX12_shapes_160 161 rfl 0 rfl ?_
    refine x_istore_n C dX12_shapes_161 162 rfl (by decide) (fun v2_161 => [(2, .int v2_161), (0, .ref (ad 0))]) (fun _ => rfl) h (fun v2_161 h => ?_)
    exact x_sub [1, 0] rfl (b_X12_shapes_162 C  N h)
  · refine x_aload_n C dX12_shapes_142 143 rfl 0 rfl ?_
    refine x_iconst C dX12_shapes_143 144 rfl 0 rfl ?_
    obtain ⟨r144, a144, hq, h⟩ := xb_some h
    refine x_callVi C 0 (c_X12_ends C.2.2.2.2.2.2.1 hq) lm0 EM_0 rfl wml_X12_263 wq_X12_ends rfl ⟨by decide, by decide⟩ rfl rfl ⟨by decide, by decide⟩ dX12_shapes_144 147 rfl rfl (Nat.le_of_ble_eq_true rfl) ?_
    exact x_iret C rfl dX12_shapes_147 h
theorem b_X12_shapes_102 (C : XC p l s m args meth c cX12_shapes 4 (some .int) RX12 D vwCl (tysM ca) (EM ad ca) NCM ad) {N : Nat} {o : (Int32 × AH)} {k45 : AH → Option (Int32 × AH)} (hk45 : ∀ (ah : AH), k45 ah = some o → XW p l e rm_X12_shapes s m args below meth c 4 0 (xQi below args s D vwCl (tysM ca) (EM ad ca) NCM ad o) D vwCl (EM ad ca) NCM ad ah 45 [(0, .ref (ad 0))] []) {ah : AH} (h : F_X12_shapes_102 N k45 ah = some o) : XW p l e rm_X12_shapes s m args below meth c 4 0 (xQi below args s D vwCl (tysM ca) (EM ad ca) NCM ad o) D vwCl (EM ad ca) NCM ad ah 102 [(0, .ref (ad 0))] [] := by
  unfold F_X12_shapes_102 at h
  refine x_aload_n C dX12_shapes_102 103 rfl 0 rfl ?_
  obtain ⟨r103, a103, hq, h⟩ := xb_some h
  refine x_callVi C 0 (c_X12_fine C.2.2.2.2.2.2.1 hq) lm0 EM_0 rfl wml_X12_206 wq_X12_fine rfl ⟨by decide, by decide⟩ rfl rfl ⟨by decide, by decide⟩ dX12_shapes_103 106 rfl rfl (Nat.le_of_ble_eq_true rfl) ?_
  refine x_if_ne C dX12_shapes_106 109 rfl 112 rfl h (fun h => ?_) (fun h => ?_)
  · refine x_aload_n C dX12_shapes_112 113 rfl 0 rfl ?_
    refine x_aload_n C dX12_shapes_113 114 rfl 0 rfl ?_
    refine x_get C inX12 0 lm0 EM_0 rfl 21 (by decide) dX12_shapes_114 117 rfl wmf_X12_55 rfl ?_
    refine x_iconst C dX12_shapes_117 118 rfl 1 rfl ?_
    refine x_ialdK C 13 lm13 EM_13 0 rfl dX12_shapes_118 119 rfl (by decide) 1 (by decide) ?_
    obtain ⟨a119, hq, h⟩ := xbv_some h
    refine x_callVv C 0 (c_X12_readsShape C.2.2.2.2.2.2.1 hq) lm0 EM_0 rfl wml_X12_292 wq_X12_readsShape rfl ⟨by decide, by decide⟩ rfl rfl ⟨by decide, by decide⟩ dX12_shapes_119 122 rfl rfl (Nat.le_of_ble_eq_true rfl) ?_
    refine x_aload_n C dX12_shapes_122 123 rfl 0 rfl ?_
    refine x_get C inX12 0 lm0 EM_0 rfl 21 (by decide) dX12_shapes_123 126 rfl wmf_X12_55 rfl ?_
    refine x_iconst C dX12_shapes_126 127 rfl 1 rfl ?_
    refine x_dup2 C dX12_shapes_127 128 rfl rfl rfl ?_
    refine x_ialdK C 13 lm13 EM_13 0 rfl dX12_shapes_128 129 rfl (by decide) 1 (by decide) ?_
    refine x_iconst C dX12_shapes_129 130 rfl 1 rfl ?_
    refine x_iadd C dX12_shapes_130 131 rfl ?_
    refine x_iastK C 13 lm13 (fun _ => EM_13) 0 rfl dX12_shapes_131 132 rfl (by decide) 1 (by decide) h (fun a131 h => ?_)
    refine x_goto C dX12_shapes_132 45 rfl ?_
    exact hk45 _ h
  · refine x_goto C dX12_shapes_109 135 rfl ?_
    exact b_X12_shapes_135 C  h
theorem b_X12_shapes_45 (C : XC p l s m args meth c cX12_shapes 4 (some .int) RX12 D vwCl (tysM ca) (EM ad ca) NCM ad) {N : Nat} {o : (Int32 × AH)} : ∀ (n : Nat) {ah : AH}, F_X12_shapes_45 N n ah = some o → XW p l e rm_X12_shapes s m args below meth c 4 0 (xQi below args s D vwCl (tysM ca) (EM ad ca) NCM ad o) D vwCl (EM ad ca) NCM ad ah 45 [(0, .ref (ad 0))] [] := by
  intro n
  induction n with
  | zero => intro ah h; unfold F_X12_shapes_45 at h; cases h
  | succ n ih =>
    intro ah h
    unfold F_X12_shapes_45 at h
    refine x_aload_n C dX12_shapes_45 46 rfl 0 rfl ?_
    obtain ⟨r46, a46, hq, h⟩ := xb_some h
    refine x_callVi C 0 (c_X12_fine C.2.2.2.2.2.2.1 hq) lm0 EM_0 rfl wml_X12_206 wq_X12_fine rfl ⟨by decide, by decide⟩ rfl rfl ⟨by decide, by decide⟩ dX12_shapes_46 49 rfl rfl (Nat.le_of_ble_eq_true rfl) ?_
    refine x_if_eq C dX12_shapes_49 52 rfl 135 rfl h (fun h => ?_) (fun h => ?_)
    · exact b_X12_shapes_135 C  h
    · refine x_aload_n C dX12_shapes_52 53 rfl 0 rfl ?_
      obtain ⟨r53, a53, hq, h⟩ := xb_some h
      refine x_callVi C 0 (c_X12_blanks C.2.2.2.2.2.2.1 hq) lm0 EM_0 rfl wml_X12_227 wq_X12_blanks rfl ⟨by decide, by decide⟩ rfl rfl ⟨by decide, by decide⟩ dX12_shapes_53 56 rfl rfl (Nat.le_of_ble_eq_true rfl) ?_
      refine x_iconst C dX12_shapes_56 57 rfl (-1) rfl ?_
      refine x_icmp_eq C dX12_shapes_57 60 rfl 135 rfl h (fun h => ?_) (fun h => ?_)
      · exact b_X12_shapes_135 C  h
      · refine x_aload_n C dX12_shapes_60 61 rfl 0 rfl ?_
        obtain ⟨r61, a61, hq, h⟩ := xb_some h
        refine x_callVi C 0 (c_X12_here C.2.2.2.2.2.2.1 hq) lm0 EM_0 rfl wml_X12_196 wq_X12_here rfl ⟨by decide, by decide⟩ rfl rfl ⟨by decide, by decide⟩ dX12_shapes_61 64 rfl rfl (Nat.le_of_ble_eq_true rfl) ?_
        obtain ⟨r64, a64, hq, h⟩ := xb_some h
        refine x_callSi C (c_X12_isSmall C.2.2.2.2.2.2.1 hq) wml_X12_230 wq_X12_isSmall rfl ⟨by decide, by decide⟩ rfl rfl ⟨by decide, by decide⟩ dX12_shapes_64 67 rfl rfl (Nat.le_of_ble_eq_true rfl) ?_
        refine x_if_ne C dX12_shapes_67 70 rfl 82 rfl h (fun h => ?_) (fun h => ?_)
        · refine x_aload_n C dX12_shapes_82 83 rfl 0 rfl ?_
          refine x_get C inX12 0 lm0 EM_0 rfl 21 (by decide) dX12_shapes_83 86 rfl wmf_X12_55 rfl ?_
          refine x_iconst C dX12_shapes_86 87 rfl 1 rfl ?_
          refine x_ialdK C 13 lm13 EM_13 0 rfl dX12_shapes_87 88 rfl (by decide) 1 (by decide) ?_
          refine x_bipush C dX12_shapes_88 90 rfl 20 rfl ?_
          refine x_icmp_ne C dX12_shapes_90 93 rfl 102 rfl h (fun h => ?_) (fun h => ?_)
          · exact b_X12_shapes_102 C (fun _ h => ih h) h
          · refine x_aload_n C dX12_shapes_93 94 rfl 0 rfl ?_
            refine x_iconst C dX12_shapes_94 95 rfl 3 rfl ?_
            refine x_aload_n C dX12_shapes_95 96 rfl 0 rfl ?_
            refine x_get C inX12 0 lm0 EM_0 rfl 4 (by decide) dX12_shapes_96 99 rfl wmf_X12_189 rfl ?_
            obtain ⟨a99, hq, h⟩ := xbv_some h
            refine x_callVv C 0 (c_X12_wrong C.2.2.2.2.2.2.1 hq) lm0 EM_0 rfl wml_X12_214 wq_X12_wrong rfl ⟨by decide, by decide⟩ rfl rfl ⟨by decide, by decide⟩ dX12_shapes_99 102 rfl rfl (Nat.le_of_ble_eq_true rfl) ?_
            exact b_X12_shapes_102 C (fun _ h => ih h) h
        · refine x_aload_n C dX12_shapes_70 71 rfl 0 rfl ?_
          refine x_iconst C dX12_shapes_71 72 rfl 1 rfl ?_
          refine x_aload_n C dX12_shapes_72 73 rfl 0 rfl ?_
          refine x_get C inX12 0 lm0 EM_0 rfl 4 (by decide) dX12_shapes_73 76 rfl wmf_X12_189 rfl ?_
          obtain ⟨a76, hq, h⟩ := xbv_some h
          refine x_callVv C 0 (c_X12_wrong C.2.2.2.2.2.2.1 hq) lm0 EM_0 rfl wml_X12_214 wq_X12_wrong rfl ⟨by decide, by decide⟩ rfl rfl ⟨by decide, by decide⟩ dX12_shapes_76 79 rfl rfl (Nat.le_of_ble_eq_true rfl) ?_
          refine x_goto C dX12_shapes_79 102 rfl ?_
          exact b_X12_shapes_102 C (fun _ h => ih h) h
theorem b_X12_shapes_23 (C : XC p l s m args meth c cX12_shapes 4 (some .int) RX12 D vwCl (tysM ca) (EM ad ca) NCM ad) {N : Nat} {o : (Int32 × AH)} {ah : AH} {v1 : Int32} {s1 : Int32} (h : F_X12_shapes_23 N ah v1 s1 = some o) : XW p l e rm_X12_shapes s m args below meth c 4 0 (xQi below args s D vwCl (tysM ca) (EM ad ca) NCM ad o) D vwCl (EM ad ca) NCM ad ah 23 [(0, .ref (ad 0)), (1, .int v1)] [.int s1, .ref (ad 0)] := by
  unfold F_X12_shapes_23 at h
  refine x_iconst C dX12_shapes_23 24 rfl 1 rfl ?_
  refine x_iconst C dX12_shapes_24 25 rfl 1 rfl ?_
  obtain ⟨r25, a25, hq, h⟩ := xb_some h
  refine x_callVi C 0 (c_X12_bad C.2.2.2.2.2.2.1 hq) lm0 EM_0 rfl wml_X12_249 wq_X12_bad rfl ⟨by decide, by decide⟩ rfl rfl ⟨by decide, by decide⟩ dX12_shapes_25 28 rfl rfl (Nat.le_of_ble_eq_true rfl) ?_
  refine x_if_eq C dX12_shapes_28 31 rfl 33 rfl h (fun h => ?_) (fun h => ?_)
  · refine x_aload_n C dX12_shapes_33 34 rfl 0 rfl ?_
    refine x_iload_n C dX12_shapes_34 35 rfl 1 rfl ?_
    obtain ⟨a35, hq, h⟩ := xbv_some h
    refine x_callVv C 0 (c_X12_starts C.2.2.2.2.2.2.1 hq) lm0 EM_0 rfl wml_X12_253 wq_X12_starts rfl ⟨by decide, by decide⟩ rfl rfl ⟨by decide, by decide⟩ dX12_shapes_35 38 rfl rfl (Nat.le_of_ble_eq_true rfl) ?_
    refine x_aload_n C dX12_shapes_38 39 rfl 0 rfl ?_
    refine x_get C inX12 0 lm0 EM_0 rfl 21 (by decide) dX12_shapes_39 42 rfl wmf_X12_55 rfl ?_
    refine x_iconst C dX12_shapes_42 43 rfl 1 rfl ?_
    refine x_iconst C dX12_shapes_43 44 rfl 0 rfl ?_
    refine x_iastK C 13 lm13 (fun _ => EM_13) 0 rfl dX12_shapes_44 45 rfl (by decide) 1 (by decide) h (fun a44 h => ?_)
    exact x_sub [0] rfl (b_X12_shapes_45 C  N h)
  · refine x_iconst C dX12_shapes_31 32 rfl 0 rfl ?_
    exact x_iret C rfl dX12_shapes_32 h
theorem c_X12_shapes {l : Launch} {D : va_G} {ca : Nat → ClassId} {ad : Nat → Nat} (hI : xInj ad NCM) {N : Nat} {ah : AH} {p1 : Int32} {r : Int32} {a : AH} (h : F_X12_shapes N ah p1 = some (r, a)) : xMi l yX12_shapes cX12_shapes 4 (some .int) rm_X12_shapes D vwCl (tysM ca) (EM ad ca) NCM ad [.ref (ad 0), .int p1] ah (r, a) := by
  refine x_meti (by decide) (Nat.le_of_ble_eq_true rfl) hI EM_loc ?_
  intro p e s m args below meth c C
  unfold F_X12_shapes at h
  refine x_aload_n C dX12_shapes_0 1 rfl 0 rfl ?_
  refine x_iconst C dX12_shapes_1 2 rfl 0 rfl ?_
  refine x_put C inX12 0 lm0 EM_0 rfl 0 (by decide) tyX12_ok nmX12 dX12_shapes_2 5 rfl wmf_X12_180 rfl rfl rfl (Nat.le_of_ble_eq_true rfl) EQ_0_0 h (fun a2 h => ?_)
  refine x_aload_n C dX12_shapes_5 6 rfl 0 rfl ?_
  refine x_iload_n C dX12_shapes_6 7 rfl 1 rfl ?_
  refine x_iconst C dX12_shapes_7 8 rfl 0 rfl ?_
  refine x_aload_n C dX12_shapes_8 9 rfl 0 rfl ?_
  refine x_get C inX12 0 lm0 EM_0 rfl 2 (by decide) dX12_shapes_9 12 rfl wmf_X12_183 rfl ?_
  obtain ⟨r12, a12, hq, h⟩ := xb_some h
  refine x_callSi C (c_X12_in C.2.2.2.2.2.2.1 hq) wml_X12_223 wq_X12_in rfl ⟨by decide, by decide⟩ rfl rfl ⟨by decide, by decide⟩ dX12_shapes_12 15 rfl rfl (Nat.le_of_ble_eq_true rfl) ?_
  refine x_if_ne C dX12_shapes_15 18 rfl 22 rfl h (fun h => ?_) (fun h => ?_)
  · refine x_iconst C dX12_shapes_22 23 rfl 0 rfl ?_
    exact b_X12_shapes_23 C  h
  · refine x_iconst C dX12_shapes_18 19 rfl 1 rfl ?_
    refine x_goto C dX12_shapes_19 23 rfl ?_
    exact b_X12_shapes_23 C  h
abbrev rm_X12_isCell : Room := { frames := 1, cells := 0, slots := 0, locals := 20 }
theorem wq_X12_isCell : xcS yX12_isCell cX12_isCell 1 (some .boolean) 1 := ⟨wmt_X12_isCell, wmn_X12, wmc_X12_isCell, by decide, by decide, by decide +kernel⟩
def F_X12_isCell_19 (N : Nat) (ah : AH) : Option (Int32 × AH) := some (1, ah)
def F_X12_isCell (N : Nat) (ah : AH) (p0 : Int32) : Option (Int32 × AH) := xb (F_X12_isSmall N ah p0) (fun r1 a1 => if r1 = 0 then if p0 = 63 then F_X12_isCell_19 N a1 else if p0 = 45 then F_X12_isCell_19 N a1 else some (0, a1) else F_X12_isCell_19 N a1)
theorem b_X12_isCell_19 (C : XC p l s m args meth c cX12_isCell 1 (some .boolean) RX12 D vwCl (tysM ca) (EM ad ca) NCM ad) {N : Nat} {o : (Int32 × AH)} {ah : AH} (h : F_X12_isCell_19 N ah = some o) : XW p l e rm_X12_isCell s m args below meth c 1 0 (xQi below args s D vwCl (tysM ca) (EM ad ca) NCM ad o) D vwCl (EM ad ca) NCM ad ah 19 [] [] := by
  unfold F_X12_isCell_19 at h
  refine x_iconst C dX12_isCell_19 20 rfl 1 rfl ?_
  refine x_goto C dX12_isCell_20 24 rfl ?_
  exact x_zret C rfl dX12_isCell_24 (by decide) h
theorem c_X12_isCell {l : Launch} {D : va_G} {ca : Nat → ClassId} {ad : Nat → Nat} (hI : xInj ad NCM) {N : Nat} {ah : AH} {p0 : Int32} {r : Int32} {a : AH} (h : F_X12_isCell N ah p0 = some (r, a)) : xMi l yX12_isCell cX12_isCell 1 (some .boolean) rm_X12_isCell D vwCl (tysM ca) (EM ad ca) NCM ad [.int p0] ah (r, a) := by
  refine x_meti (by decide) (Nat.le_of_ble_eq_true rfl) hI EM_loc ?_
  intro p e s m args below meth c C
  unfold F_X12_isCell at h
  refine x_iload_n C dX12_isCell_0 1 rfl 0 rfl ?_
  obtain ⟨r1, a1, hq, h⟩ := xb_some h
  refine x_callSi C (c_X12_isSmall C.2.2.2.2.2.2.1 hq) wml_X12_230 wq_X12_isSmall rfl ⟨by decide, by decide⟩ rfl rfl ⟨by decide, by decide⟩ dX12_isCell_1 4 rfl rfl (Nat.le_of_ble_eq_true rfl) ?_
  refine x_if_ne C dX12_isCell_4 7 rfl 19 rfl h (fun h => ?_) (fun h => ?_)
  · exact x_sub [] rfl (b_X12_isCell_19 C  h)
  · refine x_iload_n C dX12_isCell_7 8 rfl 0 rfl ?_
    refine x_bipush C dX12_isCell_8 10 rfl 63 rfl ?_
    refine x_icmp_eq C dX12_isCell_10 13 rfl 19 rfl h (fun h => ?_) (fun h => ?_)
    · exact x_sub [] rfl (b_X12_isCell_19 C  h)
    · refine x_iload_n C dX12_isCell_13 14 rfl 0 rfl ?_
      refine x_bipush C dX12_isCell_14 16 rfl 45 rfl ?_
      refine x_icmp_ne C dX12_isCell_16 19 rfl 23 rfl h (fun h => ?_) (fun h => ?_)
      · refine x_iconst C dX12_isCell_23 24 rfl 0 rfl ?_
        exact x_zret C rfl dX12_isCell_24 (by decide) h
      · exact x_sub [] rfl (b_X12_isCell_19 C  h)
abbrev rm_X12_readsOthers : Room := { frames := 3, cells := 0, slots := 0, locals := 65 }
theorem wq_X12_readsOthers : xcV RX12 yX12_readsOthers cX12_readsOthers 2 none 1 := ⟨wmi_X12_readsOthers, wms_X12_readsOthers, wmn_X12, wmc_X12_readsOthers, by decide, by decide, by decide +kernel⟩
def F_X12_readsOthers_150 (N : Nat) (ah : AH) : Option AH := xlet (xu ah 0 4 ((ah 0 4) + 1)) (fun a157 => some a157)
def F_X12_readsOthers_93 (N : Nat) (k10 : AH → Nat → Option AH) (ah : AH) (x1 : Nat) : Option AH := xb (F_X12_fine N ah) (fun r94 a94 => if r94 = 0 then some a94 else xb (F_X12_here N a94) (fun r110 a110 => xg (2 + (2 * (a94 x1 1))) 8 (xlet (xu a110 x1 (Int32.toNatClampNeg (2 + (2 * (a94 x1 1)))) r110) (fun a113 => xlet (xu a113 0 4 ((a113 0 4) + 1)) (fun a121 => xb (F_X12_number N a121 1 99) (fun r136 a136 => xg (3 + (2 * (a121 x1 1))) 8 (xlet (xu a136 x1 (Int32.toNatClampNeg (3 + (2 * (a121 x1 1)))) r136) (fun a139 => xlet (xu a139 x1 1 ((a139 x1 1) + 1)) (fun a146 => k10 a146 x1)))))))))
def F_X12_readsOthers_55 (N : Nat) (k10 : AH → Nat → Option AH) (ah : AH) (x1 : Nat) : Option AH := xb (F_X12_here N ah) (fun r56 a56 => xb (F_X12_isSmall N a56 r56) (fun r59 a59 => if r59 = 0 then xbv (F_X12_wrong N a59 1 (a59 0 4)) (fun a71 => F_X12_readsOthers_93 N k10 a71 x1) else if (a59 x1 1) = 3 then xbv (F_X12_wrong N a59 3 (a59 0 4)) (fun a90 => F_X12_readsOthers_93 N k10 a90 x1) else F_X12_readsOthers_93 N k10 a59 x1))
def F_X12_readsOthers_50 (N : Nat) (k10 : AH → Nat → Option AH) (ah : AH) (x1 : Nat) : Option AH := xb (F_X12_blanks N ah) (fun r51 a51 => F_X12_readsOthers_55 N k10 a51 x1)
def F_X12_readsOthers_10 (N : Nat) : Nat → AH → Nat → Option AH
  | 0, _, _ => none
  | n + 1, ah, x1 => xb (F_X12_fine N ah) (fun r11 a11 => if r11 = 0 then F_X12_readsOthers_150 N a11 else xb (F_X12_here N a11) (fun r18 a18 => if r18 = 93 then F_X12_readsOthers_150 N a18 else if (a18 x1 1) ≤ 0 then F_X12_readsOthers_55 N (F_X12_readsOthers_10 N n) a18 x1 else xb (F_X12_here N a18) (fun r33 a33 => if r33 = 32 then F_X12_readsOthers_50 N (F_X12_readsOthers_10 N n) a33 x1 else xbv (F_X12_wrong N a33 1 (a33 0 4)) (fun a47 => F_X12_readsOthers_50 N (F_X12_readsOthers_10 N n) a47 x1))))
def F_X12_readsOthers (N : Nat) (ah : AH) (x1 : Nat) : Option AH := xlet (xu ah 0 4 ((ah 0 4) + 1)) (fun a7 => F_X12_readsOthers_10 N N a7 x1)
theorem b_X12_readsOthers_150 (C : XC p l s m args meth c cX12_readsOthers 2 none RX12 D vwCl (tysM ca) (EM ad ca) NCM ad) {N : Nat} {o : AH} {ah : AH} (h : F_X12_readsOthers_150 N ah = some o) : XW p l e rm_X12_readsOthers s m args below meth c 2 0 (xQv below args s D vwCl (tysM ca) (EM ad ca) NCM ad o) D vwCl (EM ad ca) NCM ad ah 150 [(0, .ref (ad 0))] [] := by
  unfold F_X12_readsOthers_150 at h
  refine x_aload_n C dX12_readsOthers_150 151 rfl 0 rfl ?_
  refine x_dup C dX12_readsOthers_151 152 rfl rfl ?_
  refine x_get C inX12 0 lm0 EM_0 rfl 4 (by decide) dX12_readsOthers_152 155 rfl wmf_X12_189 rfl ?_
  refine x_iconst C dX12_readsOthers_155 156 rfl 1 rfl ?_
  refine x_iadd C dX12_readsOthers_156 157 rfl ?_
  refine x_put C inX12 0 lm0 EM_0 rfl 4 (by decide) tyX12_ok nmX12 dX12_readsOthers_157 160 rfl wmf_X12_189 rfl rfl rfl (Nat.le_of_ble_eq_true rfl) EQ_0_4 h (fun a157 h => ?_)
  exact x_vret C rfl dX12_readsOthers_160 h
theorem b_X12_readsOthers_93 (C : XC p l s m args meth c cX12_readsOthers 2 none RX12 D vwCl (tysM ca) (EM ad ca) NCM ad) {N : Nat} {o : AH} {k10 : AH → Nat → Option AH} (hk10 : ∀ (ah : AH) (x1 : Nat) (hx1 : mI x1 8), k10 ah x1 = some o → XW p l e rm_X12_readsOthers s m args below meth c 2 0 (xQv below args s D vwCl (tysM ca) (EM ad ca) NCM ad o) D vwCl (EM ad ca) NCM ad ah 10 [(0, .ref (ad 0)), (1, .ref (ad x1))] []) {ah : AH} {x1 : Nat} (hx1 : mI x1 8) (h : F_X12_readsOthers_93 N k10 ah x1 = some o) : XW p l e rm_X12_readsOthers s m args below meth c 2 0 (xQv below args s D vwCl (tysM ca) (EM ad ca) NCM ad o) D vwCl (EM ad ca) NCM ad ah 93 [(0, .ref (ad 0)), (1, .ref (ad x1))] [] := by
  unfold F_X12_readsOthers_93 at h
  refine x_aload_n C dX12_readsOthers_93 94 rfl 0 rfl ?_
  obtain ⟨r94, a94, hq, h⟩ := xb_some h
  refine x_callVi C 0 (c_X12_fine C.2.2.2.2.2.2.1 hq) lm0 EM_0 rfl wml_X12_206 wq_X12_fine rfl ⟨by decide, by decide⟩ rfl rfl ⟨by decide, by decide⟩ dX12_readsOthers_94 97 rfl rfl (Nat.le_of_ble_eq_true rfl) ?_
  refine x_if_ne C dX12_readsOthers_97 100 rfl 101 rfl h (fun h => ?_) (fun h => ?_)
  · refine x_aload_n C dX12_readsOthers_101 102 rfl 1 rfl ?_
    refine x_iconst C dX12_readsOthers_102 103 rfl 2 rfl ?_
    refine x_iconst C dX12_readsOthers_103 104 rfl 2 rfl ?_
    refine x_aload_n C dX12_readsOthers_104 105 rfl 1 rfl ?_
    refine x_iconst C dX12_readsOthers_105 106 rfl 1 rfl ?_
    refine x_ialdK C x1 hx1.1 (hx1.2 _ _ _) 0 rfl dX12_readsOthers_106 107 rfl (by decide) 1 (by decide) ?_
    refine x_imul C dX12_readsOthers_107 108 rfl ?_
    refine x_iadd C dX12_readsOthers_108 109 rfl ?_
    refine x_aload_n C dX12_readsOthers_109 110 rfl 0 rfl ?_
    obtain ⟨r110, a110, hq, h⟩ := xb_some h
    refine x_callVi C 0 (c_X12_here C.2.2.2.2.2.2.1 hq) lm0 EM_0 rfl wml_X12_196 wq_X12_here rfl ⟨by decide, by decide⟩ rfl rfl ⟨by decide, by decide⟩ dX12_readsOthers_110 113 rfl rfl (Nat.le_of_ble_eq_true rfl) ?_
    refine x_iast C x1 hx1.1 (hx1.2 _ _) 0 rfl dX12_readsOthers_113 114 rfl h (fun a113 h => ?_)
    refine x_aload_n C dX12_readsOthers_114 115 rfl 0 rfl ?_
    refine x_dup C dX12_readsOthers_115 116 rfl rfl ?_
    refine x_get C inX12 0 lm0 EM_0 rfl 4 (by decide) dX12_readsOthers_116 119 rfl wmf_X12_189 rfl ?_
    refine x_iconst C dX12_readsOthers_119 120 rfl 1 rfl ?_
    refine x_iadd C dX12_readsOthers_120 121 rfl ?_
    refine x_put C inX12 0 lm0 EM_0 rfl 4 (by decide) tyX12_ok nmX12 dX12_readsOthers_121 124 rfl wmf_X12_189 rfl rfl rfl (Nat.le_of_ble_eq_true rfl) EQ_0_4 h (fun a121 h => ?_)
    refine x_aload_n C dX12_readsOthers_124 125 rfl 1 rfl ?_
    refine x_iconst C dX12_readsOthers_125 126 rfl 3 rfl ?_
    refine x_iconst C dX12_readsOthers_126 127 rfl 2 rfl ?_
    refine x_aload_n C dX12_readsOthers_127 128 rfl 1 rfl ?_
    refine x_iconst C dX12_readsOthers_128 129 rfl 1 rfl ?_
    refine x_ialdK C x1 hx1.1 (hx1.2 _ _ _) 0 rfl dX12_readsOthers_129 130 rfl (by decide) 1 (by decide) ?_
    refine x_imul C dX12_readsOthers_130 131 rfl ?_
    refine x_iadd C dX12_readsOthers_131 132 rfl ?_
    refine x_aload_n C dX12_readsOthers_132 133 rfl 0 rfl ?_
    refine x_iconst C dX12_readsOthers_133 134 rfl 1 rfl ?_
    refine x_bipush C dX12_readsOthers_134 136 rfl 99 rfl ?_
    obtain ⟨r136, a136, hq, h⟩ := xb_some h
    refine x_callVi C 0 (c_X12_number C.2.2.2.2.2.2.1 hq) lm0 EM_0 rfl wml_X12_239 wq_X12_number rfl ⟨by decide, by decide⟩ rfl rfl ⟨by decide, by decide⟩ dX12_readsOthers_136 139 rfl rfl (Nat.le_of_ble_eq_true rfl) ?_
    refine x_iast C x1 hx1.1 (hx1.2 _ _) 0 rfl dX12_readsOthers_139 140 rfl h (fun a139 h => ?_)
    refine x_aload_n C dX12_readsOthers_140 141 rfl 1 rfl ?_
    refine x_iconst C dX12_readsOthers_141 142 rfl 1 rfl ?_
    refine x_dup2 C dX12_readsOthers_142 143 rfl rfl rfl ?_
    refine x_ialdK C x1 hx1.1 (hx1.2 _ _ _) 0 rfl dX12_readsOthers_143 144 rfl (by decide) 1 (by decide) ?_
    refine x_iconst C dX12_readsOthers_144 145 rfl 1 rfl ?_
    refine x_iadd C dX12_readsOthers_145 146 rfl ?_
    refine x_iastK C x1 hx1.1 (hx1.2 _ _) 0 rfl dX12_readsOthers_146 147 rfl (by decide) 1 (by decide) h (fun a146 h => ?_)
    refine x_goto C dX12_readsOthers_147 10 rfl ?_
    exact hk10 _ _ hx1 h
  · exact x_vret C rfl dX12_readsOthers_100 h
theorem b_X12_readsOthers_55 (C : XC p l s m args meth c cX12_readsOthers 2 none RX12 D vwCl (tysM ca) (EM ad ca) NCM ad) {N : Nat} {o : AH} {k10 : AH → Nat → Option AH} (hk10 : ∀ (ah : AH) (x1 : Nat) (hx1 : mI x1 8), k10 ah x1 = some o → XW p l e rm_X12_readsOthers s m args below meth c 2 0 (xQv below args s D vwCl (tysM ca) (EM ad ca) NCM ad o) D vwCl (EM ad ca) NCM ad ah 10 [(0, .ref (ad 0)), (1, .ref (ad x1))] []) {ah : AH} {x1 : Nat} (hx1 : mI x1 8) (h : F_X12_readsOthers_55 N k10 ah x1 = some o) : XW p l e rm_X12_readsOthers s m args below meth c 2 0 (xQv below args s D vwCl (tysM ca) (EM ad ca) NCM ad o) D vwCl (EM ad ca) NCM ad ah 55 [(0, .ref (ad 0)), (1, .ref (ad x1))] [] := by
  unfold F_X12_readsOthers_55 at h
  refine x_aload_n C dX12_readsOthers_55 56 rfl 0 rfl ?_
  obtain ⟨r56, a56, hq, h⟩ := xb_some h
  refine x_callVi C 0 (c_X12_here C.2.2.2.2.2.2.1 hq) lm0 EM_0 rfl wml_X12_196 wq_X12_here rfl ⟨by decide, by decide⟩ rfl rfl ⟨by decide, by decide⟩ dX12_readsOthers_56 59 rfl rfl (Nat.le_of_ble_eq_true rfl) ?_
  obtain ⟨r59, a59, hq, h⟩ := xb_some h
  refine x_callSi C (c_X12_isSmall C.2.2.2.2.2.2.1 hq) wml_X12_230 wq_X12_isSmall rfl ⟨by decide, by decide⟩ rfl rfl ⟨by decide, by decide⟩ dX12_readsOthers_59 62 rfl rfl (Nat.le_of_ble_eq_true rfl) ?_
  refine x_if_ne C dX12_readsOthers_62 65 rfl 77 rfl h (fun h => ?_) (fun h => ?_)
  · refine x_aload_n C dX12_readsOthers_77 78 rfl 1 rfl ?_
    refine x_iconst C dX12_readsOthers_78 79 rfl 1 rfl ?_
    refine x_ialdK C x1 hx1.1 (hx1.2 _ _ _) 0 rfl dX12_readsOthers_79 80 rfl (by decide) 1 (by decide) ?_
    refine x_iconst C dX12_readsOthers_80 81 rfl 3 rfl ?_
    refine x_icmp_ne C dX12_readsOthers_81 84 rfl 93 rfl h (fun h => ?_) (fun h => ?_)
    · exact b_X12_readsOthers_93 C hk10 hx1 h
    · refine x_aload_n C dX12_readsOthers_84 85 rfl 0 rfl ?_
      refine x_iconst C dX12_readsOthers_85 86 rfl 3 rfl ?_
      refine x_aload_n C dX12_readsOthers_86 87 rfl 0 rfl ?_
      refine x_get C inX12 0 lm0 EM_0 rfl 4 (by decide) dX12_readsOthers_87 90 rfl wmf_X12_189 rfl ?_
      obtain ⟨a90, hq, h⟩ := xbv_some h
      refine x_callVv C 0 (c_X12_wrong C.2.2.2.2.2.2.1 hq) lm0 EM_0 rfl wml_X12_214 wq_X12_wrong rfl ⟨by decide, by decide⟩ rfl rfl ⟨by decide, by decide⟩ dX12_readsOthers_90 93 rfl rfl (Nat.le_of_ble_eq_true rfl) ?_
      exact b_X12_readsOthers_93 C hk10 hx1 h
  · refine x_aload_n C dX12_readsOthers_65 66 rfl 0 rfl ?_
    refine x_iconst C dX12_readsOthers_66 67 rfl 1 rfl ?_
    refine x_aload_n C dX12_readsOthers_67 68 rfl 0 rfl ?_
    refine x_get C inX12 0 lm0 EM_0 rfl 4 (by decide) dX12_readsOthers_68 71 rfl wmf_X12_189 rfl ?_
    obtain ⟨a71, hq, h⟩ := xbv_some h
    refine x_callVv C 0 (c_X12_wrong C.2.2.2.2.2.2.1 hq) lm0 EM_0 rfl wml_X12_214 wq_X12_wrong rfl ⟨by decide, by decide⟩ rfl rfl ⟨by decide, by decide⟩ dX12_readsOthers_71 74 rfl rfl (Nat.le_of_ble_eq_true rfl) ?_
    refine x_goto C dX12_readsOthers_74 93 rfl ?_
    exact b_X12_readsOthers_93 C hk10 hx1 h
theorem b_X12_readsOthers_50 (C : XC p l s m args meth c cX12_readsOthers 2 none RX12 D vwCl (tysM ca) (EM ad ca) NCM ad) {N : Nat} {o : AH} {k10 : AH → Nat → Option AH} (hk10 : ∀ (ah : AH) (x1 : Nat) (hx1 : mI x1 8), k10 ah x1 = some o → XW p l e rm_X12_readsOthers s m args below meth c 2 0 (xQv below args s D vwCl (tysM ca) (EM ad ca) NCM ad o) D vwCl (EM ad ca) NCM ad ah 10 [(0, .ref (ad 0)), (1, .ref (ad x1))] []) {ah : AH} {x1 : Nat} (hx1 : mI x1 8) (h : F_X12_readsOthers_50 N k10 ah x1 = some o) : XW p l e rm_X12_readsOthers s m args below meth c 2 0 (xQv below args s D vwCl (tysM ca) (EM ad ca) NCM ad o) D vwCl (EM ad ca) NCM ad ah 50 [(0, .ref (ad 0)), (1, .ref (ad x1))] [] := by
  unfold F_X12_readsOthers_50 at h
  refine x_aload_n C dX12_readsOthers_50 51 rfl 0 rfl ?_
  obtain ⟨r51, a51, hq, h⟩ := xb_some h
  refine x_callVi C 0 (c_X12_blanks C.2.2.2.2.2.2.1 hq) lm0 EM_0 rfl wml_X12_227 wq_X12_blanks rfl ⟨by decide, by decide⟩ rfl rfl ⟨by decide, by decide⟩ dX12_readsOthers_51 54 rfl rfl (Nat.le_of_ble_eq_true rfl) ?_
  refine x_pop C dX12_readsOthers_54 55 rfl rfl ?_
  exact b_X12_readsOthers_55 C hk10 hx1 h
theorem b_X12_readsOthers_10 (C : XC p l s m args meth c cX12_readsOthers 2 none RX12 D vwCl (tysM ca) (EM ad ca) NCM ad) {N : Nat} {o : AH} : ∀ (n : Nat) {ah : AH} {x1 : Nat} (hx1 : mI x1 8), F_X12_readsOthers_10 N n ah x1 = some o → XW p l e rm_X12_readsOthers s m args below meth c 2 0 (xQv below args s D vwCl (tysM ca) (EM ad ca) NCM ad o) D vwCl (EM ad ca) NCM ad ah 10 [(0, .ref (ad 0)), (1, .ref (ad x1))] [] := by
  intro n
  induction n with
  | zero => intro ah x1 hx1 h; unfold F_X12_readsOthers_10 at h; cases h
  | succ n ih =>
    intro ah x1 hx1 h
    unfold F_X12_readsOthers_10 at h
    refine x_aload_n C dX12_readsOthers_10 11 rfl 0 rfl ?_
    obtain ⟨r11, a11, hq, h⟩ := xb_some h
    refine x_callVi C 0 (c_X12_fine C.2.2.2.2.2.2.1 hq) lm0 EM_0 rfl wml_X12_206 wq_X12_fine rfl ⟨by decide, by decide⟩ rfl rfl ⟨by decide, by decide⟩ dX12_readsOthers_11 14 rfl rfl (Nat.le_of_ble_eq_true rfl) ?_
    refine x_if_eq C dX12_readsOthers_14 17 rfl 150 rfl h (fun h => ?_) (fun h => ?_)
    · exact x_sub [0] rfl (b_X12_readsOthers_150 C  h)
    · refine x_aload_n C dX12_readsOthers_17 18 rfl 0 rfl ?_
      obtain ⟨r18, a18, hq, h⟩ := xb_some h
      refine x_callVi C 0 (c_X12_here C.2.2.2.2.2.2.1 hq) lm0 EM_0 rfl wml_X12_196 wq_X12_here rfl ⟨by decide, by decide⟩ rfl rfl ⟨by decide, by decide⟩ dX12_readsOthers_18 21 rfl rfl (Nat.le_of_ble_eq_true rfl) ?_
      refine x_bipush C dX12_readsOthers_21 23 rfl 93 rfl ?_
      refine x_icmp_eq C dX12_readsOthers_23 26 rfl 150 rfl h (fun h => ?_) (fun h => ?_)
      · exact x_sub [0] rfl (b_X12_readsOthers_150 C  h)
      · refine x_aload_n C dX12_readsOthers_26 27 rfl 1 rfl ?_
        refine x_iconst C dX12_readsOthers_27 28 rfl 1 rfl ?_
        refine x_ialdK C x1 hx1.1 (hx1.2 _ _ _) 0 rfl dX12_readsOthers_28 29 rfl (by decide) 1 (by decide) ?_
        refine x_if_le C dX12_readsOthers_29 32 rfl 55 rfl h (fun h => ?_) (fun h => ?_)
        · exact b_X12_readsOthers_55 C (fun _ _ g0 h => ih g0 h) hx1 h
        · refine x_aload_n C dX12_readsOthers_32 33 rfl 0 rfl ?_
          obtain ⟨r33, a33, hq, h⟩ := xb_some h
          refine x_callVi C 0 (c_X12_here C.2.2.2.2.2.2.1 hq) lm0 EM_0 rfl wml_X12_196 wq_X12_here rfl ⟨by decide, by decide⟩ rfl rfl ⟨by decide, by decide⟩ dX12_readsOthers_33 36 rfl rfl (Nat.le_of_ble_eq_true rfl) ?_
          refine x_bipush C dX12_readsOthers_36 38 rfl 32 rfl ?_
          refine x_icmp_eq C dX12_readsOthers_38 41 rfl 50 rfl h (fun h => ?_) (fun h => ?_)
          · exact b_X12_readsOthers_50 C (fun _ _ g0 h => ih g0 h) hx1 h
          · refine x_aload_n C dX12_readsOthers_41 42 rfl 0 rfl ?_
            refine x_iconst C dX12_readsOthers_42 43 rfl 1 rfl ?_
            refine x_aload_n C dX12_readsOthers_43 44 rfl 0 rfl ?_
            refine x_get C inX12 0 lm0 EM_0 rfl 4 (by decide) dX12_readsOthers_44 47 rfl wmf_X12_189 rfl ?_
            obtain ⟨a47, hq, h⟩ := xbv_some h
            refine x_callVv C 0 (c_X12_wrong C.2.2.2.2.2.2.1 hq) lm0 EM_0 rfl wml_X12_214 wq_X12_wrong rfl ⟨by decide, by decide⟩ rfl rfl ⟨by decide, by decide⟩ dX12_readsOthers_47 50 rfl rfl (Nat.le_of_ble_eq_true rfl) ?_
            exact b_X12_readsOthers_50 C (fun _ _ g0 h => ih g0 h) hx1 h
theorem c_X12_readsOthers {l : Launch} {D : va_G} {ca : Nat → ClassId} {ad : Nat → Nat} (hI : xInj ad NCM) {N : Nat} {ah : AH} {x1 : Nat} (hx1 : mI x1 8) {a : AH} (h : F_X12_readsOthers N ah x1 = some a) : xMv l yX12_readsOthers cX12_readsOthers 2 rm_X12_readsOthers D vwCl (tysM ca) (EM ad ca) NCM ad [.ref (ad 0), .ref (ad x1)] ah a := by
  refine x_metv (by decide) (Nat.le_of_ble_eq_true rfl) hI EM_loc ?_
  intro p e s m args below meth c C
  unfold F_X12_readsOthers at h
  refine x_aload_n C dX12_readsOthers_0 1 rfl 0 rfl ?_
  refine x_dup C dX12_readsOthers_1 2 rfl rfl ?_
  refine x_get C inX12 0 lm0 EM_0 rfl 4 (by decide) dX12_readsOthers_2 5 rfl wmf_X12_189 rfl ?_
  refine x_iconst C dX12_readsOthers_5 6 rfl 1 rfl ?_
  refine x_iadd C dX12_readsOthers_6 7 rfl ?_
  refine x_put C inX12 0 lm0 EM_0 rfl 4 (by decide) tyX12_ok nmX12 dX12_readsOthers_7 10 rfl wmf_X12_189 rfl rfl rfl (Nat.le_of_ble_eq_true rfl) EQ_0_4 h (fun a7 h => ?_)
  exact b_X12_readsOthers_10 C  N hx1 h
abbrev rm_X12_readsCell : Room := { frames := 4, cells := 0, slots := 0, locals := 86 }
theorem wq_X12_readsCell : xcV RX12 yX12_readsCell cX12_readsCell 2 none 1 := ⟨wmi_X12_readsCell, wms_X12_readsCell, wmn_X12, wmc_X12_readsCell, by decide, by decide, by decide +kernel⟩
def F_X12_readsCell_92 (N : Nat) (ah : AH) (x1 : Nat) : Option AH := xlet (xu ah x1 0 10) (fun a96 => xlet (xu a96 17 1 ((a96 17 1) + 1)) (fun a106 => xlet (xu a106 0 4 ((a106 0 4) + 1)) (fun a114 => some a114)))
def F_X12_readsCell_44 (N : Nat) (ah : AH) (x1 : Nat) : Option AH := if (ah x1 0) = 45 then xb (F_X12_here N ah) (fun r53 a53 => if r53 = 10 then xb (F_X12_byteAt N a53 ((a53 0 4) + 1)) (fun r68 a68 => xb (F_X12_isSmall N a68 r68) (fun r71 a71 => if r71 = 0 then xb (F_X12_byteAt N a71 ((a71 0 4) + 1)) (fun r84 a84 => if r84 = 63 then F_X12_readsCell_92 N a84 x1 else some a84) else F_X12_readsCell_92 N a71 x1)) else some a53) else some ah
def F_X12_readsCell (N : Nat) (ah : AH) (x1 : Nat) : Option AH := xb (F_X12_here N ah) (fun r3 a3 => xlet (xu a3 x1 0 r3) (fun a6 => xlet (xu a6 x1 1 0) (fun a10 => xlet (xu a10 0 4 ((a10 0 4) + 1)) (fun a18 => xb (F_X12_isSmall N a18 (a18 x1 0)) (fun r24 a24 => if r24 = 0 then F_X12_readsCell_44 N a24 x1 else xb (F_X12_here N a24) (fun r31 a31 => if r31 = 91 then xbv (F_X12_readsOthers N a31 x1) (fun a41 => F_X12_readsCell_44 N a41 x1) else F_X12_readsCell_44 N a31 x1))))))
theorem b_X12_readsCell_92 (C : XC p l s m args meth c cX12_readsCell 2 none RX12 D vwCl (tysM ca) (EM ad ca) NCM ad) {N : Nat} {o : AH} {ah : AH} {x1 : Nat} (hx1 : mI x1 8) (h : F_X12_readsCell_92 N ah x1 = some o) : XW p l e rm_X12_readsCell s m args below meth c 2 0 (xQv below args s D vwCl (tysM ca) (EM ad ca) NCM ad o) D vwCl (EM ad ca) NCM ad ah 92 [(0, .ref (ad 0)), (1, .ref (ad x1))] [] := by
  unfold F_X12_readsCell_92 at h
  refine x_aload_n C dX12_readsCell_92 93 rfl 1 rfl ?_
  refine x_iconst C dX12_readsCell_93 94 rfl 0 rfl ?_
  refine x_bipush C dX12_readsCell_94 96 rfl 10 rfl ?_
  refine x_iastK C x1 hx1.1 (hx1.2 _ _) 0 rfl dX12_readsCell_96 97 rfl (by decide) 0 (by decide) h (fun a96 h => ?_)
  refine x_aload_n C dX12_readsCell_97 98 rfl 0 rfl ?_
  refine x_get C inX12 0 lm0 EM_0 rfl 25 (by decide) dX12_readsCell_98 101 rfl wmf_X12_69 rfl ?_
  refine x_iconst C dX12_readsCell_101 102 rfl 1 rfl ?_
  refine x_dup2 C dX12_readsCell_102 103 rfl rfl rfl ?_
  refine x_ialdK C 17 lm17 EM_17 0 rfl dX12_readsCell_103 104 rfl (by decide) 1 (by decide) ?_
  refine x_iconst C dX12_readsCell_104 105 rfl 1 rfl ?_
  refine x_iadd C dX12_readsCell_105 106 rfl ?_
  refine x_iastK C 17 lm17 (fun _ => EM_17) 0 rfl dX12_readsCell_106 107 rfl (by decide) 1 (by decide) h (fun a106 h => ?_)
  refine x_aload_n C dX12_readsCell_107 108 rfl 0 rfl ?_
  refine x_dup C dX12_readsCell_108 109 rfl rfl ?_
  refine x_get C inX12 0 lm0 EM_0 rfl 4 (by decide) dX12_readsCell_109 112 rfl wmf_X12_189 rfl ?_
  refine x_iconst C dX12_readsCell_112 113 rfl 1 rfl ?_
  refine x_iadd C dX12_readsCell_113 114 rfl ?_
  refine x_put C inX12 0 lm0 EM_0 rfl 4 (by decide) tyX12_ok nmX12 dX12_readsCell_114 117 rfl wmf_X12_189 rfl rfl rfl (Nat.le_of_ble_eq_true rfl) EQ_0_4 h (fun a114 h => ?_)
  exact x_vret C rfl dX12_readsCell_117 h
theorem b_X12_readsCell_44 (C : XC p l s m args meth c cX12_readsCell 2 none RX12 D vwCl (tysM ca) (EM ad ca) NCM ad) {N : Nat} {o : AH} {ah : AH} {x1 : Nat} (hx1 : mI x1 8) (h : F_X12_readsCell_44 N ah x1 = some o) : XW p l e rm_X12_readsCell s m args below meth c 2 0 (xQv below args s D vwCl (tysM ca) (EM ad ca) NCM ad o) D vwCl (EM ad ca) NCM ad ah 44 [(0, .ref (ad 0)), (1, .ref (ad x1))] [] := by
  unfold F_X12_readsCell_44 at h
  refine x_aload_n C dX12_readsCell_44 45 rfl 1 rfl ?_
  refine x_iconst C dX12_readsCell_45 46 rfl 0 rfl ?_
  refine x_ialdK C x1 hx1.1 (hx1.2 _ _ _) 0 rfl dX12_readsCell_46 47 rfl (by decide) 0 (by decide) ?_
  refine x_bipush C dX12_readsCell_47 49 rfl 45 rfl ?_
  refine x_icmp_ne C dX12_readsCell_49 52 rfl 117 rfl h (fun h => ?_) (fun h => ?_)
  · exact x_vret C rfl dX12_readsCell_117 h
  · refine x_aload_n C dX12_readsCell_52 53 rfl 0 rfl ?_
    obtain ⟨r53, a53, hq, h⟩ := xb_some h
    refine x_callVi C 0 (c_X12_here C.2.2.2.2.2.2.1 hq) lm0 EM_0 rfl wml_X12_196 wq_X12_here rfl ⟨by decide, by decide⟩ rfl rfl ⟨by decide, by decide⟩ dX12_readsCell_53 56 rfl rfl (Nat.le_of_ble_eq_true rfl) ?_
    refine x_bipush C dX12_readsCell_56 58 rfl 10 rfl ?_
    refine x_icmp_ne C dX12_readsCell_58 61 rfl 117 rfl h (fun h => ?_) (fun h => ?_)
    · exact x_vret C rfl dX12_readsCell_117 h
    · refine x_aload_n C dX12_readsCell_61 62 rfl 0 rfl ?_
      refine x_aload_n C dX12_readsCell_62 63 rfl 0 rfl ?_
      refine x_get C inX12 0 lm0 EM_0 rfl 4 (by decide) dX12_readsCell_63 66 rfl wmf_X12_189 rfl ?_
      refine x_iconst C dX12_readsCell_66 67 rfl 1 rfl ?_
      refine x_iadd C dX12_readsCell_67 68 rfl ?_
      obtain ⟨r68, a68, hq, h⟩ := xb_some h
      refine x_callVi C 0 (c_X12_byteAt C.2.2.2.2.2.2.1 hq) lm0 EM_0 rfl wml_X12_192 wq_X12_byteAt rfl ⟨by decide, by decide⟩ rfl rfl ⟨by decide, by decide⟩ dX12_readsCell_68 71 rfl rfl (Nat.le_of_ble_eq_true rfl) ?_
      obtain ⟨r71, a71, hq, h⟩ := xb_some h
      refine x_callSi C (c_X12_isSmall C.2.2.2.2.2.2.1 hq) wml_X12_230 wq_X12_isSmall rfl ⟨by decide, by decide⟩ rfl rfl ⟨by decide, by decide⟩ dX12_readsCell_71 74 rfl rfl (Nat.le_of_ble_eq_true rfl) ?_
      refine x_if_ne C dX12_readsCell_74 77 rfl 92 rfl h (fun h => ?_) (fun h => ?_)
      · exact b_X12_readsCell_92 C  hx1 h
      · refine x_aload_n C dX12_readsCell_77 78 rfl 0 rfl ?_
        refine x_aload_n C dX12_readsCell_78 79 rfl 0 rfl ?_
        refine x_get C inX12 0 lm0 EM_0 rfl 4 (by decide) dX12_readsCell_79 82 rfl wmf_X12_189 rfl ?_
        refine x_iconst C dX12_readsCell_82 83 rfl 1 rfl ?_
        refine x_iadd C dX12_readsCell_83 84 rfl ?_
        obtain ⟨r84, a84, hq, h⟩ := xb_some h
        refine x_callVi C 0 (c_X12_byteAt C.2.2.2.2.2.2.1 hq) lm0 EM_0 rfl wml_X12_192 wq_X12_byteAt rfl ⟨by decide, by decide⟩ rfl rfl ⟨by decide, by decide⟩ dX12_readsCell_84 87 rfl rfl (Nat.le_of_ble_eq_true rfl) ?_
        refine x_bipush C dX12_readsCell_87 89 rfl 63 rfl ?_
        refine x_icmp_ne C dX12_readsCell_89 92 rfl 117 rfl h (fun h => ?_) (fun h => ?_)
        · exact x_vret C rfl dX12_readsCell_117 h
        · exact b_X12_readsCell_92 C  hx1 h
theorem c_X12_readsCell {l : Launch} {D : va_G} {ca : Nat → ClassId} {ad : Nat → Nat} (hI : xInj ad NCM) {N : Nat} {ah : AH} {x1 : Nat} (hx1 : mI x1 8) {a : AH} (h : F_X12_readsCell N ah x1 = some a) : xMv l yX12_readsCell cX12_readsCell 2 rm_X12_readsCell D vwCl (tysM ca) (EM ad ca) NCM ad [.ref (ad 0), .ref (ad x1)] ah a := by
  refine x_metv (by decide) (Nat.le_of_ble_eq_true rfl) hI EM_loc ?_
  intro p e s m args below meth c C
  unfold F_X12_readsCell at h
  refine x_aload_n C dX12_readsCell_0 1 rfl 1 rfl ?_
  refine x_iconst C dX12_readsCell_1 2 rfl 0 rfl ?_
  refine x_aload_n C dX12_readsCell_2 3 rfl 0 rfl ?_
  obtain ⟨r3, a3, hq, h⟩ := xb_some h
  refine x_callVi C 0 (c_X12_here C.2.2.2.2.2.2.1 hq) lm0 EM_0 rfl wml_X12_196 wq_X12_here rfl ⟨by decide, by decide⟩ rfl rfl ⟨by decide, by decide⟩ dX12_readsCell_3 6 rfl rfl (Nat.le_of_ble_eq_true rfl) ?_
  refine x_iastK C x1 hx1.1 (hx1.2 _ _) 0 rfl dX12_readsCell_6 7 rfl (by decide) 0 (by decide) h (fun a6 h => ?_)
  refine x_aload_n C dX12_readsCell_7 8 rfl 1 rfl ?_
  refine x_iconst C dX12_readsCell_8 9 rfl 1 rfl ?_
  refine x_iconst C dX12_readsCell_9 10 rfl 0 rfl ?_
  refine x_iastK C x1 hx1.1 (hx1.2 _ _) 0 rfl dX12_readsCell_10 11 rfl (by decide) 1 (by decide) h (fun a10 h => ?_)
  refine x_aload_n C dX12_readsCell_11 12 rfl 0 rfl ?_
  refine x_dup C dX12_readsCell_12 13 rfl rfl ?_
  refine x_get C inX12 0 lm0 EM_0 rfl 4 (by decide) dX12_readsCell_13 16 rfl wmf_X12_189 rfl ?_
  refine x_iconst C dX12_readsCell_16 17 rfl 1 rfl ?_
  refine x_iadd C dX12_readsCell_17 18 rfl ?_
  refine x_put C inX12 0 lm0 EM_0 rfl 4 (by decide) tyX12_ok nmX12 dX12_readsCell_18 21 rfl wmf_X12_189 rfl rfl rfl (Nat.le_of_ble_eq_true rfl) EQ_0_4 h (fun a18 h => ?_)
  refine x_aload_n C dX12_readsCell_21 22 rfl 1 rfl ?_
  refine x_iconst C dX12_readsCell_22 23 rfl 0 rfl ?_
  refine x_ialdK C x1 hx1.1 (hx1.2 _ _ _) 0 rfl dX12_readsCell_23 24 rfl (by decide) 0 (by decide) ?_
  obtain ⟨r24, a24, hq, h⟩ := xb_some h
  refine x_callSi C (c_X12_isSmall C.2.2.2.2.2.2.1 hq) wml_X12_230 wq_X12_isSmall rfl ⟨by decide, by decide⟩ rfl rfl ⟨by decide, by decide⟩ dX12_readsCell_24 27 rfl rfl (Nat.le_of_ble_eq_true rfl) ?_
  refine x_if_eq C dX12_readsCell_27 30 rfl 44 rfl h (fun h => ?_) (fun h => ?_)
  · exact b_X12_readsCell_44 C  hx1 h
  · refine x_aload_n C dX12_readsCell_30 31 rfl 0 rfl ?_
    obtain ⟨r31, a31, hq, h⟩ := xb_some h
    refine x_callVi C 0 (c_X12_here C.2.2.2.2.2.2.1 hq) lm0 EM_0 rfl wml_X12_196 wq_X12_here rfl ⟨by decide, by decide⟩ rfl rfl ⟨by decide, by decide⟩ dX12_readsCell_31 34 rfl rfl (Nat.le_of_ble_eq_true rfl) ?_
    refine x_bipush C dX12_readsCell_34 36 rfl 91 rfl ?_
    refine x_icmp_ne C dX12_readsCell_36 39 rfl 44 rfl h (fun h => ?_) (fun h => ?_)
    · exact b_X12_readsCell_44 C  hx1 h
    · refine x_aload_n C dX12_readsCell_39 40 rfl 0 rfl ?_
      refine x_aload_n C dX12_readsCell_40 41 rfl 1 rfl ?_
      obtain ⟨a41, hq, h⟩ := xbv_some h
      refine x_callVv C 0 (c_X12_readsOthers C.2.2.2.2.2.2.1 hx1 hq) lm0 EM_0 rfl wml_X12_295 wq_X12_readsOthers rfl ⟨by decide, by decide⟩ rfl rfl ⟨by decide, by decide⟩ dX12_readsCell_41 44 rfl rfl (Nat.le_of_ble_eq_true rfl) ?_
      exact b_X12_readsCell_44 C  hx1 h
abbrev rm_X12_readsToken : Room := { frames := 5, cells := 0, slots := 0, locals := 107 }
theorem wq_X12_readsToken : xcV RX12 yX12_readsToken cX12_readsToken 3 none 1 := ⟨wmi_X12_readsToken, wms_X12_readsToken, wmn_X12, wmc_X12_readsToken, by decide, by decide, by decide +kernel⟩
def F_X12_readsToken_76 (N : Nat) (ah : AH) (v1 : Int32) (v2 : Int32) : Option AH := xlet (197 + 1) (fun x81 => xg v1 40 (xlet (xu ah x81 (Int32.toNatClampNeg v1) v2) (fun a84 => some a84)))
def F_X12_readsToken_48 (N : Nat) (k16 : AH → Int32 → Int32 → Option AH) (ah : AH) (v1 : Int32) (v2 : Int32) : Option AH := xb (F_X12_fine N ah) (fun r49 a49 => if r49 = 0 then some a49 else xg v1 40 (xg v2 24 (xlet (285 + ((1 * 40 + Int32.toNatClampNeg v1) * 24 + Int32.toNatClampNeg v2)) (fun x66 => xbv (F_X12_readsCell N a49 x66) (fun a67 => xlet (v2 + 1) (fun v2_70 => k16 a67 v1 v2_70))))))
def F_X12_readsToken_16 (N : Nat) : Nat → AH → Int32 → Int32 → Option AH
  | 0, _, _, _ => none
  | n + 1, ah, v1, v2 => xb (F_X12_fine N ah) (fun r17 a17 => if r17 = 0 then F_X12_readsToken_76 N a17 v1 v2 else xb (F_X12_here N a17) (fun r24 a24 => xb (F_X12_isCell N a24 r24) (fun r27 a27 => if r27 = 0 then F_X12_readsToken_76 N a27 v1 v2 else if v2 = 24 then xbv (F_X12_wrong N a27 3 (a27 0 4)) (fun a45 => F_X12_readsToken_48 N (F_X12_readsToken_16 N n) a45 v1 v2) else F_X12_readsToken_48 N (F_X12_readsToken_16 N n) a27 v1 v2)))
def F_X12_readsToken (N : Nat) (ah : AH) (p1 : Int32) : Option AH := xlet (199 + 1) (fun x5 => xg p1 40 (xlet (xu ah x5 (Int32.toNatClampNeg p1) (ah 17 1)) (fun a13 => xlet 0 (fun v2_15 => F_X12_readsToken_16 N N a13 p1 v2_15))))
theorem b_X12_readsToken_76 (C : XC p l s m args meth c cX12_readsToken 3 none RX12 D vwCl (tysM ca) (EM ad ca) NCM ad) {N : Nat} {o : AH} {ah : AH} {v1 : Int32} {v2 : Int32} (h : F_X12_readsToken_76 N ah v1 v2 = some o) : XW p l e rm_X12_readsToken s m args below meth c 3 0 (xQv below args s D vwCl (tysM ca) (EM ad ca) NCM ad o) D vwCl (EM ad ca) NCM ad ah 76 [(0, .ref (ad 0)), (1, .int v1), (2, .int v2)] [] := by
  unfold F_X12_readsToken_76 at h
  refine x_aload_n C dX12_readsToken_76 77 rfl 0 rfl ?_
  refine x_get C inX12 0 lm0 EM_0 rfl 27 (by decide) dX12_readsToken_77 80 rfl wmf_X12_72 rfl ?_
  refine x_iconst C dX12_readsToken_80 81 rfl 1 rfl ?_
  refine x_aaldLK C (18) lm18 EM_18 2 rfl rfl (by decide) 1 (by decide) dX12_readsToken_81 82 rfl (197 + 1) rfl h (fun x81 ex81 h => ?_)
  have hx81 : mI x81 40 := ex81 ▸ mI_cells (show 1 < 2 by decide)
  refine x_iload_n C dX12_readsToken_82 83 rfl 1 rfl ?_
  refine x_iload_n C dX12_readsToken_83 84 rfl 2 rfl ?_
  refine x_iast C x81 hx81.1 (hx81.2 _ _) 0 rfl dX12_readsToken_84 85 rfl h (fun a84 h => ?_)
  exact x_vret C rfl dX12_readsToken_85 h
theorem b_X12_readsToken_48 (C : XC p l s m args meth c cX12_readsToken 3 none RX12 D vwCl (tysM ca) (EM ad ca) NCM ad) {N : Nat} {o : AH} {k16 : AH → Int32 → Int32 → Option AH} (hk16 : ∀ (ah : AH) (v1 : Int32) (v2 : Int32), k16 ah v1 v2 = some o → XW p l e rm_X12_readsToken s m args below meth c 3 0 (xQv below args s D vwCl (tysM ca) (EM ad ca) NCM ad o) D vwCl (EM ad ca) NCM ad ah 16 [(0, .ref (ad 0)), (1, .int v1), (2, .int v2)] []) {ah : AH} {v1 : Int32} {v2 : Int32} (h : F_X12_readsToken_48 N k16 ah v1 v2 = some o) : XW p l e rm_X12_readsToken s m args below meth c 3 0 (xQv below args s D vwCl (tysM ca) (EM ad ca) NCM ad o) D vwCl (EM ad ca) NCM ad ah 48 [(0, .ref (ad 0)), (1, .int v1), (2, .int v2)] [] := by
  unfold F_X12_readsToken_48 at h
  refine x_aload_n C dX12_readsToken_48 49 rfl 0 rfl ?_
  obtain ⟨r49, a49, hq, h⟩ := xb_some h
  refine x_callVi C 0 (c_X12_fine C.2.2.2.2.2.2.1 hq) lm0 EM_0 rfl wml_X12_206 wq_X12_fine rfl ⟨by decide, by decide⟩ rfl rfl ⟨by decide, by decide⟩ dX12_readsToken_49 52 rfl rfl (Nat.le_of_ble_eq_true rfl) ?_
  refine x_if_ne C dX12_readsToken_52 55 rfl 56 rfl h (fun h => ?_) (fun h => ?_)
  · refine x_aload_n C dX12_readsToken_56 57 rfl 0 rfl ?_
    refine x_aload_n C dX12_readsToken_57 58 rfl 0 rfl ?_
    refine x_get C inX12 0 lm0 EM_0 rfl 30 (by decide) dX12_readsToken_58 61 rfl wmf_X12_83 rfl ?_
    refine x_iconst C dX12_readsToken_61 62 rfl 1 rfl ?_
    refine x_aaldK C (21) lm21 EM_21 4 rfl rfl (by decide) 1 (by decide) dX12_readsToken_62 63 rfl (203 + 1) rfl ?_
    refine x_iload_n C dX12_readsToken_63 64 rfl 1 rfl ?_
    refine x_aald C (203 + 1) (lm_cell_1 (show 1 < 2 by decide)) (EM_cell_1 (show 1 < 2 by decide)) 3 rfl rfl dX12_readsToken_64 65 rfl (205 + (1 * 40 + Int32.toNatClampNeg v1)) rfl h (fun hb64 h => ?_)
    refine x_iload_n C dX12_readsToken_65 66 rfl 2 rfl ?_
    refine x_aaldL C (205 + (1 * 40 + Int32.toNatClampNeg v1)) (lm_cell_2 (xfl (show 1 < 2 by decide) hb64)) (EM_cell_2 (xfl (show 1 < 2 by decide) hb64)) 2 rfl rfl dX12_readsToken_66 67 rfl (285 + ((1 * 40 + Int32.toNatClampNeg v1) * 24 + Int32.toNatClampNeg v2)) rfl h (fun x66 ex66 hb66 h => ?_)
    have hx66 : mI x66 8 := ex66 ▸ mI_cell (xfl (xfl (show 1 < 2 by decide) hb64) hb66)
    obtain ⟨a67, hq, h⟩ := xbv_some h
    refine x_callVv C 0 (c_X12_readsCell C.2.2.2.2.2.2.1 hx66 hq) lm0 EM_0 rfl wml_X12_301 wq_X12_readsCell rfl ⟨by decide, by decide⟩ rfl rfl ⟨by decide, by decide⟩ dX12_readsToken_67 70 rfl rfl (Nat.le_of_ble_eq_true rfl) ?_
    refine x_iinc C dX12_readsToken_70 73 rfl 2 rfl (d := 1) rfl (by decide) (fun v2_70 => [(2, .int v2_70), (0, .ref (ad 0)), (1, .int v1)]) (fun _ => rfl) h (fun v2_70 h => ?_)
    refine x_goto C dX12_readsToken_73 16 rfl ?_
    exact x_sub [1, 2, 0] rfl (hk16 _ _ _ h)
  · exact x_vret C rfl dX12_readsToken_55 h
theorem b_X12_readsToken_16 (C : XC p l s m args meth c cX12_readsToken 3 none RX12 D vwCl (tysM ca) (EM ad ca) NCM ad) {N : Nat} {o : AH} : ∀ (n : Nat) {ah : AH} {v1 : Int32} {v2 : Int32}, F_X12_readsToken_16 N n ah v1 v2 = some o → XW p l e rm_X12_readsToken s m args below meth c 3 0 (xQv below args s D vwCl (tysM ca) (EM ad ca) NCM ad o) D vwCl (EM ad ca) NCM ad ah 16 [(0, .ref (ad 0)), (1, .int v1), (2, .int v2)] [] := by
  intro n
  induction n with
  | zero => intro ah v1 v2 h; unfold F_X12_readsToken_16 at h; cases h
  | succ n ih =>
    intro ah v1 v2 h
    unfold F_X12_readsToken_16 at h
    refine x_aload_n C dX12_readsToken_16 17 rfl 0 rfl ?_
    obtain ⟨r17, a17, hq, h⟩ := xb_some h
    refine x_callVi C 0 (c_X12_fine C.2.2.2.2.2.2.1 hq) lm0 EM_0 rfl wml_X12_206 wq_X12_fine rfl ⟨by decide, by decide⟩ rfl rfl ⟨by decide, by decide⟩ dX12_readsToken_17 20 rfl rfl (Nat.le_of_ble_eq_true rfl) ?_
    refine x_if_eq C dX12_readsToken_20 23 rfl 76 rfl h (fun h => ?_) (fun h => ?_)
    · exact b_X12_readsToken_76 C  h
    · refine x_aload_n C dX12_readsToken_23 24 rfl 0 rfl ?_
      obtain ⟨r24, a24, hq, h⟩ := xb_some h
      refine x_callVi C 0 (c_X12_here C.2.2.2.2.2.2.1 hq) lm0 EM_0 rfl wml_X12_196 wq_X12_here rfl ⟨by decide, by decide⟩ rfl rfl ⟨by decide, by decide⟩ dX12_readsToken_24 27 rfl rfl (Nat.le_of_ble_eq_true rfl) ?_
      obtain ⟨r27, a27, hq, h⟩ := xb_some h
      refine x_callSi C (c_X12_isCell C.2.2.2.2.2.2.1 hq) wml_X12_298 wq_X12_isCell rfl ⟨by decide, by decide⟩ rfl rfl ⟨by decide, by decide⟩ dX12_readsToken_27 30 rfl rfl (Nat.le_of_ble_eq_true rfl) ?_
      refine x_if_eq C dX12_readsToken_30 33 rfl 76 rfl h (fun h => ?_) (fun h => ?_)
      · exact b_X12_readsToken_76 C  h
      · refine x_iload_n C dX12_readsToken_33 34 rfl 2 rfl ?_
        refine x_bipush C dX12_readsToken_34 36 rfl 24 rfl ?_
        refine x_icmp_ne C dX12_readsToken_36 39 rfl 48 rfl h (fun h => ?_) (fun h => ?_)
        · exact b_X12_readsToken_48 C (fun _ _ _ h => ih h) h
        · refine x_aload_n C dX12_readsToken_39 40 rfl 0 rfl ?_
          refine x_iconst C dX12_readsToken_40 41 rfl 3 rfl ?_
          refine x_aload_n C dX12_readsToken_41 42 rfl 0 rfl ?_
          refine x_get C inX12 0 lm0 EM_0 rfl 4 (by decide) dX12_readsToken_42 45 rfl wmf_X12_189 rfl ?_
          obtain ⟨a45, hq, h⟩ := xbv_some h
          refine x_callVv C 0 (c_X12_wrong C.2.2.2.2.2.2.1 hq) lm0 EM_0 rfl wml_X12_214 wq_X12_wrong rfl ⟨by decide, by decide⟩ rfl rfl ⟨by decide, by decide⟩ dX12_readsToken_45 48 rfl rfl (Nat.le_of_ble_eq_true rfl) ?_
          exact b_X12_readsToken_48 C (fun _ _ _ h => ih h) h
theorem c_X12_readsToken {l : Launch} {D : va_G} {ca : Nat → ClassId} {ad : Nat → Nat} (hI : xInj ad NCM) {N : Nat} {ah : AH} {p1 : Int32} {a : AH} (h : F_X12_readsToken N ah p1 = some a) : xMv l yX12_readsToken cX12_readsToken 3 rm_X12_readsToken D vwCl (tysM ca) (EM ad ca) NCM ad [.ref (ad 0), .int p1] ah a := by
  refine x_metv (by decide) (Nat.le_of_ble_eq_true rfl) hI EM_loc ?_
  intro p e s m args below meth c C
  unfold F_X12_readsToken at h
  refine x_aload_n C dX12_readsToken_0 1 rfl 0 rfl ?_
  refine x_get C inX12 0 lm0 EM_0 rfl 28 (by decide) dX12_readsToken_1 4 rfl wmf_X12_75 rfl ?_
  refine x_iconst C dX12_readsToken_4 5 rfl 1 rfl ?_
  refine x_aaldLK C (19) lm19 EM_19 2 rfl rfl (by decide) 1 (by decide) dX12_readsToken_5 6 rfl (199 + 1) rfl h (fun x5 ex5 h => ?_)
  have hx5 : mI x5 40 := ex5 ▸ mI_lineOf (show 1 < 2 by decide)
  refine x_iload_n C dX12_readsToken_6 7 rfl 1 rfl ?_
  refine x_aload_n C dX12_readsToken_7 8 rfl 0 rfl ?_
  refine x_get C inX12 0 lm0 EM_0 rfl 25 (by decide) dX12_readsToken_8 11 rfl wmf_X12_69 rfl ?_
  refine x_iconst C dX12_readsToken_11 12 rfl 1 rfl ?_
  refine x_ialdK C 17 lm17 EM_17 0 rfl dX12_readsToken_12 13 rfl (by decide) 1 (by decide) ?_
  refine x_iast C x5 hx5.1 (hx5.2 _ _) 0 rfl dX12_readsToken_13 14 rfl h (fun a13 h => ?_)
  refine x_iconst C dX12_readsToken_14 15 rfl 0 rfl ?_
  refine x_istore_n C dX12_readsToken_15 16 rfl (by decide) (fun v2_15 => [(2, .int v2_15), (0, .ref (ad 0)), (1, .int p1)]) (fun _ => rfl) h (fun v2_15 h => ?_)
  exact x_sub [1, 2, 0] rfl (b_X12_readsToken_16 C  N h)
abbrev rm_X12_standsBetween : Room := { frames := 2, cells := 0, slots := 0, locals := 41 }
theorem wq_X12_standsBetween : xcV RX12 yX12_standsBetween cX12_standsBetween 3 (some .int) 0 := ⟨wmi_X12_standsBetween, wms_X12_standsBetween, wmn_X12, wmc_X12_standsBetween, by decide, by decide, by decide +kernel⟩
def F_X12_standsBetween_54 (N : Nat) (k4 : AH → Int32 → Int32 → Option (Int32 × AH)) (ah : AH) (v1 : Int32) (s0 : Int32) (s1 : Int32) : Option (Int32 × AH) := xlet (s0 + s1) (fun v2_55 => xlet (xu ah 0 4 ((ah 0 4) + 1)) (fun a63 => k4 a63 v1 v2_55))
def F_X12_standsBetween_37 (N : Nat) (k4 : AH → Int32 → Int32 → Option (Int32 × AH)) (ah : AH) (v2 : Int32) (s0 : Int32) (s1 : Int32) : Option (Int32 × AH) := xlet (s0 + s1) (fun v1_38 => xb (F_X12_here N ah) (fun r41 a41 => if r41 = 10 then F_X12_standsBetween_54 N k4 a41 v1_38 v2 0 else F_X12_standsBetween_54 N k4 a41 v1_38 v2 1))
def F_X12_standsBetween_22 (N : Nat) (k4 : AH → Int32 → Int32 → Option (Int32 × AH)) (ah : AH) (v1 : Int32) (v2 : Int32) : Option (Int32 × AH) := xb (F_X12_here N ah) (fun r24 a24 => if r24 = 10 then F_X12_standsBetween_37 N k4 a24 v2 v1 1 else F_X12_standsBetween_37 N k4 a24 v2 v1 0)
def F_X12_standsBetween_4 (N : Nat) : Nat → AH → Int32 → Int32 → Option (Int32 × AH)
  | 0, _, _, _ => none
  | n + 1, ah, v1, v2 => xb (F_X12_here N ah) (fun r5 a5 => if r5 = 32 then F_X12_standsBetween_22 N (F_X12_standsBetween_4 N n) a5 v1 v2 else xb (F_X12_here N a5) (fun r14 a14 => if r14 = 10 then F_X12_standsBetween_22 N (F_X12_standsBetween_4 N n) a14 v1 v2 else xlet (xu a14 17 1 ((a14 17 1) + v1)) (fun a78 => if v1 = 0 then some (0, a78) else if v1 = 1 then if v2 = 0 then some (1, a78) else some (2, a78) else some (2, a78))))
def F_X12_standsBetween (N : Nat) (ah : AH) : Option (Int32 × AH) := xlet 0 (fun v1_1 => xlet 0 (fun v2_3 => F_X12_standsBetween_4 N N ah v1_1 v2_3))
theorem b_X12_standsBetween_54 (C : XC p l s m args meth c cX12_standsBetween 3 (some .int) RX12 D vwCl (tysM ca) (EM ad ca) NCM ad) {N : Nat} {o : (Int32 × AH)} {k4 : AH → Int32 → Int32 → Option (Int32 × AH)} (hk4 : ∀ (ah : AH) (v1 : Int32) (v2 : Int32), k4 ah v1 v2 = some o → XW p l e rm_X12_standsBetween s m args below meth c 3 0 (xQi below args s D vwCl (tysM ca) (EM ad ca) NCM ad o) D vwCl (EM ad ca) NCM ad ah 4 [(0, .ref (ad 0)), (1, .int v1), (2, .int v2)] []) {ah : AH} {v1 : Int32} {s0 : Int32} {s1 : Int32} (h : F_X12_standsBetween_54 N k4 ah v1 s0 s1 = some o) : XW p l e rm_X12_standsBetween s m args below meth c 3 0 (xQi below args s D vwCl (tysM ca) (EM ad ca) NCM ad o) D vwCl (EM ad ca) NCM ad ah 54 [(0, .ref (ad 0)), (1, .int v1)] [.int s1, .int s0] := by
  unfold F_X12_standsBetween_54 at h
  refine x_iadd C dX12_standsBetween_54 55 rfl ?_
  refine x_istore_n C dX12_standsBetween_55 56 rfl (by decide) (fun v2_55 => [(2, .int v2_55), (0, .ref (ad 0)), (1, .int v1)]) (fun _ => rfl) h (fun v2_55 h => ?_)
  refine x_aload_n C dX12_standsBetween_56 57 rfl 1 rfl ?_
  refine x_dup C dX12_standsBetween_57 58 rfl rfl ?_
  refine x_get C inX12 0 lm0 EM_0 rfl 4 (by decide) dX12_standsBetween_58 61 rfl wmf_X12_189 rfl ?_
  refine x_iconst C dX12_standsBetween_61 62 rfl 1 rfl ?_
  refine x_iadd C dX12_standsBetween_62 63 rfl ?_
  refine x_put C inX12 0 lm0 EM_0 rfl 4 (by decide) tyX12_ok nmX12 dX12_standsBetween_63 66 rfl wmf_X12_189 rfl rfl rfl (Nat.le_of_ble_eq_true rfl) EQ_0_4 h (fun a63 h => ?_)
  refine x_goto C dX12_standsBetween_66 4 rfl ?_
  exact x_sub [1, 2, 0] rfl (hk4 _ _ _ h)
theorem b_X12_standsBetween_37 (C : XC p l s m args meth c cX12_standsBetween 3 (some .int) RX12 D vwCl (tysM ca) (EM ad ca) NCM ad) {N : Nat} {o : (Int32 × AH)} {k4 : AH → Int32 → Int32 → Option (Int32 × AH)} (hk4 : ∀ (ah : AH) (v1 : Int32) (v2 : Int32), k4 ah v1 v2 = some o → XW p l e rm_X12_standsBetween s m args below meth c 3 0 (xQi below args s D vwCl (tysM ca) (EM ad ca) NCM ad o) D vwCl (EM ad ca) NCM ad ah 4 [(0, .ref (ad 0)), (1, .int v1), (2, .int v2)] []) {ah : AH} {v2 : Int32} {s0 : Int32} {s1 : Int32} (h : F_X12_standsBetween_37 N k4 ah v2 s0 s1 = some o) : XW p l e rm_X12_standsBetween s m args below meth c 3 0 (xQi below args s D vwCl (tysM ca) (EM ad ca) NCM ad o) D vwCl (EM ad ca) NCM ad ah 37 [(0, .ref (ad 0)), (2, .int v2)] [.int s1, .int s0] := by
  unfold F_X12_standsBetween_37 at h
  refine x_iadd C dX12_standsBetween_37 38 rfl ?_
  refine x_istore_n C dX12_standsBetween_38 39 rfl (by decide) (fun v1_38 => [(1, .int v1_38), (0, .ref (ad 0)), (2, .int v2)]) (fun _ => rfl) h (fun v1_38 h => ?_)
  refine x_iload_n C dX12_standsBetween_39 40 rfl 2 rfl ?_
  refine x_aload_n C dX12_standsBetween_40 41 rfl 1 rfl ?_
  obtain ⟨r41, a41, hq, h⟩ := xb_some h
  refine x_callVi C 0 (c_X12_here C.2.2.2.2.2.2.1 hq) lm0 EM_0 rfl wml_X12_196 wq_X12_here rfl ⟨by decide, by decide⟩ rfl rfl ⟨by decide, by decide⟩ dX12_standsBetween_41 44 rfl rfl (Nat.le_of_ble_eq_true rfl) ?_
  refine x_bipush C dX12_standsBetween_44 46 rfl 10 rfl ?_
  refine x_icmp_ne C dX12_standsBetween_46 49 rfl 53 rfl h (fun h => ?_) (fun h => ?_)
  · refine x_iconst C dX12_standsBetween_53 54 rfl 1 rfl ?_
    exact x_sub [1, 0] rfl (b_X12_standsBetween_54 C hk4 h)
  · refine x_iconst C dX12_standsBetween_49 50 rfl 0 rfl ?_
    refine x_goto C dX12_standsBetween_50 54 rfl ?_
    exact x_sub [1, 0] rfl (b_X12_standsBetween_54 C hk4 h)
theorem b_X12_standsBetween_22 (C : XC p l s m args meth c cX12_standsBetween 3 (some .int) RX12 D vwCl (tysM ca) (EM ad ca) NCM ad) {N : Nat} {o : (Int32 × AH)} {k4 : AH → Int32 → Int32 → Option (Int32 × AH)} (hk4 : ∀ (ah : AH) (v1 : Int32) (v2 : Int32), k4 ah v1 v2 = some o → XW p l e rm_X12_standsBetween s m args below meth c 3 0 (xQi below args s D vwCl (tysM ca) (EM ad ca) NCM ad o) D vwCl (EM ad ca) NCM ad ah 4 [(0, .ref (ad 0)), (1, .int v1), (2, .int v2)] []) {ah : AH} {v1 : Int32} {v2 : Int32} (h : F_X12_standsBetween_22 N k4 ah v1 v2 = some o) : XW p l e rm_X12_standsBetween s m args below meth c 3 0 (xQi below args s D vwCl (tysM ca) (EM ad ca) NCM ad o) D vwCl (EM ad ca) NCM ad ah 22 [(0, .ref (ad 0)), (1, .int v1), (2, .int v2)] [] := by
  unfold F_X12_standsBetween_22 at h
  refine x_iload_n C dX12_standsBetween_22 23 rfl 1 rfl ?_
  refine x_aload_n C dX12_standsBetween_23 24 rfl 0 rfl ?_
  obtain ⟨r24, a24, hq, h⟩ := xb_some h
  refine x_callVi C 0 (c_X12_here C.2.2.2.2.2.2.1 hq) lm0 EM_0 rfl wml_X12_196 wq_X12_here rfl ⟨by decide, by decide⟩ rfl rfl ⟨by decide, by decide⟩ dX12_standsBetween_24 27 rfl rfl (Nat.le_of_ble_eq_true rfl) ?_
  refine x_bipush C dX12_standsBetween_27 29 rfl 10 rfl ?_
  refine x_icmp_ne C dX12_standsBetween_29 32 rfl 36 rfl h (fun h => ?_) (fun h => ?_)
  · refine x_iconst C dX12_standsBetween_36 37 rfl 0 rfl ?_
    exact x_sub [0, 2] rfl (b_X12_standsBetween_37 C hk4 h)
  · refine x_iconst C dX12_standsBetween_32 33 rfl 1 rfl ?_
    refine x_goto C dX12_standsBetween_33 37 rfl ?_
    exact x_sub [0, 2] rfl (b_X12_standsBetween_37 C hk4 h)
theorem b_X12_standsBetween_4 (C : XC p l s m args meth c cX12_standsBetween 3 (some .int) RX12 D vwCl (tysM ca) (EM ad ca) NCM ad) {N : Nat} {o : (Int32 × AH)} : ∀ (n : Nat) {ah : AH} {v1 : Int32} {v2 : Int32}, F_X12_standsBetween_4 N n ah v1 v2 = some o → XW p l e rm_X12_standsBetween s m args below meth c 3 0 (xQi below args s D vwCl (tysM ca) (EM ad ca) NCM ad o) D vwCl (EM ad ca) NCM ad ah 4 [(0, .ref (ad 0)), (1, .int v1), (2, .int v2)] [] := by
  intro n
  induction n with
  | zero => intro ah v1 v2 h; unfold F_X12_standsBetween_4 at h; cases h
  | succ n ih =>
    intro ah v1 v2 h
    unfold F_X12_standsBetween_4 at h
    refine x_aload_n C dX12_standsBetween_4 5 rfl 0 rfl ?_
    obtain ⟨r5, a5, hq, h⟩ := xb_some h
    refine x_callVi C 0 (c_X12_here C.2.2.2.2.2.2.1 hq) lm0 EM_0 rfl wml_X12_196 wq_X12_here rfl ⟨by decide, by decide⟩ rfl rfl ⟨by decide, by decide⟩ dX12_standsBetween_5 8 rfl rfl (Nat.le_of_ble_eq_true rfl) ?_
    refine x_bipush C dX12_standsBetween_8 10 rfl 32 rfl ?_
    refine x_icmp_eq C dX12_standsBetween_10 13 rfl 22 rfl h (fun h => ?_) (fun h => ?_)
    · exact b_X12_standsBetween_22 C (fun _ _ _ h => ih h) h
    · refine x_aload_n C dX12_standsBetween_13 14 rfl 0 rfl ?_
      obtain ⟨r14, a14, hq, h⟩ := xb_some h
      refine x_callVi C 0 (c_X12_here C.2.2.2.2.2.2.1 hq) lm0 EM_0 rfl wml_X12_196 wq_X12_here rfl ⟨by decide, by decide⟩ rfl rfl ⟨by decide, by decide⟩ dX12_standsBetween_14 17 rfl rfl (Nat.le_of_ble_eq_true rfl) ?_
      refine x_bipush C dX12_standsBetween_17 19 rfl 10 rfl ?_
      refine x_icmp_ne C dX12_standsBetween_19 22 rfl 69 rfl h (fun h => ?_) (fun h => ?_)
      · refine x_aload_n C dX12_standsBetween_69 70 rfl 0 rfl ?_
        refine x_get C inX12 0 lm0 EM_0 rfl 25 (by decide) dX12_standsBetween_70 73 rfl wmf_X12_69 rfl ?_
        refine x_iconst C dX12_standsBetween_73 74 rfl 1 rfl ?_
        refine x_dup2 C dX12_standsBetween_74 75 rfl rfl rfl ?_
        refine x_ialdK C 17 lm17 EM_17 0 rfl dX12_standsBetween_75 76 rfl (by decide) 1 (by decide) ?_
        refine x_iload_n C dX12_standsBetween_76 77 rfl 1 rfl ?_
        refine x_iadd C dX12_standsBetween_77 78 rfl ?_
        refine x_iastK C 17 lm17 (fun _ => EM_17) 0 rfl dX12_standsBetween_78 79 rfl (by decide) 1 (by decide) h (fun a78 h => ?_)
        refine x_iload_n C dX12_standsBetween_79 80 rfl 1 rfl ?_
        refine x_if_ne C dX12_standsBetween_80 83 rfl 87 rfl h (fun h => ?_) (fun h => ?_)
        · refine x_iload_n C dX12_standsBetween_87 88 rfl 1 rfl ?_
          refine x_iconst C dX12_standsBetween_88 89 rfl 1 rfl ?_
          refine x_icmp_ne C dX12_standsBetween_89 92 rfl 100 rfl h (fun h => ?_) (fun h => ?_)
          · refine x_iconst C dX12_standsBetween_100 101 rfl 2 rfl ?_
            exact x_iret C rfl dX12_standsBetween_101 h
          · refine x_iload_n C dX12_standsBetween_92 93 rfl 2 rfl ?_
            refine x_if_ne C dX12_standsBetween_93 96 rfl 100 rfl h (fun h => ?_) (fun h => ?_)
            · refine x_iconst C dX12_standsBetween_100 101 rfl 2 rfl ?_
              exact x_iret C rfl dX12_standsBetween_101 h
            · refine x_iconst C dX12_standsBetween_96 97 rfl 1 rfl ?_
              refine x_goto C dX12_standsBetween_97 101 rfl ?_
              exact x_iret C rfl dX12_standsBetween_101 h
        · refine x_iconst C dX12_standsBetween_83 84 rfl 0 rfl ?_
          refine x_goto C dX12_standsBetween_84 101 rfl ?_
          exact x_iret C rfl dX12_standsBetween_101 h
      · exact b_X12_standsBetween_22 C (fun _ _ _ h => ih h) h
theorem c_X12_standsBetween {l : Launch} {D : va_G} {ca : Nat → ClassId} {ad : Nat → Nat} (hI : xInj ad NCM) {N : Nat} {ah : AH} {r : Int32} {a : AH} (h : F_X12_standsBetween N ah = some (r, a)) : xMi l yX12_standsBetween cX12_standsBetween 3 (some .int) rm_X12_standsBetween D vwCl (tysM ca) (EM ad ca) NCM ad [.ref (ad 0)] ah (r, a) := by
  refine x_meti (by decide) (Nat.le_of_ble_eq_true rfl) hI EM_loc ?_
  intro p e s m args below meth c C
  unfold F_X12_standsBetween at h
  refine x_iconst C dX12_standsBetween_0 1 rfl 0 rfl ?_
  refine x_istore_n C dX12_standsBetween_1 2 rfl (by decide) (fun v1_1 => [(1, .int v1_1), (0, .ref (ad 0))]) (fun _ => rfl) h (fun v1_1 h => ?_)
  refine x_iconst C dX12_standsBetween_2 3 rfl 0 rfl ?_
  refine x_istore_n C dX12_standsBetween_3 4 rfl (by decide) (fun v2_3 => [(2, .int v2_3), (1, .int v1_1), (0, .ref (ad 0))]) (fun _ => rfl) h (fun v2_3 h => ?_)
  exact x_sub [2, 1, 0] rfl (b_X12_standsBetween_4 C  N h)
abbrev rm_X12_reading : Room := { frames := 6, cells := 0, slots := 0, locals := 129 }
theorem wq_X12_reading : xcV RX12 yX12_reading cX12_reading 5 (some .int) 1 := ⟨wmi_X12_reading, wms_X12_reading, wmn_X12, wmc_X12_reading, by decide, by decide, by decide +kernel⟩
def F_X12_reading_327 (N : Nat) (k252 : AH → Int32 → Option (Int32 × AH)) (k312 : AH → Int32 → Int32 → Option (Int32 × AH)) : Nat → AH → Int32 → Int32 → Int32 → Option (Int32 × AH)
  | 0, _, _, _, _ => none
  | n + 1, ah, v2, v3, v4 => if 8 ≤ v4 then xlet (v3 + 1) (fun v3_366 => k312 ah v2 v3_366) else xg v2 40 (xg v3 24 (xlet (285 + ((0 * 40 + Int32.toNatClampNeg v2) * 24 + Int32.toNatClampNeg v3)) (fun x343 => xg v2 40 (xg v3 24 (xlet (285 + ((1 * 40 + Int32.toNatClampNeg v2) * 24 + Int32.toNatClampNeg v3)) (fun x355 => xg v4 8 (xg v4 8 (xlet (xu ah x343 (Int32.toNatClampNeg v4) (ah x355 (Int32.toNatClampNeg v4))) (fun a359 => xlet (v4 + 1) (fun v4_360 => F_X12_reading_327 N k252 k312 n a359 v2 v3 v4_360))))))))))
def F_X12_reading_312 (N : Nat) (k252 : AH → Int32 → Option (Int32 × AH)) : Nat → AH → Int32 → Int32 → Option (Int32 × AH)
  | 0, _, _, _ => none
  | n + 1, ah, v2, v3 => xlet (197 + 0) (fun x318 => xg v2 40 (if (ah x318 (Int32.toNatClampNeg v2)) ≤ v3 then xlet (v2 + 1) (fun v2_372 => k252 ah v2_372) else xlet 0 (fun v4_325 => F_X12_reading_327 N k252 (F_X12_reading_312 N k252 n) N ah v2 v3 v4_325)))
def F_X12_reading_252 (N : Nat) : Nat → AH → Int32 → Option (Int32 × AH)
  | 0, _, _ => none
  | n + 1, ah, v2 => if (ah 16 0) ≤ v2 then xb (F_X12_ends N ah (ah 16 0)) (fun r385 a385 => some (r385, a385)) else xlet (197 + 0) (fun x267 => xlet (197 + 1) (fun x274 => xg v2 40 (xg v2 40 (xlet (xu ah x267 (Int32.toNatClampNeg v2) (ah x274 (Int32.toNatClampNeg v2))) (fun a277 => xlet (199 + 0) (fun x283 => xlet (199 + 1) (fun x290 => xg v2 40 (xg v2 40 (xlet (xu a277 x283 (Int32.toNatClampNeg v2) (a277 x290 (Int32.toNatClampNeg v2))) (fun a293 => xlet (201 + 0) (fun x299 => xlet (201 + 1) (fun x306 => xg v2 40 (xg v2 40 (xlet (xu a293 x299 (Int32.toNatClampNeg v2) (a293 x306 (Int32.toNatClampNeg v2))) (fun a309 => xlet 0 (fun v3_311 => F_X12_reading_312 N (F_X12_reading_252 N n) N a309 v2 v3_311))))))))))))))))
def F_X12_reading_208 (N : Nat) (ah : AH) : Option (Int32 × AH) := xb (F_X12_fine N ah) (fun r209 a209 => if r209 = 0 then xb (F_X12_ends N a209 0) (fun r217 a217 => some (r217, a217)) else xlet (xu a209 0 26 1) (fun a223 => xlet (xu a223 16 0 (a223 16 1)) (fun a237 => xlet (xu a237 17 0 (a237 17 1)) (fun a249 => xlet 0 (fun v2_251 => F_X12_reading_252 N N a249 v2_251)))))
def F_X12_reading_195 (N : Nat) (k57 : AH → Option (Int32 × AH)) (ah : AH) : Option (Int32 × AH) := xlet (xu ah 16 1 ((ah 16 1) + 1)) (fun a204 => k57 a204)
def F_X12_reading_163 (N : Nat) (k57 : AH → Option (Int32 × AH)) (ah : AH) (v2 : Int32) : Option (Int32 × AH) := xb (F_X12_fine N ah) (fun r164 a164 => if r164 = 0 then F_X12_reading_195 N k57 a164 else xb (F_X12_here N a164) (fun r171 a171 => if r171 = ((-1)) then F_X12_reading_195 N k57 a171 else if (a171 0 4) = v2 then xbv (F_X12_wrong N a171 1 (a171 0 4)) (fun a192 => F_X12_reading_195 N k57 a192) else F_X12_reading_195 N k57 a171))
def F_X12_reading_114 (N : Nat) (k57 : AH → Option (Int32 × AH)) (ah : AH) : Option (Int32 × AH) := xb (F_X12_fine N ah) (fun r115 a115 => if r115 = 0 then F_X12_reading_208 N a115 else xbv (F_X12_readsToken N a115 (a115 16 1)) (fun a131 => xlet (a131 0 4) (fun v2_138 => xb (F_X12_fine N a131) (fun r140 a140 => if r140 = 0 then F_X12_reading_163 N k57 a140 v2_138 else xlet (201 + 1) (fun x151 => xb (F_X12_standsBetween N a140) (fun r159 a159 => xg (a140 16 1) 40 (xlet (xu a159 x151 (Int32.toNatClampNeg (a140 16 1)) r159) (fun a162 => F_X12_reading_163 N k57 a162 v2_138))))))))
def F_X12_reading_57 (N : Nat) : Nat → AH → Option (Int32 × AH)
  | 0, _ => none
  | n + 1, ah => xb (F_X12_fine N ah) (fun r58 a58 => if r58 = 0 then F_X12_reading_208 N a58 else xb (F_X12_here N a58) (fun r65 a65 => if r65 = ((-1)) then F_X12_reading_208 N a65 else xb (F_X12_here N a65) (fun r73 a73 => xb (F_X12_isCell N a73 r73) (fun r76 a76 => if r76 = 0 then xbv (F_X12_wrong N a76 1 (a76 0 4)) (fun a88 => F_X12_reading_114 N (F_X12_reading_57 N n) a88) else if (a76 16 1) = 40 then xbv (F_X12_wrong N a76 3 (a76 0 4)) (fun a111 => F_X12_reading_114 N (F_X12_reading_57 N n) a111) else F_X12_reading_114 N (F_X12_reading_57 N n) a76))))
def F_X12_reading_23 (N : Nat) (ah : AH) (v1 : Int32) (s1 : Int32) : Option (Int32 × AH) := xb (F_X12_bad N ah s1 1 1) (fun r25 a25 => if r25 = 0 then xbv (F_X12_starts N a25 v1) (fun a35 => xlet (xu a35 16 1 0) (fun a44 => xlet (xu a44 17 1 0) (fun a51 => xb (F_X12_standsBetween N a51) (fun r53 a53 => F_X12_reading_57 N N a53)))) else some (0, a25))
def F_X12_reading (N : Nat) (ah : AH) (p1 : Int32) : Option (Int32 × AH) := xlet (xu ah 0 0 0) (fun a2 => xb (F_X12_in N a2 p1 0 (a2 0 2)) (fun r12 a12 => if r12 = 0 then F_X12_reading_23 N a12 p1 1 else F_X12_reading_23 N a12 p1 0))
theorem b_X12_reading_327 (C : XC p l s m args meth c cX12_reading 5 (some .int) RX12 D vwCl (tysM ca) (EM ad ca) NCM ad) {N : Nat} {o : (Int32 × AH)} {k252 : AH → Int32 → Option (Int32 × AH)} (hk252 : ∀ (ah : AH) (v2 : Int32), k252 ah v2 = some o → XW p l e rm_X12_reading s m args below meth c 5 0 (xQi below args s D vwCl (tysM ca) (EM ad ca) NCM ad o) D vwCl (EM ad ca) NCM ad ah 252 [(0, .ref (ad 0)), (2, .int v2)] []) {k312 : AH → Int32 → Int32 → Option (Int32 × AH)} (hk312 : ∀ (ah : AH) (v2 : Int32) (v3 : Int32), k312 ah v2 v3 = some o → XW p l e rm_X12_reading s m args below meth c 5 0 (xQi below args s D vwCl (tysM ca) (EM ad ca) NCM ad o) D vwCl (EM ad ca) NCM ad ah 312 [(0, .ref (ad 0)), (2, .int v2), (3, .int v3)] []) : ∀ (n : Nat) {ah : AH} {v2 : Int32} {v3 : Int32} {v4 : Int32}, F_X12_reading_327 N k252 k312 n ah v2 v3 v4 = some o → XW p l e rm_X12_reading s m args below meth c 5 0 (xQi below args s D vwCl (tysM ca) (EM ad ca) NCM ad o) D vwCl (EM ad ca) NCM ad ah 327 [(0, .ref (ad 0)), (2, .int v2), (3, .int v3), (4, .int v4)] [] := by
  intro n
  induction n with
  | zero => intro ah v2 v3 v4 h; unfold F_X12_reading_327 at h; cases h
  | succ n ih =>
    intro ah v2 v3 v4 h
    unfold F_X12_reading_327 at h
    refine x_iload C dX12_reading_327 329 rfl 3 rfl ?_
    refine x_bipush C dX12_reading_329 331 rfl 8 rfl ?_
    refine x_icmp_ge C dX12_reading_331 334 rfl 366 rfl h (fun h => ?_) (fun h => ?_)
    · refine x_iinc C dX12_reading_366 369 rfl 2 rfl (d := 1) rfl (by decide) (fun v3_366 => [(3, .int v3_366), (0, .ref (ad 0)), (2, .int v2), (4, .int v4)]) (fun _ => rfl) h (fun v3_366 h => ?_)
      refine x_goto C dX12_reading_369 312 rfl ?_
      exact x_sub [1, 2, 0] rfl (hk312 _ _ _ h)
    · refine x_aload_n C dX12_reading_334 335 rfl 0 rfl ?_
      refine x_get C inX12 0 lm0 EM_0 rfl 30 (by decide) dX12_reading_335 338 rfl wmf_X12_83 rfl ?_
      refine x_iconst C dX12_reading_338 339 rfl 0 rfl ?_
      refine x_aaldK C (21) lm21 EM_21 4 rfl rfl (by decide) 0 (by decide) dX12_reading_339 340 rfl (203 + 0) rfl ?_
      refine x_iload_n C dX12_reading_340 341 rfl 1 rfl ?_
      refine x_aald C (203 + 0) (lm_cell_1 (show 0 < 2 by decide)) (EM_cell_1 (show 0 < 2 by decide)) 3 rfl rfl dX12_reading_341 342 rfl (205 + (0 * 40 + Int32.toNatClampNeg v2)) rfl h (fun hb341 h => ?_)
      refine x_iload_n C dX12_reading_342 343 rfl 2 rfl ?_
      refine x_aaldL C (205 + (0 * 40 + Int32.toNatClampNeg v2)) (lm_cell_2 (xfl (show 0 < 2 by decide) hb341)) (EM_cell_2 (xfl (show 0 < 2 by decide) hb341)) 2 rfl rfl dX12_reading_343 344 rfl (285 + ((0 * 40 + Int32.toNatClampNeg v2) * 24 + Int32.toNatClampNeg v3)) rfl h (fun x343 ex343 hb343 h => ?_)
      have hx343 : mI x343 8 := ex343 ▸ mI_cell (xfl (xfl (show 0 < 2 by decide) hb341) hb343)
      refine x_iload C dX12_reading_344 346 rfl 3 rfl ?_
      refine x_aload_n C dX12_reading_346 347 rfl 0 rfl ?_
      refine x_get C inX12 0 lm0 EM_0 rfl 30 (by decide) dX12_reading_347 350 rfl wmf_X12_83 rfl ?_
      refine x_iconst C dX12_reading_350 351 rfl 1 rfl ?_
      refine x_aaldK C (21) lm21 EM_21 4 rfl rfl (by decide) 1 (by decide) dX12_reading_351 352 rfl (203 + 1) rfl ?_
      refine x_iload_n C dX12_reading_352 353 rfl 1 rfl ?_
      refine x_aald C (203 + 1) (lm_cell_1 (show 1 < 2 by decide)) (EM_cell_1 (show 1 < 2 by decide)) 3 rfl rfl dX12_reading_353 354 rfl (205 + (1 * 40 + Int32.toNatClampNeg v2)) rfl h (fun hb353 h => ?_)
      refine x_iload_n C dX12_reading_354 355 rfl 2 rfl ?_
      refine x_aaldL C (205 + (1 * 40 + Int32.toNatClampNeg v2)) (lm_cell_2 (xfl (show 1 < 2 by decide) hb353)) (EM_cell_2 (xfl (show 1 < 2 by decide) hb353)) 2 rfl rfl dX12_reading_355 356 rfl (285 + ((1 * 40 + Int32.toNatClampNeg v2) * 24 + Int32.toNatClampNeg v3)) rfl h (fun x355 ex355 hb355 h => ?_)
      have hx355 : mI x355 8 := ex355 ▸ mI_cell (xfl (xfl (show 1 < 2 by decide) hb353) hb355)
      refine x_iload C dX12_reading_356 358 rfl 3 rfl ?_
      refine x_iald C x355 hx355.1 (hx355.2 _ _ _) 0 rfl dX12_reading_358 359 rfl h (fun h => ?_)
      refine x_iast C x343 hx343.1 (hx343.2 _ _) 0 rfl dX12_reading_359 360 rfl h (fun a359 h => ?_)
      refine x_iinc C dX12_reading_360 363 rfl 3 rfl (d := 1) rfl (by decide) (fun v4_360 => [(4, .int v4_360), (0, .ref (ad 0)), (2, .int v2), (3, .int v3)]) (fun _ => rfl) h (fun v4_360 h => ?_)
      refine x_goto C dX12_reading_363 327 rfl ?_
      exact x_sub [1, 2, 3, 0] rfl (ih h)
theorem b_X12_reading_312 (C : XC p l s m args meth c cX12_reading 5 (some .int) RX12 D vwCl (tysM ca) (EM ad ca) NCM ad) {N : Nat} {o : (Int32 × AH)} {k252 : AH → Int32 → Option (Int32 × AH)} (hk252 : ∀ (ah : AH) (v2 : Int32), k252 ah v2 = some o → XW p l e rm_X12_reading s m args below meth c 5 0 (xQi below args s D vwCl (tysM ca) (EM ad ca) NCM ad o) D vwCl (EM ad ca) NCM ad ah 252 [(0, .ref (ad 0)), (2, .int v2)] []) : ∀ (n : Nat) {ah : AH} {v2 : Int32} {v3 : Int32}, F_X12_reading_312 N k252 n ah v2 v3 = some o → XW p l e rm_X12_reading s m args below meth c 5 0 (xQi below args s D vwCl (tysM ca) (EM ad ca) NCM ad o) D vwCl (EM ad ca) NCM ad ah 312 [(0, .ref (ad 0)), (2, .int v2), (3, .int v3)] [] := by
  intro n
  induction n with
  | zero => intro ah v2 v3 h; unfold F_X12_reading_312 at h; cases h
  | succ n ih =>
    intro ah v2 v3 h
    unfold F_X12_reading_312 at h
    refine x_iload_n C dX12_reading_312 313 rfl 2 rfl ?_
    refine x_aload_n C dX12_reading_313 314 rfl 0 rfl ?_
    refine x_get C inX12 0 lm0 EM_0 rfl 27 (by decide) dX12_reading_314 317 rfl wmf_X12_72 rfl ?_
    refine x_iconst C dX12_reading_317 318 rfl 0 rfl ?_
    refine x_aaldLK C (18) lm18 EM_18 2 rfl rfl (by decide) 0 (by decide) dX12_reading_318 319 rfl (197 + 0) rfl h (fun x318 ex318 h => ?_)
    have hx318 : mI x318 40 := ex318 ▸ mI_cells (show 0 < 2 by decide)
    refine x_iload_n C dX12_reading_319 320 rfl 1 rfl ?_
    refine x_iald C x318 hx318.1 (hx318.2 _ _ _) 0 rfl dX12_reading_320 321 rfl h (fun h => ?_)
    refine x_icmp_ge C dX12_reading_321 324 rfl 372 rfl h (fun h => ?_) (fun h => ?_)
    · refine x_iinc C dX12_reading_372 375 rfl 1 rfl (d := 1) rfl (by decide) (fun v2_372 => [(2, .int v2_372), (0, .ref (ad 0)), (3, .int v3)]) (fun _ => rfl) h (fun v2_372 h => ?_)
      refine x_goto C dX12_reading_375 252 rfl ?_
      exact x_sub [1, 0] rfl (hk252 _ _ h)
    · refine x_iconst C dX12_reading_324 325 rfl 0 rfl ?_
      refine x_istore C dX12_reading_325 327 rfl (by decide) (fun v4_325 => [(4, .int v4_325), (0, .ref (ad 0)), (2, .int v2), (3, .int v3)]) (fun _ => rfl) h (fun v4_325 h => ?_)
      exact x_sub [1, 2, 3, 0] rfl (b_X12_reading_327 C hk252 (fun _ _ _ h => ih h) N h)
theorem b_X12_reading_252 (C : XC p l s m args meth c cX12_reading 5 (some .int) RX12 D vwCl (tysM ca) (EM ad ca) NCM ad) {N : Nat} {o : (Int32 × AH)} : ∀ (n : Nat) {ah : AH} {v2 : Int32}, F_X12_reading_252 N n ah v2 = some o → XW p l e rm_X12_reading s m args below meth c 5 0 (xQi below args s D vwCl (tysM ca) (EM ad ca) NCM ad o) D vwCl (EM ad ca) NCM ad ah 252 [(0, .ref (ad 0)), (2, .int v2)] [] := by
  intro n
  induction n with
  | zero => intro ah v2 h; unfold F_X12_reading_252 at h; cases h
  | succ n ih =>
    intro ah v2 h
    unfold F_X12_reading_252 at h
    refine x_iload_n C dX12_reading_252 253 rfl 1 rfl ?_
    refine x_aload_n C dX12_reading_253 254 rfl 0 rfl ?_
    refine x_get C inX12 0 lm0 EM_0 rfl 24 (by decide) dX12_reading_254 257 rfl wmf_X12_66 rfl ?_
    refine x_iconst C dX12_reading_257 258 rfl 0 rfl ?_
    refine x_ialdK C 16 lm16 EM_16 0 rfl dX12_reading_258 259 rfl (by decide) 0 (by decide) ?_
    refine x_icmp_ge C dX12_reading_259 262 rfl 378 rfl h (fun h => ?_) (fun h => ?_)
    · refine x_aload_n C dX12_reading_378 379 rfl 0 rfl ?_
      refine x_aload_n C dX12_reading_379 380 rfl 0 rfl ?_
      refine x_get C inX12 0 lm0 EM_0 rfl 24 (by decide) dX12_reading_380 383 rfl wmf_X12_66 rfl ?_
      refine x_iconst C dX12_reading_383 384 rfl 0 rfl ?_
      refine x_ialdK C 16 lm16 EM_16 0 rfl dX12_reading_384 385 rfl (by decide) 0 (by decide) ?_
      obtain ⟨r385, a385, hq, h⟩ := xb_some h
      refine x_callVi C 0 (c_X12_ends C.2.2.2.2.2.2.1 hq) lm0 EM_0 rfl wml_X12_263 wq_X12_ends rfl ⟨by decide, by decide⟩ rfl rfl ⟨by decide, by decide⟩ dX12_reading_385 388 rfl rfl (Nat.le_of_ble_eq_true rfl) ?_
      exact x_iret C rfl dX12_reading_388 h
    · refine x_aload_n C dX12_reading_262 263 rfl 0 rfl ?_
      refine x_get C inX12 0 lm0 EM_0 rfl 27 (by decide) dX12_reading_263 266 rfl wmf_X12_72 rfl ?_
      refine x_iconst C dX12_reading_266 267 rfl 0 rfl ?_
      refine x_aaldLK C (18) lm18 EM_18 2 rfl rfl (by decide) 0 (by decide) dX12_reading_267 268 rfl (197 + 0) rfl h (fun x267 ex267 h => ?_)
      have hx267 : mI x267 40 := ex267 ▸ mI_cells (show 0 < 2 by decide)
      refine x_iload_n C dX12_reading_268 269 rfl 1 rfl ?_
      refine x_aload_n C dX12_reading_269 270 rfl 0 rfl ?_
      refine x_get C inX12 0 lm0 EM_0 rfl 27 (by decide) dX12_reading_270 273 rfl wmf_X12_72 rfl ?_
      refine x_iconst C dX12_reading_273 274 rfl 1 rfl ?_
      refine x_aaldLK C (18) lm18 EM_18 2 rfl rfl (by decide) 1 (by decide) dX12_reading_274 275 rfl (197 + 1) rfl h (fun x274 ex274 h => ?_)
      have hx274 : mI x274 40 := ex274 ▸ mI_cells (show 1 < 2 by decide)
      refine x_iload_n C dX12_reading_275 276 rfl 1 rfl ?_
      refine x_iald C x274 hx274.1 (hx274.2 _ _ _) 0 rfl dX12_reading_276 277 rfl h (fun h => ?_)
      refine x_iast C x267 hx267.1 (hx267.2 _ _) 0 rfl dX12_reading_277 278 rfl h (fun a277 h => ?_)
      refine x_aload_n C dX12_reading_278 279 rfl 0 rfl ?_
      refine x_get C inX12 0 lm0 EM_0 rfl 28 (by decide) dX12_reading_279 282 rfl wmf_X12_75 rfl ?_
      refine x_iconst C dX12_reading_282 283 rfl 0 rfl ?_
      refine x_aaldLK C (19) lm19 EM_19 2 rfl rfl (by decide) 0 (by decide) dX12_reading_283 284 rfl (199 + 0) rfl h (fun x283 ex283 h => ?_)
      have hx283 : mI x283 40 := ex283 ▸ mI_lineOf (show 0 < 2 by decide)
      refine x_iload_n C dX12_reading_284 285 rfl 1 rfl ?_
      refine x_aload_n C dX12_reading_285 286 rfl 0 rfl ?_
      refine x_get C inX12 0 lm0 EM_0 rfl 28 (by decide) dX12_reading_286 289 rfl wmf_X12_75 rfl ?_
      refine x_iconst C dX12_reading_289 290 rfl 1 rfl ?_
      refine x_aaldLK C (19) lm19 EM_19 2 rfl rfl (by decide) 1 (by decide) dX12_reading_290 291 rfl (199 + 1) rfl h (fun x290 ex290 h => ?_)
      have hx290 : mI x290 40 := ex290 ▸ mI_lineOf (show 1 < 2 by decide)
      refine x_iload_n C dX12_reading_291 292 rfl 1 rfl ?_
      refine x_iald C x290 hx290.1 (hx290.2 _ _ _) 0 rfl dX12_reading_292 293 rfl h (fun h => ?_)
      refine x_iast C x283 hx283.1 (hx283.2 _ _) 0 rfl dX12_reading_293 294 rfl h (fun a293 h => ?_)
      refine x_aload_n C dX12_reading_294 295 rfl 0 rfl ?_
      refine x_get C inX12 0 lm0 EM_0 rfl 29 (by decide) dX12_reading_295 298 rfl wmf_X12_78 rfl ?_
      refine x_iconst C dX12_reading_298 299 rfl 0 rfl ?_
      refine x_aaldLK C (20) lm20 EM_20 2 rfl rfl (by decide) 0 (by decide) dX12_reading_299 300 rfl (201 + 0) rfl h (fun x299 ex299 h => ?_)
      have hx299 : mI x299 40 := ex299 ▸ mI_behind (show 0 < 2 by decide)
      refine x_iload_n C dX12_reading_300 301 rfl 1 rfl ?_
      refine x_aload_n C dX12_reading_301 302 rfl 0 rfl ?_
      refine x_get C inX12 0 lm0 EM_0 rfl 29 (by decide) dX12_reading_302 305 rfl wmf_X12_78 rfl ?_
      refine x_iconst C dX12_reading_305 306 rfl 1 rfl ?_
      refine x_aaldLK C (20) lm20 EM_20 2 rfl rfl (by decide) 1 (by decide) dX12_reading_306 307 rfl (201 + 1) rfl h (fun x306 ex306 h => ?_)
      have hx306 : mI x306 40 := ex306 ▸ mI_behind (show 1 < 2 by decide)
      refine x_iload_n C dX12_reading_307 308 rfl 1 rfl ?_
      refine x_iald C x306 hx306.1 (hx306.2 _ _ _) 0 rfl dX12_reading_308 309 rfl h (fun h => ?_)
      refine x_iast C x299 hx299.1 (hx299.2 _ _) 0 rfl dX12_reading_309 310 rfl h (fun a309 h => ?_)
      refine x_iconst C dX12_reading_310 311 rfl 0 rfl ?_
      refine x_istore_n C dX12_reading_311 312 rfl (by decide) (fun v3_311 => [(3, .int v3_311), (0, .ref (ad 0)), (2, .int v2)]) (fun _ => rfl) h (fun v3_311 h => ?_)
      exact x_sub [1, 2, 0] rfl (b_X12_reading_312 C (fun _ _ h => ih h) N h)
theorem b_X12_reading_208 (C : XC p l s m args meth c cX12_reading 5 (some .int) RX12 D vwCl (tysM ca) (EM ad ca) NCM ad) {N : Nat} {o : (Int32 × AH)} {ah : AH} (h : F_X12_reading_208 N ah = some o) : XW p l e rm_X12_reading s m args below meth c 5 0 (xQi below args s D vwCl (tysM ca) (EM ad ca) NCM ad o) D vwCl (EM ad ca) NCM ad ah 208 [(0, .ref (ad 0))] [] := by
  unfold F_X12_reading_208 at h
  refine x_aload_n C dX12_reading_208 209 rfl 0 rfl ?_
  obtain ⟨r209, a209, hq, h⟩ := xb_some h
  refine x_callVi C 0 (c_X12_fine C.2.2.2.2.2.2.1 hq) lm0 EM_0 rfl wml_X12_206 wq_X12_fine rfl ⟨by decide, by decide⟩ rfl rfl ⟨by decide, by decide⟩ dX12_reading_209 212 rfl rfl (Nat.le_of_ble_eq_true rfl) ?_
  refine x_if_ne C dX12_reading_212 215 rfl 221 rfl h (fun h => ?_) (fun h => ?_)
  · refine x_aload_n C dX12_reading_221 222 rfl 0 rfl ?_
    refine x_iconst C dX12_reading_222 223 rfl 1 rfl ?_
    refine x_put C inX12 0 lm0 EM_0 rfl 26 (by decide) tyX12_ok nmX12 dX12_reading_223 226 rfl wmf_X12_310 rfl rfl rfl (Nat.le_of_ble_eq_true rfl) EQ_0_26 h (fun a223 h => ?_)
    refine x_aload_n C dX12_reading_226 227 rfl 0 rfl ?_
    refine x_get C inX12 0 lm0 EM_0 rfl 24 (by decide) dX12_reading_227 230 rfl wmf_X12_66 rfl ?_
    refine x_iconst C dX12_reading_230 231 rfl 0 rfl ?_
    refine x_aload_n C dX12_reading_231 232 rfl 0 rfl ?_
    refine x_get C inX12 0 lm0 EM_0 rfl 24 (by decide) dX12_reading_232 235 rfl wmf_X12_66 rfl ?_
    refine x_iconst C dX12_reading_235 236 rfl 1 rfl ?_
    refine x_ialdK C 16 lm16 EM_16 0 rfl dX12_reading_236 237 rfl (by decide) 1 (by decide) ?_
    refine x_iastK C 16 lm16 (fun _ => EM_16) 0 rfl dX12_reading_237 238 rfl (by decide) 0 (by decide) h (fun a237 h => ?_)
    refine x_aload_n C dX12_reading_238 239 rfl 0 rfl ?_
    refine x_get C inX12 0 lm0 EM_0 rfl 25 (by decide) dX12_reading_239 242 rfl wmf_X12_69 rfl ?_
    refine x_iconst C dX12_reading_242 243 rfl 0 rfl ?_
    refine x_aload_n C dX12_reading_243 244 rfl 0 rfl ?_
    refine x_get C inX12 0 lm0 EM_0 rfl 25 (by decide) dX12_reading_244 247 rfl wmf_X12_69 rfl ?_
    refine x_iconst C dX12_reading_247 248 rfl 1 rfl ?_
    refine x_ialdK C 17 lm17 EM_17 0 rfl dX12_reading_248 249 rfl (by decide) 1 (by decide) ?_
    refine x_iastK C 17 lm17 (fun _ => EM_17) 0 rfl dX12_reading_249 250 rfl (by decide) 0 (by decide) h (fun a249 h => ?_)
    refine x_iconst C dX12_reading_250 251 rfl 0 rfl ?_
    refine x_istore_n C dX12_reading_251 252 rfl (by decide) (fun v2_251 => [(2, .int v2_251), (0, .ref (ad 0))]) (fun _ => rfl) h (fun v2_251 h => ?_)
    exact x_sub [1, 0] rfl (b_X12_reading_252 C  N h)
  · refine x_aload_n C dX12_reading_215 216 rfl 0 rfl ?_
    refine x_iconst C dX12_reading_216 217 rfl 0 rfl ?_
    obtain ⟨r217, a217, hq, h⟩ := xb_some h
    refine x_callVi C 0 (c_X12_ends C.2.2.2.2.2.2.1 hq) lm0 EM_0 rfl wml_X12_263 wq_X12_ends rfl ⟨by decide, by decide⟩ rfl rfl ⟨by decide, by decide⟩ dX12_reading_217 220 rfl rfl (Nat.le_of_ble_eq_true rfl) ?_
    exact x_iret C rfl dX12_reading_220 h
theorem b_X12_reading_195 (C : XC p l s m args meth c cX12_reading 5 (some .int) RX12 D vwCl (tysM ca) (EM ad ca) NCM ad) {N : Nat} {o : (Int32 × AH)} {k57 : AH → Option (Int32 × AH)} (hk57 : ∀ (ah : AH), k57 ah = some o → XW p l e rm_X12_reading s m args below meth c 5 0 (xQi below args s D vwCl (tysM ca) (EM ad ca) NCM ad o) D vwCl (EM ad ca) NCM ad ah 57 [(0, .ref (ad 0))] []) {ah : AH} (h : F_X12_reading_195 N k57 ah = some o) : XW p l e rm_X12_reading s m args below meth c 5 0 (xQi below args s D vwCl (tysM ca) (EM ad ca) NCM ad o) D vwCl (EM ad ca) NCM ad ah 195 [(0, .ref (ad 0))] [] := by
  unfold F_X12_reading_195 at h
  refine x_aload_n C dX12_reading_195 196 rfl 0 rfl ?_
  refine x_get C inX12 0 lm0 EM_0 rfl 24 (by decide) dX12_reading_196 199 rfl wmf_X12_66 rfl ?_
  refine x_iconst C dX12_reading_199 200 rfl 1 rfl ?_
  refine x_dup2 C dX12_reading_200 201 rfl rfl rfl ?_
  refine x_ialdK C 16 lm16 EM_16 0 rfl dX12_reading_201 202 rfl (by decide) 1 (by decide) ?_
  refine x_iconst C dX12_reading_202 203 rfl 1 rfl ?_
  refine x_iadd C dX12_reading_203 204 rfl ?_
  refine x_iastK C 16 lm16 (fun _ => EM_16) 0 rfl dX12_reading_204 205 rfl (by decide) 1 (by decide) h (fun a204 h => ?_)
  refine x_goto C dX12_reading_205 57 rfl ?_
  exact hk57 _ h
theorem b_X12_reading_163 (C : XC p l s m args meth c cX12_reading 5 (some .int) RX12 D vwCl (tysM ca) (EM ad ca) NCM ad) {N : Nat} {o : (Int32 × AH)} {k57 : AH → Option (Int32 × AH)} (hk57 : ∀ (ah : AH), k57 ah = some o → XW p l e rm_X12_reading s m args below meth c 5 0 (xQi below args s D vwCl (tysM ca) (EM ad ca) NCM ad o) D vwCl (EM ad ca) NCM ad ah 57 [(0, .ref (ad 0))] []) {ah : AH} {v2 : Int32} (h : F_X12_reading_163 N k57 ah v2 = some o) : XW p l e rm_X12_reading s m args below meth c 5 0 (xQi below args s D vwCl (tysM ca) (EM ad ca) NCM ad o) D vwCl (EM ad ca) NCM ad ah 163 [(0, .ref (ad 0)), (2, .int v2)] [] := by
  unfold F_X12_reading_163 at h
  refine x_aload_n C dX12_reading_163 164 rfl 0 rfl ?_
  obtain ⟨r164, a164, hq, h⟩ := xb_some h
  refine x_callVi C 0 (c_X12_fine C.2.2.2.2.2.2.1 hq) lm0 EM_0 rfl wml_X12_206 wq_X12_fine rfl ⟨by decide, by decide⟩ rfl rfl ⟨by decide, by decide⟩ dX12_reading_164 167 rfl rfl (Nat.le_of_ble_eq_true rfl) ?_
  refine x_if_eq C dX12_reading_167 170 rfl 195 rfl h (fun h => ?_) (fun h => ?_)
  · exact x_sub [0] rfl (b_X12_reading_195 C hk57 h)
  · refine x_aload_n C dX12_reading_170 171 rfl 0 rfl ?_
    obtain ⟨r171, a171, hq, h⟩ := xb_some h
    refine x_callVi C 0 (c_X12_here C.2.2.2.2.2.2.1 hq) lm0 EM_0 rfl wml_X12_196 wq_X12_here rfl ⟨by decide, by decide⟩ rfl rfl ⟨by decide, by decide⟩ dX12_reading_171 174 rfl rfl (Nat.le_of_ble_eq_true rfl) ?_
    refine x_iconst C dX12_reading_174 175 rfl (-1) rfl ?_
    refine x_icmp_eq C dX12_reading_175 178 rfl 195 rfl h (fun h => ?_) (fun h => ?_)
    · exact x_sub [0] rfl (b_X12_reading_195 C hk57 h)
    · refine x_aload_n C dX12_reading_178 179 rfl 0 rfl ?_
      refine x_get C inX12 0 lm0 EM_0 rfl 4 (by decide) dX12_reading_179 182 rfl wmf_X12_189 rfl ?_
      refine x_iload_n C dX12_reading_182 183 rfl 1 rfl ?_
      refine x_icmp_ne C dX12_reading_183 186 rfl 195 rfl h (fun h => ?_) (fun h => ?_)
      · exact x_sub [0] rfl (b_X12_reading_195 C hk57 h)
      · refine x_aload_n C dX12_reading_186 187 rfl 0 rfl ?_
        refine x_iconst C dX12_reading_187 188 rfl 1 rfl ?_
        refine x_aload_n C dX12_reading_188 189 rfl 0 rfl ?_
        refine x_get C inX12 0 lm0 EM_0 rfl 4 (by decide) dX12_reading_189 192 rfl wmf_X12_189 rfl ?_
        obtain ⟨a192, hq, h⟩ := xbv_some h
        refine x_callVv C 0 (c_X12_wrong C.2.2.2.2.2.2.1 hq) lm0 EM_0 rfl wml_X12_214 wq_X12_wrong rfl ⟨by decide, by decide⟩ rfl rfl ⟨by decide, by decide⟩ dX12_reading_192 195 rfl rfl (Nat.le_of_ble_eq_true rfl) ?_
        exact x_sub [0] rfl (b_X12_reading_195 C hk57 h)
theorem b_X12_reading_114 (C : XC p l s m args meth c cX12_reading 5 (some .int) RX12 D vwCl (tysM ca) (EM ad ca) NCM ad) {N : Nat} {o : (Int32 × AH)} {k57 : AH → Option (Int32 × AH)} (hk57 : ∀ (ah : AH), k57 ah = some o → XW p l e rm_X12_reading s m args below meth c 5 0 (xQi below args s D vwCl (tysM ca) (EM ad ca) NCM ad o) D vwCl (EM ad ca) NCM ad ah 57 [(0, .ref (ad 0))] []) {ah : AH} (h : F_X12_reading_114 N k57 ah = some o) : XW p l e rm_X12_reading s m args below meth c 5 0 (xQi below args s D vwCl (tysM ca) (EM ad ca) NCM ad o) D vwCl (EM ad ca) NCM ad ah 114 [(0, .ref (ad 0))] [] := by
  unfold F_X12_reading_114 at h
  refine x_aload_n C dX12_reading_114 115 rfl 0 rfl ?_
  obtain ⟨r115, a115, hq, h⟩ := xb_some h
  refine x_callVi C 0 (c_X12_fine C.2.2.2.2.2.2.1 hq) lm0 EM_0 rfl wml_X12_206 wq_X12_fine rfl ⟨by decide, by decide⟩ rfl rfl ⟨by decide, by decide⟩ dX12_reading_115 118 rfl rfl (Nat.le_of_ble_eq_true rfl) ?_
  refine x_if_ne C dX12_reading_118 121 rfl 124 rfl h (fun h => ?_) (fun h => ?_)
  · refine x_aload_n C dX12_reading_124 125 rfl 0 rfl ?_
    refine x_aload_n C dX12_reading_125 126 rfl 0 rfl ?_
    refine x_get C inX12 0 lm0 EM_0 rfl 24 (by decide) dX12_reading_126 129 rfl wmf_X12_66 rfl ?_
    refine x_iconst C dX12_reading_129 130 rfl 1 rfl ?_
    refine x_ialdK C 16 lm16 EM_16 0 rfl dX12_reading_130 131 rfl (by decide) 1 (by decide) ?_
    obtain ⟨a131, hq, h⟩ := xbv_some h
    refine x_callVv C 0 (c_X12_readsToken C.2.2.2.2.2.2.1 hq) lm0 EM_0 rfl wml_X12_307 wq_X12_readsToken rfl ⟨by decide, by decide⟩ rfl rfl ⟨by decide, by decide⟩ dX12_reading_131 134 rfl rfl (Nat.le_of_ble_eq_true rfl) ?_
    refine x_aload_n C dX12_reading_134 135 rfl 0 rfl ?_
    refine x_get C inX12 0 lm0 EM_0 rfl 4 (by decide) dX12_reading_135 138 rfl wmf_X12_189 rfl ?_
    refine x_istore_n C dX12_reading_138 139 rfl (by decide) (fun v2_138 => [(2, .int v2_138), (0, .ref (ad 0))]) (fun _ => rfl) h (fun v2_138 h => ?_)
    refine x_aload_n C dX12_reading_139 140 rfl 1 rfl ?_
    obtain ⟨r140, a140, hq, h⟩ := xb_some h
    refine x_callVi C 0 (c_X12_fine C.2.2.2.2.2.2.1 hq) lm0 EM_0 rfl wml_X12_206 wq_X12_fine rfl ⟨by decide, by decide⟩ rfl rfl ⟨by decide, by decide⟩ dX12_reading_140 143 rfl rfl (Nat.le_of_ble_eq_true rfl) ?_
    refine x_if_eq C dX12_reading_143 146 rfl 163 rfl h (fun h => ?_) (fun h => ?_)
    · exact x_sub [1, 0] rfl (b_X12_reading_163 C hk57 h)
    · refine x_aload_n C dX12_reading_146 147 rfl 1 rfl ?_
      refine x_get C inX12 0 lm0 EM_0 rfl 29 (by decide) dX12_reading_147 150 rfl wmf_X12_78 rfl ?_
      refine x_iconst C dX12_reading_150 151 rfl 1 rfl ?_
      refine x_aaldLK C (20) lm20 EM_20 2 rfl rfl (by decide) 1 (by decide) dX12_reading_151 152 rfl (201 + 1) rfl h (fun x151 ex151 h => ?_)
      have hx151 : mI x151 40 := ex151 ▸ mI_behind (show 1 < 2 by decide)
      refine x_aload_n C dX12_reading_152 153 rfl 1 rfl ?_
      refine x_get C inX12 0 lm0 EM_0 rfl 24 (by decide) dX12_reading_153 156 rfl wmf_X12_66 rfl ?_
      refine x_iconst C dX12_reading_156 157 rfl 1 rfl ?_
      refine x_ialdK C 16 lm16 EM_16 0 rfl dX12_reading_157 158 rfl (by decide) 1 (by decide) ?_
      refine x_aload_n C dX12_reading_158 159 rfl 1 rfl ?_
      obtain ⟨r159, a159, hq, h⟩ := xb_some h
      refine x_callVi C 0 (c_X12_standsBetween C.2.2.2.2.2.2.1 hq) lm0 EM_0 rfl wml_X12_304 wq_X12_standsBetween rfl ⟨by decide, by decide⟩ rfl rfl ⟨by decide, by decide⟩ dX12_reading_159 162 rfl rfl (Nat.le_of_ble_eq_true rfl) ?_
      refine x_iast C x151 hx151.1 (hx151.2 _ _) 0 rfl dX12_reading_162 163 rfl h (fun a162 h => ?_)
      exact x_sub [1, 0] rfl (b_X12_reading_163 C hk57 h)
  · refine x_goto C dX12_reading_121 208 rfl ?_
    exact b_X12_reading_208 C  h
theorem b_X12_reading_57 (C : XC p l s m args meth c cX12_reading 5 (some .int) RX12 D vwCl (tysM ca) (EM ad ca) NCM ad) {N : Nat} {o : (Int32 × AH)} : ∀ (n : Nat) {ah : AH}, F_X12_reading_57 N n ah = some o → XW p l e rm_X12_reading s m args below meth c 5 0 (xQi below args s D vwCl (tysM ca) (EM ad ca) NCM ad o) D vwCl (EM ad ca) NCM ad ah 57 [(0, .ref (ad 0))] [] := by
  intro n
  induction n with
  | zero => intro ah h; unfold F_X12_reading_57 at h; cases h
  | succ n ih =>
    intro ah h
    unfold F_X12_reading_57 at h
    refine x_aload_n C dX12_reading_57 58 rfl 0 rfl ?_
    obtain ⟨r58, a58, hq, h⟩ := xb_some h
    refine x_callVi C 0 (c_X12_fine C.2.2.2.2.2.2.1 hq) lm0 EM_0 rfl wml_X12_206 wq_X12_fine rfl ⟨by decide, by decide⟩ rfl rfl ⟨by decide, by decide⟩ dX12_reading_58 61 rfl rfl (Nat.le_of_ble_eq_true rfl) ?_
    refine x_if_eq C dX12_reading_61 64 rfl 208 rfl h (fun h => ?_) (fun h => ?_)
    · exact b_X12_reading_208 C  h
    · refine x_aload_n C dX12_reading_64 65 rfl 0 rfl ?_
      obtain ⟨r65, a65, hq, h⟩ := xb_some h
      refine x_callVi C 0 (c_X12_here C.2.2.2.2.2.2.1 hq) lm0 EM_0 rfl wml_X12_196 wq_X12_here rfl ⟨by decide, by decide⟩ rfl rfl ⟨by decide, by decide⟩ dX12_reading_65 68 rfl rfl (Nat.le_of_ble_eq_true rfl) ?_
      refine x_iconst C dX12_reading_68 69 rfl (-1) rfl ?_
      refine x_icmp_eq C dX12_reading_69 72 rfl 208 rfl h (fun h => ?_) (fun h => ?_)
      · exact b_X12_reading_208 C  h
      · refine x_aload_n C dX12_reading_72 73 rfl 0 rfl ?_
        obtain ⟨r73, a73, hq, h⟩ := xb_some h
        refine x_callVi C 0 (c_X12_here C.2.2.2.2.2.2.1 hq) lm0 EM_0 rfl wml_X12_196 wq_X12_here rfl ⟨by decide, by decide⟩ rfl rfl ⟨by decide, by decide⟩ dX12_reading_73 76 rfl rfl (Nat.le_of_ble_eq_true rfl) ?_
        obtain ⟨r76, a76, hq, h⟩ := xb_some h
        refine x_callSi C (c_X12_isCell C.2.2.2.2.2.2.1 hq) wml_X12_298 wq_X12_isCell rfl ⟨by decide, by decide⟩ rfl rfl ⟨by decide, by decide⟩ dX12_reading_76 79 rfl rfl (Nat.le_of_ble_eq_true rfl) ?_
        refine x_if_ne C dX12_reading_79 82 rfl 94 rfl h (fun h => ?_) (fun h => ?_)
        · refine x_aload_n C dX12_reading_94 95 rfl 0 rfl ?_
          refine x_get C inX12 0 lm0 EM_0 rfl 24 (by decide) dX12_reading_95 98 rfl wmf_X12_66 rfl ?_
          refine x_iconst C dX12_reading_98 99 rfl 1 rfl ?_
          refine x_ialdK C 16 lm16 EM_16 0 rfl dX12_reading_99 100 rfl (by decide) 1 (by decide) ?_
          refine x_bipush C dX12_reading_100 102 rfl 40 rfl ?_
          refine x_icmp_ne C dX12_reading_102 105 rfl 114 rfl h (fun h => ?_) (fun h => ?_)
          · exact b_X12_reading_114 C (fun _ h => ih h) h
          · refine x_aload_n C dX12_reading_105 106 rfl 0 rfl ?_
            refine x_iconst C dX12_reading_106 107 rfl 3 rfl ?_
            refine x_aload_n C dX12_reading_107 108 rfl 0 rfl ?_
            refine x_get C inX12 0 lm0 EM_0 rfl 4 (by decide) dX12_reading_108 111 rfl wmf_X12_189 rfl ?_
            obtain ⟨a111, hq, h⟩ := xbv_some h
            refine x_callVv C 0 (c_X12_wrong C.2.2.2.2.2.2.1 hq) lm0 EM_0 rfl wml_X12_214 wq_X12_wrong rfl ⟨by decide, by decide⟩ rfl rfl ⟨by decide, by decide⟩ dX12_reading_111 114 rfl rfl (Nat.le_of_ble_eq_true rfl) ?_
            exact b_X12_reading_114 C (fun _ h => ih h) h
        · refine x_aload_n C dX12_reading_82 83 rfl 0 rfl ?_
          refine x_iconst C dX12_reading_83 84 rfl 1 rfl ?_
          refine x_aload_n C dX12_reading_84 85 rfl 0 rfl ?_
          refine x_get C inX12 0 lm0 EM_0 rfl 4 (by decide) dX12_reading_85 88 rfl wmf_X12_189 rfl ?_
          obtain ⟨a88, hq, h⟩ := xbv_some h
          refine x_callVv C 0 (c_X12_wrong C.2.2.2.2.2.2.1 hq) lm0 EM_0 rfl wml_X12_214 wq_X12_wrong rfl ⟨by decide, by decide⟩ rfl rfl ⟨by decide, by decide⟩ dX12_reading_88 91 rfl rfl (Nat.le_of_ble_eq_true rfl) ?_
          refine x_goto C dX12_reading_91 114 rfl ?_
          exact b_X12_reading_114 C (fun _ h => ih h) h
theorem b_X12_reading_23 (C : XC p l s m args meth c cX12_reading 5 (some .int) RX12 D vwCl (tysM ca) (EM ad ca) NCM ad) {N : Nat} {o : (Int32 × AH)} {ah : AH} {v1 : Int32} {s1 : Int32} (h : F_X12_reading_23 N ah v1 s1 = some o) : XW p l e rm_X12_reading s m args below meth c 5 0 (xQi below args s D vwCl (tysM ca) (EM ad ca) NCM ad o) D vwCl (EM ad ca) NCM ad ah 23 [(0, .ref (ad 0)), (1, .int v1)] [.int s1, .ref (ad 0)] := by
  unfold F_X12_reading_23 at h
  refine x_iconst C dX12_reading_23 24 rfl 1 rfl ?_
  refine x_iconst C dX12_reading_24 25 rfl 1 rfl ?_
  obtain ⟨r25, a25, hq, h⟩ := xb_some h
  refine x_callVi C 0 (c_X12_bad C.2.2.2.2.2.2.1 hq) lm0 EM_0 rfl wml_X12_249 wq_X12_bad rfl ⟨by decide, by decide⟩ rfl rfl ⟨by decide, by decide⟩ dX12_reading_25 28 rfl rfl (Nat.le_of_ble_eq_true rfl) ?_
  refine x_if_eq C dX12_reading_28 31 rfl 33 rfl h (fun h => ?_) (fun h => ?_)
  · refine x_aload_n C dX12_reading_33 34 rfl 0 rfl ?_
    refine x_iload_n C dX12_reading_34 35 rfl 1 rfl ?_
    obtain ⟨a35, hq, h⟩ := xbv_some h
    refine x_callVv C 0 (c_X12_starts C.2.2.2.2.2.2.1 hq) lm0 EM_0 rfl wml_X12_253 wq_X12_starts rfl ⟨by decide, by decide⟩ rfl rfl ⟨by decide, by decide⟩ dX12_reading_35 38 rfl rfl (Nat.le_of_ble_eq_true rfl) ?_
    refine x_aload_n C dX12_reading_38 39 rfl 0 rfl ?_
    refine x_get C inX12 0 lm0 EM_0 rfl 24 (by decide) dX12_reading_39 42 rfl wmf_X12_66 rfl ?_
    refine x_iconst C dX12_reading_42 43 rfl 1 rfl ?_
    refine x_iconst C dX12_reading_43 44 rfl 0 rfl ?_
    refine x_iastK C 16 lm16 (fun _ => EM_16) 0 rfl dX12_reading_44 45 rfl (by decide) 1 (by decide) h (fun a44 h => ?_)
    refine x_aload_n C dX12_reading_45 46 rfl 0 rfl ?_
    refine x_get C inX12 0 lm0 EM_0 rfl 25 (by decide) dX12_reading_46 49 rfl wmf_X12_69 rfl ?_
    refine x_iconst C dX12_reading_49 50 rfl 1 rfl ?_
    refine x_iconst C dX12_reading_50 51 rfl 0 rfl ?_
    refine x_iastK C 17 lm17 (fun _ => EM_17) 0 rfl dX12_reading_51 52 rfl (by decide) 1 (by decide) h (fun a51 h => ?_)
    refine x_aload_n C dX12_reading_52 53 rfl 0 rfl ?_
    obtain ⟨r53, a53, hq, h⟩ := xb_some h
    refine x_callVi C 0 (c_X12_standsBetween C.2.2.2.2.2.2.1 hq) lm0 EM_0 rfl wml_X12_304 wq_X12_standsBetween rfl ⟨by decide, by decide⟩ rfl rfl ⟨by decide, by decide⟩ dX12_reading_53 56 rfl rfl (Nat.le_of_ble_eq_true rfl) ?_
    refine x_pop C dX12_reading_56 57 rfl rfl ?_
    exact x_sub [0] rfl (b_X12_reading_57 C  N h)
  · refine x_iconst C dX12_reading_31 32 rfl 0 rfl ?_
    exact x_iret C rfl dX12_reading_32 h
theorem c_X12_reading {l : Launch} {D : va_G} {ca : Nat → ClassId} {ad : Nat → Nat} (hI : xInj ad NCM) {N : Nat} {ah : AH} {p1 : Int32} {r : Int32} {a : AH} (h : F_X12_reading N ah p1 = some (r, a)) : xMi l yX12_reading cX12_reading 5 (some .int) rm_X12_reading D vwCl (tysM ca) (EM ad ca) NCM ad [.ref (ad 0), .int p1] ah (r, a) := by
  refine x_meti (by decide) (Nat.le_of_ble_eq_true rfl) hI EM_loc ?_
  intro p e s m args below meth c C
  unfold F_X12_reading at h
  refine x_aload_n C dX12_reading_0 1 rfl 0 rfl ?_
  refine x_iconst C dX12_reading_1 2 rfl 0 rfl ?_
  refine x_put C inX12 0 lm0 EM_0 rfl 0 (by decide) tyX12_ok nmX12 dX12_reading_2 5 rfl wmf_X12_180 rfl rfl rfl (Nat.le_of_ble_eq_true rfl) EQ_0_0 h (fun a2 h => ?_)
  refine x_aload_n C dX12_reading_5 6 rfl 0 rfl ?_
  refine x_iload_n C dX12_reading_6 7 rfl 1 rfl ?_
  refine x_iconst C dX12_reading_7 8 rfl 0 rfl ?_
  refine x_aload_n C dX12_reading_8 9 rfl 0 rfl ?_
  refine x_get C inX12 0 lm0 EM_0 rfl 2 (by decide) dX12_reading_9 12 rfl wmf_X12_183 rfl ?_
  obtain ⟨r12, a12, hq, h⟩ := xb_some h
  refine x_callSi C (c_X12_in C.2.2.2.2.2.2.1 hq) wml_X12_223 wq_X12_in rfl ⟨by decide, by decide⟩ rfl rfl ⟨by decide, by decide⟩ dX12_reading_12 15 rfl rfl (Nat.le_of_ble_eq_true rfl) ?_
  refine x_if_ne C dX12_reading_15 18 rfl 22 rfl h (fun h => ?_) (fun h => ?_)
  · refine x_iconst C dX12_reading_22 23 rfl 0 rfl ?_
    exact b_X12_reading_23 C  h
  · refine x_iconst C dX12_reading_18 19 rfl 1 rfl ?_
    refine x_goto C dX12_reading_19 23 rfl ?_
    exact b_X12_reading_23 C  h
abbrev rm_X12_fault : Room := { frames := 0, cells := 0, slots := 0, locals := 0 }
theorem wq_X12_fault : xcV RX12 yX12_fault cX12_fault 1 (some .int) 0 := ⟨wmi_X12_fault, wms_X12_fault, wmn_X12, wmc_X12_fault, by decide, by decide, by decide +kernel⟩
def F_X12_fault (N : Nat) (ah : AH) : Option (Int32 × AH) := xlet (xu ah 0 0 0) (fun a2 => some (a2 0 5, a2))
theorem c_X12_fault {l : Launch} {D : va_G} {ca : Nat → ClassId} {ad : Nat → Nat} (hI : xInj ad NCM) {N : Nat} {ah : AH} {r : Int32} {a : AH} (h : F_X12_fault N ah = some (r, a)) : xMi l yX12_fault cX12_fault 1 (some .int) rm_X12_fault D vwCl (tysM ca) (EM ad ca) NCM ad [.ref (ad 0)] ah (r, a) := by
  refine x_meti (by decide) (Nat.le_of_ble_eq_true rfl) hI EM_loc ?_
  intro p e s m args below meth c C
  unfold F_X12_fault at h
  refine x_aload_n C dX12_fault_0 1 rfl 0 rfl ?_
  refine x_iconst C dX12_fault_1 2 rfl 0 rfl ?_
  refine x_put C inX12 0 lm0 EM_0 rfl 0 (by decide) tyX12_ok nmX12 dX12_fault_2 5 rfl wmf_X12_180 rfl rfl rfl (Nat.le_of_ble_eq_true rfl) EQ_0_0 h (fun a2 h => ?_)
  refine x_aload_n C dX12_fault_5 6 rfl 0 rfl ?_
  refine x_get C inX12 0 lm0 EM_0 rfl 5 (by decide) dX12_fault_6 9 rfl wmf_X12_13 rfl ?_
  exact x_iret C rfl dX12_fault_9 h
abbrev rm_X12_set : Room := { frames := 1, cells := 0, slots := 0, locals := 23 }
theorem wq_X12_set : xcV RX12 yX12_set cX12_set 4 (some .int) 2 := ⟨wmi_X12_set, wms_X12_set, wmn_X12, wmc_X12_set, by decide, by decide, by decide +kernel⟩
def F_X12_set_41 (N : Nat) (ah : AH) (v1 : Int32) (v2 : Int32) (s1 : Int32) : Option (Int32 × AH) := xb (F_X12_bad N ah s1 1 1) (fun r43 a43 => if r43 = 0 then xg v1 7 (xlet (a43 3 (Int32.toNatClampNeg v1)) (fun v3_57 => xg v1 7 (xlet (xu a43 3 (Int32.toNatClampNeg v1) v2) (fun a64 => some (v3_57, a64))))) else some (0, a43))
def F_X12_set_36 (N : Nat) (ah : AH) (v1 : Int32) (v2 : Int32) : Option (Int32 × AH) := F_X12_set_41 N ah v1 v2 1
def F_X12_set_30 (N : Nat) (ah : AH) (v1 : Int32) (v2 : Int32) (s1 : Int32) (s2 : Int32) (s3 : Int32) : Option (Int32 × AH) := xb (F_X12_in N ah s1 s2 s3) (fun r30 a30 => if r30 = 0 then F_X12_set_36 N a30 v1 v2 else F_X12_set_41 N a30 v1 v2 0)
def F_X12_set (N : Nat) (ah : AH) (p1 : Int32) (p2 : Int32) : Option (Int32 × AH) := xlet (xu ah 0 0 0) (fun a2 => xb (F_X12_in N a2 p1 0 6) (fun r10 a10 => if r10 = 0 then F_X12_set_36 N a10 p1 p2 else if p1 = 0 then F_X12_set_30 N a10 p1 p2 p2 0 999 else F_X12_set_30 N a10 p1 p2 p2 0 99))
theorem b_X12_set_41 (C : XC p l s m args meth c cX12_set 4 (some .int) RX12 D vwCl (tysM ca) (EM ad ca) NCM ad) {N : Nat} {o : (Int32 × AH)} {ah : AH} {v1 : Int32} {v2 : Int32} {s1 : Int32} (h : F_X12_set_41 N ah v1 v2 s1 = some o) : XW p l e rm_X12_set s m args below meth c 4 0 (xQi below args s D vwCl (tysM ca) (EM ad ca) NCM ad o) D vwCl (EM ad ca) NCM ad ah 41 [(0, .ref (ad 0)), (1, .int v1), (2, .int v2)] [.int s1, .ref (ad 0)] := by
  unfold F_X12_set_41 at h
  refine x_iconst C dX12_set_41 42 rfl 1 rfl ?_
  refine x_iconst C dX12_set_42 43 rfl 1 rfl ?_
  obtain ⟨r43, a43, hq, h⟩ := xb_some h
  refine x_callVi C 0 (c_X12_bad C.2.2.2.2.2.2.1 hq) lm0 EM_0 rfl wml_X12_249 wq_X12_bad rfl ⟨by decide, by decide⟩ rfl rfl ⟨by decide, by decide⟩ dX12_set_43 46 rfl rfl (Nat.le_of_ble_eq_true rfl) ?_
  refine x_if_eq C dX12_set_46 49 rfl 51 rfl h (fun h => ?_) (fun h => ?_)
  · refine x_aload_n C dX12_set_51 52 rfl 0 rfl ?_
    refine x_get C inX12 0 lm0 EM_0 rfl 9 (by decide) dX12_set_52 55 rfl wmf_X12_20 rfl ?_
    refine x_iload_n C dX12_set_55 56 rfl 1 rfl ?_
    refine x_iald C 3 lm3 EM_3 0 rfl dX12_set_56 57 rfl h (fun h => ?_)
    refine x_istore_n C dX12_set_57 58 rfl (by decide) (fun v3_57 => [(3, .int v3_57), (0, .ref (ad 0)), (1, .int v1), (2, .int v2)]) (fun _ => rfl) h (fun v3_57 h => ?_)
    refine x_aload_n C dX12_set_58 59 rfl 1 rfl ?_
    refine x_get C inX12 0 lm0 EM_0 rfl 9 (by decide) dX12_set_59 62 rfl wmf_X12_20 rfl ?_
    refine x_iload_n C dX12_set_62 63 rfl 2 rfl ?_
    refine x_iload_n C dX12_set_63 64 rfl 3 rfl ?_
    refine x_iast C 3 lm3 (fun _ => EM_3) 0 rfl dX12_set_64 65 rfl h (fun a64 h => ?_)
    refine x_iload_n C dX12_set_65 66 rfl 0 rfl ?_
    exact x_iret C rfl dX12_set_66 h
  · refine x_iconst C dX12_set_49 50 rfl 0 rfl ?_
    exact x_iret C rfl dX12_set_50 h
theorem b_X12_set_36 (C : XC p l s m args meth c cX12_set 4 (some .int) RX12 D vwCl (tysM ca) (EM ad ca) NCM ad) {N : Nat} {o : (Int32 × AH)} {ah : AH} {v1 : Int32} {v2 : Int32} (h : F_X12_set_36 N ah v1 v2 = some o) : XW p l e rm_X12_set s m args below meth c 4 0 (xQi below args s D vwCl (tysM ca) (EM ad ca) NCM ad o) D vwCl (EM ad ca) NCM ad ah 36 [(0, .ref (ad 0)), (1, .int v1), (2, .int v2)] [.ref (ad 0)] := by
  unfold F_X12_set_36 at h
  refine x_iconst C dX12_set_36 37 rfl 1 rfl ?_
  refine x_goto C dX12_set_37 41 rfl ?_
  exact b_X12_set_41 C  h
theorem b_X12_set_30 (C : XC p l s m args meth c cX12_set 4 (some .int) RX12 D vwCl (tysM ca) (EM ad ca) NCM ad) {N : Nat} {o : (Int32 × AH)} {ah : AH} {v1 : Int32} {v2 : Int32} {s1 : Int32} {s2 : Int32} {s3 : Int32} (h : F_X12_set_30 N ah v1 v2 s1 s2 s3 = some o) : XW p l e rm_X12_set s m args below meth c 4 0 (xQi below args s D vwCl (tysM ca) (EM ad ca) NCM ad o) D vwCl (EM ad ca) NCM ad ah 30 [(0, .ref (ad 0)), (1, .int v1), (2, .int v2)] [.int s3, .int s2, .int s1, .ref (ad 0)] := by
  unfold F_X12_set_30 at h
  obtain ⟨r30, a30, hq, h⟩ := xb_some h
  refine x_callSi C (c_X12_in C.2.2.2.2.2.2.1 hq) wml_X12_223 wq_X12_in rfl ⟨by decide, by decide⟩ rfl rfl ⟨by decide, by decide⟩ dX12_set_30 33 rfl rfl (Nat.le_of_ble_eq_true rfl) ?_
  refine x_if_ne C dX12_set_33 36 rfl 40 rfl h (fun h => ?_) (fun h => ?_)
  · refine x_iconst C dX12_set_40 41 rfl 0 rfl ?_
    exact b_X12_set_41 C  h
  · exact b_X12_set_36 C  h
theorem c_X12_set {l : Launch} {D : va_G} {ca : Nat → ClassId} {ad : Nat → Nat} (hI : xInj ad NCM) {N : Nat} {ah : AH} {p1 : Int32} {p2 : Int32} {r : Int32} {a : AH} (h : F_X12_set N ah p1 p2 = some (r, a)) : xMi l yX12_set cX12_set 4 (some .int) rm_X12_set D vwCl (tysM ca) (EM ad ca) NCM ad [.ref (ad 0), .int p1, .int p2] ah (r, a) := by
  refine x_meti (by decide) (Nat.le_of_ble_eq_true rfl) hI EM_loc ?_
  intro p e s m args below meth c C
  unfold F_X12_set at h
  refine x_aload_n C dX12_set_0 1 rfl 0 rfl ?_
  refine x_iconst C dX12_set_1 2 rfl 0 rfl ?_
  refine x_put C inX12 0 lm0 EM_0 rfl 0 (by decide) tyX12_ok nmX12 dX12_set_2 5 rfl wmf_X12_180 rfl rfl rfl (Nat.le_of_ble_eq_true rfl) EQ_0_0 h (fun a2 h => ?_)
  refine x_aload_n C dX12_set_5 6 rfl 0 rfl ?_
  refine x_iload_n C dX12_set_6 7 rfl 1 rfl ?_
  refine x_iconst C dX12_set_7 8 rfl 0 rfl ?_
  refine x_bipush C dX12_set_8 10 rfl 6 rfl ?_
  obtain ⟨r10, a10, hq, h⟩ := xb_some h
  refine x_callSi C (c_X12_in C.2.2.2.2.2.2.1 hq) wml_X12_223 wq_X12_in rfl ⟨by decide, by decide⟩ rfl rfl ⟨by decide, by decide⟩ dX12_set_10 13 rfl rfl (Nat.le_of_ble_eq_true rfl) ?_
  refine x_if_eq C dX12_set_13 16 rfl 36 rfl h (fun h => ?_) (fun h => ?_)
  · exact b_X12_set_36 C  h
  · refine x_iload_n C dX12_set_16 17 rfl 2 rfl ?_
    refine x_iconst C dX12_set_17 18 rfl 0 rfl ?_
    refine x_iload_n C dX12_set_18 19 rfl 1 rfl ?_
    refine x_if_ne C dX12_set_19 22 rfl 28 rfl h (fun h => ?_) (fun h => ?_)
    · refine x_bipush C dX12_set_28 30 rfl 99 rfl ?_
      exact b_X12_set_30 C  h
    · refine x_sipush C dX12_set_22 25 rfl 999 rfl ?_
      refine x_goto C dX12_set_25 30 rfl ?_
      exact b_X12_set_30 C  h
abbrev rm_X12_weigh : Room := { frames := 2, cells := 0, slots := 0, locals := 43 }
theorem wq_X12_weigh : xcV RX12 yX12_weigh cX12_weigh 4 (some .int) 2 := ⟨wmi_X12_weigh, wms_X12_weigh, wmn_X12, wmc_X12_weigh, by decide, by decide, by decide +kernel⟩
def F_X12_weigh_43 (N : Nat) (ah : AH) (v1 : Int32) (v2 : Int32) (s1 : Int32) : Option (Int32 × AH) := xb (F_X12_bad N ah s1 2 1) (fun r45 a45 => if r45 = 0 then xg v1 61 (xlet (a45 6 (Int32.toNatClampNeg v1)) (fun v3_59 => xg v1 61 (xlet (xu a45 6 (Int32.toNatClampNeg v1) v2) (fun a66 => xbv (F_X12_weighs N a66) (fun a68 => some (v3_59, a68)))))) else some (0, a45))
def F_X12_weigh_19 (N : Nat) (ah : AH) (v1 : Int32) (v2 : Int32) (s1 : Int32) : Option (Int32 × AH) := xb (F_X12_bad N ah s1 1 0) (fun r21 a21 => if r21 = 0 then xb (F_X12_in N a21 v2 0 99) (fun r32 a32 => if r32 = 0 then F_X12_weigh_43 N a32 v1 v2 1 else F_X12_weigh_43 N a32 v1 v2 0) else some (0, a21))
def F_X12_weigh (N : Nat) (ah : AH) (p1 : Int32) (p2 : Int32) : Option (Int32 × AH) := xlet (xu ah 0 0 0) (fun a2 => xb (F_X12_isWord N a2 p1) (fun r8 a8 => if r8 = 0 then F_X12_weigh_19 N a8 p1 p2 1 else F_X12_weigh_19 N a8 p1 p2 0))
theorem b_X12_weigh_43 (C : XC p l s m args meth c cX12_weigh 4 (some .int) RX12 D vwCl (tysM ca) (EM ad ca) NCM ad) {N : Nat} {o : (Int32 × AH)} {ah : AH} {v1 : Int32} {v2 : Int32} {s1 : Int32} (h : F_X12_weigh_43 N ah v1 v2 s1 = some o) : XW p l e rm_X12_weigh s m args below meth c 4 0 (xQi below args s D vwCl (tysM ca) (EM ad ca) NCM ad o) D vwCl (EM ad ca) NCM ad ah 43 [(0, .ref (ad 0)), (1, .int v1), (2, .int v2)] [.int s1, .ref (ad 0)] := by
  unfold F_X12_weigh_43 at h
  refine x_iconst C dX12_weigh_43 44 rfl 2 rfl ?_
  refine x_iconst C dX12_weigh_44 45 rfl 1 rfl ?_
  obtain ⟨r45, a45, hq, h⟩ := xb_some h
  refine x_callVi C 0 (c_X12_bad C.2.2.2.2.2.2.1 hq) lm0 EM_0 rfl wml_X12_249 wq_X12_bad rfl ⟨by decide, by decide⟩ rfl rfl ⟨by decide, by decide⟩ dX12_weigh_45 48 rfl rfl (Nat.le_of_ble_eq_true rfl) ?_
  refine x_if_eq C dX12_weigh_48 51 rfl 53 rfl h (fun h => ?_) (fun h => ?_)
  · refine x_aload_n C dX12_weigh_53 54 rfl 0 rfl ?_
    refine x_get C inX12 0 lm0 EM_0 rfl 13 (by decide) dX12_weigh_54 57 rfl wmf_X12_31 rfl ?_
    refine x_iload_n C dX12_weigh_57 58 rfl 1 rfl ?_
    refine x_iald C 6 lm6 EM_6 0 rfl dX12_weigh_58 59 rfl h (fun h => ?_)
    refine x_istore_n C dX12_weigh_59 60 rfl (by decide) (fun v3_59 => [(3, .int v3_59), (0, .ref (ad 0)), (1, .int v1), (2, .int v2)]) (fun _ => rfl) h (fun v3_59 h => ?_)
    refine x_aload_n C dX12_weigh_60 61 rfl 1 rfl ?_
    refine x_get C inX12 0 lm0 EM_0 rfl 13 (by decide) dX12_weigh_61 64 rfl wmf_X12_31 rfl ?_
    refine x_iload_n C dX12_weigh_64 65 rfl 2 rfl ?_
    refine x_iload_n C dX12_weigh_65 66 rfl 3 rfl ?_
    refine x_iast C 6 lm6 (fun _ => EM_6) 0 rfl dX12_weigh_66 67 rfl h (fun a66 h => ?_)
    refine x_aload_n C dX12_weigh_67 68 rfl 1 rfl ?_
    obtain ⟨a68, hq, h⟩ := xbv_some h
    refine x_callVv C 0 (c_X12_weighs C.2.2.2.2.2.2.1 hq) lm0 EM_0 rfl wml_X12_269 wq_X12_weighs rfl ⟨by decide, by decide⟩ rfl rfl ⟨by decide, by decide⟩ dX12_weigh_68 71 rfl rfl (Nat.le_of_ble_eq_true rfl) ?_
    refine x_iload_n C dX12_weigh_71 72 rfl 0 rfl ?_
    exact x_iret C rfl dX12_weigh_72 h
  · refine x_iconst C dX12_weigh_51 52 rfl 0 rfl ?_
    exact x_iret C rfl dX12_weigh_52 h
theorem b_X12_weigh_19 (C : XC p l s m args meth c cX12_weigh 4 (some .int) RX12 D vwCl (tysM ca) (EM ad ca) NCM ad) {N : Nat} {o : (Int32 × AH)} {ah : AH} {v1 : Int32} {v2 : Int32} {s1 : Int32} (h : F_X12_weigh_19 N ah v1 v2 s1 = some o) : XW p l e rm_X12_weigh s m args below meth c 4 0 (xQi below args s D vwCl (tysM ca) (EM ad ca) NCM ad o) D vwCl (EM ad ca) NCM ad ah 19 [(0, .ref (ad 0)), (1, .int v1), (2, .int v2)] [.int s1, .ref (ad 0)] := by
  unfold F_X12_weigh_19 at h
  refine x_iconst C dX12_weigh_19 20 rfl 1 rfl ?_
  refine x_iconst C dX12_weigh_20 21 rfl 0 rfl ?_
  obtain ⟨r21, a21, hq, h⟩ := xb_some h
  refine x_callVi C 0 (c_X12_bad C.2.2.2.2.2.2.1 hq) lm0 EM_0 rfl wml_X12_249 wq_X12_bad rfl ⟨by decide, by decide⟩ rfl rfl ⟨by decide, by decide⟩ dX12_weigh_21 24 rfl rfl (Nat.le_of_ble_eq_true rfl) ?_
  refine x_if_ne C dX12_weigh_24 27 rfl 51 rfl h (fun h => ?_) (fun h => ?_)
  · refine x_iconst C dX12_weigh_51 52 rfl 0 rfl ?_
    exact x_iret C rfl dX12_weigh_52 h
  · refine x_aload_n C dX12_weigh_27 28 rfl 0 rfl ?_
    refine x_iload_n C dX12_weigh_28 29 rfl 2 rfl ?_
    refine x_iconst C dX12_weigh_29 30 rfl 0 rfl ?_
    refine x_bipush C dX12_weigh_30 32 rfl 99 rfl ?_
    obtain ⟨r32, a32, hq, h⟩ := xb_some h
    refine x_callSi C (c_X12_in C.2.2.2.2.2.2.1 hq) wml_X12_223 wq_X12_in rfl ⟨by decide, by decide⟩ rfl rfl ⟨by decide, by decide⟩ dX12_weigh_32 35 rfl rfl (Nat.le_of_ble_eq_true rfl) ?_
    refine x_if_ne C dX12_weigh_35 38 rfl 42 rfl h (fun h => ?_) (fun h => ?_)
    · refine x_iconst C dX12_weigh_42 43 rfl 0 rfl ?_
      exact b_X12_weigh_43 C  h
    · refine x_iconst C dX12_weigh_38 39 rfl 1 rfl ?_
      refine x_goto C dX12_weigh_39 43 rfl ?_
      exact b_X12_weigh_43 C  h
theorem c_X12_weigh {l : Launch} {D : va_G} {ca : Nat → ClassId} {ad : Nat → Nat} (hI : xInj ad NCM) {N : Nat} {ah : AH} {p1 : Int32} {p2 : Int32} {r : Int32} {a : AH} (h : F_X12_weigh N ah p1 p2 = some (r, a)) : xMi l yX12_weigh cX12_weigh 4 (some .int) rm_X12_weigh D vwCl (tysM ca) (EM ad ca) NCM ad [.ref (ad 0), .int p1, .int p2] ah (r, a) := by
  refine x_meti (by decide) (Nat.le_of_ble_eq_true rfl) hI EM_loc ?_
  intro p e s m args below meth c C
  unfold F_X12_weigh at h
  refine x_aload_n C dX12_weigh_0 1 rfl 0 rfl ?_
  refine x_iconst C dX12_weigh_1 2 rfl 0 rfl ?_
  refine x_put C inX12 0 lm0 EM_0 rfl 0 (by decide) tyX12_ok nmX12 dX12_weigh_2 5 rfl wmf_X12_180 rfl rfl rfl (Nat.le_of_ble_eq_true rfl) EQ_0_0 h (fun a2 h => ?_)
  refine x_aload_n C dX12_weigh_5 6 rfl 0 rfl ?_
  refine x_aload_n C dX12_weigh_6 7 rfl 0 rfl ?_
  refine x_iload_n C dX12_weigh_7 8 rfl 1 rfl ?_
  obtain ⟨r8, a8, hq, h⟩ := xb_some h
  refine x_callVi C 0 (c_X12_isWord C.2.2.2.2.2.2.1 hq) lm0 EM_0 rfl wml_X12_282 wq_X12_isWord rfl ⟨by decide, by decide⟩ rfl rfl ⟨by decide, by decide⟩ dX12_weigh_8 11 rfl rfl (Nat.le_of_ble_eq_true rfl) ?_
  refine x_if_ne C dX12_weigh_11 14 rfl 18 rfl h (fun h => ?_) (fun h => ?_)
  · refine x_iconst C dX12_weigh_18 19 rfl 0 rfl ?_
    exact b_X12_weigh_19 C  h
  · refine x_iconst C dX12_weigh_14 15 rfl 1 rfl ?_
    refine x_goto C dX12_weigh_15 19 rfl ?_
    exact b_X12_weigh_19 C  h
abbrev rm_X12_edge : Room := { frames := 0, cells := 0, slots := 0, locals := 0 }
theorem wq_X12_edge : xcV RX12 yX12_edge cX12_edge 10 none 8 := ⟨wmi_X12_edge, wms_X12_edge, wmn_X12, wmc_X12_edge, by decide, by decide, by decide +kernel⟩
def F_X12_edge (N : Nat) (ah : AH) (p1 : Int32) (p2 : Int32) (p3 : Int32) (p4 : Int32) (p5 : Int32) (p6 : Int32) (p7 : Int32) (p8 : Int32) : Option AH := xg p1 48 (xg p1 49 (xg (ah 25 (Int32.toNatClampNeg p1)) 60 (xlet (2423 + ((Int32.toNatClampNeg p1) * 60 + Int32.toNatClampNeg (ah 25 (Int32.toNatClampNeg p1)))) (fun x12 => xlet (xu ah x12 0 p2) (fun a19 => xlet (xu a19 x12 1 p3) (fun a24 => xlet (xu a24 x12 2 p4) (fun a30 => xlet (xu a30 x12 3 p5) (fun a36 => xlet (xu a36 x12 4 p6) (fun a42 => xlet (xu a42 x12 5 p7) (fun a48 => xlet (xu a48 x12 6 p8) (fun a55 => xg p1 49 (xg p1 49 (xlet (xu a55 25 (Int32.toNatClampNeg p1) ((a55 25 (Int32.toNatClampNeg p1)) + 1)) (fun a65 => some a65))))))))))))))
theorem c_X12_edge {l : Launch} {D : va_G} {ca : Nat → ClassId} {ad : Nat → Nat} (hI : xInj ad NCM) {N : Nat} {ah : AH} {p1 : Int32} {p2 : Int32} {p3 : Int32} {p4 : Int32} {p5 : Int32} {p6 : Int32} {p7 : Int32} {p8 : Int32} {a : AH} (h : F_X12_edge N ah p1 p2 p3 p4 p5 p6 p7 p8 = some a) : xMv l yX12_edge cX12_edge 10 rm_X12_edge D vwCl (tysM ca) (EM ad ca) NCM ad [.ref (ad 0), .int p1, .int p2, .int p3, .int p4, .int p5, .int p6, .int p7, .int p8] ah a := by
  refine x_metv (by decide) (Nat.le_of_ble_eq_true rfl) hI EM_loc ?_
  intro p e s m args below meth c C
  unfold F_X12_edge at h
  refine x_aload_n C dX12_edge_0 1 rfl 0 rfl ?_
  refine x_get C inX12 0 lm0 EM_0 rfl 37 (by decide) dX12_edge_1 4 rfl wmf_X12_101 rfl ?_
  refine x_iload_n C dX12_edge_4 5 rfl 1 rfl ?_
  refine x_aald C (27) lm27 EM_27 3 rfl rfl dX12_edge_5 6 rfl (2375 + (Int32.toNatClampNeg p1)) rfl h (fun hb5 h => ?_)
  refine x_aload_n C dX12_edge_6 7 rfl 0 rfl ?_
  refine x_get C inX12 0 lm0 EM_0 rfl 35 (by decide) dX12_edge_7 10 rfl wmf_X12_95 rfl ?_
  refine x_iload_n C dX12_edge_10 11 rfl 1 rfl ?_
  refine x_iald C 25 lm25 EM_25 0 rfl dX12_edge_11 12 rfl h (fun h => ?_)
  refine x_aaldL C (2375 + (Int32.toNatClampNeg p1)) (lm_edge_1 hb5) (EM_edge_1 hb5) 2 rfl rfl dX12_edge_12 13 rfl (2423 + ((Int32.toNatClampNeg p1) * 60 + Int32.toNatClampNeg (ah 25 (Int32.toNatClampNeg p1)))) rfl h (fun x12 ex12 hb12 h => ?_)
  have hx12 : mI x12 7 := ex12 ▸ mI_edge (xfl hb5 hb12)
  refine x_astore C dX12_edge_13 15 rfl (by decide) [(9, .ref (ad x12)), (0, .ref (ad 0)), (1, .int p1), (2, .int p2), (3, .int p3), (4, .int p4), (5, .int p5), (6, .int p6), (7, .int p7), (8, .int p8)] rfl ?_
  refine x_aload C dX12_edge_15 17 rfl 0 rfl ?_
  refine x_iconst C dX12_edge_17 18 rfl 0 rfl ?_
  refine x_iload_n C dX12_edge_18 19 rfl 3 rfl ?_
  refine x_iastK C x12 hx12.1 (hx12.2 _ _) 0 rfl dX12_edge_19 20 rfl (by decide) 0 (by decide) h (fun a19 h => ?_)
  refine x_aload C dX12_edge_20 22 rfl 0 rfl ?_
  refine x_iconst C dX12_edge_22 23 rfl 1 rfl ?_
  refine x_iload_n C dX12_edge_23 24 rfl 4 rfl ?_
  refine x_iastK C x12 hx12.1 (hx12.2 _ _) 0 rfl dX12_edge_24 25 rfl (by decide) 1 (by decide) h (fun a24 h => ?_)
  refine x_aload C dX12_edge_25 27 rfl 0 rfl ?_
  refine x_iconst C dX12_edge_27 28 rfl 2 rfl ?_
  refine x_iload C dX12_edge_28 30 rfl 5 rfl ?_
  refine x_iastK C x12 hx12.1 (hx12.2 _ _) 0 rfl dX12_edge_30 31 rfl (by decide) 2 (by decide) h (fun a30 h => ?_)
  refine x_aload C dX12_edge_31 33 rfl 0 rfl ?_
  refine x_iconst C dX12_edge_33 34 rfl 3 rfl ?_
  refine x_iload C dX12_edge_34 36 rfl 6 rfl ?_
  refine x_iastK C x12 hx12.1 (hx12.2 _ _) 0 rfl dX12_edge_36 37 rfl (by decide) 3 (by decide) h (fun a36 h => ?_)
  refine x_aload C dX12_edge_37 39 rfl 0 rfl ?_
  refine x_iconst C dX12_edge_39 40 rfl 4 rfl ?_
  refine x_iload C dX12_edge_40 42 rfl 7 rfl ?_
  refine x_iastK C x12 hx12.1 (hx12.2 _ _) 0 rfl dX12_edge_42 43 rfl (by decide) 4 (by decide) h (fun a42 h => ?_)
  refine x_aload C dX12_edge_43 45 rfl 0 rfl ?_
  refine x_iconst C dX12_edge_45 46 rfl 5 rfl ?_
  refine x_iload C dX12_edge_46 48 rfl 8 rfl ?_
  refine x_iastK C x12 hx12.1 (hx12.2 _ _) 0 rfl dX12_edge_48 49 rfl (by decide) 5 (by decide) h (fun a48 h => ?_)
  refine x_aload C dX12_edge_49 51 rfl 0 rfl ?_
  refine x_bipush C dX12_edge_51 53 rfl 6 rfl ?_
  refine x_iload C dX12_edge_53 55 rfl 9 rfl ?_
  refine x_iastK C x12 hx12.1 (hx12.2 _ _) 0 rfl dX12_edge_55 56 rfl (by decide) 6 (by decide) h (fun a55 h => ?_)
  refine x_aload_n C dX12_edge_56 57 rfl 1 rfl ?_
  refine x_get C inX12 0 lm0 EM_0 rfl 35 (by decide) dX12_edge_57 60 rfl wmf_X12_95 rfl ?_
  refine x_iload_n C dX12_edge_60 61 rfl 2 rfl ?_
  refine x_dup2 C dX12_edge_61 62 rfl rfl rfl ?_
  refine x_iald C 25 lm25 EM_25 0 rfl dX12_edge_62 63 rfl h (fun h => ?_)
  refine x_iconst C dX12_edge_63 64 rfl 1 rfl ?_
  refine x_iadd C dX12_edge_64 65 rfl ?_
  refine x_iast C 25 lm25 (fun _ => EM_25) 0 rfl dX12_edge_65 66 rfl h (fun a65 h => ?_)
  exact x_vret C rfl dX12_edge_66 h
abbrev rm_X12_isShapeAt : Room := { frames := 0, cells := 0, slots := 0, locals := 0 }
theorem wq_X12_isShapeAt : xcV RX12 yX12_isShapeAt cX12_isShapeAt 5 (some .boolean) 2 := ⟨wmi_X12_isShapeAt, wms_X12_isShapeAt, wmn_X12, wmc_X12_isShapeAt, by decide, by decide, by decide +kernel⟩
def F_X12_isShapeAt_26 (N : Nat) : Nat → AH → Int32 → Int32 → Int32 → Int32 → Option (Int32 × AH)
  | 0, _, _, _, _, _ => none
  | n + 1, ah, v1, v2, v3, v4 => if v3 ≤ v4 then some (1, ah) else xg (v2 + v4) 48 (xlet (2327 + (Int32.toNatClampNeg (v2 + v4))) (fun x40 => xg v1 20 (xlet (115 + (0 * 20 + Int32.toNatClampNeg v1)) (fun x50 => xg v4 6 (if (ah x40 0) = (ah x50 (Int32.toNatClampNeg v4)) then xlet (v4 + 1) (fun v4_59 => F_X12_isShapeAt_26 N n ah v1 v2 v3 v4_59) else some (0, ah))))))
def F_X12_isShapeAt (N : Nat) (ah : AH) (p1 : Int32) (p2 : Int32) : Option (Int32 × AH) := xg p1 20 (xlet (157 + (0 * 20 + Int32.toNatClampNeg p1)) (fun x7 => xlet (ah x7 1) (fun v3_10 => if (p2 + v3_10) ≤ (ah 0 33) then xlet 0 (fun v4_24 => F_X12_isShapeAt_26 N N ah p1 p2 v3_10 v4_24) else some (0, ah))))
theorem b_X12_isShapeAt_26 (C : XC p l s m args meth c cX12_isShapeAt 5 (some .boolean) RX12 D vwCl (tysM ca) (EM ad ca) NCM ad) {N : Nat} {o : (Int32 × AH)} : ∀ (n : Nat) {ah : AH} {v1 : Int32} {v2 : Int32} {v3 : Int32} {v4 : Int32}, F_X12_isShapeAt_26 N n ah v1 v2 v3 v4 = some o → XW p l e rm_X12_isShapeAt s m args below meth c 5 0 (xQi below args s D vwCl (tysM ca) (EM ad ca) NCM ad o) D vwCl (EM ad ca) NCM ad ah 26 [(0, .ref (ad 0)), (1, .int v1), (2, .int v2), (3, .int v3), (4, .int v4)] [] := by
  intro n
  induction n with
  | zero => intro ah v1 v2 v3 v4 h; unfold F_X12_isShapeAt_26 at h; cases h
  | succ n ih =>
    intro ah v1 v2 v3 v4 h
    unfold F_X12_isShapeAt_26 at h
    refine x_iload C dX12_isShapeAt_26 28 rfl 4 rfl ?_
    refine x_iload_n C dX12_isShapeAt_28 29 rfl 3 rfl ?_
    refine x_icmp_ge C dX12_isShapeAt_29 32 rfl 65 rfl h (fun h => ?_) (fun h => ?_)
    · refine x_iconst C dX12_isShapeAt_65 66 rfl 1 rfl ?_
      exact x_zret C rfl dX12_isShapeAt_66 (by decide) h
    · refine x_aload_n C dX12_isShapeAt_32 33 rfl 0 rfl ?_
      refine x_get C inX12 0 lm0 EM_0 rfl 34 (by decide) dX12_isShapeAt_33 36 rfl wmf_X12_92 rfl ?_
      refine x_iload_n C dX12_isShapeAt_36 37 rfl 2 rfl ?_
      refine x_iload C dX12_isShapeAt_37 39 rfl 4 rfl ?_
      refine x_iadd C dX12_isShapeAt_39 40 rfl ?_
      refine x_aaldL C (24) lm24 EM_24 2 rfl rfl dX12_isShapeAt_40 41 rfl (2327 + (Int32.toNatClampNeg (v2 + v4))) rfl h (fun x40 ex40 hb40 h => ?_)
      have hx40 : mI x40 8 := ex40 ▸ mI_net hb40
      refine x_iconst C dX12_isShapeAt_41 42 rfl 0 rfl ?_
      refine x_ialdK C x40 hx40.1 (hx40.2 _ _ _) 0 rfl dX12_isShapeAt_42 43 rfl (by decide) 0 (by decide) ?_
      refine x_aload_n C dX12_isShapeAt_43 44 rfl 0 rfl ?_
      refine x_get C inX12 0 lm0 EM_0 rfl 22 (by decide) dX12_isShapeAt_44 47 rfl wmf_X12_60 rfl ?_
      refine x_iconst C dX12_isShapeAt_47 48 rfl 0 rfl ?_
      refine x_aaldK C (14) lm14 EM_14 3 rfl rfl (by decide) 0 (by decide) dX12_isShapeAt_48 49 rfl (113 + 0) rfl ?_
      refine x_iload_n C dX12_isShapeAt_49 50 rfl 1 rfl ?_
      refine x_aaldL C (113 + 0) (lm_part_1 (show 0 < 2 by decide)) (EM_part_1 (show 0 < 2 by decide)) 2 rfl rfl dX12_isShapeAt_50 51 rfl (115 + (0 * 20 + Int32.toNatClampNeg v1)) rfl h (fun x50 ex50 hb50 h => ?_)
      have hx50 : mI x50 6 := ex50 ▸ mI_part (xfl (show 0 < 2 by decide) hb50)
      refine x_iload C dX12_isShapeAt_51 53 rfl 4 rfl ?_
      refine x_iald C x50 hx50.1 (hx50.2 _ _ _) 0 rfl dX12_isShapeAt_53 54 rfl h (fun h => ?_)
      refine x_icmp_eq C dX12_isShapeAt_54 57 rfl 59 rfl h (fun h => ?_) (fun h => ?_)
      · refine x_iinc C dX12_isShapeAt_59 62 rfl 4 rfl (d := 1) rfl (by decide) (fun v4_59 => [(4, .int v4_59), (0, .ref (ad 0)), (1, .int v1), (2, .int v2), (3, .int v3)]) (fun _ => rfl) h (fun v4_59 h => ?_)
        refine x_goto C dX12_isShapeAt_62 26 rfl ?_
        exact x_sub [1, 2, 3, 4, 0] rfl (ih h)
      · refine x_iconst C dX12_isShapeAt_57 58 rfl 0 rfl ?_
        exact x_zret C rfl dX12_isShapeAt_58 (by decide) h
theorem c_X12_isShapeAt {l : Launch} {D : va_G} {ca : Nat → ClassId} {ad : Nat → Nat} (hI : xInj ad NCM) {N : Nat} {ah : AH} {p1 : Int32} {p2 : Int32} {r : Int32} {a : AH} (h : F_X12_isShapeAt N ah p1 p2 = some (r, a)) : xMi l yX12_isShapeAt cX12_isShapeAt 5 (some .boolean) rm_X12_isShapeAt D vwCl (tysM ca) (EM ad ca) NCM ad [.ref (ad 0), .int p1, .int p2] ah (r, a) := by
  refine x_meti (by decide) (Nat.le_of_ble_eq_true rfl) hI EM_loc ?_
  intro p e s m args below meth c C
  unfold F_X12_isShapeAt at h
  refine x_aload_n C dX12_isShapeAt_0 1 rfl 0 rfl ?_
  refine x_get C inX12 0 lm0 EM_0 rfl 23 (by decide) dX12_isShapeAt_1 4 rfl wmf_X12_63 rfl ?_
  refine x_iconst C dX12_isShapeAt_4 5 rfl 0 rfl ?_
  refine x_aaldK C (15) lm15 EM_15 3 rfl rfl (by decide) 0 (by decide) dX12_isShapeAt_5 6 rfl (155 + 0) rfl ?_
  refine x_iload_n C dX12_isShapeAt_6 7 rfl 1 rfl ?_
  refine x_aaldL C (155 + 0) (lm_shape_1 (show 0 < 2 by decide)) (EM_shape_1 (show 0 < 2 by decide)) 2 rfl rfl dX12_isShapeAt_7 8 rfl (157 + (0 * 20 + Int32.toNatClampNeg p1)) rfl h (fun x7 ex7 hb7 h => ?_)
  have hx7 : mI x7 3 := ex7 ▸ mI_shape (xfl (show 0 < 2 by decide) hb7)
  refine x_iconst C dX12_isShapeAt_8 9 rfl 1 rfl ?_
  refine x_ialdK C x7 hx7.1 (hx7.2 _ _ _) 0 rfl dX12_isShapeAt_9 10 rfl (by decide) 1 (by decide) ?_
  refine x_istore_n C dX12_isShapeAt_10 11 rfl (by decide) (fun v3_10 => [(3, .int v3_10), (0, .ref (ad 0)), (1, .int p1), (2, .int p2)]) (fun _ => rfl) h (fun v3_10 h => ?_)
  refine x_iload_n C dX12_isShapeAt_11 12 rfl 3 rfl ?_
  refine x_iload_n C dX12_isShapeAt_12 13 rfl 0 rfl ?_
  refine x_iadd C dX12_isShapeAt_13 14 rfl ?_
  refine x_aload_n C dX12_isShapeAt_14 15 rfl 1 rfl ?_
  refine x_get C inX12 0 lm0 EM_0 rfl 33 (by decide) dX12_isShapeAt_15 18 rfl wmf_X12_314 rfl ?_
  refine x_icmp_le C dX12_isShapeAt_18 21 rfl 23 rfl h (fun h => ?_) (fun h => ?_)
  · refine x_iconst C dX12_isShapeAt_23 24 rfl 0 rfl ?_
    refine x_istore C dX12_isShapeAt_24 26 rfl (by decide) (fun v4_24 => [(4, .int v4_24), (3, .int v3_10), (0, .ref (ad 0)), (1, .int p1), (2, .int p2)]) (fun _ => rfl) h (fun v4_24 h => ?_)
    exact x_sub [2, 3, 4, 1, 0] rfl (b_X12_isShapeAt_26 C  N h)
  · refine x_iconst C dX12_isShapeAt_21 22 rfl 0 rfl ?_
    exact x_zret C rfl dX12_isShapeAt_22 (by decide) h
abbrev rm_X12_laysEdges : Room := { frames := 1, cells := 0, slots := 0, locals := 29 }
theorem wq_X12_laysEdges : xcV RX12 yX12_laysEdges cX12_laysEdges 4 none 1 := ⟨wmi_X12_laysEdges, wms_X12_laysEdges, wmn_X12, wmc_X12_laysEdges, by decide, by decide, by decide +kernel⟩
def F_X12_laysEdges_295 (N : Nat) (k208 : AH → Int32 → Int32 → Option AH) (ah : AH) (v1 : Int32) (v3 : Int32) : Option AH := xlet (v3 + 1) (fun v3_295 => k208 ah v1 v3_295)
def F_X12_laysEdges_208 (N : Nat) : Nat → AH → Int32 → Int32 → Option AH
  | 0, _, _, _ => none
  | n + 1, ah, v1, v3 => if (ah 13 0) ≤ v3 then some ah else xb (F_X12_isShapeAt N ah v3 v1) (fun r221 a221 => if r221 = 0 then F_X12_laysEdges_295 N (F_X12_laysEdges_208 N n) a221 v1 v3 else xg v3 20 (xlet (157 + (0 * 20 + Int32.toNatClampNeg v3)) (fun x237 => xg v3 20 (xlet (157 + (0 * 20 + Int32.toNatClampNeg v3)) (fun x248 => xg v3 20 (xlet (157 + (0 * 20 + Int32.toNatClampNeg v3)) (fun x258 => xg v3 20 (xlet (115 + (0 * 20 + Int32.toNatClampNeg v3)) (fun x268 => xg v3 20 (xlet (115 + (0 * 20 + Int32.toNatClampNeg v3)) (fun x278 => xg v3 20 (xlet (115 + (0 * 20 + Int32.toNatClampNeg v3)) (fun x288 => xbv (F_X12_edge N a221 v1 (v1 + (a221 x237 1)) (a221 x248 0) (a221 x258 2) (a221 x268 3) (a221 x278 4) (a221 x288 5) v3) (fun a292 => F_X12_laysEdges_295 N (F_X12_laysEdges_208 N n) a292 v1 v3))))))))))))))
def F_X12_laysEdges_206 (N : Nat) (ah : AH) (v1 : Int32) : Option AH := xlet 0 (fun v3_207 => F_X12_laysEdges_208 N N ah v1 v3_207)
def F_X12_laysEdges_164 (N : Nat) (ah : AH) (v1 : Int32) (x2 : Nat) : Option AH := if (ah x2 0) = 10 then xbv (F_X12_edge N ah v1 (v1 + 1) 0 0 0 0 0 ((-1))) (fun a183 => xbv (F_X12_edge N a183 v1 (v1 + 1) (a183 3 4) 1 45 0 0 ((-1))) (fun a203 => F_X12_laysEdges_206 N a203 v1)) else F_X12_laysEdges_206 N ah v1
def F_X12_laysEdges_122 (N : Nat) (ah : AH) (v1 : Int32) (x2 : Nat) : Option AH := if (ah x2 0) = 45 then xbv (F_X12_edge N ah v1 (v1 + 1) 0 1 45 0 0 ((-1))) (fun a142 => xbv (F_X12_edge N a142 v1 (v1 + 1) (a142 3 3) 0 0 0 0 ((-1))) (fun a161 => F_X12_laysEdges_164 N a161 v1 x2)) else F_X12_laysEdges_164 N ah v1 x2
def F_X12_laysEdges_83 (N : Nat) : Nat → AH → Int32 → Nat → Int32 → Option AH
  | 0, _, _, _, _ => none
  | n + 1, ah, v1, x2, v3 => if 122 < v3 then F_X12_laysEdges_122 N ah v1 x2 else if (ah x2 0) = 63 then xbv (F_X12_edge N ah v1 (v1 + 1) (ah 3 2) 1 v3 0 0 ((-1))) (fun a113 => xlet (v3 + 1) (fun v3_116 => F_X12_laysEdges_83 N n a113 v1 x2 v3_116)) else F_X12_laysEdges_122 N ah v1 x2
def F_X12_laysEdges_41 (N : Nat) : Nat → AH → Int32 → Nat → Int32 → Option AH
  | 0, _, _, _, _ => none
  | n + 1, ah, v1, x2, v3 => if (ah x2 1) ≤ v3 then xlet 97 (fun v3_82 => F_X12_laysEdges_83 N N ah v1 x2 v3_82) else xg (3 + (2 * v3)) 8 (xg (2 + (2 * v3)) 8 (xbv (F_X12_edge N ah v1 (v1 + 1) (ah x2 (Int32.toNatClampNeg (3 + (2 * v3)))) 1 (ah x2 (Int32.toNatClampNeg (2 + (2 * v3)))) 0 0 ((-1))) (fun a71 => xlet (v3 + 1) (fun v3_74 => F_X12_laysEdges_41 N n a71 v1 x2 v3_74))))
def F_X12_laysEdges_39 (N : Nat) (ah : AH) (v1 : Int32) (x2 : Nat) : Option AH := xlet 0 (fun v3_40 => F_X12_laysEdges_41 N N ah v1 x2 v3_40)
def F_X12_laysEdges (N : Nat) (ah : AH) (p1 : Int32) : Option AH := xg p1 48 (xlet (2327 + (Int32.toNatClampNeg p1)) (fun x5 => xg p1 49 (xlet (xu ah 25 (Int32.toNatClampNeg p1) 0) (fun a13 => xb (F_X12_isSmall N a13 (a13 x5 0)) (fun r17 a17 => if r17 = 0 then F_X12_laysEdges_39 N a17 p1 x5 else xbv (F_X12_edge N a17 p1 (p1 + 1) 0 1 (a17 x5 0) 0 0 ((-1))) (fun a36 => F_X12_laysEdges_39 N a36 p1 x5))))))
theorem b_X12_laysEdges_295 (C : XC p l s m args meth c cX12_laysEdges 4 none RX12 D vwCl (tysM ca) (EM ad ca) NCM ad) {N : Nat} {o : AH} {k208 : AH → Int32 → Int32 → Option AH} (hk208 : ∀ (ah : AH) (v1 : Int32) (v3 : Int32), k208 ah v1 v3 = some o → XW p l e rm_X12_laysEdges s m args below meth c 4 0 (xQv below args s D vwCl (tysM ca) (EM ad ca) NCM ad o) D vwCl (EM ad ca) NCM ad ah 208 [(0, .ref (ad 0)), (1, .int v1), (3, .int v3)] []) {ah : AH} {v1 : Int32} {v3 : Int32} (h : F_X12_laysEdges_295 N k208 ah v1 v3 = some o) : XW p l e rm_X12_laysEdges s m args below meth c 4 0 (xQv below args s D vwCl (tysM ca) (EM ad ca) NCM ad o) D vwCl (EM ad ca) NCM ad ah 295 [(0, .ref (ad 0)), (1, .int v1), (3, .int v3)] [] := by
  unfold F_X12_laysEdges_295 at h
  refine x_iinc C dX12_laysEdges_295 298 rfl 2 rfl (d := 1) rfl (by decide) (fun v3_295 => [(3, .int v3_295), (0, .ref (ad 0)), (1, .int v1)]) (fun _ => rfl) h (fun v3_295 h => ?_)
  refine x_goto C dX12_laysEdges_298 208 rfl ?_
  exact x_sub [1, 2, 0] rfl (hk208 _ _ _ h)
theorem b_X12_laysEdges_208 (C : XC p l s m args meth c cX12_laysEdges 4 none RX12 D vwCl (tysM ca) (EM ad ca) NCM ad) {N : Nat} {o : AH} : ∀ (n : Nat) {ah : AH} {v1 : Int32} {v3 : Int32}, F_X12_laysEdges_208 N n ah v1 v3 = some o → XW p l e rm_X12_laysEdges s m args below meth c 4 0 (xQv below args s D vwCl (tysM ca) (EM ad ca) NCM ad o) D vwCl (EM ad ca) NCM ad ah 208 [(0, .ref (ad 0)), (1, .int v1), (3, .int v3)] [] := by
  intro n
  induction n with
  | zero => intro ah v1 v3 h; unfold F_X12_laysEdges_208 at h; cases h
  | succ n ih =>
    intro ah v1 v3 h
    unfold F_X12_laysEdges_208 at h
    refine x_iload_n C dX12_laysEdges_208 209 rfl 2 rfl ?_
    refine x_aload_n C dX12_laysEdges_209 210 rfl 0 rfl ?_
    refine x_get C inX12 0 lm0 EM_0 rfl 21 (by decide) dX12_laysEdges_210 213 rfl wmf_X12_55 rfl ?_
    refine x_iconst C dX12_laysEdges_213 214 rfl 0 rfl ?_
    refine x_ialdK C 13 lm13 EM_13 0 rfl dX12_laysEdges_214 215 rfl (by decide) 0 (by decide) ?_
    refine x_icmp_ge C dX12_laysEdges_215 218 rfl 301 rfl h (fun h => ?_) (fun h => ?_)
    · exact x_vret C rfl dX12_laysEdges_301 h
    · refine x_aload_n C dX12_laysEdges_218 219 rfl 0 rfl ?_
      refine x_iload_n C dX12_laysEdges_219 220 rfl 2 rfl ?_
      refine x_iload_n C dX12_laysEdges_220 221 rfl 1 rfl ?_
      obtain ⟨r221, a221, hq, h⟩ := xb_some h
      refine x_callVi C 0 (c_X12_isShapeAt C.2.2.2.2.2.2.1 hq) lm0 EM_0 rfl wml_X12_320 wq_X12_isShapeAt rfl ⟨by decide, by decide⟩ rfl rfl ⟨by decide, by decide⟩ dX12_laysEdges_221 224 rfl rfl (Nat.le_of_ble_eq_true rfl) ?_
      refine x_if_eq C dX12_laysEdges_224 227 rfl 295 rfl h (fun h => ?_) (fun h => ?_)
      · exact b_X12_laysEdges_295 C (fun _ _ _ h => ih h) h
      · refine x_aload_n C dX12_laysEdges_227 228 rfl 0 rfl ?_
        refine x_iload_n C dX12_laysEdges_228 229 rfl 1 rfl ?_
        refine x_iload_n C dX12_laysEdges_229 230 rfl 1 rfl ?_
        refine x_aload_n C dX12_laysEdges_230 231 rfl 0 rfl ?_
        refine x_get C inX12 0 lm0 EM_0 rfl 23 (by decide) dX12_laysEdges_231 234 rfl wmf_X12_63 rfl ?_
        refine x_iconst C dX12_laysEdges_234 235 rfl 0 rfl ?_
        refine x_aaldK C (15) lm15 EM_15 3 rfl rfl (by decide) 0 (by decide) dX12_laysEdges_235 236 rfl (155 + 0) rfl ?_
        refine x_iload_n C dX12_laysEdges_236 237 rfl 2 rfl ?_
        refine x_aaldL C (155 + 0) (lm_shape_1 (show 0 < 2 by decide)) (EM_shape_1 (show 0 < 2 by decide)) 2 rfl rfl dX12_laysEdges_237 238 rfl (157 + (0 * 20 + Int32.toNatClampNeg v3)) rfl h (fun x237 ex237 hb237 h => ?_)
        have hx237 : mI x237 3 := ex237 ▸ mI_shape (xfl (show 0 < 2 by decide) hb237)
        refine x_iconst C dX12_laysEdges_238 239 rfl 1 rfl ?_
        refine x_ialdK C x237 hx237.1 (hx237.2 _ _ _) 0 rfl dX12_laysEdges_239 240 rfl (by decide) 1 (by decide) ?_
        refine x_iadd C dX12_laysEdges_240 241 rfl ?_
        refine x_aload_n C dX12_laysEdges_241 242 rfl 0 rfl ?_
        refine x_get C inX12 0 lm0 EM_0 rfl 23 (by decide) dX12_laysEdges_242 245 rfl wmf_X12_63 rfl ?_
        refine x_iconst C dX12_laysEdges_245 246 rfl 0 rfl ?_
        refine x_aaldK C (15) lm15 EM_15 3 rfl rfl (by decide) 0 (by decide) dX12_laysEdges_246 247 rfl (155 + 0) rfl ?_
        refine x_iload_n C dX12_laysEdges_247 248 rfl 2 rfl ?_
        refine x_aaldL C (155 + 0) (lm_shape_1 (show 0 < 2 by decide)) (EM_shape_1 (show 0 < 2 by decide)) 2 rfl rfl dX12_laysEdges_248 249 rfl (157 + (0 * 20 + Int32.toNatClampNeg v3)) rfl h (fun x248 ex248 hb248 h => ?_)
        have hx248 : mI x248 3 := ex248 ▸ mI_shape (xfl (show 0 < 2 by decide) hb248)
        refine x_iconst C dX12_laysEdges_249 250 rfl 0 rfl ?_
        refine x_ialdK C x248 hx248.1 (hx248.2 _ _ _) 0 rfl dX12_laysEdges_250 251 rfl (by decide) 0 (by decide) ?_
        refine x_aload_n C dX12_laysEdges_251 252 rfl 0 rfl ?_
        refine x_get C inX12 0 lm0 EM_0 rfl 23 (by decide) dX12_laysEdges_252 255 rfl wmf_X12_63 rfl ?_
        refine x_iconst C dX12_laysEdges_255 256 rfl 0 rfl ?_
        refine x_aaldK C (15) lm15 EM_15 3 rfl rfl (by decide) 0 (by decide) dX12_laysEdges_256 257 rfl (155 + 0) rfl ?_
        refine x_iload_n C dX12_laysEdges_257 258 rfl 2 rfl ?_
        refine x_aaldL C (155 + 0) (lm_shape_1 (show 0 < 2 by decide)) (EM_shape_1 (show 0 < 2 by decide)) 2 rfl rfl dX12_laysEdges_258 259 rfl (157 + (0 * 20 + Int32.toNatClampNeg v3)) rfl h (fun x258 ex258 hb258 h => ?_)
        have hx258 : mI x258 3 := ex258 ▸ mI_shape (xfl (show 0 < 2 by decide) hb258)
        refine x_iconst C dX12_laysEdges_259 260 rfl 2 rfl ?_
        refine x_ialdK C x258 hx258.1 (hx258.2 _ _ _) 0 rfl dX12_laysEdges_260 261 rfl (by decide) 2 (by decide) ?_
        refine x_aload_n C dX12_laysEdges_261 262 rfl 0 rfl ?_
        refine x_get C inX12 0 lm0 EM_0 rfl 22 (by decide) dX12_laysEdges_262 265 rfl wmf_X12_60 rfl ?_
        refine x_iconst C dX12_laysEdges_265 266 rfl 0 rfl ?_
        refine x_aaldK C (14) lm14 EM_14 3 rfl rfl (by decide) 0 (by decide) dX12_laysEdges_266 267 rfl (113 + 0) rfl ?_
        refine x_iload_n C dX12_laysEdges_267 268 rfl 2 rfl ?_
        refine x_aaldL C (113 + 0) (lm_part_1 (show 0 < 2 by decide)) (EM_part_1 (show 0 < 2 by decide)) 2 rfl rfl dX12_laysEdges_268 269 rfl (115 + (0 * 20 + Int32.toNatClampNeg v3)) rfl h (fun x268 ex268 hb268 h => ?_)
        have hx268 : mI x268 6 := ex268 ▸ mI_part (xfl (show 0 < 2 by decide) hb268)
        refine x_iconst C dX12_laysEdges_269 270 rfl 3 rfl ?_
        refine x_ialdK C x268 hx268.1 (hx268.2 _ _ _) 0 rfl dX12_laysEdges_270 271 rfl (by decide) 3 (by decide) ?_
        refine x_aload_n C dX12_laysEdges_271 272 rfl 0 rfl ?_
        refine x_get C inX12 0 lm0 EM_0 rfl 22 (by decide) dX12_laysEdges_272 275 rfl wmf_X12_60 rfl ?_
        refine x_iconst C dX12_laysEdges_275 276 rfl 0 rfl ?_
        refine x_aaldK C (14) lm14 EM_14 3 rfl rfl (by decide) 0 (by decide) dX12_laysEdges_276 277 rfl (113 + 0) rfl ?_
        refine x_iload_n C dX12_laysEdges_277 278 rfl 2 rfl ?_
        refine x_aaldL C (113 + 0) (lm_part_1 (show 0 < 2 by decide)) (EM_part_1 (show 0 < 2 by decide)) 2 rfl rfl dX12_laysEdges_278 279 rfl (115 + (0 * 20 + Int32.toNatClampNeg v3)) rfl h (fun x278 ex278 hb278 h => ?_)
        have hx278 : mI x278 6 := ex278 ▸ mI_part (xfl (show 0 < 2 by decide) hb278)
        refine x_iconst C dX12_laysEdges_279 280 rfl 4 rfl ?_
        refine x_ialdK C x278 hx278.1 (hx278.2 _ _ _) 0 rfl dX12_laysEdges_280 281 rfl (by decide) 4 (by decide) ?_
        refine x_aload_n C dX12_laysEdges_281 282 rfl 0 rfl ?_
        refine x_get C inX12 0 lm0 EM_0 rfl 22 (by decide) dX12_laysEdges_282 285 rfl wmf_X12_60 rfl ?_
        refine x_iconst C dX12_laysEdges_285 286 rfl 0 rfl ?_
        refine x_aaldK C (14) lm14 EM_14 3 rfl rfl (by decide) 0 (by decide) dX12_laysEdges_286 287 rfl (113 + 0) rfl ?_
        refine x_iload_n C dX12_laysEdges_287 288 rfl 2 rfl ?_
        refine x_aaldL C (113 + 0) (lm_part_1 (show 0 < 2 by decide)) (EM_part_1 (show 0 < 2 by decide)) 2 rfl rfl dX12_laysEdges_288 289 rfl (115 + (0 * 20 + Int32.toNatClampNeg v3)) rfl h (fun x288 ex288 hb288 h => ?_)
        have hx288 : mI x288 6 := ex288 ▸ mI_part (xfl (show 0 < 2 by decide) hb288)
        refine x_iconst C dX12_laysEdges_289 290 rfl 5 rfl ?_
        refine x_ialdK C x288 hx288.1 (hx288.2 _ _ _) 0 rfl dX12_laysEdges_290 291 rfl (by decide) 5 (by decide) ?_
        refine x_iload_n C dX12_laysEdges_291 292 rfl 2 rfl ?_
        obtain ⟨a292, hq, h⟩ := xbv_some h
        refine x_callVv C 0 (c_X12_edge C.2.2.2.2.2.2.1 hq) lm0 EM_0 rfl wml_X12_317 wq_X12_edge rfl ⟨by decide, by decide⟩ rfl rfl ⟨by decide, by decide⟩ dX12_laysEdges_292 295 rfl rfl (Nat.le_of_ble_eq_true rfl) ?_
        exact b_X12_laysEdges_295 C (fun _ _ _ h => ih h) h
theorem b_X12_laysEdges_206 (C : XC p l s m args meth c cX12_laysEdges 4 none RX12 D vwCl (tysM ca) (EM ad ca) NCM ad) {N : Nat} {o : AH} {ah : AH} {v1 : Int32} (h : F_X12_laysEdges_206 N ah v1 = some o) : XW p l e rm_X12_laysEdges s m args below meth c 4 0 (xQv below args s D vwCl (tysM ca) (EM ad ca) NCM ad o) D vwCl (EM ad ca) NCM ad ah 206 [(0, .ref (ad 0)), (1, .int v1)] [] := by
  unfold F_X12_laysEdges_206 at h
  refine x_iconst C dX12_laysEdges_206 207 rfl 0 rfl ?_
  refine x_istore_n C dX12_laysEdges_207 208 rfl (by decide) (fun v3_207 => [(3, .int v3_207), (0, .ref (ad 0)), (1, .int v1)]) (fun _ => rfl) h (fun v3_207 h => ?_)
  exact x_sub [1, 2, 0] rfl (b_X12_laysEdges_208 C  N h)
theorem b_X12_laysEdges_164 (C : XC p l s m args meth c cX12_laysEdges 4 none RX12 D vwCl (tysM ca) (EM ad ca) NCM ad) {N : Nat} {o : AH} {ah : AH} {v1 : Int32} {x2 : Nat} (hx2 : mI x2 8) (h : F_X12_laysEdges_164 N ah v1 x2 = some o) : XW p l e rm_X12_laysEdges s m args below meth c 4 0 (xQv below args s D vwCl (tysM ca) (EM ad ca) NCM ad o) D vwCl (EM ad ca) NCM ad ah 164 [(0, .ref (ad 0)), (1, .int v1), (2, .ref (ad x2))] [] := by
  unfold F_X12_laysEdges_164 at h
  refine x_aload_n C dX12_laysEdges_164 165 rfl 2 rfl ?_
  refine x_iconst C dX12_laysEdges_165 166 rfl 0 rfl ?_
  refine x_ialdK C x2 hx2.1 (hx2.2 _ _ _) 0 rfl dX12_laysEdges_166 167 rfl (by decide) 0 (by decide) ?_
  refine x_bipush C dX12_laysEdges_167 169 rfl 10 rfl ?_
  refine x_icmp_ne C dX12_laysEdges_169 172 rfl 206 rfl h (fun h => ?_) (fun h => ?_)
  · exact x_sub [0, 1] rfl (b_X12_laysEdges_206 C  h)
  · refine x_aload_n C dX12_laysEdges_172 173 rfl 0 rfl ?_
    refine x_iload_n C dX12_laysEdges_173 174 rfl 1 rfl ?_
    refine x_iload_n C dX12_laysEdges_174 175 rfl 1 rfl ?_
    refine x_iconst C dX12_laysEdges_175 176 rfl 1 rfl ?_
    refine x_iadd C dX12_laysEdges_176 177 rfl ?_
    refine x_iconst C dX12_laysEdges_177 178 rfl 0 rfl ?_
    refine x_iconst C dX12_laysEdges_178 179 rfl 0 rfl ?_
    refine x_iconst C dX12_laysEdges_179 180 rfl 0 rfl ?_
    refine x_iconst C dX12_laysEdges_180 181 rfl 0 rfl ?_
    refine x_iconst C dX12_laysEdges_181 182 rfl 0 rfl ?_
    refine x_iconst C dX12_laysEdges_182 183 rfl (-1) rfl ?_
    obtain ⟨a183, hq, h⟩ := xbv_some h
    refine x_callVv C 0 (c_X12_edge C.2.2.2.2.2.2.1 hq) lm0 EM_0 rfl wml_X12_317 wq_X12_edge rfl ⟨by decide, by decide⟩ rfl rfl ⟨by decide, by decide⟩ dX12_laysEdges_183 186 rfl rfl (Nat.le_of_ble_eq_true rfl) ?_
    refine x_aload_n C dX12_laysEdges_186 187 rfl 0 rfl ?_
    refine x_iload_n C dX12_laysEdges_187 188 rfl 1 rfl ?_
    refine x_iload_n C dX12_laysEdges_188 189 rfl 1 rfl ?_
    refine x_iconst C dX12_laysEdges_189 190 rfl 1 rfl ?_
    refine x_iadd C dX12_laysEdges_190 191 rfl ?_
    refine x_aload_n C dX12_laysEdges_191 192 rfl 0 rfl ?_
    refine x_get C inX12 0 lm0 EM_0 rfl 9 (by decide) dX12_laysEdges_192 195 rfl wmf_X12_20 rfl ?_
    refine x_iconst C dX12_laysEdges_195 196 rfl 4 rfl ?_
    refine x_ialdK C 3 lm3 EM_3 0 rfl dX12_laysEdges_196 197 rfl (by decide) 4 (by decide) ?_
    refine x_iconst C dX12_laysEdges_197 198 rfl 1 rfl ?_
    refine x_bipush C dX12_laysEdges_198 200 rfl 45 rfl ?_
    refine x_iconst C dX12_laysEdges_200 201 rfl 0 rfl ?_
    refine x_iconst C dX12_laysEdges_201 202 rfl 0 rfl ?_
    refine x_iconst C dX12_laysEdges_202 203 rfl (-1) rfl ?_
    obtain ⟨a203, hq, h⟩ := xbv_some h
    refine x_callVv C 0 (c_X12_edge C.2.2.2.2.2.2.1 hq) lm0 EM_0 rfl wml_X12_317 wq_X12_edge rfl ⟨by decide, by decide⟩ rfl rfl ⟨by decide, by decide⟩ dX12_laysEdges_203 206 rfl rfl (Nat.le_of_ble_eq_true rfl) ?_
    exact x_sub [0, 1] rfl (b_X12_laysEdges_206 C  h)
theorem b_X12_laysEdges_122 (C : XC p l s m args meth c cX12_laysEdges 4 none RX12 D vwCl (tysM ca) (EM ad ca) NCM ad) {N : Nat} {o : AH} {ah : AH} {v1 : Int32} {x2 : Nat} (hx2 : mI x2 8) (h : F_X12_laysEdges_122 N ah v1 x2 = some o) : XW p l e rm_X12_laysEdges s m args below meth c 4 0 (xQv below args s D vwCl (tysM ca) (EM ad ca) NCM ad o) D vwCl (EM ad ca) NCM ad ah 122 [(0, .ref (ad 0)), (1, .int v1), (2, .ref (ad x2))] [] := by
  unfold F_X12_laysEdges_122 at h
  refine x_aload_n C dX12_laysEdges_122 123 rfl 2 rfl ?_
  refine x_iconst C dX12_laysEdges_123 124 rfl 0 rfl ?_
  refine x_ialdK C x2 hx2.1 (hx2.2 _ _ _) 0 rfl dX12_laysEdges_124 125 rfl (by decide) 0 (by decide) ?_
  refine x_bipush C dX12_laysEdges_125 127 rfl 45 rfl ?_
  refine x_icmp_ne C dX12_laysEdges_127 130 rfl 164 rfl h (fun h => ?_) (fun h => ?_)
  · exact b_X12_laysEdges_164 C  hx2 h
  · refine x_aload_n C dX12_laysEdges_130 131 rfl 0 rfl ?_
    refine x_iload_n C dX12_laysEdges_131 132 rfl 1 rfl ?_
    refine x_iload_n C dX12_laysEdges_132 133 rfl 1 rfl ?_
    refine x_iconst C dX12_laysEdges_133 134 rfl 1 rfl ?_
    refine x_iadd C dX12_laysEdges_134 135 rfl ?_
    refine x_iconst C dX12_laysEdges_135 136 rfl 0 rfl ?_
    refine x_iconst C dX12_laysEdges_136 137 rfl 1 rfl ?_
    refine x_bipush C dX12_laysEdges_137 139 rfl 45 rfl ?_
    refine x_iconst C dX12_laysEdges_139 140 rfl 0 rfl ?_
    refine x_iconst C dX12_laysEdges_140 141 rfl 0 rfl ?_
    refine x_iconst C dX12_laysEdges_141 142 rfl (-1) rfl ?_
    obtain ⟨a142, hq, h⟩ := xbv_some h
    refine x_callVv C 0 (c_X12_edge C.2.2.2.2.2.2.1 hq) lm0 EM_0 rfl wml_X12_317 wq_X12_edge rfl ⟨by decide, by decide⟩ rfl rfl ⟨by decide, by decide⟩ dX12_laysEdges_142 145 rfl rfl (Nat.le_of_ble_eq_true rfl) ?_
    refine x_aload_n C dX12_laysEdges_145 146 rfl 0 rfl ?_
    refine x_iload_n C dX12_laysEdges_146 147 rfl 1 rfl ?_
    refine x_iload_n C dX12_laysEdges_147 148 rfl 1 rfl ?_
    refine x_iconst C dX12_laysEdges_148 149 rfl 1 rfl ?_
    refine x_iadd C dX12_laysEdges_149 150 rfl ?_
    refine x_aload_n C dX12_laysEdges_150 151 rfl 0 rfl ?_
    refine x_get C inX12 0 lm0 EM_0 rfl 9 (by decide) dX12_laysEdges_151 154 rfl wmf_X12_20 rfl ?_
    refine x_iconst C dX12_laysEdges_154 155 rfl 3 rfl ?_
    refine x_ialdK C 3 lm3 EM_3 0 rfl dX12_laysEdges_155 156 rfl (by decide) 3 (by decide) ?_
    refine x_iconst C dX12_laysEdges_156 157 rfl 0 rfl ?_
    refine x_iconst C dX12_laysEdges_157 158 rfl 0 rfl ?_
    refine x_iconst C dX12_laysEdges_158 159 rfl 0 rfl ?_
    refine x_iconst C dX12_laysEdges_159 160 rfl 0 rfl ?_
    refine x_iconst C dX12_laysEdges_160 161 rfl (-1) rfl ?_
    obtain ⟨a161, hq, h⟩ := xbv_some h
    refine x_callVv C 0 (c_X12_edge C.2.2.2.2.2.2.1 hq) lm0 EM_0 rfl wml_X12_317 wq_X12_edge rfl ⟨by decide, by decide⟩ rfl rfl ⟨by decide, by decide⟩ dX12_laysEdges_161 164 rfl rfl (Nat.le_of_ble_eq_true rfl) ?_
    exact b_X12_laysEdges_164 C  hx2 h
theorem b_X12_laysEdges_83 (C : XC p l s m args meth c cX12_laysEdges 4 none RX12 D vwCl (tysM ca) (EM ad ca) NCM ad) {N : Nat} {o : AH} : ∀ (n : Nat) {ah : AH} {v1 : Int32} {x2 : Nat} {v3 : Int32} (hx2 : mI x2 8), F_X12_laysEdges_83 N n ah v1 x2 v3 = some o → XW p l e rm_X12_laysEdges s m args below meth c 4 0 (xQv below args s D vwCl (tysM ca) (EM ad ca) NCM ad o) D vwCl (EM ad ca) NCM ad ah 83 [(0, .ref (ad 0)), (1, .int v1), (2, .ref (ad x2)), (3, .int v3)] [] := by
  intro n
  induction n with
  | zero => intro ah v1 x2 v3 hx2 h; unfold F_X12_laysEdges_83 at h; cases h
  | succ n ih =>
    intro ah v1 x2 v3 hx2 h
    unfold F_X12_laysEdges_83 at h
    refine x_iload_n C dX12_laysEdges_83 84 rfl 3 rfl ?_
    refine x_bipush C dX12_laysEdges_84 86 rfl 122 rfl ?_
    refine x_icmp_gt C dX12_laysEdges_86 89 rfl 122 rfl h (fun h => ?_) (fun h => ?_)
    · exact x_sub [0, 1, 2] rfl (b_X12_laysEdges_122 C  hx2 h)
    · refine x_aload_n C dX12_laysEdges_89 90 rfl 2 rfl ?_
      refine x_iconst C dX12_laysEdges_90 91 rfl 0 rfl ?_
      refine x_ialdK C x2 hx2.1 (hx2.2 _ _ _) 0 rfl dX12_laysEdges_91 92 rfl (by decide) 0 (by decide) ?_
      refine x_bipush C dX12_laysEdges_92 94 rfl 63 rfl ?_
      refine x_icmp_ne C dX12_laysEdges_94 97 rfl 122 rfl h (fun h => ?_) (fun h => ?_)
      · exact x_sub [0, 1, 2] rfl (b_X12_laysEdges_122 C  hx2 h)
      · refine x_aload_n C dX12_laysEdges_97 98 rfl 0 rfl ?_
        refine x_iload_n C dX12_laysEdges_98 99 rfl 1 rfl ?_
        refine x_iload_n C dX12_laysEdges_99 100 rfl 1 rfl ?_
        refine x_iconst C dX12_laysEdges_100 101 rfl 1 rfl ?_
        refine x_iadd C dX12_laysEdges_101 102 rfl ?_
        refine x_aload_n C dX12_laysEdges_102 103 rfl 0 rfl ?_
        refine x_get C inX12 0 lm0 EM_0 rfl 9 (by decide) dX12_laysEdges_103 106 rfl wmf_X12_20 rfl ?_
        refine x_iconst C dX12_laysEdges_106 107 rfl 2 rfl ?_
        refine x_ialdK C 3 lm3 EM_3 0 rfl dX12_laysEdges_107 108 rfl (by decide) 2 (by decide) ?_
        refine x_iconst C dX12_laysEdges_108 109 rfl 1 rfl ?_
        refine x_iload_n C dX12_laysEdges_109 110 rfl 3 rfl ?_
        refine x_iconst C dX12_laysEdges_110 111 rfl 0 rfl ?_
        refine x_iconst C dX12_laysEdges_111 112 rfl 0 rfl ?_
        refine x_iconst C dX12_laysEdges_112 113 rfl (-1) rfl ?_
        obtain ⟨a113, hq, h⟩ := xbv_some h
        refine x_callVv C 0 (c_X12_edge C.2.2.2.2.2.2.1 hq) lm0 EM_0 rfl wml_X12_317 wq_X12_edge rfl ⟨by decide, by decide⟩ rfl rfl ⟨by decide, by decide⟩ dX12_laysEdges_113 116 rfl rfl (Nat.le_of_ble_eq_true rfl) ?_
        refine x_iinc C dX12_laysEdges_116 119 rfl 3 rfl (d := 1) rfl (by decide) (fun v3_116 => [(3, .int v3_116), (0, .ref (ad 0)), (1, .int v1), (2, .ref (ad x2))]) (fun _ => rfl) h (fun v3_116 h => ?_)
        refine x_goto C dX12_laysEdges_119 83 rfl ?_
        exact x_sub [1, 2, 3, 0] rfl (ih hx2 h)
theorem b_X12_laysEdges_41 (C : XC p l s m args meth c cX12_laysEdges 4 none RX12 D vwCl (tysM ca) (EM ad ca) NCM ad) {N : Nat} {o : AH} : ∀ (n : Nat) {ah : AH} {v1 : Int32} {x2 : Nat} {v3 : Int32} (hx2 : mI x2 8), F_X12_laysEdges_41 N n ah v1 x2 v3 = some o → XW p l e rm_X12_laysEdges s m args below meth c 4 0 (xQv below args s D vwCl (tysM ca) (EM ad ca) NCM ad o) D vwCl (EM ad ca) NCM ad ah 41 [(0, .ref (ad 0)), (1, .int v1), (2, .ref (ad x2)), (3, .int v3)] [] := by
  intro n
  induction n with
  | zero => intro ah v1 x2 v3 hx2 h; unfold F_X12_laysEdges_41 at h; cases h
  | succ n ih =>
    intro ah v1 x2 v3 hx2 h
    unfold F_X12_laysEdges_41 at h
    refine x_iload_n C dX12_laysEdges_41 42 rfl 3 rfl ?_
    refine x_aload_n C dX12_laysEdges_42 43 rfl 2 rfl ?_
    refine x_iconst C dX12_laysEdges_43 44 rfl 1 rfl ?_
    refine x_ialdK C x2 hx2.1 (hx2.2 _ _ _) 0 rfl dX12_laysEdges_44 45 rfl (by decide) 1 (by decide) ?_
    refine x_icmp_ge C dX12_laysEdges_45 48 rfl 80 rfl h (fun h => ?_) (fun h => ?_)
    · refine x_bipush C dX12_laysEdges_80 82 rfl 97 rfl ?_
      refine x_istore_n C dX12_laysEdges_82 83 rfl (by decide) (fun v3_82 => [(3, .int v3_82), (0, .ref (ad 0)), (1, .int v1), (2, .ref (ad x2))]) (fun _ => rfl) h (fun v3_82 h => ?_)
      exact x_sub [1, 2, 3, 0] rfl (b_X12_laysEdges_83 C  N hx2 h)
    · refine x_aload_n C dX12_laysEdges_48 49 rfl 0 rfl ?_
      refine x_iload_n C dX12_laysEdges_49 50 rfl 1 rfl ?_
      refine x_iload_n C dX12_laysEdges_50 51 rfl 1 rfl ?_
      refine x_iconst C dX12_laysEdges_51 52 rfl 1 rfl ?_
      refine x_iadd C dX12_laysEdges_52 53 rfl ?_
      refine x_aload_n C dX12_laysEdges_53 54 rfl 2 rfl ?_
      refine x_iconst C dX12_laysEdges_54 55 rfl 3 rfl ?_
      refine x_iconst C dX12_laysEdges_55 56 rfl 2 rfl ?_
      refine x_iload_n C dX12_laysEdges_56 57 rfl 3 rfl ?_
      refine x_imul C dX12_laysEdges_57 58 rfl ?_
      refine x_iadd C dX12_laysEdges_58 59 rfl ?_
      refine x_iald C x2 hx2.1 (hx2.2 _ _ _) 0 rfl dX12_laysEdges_59 60 rfl h (fun h => ?_)
      refine x_iconst C dX12_laysEdges_60 61 rfl 1 rfl ?_
      refine x_aload_n C dX12_laysEdges_61 62 rfl 2 rfl ?_
      refine x_iconst C dX12_laysEdges_62 63 rfl 2 rfl ?_
      refine x_iconst C dX12_laysEdges_63 64 rfl 2 rfl ?_
      refine x_iload_n C dX12_laysEdges_64 65 rfl 3 rfl ?_
      refine x_imul C dX12_laysEdges_65 66 rfl ?_
      refine x_iadd C dX12_laysEdges_66 67 rfl ?_
      refine x_iald C x2 hx2.1 (hx2.2 _ _ _) 0 rfl dX12_laysEdges_67 68 rfl h (fun h => ?_)
      refine x_iconst C dX12_laysEdges_68 69 rfl 0 rfl ?_
      refine x_iconst C dX12_laysEdges_69 70 rfl 0 rfl ?_
      refine x_iconst C dX12_laysEdges_70 71 rfl (-1) rfl ?_
      obtain ⟨a71, hq, h⟩ := xbv_some h
      refine x_callVv C 0 (c_X12_edge C.2.2.2.2.2.2.1 hq) lm0 EM_0 rfl wml_X12_317 wq_X12_edge rfl ⟨by decide, by decide⟩ rfl rfl ⟨by decide, by decide⟩ dX12_laysEdges_71 74 rfl rfl (Nat.le_of_ble_eq_true rfl) ?_
      refine x_iinc C dX12_laysEdges_74 77 rfl 3 rfl (d := 1) rfl (by decide) (fun v3_74 => [(3, .int v3_74), (0, .ref (ad 0)), (1, .int v1), (2, .ref (ad x2))]) (fun _ => rfl) h (fun v3_74 h => ?_)
      refine x_goto C dX12_laysEdges_77 41 rfl ?_
      exact x_sub [1, 2, 3, 0] rfl (ih hx2 h)
theorem b_X12_laysEdges_39 (C : XC p l s m args meth c cX12_laysEdges 4 none RX12 D vwCl (tysM ca) (EM ad ca) NCM ad) {N : Nat} {o : AH} {ah : AH} {v1 : Int32} {x2 : Nat} (hx2 : mI x2 8) (h : F_X12_laysEdges_39 N ah v1 x2 = some o) : XW p l e rm_X12_laysEdges s m args below meth c 4 0 (xQv below args s D vwCl (tysM ca) (EM ad ca) NCM ad o) D vwCl (EM ad ca) NCM ad ah 39 [(0, .ref (ad 0)), (1, .int v1), (2, .ref (ad x2))] [] := by
  unfold F_X12_laysEdges_39 at h
  refine x_iconst C dX12_laysEdges_39 40 rfl 0 rfl ?_
  refine x_istore_n C dX12_laysEdges_40 41 rfl (by decide) (fun v3_40 => [(3, .int v3_40), (0, .ref (ad 0)), (1, .int v1), (2, .ref (ad x2))]) (fun _ => rfl) h (fun v3_40 h => ?_)
  exact x_sub [1, 2, 3, 0] rfl (b_X12_laysEdges_41 C  N hx2 h)
theorem c_X12_laysEdges {l : Launch} {D : va_G} {ca : Nat → ClassId} {ad : Nat → Nat} (hI : xInj ad NCM) {N : Nat} {ah : AH} {p1 : Int32} {a : AH} (h : F_X12_laysEdges N ah p1 = some a) : xMv l yX12_laysEdges cX12_laysEdges 4 rm_X12_laysEdges D vwCl (tysM ca) (EM ad ca) NCM ad [.ref (ad 0), .int p1] ah a := by
  refine x_metv (by decide) (Nat.le_of_ble_eq_true rfl) hI EM_loc ?_
  intro p e s m args below meth c C
  unfold F_X12_laysEdges at h
  refine x_aload_n C dX12_laysEdges_0 1 rfl 0 rfl ?_
  refine x_get C inX12 0 lm0 EM_0 rfl 34 (by decide) dX12_laysEdges_1 4 rfl wmf_X12_92 rfl ?_
  refine x_iload_n C dX12_laysEdges_4 5 rfl 1 rfl ?_
  refine x_aaldL C (24) lm24 EM_24 2 rfl rfl dX12_laysEdges_5 6 rfl (2327 + (Int32.toNatClampNeg p1)) rfl h (fun x5 ex5 hb5 h => ?_)
  have hx5 : mI x5 8 := ex5 ▸ mI_net hb5
  refine x_astore_n C dX12_laysEdges_6 7 rfl (by decide) [(2, .ref (ad x5)), (0, .ref (ad 0)), (1, .int p1)] rfl ?_
  refine x_aload_n C dX12_laysEdges_7 8 rfl 1 rfl ?_
  refine x_get C inX12 0 lm0 EM_0 rfl 35 (by decide) dX12_laysEdges_8 11 rfl wmf_X12_95 rfl ?_
  refine x_iload_n C dX12_laysEdges_11 12 rfl 2 rfl ?_
  refine x_iconst C dX12_laysEdges_12 13 rfl 0 rfl ?_
  refine x_iast C 25 lm25 (fun _ => EM_25) 0 rfl dX12_laysEdges_13 14 rfl h (fun a13 h => ?_)
  refine x_aload_n C dX12_laysEdges_14 15 rfl 0 rfl ?_
  refine x_iconst C dX12_laysEdges_15 16 rfl 0 rfl ?_
  refine x_ialdK C x5 hx5.1 (hx5.2 _ _ _) 0 rfl dX12_laysEdges_16 17 rfl (by decide) 0 (by decide) ?_
  obtain ⟨r17, a17, hq, h⟩ := xb_some h
  refine x_callSi C (c_X12_isSmall C.2.2.2.2.2.2.1 hq) wml_X12_230 wq_X12_isSmall rfl ⟨by decide, by decide⟩ rfl rfl ⟨by decide, by decide⟩ dX12_laysEdges_17 20 rfl rfl (Nat.le_of_ble_eq_true rfl) ?_
  refine x_if_eq C dX12_laysEdges_20 23 rfl 39 rfl h (fun h => ?_) (fun h => ?_)
  · exact x_sub [1, 2, 0] rfl (b_X12_laysEdges_39 C  hx5 h)
  · refine x_aload_n C dX12_laysEdges_23 24 rfl 1 rfl ?_
    refine x_iload_n C dX12_laysEdges_24 25 rfl 2 rfl ?_
    refine x_iload_n C dX12_laysEdges_25 26 rfl 2 rfl ?_
    refine x_iconst C dX12_laysEdges_26 27 rfl 1 rfl ?_
    refine x_iadd C dX12_laysEdges_27 28 rfl ?_
    refine x_iconst C dX12_laysEdges_28 29 rfl 0 rfl ?_
    refine x_iconst C dX12_laysEdges_29 30 rfl 1 rfl ?_
    refine x_aload_n C dX12_laysEdges_30 31 rfl 0 rfl ?_
    refine x_iconst C dX12_laysEdges_31 32 rfl 0 rfl ?_
    refine x_ialdK C x5 hx5.1 (hx5.2 _ _ _) 0 rfl dX12_laysEdges_32 33 rfl (by decide) 0 (by decide) ?_
    refine x_iconst C dX12_laysEdges_33 34 rfl 0 rfl ?_
    refine x_iconst C dX12_laysEdges_34 35 rfl 0 rfl ?_
    refine x_iconst C dX12_laysEdges_35 36 rfl (-1) rfl ?_
    obtain ⟨a36, hq, h⟩ := xbv_some h
    refine x_callVv C 0 (c_X12_edge C.2.2.2.2.2.2.1 hq) lm0 EM_0 rfl wml_X12_317 wq_X12_edge rfl ⟨by decide, by decide⟩ rfl rfl ⟨by decide, by decide⟩ dX12_laysEdges_36 39 rfl rfl (Nat.le_of_ble_eq_true rfl) ?_
    exact x_sub [1, 2, 0] rfl (b_X12_laysEdges_39 C  hx5 h)
abbrev rm_X12_laysNet : Room := { frames := 2, cells := 0, slots := 0, locals := 52 }
theorem wq_X12_laysNet : xcV RX12 yX12_laysNet cX12_laysNet 3 none 0 := ⟨wmi_X12_laysNet, wms_X12_laysNet, wmn_X12, wmc_X12_laysNet, by decide, by decide, by decide +kernel⟩
def F_X12_laysNet_37 (N : Nat) (k17 : AH → Int32 → Option AH) : Nat → AH → Int32 → Int32 → Option AH
  | 0, _, _, _ => none
  | n + 1, ah, v1, v2 => xg v1 49 (if (ah 25 (Int32.toNatClampNeg v1)) ≤ v2 then xlet (v1 + (-1)) (fun v1_94 => k17 ah v1_94) else xg v1 49 (xg v1 48 (xg v2 60 (xlet (2423 + ((Int32.toNatClampNeg v1) * 60 + Int32.toNatClampNeg v2)) (fun x65 => xg v1 48 (xg v2 60 (xlet (2423 + ((Int32.toNatClampNeg v1) * 60 + Int32.toNatClampNeg v2)) (fun x79 => xg (ah x79 0) 49 (xb (F_X12_less N ah (ah 26 (Int32.toNatClampNeg v1)) ((ah x65 1) + (ah 26 (Int32.toNatClampNeg (ah x79 0))))) (fun r84 a84 => xg v1 49 (xlet (xu a84 26 (Int32.toNatClampNeg v1) r84) (fun a87 => xlet (v2 + 1) (fun v2_88 => F_X12_laysNet_37 N k17 n a87 v1 v2_88)))))))))))))
def F_X12_laysNet_17 (N : Nat) : Nat → AH → Int32 → Option AH
  | 0, _, _ => none
  | n + 1, ah, v1 => if v1 < 0 then some ah else xbv (F_X12_laysEdges N ah v1) (fun a23 => xg v1 49 (xlet (xu a23 26 (Int32.toNatClampNeg v1) 1000000) (fun a34 => xlet 0 (fun v2_36 => F_X12_laysNet_37 N (F_X12_laysNet_17 N n) N a34 v1 v2_36))))
def F_X12_laysNet (N : Nat) (ah : AH) : Option AH := xg (ah 0 33) 49 (xlet (xu ah 26 (Int32.toNatClampNeg (ah 0 33)) 0) (fun a9 => xlet ((a9 0 33) - 1) (fun v1_16 => F_X12_laysNet_17 N N a9 v1_16)))
theorem b_X12_laysNet_37 (C : XC p l s m args meth c cX12_laysNet 3 none RX12 D vwCl (tysM ca) (EM ad ca) NCM ad) {N : Nat} {o : AH} {k17 : AH → Int32 → Option AH} (hk17 : ∀ (ah : AH) (v1 : Int32), k17 ah v1 = some o → XW p l e rm_X12_laysNet s m args below meth c 3 0 (xQv below args s D vwCl (tysM ca) (EM ad ca) NCM ad o) D vwCl (EM ad ca) NCM ad ah 17 [(0, .ref (ad 0)), (1, .int v1)] []) : ∀ (n : Nat) {ah : AH} {v1 : Int32} {v2 : Int32}, F_X12_laysNet_37 N k17 n ah v1 v2 = some o → XW p l e rm_X12_laysNet s m args below meth c 3 0 (xQv below args s D vwCl (tysM ca) (EM ad ca) NCM ad o) D vwCl (EM ad ca) NCM ad ah 37 [(0, .ref (ad 0)), (1, .int v1), (2, .int v2)] [] := by
  intro n
  induction n with
  | zero => intro ah v1 v2 h; unfold F_X12_laysNet_37 at h; cases h
  | succ n ih =>
    intro ah v1 v2 h
    unfold F_X12_laysNet_37 at h
    refine x_iload_n C dX12_laysNet_37 38 rfl 2 rfl ?_
    refine x_aload_n C dX12_laysNet_38 39 rfl 0 rfl ?_
    refine x_get C inX12 0 lm0 EM_0 rfl 35 (by decide) dX12_laysNet_39 42 rfl wmf_X12_95 rfl ?_
    refine x_iload_n C dX12_laysNet_42 43 rfl 1 rfl ?_
    refine x_iald C 25 lm25 EM_25 0 rfl dX12_laysNet_43 44 rfl h (fun h => ?_)
    refine x_icmp_ge C dX12_laysNet_44 47 rfl 94 rfl h (fun h => ?_) (fun h => ?_)
    · refine x_iinc C dX12_laysNet_94 97 rfl 1 rfl (d := (-1)) rfl (by decide) (fun v1_94 => [(1, .int v1_94), (0, .ref (ad 0)), (2, .int v2)]) (fun _ => rfl) h (fun v1_94 h => ?_)
      refine x_goto C dX12_laysNet_97 17 rfl ?_
      exact x_sub [1, 0] rfl (hk17 _ _ h)
    · refine x_aload_n C dX12_laysNet_47 48 rfl 0 rfl ?_
      refine x_get C inX12 0 lm0 EM_0 rfl 36 (by decide) dX12_laysNet_48 51 rfl wmf_X12_98 rfl ?_
      refine x_iload_n C dX12_laysNet_51 52 rfl 1 rfl ?_
      refine x_aload_n C dX12_laysNet_52 53 rfl 0 rfl ?_
      refine x_get C inX12 0 lm0 EM_0 rfl 36 (by decide) dX12_laysNet_53 56 rfl wmf_X12_98 rfl ?_
      refine x_iload_n C dX12_laysNet_56 57 rfl 1 rfl ?_
      refine x_iald C 26 lm26 EM_26 0 rfl dX12_laysNet_57 58 rfl h (fun h => ?_)
      refine x_aload_n C dX12_laysNet_58 59 rfl 0 rfl ?_
      refine x_get C inX12 0 lm0 EM_0 rfl 37 (by decide) dX12_laysNet_59 62 rfl wmf_X12_101 rfl ?_
      refine x_iload_n C dX12_laysNet_62 63 rfl 1 rfl ?_
      refine x_aald C (27) lm27 EM_27 3 rfl rfl dX12_laysNet_63 64 rfl (2375 + (Int32.toNatClampNeg v1)) rfl h (fun hb63 h => ?_)
      refine x_iload_n C dX12_laysNet_64 65 rfl 2 rfl ?_
      refine x_aaldL C (2375 + (Int32.toNatClampNeg v1)) (lm_edge_1 hb63) (EM_edge_1 hb63) 2 rfl rfl dX12_laysNet_65 66 rfl (2423 + ((Int32.toNatClampNeg v1) * 60 + Int32.toNatClampNeg v2)) rfl h (fun x65 ex65 hb65 h => ?_)
      have hx65 : mI x65 7 := ex65 ▸ mI_edge (xfl hb63 hb65)
      refine x_iconst C dX12_laysNet_66 67 rfl 1 rfl ?_
      refine x_ialdK C x65 hx65.1 (hx65.2 _ _ _) 0 rfl dX12_laysNet_67 68 rfl (by decide) 1 (by decide) ?_
      refine x_aload_n C dX12_laysNet_68 69 rfl 0 rfl ?_
      refine x_get C inX12 0 lm0 EM_0 rfl 36 (by decide) dX12_laysNet_69 72 rfl wmf_X12_98 rfl ?_
      refine x_aload_n C dX12_laysNet_72 73 rfl 0 rfl ?_
      refine x_get C inX12 0 lm0 EM_0 rfl 37 (by decide) dX12_laysNet_73 76 rfl wmf_X12_101 rfl ?_
      refine x_iload_n C dX12_laysNet_76 77 rfl 1 rfl ?_
      refine x_aald C (27) lm27 EM_27 3 rfl rfl dX12_laysNet_77 78 rfl (2375 + (Int32.toNatClampNeg v1)) rfl h (fun hb77 h => ?_)
      refine x_iload_n C dX12_laysNet_78 79 rfl 2 rfl ?_
      refine x_aaldL C (2375 + (Int32.toNatClampNeg v1)) (lm_edge_1 hb77) (EM_edge_1 hb77) 2 rfl rfl dX12_laysNet_79 80 rfl (2423 + ((Int32.toNatClampNeg v1) * 60 + Int32.toNatClampNeg v2)) rfl h (fun x79 ex79 hb79 h => ?_)
      have hx79 : mI x79 7 := ex79 ▸ mI_edge (xfl hb77 hb79)
      refine x_iconst C dX12_laysNet_80 81 rfl 0 rfl ?_
      refine x_ialdK C x79 hx79.1 (hx79.2 _ _ _) 0 rfl dX12_laysNet_81 82 rfl (by decide) 0 (by decide) ?_
      refine x_iald C 26 lm26 EM_26 0 rfl dX12_laysNet_82 83 rfl h (fun h => ?_)
      refine x_iadd C dX12_laysNet_83 84 rfl ?_
      obtain ⟨r84, a84, hq, h⟩ := xb_some h
      refine x_callSi C (c_X12_less C.2.2.2.2.2.2.1 hq) wml_X12_219 wq_X12_less rfl ⟨by decide, by decide⟩ rfl rfl ⟨by decide, by decide⟩ dX12_laysNet_84 87 rfl rfl (Nat.le_of_ble_eq_true rfl) ?_
      refine x_iast C 26 lm26 (fun _ => EM_26) 0 rfl dX12_laysNet_87 88 rfl h (fun a87 h => ?_)
      refine x_iinc C dX12_laysNet_88 91 rfl 2 rfl (d := 1) rfl (by decide) (fun v2_88 => [(2, .int v2_88), (0, .ref (ad 0)), (1, .int v1)]) (fun _ => rfl) h (fun v2_88 h => ?_)
      refine x_goto C dX12_laysNet_91 37 rfl ?_
      exact x_sub [1, 2, 0] rfl (ih h)
theorem b_X12_laysNet_17 (C : XC p l s m args meth c cX12_laysNet 3 none RX12 D vwCl (tysM ca) (EM ad ca) NCM ad) {N : Nat} {o : AH} : ∀ (n : Nat) {ah : AH} {v1 : Int32}, F_X12_laysNet_17 N n ah v1 = some o → XW p l e rm_X12_laysNet s m args below meth c 3 0 (xQv below args s D vwCl (tysM ca) (EM ad ca) NCM ad o) D vwCl (EM ad ca) NCM ad ah 17 [(0, .ref (ad 0)), (1, .int v1)] [] := by
  intro n
  induction n with
  | zero => intro ah v1 h; unfold F_X12_laysNet_17 at h; cases h
  | succ n ih =>
    intro ah v1 h
    unfold F_X12_laysNet_17 at h
    refine x_iload_n C dX12_laysNet_17 18 rfl 1 rfl ?_
    refine x_if_lt C dX12_laysNet_18 21 rfl 100 rfl h (fun h => ?_) (fun h => ?_)
    · exact x_vret C rfl dX12_laysNet_100 h
    · refine x_aload_n C dX12_laysNet_21 22 rfl 0 rfl ?_
      refine x_iload_n C dX12_laysNet_22 23 rfl 1 rfl ?_
      obtain ⟨a23, hq, h⟩ := xbv_some h
      refine x_callVv C 0 (c_X12_laysEdges C.2.2.2.2.2.2.1 hq) lm0 EM_0 rfl wml_X12_323 wq_X12_laysEdges rfl ⟨by decide, by decide⟩ rfl rfl ⟨by decide, by decide⟩ dX12_laysNet_23 26 rfl rfl (Nat.le_of_ble_eq_true rfl) ?_
      refine x_aload_n C dX12_laysNet_26 27 rfl 0 rfl ?_
      refine x_get C inX12 0 lm0 EM_0 rfl 36 (by decide) dX12_laysNet_27 30 rfl wmf_X12_98 rfl ?_
      refine x_iload_n C dX12_laysNet_30 31 rfl 1 rfl ?_
      refine x_ldcw C dX12_laysNet_31 34 rfl wmk_X12_326 ?_
      refine x_iast C 26 lm26 (fun _ => EM_26) 0 rfl dX12_laysNet_34 35 rfl h (fun a34 h => ?_)
      refine x_iconst C dX12_laysNet_35 36 rfl 0 rfl ?_
      refine x_istore_n C dX12_laysNet_36 37 rfl (by decide) (fun v2_36 => [(2, .int v2_36), (0, .ref (ad 0)), (1, .int v1)]) (fun _ => rfl) h (fun v2_36 h => ?_)
      exact x_sub [1, 2, 0] rfl (b_X12_laysNet_37 C (fun _ _ h => ih h) N h)
theorem c_X12_laysNet {l : Launch} {D : va_G} {ca : Nat → ClassId} {ad : Nat → Nat} (hI : xInj ad NCM) {N : Nat} {ah : AH} {a : AH} (h : F_X12_laysNet N ah = some a) : xMv l yX12_laysNet cX12_laysNet 3 rm_X12_laysNet D vwCl (tysM ca) (EM ad ca) NCM ad [.ref (ad 0)] ah a := by
  refine x_metv (by decide) (Nat.le_of_ble_eq_true rfl) hI EM_loc ?_
  intro p e s m args below meth c C
  unfold F_X12_laysNet at h
  refine x_aload_n C dX12_laysNet_0 1 rfl 0 rfl ?_
  refine x_get C inX12 0 lm0 EM_0 rfl 36 (by decide) dX12_laysNet_1 4 rfl wmf_X12_98 rfl ?_
  refine x_aload_n C dX12_laysNet_4 5 rfl 0 rfl ?_
  refine x_get C inX12 0 lm0 EM_0 rfl 33 (by decide) dX12_laysNet_5 8 rfl wmf_X12_314 rfl ?_
  refine x_iconst C dX12_laysNet_8 9 rfl 0 rfl ?_
  refine x_iast C 26 lm26 (fun _ => EM_26) 0 rfl dX12_laysNet_9 10 rfl h (fun a9 h => ?_)
  refine x_aload_n C dX12_laysNet_10 11 rfl 0 rfl ?_
  refine x_get C inX12 0 lm0 EM_0 rfl 33 (by decide) dX12_laysNet_11 14 rfl wmf_X12_314 rfl ?_
  refine x_iconst C dX12_laysNet_14 15 rfl 1 rfl ?_
  refine x_isub C dX12_laysNet_15 16 rfl ?_
  refine x_istore_n C dX12_laysNet_16 17 rfl (by decide) (fun v1_16 => [(1, .int v1_16), (0, .ref (ad 0))]) (fun _ => rfl) h (fun v1_16 h => ?_)
  exact x_sub [1, 0] rfl (b_X12_laysNet_17 C  N h)
abbrev rm_X12_copiesCell : Room := { frames := 0, cells := 0, slots := 0, locals := 0 }
theorem wq_X12_copiesCell : xcV RX12 yX12_copiesCell cX12_copiesCell 4 none 2 := ⟨wmi_X12_copiesCell, wms_X12_copiesCell, wmn_X12, wmc_X12_copiesCell, by decide, by decide, by decide +kernel⟩
def F_X12_copiesCell_2 (N : Nat) : Nat → AH → Nat → Nat → Int32 → Option AH
  | 0, _, _, _, _ => none
  | n + 1, ah, x1, x2, v3 => if 8 ≤ v3 then some ah else xg v3 8 (xg v3 8 (xlet (xu ah x2 (Int32.toNatClampNeg v3) (ah x1 (Int32.toNatClampNeg v3))) (fun a13 => xlet (v3 + 1) (fun v3_14 => F_X12_copiesCell_2 N n a13 x1 x2 v3_14))))
def F_X12_copiesCell (N : Nat) (ah : AH) (x1 : Nat) (x2 : Nat) : Option AH := xlet 0 (fun v3_1 => F_X12_copiesCell_2 N N ah x1 x2 v3_1)
theorem b_X12_copiesCell_2 (C : XC p l s m args meth c cX12_copiesCell 4 none RX12 D vwCl (tysM ca) (EM ad ca) NCM ad) {N : Nat} {o : AH} : ∀ (n : Nat) {ah : AH} {x1 : Nat} {x2 : Nat} {v3 : Int32} (hx1 : mI x1 8) (hx2 : mI x2 8), F_X12_copiesCell_2 N n ah x1 x2 v3 = some o → XW p l e rm_X12_copiesCell s m args below meth c 4 0 (xQv below args s D vwCl (tysM ca) (EM ad ca) NCM ad o) D vwCl (EM ad ca) NCM ad ah 2 [(1, .ref (ad x1)), (2, .ref (ad x2)), (3, .int v3)] [] := by
  intro n
  induction n with
  | zero => intro ah x1 x2 v3 hx1 hx2 h; unfold F_X12_copiesCell_2 at h; cases h
  | succ n ih =>
    intro ah x1 x2 v3 hx1 hx2 h
    unfold F_X12_copiesCell_2 at h
    refine x_iload_n C dX12_copiesCell_2 3 rfl 2 rfl ?_
    refine x_bipush C dX12_copiesCell_3 5 rfl 8 rfl ?_
    refine x_icmp_ge C dX12_copiesCell_5 8 rfl 20 rfl h (fun h => ?_) (fun h => ?_)
    · exact x_vret C rfl dX12_copiesCell_20 h
    · refine x_aload_n C dX12_copiesCell_8 9 rfl 1 rfl ?_
      refine x_iload_n C dX12_copiesCell_9 10 rfl 2 rfl ?_
      refine x_aload_n C dX12_copiesCell_10 11 rfl 0 rfl ?_
      refine x_iload_n C dX12_copiesCell_11 12 rfl 2 rfl ?_
      refine x_iald C x1 hx1.1 (hx1.2 _ _ _) 0 rfl dX12_copiesCell_12 13 rfl h (fun h => ?_)
      refine x_iast C x2 hx2.1 (hx2.2 _ _) 0 rfl dX12_copiesCell_13 14 rfl h (fun a13 h => ?_)
      refine x_iinc C dX12_copiesCell_14 17 rfl 2 rfl (d := 1) rfl (by decide) (fun v3_14 => [(3, .int v3_14), (1, .ref (ad x1)), (2, .ref (ad x2))]) (fun _ => rfl) h (fun v3_14 h => ?_)
      refine x_goto C dX12_copiesCell_17 2 rfl ?_
      exact x_sub [1, 2, 0] rfl (ih hx1 hx2 h)
theorem c_X12_copiesCell {l : Launch} {D : va_G} {ca : Nat → ClassId} {ad : Nat → Nat} (hI : xInj ad NCM) {N : Nat} {ah : AH} {x1 : Nat} {x2 : Nat} (hx1 : mI x1 8) (hx2 : mI x2 8) {a : AH} (h : F_X12_copiesCell N ah x1 x2 = some a) : xMv l yX12_copiesCell cX12_copiesCell 4 rm_X12_copiesCell D vwCl (tysM ca) (EM ad ca) NCM ad [.ref (ad 0), .ref (ad x1), .ref (ad x2)] ah a := by
  refine x_metv (by decide) (Nat.le_of_ble_eq_true rfl) hI EM_loc ?_
  intro p e s m args below meth c C
  unfold F_X12_copiesCell at h
  refine x_iconst C dX12_copiesCell_0 1 rfl 0 rfl ?_
  refine x_istore_n C dX12_copiesCell_1 2 rfl (by decide) (fun v3_1 => [(3, .int v3_1), (0, .ref (ad 0)), (1, .ref (ad x1)), (2, .ref (ad x2))]) (fun _ => rfl) h (fun v3_1 h => ?_)
  exact x_sub [2, 3, 0] rfl (b_X12_copiesCell_2 C  N hx1 hx2 h)
abbrev rm_X12_laysToken : Room := { frames := 3, cells := 0, slots := 0, locals := 74 }
theorem wq_X12_laysToken : xcV RX12 yX12_laysToken cX12_laysToken 5 none 2 := ⟨wmi_X12_laysToken, wms_X12_laysToken, wmn_X12, wmc_X12_laysToken, by decide, by decide, by decide +kernel⟩
def F_X12_laysToken_25 (N : Nat) (k7 : AH → Int32 → Int32 → Int32 → Option AH) : Nat → AH → Int32 → Int32 → Int32 → Int32 → Option AH
  | 0, _, _, _, _, _ => none
  | n + 1, ah, v1, v2, v3, v4 => xlet (197 + 0) (fun x32 => xg v3 40 (if (ah x32 (Int32.toNatClampNeg v3)) ≤ v4 then xlet (v3 + 1) (fun v3_78 => k7 ah v1 v2 v3_78) else xg v3 40 (xg v4 24 (xlet (285 + ((0 * 40 + Int32.toNatClampNeg v3) * 24 + Int32.toNatClampNeg v4)) (fun x49 => xg (ah 0 33) 48 (xlet (2327 + (Int32.toNatClampNeg (ah 0 33))) (fun x58 => xbv (F_X12_copiesCell N ah x49 x58) (fun a59 => xlet (xu a59 0 33 ((a59 0 33) + 1)) (fun a69 => xlet (v4 + 1) (fun v4_72 => F_X12_laysToken_25 N k7 n a69 v1 v2 v3 v4_72))))))))))
def F_X12_laysToken_19 (N : Nat) (k7 : AH → Int32 → Int32 → Int32 → Option AH) (ah : AH) (v1 : Int32) (v2 : Int32) (v3 : Int32) (s0 : Int32) (s1 : Int32) : Option AH := if s1 < s0 then xbv (F_X12_laysNet N ah) (fun a85 => some a85) else xlet 0 (fun v4_23 => F_X12_laysToken_25 N k7 N ah v1 v2 v3 v4_23)
def F_X12_laysToken_7 (N : Nat) : Nat → AH → Int32 → Int32 → Int32 → Option AH
  | 0, _, _, _, _ => none
  | n + 1, ah, v1, v2, v3 => if v2 = 0 then F_X12_laysToken_19 N (F_X12_laysToken_7 N n) ah v1 v2 v3 v3 v1 else F_X12_laysToken_19 N (F_X12_laysToken_7 N n) ah v1 v2 v3 v3 (v1 + 1)
def F_X12_laysToken (N : Nat) (ah : AH) (p1 : Int32) (p2 : Int32) : Option AH := xlet (xu ah 0 33 0) (fun a2 => xlet p1 (fun v3_6 => F_X12_laysToken_7 N N a2 p1 p2 v3_6))
theorem b_X12_laysToken_25 (C : XC p l s m args meth c cX12_laysToken 5 none RX12 D vwCl (tysM ca) (EM ad ca) NCM ad) {N : Nat} {o : AH} {k7 : AH → Int32 → Int32 → Int32 → Option AH} (hk7 : ∀ (ah : AH) (v1 : Int32) (v2 : Int32) (v3 : Int32), k7 ah v1 v2 v3 = some o → XW p l e rm_X12_laysToken s m args below meth c 5 0 (xQv below args s D vwCl (tysM ca) (EM ad ca) NCM ad o) D vwCl (EM ad ca) NCM ad ah 7 [(0, .ref (ad 0)), (1, .int v1), (2, .int v2), (3, .int v3)] []) : ∀ (n : Nat) {ah : AH} {v1 : Int32} {v2 : Int32} {v3 : Int32} {v4 : Int32}, F_X12_laysToken_25 N k7 n ah v1 v2 v3 v4 = some o → XW p l e rm_X12_laysToken s m args below meth c 5 0 (xQv below args s D vwCl (tysM ca) (EM ad ca) NCM ad o) D vwCl (EM ad ca) NCM ad ah 25 [(0, .ref (ad 0)), (1, .int v1), (2, .int v2), (3, .int v3), (4, .int v4)] [] := by
  intro n
  induction n with
  | zero => intro ah v1 v2 v3 v4 h; unfold F_X12_laysToken_25 at h; cases h
  | succ n ih =>
    intro ah v1 v2 v3 v4 h
    unfold F_X12_laysToken_25 at h
    refine x_iload C dX12_laysToken_25 27 rfl 4 rfl ?_
    refine x_aload_n C dX12_laysToken_27 28 rfl 0 rfl ?_
    refine x_get C inX12 0 lm0 EM_0 rfl 27 (by decide) dX12_laysToken_28 31 rfl wmf_X12_72 rfl ?_
    refine x_iconst C dX12_laysToken_31 32 rfl 0 rfl ?_
    refine x_aaldLK C (18) lm18 EM_18 2 rfl rfl (by decide) 0 (by decide) dX12_laysToken_32 33 rfl (197 + 0) rfl h (fun x32 ex32 h => ?_)
    have hx32 : mI x32 40 := ex32 ▸ mI_cells (show 0 < 2 by decide)
    refine x_iload_n C dX12_laysToken_33 34 rfl 3 rfl ?_
    refine x_iald C x32 hx32.1 (hx32.2 _ _ _) 0 rfl dX12_laysToken_34 35 rfl h (fun h => ?_)
    refine x_icmp_ge C dX12_laysToken_35 38 rfl 78 rfl h (fun h => ?_) (fun h => ?_)
    · refine x_iinc C dX12_laysToken_78 81 rfl 3 rfl (d := 1) rfl (by decide) (fun v3_78 => [(3, .int v3_78), (0, .ref (ad 0)), (1, .int v1), (2, .int v2), (4, .int v4)]) (fun _ => rfl) h (fun v3_78 h => ?_)
      refine x_goto C dX12_laysToken_81 7 rfl ?_
      exact x_sub [1, 2, 3, 0] rfl (hk7 _ _ _ _ h)
    · refine x_aload_n C dX12_laysToken_38 39 rfl 0 rfl ?_
      refine x_aload_n C dX12_laysToken_39 40 rfl 0 rfl ?_
      refine x_get C inX12 0 lm0 EM_0 rfl 30 (by decide) dX12_laysToken_40 43 rfl wmf_X12_83 rfl ?_
      refine x_iconst C dX12_laysToken_43 44 rfl 0 rfl ?_
      refine x_aaldK C (21) lm21 EM_21 4 rfl rfl (by decide) 0 (by decide) dX12_laysToken_44 45 rfl (203 + 0) rfl ?_
      refine x_iload_n C dX12_laysToken_45 46 rfl 3 rfl ?_
      refine x_aald C (203 + 0) (lm_cell_1 (show 0 < 2 by decide)) (EM_cell_1 (show 0 < 2 by decide)) 3 rfl rfl dX12_laysToken_46 47 rfl (205 + (0 * 40 + Int32.toNatClampNeg v3)) rfl h (fun hb46 h => ?_)
      refine x_iload C dX12_laysToken_47 49 rfl 4 rfl ?_
      refine x_aaldL C (205 + (0 * 40 + Int32.toNatClampNeg v3)) (lm_cell_2 (xfl (show 0 < 2 by decide) hb46)) (EM_cell_2 (xfl (show 0 < 2 by decide) hb46)) 2 rfl rfl dX12_laysToken_49 50 rfl (285 + ((0 * 40 + Int32.toNatClampNeg v3) * 24 + Int32.toNatClampNeg v4)) rfl h (fun x49 ex49 hb49 h => ?_)
      have hx49 : mI x49 8 := ex49 ▸ mI_cell (xfl (xfl (show 0 < 2 by decide) hb46) hb49)
      refine x_aload_n C dX12_laysToken_50 51 rfl 0 rfl ?_
      refine x_get C inX12 0 lm0 EM_0 rfl 34 (by decide) dX12_laysToken_51 54 rfl wmf_X12_92 rfl ?_
      refine x_aload_n C dX12_laysToken_54 55 rfl 0 rfl ?_
      refine x_get C inX12 0 lm0 EM_0 rfl 33 (by decide) dX12_laysToken_55 58 rfl wmf_X12_314 rfl ?_
      refine x_aaldL C (24) lm24 EM_24 2 rfl rfl dX12_laysToken_58 59 rfl (2327 + (Int32.toNatClampNeg (ah 0 33))) rfl h (fun x58 ex58 hb58 h => ?_)
      have hx58 : mI x58 8 := ex58 ▸ mI_net hb58
      obtain ⟨a59, hq, h⟩ := xbv_some h
      refine x_callVv C 0 (c_X12_copiesCell C.2.2.2.2.2.2.1 hx49 hx58 hq) lm0 EM_0 rfl wml_X12_327 wq_X12_copiesCell rfl ⟨by decide, by decide⟩ rfl rfl ⟨by decide, by decide⟩ dX12_laysToken_59 62 rfl rfl (Nat.le_of_ble_eq_true rfl) ?_
      refine x_aload_n C dX12_laysToken_62 63 rfl 0 rfl ?_
      refine x_dup C dX12_laysToken_63 64 rfl rfl ?_
      refine x_get C inX12 0 lm0 EM_0 rfl 33 (by decide) dX12_laysToken_64 67 rfl wmf_X12_314 rfl ?_
      refine x_iconst C dX12_laysToken_67 68 rfl 1 rfl ?_
      refine x_iadd C dX12_laysToken_68 69 rfl ?_
      refine x_put C inX12 0 lm0 EM_0 rfl 33 (by decide) tyX12_ok nmX12 dX12_laysToken_69 72 rfl wmf_X12_314 rfl rfl rfl (Nat.le_of_ble_eq_true rfl) EQ_0_33 h (fun a69 h => ?_)
      refine x_iinc C dX12_laysToken_72 75 rfl 4 rfl (d := 1) rfl (by decide) (fun v4_72 => [(4, .int v4_72), (0, .ref (ad 0)), (1, .int v1), (2, .int v2), (3, .int v3)]) (fun _ => rfl) h (fun v4_72 h => ?_)
      refine x_goto C dX12_laysToken_75 25 rfl ?_
      exact x_sub [1, 2, 3, 4, 0] rfl (ih h)
theorem b_X12_laysToken_19 (C : XC p l s m args meth c cX12_laysToken 5 none RX12 D vwCl (tysM ca) (EM ad ca) NCM ad) {N : Nat} {o : AH} {k7 : AH → Int32 → Int32 → Int32 → Option AH} (hk7 : ∀ (ah : AH) (v1 : Int32) (v2 : Int32) (v3 : Int32), k7 ah v1 v2 v3 = some o → XW p l e rm_X12_laysToken s m args below meth c 5 0 (xQv below args s D vwCl (tysM ca) (EM ad ca) NCM ad o) D vwCl (EM ad ca) NCM ad ah 7 [(0, .ref (ad 0)), (1, .int v1), (2, .int v2), (3, .int v3)] []) {ah : AH} {v1 : Int32} {v2 : Int32} {v3 : Int32} {s0 : Int32} {s1 : Int32} (h : F_X12_laysToken_19 N k7 ah v1 v2 v3 s0 s1 = some o) : XW p l e rm_X12_laysToken s m args below meth c 5 0 (xQv below args s D vwCl (tysM ca) (EM ad ca) NCM ad o) D vwCl (EM ad ca) NCM ad ah 19 [(0, .ref (ad 0)), (1, .int v1), (2, .int v2), (3, .int v3)] [.int s1, .int s0] := by
  unfold F_X12_laysToken_19 at h
  refine x_icmp_gt C dX12_laysToken_19 22 rfl 84 rfl h (fun h => ?_) (fun h => ?_)
  · refine x_aload_n C dX12_laysToken_84 85 rfl 0 rfl ?_
    obtain ⟨a85, hq, h⟩ := xbv_some h
    refine x_callVv C 0 (c_X12_laysNet C.2.2.2.2.2.2.1 hq) lm0 EM_0 rfl wml_X12_331 wq_X12_laysNet rfl ⟨by decide, by decide⟩ rfl rfl ⟨by decide, by decide⟩ dX12_laysToken_85 88 rfl rfl (Nat.le_of_ble_eq_true rfl) ?_
    exact x_vret C rfl dX12_laysToken_88 h
  · refine x_iconst C dX12_laysToken_22 23 rfl 0 rfl ?_
    refine x_istore C dX12_laysToken_23 25 rfl (by decide) (fun v4_23 => [(4, .int v4_23), (0, .ref (ad 0)), (1, .int v1), (2, .int v2), (3, .int v3)]) (fun _ => rfl) h (fun v4_23 h => ?_)
    exact x_sub [1, 2, 3, 4, 0] rfl (b_X12_laysToken_25 C hk7 N h)
theorem b_X12_laysToken_7 (C : XC p l s m args meth c cX12_laysToken 5 none RX12 D vwCl (tysM ca) (EM ad ca) NCM ad) {N : Nat} {o : AH} : ∀ (n : Nat) {ah : AH} {v1 : Int32} {v2 : Int32} {v3 : Int32}, F_X12_laysToken_7 N n ah v1 v2 v3 = some o → XW p l e rm_X12_laysToken s m args below meth c 5 0 (xQv below args s D vwCl (tysM ca) (EM ad ca) NCM ad o) D vwCl (EM ad ca) NCM ad ah 7 [(0, .ref (ad 0)), (1, .int v1), (2, .int v2), (3, .int v3)] [] := by
  intro n
  induction n with
  | zero => intro ah v1 v2 v3 h; unfold F_X12_laysToken_7 at h; cases h
  | succ n ih =>
    intro ah v1 v2 v3 h
    unfold F_X12_laysToken_7 at h
    refine x_iload_n C dX12_laysToken_7 8 rfl 3 rfl ?_
    refine x_iload_n C dX12_laysToken_8 9 rfl 2 rfl ?_
    refine x_if_eq C dX12_laysToken_9 12 rfl 18 rfl h (fun h => ?_) (fun h => ?_)
    · refine x_iload_n C dX12_laysToken_18 19 rfl 1 rfl ?_
      exact b_X12_laysToken_19 C (fun _ _ _ _ h => ih h) h
    · refine x_iload_n C dX12_laysToken_12 13 rfl 1 rfl ?_
      refine x_iconst C dX12_laysToken_13 14 rfl 1 rfl ?_
      refine x_iadd C dX12_laysToken_14 15 rfl ?_
      refine x_goto C dX12_laysToken_15 19 rfl ?_
      exact b_X12_laysToken_19 C (fun _ _ _ _ h => ih h) h
theorem c_X12_laysToken {l : Launch} {D : va_G} {ca : Nat → ClassId} {ad : Nat → Nat} (hI : xInj ad NCM) {N : Nat} {ah : AH} {p1 : Int32} {p2 : Int32} {a : AH} (h : F_X12_laysToken N ah p1 p2 = some a) : xMv l yX12_laysToken cX12_laysToken 5 rm_X12_laysToken D vwCl (tysM ca) (EM ad ca) NCM ad [.ref (ad 0), .int p1, .int p2] ah a := by
  refine x_metv (by decide) (Nat.le_of_ble_eq_true rfl) hI EM_loc ?_
  intro p e s m args below meth c C
  unfold F_X12_laysToken at h
  refine x_aload_n C dX12_laysToken_0 1 rfl 0 rfl ?_
  refine x_iconst C dX12_laysToken_1 2 rfl 0 rfl ?_
  refine x_put C inX12 0 lm0 EM_0 rfl 33 (by decide) tyX12_ok nmX12 dX12_laysToken_2 5 rfl wmf_X12_314 rfl rfl rfl (Nat.le_of_ble_eq_true rfl) EQ_0_33 h (fun a2 h => ?_)
  refine x_iload_n C dX12_laysToken_5 6 rfl 1 rfl ?_
  refine x_istore_n C dX12_laysToken_6 7 rfl (by decide) (fun v3_6 => [(3, .int v3_6), (0, .ref (ad 0)), (1, .int p1), (2, .int p2)]) (fun _ => rfl) h (fun v3_6 h => ?_)
  exact x_sub [1, 2, 3, 0] rfl (b_X12_laysToken_7 C  N h)
abbrev rm_X12_laysWord : Room := { frames := 3, cells := 0, slots := 0, locals := 74 }
theorem wq_X12_laysWord : xcV RX12 yX12_laysWord cX12_laysWord 3 none 1 := ⟨wmi_X12_laysWord, wms_X12_laysWord, wmn_X12, wmc_X12_laysWord, by decide, by decide, by decide +kernel⟩
def F_X12_laysWord_12 (N : Nat) : Nat → AH → Int32 → Int32 → Option AH
  | 0, _, _, _ => none
  | n + 1, ah, v1, v2 => if (ah 0 33) ≤ v2 then xbv (F_X12_laysNet N ah) (fun a52 => some a52) else xg v2 48 (xlet (2327 + (Int32.toNatClampNeg v2)) (fun x25 => xg v1 61 (xlet (52 + (Int32.toNatClampNeg v1)) (fun x32 => xg v2 12 (xlet (xu ah x25 0 (ah x32 (Int32.toNatClampNeg v2))) (fun a35 => xg v2 48 (xlet (2327 + (Int32.toNatClampNeg v2)) (fun x41 => xlet (xu a35 x41 1 0) (fun a44 => xlet (v2 + 1) (fun v2_45 => F_X12_laysWord_12 N n a44 v1 v2_45))))))))))
def F_X12_laysWord (N : Nat) (ah : AH) (p1 : Int32) : Option AH := xg p1 61 (xlet (xu ah 0 33 (ah 5 (Int32.toNatClampNeg p1))) (fun a7 => xlet 0 (fun v2_11 => F_X12_laysWord_12 N N a7 p1 v2_11)))
theorem b_X12_laysWord_12 (C : XC p l s m args meth c cX12_laysWord 3 none RX12 D vwCl (tysM ca) (EM ad ca) NCM ad) {N : Nat} {o : AH} : ∀ (n : Nat) {ah : AH} {v1 : Int32} {v2 : Int32}, F_X12_laysWord_12 N n ah v1 v2 = some o → XW p l e rm_X12_laysWord s m args below meth c 3 0 (xQv below args s D vwCl (tysM ca) (EM ad ca) NCM ad o) D vwCl (EM ad ca) NCM ad ah 12 [(0, .ref (ad 0)), (1, .int v1), (2, .int v2)] [] := by
  intro n
  induction n with
  | zero => intro ah v1 v2 h; unfold F_X12_laysWord_12 at h; cases h
  | succ n ih =>
    intro ah v1 v2 h
    unfold F_X12_laysWord_12 at h
    refine x_iload_n C dX12_laysWord_12 13 rfl 2 rfl ?_
    refine x_aload_n C dX12_laysWord_13 14 rfl 0 rfl ?_
    refine x_get C inX12 0 lm0 EM_0 rfl 33 (by decide) dX12_laysWord_14 17 rfl wmf_X12_314 rfl ?_
    refine x_icmp_ge C dX12_laysWord_17 20 rfl 51 rfl h (fun h => ?_) (fun h => ?_)
    · refine x_aload_n C dX12_laysWord_51 52 rfl 0 rfl ?_
      obtain ⟨a52, hq, h⟩ := xbv_some h
      refine x_callVv C 0 (c_X12_laysNet C.2.2.2.2.2.2.1 hq) lm0 EM_0 rfl wml_X12_331 wq_X12_laysNet rfl ⟨by decide, by decide⟩ rfl rfl ⟨by decide, by decide⟩ dX12_laysWord_52 55 rfl rfl (Nat.le_of_ble_eq_true rfl) ?_
      exact x_vret C rfl dX12_laysWord_55 h
    · refine x_aload_n C dX12_laysWord_20 21 rfl 0 rfl ?_
      refine x_get C inX12 0 lm0 EM_0 rfl 34 (by decide) dX12_laysWord_21 24 rfl wmf_X12_92 rfl ?_
      refine x_iload_n C dX12_laysWord_24 25 rfl 2 rfl ?_
      refine x_aaldL C (24) lm24 EM_24 2 rfl rfl dX12_laysWord_25 26 rfl (2327 + (Int32.toNatClampNeg v2)) rfl h (fun x25 ex25 hb25 h => ?_)
      have hx25 : mI x25 8 := ex25 ▸ mI_net hb25
      refine x_iconst C dX12_laysWord_26 27 rfl 0 rfl ?_
      refine x_aload_n C dX12_laysWord_27 28 rfl 0 rfl ?_
      refine x_get C inX12 0 lm0 EM_0 rfl 11 (by decide) dX12_laysWord_28 31 rfl wmf_X12_25 rfl ?_
      refine x_iload_n C dX12_laysWord_31 32 rfl 1 rfl ?_
      refine x_aaldL C (4) lm4 EM_4 2 rfl rfl dX12_laysWord_32 33 rfl (52 + (Int32.toNatClampNeg v1)) rfl h (fun x32 ex32 hb32 h => ?_)
      have hx32 : mI x32 12 := ex32 ▸ mI_sign hb32
      refine x_iload_n C dX12_laysWord_33 34 rfl 2 rfl ?_
      refine x_iald C x32 hx32.1 (hx32.2 _ _ _) 0 rfl dX12_laysWord_34 35 rfl h (fun h => ?_)
      refine x_iastK C x25 hx25.1 (hx25.2 _ _) 0 rfl dX12_laysWord_35 36 rfl (by decide) 0 (by decide) h (fun a35 h => ?_)
      refine x_aload_n C dX12_laysWord_36 37 rfl 0 rfl ?_
      refine x_get C inX12 0 lm0 EM_0 rfl 34 (by decide) dX12_laysWord_37 40 rfl wmf_X12_92 rfl ?_
      refine x_iload_n C dX12_laysWord_40 41 rfl 2 rfl ?_
      refine x_aaldL C (24) lm24 EM_24 2 rfl rfl dX12_laysWord_41 42 rfl (2327 + (Int32.toNatClampNeg v2)) rfl h (fun x41 ex41 hb41 h => ?_)
      have hx41 : mI x41 8 := ex41 ▸ mI_net hb41
      refine x_iconst C dX12_laysWord_42 43 rfl 1 rfl ?_
      refine x_iconst C dX12_laysWord_43 44 rfl 0 rfl ?_
      refine x_iastK C x41 hx41.1 (hx41.2 _ _) 0 rfl dX12_laysWord_44 45 rfl (by decide) 1 (by decide) h (fun a44 h => ?_)
      refine x_iinc C dX12_laysWord_45 48 rfl 2 rfl (d := 1) rfl (by decide) (fun v2_45 => [(2, .int v2_45), (0, .ref (ad 0)), (1, .int v1)]) (fun _ => rfl) h (fun v2_45 h => ?_)
      refine x_goto C dX12_laysWord_48 12 rfl ?_
      exact x_sub [1, 2, 0] rfl (ih h)
theorem c_X12_laysWord {l : Launch} {D : va_G} {ca : Nat → ClassId} {ad : Nat → Nat} (hI : xInj ad NCM) {N : Nat} {ah : AH} {p1 : Int32} {a : AH} (h : F_X12_laysWord N ah p1 = some a) : xMv l yX12_laysWord cX12_laysWord 3 rm_X12_laysWord D vwCl (tysM ca) (EM ad ca) NCM ad [.ref (ad 0), .int p1] ah a := by
  refine x_metv (by decide) (Nat.le_of_ble_eq_true rfl) hI EM_loc ?_
  intro p e s m args below meth c C
  unfold F_X12_laysWord at h
  refine x_aload_n C dX12_laysWord_0 1 rfl 0 rfl ?_
  refine x_aload_n C dX12_laysWord_1 2 rfl 0 rfl ?_
  refine x_get C inX12 0 lm0 EM_0 rfl 12 (by decide) dX12_laysWord_2 5 rfl wmf_X12_28 rfl ?_
  refine x_iload_n C dX12_laysWord_5 6 rfl 1 rfl ?_
  refine x_iald C 5 lm5 EM_5 0 rfl dX12_laysWord_6 7 rfl h (fun h => ?_)
  refine x_put C inX12 0 lm0 EM_0 rfl 33 (by decide) tyX12_ok nmX12 dX12_laysWord_7 10 rfl wmf_X12_314 rfl rfl rfl (Nat.le_of_ble_eq_true rfl) EQ_0_33 h (fun a7 h => ?_)
  refine x_iconst C dX12_laysWord_10 11 rfl 0 rfl ?_
  refine x_istore_n C dX12_laysWord_11 12 rfl (by decide) (fun v2_11 => [(2, .int v2_11), (0, .ref (ad 0)), (1, .int p1)]) (fun _ => rfl) h (fun v2_11 h => ?_)
  exact x_sub [1, 2, 0] rfl (b_X12_laysWord_12 C  N h)
abbrev rm_X12_fits : Room := { frames := 0, cells := 0, slots := 0, locals := 0 }
theorem wq_X12_fits : xcV RX12 yX12_fits cX12_fits 5 (some .boolean) 3 := ⟨wmi_X12_fits, wms_X12_fits, wmn_X12, wmc_X12_fits, by decide, by decide, by decide +kernel⟩
def F_X12_fits_19 (N : Nat) : Nat → AH → Nat → Int32 → Int32 → Int32 → Option (Int32 × AH)
  | 0, _, _, _, _, _ => none
  | n + 1, ah, x1, v2, v3, v4 => if (ah x1 2) ≤ v4 then some (1, ah) else xg v2 61 (xlet (52 + (Int32.toNatClampNeg v2)) (fun x32 => xg (v3 + v4) 12 (xg (3 + v4) 7 (if (ah x32 (Int32.toNatClampNeg (v3 + v4))) = (ah x1 (Int32.toNatClampNeg (3 + v4))) then xlet (v4 + 1) (fun v4_49 => F_X12_fits_19 N n ah x1 v2 v3 v4_49) else some (0, ah)))))
def F_X12_fits (N : Nat) (ah : AH) (x1 : Nat) (p2 : Int32) (p3 : Int32) : Option (Int32 × AH) := xg p2 61 (if (p3 + (ah x1 2)) ≤ (ah 5 (Int32.toNatClampNeg p2)) then xlet 0 (fun v4_17 => F_X12_fits_19 N N ah x1 p2 p3 v4_17) else some (0, ah))
theorem b_X12_fits_19 (C : XC p l s m args meth c cX12_fits 5 (some .boolean) RX12 D vwCl (tysM ca) (EM ad ca) NCM ad) {N : Nat} {o : (Int32 × AH)} : ∀ (n : Nat) {ah : AH} {x1 : Nat} {v2 : Int32} {v3 : Int32} {v4 : Int32} (hx1 : mI x1 7), F_X12_fits_19 N n ah x1 v2 v3 v4 = some o → XW p l e rm_X12_fits s m args below meth c 5 0 (xQi below args s D vwCl (tysM ca) (EM ad ca) NCM ad o) D vwCl (EM ad ca) NCM ad ah 19 [(0, .ref (ad 0)), (1, .ref (ad x1)), (2, .int v2), (3, .int v3), (4, .int v4)] [] := by
  intro n
  induction n with
  | zero => intro ah x1 v2 v3 v4 hx1 h; unfold F_X12_fits_19 at h; cases h
  | succ n ih =>
    intro ah x1 v2 v3 v4 hx1 h
    unfold F_X12_fits_19 at h
    refine x_iload C dX12_fits_19 21 rfl 4 rfl ?_
    refine x_aload_n C dX12_fits_21 22 rfl 1 rfl ?_
    refine x_iconst C dX12_fits_22 23 rfl 2 rfl ?_
    refine x_ialdK C x1 hx1.1 (hx1.2 _ _ _) 0 rfl dX12_fits_23 24 rfl (by decide) 2 (by decide) ?_
    refine x_icmp_ge C dX12_fits_24 27 rfl 55 rfl h (fun h => ?_) (fun h => ?_)
    · refine x_iconst C dX12_fits_55 56 rfl 1 rfl ?_
      exact x_zret C rfl dX12_fits_56 (by decide) h
    · refine x_aload_n C dX12_fits_27 28 rfl 0 rfl ?_
      refine x_get C inX12 0 lm0 EM_0 rfl 11 (by decide) dX12_fits_28 31 rfl wmf_X12_25 rfl ?_
      refine x_iload_n C dX12_fits_31 32 rfl 2 rfl ?_
      refine x_aaldL C (4) lm4 EM_4 2 rfl rfl dX12_fits_32 33 rfl (52 + (Int32.toNatClampNeg v2)) rfl h (fun x32 ex32 hb32 h => ?_)
      have hx32 : mI x32 12 := ex32 ▸ mI_sign hb32
      refine x_iload_n C dX12_fits_33 34 rfl 3 rfl ?_
      refine x_iload C dX12_fits_34 36 rfl 4 rfl ?_
      refine x_iadd C dX12_fits_36 37 rfl ?_
      refine x_iald C x32 hx32.1 (hx32.2 _ _ _) 0 rfl dX12_fits_37 38 rfl h (fun h => ?_)
      refine x_aload_n C dX12_fits_38 39 rfl 1 rfl ?_
      refine x_iconst C dX12_fits_39 40 rfl 3 rfl ?_
      refine x_iload C dX12_fits_40 42 rfl 4 rfl ?_
      refine x_iadd C dX12_fits_42 43 rfl ?_
      refine x_iald C x1 hx1.1 (hx1.2 _ _ _) 0 rfl dX12_fits_43 44 rfl h (fun h => ?_)
      refine x_icmp_eq C dX12_fits_44 47 rfl 49 rfl h (fun h => ?_) (fun h => ?_)
      · refine x_iinc C dX12_fits_49 52 rfl 4 rfl (d := 1) rfl (by decide) (fun v4_49 => [(4, .int v4_49), (0, .ref (ad 0)), (1, .ref (ad x1)), (2, .int v2), (3, .int v3)]) (fun _ => rfl) h (fun v4_49 h => ?_)
        refine x_goto C dX12_fits_52 19 rfl ?_
        exact x_sub [1, 2, 3, 4, 0] rfl (ih hx1 h)
      · refine x_iconst C dX12_fits_47 48 rfl 0 rfl ?_
        exact x_zret C rfl dX12_fits_48 (by decide) h
theorem c_X12_fits {l : Launch} {D : va_G} {ca : Nat → ClassId} {ad : Nat → Nat} (hI : xInj ad NCM) {N : Nat} {ah : AH} {x1 : Nat} {p2 : Int32} {p3 : Int32} (hx1 : mI x1 7) {r : Int32} {a : AH} (h : F_X12_fits N ah x1 p2 p3 = some (r, a)) : xMi l yX12_fits cX12_fits 5 (some .boolean) rm_X12_fits D vwCl (tysM ca) (EM ad ca) NCM ad [.ref (ad 0), .ref (ad x1), .int p2, .int p3] ah (r, a) := by
  refine x_meti (by decide) (Nat.le_of_ble_eq_true rfl) hI EM_loc ?_
  intro p e s m args below meth c C
  unfold F_X12_fits at h
  refine x_iload_n C dX12_fits_0 1 rfl 3 rfl ?_
  refine x_aload_n C dX12_fits_1 2 rfl 1 rfl ?_
  refine x_iconst C dX12_fits_2 3 rfl 2 rfl ?_
  refine x_ialdK C x1 hx1.1 (hx1.2 _ _ _) 0 rfl dX12_fits_3 4 rfl (by decide) 2 (by decide) ?_
  refine x_iadd C dX12_fits_4 5 rfl ?_
  refine x_aload_n C dX12_fits_5 6 rfl 0 rfl ?_
  refine x_get C inX12 0 lm0 EM_0 rfl 12 (by decide) dX12_fits_6 9 rfl wmf_X12_28 rfl ?_
  refine x_iload_n C dX12_fits_9 10 rfl 2 rfl ?_
  refine x_iald C 5 lm5 EM_5 0 rfl dX12_fits_10 11 rfl h (fun h => ?_)
  refine x_icmp_le C dX12_fits_11 14 rfl 16 rfl h (fun h => ?_) (fun h => ?_)
  · refine x_iconst C dX12_fits_16 17 rfl 0 rfl ?_
    refine x_istore C dX12_fits_17 19 rfl (by decide) (fun v4_17 => [(4, .int v4_17), (0, .ref (ad 0)), (1, .ref (ad x1)), (2, .int p2), (3, .int p3)]) (fun _ => rfl) h (fun v4_17 h => ?_)
    exact x_sub [1, 2, 3, 4, 0] rfl (b_X12_fits_19 C  N hx1 h)
  · refine x_iconst C dX12_fits_14 15 rfl 0 rfl ?_
    exact x_zret C rfl dX12_fits_15 (by decide) h
abbrev rm_X12_spells : Room := { frames := 1, cells := 0, slots := 0, locals := 24 }
theorem wq_X12_spells : xcV RX12 yX12_spells cX12_spells 6 (some .int) 1 := ⟨wmi_X12_spells, wms_X12_spells, wmn_X12, wmc_X12_spells, by decide, by decide, by decide +kernel⟩
def F_X12_spells_142 (N : Nat) (k5 : AH → Int32 → Int32 → Option (Int32 × AH)) (k16 : AH → Int32 → Int32 → Int32 → Option (Int32 × AH)) (ah : AH) (v1 : Int32) (v2 : Int32) (v3 : Int32) (v4 : Int32) : Option (Int32 × AH) := xg v2 49 (xlet (5303 + (Int32.toNatClampNeg v2)) (fun x147 => xg v3 13 (xlet (xu ah x147 (Int32.toNatClampNeg v3) v4) (fun a151 => xlet (v3 + (-1)) (fun v3_152 => k16 a151 v1 v2 v3_152)))))
def F_X12_spells_136 (N : Nat) (k5 : AH → Int32 → Int32 → Option (Int32 × AH)) (k16 : AH → Int32 → Int32 → Int32 → Option (Int32 × AH)) (k50 : AH → Int32 → Int32 → Int32 → Int32 → Int32 → Option (Int32 × AH)) (ah : AH) (v1 : Int32) (v2 : Int32) (v3 : Int32) (v4 : Int32) (v5 : Int32) : Option (Int32 × AH) := xlet (v5 + 1) (fun v5_136 => k50 ah v1 v2 v3 v4 v5_136)
def F_X12_spells_50 (N : Nat) (k5 : AH → Int32 → Int32 → Option (Int32 × AH)) (k16 : AH → Int32 → Int32 → Int32 → Option (Int32 × AH)) : Nat → AH → Int32 → Int32 → Int32 → Int32 → Int32 → Option (Int32 × AH)
  | 0, _, _, _, _, _, _ => none
  | n + 1, ah, v1, v2, v3, v4, v5 => if (ah 0 33) ≤ v2 then F_X12_spells_142 N k5 k16 ah v1 v2 v3 v4 else xg v2 49 (if (ah 25 (Int32.toNatClampNeg v2)) ≤ v5 then F_X12_spells_142 N k5 k16 ah v1 v2 v3 v4 else xg v2 48 (xg v5 60 (xlet (2423 + ((Int32.toNatClampNeg v2) * 60 + Int32.toNatClampNeg v5)) (fun x78 => xb (F_X12_fits N ah x78 v1 v3) (fun r81 a81 => if r81 = 0 then F_X12_spells_136 N k5 k16 (F_X12_spells_50 N k5 k16 n) a81 v1 v2 v3 v4 v5 else xg v2 48 (xg v5 60 (xlet (2423 + ((Int32.toNatClampNeg v2) * 60 + Int32.toNatClampNeg v5)) (fun x97 => xg v2 48 (xg v5 60 (xlet (2423 + ((Int32.toNatClampNeg v2) * 60 + Int32.toNatClampNeg v5)) (fun x112 => xg (a81 x112 0) 49 (xlet (5303 + (Int32.toNatClampNeg (a81 x112 0))) (fun x115 => xg v2 48 (xg v5 60 (xlet (2423 + ((Int32.toNatClampNeg v2) * 60 + Int32.toNatClampNeg v5)) (fun x125 => xg (v3 + (a81 x125 2)) 13 (xb (F_X12_less N a81 v4 ((a81 x97 1) + (a81 x115 (Int32.toNatClampNeg (v3 + (a81 x125 2)))))) (fun r131 a131 => xlet r131 (fun v4_134 => F_X12_spells_136 N k5 k16 (F_X12_spells_50 N k5 k16 n) a131 v1 v2 v3 v4_134 v5)))))))))))))))))))
def F_X12_spells_45 (N : Nat) (k5 : AH → Int32 → Int32 → Option (Int32 × AH)) (k16 : AH → Int32 → Int32 → Int32 → Option (Int32 × AH)) (ah : AH) (v1 : Int32) (v2 : Int32) (v3 : Int32) (s0 : Int32) : Option (Int32 × AH) := xlet s0 (fun v4_45 => xlet 0 (fun v5_48 => F_X12_spells_50 N k5 k16 N ah v1 v2 v3 v4_45 v5_48))
def F_X12_spells_42 (N : Nat) (k5 : AH → Int32 → Int32 → Option (Int32 × AH)) (k16 : AH → Int32 → Int32 → Int32 → Option (Int32 × AH)) (ah : AH) (v1 : Int32) (v2 : Int32) (v3 : Int32) : Option (Int32 × AH) := F_X12_spells_45 N k5 k16 ah v1 v2 v3 1000000
def F_X12_spells_16 (N : Nat) (k5 : AH → Int32 → Int32 → Option (Int32 × AH)) : Nat → AH → Int32 → Int32 → Int32 → Option (Int32 × AH)
  | 0, _, _, _, _ => none
  | n + 1, ah, v1, v2, v3 => if v3 < 0 then xlet (v2 + (-1)) (fun v2_158 => k5 ah v1 v2_158) else if v2 = (ah 0 33) then xg v1 61 (if v3 = (ah 5 (Int32.toNatClampNeg v1)) then F_X12_spells_45 N k5 (F_X12_spells_16 N k5 n) ah v1 v2 v3 0 else F_X12_spells_42 N k5 (F_X12_spells_16 N k5 n) ah v1 v2 v3) else F_X12_spells_42 N k5 (F_X12_spells_16 N k5 n) ah v1 v2 v3
def F_X12_spells_5 (N : Nat) : Nat → AH → Int32 → Int32 → Option (Int32 × AH)
  | 0, _, _, _ => none
  | n + 1, ah, v1, v2 => if v2 < 0 then xlet (5303 + 0) (fun x169 => some (ah x169 0, ah)) else xg v1 61 (xlet (ah 5 (Int32.toNatClampNeg v1)) (fun v3_15 => F_X12_spells_16 N (F_X12_spells_5 N n) N ah v1 v2 v3_15))
def F_X12_spells (N : Nat) (ah : AH) (p1 : Int32) : Option (Int32 × AH) := xlet (ah 0 33) (fun v2_4 => F_X12_spells_5 N N ah p1 v2_4)
theorem b_X12_spells_142 (C : XC p l s m args meth c cX12_spells 6 (some .int) RX12 D vwCl (tysM ca) (EM ad ca) NCM ad) {N : Nat} {o : (Int32 × AH)} {k5 : AH → Int32 → Int32 → Option (Int32 × AH)} (hk5 : ∀ (ah : AH) (v1 : Int32) (v2 : Int32), k5 ah v1 v2 = some o → XW p l e rm_X12_spells s m args below meth c 6 0 (xQi below args s D vwCl (tysM ca) (EM ad ca) NCM ad o) D vwCl (EM ad ca) NCM ad ah 5 [(0, .ref (ad 0)), (1, .int v1), (2, .int v2)] []) {k16 : AH → Int32 → Int32 → Int32 → Option (Int32 × AH)} (hk16 : ∀ (ah : AH) (v1 : Int32) (v2 : Int32) (v3 : Int32), k16 ah v1 v2 v3 = some o → XW p l e rm_X12_spells s m args below meth c 6 0 (xQi below args s D vwCl (tysM ca) (EM ad ca) NCM ad o) D vwCl (EM ad ca) NCM ad ah 16 [(0, .ref (ad 0)), (1, .int v1), (2, .int v2), (3, .int v3)] []) {ah : AH} {v1 : Int32} {v2 : Int32} {v3 : Int32} {v4 : Int32} (h : F_X12_spells_142 N k5 k16 ah v1 v2 v3 v4 = some o) : XW p l e rm_X12_spells s m args below meth c 6 0 (xQi below args s D vwCl (tysM ca) (EM ad ca) NCM ad o) D vwCl (EM ad ca) NCM ad ah 142 [(0, .ref (ad 0)), (1, .int v1), (2, .int v2), (3, .int v3), (4, .int v4)] [] := by
  unfold F_X12_spells_142 at h
  refine x_aload_n C dX12_spells_142 143 rfl 0 rfl ?_
  refine x_get C inX12 0 lm0 EM_0 rfl 38 (by decide) dX12_spells_143 146 rfl wmf_X12_104 rfl ?_
  refine x_iload_n C dX12_spells_146 147 rfl 2 rfl ?_
  refine x_aaldL C (28) lm28 EM_28 2 rfl rfl dX12_spells_147 148 rfl (5303 + (Int32.toNatClampNeg v2)) rfl h (fun x147 ex147 hb147 h => ?_)
  have hx147 : mI x147 13 := ex147 ▸ mI_cost hb147
  refine x_iload_n C dX12_spells_148 149 rfl 3 rfl ?_
  refine x_iload C dX12_spells_149 151 rfl 4 rfl ?_
  refine x_iast C x147 hx147.1 (hx147.2 _ _) 0 rfl dX12_spells_151 152 rfl h (fun a151 h => ?_)
  refine x_iinc C dX12_spells_152 155 rfl 3 rfl (d := (-1)) rfl (by decide) (fun v3_152 => [(3, .int v3_152), (0, .ref (ad 0)), (1, .int v1), (2, .int v2), (4, .int v4)]) (fun _ => rfl) h (fun v3_152 h => ?_)
  refine x_goto C dX12_spells_155 16 rfl ?_
  exact x_sub [1, 2, 3, 0] rfl (hk16 _ _ _ _ h)
theorem b_X12_spells_136 (C : XC p l s m args meth c cX12_spells 6 (some .int) RX12 D vwCl (tysM ca) (EM ad ca) NCM ad) {N : Nat} {o : (Int32 × AH)} {k5 : AH → Int32 → Int32 → Option (Int32 × AH)} (hk5 : ∀ (ah : AH) (v1 : Int32) (v2 : Int32), k5 ah v1 v2 = some o → XW p l e rm_X12_spells s m args below meth c 6 0 (xQi below args s D vwCl (tysM ca) (EM ad ca) NCM ad o) D vwCl (EM ad ca) NCM ad ah 5 [(0, .ref (ad 0)), (1, .int v1), (2, .int v2)] []) {k16 : AH → Int32 → Int32 → Int32 → Option (Int32 × AH)} (hk16 : ∀ (ah : AH) (v1 : Int32) (v2 : Int32) (v3 : Int32), k16 ah v1 v2 v3 = some o → XW p l e rm_X12_spells s m args below meth c 6 0 (xQi below args s D vwCl (tysM ca) (EM ad ca) NCM ad o) D vwCl (EM ad ca) NCM ad ah 16 [(0, .ref (ad 0)), (1, .int v1), (2, .int v2), (3, .int v3)] []) {k50 : AH → Int32 → Int32 → Int32 → Int32 → Int32 → Option (Int32 × AH)} (hk50 : ∀ (ah : AH) (v1 : Int32) (v2 : Int32) (v3 : Int32) (v4 : Int32) (v5 : Int32), k50 ah v1 v2 v3 v4 v5 = some o → XW p l e rm_X12_spells s m args below meth c 6 0 (xQi below args s D vwCl (tysM ca) (EM ad ca) NCM ad o) D vwCl (EM ad ca) NCM ad ah 50 [(0, .ref (ad 0)), (1, .int v1), (2, .int v2), (3, .int v3), (4, .int v4), (5, .int v5)] []) {ah : AH} {v1 : Int32} {v2 : Int32} {v3 : Int32} {v4 : Int32} {v5 : Int32} (h : F_X12_spells_136 N k5 k16 k50 ah v1 v2 v3 v4 v5 = some o) : XW p l e rm_X12_spells s m args below meth c 6 0 (xQi below args s D vwCl (tysM ca) (EM ad ca) NCM ad o) D vwCl (EM ad ca) NCM ad ah 136 [(0, .ref (ad 0)), (1, .int v1), (2, .int v2), (3, .int v3), (4, .int v4), (5, .int v5)] [] := by
  unfold F_X12_spells_136 at h
  refine x_iinc C dX12_spells_136 139 rfl 5 rfl (d := 1) rfl (by decide) (fun v5_136 => [(5, .int v5_136), (0, .ref (ad 0)), (1, .int v1), (2, .int v2), (3, .int v3), (4, .int v4)]) (fun _ => rfl) h (fun v5_136 h => ?_)
  refine x_goto C dX12_spells_139 50 rfl ?_
  exact x_sub [1, 2, 3, 4, 5, 0] rfl (hk50 _ _ _ _ _ _ h)
theorem b_X12_spells_50 (C : XC p l s m args meth c cX12_spells 6 (some .int) RX12 D vwCl (tysM ca) (EM ad ca) NCM ad) {N : Nat} {o : (Int32 × AH)} {k5 : AH → Int32 → Int32 → Option (Int32 × AH)} (hk5 : ∀ (ah : AH) (v1 : Int32) (v2 : Int32), k5 ah v1 v2 = some o → XW p l e rm_X12_spells s m args below meth c 6 0 (xQi below args s D vwCl (tysM ca) (EM ad ca) NCM ad o) D vwCl (EM ad ca) NCM ad ah 5 [(0, .ref (ad 0)), (1, .int v1), (2, .int v2)] []) {k16 : AH → Int32 → Int32 → Int32 → Option (Int32 × AH)} (hk16 : ∀ (ah : AH) (v1 : Int32) (v2 : Int32) (v3 : Int32), k16 ah v1 v2 v3 = some o → XW p l e rm_X12_spells s m args below meth c 6 0 (xQi below args s D vwCl (tysM ca) (EM ad ca) NCM ad o) D vwCl (EM ad ca) NCM ad ah 16 [(0, .ref (ad 0)), (1, .int v1), (2, .int v2), (3, .int v3)] []) : ∀ (n : Nat) {ah : AH} {v1 : Int32} {v2 : Int32} {v3 : Int32} {v4 : Int32} {v5 : Int32}, F_X12_spells_50 N k5 k16 n ah v1 v2 v3 v4 v5 = some o → XW p l e rm_X12_spells s m args below meth c 6 0 (xQi below args s D vwCl (tysM ca) (EM ad ca) NCM ad o) D vwCl (EM ad ca) NCM ad ah 50 [(0, .ref (ad 0)), (1, .int v1), (2, .int v2), (3, .int v3), (4, .int v4), (5, .int v5)] [] := by
  intro n
  induction n with
  | zero => intro ah v1 v2 v3 v4 v5 h; unfold F_X12_spells_50 at h; cases h
  | succ n ih =>
    intro ah v1 v2 v3 v4 v5 h
    unfold F_X12_spells_50 at h
    refine x_iload_n C dX12_spells_50 51 rfl 2 rfl ?_
    refine x_aload_n C dX12_spells_51 52 rfl 0 rfl ?_
    refine x_get C inX12 0 lm0 EM_0 rfl 33 (by decide) dX12_spells_52 55 rfl wmf_X12_314 rfl ?_
    refine x_icmp_ge C dX12_spells_55 58 rfl 142 rfl h (fun h => ?_) (fun h => ?_)
    · exact x_sub [0, 1, 2, 3, 4] rfl (b_X12_spells_142 C hk5 hk16 h)
    · refine x_iload C dX12_spells_58 60 rfl 5 rfl ?_
      refine x_aload_n C dX12_spells_60 61 rfl 0 rfl ?_
      refine x_get C inX12 0 lm0 EM_0 rfl 35 (by decide) dX12_spells_61 64 rfl wmf_X12_95 rfl ?_
      refine x_iload_n C dX12_spells_64 65 rfl 2 rfl ?_
      refine x_iald C 25 lm25 EM_25 0 rfl dX12_spells_65 66 rfl h (fun h => ?_)
      refine x_icmp_ge C dX12_spells_66 69 rfl 142 rfl h (fun h => ?_) (fun h => ?_)
      · exact x_sub [0, 1, 2, 3, 4] rfl (b_X12_spells_142 C hk5 hk16 h)
      · refine x_aload_n C dX12_spells_69 70 rfl 0 rfl ?_
        refine x_aload_n C dX12_spells_70 71 rfl 0 rfl ?_
        refine x_get C inX12 0 lm0 EM_0 rfl 37 (by decide) dX12_spells_71 74 rfl wmf_X12_101 rfl ?_
        refine x_iload_n C dX12_spells_74 75 rfl 2 rfl ?_
        refine x_aald C (27) lm27 EM_27 3 rfl rfl dX12_spells_75 76 rfl (2375 + (Int32.toNatClampNeg v2)) rfl h (fun hb75 h => ?_)
        refine x_iload C dX12_spells_76 78 rfl 5 rfl ?_
        refine x_aaldL C (2375 + (Int32.toNatClampNeg v2)) (lm_edge_1 hb75) (EM_edge_1 hb75) 2 rfl rfl dX12_spells_78 79 rfl (2423 + ((Int32.toNatClampNeg v2) * 60 + Int32.toNatClampNeg v5)) rfl h (fun x78 ex78 hb78 h => ?_)
        have hx78 : mI x78 7 := ex78 ▸ mI_edge (xfl hb75 hb78)
        refine x_iload_n C dX12_spells_79 80 rfl 1 rfl ?_
        refine x_iload_n C dX12_spells_80 81 rfl 3 rfl ?_
        obtain ⟨r81, a81, hq, h⟩ := xb_some h
        refine x_callVi C 0 (c_X12_fits C.2.2.2.2.2.2.1 hx78 hq) lm0 EM_0 rfl wml_X12_334 wq_X12_fits rfl ⟨by decide, by decide⟩ rfl rfl ⟨by decide, by decide⟩ dX12_spells_81 84 rfl rfl (Nat.le_of_ble_eq_true rfl) ?_
        refine x_if_eq C dX12_spells_84 87 rfl 136 rfl h (fun h => ?_) (fun h => ?_)
        · exact b_X12_spells_136 C hk5 hk16 (fun _ _ _ _ _ _ h => ih h) h
        · refine x_iload C dX12_spells_87 89 rfl 4 rfl ?_
          refine x_aload_n C dX12_spells_89 90 rfl 0 rfl ?_
          refine x_get C inX12 0 lm0 EM_0 rfl 37 (by decide) dX12_spells_90 93 rfl wmf_X12_101 rfl ?_
          refine x_iload_n C dX12_spells_93 94 rfl 2 rfl ?_
          refine x_aald C (27) lm27 EM_27 3 rfl rfl dX12_spells_94 95 rfl (2375 + (Int32.toNatClampNeg v2)) rfl h (fun hb94 h => ?_)
          refine x_iload C dX12_spells_95 97 rfl 5 rfl ?_
          refine x_aaldL C (2375 + (Int32.toNatClampNeg v2)) (lm_edge_1 hb94) (EM_edge_1 hb94) 2 rfl rfl dX12_spells_97 98 rfl (2423 + ((Int32.toNatClampNeg v2) * 60 + Int32.toNatClampNeg v5)) rfl h (fun x97 ex97 hb97 h => ?_)
          have hx97 : mI x97 7 := ex97 ▸ mI_edge (xfl hb94 hb97)
          refine x_iconst C dX12_spells_98 99 rfl 1 rfl ?_
          refine x_ialdK C x97 hx97.1 (hx97.2 _ _ _) 0 rfl dX12_spells_99 100 rfl (by decide) 1 (by decide) ?_
          refine x_aload_n C dX12_spells_100 101 rfl 0 rfl ?_
          refine x_get C inX12 0 lm0 EM_0 rfl 38 (by decide) dX12_spells_101 104 rfl wmf_X12_104 rfl ?_
          refine x_aload_n C dX12_spells_104 105 rfl 0 rfl ?_
          refine x_get C inX12 0 lm0 EM_0 rfl 37 (by decide) dX12_spells_105 108 rfl wmf_X12_101 rfl ?_
          refine x_iload_n C dX12_spells_108 109 rfl 2 rfl ?_
          refine x_aald C (27) lm27 EM_27 3 rfl rfl dX12_spells_109 110 rfl (2375 + (Int32.toNatClampNeg v2)) rfl h (fun hb109 h => ?_)
          refine x_iload C dX12_spells_110 112 rfl 5 rfl ?_
          refine x_aaldL C (2375 + (Int32.toNatClampNeg v2)) (lm_edge_1 hb109) (EM_edge_1 hb109) 2 rfl rfl dX12_spells_112 113 rfl (2423 + ((Int32.toNatClampNeg v2) * 60 + Int32.toNatClampNeg v5)) rfl h (fun x112 ex112 hb112 h => ?_)
          have hx112 : mI x112 7 := ex112 ▸ mI_edge (xfl hb109 hb112)
          refine x_iconst C dX12_spells_113 114 rfl 0 rfl ?_
          refine x_ialdK C x112 hx112.1 (hx112.2 _ _ _) 0 rfl dX12_spells_114 115 rfl (by decide) 0 (by decide) ?_
          refine x_aaldL C (28) lm28 EM_28 2 rfl rfl dX12_spells_115 116 rfl (5303 + (Int32.toNatClampNeg (a81 x112 0))) rfl h (fun x115 ex115 hb115 h => ?_)
          have hx115 : mI x115 13 := ex115 ▸ mI_cost hb115
          refine x_iload_n C dX12_spells_116 117 rfl 3 rfl ?_
          refine x_aload_n C dX12_spells_117 118 rfl 0 rfl ?_
          refine x_get C inX12 0 lm0 EM_0 rfl 37 (by decide) dX12_spells_118 121 rfl wmf_X12_101 rfl ?_
          refine x_iload_n C dX12_spells_121 122 rfl 2 rfl ?_
          refine x_aald C (27) lm27 EM_27 3 rfl rfl dX12_spells_122 123 rfl (2375 + (Int32.toNatClampNeg v2)) rfl h (fun hb122 h => ?_)
          refine x_iload C dX12_spells_123 125 rfl 5 rfl ?_
          refine x_aaldL C (2375 + (Int32.toNatClampNeg v2)) (lm_edge_1 hb122) (EM_edge_1 hb122) 2 rfl rfl dX12_spells_125 126 rfl (2423 + ((Int32.toNatClampNeg v2) * 60 + Int32.toNatClampNeg v5)) rfl h (fun x125 ex125 hb125 h => ?_)
          have hx125 : mI x125 7 := ex125 ▸ mI_edge (xfl hb122 hb125)
          refine x_iconst C dX12_spells_126 127 rfl 2 rfl ?_
          refine x_ialdK C x125 hx125.1 (hx125.2 _ _ _) 0 rfl dX12_spells_127 128 rfl (by decide) 2 (by decide) ?_
          refine x_iadd C dX12_spells_128 129 rfl ?_
          refine x_iald C x115 hx115.1 (hx115.2 _ _ _) 0 rfl dX12_spells_129 130 rfl h (fun h => ?_)
          refine x_iadd C dX12_spells_130 131 rfl ?_
          obtain ⟨r131, a131, hq, h⟩ := xb_some h
          refine x_callSi C (c_X12_less C.2.2.2.2.2.2.1 hq) wml_X12_219 wq_X12_less rfl ⟨by decide, by decide⟩ rfl rfl ⟨by decide, by decide⟩ dX12_spells_131 134 rfl rfl (Nat.le_of_ble_eq_true rfl) ?_
          refine x_istore C dX12_spells_134 136 rfl (by decide) (fun v4_134 => [(4, .int v4_134), (0, .ref (ad 0)), (1, .int v1), (2, .int v2), (3, .int v3), (5, .int v5)]) (fun _ => rfl) h (fun v4_134 h => ?_)
          exact x_sub [1, 2, 3, 4, 0, 5] rfl (b_X12_spells_136 C hk5 hk16 (fun _ _ _ _ _ _ h => ih h) h)
theorem b_X12_spells_45 (C : XC p l s m args meth c cX12_spells 6 (some .int) RX12 D vwCl (tysM ca) (EM ad ca) NCM ad) {N : Nat} {o : (Int32 × AH)} {k5 : AH → Int32 → Int32 → Option (Int32 × AH)} (hk5 : ∀ (ah : AH) (v1 : Int32) (v2 : Int32), k5 ah v1 v2 = some o → XW p l e rm_X12_spells s m args below meth c 6 0 (xQi below args s D vwCl (tysM ca) (EM ad ca) NCM ad o) D vwCl (EM ad ca) NCM ad ah 5 [(0, .ref (ad 0)), (1, .int v1), (2, .int v2)] []) {k16 : AH → Int32 → Int32 → Int32 → Option (Int32 × AH)} (hk16 : ∀ (ah : AH) (v1 : Int32) (v2 : Int32) (v3 : Int32), k16 ah v1 v2 v3 = some o → XW p l e rm_X12_spells s m args below meth c 6 0 (xQi below args s D vwCl (tysM ca) (EM ad ca) NCM ad o) D vwCl (EM ad ca) NCM ad ah 16 [(0, .ref (ad 0)), (1, .int v1), (2, .int v2), (3, .int v3)] []) {ah : AH} {v1 : Int32} {v2 : Int32} {v3 : Int32} {s0 : Int32} (h : F_X12_spells_45 N k5 k16 ah v1 v2 v3 s0 = some o) : XW p l e rm_X12_spells s m args below meth c 6 0 (xQi below args s D vwCl (tysM ca) (EM ad ca) NCM ad o) D vwCl (EM ad ca) NCM ad ah 45 [(0, .ref (ad 0)), (1, .int v1), (2, .int v2), (3, .int v3)] [.int s0] := by
  unfold F_X12_spells_45 at h
  refine x_istore C dX12_spells_45 47 rfl (by decide) (fun v4_45 => [(4, .int v4_45), (0, .ref (ad 0)), (1, .int v1), (2, .int v2), (3, .int v3)]) (fun _ => rfl) h (fun v4_45 h => ?_)
  refine x_iconst C dX12_spells_47 48 rfl 0 rfl ?_
  refine x_istore C dX12_spells_48 50 rfl (by decide) (fun v5_48 => [(5, .int v5_48), (4, .int v4_45), (0, .ref (ad 0)), (1, .int v1), (2, .int v2), (3, .int v3)]) (fun _ => rfl) h (fun v5_48 h => ?_)
  exact x_sub [2, 3, 4, 5, 1, 0] rfl (b_X12_spells_50 C hk5 hk16 N h)
theorem b_X12_spells_42 (C : XC p l s m args meth c cX12_spells 6 (some .int) RX12 D vwCl (tysM ca) (EM ad ca) NCM ad) {N : Nat} {o : (Int32 × AH)} {k5 : AH → Int32 → Int32 → Option (Int32 × AH)} (hk5 : ∀ (ah : AH) (v1 : Int32) (v2 : Int32), k5 ah v1 v2 = some o → XW p l e rm_X12_spells s m args below meth c 6 0 (xQi below args s D vwCl (tysM ca) (EM ad ca) NCM ad o) D vwCl (EM ad ca) NCM ad ah 5 [(0, .ref (ad 0)), (1, .int v1), (2, .int v2)] []) {k16 : AH → Int32 → Int32 → Int32 → Option (Int32 × AH)} (hk16 : ∀ (ah : AH) (v1 : Int32) (v2 : Int32) (v3 : Int32), k16 ah v1 v2 v3 = some o → XW p l e rm_X12_spells s m args below meth c 6 0 (xQi below args s D vwCl (tysM ca) (EM ad ca) NCM ad o) D vwCl (EM ad ca) NCM ad ah 16 [(0, .ref (ad 0)), (1, .int v1), (2, .int v2), (3, .int v3)] []) {ah : AH} {v1 : Int32} {v2 : Int32} {v3 : Int32} (h : F_X12_spells_42 N k5 k16 ah v1 v2 v3 = some o) : XW p l e rm_X12_spells s m args below meth c 6 0 (xQi below args s D vwCl (tysM ca) (EM ad ca) NCM ad o) D vwCl (EM ad ca) NCM ad ah 42 [(0, .ref (ad 0)), (1, .int v1), (2, .int v2), (3, .int v3)] [] := by
  unfold F_X12_spells_42 at h
  refine x_ldcw C dX12_spells_42 45 rfl wmk_X12_326 ?_
  exact b_X12_spells_45 C hk5 hk16 h
theorem b_X12_spells_16 (C : XC p l s m args meth c cX12_spells 6 (some .int) RX12 D vwCl (tysM ca) (EM ad ca) NCM ad) {N : Nat} {o : (Int32 × AH)} {k5 : AH → Int32 → Int32 → Option (Int32 × AH)} (hk5 : ∀ (ah : AH) (v1 : Int32) (v2 : Int32), k5 ah v1 v2 = some o → XW p l e rm_X12_spells s m args below meth c 6 0 (xQi below args s D vwCl (tysM ca) (EM ad ca) NCM ad o) D vwCl (EM ad ca) NCM ad ah 5 [(0, .ref (ad 0)), (1, .int v1), (2, .int v2)] []) : ∀ (n : Nat) {ah : AH} {v1 : Int32} {v2 : Int32} {v3 : Int32}, F_X12_spells_16 N k5 n ah v1 v2 v3 = some o → XW p l e rm_X12_spells s m args below meth c 6 0 (xQi below args s D vwCl (tysM ca) (EM ad ca) NCM ad o) D vwCl (EM ad ca) NCM ad ah 16 [(0, .ref (ad 0)), (1, .int v1), (2, .int v2), (3, .int v3)] [] := by
  intro n
  induction n with
  | zero => intro ah v1 v2 v3 h; unfold F_X12_spells_16 at h; cases h
  | succ n ih =>
    intro ah v1 v2 v3 h
    unfold F_X12_spells_16 at h
    refine x_iload_n C dX12_spells_16 17 rfl 3 rfl ?_
    refine x_if_lt C dX12_spells_17 20 rfl 158 rfl h (fun h => ?_) (fun h => ?_)
    · refine x_iinc C dX12_spells_158 161 rfl 2 rfl (d := (-1)) rfl (by decide) (fun v2_158 => [(2, .int v2_158), (0, .ref (ad 0)), (1, .int v1), (3, .int v3)]) (fun _ => rfl) h (fun v2_158 h => ?_)
      refine x_goto C dX12_spells_161 5 rfl ?_
      exact x_sub [1, 2, 0] rfl (hk5 _ _ _ h)
    · refine x_iload_n C dX12_spells_20 21 rfl 2 rfl ?_
      refine x_aload_n C dX12_spells_21 22 rfl 0 rfl ?_
      refine x_get C inX12 0 lm0 EM_0 rfl 33 (by decide) dX12_spells_22 25 rfl wmf_X12_314 rfl ?_
      refine x_icmp_ne C dX12_spells_25 28 rfl 42 rfl h (fun h => ?_) (fun h => ?_)
      · exact b_X12_spells_42 C hk5 (fun _ _ _ _ h => ih h) h
      · refine x_iload_n C dX12_spells_28 29 rfl 3 rfl ?_
        refine x_aload_n C dX12_spells_29 30 rfl 0 rfl ?_
        refine x_get C inX12 0 lm0 EM_0 rfl 12 (by decide) dX12_spells_30 33 rfl wmf_X12_28 rfl ?_
        refine x_iload_n C dX12_spells_33 34 rfl 1 rfl ?_
        refine x_iald C 5 lm5 EM_5 0 rfl dX12_spells_34 35 rfl h (fun h => ?_)
        refine x_icmp_ne C dX12_spells_35 38 rfl 42 rfl h (fun h => ?_) (fun h => ?_)
        · exact b_X12_spells_42 C hk5 (fun _ _ _ _ h => ih h) h
        · refine x_iconst C dX12_spells_38 39 rfl 0 rfl ?_
          refine x_goto C dX12_spells_39 45 rfl ?_
          exact b_X12_spells_45 C hk5 (fun _ _ _ _ h => ih h) h
theorem b_X12_spells_5 (C : XC p l s m args meth c cX12_spells 6 (some .int) RX12 D vwCl (tysM ca) (EM ad ca) NCM ad) {N : Nat} {o : (Int32 × AH)} : ∀ (n : Nat) {ah : AH} {v1 : Int32} {v2 : Int32}, F_X12_spells_5 N n ah v1 v2 = some o → XW p l e rm_X12_spells s m args below meth c 6 0 (xQi below args s D vwCl (tysM ca) (EM ad ca) NCM ad o) D vwCl (EM ad ca) NCM ad ah 5 [(0, .ref (ad 0)), (1, .int v1), (2, .int v2)] [] := by
  intro n
  induction n with
  | zero => intro ah v1 v2 h; unfold F_X12_spells_5 at h; cases h
  | succ n ih =>
    intro ah v1 v2 h
    unfold F_X12_spells_5 at h
    refine x_iload_n C dX12_spells_5 6 rfl 2 rfl ?_
    refine x_if_lt C dX12_spells_6 9 rfl 164 rfl h (fun h => ?_) (fun h => ?_)
    · refine x_aload_n C dX12_spells_164 165 rfl 0 rfl ?_
      refine x_get C inX12 0 lm0 EM_0 rfl 38 (by decide) dX12_spells_165 168 rfl wmf_X12_104 rfl ?_
      refine x_iconst C dX12_spells_168 169 rfl 0 rfl ?_
      refine x_aaldLK C (28) lm28 EM_28 2 rfl rfl (by decide) 0 (by decide) dX12_spells_169 170 rfl (5303 + 0) rfl h (fun x169 ex169 h => ?_)
      have hx169 : mI x169 13 := ex169 ▸ mI_cost (show 0 < 49 by decide)
      refine x_iconst C dX12_spells_170 171 rfl 0 rfl ?_
      refine x_ialdK C x169 hx169.1 (hx169.2 _ _ _) 0 rfl dX12_spells_171 172 rfl (by decide) 0 (by decide) ?_
      exact x_iret C rfl dX12_spells_172 h
    · refine x_aload_n C dX12_spells_9 10 rfl 0 rfl ?_
      refine x_get C inX12 0 lm0 EM_0 rfl 12 (by decide) dX12_spells_10 13 rfl wmf_X12_28 rfl ?_
      refine x_iload_n C dX12_spells_13 14 rfl 1 rfl ?_
      refine x_iald C 5 lm5 EM_5 0 rfl dX12_spells_14 15 rfl h (fun h => ?_)
      refine x_istore_n C dX12_spells_15 16 rfl (by decide) (fun v3_15 => [(3, .int v3_15), (0, .ref (ad 0)), (1, .int v1), (2, .int v2)]) (fun _ => rfl) h (fun v3_15 h => ?_)
      exact x_sub [1, 2, 3, 0] rfl (b_X12_spells_16 C (fun _ _ _ h => ih h) N h)
theorem c_X12_spells {l : Launch} {D : va_G} {ca : Nat → ClassId} {ad : Nat → Nat} (hI : xInj ad NCM) {N : Nat} {ah : AH} {p1 : Int32} {r : Int32} {a : AH} (h : F_X12_spells N ah p1 = some (r, a)) : xMi l yX12_spells cX12_spells 6 (some .int) rm_X12_spells D vwCl (tysM ca) (EM ad ca) NCM ad [.ref (ad 0), .int p1] ah (r, a) := by
  refine x_meti (by decide) (Nat.le_of_ble_eq_true rfl) hI EM_loc ?_
  intro p e s m args below meth c C
  unfold F_X12_spells at h
  refine x_aload_n C dX12_spells_0 1 rfl 0 rfl ?_
  refine x_get C inX12 0 lm0 EM_0 rfl 33 (by decide) dX12_spells_1 4 rfl wmf_X12_314 rfl ?_
  refine x_istore_n C dX12_spells_4 5 rfl (by decide) (fun v2_4 => [(2, .int v2_4), (0, .ref (ad 0)), (1, .int p1)]) (fun _ => rfl) h (fun v2_4 h => ?_)
  exact x_sub [1, 2, 0] rfl (b_X12_spells_5 C  N h)
abbrev rm_X12_boundOf : Room := { frames := 0, cells := 0, slots := 0, locals := 0 }
theorem wq_X12_boundOf : xcV RX12 yX12_boundOf cX12_boundOf 2 (some .int) 1 := ⟨wmi_X12_boundOf, wms_X12_boundOf, wmn_X12, wmc_X12_boundOf, by decide, by decide, by decide +kernel⟩
def F_X12_boundOf (N : Nat) (ah : AH) (p1 : Int32) : Option (Int32 × AH) := xg p1 18025 (xz 721 (xg (p1 / 721) 49 (xz 721 (xg (p1 - p1 / 721 * 721) 721 (some (((ah 29 (Int32.toNatClampNeg p1)) + (ah 26 (Int32.toNatClampNeg (p1 / 721)))) + (ah 11 (Int32.toNatClampNeg (p1 - p1 / 721 * 721))), ah))))))
theorem c_X12_boundOf {l : Launch} {D : va_G} {ca : Nat → ClassId} {ad : Nat → Nat} (hI : xInj ad NCM) {N : Nat} {ah : AH} {p1 : Int32} {r : Int32} {a : AH} (h : F_X12_boundOf N ah p1 = some (r, a)) : xMi l yX12_boundOf cX12_boundOf 2 (some .int) rm_X12_boundOf D vwCl (tysM ca) (EM ad ca) NCM ad [.ref (ad 0), .int p1] ah (r, a) := by
  refine x_meti (by decide) (Nat.le_of_ble_eq_true rfl) hI EM_loc ?_
  intro p e s m args below meth c C
  unfold F_X12_boundOf at h
  refine x_aload_n C dX12_boundOf_0 1 rfl 0 rfl ?_
  refine x_get C inX12 0 lm0 EM_0 rfl 39 (by decide) dX12_boundOf_1 4 rfl wmf_X12_107 rfl ?_
  refine x_iload_n C dX12_boundOf_4 5 rfl 1 rfl ?_
  refine x_iald C 29 lm29 EM_29 0 rfl dX12_boundOf_5 6 rfl h (fun h => ?_)
  refine x_aload_n C dX12_boundOf_6 7 rfl 0 rfl ?_
  refine x_get C inX12 0 lm0 EM_0 rfl 36 (by decide) dX12_boundOf_7 10 rfl wmf_X12_98 rfl ?_
  refine x_iload_n C dX12_boundOf_10 11 rfl 1 rfl ?_
  refine x_sipush C dX12_boundOf_11 14 rfl 721 rfl ?_
  refine x_idiv C dX12_boundOf_14 15 rfl h (fun h => ?_)
  refine x_iald C 26 lm26 EM_26 0 rfl dX12_boundOf_15 16 rfl h (fun h => ?_)
  refine x_iadd C dX12_boundOf_16 17 rfl ?_
  refine x_aload_n C dX12_boundOf_17 18 rfl 0 rfl ?_
  refine x_get C inX12 0 lm0 EM_0 rfl 19 (by decide) dX12_boundOf_18 21 rfl wmf_X12_49 rfl ?_
  refine x_iload_n C dX12_boundOf_21 22 rfl 1 rfl ?_
  refine x_sipush C dX12_boundOf_22 25 rfl 721 rfl ?_
  refine x_irem C dX12_boundOf_25 26 rfl h (fun h => ?_)
  refine x_iald C 11 lm11 EM_11 0 rfl dX12_boundOf_26 27 rfl h (fun h => ?_)
  refine x_iadd C dX12_boundOf_27 28 rfl ?_
  exact x_iret C rfl dX12_boundOf_28 h
abbrev rm_X12_waitsFor : Room := { frames := 0, cells := 0, slots := 0, locals := 0 }
theorem wq_X12_waitsFor : xcV RX12 yX12_waitsFor cX12_waitsFor 3 none 2 := ⟨wmi_X12_waitsFor, wms_X12_waitsFor, wmn_X12, wmc_X12_waitsFor, by decide, by decide, by decide +kernel⟩
def F_X12_waitsFor_60 (N : Nat) (ah : AH) (v1 : Int32) (v2 : Int32) : Option AH := xg v1 18025 (xlet (xu ah 30 (Int32.toNatClampNeg v1) 1) (fun a66 => xg v1 18025 (xlet (xu a66 29 (Int32.toNatClampNeg v1) v2) (fun a73 => some a73))))
def F_X12_waitsFor_31 (N : Nat) (ah : AH) (v1 : Int32) (v2 : Int32) : Option AH := xg v1 18025 (if (ah 30 (Int32.toNatClampNeg v1)) = 0 then xg (ah 0 42) 18025 (xlet (xu ah 31 (Int32.toNatClampNeg (ah 0 42)) v1) (fun a49 => xlet (xu a49 0 42 ((a49 0 42) + 1)) (fun a57 => F_X12_waitsFor_60 N a57 v1 v2))) else F_X12_waitsFor_60 N ah v1 v2)
def F_X12_waitsFor (N : Nat) (ah : AH) (p1 : Int32) (p2 : Int32) : Option AH := xg p1 18025 (if (ah 30 (Int32.toNatClampNeg p1)) = 2 then some ah else xg p1 18025 (if (ah 30 (Int32.toNatClampNeg p1)) = 1 then xg p1 18025 (if p2 < (ah 29 (Int32.toNatClampNeg p1)) then F_X12_waitsFor_31 N ah p1 p2 else some ah) else F_X12_waitsFor_31 N ah p1 p2))
theorem b_X12_waitsFor_60 (C : XC p l s m args meth c cX12_waitsFor 3 none RX12 D vwCl (tysM ca) (EM ad ca) NCM ad) {N : Nat} {o : AH} {ah : AH} {v1 : Int32} {v2 : Int32} (h : F_X12_waitsFor_60 N ah v1 v2 = some o) : XW p l e rm_X12_waitsFor s m args below meth c 3 0 (xQv below args s D vwCl (tysM ca) (EM ad ca) NCM ad o) D vwCl (EM ad ca) NCM ad ah 60 [(0, .ref (ad 0)), (1, .int v1), (2, .int v2)] [] := by
  unfold F_X12_waitsFor_60 at h
  refine x_aload_n C dX12_waitsFor_60 61 rfl 0 rfl ?_
  refine x_get C inX12 0 lm0 EM_0 rfl 40 (by decide) dX12_waitsFor_61 64 rfl wmf_X12_110 rfl ?_
  refine x_iload_n C dX12_waitsFor_64 65 rfl 1 rfl ?_
  refine x_iconst C dX12_waitsFor_65 66 rfl 1 rfl ?_
  refine x_iast C 30 lm30 (fun _ => EM_30) 0 rfl dX12_waitsFor_66 67 rfl h (fun a66 h => ?_)
  refine x_aload_n C dX12_waitsFor_67 68 rfl 0 rfl ?_
  refine x_get C inX12 0 lm0 EM_0 rfl 39 (by decide) dX12_waitsFor_68 71 rfl wmf_X12_107 rfl ?_
  refine x_iload_n C dX12_waitsFor_71 72 rfl 1 rfl ?_
  refine x_iload_n C dX12_waitsFor_72 73 rfl 2 rfl ?_
  refine x_iast C 29 lm29 (fun _ => EM_29) 0 rfl dX12_waitsFor_73 74 rfl h (fun a73 h => ?_)
  exact x_vret C rfl dX12_waitsFor_74 h
theorem b_X12_waitsFor_31 (C : XC p l s m args meth c cX12_waitsFor 3 none RX12 D vwCl (tysM ca) (EM ad ca) NCM ad) {N : Nat} {o : AH} {ah : AH} {v1 : Int32} {v2 : Int32} (h : F_X12_waitsFor_31 N ah v1 v2 = some o) : XW p l e rm_X12_waitsFor s m args below meth c 3 0 (xQv below args s D vwCl (tysM ca) (EM ad ca) NCM ad o) D vwCl (EM ad ca) NCM ad ah 31 [(0, .ref (ad 0)), (1, .int v1), (2, .int v2)] [] := by
  unfold F_X12_waitsFor_31 at h
  refine x_aload_n C dX12_waitsFor_31 32 rfl 0 rfl ?_
  refine x_get C inX12 0 lm0 EM_0 rfl 40 (by decide) dX12_waitsFor_32 35 rfl wmf_X12_110 rfl ?_
  refine x_iload_n C dX12_waitsFor_35 36 rfl 1 rfl ?_
  refine x_iald C 30 lm30 EM_30 0 rfl dX12_waitsFor_36 37 rfl h (fun h => ?_)
  refine x_if_ne C dX12_waitsFor_37 40 rfl 60 rfl h (fun h => ?_) (fun h => ?_)
  · exact b_X12_waitsFor_60 C  h
  · refine x_aload_n C dX12_waitsFor_40 41 rfl 0 rfl ?_
    refine x_get C inX12 0 lm0 EM_0 rfl 41 (by decide) dX12_waitsFor_41 44 rfl wmf_X12_113 rfl ?_
    refine x_aload_n C dX12_waitsFor_44 45 rfl 0 rfl ?_
    refine x_get C inX12 0 lm0 EM_0 rfl 42 (by decide) dX12_waitsFor_45 48 rfl wmf_X12_338 rfl ?_
    refine x_iload_n C dX12_waitsFor_48 49 rfl 1 rfl ?_
    refine x_iast C 31 lm31 (fun _ => EM_31) 0 rfl dX12_waitsFor_49 50 rfl h (fun a49 h => ?_)
    refine x_aload_n C dX12_waitsFor_50 51 rfl 0 rfl ?_
    refine x_dup C dX12_waitsFor_51 52 rfl rfl ?_
    refine x_get C inX12 0 lm0 EM_0 rfl 42 (by decide) dX12_waitsFor_52 55 rfl wmf_X12_338 rfl ?_
    refine x_iconst C dX12_waitsFor_55 56 rfl 1 rfl ?_
    refine x_iadd C dX12_waitsFor_56 57 rfl ?_
    refine x_put C inX12 0 lm0 EM_0 rfl 42 (by decide) tyX12_ok nmX12 dX12_waitsFor_57 60 rfl wmf_X12_338 rfl rfl rfl (Nat.le_of_ble_eq_true rfl) EQ_0_42 h (fun a57 h => ?_)
    exact b_X12_waitsFor_60 C  h
theorem c_X12_waitsFor {l : Launch} {D : va_G} {ca : Nat → ClassId} {ad : Nat → Nat} (hI : xInj ad NCM) {N : Nat} {ah : AH} {p1 : Int32} {p2 : Int32} {a : AH} (h : F_X12_waitsFor N ah p1 p2 = some a) : xMv l yX12_waitsFor cX12_waitsFor 3 rm_X12_waitsFor D vwCl (tysM ca) (EM ad ca) NCM ad [.ref (ad 0), .int p1, .int p2] ah a := by
  refine x_metv (by decide) (Nat.le_of_ble_eq_true rfl) hI EM_loc ?_
  intro p e s m args below meth c C
  unfold F_X12_waitsFor at h
  refine x_aload_n C dX12_waitsFor_0 1 rfl 0 rfl ?_
  refine x_get C inX12 0 lm0 EM_0 rfl 40 (by decide) dX12_waitsFor_1 4 rfl wmf_X12_110 rfl ?_
  refine x_iload_n C dX12_waitsFor_4 5 rfl 1 rfl ?_
  refine x_iald C 30 lm30 EM_30 0 rfl dX12_waitsFor_5 6 rfl h (fun h => ?_)
  refine x_iconst C dX12_waitsFor_6 7 rfl 2 rfl ?_
  refine x_icmp_eq C dX12_waitsFor_7 10 rfl 30 rfl h (fun h => ?_) (fun h => ?_)
  · exact x_vret C rfl dX12_waitsFor_30 h
  · refine x_aload_n C dX12_waitsFor_10 11 rfl 0 rfl ?_
    refine x_get C inX12 0 lm0 EM_0 rfl 40 (by decide) dX12_waitsFor_11 14 rfl wmf_X12_110 rfl ?_
    refine x_iload_n C dX12_waitsFor_14 15 rfl 1 rfl ?_
    refine x_iald C 30 lm30 EM_30 0 rfl dX12_waitsFor_15 16 rfl h (fun h => ?_)
    refine x_iconst C dX12_waitsFor_16 17 rfl 1 rfl ?_
    refine x_icmp_ne C dX12_waitsFor_17 20 rfl 31 rfl h (fun h => ?_) (fun h => ?_)
    · exact b_X12_waitsFor_31 C  h
    · refine x_aload_n C dX12_waitsFor_20 21 rfl 0 rfl ?_
      refine x_get C inX12 0 lm0 EM_0 rfl 39 (by decide) dX12_waitsFor_21 24 rfl wmf_X12_107 rfl ?_
      refine x_iload_n C dX12_waitsFor_24 25 rfl 1 rfl ?_
      refine x_iald C 29 lm29 EM_29 0 rfl dX12_waitsFor_25 26 rfl h (fun h => ?_)
      refine x_iload_n C dX12_waitsFor_26 27 rfl 2 rfl ?_
      refine x_icmp_gt C dX12_waitsFor_27 30 rfl 31 rfl h (fun h => ?_) (fun h => ?_)
      · exact b_X12_waitsFor_31 C  h
      · exact x_vret C rfl dX12_waitsFor_30 h
abbrev rm_X12_firstState : Room := { frames := 1, cells := 0, slots := 0, locals := 21 }
theorem wq_X12_firstState : xcV RX12 yX12_firstState cX12_firstState 7 (some .int) 0 := ⟨wmi_X12_firstState, wms_X12_firstState, wmn_X12, wmc_X12_firstState, by decide, by decide, by decide +kernel⟩
def F_X12_firstState_112 (N : Nat) (k4 : AH → Int32 → Int32 → Option (Int32 × AH)) (ah : AH) (v1 : Int32) (v2 : Int32) : Option (Int32 × AH) := xlet (v2 + 1) (fun v2_112 => k4 ah v1 v2_112)
def F_X12_firstState_110 (N : Nat) (k4 : AH → Int32 → Int32 → Option (Int32 × AH)) (ah : AH) (v2 : Int32) : Option (Int32 × AH) := xlet v2 (fun v1_111 => F_X12_firstState_112 N k4 ah v1_111 v2)
def F_X12_firstState_4 (N : Nat) : Nat → AH → Int32 → Int32 → Option (Int32 × AH)
  | 0, _, _, _ => none
  | n + 1, ah, v1, v2 => if (ah 0 42) ≤ v2 then some (v1, ah) else if v1 = ((-1)) then xlet v2 (fun v1_18 => F_X12_firstState_112 N (F_X12_firstState_4 N n) ah v1_18 v2) else xg v2 18025 (xb (F_X12_boundOf N ah (ah 31 (Int32.toNatClampNeg v2))) (fun r29 a29 => xlet r29 (fun v3_32 => xg v1 18025 (xb (F_X12_boundOf N a29 (a29 31 (Int32.toNatClampNeg v1))) (fun r40 a40 => xlet r40 (fun v4_43 => xg v2 18025 (xz 721 (xlet ((a40 31 (Int32.toNatClampNeg v2)) / 721) (fun v5_55 => xg v1 18025 (xz 721 (xlet ((a40 31 (Int32.toNatClampNeg v1)) / 721) (fun v6_67 => if v3_32 < v4_43 then F_X12_firstState_110 N (F_X12_firstState_4 N n) a40 v2 else if v3_32 = v4_43 then if v6_67 < v5_55 then F_X12_firstState_110 N (F_X12_firstState_4 N n) a40 v2 else if v5_55 = v6_67 then xg v2 18025 (xg v1 18025 (if (a40 31 (Int32.toNatClampNeg v1)) ≤ (a40 31 (Int32.toNatClampNeg v2)) then F_X12_firstState_112 N (F_X12_firstState_4 N n) a40 v1 v2 else F_X12_firstState_110 N (F_X12_firstState_4 N n) a40 v2)) else F_X12_firstState_112 N (F_X12_firstState_4 N n) a40 v1 v2 else F_X12_firstState_112 N (F_X12_firstState_4 N n) a40 v1 v2))))))))))))
def F_X12_firstState (N : Nat) (ah : AH) : Option (Int32 × AH) := xlet ((-1)) (fun v1_1 => xlet 0 (fun v2_3 => F_X12_firstState_4 N N ah v1_1 v2_3))
theorem b_X12_firstState_112 (C : XC p l s m args meth c cX12_firstState 7 (some .int) RX12 D vwCl (tysM ca) (EM ad ca) NCM ad) {N : Nat} {o : (Int32 × AH)} {k4 : AH → Int32 → Int32 → Option (Int32 × AH)} (hk4 : ∀ (ah : AH) (v1 : Int32) (v2 : Int32), k4 ah v1 v2 = some o → XW p l e rm_X12_firstState s m args below meth c 7 0 (xQi below args s D vwCl (tysM ca) (EM ad ca) NCM ad o) D vwCl (EM ad ca) NCM ad ah 4 [(0, .ref (ad 0)), (1, .int v1), (2, .int v2)] []) {ah : AH} {v1 : Int32} {v2 : Int32} (h : F_X12_firstState_112 N k4 ah v1 v2 = some o) : XW p l e rm_X12_firstState s m args below meth c 7 0 (xQi below args s D vwCl (tysM ca) (EM ad ca) NCM ad o) D vwCl (EM ad ca) NCM ad ah 112 [(0, .ref (ad 0)), (1, .int v1), (2, .int v2)] [] := by
  unfold F_X12_firstState_112 at h
  refine x_iinc C dX12_firstState_112 115 rfl 2 rfl (d := 1) rfl (by decide) (fun v2_112 => [(2, .int v2_112), (0, .ref (ad 0)), (1, .int v1)]) (fun _ => rfl) h (fun v2_112 h => ?_)
  refine x_goto C dX12_firstState_115 4 rfl ?_
  exact x_sub [1, 2, 0] rfl (hk4 _ _ _ h)
theorem b_X12_firstState_110 (C : XC p l s m args meth c cX12_firstState 7 (some .int) RX12 D vwCl (tysM ca) (EM ad ca) NCM ad) {N : Nat} {o : (Int32 × AH)} {k4 : AH → Int32 → Int32 → Option (Int32 × AH)} (hk4 : ∀ (ah : AH) (v1 : Int32) (v2 : Int32), k4 ah v1 v2 = some o → XW p l e rm_X12_firstState s m args below meth c 7 0 (xQi below args s D vwCl (tysM ca) (EM ad ca) NCM ad o) D vwCl (EM ad ca) NCM ad ah 4 [(0, .ref (ad 0)), (1, .int v1), (2, .int v2)] []) {ah : AH} {v2 : Int32} (h : F_X12_firstState_110 N k4 ah v2 = some o) : XW p l e rm_X12_firstState s m args below meth c 7 0 (xQi below args s D vwCl (tysM ca) (EM ad ca) NCM ad o) D vwCl (EM ad ca) NCM ad ah 110 [(0, .ref (ad 0)), (2, .int v2)] [] := by
  unfold F_X12_firstState_110 at h
  refine x_iload_n C dX12_firstState_110 111 rfl 1 rfl ?_
  refine x_istore_n C dX12_firstState_111 112 rfl (by decide) (fun v1_111 => [(1, .int v1_111), (0, .ref (ad 0)), (2, .int v2)]) (fun _ => rfl) h (fun v1_111 h => ?_)
  exact x_sub [1, 0, 2] rfl (b_X12_firstState_112 C hk4 h)
theorem b_X12_firstState_4 (C : XC p l s m args meth c cX12_firstState 7 (some .int) RX12 D vwCl (tysM ca) (EM ad ca) NCM ad) {N : Nat} {o : (Int32 × AH)} : ∀ (n : Nat) {ah : AH} {v1 : Int32} {v2 : Int32}, F_X12_firstState_4 N n ah v1 v2 = some o → XW p l e rm_X12_firstState s m args below meth c 7 0 (xQi below args s D vwCl (tysM ca) (EM ad ca) NCM ad o) D vwCl (EM ad ca) NCM ad ah 4 [(0, .ref (ad 0)), (1, .int v1), (2, .int v2)] [] := by
  intro n
  induction n with
  | zero => intro ah v1 v2 h; unfold F_X12_firstState_4 at h; cases h
  | succ n ih =>
    intro ah v1 v2 h
    unfold F_X12_firstState_4 at h
    refine x_iload_n C dX12_firstState_4 5 rfl 2 rfl ?_
    refine x_aload_n C dX12_firstState_5 6 rfl 0 rfl ?_
    refine x_get C inX12 0 lm0 EM_0 rfl 42 (by decide) dX12_firstState_6 9 rfl wmf_X12_338 rfl ?_
    refine x_icmp_ge C dX12_firstState_9 12 rfl 118 rfl h (fun h => ?_) (fun h => ?_)
    · refine x_iload_n C dX12_firstState_118 119 rfl 1 rfl ?_
      exact x_iret C rfl dX12_firstState_119 h
    · refine x_iload_n C dX12_firstState_12 13 rfl 1 rfl ?_
      refine x_iconst C dX12_firstState_13 14 rfl (-1) rfl ?_
      refine x_icmp_ne C dX12_firstState_14 17 rfl 22 rfl h (fun h => ?_) (fun h => ?_)
      · refine x_aload_n C dX12_firstState_22 23 rfl 0 rfl ?_
        refine x_aload_n C dX12_firstState_23 24 rfl 0 rfl ?_
        refine x_get C inX12 0 lm0 EM_0 rfl 41 (by decide) dX12_firstState_24 27 rfl wmf_X12_113 rfl ?_
        refine x_iload_n C dX12_firstState_27 28 rfl 2 rfl ?_
        refine x_iald C 31 lm31 EM_31 0 rfl dX12_firstState_28 29 rfl h (fun h => ?_)
        obtain ⟨r29, a29, hq, h⟩ := xb_some h
        refine x_callVi C 0 (c_X12_boundOf C.2.2.2.2.2.2.1 hq) lm0 EM_0 rfl wml_X12_341 wq_X12_boundOf rfl ⟨by decide, by decide⟩ rfl rfl ⟨by decide, by decide⟩ dX12_firstState_29 32 rfl rfl (Nat.le_of_ble_eq_true rfl) ?_
        refine x_istore_n C dX12_firstState_32 33 rfl (by decide) (fun v3_32 => [(3, .int v3_32), (0, .ref (ad 0)), (1, .int v1), (2, .int v2)]) (fun _ => rfl) h (fun v3_32 h => ?_)
        refine x_aload_n C dX12_firstState_33 34 rfl 1 rfl ?_
        refine x_aload_n C dX12_firstState_34 35 rfl 1 rfl ?_
        refine x_get C inX12 0 lm0 EM_0 rfl 41 (by decide) dX12_firstState_35 38 rfl wmf_X12_113 rfl ?_
        refine x_iload_n C dX12_firstState_38 39 rfl 2 rfl ?_
        refine x_iald C 31 lm31 EM_31 0 rfl dX12_firstState_39 40 rfl h (fun h => ?_)
        obtain ⟨r40, a40, hq, h⟩ := xb_some h
        refine x_callVi C 0 (c_X12_boundOf C.2.2.2.2.2.2.1 hq) lm0 EM_0 rfl wml_X12_341 wq_X12_boundOf rfl ⟨by decide, by decide⟩ rfl rfl ⟨by decide, by decide⟩ dX12_firstState_40 43 rfl rfl (Nat.le_of_ble_eq_true rfl) ?_
        refine x_istore C dX12_firstState_43 45 rfl (by decide) (fun v4_43 => [(4, .int v4_43), (3, .int v3_32), (0, .ref (ad 0)), (1, .int v1), (2, .int v2)]) (fun _ => rfl) h (fun v4_43 h => ?_)
        refine x_aload_n C dX12_firstState_45 46 rfl 2 rfl ?_
        refine x_get C inX12 0 lm0 EM_0 rfl 41 (by decide) dX12_firstState_46 49 rfl wmf_X12_113 rfl ?_
        refine x_iload_n C dX12_firstState_49 50 rfl 4 rfl ?_
        refine x_iald C 31 lm31 EM_31 0 rfl dX12_firstState_50 51 rfl h (fun h => ?_)
        refine x_sipush C dX12_firstState_51 54 rfl 721 rfl ?_
        refine x_idiv C dX12_firstState_54 55 rfl h (fun h => ?_)
        refine x_istore C dX12_firstState_55 57 rfl (by decide) (fun v5_55 => [(5, .int v5_55), (4, .int v4_43), (3, .int v3_32), (0, .ref (ad 0)), (1, .int v1), (2, .int v2)]) (fun _ => rfl) h (fun v5_55 h => ?_)
        refine x_aload_n C dX12_firstState_57 58 rfl 3 rfl ?_
        refine x_get C inX12 0 lm0 EM_0 rfl 41 (by decide) dX12_firstState_58 61 rfl wmf_X12_113 rfl ?_
        refine x_iload_n C dX12_firstState_61 62 rfl 4 rfl ?_
        refine x_iald C 31 lm31 EM_31 0 rfl dX12_firstState_62 63 rfl h (fun h => ?_)
        refine x_sipush C dX12_firstState_63 66 rfl 721 rfl ?_
        refine x_idiv C dX12_firstState_66 67 rfl h (fun h => ?_)
        refine x_istore C dX12_firstState_67 69 rfl (by decide) (fun v6_67 => [(6, .int v6_67), (5, .int v5_55), (4, .int v4_43), (3, .int v3_32), (0, .ref (ad 0)), (1, .int v1), (2, .int v2)]) (fun _ => rfl) h (fun v6_67 h => ?_)
        refine x_iload_n C dX12_firstState_69 70 rfl 3 rfl ?_
        refine x_iload C dX12_firstState_70 72 rfl 2 rfl ?_
        refine x_icmp_lt C dX12_firstState_72 75 rfl 110 rfl h (fun h => ?_) (fun h => ?_)
        · exact x_sub [4, 6] rfl (b_X12_firstState_110 C (fun _ _ _ h => ih h) h)
        · refine x_iload_n C dX12_firstState_75 76 rfl 3 rfl ?_
          refine x_iload C dX12_firstState_76 78 rfl 2 rfl ?_
          refine x_icmp_ne C dX12_firstState_78 81 rfl 112 rfl h (fun h => ?_) (fun h => ?_)
          · exact x_sub [4, 5, 6] rfl (b_X12_firstState_112 C (fun _ _ _ h => ih h) h)
          · refine x_iload C dX12_firstState_81 83 rfl 1 rfl ?_
            refine x_iload C dX12_firstState_83 85 rfl 0 rfl ?_
            refine x_icmp_gt C dX12_firstState_85 88 rfl 110 rfl h (fun h => ?_) (fun h => ?_)
            · exact x_sub [4, 6] rfl (b_X12_firstState_110 C (fun _ _ _ h => ih h) h)
            · refine x_iload C dX12_firstState_88 90 rfl 1 rfl ?_
              refine x_iload C dX12_firstState_90 92 rfl 0 rfl ?_
              refine x_icmp_ne C dX12_firstState_92 95 rfl 112 rfl h (fun h => ?_) (fun h => ?_)
              · exact x_sub [4, 5, 6] rfl (b_X12_firstState_112 C (fun _ _ _ h => ih h) h)
              · refine x_aload_n C dX12_firstState_95 96 rfl 4 rfl ?_
                refine x_get C inX12 0 lm0 EM_0 rfl 41 (by decide) dX12_firstState_96 99 rfl wmf_X12_113 rfl ?_
                refine x_iload_n C dX12_firstState_99 100 rfl 6 rfl ?_
                refine x_iald C 31 lm31 EM_31 0 rfl dX12_firstState_100 101 rfl h (fun h => ?_)
                refine x_aload_n C dX12_firstState_101 102 rfl 4 rfl ?_
                refine x_get C inX12 0 lm0 EM_0 rfl 41 (by decide) dX12_firstState_102 105 rfl wmf_X12_113 rfl ?_
                refine x_iload_n C dX12_firstState_105 106 rfl 5 rfl ?_
                refine x_iald C 31 lm31 EM_31 0 rfl dX12_firstState_106 107 rfl h (fun h => ?_)
                refine x_icmp_ge C dX12_firstState_107 110 rfl 112 rfl h (fun h => ?_) (fun h => ?_)
                · exact x_sub [4, 5, 6] rfl (b_X12_firstState_112 C (fun _ _ _ h => ih h) h)
                · exact x_sub [4, 6] rfl (b_X12_firstState_110 C (fun _ _ _ h => ih h) h)
      · refine x_iload_n C dX12_firstState_17 18 rfl 2 rfl ?_
        refine x_istore_n C dX12_firstState_18 19 rfl (by decide) (fun v1_18 => [(1, .int v1_18), (0, .ref (ad 0)), (2, .int v2)]) (fun _ => rfl) h (fun v1_18 h => ?_)
        refine x_goto C dX12_firstState_19 112 rfl ?_
        exact x_sub [1, 0, 2] rfl (b_X12_firstState_112 C (fun _ _ _ h => ih h) h)
theorem c_X12_firstState {l : Launch} {D : va_G} {ca : Nat → ClassId} {ad : Nat → Nat} (hI : xInj ad NCM) {N : Nat} {ah : AH} {r : Int32} {a : AH} (h : F_X12_firstState N ah = some (r, a)) : xMi l yX12_firstState cX12_firstState 7 (some .int) rm_X12_firstState D vwCl (tysM ca) (EM ad ca) NCM ad [.ref (ad 0)] ah (r, a) := by
  refine x_meti (by decide) (Nat.le_of_ble_eq_true rfl) hI EM_loc ?_
  intro p e s m args below meth c C
  unfold F_X12_firstState at h
  refine x_iconst C dX12_firstState_0 1 rfl (-1) rfl ?_
  refine x_istore_n C dX12_firstState_1 2 rfl (by decide) (fun v1_1 => [(1, .int v1_1), (0, .ref (ad 0))]) (fun _ => rfl) h (fun v1_1 h => ?_)
  refine x_iconst C dX12_firstState_2 3 rfl 0 rfl ?_
  refine x_istore_n C dX12_firstState_3 4 rfl (by decide) (fun v2_3 => [(2, .int v2_3), (1, .int v1_1), (0, .ref (ad 0))]) (fun _ => rfl) h (fun v2_3 h => ?_)
  exact x_sub [2, 1, 0] rfl (b_X12_firstState_4 C  N h)
abbrev rm_X12_firstAnswer : Room := { frames := 0, cells := 0, slots := 0, locals := 0 }
theorem wq_X12_firstAnswer : xcV RX12 yX12_firstAnswer cX12_firstAnswer 3 (some .int) 0 := ⟨wmi_X12_firstAnswer, wms_X12_firstAnswer, wmn_X12, wmc_X12_firstAnswer, by decide, by decide, by decide +kernel⟩
def F_X12_firstAnswer_43 (N : Nat) (k4 : AH → Int32 → Int32 → Option (Int32 × AH)) (ah : AH) (v1 : Int32) (v2 : Int32) : Option (Int32 × AH) := xlet (v2 + 1) (fun v2_43 => k4 ah v1 v2_43)
def F_X12_firstAnswer_41 (N : Nat) (k4 : AH → Int32 → Int32 → Option (Int32 × AH)) (ah : AH) (v2 : Int32) : Option (Int32 × AH) := xlet v2 (fun v1_42 => F_X12_firstAnswer_43 N k4 ah v1_42 v2)
def F_X12_firstAnswer_4 (N : Nat) : Nat → AH → Int32 → Int32 → Option (Int32 × AH)
  | 0, _, _, _ => none
  | n + 1, ah, v1, v2 => if (ah 0 10) ≤ v2 then some (v1, ah) else xg v2 60 (if (ah 32 (Int32.toNatClampNeg v2)) < 0 then F_X12_firstAnswer_43 N (F_X12_firstAnswer_4 N n) ah v1 v2 else if v1 = ((-1)) then F_X12_firstAnswer_41 N (F_X12_firstAnswer_4 N n) ah v2 else xg v2 60 (xg v1 60 (if (ah 32 (Int32.toNatClampNeg v1)) ≤ (ah 32 (Int32.toNatClampNeg v2)) then F_X12_firstAnswer_43 N (F_X12_firstAnswer_4 N n) ah v1 v2 else F_X12_firstAnswer_41 N (F_X12_firstAnswer_4 N n) ah v2)))
def F_X12_firstAnswer (N : Nat) (ah : AH) : Option (Int32 × AH) := xlet ((-1)) (fun v1_1 => xlet 0 (fun v2_3 => F_X12_firstAnswer_4 N N ah v1_1 v2_3))
theorem b_X12_firstAnswer_43 (C : XC p l s m args meth c cX12_firstAnswer 3 (some .int) RX12 D vwCl (tysM ca) (EM ad ca) NCM ad) {N : Nat} {o : (Int32 × AH)} {k4 : AH → Int32 → Int32 → Option (Int32 × AH)} (hk4 : ∀ (ah : AH) (v1 : Int32) (v2 : Int32), k4 ah v1 v2 = some o → XW p l e rm_X12_firstAnswer s m args below meth c 3 0 (xQi below args s D vwCl (tysM ca) (EM ad ca) NCM ad o) D vwCl (EM ad ca) NCM ad ah 4 [(0, .ref (ad 0)), (1, .int v1), (2, .int v2)] []) {ah : AH} {v1 : Int32} {v2 : Int32} (h : F_X12_firstAnswer_43 N k4 ah v1 v2 = some o) : XW p l e rm_X12_firstAnswer s m args below meth c 3 0 (xQi below args s D vwCl (tysM ca) (EM ad ca) NCM ad o) D vwCl (EM ad ca) NCM ad ah 43 [(0, .ref (ad 0)), (1, .int v1), (2, .int v2)] [] := by
  unfold F_X12_firstAnswer_43 at h
  refine x_iinc C dX12_firstAnswer_43 46 rfl 2 rfl (d := 1) rfl (by decide) (fun v2_43 => [(2, .int v2_43), (0, .ref (ad 0)), (1, .int v1)]) (fun _ => rfl) h (fun v2_43 h => ?_)
  refine x_goto C dX12_firstAnswer_46 4 rfl ?_
  exact x_sub [1, 2, 0] rfl (hk4 _ _ _ h)
theorem b_X12_firstAnswer_41 (C : XC p l s m args meth c cX12_firstAnswer 3 (some .int) RX12 D vwCl (tysM ca) (EM ad ca) NCM ad) {N : Nat} {o : (Int32 × AH)} {k4 : AH → Int32 → Int32 → Option (Int32 × AH)} (hk4 : ∀ (ah : AH) (v1 : Int32) (v2 : Int32), k4 ah v1 v2 = some o → XW p l e rm_X12_firstAnswer s m args below meth c 3 0 (xQi below args s D vwCl (tysM ca) (EM ad ca) NCM ad o) D vwCl (EM ad ca) NCM ad ah 4 [(0, .ref (ad 0)), (1, .int v1), (2, .int v2)] []) {ah : AH} {v2 : Int32} (h : F_X12_firstAnswer_41 N k4 ah v2 = some o) : XW p l e rm_X12_firstAnswer s m args below meth c 3 0 (xQi below args s D vwCl (tysM ca) (EM ad ca) NCM ad o) D vwCl (EM ad ca) NCM ad ah 41 [(0, .ref (ad 0)), (2, .int v2)] [] := by
  unfold F_X12_firstAnswer_41 at h
  refine x_iload_n C dX12_firstAnswer_41 42 rfl 1 rfl ?_
  refine x_istore_n C dX12_firstAnswer_42 43 rfl (by decide) (fun v1_42 => [(1, .int v1_42), (0, .ref (ad 0)), (2, .int v2)]) (fun _ => rfl) h (fun v1_42 h => ?_)
  exact x_sub [1, 0, 2] rfl (b_X12_firstAnswer_43 C hk4 h)
theorem b_X12_firstAnswer_4 (C : XC p l s m args meth c cX12_firstAnswer 3 (some .int) RX12 D vwCl (tysM ca) (EM ad ca) NCM ad) {N : Nat} {o : (Int32 × AH)} : ∀ (n : Nat) {ah : AH} {v1 : Int32} {v2 : Int32}, F_X12_firstAnswer_4 N n ah v1 v2 = some o → XW p l e rm_X12_firstAnswer s m args below meth c 3 0 (xQi below args s D vwCl (tysM ca) (EM ad ca) NCM ad o) D vwCl (EM ad ca) NCM ad ah 4 [(0, .ref (ad 0)), (1, .int v1), (2, .int v2)] [] := by
  intro n
  induction n with
  | zero => intro ah v1 v2 h; unfold F_X12_firstAnswer_4 at h; cases h
  | succ n ih =>
    intro ah v1 v2 h
    unfold F_X12_firstAnswer_4 at h
    refine x_iload_n C dX12_firstAnswer_4 5 rfl 2 rfl ?_
    refine x_aload_n C dX12_firstAnswer_5 6 rfl 0 rfl ?_
    refine x_get C inX12 0 lm0 EM_0 rfl 10 (by decide) dX12_firstAnswer_6 9 rfl wmf_X12_257 rfl ?_
    refine x_icmp_ge C dX12_firstAnswer_9 12 rfl 49 rfl h (fun h => ?_) (fun h => ?_)
    · refine x_iload_n C dX12_firstAnswer_49 50 rfl 1 rfl ?_
      exact x_iret C rfl dX12_firstAnswer_50 h
    · refine x_aload_n C dX12_firstAnswer_12 13 rfl 0 rfl ?_
      refine x_get C inX12 0 lm0 EM_0 rfl 45 (by decide) dX12_firstAnswer_13 16 rfl wmf_X12_116 rfl ?_
      refine x_iload_n C dX12_firstAnswer_16 17 rfl 2 rfl ?_
      refine x_iald C 32 lm32 EM_32 0 rfl dX12_firstAnswer_17 18 rfl h (fun h => ?_)
      refine x_if_lt C dX12_firstAnswer_18 21 rfl 43 rfl h (fun h => ?_) (fun h => ?_)
      · exact b_X12_firstAnswer_43 C (fun _ _ _ h => ih h) h
      · refine x_iload_n C dX12_firstAnswer_21 22 rfl 1 rfl ?_
        refine x_iconst C dX12_firstAnswer_22 23 rfl (-1) rfl ?_
        refine x_icmp_eq C dX12_firstAnswer_23 26 rfl 41 rfl h (fun h => ?_) (fun h => ?_)
        · exact x_sub [0, 2] rfl (b_X12_firstAnswer_41 C (fun _ _ _ h => ih h) h)
        · refine x_aload_n C dX12_firstAnswer_26 27 rfl 0 rfl ?_
          refine x_get C inX12 0 lm0 EM_0 rfl 45 (by decide) dX12_firstAnswer_27 30 rfl wmf_X12_116 rfl ?_
          refine x_iload_n C dX12_firstAnswer_30 31 rfl 2 rfl ?_
          refine x_iald C 32 lm32 EM_32 0 rfl dX12_firstAnswer_31 32 rfl h (fun h => ?_)
          refine x_aload_n C dX12_firstAnswer_32 33 rfl 0 rfl ?_
          refine x_get C inX12 0 lm0 EM_0 rfl 45 (by decide) dX12_firstAnswer_33 36 rfl wmf_X12_116 rfl ?_
          refine x_iload_n C dX12_firstAnswer_36 37 rfl 1 rfl ?_
          refine x_iald C 32 lm32 EM_32 0 rfl dX12_firstAnswer_37 38 rfl h (fun h => ?_)
          refine x_icmp_ge C dX12_firstAnswer_38 41 rfl 43 rfl h (fun h => ?_) (fun h => ?_)
          · exact b_X12_firstAnswer_43 C (fun _ _ _ h => ih h) h
          · exact x_sub [0, 2] rfl (b_X12_firstAnswer_41 C (fun _ _ _ h => ih h) h)
theorem c_X12_firstAnswer {l : Launch} {D : va_G} {ca : Nat → ClassId} {ad : Nat → Nat} (hI : xInj ad NCM) {N : Nat} {ah : AH} {r : Int32} {a : AH} (h : F_X12_firstAnswer N ah = some (r, a)) : xMi l yX12_firstAnswer cX12_firstAnswer 3 (some .int) rm_X12_firstAnswer D vwCl (tysM ca) (EM ad ca) NCM ad [.ref (ad 0)] ah (r, a) := by
  refine x_meti (by decide) (Nat.le_of_ble_eq_true rfl) hI EM_loc ?_
  intro p e s m args below meth c C
  unfold F_X12_firstAnswer at h
  refine x_iconst C dX12_firstAnswer_0 1 rfl (-1) rfl ?_
  refine x_istore_n C dX12_firstAnswer_1 2 rfl (by decide) (fun v1_1 => [(1, .int v1_1), (0, .ref (ad 0))]) (fun _ => rfl) h (fun v1_1 h => ?_)
  refine x_iconst C dX12_firstAnswer_2 3 rfl 0 rfl ?_
  refine x_istore_n C dX12_firstAnswer_3 4 rfl (by decide) (fun v2_3 => [(2, .int v2_3), (1, .int v1_1), (0, .ref (ad 0))]) (fun _ => rfl) h (fun v2_3 h => ?_)
  exact x_sub [2, 1, 0] rfl (b_X12_firstAnswer_4 C  N h)
abbrev rm_X12_opens : Room := { frames := 1, cells := 0, slots := 0, locals := 23 }
theorem wq_X12_opens : xcV RX12 yX12_opens cX12_opens 9 none 1 := ⟨wmi_X12_opens, wms_X12_opens, wmn_X12, wmc_X12_opens, by decide, by decide, by decide +kernel⟩
def F_X12_opens_220 (N : Nat) (k115 : AH → Int32 → Int32 → Int32 → Int32 → Option AH) (ah : AH) (v2 : Int32) (v3 : Int32) (v4 : Int32) (v5 : Int32) : Option AH := xlet (v5 + 1) (fun v5_220 => k115 ah v2 v3 v4 v5_220)
def F_X12_opens_188 (N : Nat) (k115 : AH → Int32 → Int32 → Int32 → Int32 → Option AH) (ah : AH) (v2 : Int32) (v3 : Int32) (v4 : Int32) (v5 : Int32) (x6 : Nat) (v7 : Int32) : Option AH := if v7 = ((-1)) then F_X12_opens_220 N k115 ah v2 v3 v4 v5 else xg v2 18025 (xbv (F_X12_waitsFor N ah (((ah x6 0) * 721) + v7) ((ah 29 (Int32.toNatClampNeg v2)) + (ah x6 1))) (fun a217 => F_X12_opens_220 N k115 a217 v2 v3 v4 v5))
def F_X12_opens_152 (N : Nat) (k115 : AH → Int32 → Int32 → Int32 → Int32 → Option AH) : Nat → AH → Int32 → Int32 → Int32 → Int32 → Nat → Int32 → Int32 → Option AH
  | 0, _, _, _, _, _, _, _, _ => none
  | n + 1, ah, v2, v3, v4, v5, x6, v7, v8 => if (ah x6 2) ≤ v8 then F_X12_opens_188 N k115 ah v2 v3 v4 v5 x6 v7 else if v7 = ((-1)) then F_X12_opens_188 N k115 ah v2 v3 v4 v5 x6 v7 else xg (3 + v8) 7 (xb (F_X12_childOf N ah v7 (ah x6 (Int32.toNatClampNeg (3 + v8)))) (fun r177 a177 => xlet r177 (fun v7_180 => xlet (v8 + 1) (fun v8_182 => F_X12_opens_152 N k115 n a177 v2 v3 v4 v5 x6 v7_180 v8_182))))
def F_X12_opens_115 (N : Nat) : Nat → AH → Int32 → Int32 → Int32 → Int32 → Option AH
  | 0, _, _, _, _, _ => none
  | n + 1, ah, v2, v3, v4, v5 => if (ah 0 33) ≤ v3 then some ah else xg v3 49 (if (ah 25 (Int32.toNatClampNeg v3)) ≤ v5 then some ah else xg v3 48 (xg v5 60 (xlet (2423 + ((Int32.toNatClampNeg v3) * 60 + Int32.toNatClampNeg v5)) (fun x142 => xlet v4 (fun v7_147 => xlet 0 (fun v8_150 => F_X12_opens_152 N (F_X12_opens_115 N n) N ah v2 v3 v4 v5 x142 v7_147 v8_150))))))
def F_X12_opens_112 (N : Nat) (ah : AH) (v2 : Int32) (v3 : Int32) (v4 : Int32) : Option AH := xlet 0 (fun v5_113 => F_X12_opens_115 N N ah v2 v3 v4 v5_113)
def F_X12_opens (N : Nat) (ah : AH) (p1 : Int32) : Option AH := xg p1 18025 (xlet (ah 31 (Int32.toNatClampNeg p1)) (fun v2_6 => xz 721 (xlet (v2_6 / 721) (fun v3_12 => xz 721 (xlet (v2_6 - v2_6 / 721 * 721) (fun v4_18 => xlet (xu ah 0 42 ((ah 0 42) - 1)) (fun a27 => xg (a27 0 42) 18025 (xg p1 18025 (xlet (xu a27 31 (Int32.toNatClampNeg p1) (a27 31 (Int32.toNatClampNeg (a27 0 42)))) (fun a44 => xg v2_6 18025 (xlet (xu a44 30 (Int32.toNatClampNeg v2_6) 2) (fun a51 => xlet (xu a51 0 43 ((a51 0 43) + 1)) (fun a59 => if v3_12 = (a59 0 33) then xg v4_18 721 (if (a59 10 (Int32.toNatClampNeg v4_18)) = ((-1)) then F_X12_opens_112 N a59 v2_6 v3_12 v4_18 else xg v4_18 721 (xg v2_6 18025 (xg v4_18 721 (xg (a59 10 (Int32.toNatClampNeg v4_18)) 61 (xg (a59 10 (Int32.toNatClampNeg v4_18)) 60 (xlet (xu a59 32 (Int32.toNatClampNeg (a59 10 (Int32.toNatClampNeg v4_18))) ((a59 29 (Int32.toNatClampNeg v2_6)) + (a59 6 (Int32.toNatClampNeg (a59 10 (Int32.toNatClampNeg v4_18)))))) (fun a111 => F_X12_opens_112 N a111 v2_6 v3_12 v4_18))))))) else F_X12_opens_112 N a59 v2_6 v3_12 v4_18)))))))))))))
theorem b_X12_opens_220 (C : XC p l s m args meth c cX12_opens 9 none RX12 D vwCl (tysM ca) (EM ad ca) NCM ad) {N : Nat} {o : AH} {k115 : AH → Int32 → Int32 → Int32 → Int32 → Option AH} (hk115 : ∀ (ah : AH) (v2 : Int32) (v3 : Int32) (v4 : Int32) (v5 : Int32), k115 ah v2 v3 v4 v5 = some o → XW p l e rm_X12_opens s m args below meth c 9 0 (xQv below args s D vwCl (tysM ca) (EM ad ca) NCM ad o) D vwCl (EM ad ca) NCM ad ah 115 [(0, .ref (ad 0)), (2, .int v2), (3, .int v3), (4, .int v4), (5, .int v5)] []) {ah : AH} {v2 : Int32} {v3 : Int32} {v4 : Int32} {v5 : Int32} (h : F_X12_opens_220 N k115 ah v2 v3 v4 v5 = some o) : XW p l e rm_X12_opens s m args below meth c 9 0 (xQv below args s D vwCl (tysM ca) (EM ad ca) NCM ad o) D vwCl (EM ad ca) NCM ad ah 220 [(0, .ref (ad 0)), (2, .int v2), (3, .int v3), (4, .int v4), (5, .int v5)] [] := by
  unfold F_X12_opens_220 at h
  refine x_iinc C dX12_opens_220 223 rfl 4 rfl (d := 1) rfl (by decide) (fun v5_220 => [(5, .int v5_220), (0, .ref (ad 0)), (2, .int v2), (3, .int v3), (4, .int v4)]) (fun _ => rfl) h (fun v5_220 h => ?_)
  refine x_goto C dX12_opens_223 115 rfl ?_
  exact x_sub [1, 2, 3, 4, 0] rfl (hk115 _ _ _ _ _ h)
theorem b_X12_opens_188 (C : XC p l s m args meth c cX12_opens 9 none RX12 D vwCl (tysM ca) (EM ad ca) NCM ad) {N : Nat} {o : AH} {k115 : AH → Int32 → Int32 → Int32 → Int32 → Option AH} (hk115 : ∀ (ah : AH) (v2 : Int32) (v3 : Int32) (v4 : Int32) (v5 : Int32), k115 ah v2 v3 v4 v5 = some o → XW p l e rm_X12_opens s m args below meth c 9 0 (xQv below args s D vwCl (tysM ca) (EM ad ca) NCM ad o) D vwCl (EM ad ca) NCM ad ah 115 [(0, .ref (ad 0)), (2, .int v2), (3, .int v3), (4, .int v4), (5, .int v5)] []) {ah : AH} {v2 : Int32} {v3 : Int32} {v4 : Int32} {v5 : Int32} {x6 : Nat} {v7 : Int32} (hx6 : mI x6 7) (h : F_X12_opens_188 N k115 ah v2 v3 v4 v5 x6 v7 = some o) : XW p l e rm_X12_opens s m args below meth c 9 0 (xQv below args s D vwCl (tysM ca) (EM ad ca) NCM ad o) D vwCl (EM ad ca) NCM ad ah 188 [(0, .ref (ad 0)), (2, .int v2), (3, .int v3), (4, .int v4), (5, .int v5), (6, .ref (ad x6)), (7, .int v7)] [] := by
  unfold F_X12_opens_188 at h
  refine x_iload C dX12_opens_188 190 rfl 6 rfl ?_
  refine x_iconst C dX12_opens_190 191 rfl (-1) rfl ?_
  refine x_icmp_eq C dX12_opens_191 194 rfl 220 rfl h (fun h => ?_) (fun h => ?_)
  · exact x_sub [0, 1, 2, 3, 4] rfl (b_X12_opens_220 C hk115 h)
  · refine x_aload_n C dX12_opens_194 195 rfl 0 rfl ?_
    refine x_aload C dX12_opens_195 197 rfl 5 rfl ?_
    refine x_iconst C dX12_opens_197 198 rfl 0 rfl ?_
    refine x_ialdK C x6 hx6.1 (hx6.2 _ _ _) 0 rfl dX12_opens_198 199 rfl (by decide) 0 (by decide) ?_
    refine x_sipush C dX12_opens_199 202 rfl 721 rfl ?_
    refine x_imul C dX12_opens_202 203 rfl ?_
    refine x_iload C dX12_opens_203 205 rfl 6 rfl ?_
    refine x_iadd C dX12_opens_205 206 rfl ?_
    refine x_aload_n C dX12_opens_206 207 rfl 0 rfl ?_
    refine x_get C inX12 0 lm0 EM_0 rfl 39 (by decide) dX12_opens_207 210 rfl wmf_X12_107 rfl ?_
    refine x_iload_n C dX12_opens_210 211 rfl 1 rfl ?_
    refine x_iald C 29 lm29 EM_29 0 rfl dX12_opens_211 212 rfl h (fun h => ?_)
    refine x_aload C dX12_opens_212 214 rfl 5 rfl ?_
    refine x_iconst C dX12_opens_214 215 rfl 1 rfl ?_
    refine x_ialdK C x6 hx6.1 (hx6.2 _ _ _) 0 rfl dX12_opens_215 216 rfl (by decide) 1 (by decide) ?_
    refine x_iadd C dX12_opens_216 217 rfl ?_
    obtain ⟨a217, hq, h⟩ := xbv_some h
    refine x_callVv C 0 (c_X12_waitsFor C.2.2.2.2.2.2.1 hq) lm0 EM_0 rfl wml_X12_347 wq_X12_waitsFor rfl ⟨by decide, by decide⟩ rfl rfl ⟨by decide, by decide⟩ dX12_opens_217 220 rfl rfl (Nat.le_of_ble_eq_true rfl) ?_
    exact x_sub [0, 1, 2, 3, 4] rfl (b_X12_opens_220 C hk115 h)
theorem b_X12_opens_152 (C : XC p l s m args meth c cX12_opens 9 none RX12 D vwCl (tysM ca) (EM ad ca) NCM ad) {N : Nat} {o : AH} {k115 : AH → Int32 → Int32 → Int32 → Int32 → Option AH} (hk115 : ∀ (ah : AH) (v2 : Int32) (v3 : Int32) (v4 : Int32) (v5 : Int32), k115 ah v2 v3 v4 v5 = some o → XW p l e rm_X12_opens s m args below meth c 9 0 (xQv below args s D vwCl (tysM ca) (EM ad ca) NCM ad o) D vwCl (EM ad ca) NCM ad ah 115 [(0, .ref (ad 0)), (2, .int v2), (3, .int v3), (4, .int v4), (5, .int v5)] []) : ∀ (n : Nat) {ah : AH} {v2 : Int32} {v3 : Int32} {v4 : Int32} {v5 : Int32} {x6 : Nat} {v7 : Int32} {v8 : Int32} (hx6 : mI x6 7), F_X12_opens_152 N k115 n ah v2 v3 v4 v5 x6 v7 v8 = some o → XW p l e rm_X12_opens s m args below meth c 9 0 (xQv below args s D vwCl (tysM ca) (EM ad ca) NCM ad o) D vwCl (EM ad ca) NCM ad ah 152 [(0, .ref (ad 0)), (2, .int v2), (3, .int v3), (4, .int v4), (5, .int v5), (6, .ref (ad x6)), (7, .int v7), (8, .int v8)] [] := by
  intro n
  induction n with
  | zero => intro ah v2 v3 v4 v5 x6 v7 v8 hx6 h; unfold F_X12_opens_152 at h; cases h
  | succ n ih =>
    intro ah v2 v3 v4 v5 x6 v7 v8 hx6 h
    unfold F_X12_opens_152 at h
    refine x_iload C dX12_opens_152 154 rfl 7 rfl ?_
    refine x_aload C dX12_opens_154 156 rfl 5 rfl ?_
    refine x_iconst C dX12_opens_156 157 rfl 2 rfl ?_
    refine x_ialdK C x6 hx6.1 (hx6.2 _ _ _) 0 rfl dX12_opens_157 158 rfl (by decide) 2 (by decide) ?_
    refine x_icmp_ge C dX12_opens_158 161 rfl 188 rfl h (fun h => ?_) (fun h => ?_)
    · exact x_sub [0, 1, 2, 3, 4, 5, 6] rfl (b_X12_opens_188 C hk115 hx6 h)
    · refine x_iload C dX12_opens_161 163 rfl 6 rfl ?_
      refine x_iconst C dX12_opens_163 164 rfl (-1) rfl ?_
      refine x_icmp_eq C dX12_opens_164 167 rfl 188 rfl h (fun h => ?_) (fun h => ?_)
      · exact x_sub [0, 1, 2, 3, 4, 5, 6] rfl (b_X12_opens_188 C hk115 hx6 h)
      · refine x_aload_n C dX12_opens_167 168 rfl 0 rfl ?_
        refine x_iload C dX12_opens_168 170 rfl 6 rfl ?_
        refine x_aload C dX12_opens_170 172 rfl 5 rfl ?_
        refine x_iconst C dX12_opens_172 173 rfl 3 rfl ?_
        refine x_iload C dX12_opens_173 175 rfl 7 rfl ?_
        refine x_iadd C dX12_opens_175 176 rfl ?_
        refine x_iald C x6 hx6.1 (hx6.2 _ _ _) 0 rfl dX12_opens_176 177 rfl h (fun h => ?_)
        obtain ⟨r177, a177, hq, h⟩ := xb_some h
        refine x_callVi C 0 (c_X12_childOf C.2.2.2.2.2.2.1 hq) lm0 EM_0 rfl wml_X12_272 wq_X12_childOf rfl ⟨by decide, by decide⟩ rfl rfl ⟨by decide, by decide⟩ dX12_opens_177 180 rfl rfl (Nat.le_of_ble_eq_true rfl) ?_
        refine x_istore C dX12_opens_180 182 rfl (by decide) (fun v7_180 => [(7, .int v7_180), (0, .ref (ad 0)), (2, .int v2), (3, .int v3), (4, .int v4), (5, .int v5), (6, .ref (ad x6)), (8, .int v8)]) (fun _ => rfl) h (fun v7_180 h => ?_)
        refine x_iinc C dX12_opens_182 185 rfl 7 rfl (d := 1) rfl (by decide) (fun v8_182 => [(8, .int v8_182), (7, .int v7_180), (0, .ref (ad 0)), (2, .int v2), (3, .int v3), (4, .int v4), (5, .int v5), (6, .ref (ad x6))]) (fun _ => rfl) h (fun v8_182 h => ?_)
        refine x_goto C dX12_opens_185 152 rfl ?_
        exact x_sub [2, 3, 4, 5, 6, 7, 1, 0] rfl (ih hx6 h)
theorem b_X12_opens_115 (C : XC p l s m args meth c cX12_opens 9 none RX12 D vwCl (tysM ca) (EM ad ca) NCM ad) {N : Nat} {o : AH} : ∀ (n : Nat) {ah : AH} {v2 : Int32} {v3 : Int32} {v4 : Int32} {v5 : Int32}, F_X12_opens_115 N n ah v2 v3 v4 v5 = some o → XW p l e rm_X12_opens s m args below meth c 9 0 (xQv below args s D vwCl (tysM ca) (EM ad ca) NCM ad o) D vwCl (EM ad ca) NCM ad ah 115 [(0, .ref (ad 0)), (2, .int v2), (3, .int v3), (4, .int v4), (5, .int v5)] [] := by
  intro n
  induction n with
  | zero => intro ah v2 v3 v4 v5 h; unfold F_X12_opens_115 at h; cases h
  | succ n ih =>
    intro ah v2 v3 v4 v5 h
    unfold F_X12_opens_115 at h
    refine x_iload_n C dX12_opens_115 116 rfl 2 rfl ?_
    refine x_aload_n C dX12_opens_116 117 rfl 0 rfl ?_
    refine x_get C inX12 0 lm0 EM_0 rfl 33 (by decide) dX12_opens_117 120 rfl wmf_X12_314 rfl ?_
    refine x_icmp_ge C dX12_opens_120 123 rfl 226 rfl h (fun h => ?_) (fun h => ?_)
    · exact x_vret C rfl dX12_opens_226 h
    · refine x_iload C dX12_opens_123 125 rfl 4 rfl ?_
      refine x_aload_n C dX12_opens_125 126 rfl 0 rfl ?_
      refine x_get C inX12 0 lm0 EM_0 rfl 35 (by decide) dX12_opens_126 129 rfl wmf_X12_95 rfl ?_
      refine x_iload_n C dX12_opens_129 130 rfl 2 rfl ?_
      refine x_iald C 25 lm25 EM_25 0 rfl dX12_opens_130 131 rfl h (fun h => ?_)
      refine x_icmp_ge C dX12_opens_131 134 rfl 226 rfl h (fun h => ?_) (fun h => ?_)
      · exact x_vret C rfl dX12_opens_226 h
      · refine x_aload_n C dX12_opens_134 135 rfl 0 rfl ?_
        refine x_get C inX12 0 lm0 EM_0 rfl 37 (by decide) dX12_opens_135 138 rfl wmf_X12_101 rfl ?_
        refine x_iload_n C dX12_opens_138 139 rfl 2 rfl ?_
        refine x_aald C (27) lm27 EM_27 3 rfl rfl dX12_opens_139 140 rfl (2375 + (Int32.toNatClampNeg v3)) rfl h (fun hb139 h => ?_)
        refine x_iload C dX12_opens_140 142 rfl 4 rfl ?_
        refine x_aaldL C (2375 + (Int32.toNatClampNeg v3)) (lm_edge_1 hb139) (EM_edge_1 hb139) 2 rfl rfl dX12_opens_142 143 rfl (2423 + ((Int32.toNatClampNeg v3) * 60 + Int32.toNatClampNeg v5)) rfl h (fun x142 ex142 hb142 h => ?_)
        have hx142 : mI x142 7 := ex142 ▸ mI_edge (xfl hb139 hb142)
        refine x_astore C dX12_opens_143 145 rfl (by decide) [(6, .ref (ad x142)), (0, .ref (ad 0)), (2, .int v2), (3, .int v3), (4, .int v4), (5, .int v5)] rfl ?_
        refine x_iload C dX12_opens_145 147 rfl 4 rfl ?_
        refine x_istore C dX12_opens_147 149 rfl (by decide) (fun v7_147 => [(7, .int v7_147), (6, .ref (ad x142)), (0, .ref (ad 0)), (2, .int v2), (3, .int v3), (4, .int v4), (5, .int v5)]) (fun _ => rfl) h (fun v7_147 h => ?_)
        refine x_iconst C dX12_opens_149 150 rfl 0 rfl ?_
        refine x_istore C dX12_opens_150 152 rfl (by decide) (fun v8_150 => [(8, .int v8_150), (7, .int v7_147), (6, .ref (ad x142)), (0, .ref (ad 0)), (2, .int v2), (3, .int v3), (4, .int v4), (5, .int v5)]) (fun _ => rfl) h (fun v8_150 h => ?_)
        exact x_sub [3, 4, 5, 6, 7, 2, 1, 0] rfl (b_X12_opens_152 C (fun _ _ _ _ _ h => ih h) N hx142 h)
theorem b_X12_opens_112 (C : XC p l s m args meth c cX12_opens 9 none RX12 D vwCl (tysM ca) (EM ad ca) NCM ad) {N : Nat} {o : AH} {ah : AH} {v2 : Int32} {v3 : Int32} {v4 : Int32} (h : F_X12_opens_112 N ah v2 v3 v4 = some o) : XW p l e rm_X12_opens s m args below meth c 9 0 (xQv below args s D vwCl (tysM ca) (EM ad ca) NCM ad o) D vwCl (EM ad ca) NCM ad ah 112 [(0, .ref (ad 0)), (2, .int v2), (3, .int v3), (4, .int v4)] [] := by
  unfold F_X12_opens_112 at h
  refine x_iconst C dX12_opens_112 113 rfl 0 rfl ?_
  refine x_istore C dX12_opens_113 115 rfl (by decide) (fun v5_113 => [(5, .int v5_113), (0, .ref (ad 0)), (2, .int v2), (3, .int v3), (4, .int v4)]) (fun _ => rfl) h (fun v5_113 h => ?_)
  exact x_sub [1, 2, 3, 4, 0] rfl (b_X12_opens_115 C  N h)
theorem c_X12_opens {l : Launch} {D : va_G} {ca : Nat → ClassId} {ad : Nat → Nat} (hI : xInj ad NCM) {N : Nat} {ah : AH} {p1 : Int32} {a : AH} (h : F_X12_opens N ah p1 = some a) : xMv l yX12_opens cX12_opens 9 rm_X12_opens D vwCl (tysM ca) (EM ad ca) NCM ad [.ref (ad 0), .int p1] ah a := by
  refine x_metv (by decide) (Nat.le_of_ble_eq_true rfl) hI EM_loc ?_
  intro p e s m args below meth c C
  unfold F_X12_opens at h
  refine x_aload_n C dX12_opens_0 1 rfl 0 rfl ?_
  refine x_get C inX12 0 lm0 EM_0 rfl 41 (by decide) dX12_opens_1 4 rfl wmf_X12_113 rfl ?_
  refine x_iload_n C dX12_opens_4 5 rfl 1 rfl ?_
  refine x_iald C 31 lm31 EM_31 0 rfl dX12_opens_5 6 rfl h (fun h => ?_)
  refine x_istore_n C dX12_opens_6 7 rfl (by decide) (fun v2_6 => [(2, .int v2_6), (0, .ref (ad 0)), (1, .int p1)]) (fun _ => rfl) h (fun v2_6 h => ?_)
  refine x_iload_n C dX12_opens_7 8 rfl 0 rfl ?_
  refine x_sipush C dX12_opens_8 11 rfl 721 rfl ?_
  refine x_idiv C dX12_opens_11 12 rfl h (fun h => ?_)
  refine x_istore_n C dX12_opens_12 13 rfl (by decide) (fun v3_12 => [(3, .int v3_12), (2, .int v2_6), (0, .ref (ad 0)), (1, .int p1)]) (fun _ => rfl) h (fun v3_12 h => ?_)
  refine x_iload_n C dX12_opens_13 14 rfl 1 rfl ?_
  refine x_sipush C dX12_opens_14 17 rfl 721 rfl ?_
  refine x_irem C dX12_opens_17 18 rfl h (fun h => ?_)
  refine x_istore C dX12_opens_18 20 rfl (by decide) (fun v4_18 => [(4, .int v4_18), (3, .int v3_12), (2, .int v2_6), (0, .ref (ad 0)), (1, .int p1)]) (fun _ => rfl) h (fun v4_18 h => ?_)
  refine x_aload_n C dX12_opens_20 21 rfl 3 rfl ?_
  refine x_dup C dX12_opens_21 22 rfl rfl ?_
  refine x_get C inX12 0 lm0 EM_0 rfl 42 (by decide) dX12_opens_22 25 rfl wmf_X12_338 rfl ?_
  refine x_iconst C dX12_opens_25 26 rfl 1 rfl ?_
  refine x_isub C dX12_opens_26 27 rfl ?_
  refine x_put C inX12 0 lm0 EM_0 rfl 42 (by decide) tyX12_ok nmX12 dX12_opens_27 30 rfl wmf_X12_338 rfl rfl rfl (Nat.le_of_ble_eq_true rfl) EQ_0_42 h (fun a27 h => ?_)
  refine x_aload_n C dX12_opens_30 31 rfl 3 rfl ?_
  refine x_get C inX12 0 lm0 EM_0 rfl 41 (by decide) dX12_opens_31 34 rfl wmf_X12_113 rfl ?_
  refine x_iload_n C dX12_opens_34 35 rfl 4 rfl ?_
  refine x_aload_n C dX12_opens_35 36 rfl 3 rfl ?_
  refine x_get C inX12 0 lm0 EM_0 rfl 41 (by decide) dX12_opens_36 39 rfl wmf_X12_113 rfl ?_
  refine x_aload_n C dX12_opens_39 40 rfl 3 rfl ?_
  refine x_get C inX12 0 lm0 EM_0 rfl 42 (by decide) dX12_opens_40 43 rfl wmf_X12_338 rfl ?_
  refine x_iald C 31 lm31 EM_31 0 rfl dX12_opens_43 44 rfl h (fun h => ?_)
  refine x_iast C 31 lm31 (fun _ => EM_31) 0 rfl dX12_opens_44 45 rfl h (fun a44 h => ?_)
  refine x_aload_n C dX12_opens_45 46 rfl 3 rfl ?_
  refine x_get C inX12 0 lm0 EM_0 rfl 40 (by decide) dX12_opens_46 49 rfl wmf_X12_110 rfl ?_
  refine x_iload_n C dX12_opens_49 50 rfl 2 rfl ?_
  refine x_iconst C dX12_opens_50 51 rfl 2 rfl ?_
  refine x_iast C 30 lm30 (fun _ => EM_30) 0 rfl dX12_opens_51 52 rfl h (fun a51 h => ?_)
  refine x_aload_n C dX12_opens_52 53 rfl 3 rfl ?_
  refine x_dup C dX12_opens_53 54 rfl rfl ?_
  refine x_get C inX12 0 lm0 EM_0 rfl 43 (by decide) dX12_opens_54 57 rfl wmf_X12_344 rfl ?_
  refine x_iconst C dX12_opens_57 58 rfl 1 rfl ?_
  refine x_iadd C dX12_opens_58 59 rfl ?_
  refine x_put C inX12 0 lm0 EM_0 rfl 43 (by decide) tyX12_ok nmX12 dX12_opens_59 62 rfl wmf_X12_344 rfl rfl rfl (Nat.le_of_ble_eq_true rfl) EQ_0_43 h (fun a59 h => ?_)
  refine x_iload_n C dX12_opens_62 63 rfl 1 rfl ?_
  refine x_aload_n C dX12_opens_63 64 rfl 3 rfl ?_
  refine x_get C inX12 0 lm0 EM_0 rfl 33 (by decide) dX12_opens_64 67 rfl wmf_X12_314 rfl ?_
  refine x_icmp_ne C dX12_opens_67 70 rfl 112 rfl h (fun h => ?_) (fun h => ?_)
  · exact x_sub [3, 2, 1, 0] rfl (b_X12_opens_112 C  h)
  · refine x_aload_n C dX12_opens_70 71 rfl 3 rfl ?_
    refine x_get C inX12 0 lm0 EM_0 rfl 18 (by decide) dX12_opens_71 74 rfl wmf_X12_46 rfl ?_
    refine x_iload C dX12_opens_74 76 rfl 0 rfl ?_
    refine x_iald C 10 lm10 EM_10 0 rfl dX12_opens_76 77 rfl h (fun h => ?_)
    refine x_iconst C dX12_opens_77 78 rfl (-1) rfl ?_
    refine x_icmp_eq C dX12_opens_78 81 rfl 112 rfl h (fun h => ?_) (fun h => ?_)
    · exact x_sub [3, 2, 1, 0] rfl (b_X12_opens_112 C  h)
    · refine x_aload_n C dX12_opens_81 82 rfl 3 rfl ?_
      refine x_get C inX12 0 lm0 EM_0 rfl 45 (by decide) dX12_opens_82 85 rfl wmf_X12_116 rfl ?_
      refine x_aload_n C dX12_opens_85 86 rfl 3 rfl ?_
      refine x_get C inX12 0 lm0 EM_0 rfl 18 (by decide) dX12_opens_86 89 rfl wmf_X12_46 rfl ?_
      refine x_iload C dX12_opens_89 91 rfl 0 rfl ?_
      refine x_iald C 10 lm10 EM_10 0 rfl dX12_opens_91 92 rfl h (fun h => ?_)
      refine x_aload_n C dX12_opens_92 93 rfl 3 rfl ?_
      refine x_get C inX12 0 lm0 EM_0 rfl 39 (by decide) dX12_opens_93 96 rfl wmf_X12_107 rfl ?_
      refine x_iload_n C dX12_opens_96 97 rfl 2 rfl ?_
      refine x_iald C 29 lm29 EM_29 0 rfl dX12_opens_97 98 rfl h (fun h => ?_)
      refine x_aload_n C dX12_opens_98 99 rfl 3 rfl ?_
      refine x_get C inX12 0 lm0 EM_0 rfl 13 (by decide) dX12_opens_99 102 rfl wmf_X12_31 rfl ?_
      refine x_aload_n C dX12_opens_102 103 rfl 3 rfl ?_
      refine x_get C inX12 0 lm0 EM_0 rfl 18 (by decide) dX12_opens_103 106 rfl wmf_X12_46 rfl ?_
      refine x_iload C dX12_opens_106 108 rfl 0 rfl ?_
      refine x_iald C 10 lm10 EM_10 0 rfl dX12_opens_108 109 rfl h (fun h => ?_)
      refine x_iald C 6 lm6 EM_6 0 rfl dX12_opens_109 110 rfl h (fun h => ?_)
      refine x_iadd C dX12_opens_110 111 rfl ?_
      refine x_iast C 32 lm32 (fun _ => EM_32) 0 rfl dX12_opens_111 112 rfl h (fun a111 h => ?_)
      exact x_sub [3, 2, 1, 0] rfl (b_X12_opens_112 C  h)
abbrev rm_X12_searches : Room := { frames := 2, cells := 0, slots := 0, locals := 51 }
theorem wq_X12_searches : xcV RX12 yX12_searches cX12_searches 4 none 1 := ⟨wmi_X12_searches, wms_X12_searches, wmn_X12, wmc_X12_searches, by decide, by decide, by decide +kernel⟩
def F_X12_searches_201 (N : Nat) (k80 : AH → Int32 → Option AH) (ah : AH) (v1 : Int32) : Option AH := k80 ah v1
def F_X12_searches_196 (N : Nat) (k80 : AH → Int32 → Option AH) (ah : AH) (v1 : Int32) (v3 : Int32) : Option AH := xbv (F_X12_opens N ah v3) (fun a198 => F_X12_searches_201 N k80 a198 v1)
def F_X12_searches_138 (N : Nat) (k80 : AH → Int32 → Option AH) (ah : AH) (v1 : Int32) (v2 : Int32) : Option AH := xg (ah 0 49) 60 (xlet (xu ah 33 (Int32.toNatClampNeg (ah 0 49)) v2) (fun a147 => xg v2 60 (xg (a147 0 49) 60 (xlet (xu a147 34 (Int32.toNatClampNeg (a147 0 49)) (a147 32 (Int32.toNatClampNeg v2))) (fun a162 => xg (a162 0 49) 60 (xlet (xu a162 35 (Int32.toNatClampNeg (a162 0 49)) (a162 0 43)) (fun a175 => xlet (xu a175 0 49 ((a175 0 49) + 1)) (fun a183 => xg v2 60 (xlet (xu a183 32 (Int32.toNatClampNeg v2) ((-1))) (fun a192 => F_X12_searches_201 N k80 a192 v1))))))))))
def F_X12_searches_109 (N : Nat) (k80 : AH → Int32 → Option AH) (ah : AH) (v1 : Int32) (v2 : Int32) (v3 : Int32) : Option AH := if v2 = ((-1)) then F_X12_searches_196 N k80 ah v1 v3 else if v3 = ((-1)) then F_X12_searches_138 N k80 ah v1 v2 else xg v2 60 (xg v3 18025 (xb (F_X12_boundOf N ah (ah 31 (Int32.toNatClampNeg v3))) (fun r132 a132 => if r132 < (ah 32 (Int32.toNatClampNeg v2)) then F_X12_searches_196 N k80 a132 v1 v3 else F_X12_searches_138 N k80 a132 v1 v2)))
def F_X12_searches_80 (N : Nat) : Nat → AH → Int32 → Option AH
  | 0, _, _ => none
  | n + 1, ah, v1 => if v1 ≤ (ah 0 49) then some ah else xb (F_X12_firstAnswer N ah) (fun r89 a89 => xlet r89 (fun v2_92 => xb (F_X12_firstState N a89) (fun r94 a94 => xlet r94 (fun v3_97 => if v2_92 = ((-1)) then if v3_97 = ((-1)) then some a94 else F_X12_searches_109 N (F_X12_searches_80 N n) a94 v1 v2_92 v3_97 else F_X12_searches_109 N (F_X12_searches_80 N n) a94 v1 v2_92 v3_97))))
def F_X12_searches_46 (N : Nat) : Nat → AH → Int32 → Int32 → Option AH
  | 0, _, _, _ => none
  | n + 1, ah, v1, v2 => if (ah 0 10) ≤ v2 then if (ah 0 10) ≤ 0 then F_X12_searches_80 N N ah v1 else xbv (F_X12_waitsFor N ah 0 0) (fun a77 => F_X12_searches_80 N N a77 v1) else xg v2 60 (xlet (xu ah 32 (Int32.toNatClampNeg v2) ((-1))) (fun a60 => xlet (v2 + 1) (fun v2_61 => F_X12_searches_46 N n a60 v1 v2_61)))
def F_X12_searches_17 (N : Nat) : Nat → AH → Int32 → Int32 → Option AH
  | 0, _, _, _ => none
  | n + 1, ah, v1, v2 => if (((ah 0 33) + 1) * 721) ≤ v2 then xlet 0 (fun v2_45 => F_X12_searches_46 N N ah v1 v2_45) else xg v2 18025 (xlet (xu ah 30 (Int32.toNatClampNeg v2) 0) (fun a37 => xlet (v2 + 1) (fun v2_38 => F_X12_searches_17 N n a37 v1 v2_38)))
def F_X12_searches (N : Nat) (ah : AH) (p1 : Int32) : Option AH := xlet (xu ah 0 42 0) (fun a2 => xlet (xu a2 0 43 0) (fun a7 => xlet (xu a7 0 49 0) (fun a12 => xlet 0 (fun v2_16 => F_X12_searches_17 N N a12 p1 v2_16))))
theorem b_X12_searches_201 (C : XC p l s m args meth c cX12_searches 4 none RX12 D vwCl (tysM ca) (EM ad ca) NCM ad) {N : Nat} {o : AH} {k80 : AH → Int32 → Option AH} (hk80 : ∀ (ah : AH) (v1 : Int32), k80 ah v1 = some o → XW p l e rm_X12_searches s m args below meth c 4 0 (xQv below args s D vwCl (tysM ca) (EM ad ca) NCM ad o) D vwCl (EM ad ca) NCM ad ah 80 [(0, .ref (ad 0)), (1, .int v1)] []) {ah : AH} {v1 : Int32} (h : F_X12_searches_201 N k80 ah v1 = some o) : XW p l e rm_X12_searches s m args below meth c 4 0 (xQv below args s D vwCl (tysM ca) (EM ad ca) NCM ad o) D vwCl (EM ad ca) NCM ad ah 201 [(0, .ref (ad 0)), (1, .int v1)] [] := by
  unfold F_X12_searches_201 at h
  refine x_goto C dX12_searches_201 80 rfl ?_
  exact hk80 _ _ h
theorem b_X12_searches_196 (C : XC p l s m args meth c cX12_searches 4 none RX12 D vwCl (tysM ca) (EM ad ca) NCM ad) {N : Nat} {o : AH} {k80 : AH → Int32 → Option AH} (hk80 : ∀ (ah : AH) (v1 : Int32), k80 ah v1 = some o → XW p l e rm_X12_searches s m args below meth c 4 0 (xQv below args s D vwCl (tysM ca) (EM ad ca) NCM ad o) D vwCl (EM ad ca) NCM ad ah 80 [(0, .ref (ad 0)), (1, .int v1)] []) {ah : AH} {v1 : Int32} {v3 : Int32} (h : F_X12_searches_196 N k80 ah v1 v3 = some o) : XW p l e rm_X12_searches s m args below meth c 4 0 (xQv below args s D vwCl (tysM ca) (EM ad ca) NCM ad o) D vwCl (EM ad ca) NCM ad ah 196 [(0, .ref (ad 0)), (1, .int v1), (3, .int v3)] [] := by
  unfold F_X12_searches_196 at h
  refine x_aload_n C dX12_searches_196 197 rfl 0 rfl ?_
  refine x_iload_n C dX12_searches_197 198 rfl 2 rfl ?_
  obtain ⟨a198, hq, h⟩ := xbv_some h
  refine x_callVv C 0 (c_X12_opens C.2.2.2.2.2.2.1 hq) lm0 EM_0 rfl wml_X12_359 wq_X12_opens rfl ⟨by decide, by decide⟩ rfl rfl ⟨by decide, by decide⟩ dX12_searches_198 201 rfl rfl (Nat.le_of_ble_eq_true rfl) ?_
  exact x_sub [0, 1] rfl (b_X12_searches_201 C hk80 h)
theorem b_X12_searches_138 (C : XC p l s m args meth c cX12_searches 4 none RX12 D vwCl (tysM ca) (EM ad ca) NCM ad) {N : Nat} {o : AH} {k80 : AH → Int32 → Option AH} (hk80 : ∀ (ah : AH) (v1 : Int32), k80 ah v1 = some o → XW p l e rm_X12_searches s m args below meth c 4 0 (xQv below args s D vwCl (tysM ca) (EM ad ca) NCM ad o) D vwCl (EM ad ca) NCM ad ah 80 [(0, .ref (ad 0)), (1, .int v1)] []) {ah : AH} {v1 : Int32} {v2 : Int32} (h : F_X12_searches_138 N k80 ah v1 v2 = some o) : XW p l e rm_X12_searches s m args below meth c 4 0 (xQv below args s D vwCl (tysM ca) (EM ad ca) NCM ad o) D vwCl (EM ad ca) NCM ad ah 138 [(0, .ref (ad 0)), (1, .int v1), (2, .int v2)] [] := by
  unfold F_X12_searches_138 at h
  refine x_aload_n C dX12_searches_138 139 rfl 0 rfl ?_
  refine x_get C inX12 0 lm0 EM_0 rfl 46 (by decide) dX12_searches_139 142 rfl wmf_X12_119 rfl ?_
  refine x_aload_n C dX12_searches_142 143 rfl 0 rfl ?_
  refine x_get C inX12 0 lm0 EM_0 rfl 49 (by decide) dX12_searches_143 146 rfl wmf_X12_350 rfl ?_
  refine x_iload_n C dX12_searches_146 147 rfl 2 rfl ?_
  refine x_iast C 33 lm33 (fun _ => EM_33) 0 rfl dX12_searches_147 148 rfl h (fun a147 h => ?_)
  refine x_aload_n C dX12_searches_148 149 rfl 0 rfl ?_
  refine x_get C inX12 0 lm0 EM_0 rfl 47 (by decide) dX12_searches_149 152 rfl wmf_X12_122 rfl ?_
  refine x_aload_n C dX12_searches_152 153 rfl 0 rfl ?_
  refine x_get C inX12 0 lm0 EM_0 rfl 49 (by decide) dX12_searches_153 156 rfl wmf_X12_350 rfl ?_
  refine x_aload_n C dX12_searches_156 157 rfl 0 rfl ?_
  refine x_get C inX12 0 lm0 EM_0 rfl 45 (by decide) dX12_searches_157 160 rfl wmf_X12_116 rfl ?_
  refine x_iload_n C dX12_searches_160 161 rfl 2 rfl ?_
  refine x_iald C 32 lm32 EM_32 0 rfl dX12_searches_161 162 rfl h (fun h => ?_)
  refine x_iast C 34 lm34 (fun _ => EM_34) 0 rfl dX12_searches_162 163 rfl h (fun a162 h => ?_)
  refine x_aload_n C dX12_searches_163 164 rfl 0 rfl ?_
  refine x_get C inX12 0 lm0 EM_0 rfl 48 (by decide) dX12_searches_164 167 rfl wmf_X12_125 rfl ?_
  refine x_aload_n C dX12_searches_167 168 rfl 0 rfl ?_
  refine x_get C inX12 0 lm0 EM_0 rfl 49 (by decide) dX12_searches_168 171 rfl wmf_X12_350 rfl ?_
  refine x_aload_n C dX12_searches_171 172 rfl 0 rfl ?_
  refine x_get C inX12 0 lm0 EM_0 rfl 43 (by decide) dX12_searches_172 175 rfl wmf_X12_344 rfl ?_
  refine x_iast C 35 lm35 (fun _ => EM_35) 0 rfl dX12_searches_175 176 rfl h (fun a175 h => ?_)
  refine x_aload_n C dX12_searches_176 177 rfl 0 rfl ?_
  refine x_dup C dX12_searches_177 178 rfl rfl ?_
  refine x_get C inX12 0 lm0 EM_0 rfl 49 (by decide) dX12_searches_178 181 rfl wmf_X12_350 rfl ?_
  refine x_iconst C dX12_searches_181 182 rfl 1 rfl ?_
  refine x_iadd C dX12_searches_182 183 rfl ?_
  refine x_put C inX12 0 lm0 EM_0 rfl 49 (by decide) tyX12_ok nmX12 dX12_searches_183 186 rfl wmf_X12_350 rfl rfl rfl (Nat.le_of_ble_eq_true rfl) EQ_0_49 h (fun a183 h => ?_)
  refine x_aload_n C dX12_searches_186 187 rfl 0 rfl ?_
  refine x_get C inX12 0 lm0 EM_0 rfl 45 (by decide) dX12_searches_187 190 rfl wmf_X12_116 rfl ?_
  refine x_iload_n C dX12_searches_190 191 rfl 2 rfl ?_
  refine x_iconst C dX12_searches_191 192 rfl (-1) rfl ?_
  refine x_iast C 32 lm32 (fun _ => EM_32) 0 rfl dX12_searches_192 193 rfl h (fun a192 h => ?_)
  refine x_goto C dX12_searches_193 201 rfl ?_
  exact x_sub [0, 1] rfl (b_X12_searches_201 C hk80 h)
theorem b_X12_searches_109 (C : XC p l s m args meth c cX12_searches 4 none RX12 D vwCl (tysM ca) (EM ad ca) NCM ad) {N : Nat} {o : AH} {k80 : AH → Int32 → Option AH} (hk80 : ∀ (ah : AH) (v1 : Int32), k80 ah v1 = some o → XW p l e rm_X12_searches s m args below meth c 4 0 (xQv below args s D vwCl (tysM ca) (EM ad ca) NCM ad o) D vwCl (EM ad ca) NCM ad ah 80 [(0, .ref (ad 0)), (1, .int v1)] []) {ah : AH} {v1 : Int32} {v2 : Int32} {v3 : Int32} (h : F_X12_searches_109 N k80 ah v1 v2 v3 = some o) : XW p l e rm_X12_searches s m args below meth c 4 0 (xQv below args s D vwCl (tysM ca) (EM ad ca) NCM ad o) D vwCl (EM ad ca) NCM ad ah 109 [(0, .ref (ad 0)), (1, .int v1), (2, .int v2), (3, .int v3)] [] := by
  unfold F_X12_searches_109 at h
  refine x_iload_n C dX12_searches_109 110 rfl 2 rfl ?_
  refine x_iconst C dX12_searches_110 111 rfl (-1) rfl ?_
  refine x_icmp_eq C dX12_searches_111 114 rfl 196 rfl h (fun h => ?_) (fun h => ?_)
  · exact x_sub [0, 1, 3] rfl (b_X12_searches_196 C hk80 h)
  · refine x_iload_n C dX12_searches_114 115 rfl 3 rfl ?_
    refine x_iconst C dX12_searches_115 116 rfl (-1) rfl ?_
    refine x_icmp_eq C dX12_searches_116 119 rfl 138 rfl h (fun h => ?_) (fun h => ?_)
    · exact x_sub [0, 1, 2] rfl (b_X12_searches_138 C hk80 h)
    · refine x_aload_n C dX12_searches_119 120 rfl 0 rfl ?_
      refine x_get C inX12 0 lm0 EM_0 rfl 45 (by decide) dX12_searches_120 123 rfl wmf_X12_116 rfl ?_
      refine x_iload_n C dX12_searches_123 124 rfl 2 rfl ?_
      refine x_iald C 32 lm32 EM_32 0 rfl dX12_searches_124 125 rfl h (fun h => ?_)
      refine x_aload_n C dX12_searches_125 126 rfl 0 rfl ?_
      refine x_aload_n C dX12_searches_126 127 rfl 0 rfl ?_
      refine x_get C inX12 0 lm0 EM_0 rfl 41 (by decide) dX12_searches_127 130 rfl wmf_X12_113 rfl ?_
      refine x_iload_n C dX12_searches_130 131 rfl 3 rfl ?_
      refine x_iald C 31 lm31 EM_31 0 rfl dX12_searches_131 132 rfl h (fun h => ?_)
      obtain ⟨r132, a132, hq, h⟩ := xb_some h
      refine x_callVi C 0 (c_X12_boundOf C.2.2.2.2.2.2.1 hq) lm0 EM_0 rfl wml_X12_341 wq_X12_boundOf rfl ⟨by decide, by decide⟩ rfl rfl ⟨by decide, by decide⟩ dX12_searches_132 135 rfl rfl (Nat.le_of_ble_eq_true rfl) ?_
      refine x_icmp_gt C dX12_searches_135 138 rfl 196 rfl h (fun h => ?_) (fun h => ?_)
      · exact x_sub [0, 1, 3] rfl (b_X12_searches_196 C hk80 h)
      · exact x_sub [0, 1, 2] rfl (b_X12_searches_138 C hk80 h)
theorem b_X12_searches_80 (C : XC p l s m args meth c cX12_searches 4 none RX12 D vwCl (tysM ca) (EM ad ca) NCM ad) {N : Nat} {o : AH} : ∀ (n : Nat) {ah : AH} {v1 : Int32}, F_X12_searches_80 N n ah v1 = some o → XW p l e rm_X12_searches s m args below meth c 4 0 (xQv below args s D vwCl (tysM ca) (EM ad ca) NCM ad o) D vwCl (EM ad ca) NCM ad ah 80 [(0, .ref (ad 0)), (1, .int v1)] [] := by
  intro n
  induction n with
  | zero => intro ah v1 h; unfold F_X12_searches_80 at h; cases h
  | succ n ih =>
    intro ah v1 h
    unfold F_X12_searches_80 at h
    refine x_aload_n C dX12_searches_80 81 rfl 0 rfl ?_
    refine x_get C inX12 0 lm0 EM_0 rfl 49 (by decide) dX12_searches_81 84 rfl wmf_X12_350 rfl ?_
    refine x_iload_n C dX12_searches_84 85 rfl 1 rfl ?_
    refine x_icmp_ge C dX12_searches_85 88 rfl 204 rfl h (fun h => ?_) (fun h => ?_)
    · exact x_vret C rfl dX12_searches_204 h
    · refine x_aload_n C dX12_searches_88 89 rfl 0 rfl ?_
      obtain ⟨r89, a89, hq, h⟩ := xb_some h
      refine x_callVi C 0 (c_X12_firstAnswer C.2.2.2.2.2.2.1 hq) lm0 EM_0 rfl wml_X12_353 wq_X12_firstAnswer rfl ⟨by decide, by decide⟩ rfl rfl ⟨by decide, by decide⟩ dX12_searches_89 92 rfl rfl (Nat.le_of_ble_eq_true rfl) ?_
      refine x_istore_n C dX12_searches_92 93 rfl (by decide) (fun v2_92 => [(2, .int v2_92), (0, .ref (ad 0)), (1, .int v1)]) (fun _ => rfl) h (fun v2_92 h => ?_)
      refine x_aload_n C dX12_searches_93 94 rfl 1 rfl ?_
      obtain ⟨r94, a94, hq, h⟩ := xb_some h
      refine x_callVi C 0 (c_X12_firstState C.2.2.2.2.2.2.1 hq) lm0 EM_0 rfl wml_X12_356 wq_X12_firstState rfl ⟨by decide, by decide⟩ rfl rfl ⟨by decide, by decide⟩ dX12_searches_94 97 rfl rfl (Nat.le_of_ble_eq_true rfl) ?_
      refine x_istore_n C dX12_searches_97 98 rfl (by decide) (fun v3_97 => [(3, .int v3_97), (2, .int v2_92), (0, .ref (ad 0)), (1, .int v1)]) (fun _ => rfl) h (fun v3_97 h => ?_)
      refine x_iload_n C dX12_searches_98 99 rfl 1 rfl ?_
      refine x_iconst C dX12_searches_99 100 rfl (-1) rfl ?_
      refine x_icmp_ne C dX12_searches_100 103 rfl 109 rfl h (fun h => ?_) (fun h => ?_)
      · exact x_sub [2, 3, 1, 0] rfl (b_X12_searches_109 C (fun _ _ h => ih h) h)
      · refine x_iload_n C dX12_searches_103 104 rfl 0 rfl ?_
        refine x_iconst C dX12_searches_104 105 rfl (-1) rfl ?_
        refine x_icmp_ne C dX12_searches_105 108 rfl 109 rfl h (fun h => ?_) (fun h => ?_)
        · exact x_sub [2, 3, 1, 0] rfl (b_X12_searches_109 C (fun _ _ h => ih h) h)
        · exact x_vret C rfl dX12_searches_108 h
theorem b_X12_searches_46 (C : XC p l s m args meth c cX12_searches 4 none RX12 D vwCl (tysM ca) (EM ad ca) NCM ad) {N : Nat} {o : AH} : ∀ (n : Nat) {ah : AH} {v1 : Int32} {v2 : Int32}, F_X12_searches_46 N n ah v1 v2 = some o → XW p l e rm_X12_searches s m args below meth c 4 0 (xQv below args s D vwCl (tysM ca) (EM ad ca) NCM ad o) D vwCl (EM ad ca) NCM ad ah 46 [(0, .ref (ad 0)), (1, .int v1), (2, .int v2)] [] := by
  intro n
  induction n with
  | zero => intro ah v1 v2 h; unfold F_X12_searches_46 at h; cases h
  | succ n ih =>
    intro ah v1 v2 h
    unfold F_X12_searches_46 at h
    refine x_iload_n C dX12_searches_46 47 rfl 2 rfl ?_
    refine x_aload_n C dX12_searches_47 48 rfl 0 rfl ?_
    refine x_get C inX12 0 lm0 EM_0 rfl 10 (by decide) dX12_searches_48 51 rfl wmf_X12_257 rfl ?_
    refine x_icmp_ge C dX12_searches_51 54 rfl 67 rfl h (fun h => ?_) (fun h => ?_)
    · refine x_aload_n C dX12_searches_67 68 rfl 0 rfl ?_
      refine x_get C inX12 0 lm0 EM_0 rfl 10 (by decide) dX12_searches_68 71 rfl wmf_X12_257 rfl ?_
      refine x_if_le C dX12_searches_71 74 rfl 80 rfl h (fun h => ?_) (fun h => ?_)
      · exact x_sub [0, 1] rfl (b_X12_searches_80 C  N h)
      · refine x_aload_n C dX12_searches_74 75 rfl 0 rfl ?_
        refine x_iconst C dX12_searches_75 76 rfl 0 rfl ?_
        refine x_iconst C dX12_searches_76 77 rfl 0 rfl ?_
        obtain ⟨a77, hq, h⟩ := xbv_some h
        refine x_callVv C 0 (c_X12_waitsFor C.2.2.2.2.2.2.1 hq) lm0 EM_0 rfl wml_X12_347 wq_X12_waitsFor rfl ⟨by decide, by decide⟩ rfl rfl ⟨by decide, by decide⟩ dX12_searches_77 80 rfl rfl (Nat.le_of_ble_eq_true rfl) ?_
        exact x_sub [0, 1] rfl (b_X12_searches_80 C  N h)
    · refine x_aload_n C dX12_searches_54 55 rfl 0 rfl ?_
      refine x_get C inX12 0 lm0 EM_0 rfl 45 (by decide) dX12_searches_55 58 rfl wmf_X12_116 rfl ?_
      refine x_iload_n C dX12_searches_58 59 rfl 2 rfl ?_
      refine x_iconst C dX12_searches_59 60 rfl (-1) rfl ?_
      refine x_iast C 32 lm32 (fun _ => EM_32) 0 rfl dX12_searches_60 61 rfl h (fun a60 h => ?_)
      refine x_iinc C dX12_searches_61 64 rfl 2 rfl (d := 1) rfl (by decide) (fun v2_61 => [(2, .int v2_61), (0, .ref (ad 0)), (1, .int v1)]) (fun _ => rfl) h (fun v2_61 h => ?_)
      refine x_goto C dX12_searches_64 46 rfl ?_
      exact x_sub [1, 2, 0] rfl (ih h)
theorem b_X12_searches_17 (C : XC p l s m args meth c cX12_searches 4 none RX12 D vwCl (tysM ca) (EM ad ca) NCM ad) {N : Nat} {o : AH} : ∀ (n : Nat) {ah : AH} {v1 : Int32} {v2 : Int32}, F_X12_searches_17 N n ah v1 v2 = some o → XW p l e rm_X12_searches s m args below meth c 4 0 (xQv below args s D vwCl (tysM ca) (EM ad ca) NCM ad o) D vwCl (EM ad ca) NCM ad ah 17 [(0, .ref (ad 0)), (1, .int v1), (2, .int v2)] [] := by
  intro n
  induction n with
  | zero => intro ah v1 v2 h; unfold F_X12_searches_17 at h; cases h
  | succ n ih =>
    intro ah v1 v2 h
    unfold F_X12_searches_17 at h
    refine x_iload_n C dX12_searches_17 18 rfl 2 rfl ?_
    refine x_aload_n C dX12_searches_18 19 rfl 0 rfl ?_
    refine x_get C inX12 0 lm0 EM_0 rfl 33 (by decide) dX12_searches_19 22 rfl wmf_X12_314 rfl ?_
    refine x_iconst C dX12_searches_22 23 rfl 1 rfl ?_
    refine x_iadd C dX12_searches_23 24 rfl ?_
    refine x_sipush C dX12_searches_24 27 rfl 721 rfl ?_
    refine x_imul C dX12_searches_27 28 rfl ?_
    refine x_icmp_ge C dX12_searches_28 31 rfl 44 rfl h (fun h => ?_) (fun h => ?_)
    · refine x_iconst C dX12_searches_44 45 rfl 0 rfl ?_
      refine x_istore_n C dX12_searches_45 46 rfl (by decide) (fun v2_45 => [(2, .int v2_45), (0, .ref (ad 0)), (1, .int v1)]) (fun _ => rfl) h (fun v2_45 h => ?_)
      exact x_sub [1, 2, 0] rfl (b_X12_searches_46 C  N h)
    · refine x_aload_n C dX12_searches_31 32 rfl 0 rfl ?_
      refine x_get C inX12 0 lm0 EM_0 rfl 40 (by decide) dX12_searches_32 35 rfl wmf_X12_110 rfl ?_
      refine x_iload_n C dX12_searches_35 36 rfl 2 rfl ?_
      refine x_iconst C dX12_searches_36 37 rfl 0 rfl ?_
      refine x_iast C 30 lm30 (fun _ => EM_30) 0 rfl dX12_searches_37 38 rfl h (fun a37 h => ?_)
      refine x_iinc C dX12_searches_38 41 rfl 2 rfl (d := 1) rfl (by decide) (fun v2_38 => [(2, .int v2_38), (0, .ref (ad 0)), (1, .int v1)]) (fun _ => rfl) h (fun v2_38 h => ?_)
      refine x_goto C dX12_searches_41 17 rfl ?_
      exact x_sub [1, 2, 0] rfl (ih h)
theorem c_X12_searches {l : Launch} {D : va_G} {ca : Nat → ClassId} {ad : Nat → Nat} (hI : xInj ad NCM) {N : Nat} {ah : AH} {p1 : Int32} {a : AH} (h : F_X12_searches N ah p1 = some a) : xMv l yX12_searches cX12_searches 4 rm_X12_searches D vwCl (tysM ca) (EM ad ca) NCM ad [.ref (ad 0), .int p1] ah a := by
  refine x_metv (by decide) (Nat.le_of_ble_eq_true rfl) hI EM_loc ?_
  intro p e s m args below meth c C
  unfold F_X12_searches at h
  refine x_aload_n C dX12_searches_0 1 rfl 0 rfl ?_
  refine x_iconst C dX12_searches_1 2 rfl 0 rfl ?_
  refine x_put C inX12 0 lm0 EM_0 rfl 42 (by decide) tyX12_ok nmX12 dX12_searches_2 5 rfl wmf_X12_338 rfl rfl rfl (Nat.le_of_ble_eq_true rfl) EQ_0_42 h (fun a2 h => ?_)
  refine x_aload_n C dX12_searches_5 6 rfl 0 rfl ?_
  refine x_iconst C dX12_searches_6 7 rfl 0 rfl ?_
  refine x_put C inX12 0 lm0 EM_0 rfl 43 (by decide) tyX12_ok nmX12 dX12_searches_7 10 rfl wmf_X12_344 rfl rfl rfl (Nat.le_of_ble_eq_true rfl) EQ_0_43 h (fun a7 h => ?_)
  refine x_aload_n C dX12_searches_10 11 rfl 0 rfl ?_
  refine x_iconst C dX12_searches_11 12 rfl 0 rfl ?_
  refine x_put C inX12 0 lm0 EM_0 rfl 49 (by decide) tyX12_ok nmX12 dX12_searches_12 15 rfl wmf_X12_350 rfl rfl rfl (Nat.le_of_ble_eq_true rfl) EQ_0_49 h (fun a12 h => ?_)
  refine x_iconst C dX12_searches_15 16 rfl 0 rfl ?_
  refine x_istore_n C dX12_searches_16 17 rfl (by decide) (fun v2_16 => [(2, .int v2_16), (0, .ref (ad 0)), (1, .int p1)]) (fun _ => rfl) h (fun v2_16 h => ?_)
  exact x_sub [1, 2, 0] rfl (b_X12_searches_17 C  N h)
abbrev rm_X12_outside : Room := { frames := 0, cells := 0, slots := 0, locals := 0 }
theorem wq_X12_outside : xcV RX12 yX12_outside cX12_outside 1 (some .int) 0 := ⟨wmi_X12_outside, wms_X12_outside, wmn_X12, wmc_X12_outside, by decide, by decide, by decide +kernel⟩
def F_X12_outside (N : Nat) (ah : AH) : Option (Int32 × AH) := some ((ah 3 0) + ((ah 3 1) * (ah 0 33)), ah)
theorem c_X12_outside {l : Launch} {D : va_G} {ca : Nat → ClassId} {ad : Nat → Nat} (hI : xInj ad NCM) {N : Nat} {ah : AH} {r : Int32} {a : AH} (h : F_X12_outside N ah = some (r, a)) : xMi l yX12_outside cX12_outside 1 (some .int) rm_X12_outside D vwCl (tysM ca) (EM ad ca) NCM ad [.ref (ad 0)] ah (r, a) := by
  refine x_meti (by decide) (Nat.le_of_ble_eq_true rfl) hI EM_loc ?_
  intro p e s m args below meth c C
  unfold F_X12_outside at h
  refine x_aload_n C dX12_outside_0 1 rfl 0 rfl ?_
  refine x_get C inX12 0 lm0 EM_0 rfl 9 (by decide) dX12_outside_1 4 rfl wmf_X12_20 rfl ?_
  refine x_iconst C dX12_outside_4 5 rfl 0 rfl ?_
  refine x_ialdK C 3 lm3 EM_3 0 rfl dX12_outside_5 6 rfl (by decide) 0 (by decide) ?_
  refine x_aload_n C dX12_outside_6 7 rfl 0 rfl ?_
  refine x_get C inX12 0 lm0 EM_0 rfl 9 (by decide) dX12_outside_7 10 rfl wmf_X12_20 rfl ?_
  refine x_iconst C dX12_outside_10 11 rfl 1 rfl ?_
  refine x_ialdK C 3 lm3 EM_3 0 rfl dX12_outside_11 12 rfl (by decide) 1 (by decide) ?_
  refine x_aload_n C dX12_outside_12 13 rfl 0 rfl ?_
  refine x_get C inX12 0 lm0 EM_0 rfl 33 (by decide) dX12_outside_13 16 rfl wmf_X12_314 rfl ?_
  refine x_imul C dX12_outside_16 17 rfl ?_
  refine x_iadd C dX12_outside_17 18 rfl ?_
  exact x_iret C rfl dX12_outside_18 h
abbrev rm_X12_told : Room := { frames := 1, cells := 0, slots := 0, locals := 23 }
theorem wq_X12_told : xcV RX12 yX12_told cX12_told 2 (some .int) 1 := ⟨wmi_X12_told, wms_X12_told, wmn_X12, wmc_X12_told, by decide, by decide, by decide +kernel⟩
def F_X12_told_21 (N : Nat) (ah : AH) (v1 : Int32) (s1 : Int32) : Option (Int32 × AH) := xb (F_X12_bad N ah s1 1 1) (fun r23 a23 => if r23 = 0 then if v1 < 0 then xg (v1 - 5) 7 (some (a23 3 (Int32.toNatClampNeg (v1 - 5)), a23)) else if 12 < v1 then xg (v1 - 5) 7 (some (a23 3 (Int32.toNatClampNeg (v1 - 5)), a23)) else if v1 = 0 then some (a23 0 10, a23) else if v1 = 1 then some (a23 0 15, a23) else if v1 = 2 then some (a23 13 0, a23) else if v1 = 3 then some (a23 16 0, a23) else if v1 = 4 then if (a23 0 26) = 0 then some (0, a23) else some ((a23 17 0) + 1, a23) else if v1 = 5 then xg (v1 - 5) 7 (some (a23 3 (Int32.toNatClampNeg (v1 - 5)), a23)) else if v1 = 6 then xg (v1 - 5) 7 (some (a23 3 (Int32.toNatClampNeg (v1 - 5)), a23)) else if v1 = 7 then xg (v1 - 5) 7 (some (a23 3 (Int32.toNatClampNeg (v1 - 5)), a23)) else if v1 = 8 then xg (v1 - 5) 7 (some (a23 3 (Int32.toNatClampNeg (v1 - 5)), a23)) else if v1 = 9 then xg (v1 - 5) 7 (some (a23 3 (Int32.toNatClampNeg (v1 - 5)), a23)) else if v1 = 10 then xg (v1 - 5) 7 (some (a23 3 (Int32.toNatClampNeg (v1 - 5)), a23)) else if v1 = 11 then some (a23 0 2, a23) else if v1 = 12 then some (a23 3 6, a23) else none else some (0, a23))
def F_X12_told (N : Nat) (ah : AH) (p1 : Int32) : Option (Int32 × AH) := xlet (xu ah 0 0 0) (fun a2 => xb (F_X12_in N a2 p1 0 12) (fun r10 a10 => if r10 = 0 then F_X12_told_21 N a10 p1 1 else F_X12_told_21 N a10 p1 0))
theorem b_X12_told_21 (C : XC p l s m args meth c cX12_told 2 (some .int) RX12 D vwCl (tysM ca) (EM ad ca) NCM ad) {N : Nat} {o : (Int32 × AH)} {ah : AH} {v1 : Int32} {s1 : Int32} (h : F_X12_told_21 N ah v1 s1 = some o) : XW p l e rm_X12_told s m args below meth c 2 0 (xQi below args s D vwCl (tysM ca) (EM ad ca) NCM ad o) D vwCl (EM ad ca) NCM ad ah 21 [(0, .ref (ad 0)), (1, .int v1)] [.int s1, .ref (ad 0)] := by
  unfold F_X12_told_21 at h
  refine x_iconst C dX12_told_21 22 rfl 1 rfl ?_
  refine x_iconst C dX12_told_22 23 rfl 1 rfl ?_
  obtain ⟨r23, a23, hq, h⟩ := xb_some h
  refine x_callVi C 0 (c_X12_bad C.2.2.2.2.2.2.1 hq) lm0 EM_0 rfl wml_X12_249 wq_X12_bad rfl ⟨by decide, by decide⟩ rfl rfl ⟨by decide, by decide⟩ dX12_told_23 26 rfl rfl (Nat.le_of_ble_eq_true rfl) ?_
  refine x_if_eq C dX12_told_26 29 rfl 31 rfl h (fun h => ?_) (fun h => ?_)
  · refine x_iload_n C dX12_told_31 32 rfl 1 rfl ?_
    refine x_swL 0 0 (by decide) h (fun q h => ?_) (fun h => ?_)
    · refine x_tabOut C 157 dX12_told_32 (Or.inl q) rfl ?_
      refine x_aload_n C dX12_told_157 158 rfl 0 rfl ?_
      refine x_get C inX12 0 lm0 EM_0 rfl 9 (by decide) dX12_told_158 161 rfl wmf_X12_20 rfl ?_
      refine x_iload_n C dX12_told_161 162 rfl 1 rfl ?_
      refine x_iconst C dX12_told_162 163 rfl 5 rfl ?_
      refine x_isub C dX12_told_163 164 rfl ?_
      refine x_iald C 3 lm3 EM_3 0 rfl dX12_told_164 165 rfl h (fun h => ?_)
      exact x_iret C rfl dX12_told_165 h
    · skip
      refine x_swG 12 12 (by decide) h (fun q h => ?_) (fun h => ?_)
      · refine x_tabOut C 157 dX12_told_32 (Or.inr q) rfl ?_
        refine x_aload_n C dX12_told_157 158 rfl 0 rfl ?_
        refine x_get C inX12 0 lm0 EM_0 rfl 9 (by decide) dX12_told_158 161 rfl wmf_X12_20 rfl ?_
        refine x_iload_n C dX12_told_161 162 rfl 1 rfl ?_
        refine x_iconst C dX12_told_162 163 rfl 5 rfl ?_
        refine x_isub C dX12_told_163 164 rfl ?_
        refine x_iald C 3 lm3 EM_3 0 rfl dX12_told_164 165 rfl h (fun h => ?_)
        exact x_iret C rfl dX12_told_165 h
      · skip
        refine x_sw 0 h (fun q h => ?_) (fun h => ?_)
        · refine x_tabIn C 100 0 dX12_told_32 q (by decide) (by decide) rfl rfl ?_
          refine x_aload_n C dX12_told_100 101 rfl 0 rfl ?_
          refine x_get C inX12 0 lm0 EM_0 rfl 10 (by decide) dX12_told_101 104 rfl wmf_X12_257 rfl ?_
          exact x_iret C rfl dX12_told_104 h
        · skip
          refine x_sw 1 h (fun q h => ?_) (fun h => ?_)
          · refine x_tabIn C 105 1 dX12_told_32 q (by decide) (by decide) rfl rfl ?_
            refine x_aload_n C dX12_told_105 106 rfl 0 rfl ?_
            refine x_get C inX12 0 lm0 EM_0 rfl 15 (by decide) dX12_told_106 109 rfl wmf_X12_37 rfl ?_
            exact x_iret C rfl dX12_told_109 h
          · skip
            refine x_sw 2 h (fun q h => ?_) (fun h => ?_)
            · refine x_tabIn C 110 2 dX12_told_32 q (by decide) (by decide) rfl rfl ?_
              refine x_aload_n C dX12_told_110 111 rfl 0 rfl ?_
              refine x_get C inX12 0 lm0 EM_0 rfl 21 (by decide) dX12_told_111 114 rfl wmf_X12_55 rfl ?_
              refine x_iconst C dX12_told_114 115 rfl 0 rfl ?_
              refine x_ialdK C 13 lm13 EM_13 0 rfl dX12_told_115 116 rfl (by decide) 0 (by decide) ?_
              exact x_iret C rfl dX12_told_116 h
            · skip
              refine x_sw 3 h (fun q h => ?_) (fun h => ?_)
              · refine x_tabIn C 117 3 dX12_told_32 q (by decide) (by decide) rfl rfl ?_
                refine x_aload_n C dX12_told_117 118 rfl 0 rfl ?_
                refine x_get C inX12 0 lm0 EM_0 rfl 24 (by decide) dX12_told_118 121 rfl wmf_X12_66 rfl ?_
                refine x_iconst C dX12_told_121 122 rfl 0 rfl ?_
                refine x_ialdK C 16 lm16 EM_16 0 rfl dX12_told_122 123 rfl (by decide) 0 (by decide) ?_
                exact x_iret C rfl dX12_told_123 h
              · skip
                refine x_sw 4 h (fun q h => ?_) (fun h => ?_)
                · refine x_tabIn C 124 4 dX12_told_32 q (by decide) (by decide) rfl rfl ?_
                  refine x_aload_n C dX12_told_124 125 rfl 0 rfl ?_
                  refine x_get C inX12 0 lm0 EM_0 rfl 26 (by decide) dX12_told_125 128 rfl wmf_X12_310 rfl ?_
                  refine x_if_eq C dX12_told_128 131 rfl 142 rfl h (fun h => ?_) (fun h => ?_)
                  · refine x_iconst C dX12_told_142 143 rfl 0 rfl ?_
                    exact x_iret C rfl dX12_told_143 h
                  · refine x_aload_n C dX12_told_131 132 rfl 0 rfl ?_
                    refine x_get C inX12 0 lm0 EM_0 rfl 25 (by decide) dX12_told_132 135 rfl wmf_X12_69 rfl ?_
                    refine x_iconst C dX12_told_135 136 rfl 0 rfl ?_
                    refine x_ialdK C 17 lm17 EM_17 0 rfl dX12_told_136 137 rfl (by decide) 0 (by decide) ?_
                    refine x_iconst C dX12_told_137 138 rfl 1 rfl ?_
                    refine x_iadd C dX12_told_138 139 rfl ?_
                    refine x_goto C dX12_told_139 143 rfl ?_
                    exact x_iret C rfl dX12_told_143 h
                · skip
                  refine x_sw 5 h (fun q h => ?_) (fun h => ?_)
                  · refine x_tabIn C 157 5 dX12_told_32 q (by decide) (by decide) rfl rfl ?_
                    refine x_aload_n C dX12_told_157 158 rfl 0 rfl ?_
                    refine x_get C inX12 0 lm0 EM_0 rfl 9 (by decide) dX12_told_158 161 rfl wmf_X12_20 rfl ?_
                    refine x_iload_n C dX12_told_161 162 rfl 1 rfl ?_
                    refine x_iconst C dX12_told_162 163 rfl 5 rfl ?_
                    refine x_isub C dX12_told_163 164 rfl ?_
                    refine x_iald C 3 lm3 EM_3 0 rfl dX12_told_164 165 rfl h (fun h => ?_)
                    exact x_iret C rfl dX12_told_165 h
                  · skip
                    refine x_sw 6 h (fun q h => ?_) (fun h => ?_)
                    · refine x_tabIn C 157 6 dX12_told_32 q (by decide) (by decide) rfl rfl ?_
                      refine x_aload_n C dX12_told_157 158 rfl 0 rfl ?_
                      refine x_get C inX12 0 lm0 EM_0 rfl 9 (by decide) dX12_told_158 161 rfl wmf_X12_20 rfl ?_
                      refine x_iload_n C dX12_told_161 162 rfl 1 rfl ?_
                      refine x_iconst C dX12_told_162 163 rfl 5 rfl ?_
                      refine x_isub C dX12_told_163 164 rfl ?_
                      refine x_iald C 3 lm3 EM_3 0 rfl dX12_told_164 165 rfl h (fun h => ?_)
                      exact x_iret C rfl dX12_told_165 h
                    · skip
                      refine x_sw 7 h (fun q h => ?_) (fun h => ?_)
                      · refine x_tabIn C 157 7 dX12_told_32 q (by decide) (by decide) rfl rfl ?_
                        refine x_aload_n C dX12_told_157 158 rfl 0 rfl ?_
                        refine x_get C inX12 0 lm0 EM_0 rfl 9 (by decide) dX12_told_158 161 rfl wmf_X12_20 rfl ?_
                        refine x_iload_n C dX12_told_161 162 rfl 1 rfl ?_
                        refine x_iconst C dX12_told_162 163 rfl 5 rfl ?_
                        refine x_isub C dX12_told_163 164 rfl ?_
                        refine x_iald C 3 lm3 EM_3 0 rfl dX12_told_164 165 rfl h (fun h => ?_)
                        exact x_iret C rfl dX12_told_165 h
                      · skip
                        refine x_sw 8 h (fun q h => ?_) (fun h => ?_)
                        · refine x_tabIn C 157 8 dX12_told_32 q (by decide) (by decide) rfl rfl ?_
                          refine x_aload_n C dX12_told_157 158 rfl 0 rfl ?_
                          refine x_get C inX12 0 lm0 EM_0 rfl 9 (by decide) dX12_told_158 161 rfl wmf_X12_20 rfl ?_
                          refine x_iload_n C dX12_told_161 162 rfl 1 rfl ?_
                          refine x_iconst C dX12_told_162 163 rfl 5 rfl ?_
                          refine x_isub C dX12_told_163 164 rfl ?_
                          refine x_iald C 3 lm3 EM_3 0 rfl dX12_told_164 165 rfl h (fun h => ?_)
                          exact x_iret C rfl dX12_told_165 h
                        · skip
                          refine x_sw 9 h (fun q h => ?_) (fun h => ?_)
                          · refine x_tabIn C 157 9 dX12_told_32 q (by decide) (by decide) rfl rfl ?_
                            refine x_aload_n C dX12_told_157 158 rfl 0 rfl ?_
                            refine x_get C inX12 0 lm0 EM_0 rfl 9 (by decide) dX12_told_158 161 rfl wmf_X12_20 rfl ?_
                            refine x_iload_n C dX12_told_161 162 rfl 1 rfl ?_
                            refine x_iconst C dX12_told_162 163 rfl 5 rfl ?_
                            refine x_isub C dX12_told_163 164 rfl ?_
                            refine x_iald C 3 lm3 EM_3 0 rfl dX12_told_164 165 rfl h (fun h => ?_)
                            exact x_iret C rfl dX12_told_165 h
                          · skip
                            refine x_sw 10 h (fun q h => ?_) (fun h => ?_)
                            · refine x_tabIn C 157 10 dX12_told_32 q (by decide) (by decide) rfl rfl ?_
                              refine x_aload_n C dX12_told_157 158 rfl 0 rfl ?_
                              refine x_get C inX12 0 lm0 EM_0 rfl 9 (by decide) dX12_told_158 161 rfl wmf_X12_20 rfl ?_
                              refine x_iload_n C dX12_told_161 162 rfl 1 rfl ?_
                              refine x_iconst C dX12_told_162 163 rfl 5 rfl ?_
                              refine x_isub C dX12_told_163 164 rfl ?_
                              refine x_iald C 3 lm3 EM_3 0 rfl dX12_told_164 165 rfl h (fun h => ?_)
                              exact x_iret C rfl dX12_told_165 h
                            · skip
                              refine x_sw 11 h (fun q h => ?_) (fun h => ?_)
                              · refine x_tabIn C 144 11 dX12_told_32 q (by decide) (by decide) rfl rfl ?_
                                refine x_aload_n C dX12_told_144 145 rfl 0 rfl ?_
                                refine x_get C inX12 0 lm0 EM_0 rfl 2 (by decide) dX12_told_145 148 rfl wmf_X12_183 rfl ?_
                                exact x_iret C rfl dX12_told_148 h
                              · skip
                                refine x_sw 12 h (fun q h => ?_) (fun h => ?_)
                                · refine x_tabIn C 149 12 dX12_told_32 q (by decide) (by decide) rfl rfl ?_
                                  refine x_aload_n C dX12_told_149 150 rfl 0 rfl ?_
                                  refine x_get C inX12 0 lm0 EM_0 rfl 9 (by decide) dX12_told_150 153 rfl wmf_X12_20 rfl ?_
                                  refine x_bipush C dX12_told_153 155 rfl 6 rfl ?_
                                  refine x_ialdK C 3 lm3 EM_3 0 rfl dX12_told_155 156 rfl (by decide) 6 (by decide) ?_
                                  exact x_iret C rfl dX12_told_156 h
                                · skip
                                  cases h
  · refine x_iconst C dX12_told_29 30 rfl 0 rfl ?_
    exact x_iret C rfl dX12_told_30 h
theorem c_X12_told {l : Launch} {D : va_G} {ca : Nat → ClassId} {ad : Nat → Nat} (hI : xInj ad NCM) {N : Nat} {ah : AH} {p1 : Int32} {r : Int32} {a : AH} (h : F_X12_told N ah p1 = some (r, a)) : xMi l yX12_told cX12_told 2 (some .int) rm_X12_told D vwCl (tysM ca) (EM ad ca) NCM ad [.ref (ad 0), .int p1] ah (r, a) := by
  refine x_meti (by decide) (Nat.le_of_ble_eq_true rfl) hI EM_loc ?_
  intro p e s m args below meth c C
  unfold F_X12_told at h
  refine x_aload_n C dX12_told_0 1 rfl 0 rfl ?_
  refine x_iconst C dX12_told_1 2 rfl 0 rfl ?_
  refine x_put C inX12 0 lm0 EM_0 rfl 0 (by decide) tyX12_ok nmX12 dX12_told_2 5 rfl wmf_X12_180 rfl rfl rfl (Nat.le_of_ble_eq_true rfl) EQ_0_0 h (fun a2 h => ?_)
  refine x_aload_n C dX12_told_5 6 rfl 0 rfl ?_
  refine x_iload_n C dX12_told_6 7 rfl 1 rfl ?_
  refine x_iconst C dX12_told_7 8 rfl 0 rfl ?_
  refine x_bipush C dX12_told_8 10 rfl 12 rfl ?_
  obtain ⟨r10, a10, hq, h⟩ := xb_some h
  refine x_callSi C (c_X12_in C.2.2.2.2.2.2.1 hq) wml_X12_223 wq_X12_in rfl ⟨by decide, by decide⟩ rfl rfl ⟨by decide, by decide⟩ dX12_told_10 13 rfl rfl (Nat.le_of_ble_eq_true rfl) ?_
  refine x_if_ne C dX12_told_13 16 rfl 20 rfl h (fun h => ?_) (fun h => ?_)
  · refine x_iconst C dX12_told_20 21 rfl 0 rfl ?_
    exact b_X12_told_21 C  h
  · refine x_iconst C dX12_told_16 17 rfl 1 rfl ?_
    refine x_goto C dX12_told_17 21 rfl ?_
    exact b_X12_told_21 C  h
abbrev rm_X12_word : Room := { frames := 2, cells := 0, slots := 0, locals := 43 }
theorem wq_X12_word : xcV RX12 yX12_word cX12_word 3 (some .int) 2 := ⟨wmi_X12_word, wms_X12_word, wmn_X12, wmc_X12_word, by decide, by decide, by decide +kernel⟩
def F_X12_word_42 (N : Nat) (ah : AH) (v1 : Int32) (v2 : Int32) (s1 : Int32) : Option (Int32 × AH) := xb (F_X12_bad N ah s1 2 1) (fun r44 a44 => if r44 = 0 then if v2 = 0 then xg v1 61 (some (a44 5 (Int32.toNatClampNeg v1), a44)) else if v2 = 1 then xg v1 61 (some (a44 6 (Int32.toNatClampNeg v1), a44)) else if v2 = 2 then xg v1 61 (some (a44 7 (Int32.toNatClampNeg v1), a44)) else xg v1 61 (xg (a44 7 (Int32.toNatClampNeg v1)) 721 (some ((a44 12 (Int32.toNatClampNeg (a44 7 (Int32.toNatClampNeg v1)))) - 1, a44))) else some (0, a44))
def F_X12_word_19 (N : Nat) (ah : AH) (v1 : Int32) (v2 : Int32) (s1 : Int32) : Option (Int32 × AH) := xb (F_X12_bad N ah s1 1 0) (fun r21 a21 => if r21 = 0 then xb (F_X12_in N a21 v2 0 3) (fun r31 a31 => if r31 = 0 then F_X12_word_42 N a31 v1 v2 1 else F_X12_word_42 N a31 v1 v2 0) else some (0, a21))
def F_X12_word (N : Nat) (ah : AH) (p1 : Int32) (p2 : Int32) : Option (Int32 × AH) := xlet (xu ah 0 0 0) (fun a2 => xb (F_X12_isWord N a2 p1) (fun r8 a8 => if r8 = 0 then F_X12_word_19 N a8 p1 p2 1 else F_X12_word_19 N a8 p1 p2 0))
theorem b_X12_word_42 (C : XC p l s m args meth c cX12_word 3 (some .int) RX12 D vwCl (tysM ca) (EM ad ca) NCM ad) {N : Nat} {o : (Int32 × AH)} {ah : AH} {v1 : Int32} {v2 : Int32} {s1 : Int32} (h : F_X12_word_42 N ah v1 v2 s1 = some o) : XW p l e rm_X12_word s m args below meth c 3 0 (xQi below args s D vwCl (tysM ca) (EM ad ca) NCM ad o) D vwCl (EM ad ca) NCM ad ah 42 [(0, .ref (ad 0)), (1, .int v1), (2, .int v2)] [.int s1, .ref (ad 0)] := by
  unfold F_X12_word_42 at h
  refine x_iconst C dX12_word_42 43 rfl 2 rfl ?_
  refine x_iconst C dX12_word_43 44 rfl 1 rfl ?_
  obtain ⟨r44, a44, hq, h⟩ := xb_some h
  refine x_callVi C 0 (c_X12_bad C.2.2.2.2.2.2.1 hq) lm0 EM_0 rfl wml_X12_249 wq_X12_bad rfl ⟨by decide, by decide⟩ rfl rfl ⟨by decide, by decide⟩ dX12_word_44 47 rfl rfl (Nat.le_of_ble_eq_true rfl) ?_
  refine x_if_eq C dX12_word_47 50 rfl 52 rfl h (fun h => ?_) (fun h => ?_)
  · refine x_iload_n C dX12_word_52 53 rfl 2 rfl ?_
    refine x_if_ne C dX12_word_53 56 rfl 65 rfl h (fun h => ?_) (fun h => ?_)
    · refine x_iload_n C dX12_word_65 66 rfl 2 rfl ?_
      refine x_iconst C dX12_word_66 67 rfl 1 rfl ?_
      refine x_icmp_ne C dX12_word_67 70 rfl 79 rfl h (fun h => ?_) (fun h => ?_)
      · refine x_iload_n C dX12_word_79 80 rfl 2 rfl ?_
        refine x_iconst C dX12_word_80 81 rfl 2 rfl ?_
        refine x_icmp_ne C dX12_word_81 84 rfl 93 rfl h (fun h => ?_) (fun h => ?_)
        · refine x_aload_n C dX12_word_93 94 rfl 0 rfl ?_
          refine x_get C inX12 0 lm0 EM_0 rfl 20 (by decide) dX12_word_94 97 rfl wmf_X12_52 rfl ?_
          refine x_aload_n C dX12_word_97 98 rfl 0 rfl ?_
          refine x_get C inX12 0 lm0 EM_0 rfl 14 (by decide) dX12_word_98 101 rfl wmf_X12_34 rfl ?_
          refine x_iload_n C dX12_word_101 102 rfl 1 rfl ?_
          refine x_iald C 7 lm7 EM_7 0 rfl dX12_word_102 103 rfl h (fun h => ?_)
          refine x_iald C 12 lm12 EM_12 0 rfl dX12_word_103 104 rfl h (fun h => ?_)
          refine x_iconst C dX12_word_104 105 rfl 1 rfl ?_
          refine x_isub C dX12_word_105 106 rfl ?_
          exact x_iret C rfl dX12_word_106 h
        · refine x_aload_n C dX12_word_84 85 rfl 0 rfl ?_
          refine x_get C inX12 0 lm0 EM_0 rfl 14 (by decide) dX12_word_85 88 rfl wmf_X12_34 rfl ?_
          refine x_iload_n C dX12_word_88 89 rfl 1 rfl ?_
          refine x_iald C 7 lm7 EM_7 0 rfl dX12_word_89 90 rfl h (fun h => ?_)
          refine x_goto C dX12_word_90 106 rfl ?_
          exact x_iret C rfl dX12_word_106 h
      · refine x_aload_n C dX12_word_70 71 rfl 0 rfl ?_
        refine x_get C inX12 0 lm0 EM_0 rfl 13 (by decide) dX12_word_71 74 rfl wmf_X12_31 rfl ?_
        refine x_iload_n C dX12_word_74 75 rfl 1 rfl ?_
        refine x_iald C 6 lm6 EM_6 0 rfl dX12_word_75 76 rfl h (fun h => ?_)
        refine x_goto C dX12_word_76 106 rfl ?_
        exact x_iret C rfl dX12_word_106 h
    · refine x_aload_n C dX12_word_56 57 rfl 0 rfl ?_
      refine x_get C inX12 0 lm0 EM_0 rfl 12 (by decide) dX12_word_57 60 rfl wmf_X12_28 rfl ?_
      refine x_iload_n C dX12_word_60 61 rfl 1 rfl ?_
      refine x_iald C 5 lm5 EM_5 0 rfl dX12_word_61 62 rfl h (fun h => ?_)
      refine x_goto C dX12_word_62 106 rfl ?_
      exact x_iret C rfl dX12_word_106 h
  · refine x_iconst C dX12_word_50 51 rfl 0 rfl ?_
    exact x_iret C rfl dX12_word_51 h
theorem b_X12_word_19 (C : XC p l s m args meth c cX12_word 3 (some .int) RX12 D vwCl (tysM ca) (EM ad ca) NCM ad) {N : Nat} {o : (Int32 × AH)} {ah : AH} {v1 : Int32} {v2 : Int32} {s1 : Int32} (h : F_X12_word_19 N ah v1 v2 s1 = some o) : XW p l e rm_X12_word s m args below meth c 3 0 (xQi below args s D vwCl (tysM ca) (EM ad ca) NCM ad o) D vwCl (EM ad ca) NCM ad ah 19 [(0, .ref (ad 0)), (1, .int v1), (2, .int v2)] [.int s1, .ref (ad 0)] := by
  unfold F_X12_word_19 at h
  refine x_iconst C dX12_word_19 20 rfl 1 rfl ?_
  refine x_iconst C dX12_word_20 21 rfl 0 rfl ?_
  obtain ⟨r21, a21, hq, h⟩ := xb_some h
  refine x_callVi C 0 (c_X12_bad C.2.2.2.2.2.2.1 hq) lm0 EM_0 rfl wml_X12_249 wq_X12_bad rfl ⟨by decide, by decide⟩ rfl rfl ⟨by decide, by decide⟩ dX12_word_21 24 rfl rfl (Nat.le_of_ble_eq_true rfl) ?_
  refine x_if_ne C dX12_word_24 27 rfl 50 rfl h (fun h => ?_) (fun h => ?_)
  · refine x_iconst C dX12_word_50 51 rfl 0 rfl ?_
    exact x_iret C rfl dX12_word_51 h
  · refine x_aload_n C dX12_word_27 28 rfl 0 rfl ?_
    refine x_iload_n C dX12_word_28 29 rfl 2 rfl ?_
    refine x_iconst C dX12_word_29 30 rfl 0 rfl ?_
    refine x_iconst C dX12_word_30 31 rfl 3 rfl ?_
    obtain ⟨r31, a31, hq, h⟩ := xb_some h
    refine x_callSi C (c_X12_in C.2.2.2.2.2.2.1 hq) wml_X12_223 wq_X12_in rfl ⟨by decide, by decide⟩ rfl rfl ⟨by decide, by decide⟩ dX12_word_31 34 rfl rfl (Nat.le_of_ble_eq_true rfl) ?_
    refine x_if_ne C dX12_word_34 37 rfl 41 rfl h (fun h => ?_) (fun h => ?_)
    · refine x_iconst C dX12_word_41 42 rfl 0 rfl ?_
      exact b_X12_word_42 C  h
    · refine x_iconst C dX12_word_37 38 rfl 1 rfl ?_
      refine x_goto C dX12_word_38 42 rfl ?_
      exact b_X12_word_42 C  h
theorem c_X12_word {l : Launch} {D : va_G} {ca : Nat → ClassId} {ad : Nat → Nat} (hI : xInj ad NCM) {N : Nat} {ah : AH} {p1 : Int32} {p2 : Int32} {r : Int32} {a : AH} (h : F_X12_word N ah p1 p2 = some (r, a)) : xMi l yX12_word cX12_word 3 (some .int) rm_X12_word D vwCl (tysM ca) (EM ad ca) NCM ad [.ref (ad 0), .int p1, .int p2] ah (r, a) := by
  refine x_meti (by decide) (Nat.le_of_ble_eq_true rfl) hI EM_loc ?_
  intro p e s m args below meth c C
  unfold F_X12_word at h
  refine x_aload_n C dX12_word_0 1 rfl 0 rfl ?_
  refine x_iconst C dX12_word_1 2 rfl 0 rfl ?_
  refine x_put C inX12 0 lm0 EM_0 rfl 0 (by decide) tyX12_ok nmX12 dX12_word_2 5 rfl wmf_X12_180 rfl rfl rfl (Nat.le_of_ble_eq_true rfl) EQ_0_0 h (fun a2 h => ?_)
  refine x_aload_n C dX12_word_5 6 rfl 0 rfl ?_
  refine x_aload_n C dX12_word_6 7 rfl 0 rfl ?_
  refine x_iload_n C dX12_word_7 8 rfl 1 rfl ?_
  obtain ⟨r8, a8, hq, h⟩ := xb_some h
  refine x_callVi C 0 (c_X12_isWord C.2.2.2.2.2.2.1 hq) lm0 EM_0 rfl wml_X12_282 wq_X12_isWord rfl ⟨by decide, by decide⟩ rfl rfl ⟨by decide, by decide⟩ dX12_word_8 11 rfl rfl (Nat.le_of_ble_eq_true rfl) ?_
  refine x_if_ne C dX12_word_11 14 rfl 18 rfl h (fun h => ?_) (fun h => ?_)
  · refine x_iconst C dX12_word_18 19 rfl 0 rfl ?_
    exact b_X12_word_19 C  h
  · refine x_iconst C dX12_word_14 15 rfl 1 rfl ?_
    refine x_goto C dX12_word_15 19 rfl ?_
    exact b_X12_word_19 C  h
abbrev rm_X12_sign : Room := { frames := 2, cells := 0, slots := 0, locals := 43 }
theorem wq_X12_sign : xcV RX12 yX12_sign cX12_sign 3 (some .int) 2 := ⟨wmi_X12_sign, wms_X12_sign, wmn_X12, wmc_X12_sign, by decide, by decide, by decide +kernel⟩
def F_X12_sign_19 (N : Nat) (ah : AH) (v1 : Int32) (v2 : Int32) (s1 : Int32) : Option (Int32 × AH) := xb (F_X12_bad N ah s1 1 0) (fun r21 a21 => if r21 = 0 then xg v1 61 (xb (F_X12_in N a21 v2 0 ((a21 5 (Int32.toNatClampNeg v1)) - 1)) (fun r39 a39 => if r39 = 0 then some ((-1), a39) else xg v1 61 (xlet (52 + (Int32.toNatClampNeg v1)) (fun x50 => xg v2 12 (some (a39 x50 (Int32.toNatClampNeg v2), a39)))))) else some (0, a21))
def F_X12_sign (N : Nat) (ah : AH) (p1 : Int32) (p2 : Int32) : Option (Int32 × AH) := xlet (xu ah 0 0 0) (fun a2 => xb (F_X12_isWord N a2 p1) (fun r8 a8 => if r8 = 0 then F_X12_sign_19 N a8 p1 p2 1 else F_X12_sign_19 N a8 p1 p2 0))
theorem b_X12_sign_19 (C : XC p l s m args meth c cX12_sign 3 (some .int) RX12 D vwCl (tysM ca) (EM ad ca) NCM ad) {N : Nat} {o : (Int32 × AH)} {ah : AH} {v1 : Int32} {v2 : Int32} {s1 : Int32} (h : F_X12_sign_19 N ah v1 v2 s1 = some o) : XW p l e rm_X12_sign s m args below meth c 3 0 (xQi below args s D vwCl (tysM ca) (EM ad ca) NCM ad o) D vwCl (EM ad ca) NCM ad ah 19 [(0, .ref (ad 0)), (1, .int v1), (2, .int v2)] [.int s1, .ref (ad 0)] := by
  unfold F_X12_sign_19 at h
  refine x_iconst C dX12_sign_19 20 rfl 1 rfl ?_
  refine x_iconst C dX12_sign_20 21 rfl 0 rfl ?_
  obtain ⟨r21, a21, hq, h⟩ := xb_some h
  refine x_callVi C 0 (c_X12_bad C.2.2.2.2.2.2.1 hq) lm0 EM_0 rfl wml_X12_249 wq_X12_bad rfl ⟨by decide, by decide⟩ rfl rfl ⟨by decide, by decide⟩ dX12_sign_21 24 rfl rfl (Nat.le_of_ble_eq_true rfl) ?_
  refine x_if_eq C dX12_sign_24 27 rfl 29 rfl h (fun h => ?_) (fun h => ?_)
  · refine x_iload_n C dX12_sign_29 30 rfl 2 rfl ?_
    refine x_iconst C dX12_sign_30 31 rfl 0 rfl ?_
    refine x_aload_n C dX12_sign_31 32 rfl 0 rfl ?_
    refine x_get C inX12 0 lm0 EM_0 rfl 12 (by decide) dX12_sign_32 35 rfl wmf_X12_28 rfl ?_
    refine x_iload_n C dX12_sign_35 36 rfl 1 rfl ?_
    refine x_iald C 5 lm5 EM_5 0 rfl dX12_sign_36 37 rfl h (fun h => ?_)
    refine x_iconst C dX12_sign_37 38 rfl 1 rfl ?_
    refine x_isub C dX12_sign_38 39 rfl ?_
    obtain ⟨r39, a39, hq, h⟩ := xb_some h
    refine x_callSi C (c_X12_in C.2.2.2.2.2.2.1 hq) wml_X12_223 wq_X12_in rfl ⟨by decide, by decide⟩ rfl rfl ⟨by decide, by decide⟩ dX12_sign_39 42 rfl rfl (Nat.le_of_ble_eq_true rfl) ?_
    refine x_if_eq C dX12_sign_42 45 rfl 56 rfl h (fun h => ?_) (fun h => ?_)
    · refine x_iconst C dX12_sign_56 57 rfl (-1) rfl ?_
      exact x_iret C rfl dX12_sign_57 h
    · refine x_aload_n C dX12_sign_45 46 rfl 0 rfl ?_
      refine x_get C inX12 0 lm0 EM_0 rfl 11 (by decide) dX12_sign_46 49 rfl wmf_X12_25 rfl ?_
      refine x_iload_n C dX12_sign_49 50 rfl 1 rfl ?_
      refine x_aaldL C (4) lm4 EM_4 2 rfl rfl dX12_sign_50 51 rfl (52 + (Int32.toNatClampNeg v1)) rfl h (fun x50 ex50 hb50 h => ?_)
      have hx50 : mI x50 12 := ex50 ▸ mI_sign hb50
      refine x_iload_n C dX12_sign_51 52 rfl 2 rfl ?_
      refine x_iald C x50 hx50.1 (hx50.2 _ _ _) 0 rfl dX12_sign_52 53 rfl h (fun h => ?_)
      refine x_goto C dX12_sign_53 57 rfl ?_
      exact x_iret C rfl dX12_sign_57 h
  · refine x_iconst C dX12_sign_27 28 rfl 0 rfl ?_
    exact x_iret C rfl dX12_sign_28 h
theorem c_X12_sign {l : Launch} {D : va_G} {ca : Nat → ClassId} {ad : Nat → Nat} (hI : xInj ad NCM) {N : Nat} {ah : AH} {p1 : Int32} {p2 : Int32} {r : Int32} {a : AH} (h : F_X12_sign N ah p1 p2 = some (r, a)) : xMi l yX12_sign cX12_sign 3 (some .int) rm_X12_sign D vwCl (tysM ca) (EM ad ca) NCM ad [.ref (ad 0), .int p1, .int p2] ah (r, a) := by
  refine x_meti (by decide) (Nat.le_of_ble_eq_true rfl) hI EM_loc ?_
  intro p e s m args below meth c C
  unfold F_X12_sign at h
  refine x_aload_n C dX12_sign_0 1 rfl 0 rfl ?_
  refine x_iconst C dX12_sign_1 2 rfl 0 rfl ?_
  refine x_put C inX12 0 lm0 EM_0 rfl 0 (by decide) tyX12_ok nmX12 dX12_sign_2 5 rfl wmf_X12_180 rfl rfl rfl (Nat.le_of_ble_eq_true rfl) EQ_0_0 h (fun a2 h => ?_)
  refine x_aload_n C dX12_sign_5 6 rfl 0 rfl ?_
  refine x_aload_n C dX12_sign_6 7 rfl 0 rfl ?_
  refine x_iload_n C dX12_sign_7 8 rfl 1 rfl ?_
  obtain ⟨r8, a8, hq, h⟩ := xb_some h
  refine x_callVi C 0 (c_X12_isWord C.2.2.2.2.2.2.1 hq) lm0 EM_0 rfl wml_X12_282 wq_X12_isWord rfl ⟨by decide, by decide⟩ rfl rfl ⟨by decide, by decide⟩ dX12_sign_8 11 rfl rfl (Nat.le_of_ble_eq_true rfl) ?_
  refine x_if_ne C dX12_sign_11 14 rfl 18 rfl h (fun h => ?_) (fun h => ?_)
  · refine x_iconst C dX12_sign_18 19 rfl 0 rfl ?_
    exact b_X12_sign_19 C  h
  · refine x_iconst C dX12_sign_14 15 rfl 1 rfl ?_
    refine x_goto C dX12_sign_15 19 rfl ?_
    exact b_X12_sign_19 C  h
abbrev rm_X12_find : Room := { frames := 1, cells := 0, slots := 0, locals := 23 }
theorem wq_X12_find : xcV RX12 yX12_find cX12_find 4 (some .int) 1 := ⟨wmi_X12_find, wms_X12_find, wmn_X12, wmc_X12_find, by decide, by decide, by decide +kernel⟩
def F_X12_find_65 (N : Nat) (ah : AH) (v2 : Int32) : Option (Int32 × AH) := if v2 = ((-1)) then some ((-1), ah) else xg v2 721 (some (ah 10 (Int32.toNatClampNeg v2), ah))
def F_X12_find_37 (N : Nat) : Nat → AH → Int32 → Int32 → Int32 → Option (Int32 × AH)
  | 0, _, _, _, _ => none
  | n + 1, ah, v1, v2, v3 => if v1 ≤ v3 then F_X12_find_65 N ah v2 else if v2 = ((-1)) then F_X12_find_65 N ah v2 else xg v3 400 (xb (F_X12_childOf N ah v2 (ah 2 (Int32.toNatClampNeg v3))) (fun r55 a55 => xlet r55 (fun v2_58 => xlet (v3 + 1) (fun v3_59 => F_X12_find_37 N n a55 v1 v2_58 v3_59))))
def F_X12_find_23 (N : Nat) (ah : AH) (v1 : Int32) (s1 : Int32) : Option (Int32 × AH) := xb (F_X12_bad N ah s1 1 1) (fun r25 a25 => if r25 = 0 then xlet 0 (fun v2_34 => xlet 0 (fun v3_36 => F_X12_find_37 N N a25 v1 v2_34 v3_36)) else some (0, a25))
def F_X12_find (N : Nat) (ah : AH) (p1 : Int32) : Option (Int32 × AH) := xlet (xu ah 0 0 0) (fun a2 => xb (F_X12_in N a2 p1 0 (a2 0 2)) (fun r12 a12 => if r12 = 0 then F_X12_find_23 N a12 p1 1 else F_X12_find_23 N a12 p1 0))
theorem b_X12_find_65 (C : XC p l s m args meth c cX12_find 4 (some .int) RX12 D vwCl (tysM ca) (EM ad ca) NCM ad) {N : Nat} {o : (Int32 × AH)} {ah : AH} {v2 : Int32} (h : F_X12_find_65 N ah v2 = some o) : XW p l e rm_X12_find s m args below meth c 4 0 (xQi below args s D vwCl (tysM ca) (EM ad ca) NCM ad o) D vwCl (EM ad ca) NCM ad ah 65 [(0, .ref (ad 0)), (2, .int v2)] [] := by
  unfold F_X12_find_65 at h
  refine x_iload_n C dX12_find_65 66 rfl 1 rfl ?_
  refine x_iconst C dX12_find_66 67 rfl (-1) rfl ?_
  refine x_icmp_ne C dX12_find_67 70 rfl 74 rfl h (fun h => ?_) (fun h => ?_)
  · refine x_aload_n C dX12_find_74 75 rfl 0 rfl ?_
    refine x_get C inX12 0 lm0 EM_0 rfl 18 (by decide) dX12_find_75 78 rfl wmf_X12_46 rfl ?_
    refine x_iload_n C dX12_find_78 79 rfl 1 rfl ?_
    refine x_iald C 10 lm10 EM_10 0 rfl dX12_find_79 80 rfl h (fun h => ?_)
    exact x_iret C rfl dX12_find_80 h
  · refine x_iconst C dX12_find_70 71 rfl (-1) rfl ?_
    refine x_goto C dX12_find_71 80 rfl ?_
    exact x_iret C rfl dX12_find_80 h
theorem b_X12_find_37 (C : XC p l s m args meth c cX12_find 4 (some .int) RX12 D vwCl (tysM ca) (EM ad ca) NCM ad) {N : Nat} {o : (Int32 × AH)} : ∀ (n : Nat) {ah : AH} {v1 : Int32} {v2 : Int32} {v3 : Int32}, F_X12_find_37 N n ah v1 v2 v3 = some o → XW p l e rm_X12_find s m args below meth c 4 0 (xQi below args s D vwCl (tysM ca) (EM ad ca) NCM ad o) D vwCl (EM ad ca) NCM ad ah 37 [(0, .ref (ad 0)), (1, .int v1), (2, .int v2), (3, .int v3)] [] := by
  intro n
  induction n with
  | zero => intro ah v1 v2 v3 h; unfold F_X12_find_37 at h; cases h
  | succ n ih =>
    intro ah v1 v2 v3 h
    unfold F_X12_find_37 at h
    refine x_iload_n C dX12_find_37 38 rfl 3 rfl ?_
    refine x_iload_n C dX12_find_38 39 rfl 1 rfl ?_
    refine x_icmp_ge C dX12_find_39 42 rfl 65 rfl h (fun h => ?_) (fun h => ?_)
    · exact x_sub [0, 2] rfl (b_X12_find_65 C  h)
    · refine x_iload_n C dX12_find_42 43 rfl 2 rfl ?_
      refine x_iconst C dX12_find_43 44 rfl (-1) rfl ?_
      refine x_icmp_eq C dX12_find_44 47 rfl 65 rfl h (fun h => ?_) (fun h => ?_)
      · exact x_sub [0, 2] rfl (b_X12_find_65 C  h)
      · refine x_aload_n C dX12_find_47 48 rfl 0 rfl ?_
        refine x_iload_n C dX12_find_48 49 rfl 2 rfl ?_
        refine x_aload_n C dX12_find_49 50 rfl 0 rfl ?_
        refine x_get C inX12 0 lm0 EM_0 rfl 8 (by decide) dX12_find_50 53 rfl wmf_X12_17 rfl ?_
        refine x_iload_n C dX12_find_53 54 rfl 3 rfl ?_
        refine x_iald C 2 lm2 EM_2 0 rfl dX12_find_54 55 rfl h (fun h => ?_)
        obtain ⟨r55, a55, hq, h⟩ := xb_some h
        refine x_callVi C 0 (c_X12_childOf C.2.2.2.2.2.2.1 hq) lm0 EM_0 rfl wml_X12_272 wq_X12_childOf rfl ⟨by decide, by decide⟩ rfl rfl ⟨by decide, by decide⟩ dX12_find_55 58 rfl rfl (Nat.le_of_ble_eq_true rfl) ?_
        refine x_istore_n C dX12_find_58 59 rfl (by decide) (fun v2_58 => [(2, .int v2_58), (0, .ref (ad 0)), (1, .int v1), (3, .int v3)]) (fun _ => rfl) h (fun v2_58 h => ?_)
        refine x_iinc C dX12_find_59 62 rfl 3 rfl (d := 1) rfl (by decide) (fun v3_59 => [(3, .int v3_59), (2, .int v2_58), (0, .ref (ad 0)), (1, .int v1)]) (fun _ => rfl) h (fun v3_59 h => ?_)
        refine x_goto C dX12_find_62 37 rfl ?_
        exact x_sub [2, 3, 1, 0] rfl (ih h)
theorem b_X12_find_23 (C : XC p l s m args meth c cX12_find 4 (some .int) RX12 D vwCl (tysM ca) (EM ad ca) NCM ad) {N : Nat} {o : (Int32 × AH)} {ah : AH} {v1 : Int32} {s1 : Int32} (h : F_X12_find_23 N ah v1 s1 = some o) : XW p l e rm_X12_find s m args below meth c 4 0 (xQi below args s D vwCl (tysM ca) (EM ad ca) NCM ad o) D vwCl (EM ad ca) NCM ad ah 23 [(0, .ref (ad 0)), (1, .int v1)] [.int s1, .ref (ad 0)] := by
  unfold F_X12_find_23 at h
  refine x_iconst C dX12_find_23 24 rfl 1 rfl ?_
  refine x_iconst C dX12_find_24 25 rfl 1 rfl ?_
  obtain ⟨r25, a25, hq, h⟩ := xb_some h
  refine x_callVi C 0 (c_X12_bad C.2.2.2.2.2.2.1 hq) lm0 EM_0 rfl wml_X12_249 wq_X12_bad rfl ⟨by decide, by decide⟩ rfl rfl ⟨by decide, by decide⟩ dX12_find_25 28 rfl rfl (Nat.le_of_ble_eq_true rfl) ?_
  refine x_if_eq C dX12_find_28 31 rfl 33 rfl h (fun h => ?_) (fun h => ?_)
  · refine x_iconst C dX12_find_33 34 rfl 0 rfl ?_
    refine x_istore_n C dX12_find_34 35 rfl (by decide) (fun v2_34 => [(2, .int v2_34), (0, .ref (ad 0)), (1, .int v1)]) (fun _ => rfl) h (fun v2_34 h => ?_)
    refine x_iconst C dX12_find_35 36 rfl 0 rfl ?_
    refine x_istore_n C dX12_find_36 37 rfl (by decide) (fun v3_36 => [(3, .int v3_36), (2, .int v2_34), (0, .ref (ad 0)), (1, .int v1)]) (fun _ => rfl) h (fun v3_36 h => ?_)
    exact x_sub [2, 3, 1, 0] rfl (b_X12_find_37 C  N h)
  · refine x_iconst C dX12_find_31 32 rfl 0 rfl ?_
    exact x_iret C rfl dX12_find_32 h
theorem c_X12_find {l : Launch} {D : va_G} {ca : Nat → ClassId} {ad : Nat → Nat} (hI : xInj ad NCM) {N : Nat} {ah : AH} {p1 : Int32} {r : Int32} {a : AH} (h : F_X12_find N ah p1 = some (r, a)) : xMi l yX12_find cX12_find 4 (some .int) rm_X12_find D vwCl (tysM ca) (EM ad ca) NCM ad [.ref (ad 0), .int p1] ah (r, a) := by
  refine x_meti (by decide) (Nat.le_of_ble_eq_true rfl) hI EM_loc ?_
  intro p e s m args below meth c C
  unfold F_X12_find at h
  refine x_aload_n C dX12_find_0 1 rfl 0 rfl ?_
  refine x_iconst C dX12_find_1 2 rfl 0 rfl ?_
  refine x_put C inX12 0 lm0 EM_0 rfl 0 (by decide) tyX12_ok nmX12 dX12_find_2 5 rfl wmf_X12_180 rfl rfl rfl (Nat.le_of_ble_eq_true rfl) EQ_0_0 h (fun a2 h => ?_)
  refine x_aload_n C dX12_find_5 6 rfl 0 rfl ?_
  refine x_iload_n C dX12_find_6 7 rfl 1 rfl ?_
  refine x_iconst C dX12_find_7 8 rfl 0 rfl ?_
  refine x_aload_n C dX12_find_8 9 rfl 0 rfl ?_
  refine x_get C inX12 0 lm0 EM_0 rfl 2 (by decide) dX12_find_9 12 rfl wmf_X12_183 rfl ?_
  obtain ⟨r12, a12, hq, h⟩ := xb_some h
  refine x_callSi C (c_X12_in C.2.2.2.2.2.2.1 hq) wml_X12_223 wq_X12_in rfl ⟨by decide, by decide⟩ rfl rfl ⟨by decide, by decide⟩ dX12_find_12 15 rfl rfl (Nat.le_of_ble_eq_true rfl) ?_
  refine x_if_ne C dX12_find_15 18 rfl 22 rfl h (fun h => ?_) (fun h => ?_)
  · refine x_iconst C dX12_find_22 23 rfl 0 rfl ?_
    exact b_X12_find_23 C  h
  · refine x_iconst C dX12_find_18 19 rfl 1 rfl ?_
    refine x_goto C dX12_find_19 23 rfl ?_
    exact b_X12_find_23 C  h
abbrev rm_X12_isNode : Room := { frames := 1, cells := 0, slots := 0, locals := 22 }
theorem wq_X12_isNode : xcV RX12 yX12_isNode cX12_isNode 2 (some .boolean) 1 := ⟨wmi_X12_isNode, wms_X12_isNode, wmn_X12, wmc_X12_isNode, by decide, by decide, by decide +kernel⟩
def F_X12_isNode (N : Nat) (ah : AH) (p1 : Int32) : Option (Int32 × AH) := xb (F_X12_in N ah p1 0 ((ah 0 15) - 1)) (fun r8 a8 => xbo r8 (some (r8, a8)))
theorem c_X12_isNode {l : Launch} {D : va_G} {ca : Nat → ClassId} {ad : Nat → Nat} (hI : xInj ad NCM) {N : Nat} {ah : AH} {p1 : Int32} {r : Int32} {a : AH} (h : F_X12_isNode N ah p1 = some (r, a)) : xMi l yX12_isNode cX12_isNode 2 (some .boolean) rm_X12_isNode D vwCl (tysM ca) (EM ad ca) NCM ad [.ref (ad 0), .int p1] ah (r, a) := by
  refine x_meti (by decide) (Nat.le_of_ble_eq_true rfl) hI EM_loc ?_
  intro p e s m args below meth c C
  unfold F_X12_isNode at h
  refine x_iload_n C dX12_isNode_0 1 rfl 1 rfl ?_
  refine x_iconst C dX12_isNode_1 2 rfl 0 rfl ?_
  refine x_aload_n C dX12_isNode_2 3 rfl 0 rfl ?_
  refine x_get C inX12 0 lm0 EM_0 rfl 15 (by decide) dX12_isNode_3 6 rfl wmf_X12_37 rfl ?_
  refine x_iconst C dX12_isNode_6 7 rfl 1 rfl ?_
  refine x_isub C dX12_isNode_7 8 rfl ?_
  obtain ⟨r8, a8, hq, h⟩ := xb_some h
  refine x_callSi C (c_X12_in C.2.2.2.2.2.2.1 hq) wml_X12_223 wq_X12_in rfl ⟨by decide, by decide⟩ rfl rfl ⟨by decide, by decide⟩ dX12_isNode_8 11 rfl rfl (Nat.le_of_ble_eq_true rfl) ?_
  exact x_zretB C rfl dX12_isNode_11 h
abbrev rm_X12_children : Room := { frames := 0, cells := 0, slots := 0, locals := 0 }
theorem wq_X12_children : xcV RX12 yX12_children cX12_children 4 (some .int) 1 := ⟨wmi_X12_children, wms_X12_children, wmn_X12, wmc_X12_children, by decide, by decide, by decide +kernel⟩
def F_X12_children_30 (N : Nat) (k6 : AH → Int32 → Int32 → Int32 → Option (Int32 × AH)) (ah : AH) (v1 : Int32) (v3 : Int32) (s0 : Int32) (s1 : Int32) : Option (Int32 × AH) := xlet (s0 + s1) (fun v2_31 => xlet (v3 + 1) (fun v3_32 => k6 ah v1 v2_31 v3_32))
def F_X12_children_6 (N : Nat) : Nat → AH → Int32 → Int32 → Int32 → Option (Int32 × AH)
  | 0, _, _, _, _ => none
  | n + 1, ah, v1, v2, v3 => if (ah 0 15) ≤ v3 then some (v2, ah) else xg v3 721 (if (ah 8 (Int32.toNatClampNeg v3)) = v1 then F_X12_children_30 N (F_X12_children_6 N n) ah v1 v3 v2 1 else F_X12_children_30 N (F_X12_children_6 N n) ah v1 v3 v2 0)
def F_X12_children (N : Nat) (ah : AH) (p1 : Int32) : Option (Int32 × AH) := xlet 0 (fun v2_1 => xlet (p1 + 1) (fun v3_5 => F_X12_children_6 N N ah p1 v2_1 v3_5))
theorem b_X12_children_30 (C : XC p l s m args meth c cX12_children 4 (some .int) RX12 D vwCl (tysM ca) (EM ad ca) NCM ad) {N : Nat} {o : (Int32 × AH)} {k6 : AH → Int32 → Int32 → Int32 → Option (Int32 × AH)} (hk6 : ∀ (ah : AH) (v1 : Int32) (v2 : Int32) (v3 : Int32), k6 ah v1 v2 v3 = some o → XW p l e rm_X12_children s m args below meth c 4 0 (xQi below args s D vwCl (tysM ca) (EM ad ca) NCM ad o) D vwCl (EM ad ca) NCM ad ah 6 [(0, .ref (ad 0)), (1, .int v1), (2, .int v2), (3, .int v3)] []) {ah : AH} {v1 : Int32} {v3 : Int32} {s0 : Int32} {s1 : Int32} (h : F_X12_children_30 N k6 ah v1 v3 s0 s1 = some o) : XW p l e rm_X12_children s m args below meth c 4 0 (xQi below args s D vwCl (tysM ca) (EM ad ca) NCM ad o) D vwCl (EM ad ca) NCM ad ah 30 [(0, .ref (ad 0)), (1, .int v1), (3, .int v3)] [.int s1, .int s0] := by
  unfold F_X12_children_30 at h
  refine x_iadd C dX12_children_30 31 rfl ?_
  refine x_istore_n C dX12_children_31 32 rfl (by decide) (fun v2_31 => [(2, .int v2_31), (0, .ref (ad 0)), (1, .int v1), (3, .int v3)]) (fun _ => rfl) h (fun v2_31 h => ?_)
  refine x_iinc C dX12_children_32 35 rfl 3 rfl (d := 1) rfl (by decide) (fun v3_32 => [(3, .int v3_32), (2, .int v2_31), (0, .ref (ad 0)), (1, .int v1)]) (fun _ => rfl) h (fun v3_32 h => ?_)
  refine x_goto C dX12_children_35 6 rfl ?_
  exact x_sub [2, 3, 1, 0] rfl (hk6 _ _ _ _ h)
theorem b_X12_children_6 (C : XC p l s m args meth c cX12_children 4 (some .int) RX12 D vwCl (tysM ca) (EM ad ca) NCM ad) {N : Nat} {o : (Int32 × AH)} : ∀ (n : Nat) {ah : AH} {v1 : Int32} {v2 : Int32} {v3 : Int32}, F_X12_children_6 N n ah v1 v2 v3 = some o → XW p l e rm_X12_children s m args below meth c 4 0 (xQi below args s D vwCl (tysM ca) (EM ad ca) NCM ad o) D vwCl (EM ad ca) NCM ad ah 6 [(0, .ref (ad 0)), (1, .int v1), (2, .int v2), (3, .int v3)] [] := by
  intro n
  induction n with
  | zero => intro ah v1 v2 v3 h; unfold F_X12_children_6 at h; cases h
  | succ n ih =>
    intro ah v1 v2 v3 h
    unfold F_X12_children_6 at h
    refine x_iload_n C dX12_children_6 7 rfl 3 rfl ?_
    refine x_aload_n C dX12_children_7 8 rfl 0 rfl ?_
    refine x_get C inX12 0 lm0 EM_0 rfl 15 (by decide) dX12_children_8 11 rfl wmf_X12_37 rfl ?_
    refine x_icmp_ge C dX12_children_11 14 rfl 38 rfl h (fun h => ?_) (fun h => ?_)
    · refine x_iload_n C dX12_children_38 39 rfl 2 rfl ?_
      exact x_iret C rfl dX12_children_39 h
    · refine x_iload_n C dX12_children_14 15 rfl 2 rfl ?_
      refine x_aload_n C dX12_children_15 16 rfl 0 rfl ?_
      refine x_get C inX12 0 lm0 EM_0 rfl 16 (by decide) dX12_children_16 19 rfl wmf_X12_40 rfl ?_
      refine x_iload_n C dX12_children_19 20 rfl 3 rfl ?_
      refine x_iald C 8 lm8 EM_8 0 rfl dX12_children_20 21 rfl h (fun h => ?_)
      refine x_iload_n C dX12_children_21 22 rfl 1 rfl ?_
      refine x_icmp_ne C dX12_children_22 25 rfl 29 rfl h (fun h => ?_) (fun h => ?_)
      · refine x_iconst C dX12_children_29 30 rfl 0 rfl ?_
        exact x_sub [0, 1, 3] rfl (b_X12_children_30 C (fun _ _ _ _ h => ih h) h)
      · refine x_iconst C dX12_children_25 26 rfl 1 rfl ?_
        refine x_goto C dX12_children_26 30 rfl ?_
        exact x_sub [0, 1, 3] rfl (b_X12_children_30 C (fun _ _ _ _ h => ih h) h)
theorem c_X12_children {l : Launch} {D : va_G} {ca : Nat → ClassId} {ad : Nat → Nat} (hI : xInj ad NCM) {N : Nat} {ah : AH} {p1 : Int32} {r : Int32} {a : AH} (h : F_X12_children N ah p1 = some (r, a)) : xMi l yX12_children cX12_children 4 (some .int) rm_X12_children D vwCl (tysM ca) (EM ad ca) NCM ad [.ref (ad 0), .int p1] ah (r, a) := by
  refine x_meti (by decide) (Nat.le_of_ble_eq_true rfl) hI EM_loc ?_
  intro p e s m args below meth c C
  unfold F_X12_children at h
  refine x_iconst C dX12_children_0 1 rfl 0 rfl ?_
  refine x_istore_n C dX12_children_1 2 rfl (by decide) (fun v2_1 => [(2, .int v2_1), (0, .ref (ad 0)), (1, .int p1)]) (fun _ => rfl) h (fun v2_1 h => ?_)
  refine x_iload_n C dX12_children_2 3 rfl 2 rfl ?_
  refine x_iconst C dX12_children_3 4 rfl 1 rfl ?_
  refine x_iadd C dX12_children_4 5 rfl ?_
  refine x_istore_n C dX12_children_5 6 rfl (by decide) (fun v3_5 => [(3, .int v3_5), (2, .int v2_1), (0, .ref (ad 0)), (1, .int p1)]) (fun _ => rfl) h (fun v3_5 h => ?_)
  exact x_sub [2, 3, 1, 0] rfl (b_X12_children_6 C  N h)
abbrev rm_X12_node : Room := { frames := 2, cells := 0, slots := 0, locals := 43 }
theorem wq_X12_node : xcV RX12 yX12_node cX12_node 3 (some .int) 2 := ⟨wmi_X12_node, wms_X12_node, wmn_X12, wmc_X12_node, by decide, by decide, by decide +kernel⟩
def F_X12_node_42 (N : Nat) (ah : AH) (v1 : Int32) (v2 : Int32) (s1 : Int32) : Option (Int32 × AH) := xb (F_X12_bad N ah s1 2 1) (fun r44 a44 => if r44 = 0 then if v2 < 0 then xg v1 721 (some (a44 12 (Int32.toNatClampNeg v1), a44)) else if 4 < v2 then xg v1 721 (some (a44 12 (Int32.toNatClampNeg v1), a44)) else if v2 = 0 then xg v1 721 (some (a44 8 (Int32.toNatClampNeg v1), a44)) else if v2 = 1 then xg v1 721 (some (a44 9 (Int32.toNatClampNeg v1), a44)) else if v2 = 2 then xg v1 721 (some (a44 10 (Int32.toNatClampNeg v1), a44)) else if v2 = 3 then xg v1 721 (some (a44 11 (Int32.toNatClampNeg v1), a44)) else if v2 = 4 then xb (F_X12_children N a44 v1) (fun r118 a118 => some (r118, a118)) else none else some (0, a44))
def F_X12_node_19 (N : Nat) (ah : AH) (v1 : Int32) (v2 : Int32) (s1 : Int32) : Option (Int32 × AH) := xb (F_X12_bad N ah s1 1 0) (fun r21 a21 => if r21 = 0 then xb (F_X12_in N a21 v2 0 5) (fun r31 a31 => if r31 = 0 then F_X12_node_42 N a31 v1 v2 1 else F_X12_node_42 N a31 v1 v2 0) else some (0, a21))
def F_X12_node (N : Nat) (ah : AH) (p1 : Int32) (p2 : Int32) : Option (Int32 × AH) := xlet (xu ah 0 0 0) (fun a2 => xb (F_X12_isNode N a2 p1) (fun r8 a8 => if r8 = 0 then F_X12_node_19 N a8 p1 p2 1 else F_X12_node_19 N a8 p1 p2 0))
theorem b_X12_node_42 (C : XC p l s m args meth c cX12_node 3 (some .int) RX12 D vwCl (tysM ca) (EM ad ca) NCM ad) {N : Nat} {o : (Int32 × AH)} {ah : AH} {v1 : Int32} {v2 : Int32} {s1 : Int32} (h : F_X12_node_42 N ah v1 v2 s1 = some o) : XW p l e rm_X12_node s m args below meth c 3 0 (xQi below args s D vwCl (tysM ca) (EM ad ca) NCM ad o) D vwCl (EM ad ca) NCM ad ah 42 [(0, .ref (ad 0)), (1, .int v1), (2, .int v2)] [.int s1, .ref (ad 0)] := by
  unfold F_X12_node_42 at h
  refine x_iconst C dX12_node_42 43 rfl 2 rfl ?_
  refine x_iconst C dX12_node_43 44 rfl 1 rfl ?_
  obtain ⟨r44, a44, hq, h⟩ := xb_some h
  refine x_callVi C 0 (c_X12_bad C.2.2.2.2.2.2.1 hq) lm0 EM_0 rfl wml_X12_249 wq_X12_bad rfl ⟨by decide, by decide⟩ rfl rfl ⟨by decide, by decide⟩ dX12_node_44 47 rfl rfl (Nat.le_of_ble_eq_true rfl) ?_
  refine x_if_eq C dX12_node_47 50 rfl 52 rfl h (fun h => ?_) (fun h => ?_)
  · refine x_iload_n C dX12_node_52 53 rfl 2 rfl ?_
    refine x_swL 0 0 (by decide) h (fun q h => ?_) (fun h => ?_)
    · refine x_tabOut C 122 dX12_node_53 (Or.inl q) rfl ?_
      refine x_aload_n C dX12_node_122 123 rfl 0 rfl ?_
      refine x_get C inX12 0 lm0 EM_0 rfl 20 (by decide) dX12_node_123 126 rfl wmf_X12_52 rfl ?_
      refine x_iload_n C dX12_node_126 127 rfl 1 rfl ?_
      refine x_iald C 12 lm12 EM_12 0 rfl dX12_node_127 128 rfl h (fun h => ?_)
      exact x_iret C rfl dX12_node_128 h
    · skip
      refine x_swG 4 4 (by decide) h (fun q h => ?_) (fun h => ?_)
      · refine x_tabOut C 122 dX12_node_53 (Or.inr q) rfl ?_
        refine x_aload_n C dX12_node_122 123 rfl 0 rfl ?_
        refine x_get C inX12 0 lm0 EM_0 rfl 20 (by decide) dX12_node_123 126 rfl wmf_X12_52 rfl ?_
        refine x_iload_n C dX12_node_126 127 rfl 1 rfl ?_
        refine x_iald C 12 lm12 EM_12 0 rfl dX12_node_127 128 rfl h (fun h => ?_)
        exact x_iret C rfl dX12_node_128 h
      · skip
        refine x_sw 0 h (fun q h => ?_) (fun h => ?_)
        · refine x_tabIn C 88 0 dX12_node_53 q (by decide) (by decide) rfl rfl ?_
          refine x_aload_n C dX12_node_88 89 rfl 0 rfl ?_
          refine x_get C inX12 0 lm0 EM_0 rfl 16 (by decide) dX12_node_89 92 rfl wmf_X12_40 rfl ?_
          refine x_iload_n C dX12_node_92 93 rfl 1 rfl ?_
          refine x_iald C 8 lm8 EM_8 0 rfl dX12_node_93 94 rfl h (fun h => ?_)
          exact x_iret C rfl dX12_node_94 h
        · skip
          refine x_sw 1 h (fun q h => ?_) (fun h => ?_)
          · refine x_tabIn C 95 1 dX12_node_53 q (by decide) (by decide) rfl rfl ?_
            refine x_aload_n C dX12_node_95 96 rfl 0 rfl ?_
            refine x_get C inX12 0 lm0 EM_0 rfl 17 (by decide) dX12_node_96 99 rfl wmf_X12_43 rfl ?_
            refine x_iload_n C dX12_node_99 100 rfl 1 rfl ?_
            refine x_iald C 9 lm9 EM_9 0 rfl dX12_node_100 101 rfl h (fun h => ?_)
            exact x_iret C rfl dX12_node_101 h
          · skip
            refine x_sw 2 h (fun q h => ?_) (fun h => ?_)
            · refine x_tabIn C 102 2 dX12_node_53 q (by decide) (by decide) rfl rfl ?_
              refine x_aload_n C dX12_node_102 103 rfl 0 rfl ?_
              refine x_get C inX12 0 lm0 EM_0 rfl 18 (by decide) dX12_node_103 106 rfl wmf_X12_46 rfl ?_
              refine x_iload_n C dX12_node_106 107 rfl 1 rfl ?_
              refine x_iald C 10 lm10 EM_10 0 rfl dX12_node_107 108 rfl h (fun h => ?_)
              exact x_iret C rfl dX12_node_108 h
            · skip
              refine x_sw 3 h (fun q h => ?_) (fun h => ?_)
              · refine x_tabIn C 109 3 dX12_node_53 q (by decide) (by decide) rfl rfl ?_
                refine x_aload_n C dX12_node_109 110 rfl 0 rfl ?_
                refine x_get C inX12 0 lm0 EM_0 rfl 19 (by decide) dX12_node_110 113 rfl wmf_X12_49 rfl ?_
                refine x_iload_n C dX12_node_113 114 rfl 1 rfl ?_
                refine x_iald C 11 lm11 EM_11 0 rfl dX12_node_114 115 rfl h (fun h => ?_)
                exact x_iret C rfl dX12_node_115 h
              · skip
                refine x_sw 4 h (fun q h => ?_) (fun h => ?_)
                · refine x_tabIn C 116 4 dX12_node_53 q (by decide) (by decide) rfl rfl ?_
                  refine x_aload_n C dX12_node_116 117 rfl 0 rfl ?_
                  refine x_iload_n C dX12_node_117 118 rfl 1 rfl ?_
                  obtain ⟨r118, a118, hq, h⟩ := xb_some h
                  refine x_callVi C 0 (c_X12_children C.2.2.2.2.2.2.1 hq) lm0 EM_0 rfl wml_X12_365 wq_X12_children rfl ⟨by decide, by decide⟩ rfl rfl ⟨by decide, by decide⟩ dX12_node_118 121 rfl rfl (Nat.le_of_ble_eq_true rfl) ?_
                  exact x_iret C rfl dX12_node_121 h
                · skip
                  cases h
  · refine x_iconst C dX12_node_50 51 rfl 0 rfl ?_
    exact x_iret C rfl dX12_node_51 h
theorem b_X12_node_19 (C : XC p l s m args meth c cX12_node 3 (some .int) RX12 D vwCl (tysM ca) (EM ad ca) NCM ad) {N : Nat} {o : (Int32 × AH)} {ah : AH} {v1 : Int32} {v2 : Int32} {s1 : Int32} (h : F_X12_node_19 N ah v1 v2 s1 = some o) : XW p l e rm_X12_node s m args below meth c 3 0 (xQi below args s D vwCl (tysM ca) (EM ad ca) NCM ad o) D vwCl (EM ad ca) NCM ad ah 19 [(0, .ref (ad 0)), (1, .int v1), (2, .int v2)] [.int s1, .ref (ad 0)] := by
  unfold F_X12_node_19 at h
  refine x_iconst C dX12_node_19 20 rfl 1 rfl ?_
  refine x_iconst C dX12_node_20 21 rfl 0 rfl ?_
  obtain ⟨r21, a21, hq, h⟩ := xb_some h
  refine x_callVi C 0 (c_X12_bad C.2.2.2.2.2.2.1 hq) lm0 EM_0 rfl wml_X12_249 wq_X12_bad rfl ⟨by decide, by decide⟩ rfl rfl ⟨by decide, by decide⟩ dX12_node_21 24 rfl rfl (Nat.le_of_ble_eq_true rfl) ?_
  refine x_if_ne C dX12_node_24 27 rfl 50 rfl h (fun h => ?_) (fun h => ?_)
  · refine x_iconst C dX12_node_50 51 rfl 0 rfl ?_
    exact x_iret C rfl dX12_node_51 h
  · refine x_aload_n C dX12_node_27 28 rfl 0 rfl ?_
    refine x_iload_n C dX12_node_28 29 rfl 2 rfl ?_
    refine x_iconst C dX12_node_29 30 rfl 0 rfl ?_
    refine x_iconst C dX12_node_30 31 rfl 5 rfl ?_
    obtain ⟨r31, a31, hq, h⟩ := xb_some h
    refine x_callSi C (c_X12_in C.2.2.2.2.2.2.1 hq) wml_X12_223 wq_X12_in rfl ⟨by decide, by decide⟩ rfl rfl ⟨by decide, by decide⟩ dX12_node_31 34 rfl rfl (Nat.le_of_ble_eq_true rfl) ?_
    refine x_if_ne C dX12_node_34 37 rfl 41 rfl h (fun h => ?_) (fun h => ?_)
    · refine x_iconst C dX12_node_41 42 rfl 0 rfl ?_
      exact b_X12_node_42 C  h
    · refine x_iconst C dX12_node_37 38 rfl 1 rfl ?_
      refine x_goto C dX12_node_38 42 rfl ?_
      exact b_X12_node_42 C  h
theorem c_X12_node {l : Launch} {D : va_G} {ca : Nat → ClassId} {ad : Nat → Nat} (hI : xInj ad NCM) {N : Nat} {ah : AH} {p1 : Int32} {p2 : Int32} {r : Int32} {a : AH} (h : F_X12_node N ah p1 p2 = some (r, a)) : xMi l yX12_node cX12_node 3 (some .int) rm_X12_node D vwCl (tysM ca) (EM ad ca) NCM ad [.ref (ad 0), .int p1, .int p2] ah (r, a) := by
  refine x_meti (by decide) (Nat.le_of_ble_eq_true rfl) hI EM_loc ?_
  intro p e s m args below meth c C
  unfold F_X12_node at h
  refine x_aload_n C dX12_node_0 1 rfl 0 rfl ?_
  refine x_iconst C dX12_node_1 2 rfl 0 rfl ?_
  refine x_put C inX12 0 lm0 EM_0 rfl 0 (by decide) tyX12_ok nmX12 dX12_node_2 5 rfl wmf_X12_180 rfl rfl rfl (Nat.le_of_ble_eq_true rfl) EQ_0_0 h (fun a2 h => ?_)
  refine x_aload_n C dX12_node_5 6 rfl 0 rfl ?_
  refine x_aload_n C dX12_node_6 7 rfl 0 rfl ?_
  refine x_iload_n C dX12_node_7 8 rfl 1 rfl ?_
  obtain ⟨r8, a8, hq, h⟩ := xb_some h
  refine x_callVi C 0 (c_X12_isNode C.2.2.2.2.2.2.1 hq) lm0 EM_0 rfl wml_X12_362 wq_X12_isNode rfl ⟨by decide, by decide⟩ rfl rfl ⟨by decide, by decide⟩ dX12_node_8 11 rfl rfl (Nat.le_of_ble_eq_true rfl) ?_
  refine x_if_ne C dX12_node_11 14 rfl 18 rfl h (fun h => ?_) (fun h => ?_)
  · refine x_iconst C dX12_node_18 19 rfl 0 rfl ?_
    exact b_X12_node_19 C  h
  · refine x_iconst C dX12_node_14 15 rfl 1 rfl ?_
    refine x_goto C dX12_node_15 19 rfl ?_
    exact b_X12_node_19 C  h
abbrev rm_X12_child : Room := { frames := 2, cells := 0, slots := 0, locals := 43 }
theorem wq_X12_child : xcV RX12 yX12_child cX12_child 3 (some .int) 2 := ⟨wmi_X12_child, wms_X12_child, wmn_X12, wmc_X12_child, by decide, by decide, by decide +kernel⟩
def F_X12_child_19 (N : Nat) (ah : AH) (v1 : Int32) (v2 : Int32) (s1 : Int32) : Option (Int32 × AH) := xb (F_X12_bad N ah s1 1 0) (fun r21 a21 => if r21 = 0 then xb (F_X12_childOf N a21 v1 v2) (fun r32 a32 => some (r32, a32)) else some (0, a21))
def F_X12_child (N : Nat) (ah : AH) (p1 : Int32) (p2 : Int32) : Option (Int32 × AH) := xlet (xu ah 0 0 0) (fun a2 => xb (F_X12_isNode N a2 p1) (fun r8 a8 => if r8 = 0 then F_X12_child_19 N a8 p1 p2 1 else F_X12_child_19 N a8 p1 p2 0))
theorem b_X12_child_19 (C : XC p l s m args meth c cX12_child 3 (some .int) RX12 D vwCl (tysM ca) (EM ad ca) NCM ad) {N : Nat} {o : (Int32 × AH)} {ah : AH} {v1 : Int32} {v2 : Int32} {s1 : Int32} (h : F_X12_child_19 N ah v1 v2 s1 = some o) : XW p l e rm_X12_child s m args below meth c 3 0 (xQi below args s D vwCl (tysM ca) (EM ad ca) NCM ad o) D vwCl (EM ad ca) NCM ad ah 19 [(0, .ref (ad 0)), (1, .int v1), (2, .int v2)] [.int s1, .ref (ad 0)] := by
  unfold F_X12_child_19 at h
  refine x_iconst C dX12_child_19 20 rfl 1 rfl ?_
  refine x_iconst C dX12_child_20 21 rfl 0 rfl ?_
  obtain ⟨r21, a21, hq, h⟩ := xb_some h
  refine x_callVi C 0 (c_X12_bad C.2.2.2.2.2.2.1 hq) lm0 EM_0 rfl wml_X12_249 wq_X12_bad rfl ⟨by decide, by decide⟩ rfl rfl ⟨by decide, by decide⟩ dX12_child_21 24 rfl rfl (Nat.le_of_ble_eq_true rfl) ?_
  refine x_if_eq C dX12_child_24 27 rfl 29 rfl h (fun h => ?_) (fun h => ?_)
  · refine x_aload_n C dX12_child_29 30 rfl 0 rfl ?_
    refine x_iload_n C dX12_child_30 31 rfl 1 rfl ?_
    refine x_iload_n C dX12_child_31 32 rfl 2 rfl ?_
    obtain ⟨r32, a32, hq, h⟩ := xb_some h
    refine x_callVi C 0 (c_X12_childOf C.2.2.2.2.2.2.1 hq) lm0 EM_0 rfl wml_X12_272 wq_X12_childOf rfl ⟨by decide, by decide⟩ rfl rfl ⟨by decide, by decide⟩ dX12_child_32 35 rfl rfl (Nat.le_of_ble_eq_true rfl) ?_
    exact x_iret C rfl dX12_child_35 h
  · refine x_iconst C dX12_child_27 28 rfl 0 rfl ?_
    exact x_iret C rfl dX12_child_28 h
theorem c_X12_child {l : Launch} {D : va_G} {ca : Nat → ClassId} {ad : Nat → Nat} (hI : xInj ad NCM) {N : Nat} {ah : AH} {p1 : Int32} {p2 : Int32} {r : Int32} {a : AH} (h : F_X12_child N ah p1 p2 = some (r, a)) : xMi l yX12_child cX12_child 3 (some .int) rm_X12_child D vwCl (tysM ca) (EM ad ca) NCM ad [.ref (ad 0), .int p1, .int p2] ah (r, a) := by
  refine x_meti (by decide) (Nat.le_of_ble_eq_true rfl) hI EM_loc ?_
  intro p e s m args below meth c C
  unfold F_X12_child at h
  refine x_aload_n C dX12_child_0 1 rfl 0 rfl ?_
  refine x_iconst C dX12_child_1 2 rfl 0 rfl ?_
  refine x_put C inX12 0 lm0 EM_0 rfl 0 (by decide) tyX12_ok nmX12 dX12_child_2 5 rfl wmf_X12_180 rfl rfl rfl (Nat.le_of_ble_eq_true rfl) EQ_0_0 h (fun a2 h => ?_)
  refine x_aload_n C dX12_child_5 6 rfl 0 rfl ?_
  refine x_aload_n C dX12_child_6 7 rfl 0 rfl ?_
  refine x_iload_n C dX12_child_7 8 rfl 1 rfl ?_
  obtain ⟨r8, a8, hq, h⟩ := xb_some h
  refine x_callVi C 0 (c_X12_isNode C.2.2.2.2.2.2.1 hq) lm0 EM_0 rfl wml_X12_362 wq_X12_isNode rfl ⟨by decide, by decide⟩ rfl rfl ⟨by decide, by decide⟩ dX12_child_8 11 rfl rfl (Nat.le_of_ble_eq_true rfl) ?_
  refine x_if_ne C dX12_child_11 14 rfl 18 rfl h (fun h => ?_) (fun h => ?_)
  · refine x_iconst C dX12_child_18 19 rfl 0 rfl ?_
    exact b_X12_child_19 C  h
  · refine x_iconst C dX12_child_14 15 rfl 1 rfl ?_
    refine x_goto C dX12_child_15 19 rfl ?_
    exact b_X12_child_19 C  h
abbrev rm_X12_shape : Room := { frames := 1, cells := 0, slots := 0, locals := 23 }
theorem wq_X12_shape : xcV RX12 yX12_shape cX12_shape 3 (some .int) 2 := ⟨wmi_X12_shape, wms_X12_shape, wmn_X12, wmc_X12_shape, by decide, by decide, by decide +kernel⟩
def F_X12_shape_50 (N : Nat) (ah : AH) (v1 : Int32) (v2 : Int32) (s1 : Int32) : Option (Int32 × AH) := xb (F_X12_bad N ah s1 2 1) (fun r52 a52 => if r52 = 0 then xg v1 20 (xlet (157 + (0 * 20 + Int32.toNatClampNeg v1)) (fun x67 => xg v2 3 (some (a52 x67 (Int32.toNatClampNeg v2), a52)))) else some (0, a52))
def F_X12_shape_27 (N : Nat) (ah : AH) (v1 : Int32) (v2 : Int32) (s1 : Int32) : Option (Int32 × AH) := xb (F_X12_bad N ah s1 1 0) (fun r29 a29 => if r29 = 0 then xb (F_X12_in N a29 v2 0 2) (fun r39 a39 => if r39 = 0 then F_X12_shape_50 N a39 v1 v2 1 else F_X12_shape_50 N a39 v1 v2 0) else some (0, a29))
def F_X12_shape (N : Nat) (ah : AH) (p1 : Int32) (p2 : Int32) : Option (Int32 × AH) := xlet (xu ah 0 0 0) (fun a2 => xb (F_X12_in N a2 p1 0 ((a2 13 0) - 1)) (fun r16 a16 => if r16 = 0 then F_X12_shape_27 N a16 p1 p2 1 else F_X12_shape_27 N a16 p1 p2 0))
theorem b_X12_shape_50 (C : XC p l s m args meth c cX12_shape 3 (some .int) RX12 D vwCl (tysM ca) (EM ad ca) NCM ad) {N : Nat} {o : (Int32 × AH)} {ah : AH} {v1 : Int32} {v2 : Int32} {s1 : Int32} (h : F_X12_shape_50 N ah v1 v2 s1 = some o) : XW p l e rm_X12_shape s m args below meth c 3 0 (xQi below args s D vwCl (tysM ca) (EM ad ca) NCM ad o) D vwCl (EM ad ca) NCM ad ah 50 [(0, .ref (ad 0)), (1, .int v1), (2, .int v2)] [.int s1, .ref (ad 0)] := by
  unfold F_X12_shape_50 at h
  refine x_iconst C dX12_shape_50 51 rfl 2 rfl ?_
  refine x_iconst C dX12_shape_51 52 rfl 1 rfl ?_
  obtain ⟨r52, a52, hq, h⟩ := xb_some h
  refine x_callVi C 0 (c_X12_bad C.2.2.2.2.2.2.1 hq) lm0 EM_0 rfl wml_X12_249 wq_X12_bad rfl ⟨by decide, by decide⟩ rfl rfl ⟨by decide, by decide⟩ dX12_shape_52 55 rfl rfl (Nat.le_of_ble_eq_true rfl) ?_
  refine x_if_eq C dX12_shape_55 58 rfl 60 rfl h (fun h => ?_) (fun h => ?_)
  · refine x_aload_n C dX12_shape_60 61 rfl 0 rfl ?_
    refine x_get C inX12 0 lm0 EM_0 rfl 23 (by decide) dX12_shape_61 64 rfl wmf_X12_63 rfl ?_
    refine x_iconst C dX12_shape_64 65 rfl 0 rfl ?_
    refine x_aaldK C (15) lm15 EM_15 3 rfl rfl (by decide) 0 (by decide) dX12_shape_65 66 rfl (155 + 0) rfl ?_
    refine x_iload_n C dX12_shape_66 67 rfl 1 rfl ?_
    refine x_aaldL C (155 + 0) (lm_shape_1 (show 0 < 2 by decide)) (EM_shape_1 (show 0 < 2 by decide)) 2 rfl rfl dX12_shape_67 68 rfl (157 + (0 * 20 + Int32.toNatClampNeg v1)) rfl h (fun x67 ex67 hb67 h => ?_)
    have hx67 : mI x67 3 := ex67 ▸ mI_shape (xfl (show 0 < 2 by decide) hb67)
    refine x_iload_n C dX12_shape_68 69 rfl 2 rfl ?_
    refine x_iald C x67 hx67.1 (hx67.2 _ _ _) 0 rfl dX12_shape_69 70 rfl h (fun h => ?_)
    exact x_iret C rfl dX12_shape_70 h
  · refine x_iconst C dX12_shape_58 59 rfl 0 rfl ?_
    exact x_iret C rfl dX12_shape_59 h
theorem b_X12_shape_27 (C : XC p l s m args meth c cX12_shape 3 (some .int) RX12 D vwCl (tysM ca) (EM ad ca) NCM ad) {N : Nat} {o : (Int32 × AH)} {ah : AH} {v1 : Int32} {v2 : Int32} {s1 : Int32} (h : F_X12_shape_27 N ah v1 v2 s1 = some o) : XW p l e rm_X12_shape s m args below meth c 3 0 (xQi below args s D vwCl (tysM ca) (EM ad ca) NCM ad o) D vwCl (EM ad ca) NCM ad ah 27 [(0, .ref (ad 0)), (1, .int v1), (2, .int v2)] [.int s1, .ref (ad 0)] := by
  unfold F_X12_shape_27 at h
  refine x_iconst C dX12_shape_27 28 rfl 1 rfl ?_
  refine x_iconst C dX12_shape_28 29 rfl 0 rfl ?_
  obtain ⟨r29, a29, hq, h⟩ := xb_some h
  refine x_callVi C 0 (c_X12_bad C.2.2.2.2.2.2.1 hq) lm0 EM_0 rfl wml_X12_249 wq_X12_bad rfl ⟨by decide, by decide⟩ rfl rfl ⟨by decide, by decide⟩ dX12_shape_29 32 rfl rfl (Nat.le_of_ble_eq_true rfl) ?_
  refine x_if_ne C dX12_shape_32 35 rfl 58 rfl h (fun h => ?_) (fun h => ?_)
  · refine x_iconst C dX12_shape_58 59 rfl 0 rfl ?_
    exact x_iret C rfl dX12_shape_59 h
  · refine x_aload_n C dX12_shape_35 36 rfl 0 rfl ?_
    refine x_iload_n C dX12_shape_36 37 rfl 2 rfl ?_
    refine x_iconst C dX12_shape_37 38 rfl 0 rfl ?_
    refine x_iconst C dX12_shape_38 39 rfl 2 rfl ?_
    obtain ⟨r39, a39, hq, h⟩ := xb_some h
    refine x_callSi C (c_X12_in C.2.2.2.2.2.2.1 hq) wml_X12_223 wq_X12_in rfl ⟨by decide, by decide⟩ rfl rfl ⟨by decide, by decide⟩ dX12_shape_39 42 rfl rfl (Nat.le_of_ble_eq_true rfl) ?_
    refine x_if_ne C dX12_shape_42 45 rfl 49 rfl h (fun h => ?_) (fun h => ?_)
    · refine x_iconst C dX12_shape_49 50 rfl 0 rfl ?_
      exact b_X12_shape_50 C  h
    · refine x_iconst C dX12_shape_45 46 rfl 1 rfl ?_
      refine x_goto C dX12_shape_46 50 rfl ?_
      exact b_X12_shape_50 C  h
theorem c_X12_shape {l : Launch} {D : va_G} {ca : Nat → ClassId} {ad : Nat → Nat} (hI : xInj ad NCM) {N : Nat} {ah : AH} {p1 : Int32} {p2 : Int32} {r : Int32} {a : AH} (h : F_X12_shape N ah p1 p2 = some (r, a)) : xMi l yX12_shape cX12_shape 3 (some .int) rm_X12_shape D vwCl (tysM ca) (EM ad ca) NCM ad [.ref (ad 0), .int p1, .int p2] ah (r, a) := by
  refine x_meti (by decide) (Nat.le_of_ble_eq_true rfl) hI EM_loc ?_
  intro p e s m args below meth c C
  unfold F_X12_shape at h
  refine x_aload_n C dX12_shape_0 1 rfl 0 rfl ?_
  refine x_iconst C dX12_shape_1 2 rfl 0 rfl ?_
  refine x_put C inX12 0 lm0 EM_0 rfl 0 (by decide) tyX12_ok nmX12 dX12_shape_2 5 rfl wmf_X12_180 rfl rfl rfl (Nat.le_of_ble_eq_true rfl) EQ_0_0 h (fun a2 h => ?_)
  refine x_aload_n C dX12_shape_5 6 rfl 0 rfl ?_
  refine x_iload_n C dX12_shape_6 7 rfl 1 rfl ?_
  refine x_iconst C dX12_shape_7 8 rfl 0 rfl ?_
  refine x_aload_n C dX12_shape_8 9 rfl 0 rfl ?_
  refine x_get C inX12 0 lm0 EM_0 rfl 21 (by decide) dX12_shape_9 12 rfl wmf_X12_55 rfl ?_
  refine x_iconst C dX12_shape_12 13 rfl 0 rfl ?_
  refine x_ialdK C 13 lm13 EM_13 0 rfl dX12_shape_13 14 rfl (by decide) 0 (by decide) ?_
  refine x_iconst C dX12_shape_14 15 rfl 1 rfl ?_
  refine x_isub C dX12_shape_15 16 rfl ?_
  obtain ⟨r16, a16, hq, h⟩ := xb_some h
  refine x_callSi C (c_X12_in C.2.2.2.2.2.2.1 hq) wml_X12_223 wq_X12_in rfl ⟨by decide, by decide⟩ rfl rfl ⟨by decide, by decide⟩ dX12_shape_16 19 rfl rfl (Nat.le_of_ble_eq_true rfl) ?_
  refine x_if_ne C dX12_shape_19 22 rfl 26 rfl h (fun h => ?_) (fun h => ?_)
  · refine x_iconst C dX12_shape_26 27 rfl 0 rfl ?_
    exact b_X12_shape_27 C  h
  · refine x_iconst C dX12_shape_22 23 rfl 1 rfl ?_
    refine x_goto C dX12_shape_23 27 rfl ?_
    exact b_X12_shape_27 C  h
abbrev rm_X12_isToken : Room := { frames := 1, cells := 0, slots := 0, locals := 22 }
theorem wq_X12_isToken : xcV RX12 yX12_isToken cX12_isToken 2 (some .boolean) 1 := ⟨wmi_X12_isToken, wms_X12_isToken, wmn_X12, wmc_X12_isToken, by decide, by decide, by decide +kernel⟩
def F_X12_isToken (N : Nat) (ah : AH) (p1 : Int32) : Option (Int32 × AH) := xb (F_X12_in N ah p1 0 ((ah 16 0) - 1)) (fun r10 a10 => xbo r10 (some (r10, a10)))
theorem c_X12_isToken {l : Launch} {D : va_G} {ca : Nat → ClassId} {ad : Nat → Nat} (hI : xInj ad NCM) {N : Nat} {ah : AH} {p1 : Int32} {r : Int32} {a : AH} (h : F_X12_isToken N ah p1 = some (r, a)) : xMi l yX12_isToken cX12_isToken 2 (some .boolean) rm_X12_isToken D vwCl (tysM ca) (EM ad ca) NCM ad [.ref (ad 0), .int p1] ah (r, a) := by
  refine x_meti (by decide) (Nat.le_of_ble_eq_true rfl) hI EM_loc ?_
  intro p e s m args below meth c C
  unfold F_X12_isToken at h
  refine x_iload_n C dX12_isToken_0 1 rfl 1 rfl ?_
  refine x_iconst C dX12_isToken_1 2 rfl 0 rfl ?_
  refine x_aload_n C dX12_isToken_2 3 rfl 0 rfl ?_
  refine x_get C inX12 0 lm0 EM_0 rfl 24 (by decide) dX12_isToken_3 6 rfl wmf_X12_66 rfl ?_
  refine x_iconst C dX12_isToken_6 7 rfl 0 rfl ?_
  refine x_ialdK C 16 lm16 EM_16 0 rfl dX12_isToken_7 8 rfl (by decide) 0 (by decide) ?_
  refine x_iconst C dX12_isToken_8 9 rfl 1 rfl ?_
  refine x_isub C dX12_isToken_9 10 rfl ?_
  obtain ⟨r10, a10, hq, h⟩ := xb_some h
  refine x_callSi C (c_X12_in C.2.2.2.2.2.2.1 hq) wml_X12_223 wq_X12_in rfl ⟨by decide, by decide⟩ rfl rfl ⟨by decide, by decide⟩ dX12_isToken_10 13 rfl rfl (Nat.le_of_ble_eq_true rfl) ?_
  exact x_zretB C rfl dX12_isToken_13 h
abbrev rm_X12_edgesOfAll : Room := { frames := 0, cells := 0, slots := 0, locals := 0 }
theorem wq_X12_edgesOfAll : xcV RX12 yX12_edgesOfAll cX12_edgesOfAll 3 (some .int) 0 := ⟨wmi_X12_edgesOfAll, wms_X12_edgesOfAll, wmn_X12, wmc_X12_edgesOfAll, by decide, by decide, by decide +kernel⟩
def F_X12_edgesOfAll_4 (N : Nat) : Nat → AH → Int32 → Int32 → Option (Int32 × AH)
  | 0, _, _, _ => none
  | n + 1, ah, v1, v2 => if (ah 0 33) ≤ v2 then some (v1, ah) else xg v2 49 (xlet (v1 + (ah 25 (Int32.toNatClampNeg v2))) (fun v1_20 => xlet (v2 + 1) (fun v2_21 => F_X12_edgesOfAll_4 N n ah v1_20 v2_21)))
def F_X12_edgesOfAll (N : Nat) (ah : AH) : Option (Int32 × AH) := xlet 0 (fun v1_1 => xlet 0 (fun v2_3 => F_X12_edgesOfAll_4 N N ah v1_1 v2_3))
theorem b_X12_edgesOfAll_4 (C : XC p l s m args meth c cX12_edgesOfAll 3 (some .int) RX12 D vwCl (tysM ca) (EM ad ca) NCM ad) {N : Nat} {o : (Int32 × AH)} : ∀ (n : Nat) {ah : AH} {v1 : Int32} {v2 : Int32}, F_X12_edgesOfAll_4 N n ah v1 v2 = some o → XW p l e rm_X12_edgesOfAll s m args below meth c 3 0 (xQi below args s D vwCl (tysM ca) (EM ad ca) NCM ad o) D vwCl (EM ad ca) NCM ad ah 4 [(0, .ref (ad 0)), (1, .int v1), (2, .int v2)] [] := by
  intro n
  induction n with
  | zero => intro ah v1 v2 h; unfold F_X12_edgesOfAll_4 at h; cases h
  | succ n ih =>
    intro ah v1 v2 h
    unfold F_X12_edgesOfAll_4 at h
    refine x_iload_n C dX12_edgesOfAll_4 5 rfl 2 rfl ?_
    refine x_aload_n C dX12_edgesOfAll_5 6 rfl 0 rfl ?_
    refine x_get C inX12 0 lm0 EM_0 rfl 33 (by decide) dX12_edgesOfAll_6 9 rfl wmf_X12_314 rfl ?_
    refine x_icmp_ge C dX12_edgesOfAll_9 12 rfl 27 rfl h (fun h => ?_) (fun h => ?_)
    · refine x_iload_n C dX12_edgesOfAll_27 28 rfl 1 rfl ?_
      exact x_iret C rfl dX12_edgesOfAll_28 h
    · refine x_iload_n C dX12_edgesOfAll_12 13 rfl 1 rfl ?_
      refine x_aload_n C dX12_edgesOfAll_13 14 rfl 0 rfl ?_
      refine x_get C inX12 0 lm0 EM_0 rfl 35 (by decide) dX12_edgesOfAll_14 17 rfl wmf_X12_95 rfl ?_
      refine x_iload_n C dX12_edgesOfAll_17 18 rfl 2 rfl ?_
      refine x_iald C 25 lm25 EM_25 0 rfl dX12_edgesOfAll_18 19 rfl h (fun h => ?_)
      refine x_iadd C dX12_edgesOfAll_19 20 rfl ?_
      refine x_istore_n C dX12_edgesOfAll_20 21 rfl (by decide) (fun v1_20 => [(1, .int v1_20), (0, .ref (ad 0)), (2, .int v2)]) (fun _ => rfl) h (fun v1_20 h => ?_)
      refine x_iinc C dX12_edgesOfAll_21 24 rfl 2 rfl (d := 1) rfl (by decide) (fun v2_21 => [(2, .int v2_21), (1, .int v1_20), (0, .ref (ad 0))]) (fun _ => rfl) h (fun v2_21 h => ?_)
      refine x_goto C dX12_edgesOfAll_24 4 rfl ?_
      exact x_sub [2, 1, 0] rfl (ih h)
theorem c_X12_edgesOfAll {l : Launch} {D : va_G} {ca : Nat → ClassId} {ad : Nat → Nat} (hI : xInj ad NCM) {N : Nat} {ah : AH} {r : Int32} {a : AH} (h : F_X12_edgesOfAll N ah = some (r, a)) : xMi l yX12_edgesOfAll cX12_edgesOfAll 3 (some .int) rm_X12_edgesOfAll D vwCl (tysM ca) (EM ad ca) NCM ad [.ref (ad 0)] ah (r, a) := by
  refine x_meti (by decide) (Nat.le_of_ble_eq_true rfl) hI EM_loc ?_
  intro p e s m args below meth c C
  unfold F_X12_edgesOfAll at h
  refine x_iconst C dX12_edgesOfAll_0 1 rfl 0 rfl ?_
  refine x_istore_n C dX12_edgesOfAll_1 2 rfl (by decide) (fun v1_1 => [(1, .int v1_1), (0, .ref (ad 0))]) (fun _ => rfl) h (fun v1_1 h => ?_)
  refine x_iconst C dX12_edgesOfAll_2 3 rfl 0 rfl ?_
  refine x_istore_n C dX12_edgesOfAll_3 4 rfl (by decide) (fun v2_3 => [(2, .int v2_3), (1, .int v1_1), (0, .ref (ad 0))]) (fun _ => rfl) h (fun v2_3 h => ?_)
  exact x_sub [2, 1, 0] rfl (b_X12_edgesOfAll_4 C  N h)
abbrev rm_X12_breaks : Room := { frames := 0, cells := 0, slots := 0, locals := 0 }
theorem wq_X12_breaks : xcV RX12 yX12_breaks cX12_breaks 4 (some .int) 1 := ⟨wmi_X12_breaks, wms_X12_breaks, wmn_X12, wmc_X12_breaks, by decide, by decide, by decide +kernel⟩
def F_X12_breaks_39 (N : Nat) (k4 : AH → Int32 → Int32 → Int32 → Option (Int32 × AH)) (ah : AH) (v1 : Int32) (v3 : Int32) (s0 : Int32) (s1 : Int32) : Option (Int32 × AH) := xlet (s0 + s1) (fun v2_40 => xlet (v3 + 1) (fun v3_41 => k4 ah v1 v2_40 v3_41))
def F_X12_breaks_4 (N : Nat) : Nat → AH → Int32 → Int32 → Int32 → Option (Int32 × AH)
  | 0, _, _, _, _ => none
  | n + 1, ah, v1, v2, v3 => xlet (197 + 0) (fun x10 => xg v1 40 (if (ah x10 (Int32.toNatClampNeg v1)) ≤ v3 then some (v2, ah) else xg v1 40 (xg v3 24 (xlet (285 + ((0 * 40 + Int32.toNatClampNeg v1) * 24 + Int32.toNatClampNeg v3)) (fun x26 => if (ah x26 0) = 10 then F_X12_breaks_39 N (F_X12_breaks_4 N n) ah v1 v3 v2 1 else F_X12_breaks_39 N (F_X12_breaks_4 N n) ah v1 v3 v2 0)))))
def F_X12_breaks (N : Nat) (ah : AH) (p1 : Int32) : Option (Int32 × AH) := xlet 0 (fun v2_1 => xlet 0 (fun v3_3 => F_X12_breaks_4 N N ah p1 v2_1 v3_3))
theorem b_X12_breaks_39 (C : XC p l s m args meth c cX12_breaks 4 (some .int) RX12 D vwCl (tysM ca) (EM ad ca) NCM ad) {N : Nat} {o : (Int32 × AH)} {k4 : AH → Int32 → Int32 → Int32 → Option (Int32 × AH)} (hk4 : ∀ (ah : AH) (v1 : Int32) (v2 : Int32) (v3 : Int32), k4 ah v1 v2 v3 = some o → XW p l e rm_X12_breaks s m args below meth c 4 0 (xQi below args s D vwCl (tysM ca) (EM ad ca) NCM ad o) D vwCl (EM ad ca) NCM ad ah 4 [(0, .ref (ad 0)), (1, .int v1), (2, .int v2), (3, .int v3)] []) {ah : AH} {v1 : Int32} {v3 : Int32} {s0 : Int32} {s1 : Int32} (h : F_X12_breaks_39 N k4 ah v1 v3 s0 s1 = some o) : XW p l e rm_X12_breaks s m args below meth c 4 0 (xQi below args s D vwCl (tysM ca) (EM ad ca) NCM ad o) D vwCl (EM ad ca) NCM ad ah 39 [(0, .ref (ad 0)), (1, .int v1), (3, .int v3)] [.int s1, .int s0] := by
  unfold F_X12_breaks_39 at h
  refine x_iadd C dX12_breaks_39 40 rfl ?_
  refine x_istore_n C dX12_breaks_40 41 rfl (by decide) (fun v2_40 => [(2, .int v2_40), (0, .ref (ad 0)), (1, .int v1), (3, .int v3)]) (fun _ => rfl) h (fun v2_40 h => ?_)
  refine x_iinc C dX12_breaks_41 44 rfl 3 rfl (d := 1) rfl (by decide) (fun v3_41 => [(3, .int v3_41), (2, .int v2_40), (0, .ref (ad 0)), (1, .int v1)]) (fun _ => rfl) h (fun v3_41 h => ?_)
  refine x_goto C dX12_breaks_44 4 rfl ?_
  exact x_sub [2, 3, 1, 0] rfl (hk4 _ _ _ _ h)
theorem b_X12_breaks_4 (C : XC p l s m args meth c cX12_breaks 4 (some .int) RX12 D vwCl (tysM ca) (EM ad ca) NCM ad) {N : Nat} {o : (Int32 × AH)} : ∀ (n : Nat) {ah : AH} {v1 : Int32} {v2 : Int32} {v3 : Int32}, F_X12_breaks_4 N n ah v1 v2 v3 = some o → XW p l e rm_X12_breaks s m args below meth c 4 0 (xQi below args s D vwCl (tysM ca) (EM ad ca) NCM ad o) D vwCl (EM ad ca) NCM ad ah 4 [(0, .ref (ad 0)), (1, .int v1), (2, .int v2), (3, .int v3)] [] := by
  intro n
  induction n with
  | zero => intro ah v1 v2 v3 h; unfold F_X12_breaks_4 at h; cases h
  | succ n ih =>
    intro ah v1 v2 v3 h
    unfold F_X12_breaks_4 at h
    refine x_iload_n C dX12_breaks_4 5 rfl 3 rfl ?_
    refine x_aload_n C dX12_breaks_5 6 rfl 0 rfl ?_
    refine x_get C inX12 0 lm0 EM_0 rfl 27 (by decide) dX12_breaks_6 9 rfl wmf_X12_72 rfl ?_
    refine x_iconst C dX12_breaks_9 10 rfl 0 rfl ?_
    refine x_aaldLK C (18) lm18 EM_18 2 rfl rfl (by decide) 0 (by decide) dX12_breaks_10 11 rfl (197 + 0) rfl h (fun x10 ex10 h => ?_)
    have hx10 : mI x10 40 := ex10 ▸ mI_cells (show 0 < 2 by decide)
    refine x_iload_n C dX12_breaks_11 12 rfl 1 rfl ?_
    refine x_iald C x10 hx10.1 (hx10.2 _ _ _) 0 rfl dX12_breaks_12 13 rfl h (fun h => ?_)
    refine x_icmp_ge C dX12_breaks_13 16 rfl 47 rfl h (fun h => ?_) (fun h => ?_)
    · refine x_iload_n C dX12_breaks_47 48 rfl 2 rfl ?_
      exact x_iret C rfl dX12_breaks_48 h
    · refine x_iload_n C dX12_breaks_16 17 rfl 2 rfl ?_
      refine x_aload_n C dX12_breaks_17 18 rfl 0 rfl ?_
      refine x_get C inX12 0 lm0 EM_0 rfl 30 (by decide) dX12_breaks_18 21 rfl wmf_X12_83 rfl ?_
      refine x_iconst C dX12_breaks_21 22 rfl 0 rfl ?_
      refine x_aaldK C (21) lm21 EM_21 4 rfl rfl (by decide) 0 (by decide) dX12_breaks_22 23 rfl (203 + 0) rfl ?_
      refine x_iload_n C dX12_breaks_23 24 rfl 1 rfl ?_
      refine x_aald C (203 + 0) (lm_cell_1 (show 0 < 2 by decide)) (EM_cell_1 (show 0 < 2 by decide)) 3 rfl rfl dX12_breaks_24 25 rfl (205 + (0 * 40 + Int32.toNatClampNeg v1)) rfl h (fun hb24 h => ?_)
      refine x_iload_n C dX12_breaks_25 26 rfl 3 rfl ?_
      refine x_aaldL C (205 + (0 * 40 + Int32.toNatClampNeg v1)) (lm_cell_2 (xfl (show 0 < 2 by decide) hb24)) (EM_cell_2 (xfl (show 0 < 2 by decide) hb24)) 2 rfl rfl dX12_breaks_26 27 rfl (285 + ((0 * 40 + Int32.toNatClampNeg v1) * 24 + Int32.toNatClampNeg v3)) rfl h (fun x26 ex26 hb26 h => ?_)
      have hx26 : mI x26 8 := ex26 ▸ mI_cell (xfl (xfl (show 0 < 2 by decide) hb24) hb26)
      refine x_iconst C dX12_breaks_27 28 rfl 0 rfl ?_
      refine x_ialdK C x26 hx26.1 (hx26.2 _ _ _) 0 rfl dX12_breaks_28 29 rfl (by decide) 0 (by decide) ?_
      refine x_bipush C dX12_breaks_29 31 rfl 10 rfl ?_
      refine x_icmp_ne C dX12_breaks_31 34 rfl 38 rfl h (fun h => ?_) (fun h => ?_)
      · refine x_iconst C dX12_breaks_38 39 rfl 0 rfl ?_
        exact x_sub [0, 1, 3] rfl (b_X12_breaks_39 C (fun _ _ _ _ h => ih h) h)
      · refine x_iconst C dX12_breaks_34 35 rfl 1 rfl ?_
        refine x_goto C dX12_breaks_35 39 rfl ?_
        exact x_sub [0, 1, 3] rfl (b_X12_breaks_39 C (fun _ _ _ _ h => ih h) h)
theorem c_X12_breaks {l : Launch} {D : va_G} {ca : Nat → ClassId} {ad : Nat → Nat} (hI : xInj ad NCM) {N : Nat} {ah : AH} {p1 : Int32} {r : Int32} {a : AH} (h : F_X12_breaks N ah p1 = some (r, a)) : xMi l yX12_breaks cX12_breaks 4 (some .int) rm_X12_breaks D vwCl (tysM ca) (EM ad ca) NCM ad [.ref (ad 0), .int p1] ah (r, a) := by
  refine x_meti (by decide) (Nat.le_of_ble_eq_true rfl) hI EM_loc ?_
  intro p e s m args below meth c C
  unfold F_X12_breaks at h
  refine x_iconst C dX12_breaks_0 1 rfl 0 rfl ?_
  refine x_istore_n C dX12_breaks_1 2 rfl (by decide) (fun v2_1 => [(2, .int v2_1), (0, .ref (ad 0)), (1, .int p1)]) (fun _ => rfl) h (fun v2_1 h => ?_)
  refine x_iconst C dX12_breaks_2 3 rfl 0 rfl ?_
  refine x_istore_n C dX12_breaks_3 4 rfl (by decide) (fun v3_3 => [(3, .int v3_3), (2, .int v2_1), (0, .ref (ad 0)), (1, .int p1)]) (fun _ => rfl) h (fun v3_3 h => ?_)
  exact x_sub [2, 3, 1, 0] rfl (b_X12_breaks_4 C  N h)
abbrev rm_X12_readAs : Room := { frames := 1, cells := 0, slots := 0, locals := 23 }
theorem wq_X12_readAs : xcV RX12 yX12_readAs cX12_readAs 3 (some .int) 0 := ⟨wmi_X12_readAs, wms_X12_readAs, wmn_X12, wmc_X12_readAs, by decide, by decide, by decide +kernel⟩
def F_X12_readAs_50 (N : Nat) (ah : AH) (v1 : Int32) : Option (Int32 × AH) := if v1 = ((-1)) then some ((-1), ah) else xg v1 721 (some (ah 10 (Int32.toNatClampNeg v1), ah))
def F_X12_readAs_44 (N : Nat) (k4 : AH → Int32 → Int32 → Option (Int32 × AH)) (ah : AH) (v1 : Int32) (v2 : Int32) : Option (Int32 × AH) := xlet (v2 + 1) (fun v2_44 => k4 ah v1 v2_44)
def F_X12_readAs_4 (N : Nat) : Nat → AH → Int32 → Int32 → Option (Int32 × AH)
  | 0, _, _, _ => none
  | n + 1, ah, v1, v2 => if (ah 0 33) ≤ v2 then F_X12_readAs_50 N ah v1 else if v1 = ((-1)) then F_X12_readAs_50 N ah v1 else xg v2 48 (xlet (2327 + (Int32.toNatClampNeg v2)) (fun x22 => if (ah x22 0) = 10 then F_X12_readAs_44 N (F_X12_readAs_4 N n) ah v1 v2 else xg v2 48 (xlet (2327 + (Int32.toNatClampNeg v2)) (fun x37 => xb (F_X12_childOf N ah v1 (ah x37 0)) (fun r40 a40 => xlet r40 (fun v1_43 => F_X12_readAs_44 N (F_X12_readAs_4 N n) a40 v1_43 v2))))))
def F_X12_readAs (N : Nat) (ah : AH) : Option (Int32 × AH) := xlet 0 (fun v1_1 => xlet 0 (fun v2_3 => F_X12_readAs_4 N N ah v1_1 v2_3))
theorem b_X12_readAs_50 (C : XC p l s m args meth c cX12_readAs 3 (some .int) RX12 D vwCl (tysM ca) (EM ad ca) NCM ad) {N : Nat} {o : (Int32 × AH)} {ah : AH} {v1 : Int32} (h : F_X12_readAs_50 N ah v1 = some o) : XW p l e rm_X12_readAs s m args below meth c 3 0 (xQi below args s D vwCl (tysM ca) (EM ad ca) NCM ad o) D vwCl (EM ad ca) NCM ad ah 50 [(0, .ref (ad 0)), (1, .int v1)] [] := by
  unfold F_X12_readAs_50 at h
  refine x_iload_n C dX12_readAs_50 51 rfl 1 rfl ?_
  refine x_iconst C dX12_readAs_51 52 rfl (-1) rfl ?_
  refine x_icmp_ne C dX12_readAs_52 55 rfl 59 rfl h (fun h => ?_) (fun h => ?_)
  · refine x_aload_n C dX12_readAs_59 60 rfl 0 rfl ?_
    refine x_get C inX12 0 lm0 EM_0 rfl 18 (by decide) dX12_readAs_60 63 rfl wmf_X12_46 rfl ?_
    refine x_iload_n C dX12_readAs_63 64 rfl 1 rfl ?_
    refine x_iald C 10 lm10 EM_10 0 rfl dX12_readAs_64 65 rfl h (fun h => ?_)
    exact x_iret C rfl dX12_readAs_65 h
  · refine x_iconst C dX12_readAs_55 56 rfl (-1) rfl ?_
    refine x_goto C dX12_readAs_56 65 rfl ?_
    exact x_iret C rfl dX12_readAs_65 h
theorem b_X12_readAs_44 (C : XC p l s m args meth c cX12_readAs 3 (some .int) RX12 D vwCl (tysM ca) (EM ad ca) NCM ad) {N : Nat} {o : (Int32 × AH)} {k4 : AH → Int32 → Int32 → Option (Int32 × AH)} (hk4 : ∀ (ah : AH) (v1 : Int32) (v2 : Int32), k4 ah v1 v2 = some o → XW p l e rm_X12_readAs s m args below meth c 3 0 (xQi below args s D vwCl (tysM ca) (EM ad ca) NCM ad o) D vwCl (EM ad ca) NCM ad ah 4 [(0, .ref (ad 0)), (1, .int v1), (2, .int v2)] []) {ah : AH} {v1 : Int32} {v2 : Int32} (h : F_X12_readAs_44 N k4 ah v1 v2 = some o) : XW p l e rm_X12_readAs s m args below meth c 3 0 (xQi below args s D vwCl (tysM ca) (EM ad ca) NCM ad o) D vwCl (EM ad ca) NCM ad ah 44 [(0, .ref (ad 0)), (1, .int v1), (2, .int v2)] [] := by
  unfold F_X12_readAs_44 at h
  refine x_iinc C dX12_readAs_44 47 rfl 2 rfl (d := 1) rfl (by decide) (fun v2_44 => [(2, .int v2_44), (0, .ref (ad 0)), (1, .int v1)]) (fun _ => rfl) h (fun v2_44 h => ?_)
  refine x_goto C dX12_readAs_47 4 rfl ?_
  exact x_sub [1, 2, 0] rfl (hk4 _ _ _ h)
theorem b_X12_readAs_4 (C : XC p l s m args meth c cX12_readAs 3 (some .int) RX12 D vwCl (tysM ca) (EM ad ca) NCM ad) {N : Nat} {o : (Int32 × AH)} : ∀ (n : Nat) {ah : AH} {v1 : Int32} {v2 : Int32}, F_X12_readAs_4 N n ah v1 v2 = some o → XW p l e rm_X12_readAs s m args below meth c 3 0 (xQi below args s D vwCl (tysM ca) (EM ad ca) NCM ad o) D vwCl (EM ad ca) NCM ad ah 4 [(0, .ref (ad 0)), (1, .int v1), (2, .int v2)] [] := by
  intro n
  induction n with
  | zero => intro ah v1 v2 h; unfold F_X12_readAs_4 at h; cases h
  | succ n ih =>
    intro ah v1 v2 h
    unfold F_X12_readAs_4 at h
    refine x_iload_n C dX12_readAs_4 5 rfl 2 rfl ?_
    refine x_aload_n C dX12_readAs_5 6 rfl 0 rfl ?_
    refine x_get C inX12 0 lm0 EM_0 rfl 33 (by decide) dX12_readAs_6 9 rfl wmf_X12_314 rfl ?_
    refine x_icmp_ge C dX12_readAs_9 12 rfl 50 rfl h (fun h => ?_) (fun h => ?_)
    · exact x_sub [0, 1] rfl (b_X12_readAs_50 C  h)
    · refine x_iload_n C dX12_readAs_12 13 rfl 1 rfl ?_
      refine x_iconst C dX12_readAs_13 14 rfl (-1) rfl ?_
      refine x_icmp_eq C dX12_readAs_14 17 rfl 50 rfl h (fun h => ?_) (fun h => ?_)
      · exact x_sub [0, 1] rfl (b_X12_readAs_50 C  h)
      · refine x_aload_n C dX12_readAs_17 18 rfl 0 rfl ?_
        refine x_get C inX12 0 lm0 EM_0 rfl 34 (by decide) dX12_readAs_18 21 rfl wmf_X12_92 rfl ?_
        refine x_iload_n C dX12_readAs_21 22 rfl 2 rfl ?_
        refine x_aaldL C (24) lm24 EM_24 2 rfl rfl dX12_readAs_22 23 rfl (2327 + (Int32.toNatClampNeg v2)) rfl h (fun x22 ex22 hb22 h => ?_)
        have hx22 : mI x22 8 := ex22 ▸ mI_net hb22
        refine x_iconst C dX12_readAs_23 24 rfl 0 rfl ?_
        refine x_ialdK C x22 hx22.1 (hx22.2 _ _ _) 0 rfl dX12_readAs_24 25 rfl (by decide) 0 (by decide) ?_
        refine x_bipush C dX12_readAs_25 27 rfl 10 rfl ?_
        refine x_icmp_eq C dX12_readAs_27 30 rfl 44 rfl h (fun h => ?_) (fun h => ?_)
        · exact b_X12_readAs_44 C (fun _ _ _ h => ih h) h
        · refine x_aload_n C dX12_readAs_30 31 rfl 0 rfl ?_
          refine x_iload_n C dX12_readAs_31 32 rfl 1 rfl ?_
          refine x_aload_n C dX12_readAs_32 33 rfl 0 rfl ?_
          refine x_get C inX12 0 lm0 EM_0 rfl 34 (by decide) dX12_readAs_33 36 rfl wmf_X12_92 rfl ?_
          refine x_iload_n C dX12_readAs_36 37 rfl 2 rfl ?_
          refine x_aaldL C (24) lm24 EM_24 2 rfl rfl dX12_readAs_37 38 rfl (2327 + (Int32.toNatClampNeg v2)) rfl h (fun x37 ex37 hb37 h => ?_)
          have hx37 : mI x37 8 := ex37 ▸ mI_net hb37
          refine x_iconst C dX12_readAs_38 39 rfl 0 rfl ?_
          refine x_ialdK C x37 hx37.1 (hx37.2 _ _ _) 0 rfl dX12_readAs_39 40 rfl (by decide) 0 (by decide) ?_
          obtain ⟨r40, a40, hq, h⟩ := xb_some h
          refine x_callVi C 0 (c_X12_childOf C.2.2.2.2.2.2.1 hq) lm0 EM_0 rfl wml_X12_272 wq_X12_childOf rfl ⟨by decide, by decide⟩ rfl rfl ⟨by decide, by decide⟩ dX12_readAs_40 43 rfl rfl (Nat.le_of_ble_eq_true rfl) ?_
          refine x_istore_n C dX12_readAs_43 44 rfl (by decide) (fun v1_43 => [(1, .int v1_43), (0, .ref (ad 0)), (2, .int v2)]) (fun _ => rfl) h (fun v1_43 h => ?_)
          exact x_sub [1, 0, 2] rfl (b_X12_readAs_44 C (fun _ _ _ h => ih h) h)
theorem c_X12_readAs {l : Launch} {D : va_G} {ca : Nat → ClassId} {ad : Nat → Nat} (hI : xInj ad NCM) {N : Nat} {ah : AH} {r : Int32} {a : AH} (h : F_X12_readAs N ah = some (r, a)) : xMi l yX12_readAs cX12_readAs 3 (some .int) rm_X12_readAs D vwCl (tysM ca) (EM ad ca) NCM ad [.ref (ad 0)] ah (r, a) := by
  refine x_meti (by decide) (Nat.le_of_ble_eq_true rfl) hI EM_loc ?_
  intro p e s m args below meth c C
  unfold F_X12_readAs at h
  refine x_iconst C dX12_readAs_0 1 rfl 0 rfl ?_
  refine x_istore_n C dX12_readAs_1 2 rfl (by decide) (fun v1_1 => [(1, .int v1_1), (0, .ref (ad 0))]) (fun _ => rfl) h (fun v1_1 h => ?_)
  refine x_iconst C dX12_readAs_2 3 rfl 0 rfl ?_
  refine x_istore_n C dX12_readAs_3 4 rfl (by decide) (fun v2_3 => [(2, .int v2_3), (1, .int v1_1), (0, .ref (ad 0))]) (fun _ => rfl) h (fun v2_3 h => ?_)
  exact x_sub [2, 1, 0] rfl (b_X12_readAs_4 C  N h)
abbrev rm_X12_token : Room := { frames := 4, cells := 0, slots := 0, locals := 98 }
theorem wq_X12_token : xcV RX12 yX12_token cX12_token 3 (some .int) 2 := ⟨wmi_X12_token, wms_X12_token, wmn_X12, wmc_X12_token, by decide, by decide, by decide +kernel⟩
def F_X12_token_43 (N : Nat) (ah : AH) (v1 : Int32) (v2 : Int32) (s1 : Int32) : Option (Int32 × AH) := xb (F_X12_bad N ah s1 2 1) (fun r45 a45 => if r45 = 0 then xbv (F_X12_laysToken N a45 v1 0) (fun a56 => if v2 < 0 then xb (F_X12_readAs N a56) (fun r161 a161 => if r161 = ((-1)) then some (0, a161) else some (1, a161)) else if 5 < v2 then xb (F_X12_readAs N a56) (fun r161 a161 => if r161 = ((-1)) then some (0, a161) else some (1, a161)) else if v2 = 0 then some (a56 0 33, a56) else if v2 = 1 then xlet (199 + 0) (fun x110 => xg v1 40 (some (a56 x110 (Int32.toNatClampNeg v1), a56))) else if v2 = 2 then xb (F_X12_breaks N a56 v1) (fun r116 a116 => some (r116, a116)) else if v2 = 3 then xb (F_X12_edgesOfAll N a56) (fun r121 a121 => some (r121, a121)) else if v2 = 4 then xb (F_X12_outside N a56) (fun r126 a126 => some (r126, a126)) else if v2 = 5 then if (a56 16 0) ≤ (v1 + 1) then some (0, a56) else xlet (201 + 0) (fun x147 => xg v1 40 (if (a56 x147 (Int32.toNatClampNeg v1)) = 1 then some (1, a56) else some (0, a56))) else none) else some (0, a45))
def F_X12_token_19 (N : Nat) (ah : AH) (v1 : Int32) (v2 : Int32) (s1 : Int32) : Option (Int32 × AH) := xb (F_X12_bad N ah s1 1 0) (fun r21 a21 => if r21 = 0 then xb (F_X12_in N a21 v2 0 6) (fun r32 a32 => if r32 = 0 then F_X12_token_43 N a32 v1 v2 1 else F_X12_token_43 N a32 v1 v2 0) else some (0, a21))
def F_X12_token (N : Nat) (ah : AH) (p1 : Int32) (p2 : Int32) : Option (Int32 × AH) := xlet (xu ah 0 0 0) (fun a2 => xb (F_X12_isToken N a2 p1) (fun r8 a8 => if r8 = 0 then F_X12_token_19 N a8 p1 p2 1 else F_X12_token_19 N a8 p1 p2 0))
theorem b_X12_token_43 (C : XC p l s m args meth c cX12_token 3 (some .int) RX12 D vwCl (tysM ca) (EM ad ca) NCM ad) {N : Nat} {o : (Int32 × AH)} {ah : AH} {v1 : Int32} {v2 : Int32} {s1 : Int32} (h : F_X12_token_43 N ah v1 v2 s1 = some o) : XW p l e rm_X12_token s m args below meth c 3 0 (xQi below args s D vwCl (tysM ca) (EM ad ca) NCM ad o) D vwCl (EM ad ca) NCM ad ah 43 [(0, .ref (ad 0)), (1, .int v1), (2, .int v2)] [.int s1, .ref (ad 0)] := by
  unfold F_X12_token_43 at h
  refine x_iconst C dX12_token_43 44 rfl 2 rfl ?_
  refine x_iconst C dX12_token_44 45 rfl 1 rfl ?_
  obtain ⟨r45, a45, hq, h⟩ := xb_some h
  refine x_callVi C 0 (c_X12_bad C.2.2.2.2.2.2.1 hq) lm0 EM_0 rfl wml_X12_249 wq_X12_bad rfl ⟨by decide, by decide⟩ rfl rfl ⟨by decide, by decide⟩ dX12_token_45 48 rfl rfl (Nat.le_of_ble_eq_true rfl) ?_
  refine x_if_eq C dX12_token_48 51 rfl 53 rfl h (fun h => ?_) (fun h => ?_)
  · refine x_aload_n C dX12_token_53 54 rfl 0 rfl ?_
    refine x_iload_n C dX12_token_54 55 rfl 1 rfl ?_
    refine x_iconst C dX12_token_55 56 rfl 0 rfl ?_
    obtain ⟨a56, hq, h⟩ := xbv_some h
    refine x_callVv C 0 (c_X12_laysToken C.2.2.2.2.2.2.1 hq) lm0 EM_0 rfl wml_X12_371 wq_X12_laysToken rfl ⟨by decide, by decide⟩ rfl rfl ⟨by decide, by decide⟩ dX12_token_56 59 rfl rfl (Nat.le_of_ble_eq_true rfl) ?_
    refine x_iload_n C dX12_token_59 60 rfl 2 rfl ?_
    refine x_swL 0 0 (by decide) h (fun q h => ?_) (fun h => ?_)
    · refine x_tabOut C 160 dX12_token_60 (Or.inl q) rfl ?_
      refine x_aload_n C dX12_token_160 161 rfl 0 rfl ?_
      obtain ⟨r161, a161, hq, h⟩ := xb_some h
      refine x_callVi C 0 (c_X12_readAs C.2.2.2.2.2.2.1 hq) lm0 EM_0 rfl wml_X12_384 wq_X12_readAs rfl ⟨by decide, by decide⟩ rfl rfl ⟨by decide, by decide⟩ dX12_token_161 164 rfl rfl (Nat.le_of_ble_eq_true rfl) ?_
      refine x_iconst C dX12_token_164 165 rfl (-1) rfl ?_
      refine x_icmp_eq C dX12_token_165 168 rfl 172 rfl h (fun h => ?_) (fun h => ?_)
      · refine x_iconst C dX12_token_172 173 rfl 0 rfl ?_
        exact x_iret C rfl dX12_token_173 h
      · refine x_iconst C dX12_token_168 169 rfl 1 rfl ?_
        refine x_goto C dX12_token_169 173 rfl ?_
        exact x_iret C rfl dX12_token_173 h
    · skip
      refine x_swG 5 5 (by decide) h (fun q h => ?_) (fun h => ?_)
      · refine x_tabOut C 160 dX12_token_60 (Or.inr q) rfl ?_
        refine x_aload_n C dX12_token_160 161 rfl 0 rfl ?_
        obtain ⟨r161, a161, hq, h⟩ := xb_some h
        refine x_callVi C 0 (c_X12_readAs C.2.2.2.2.2.2.1 hq) lm0 EM_0 rfl wml_X12_384 wq_X12_readAs rfl ⟨by decide, by decide⟩ rfl rfl ⟨by decide, by decide⟩ dX12_token_161 164 rfl rfl (Nat.le_of_ble_eq_true rfl) ?_
        refine x_iconst C dX12_token_164 165 rfl (-1) rfl ?_
        refine x_icmp_eq C dX12_token_165 168 rfl 172 rfl h (fun h => ?_) (fun h => ?_)
        · refine x_iconst C dX12_token_172 173 rfl 0 rfl ?_
          exact x_iret C rfl dX12_token_173 h
        · refine x_iconst C dX12_token_168 169 rfl 1 rfl ?_
          refine x_goto C dX12_token_169 173 rfl ?_
          exact x_iret C rfl dX12_token_173 h
      · skip
        refine x_sw 0 h (fun q h => ?_) (fun h => ?_)
        · refine x_tabIn C 100 0 dX12_token_60 q (by decide) (by decide) rfl rfl ?_
          refine x_aload_n C dX12_token_100 101 rfl 0 rfl ?_
          refine x_get C inX12 0 lm0 EM_0 rfl 33 (by decide) dX12_token_101 104 rfl wmf_X12_314 rfl ?_
          exact x_iret C rfl dX12_token_104 h
        · skip
          refine x_sw 1 h (fun q h => ?_) (fun h => ?_)
          · refine x_tabIn C 105 1 dX12_token_60 q (by decide) (by decide) rfl rfl ?_
            refine x_aload_n C dX12_token_105 106 rfl 0 rfl ?_
            refine x_get C inX12 0 lm0 EM_0 rfl 28 (by decide) dX12_token_106 109 rfl wmf_X12_75 rfl ?_
            refine x_iconst C dX12_token_109 110 rfl 0 rfl ?_
            refine x_aaldLK C (19) lm19 EM_19 2 rfl rfl (by decide) 0 (by decide) dX12_token_110 111 rfl (199 + 0) rfl h (fun x110 ex110 h => ?_)
            have hx110 : mI x110 40 := ex110 ▸ mI_lineOf (show 0 < 2 by decide)
            refine x_iload_n C dX12_token_111 112 rfl 1 rfl ?_
            refine x_iald C x110 hx110.1 (hx110.2 _ _ _) 0 rfl dX12_token_112 113 rfl h (fun h => ?_)
            exact x_iret C rfl dX12_token_113 h
          · skip
            refine x_sw 2 h (fun q h => ?_) (fun h => ?_)
            · refine x_tabIn C 114 2 dX12_token_60 q (by decide) (by decide) rfl rfl ?_
              refine x_aload_n C dX12_token_114 115 rfl 0 rfl ?_
              refine x_iload_n C dX12_token_115 116 rfl 1 rfl ?_
              obtain ⟨r116, a116, hq, h⟩ := xb_some h
              refine x_callVi C 0 (c_X12_breaks C.2.2.2.2.2.2.1 hq) lm0 EM_0 rfl wml_X12_375 wq_X12_breaks rfl ⟨by decide, by decide⟩ rfl rfl ⟨by decide, by decide⟩ dX12_token_116 119 rfl rfl (Nat.le_of_ble_eq_true rfl) ?_
              exact x_iret C rfl dX12_token_119 h
            · skip
              refine x_sw 3 h (fun q h => ?_) (fun h => ?_)
              · refine x_tabIn C 120 3 dX12_token_60 q (by decide) (by decide) rfl rfl ?_
                refine x_aload_n C dX12_token_120 121 rfl 0 rfl ?_
                obtain ⟨r121, a121, hq, h⟩ := xb_some h
                refine x_callVi C 0 (c_X12_edgesOfAll C.2.2.2.2.2.2.1 hq) lm0 EM_0 rfl wml_X12_378 wq_X12_edgesOfAll rfl ⟨by decide, by decide⟩ rfl rfl ⟨by decide, by decide⟩ dX12_token_121 124 rfl rfl (Nat.le_of_ble_eq_true rfl) ?_
                exact x_iret C rfl dX12_token_124 h
              · skip
                refine x_sw 4 h (fun q h => ?_) (fun h => ?_)
                · refine x_tabIn C 125 4 dX12_token_60 q (by decide) (by decide) rfl rfl ?_
                  refine x_aload_n C dX12_token_125 126 rfl 0 rfl ?_
                  obtain ⟨r126, a126, hq, h⟩ := xb_some h
                  refine x_callVi C 0 (c_X12_outside C.2.2.2.2.2.2.1 hq) lm0 EM_0 rfl wml_X12_381 wq_X12_outside rfl ⟨by decide, by decide⟩ rfl rfl ⟨by decide, by decide⟩ dX12_token_126 129 rfl rfl (Nat.le_of_ble_eq_true rfl) ?_
                  exact x_iret C rfl dX12_token_129 h
                · skip
                  refine x_sw 5 h (fun q h => ?_) (fun h => ?_)
                  · refine x_tabIn C 130 5 dX12_token_60 q (by decide) (by decide) rfl rfl ?_
                    refine x_iload_n C dX12_token_130 131 rfl 1 rfl ?_
                    refine x_iconst C dX12_token_131 132 rfl 1 rfl ?_
                    refine x_iadd C dX12_token_132 133 rfl ?_
                    refine x_aload_n C dX12_token_133 134 rfl 0 rfl ?_
                    refine x_get C inX12 0 lm0 EM_0 rfl 24 (by decide) dX12_token_134 137 rfl wmf_X12_66 rfl ?_
                    refine x_iconst C dX12_token_137 138 rfl 0 rfl ?_
                    refine x_ialdK C 16 lm16 EM_16 0 rfl dX12_token_138 139 rfl (by decide) 0 (by decide) ?_
                    refine x_icmp_ge C dX12_token_139 142 rfl 158 rfl h (fun h => ?_) (fun h => ?_)
                    · refine x_iconst C dX12_token_158 159 rfl 0 rfl ?_
                      exact x_iret C rfl dX12_token_159 h
                    · refine x_aload_n C dX12_token_142 143 rfl 0 rfl ?_
                      refine x_get C inX12 0 lm0 EM_0 rfl 29 (by decide) dX12_token_143 146 rfl wmf_X12_78 rfl ?_
                      refine x_iconst C dX12_token_146 147 rfl 0 rfl ?_
                      refine x_aaldLK C (20) lm20 EM_20 2 rfl rfl (by decide) 0 (by decide) dX12_token_147 148 rfl (201 + 0) rfl h (fun x147 ex147 h => ?_)
                      have hx147 : mI x147 40 := ex147 ▸ mI_behind (show 0 < 2 by decide)
                      refine x_iload_n C dX12_token_148 149 rfl 1 rfl ?_
                      refine x_iald C x147 hx147.1 (hx147.2 _ _ _) 0 rfl dX12_token_149 150 rfl h (fun h => ?_)
                      refine x_iconst C dX12_token_150 151 rfl 1 rfl ?_
                      refine x_icmp_ne C dX12_token_151 154 rfl 158 rfl h (fun h => ?_) (fun h => ?_)
                      · refine x_iconst C dX12_token_158 159 rfl 0 rfl ?_
                        exact x_iret C rfl dX12_token_159 h
                      · refine x_iconst C dX12_token_154 155 rfl 1 rfl ?_
                        refine x_goto C dX12_token_155 159 rfl ?_
                        exact x_iret C rfl dX12_token_159 h
                  · skip
                    cases h
  · refine x_iconst C dX12_token_51 52 rfl 0 rfl ?_
    exact x_iret C rfl dX12_token_52 h
theorem b_X12_token_19 (C : XC p l s m args meth c cX12_token 3 (some .int) RX12 D vwCl (tysM ca) (EM ad ca) NCM ad) {N : Nat} {o : (Int32 × AH)} {ah : AH} {v1 : Int32} {v2 : Int32} {s1 : Int32} (h : F_X12_token_19 N ah v1 v2 s1 = some o) : XW p l e rm_X12_token s m args below meth c 3 0 (xQi below args s D vwCl (tysM ca) (EM ad ca) NCM ad o) D vwCl (EM ad ca) NCM ad ah 19 [(0, .ref (ad 0)), (1, .int v1), (2, .int v2)] [.int s1, .ref (ad 0)] := by
  unfold F_X12_token_19 at h
  refine x_iconst C dX12_token_19 20 rfl 1 rfl ?_
  refine x_iconst C dX12_token_20 21 rfl 0 rfl ?_
  obtain ⟨r21, a21, hq, h⟩ := xb_some h
  refine x_callVi C 0 (c_X12_bad C.2.2.2.2.2.2.1 hq) lm0 EM_0 rfl wml_X12_249 wq_X12_bad rfl ⟨by decide, by decide⟩ rfl rfl ⟨by decide, by decide⟩ dX12_token_21 24 rfl rfl (Nat.le_of_ble_eq_true rfl) ?_
  refine x_if_ne C dX12_token_24 27 rfl 51 rfl h (fun h => ?_) (fun h => ?_)
  · refine x_iconst C dX12_token_51 52 rfl 0 rfl ?_
    exact x_iret C rfl dX12_token_52 h
  · refine x_aload_n C dX12_token_27 28 rfl 0 rfl ?_
    refine x_iload_n C dX12_token_28 29 rfl 2 rfl ?_
    refine x_iconst C dX12_token_29 30 rfl 0 rfl ?_
    refine x_bipush C dX12_token_30 32 rfl 6 rfl ?_
    obtain ⟨r32, a32, hq, h⟩ := xb_some h
    refine x_callSi C (c_X12_in C.2.2.2.2.2.2.1 hq) wml_X12_223 wq_X12_in rfl ⟨by decide, by decide⟩ rfl rfl ⟨by decide, by decide⟩ dX12_token_32 35 rfl rfl (Nat.le_of_ble_eq_true rfl) ?_
    refine x_if_ne C dX12_token_35 38 rfl 42 rfl h (fun h => ?_) (fun h => ?_)
    · refine x_iconst C dX12_token_42 43 rfl 0 rfl ?_
      exact b_X12_token_43 C  h
    · refine x_iconst C dX12_token_38 39 rfl 1 rfl ?_
      refine x_goto C dX12_token_39 43 rfl ?_
      exact b_X12_token_43 C  h
theorem c_X12_token {l : Launch} {D : va_G} {ca : Nat → ClassId} {ad : Nat → Nat} (hI : xInj ad NCM) {N : Nat} {ah : AH} {p1 : Int32} {p2 : Int32} {r : Int32} {a : AH} (h : F_X12_token N ah p1 p2 = some (r, a)) : xMi l yX12_token cX12_token 3 (some .int) rm_X12_token D vwCl (tysM ca) (EM ad ca) NCM ad [.ref (ad 0), .int p1, .int p2] ah (r, a) := by
  refine x_meti (by decide) (Nat.le_of_ble_eq_true rfl) hI EM_loc ?_
  intro p e s m args below meth c C
  unfold F_X12_token at h
  refine x_aload_n C dX12_token_0 1 rfl 0 rfl ?_
  refine x_iconst C dX12_token_1 2 rfl 0 rfl ?_
  refine x_put C inX12 0 lm0 EM_0 rfl 0 (by decide) tyX12_ok nmX12 dX12_token_2 5 rfl wmf_X12_180 rfl rfl rfl (Nat.le_of_ble_eq_true rfl) EQ_0_0 h (fun a2 h => ?_)
  refine x_aload_n C dX12_token_5 6 rfl 0 rfl ?_
  refine x_aload_n C dX12_token_6 7 rfl 0 rfl ?_
  refine x_iload_n C dX12_token_7 8 rfl 1 rfl ?_
  obtain ⟨r8, a8, hq, h⟩ := xb_some h
  refine x_callVi C 0 (c_X12_isToken C.2.2.2.2.2.2.1 hq) lm0 EM_0 rfl wml_X12_368 wq_X12_isToken rfl ⟨by decide, by decide⟩ rfl rfl ⟨by decide, by decide⟩ dX12_token_8 11 rfl rfl (Nat.le_of_ble_eq_true rfl) ?_
  refine x_if_ne C dX12_token_11 14 rfl 18 rfl h (fun h => ?_) (fun h => ?_)
  · refine x_iconst C dX12_token_18 19 rfl 0 rfl ?_
    exact b_X12_token_19 C  h
  · refine x_iconst C dX12_token_14 15 rfl 1 rfl ?_
    refine x_goto C dX12_token_15 19 rfl ?_
    exact b_X12_token_19 C  h
abbrev rm_X12_cell : Room := { frames := 2, cells := 0, slots := 0, locals := 43 }
theorem wq_X12_cell : xcV RX12 yX12_cell cX12_cell 8 (some .int) 3 := ⟨wmi_X12_cell, wms_X12_cell, wmn_X12, wmc_X12_cell, by decide, by decide, by decide +kernel⟩
def F_X12_cell_151 (N : Nat) (k110 : AH → Nat → Int32 → Int32 → Option (Int32 × AH)) (ah : AH) (x5 : Nat) (v7 : Int32) (s0 : Int32) : Option (Int32 × AH) := xlet s0 (fun v6_151 => xlet (v7 + 1) (fun v7_153 => k110 ah x5 v6_151 v7_153))
def F_X12_cell_110 (N : Nat) : Nat → AH → Nat → Int32 → Int32 → Option (Int32 × AH)
  | 0, _, _, _, _ => none
  | n + 1, ah, x5, v6, v7 => if (ah x5 1) ≤ v7 then some (v6, ah) else if v6 = ((-1)) then xg (3 + (2 * v7)) 8 (F_X12_cell_151 N (F_X12_cell_110 N n) ah x5 v7 (ah x5 (Int32.toNatClampNeg (3 + (2 * v7))))) else xg (3 + (2 * v7)) 8 (xb (F_X12_less N ah v6 (ah x5 (Int32.toNatClampNeg (3 + (2 * v7))))) (fun r148 a148 => F_X12_cell_151 N (F_X12_cell_110 N n) a148 x5 v7 r148))
def F_X12_cell_72 (N : Nat) (ah : AH) (v1 : Int32) (v2 : Int32) (v3 : Int32) (s1 : Int32) : Option (Int32 × AH) := xb (F_X12_bad N ah s1 2 1) (fun r74 a74 => if r74 = 0 then xg v1 40 (xg v2 24 (xlet (285 + ((0 * 40 + Int32.toNatClampNeg v1) * 24 + Int32.toNatClampNeg v2)) (fun x91 => if 2 ≤ v3 then xlet ((-1)) (fun v6_105 => xlet 0 (fun v7_108 => F_X12_cell_110 N N a74 x91 v6_105 v7_108)) else xg v3 8 (some (a74 x91 (Int32.toNatClampNeg v3), a74))))) else some (0, a74))
def F_X12_cell_49 (N : Nat) (ah : AH) (v1 : Int32) (v2 : Int32) (v3 : Int32) (s1 : Int32) : Option (Int32 × AH) := xb (F_X12_bad N ah s1 1 0) (fun r51 a51 => if r51 = 0 then xb (F_X12_in N a51 v3 0 2) (fun r61 a61 => if r61 = 0 then F_X12_cell_72 N a61 v1 v2 v3 1 else F_X12_cell_72 N a61 v1 v2 v3 0) else some (0, a51))
def F_X12_cell_36 (N : Nat) (ah : AH) (v1 : Int32) (v2 : Int32) (v3 : Int32) (s0 : Int32) : Option (Int32 × AH) := xlet s0 (fun v4_36 => if v4_36 = 0 then F_X12_cell_49 N ah v1 v2 v3 1 else F_X12_cell_49 N ah v1 v2 v3 0)
def F_X12_cell_35 (N : Nat) (ah : AH) (v1 : Int32) (v2 : Int32) (v3 : Int32) : Option (Int32 × AH) := F_X12_cell_36 N ah v1 v2 v3 0
def F_X12_cell (N : Nat) (ah : AH) (p1 : Int32) (p2 : Int32) (p3 : Int32) : Option (Int32 × AH) := xlet (xu ah 0 0 0) (fun a2 => xb (F_X12_isToken N a2 p1) (fun r7 a7 => if r7 = 0 then F_X12_cell_35 N a7 p1 p2 p3 else xlet (197 + 0) (fun x20 => xg p1 40 (xb (F_X12_in N a7 p2 0 ((a7 x20 (Int32.toNatClampNeg p1)) - 1)) (fun r25 a25 => if r25 = 0 then F_X12_cell_35 N a25 p1 p2 p3 else F_X12_cell_36 N a25 p1 p2 p3 1)))))
theorem b_X12_cell_151 (C : XC p l s m args meth c cX12_cell 8 (some .int) RX12 D vwCl (tysM ca) (EM ad ca) NCM ad) {N : Nat} {o : (Int32 × AH)} {k110 : AH → Nat → Int32 → Int32 → Option (Int32 × AH)} (hk110 : ∀ (ah : AH) (x5 : Nat) (v6 : Int32) (v7 : Int32) (hx5 : mI x5 8), k110 ah x5 v6 v7 = some o → XW p l e rm_X12_cell s m args below meth c 8 0 (xQi below args s D vwCl (tysM ca) (EM ad ca) NCM ad o) D vwCl (EM ad ca) NCM ad ah 110 [(5, .ref (ad x5)), (6, .int v6), (7, .int v7)] []) {ah : AH} {x5 : Nat} {v7 : Int32} {s0 : Int32} (hx5 : mI x5 8) (h : F_X12_cell_151 N k110 ah x5 v7 s0 = some o) : XW p l e rm_X12_cell s m args below meth c 8 0 (xQi below args s D vwCl (tysM ca) (EM ad ca) NCM ad o) D vwCl (EM ad ca) NCM ad ah 151 [(5, .ref (ad x5)), (7, .int v7)] [.int s0] := by
  unfold F_X12_cell_151 at h
  refine x_istore C dX12_cell_151 153 rfl (by decide) (fun v6_151 => [(6, .int v6_151), (5, .ref (ad x5)), (7, .int v7)]) (fun _ => rfl) h (fun v6_151 h => ?_)
  refine x_iinc C dX12_cell_153 156 rfl 2 rfl (d := 1) rfl (by decide) (fun v7_153 => [(7, .int v7_153), (6, .int v6_151), (5, .ref (ad x5))]) (fun _ => rfl) h (fun v7_153 h => ?_)
  refine x_goto C dX12_cell_156 110 rfl ?_
  exact x_sub [2, 1, 0] rfl (hk110 _ _ _ _ hx5 h)
theorem b_X12_cell_110 (C : XC p l s m args meth c cX12_cell 8 (some .int) RX12 D vwCl (tysM ca) (EM ad ca) NCM ad) {N : Nat} {o : (Int32 × AH)} : ∀ (n : Nat) {ah : AH} {x5 : Nat} {v6 : Int32} {v7 : Int32} (hx5 : mI x5 8), F_X12_cell_110 N n ah x5 v6 v7 = some o → XW p l e rm_X12_cell s m args below meth c 8 0 (xQi below args s D vwCl (tysM ca) (EM ad ca) NCM ad o) D vwCl (EM ad ca) NCM ad ah 110 [(5, .ref (ad x5)), (6, .int v6), (7, .int v7)] [] := by
  intro n
  induction n with
  | zero => intro ah x5 v6 v7 hx5 h; unfold F_X12_cell_110 at h; cases h
  | succ n ih =>
    intro ah x5 v6 v7 hx5 h
    unfold F_X12_cell_110 at h
    refine x_iload C dX12_cell_110 112 rfl 2 rfl ?_
    refine x_aload C dX12_cell_112 114 rfl 0 rfl ?_
    refine x_iconst C dX12_cell_114 115 rfl 1 rfl ?_
    refine x_ialdK C x5 hx5.1 (hx5.2 _ _ _) 0 rfl dX12_cell_115 116 rfl (by decide) 1 (by decide) ?_
    refine x_icmp_ge C dX12_cell_116 119 rfl 159 rfl h (fun h => ?_) (fun h => ?_)
    · refine x_iload C dX12_cell_159 161 rfl 1 rfl ?_
      exact x_iret C rfl dX12_cell_161 h
    · refine x_iload C dX12_cell_119 121 rfl 1 rfl ?_
      refine x_iconst C dX12_cell_121 122 rfl (-1) rfl ?_
      refine x_icmp_ne C dX12_cell_122 125 rfl 137 rfl h (fun h => ?_) (fun h => ?_)
      · refine x_iload C dX12_cell_137 139 rfl 1 rfl ?_
        refine x_aload C dX12_cell_139 141 rfl 0 rfl ?_
        refine x_iconst C dX12_cell_141 142 rfl 3 rfl ?_
        refine x_iconst C dX12_cell_142 143 rfl 2 rfl ?_
        refine x_iload C dX12_cell_143 145 rfl 2 rfl ?_
        refine x_imul C dX12_cell_145 146 rfl ?_
        refine x_iadd C dX12_cell_146 147 rfl ?_
        refine x_iald C x5 hx5.1 (hx5.2 _ _ _) 0 rfl dX12_cell_147 148 rfl h (fun h => ?_)
        obtain ⟨r148, a148, hq, h⟩ := xb_some h
        refine x_callSi C (c_X12_less C.2.2.2.2.2.2.1 hq) wml_X12_219 wq_X12_less rfl ⟨by decide, by decide⟩ rfl rfl ⟨by decide, by decide⟩ dX12_cell_148 151 rfl rfl (Nat.le_of_ble_eq_true rfl) ?_
        exact x_sub [0, 2] rfl (b_X12_cell_151 C (fun _ _ _ _ g0 h => ih g0 h) hx5 h)
      · refine x_aload C dX12_cell_125 127 rfl 0 rfl ?_
        refine x_iconst C dX12_cell_127 128 rfl 3 rfl ?_
        refine x_iconst C dX12_cell_128 129 rfl 2 rfl ?_
        refine x_iload C dX12_cell_129 131 rfl 2 rfl ?_
        refine x_imul C dX12_cell_131 132 rfl ?_
        refine x_iadd C dX12_cell_132 133 rfl ?_
        refine x_iald C x5 hx5.1 (hx5.2 _ _ _) 0 rfl dX12_cell_133 134 rfl h (fun h => ?_)
        refine x_goto C dX12_cell_134 151 rfl ?_
        exact x_sub [0, 2] rfl (b_X12_cell_151 C (fun _ _ _ _ g0 h => ih g0 h) hx5 h)
theorem b_X12_cell_72 (C : XC p l s m args meth c cX12_cell 8 (some .int) RX12 D vwCl (tysM ca) (EM ad ca) NCM ad) {N : Nat} {o : (Int32 × AH)} {ah : AH} {v1 : Int32} {v2 : Int32} {v3 : Int32} {s1 : Int32} (h : F_X12_cell_72 N ah v1 v2 v3 s1 = some o) : XW p l e rm_X12_cell s m args below meth c 8 0 (xQi below args s D vwCl (tysM ca) (EM ad ca) NCM ad o) D vwCl (EM ad ca) NCM ad ah 72 [(0, .ref (ad 0)), (1, .int v1), (2, .int v2), (3, .int v3)] [.int s1, .ref (ad 0)] := by
  unfold F_X12_cell_72 at h
  refine x_iconst C dX12_cell_72 73 rfl 2 rfl ?_
  refine x_iconst C dX12_cell_73 74 rfl 1 rfl ?_
  obtain ⟨r74, a74, hq, h⟩ := xb_some h
  refine x_callVi C 0 (c_X12_bad C.2.2.2.2.2.2.1 hq) lm0 EM_0 rfl wml_X12_249 wq_X12_bad rfl ⟨by decide, by decide⟩ rfl rfl ⟨by decide, by decide⟩ dX12_cell_74 77 rfl rfl (Nat.le_of_ble_eq_true rfl) ?_
  refine x_if_eq C dX12_cell_77 80 rfl 82 rfl h (fun h => ?_) (fun h => ?_)
  · refine x_aload_n C dX12_cell_82 83 rfl 0 rfl ?_
    refine x_get C inX12 0 lm0 EM_0 rfl 30 (by decide) dX12_cell_83 86 rfl wmf_X12_83 rfl ?_
    refine x_iconst C dX12_cell_86 87 rfl 0 rfl ?_
    refine x_aaldK C (21) lm21 EM_21 4 rfl rfl (by decide) 0 (by decide) dX12_cell_87 88 rfl (203 + 0) rfl ?_
    refine x_iload_n C dX12_cell_88 89 rfl 1 rfl ?_
    refine x_aald C (203 + 0) (lm_cell_1 (show 0 < 2 by decide)) (EM_cell_1 (show 0 < 2 by decide)) 3 rfl rfl dX12_cell_89 90 rfl (205 + (0 * 40 + Int32.toNatClampNeg v1)) rfl h (fun hb89 h => ?_)
    refine x_iload_n C dX12_cell_90 91 rfl 2 rfl ?_
    refine x_aaldL C (205 + (0 * 40 + Int32.toNatClampNeg v1)) (lm_cell_2 (xfl (show 0 < 2 by decide) hb89)) (EM_cell_2 (xfl (show 0 < 2 by decide) hb89)) 2 rfl rfl dX12_cell_91 92 rfl (285 + ((0 * 40 + Int32.toNatClampNeg v1) * 24 + Int32.toNatClampNeg v2)) rfl h (fun x91 ex91 hb91 h => ?_)
    have hx91 : mI x91 8 := ex91 ▸ mI_cell (xfl (xfl (show 0 < 2 by decide) hb89) hb91)
    refine x_astore C dX12_cell_92 94 rfl (by decide) [(5, .ref (ad x91)), (0, .ref (ad 0)), (1, .int v1), (2, .int v2), (3, .int v3)] rfl ?_
    refine x_iload_n C dX12_cell_94 95 rfl 4 rfl ?_
    refine x_iconst C dX12_cell_95 96 rfl 2 rfl ?_
    refine x_icmp_ge C dX12_cell_96 99 rfl 104 rfl h (fun h => ?_) (fun h => ?_)
    · refine x_iconst C dX12_cell_104 105 rfl (-1) rfl ?_
      refine x_istore C dX12_cell_105 107 rfl (by decide) (fun v6_105 => [(6, .int v6_105), (5, .ref (ad x91)), (0, .ref (ad 0)), (1, .int v1), (2, .int v2), (3, .int v3)]) (fun _ => rfl) h (fun v6_105 h => ?_)
      refine x_iconst C dX12_cell_107 108 rfl 0 rfl ?_
      refine x_istore C dX12_cell_108 110 rfl (by decide) (fun v7_108 => [(7, .int v7_108), (6, .int v6_105), (5, .ref (ad x91)), (0, .ref (ad 0)), (1, .int v1), (2, .int v2), (3, .int v3)]) (fun _ => rfl) h (fun v7_108 h => ?_)
      exact x_sub [2, 1, 0] rfl (b_X12_cell_110 C  N hx91 h)
    · refine x_aload C dX12_cell_99 101 rfl 0 rfl ?_
      refine x_iload_n C dX12_cell_101 102 rfl 4 rfl ?_
      refine x_iald C x91 hx91.1 (hx91.2 _ _ _) 0 rfl dX12_cell_102 103 rfl h (fun h => ?_)
      exact x_iret C rfl dX12_cell_103 h
  · refine x_iconst C dX12_cell_80 81 rfl 0 rfl ?_
    exact x_iret C rfl dX12_cell_81 h
theorem b_X12_cell_49 (C : XC p l s m args meth c cX12_cell 8 (some .int) RX12 D vwCl (tysM ca) (EM ad ca) NCM ad) {N : Nat} {o : (Int32 × AH)} {ah : AH} {v1 : Int32} {v2 : Int32} {v3 : Int32} {s1 : Int32} (h : F_X12_cell_49 N ah v1 v2 v3 s1 = some o) : XW p l e rm_X12_cell s m args below meth c 8 0 (xQi below args s D vwCl (tysM ca) (EM ad ca) NCM ad o) D vwCl (EM ad ca) NCM ad ah 49 [(0, .ref (ad 0)), (1, .int v1), (2, .int v2), (3, .int v3)] [.int s1, .ref (ad 0)] := by
  unfold F_X12_cell_49 at h
  refine x_iconst C dX12_cell_49 50 rfl 1 rfl ?_
  refine x_iconst C dX12_cell_50 51 rfl 0 rfl ?_
  obtain ⟨r51, a51, hq, h⟩ := xb_some h
  refine x_callVi C 0 (c_X12_bad C.2.2.2.2.2.2.1 hq) lm0 EM_0 rfl wml_X12_249 wq_X12_bad rfl ⟨by decide, by decide⟩ rfl rfl ⟨by decide, by decide⟩ dX12_cell_51 54 rfl rfl (Nat.le_of_ble_eq_true rfl) ?_
  refine x_if_ne C dX12_cell_54 57 rfl 80 rfl h (fun h => ?_) (fun h => ?_)
  · refine x_iconst C dX12_cell_80 81 rfl 0 rfl ?_
    exact x_iret C rfl dX12_cell_81 h
  · refine x_aload_n C dX12_cell_57 58 rfl 0 rfl ?_
    refine x_iload_n C dX12_cell_58 59 rfl 3 rfl ?_
    refine x_iconst C dX12_cell_59 60 rfl 0 rfl ?_
    refine x_iconst C dX12_cell_60 61 rfl 2 rfl ?_
    obtain ⟨r61, a61, hq, h⟩ := xb_some h
    refine x_callSi C (c_X12_in C.2.2.2.2.2.2.1 hq) wml_X12_223 wq_X12_in rfl ⟨by decide, by decide⟩ rfl rfl ⟨by decide, by decide⟩ dX12_cell_61 64 rfl rfl (Nat.le_of_ble_eq_true rfl) ?_
    refine x_if_ne C dX12_cell_64 67 rfl 71 rfl h (fun h => ?_) (fun h => ?_)
    · refine x_iconst C dX12_cell_71 72 rfl 0 rfl ?_
      exact b_X12_cell_72 C  h
    · refine x_iconst C dX12_cell_67 68 rfl 1 rfl ?_
      refine x_goto C dX12_cell_68 72 rfl ?_
      exact b_X12_cell_72 C  h
theorem b_X12_cell_36 (C : XC p l s m args meth c cX12_cell 8 (some .int) RX12 D vwCl (tysM ca) (EM ad ca) NCM ad) {N : Nat} {o : (Int32 × AH)} {ah : AH} {v1 : Int32} {v2 : Int32} {v3 : Int32} {s0 : Int32} (h : F_X12_cell_36 N ah v1 v2 v3 s0 = some o) : XW p l e rm_X12_cell s m args below meth c 8 0 (xQi below args s D vwCl (tysM ca) (EM ad ca) NCM ad o) D vwCl (EM ad ca) NCM ad ah 36 [(0, .ref (ad 0)), (1, .int v1), (2, .int v2), (3, .int v3)] [.int s0] := by
  unfold F_X12_cell_36 at h
  refine x_istore C dX12_cell_36 38 rfl (by decide) (fun v4_36 => [(4, .int v4_36), (0, .ref (ad 0)), (1, .int v1), (2, .int v2), (3, .int v3)]) (fun _ => rfl) h (fun v4_36 h => ?_)
  refine x_aload_n C dX12_cell_38 39 rfl 1 rfl ?_
  refine x_iload C dX12_cell_39 41 rfl 0 rfl ?_
  refine x_if_ne C dX12_cell_41 44 rfl 48 rfl h (fun h => ?_) (fun h => ?_)
  · refine x_iconst C dX12_cell_48 49 rfl 0 rfl ?_
    exact x_sub [1, 2, 3, 4] rfl (b_X12_cell_49 C  h)
  · refine x_iconst C dX12_cell_44 45 rfl 1 rfl ?_
    refine x_goto C dX12_cell_45 49 rfl ?_
    exact x_sub [1, 2, 3, 4] rfl (b_X12_cell_49 C  h)
theorem b_X12_cell_35 (C : XC p l s m args meth c cX12_cell 8 (some .int) RX12 D vwCl (tysM ca) (EM ad ca) NCM ad) {N : Nat} {o : (Int32 × AH)} {ah : AH} {v1 : Int32} {v2 : Int32} {v3 : Int32} (h : F_X12_cell_35 N ah v1 v2 v3 = some o) : XW p l e rm_X12_cell s m args below meth c 8 0 (xQi below args s D vwCl (tysM ca) (EM ad ca) NCM ad o) D vwCl (EM ad ca) NCM ad ah 35 [(0, .ref (ad 0)), (1, .int v1), (2, .int v2), (3, .int v3)] [] := by
  unfold F_X12_cell_35 at h
  refine x_iconst C dX12_cell_35 36 rfl 0 rfl ?_
  exact b_X12_cell_36 C  h
theorem c_X12_cell {l : Launch} {D : va_G} {ca : Nat → ClassId} {ad : Nat → Nat} (hI : xInj ad NCM) {N : Nat} {ah : AH} {p1 : Int32} {p2 : Int32} {p3 : Int32} {r : Int32} {a : AH} (h : F_X12_cell N ah p1 p2 p3 = some (r, a)) : xMi l yX12_cell cX12_cell 8 (some .int) rm_X12_cell D vwCl (tysM ca) (EM ad ca) NCM ad [.ref (ad 0), .int p1, .int p2, .int p3] ah (r, a) := by
  refine x_meti (by decide) (Nat.le_of_ble_eq_true rfl) hI EM_loc ?_
  intro p e s m args below meth c C
  unfold F_X12_cell at h
  refine x_aload_n C dX12_cell_0 1 rfl 0 rfl ?_
  refine x_iconst C dX12_cell_1 2 rfl 0 rfl ?_
  refine x_put C inX12 0 lm0 EM_0 rfl 0 (by decide) tyX12_ok nmX12 dX12_cell_2 5 rfl wmf_X12_180 rfl rfl rfl (Nat.le_of_ble_eq_true rfl) EQ_0_0 h (fun a2 h => ?_)
  refine x_aload_n C dX12_cell_5 6 rfl 0 rfl ?_
  refine x_iload_n C dX12_cell_6 7 rfl 1 rfl ?_
  obtain ⟨r7, a7, hq, h⟩ := xb_some h
  refine x_callVi C 0 (c_X12_isToken C.2.2.2.2.2.2.1 hq) lm0 EM_0 rfl wml_X12_368 wq_X12_isToken rfl ⟨by decide, by decide⟩ rfl rfl ⟨by decide, by decide⟩ dX12_cell_7 10 rfl rfl (Nat.le_of_ble_eq_true rfl) ?_
  refine x_if_eq C dX12_cell_10 13 rfl 35 rfl h (fun h => ?_) (fun h => ?_)
  · exact b_X12_cell_35 C  h
  · refine x_iload_n C dX12_cell_13 14 rfl 2 rfl ?_
    refine x_iconst C dX12_cell_14 15 rfl 0 rfl ?_
    refine x_aload_n C dX12_cell_15 16 rfl 0 rfl ?_
    refine x_get C inX12 0 lm0 EM_0 rfl 27 (by decide) dX12_cell_16 19 rfl wmf_X12_72 rfl ?_
    refine x_iconst C dX12_cell_19 20 rfl 0 rfl ?_
    refine x_aaldLK C (18) lm18 EM_18 2 rfl rfl (by decide) 0 (by decide) dX12_cell_20 21 rfl (197 + 0) rfl h (fun x20 ex20 h => ?_)
    have hx20 : mI x20 40 := ex20 ▸ mI_cells (show 0 < 2 by decide)
    refine x_iload_n C dX12_cell_21 22 rfl 1 rfl ?_
    refine x_iald C x20 hx20.1 (hx20.2 _ _ _) 0 rfl dX12_cell_22 23 rfl h (fun h => ?_)
    refine x_iconst C dX12_cell_23 24 rfl 1 rfl ?_
    refine x_isub C dX12_cell_24 25 rfl ?_
    obtain ⟨r25, a25, hq, h⟩ := xb_some h
    refine x_callSi C (c_X12_in C.2.2.2.2.2.2.1 hq) wml_X12_223 wq_X12_in rfl ⟨by decide, by decide⟩ rfl rfl ⟨by decide, by decide⟩ dX12_cell_25 28 rfl rfl (Nat.le_of_ble_eq_true rfl) ?_
    refine x_if_eq C dX12_cell_28 31 rfl 35 rfl h (fun h => ?_) (fun h => ?_)
    · exact b_X12_cell_35 C  h
    · refine x_iconst C dX12_cell_31 32 rfl 1 rfl ?_
      refine x_goto C dX12_cell_32 36 rfl ?_
      exact b_X12_cell_36 C  h
abbrev rm_X12_rest : Room := { frames := 4, cells := 0, slots := 0, locals := 98 }
theorem wq_X12_rest : xcV RX12 yX12_rest cX12_rest 4 (some .int) 2 := ⟨wmi_X12_rest, wms_X12_rest, wmn_X12, wmc_X12_rest, by decide, by decide, by decide +kernel⟩
def F_X12_rest_45 (N : Nat) (ah : AH) (v1 : Int32) (v2 : Int32) (s1 : Int32) : Option (Int32 × AH) := xb (F_X12_bad N ah s1 1 0) (fun r47 a47 => if r47 = 0 then xbv (F_X12_laysToken N a47 v1 0) (fun a58 => xg v2 49 (some (a58 26 (Int32.toNatClampNeg v2), a58))) else some (0, a47))
def F_X12_rest_34 (N : Nat) (ah : AH) (v1 : Int32) (v2 : Int32) (s0 : Int32) : Option (Int32 × AH) := xlet s0 (fun v3_34 => if v3_34 = 0 then F_X12_rest_45 N ah v1 v2 1 else F_X12_rest_45 N ah v1 v2 0)
def F_X12_rest_33 (N : Nat) (ah : AH) (v1 : Int32) (v2 : Int32) : Option (Int32 × AH) := F_X12_rest_34 N ah v1 v2 0
def F_X12_rest (N : Nat) (ah : AH) (p1 : Int32) (p2 : Int32) : Option (Int32 × AH) := xlet (xu ah 0 0 0) (fun a2 => xb (F_X12_isToken N a2 p1) (fun r7 a7 => if r7 = 0 then F_X12_rest_33 N a7 p1 p2 else xlet (197 + 0) (fun x20 => xg p1 40 (xb (F_X12_in N a7 p2 0 (a7 x20 (Int32.toNatClampNeg p1))) (fun r23 a23 => if r23 = 0 then F_X12_rest_33 N a23 p1 p2 else F_X12_rest_34 N a23 p1 p2 1)))))
theorem b_X12_rest_45 (C : XC p l s m args meth c cX12_rest 4 (some .int) RX12 D vwCl (tysM ca) (EM ad ca) NCM ad) {N : Nat} {o : (Int32 × AH)} {ah : AH} {v1 : Int32} {v2 : Int32} {s1 : Int32} (h : F_X12_rest_45 N ah v1 v2 s1 = some o) : XW p l e rm_X12_rest s m args below meth c 4 0 (xQi below args s D vwCl (tysM ca) (EM ad ca) NCM ad o) D vwCl (EM ad ca) NCM ad ah 45 [(0, .ref (ad 0)), (1, .int v1), (2, .int v2)] [.int s1, .ref (ad 0)] := by
  unfold F_X12_rest_45 at h
  refine x_iconst C dX12_rest_45 46 rfl 1 rfl ?_
  refine x_iconst C dX12_rest_46 47 rfl 0 rfl ?_
  obtain ⟨r47, a47, hq, h⟩ := xb_some h
  refine x_callVi C 0 (c_X12_bad C.2.2.2.2.2.2.1 hq) lm0 EM_0 rfl wml_X12_249 wq_X12_bad rfl ⟨by decide, by decide⟩ rfl rfl ⟨by decide, by decide⟩ dX12_rest_47 50 rfl rfl (Nat.le_of_ble_eq_true rfl) ?_
  refine x_if_eq C dX12_rest_50 53 rfl 55 rfl h (fun h => ?_) (fun h => ?_)
  · refine x_aload_n C dX12_rest_55 56 rfl 0 rfl ?_
    refine x_iload_n C dX12_rest_56 57 rfl 1 rfl ?_
    refine x_iconst C dX12_rest_57 58 rfl 0 rfl ?_
    obtain ⟨a58, hq, h⟩ := xbv_some h
    refine x_callVv C 0 (c_X12_laysToken C.2.2.2.2.2.2.1 hq) lm0 EM_0 rfl wml_X12_371 wq_X12_laysToken rfl ⟨by decide, by decide⟩ rfl rfl ⟨by decide, by decide⟩ dX12_rest_58 61 rfl rfl (Nat.le_of_ble_eq_true rfl) ?_
    refine x_aload_n C dX12_rest_61 62 rfl 0 rfl ?_
    refine x_get C inX12 0 lm0 EM_0 rfl 36 (by decide) dX12_rest_62 65 rfl wmf_X12_98 rfl ?_
    refine x_iload_n C dX12_rest_65 66 rfl 2 rfl ?_
    refine x_iald C 26 lm26 EM_26 0 rfl dX12_rest_66 67 rfl h (fun h => ?_)
    exact x_iret C rfl dX12_rest_67 h
  · refine x_iconst C dX12_rest_53 54 rfl 0 rfl ?_
    exact x_iret C rfl dX12_rest_54 h
theorem b_X12_rest_34 (C : XC p l s m args meth c cX12_rest 4 (some .int) RX12 D vwCl (tysM ca) (EM ad ca) NCM ad) {N : Nat} {o : (Int32 × AH)} {ah : AH} {v1 : Int32} {v2 : Int32} {s0 : Int32} (h : F_X12_rest_34 N ah v1 v2 s0 = some o) : XW p l e rm_X12_rest s m args below meth c 4 0 (xQi below args s D vwCl (tysM ca) (EM ad ca) NCM ad o) D vwCl (EM ad ca) NCM ad ah 34 [(0, .ref (ad 0)), (1, .int v1), (2, .int v2)] [.int s0] := by
  unfold F_X12_rest_34 at h
  refine x_istore_n C dX12_rest_34 35 rfl (by decide) (fun v3_34 => [(3, .int v3_34), (0, .ref (ad 0)), (1, .int v1), (2, .int v2)]) (fun _ => rfl) h (fun v3_34 h => ?_)
  refine x_aload_n C dX12_rest_35 36 rfl 1 rfl ?_
  refine x_iload_n C dX12_rest_36 37 rfl 0 rfl ?_
  refine x_if_ne C dX12_rest_37 40 rfl 44 rfl h (fun h => ?_) (fun h => ?_)
  · refine x_iconst C dX12_rest_44 45 rfl 0 rfl ?_
    exact x_sub [1, 2, 3] rfl (b_X12_rest_45 C  h)
  · refine x_iconst C dX12_rest_40 41 rfl 1 rfl ?_
    refine x_goto C dX12_rest_41 45 rfl ?_
    exact x_sub [1, 2, 3] rfl (b_X12_rest_45 C  h)
theorem b_X12_rest_33 (C : XC p l s m args meth c cX12_rest 4 (some .int) RX12 D vwCl (tysM ca) (EM ad ca) NCM ad) {N : Nat} {o : (Int32 × AH)} {ah : AH} {v1 : Int32} {v2 : Int32} (h : F_X12_rest_33 N ah v1 v2 = some o) : XW p l e rm_X12_rest s m args below meth c 4 0 (xQi below args s D vwCl (tysM ca) (EM ad ca) NCM ad o) D vwCl (EM ad ca) NCM ad ah 33 [(0, .ref (ad 0)), (1, .int v1), (2, .int v2)] [] := by
  unfold F_X12_rest_33 at h
  refine x_iconst C dX12_rest_33 34 rfl 0 rfl ?_
  exact b_X12_rest_34 C  h
theorem c_X12_rest {l : Launch} {D : va_G} {ca : Nat → ClassId} {ad : Nat → Nat} (hI : xInj ad NCM) {N : Nat} {ah : AH} {p1 : Int32} {p2 : Int32} {r : Int32} {a : AH} (h : F_X12_rest N ah p1 p2 = some (r, a)) : xMi l yX12_rest cX12_rest 4 (some .int) rm_X12_rest D vwCl (tysM ca) (EM ad ca) NCM ad [.ref (ad 0), .int p1, .int p2] ah (r, a) := by
  refine x_meti (by decide) (Nat.le_of_ble_eq_true rfl) hI EM_loc ?_
  intro p e s m args below meth c C
  unfold F_X12_rest at h
  refine x_aload_n C dX12_rest_0 1 rfl 0 rfl ?_
  refine x_iconst C dX12_rest_1 2 rfl 0 rfl ?_
  refine x_put C inX12 0 lm0 EM_0 rfl 0 (by decide) tyX12_ok nmX12 dX12_rest_2 5 rfl wmf_X12_180 rfl rfl rfl (Nat.le_of_ble_eq_true rfl) EQ_0_0 h (fun a2 h => ?_)
  refine x_aload_n C dX12_rest_5 6 rfl 0 rfl ?_
  refine x_iload_n C dX12_rest_6 7 rfl 1 rfl ?_
  obtain ⟨r7, a7, hq, h⟩ := xb_some h
  refine x_callVi C 0 (c_X12_isToken C.2.2.2.2.2.2.1 hq) lm0 EM_0 rfl wml_X12_368 wq_X12_isToken rfl ⟨by decide, by decide⟩ rfl rfl ⟨by decide, by decide⟩ dX12_rest_7 10 rfl rfl (Nat.le_of_ble_eq_true rfl) ?_
  refine x_if_eq C dX12_rest_10 13 rfl 33 rfl h (fun h => ?_) (fun h => ?_)
  · exact b_X12_rest_33 C  h
  · refine x_iload_n C dX12_rest_13 14 rfl 2 rfl ?_
    refine x_iconst C dX12_rest_14 15 rfl 0 rfl ?_
    refine x_aload_n C dX12_rest_15 16 rfl 0 rfl ?_
    refine x_get C inX12 0 lm0 EM_0 rfl 27 (by decide) dX12_rest_16 19 rfl wmf_X12_72 rfl ?_
    refine x_iconst C dX12_rest_19 20 rfl 0 rfl ?_
    refine x_aaldLK C (18) lm18 EM_18 2 rfl rfl (by decide) 0 (by decide) dX12_rest_20 21 rfl (197 + 0) rfl h (fun x20 ex20 h => ?_)
    have hx20 : mI x20 40 := ex20 ▸ mI_cells (show 0 < 2 by decide)
    refine x_iload_n C dX12_rest_21 22 rfl 1 rfl ?_
    refine x_iald C x20 hx20.1 (hx20.2 _ _ _) 0 rfl dX12_rest_22 23 rfl h (fun h => ?_)
    obtain ⟨r23, a23, hq, h⟩ := xb_some h
    refine x_callSi C (c_X12_in C.2.2.2.2.2.2.1 hq) wml_X12_223 wq_X12_in rfl ⟨by decide, by decide⟩ rfl rfl ⟨by decide, by decide⟩ dX12_rest_23 26 rfl rfl (Nat.le_of_ble_eq_true rfl) ?_
    refine x_if_eq C dX12_rest_26 29 rfl 33 rfl h (fun h => ?_) (fun h => ?_)
    · exact b_X12_rest_33 C  h
    · refine x_iconst C dX12_rest_29 30 rfl 1 rfl ?_
      refine x_goto C dX12_rest_30 34 rfl ?_
      exact b_X12_rest_34 C  h
abbrev rm_X12_best : Room := { frames := 4, cells := 0, slots := 0, locals := 98 }
theorem wq_X12_best : xcV RX12 yX12_best cX12_best 4 (some .int) 3 := ⟨wmi_X12_best, wms_X12_best, wmn_X12, wmc_X12_best, by decide, by decide, by decide +kernel⟩
def F_X12_best_42 (N : Nat) (ah : AH) (v1 : Int32) (v2 : Int32) (v3 : Int32) (s1 : Int32) : Option (Int32 × AH) := xb (F_X12_bad N ah s1 2 1) (fun r44 a44 => if r44 = 0 then xb (F_X12_in N a44 v2 0 59) (fun r56 a56 => if r56 = 0 then some ((-1), a56) else xbv (F_X12_laysToken N a56 v1 0) (fun a67 => xbv (F_X12_searches N a67 (v2 + 1)) (fun a74 => if v2 < (a74 0 49) then if v3 = 0 then xg v2 60 (some (a74 33 (Int32.toNatClampNeg v2), a74)) else if v3 = 1 then xg v2 60 (some (a74 34 (Int32.toNatClampNeg v2), a74)) else xg v2 60 (some (a74 35 (Int32.toNatClampNeg v2), a74)) else some ((-1), a74)))) else some (0, a44))
def F_X12_best_19 (N : Nat) (ah : AH) (v1 : Int32) (v2 : Int32) (v3 : Int32) (s1 : Int32) : Option (Int32 × AH) := xb (F_X12_bad N ah s1 1 0) (fun r21 a21 => if r21 = 0 then xb (F_X12_in N a21 v3 0 2) (fun r31 a31 => if r31 = 0 then F_X12_best_42 N a31 v1 v2 v3 1 else F_X12_best_42 N a31 v1 v2 v3 0) else some (0, a21))
def F_X12_best (N : Nat) (ah : AH) (p1 : Int32) (p2 : Int32) (p3 : Int32) : Option (Int32 × AH) := xlet (xu ah 0 0 0) (fun a2 => xb (F_X12_isToken N a2 p1) (fun r8 a8 => if r8 = 0 then F_X12_best_19 N a8 p1 p2 p3 1 else F_X12_best_19 N a8 p1 p2 p3 0))
theorem b_X12_best_42 (C : XC p l s m args meth c cX12_best 4 (some .int) RX12 D vwCl (tysM ca) (EM ad ca) NCM ad) {N : Nat} {o : (Int32 × AH)} {ah : AH} {v1 : Int32} {v2 : Int32} {v3 : Int32} {s1 : Int32} (h : F_X12_best_42 N ah v1 v2 v3 s1 = some o) : XW p l e rm_X12_best s m args below meth c 4 0 (xQi below args s D vwCl (tysM ca) (EM ad ca) NCM ad o) D vwCl (EM ad ca) NCM ad ah 42 [(0, .ref (ad 0)), (1, .int v1), (2, .int v2), (3, .int v3)] [.int s1, .ref (ad 0)] := by
  unfold F_X12_best_42 at h
  refine x_iconst C dX12_best_42 43 rfl 2 rfl ?_
  refine x_iconst C dX12_best_43 44 rfl 1 rfl ?_
  obtain ⟨r44, a44, hq, h⟩ := xb_some h
  refine x_callVi C 0 (c_X12_bad C.2.2.2.2.2.2.1 hq) lm0 EM_0 rfl wml_X12_249 wq_X12_bad rfl ⟨by decide, by decide⟩ rfl rfl ⟨by decide, by decide⟩ dX12_best_44 47 rfl rfl (Nat.le_of_ble_eq_true rfl) ?_
  refine x_if_eq C dX12_best_47 50 rfl 52 rfl h (fun h => ?_) (fun h => ?_)
  · refine x_iload_n C dX12_best_52 53 rfl 2 rfl ?_
    refine x_iconst C dX12_best_53 54 rfl 0 rfl ?_
    refine x_bipush C dX12_best_54 56 rfl 59 rfl ?_
    obtain ⟨r56, a56, hq, h⟩ := xb_some h
    refine x_callSi C (c_X12_in C.2.2.2.2.2.2.1 hq) wml_X12_223 wq_X12_in rfl ⟨by decide, by decide⟩ rfl rfl ⟨by decide, by decide⟩ dX12_best_56 59 rfl rfl (Nat.le_of_ble_eq_true rfl) ?_
    refine x_if_ne C dX12_best_59 62 rfl 64 rfl h (fun h => ?_) (fun h => ?_)
    · refine x_aload_n C dX12_best_64 65 rfl 0 rfl ?_
      refine x_iload_n C dX12_best_65 66 rfl 1 rfl ?_
      refine x_iconst C dX12_best_66 67 rfl 0 rfl ?_
      obtain ⟨a67, hq, h⟩ := xbv_some h
      refine x_callVv C 0 (c_X12_laysToken C.2.2.2.2.2.2.1 hq) lm0 EM_0 rfl wml_X12_371 wq_X12_laysToken rfl ⟨by decide, by decide⟩ rfl rfl ⟨by decide, by decide⟩ dX12_best_67 70 rfl rfl (Nat.le_of_ble_eq_true rfl) ?_
      refine x_aload_n C dX12_best_70 71 rfl 0 rfl ?_
      refine x_iload_n C dX12_best_71 72 rfl 2 rfl ?_
      refine x_iconst C dX12_best_72 73 rfl 1 rfl ?_
      refine x_iadd C dX12_best_73 74 rfl ?_
      obtain ⟨a74, hq, h⟩ := xbv_some h
      refine x_callVv C 0 (c_X12_searches C.2.2.2.2.2.2.1 hq) lm0 EM_0 rfl wml_X12_387 wq_X12_searches rfl ⟨by decide, by decide⟩ rfl rfl ⟨by decide, by decide⟩ dX12_best_74 77 rfl rfl (Nat.le_of_ble_eq_true rfl) ?_
      refine x_aload_n C dX12_best_77 78 rfl 0 rfl ?_
      refine x_get C inX12 0 lm0 EM_0 rfl 49 (by decide) dX12_best_78 81 rfl wmf_X12_350 rfl ?_
      refine x_iload_n C dX12_best_81 82 rfl 2 rfl ?_
      refine x_icmp_gt C dX12_best_82 85 rfl 87 rfl h (fun h => ?_) (fun h => ?_)
      · refine x_iload_n C dX12_best_87 88 rfl 3 rfl ?_
        refine x_if_ne C dX12_best_88 91 rfl 100 rfl h (fun h => ?_) (fun h => ?_)
        · refine x_iload_n C dX12_best_100 101 rfl 3 rfl ?_
          refine x_iconst C dX12_best_101 102 rfl 1 rfl ?_
          refine x_icmp_ne C dX12_best_102 105 rfl 114 rfl h (fun h => ?_) (fun h => ?_)
          · refine x_aload_n C dX12_best_114 115 rfl 0 rfl ?_
            refine x_get C inX12 0 lm0 EM_0 rfl 48 (by decide) dX12_best_115 118 rfl wmf_X12_125 rfl ?_
            refine x_iload_n C dX12_best_118 119 rfl 2 rfl ?_
            refine x_iald C 35 lm35 EM_35 0 rfl dX12_best_119 120 rfl h (fun h => ?_)
            exact x_iret C rfl dX12_best_120 h
          · refine x_aload_n C dX12_best_105 106 rfl 0 rfl ?_
            refine x_get C inX12 0 lm0 EM_0 rfl 47 (by decide) dX12_best_106 109 rfl wmf_X12_122 rfl ?_
            refine x_iload_n C dX12_best_109 110 rfl 2 rfl ?_
            refine x_iald C 34 lm34 EM_34 0 rfl dX12_best_110 111 rfl h (fun h => ?_)
            refine x_goto C dX12_best_111 120 rfl ?_
            exact x_iret C rfl dX12_best_120 h
        · refine x_aload_n C dX12_best_91 92 rfl 0 rfl ?_
          refine x_get C inX12 0 lm0 EM_0 rfl 46 (by decide) dX12_best_92 95 rfl wmf_X12_119 rfl ?_
          refine x_iload_n C dX12_best_95 96 rfl 2 rfl ?_
          refine x_iald C 33 lm33 EM_33 0 rfl dX12_best_96 97 rfl h (fun h => ?_)
          refine x_goto C dX12_best_97 120 rfl ?_
          exact x_iret C rfl dX12_best_120 h
      · refine x_iconst C dX12_best_85 86 rfl (-1) rfl ?_
        exact x_iret C rfl dX12_best_86 h
    · refine x_iconst C dX12_best_62 63 rfl (-1) rfl ?_
      exact x_iret C rfl dX12_best_63 h
  · refine x_iconst C dX12_best_50 51 rfl 0 rfl ?_
    exact x_iret C rfl dX12_best_51 h
theorem b_X12_best_19 (C : XC p l s m args meth c cX12_best 4 (some .int) RX12 D vwCl (tysM ca) (EM ad ca) NCM ad) {N : Nat} {o : (Int32 × AH)} {ah : AH} {v1 : Int32} {v2 : Int32} {v3 : Int32} {s1 : Int32} (h : F_X12_best_19 N ah v1 v2 v3 s1 = some o) : XW p l e rm_X12_best s m args below meth c 4 0 (xQi below args s D vwCl (tysM ca) (EM ad ca) NCM ad o) D vwCl (EM ad ca) NCM ad ah 19 [(0, .ref (ad 0)), (1, .int v1), (2, .int v2), (3, .int v3)] [.int s1, .ref (ad 0)] := by
  unfold F_X12_best_19 at h
  refine x_iconst C dX12_best_19 20 rfl 1 rfl ?_
  refine x_iconst C dX12_best_20 21 rfl 0 rfl ?_
  obtain ⟨r21, a21, hq, h⟩ := xb_some h
  refine x_callVi C 0 (c_X12_bad C.2.2.2.2.2.2.1 hq) lm0 EM_0 rfl wml_X12_249 wq_X12_bad rfl ⟨by decide, by decide⟩ rfl rfl ⟨by decide, by decide⟩ dX12_best_21 24 rfl rfl (Nat.le_of_ble_eq_true rfl) ?_
  refine x_if_ne C dX12_best_24 27 rfl 50 rfl h (fun h => ?_) (fun h => ?_)
  · refine x_iconst C dX12_best_50 51 rfl 0 rfl ?_
    exact x_iret C rfl dX12_best_51 h
  · refine x_aload_n C dX12_best_27 28 rfl 0 rfl ?_
    refine x_iload_n C dX12_best_28 29 rfl 3 rfl ?_
    refine x_iconst C dX12_best_29 30 rfl 0 rfl ?_
    refine x_iconst C dX12_best_30 31 rfl 2 rfl ?_
    obtain ⟨r31, a31, hq, h⟩ := xb_some h
    refine x_callSi C (c_X12_in C.2.2.2.2.2.2.1 hq) wml_X12_223 wq_X12_in rfl ⟨by decide, by decide⟩ rfl rfl ⟨by decide, by decide⟩ dX12_best_31 34 rfl rfl (Nat.le_of_ble_eq_true rfl) ?_
    refine x_if_ne C dX12_best_34 37 rfl 41 rfl h (fun h => ?_) (fun h => ?_)
    · refine x_iconst C dX12_best_41 42 rfl 0 rfl ?_
      exact b_X12_best_42 C  h
    · refine x_iconst C dX12_best_37 38 rfl 1 rfl ?_
      refine x_goto C dX12_best_38 42 rfl ?_
      exact b_X12_best_42 C  h
theorem c_X12_best {l : Launch} {D : va_G} {ca : Nat → ClassId} {ad : Nat → Nat} (hI : xInj ad NCM) {N : Nat} {ah : AH} {p1 : Int32} {p2 : Int32} {p3 : Int32} {r : Int32} {a : AH} (h : F_X12_best N ah p1 p2 p3 = some (r, a)) : xMi l yX12_best cX12_best 4 (some .int) rm_X12_best D vwCl (tysM ca) (EM ad ca) NCM ad [.ref (ad 0), .int p1, .int p2, .int p3] ah (r, a) := by
  refine x_meti (by decide) (Nat.le_of_ble_eq_true rfl) hI EM_loc ?_
  intro p e s m args below meth c C
  unfold F_X12_best at h
  refine x_aload_n C dX12_best_0 1 rfl 0 rfl ?_
  refine x_iconst C dX12_best_1 2 rfl 0 rfl ?_
  refine x_put C inX12 0 lm0 EM_0 rfl 0 (by decide) tyX12_ok nmX12 dX12_best_2 5 rfl wmf_X12_180 rfl rfl rfl (Nat.le_of_ble_eq_true rfl) EQ_0_0 h (fun a2 h => ?_)
  refine x_aload_n C dX12_best_5 6 rfl 0 rfl ?_
  refine x_aload_n C dX12_best_6 7 rfl 0 rfl ?_
  refine x_iload_n C dX12_best_7 8 rfl 1 rfl ?_
  obtain ⟨r8, a8, hq, h⟩ := xb_some h
  refine x_callVi C 0 (c_X12_isToken C.2.2.2.2.2.2.1 hq) lm0 EM_0 rfl wml_X12_368 wq_X12_isToken rfl ⟨by decide, by decide⟩ rfl rfl ⟨by decide, by decide⟩ dX12_best_8 11 rfl rfl (Nat.le_of_ble_eq_true rfl) ?_
  refine x_if_ne C dX12_best_11 14 rfl 18 rfl h (fun h => ?_) (fun h => ?_)
  · refine x_iconst C dX12_best_18 19 rfl 0 rfl ?_
    exact b_X12_best_19 C  h
  · refine x_iconst C dX12_best_14 15 rfl 1 rfl ?_
    refine x_goto C dX12_best_15 19 rfl ?_
    exact b_X12_best_19 C  h
abbrev rm_X12_priceOf : Room := { frames := 2, cells := 0, slots := 0, locals := 49 }
theorem wq_X12_priceOf : xcV RX12 yX12_priceOf cX12_priceOf 3 (some .int) 1 := ⟨wmi_X12_priceOf, wms_X12_priceOf, wmn_X12, wmc_X12_priceOf, by decide, by decide, by decide +kernel⟩
def F_X12_priceOf (N : Nat) (ah : AH) (p1 : Int32) : Option (Int32 × AH) := xb (F_X12_spells N ah p1) (fun r2 a2 => xlet r2 (fun v2_5 => if v2_5 < 1000000 then xg p1 61 (some (v2_5 + (a2 6 (Int32.toNatClampNeg p1)), a2)) else some ((-1), a2)))
theorem c_X12_priceOf {l : Launch} {D : va_G} {ca : Nat → ClassId} {ad : Nat → Nat} (hI : xInj ad NCM) {N : Nat} {ah : AH} {p1 : Int32} {r : Int32} {a : AH} (h : F_X12_priceOf N ah p1 = some (r, a)) : xMi l yX12_priceOf cX12_priceOf 3 (some .int) rm_X12_priceOf D vwCl (tysM ca) (EM ad ca) NCM ad [.ref (ad 0), .int p1] ah (r, a) := by
  refine x_meti (by decide) (Nat.le_of_ble_eq_true rfl) hI EM_loc ?_
  intro p e s m args below meth c C
  unfold F_X12_priceOf at h
  refine x_aload_n C dX12_priceOf_0 1 rfl 0 rfl ?_
  refine x_iload_n C dX12_priceOf_1 2 rfl 1 rfl ?_
  obtain ⟨r2, a2, hq, h⟩ := xb_some h
  refine x_callVi C 0 (c_X12_spells C.2.2.2.2.2.2.1 hq) lm0 EM_0 rfl wml_X12_390 wq_X12_spells rfl ⟨by decide, by decide⟩ rfl rfl ⟨by decide, by decide⟩ dX12_priceOf_2 5 rfl rfl (Nat.le_of_ble_eq_true rfl) ?_
  refine x_istore_n C dX12_priceOf_5 6 rfl (by decide) (fun v2_5 => [(2, .int v2_5), (0, .ref (ad 0)), (1, .int p1)]) (fun _ => rfl) h (fun v2_5 h => ?_)
  refine x_iload_n C dX12_priceOf_6 7 rfl 0 rfl ?_
  refine x_ldcw C dX12_priceOf_7 10 rfl wmk_X12_326 ?_
  refine x_icmp_lt C dX12_priceOf_10 13 rfl 17 rfl h (fun h => ?_) (fun h => ?_)
  · refine x_iload_n C dX12_priceOf_17 18 rfl 0 rfl ?_
    refine x_aload_n C dX12_priceOf_18 19 rfl 1 rfl ?_
    refine x_get C inX12 0 lm0 EM_0 rfl 13 (by decide) dX12_priceOf_19 22 rfl wmf_X12_31 rfl ?_
    refine x_iload_n C dX12_priceOf_22 23 rfl 2 rfl ?_
    refine x_iald C 6 lm6 EM_6 0 rfl dX12_priceOf_23 24 rfl h (fun h => ?_)
    refine x_iadd C dX12_priceOf_24 25 rfl ?_
    exact x_iret C rfl dX12_priceOf_25 h
  · refine x_iconst C dX12_priceOf_13 14 rfl (-1) rfl ?_
    refine x_goto C dX12_priceOf_14 25 rfl ?_
    exact x_iret C rfl dX12_priceOf_25 h
abbrev rm_X12_price : Room := { frames := 4, cells := 0, slots := 0, locals := 98 }
theorem wq_X12_price : xcV RX12 yX12_price cX12_price 3 (some .int) 2 := ⟨wmi_X12_price, wms_X12_price, wmn_X12, wmc_X12_price, by decide, by decide, by decide +kernel⟩
def F_X12_price_27 (N : Nat) (ah : AH) (v1 : Int32) (v2 : Int32) (s1 : Int32) : Option (Int32 × AH) := xb (F_X12_bad N ah s1 1 0) (fun r29 a29 => if r29 = 0 then xbv (F_X12_laysToken N a29 v1 0) (fun a40 => xb (F_X12_priceOf N a40 v2) (fun r45 a45 => some (r45, a45))) else some (0, a29))
def F_X12_price_22 (N : Nat) (ah : AH) (v1 : Int32) (v2 : Int32) : Option (Int32 × AH) := F_X12_price_27 N ah v1 v2 1
def F_X12_price (N : Nat) (ah : AH) (p1 : Int32) (p2 : Int32) : Option (Int32 × AH) := xlet (xu ah 0 0 0) (fun a2 => xb (F_X12_isToken N a2 p1) (fun r8 a8 => if r8 = 0 then F_X12_price_22 N a8 p1 p2 else xb (F_X12_isWord N a8 p2) (fun r16 a16 => if r16 = 0 then F_X12_price_22 N a16 p1 p2 else F_X12_price_27 N a16 p1 p2 0)))
theorem b_X12_price_27 (C : XC p l s m args meth c cX12_price 3 (some .int) RX12 D vwCl (tysM ca) (EM ad ca) NCM ad) {N : Nat} {o : (Int32 × AH)} {ah : AH} {v1 : Int32} {v2 : Int32} {s1 : Int32} (h : F_X12_price_27 N ah v1 v2 s1 = some o) : XW p l e rm_X12_price s m args below meth c 3 0 (xQi below args s D vwCl (tysM ca) (EM ad ca) NCM ad o) D vwCl (EM ad ca) NCM ad ah 27 [(0, .ref (ad 0)), (1, .int v1), (2, .int v2)] [.int s1, .ref (ad 0)] := by
  unfold F_X12_price_27 at h
  refine x_iconst C dX12_price_27 28 rfl 1 rfl ?_
  refine x_iconst C dX12_price_28 29 rfl 0 rfl ?_
  obtain ⟨r29, a29, hq, h⟩ := xb_some h
  refine x_callVi C 0 (c_X12_bad C.2.2.2.2.2.2.1 hq) lm0 EM_0 rfl wml_X12_249 wq_X12_bad rfl ⟨by decide, by decide⟩ rfl rfl ⟨by decide, by decide⟩ dX12_price_29 32 rfl rfl (Nat.le_of_ble_eq_true rfl) ?_
  refine x_if_eq C dX12_price_32 35 rfl 37 rfl h (fun h => ?_) (fun h => ?_)
  · refine x_aload_n C dX12_price_37 38 rfl 0 rfl ?_
    refine x_iload_n C dX12_price_38 39 rfl 1 rfl ?_
    refine x_iconst C dX12_price_39 40 rfl 0 rfl ?_
    obtain ⟨a40, hq, h⟩ := xbv_some h
    refine x_callVv C 0 (c_X12_laysToken C.2.2.2.2.2.2.1 hq) lm0 EM_0 rfl wml_X12_371 wq_X12_laysToken rfl ⟨by decide, by decide⟩ rfl rfl ⟨by decide, by decide⟩ dX12_price_40 43 rfl rfl (Nat.le_of_ble_eq_true rfl) ?_
    refine x_aload_n C dX12_price_43 44 rfl 0 rfl ?_
    refine x_iload_n C dX12_price_44 45 rfl 2 rfl ?_
    obtain ⟨r45, a45, hq, h⟩ := xb_some h
    refine x_callVi C 0 (c_X12_priceOf C.2.2.2.2.2.2.1 hq) lm0 EM_0 rfl wml_X12_393 wq_X12_priceOf rfl ⟨by decide, by decide⟩ rfl rfl ⟨by decide, by decide⟩ dX12_price_45 48 rfl rfl (Nat.le_of_ble_eq_true rfl) ?_
    exact x_iret C rfl dX12_price_48 h
  · refine x_iconst C dX12_price_35 36 rfl 0 rfl ?_
    exact x_iret C rfl dX12_price_36 h
theorem b_X12_price_22 (C : XC p l s m args meth c cX12_price 3 (some .int) RX12 D vwCl (tysM ca) (EM ad ca) NCM ad) {N : Nat} {o : (Int32 × AH)} {ah : AH} {v1 : Int32} {v2 : Int32} (h : F_X12_price_22 N ah v1 v2 = some o) : XW p l e rm_X12_price s m args below meth c 3 0 (xQi below args s D vwCl (tysM ca) (EM ad ca) NCM ad o) D vwCl (EM ad ca) NCM ad ah 22 [(0, .ref (ad 0)), (1, .int v1), (2, .int v2)] [.ref (ad 0)] := by
  unfold F_X12_price_22 at h
  refine x_iconst C dX12_price_22 23 rfl 1 rfl ?_
  refine x_goto C dX12_price_23 27 rfl ?_
  exact b_X12_price_27 C  h
theorem c_X12_price {l : Launch} {D : va_G} {ca : Nat → ClassId} {ad : Nat → Nat} (hI : xInj ad NCM) {N : Nat} {ah : AH} {p1 : Int32} {p2 : Int32} {r : Int32} {a : AH} (h : F_X12_price N ah p1 p2 = some (r, a)) : xMi l yX12_price cX12_price 3 (some .int) rm_X12_price D vwCl (tysM ca) (EM ad ca) NCM ad [.ref (ad 0), .int p1, .int p2] ah (r, a) := by
  refine x_meti (by decide) (Nat.le_of_ble_eq_true rfl) hI EM_loc ?_
  intro p e s m args below meth c C
  unfold F_X12_price at h
  refine x_aload_n C dX12_price_0 1 rfl 0 rfl ?_
  refine x_iconst C dX12_price_1 2 rfl 0 rfl ?_
  refine x_put C inX12 0 lm0 EM_0 rfl 0 (by decide) tyX12_ok nmX12 dX12_price_2 5 rfl wmf_X12_180 rfl rfl rfl (Nat.le_of_ble_eq_true rfl) EQ_0_0 h (fun a2 h => ?_)
  refine x_aload_n C dX12_price_5 6 rfl 0 rfl ?_
  refine x_aload_n C dX12_price_6 7 rfl 0 rfl ?_
  refine x_iload_n C dX12_price_7 8 rfl 1 rfl ?_
  obtain ⟨r8, a8, hq, h⟩ := xb_some h
  refine x_callVi C 0 (c_X12_isToken C.2.2.2.2.2.2.1 hq) lm0 EM_0 rfl wml_X12_368 wq_X12_isToken rfl ⟨by decide, by decide⟩ rfl rfl ⟨by decide, by decide⟩ dX12_price_8 11 rfl rfl (Nat.le_of_ble_eq_true rfl) ?_
  refine x_if_eq C dX12_price_11 14 rfl 22 rfl h (fun h => ?_) (fun h => ?_)
  · exact b_X12_price_22 C  h
  · refine x_aload_n C dX12_price_14 15 rfl 0 rfl ?_
    refine x_iload_n C dX12_price_15 16 rfl 2 rfl ?_
    obtain ⟨r16, a16, hq, h⟩ := xb_some h
    refine x_callVi C 0 (c_X12_isWord C.2.2.2.2.2.2.1 hq) lm0 EM_0 rfl wml_X12_282 wq_X12_isWord rfl ⟨by decide, by decide⟩ rfl rfl ⟨by decide, by decide⟩ dX12_price_16 19 rfl rfl (Nat.le_of_ble_eq_true rfl) ?_
    refine x_if_ne C dX12_price_19 22 rfl 26 rfl h (fun h => ?_) (fun h => ?_)
    · refine x_iconst C dX12_price_26 27 rfl 0 rfl ?_
      exact b_X12_price_27 C  h
    · exact b_X12_price_22 C  h
abbrev rm_X12_within : Room := { frames := 4, cells := 0, slots := 0, locals := 98 }
theorem wq_X12_within : xcV RX12 yX12_within cX12_within 5 (some .int) 2 := ⟨wmi_X12_within, wms_X12_within, wmn_X12, wmc_X12_within, by decide, by decide, by decide +kernel⟩
def F_X12_within_94 (N : Nat) (k65 : AH → Int32 → Int32 → Int32 → Option (Int32 × AH)) (ah : AH) (v2 : Int32) (v4 : Int32) (s0 : Int32) (s1 : Int32) : Option (Int32 × AH) := xlet (s0 + s1) (fun v3_95 => xlet (v4 + 1) (fun v4_96 => k65 ah v2 v3_95 v4_96))
def F_X12_within_65 (N : Nat) : Nat → AH → Int32 → Int32 → Int32 → Option (Int32 × AH)
  | 0, _, _, _, _ => none
  | n + 1, ah, v2, v3, v4 => if (ah 0 10) ≤ v4 then some (v3, ah) else xb (F_X12_priceOf N ah v4) (fun r78 a78 => xb (F_X12_in N a78 r78 0 v2) (fun r83 a83 => if r83 = 0 then F_X12_within_94 N (F_X12_within_65 N n) a83 v2 v4 v3 0 else F_X12_within_94 N (F_X12_within_65 N n) a83 v2 v4 v3 1))
def F_X12_within_44 (N : Nat) (ah : AH) (v1 : Int32) (v2 : Int32) (s1 : Int32) : Option (Int32 × AH) := xb (F_X12_bad N ah s1 2 1) (fun r46 a46 => if r46 = 0 then xbv (F_X12_laysToken N a46 v1 0) (fun a57 => xlet 0 (fun v3_61 => xlet 0 (fun v4_63 => F_X12_within_65 N N a57 v2 v3_61 v4_63))) else some (0, a46))
def F_X12_within_19 (N : Nat) (ah : AH) (v1 : Int32) (v2 : Int32) (s1 : Int32) : Option (Int32 × AH) := xb (F_X12_bad N ah s1 1 0) (fun r21 a21 => if r21 = 0 then xb (F_X12_in N a21 v2 0 9999) (fun r33 a33 => if r33 = 0 then F_X12_within_44 N a33 v1 v2 1 else F_X12_within_44 N a33 v1 v2 0) else some (0, a21))
def F_X12_within (N : Nat) (ah : AH) (p1 : Int32) (p2 : Int32) : Option (Int32 × AH) := xlet (xu ah 0 0 0) (fun a2 => xb (F_X12_isToken N a2 p1) (fun r8 a8 => if r8 = 0 then F_X12_within_19 N a8 p1 p2 1 else F_X12_within_19 N a8 p1 p2 0))
theorem b_X12_within_94 (C : XC p l s m args meth c cX12_within 5 (some .int) RX12 D vwCl (tysM ca) (EM ad ca) NCM ad) {N : Nat} {o : (Int32 × AH)} {k65 : AH → Int32 → Int32 → Int32 → Option (Int32 × AH)} (hk65 : ∀ (ah : AH) (v2 : Int32) (v3 : Int32) (v4 : Int32), k65 ah v2 v3 v4 = some o → XW p l e rm_X12_within s m args below meth c 5 0 (xQi below args s D vwCl (tysM ca) (EM ad ca) NCM ad o) D vwCl (EM ad ca) NCM ad ah 65 [(0, .ref (ad 0)), (2, .int v2), (3, .int v3), (4, .int v4)] []) {ah : AH} {v2 : Int32} {v4 : Int32} {s0 : Int32} {s1 : Int32} (h : F_X12_within_94 N k65 ah v2 v4 s0 s1 = some o) : XW p l e rm_X12_within s m args below meth c 5 0 (xQi below args s D vwCl (tysM ca) (EM ad ca) NCM ad o) D vwCl (EM ad ca) NCM ad ah 94 [(0, .ref (ad 0)), (2, .int v2), (4, .int v4)] [.int s1, .int s0] := by
  unfold F_X12_within_94 at h
  refine x_iadd C dX12_within_94 95 rfl ?_
  refine x_istore_n C dX12_within_95 96 rfl (by decide) (fun v3_95 => [(3, .int v3_95), (0, .ref (ad 0)), (2, .int v2), (4, .int v4)]) (fun _ => rfl) h (fun v3_95 h => ?_)
  refine x_iinc C dX12_within_96 99 rfl 3 rfl (d := 1) rfl (by decide) (fun v4_96 => [(4, .int v4_96), (3, .int v3_95), (0, .ref (ad 0)), (2, .int v2)]) (fun _ => rfl) h (fun v4_96 h => ?_)
  refine x_goto C dX12_within_99 65 rfl ?_
  exact x_sub [2, 3, 1, 0] rfl (hk65 _ _ _ _ h)
theorem b_X12_within_65 (C : XC p l s m args meth c cX12_within 5 (some .int) RX12 D vwCl (tysM ca) (EM ad ca) NCM ad) {N : Nat} {o : (Int32 × AH)} : ∀ (n : Nat) {ah : AH} {v2 : Int32} {v3 : Int32} {v4 : Int32}, F_X12_within_65 N n ah v2 v3 v4 = some o → XW p l e rm_X12_within s m args below meth c 5 0 (xQi below args s D vwCl (tysM ca) (EM ad ca) NCM ad o) D vwCl (EM ad ca) NCM ad ah 65 [(0, .ref (ad 0)), (2, .int v2), (3, .int v3), (4, .int v4)] [] := by
  intro n
  induction n with
  | zero => intro ah v2 v3 v4 h; unfold F_X12_within_65 at h; cases h
  | succ n ih =>
    intro ah v2 v3 v4 h
    unfold F_X12_within_65 at h
    refine x_iload C dX12_within_65 67 rfl 3 rfl ?_
    refine x_aload_n C dX12_within_67 68 rfl 0 rfl ?_
    refine x_get C inX12 0 lm0 EM_0 rfl 10 (by decide) dX12_within_68 71 rfl wmf_X12_257 rfl ?_
    refine x_icmp_ge C dX12_within_71 74 rfl 102 rfl h (fun h => ?_) (fun h => ?_)
    · refine x_iload_n C dX12_within_102 103 rfl 2 rfl ?_
      exact x_iret C rfl dX12_within_103 h
    · refine x_iload_n C dX12_within_74 75 rfl 2 rfl ?_
      refine x_aload_n C dX12_within_75 76 rfl 0 rfl ?_
      refine x_iload C dX12_within_76 78 rfl 3 rfl ?_
      obtain ⟨r78, a78, hq, h⟩ := xb_some h
      refine x_callVi C 0 (c_X12_priceOf C.2.2.2.2.2.2.1 hq) lm0 EM_0 rfl wml_X12_393 wq_X12_priceOf rfl ⟨by decide, by decide⟩ rfl rfl ⟨by decide, by decide⟩ dX12_within_78 81 rfl rfl (Nat.le_of_ble_eq_true rfl) ?_
      refine x_iconst C dX12_within_81 82 rfl 0 rfl ?_
      refine x_iload_n C dX12_within_82 83 rfl 1 rfl ?_
      obtain ⟨r83, a83, hq, h⟩ := xb_some h
      refine x_callSi C (c_X12_in C.2.2.2.2.2.2.1 hq) wml_X12_223 wq_X12_in rfl ⟨by decide, by decide⟩ rfl rfl ⟨by decide, by decide⟩ dX12_within_83 86 rfl rfl (Nat.le_of_ble_eq_true rfl) ?_
      refine x_if_eq C dX12_within_86 89 rfl 93 rfl h (fun h => ?_) (fun h => ?_)
      · refine x_iconst C dX12_within_93 94 rfl 0 rfl ?_
        exact x_sub [0, 1, 3] rfl (b_X12_within_94 C (fun _ _ _ _ h => ih h) h)
      · refine x_iconst C dX12_within_89 90 rfl 1 rfl ?_
        refine x_goto C dX12_within_90 94 rfl ?_
        exact x_sub [0, 1, 3] rfl (b_X12_within_94 C (fun _ _ _ _ h => ih h) h)
theorem b_X12_within_44 (C : XC p l s m args meth c cX12_within 5 (some .int) RX12 D vwCl (tysM ca) (EM ad ca) NCM ad) {N : Nat} {o : (Int32 × AH)} {ah : AH} {v1 : Int32} {v2 : Int32} {s1 : Int32} (h : F_X12_within_44 N ah v1 v2 s1 = some o) : XW p l e rm_X12_within s m args below meth c 5 0 (xQi below args s D vwCl (tysM ca) (EM ad ca) NCM ad o) D vwCl (EM ad ca) NCM ad ah 44 [(0, .ref (ad 0)), (1, .int v1), (2, .int v2)] [.int s1, .ref (ad 0)] := by
  unfold F_X12_within_44 at h
  refine x_iconst C dX12_within_44 45 rfl 2 rfl ?_
  refine x_iconst C dX12_within_45 46 rfl 1 rfl ?_
  obtain ⟨r46, a46, hq, h⟩ := xb_some h
  refine x_callVi C 0 (c_X12_bad C.2.2.2.2.2.2.1 hq) lm0 EM_0 rfl wml_X12_249 wq_X12_bad rfl ⟨by decide, by decide⟩ rfl rfl ⟨by decide, by decide⟩ dX12_within_46 49 rfl rfl (Nat.le_of_ble_eq_true rfl) ?_
  refine x_if_eq C dX12_within_49 52 rfl 54 rfl h (fun h => ?_) (fun h => ?_)
  · refine x_aload_n C dX12_within_54 55 rfl 0 rfl ?_
    refine x_iload_n C dX12_within_55 56 rfl 1 rfl ?_
    refine x_iconst C dX12_within_56 57 rfl 0 rfl ?_
    obtain ⟨a57, hq, h⟩ := xbv_some h
    refine x_callVv C 0 (c_X12_laysToken C.2.2.2.2.2.2.1 hq) lm0 EM_0 rfl wml_X12_371 wq_X12_laysToken rfl ⟨by decide, by decide⟩ rfl rfl ⟨by decide, by decide⟩ dX12_within_57 60 rfl rfl (Nat.le_of_ble_eq_true rfl) ?_
    refine x_iconst C dX12_within_60 61 rfl 0 rfl ?_
    refine x_istore_n C dX12_within_61 62 rfl (by decide) (fun v3_61 => [(3, .int v3_61), (0, .ref (ad 0)), (1, .int v1), (2, .int v2)]) (fun _ => rfl) h (fun v3_61 h => ?_)
    refine x_iconst C dX12_within_62 63 rfl 0 rfl ?_
    refine x_istore C dX12_within_63 65 rfl (by decide) (fun v4_63 => [(4, .int v4_63), (3, .int v3_61), (0, .ref (ad 0)), (1, .int v1), (2, .int v2)]) (fun _ => rfl) h (fun v4_63 h => ?_)
    exact x_sub [2, 4, 1, 0] rfl (b_X12_within_65 C  N h)
  · refine x_iconst C dX12_within_52 53 rfl 0 rfl ?_
    exact x_iret C rfl dX12_within_53 h
theorem b_X12_within_19 (C : XC p l s m args meth c cX12_within 5 (some .int) RX12 D vwCl (tysM ca) (EM ad ca) NCM ad) {N : Nat} {o : (Int32 × AH)} {ah : AH} {v1 : Int32} {v2 : Int32} {s1 : Int32} (h : F_X12_within_19 N ah v1 v2 s1 = some o) : XW p l e rm_X12_within s m args below meth c 5 0 (xQi below args s D vwCl (tysM ca) (EM ad ca) NCM ad o) D vwCl (EM ad ca) NCM ad ah 19 [(0, .ref (ad 0)), (1, .int v1), (2, .int v2)] [.int s1, .ref (ad 0)] := by
  unfold F_X12_within_19 at h
  refine x_iconst C dX12_within_19 20 rfl 1 rfl ?_
  refine x_iconst C dX12_within_20 21 rfl 0 rfl ?_
  obtain ⟨r21, a21, hq, h⟩ := xb_some h
  refine x_callVi C 0 (c_X12_bad C.2.2.2.2.2.2.1 hq) lm0 EM_0 rfl wml_X12_249 wq_X12_bad rfl ⟨by decide, by decide⟩ rfl rfl ⟨by decide, by decide⟩ dX12_within_21 24 rfl rfl (Nat.le_of_ble_eq_true rfl) ?_
  refine x_if_ne C dX12_within_24 27 rfl 52 rfl h (fun h => ?_) (fun h => ?_)
  · refine x_iconst C dX12_within_52 53 rfl 0 rfl ?_
    exact x_iret C rfl dX12_within_53 h
  · refine x_aload_n C dX12_within_27 28 rfl 0 rfl ?_
    refine x_iload_n C dX12_within_28 29 rfl 2 rfl ?_
    refine x_iconst C dX12_within_29 30 rfl 0 rfl ?_
    refine x_sipush C dX12_within_30 33 rfl 9999 rfl ?_
    obtain ⟨r33, a33, hq, h⟩ := xb_some h
    refine x_callSi C (c_X12_in C.2.2.2.2.2.2.1 hq) wml_X12_223 wq_X12_in rfl ⟨by decide, by decide⟩ rfl rfl ⟨by decide, by decide⟩ dX12_within_33 36 rfl rfl (Nat.le_of_ble_eq_true rfl) ?_
    refine x_if_ne C dX12_within_36 39 rfl 43 rfl h (fun h => ?_) (fun h => ?_)
    · refine x_iconst C dX12_within_43 44 rfl 0 rfl ?_
      exact b_X12_within_44 C  h
    · refine x_iconst C dX12_within_39 40 rfl 1 rfl ?_
      refine x_goto C dX12_within_40 44 rfl ?_
      exact b_X12_within_44 C  h
theorem c_X12_within {l : Launch} {D : va_G} {ca : Nat → ClassId} {ad : Nat → Nat} (hI : xInj ad NCM) {N : Nat} {ah : AH} {p1 : Int32} {p2 : Int32} {r : Int32} {a : AH} (h : F_X12_within N ah p1 p2 = some (r, a)) : xMi l yX12_within cX12_within 5 (some .int) rm_X12_within D vwCl (tysM ca) (EM ad ca) NCM ad [.ref (ad 0), .int p1, .int p2] ah (r, a) := by
  refine x_meti (by decide) (Nat.le_of_ble_eq_true rfl) hI EM_loc ?_
  intro p e s m args below meth c C
  unfold F_X12_within at h
  refine x_aload_n C dX12_within_0 1 rfl 0 rfl ?_
  refine x_iconst C dX12_within_1 2 rfl 0 rfl ?_
  refine x_put C inX12 0 lm0 EM_0 rfl 0 (by decide) tyX12_ok nmX12 dX12_within_2 5 rfl wmf_X12_180 rfl rfl rfl (Nat.le_of_ble_eq_true rfl) EQ_0_0 h (fun a2 h => ?_)
  refine x_aload_n C dX12_within_5 6 rfl 0 rfl ?_
  refine x_aload_n C dX12_within_6 7 rfl 0 rfl ?_
  refine x_iload_n C dX12_within_7 8 rfl 1 rfl ?_
  obtain ⟨r8, a8, hq, h⟩ := xb_some h
  refine x_callVi C 0 (c_X12_isToken C.2.2.2.2.2.2.1 hq) lm0 EM_0 rfl wml_X12_368 wq_X12_isToken rfl ⟨by decide, by decide⟩ rfl rfl ⟨by decide, by decide⟩ dX12_within_8 11 rfl rfl (Nat.le_of_ble_eq_true rfl) ?_
  refine x_if_ne C dX12_within_11 14 rfl 18 rfl h (fun h => ?_) (fun h => ?_)
  · refine x_iconst C dX12_within_18 19 rfl 0 rfl ?_
    exact b_X12_within_19 C  h
  · refine x_iconst C dX12_within_14 15 rfl 1 rfl ?_
    refine x_goto C dX12_within_15 19 rfl ?_
    exact b_X12_within_19 C  h
abbrev rm_X12_mends : Room := { frames := 3, cells := 0, slots := 0, locals := 74 }
theorem wq_X12_mends : xcV RX12 yX12_mends cX12_mends 3 none 1 := ⟨wmi_X12_mends, wms_X12_mends, wmn_X12, wmc_X12_mends, by decide, by decide, by decide +kernel⟩
def F_X12_mends_120 (N : Nat) (ah : AH) (s1 : Int32) : Option AH := xlet (xu ah 0 52 (s1 - (ah 34 0))) (fun a127 => some a127)
def F_X12_mends_91 (N : Nat) (ah : AH) (s1 : Int32) : Option AH := xlet (xu ah 0 52 s1) (fun a91 => some a91)
def F_X12_mends_60 (N : Nat) (ah : AH) (v2 : Int32) (s1 : Int32) : Option AH := xlet (xu ah 0 51 s1) (fun a60 => if (a60 0 50) = ((-1)) then if (a60 0 49) ≤ 0 then F_X12_mends_91 N a60 ((-1)) else F_X12_mends_91 N a60 ((a60 34 0) - v2) else if (a60 0 49) ≤ 1 then F_X12_mends_120 N a60 v2 else xb (F_X12_less N a60 (a60 34 1) v2) (fun r113 a113 => F_X12_mends_120 N a113 r113))
def F_X12_mends_38 (N : Nat) (ah : AH) (v2 : Int32) (s1 : Int32) : Option AH := xlet (xu ah 0 50 s1) (fun a38 => if (a38 0 50) = ((-1)) then F_X12_mends_60 N a38 v2 v2 else F_X12_mends_60 N a38 v2 (a38 34 0))
def F_X12_mends_37 (N : Nat) (ah : AH) (v2 : Int32) : Option AH := F_X12_mends_38 N ah v2 ((-1))
def F_X12_mends (N : Nat) (ah : AH) (p1 : Int32) : Option AH := xbv (F_X12_searches N ah p1) (fun a2 => xb (F_X12_outside N a2) (fun r6 a6 => xlet r6 (fun v2_9 => if (a6 0 49) ≤ 0 then F_X12_mends_37 N a6 v2_9 else if v2_9 < (a6 34 0) then F_X12_mends_37 N a6 v2_9 else F_X12_mends_38 N a6 v2_9 (a6 33 0))))
theorem b_X12_mends_120 (C : XC p l s m args meth c cX12_mends 3 none RX12 D vwCl (tysM ca) (EM ad ca) NCM ad) {N : Nat} {o : AH} {ah : AH} {s1 : Int32} (h : F_X12_mends_120 N ah s1 = some o) : XW p l e rm_X12_mends s m args below meth c 3 0 (xQv below args s D vwCl (tysM ca) (EM ad ca) NCM ad o) D vwCl (EM ad ca) NCM ad ah 120 [(0, .ref (ad 0))] [.int s1, .ref (ad 0)] := by
  unfold F_X12_mends_120 at h
  refine x_aload_n C dX12_mends_120 121 rfl 0 rfl ?_
  refine x_get C inX12 0 lm0 EM_0 rfl 47 (by decide) dX12_mends_121 124 rfl wmf_X12_122 rfl ?_
  refine x_iconst C dX12_mends_124 125 rfl 0 rfl ?_
  refine x_ialdK C 34 lm34 EM_34 0 rfl dX12_mends_125 126 rfl (by decide) 0 (by decide) ?_
  refine x_isub C dX12_mends_126 127 rfl ?_
  refine x_put C inX12 0 lm0 EM_0 rfl 52 (by decide) tyX12_ok nmX12 dX12_mends_127 130 rfl wmf_X12_402 rfl rfl rfl (Nat.le_of_ble_eq_true rfl) EQ_0_52 h (fun a127 h => ?_)
  exact x_vret C rfl dX12_mends_130 h
theorem b_X12_mends_91 (C : XC p l s m args meth c cX12_mends 3 none RX12 D vwCl (tysM ca) (EM ad ca) NCM ad) {N : Nat} {o : AH} {ah : AH} {s1 : Int32} (h : F_X12_mends_91 N ah s1 = some o) : XW p l e rm_X12_mends s m args below meth c 3 0 (xQv below args s D vwCl (tysM ca) (EM ad ca) NCM ad o) D vwCl (EM ad ca) NCM ad ah 91 [] [.int s1, .ref (ad 0)] := by
  unfold F_X12_mends_91 at h
  refine x_put C inX12 0 lm0 EM_0 rfl 52 (by decide) tyX12_ok nmX12 dX12_mends_91 94 rfl wmf_X12_402 rfl rfl rfl (Nat.le_of_ble_eq_true rfl) EQ_0_52 h (fun a91 h => ?_)
  refine x_goto C dX12_mends_94 130 rfl ?_
  exact x_vret C rfl dX12_mends_130 h
theorem b_X12_mends_60 (C : XC p l s m args meth c cX12_mends 3 none RX12 D vwCl (tysM ca) (EM ad ca) NCM ad) {N : Nat} {o : AH} {ah : AH} {v2 : Int32} {s1 : Int32} (h : F_X12_mends_60 N ah v2 s1 = some o) : XW p l e rm_X12_mends s m args below meth c 3 0 (xQv below args s D vwCl (tysM ca) (EM ad ca) NCM ad o) D vwCl (EM ad ca) NCM ad ah 60 [(0, .ref (ad 0)), (2, .int v2)] [.int s1, .ref (ad 0)] := by
  unfold F_X12_mends_60 at h
  refine x_put C inX12 0 lm0 EM_0 rfl 51 (by decide) tyX12_ok nmX12 dX12_mends_60 63 rfl wmf_X12_399 rfl rfl rfl (Nat.le_of_ble_eq_true rfl) EQ_0_51 h (fun a60 h => ?_)
  refine x_aload_n C dX12_mends_63 64 rfl 0 rfl ?_
  refine x_get C inX12 0 lm0 EM_0 rfl 50 (by decide) dX12_mends_64 67 rfl wmf_X12_396 rfl ?_
  refine x_iconst C dX12_mends_67 68 rfl (-1) rfl ?_
  refine x_icmp_ne C dX12_mends_68 71 rfl 97 rfl h (fun h => ?_) (fun h => ?_)
  · refine x_aload_n C dX12_mends_97 98 rfl 0 rfl ?_
    refine x_aload_n C dX12_mends_98 99 rfl 0 rfl ?_
    refine x_get C inX12 0 lm0 EM_0 rfl 49 (by decide) dX12_mends_99 102 rfl wmf_X12_350 rfl ?_
    refine x_iconst C dX12_mends_102 103 rfl 1 rfl ?_
    refine x_icmp_le C dX12_mends_103 106 rfl 119 rfl h (fun h => ?_) (fun h => ?_)
    · refine x_iload_n C dX12_mends_119 120 rfl 1 rfl ?_
      exact x_sub [0] rfl (b_X12_mends_120 C  h)
    · refine x_aload_n C dX12_mends_106 107 rfl 0 rfl ?_
      refine x_get C inX12 0 lm0 EM_0 rfl 47 (by decide) dX12_mends_107 110 rfl wmf_X12_122 rfl ?_
      refine x_iconst C dX12_mends_110 111 rfl 1 rfl ?_
      refine x_ialdK C 34 lm34 EM_34 0 rfl dX12_mends_111 112 rfl (by decide) 1 (by decide) ?_
      refine x_iload_n C dX12_mends_112 113 rfl 1 rfl ?_
      obtain ⟨r113, a113, hq, h⟩ := xb_some h
      refine x_callSi C (c_X12_less C.2.2.2.2.2.2.1 hq) wml_X12_219 wq_X12_less rfl ⟨by decide, by decide⟩ rfl rfl ⟨by decide, by decide⟩ dX12_mends_113 116 rfl rfl (Nat.le_of_ble_eq_true rfl) ?_
      refine x_goto C dX12_mends_116 120 rfl ?_
      exact x_sub [0] rfl (b_X12_mends_120 C  h)
  · refine x_aload_n C dX12_mends_71 72 rfl 0 rfl ?_
    refine x_aload_n C dX12_mends_72 73 rfl 0 rfl ?_
    refine x_get C inX12 0 lm0 EM_0 rfl 49 (by decide) dX12_mends_73 76 rfl wmf_X12_350 rfl ?_
    refine x_if_le C dX12_mends_76 79 rfl 90 rfl h (fun h => ?_) (fun h => ?_)
    · refine x_iconst C dX12_mends_90 91 rfl (-1) rfl ?_
      exact x_sub [] rfl (b_X12_mends_91 C  h)
    · refine x_aload_n C dX12_mends_79 80 rfl 0 rfl ?_
      refine x_get C inX12 0 lm0 EM_0 rfl 47 (by decide) dX12_mends_80 83 rfl wmf_X12_122 rfl ?_
      refine x_iconst C dX12_mends_83 84 rfl 0 rfl ?_
      refine x_ialdK C 34 lm34 EM_34 0 rfl dX12_mends_84 85 rfl (by decide) 0 (by decide) ?_
      refine x_iload_n C dX12_mends_85 86 rfl 1 rfl ?_
      refine x_isub C dX12_mends_86 87 rfl ?_
      refine x_goto C dX12_mends_87 91 rfl ?_
      exact x_sub [] rfl (b_X12_mends_91 C  h)
theorem b_X12_mends_38 (C : XC p l s m args meth c cX12_mends 3 none RX12 D vwCl (tysM ca) (EM ad ca) NCM ad) {N : Nat} {o : AH} {ah : AH} {v2 : Int32} {s1 : Int32} (h : F_X12_mends_38 N ah v2 s1 = some o) : XW p l e rm_X12_mends s m args below meth c 3 0 (xQv below args s D vwCl (tysM ca) (EM ad ca) NCM ad o) D vwCl (EM ad ca) NCM ad ah 38 [(0, .ref (ad 0)), (2, .int v2)] [.int s1, .ref (ad 0)] := by
  unfold F_X12_mends_38 at h
  refine x_put C inX12 0 lm0 EM_0 rfl 50 (by decide) tyX12_ok nmX12 dX12_mends_38 41 rfl wmf_X12_396 rfl rfl rfl (Nat.le_of_ble_eq_true rfl) EQ_0_50 h (fun a38 h => ?_)
  refine x_aload_n C dX12_mends_41 42 rfl 0 rfl ?_
  refine x_aload_n C dX12_mends_42 43 rfl 0 rfl ?_
  refine x_get C inX12 0 lm0 EM_0 rfl 50 (by decide) dX12_mends_43 46 rfl wmf_X12_396 rfl ?_
  refine x_iconst C dX12_mends_46 47 rfl (-1) rfl ?_
  refine x_icmp_ne C dX12_mends_47 50 rfl 54 rfl h (fun h => ?_) (fun h => ?_)
  · refine x_aload_n C dX12_mends_54 55 rfl 0 rfl ?_
    refine x_get C inX12 0 lm0 EM_0 rfl 47 (by decide) dX12_mends_55 58 rfl wmf_X12_122 rfl ?_
    refine x_iconst C dX12_mends_58 59 rfl 0 rfl ?_
    refine x_ialdK C 34 lm34 EM_34 0 rfl dX12_mends_59 60 rfl (by decide) 0 (by decide) ?_
    exact b_X12_mends_60 C  h
  · refine x_iload_n C dX12_mends_50 51 rfl 1 rfl ?_
    refine x_goto C dX12_mends_51 60 rfl ?_
    exact b_X12_mends_60 C  h
theorem b_X12_mends_37 (C : XC p l s m args meth c cX12_mends 3 none RX12 D vwCl (tysM ca) (EM ad ca) NCM ad) {N : Nat} {o : AH} {ah : AH} {v2 : Int32} (h : F_X12_mends_37 N ah v2 = some o) : XW p l e rm_X12_mends s m args below meth c 3 0 (xQv below args s D vwCl (tysM ca) (EM ad ca) NCM ad o) D vwCl (EM ad ca) NCM ad ah 37 [(0, .ref (ad 0)), (2, .int v2)] [.ref (ad 0)] := by
  unfold F_X12_mends_37 at h
  refine x_iconst C dX12_mends_37 38 rfl (-1) rfl ?_
  exact b_X12_mends_38 C  h
theorem c_X12_mends {l : Launch} {D : va_G} {ca : Nat → ClassId} {ad : Nat → Nat} (hI : xInj ad NCM) {N : Nat} {ah : AH} {p1 : Int32} {a : AH} (h : F_X12_mends N ah p1 = some a) : xMv l yX12_mends cX12_mends 3 rm_X12_mends D vwCl (tysM ca) (EM ad ca) NCM ad [.ref (ad 0), .int p1] ah a := by
  refine x_metv (by decide) (Nat.le_of_ble_eq_true rfl) hI EM_loc ?_
  intro p e s m args below meth c C
  unfold F_X12_mends at h
  refine x_aload_n C dX12_mends_0 1 rfl 0 rfl ?_
  refine x_iload_n C dX12_mends_1 2 rfl 1 rfl ?_
  obtain ⟨a2, hq, h⟩ := xbv_some h
  refine x_callVv C 0 (c_X12_searches C.2.2.2.2.2.2.1 hq) lm0 EM_0 rfl wml_X12_387 wq_X12_searches rfl ⟨by decide, by decide⟩ rfl rfl ⟨by decide, by decide⟩ dX12_mends_2 5 rfl rfl (Nat.le_of_ble_eq_true rfl) ?_
  refine x_aload_n C dX12_mends_5 6 rfl 0 rfl ?_
  obtain ⟨r6, a6, hq, h⟩ := xb_some h
  refine x_callVi C 0 (c_X12_outside C.2.2.2.2.2.2.1 hq) lm0 EM_0 rfl wml_X12_381 wq_X12_outside rfl ⟨by decide, by decide⟩ rfl rfl ⟨by decide, by decide⟩ dX12_mends_6 9 rfl rfl (Nat.le_of_ble_eq_true rfl) ?_
  refine x_istore_n C dX12_mends_9 10 rfl (by decide) (fun v2_9 => [(2, .int v2_9), (0, .ref (ad 0)), (1, .int p1)]) (fun _ => rfl) h (fun v2_9 h => ?_)
  refine x_aload_n C dX12_mends_10 11 rfl 1 rfl ?_
  refine x_aload_n C dX12_mends_11 12 rfl 1 rfl ?_
  refine x_get C inX12 0 lm0 EM_0 rfl 49 (by decide) dX12_mends_12 15 rfl wmf_X12_350 rfl ?_
  refine x_if_le C dX12_mends_15 18 rfl 37 rfl h (fun h => ?_) (fun h => ?_)
  · exact x_sub [1, 0] rfl (b_X12_mends_37 C  h)
  · refine x_aload_n C dX12_mends_18 19 rfl 1 rfl ?_
    refine x_get C inX12 0 lm0 EM_0 rfl 47 (by decide) dX12_mends_19 22 rfl wmf_X12_122 rfl ?_
    refine x_iconst C dX12_mends_22 23 rfl 0 rfl ?_
    refine x_ialdK C 34 lm34 EM_34 0 rfl dX12_mends_23 24 rfl (by decide) 0 (by decide) ?_
    refine x_iload_n C dX12_mends_24 25 rfl 0 rfl ?_
    refine x_icmp_gt C dX12_mends_25 28 rfl 37 rfl h (fun h => ?_) (fun h => ?_)
    · exact x_sub [1, 0] rfl (b_X12_mends_37 C  h)
    · refine x_aload_n C dX12_mends_28 29 rfl 1 rfl ?_
      refine x_get C inX12 0 lm0 EM_0 rfl 46 (by decide) dX12_mends_29 32 rfl wmf_X12_119 rfl ?_
      refine x_iconst C dX12_mends_32 33 rfl 0 rfl ?_
      refine x_ialdK C 33 lm33 EM_33 0 rfl dX12_mends_33 34 rfl (by decide) 0 (by decide) ?_
      refine x_goto C dX12_mends_34 38 rfl ?_
      exact x_sub [1, 0] rfl (b_X12_mends_38 C  h)
abbrev rm_X12_mended : Room := { frames := 4, cells := 0, slots := 0, locals := 98 }
theorem wq_X12_mended : xcV RX12 yX12_mended cX12_mended 3 (some .int) 2 := ⟨wmi_X12_mended, wms_X12_mended, wmn_X12, wmc_X12_mended, by decide, by decide, by decide +kernel⟩
def F_X12_mended_42 (N : Nat) (ah : AH) (v1 : Int32) (v2 : Int32) (s1 : Int32) : Option (Int32 × AH) := xb (F_X12_bad N ah s1 2 1) (fun r44 a44 => if r44 = 0 then xbv (F_X12_laysToken N a44 v1 0) (fun a55 => xbv (F_X12_mends N a55 2) (fun a60 => if v2 = 0 then some (a60 0 50, a60) else if v2 = 1 then some (a60 0 51, a60) else some (a60 0 52, a60))) else some (0, a44))
def F_X12_mended_19 (N : Nat) (ah : AH) (v1 : Int32) (v2 : Int32) (s1 : Int32) : Option (Int32 × AH) := xb (F_X12_bad N ah s1 1 0) (fun r21 a21 => if r21 = 0 then xb (F_X12_in N a21 v2 0 2) (fun r31 a31 => if r31 = 0 then F_X12_mended_42 N a31 v1 v2 1 else F_X12_mended_42 N a31 v1 v2 0) else some (0, a21))
def F_X12_mended (N : Nat) (ah : AH) (p1 : Int32) (p2 : Int32) : Option (Int32 × AH) := xlet (xu ah 0 0 0) (fun a2 => xb (F_X12_isToken N a2 p1) (fun r8 a8 => if r8 = 0 then F_X12_mended_19 N a8 p1 p2 1 else F_X12_mended_19 N a8 p1 p2 0))
theorem b_X12_mended_42 (C : XC p l s m args meth c cX12_mended 3 (some .int) RX12 D vwCl (tysM ca) (EM ad ca) NCM ad) {N : Nat} {o : (Int32 × AH)} {ah : AH} {v1 : Int32} {v2 : Int32} {s1 : Int32} (h : F_X12_mended_42 N ah v1 v2 s1 = some o) : XW p l e rm_X12_mended s m args below meth c 3 0 (xQi below args s D vwCl (tysM ca) (EM ad ca) NCM ad o) D vwCl (EM ad ca) NCM ad ah 42 [(0, .ref (ad 0)), (1, .int v1), (2, .int v2)] [.int s1, .ref (ad 0)] := by
  unfold F_X12_mended_42 at h
  refine x_iconst C dX12_mended_42 43 rfl 2 rfl ?_
  refine x_iconst C dX12_mended_43 44 rfl 1 rfl ?_
  obtain ⟨r44, a44, hq, h⟩ := xb_some h
  refine x_callVi C 0 (c_X12_bad C.2.2.2.2.2.2.1 hq) lm0 EM_0 rfl wml_X12_249 wq_X12_bad rfl ⟨by decide, by decide⟩ rfl rfl ⟨by decide, by decide⟩ dX12_mended_44 47 rfl rfl (Nat.le_of_ble_eq_true rfl) ?_
  refine x_if_eq C dX12_mended_47 50 rfl 52 rfl h (fun h => ?_) (fun h => ?_)
  · refine x_aload_n C dX12_mended_52 53 rfl 0 rfl ?_
    refine x_iload_n C dX12_mended_53 54 rfl 1 rfl ?_
    refine x_iconst C dX12_mended_54 55 rfl 0 rfl ?_
    obtain ⟨a55, hq, h⟩ := xbv_some h
    refine x_callVv C 0 (c_X12_laysToken C.2.2.2.2.2.2.1 hq) lm0 EM_0 rfl wml_X12_371 wq_X12_laysToken rfl ⟨by decide, by decide⟩ rfl rfl ⟨by decide, by decide⟩ dX12_mended_55 58 rfl rfl (Nat.le_of_ble_eq_true rfl) ?_
    refine x_aload_n C dX12_mended_58 59 rfl 0 rfl ?_
    refine x_iconst C dX12_mended_59 60 rfl 2 rfl ?_
    obtain ⟨a60, hq, h⟩ := xbv_some h
    refine x_callVv C 0 (c_X12_mends C.2.2.2.2.2.2.1 hq) lm0 EM_0 rfl wml_X12_405 wq_X12_mends rfl ⟨by decide, by decide⟩ rfl rfl ⟨by decide, by decide⟩ dX12_mended_60 63 rfl rfl (Nat.le_of_ble_eq_true rfl) ?_
    refine x_iload_n C dX12_mended_63 64 rfl 2 rfl ?_
    refine x_if_ne C dX12_mended_64 67 rfl 74 rfl h (fun h => ?_) (fun h => ?_)
    · refine x_iload_n C dX12_mended_74 75 rfl 2 rfl ?_
      refine x_iconst C dX12_mended_75 76 rfl 1 rfl ?_
      refine x_icmp_ne C dX12_mended_76 79 rfl 86 rfl h (fun h => ?_) (fun h => ?_)
      · refine x_aload_n C dX12_mended_86 87 rfl 0 rfl ?_
        refine x_get C inX12 0 lm0 EM_0 rfl 52 (by decide) dX12_mended_87 90 rfl wmf_X12_402 rfl ?_
        exact x_iret C rfl dX12_mended_90 h
      · refine x_aload_n C dX12_mended_79 80 rfl 0 rfl ?_
        refine x_get C inX12 0 lm0 EM_0 rfl 51 (by decide) dX12_mended_80 83 rfl wmf_X12_399 rfl ?_
        refine x_goto C dX12_mended_83 90 rfl ?_
        exact x_iret C rfl dX12_mended_90 h
    · refine x_aload_n C dX12_mended_67 68 rfl 0 rfl ?_
      refine x_get C inX12 0 lm0 EM_0 rfl 50 (by decide) dX12_mended_68 71 rfl wmf_X12_396 rfl ?_
      refine x_goto C dX12_mended_71 90 rfl ?_
      exact x_iret C rfl dX12_mended_90 h
  · refine x_iconst C dX12_mended_50 51 rfl 0 rfl ?_
    exact x_iret C rfl dX12_mended_51 h
theorem b_X12_mended_19 (C : XC p l s m args meth c cX12_mended 3 (some .int) RX12 D vwCl (tysM ca) (EM ad ca) NCM ad) {N : Nat} {o : (Int32 × AH)} {ah : AH} {v1 : Int32} {v2 : Int32} {s1 : Int32} (h : F_X12_mended_19 N ah v1 v2 s1 = some o) : XW p l e rm_X12_mended s m args below meth c 3 0 (xQi below args s D vwCl (tysM ca) (EM ad ca) NCM ad o) D vwCl (EM ad ca) NCM ad ah 19 [(0, .ref (ad 0)), (1, .int v1), (2, .int v2)] [.int s1, .ref (ad 0)] := by
  unfold F_X12_mended_19 at h
  refine x_iconst C dX12_mended_19 20 rfl 1 rfl ?_
  refine x_iconst C dX12_mended_20 21 rfl 0 rfl ?_
  obtain ⟨r21, a21, hq, h⟩ := xb_some h
  refine x_callVi C 0 (c_X12_bad C.2.2.2.2.2.2.1 hq) lm0 EM_0 rfl wml_X12_249 wq_X12_bad rfl ⟨by decide, by decide⟩ rfl rfl ⟨by decide, by decide⟩ dX12_mended_21 24 rfl rfl (Nat.le_of_ble_eq_true rfl) ?_
  refine x_if_ne C dX12_mended_24 27 rfl 50 rfl h (fun h => ?_) (fun h => ?_)
  · refine x_iconst C dX12_mended_50 51 rfl 0 rfl ?_
    exact x_iret C rfl dX12_mended_51 h
  · refine x_aload_n C dX12_mended_27 28 rfl 0 rfl ?_
    refine x_iload_n C dX12_mended_28 29 rfl 2 rfl ?_
    refine x_iconst C dX12_mended_29 30 rfl 0 rfl ?_
    refine x_iconst C dX12_mended_30 31 rfl 2 rfl ?_
    obtain ⟨r31, a31, hq, h⟩ := xb_some h
    refine x_callSi C (c_X12_in C.2.2.2.2.2.2.1 hq) wml_X12_223 wq_X12_in rfl ⟨by decide, by decide⟩ rfl rfl ⟨by decide, by decide⟩ dX12_mended_31 34 rfl rfl (Nat.le_of_ble_eq_true rfl) ?_
    refine x_if_ne C dX12_mended_34 37 rfl 41 rfl h (fun h => ?_) (fun h => ?_)
    · refine x_iconst C dX12_mended_41 42 rfl 0 rfl ?_
      exact b_X12_mended_42 C  h
    · refine x_iconst C dX12_mended_37 38 rfl 1 rfl ?_
      refine x_goto C dX12_mended_38 42 rfl ?_
      exact b_X12_mended_42 C  h
theorem c_X12_mended {l : Launch} {D : va_G} {ca : Nat → ClassId} {ad : Nat → Nat} (hI : xInj ad NCM) {N : Nat} {ah : AH} {p1 : Int32} {p2 : Int32} {r : Int32} {a : AH} (h : F_X12_mended N ah p1 p2 = some (r, a)) : xMi l yX12_mended cX12_mended 3 (some .int) rm_X12_mended D vwCl (tysM ca) (EM ad ca) NCM ad [.ref (ad 0), .int p1, .int p2] ah (r, a) := by
  refine x_meti (by decide) (Nat.le_of_ble_eq_true rfl) hI EM_loc ?_
  intro p e s m args below meth c C
  unfold F_X12_mended at h
  refine x_aload_n C dX12_mended_0 1 rfl 0 rfl ?_
  refine x_iconst C dX12_mended_1 2 rfl 0 rfl ?_
  refine x_put C inX12 0 lm0 EM_0 rfl 0 (by decide) tyX12_ok nmX12 dX12_mended_2 5 rfl wmf_X12_180 rfl rfl rfl (Nat.le_of_ble_eq_true rfl) EQ_0_0 h (fun a2 h => ?_)
  refine x_aload_n C dX12_mended_5 6 rfl 0 rfl ?_
  refine x_aload_n C dX12_mended_6 7 rfl 0 rfl ?_
  refine x_iload_n C dX12_mended_7 8 rfl 1 rfl ?_
  obtain ⟨r8, a8, hq, h⟩ := xb_some h
  refine x_callVi C 0 (c_X12_isToken C.2.2.2.2.2.2.1 hq) lm0 EM_0 rfl wml_X12_368 wq_X12_isToken rfl ⟨by decide, by decide⟩ rfl rfl ⟨by decide, by decide⟩ dX12_mended_8 11 rfl rfl (Nat.le_of_ble_eq_true rfl) ?_
  refine x_if_ne C dX12_mended_11 14 rfl 18 rfl h (fun h => ?_) (fun h => ?_)
  · refine x_iconst C dX12_mended_18 19 rfl 0 rfl ?_
    exact b_X12_mended_19 C  h
  · refine x_iconst C dX12_mended_14 15 rfl 1 rfl ?_
    refine x_goto C dX12_mended_15 19 rfl ?_
    exact b_X12_mended_19 C  h
abbrev rm_X12_laysWay : Room := { frames := 4, cells := 0, slots := 0, locals := 98 }
theorem wq_X12_laysWay : xcV RX12 yX12_laysWay cX12_laysWay 6 (some .boolean) 1 := ⟨wmi_X12_laysWay, wms_X12_laysWay, wmn_X12, wmc_X12_laysWay, by decide, by decide, by decide +kernel⟩
def F_X12_laysWay_124 (N : Nat) (k39 : AH → Int32 → Int32 → Option (Int32 × AH)) (k50 : AH → Int32 → Int32 → Int32 → Option (Int32 × AH)) (ah : AH) (v2 : Int32) (v3 : Int32) (v4 : Int32) : Option (Int32 × AH) := xlet (v4 + 1) (fun v4_124 => k50 ah v2 v3 v4_124)
def F_X12_laysWay_50 (N : Nat) (k39 : AH → Int32 → Int32 → Option (Int32 × AH)) : Nat → AH → Int32 → Int32 → Int32 → Option (Int32 × AH)
  | 0, _, _, _, _ => none
  | n + 1, ah, v2, v3, v4 => xg v2 48 (xg v4 60 (xlet (2423 + ((Int32.toNatClampNeg v2) * 60 + Int32.toNatClampNeg v4)) (fun x59 => xb (F_X12_fits N ah x59 (ah 0 50) v3) (fun r65 a65 => if r65 = 0 then F_X12_laysWay_124 N k39 (F_X12_laysWay_50 N k39 n) a65 v2 v3 v4 else xg v2 48 (xg v4 60 (xlet (2423 + ((Int32.toNatClampNeg v2) * 60 + Int32.toNatClampNeg v4)) (fun x79 => xg v2 48 (xg v4 60 (xlet (2423 + ((Int32.toNatClampNeg v2) * 60 + Int32.toNatClampNeg v4)) (fun x94 => xg (a65 x94 0) 49 (xlet (5303 + (Int32.toNatClampNeg (a65 x94 0))) (fun x97 => xg v2 48 (xg v4 60 (xlet (2423 + ((Int32.toNatClampNeg v2) * 60 + Int32.toNatClampNeg v4)) (fun x107 => xg (v3 + (a65 x107 2)) 13 (xg v2 49 (xlet (5303 + (Int32.toNatClampNeg v2)) (fun x118 => xg v3 13 (if ((a65 x79 1) + (a65 x97 (Int32.toNatClampNeg (v3 + (a65 x107 2))))) = (a65 x118 (Int32.toNatClampNeg v3)) then xg (a65 0 53) 24 (xlet (xu a65 36 (Int32.toNatClampNeg (a65 0 53)) v2) (fun a139 => xg (a139 0 53) 24 (xlet (xu a139 37 (Int32.toNatClampNeg (a139 0 53)) v4) (fun a150 => xlet (xu a150 0 53 ((a150 0 53) + 1)) (fun a158 => xg v2 48 (xg v4 60 (xlet (2423 + ((Int32.toNatClampNeg v2) * 60 + Int32.toNatClampNeg v4)) (fun x169 => xlet (a158 x169 0) (fun v2_176 => xlet (v3 + (a158 x169 2)) (fun v3_183 => k39 a158 v2_176 v3_183)))))))))) else F_X12_laysWay_124 N k39 (F_X12_laysWay_50 N k39 n) a65 v2 v3 v4)))))))))))))))))))
def F_X12_laysWay_39 (N : Nat) : Nat → AH → Int32 → Int32 → Option (Int32 × AH)
  | 0, _, _, _ => none
  | n + 1, ah, v2, v3 => if (ah 0 33) ≤ v2 then some (1, ah) else xlet 0 (fun v4_48 => F_X12_laysWay_50 N (F_X12_laysWay_39 N n) N ah v2 v3 v4_48)
def F_X12_laysWay (N : Nat) (ah : AH) (p1 : Int32) : Option (Int32 × AH) := xbv (F_X12_laysToken N ah p1 0) (fun a3 => xbv (F_X12_mends N a3 1) (fun a8 => xlet (xu a8 0 53 0) (fun a13 => if (a13 0 50) = ((-1)) then some (0, a13) else xb (F_X12_spells N a13 (a13 0 50)) (fun r31 a31 => xlet 0 (fun v2_36 => xlet 0 (fun v3_38 => F_X12_laysWay_39 N N a31 v2_36 v3_38))))))
theorem b_X12_laysWay_124 (C : XC p l s m args meth c cX12_laysWay 6 (some .boolean) RX12 D vwCl (tysM ca) (EM ad ca) NCM ad) {N : Nat} {o : (Int32 × AH)} {k39 : AH → Int32 → Int32 → Option (Int32 × AH)} (hk39 : ∀ (ah : AH) (v2 : Int32) (v3 : Int32), k39 ah v2 v3 = some o → XW p l e rm_X12_laysWay s m args below meth c 6 0 (xQi below args s D vwCl (tysM ca) (EM ad ca) NCM ad o) D vwCl (EM ad ca) NCM ad ah 39 [(0, .ref (ad 0)), (2, .int v2), (3, .int v3)] []) {k50 : AH → Int32 → Int32 → Int32 → Option (Int32 × AH)} (hk50 : ∀ (ah : AH) (v2 : Int32) (v3 : Int32) (v4 : Int32), k50 ah v2 v3 v4 = some o → XW p l e rm_X12_laysWay s m args below meth c 6 0 (xQi below args s D vwCl (tysM ca) (EM ad ca) NCM ad o) D vwCl (EM ad ca) NCM ad ah 50 [(0, .ref (ad 0)), (2, .int v2), (3, .int v3), (4, .int v4)] []) {ah : AH} {v2 : Int32} {v3 : Int32} {v4 : Int32} (h : F_X12_laysWay_124 N k39 k50 ah v2 v3 v4 = some o) : XW p l e rm_X12_laysWay s m args below meth c 6 0 (xQi below args s D vwCl (tysM ca) (EM ad ca) NCM ad o) D vwCl (EM ad ca) NCM ad ah 124 [(0, .ref (ad 0)), (2, .int v2), (3, .int v3), (4, .int v4)] [] := by
  unfold F_X12_laysWay_124 at h
  refine x_iinc C dX12_laysWay_124 127 rfl 3 rfl (d := 1) rfl (by decide) (fun v4_124 => [(4, .int v4_124), (0, .ref (ad 0)), (2, .int v2), (3, .int v3)]) (fun _ => rfl) h (fun v4_124 h => ?_)
  refine x_goto C dX12_laysWay_127 50 rfl ?_
  exact x_sub [1, 2, 3, 0] rfl (hk50 _ _ _ _ h)
theorem b_X12_laysWay_50 (C : XC p l s m args meth c cX12_laysWay 6 (some .boolean) RX12 D vwCl (tysM ca) (EM ad ca) NCM ad) {N : Nat} {o : (Int32 × AH)} {k39 : AH → Int32 → Int32 → Option (Int32 × AH)} (hk39 : ∀ (ah : AH) (v2 : Int32) (v3 : Int32), k39 ah v2 v3 = some o → XW p l e rm_X12_laysWay s m args below meth c 6 0 (xQi below args s D vwCl (tysM ca) (EM ad ca) NCM ad o) D vwCl (EM ad ca) NCM ad ah 39 [(0, .ref (ad 0)), (2, .int v2), (3, .int v3)] []) : ∀ (n : Nat) {ah : AH} {v2 : Int32} {v3 : Int32} {v4 : Int32}, F_X12_laysWay_50 N k39 n ah v2 v3 v4 = some o → XW p l e rm_X12_laysWay s m args below meth c 6 0 (xQi below args s D vwCl (tysM ca) (EM ad ca) NCM ad o) D vwCl (EM ad ca) NCM ad ah 50 [(0, .ref (ad 0)), (2, .int v2), (3, .int v3), (4, .int v4)] [] := by
  intro n
  induction n with
  | zero => intro ah v2 v3 v4 h; unfold F_X12_laysWay_50 at h; cases h
  | succ n ih =>
    intro ah v2 v3 v4 h
    unfold F_X12_laysWay_50 at h
    refine x_aload_n C dX12_laysWay_50 51 rfl 0 rfl ?_
    refine x_aload_n C dX12_laysWay_51 52 rfl 0 rfl ?_
    refine x_get C inX12 0 lm0 EM_0 rfl 37 (by decide) dX12_laysWay_52 55 rfl wmf_X12_101 rfl ?_
    refine x_iload_n C dX12_laysWay_55 56 rfl 1 rfl ?_
    refine x_aald C (27) lm27 EM_27 3 rfl rfl dX12_laysWay_56 57 rfl (2375 + (Int32.toNatClampNeg v2)) rfl h (fun hb56 h => ?_)
    refine x_iload C dX12_laysWay_57 59 rfl 3 rfl ?_
    refine x_aaldL C (2375 + (Int32.toNatClampNeg v2)) (lm_edge_1 hb56) (EM_edge_1 hb56) 2 rfl rfl dX12_laysWay_59 60 rfl (2423 + ((Int32.toNatClampNeg v2) * 60 + Int32.toNatClampNeg v4)) rfl h (fun x59 ex59 hb59 h => ?_)
    have hx59 : mI x59 7 := ex59 ▸ mI_edge (xfl hb56 hb59)
    refine x_aload_n C dX12_laysWay_60 61 rfl 0 rfl ?_
    refine x_get C inX12 0 lm0 EM_0 rfl 50 (by decide) dX12_laysWay_61 64 rfl wmf_X12_396 rfl ?_
    refine x_iload_n C dX12_laysWay_64 65 rfl 2 rfl ?_
    obtain ⟨r65, a65, hq, h⟩ := xb_some h
    refine x_callVi C 0 (c_X12_fits C.2.2.2.2.2.2.1 hx59 hq) lm0 EM_0 rfl wml_X12_334 wq_X12_fits rfl ⟨by decide, by decide⟩ rfl rfl ⟨by decide, by decide⟩ dX12_laysWay_65 68 rfl rfl (Nat.le_of_ble_eq_true rfl) ?_
    refine x_if_eq C dX12_laysWay_68 71 rfl 124 rfl h (fun h => ?_) (fun h => ?_)
    · exact b_X12_laysWay_124 C hk39 (fun _ _ _ _ h => ih h) h
    · refine x_aload_n C dX12_laysWay_71 72 rfl 0 rfl ?_
      refine x_get C inX12 0 lm0 EM_0 rfl 37 (by decide) dX12_laysWay_72 75 rfl wmf_X12_101 rfl ?_
      refine x_iload_n C dX12_laysWay_75 76 rfl 1 rfl ?_
      refine x_aald C (27) lm27 EM_27 3 rfl rfl dX12_laysWay_76 77 rfl (2375 + (Int32.toNatClampNeg v2)) rfl h (fun hb76 h => ?_)
      refine x_iload C dX12_laysWay_77 79 rfl 3 rfl ?_
      refine x_aaldL C (2375 + (Int32.toNatClampNeg v2)) (lm_edge_1 hb76) (EM_edge_1 hb76) 2 rfl rfl dX12_laysWay_79 80 rfl (2423 + ((Int32.toNatClampNeg v2) * 60 + Int32.toNatClampNeg v4)) rfl h (fun x79 ex79 hb79 h => ?_)
      have hx79 : mI x79 7 := ex79 ▸ mI_edge (xfl hb76 hb79)
      refine x_iconst C dX12_laysWay_80 81 rfl 1 rfl ?_
      refine x_ialdK C x79 hx79.1 (hx79.2 _ _ _) 0 rfl dX12_laysWay_81 82 rfl (by decide) 1 (by decide) ?_
      refine x_aload_n C dX12_laysWay_82 83 rfl 0 rfl ?_
      refine x_get C inX12 0 lm0 EM_0 rfl 38 (by decide) dX12_laysWay_83 86 rfl wmf_X12_104 rfl ?_
      refine x_aload_n C dX12_laysWay_86 87 rfl 0 rfl ?_
      refine x_get C inX12 0 lm0 EM_0 rfl 37 (by decide) dX12_laysWay_87 90 rfl wmf_X12_101 rfl ?_
      refine x_iload_n C dX12_laysWay_90 91 rfl 1 rfl ?_
      refine x_aald C (27) lm27 EM_27 3 rfl rfl dX12_laysWay_91 92 rfl (2375 + (Int32.toNatClampNeg v2)) rfl h (fun hb91 h => ?_)
      refine x_iload C dX12_laysWay_92 94 rfl 3 rfl ?_
      refine x_aaldL C (2375 + (Int32.toNatClampNeg v2)) (lm_edge_1 hb91) (EM_edge_1 hb91) 2 rfl rfl dX12_laysWay_94 95 rfl (2423 + ((Int32.toNatClampNeg v2) * 60 + Int32.toNatClampNeg v4)) rfl h (fun x94 ex94 hb94 h => ?_)
      have hx94 : mI x94 7 := ex94 ▸ mI_edge (xfl hb91 hb94)
      refine x_iconst C dX12_laysWay_95 96 rfl 0 rfl ?_
      refine x_ialdK C x94 hx94.1 (hx94.2 _ _ _) 0 rfl dX12_laysWay_96 97 rfl (by decide) 0 (by decide) ?_
      refine x_aaldL C (28) lm28 EM_28 2 rfl rfl dX12_laysWay_97 98 rfl (5303 + (Int32.toNatClampNeg (a65 x94 0))) rfl h (fun x97 ex97 hb97 h => ?_)
      have hx97 : mI x97 13 := ex97 ▸ mI_cost hb97
      refine x_iload_n C dX12_laysWay_98 99 rfl 2 rfl ?_
      refine x_aload_n C dX12_laysWay_99 100 rfl 0 rfl ?_
      refine x_get C inX12 0 lm0 EM_0 rfl 37 (by decide) dX12_laysWay_100 103 rfl wmf_X12_101 rfl ?_
      refine x_iload_n C dX12_laysWay_103 104 rfl 1 rfl ?_
      refine x_aald C (27) lm27 EM_27 3 rfl rfl dX12_laysWay_104 105 rfl (2375 + (Int32.toNatClampNeg v2)) rfl h (fun hb104 h => ?_)
      refine x_iload C dX12_laysWay_105 107 rfl 3 rfl ?_
      refine x_aaldL C (2375 + (Int32.toNatClampNeg v2)) (lm_edge_1 hb104) (EM_edge_1 hb104) 2 rfl rfl dX12_laysWay_107 108 rfl (2423 + ((Int32.toNatClampNeg v2) * 60 + Int32.toNatClampNeg v4)) rfl h (fun x107 ex107 hb107 h => ?_)
      have hx107 : mI x107 7 := ex107 ▸ mI_edge (xfl hb104 hb107)
      refine x_iconst C dX12_laysWay_108 109 rfl 2 rfl ?_
      refine x_ialdK C x107 hx107.1 (hx107.2 _ _ _) 0 rfl dX12_laysWay_109 110 rfl (by decide) 2 (by decide) ?_
      refine x_iadd C dX12_laysWay_110 111 rfl ?_
      refine x_iald C x97 hx97.1 (hx97.2 _ _ _) 0 rfl dX12_laysWay_111 112 rfl h (fun h => ?_)
      refine x_iadd C dX12_laysWay_112 113 rfl ?_
      refine x_aload_n C dX12_laysWay_113 114 rfl 0 rfl ?_
      refine x_get C inX12 0 lm0 EM_0 rfl 38 (by decide) dX12_laysWay_114 117 rfl wmf_X12_104 rfl ?_
      refine x_iload_n C dX12_laysWay_117 118 rfl 1 rfl ?_
      refine x_aaldL C (28) lm28 EM_28 2 rfl rfl dX12_laysWay_118 119 rfl (5303 + (Int32.toNatClampNeg v2)) rfl h (fun x118 ex118 hb118 h => ?_)
      have hx118 : mI x118 13 := ex118 ▸ mI_cost hb118
      refine x_iload_n C dX12_laysWay_119 120 rfl 2 rfl ?_
      refine x_iald C x118 hx118.1 (hx118.2 _ _ _) 0 rfl dX12_laysWay_120 121 rfl h (fun h => ?_)
      refine x_icmp_eq C dX12_laysWay_121 124 rfl 130 rfl h (fun h => ?_) (fun h => ?_)
      · refine x_aload_n C dX12_laysWay_130 131 rfl 0 rfl ?_
        refine x_get C inX12 0 lm0 EM_0 rfl 54 (by decide) dX12_laysWay_131 134 rfl wmf_X12_128 rfl ?_
        refine x_aload_n C dX12_laysWay_134 135 rfl 0 rfl ?_
        refine x_get C inX12 0 lm0 EM_0 rfl 53 (by decide) dX12_laysWay_135 138 rfl wmf_X12_408 rfl ?_
        refine x_iload_n C dX12_laysWay_138 139 rfl 1 rfl ?_
        refine x_iast C 36 lm36 (fun _ => EM_36) 0 rfl dX12_laysWay_139 140 rfl h (fun a139 h => ?_)
        refine x_aload_n C dX12_laysWay_140 141 rfl 0 rfl ?_
        refine x_get C inX12 0 lm0 EM_0 rfl 55 (by decide) dX12_laysWay_141 144 rfl wmf_X12_131 rfl ?_
        refine x_aload_n C dX12_laysWay_144 145 rfl 0 rfl ?_
        refine x_get C inX12 0 lm0 EM_0 rfl 53 (by decide) dX12_laysWay_145 148 rfl wmf_X12_408 rfl ?_
        refine x_iload C dX12_laysWay_148 150 rfl 3 rfl ?_
        refine x_iast C 37 lm37 (fun _ => EM_37) 0 rfl dX12_laysWay_150 151 rfl h (fun a150 h => ?_)
        refine x_aload_n C dX12_laysWay_151 152 rfl 0 rfl ?_
        refine x_dup C dX12_laysWay_152 153 rfl rfl ?_
        refine x_get C inX12 0 lm0 EM_0 rfl 53 (by decide) dX12_laysWay_153 156 rfl wmf_X12_408 rfl ?_
        refine x_iconst C dX12_laysWay_156 157 rfl 1 rfl ?_
        refine x_iadd C dX12_laysWay_157 158 rfl ?_
        refine x_put C inX12 0 lm0 EM_0 rfl 53 (by decide) tyX12_ok nmX12 dX12_laysWay_158 161 rfl wmf_X12_408 rfl rfl rfl (Nat.le_of_ble_eq_true rfl) EQ_0_53 h (fun a158 h => ?_)
        refine x_aload_n C dX12_laysWay_161 162 rfl 0 rfl ?_
        refine x_get C inX12 0 lm0 EM_0 rfl 37 (by decide) dX12_laysWay_162 165 rfl wmf_X12_101 rfl ?_
        refine x_iload_n C dX12_laysWay_165 166 rfl 1 rfl ?_
        refine x_aald C (27) lm27 EM_27 3 rfl rfl dX12_laysWay_166 167 rfl (2375 + (Int32.toNatClampNeg v2)) rfl h (fun hb166 h => ?_)
        refine x_iload C dX12_laysWay_167 169 rfl 3 rfl ?_
        refine x_aaldL C (2375 + (Int32.toNatClampNeg v2)) (lm_edge_1 hb166) (EM_edge_1 hb166) 2 rfl rfl dX12_laysWay_169 170 rfl (2423 + ((Int32.toNatClampNeg v2) * 60 + Int32.toNatClampNeg v4)) rfl h (fun x169 ex169 hb169 h => ?_)
        have hx169 : mI x169 7 := ex169 ▸ mI_edge (xfl hb166 hb169)
        refine x_astore C dX12_laysWay_170 172 rfl (by decide) [(5, .ref (ad x169)), (0, .ref (ad 0)), (2, .int v2), (3, .int v3), (4, .int v4)] rfl ?_
        refine x_aload C dX12_laysWay_172 174 rfl 0 rfl ?_
        refine x_iconst C dX12_laysWay_174 175 rfl 0 rfl ?_
        refine x_ialdK C x169 hx169.1 (hx169.2 _ _ _) 0 rfl dX12_laysWay_175 176 rfl (by decide) 0 (by decide) ?_
        refine x_istore_n C dX12_laysWay_176 177 rfl (by decide) (fun v2_176 => [(2, .int v2_176), (5, .ref (ad x169)), (0, .ref (ad 0)), (3, .int v3), (4, .int v4)]) (fun _ => rfl) h (fun v2_176 h => ?_)
        refine x_iload_n C dX12_laysWay_177 178 rfl 3 rfl ?_
        refine x_aload C dX12_laysWay_178 180 rfl 1 rfl ?_
        refine x_iconst C dX12_laysWay_180 181 rfl 2 rfl ?_
        refine x_ialdK C x169 hx169.1 (hx169.2 _ _ _) 0 rfl dX12_laysWay_181 182 rfl (by decide) 2 (by decide) ?_
        refine x_iadd C dX12_laysWay_182 183 rfl ?_
        refine x_istore_n C dX12_laysWay_183 184 rfl (by decide) (fun v3_183 => [(3, .int v3_183), (2, .int v2_176), (5, .ref (ad x169)), (0, .ref (ad 0)), (4, .int v4)]) (fun _ => rfl) h (fun v3_183 h => ?_)
        refine x_goto C dX12_laysWay_184 39 rfl ?_
        exact x_sub [3, 1, 0] rfl (hk39 _ _ _ h)
      · exact b_X12_laysWay_124 C hk39 (fun _ _ _ _ h => ih h) h
theorem b_X12_laysWay_39 (C : XC p l s m args meth c cX12_laysWay 6 (some .boolean) RX12 D vwCl (tysM ca) (EM ad ca) NCM ad) {N : Nat} {o : (Int32 × AH)} : ∀ (n : Nat) {ah : AH} {v2 : Int32} {v3 : Int32}, F_X12_laysWay_39 N n ah v2 v3 = some o → XW p l e rm_X12_laysWay s m args below meth c 6 0 (xQi below args s D vwCl (tysM ca) (EM ad ca) NCM ad o) D vwCl (EM ad ca) NCM ad ah 39 [(0, .ref (ad 0)), (2, .int v2), (3, .int v3)] [] := by
  intro n
  induction n with
  | zero => intro ah v2 v3 h; unfold F_X12_laysWay_39 at h; cases h
  | succ n ih =>
    intro ah v2 v3 h
    unfold F_X12_laysWay_39 at h
    refine x_iload_n C dX12_laysWay_39 40 rfl 1 rfl ?_
    refine x_aload_n C dX12_laysWay_40 41 rfl 0 rfl ?_
    refine x_get C inX12 0 lm0 EM_0 rfl 33 (by decide) dX12_laysWay_41 44 rfl wmf_X12_314 rfl ?_
    refine x_icmp_ge C dX12_laysWay_44 47 rfl 187 rfl h (fun h => ?_) (fun h => ?_)
    · refine x_iconst C dX12_laysWay_187 188 rfl 1 rfl ?_
      exact x_zret C rfl dX12_laysWay_188 (by decide) h
    · refine x_iconst C dX12_laysWay_47 48 rfl 0 rfl ?_
      refine x_istore C dX12_laysWay_48 50 rfl (by decide) (fun v4_48 => [(4, .int v4_48), (0, .ref (ad 0)), (2, .int v2), (3, .int v3)]) (fun _ => rfl) h (fun v4_48 h => ?_)
      exact x_sub [1, 2, 3, 0] rfl (b_X12_laysWay_50 C (fun _ _ _ h => ih h) N h)
theorem c_X12_laysWay {l : Launch} {D : va_G} {ca : Nat → ClassId} {ad : Nat → Nat} (hI : xInj ad NCM) {N : Nat} {ah : AH} {p1 : Int32} {r : Int32} {a : AH} (h : F_X12_laysWay N ah p1 = some (r, a)) : xMi l yX12_laysWay cX12_laysWay 6 (some .boolean) rm_X12_laysWay D vwCl (tysM ca) (EM ad ca) NCM ad [.ref (ad 0), .int p1] ah (r, a) := by
  refine x_meti (by decide) (Nat.le_of_ble_eq_true rfl) hI EM_loc ?_
  intro p e s m args below meth c C
  unfold F_X12_laysWay at h
  refine x_aload_n C dX12_laysWay_0 1 rfl 0 rfl ?_
  refine x_iload_n C dX12_laysWay_1 2 rfl 1 rfl ?_
  refine x_iconst C dX12_laysWay_2 3 rfl 0 rfl ?_
  obtain ⟨a3, hq, h⟩ := xbv_some h
  refine x_callVv C 0 (c_X12_laysToken C.2.2.2.2.2.2.1 hq) lm0 EM_0 rfl wml_X12_371 wq_X12_laysToken rfl ⟨by decide, by decide⟩ rfl rfl ⟨by decide, by decide⟩ dX12_laysWay_3 6 rfl rfl (Nat.le_of_ble_eq_true rfl) ?_
  refine x_aload_n C dX12_laysWay_6 7 rfl 0 rfl ?_
  refine x_iconst C dX12_laysWay_7 8 rfl 1 rfl ?_
  obtain ⟨a8, hq, h⟩ := xbv_some h
  refine x_callVv C 0 (c_X12_mends C.2.2.2.2.2.2.1 hq) lm0 EM_0 rfl wml_X12_405 wq_X12_mends rfl ⟨by decide, by decide⟩ rfl rfl ⟨by decide, by decide⟩ dX12_laysWay_8 11 rfl rfl (Nat.le_of_ble_eq_true rfl) ?_
  refine x_aload_n C dX12_laysWay_11 12 rfl 0 rfl ?_
  refine x_iconst C dX12_laysWay_12 13 rfl 0 rfl ?_
  refine x_put C inX12 0 lm0 EM_0 rfl 53 (by decide) tyX12_ok nmX12 dX12_laysWay_13 16 rfl wmf_X12_408 rfl rfl rfl (Nat.le_of_ble_eq_true rfl) EQ_0_53 h (fun a13 h => ?_)
  refine x_aload_n C dX12_laysWay_16 17 rfl 0 rfl ?_
  refine x_get C inX12 0 lm0 EM_0 rfl 50 (by decide) dX12_laysWay_17 20 rfl wmf_X12_396 rfl ?_
  refine x_iconst C dX12_laysWay_20 21 rfl (-1) rfl ?_
  refine x_icmp_ne C dX12_laysWay_21 24 rfl 26 rfl h (fun h => ?_) (fun h => ?_)
  · refine x_aload_n C dX12_laysWay_26 27 rfl 0 rfl ?_
    refine x_aload_n C dX12_laysWay_27 28 rfl 0 rfl ?_
    refine x_get C inX12 0 lm0 EM_0 rfl 50 (by decide) dX12_laysWay_28 31 rfl wmf_X12_396 rfl ?_
    obtain ⟨r31, a31, hq, h⟩ := xb_some h
    refine x_callVi C 0 (c_X12_spells C.2.2.2.2.2.2.1 hq) lm0 EM_0 rfl wml_X12_390 wq_X12_spells rfl ⟨by decide, by decide⟩ rfl rfl ⟨by decide, by decide⟩ dX12_laysWay_31 34 rfl rfl (Nat.le_of_ble_eq_true rfl) ?_
    refine x_pop C dX12_laysWay_34 35 rfl rfl ?_
    refine x_iconst C dX12_laysWay_35 36 rfl 0 rfl ?_
    refine x_istore_n C dX12_laysWay_36 37 rfl (by decide) (fun v2_36 => [(2, .int v2_36), (0, .ref (ad 0)), (1, .int p1)]) (fun _ => rfl) h (fun v2_36 h => ?_)
    refine x_iconst C dX12_laysWay_37 38 rfl 0 rfl ?_
    refine x_istore_n C dX12_laysWay_38 39 rfl (by decide) (fun v3_38 => [(3, .int v3_38), (2, .int v2_36), (0, .ref (ad 0)), (1, .int p1)]) (fun _ => rfl) h (fun v3_38 h => ?_)
    exact x_sub [2, 1, 0] rfl (b_X12_laysWay_39 C  N h)
  · refine x_iconst C dX12_laysWay_24 25 rfl 0 rfl ?_
    exact x_zret C rfl dX12_laysWay_25 (by decide) h
abbrev rm_X12_way : Room := { frames := 5, cells := 0, slots := 0, locals := 123 }
theorem wq_X12_way : xcV RX12 yX12_way cX12_way 3 (some .int) 2 := ⟨wmi_X12_way, wms_X12_way, wmn_X12, wmc_X12_way, by decide, by decide, by decide +kernel⟩
def F_X12_way_42 (N : Nat) (ah : AH) (v1 : Int32) (v2 : Int32) (s1 : Int32) : Option (Int32 × AH) := xb (F_X12_bad N ah s1 2 1) (fun r44 a44 => if r44 = 0 then xb (F_X12_laysWay N a44 v1) (fun r54 a54 => if r54 = 0 then some ((-1), a54) else if v2 = 0 then some (a54 0 53, a54) else xlet (5303 + 0) (fun x78 => some (a54 x78 0, a54))) else some (0, a44))
def F_X12_way_19 (N : Nat) (ah : AH) (v1 : Int32) (v2 : Int32) (s1 : Int32) : Option (Int32 × AH) := xb (F_X12_bad N ah s1 1 0) (fun r21 a21 => if r21 = 0 then xb (F_X12_in N a21 v2 0 1) (fun r31 a31 => if r31 = 0 then F_X12_way_42 N a31 v1 v2 1 else F_X12_way_42 N a31 v1 v2 0) else some (0, a21))
def F_X12_way (N : Nat) (ah : AH) (p1 : Int32) (p2 : Int32) : Option (Int32 × AH) := xlet (xu ah 0 0 0) (fun a2 => xb (F_X12_isToken N a2 p1) (fun r8 a8 => if r8 = 0 then F_X12_way_19 N a8 p1 p2 1 else F_X12_way_19 N a8 p1 p2 0))
theorem b_X12_way_42 (C : XC p l s m args meth c cX12_way 3 (some .int) RX12 D vwCl (tysM ca) (EM ad ca) NCM ad) {N : Nat} {o : (Int32 × AH)} {ah : AH} {v1 : Int32} {v2 : Int32} {s1 : Int32} (h : F_X12_way_42 N ah v1 v2 s1 = some o) : XW p l e rm_X12_way s m args below meth c 3 0 (xQi below args s D vwCl (tysM ca) (EM ad ca) NCM ad o) D vwCl (EM ad ca) NCM ad ah 42 [(0, .ref (ad 0)), (1, .int v1), (2, .int v2)] [.int s1, .ref (ad 0)] := by
  unfold F_X12_way_42 at h
  refine x_iconst C dX12_way_42 43 rfl 2 rfl ?_
  refine x_iconst C dX12_way_43 44 rfl 1 rfl ?_
  obtain ⟨r44, a44, hq, h⟩ := xb_some h
  refine x_callVi C 0 (c_X12_bad C.2.2.2.2.2.2.1 hq) lm0 EM_0 rfl wml_X12_249 wq_X12_bad rfl ⟨by decide, by decide⟩ rfl rfl ⟨by decide, by decide⟩ dX12_way_44 47 rfl rfl (Nat.le_of_ble_eq_true rfl) ?_
  refine x_if_eq C dX12_way_47 50 rfl 52 rfl h (fun h => ?_) (fun h => ?_)
  · refine x_aload_n C dX12_way_52 53 rfl 0 rfl ?_
    refine x_iload_n C dX12_way_53 54 rfl 1 rfl ?_
    obtain ⟨r54, a54, hq, h⟩ := xb_some h
    refine x_callVi C 0 (c_X12_laysWay C.2.2.2.2.2.2.1 hq) lm0 EM_0 rfl wml_X12_411 wq_X12_laysWay rfl ⟨by decide, by decide⟩ rfl rfl ⟨by decide, by decide⟩ dX12_way_54 57 rfl rfl (Nat.le_of_ble_eq_true rfl) ?_
    refine x_if_ne C dX12_way_57 60 rfl 62 rfl h (fun h => ?_) (fun h => ?_)
    · refine x_iload_n C dX12_way_62 63 rfl 2 rfl ?_
      refine x_if_ne C dX12_way_63 66 rfl 73 rfl h (fun h => ?_) (fun h => ?_)
      · refine x_aload_n C dX12_way_73 74 rfl 0 rfl ?_
        refine x_get C inX12 0 lm0 EM_0 rfl 38 (by decide) dX12_way_74 77 rfl wmf_X12_104 rfl ?_
        refine x_iconst C dX12_way_77 78 rfl 0 rfl ?_
        refine x_aaldLK C (28) lm28 EM_28 2 rfl rfl (by decide) 0 (by decide) dX12_way_78 79 rfl (5303 + 0) rfl h (fun x78 ex78 h => ?_)
        have hx78 : mI x78 13 := ex78 ▸ mI_cost (show 0 < 49 by decide)
        refine x_iconst C dX12_way_79 80 rfl 0 rfl ?_
        refine x_ialdK C x78 hx78.1 (hx78.2 _ _ _) 0 rfl dX12_way_80 81 rfl (by decide) 0 (by decide) ?_
        exact x_iret C rfl dX12_way_81 h
      · refine x_aload_n C dX12_way_66 67 rfl 0 rfl ?_
        refine x_get C inX12 0 lm0 EM_0 rfl 53 (by decide) dX12_way_67 70 rfl wmf_X12_408 rfl ?_
        refine x_goto C dX12_way_70 81 rfl ?_
        exact x_iret C rfl dX12_way_81 h
    · refine x_iconst C dX12_way_60 61 rfl (-1) rfl ?_
      exact x_iret C rfl dX12_way_61 h
  · refine x_iconst C dX12_way_50 51 rfl 0 rfl ?_
    exact x_iret C rfl dX12_way_51 h
theorem b_X12_way_19 (C : XC p l s m args meth c cX12_way 3 (some .int) RX12 D vwCl (tysM ca) (EM ad ca) NCM ad) {N : Nat} {o : (Int32 × AH)} {ah : AH} {v1 : Int32} {v2 : Int32} {s1 : Int32} (h : F_X12_way_19 N ah v1 v2 s1 = some o) : XW p l e rm_X12_way s m args below meth c 3 0 (xQi below args s D vwCl (tysM ca) (EM ad ca) NCM ad o) D vwCl (EM ad ca) NCM ad ah 19 [(0, .ref (ad 0)), (1, .int v1), (2, .int v2)] [.int s1, .ref (ad 0)] := by
  unfold F_X12_way_19 at h
  refine x_iconst C dX12_way_19 20 rfl 1 rfl ?_
  refine x_iconst C dX12_way_20 21 rfl 0 rfl ?_
  obtain ⟨r21, a21, hq, h⟩ := xb_some h
  refine x_callVi C 0 (c_X12_bad C.2.2.2.2.2.2.1 hq) lm0 EM_0 rfl wml_X12_249 wq_X12_bad rfl ⟨by decide, by decide⟩ rfl rfl ⟨by decide, by decide⟩ dX12_way_21 24 rfl rfl (Nat.le_of_ble_eq_true rfl) ?_
  refine x_if_ne C dX12_way_24 27 rfl 50 rfl h (fun h => ?_) (fun h => ?_)
  · refine x_iconst C dX12_way_50 51 rfl 0 rfl ?_
    exact x_iret C rfl dX12_way_51 h
  · refine x_aload_n C dX12_way_27 28 rfl 0 rfl ?_
    refine x_iload_n C dX12_way_28 29 rfl 2 rfl ?_
    refine x_iconst C dX12_way_29 30 rfl 0 rfl ?_
    refine x_iconst C dX12_way_30 31 rfl 1 rfl ?_
    obtain ⟨r31, a31, hq, h⟩ := xb_some h
    refine x_callSi C (c_X12_in C.2.2.2.2.2.2.1 hq) wml_X12_223 wq_X12_in rfl ⟨by decide, by decide⟩ rfl rfl ⟨by decide, by decide⟩ dX12_way_31 34 rfl rfl (Nat.le_of_ble_eq_true rfl) ?_
    refine x_if_ne C dX12_way_34 37 rfl 41 rfl h (fun h => ?_) (fun h => ?_)
    · refine x_iconst C dX12_way_41 42 rfl 0 rfl ?_
      exact b_X12_way_42 C  h
    · refine x_iconst C dX12_way_37 38 rfl 1 rfl ?_
      refine x_goto C dX12_way_38 42 rfl ?_
      exact b_X12_way_42 C  h
theorem c_X12_way {l : Launch} {D : va_G} {ca : Nat → ClassId} {ad : Nat → Nat} (hI : xInj ad NCM) {N : Nat} {ah : AH} {p1 : Int32} {p2 : Int32} {r : Int32} {a : AH} (h : F_X12_way N ah p1 p2 = some (r, a)) : xMi l yX12_way cX12_way 3 (some .int) rm_X12_way D vwCl (tysM ca) (EM ad ca) NCM ad [.ref (ad 0), .int p1, .int p2] ah (r, a) := by
  refine x_meti (by decide) (Nat.le_of_ble_eq_true rfl) hI EM_loc ?_
  intro p e s m args below meth c C
  unfold F_X12_way at h
  refine x_aload_n C dX12_way_0 1 rfl 0 rfl ?_
  refine x_iconst C dX12_way_1 2 rfl 0 rfl ?_
  refine x_put C inX12 0 lm0 EM_0 rfl 0 (by decide) tyX12_ok nmX12 dX12_way_2 5 rfl wmf_X12_180 rfl rfl rfl (Nat.le_of_ble_eq_true rfl) EQ_0_0 h (fun a2 h => ?_)
  refine x_aload_n C dX12_way_5 6 rfl 0 rfl ?_
  refine x_aload_n C dX12_way_6 7 rfl 0 rfl ?_
  refine x_iload_n C dX12_way_7 8 rfl 1 rfl ?_
  obtain ⟨r8, a8, hq, h⟩ := xb_some h
  refine x_callVi C 0 (c_X12_isToken C.2.2.2.2.2.2.1 hq) lm0 EM_0 rfl wml_X12_368 wq_X12_isToken rfl ⟨by decide, by decide⟩ rfl rfl ⟨by decide, by decide⟩ dX12_way_8 11 rfl rfl (Nat.le_of_ble_eq_true rfl) ?_
  refine x_if_ne C dX12_way_11 14 rfl 18 rfl h (fun h => ?_) (fun h => ?_)
  · refine x_iconst C dX12_way_18 19 rfl 0 rfl ?_
    exact b_X12_way_19 C  h
  · refine x_iconst C dX12_way_14 15 rfl 1 rfl ?_
    refine x_goto C dX12_way_15 19 rfl ?_
    exact b_X12_way_19 C  h
abbrev rm_X12_edge_ : Room := { frames := 5, cells := 0, slots := 0, locals := 123 }
theorem wq_X12_edge_ : xcV RX12 yX12_edge_ cX12_edge_ 6 (some .int) 3 := ⟨wmi_X12_edge_, wms_X12_edge_, wmn_X12, wmc_X12_edge_, by decide, by decide, by decide +kernel⟩
def F_X12_edge__71 (N : Nat) (ah : AH) (v2 : Int32) (v3 : Int32) (s1 : Int32) : Option (Int32 × AH) := xb (F_X12_bad N ah s1 2 1) (fun r73 a73 => if r73 = 0 then xg v2 24 (xg (a73 36 (Int32.toNatClampNeg v2)) 48 (xg v2 24 (xg (a73 37 (Int32.toNatClampNeg v2)) 60 (xlet (2423 + ((Int32.toNatClampNeg (a73 36 (Int32.toNatClampNeg v2))) * 60 + Int32.toNatClampNeg (a73 37 (Int32.toNatClampNeg v2)))) (fun x98 => if v3 = 0 then xg v2 24 (some (a73 36 (Int32.toNatClampNeg v2), a73)) else if v3 = 1 then some (a73 x98 0, a73) else if v3 = 2 then some (a73 x98 1, a73) else if v3 = 3 then some (a73 x98 2, a73) else some (a73 x98 6, a73)))))) else some (0, a73))
def F_X12_edge__48 (N : Nat) (ah : AH) (v2 : Int32) (v3 : Int32) (s1 : Int32) : Option (Int32 × AH) := xb (F_X12_bad N ah s1 1 0) (fun r50 a50 => if r50 = 0 then xb (F_X12_in N a50 v3 0 4) (fun r60 a60 => if r60 = 0 then F_X12_edge__71 N a60 v2 v3 1 else F_X12_edge__71 N a60 v2 v3 0) else some (0, a50))
def F_X12_edge__43 (N : Nat) (ah : AH) (v2 : Int32) (v3 : Int32) : Option (Int32 × AH) := F_X12_edge__48 N ah v2 v3 1
def F_X12_edge__23 (N : Nat) (ah : AH) (v2 : Int32) (v3 : Int32) (v4 : Int32) : Option (Int32 × AH) := if v4 = 0 then F_X12_edge__43 N ah v2 v3 else xb (F_X12_in N ah v2 0 ((ah 0 53) - 1)) (fun r37 a37 => if r37 = 0 then F_X12_edge__43 N a37 v2 v3 else F_X12_edge__48 N a37 v2 v3 0)
def F_X12_edge_ (N : Nat) (ah : AH) (p1 : Int32) (p2 : Int32) (p3 : Int32) : Option (Int32 × AH) := xlet (xu ah 0 0 0) (fun a2 => xb (F_X12_isToken N a2 p1) (fun r7 a7 => xlet r7 (fun v4_10 => if v4_10 = 0 then F_X12_edge__23 N a7 p2 p3 v4_10 else xb (F_X12_laysWay N a7 p1) (fun r19 a19 => F_X12_edge__23 N a19 p2 p3 v4_10))))
theorem b_X12_edge__71 (C : XC p l s m args meth c cX12_edge_ 6 (some .int) RX12 D vwCl (tysM ca) (EM ad ca) NCM ad) {N : Nat} {o : (Int32 × AH)} {ah : AH} {v2 : Int32} {v3 : Int32} {s1 : Int32} (h : F_X12_edge__71 N ah v2 v3 s1 = some o) : XW p l e rm_X12_edge_ s m args below meth c 6 0 (xQi below args s D vwCl (tysM ca) (EM ad ca) NCM ad o) D vwCl (EM ad ca) NCM ad ah 71 [(0, .ref (ad 0)), (2, .int v2), (3, .int v3)] [.int s1, .ref (ad 0)] := by
  unfold F_X12_edge__71 at h
  refine x_iconst C dX12_edge__71 72 rfl 2 rfl ?_
  refine x_iconst C dX12_edge__72 73 rfl 1 rfl ?_
  obtain ⟨r73, a73, hq, h⟩ := xb_some h
  refine x_callVi C 0 (c_X12_bad C.2.2.2.2.2.2.1 hq) lm0 EM_0 rfl wml_X12_249 wq_X12_bad rfl ⟨by decide, by decide⟩ rfl rfl ⟨by decide, by decide⟩ dX12_edge__73 76 rfl rfl (Nat.le_of_ble_eq_true rfl) ?_
  refine x_if_eq C dX12_edge__76 79 rfl 81 rfl h (fun h => ?_) (fun h => ?_)
  · refine x_aload_n C dX12_edge__81 82 rfl 0 rfl ?_
    refine x_get C inX12 0 lm0 EM_0 rfl 37 (by decide) dX12_edge__82 85 rfl wmf_X12_101 rfl ?_
    refine x_aload_n C dX12_edge__85 86 rfl 0 rfl ?_
    refine x_get C inX12 0 lm0 EM_0 rfl 54 (by decide) dX12_edge__86 89 rfl wmf_X12_128 rfl ?_
    refine x_iload_n C dX12_edge__89 90 rfl 1 rfl ?_
    refine x_iald C 36 lm36 EM_36 0 rfl dX12_edge__90 91 rfl h (fun h => ?_)
    refine x_aald C (27) lm27 EM_27 3 rfl rfl dX12_edge__91 92 rfl (2375 + (Int32.toNatClampNeg (a73 36 (Int32.toNatClampNeg v2)))) rfl h (fun hb91 h => ?_)
    refine x_aload_n C dX12_edge__92 93 rfl 0 rfl ?_
    refine x_get C inX12 0 lm0 EM_0 rfl 55 (by decide) dX12_edge__93 96 rfl wmf_X12_131 rfl ?_
    refine x_iload_n C dX12_edge__96 97 rfl 1 rfl ?_
    refine x_iald C 37 lm37 EM_37 0 rfl dX12_edge__97 98 rfl h (fun h => ?_)
    refine x_aaldL C (2375 + (Int32.toNatClampNeg (a73 36 (Int32.toNatClampNeg v2)))) (lm_edge_1 hb91) (EM_edge_1 hb91) 2 rfl rfl dX12_edge__98 99 rfl (2423 + ((Int32.toNatClampNeg (a73 36 (Int32.toNatClampNeg v2))) * 60 + Int32.toNatClampNeg (a73 37 (Int32.toNatClampNeg v2)))) rfl h (fun x98 ex98 hb98 h => ?_)
    have hx98 : mI x98 7 := ex98 ▸ mI_edge (xfl hb91 hb98)
    refine x_astore C dX12_edge__99 101 rfl (by decide) [(5, .ref (ad x98)), (0, .ref (ad 0)), (2, .int v2), (3, .int v3)] rfl ?_
    refine x_iload_n C dX12_edge__101 102 rfl 3 rfl ?_
    refine x_if_ne C dX12_edge__102 105 rfl 114 rfl h (fun h => ?_) (fun h => ?_)
    · refine x_iload_n C dX12_edge__114 115 rfl 3 rfl ?_
      refine x_iconst C dX12_edge__115 116 rfl 1 rfl ?_
      refine x_icmp_ne C dX12_edge__116 119 rfl 126 rfl h (fun h => ?_) (fun h => ?_)
      · refine x_iload_n C dX12_edge__126 127 rfl 3 rfl ?_
        refine x_iconst C dX12_edge__127 128 rfl 2 rfl ?_
        refine x_icmp_ne C dX12_edge__128 131 rfl 138 rfl h (fun h => ?_) (fun h => ?_)
        · refine x_iload_n C dX12_edge__138 139 rfl 3 rfl ?_
          refine x_iconst C dX12_edge__139 140 rfl 3 rfl ?_
          refine x_icmp_ne C dX12_edge__140 143 rfl 150 rfl h (fun h => ?_) (fun h => ?_)
          · refine x_aload C dX12_edge__150 152 rfl 0 rfl ?_
            refine x_bipush C dX12_edge__152 154 rfl 6 rfl ?_
            refine x_ialdK C x98 hx98.1 (hx98.2 _ _ _) 0 rfl dX12_edge__154 155 rfl (by decide) 6 (by decide) ?_
            exact x_iret C rfl dX12_edge__155 h
          · refine x_aload C dX12_edge__143 145 rfl 0 rfl ?_
            refine x_iconst C dX12_edge__145 146 rfl 2 rfl ?_
            refine x_ialdK C x98 hx98.1 (hx98.2 _ _ _) 0 rfl dX12_edge__146 147 rfl (by decide) 2 (by decide) ?_
            refine x_goto C dX12_edge__147 155 rfl ?_
            exact x_iret C rfl dX12_edge__155 h
        · refine x_aload C dX12_edge__131 133 rfl 0 rfl ?_
          refine x_iconst C dX12_edge__133 134 rfl 1 rfl ?_
          refine x_ialdK C x98 hx98.1 (hx98.2 _ _ _) 0 rfl dX12_edge__134 135 rfl (by decide) 1 (by decide) ?_
          refine x_goto C dX12_edge__135 155 rfl ?_
          exact x_iret C rfl dX12_edge__155 h
      · refine x_aload C dX12_edge__119 121 rfl 0 rfl ?_
        refine x_iconst C dX12_edge__121 122 rfl 0 rfl ?_
        refine x_ialdK C x98 hx98.1 (hx98.2 _ _ _) 0 rfl dX12_edge__122 123 rfl (by decide) 0 (by decide) ?_
        refine x_goto C dX12_edge__123 155 rfl ?_
        exact x_iret C rfl dX12_edge__155 h
    · refine x_aload_n C dX12_edge__105 106 rfl 1 rfl ?_
      refine x_get C inX12 0 lm0 EM_0 rfl 54 (by decide) dX12_edge__106 109 rfl wmf_X12_128 rfl ?_
      refine x_iload_n C dX12_edge__109 110 rfl 2 rfl ?_
      refine x_iald C 36 lm36 EM_36 0 rfl dX12_edge__110 111 rfl h (fun h => ?_)
      refine x_goto C dX12_edge__111 155 rfl ?_
      exact x_iret C rfl dX12_edge__155 h
  · refine x_iconst C dX12_edge__79 80 rfl 0 rfl ?_
    exact x_iret C rfl dX12_edge__80 h
theorem b_X12_edge__48 (C : XC p l s m args meth c cX12_edge_ 6 (some .int) RX12 D vwCl (tysM ca) (EM ad ca) NCM ad) {N : Nat} {o : (Int32 × AH)} {ah : AH} {v2 : Int32} {v3 : Int32} {s1 : Int32} (h : F_X12_edge__48 N ah v2 v3 s1 = some o) : XW p l e rm_X12_edge_ s m args below meth c 6 0 (xQi below args s D vwCl (tysM ca) (EM ad ca) NCM ad o) D vwCl (EM ad ca) NCM ad ah 48 [(0, .ref (ad 0)), (2, .int v2), (3, .int v3)] [.int s1, .ref (ad 0)] := by
  unfold F_X12_edge__48 at h
  refine x_iconst C dX12_edge__48 49 rfl 1 rfl ?_
  refine x_iconst C dX12_edge__49 50 rfl 0 rfl ?_
  obtain ⟨r50, a50, hq, h⟩ := xb_some h
  refine x_callVi C 0 (c_X12_bad C.2.2.2.2.2.2.1 hq) lm0 EM_0 rfl wml_X12_249 wq_X12_bad rfl ⟨by decide, by decide⟩ rfl rfl ⟨by decide, by decide⟩ dX12_edge__50 53 rfl rfl (Nat.le_of_ble_eq_true rfl) ?_
  refine x_if_ne C dX12_edge__53 56 rfl 79 rfl h (fun h => ?_) (fun h => ?_)
  · refine x_iconst C dX12_edge__79 80 rfl 0 rfl ?_
    exact x_iret C rfl dX12_edge__80 h
  · refine x_aload_n C dX12_edge__56 57 rfl 0 rfl ?_
    refine x_iload_n C dX12_edge__57 58 rfl 2 rfl ?_
    refine x_iconst C dX12_edge__58 59 rfl 0 rfl ?_
    refine x_iconst C dX12_edge__59 60 rfl 4 rfl ?_
    obtain ⟨r60, a60, hq, h⟩ := xb_some h
    refine x_callSi C (c_X12_in C.2.2.2.2.2.2.1 hq) wml_X12_223 wq_X12_in rfl ⟨by decide, by decide⟩ rfl rfl ⟨by decide, by decide⟩ dX12_edge__60 63 rfl rfl (Nat.le_of_ble_eq_true rfl) ?_
    refine x_if_ne C dX12_edge__63 66 rfl 70 rfl h (fun h => ?_) (fun h => ?_)
    · refine x_iconst C dX12_edge__70 71 rfl 0 rfl ?_
      exact b_X12_edge__71 C  h
    · refine x_iconst C dX12_edge__66 67 rfl 1 rfl ?_
      refine x_goto C dX12_edge__67 71 rfl ?_
      exact b_X12_edge__71 C  h
theorem b_X12_edge__43 (C : XC p l s m args meth c cX12_edge_ 6 (some .int) RX12 D vwCl (tysM ca) (EM ad ca) NCM ad) {N : Nat} {o : (Int32 × AH)} {ah : AH} {v2 : Int32} {v3 : Int32} (h : F_X12_edge__43 N ah v2 v3 = some o) : XW p l e rm_X12_edge_ s m args below meth c 6 0 (xQi below args s D vwCl (tysM ca) (EM ad ca) NCM ad o) D vwCl (EM ad ca) NCM ad ah 43 [(0, .ref (ad 0)), (2, .int v2), (3, .int v3)] [.ref (ad 0)] := by
  unfold F_X12_edge__43 at h
  refine x_iconst C dX12_edge__43 44 rfl 1 rfl ?_
  refine x_goto C dX12_edge__44 48 rfl ?_
  exact b_X12_edge__48 C  h
theorem b_X12_edge__23 (C : XC p l s m args meth c cX12_edge_ 6 (some .int) RX12 D vwCl (tysM ca) (EM ad ca) NCM ad) {N : Nat} {o : (Int32 × AH)} {ah : AH} {v2 : Int32} {v3 : Int32} {v4 : Int32} (h : F_X12_edge__23 N ah v2 v3 v4 = some o) : XW p l e rm_X12_edge_ s m args below meth c 6 0 (xQi below args s D vwCl (tysM ca) (EM ad ca) NCM ad o) D vwCl (EM ad ca) NCM ad ah 23 [(0, .ref (ad 0)), (2, .int v2), (3, .int v3), (4, .int v4)] [] := by
  unfold F_X12_edge__23 at h
  refine x_aload_n C dX12_edge__23 24 rfl 0 rfl ?_
  refine x_iload C dX12_edge__24 26 rfl 3 rfl ?_
  refine x_if_eq C dX12_edge__26 29 rfl 43 rfl h (fun h => ?_) (fun h => ?_)
  · exact x_sub [0, 1, 2] rfl (b_X12_edge__43 C  h)
  · refine x_iload_n C dX12_edge__29 30 rfl 1 rfl ?_
    refine x_iconst C dX12_edge__30 31 rfl 0 rfl ?_
    refine x_aload_n C dX12_edge__31 32 rfl 0 rfl ?_
    refine x_get C inX12 0 lm0 EM_0 rfl 53 (by decide) dX12_edge__32 35 rfl wmf_X12_408 rfl ?_
    refine x_iconst C dX12_edge__35 36 rfl 1 rfl ?_
    refine x_isub C dX12_edge__36 37 rfl ?_
    obtain ⟨r37, a37, hq, h⟩ := xb_some h
    refine x_callSi C (c_X12_in C.2.2.2.2.2.2.1 hq) wml_X12_223 wq_X12_in rfl ⟨by decide, by decide⟩ rfl rfl ⟨by decide, by decide⟩ dX12_edge__37 40 rfl rfl (Nat.le_of_ble_eq_true rfl) ?_
    refine x_if_ne C dX12_edge__40 43 rfl 47 rfl h (fun h => ?_) (fun h => ?_)
    · refine x_iconst C dX12_edge__47 48 rfl 0 rfl ?_
      exact x_sub [0, 1, 2] rfl (b_X12_edge__48 C  h)
    · exact x_sub [0, 1, 2] rfl (b_X12_edge__43 C  h)
theorem c_X12_edge_ {l : Launch} {D : va_G} {ca : Nat → ClassId} {ad : Nat → Nat} (hI : xInj ad NCM) {N : Nat} {ah : AH} {p1 : Int32} {p2 : Int32} {p3 : Int32} {r : Int32} {a : AH} (h : F_X12_edge_ N ah p1 p2 p3 = some (r, a)) : xMi l yX12_edge_ cX12_edge_ 6 (some .int) rm_X12_edge_ D vwCl (tysM ca) (EM ad ca) NCM ad [.ref (ad 0), .int p1, .int p2, .int p3] ah (r, a) := by
  refine x_meti (by decide) (Nat.le_of_ble_eq_true rfl) hI EM_loc ?_
  intro p e s m args below meth c C
  unfold F_X12_edge_ at h
  refine x_aload_n C dX12_edge__0 1 rfl 0 rfl ?_
  refine x_iconst C dX12_edge__1 2 rfl 0 rfl ?_
  refine x_put C inX12 0 lm0 EM_0 rfl 0 (by decide) tyX12_ok nmX12 dX12_edge__2 5 rfl wmf_X12_180 rfl rfl rfl (Nat.le_of_ble_eq_true rfl) EQ_0_0 h (fun a2 h => ?_)
  refine x_aload_n C dX12_edge__5 6 rfl 0 rfl ?_
  refine x_iload_n C dX12_edge__6 7 rfl 1 rfl ?_
  obtain ⟨r7, a7, hq, h⟩ := xb_some h
  refine x_callVi C 0 (c_X12_isToken C.2.2.2.2.2.2.1 hq) lm0 EM_0 rfl wml_X12_368 wq_X12_isToken rfl ⟨by decide, by decide⟩ rfl rfl ⟨by decide, by decide⟩ dX12_edge__7 10 rfl rfl (Nat.le_of_ble_eq_true rfl) ?_
  refine x_istore C dX12_edge__10 12 rfl (by decide) (fun v4_10 => [(4, .int v4_10), (0, .ref (ad 0)), (1, .int p1), (2, .int p2), (3, .int p3)]) (fun _ => rfl) h (fun v4_10 h => ?_)
  refine x_iload C dX12_edge__12 14 rfl 0 rfl ?_
  refine x_if_eq C dX12_edge__14 17 rfl 23 rfl h (fun h => ?_) (fun h => ?_)
  · exact x_sub [1, 3, 4, 0] rfl (b_X12_edge__23 C  h)
  · refine x_aload_n C dX12_edge__17 18 rfl 1 rfl ?_
    refine x_iload_n C dX12_edge__18 19 rfl 2 rfl ?_
    obtain ⟨r19, a19, hq, h⟩ := xb_some h
    refine x_callVi C 0 (c_X12_laysWay C.2.2.2.2.2.2.1 hq) lm0 EM_0 rfl wml_X12_411 wq_X12_laysWay rfl ⟨by decide, by decide⟩ rfl rfl ⟨by decide, by decide⟩ dX12_edge__19 22 rfl rfl (Nat.le_of_ble_eq_true rfl) ?_
    refine x_pop C dX12_edge__22 23 rfl rfl ?_
    exact x_sub [1, 3, 4, 0] rfl (b_X12_edge__23 C  h)
abbrev rm_X12_used : Room := { frames := 5, cells := 0, slots := 0, locals := 123 }
theorem wq_X12_used : xcV RX12 yX12_used cX12_used 5 (some .int) 1 := ⟨wmi_X12_used, wms_X12_used, wmn_X12, wmc_X12_used, by decide, by decide, by decide +kernel⟩
def F_X12_used_102 (N : Nat) (k41 : AH → Int32 → Int32 → Int32 → Option (Int32 × AH)) (k60 : AH → Int32 → Int32 → Int32 → Int32 → Option (Int32 × AH)) (ah : AH) (v1 : Int32) (v3 : Int32) (v4 : Int32) (s0 : Int32) (s1 : Int32) : Option (Int32 × AH) := xlet (s0 + s1) (fun v2_103 => xlet (v4 + 1) (fun v4_104 => k60 ah v1 v2_103 v3 v4_104))
def F_X12_used_60 (N : Nat) (k41 : AH → Int32 → Int32 → Int32 → Option (Int32 × AH)) : Nat → AH → Int32 → Int32 → Int32 → Int32 → Option (Int32 × AH)
  | 0, _, _, _, _, _ => none
  | n + 1, ah, v1, v2, v3, v4 => if (ah 0 53) ≤ v4 then xlet (v3 + 1) (fun v3_110 => k41 ah v1 v2 v3_110) else xg v4 24 (xg (ah 36 (Int32.toNatClampNeg v4)) 48 (xg v4 24 (xg (ah 37 (Int32.toNatClampNeg v4)) 60 (xlet (2423 + ((Int32.toNatClampNeg (ah 36 (Int32.toNatClampNeg v4))) * 60 + Int32.toNatClampNeg (ah 37 (Int32.toNatClampNeg v4)))) (fun x89 => if (ah x89 6) = v1 then F_X12_used_102 N k41 (F_X12_used_60 N k41 n) ah v1 v3 v4 v2 1 else F_X12_used_102 N k41 (F_X12_used_60 N k41 n) ah v1 v3 v4 v2 0)))))
def F_X12_used_41 (N : Nat) : Nat → AH → Int32 → Int32 → Int32 → Option (Int32 × AH)
  | 0, _, _, _, _ => none
  | n + 1, ah, v1, v2, v3 => if (ah 16 0) ≤ v3 then some (v2, ah) else xb (F_X12_laysWay N ah v3) (fun r53 a53 => xlet 0 (fun v4_58 => F_X12_used_60 N (F_X12_used_41 N n) N a53 v1 v2 v3 v4_58))
def F_X12_used_27 (N : Nat) (ah : AH) (v1 : Int32) (s1 : Int32) : Option (Int32 × AH) := xb (F_X12_bad N ah s1 1 0) (fun r29 a29 => if r29 = 0 then xlet 0 (fun v2_38 => xlet 0 (fun v3_40 => F_X12_used_41 N N a29 v1 v2_38 v3_40)) else some (0, a29))
def F_X12_used (N : Nat) (ah : AH) (p1 : Int32) : Option (Int32 × AH) := xlet (xu ah 0 0 0) (fun a2 => xb (F_X12_in N a2 p1 0 ((a2 13 0) - 1)) (fun r16 a16 => if r16 = 0 then F_X12_used_27 N a16 p1 1 else F_X12_used_27 N a16 p1 0))
theorem b_X12_used_102 (C : XC p l s m args meth c cX12_used 5 (some .int) RX12 D vwCl (tysM ca) (EM ad ca) NCM ad) {N : Nat} {o : (Int32 × AH)} {k41 : AH → Int32 → Int32 → Int32 → Option (Int32 × AH)} (hk41 : ∀ (ah : AH) (v1 : Int32) (v2 : Int32) (v3 : Int32), k41 ah v1 v2 v3 = some o → XW p l e rm_X12_used s m args below meth c 5 0 (xQi below args s D vwCl (tysM ca) (EM ad ca) NCM ad o) D vwCl (EM ad ca) NCM ad ah 41 [(0, .ref (ad 0)), (1, .int v1), (2, .int v2), (3, .int v3)] []) {k60 : AH → Int32 → Int32 → Int32 → Int32 → Option (Int32 × AH)} (hk60 : ∀ (ah : AH) (v1 : Int32) (v2 : Int32) (v3 : Int32) (v4 : Int32), k60 ah v1 v2 v3 v4 = some o → XW p l e rm_X12_used s m args below meth c 5 0 (xQi below args s D vwCl (tysM ca) (EM ad ca) NCM ad o) D vwCl (EM ad ca) NCM ad ah 60 [(0, .ref (ad 0)), (1, .int v1), (2, .int v2), (3, .int v3), (4, .int v4)] []) {ah : AH} {v1 : Int32} {v3 : Int32} {v4 : Int32} {s0 : Int32} {s1 : Int32} (h : F_X12_used_102 N k41 k60 ah v1 v3 v4 s0 s1 = some o) : XW p l e rm_X12_used s m args below meth c 5 0 (xQi below args s D vwCl (tysM ca) (EM ad ca) NCM ad o) D vwCl (EM ad ca) NCM ad ah 102 [(0, .ref (ad 0)), (1, .int v1), (3, .int v3), (4, .int v4)] [.int s1, .int s0] := by
  unfold F_X12_used_102 at h
  refine x_iadd C dX12_used_102 103 rfl ?_
  refine x_istore_n C dX12_used_103 104 rfl (by decide) (fun v2_103 => [(2, .int v2_103), (0, .ref (ad 0)), (1, .int v1), (3, .int v3), (4, .int v4)]) (fun _ => rfl) h (fun v2_103 h => ?_)
  refine x_iinc C dX12_used_104 107 rfl 4 rfl (d := 1) rfl (by decide) (fun v4_104 => [(4, .int v4_104), (2, .int v2_103), (0, .ref (ad 0)), (1, .int v1), (3, .int v3)]) (fun _ => rfl) h (fun v4_104 h => ?_)
  refine x_goto C dX12_used_107 60 rfl ?_
  exact x_sub [2, 3, 1, 4, 0] rfl (hk60 _ _ _ _ _ h)
theorem b_X12_used_60 (C : XC p l s m args meth c cX12_used 5 (some .int) RX12 D vwCl (tysM ca) (EM ad ca) NCM ad) {N : Nat} {o : (Int32 × AH)} {k41 : AH → Int32 → Int32 → Int32 → Option (Int32 × AH)} (hk41 : ∀ (ah : AH) (v1 : Int32) (v2 : Int32) (v3 : Int32), k41 ah v1 v2 v3 = some o → XW p l e rm_X12_used s m args below meth c 5 0 (xQi below args s D vwCl (tysM ca) (EM ad ca) NCM ad o) D vwCl (EM ad ca) NCM ad ah 41 [(0, .ref (ad 0)), (1, .int v1), (2, .int v2), (3, .int v3)] []) : ∀ (n : Nat) {ah : AH} {v1 : Int32} {v2 : Int32} {v3 : Int32} {v4 : Int32}, F_X12_used_60 N k41 n ah v1 v2 v3 v4 = some o → XW p l e rm_X12_used s m args below meth c 5 0 (xQi below args s D vwCl (tysM ca) (EM ad ca) NCM ad o) D vwCl (EM ad ca) NCM ad ah 60 [(0, .ref (ad 0)), (1, .int v1), (2, .int v2), (3, .int v3), (4, .int v4)] [] := by
  intro n
  induction n with
  | zero => intro ah v1 v2 v3 v4 h; unfold F_X12_used_60 at h; cases h
  | succ n ih =>
    intro ah v1 v2 v3 v4 h
    unfold F_X12_used_60 at h
    refine x_iload C dX12_used_60 62 rfl 4 rfl ?_
    refine x_aload_n C dX12_used_62 63 rfl 0 rfl ?_
    refine x_get C inX12 0 lm0 EM_0 rfl 53 (by decide) dX12_used_63 66 rfl wmf_X12_408 rfl ?_
    refine x_icmp_ge C dX12_used_66 69 rfl 110 rfl h (fun h => ?_) (fun h => ?_)
    · refine x_iinc C dX12_used_110 113 rfl 3 rfl (d := 1) rfl (by decide) (fun v3_110 => [(3, .int v3_110), (0, .ref (ad 0)), (1, .int v1), (2, .int v2), (4, .int v4)]) (fun _ => rfl) h (fun v3_110 h => ?_)
      refine x_goto C dX12_used_113 41 rfl ?_
      exact x_sub [1, 2, 3, 0] rfl (hk41 _ _ _ _ h)
    · refine x_iload_n C dX12_used_69 70 rfl 2 rfl ?_
      refine x_aload_n C dX12_used_70 71 rfl 0 rfl ?_
      refine x_get C inX12 0 lm0 EM_0 rfl 37 (by decide) dX12_used_71 74 rfl wmf_X12_101 rfl ?_
      refine x_aload_n C dX12_used_74 75 rfl 0 rfl ?_
      refine x_get C inX12 0 lm0 EM_0 rfl 54 (by decide) dX12_used_75 78 rfl wmf_X12_128 rfl ?_
      refine x_iload C dX12_used_78 80 rfl 4 rfl ?_
      refine x_iald C 36 lm36 EM_36 0 rfl dX12_used_80 81 rfl h (fun h => ?_)
      refine x_aald C (27) lm27 EM_27 3 rfl rfl dX12_used_81 82 rfl (2375 + (Int32.toNatClampNeg (ah 36 (Int32.toNatClampNeg v4)))) rfl h (fun hb81 h => ?_)
      refine x_aload_n C dX12_used_82 83 rfl 0 rfl ?_
      refine x_get C inX12 0 lm0 EM_0 rfl 55 (by decide) dX12_used_83 86 rfl wmf_X12_131 rfl ?_
      refine x_iload C dX12_used_86 88 rfl 4 rfl ?_
      refine x_iald C 37 lm37 EM_37 0 rfl dX12_used_88 89 rfl h (fun h => ?_)
      refine x_aaldL C (2375 + (Int32.toNatClampNeg (ah 36 (Int32.toNatClampNeg v4)))) (lm_edge_1 hb81) (EM_edge_1 hb81) 2 rfl rfl dX12_used_89 90 rfl (2423 + ((Int32.toNatClampNeg (ah 36 (Int32.toNatClampNeg v4))) * 60 + Int32.toNatClampNeg (ah 37 (Int32.toNatClampNeg v4)))) rfl h (fun x89 ex89 hb89 h => ?_)
      have hx89 : mI x89 7 := ex89 ▸ mI_edge (xfl hb81 hb89)
      refine x_bipush C dX12_used_90 92 rfl 6 rfl ?_
      refine x_ialdK C x89 hx89.1 (hx89.2 _ _ _) 0 rfl dX12_used_92 93 rfl (by decide) 6 (by decide) ?_
      refine x_iload_n C dX12_used_93 94 rfl 1 rfl ?_
      refine x_icmp_ne C dX12_used_94 97 rfl 101 rfl h (fun h => ?_) (fun h => ?_)
      · refine x_iconst C dX12_used_101 102 rfl 0 rfl ?_
        exact x_sub [0, 1, 3, 4] rfl (b_X12_used_102 C hk41 (fun _ _ _ _ _ h => ih h) h)
      · refine x_iconst C dX12_used_97 98 rfl 1 rfl ?_
        refine x_goto C dX12_used_98 102 rfl ?_
        exact x_sub [0, 1, 3, 4] rfl (b_X12_used_102 C hk41 (fun _ _ _ _ _ h => ih h) h)
theorem b_X12_used_41 (C : XC p l s m args meth c cX12_used 5 (some .int) RX12 D vwCl (tysM ca) (EM ad ca) NCM ad) {N : Nat} {o : (Int32 × AH)} : ∀ (n : Nat) {ah : AH} {v1 : Int32} {v2 : Int32} {v3 : Int32}, F_X12_used_41 N n ah v1 v2 v3 = some o → XW p l e rm_X12_used s m args below meth c 5 0 (xQi below args s D vwCl (tysM ca) (EM ad ca) NCM ad o) D vwCl (EM ad ca) NCM ad ah 41 [(0, .ref (ad 0)), (1, .int v1), (2, .int v2), (3, .int v3)] [] := by
  intro n
  induction n with
  | zero => intro ah v1 v2 v3 h; unfold F_X12_used_41 at h; cases h
  | succ n ih =>
    intro ah v1 v2 v3 h
    unfold F_X12_used_41 at h
    refine x_iload_n C dX12_used_41 42 rfl 3 rfl ?_
    refine x_aload_n C dX12_used_42 43 rfl 0 rfl ?_
    refine x_get C inX12 0 lm0 EM_0 rfl 24 (by decide) dX12_used_43 46 rfl wmf_X12_66 rfl ?_
    refine x_iconst C dX12_used_46 47 rfl 0 rfl ?_
    refine x_ialdK C 16 lm16 EM_16 0 rfl dX12_used_47 48 rfl (by decide) 0 (by decide) ?_
    refine x_icmp_ge C dX12_used_48 51 rfl 116 rfl h (fun h => ?_) (fun h => ?_)
    · refine x_iload_n C dX12_used_116 117 rfl 2 rfl ?_
      exact x_iret C rfl dX12_used_117 h
    · refine x_aload_n C dX12_used_51 52 rfl 0 rfl ?_
      refine x_iload_n C dX12_used_52 53 rfl 3 rfl ?_
      obtain ⟨r53, a53, hq, h⟩ := xb_some h
      refine x_callVi C 0 (c_X12_laysWay C.2.2.2.2.2.2.1 hq) lm0 EM_0 rfl wml_X12_411 wq_X12_laysWay rfl ⟨by decide, by decide⟩ rfl rfl ⟨by decide, by decide⟩ dX12_used_53 56 rfl rfl (Nat.le_of_ble_eq_true rfl) ?_
      refine x_pop C dX12_used_56 57 rfl rfl ?_
      refine x_iconst C dX12_used_57 58 rfl 0 rfl ?_
      refine x_istore C dX12_used_58 60 rfl (by decide) (fun v4_58 => [(4, .int v4_58), (0, .ref (ad 0)), (1, .int v1), (2, .int v2), (3, .int v3)]) (fun _ => rfl) h (fun v4_58 h => ?_)
      exact x_sub [1, 2, 3, 4, 0] rfl (b_X12_used_60 C (fun _ _ _ _ h => ih h) N h)
theorem b_X12_used_27 (C : XC p l s m args meth c cX12_used 5 (some .int) RX12 D vwCl (tysM ca) (EM ad ca) NCM ad) {N : Nat} {o : (Int32 × AH)} {ah : AH} {v1 : Int32} {s1 : Int32} (h : F_X12_used_27 N ah v1 s1 = some o) : XW p l e rm_X12_used s m args below meth c 5 0 (xQi below args s D vwCl (tysM ca) (EM ad ca) NCM ad o) D vwCl (EM ad ca) NCM ad ah 27 [(0, .ref (ad 0)), (1, .int v1)] [.int s1, .ref (ad 0)] := by
  unfold F_X12_used_27 at h
  refine x_iconst C dX12_used_27 28 rfl 1 rfl ?_
  refine x_iconst C dX12_used_28 29 rfl 0 rfl ?_
  obtain ⟨r29, a29, hq, h⟩ := xb_some h
  refine x_callVi C 0 (c_X12_bad C.2.2.2.2.2.2.1 hq) lm0 EM_0 rfl wml_X12_249 wq_X12_bad rfl ⟨by decide, by decide⟩ rfl rfl ⟨by decide, by decide⟩ dX12_used_29 32 rfl rfl (Nat.le_of_ble_eq_true rfl) ?_
  refine x_if_eq C dX12_used_32 35 rfl 37 rfl h (fun h => ?_) (fun h => ?_)
  · refine x_iconst C dX12_used_37 38 rfl 0 rfl ?_
    refine x_istore_n C dX12_used_38 39 rfl (by decide) (fun v2_38 => [(2, .int v2_38), (0, .ref (ad 0)), (1, .int v1)]) (fun _ => rfl) h (fun v2_38 h => ?_)
    refine x_iconst C dX12_used_39 40 rfl 0 rfl ?_
    refine x_istore_n C dX12_used_40 41 rfl (by decide) (fun v3_40 => [(3, .int v3_40), (2, .int v2_38), (0, .ref (ad 0)), (1, .int v1)]) (fun _ => rfl) h (fun v3_40 h => ?_)
    exact x_sub [2, 3, 1, 0] rfl (b_X12_used_41 C  N h)
  · refine x_iconst C dX12_used_35 36 rfl 0 rfl ?_
    exact x_iret C rfl dX12_used_36 h
theorem c_X12_used {l : Launch} {D : va_G} {ca : Nat → ClassId} {ad : Nat → Nat} (hI : xInj ad NCM) {N : Nat} {ah : AH} {p1 : Int32} {r : Int32} {a : AH} (h : F_X12_used N ah p1 = some (r, a)) : xMi l yX12_used cX12_used 5 (some .int) rm_X12_used D vwCl (tysM ca) (EM ad ca) NCM ad [.ref (ad 0), .int p1] ah (r, a) := by
  refine x_meti (by decide) (Nat.le_of_ble_eq_true rfl) hI EM_loc ?_
  intro p e s m args below meth c C
  unfold F_X12_used at h
  refine x_aload_n C dX12_used_0 1 rfl 0 rfl ?_
  refine x_iconst C dX12_used_1 2 rfl 0 rfl ?_
  refine x_put C inX12 0 lm0 EM_0 rfl 0 (by decide) tyX12_ok nmX12 dX12_used_2 5 rfl wmf_X12_180 rfl rfl rfl (Nat.le_of_ble_eq_true rfl) EQ_0_0 h (fun a2 h => ?_)
  refine x_aload_n C dX12_used_5 6 rfl 0 rfl ?_
  refine x_iload_n C dX12_used_6 7 rfl 1 rfl ?_
  refine x_iconst C dX12_used_7 8 rfl 0 rfl ?_
  refine x_aload_n C dX12_used_8 9 rfl 0 rfl ?_
  refine x_get C inX12 0 lm0 EM_0 rfl 21 (by decide) dX12_used_9 12 rfl wmf_X12_55 rfl ?_
  refine x_iconst C dX12_used_12 13 rfl 0 rfl ?_
  refine x_ialdK C 13 lm13 EM_13 0 rfl dX12_used_13 14 rfl (by decide) 0 (by decide) ?_
  refine x_iconst C dX12_used_14 15 rfl 1 rfl ?_
  refine x_isub C dX12_used_15 16 rfl ?_
  obtain ⟨r16, a16, hq, h⟩ := xb_some h
  refine x_callSi C (c_X12_in C.2.2.2.2.2.2.1 hq) wml_X12_223 wq_X12_in rfl ⟨by decide, by decide⟩ rfl rfl ⟨by decide, by decide⟩ dX12_used_16 19 rfl rfl (Nat.le_of_ble_eq_true rfl) ?_
  refine x_if_ne C dX12_used_19 22 rfl 26 rfl h (fun h => ?_) (fun h => ?_)
  · refine x_iconst C dX12_used_26 27 rfl 0 rfl ?_
    exact b_X12_used_27 C  h
  · refine x_iconst C dX12_used_22 23 rfl 1 rfl ?_
    refine x_goto C dX12_used_23 27 rfl ?_
    exact b_X12_used_27 C  h
abbrev rm_X12_laysChoices : Room := { frames := 4, cells := 0, slots := 0, locals := 98 }
theorem wq_X12_laysChoices : xcV RX12 yX12_laysChoices cX12_laysChoices 4 none 1 := ⟨wmi_X12_laysChoices, wms_X12_laysChoices, wmn_X12, wmc_X12_laysChoices, by decide, by decide, by decide +kernel⟩
def F_X12_laysChoices_70 (N : Nat) (k15 : AH → Int32 → Int32 → Int32 → Option AH) (ah : AH) (v1 : Int32) (v2 : Int32) (v3 : Int32) : Option AH := xlet (v3 + 1) (fun v3_70 => k15 ah v1 v2 v3_70)
def F_X12_laysChoices_15 (N : Nat) : Nat → AH → Int32 → Int32 → Int32 → Option AH
  | 0, _, _, _, _ => none
  | n + 1, ah, v1, v2, v3 => if (ah 0 49) ≤ v3 then xg v1 40 (xlet (5352 + (Int32.toNatClampNeg v1)) (fun x81 => xg v2 5 (xlet (xu ah x81 (Int32.toNatClampNeg v2) ((-1))) (fun a84 => xg v1 40 (xlet (5392 + (Int32.toNatClampNeg v1)) (fun x90 => xb (F_X12_outside N a84) (fun r93 a93 => xg v2 5 (xlet (xu a93 x90 (Int32.toNatClampNeg v2) r93) (fun a96 => xg v1 40 (xlet (xu a96 38 (Int32.toNatClampNeg v1) (v2 + 1)) (fun a105 => some a105))))))))))) else xg v3 60 (xb (F_X12_outside N ah) (fun r30 a30 => if (ah 34 (Int32.toNatClampNeg v3)) ≤ r30 then xg v1 40 (xlet (5352 + (Int32.toNatClampNeg v1)) (fun x44 => xg v3 60 (xg v2 5 (xlet (xu a30 x44 (Int32.toNatClampNeg v2) (a30 33 (Int32.toNatClampNeg v3))) (fun a52 => xg v1 40 (xlet (5392 + (Int32.toNatClampNeg v1)) (fun x58 => xg v3 60 (xg v2 5 (xlet (xu a52 x58 (Int32.toNatClampNeg v2) (a52 34 (Int32.toNatClampNeg v3))) (fun a66 => xlet (v2 + 1) (fun v2_67 => F_X12_laysChoices_70 N (F_X12_laysChoices_15 N n) a66 v1 v2_67 v3))))))))))) else F_X12_laysChoices_70 N (F_X12_laysChoices_15 N n) a30 v1 v2 v3))
def F_X12_laysChoices (N : Nat) (ah : AH) (p1 : Int32) : Option AH := xbv (F_X12_laysToken N ah p1 0) (fun a3 => xbv (F_X12_searches N a3 4) (fun a8 => xlet 0 (fun v2_12 => xlet 0 (fun v3_14 => F_X12_laysChoices_15 N N a8 p1 v2_12 v3_14))))
theorem b_X12_laysChoices_70 (C : XC p l s m args meth c cX12_laysChoices 4 none RX12 D vwCl (tysM ca) (EM ad ca) NCM ad) {N : Nat} {o : AH} {k15 : AH → Int32 → Int32 → Int32 → Option AH} (hk15 : ∀ (ah : AH) (v1 : Int32) (v2 : Int32) (v3 : Int32), k15 ah v1 v2 v3 = some o → XW p l e rm_X12_laysChoices s m args below meth c 4 0 (xQv below args s D vwCl (tysM ca) (EM ad ca) NCM ad o) D vwCl (EM ad ca) NCM ad ah 15 [(0, .ref (ad 0)), (1, .int v1), (2, .int v2), (3, .int v3)] []) {ah : AH} {v1 : Int32} {v2 : Int32} {v3 : Int32} (h : F_X12_laysChoices_70 N k15 ah v1 v2 v3 = some o) : XW p l e rm_X12_laysChoices s m args below meth c 4 0 (xQv below args s D vwCl (tysM ca) (EM ad ca) NCM ad o) D vwCl (EM ad ca) NCM ad ah 70 [(0, .ref (ad 0)), (1, .int v1), (2, .int v2), (3, .int v3)] [] := by
  unfold F_X12_laysChoices_70 at h
  refine x_iinc C dX12_laysChoices_70 73 rfl 3 rfl (d := 1) rfl (by decide) (fun v3_70 => [(3, .int v3_70), (0, .ref (ad 0)), (1, .int v1), (2, .int v2)]) (fun _ => rfl) h (fun v3_70 h => ?_)
  refine x_goto C dX12_laysChoices_73 15 rfl ?_
  exact x_sub [1, 2, 3, 0] rfl (hk15 _ _ _ _ h)
theorem b_X12_laysChoices_15 (C : XC p l s m args meth c cX12_laysChoices 4 none RX12 D vwCl (tysM ca) (EM ad ca) NCM ad) {N : Nat} {o : AH} : ∀ (n : Nat) {ah : AH} {v1 : Int32} {v2 : Int32} {v3 : Int32}, F_X12_laysChoices_15 N n ah v1 v2 v3 = some o → XW p l e rm_X12_laysChoices s m args below meth c 4 0 (xQv below args s D vwCl (tysM ca) (EM ad ca) NCM ad o) D vwCl (EM ad ca) NCM ad ah 15 [(0, .ref (ad 0)), (1, .int v1), (2, .int v2), (3, .int v3)] [] := by
  intro n
  induction n with
  | zero => intro ah v1 v2 v3 h; unfold F_X12_laysChoices_15 at h; cases h
  | succ n ih =>
    intro ah v1 v2 v3 h
    unfold F_X12_laysChoices_15 at h
    refine x_iload_n C dX12_laysChoices_15 16 rfl 3 rfl ?_
    refine x_aload_n C dX12_laysChoices_16 17 rfl 0 rfl ?_
    refine x_get C inX12 0 lm0 EM_0 rfl 49 (by decide) dX12_laysChoices_17 20 rfl wmf_X12_350 rfl ?_
    refine x_icmp_ge C dX12_laysChoices_20 23 rfl 76 rfl h (fun h => ?_) (fun h => ?_)
    · refine x_aload_n C dX12_laysChoices_76 77 rfl 0 rfl ?_
      refine x_get C inX12 0 lm0 EM_0 rfl 57 (by decide) dX12_laysChoices_77 80 rfl wmf_X12_137 rfl ?_
      refine x_iload_n C dX12_laysChoices_80 81 rfl 1 rfl ?_
      refine x_aaldL C (39) lm39 EM_39 2 rfl rfl dX12_laysChoices_81 82 rfl (5352 + (Int32.toNatClampNeg v1)) rfl h (fun x81 ex81 hb81 h => ?_)
      have hx81 : mI x81 5 := ex81 ▸ mI_choice hb81
      refine x_iload_n C dX12_laysChoices_82 83 rfl 2 rfl ?_
      refine x_iconst C dX12_laysChoices_83 84 rfl (-1) rfl ?_
      refine x_iast C x81 hx81.1 (hx81.2 _ _) 0 rfl dX12_laysChoices_84 85 rfl h (fun a84 h => ?_)
      refine x_aload_n C dX12_laysChoices_85 86 rfl 0 rfl ?_
      refine x_get C inX12 0 lm0 EM_0 rfl 58 (by decide) dX12_laysChoices_86 89 rfl wmf_X12_140 rfl ?_
      refine x_iload_n C dX12_laysChoices_89 90 rfl 1 rfl ?_
      refine x_aaldL C (40) lm40 EM_40 2 rfl rfl dX12_laysChoices_90 91 rfl (5392 + (Int32.toNatClampNeg v1)) rfl h (fun x90 ex90 hb90 h => ?_)
      have hx90 : mI x90 5 := ex90 ▸ mI_choiceAt hb90
      refine x_iload_n C dX12_laysChoices_91 92 rfl 2 rfl ?_
      refine x_aload_n C dX12_laysChoices_92 93 rfl 0 rfl ?_
      obtain ⟨r93, a93, hq, h⟩ := xb_some h
      refine x_callVi C 0 (c_X12_outside C.2.2.2.2.2.2.1 hq) lm0 EM_0 rfl wml_X12_381 wq_X12_outside rfl ⟨by decide, by decide⟩ rfl rfl ⟨by decide, by decide⟩ dX12_laysChoices_93 96 rfl rfl (Nat.le_of_ble_eq_true rfl) ?_
      refine x_iast C x90 hx90.1 (hx90.2 _ _) 0 rfl dX12_laysChoices_96 97 rfl h (fun a96 h => ?_)
      refine x_aload_n C dX12_laysChoices_97 98 rfl 0 rfl ?_
      refine x_get C inX12 0 lm0 EM_0 rfl 56 (by decide) dX12_laysChoices_98 101 rfl wmf_X12_134 rfl ?_
      refine x_iload_n C dX12_laysChoices_101 102 rfl 1 rfl ?_
      refine x_iload_n C dX12_laysChoices_102 103 rfl 2 rfl ?_
      refine x_iconst C dX12_laysChoices_103 104 rfl 1 rfl ?_
      refine x_iadd C dX12_laysChoices_104 105 rfl ?_
      refine x_iast C 38 lm38 (fun _ => EM_38) 0 rfl dX12_laysChoices_105 106 rfl h (fun a105 h => ?_)
      exact x_vret C rfl dX12_laysChoices_106 h
    · refine x_aload_n C dX12_laysChoices_23 24 rfl 0 rfl ?_
      refine x_get C inX12 0 lm0 EM_0 rfl 47 (by decide) dX12_laysChoices_24 27 rfl wmf_X12_122 rfl ?_
      refine x_iload_n C dX12_laysChoices_27 28 rfl 3 rfl ?_
      refine x_iald C 34 lm34 EM_34 0 rfl dX12_laysChoices_28 29 rfl h (fun h => ?_)
      refine x_aload_n C dX12_laysChoices_29 30 rfl 0 rfl ?_
      obtain ⟨r30, a30, hq, h⟩ := xb_some h
      refine x_callVi C 0 (c_X12_outside C.2.2.2.2.2.2.1 hq) lm0 EM_0 rfl wml_X12_381 wq_X12_outside rfl ⟨by decide, by decide⟩ rfl rfl ⟨by decide, by decide⟩ dX12_laysChoices_30 33 rfl rfl (Nat.le_of_ble_eq_true rfl) ?_
      refine x_icmp_le C dX12_laysChoices_33 36 rfl 39 rfl h (fun h => ?_) (fun h => ?_)
      · refine x_aload_n C dX12_laysChoices_39 40 rfl 0 rfl ?_
        refine x_get C inX12 0 lm0 EM_0 rfl 57 (by decide) dX12_laysChoices_40 43 rfl wmf_X12_137 rfl ?_
        refine x_iload_n C dX12_laysChoices_43 44 rfl 1 rfl ?_
        refine x_aaldL C (39) lm39 EM_39 2 rfl rfl dX12_laysChoices_44 45 rfl (5352 + (Int32.toNatClampNeg v1)) rfl h (fun x44 ex44 hb44 h => ?_)
        have hx44 : mI x44 5 := ex44 ▸ mI_choice hb44
        refine x_iload_n C dX12_laysChoices_45 46 rfl 2 rfl ?_
        refine x_aload_n C dX12_laysChoices_46 47 rfl 0 rfl ?_
        refine x_get C inX12 0 lm0 EM_0 rfl 46 (by decide) dX12_laysChoices_47 50 rfl wmf_X12_119 rfl ?_
        refine x_iload_n C dX12_laysChoices_50 51 rfl 3 rfl ?_
        refine x_iald C 33 lm33 EM_33 0 rfl dX12_laysChoices_51 52 rfl h (fun h => ?_)
        refine x_iast C x44 hx44.1 (hx44.2 _ _) 0 rfl dX12_laysChoices_52 53 rfl h (fun a52 h => ?_)
        refine x_aload_n C dX12_laysChoices_53 54 rfl 0 rfl ?_
        refine x_get C inX12 0 lm0 EM_0 rfl 58 (by decide) dX12_laysChoices_54 57 rfl wmf_X12_140 rfl ?_
        refine x_iload_n C dX12_laysChoices_57 58 rfl 1 rfl ?_
        refine x_aaldL C (40) lm40 EM_40 2 rfl rfl dX12_laysChoices_58 59 rfl (5392 + (Int32.toNatClampNeg v1)) rfl h (fun x58 ex58 hb58 h => ?_)
        have hx58 : mI x58 5 := ex58 ▸ mI_choiceAt hb58
        refine x_iload_n C dX12_laysChoices_59 60 rfl 2 rfl ?_
        refine x_aload_n C dX12_laysChoices_60 61 rfl 0 rfl ?_
        refine x_get C inX12 0 lm0 EM_0 rfl 47 (by decide) dX12_laysChoices_61 64 rfl wmf_X12_122 rfl ?_
        refine x_iload_n C dX12_laysChoices_64 65 rfl 3 rfl ?_
        refine x_iald C 34 lm34 EM_34 0 rfl dX12_laysChoices_65 66 rfl h (fun h => ?_)
        refine x_iast C x58 hx58.1 (hx58.2 _ _) 0 rfl dX12_laysChoices_66 67 rfl h (fun a66 h => ?_)
        refine x_iinc C dX12_laysChoices_67 70 rfl 2 rfl (d := 1) rfl (by decide) (fun v2_67 => [(2, .int v2_67), (0, .ref (ad 0)), (1, .int v1), (3, .int v3)]) (fun _ => rfl) h (fun v2_67 h => ?_)
        exact x_sub [1, 2, 0, 3] rfl (b_X12_laysChoices_70 C (fun _ _ _ _ h => ih h) h)
      · refine x_goto C dX12_laysChoices_36 70 rfl ?_
        exact b_X12_laysChoices_70 C (fun _ _ _ _ h => ih h) h
theorem c_X12_laysChoices {l : Launch} {D : va_G} {ca : Nat → ClassId} {ad : Nat → Nat} (hI : xInj ad NCM) {N : Nat} {ah : AH} {p1 : Int32} {a : AH} (h : F_X12_laysChoices N ah p1 = some a) : xMv l yX12_laysChoices cX12_laysChoices 4 rm_X12_laysChoices D vwCl (tysM ca) (EM ad ca) NCM ad [.ref (ad 0), .int p1] ah a := by
  refine x_metv (by decide) (Nat.le_of_ble_eq_true rfl) hI EM_loc ?_
  intro p e s m args below meth c C
  unfold F_X12_laysChoices at h
  refine x_aload_n C dX12_laysChoices_0 1 rfl 0 rfl ?_
  refine x_iload_n C dX12_laysChoices_1 2 rfl 1 rfl ?_
  refine x_iconst C dX12_laysChoices_2 3 rfl 0 rfl ?_
  obtain ⟨a3, hq, h⟩ := xbv_some h
  refine x_callVv C 0 (c_X12_laysToken C.2.2.2.2.2.2.1 hq) lm0 EM_0 rfl wml_X12_371 wq_X12_laysToken rfl ⟨by decide, by decide⟩ rfl rfl ⟨by decide, by decide⟩ dX12_laysChoices_3 6 rfl rfl (Nat.le_of_ble_eq_true rfl) ?_
  refine x_aload_n C dX12_laysChoices_6 7 rfl 0 rfl ?_
  refine x_iconst C dX12_laysChoices_7 8 rfl 4 rfl ?_
  obtain ⟨a8, hq, h⟩ := xbv_some h
  refine x_callVv C 0 (c_X12_searches C.2.2.2.2.2.2.1 hq) lm0 EM_0 rfl wml_X12_387 wq_X12_searches rfl ⟨by decide, by decide⟩ rfl rfl ⟨by decide, by decide⟩ dX12_laysChoices_8 11 rfl rfl (Nat.le_of_ble_eq_true rfl) ?_
  refine x_iconst C dX12_laysChoices_11 12 rfl 0 rfl ?_
  refine x_istore_n C dX12_laysChoices_12 13 rfl (by decide) (fun v2_12 => [(2, .int v2_12), (0, .ref (ad 0)), (1, .int p1)]) (fun _ => rfl) h (fun v2_12 h => ?_)
  refine x_iconst C dX12_laysChoices_13 14 rfl 0 rfl ?_
  refine x_istore_n C dX12_laysChoices_14 15 rfl (by decide) (fun v3_14 => [(3, .int v3_14), (2, .int v2_12), (0, .ref (ad 0)), (1, .int p1)]) (fun _ => rfl) h (fun v3_14 h => ?_)
  exact x_sub [2, 3, 1, 0] rfl (b_X12_laysChoices_15 C  N h)
abbrev rm_X12_between : Room := { frames := 1, cells := 0, slots := 0, locals := 23 }
theorem wq_X12_between : xcV RX12 yX12_between cX12_between 3 (some .int) 2 := ⟨wmi_X12_between, wms_X12_between, wmn_X12, wmc_X12_between, by decide, by decide, by decide +kernel⟩
def F_X12_between_10 (N : Nat) (ah : AH) : Option (Int32 × AH) := some (0, ah)
def F_X12_between (N : Nat) (ah : AH) (p1 : Int32) (p2 : Int32) : Option (Int32 × AH) := if p1 = ((-1)) then F_X12_between_10 N ah else if p2 = ((-1)) then F_X12_between_10 N ah else xb (F_X12_dearOf N ah p1 p2) (fun r17 a17 => some (r17, a17))
theorem b_X12_between_10 (C : XC p l s m args meth c cX12_between 3 (some .int) RX12 D vwCl (tysM ca) (EM ad ca) NCM ad) {N : Nat} {o : (Int32 × AH)} {ah : AH} (h : F_X12_between_10 N ah = some o) : XW p l e rm_X12_between s m args below meth c 3 0 (xQi below args s D vwCl (tysM ca) (EM ad ca) NCM ad o) D vwCl (EM ad ca) NCM ad ah 10 [] [] := by
  unfold F_X12_between_10 at h
  refine x_iconst C dX12_between_10 11 rfl 0 rfl ?_
  refine x_goto C dX12_between_11 20 rfl ?_
  exact x_iret C rfl dX12_between_20 h
theorem c_X12_between {l : Launch} {D : va_G} {ca : Nat → ClassId} {ad : Nat → Nat} (hI : xInj ad NCM) {N : Nat} {ah : AH} {p1 : Int32} {p2 : Int32} {r : Int32} {a : AH} (h : F_X12_between N ah p1 p2 = some (r, a)) : xMi l yX12_between cX12_between 3 (some .int) rm_X12_between D vwCl (tysM ca) (EM ad ca) NCM ad [.ref (ad 0), .int p1, .int p2] ah (r, a) := by
  refine x_meti (by decide) (Nat.le_of_ble_eq_true rfl) hI EM_loc ?_
  intro p e s m args below meth c C
  unfold F_X12_between at h
  refine x_iload_n C dX12_between_0 1 rfl 1 rfl ?_
  refine x_iconst C dX12_between_1 2 rfl (-1) rfl ?_
  refine x_icmp_eq C dX12_between_2 5 rfl 10 rfl h (fun h => ?_) (fun h => ?_)
  · exact x_sub [] rfl (b_X12_between_10 C  h)
  · refine x_iload_n C dX12_between_5 6 rfl 2 rfl ?_
    refine x_iconst C dX12_between_6 7 rfl (-1) rfl ?_
    refine x_icmp_ne C dX12_between_7 10 rfl 14 rfl h (fun h => ?_) (fun h => ?_)
    · refine x_aload_n C dX12_between_14 15 rfl 0 rfl ?_
      refine x_iload_n C dX12_between_15 16 rfl 1 rfl ?_
      refine x_iload_n C dX12_between_16 17 rfl 2 rfl ?_
      obtain ⟨r17, a17, hq, h⟩ := xb_some h
      refine x_callVi C 0 (c_X12_dearOf C.2.2.2.2.2.2.1 hq) lm0 EM_0 rfl wml_X12_285 wq_X12_dearOf rfl ⟨by decide, by decide⟩ rfl rfl ⟨by decide, by decide⟩ dX12_between_17 20 rfl rfl (Nat.le_of_ble_eq_true rfl) ?_
      exact x_iret C rfl dX12_between_20 h
    · exact x_sub [] rfl (b_X12_between_10 C  h)
abbrev rm_X12_says : Room := { frames := 5, cells := 0, slots := 0, locals := 121 }
theorem wq_X12_says : xcV RX12 yX12_says cX12_says 8 none 0 := ⟨wmi_X12_says, wms_X12_says, wmn_X12, wmc_X12_says, by decide, by decide, by decide +kernel⟩
def F_X12_says_249 (N : Nat) : Nat → AH → Int32 → Int32 → Int32 → Option AH
  | 0, _, _, _, _ => none
  | n + 1, ah, v1, v2, v3 => if v1 ≤ v3 then some ah else xg v3 40 (xlet (5352 + (Int32.toNatClampNeg v3)) (fun x264 => xg v2 5 (xg v3 40 (xlet (xu ah 43 (Int32.toNatClampNeg v3) (ah x264 (Int32.toNatClampNeg v2))) (fun a267 => xg v3 40 (xlet (5473 + (Int32.toNatClampNeg v3)) (fun x273 => xg v2 5 (xlet (a267 x273 (Int32.toNatClampNeg v2)) (fun v2_276 => xlet (v3 + 1) (fun v3_277 => F_X12_says_249 N n a267 v1 v2_276 v3_277))))))))))
def F_X12_says_244 (N : Nat) (ah : AH) (v1 : Int32) (v2 : Int32) (s1 : Int32) : Option AH := xlet (xu ah 0 62 s1) (fun a244 => xlet 0 (fun v3_248 => F_X12_says_249 N N a244 v1 v2 v3_248))
def F_X12_says_227 (N : Nat) (ah : AH) (v1 : Int32) (v2 : Int32) : Option AH := if v1 = 0 then F_X12_says_244 N ah v1 v2 0 else xlet (5432 + 0) (fun x241 => xg v2 5 (F_X12_says_244 N ah v1 v2 (ah x241 (Int32.toNatClampNeg v2))))
def F_X12_says_221 (N : Nat) (k186 : AH → Int32 → Int32 → Int32 → Option AH) (ah : AH) (v1 : Int32) (v2 : Int32) (v3 : Int32) : Option AH := xlet (v3 + 1) (fun v3_221 => k186 ah v1 v2 v3_221)
def F_X12_says_186 (N : Nat) : Nat → AH → Int32 → Int32 → Int32 → Option AH
  | 0, _, _, _, _ => none
  | n + 1, ah, v1, v2, v3 => if v1 ≤ 0 then F_X12_says_227 N ah v1 v2 else if (ah 38 0) ≤ v3 then F_X12_says_227 N ah v1 v2 else xlet (5432 + 0) (fun x205 => xg v3 5 (xlet (5432 + 0) (fun x213 => xg v2 5 (if (ah x213 (Int32.toNatClampNeg v2)) ≤ (ah x205 (Int32.toNatClampNeg v3)) then F_X12_says_221 N (F_X12_says_186 N n) ah v1 v2 v3 else xlet v3 (fun v2_220 => F_X12_says_221 N (F_X12_says_186 N n) ah v1 v2_220 v3)))))
def F_X12_says_141 (N : Nat) (k29 : AH → Int32 → Int32 → Option AH) (k35 : AH → Int32 → Int32 → Int32 → Option AH) (ah : AH) (v1 : Int32) (v2 : Int32) (v3 : Int32) (v4 : Int32) (v5 : Int32) : Option AH := xg v2 41 (xlet (5432 + (Int32.toNatClampNeg v2)) (fun x146 => xg v2 40 (xlet (5392 + (Int32.toNatClampNeg v2)) (fun x153 => xg v3 5 (xg v3 5 (xlet (xu ah x146 (Int32.toNatClampNeg v3) ((ah x153 (Int32.toNatClampNeg v3)) + v5)) (fun a159 => xg v2 40 (xlet (5473 + (Int32.toNatClampNeg v2)) (fun x165 => xg v3 5 (xlet (xu a159 x165 (Int32.toNatClampNeg v3) v4) (fun a169 => xlet (v3 + 1) (fun v3_170 => k35 a169 v1 v2 v3_170))))))))))))
def F_X12_says_135 (N : Nat) (k29 : AH → Int32 → Int32 → Option AH) (k35 : AH → Int32 → Int32 → Int32 → Option AH) (k54 : AH → Int32 → Int32 → Int32 → Int32 → Int32 → Int32 → Option AH) (ah : AH) (v1 : Int32) (v2 : Int32) (v3 : Int32) (v4 : Int32) (v5 : Int32) (v6 : Int32) : Option AH := xlet (v6 + 1) (fun v6_135 => k54 ah v1 v2 v3 v4 v5 v6_135)
def F_X12_says_127 (N : Nat) (k29 : AH → Int32 → Int32 → Option AH) (k35 : AH → Int32 → Int32 → Int32 → Option AH) (k54 : AH → Int32 → Int32 → Int32 → Int32 → Int32 → Int32 → Option AH) (ah : AH) (v1 : Int32) (v2 : Int32) (v3 : Int32) (v6 : Int32) (v7 : Int32) : Option AH := xlet v6 (fun v4_129 => xlet v7 (fun v5_133 => F_X12_says_135 N k29 k35 k54 ah v1 v2 v3 v4_129 v5_133 v6))
def F_X12_says_54 (N : Nat) (k29 : AH → Int32 → Int32 → Option AH) (k35 : AH → Int32 → Int32 → Int32 → Option AH) : Nat → AH → Int32 → Int32 → Int32 → Int32 → Int32 → Int32 → Option AH
  | 0, _, _, _, _, _, _, _ => none
  | n + 1, ah, v1, v2, v3, v4, v5, v6 => if v1 ≤ (v2 + 1) then F_X12_says_141 N k29 k35 ah v1 v2 v3 v4 v5 else xg (v2 + 1) 40 (if (ah 38 (Int32.toNatClampNeg (v2 + 1))) ≤ v6 then F_X12_says_141 N k29 k35 ah v1 v2 v3 v4 v5 else xg v2 40 (xlet (5352 + (Int32.toNatClampNeg v2)) (fun x80 => xg v3 5 (xg (v2 + 1) 40 (xlet (5352 + (Int32.toNatClampNeg (v2 + 1))) (fun x90 => xg v6 5 (xb (F_X12_between N ah (ah x80 (Int32.toNatClampNeg v3)) (ah x90 (Int32.toNatClampNeg v6))) (fun r94 a94 => xg (v2 + 1) 41 (xlet (5432 + (Int32.toNatClampNeg (v2 + 1))) (fun x104 => xg v6 5 (xlet (r94 + (a94 x104 (Int32.toNatClampNeg v6))) (fun v7_109 => if v4 = ((-1)) then F_X12_says_127 N k29 k35 (F_X12_says_54 N k29 k35 n) a94 v1 v2 v3 v6 v7_109 else if v7_109 < v5 then F_X12_says_127 N k29 k35 (F_X12_says_54 N k29 k35 n) a94 v1 v2 v3 v6 v7_109 else F_X12_says_135 N k29 k35 (F_X12_says_54 N k29 k35 n) a94 v1 v2 v3 v4 v5 v6))))))))))))
def F_X12_says_35 (N : Nat) (k29 : AH → Int32 → Int32 → Option AH) : Nat → AH → Int32 → Int32 → Int32 → Option AH
  | 0, _, _, _, _ => none
  | n + 1, ah, v1, v2, v3 => xg v2 40 (if (ah 38 (Int32.toNatClampNeg v2)) ≤ v3 then xlet (v2 + (-1)) (fun v2_176 => k29 ah v1 v2_176) else xlet ((-1)) (fun v4_46 => xlet 0 (fun v5_49 => xlet 0 (fun v6_52 => F_X12_says_54 N k29 (F_X12_says_35 N k29 n) N ah v1 v2 v3 v4_46 v5_49 v6_52))))
def F_X12_says_29 (N : Nat) : Nat → AH → Int32 → Int32 → Option AH
  | 0, _, _, _ => none
  | n + 1, ah, v1, v2 => if v2 < 0 then xlet 0 (fun v2_183 => xlet 1 (fun v3_185 => F_X12_says_186 N N ah v1 v2_183 v3_185)) else xlet 0 (fun v3_34 => F_X12_says_35 N (F_X12_says_29 N n) N ah v1 v2 v3_34)
def F_X12_says_9 (N : Nat) : Nat → AH → Int32 → Int32 → Option AH
  | 0, _, _, _ => none
  | n + 1, ah, v1, v2 => if v1 ≤ v2 then xlet (v1 - 1) (fun v2_28 => F_X12_says_29 N N ah v1 v2_28) else xbv (F_X12_laysChoices N ah v2) (fun a16 => xlet (v2 + 1) (fun v2_19 => F_X12_says_9 N n a16 v1 v2_19))
def F_X12_says (N : Nat) (ah : AH) : Option AH := xlet (ah 16 0) (fun v1_6 => xlet 0 (fun v2_8 => F_X12_says_9 N N ah v1_6 v2_8))
theorem b_X12_says_249 (C : XC p l s m args meth c cX12_says 8 none RX12 D vwCl (tysM ca) (EM ad ca) NCM ad) {N : Nat} {o : AH} : ∀ (n : Nat) {ah : AH} {v1 : Int32} {v2 : Int32} {v3 : Int32}, F_X12_says_249 N n ah v1 v2 v3 = some o → XW p l e rm_X12_says s m args below meth c 8 0 (xQv below args s D vwCl (tysM ca) (EM ad ca) NCM ad o) D vwCl (EM ad ca) NCM ad ah 249 [(0, .ref (ad 0)), (1, .int v1), (2, .int v2), (3, .int v3)] [] := by
  intro n
  induction n with
  | zero => intro ah v1 v2 v3 h; unfold F_X12_says_249 at h; cases h
  | succ n ih =>
    intro ah v1 v2 v3 h
    unfold F_X12_says_249 at h
    refine x_iload_n C dX12_says_249 250 rfl 3 rfl ?_
    refine x_iload_n C dX12_says_250 251 rfl 1 rfl ?_
    refine x_icmp_ge C dX12_says_251 254 rfl 283 rfl h (fun h => ?_) (fun h => ?_)
    · exact x_vret C rfl dX12_says_283 h
    · refine x_aload_n C dX12_says_254 255 rfl 0 rfl ?_
      refine x_get C inX12 0 lm0 EM_0 rfl 61 (by decide) dX12_says_255 258 rfl wmf_X12_149 rfl ?_
      refine x_iload_n C dX12_says_258 259 rfl 3 rfl ?_
      refine x_aload_n C dX12_says_259 260 rfl 0 rfl ?_
      refine x_get C inX12 0 lm0 EM_0 rfl 57 (by decide) dX12_says_260 263 rfl wmf_X12_137 rfl ?_
      refine x_iload_n C dX12_says_263 264 rfl 3 rfl ?_
      refine x_aaldL C (39) lm39 EM_39 2 rfl rfl dX12_says_264 265 rfl (5352 + (Int32.toNatClampNeg v3)) rfl h (fun x264 ex264 hb264 h => ?_)
      have hx264 : mI x264 5 := ex264 ▸ mI_choice hb264
      refine x_iload_n C dX12_says_265 266 rfl 2 rfl ?_
      refine x_iald C x264 hx264.1 (hx264.2 _ _ _) 0 rfl dX12_says_266 267 rfl h (fun h => ?_)
      refine x_iast C 43 lm43 (fun _ => EM_43) 0 rfl dX12_says_267 268 rfl h (fun a267 h => ?_)
      refine x_aload_n C dX12_says_268 269 rfl 0 rfl ?_
      refine x_get C inX12 0 lm0 EM_0 rfl 60 (by decide) dX12_says_269 272 rfl wmf_X12_146 rfl ?_
      refine x_iload_n C dX12_says_272 273 rfl 3 rfl ?_
      refine x_aaldL C (42) lm42 EM_42 2 rfl rfl dX12_says_273 274 rfl (5473 + (Int32.toNatClampNeg v3)) rfl h (fun x273 ex273 hb273 h => ?_)
      have hx273 : mI x273 5 := ex273 ▸ mI_chosen hb273
      refine x_iload_n C dX12_says_274 275 rfl 2 rfl ?_
      refine x_iald C x273 hx273.1 (hx273.2 _ _ _) 0 rfl dX12_says_275 276 rfl h (fun h => ?_)
      refine x_istore_n C dX12_says_276 277 rfl (by decide) (fun v2_276 => [(2, .int v2_276), (0, .ref (ad 0)), (1, .int v1), (3, .int v3)]) (fun _ => rfl) h (fun v2_276 h => ?_)
      refine x_iinc C dX12_says_277 280 rfl 3 rfl (d := 1) rfl (by decide) (fun v3_277 => [(3, .int v3_277), (2, .int v2_276), (0, .ref (ad 0)), (1, .int v1)]) (fun _ => rfl) h (fun v3_277 h => ?_)
      refine x_goto C dX12_says_280 249 rfl ?_
      exact x_sub [2, 3, 1, 0] rfl (ih h)
theorem b_X12_says_244 (C : XC p l s m args meth c cX12_says 8 none RX12 D vwCl (tysM ca) (EM ad ca) NCM ad) {N : Nat} {o : AH} {ah : AH} {v1 : Int32} {v2 : Int32} {s1 : Int32} (h : F_X12_says_244 N ah v1 v2 s1 = some o) : XW p l e rm_X12_says s m args below meth c 8 0 (xQv below args s D vwCl (tysM ca) (EM ad ca) NCM ad o) D vwCl (EM ad ca) NCM ad ah 244 [(0, .ref (ad 0)), (1, .int v1), (2, .int v2)] [.int s1, .ref (ad 0)] := by
  unfold F_X12_says_244 at h
  refine x_put C inX12 0 lm0 EM_0 rfl 62 (by decide) tyX12_ok nmX12 dX12_says_244 247 rfl wmf_X12_420 rfl rfl rfl (Nat.le_of_ble_eq_true rfl) EQ_0_62 h (fun a244 h => ?_)
  refine x_iconst C dX12_says_247 248 rfl 0 rfl ?_
  refine x_istore_n C dX12_says_248 249 rfl (by decide) (fun v3_248 => [(3, .int v3_248), (0, .ref (ad 0)), (1, .int v1), (2, .int v2)]) (fun _ => rfl) h (fun v3_248 h => ?_)
  exact x_sub [1, 2, 3, 0] rfl (b_X12_says_249 C  N h)
theorem b_X12_says_227 (C : XC p l s m args meth c cX12_says 8 none RX12 D vwCl (tysM ca) (EM ad ca) NCM ad) {N : Nat} {o : AH} {ah : AH} {v1 : Int32} {v2 : Int32} (h : F_X12_says_227 N ah v1 v2 = some o) : XW p l e rm_X12_says s m args below meth c 8 0 (xQv below args s D vwCl (tysM ca) (EM ad ca) NCM ad o) D vwCl (EM ad ca) NCM ad ah 227 [(0, .ref (ad 0)), (1, .int v1), (2, .int v2)] [] := by
  unfold F_X12_says_227 at h
  refine x_aload_n C dX12_says_227 228 rfl 0 rfl ?_
  refine x_iload_n C dX12_says_228 229 rfl 1 rfl ?_
  refine x_if_ne C dX12_says_229 232 rfl 236 rfl h (fun h => ?_) (fun h => ?_)
  · refine x_aload_n C dX12_says_236 237 rfl 0 rfl ?_
    refine x_get C inX12 0 lm0 EM_0 rfl 59 (by decide) dX12_says_237 240 rfl wmf_X12_143 rfl ?_
    refine x_iconst C dX12_says_240 241 rfl 0 rfl ?_
    refine x_aaldLK C (41) lm41 EM_41 2 rfl rfl (by decide) 0 (by decide) dX12_says_241 242 rfl (5432 + 0) rfl h (fun x241 ex241 h => ?_)
    have hx241 : mI x241 5 := ex241 ▸ mI_onFrom (show 0 < 41 by decide)
    refine x_iload_n C dX12_says_242 243 rfl 2 rfl ?_
    refine x_iald C x241 hx241.1 (hx241.2 _ _ _) 0 rfl dX12_says_243 244 rfl h (fun h => ?_)
    exact b_X12_says_244 C  h
  · refine x_iconst C dX12_says_232 233 rfl 0 rfl ?_
    refine x_goto C dX12_says_233 244 rfl ?_
    exact b_X12_says_244 C  h
theorem b_X12_says_221 (C : XC p l s m args meth c cX12_says 8 none RX12 D vwCl (tysM ca) (EM ad ca) NCM ad) {N : Nat} {o : AH} {k186 : AH → Int32 → Int32 → Int32 → Option AH} (hk186 : ∀ (ah : AH) (v1 : Int32) (v2 : Int32) (v3 : Int32), k186 ah v1 v2 v3 = some o → XW p l e rm_X12_says s m args below meth c 8 0 (xQv below args s D vwCl (tysM ca) (EM ad ca) NCM ad o) D vwCl (EM ad ca) NCM ad ah 186 [(0, .ref (ad 0)), (1, .int v1), (2, .int v2), (3, .int v3)] []) {ah : AH} {v1 : Int32} {v2 : Int32} {v3 : Int32} (h : F_X12_says_221 N k186 ah v1 v2 v3 = some o) : XW p l e rm_X12_says s m args below meth c 8 0 (xQv below args s D vwCl (tysM ca) (EM ad ca) NCM ad o) D vwCl (EM ad ca) NCM ad ah 221 [(0, .ref (ad 0)), (1, .int v1), (2, .int v2), (3, .int v3)] [] := by
  unfold F_X12_says_221 at h
  refine x_iinc C dX12_says_221 224 rfl 3 rfl (d := 1) rfl (by decide) (fun v3_221 => [(3, .int v3_221), (0, .ref (ad 0)), (1, .int v1), (2, .int v2)]) (fun _ => rfl) h (fun v3_221 h => ?_)
  refine x_goto C dX12_says_224 186 rfl ?_
  exact x_sub [1, 2, 3, 0] rfl (hk186 _ _ _ _ h)
theorem b_X12_says_186 (C : XC p l s m args meth c cX12_says 8 none RX12 D vwCl (tysM ca) (EM ad ca) NCM ad) {N : Nat} {o : AH} : ∀ (n : Nat) {ah : AH} {v1 : Int32} {v2 : Int32} {v3 : Int32}, F_X12_says_186 N n ah v1 v2 v3 = some o → XW p l e rm_X12_says s m args below meth c 8 0 (xQv below args s D vwCl (tysM ca) (EM ad ca) NCM ad o) D vwCl (EM ad ca) NCM ad ah 186 [(0, .ref (ad 0)), (1, .int v1), (2, .int v2), (3, .int v3)] [] := by
  intro n
  induction n with
  | zero => intro ah v1 v2 v3 h; unfold F_X12_says_186 at h; cases h
  | succ n ih =>
    intro ah v1 v2 v3 h
    unfold F_X12_says_186 at h
    refine x_iload_n C dX12_says_186 187 rfl 1 rfl ?_
    refine x_if_le C dX12_says_187 190 rfl 227 rfl h (fun h => ?_) (fun h => ?_)
    · exact x_sub [0, 1, 2] rfl (b_X12_says_227 C  h)
    · refine x_iload_n C dX12_says_190 191 rfl 3 rfl ?_
      refine x_aload_n C dX12_says_191 192 rfl 0 rfl ?_
      refine x_get C inX12 0 lm0 EM_0 rfl 56 (by decide) dX12_says_192 195 rfl wmf_X12_134 rfl ?_
      refine x_iconst C dX12_says_195 196 rfl 0 rfl ?_
      refine x_ialdK C 38 lm38 EM_38 0 rfl dX12_says_196 197 rfl (by decide) 0 (by decide) ?_
      refine x_icmp_ge C dX12_says_197 200 rfl 227 rfl h (fun h => ?_) (fun h => ?_)
      · exact x_sub [0, 1, 2] rfl (b_X12_says_227 C  h)
      · refine x_aload_n C dX12_says_200 201 rfl 0 rfl ?_
        refine x_get C inX12 0 lm0 EM_0 rfl 59 (by decide) dX12_says_201 204 rfl wmf_X12_143 rfl ?_
        refine x_iconst C dX12_says_204 205 rfl 0 rfl ?_
        refine x_aaldLK C (41) lm41 EM_41 2 rfl rfl (by decide) 0 (by decide) dX12_says_205 206 rfl (5432 + 0) rfl h (fun x205 ex205 h => ?_)
        have hx205 : mI x205 5 := ex205 ▸ mI_onFrom (show 0 < 41 by decide)
        refine x_iload_n C dX12_says_206 207 rfl 3 rfl ?_
        refine x_iald C x205 hx205.1 (hx205.2 _ _ _) 0 rfl dX12_says_207 208 rfl h (fun h => ?_)
        refine x_aload_n C dX12_says_208 209 rfl 0 rfl ?_
        refine x_get C inX12 0 lm0 EM_0 rfl 59 (by decide) dX12_says_209 212 rfl wmf_X12_143 rfl ?_
        refine x_iconst C dX12_says_212 213 rfl 0 rfl ?_
        refine x_aaldLK C (41) lm41 EM_41 2 rfl rfl (by decide) 0 (by decide) dX12_says_213 214 rfl (5432 + 0) rfl h (fun x213 ex213 h => ?_)
        have hx213 : mI x213 5 := ex213 ▸ mI_onFrom (show 0 < 41 by decide)
        refine x_iload_n C dX12_says_214 215 rfl 2 rfl ?_
        refine x_iald C x213 hx213.1 (hx213.2 _ _ _) 0 rfl dX12_says_215 216 rfl h (fun h => ?_)
        refine x_icmp_ge C dX12_says_216 219 rfl 221 rfl h (fun h => ?_) (fun h => ?_)
        · exact b_X12_says_221 C (fun _ _ _ _ h => ih h) h
        · refine x_iload_n C dX12_says_219 220 rfl 3 rfl ?_
          refine x_istore_n C dX12_says_220 221 rfl (by decide) (fun v2_220 => [(2, .int v2_220), (0, .ref (ad 0)), (1, .int v1), (3, .int v3)]) (fun _ => rfl) h (fun v2_220 h => ?_)
          exact x_sub [1, 2, 0, 3] rfl (b_X12_says_221 C (fun _ _ _ _ h => ih h) h)
theorem b_X12_says_141 (C : XC p l s m args meth c cX12_says 8 none RX12 D vwCl (tysM ca) (EM ad ca) NCM ad) {N : Nat} {o : AH} {k29 : AH → Int32 → Int32 → Option AH} (hk29 : ∀ (ah : AH) (v1 : Int32) (v2 : Int32), k29 ah v1 v2 = some o → XW p l e rm_X12_says s m args below meth c 8 0 (xQv below args s D vwCl (tysM ca) (EM ad ca) NCM ad o) D vwCl (EM ad ca) NCM ad ah 29 [(0, .ref (ad 0)), (1, .int v1), (2, .int v2)] []) {k35 : AH → Int32 → Int32 → Int32 → Option AH} (hk35 : ∀ (ah : AH) (v1 : Int32) (v2 : Int32) (v3 : Int32), k35 ah v1 v2 v3 = some o → XW p l e rm_X12_says s m args below meth c 8 0 (xQv below args s D vwCl (tysM ca) (EM ad ca) NCM ad o) D vwCl (EM ad ca) NCM ad ah 35 [(0, .ref (ad 0)), (1, .int v1), (2, .int v2), (3, .int v3)] []) {ah : AH} {v1 : Int32} {v2 : Int32} {v3 : Int32} {v4 : Int32} {v5 : Int32} (h : F_X12_says_141 N k29 k35 ah v1 v2 v3 v4 v5 = some o) : XW p l e rm_X12_says s m args below meth c 8 0 (xQv below args s D vwCl (tysM ca) (EM ad ca) NCM ad o) D vwCl (EM ad ca) NCM ad ah 141 [(0, .ref (ad 0)), (1, .int v1), (2, .int v2), (3, .int v3), (4, .int v4), (5, .int v5)] [] := by
  unfold F_X12_says_141 at h
  refine x_aload_n C dX12_says_141 142 rfl 0 rfl ?_
  refine x_get C inX12 0 lm0 EM_0 rfl 59 (by decide) dX12_says_142 145 rfl wmf_X12_143 rfl ?_
  refine x_iload_n C dX12_says_145 146 rfl 2 rfl ?_
  refine x_aaldL C (41) lm41 EM_41 2 rfl rfl dX12_says_146 147 rfl (5432 + (Int32.toNatClampNeg v2)) rfl h (fun x146 ex146 hb146 h => ?_)
  have hx146 : mI x146 5 := ex146 ▸ mI_onFrom hb146
  refine x_iload_n C dX12_says_147 148 rfl 3 rfl ?_
  refine x_aload_n C dX12_says_148 149 rfl 0 rfl ?_
  refine x_get C inX12 0 lm0 EM_0 rfl 58 (by decide) dX12_says_149 152 rfl wmf_X12_140 rfl ?_
  refine x_iload_n C dX12_says_152 153 rfl 2 rfl ?_
  refine x_aaldL C (40) lm40 EM_40 2 rfl rfl dX12_says_153 154 rfl (5392 + (Int32.toNatClampNeg v2)) rfl h (fun x153 ex153 hb153 h => ?_)
  have hx153 : mI x153 5 := ex153 ▸ mI_choiceAt hb153
  refine x_iload_n C dX12_says_154 155 rfl 3 rfl ?_
  refine x_iald C x153 hx153.1 (hx153.2 _ _ _) 0 rfl dX12_says_155 156 rfl h (fun h => ?_)
  refine x_iload C dX12_says_156 158 rfl 5 rfl ?_
  refine x_iadd C dX12_says_158 159 rfl ?_
  refine x_iast C x146 hx146.1 (hx146.2 _ _) 0 rfl dX12_says_159 160 rfl h (fun a159 h => ?_)
  refine x_aload_n C dX12_says_160 161 rfl 0 rfl ?_
  refine x_get C inX12 0 lm0 EM_0 rfl 60 (by decide) dX12_says_161 164 rfl wmf_X12_146 rfl ?_
  refine x_iload_n C dX12_says_164 165 rfl 2 rfl ?_
  refine x_aaldL C (42) lm42 EM_42 2 rfl rfl dX12_says_165 166 rfl (5473 + (Int32.toNatClampNeg v2)) rfl h (fun x165 ex165 hb165 h => ?_)
  have hx165 : mI x165 5 := ex165 ▸ mI_chosen hb165
  refine x_iload_n C dX12_says_166 167 rfl 3 rfl ?_
  refine x_iload C dX12_says_167 169 rfl 4 rfl ?_
  refine x_iast C x165 hx165.1 (hx165.2 _ _) 0 rfl dX12_says_169 170 rfl h (fun a169 h => ?_)
  refine x_iinc C dX12_says_170 173 rfl 3 rfl (d := 1) rfl (by decide) (fun v3_170 => [(3, .int v3_170), (0, .ref (ad 0)), (1, .int v1), (2, .int v2), (4, .int v4), (5, .int v5)]) (fun _ => rfl) h (fun v3_170 h => ?_)
  refine x_goto C dX12_says_173 35 rfl ?_
  exact x_sub [1, 2, 3, 0] rfl (hk35 _ _ _ _ h)
theorem b_X12_says_135 (C : XC p l s m args meth c cX12_says 8 none RX12 D vwCl (tysM ca) (EM ad ca) NCM ad) {N : Nat} {o : AH} {k29 : AH → Int32 → Int32 → Option AH} (hk29 : ∀ (ah : AH) (v1 : Int32) (v2 : Int32), k29 ah v1 v2 = some o → XW p l e rm_X12_says s m args below meth c 8 0 (xQv below args s D vwCl (tysM ca) (EM ad ca) NCM ad o) D vwCl (EM ad ca) NCM ad ah 29 [(0, .ref (ad 0)), (1, .int v1), (2, .int v2)] []) {k35 : AH → Int32 → Int32 → Int32 → Option AH} (hk35 : ∀ (ah : AH) (v1 : Int32) (v2 : Int32) (v3 : Int32), k35 ah v1 v2 v3 = some o → XW p l e rm_X12_says s m args below meth c 8 0 (xQv below args s D vwCl (tysM ca) (EM ad ca) NCM ad o) D vwCl (EM ad ca) NCM ad ah 35 [(0, .ref (ad 0)), (1, .int v1), (2, .int v2), (3, .int v3)] []) {k54 : AH → Int32 → Int32 → Int32 → Int32 → Int32 → Int32 → Option AH} (hk54 : ∀ (ah : AH) (v1 : Int32) (v2 : Int32) (v3 : Int32) (v4 : Int32) (v5 : Int32) (v6 : Int32), k54 ah v1 v2 v3 v4 v5 v6 = some o → XW p l e rm_X12_says s m args below meth c 8 0 (xQv below args s D vwCl (tysM ca) (EM ad ca) NCM ad o) D vwCl (EM ad ca) NCM ad ah 54 [(0, .ref (ad 0)), (1, .int v1), (2, .int v2), (3, .int v3), (4, .int v4), (5, .int v5), (6, .int v6)] []) {ah : AH} {v1 : Int32} {v2 : Int32} {v3 : Int32} {v4 : Int32} {v5 : Int32} {v6 : Int32} (h : F_X12_says_135 N k29 k35 k54 ah v1 v2 v3 v4 v5 v6 = some o) : XW p l e rm_X12_says s m args below meth c 8 0 (xQv below args s D vwCl (tysM ca) (EM ad ca) NCM ad o) D vwCl (EM ad ca) NCM ad ah 135 [(0, .ref (ad 0)), (1, .int v1), (2, .int v2), (3, .int v3), (4, .int v4), (5, .int v5), (6, .int v6)] [] := by
  unfold F_X12_says_135 at h
  refine x_iinc C dX12_says_135 138 rfl 6 rfl (d := 1) rfl (by decide) (fun v6_135 => [(6, .int v6_135), (0, .ref (ad 0)), (1, .int v1), (2, .int v2), (3, .int v3), (4, .int v4), (5, .int v5)]) (fun _ => rfl) h (fun v6_135 h => ?_)
  refine x_goto C dX12_says_138 54 rfl ?_
  exact x_sub [1, 2, 3, 4, 5, 6, 0] rfl (hk54 _ _ _ _ _ _ _ h)
theorem b_X12_says_127 (C : XC p l s m args meth c cX12_says 8 none RX12 D vwCl (tysM ca) (EM ad ca) NCM ad) {N : Nat} {o : AH} {k29 : AH → Int32 → Int32 → Option AH} (hk29 : ∀ (ah : AH) (v1 : Int32) (v2 : Int32), k29 ah v1 v2 = some o → XW p l e rm_X12_says s m args below meth c 8 0 (xQv below args s D vwCl (tysM ca) (EM ad ca) NCM ad o) D vwCl (EM ad ca) NCM ad ah 29 [(0, .ref (ad 0)), (1, .int v1), (2, .int v2)] []) {k35 : AH → Int32 → Int32 → Int32 → Option AH} (hk35 : ∀ (ah : AH) (v1 : Int32) (v2 : Int32) (v3 : Int32), k35 ah v1 v2 v3 = some o → XW p l e rm_X12_says s m args below meth c 8 0 (xQv below args s D vwCl (tysM ca) (EM ad ca) NCM ad o) D vwCl (EM ad ca) NCM ad ah 35 [(0, .ref (ad 0)), (1, .int v1), (2, .int v2), (3, .int v3)] []) {k54 : AH → Int32 → Int32 → Int32 → Int32 → Int32 → Int32 → Option AH} (hk54 : ∀ (ah : AH) (v1 : Int32) (v2 : Int32) (v3 : Int32) (v4 : Int32) (v5 : Int32) (v6 : Int32), k54 ah v1 v2 v3 v4 v5 v6 = some o → XW p l e rm_X12_says s m args below meth c 8 0 (xQv below args s D vwCl (tysM ca) (EM ad ca) NCM ad o) D vwCl (EM ad ca) NCM ad ah 54 [(0, .ref (ad 0)), (1, .int v1), (2, .int v2), (3, .int v3), (4, .int v4), (5, .int v5), (6, .int v6)] []) {ah : AH} {v1 : Int32} {v2 : Int32} {v3 : Int32} {v6 : Int32} {v7 : Int32} (h : F_X12_says_127 N k29 k35 k54 ah v1 v2 v3 v6 v7 = some o) : XW p l e rm_X12_says s m args below meth c 8 0 (xQv below args s D vwCl (tysM ca) (EM ad ca) NCM ad o) D vwCl (EM ad ca) NCM ad ah 127 [(0, .ref (ad 0)), (1, .int v1), (2, .int v2), (3, .int v3), (6, .int v6), (7, .int v7)] [] := by
  unfold F_X12_says_127 at h
  refine x_iload C dX12_says_127 129 rfl 4 rfl ?_
  refine x_istore C dX12_says_129 131 rfl (by decide) (fun v4_129 => [(4, .int v4_129), (0, .ref (ad 0)), (1, .int v1), (2, .int v2), (3, .int v3), (6, .int v6), (7, .int v7)]) (fun _ => rfl) h (fun v4_129 h => ?_)
  refine x_iload C dX12_says_131 133 rfl 6 rfl ?_
  refine x_istore C dX12_says_133 135 rfl (by decide) (fun v5_133 => [(5, .int v5_133), (4, .int v4_129), (0, .ref (ad 0)), (1, .int v1), (2, .int v2), (3, .int v3), (6, .int v6), (7, .int v7)]) (fun _ => rfl) h (fun v5_133 h => ?_)
  exact x_sub [2, 3, 4, 5, 1, 0, 6] rfl (b_X12_says_135 C hk29 hk35 hk54 h)
theorem b_X12_says_54 (C : XC p l s m args meth c cX12_says 8 none RX12 D vwCl (tysM ca) (EM ad ca) NCM ad) {N : Nat} {o : AH} {k29 : AH → Int32 → Int32 → Option AH} (hk29 : ∀ (ah : AH) (v1 : Int32) (v2 : Int32), k29 ah v1 v2 = some o → XW p l e rm_X12_says s m args below meth c 8 0 (xQv below args s D vwCl (tysM ca) (EM ad ca) NCM ad o) D vwCl (EM ad ca) NCM ad ah 29 [(0, .ref (ad 0)), (1, .int v1), (2, .int v2)] []) {k35 : AH → Int32 → Int32 → Int32 → Option AH} (hk35 : ∀ (ah : AH) (v1 : Int32) (v2 : Int32) (v3 : Int32), k35 ah v1 v2 v3 = some o → XW p l e rm_X12_says s m args below meth c 8 0 (xQv below args s D vwCl (tysM ca) (EM ad ca) NCM ad o) D vwCl (EM ad ca) NCM ad ah 35 [(0, .ref (ad 0)), (1, .int v1), (2, .int v2), (3, .int v3)] []) : ∀ (n : Nat) {ah : AH} {v1 : Int32} {v2 : Int32} {v3 : Int32} {v4 : Int32} {v5 : Int32} {v6 : Int32}, F_X12_says_54 N k29 k35 n ah v1 v2 v3 v4 v5 v6 = some o → XW p l e rm_X12_says s m args below meth c 8 0 (xQv below args s D vwCl (tysM ca) (EM ad ca) NCM ad o) D vwCl (EM ad ca) NCM ad ah 54 [(0, .ref (ad 0)), (1, .int v1), (2, .int v2), (3, .int v3), (4, .int v4), (5, .int v5), (6, .int v6)] [] := by
  intro n
  induction n with
  | zero => intro ah v1 v2 v3 v4 v5 v6 h; unfold F_X12_says_54 at h; cases h
  | succ n ih =>
    intro ah v1 v2 v3 v4 v5 v6 h
    unfold F_X12_says_54 at h
    refine x_iload_n C dX12_says_54 55 rfl 2 rfl ?_
    refine x_iconst C dX12_says_55 56 rfl 1 rfl ?_
    refine x_iadd C dX12_says_56 57 rfl ?_
    refine x_iload_n C dX12_says_57 58 rfl 1 rfl ?_
    refine x_icmp_ge C dX12_says_58 61 rfl 141 rfl h (fun h => ?_) (fun h => ?_)
    · exact x_sub [0, 1, 2, 3, 4, 5] rfl (b_X12_says_141 C hk29 hk35 h)
    · refine x_iload C dX12_says_61 63 rfl 6 rfl ?_
      refine x_aload_n C dX12_says_63 64 rfl 0 rfl ?_
      refine x_get C inX12 0 lm0 EM_0 rfl 56 (by decide) dX12_says_64 67 rfl wmf_X12_134 rfl ?_
      refine x_iload_n C dX12_says_67 68 rfl 2 rfl ?_
      refine x_iconst C dX12_says_68 69 rfl 1 rfl ?_
      refine x_iadd C dX12_says_69 70 rfl ?_
      refine x_iald C 38 lm38 EM_38 0 rfl dX12_says_70 71 rfl h (fun h => ?_)
      refine x_icmp_ge C dX12_says_71 74 rfl 141 rfl h (fun h => ?_) (fun h => ?_)
      · exact x_sub [0, 1, 2, 3, 4, 5] rfl (b_X12_says_141 C hk29 hk35 h)
      · refine x_aload_n C dX12_says_74 75 rfl 0 rfl ?_
        refine x_aload_n C dX12_says_75 76 rfl 0 rfl ?_
        refine x_get C inX12 0 lm0 EM_0 rfl 57 (by decide) dX12_says_76 79 rfl wmf_X12_137 rfl ?_
        refine x_iload_n C dX12_says_79 80 rfl 2 rfl ?_
        refine x_aaldL C (39) lm39 EM_39 2 rfl rfl dX12_says_80 81 rfl (5352 + (Int32.toNatClampNeg v2)) rfl h (fun x80 ex80 hb80 h => ?_)
        have hx80 : mI x80 5 := ex80 ▸ mI_choice hb80
        refine x_iload_n C dX12_says_81 82 rfl 3 rfl ?_
        refine x_iald C x80 hx80.1 (hx80.2 _ _ _) 0 rfl dX12_says_82 83 rfl h (fun h => ?_)
        refine x_aload_n C dX12_says_83 84 rfl 0 rfl ?_
        refine x_get C inX12 0 lm0 EM_0 rfl 57 (by decide) dX12_says_84 87 rfl wmf_X12_137 rfl ?_
        refine x_iload_n C dX12_says_87 88 rfl 2 rfl ?_
        refine x_iconst C dX12_says_88 89 rfl 1 rfl ?_
        refine x_iadd C dX12_says_89 90 rfl ?_
        refine x_aaldL C (39) lm39 EM_39 2 rfl rfl dX12_says_90 91 rfl (5352 + (Int32.toNatClampNeg (v2 + 1))) rfl h (fun x90 ex90 hb90 h => ?_)
        have hx90 : mI x90 5 := ex90 ▸ mI_choice hb90
        refine x_iload C dX12_says_91 93 rfl 6 rfl ?_
        refine x_iald C x90 hx90.1 (hx90.2 _ _ _) 0 rfl dX12_says_93 94 rfl h (fun h => ?_)
        obtain ⟨r94, a94, hq, h⟩ := xb_some h
        refine x_callVi C 0 (c_X12_between C.2.2.2.2.2.2.1 hq) lm0 EM_0 rfl wml_X12_417 wq_X12_between rfl ⟨by decide, by decide⟩ rfl rfl ⟨by decide, by decide⟩ dX12_says_94 97 rfl rfl (Nat.le_of_ble_eq_true rfl) ?_
        refine x_aload_n C dX12_says_97 98 rfl 0 rfl ?_
        refine x_get C inX12 0 lm0 EM_0 rfl 59 (by decide) dX12_says_98 101 rfl wmf_X12_143 rfl ?_
        refine x_iload_n C dX12_says_101 102 rfl 2 rfl ?_
        refine x_iconst C dX12_says_102 103 rfl 1 rfl ?_
        refine x_iadd C dX12_says_103 104 rfl ?_
        refine x_aaldL C (41) lm41 EM_41 2 rfl rfl dX12_says_104 105 rfl (5432 + (Int32.toNatClampNeg (v2 + 1))) rfl h (fun x104 ex104 hb104 h => ?_)
        have hx104 : mI x104 5 := ex104 ▸ mI_onFrom hb104
        refine x_iload C dX12_says_105 107 rfl 6 rfl ?_
        refine x_iald C x104 hx104.1 (hx104.2 _ _ _) 0 rfl dX12_says_107 108 rfl h (fun h => ?_)
        refine x_iadd C dX12_says_108 109 rfl ?_
        refine x_istore C dX12_says_109 111 rfl (by decide) (fun v7_109 => [(7, .int v7_109), (0, .ref (ad 0)), (1, .int v1), (2, .int v2), (3, .int v3), (4, .int v4), (5, .int v5), (6, .int v6)]) (fun _ => rfl) h (fun v7_109 h => ?_)
        refine x_iload C dX12_says_111 113 rfl 5 rfl ?_
        refine x_iconst C dX12_says_113 114 rfl (-1) rfl ?_
        refine x_icmp_eq C dX12_says_114 117 rfl 127 rfl h (fun h => ?_) (fun h => ?_)
        · exact x_sub [1, 2, 3, 4, 7, 0] rfl (b_X12_says_127 C hk29 hk35 (fun _ _ _ _ _ _ _ h => ih h) h)
        · refine x_iload C dX12_says_117 119 rfl 0 rfl ?_
          refine x_iload C dX12_says_119 121 rfl 6 rfl ?_
          refine x_icmp_lt C dX12_says_121 124 rfl 127 rfl h (fun h => ?_) (fun h => ?_)
          · exact x_sub [1, 2, 3, 4, 7, 0] rfl (b_X12_says_127 C hk29 hk35 (fun _ _ _ _ _ _ _ h => ih h) h)
          · refine x_goto C dX12_says_124 135 rfl ?_
            exact x_sub [1, 2, 3, 4, 5, 6, 7] rfl (b_X12_says_135 C hk29 hk35 (fun _ _ _ _ _ _ _ h => ih h) h)
theorem b_X12_says_35 (C : XC p l s m args meth c cX12_says 8 none RX12 D vwCl (tysM ca) (EM ad ca) NCM ad) {N : Nat} {o : AH} {k29 : AH → Int32 → Int32 → Option AH} (hk29 : ∀ (ah : AH) (v1 : Int32) (v2 : Int32), k29 ah v1 v2 = some o → XW p l e rm_X12_says s m args below meth c 8 0 (xQv below args s D vwCl (tysM ca) (EM ad ca) NCM ad o) D vwCl (EM ad ca) NCM ad ah 29 [(0, .ref (ad 0)), (1, .int v1), (2, .int v2)] []) : ∀ (n : Nat) {ah : AH} {v1 : Int32} {v2 : Int32} {v3 : Int32}, F_X12_says_35 N k29 n ah v1 v2 v3 = some o → XW p l e rm_X12_says s m args below meth c 8 0 (xQv below args s D vwCl (tysM ca) (EM ad ca) NCM ad o) D vwCl (EM ad ca) NCM ad ah 35 [(0, .ref (ad 0)), (1, .int v1), (2, .int v2), (3, .int v3)] [] := by
  intro n
  induction n with
  | zero => intro ah v1 v2 v3 h; unfold F_X12_says_35 at h; cases h
  | succ n ih =>
    intro ah v1 v2 v3 h
    unfold F_X12_says_35 at h
    refine x_iload_n C dX12_says_35 36 rfl 3 rfl ?_
    refine x_aload_n C dX12_says_36 37 rfl 0 rfl ?_
    refine x_get C inX12 0 lm0 EM_0 rfl 56 (by decide) dX12_says_37 40 rfl wmf_X12_134 rfl ?_
    refine x_iload_n C dX12_says_40 41 rfl 2 rfl ?_
    refine x_iald C 38 lm38 EM_38 0 rfl dX12_says_41 42 rfl h (fun h => ?_)
    refine x_icmp_ge C dX12_says_42 45 rfl 176 rfl h (fun h => ?_) (fun h => ?_)
    · refine x_iinc C dX12_says_176 179 rfl 2 rfl (d := (-1)) rfl (by decide) (fun v2_176 => [(2, .int v2_176), (0, .ref (ad 0)), (1, .int v1), (3, .int v3)]) (fun _ => rfl) h (fun v2_176 h => ?_)
      refine x_goto C dX12_says_179 29 rfl ?_
      exact x_sub [1, 2, 0] rfl (hk29 _ _ _ h)
    · refine x_iconst C dX12_says_45 46 rfl (-1) rfl ?_
      refine x_istore C dX12_says_46 48 rfl (by decide) (fun v4_46 => [(4, .int v4_46), (0, .ref (ad 0)), (1, .int v1), (2, .int v2), (3, .int v3)]) (fun _ => rfl) h (fun v4_46 h => ?_)
      refine x_iconst C dX12_says_48 49 rfl 0 rfl ?_
      refine x_istore C dX12_says_49 51 rfl (by decide) (fun v5_49 => [(5, .int v5_49), (4, .int v4_46), (0, .ref (ad 0)), (1, .int v1), (2, .int v2), (3, .int v3)]) (fun _ => rfl) h (fun v5_49 h => ?_)
      refine x_iconst C dX12_says_51 52 rfl 0 rfl ?_
      refine x_istore C dX12_says_52 54 rfl (by decide) (fun v6_52 => [(6, .int v6_52), (5, .int v5_49), (4, .int v4_46), (0, .ref (ad 0)), (1, .int v1), (2, .int v2), (3, .int v3)]) (fun _ => rfl) h (fun v6_52 h => ?_)
      exact x_sub [3, 4, 5, 6, 2, 1, 0] rfl (b_X12_says_54 C hk29 (fun _ _ _ _ h => ih h) N h)
theorem b_X12_says_29 (C : XC p l s m args meth c cX12_says 8 none RX12 D vwCl (tysM ca) (EM ad ca) NCM ad) {N : Nat} {o : AH} : ∀ (n : Nat) {ah : AH} {v1 : Int32} {v2 : Int32}, F_X12_says_29 N n ah v1 v2 = some o → XW p l e rm_X12_says s m args below meth c 8 0 (xQv below args s D vwCl (tysM ca) (EM ad ca) NCM ad o) D vwCl (EM ad ca) NCM ad ah 29 [(0, .ref (ad 0)), (1, .int v1), (2, .int v2)] [] := by
  intro n
  induction n with
  | zero => intro ah v1 v2 h; unfold F_X12_says_29 at h; cases h
  | succ n ih =>
    intro ah v1 v2 h
    unfold F_X12_says_29 at h
    refine x_iload_n C dX12_says_29 30 rfl 2 rfl ?_
    refine x_if_lt C dX12_says_30 33 rfl 182 rfl h (fun h => ?_) (fun h => ?_)
    · refine x_iconst C dX12_says_182 183 rfl 0 rfl ?_
      refine x_istore_n C dX12_says_183 184 rfl (by decide) (fun v2_183 => [(2, .int v2_183), (0, .ref (ad 0)), (1, .int v1)]) (fun _ => rfl) h (fun v2_183 h => ?_)
      refine x_iconst C dX12_says_184 185 rfl 1 rfl ?_
      refine x_istore_n C dX12_says_185 186 rfl (by decide) (fun v3_185 => [(3, .int v3_185), (2, .int v2_183), (0, .ref (ad 0)), (1, .int v1)]) (fun _ => rfl) h (fun v3_185 h => ?_)
      exact x_sub [2, 3, 1, 0] rfl (b_X12_says_186 C  N h)
    · refine x_iconst C dX12_says_33 34 rfl 0 rfl ?_
      refine x_istore_n C dX12_says_34 35 rfl (by decide) (fun v3_34 => [(3, .int v3_34), (0, .ref (ad 0)), (1, .int v1), (2, .int v2)]) (fun _ => rfl) h (fun v3_34 h => ?_)
      exact x_sub [1, 2, 3, 0] rfl (b_X12_says_35 C (fun _ _ _ h => ih h) N h)
theorem b_X12_says_9 (C : XC p l s m args meth c cX12_says 8 none RX12 D vwCl (tysM ca) (EM ad ca) NCM ad) {N : Nat} {o : AH} : ∀ (n : Nat) {ah : AH} {v1 : Int32} {v2 : Int32}, F_X12_says_9 N n ah v1 v2 = some o → XW p l e rm_X12_says s m args below meth c 8 0 (xQv below args s D vwCl (tysM ca) (EM ad ca) NCM ad o) D vwCl (EM ad ca) NCM ad ah 9 [(0, .ref (ad 0)), (1, .int v1), (2, .int v2)] [] := by
  intro n
  induction n with
  | zero => intro ah v1 v2 h; unfold F_X12_says_9 at h; cases h
  | succ n ih =>
    intro ah v1 v2 h
    unfold F_X12_says_9 at h
    refine x_iload_n C dX12_says_9 10 rfl 2 rfl ?_
    refine x_iload_n C dX12_says_10 11 rfl 1 rfl ?_
    refine x_icmp_ge C dX12_says_11 14 rfl 25 rfl h (fun h => ?_) (fun h => ?_)
    · refine x_iload_n C dX12_says_25 26 rfl 1 rfl ?_
      refine x_iconst C dX12_says_26 27 rfl 1 rfl ?_
      refine x_isub C dX12_says_27 28 rfl ?_
      refine x_istore_n C dX12_says_28 29 rfl (by decide) (fun v2_28 => [(2, .int v2_28), (0, .ref (ad 0)), (1, .int v1)]) (fun _ => rfl) h (fun v2_28 h => ?_)
      exact x_sub [1, 2, 0] rfl (b_X12_says_29 C  N h)
    · refine x_aload_n C dX12_says_14 15 rfl 0 rfl ?_
      refine x_iload_n C dX12_says_15 16 rfl 2 rfl ?_
      obtain ⟨a16, hq, h⟩ := xbv_some h
      refine x_callVv C 0 (c_X12_laysChoices C.2.2.2.2.2.2.1 hq) lm0 EM_0 rfl wml_X12_414 wq_X12_laysChoices rfl ⟨by decide, by decide⟩ rfl rfl ⟨by decide, by decide⟩ dX12_says_16 19 rfl rfl (Nat.le_of_ble_eq_true rfl) ?_
      refine x_iinc C dX12_says_19 22 rfl 2 rfl (d := 1) rfl (by decide) (fun v2_19 => [(2, .int v2_19), (0, .ref (ad 0)), (1, .int v1)]) (fun _ => rfl) h (fun v2_19 h => ?_)
      refine x_goto C dX12_says_22 9 rfl ?_
      exact x_sub [1, 2, 0] rfl (ih h)
theorem c_X12_says {l : Launch} {D : va_G} {ca : Nat → ClassId} {ad : Nat → Nat} (hI : xInj ad NCM) {N : Nat} {ah : AH} {a : AH} (h : F_X12_says N ah = some a) : xMv l yX12_says cX12_says 8 rm_X12_says D vwCl (tysM ca) (EM ad ca) NCM ad [.ref (ad 0)] ah a := by
  refine x_metv (by decide) (Nat.le_of_ble_eq_true rfl) hI EM_loc ?_
  intro p e s m args below meth c C
  unfold F_X12_says at h
  refine x_aload_n C dX12_says_0 1 rfl 0 rfl ?_
  refine x_get C inX12 0 lm0 EM_0 rfl 24 (by decide) dX12_says_1 4 rfl wmf_X12_66 rfl ?_
  refine x_iconst C dX12_says_4 5 rfl 0 rfl ?_
  refine x_ialdK C 16 lm16 EM_16 0 rfl dX12_says_5 6 rfl (by decide) 0 (by decide) ?_
  refine x_istore_n C dX12_says_6 7 rfl (by decide) (fun v1_6 => [(1, .int v1_6), (0, .ref (ad 0))]) (fun _ => rfl) h (fun v1_6 h => ?_)
  refine x_iconst C dX12_says_7 8 rfl 0 rfl ?_
  refine x_istore_n C dX12_says_8 9 rfl (by decide) (fun v2_8 => [(2, .int v2_8), (1, .int v1_6), (0, .ref (ad 0))]) (fun _ => rfl) h (fun v2_8 h => ?_)
  exact x_sub [2, 1, 0] rfl (b_X12_says_9 C  N h)
abbrev rm_X12_sentence : Room := { frames := 6, cells := 0, slots := 0, locals := 148 }
theorem wq_X12_sentence : xcV RX12 yX12_sentence cX12_sentence 4 (some .int) 1 := ⟨wmi_X12_sentence, wms_X12_sentence, wmn_X12, wmc_X12_sentence, by decide, by decide, by decide +kernel⟩
def F_X12_sentence_110 (N : Nat) (k47 : AH → Int32 → Int32 → Int32 → Option (Int32 × AH)) (ah : AH) (v1 : Int32) (v3 : Int32) (s0 : Int32) (s1 : Int32) : Option (Int32 × AH) := xlet (s0 + s1) (fun v2_111 => xlet (v3 + 1) (fun v3_112 => k47 ah v1 v2_111 v3_112))
def F_X12_sentence_47 (N : Nat) : Nat → AH → Int32 → Int32 → Int32 → Option (Int32 × AH)
  | 0, _, _, _, _ => none
  | n + 1, ah, v1, v2, v3 => if (ah 16 0) ≤ v3 then some (v2, ah) else xbv (F_X12_laysToken N ah v3 0) (fun a60 => xbv (F_X12_mends N a60 1) (fun a65 => if v1 = 1 then xg v3 40 (if (a65 43 (Int32.toNatClampNeg v3)) = (a65 0 50) then F_X12_sentence_110 N (F_X12_sentence_47 N n) a65 v1 v3 v2 0 else F_X12_sentence_110 N (F_X12_sentence_47 N n) a65 v1 v3 v2 1) else xg v3 40 (if (a65 43 (Int32.toNatClampNeg v3)) = ((-1)) then F_X12_sentence_110 N (F_X12_sentence_47 N n) a65 v1 v3 v2 1 else F_X12_sentence_110 N (F_X12_sentence_47 N n) a65 v1 v3 v2 0)))
def F_X12_sentence_20 (N : Nat) (ah : AH) (v1 : Int32) (s1 : Int32) : Option (Int32 × AH) := xb (F_X12_bad N ah s1 1 1) (fun r22 a22 => if r22 = 0 then xbv (F_X12_says N a22) (fun a31 => if v1 = 0 then some (a31 0 62, a31) else xlet 0 (fun v2_44 => xlet 0 (fun v3_46 => F_X12_sentence_47 N N a31 v1 v2_44 v3_46))) else some (0, a22))
def F_X12_sentence (N : Nat) (ah : AH) (p1 : Int32) : Option (Int32 × AH) := xlet (xu ah 0 0 0) (fun a2 => xb (F_X12_in N a2 p1 0 2) (fun r9 a9 => if r9 = 0 then F_X12_sentence_20 N a9 p1 1 else F_X12_sentence_20 N a9 p1 0))
theorem b_X12_sentence_110 (C : XC p l s m args meth c cX12_sentence 4 (some .int) RX12 D vwCl (tysM ca) (EM ad ca) NCM ad) {N : Nat} {o : (Int32 × AH)} {k47 : AH → Int32 → Int32 → Int32 → Option (Int32 × AH)} (hk47 : ∀ (ah : AH) (v1 : Int32) (v2 : Int32) (v3 : Int32), k47 ah v1 v2 v3 = some o → XW p l e rm_X12_sentence s m args below meth c 4 0 (xQi below args s D vwCl (tysM ca) (EM ad ca) NCM ad o) D vwCl (EM ad ca) NCM ad ah 47 [(0, .ref (ad 0)), (1, .int v1), (2, .int v2), (3, .int v3)] []) {ah : AH} {v1 : Int32} {v3 : Int32} {s0 : Int32} {s1 : Int32} (h : F_X12_sentence_110 N k47 ah v1 v3 s0 s1 = some o) : XW p l e rm_X12_sentence s m args below meth c 4 0 (xQi below args s D vwCl (tysM ca) (EM ad ca) NCM ad o) D vwCl (EM ad ca) NCM ad ah 110 [(0, .ref (ad 0)), (1, .int v1), (3, .int v3)] [.int s1, .int s0] := by
  unfold F_X12_sentence_110 at h
  refine x_iadd C dX12_sentence_110 111 rfl ?_
  refine x_istore_n C dX12_sentence_111 112 rfl (by decide) (fun v2_111 => [(2, .int v2_111), (0, .ref (ad 0)), (1, .int v1), (3, .int v3)]) (fun _ => rfl) h (fun v2_111 h => ?_)
  refine x_iinc C dX12_sentence_112 115 rfl 3 rfl (d := 1) rfl (by decide) (fun v3_112 => [(3, .int v3_112), (2, .int v2_111), (0, .ref (ad 0)), (1, .int v1)]) (fun _ => rfl) h (fun v3_112 h => ?_)
  refine x_goto C dX12_sentence_115 47 rfl ?_
  exact x_sub [2, 3, 1, 0] rfl (hk47 _ _ _ _ h)
theorem b_X12_sentence_47 (C : XC p l s m args meth c cX12_sentence 4 (some .int) RX12 D vwCl (tysM ca) (EM ad ca) NCM ad) {N : Nat} {o : (Int32 × AH)} : ∀ (n : Nat) {ah : AH} {v1 : Int32} {v2 : Int32} {v3 : Int32}, F_X12_sentence_47 N n ah v1 v2 v3 = some o → XW p l e rm_X12_sentence s m args below meth c 4 0 (xQi below args s D vwCl (tysM ca) (EM ad ca) NCM ad o) D vwCl (EM ad ca) NCM ad ah 47 [(0, .ref (ad 0)), (1, .int v1), (2, .int v2), (3, .int v3)] [] := by
  intro n
  induction n with
  | zero => intro ah v1 v2 v3 h; unfold F_X12_sentence_47 at h; cases h
  | succ n ih =>
    intro ah v1 v2 v3 h
    unfold F_X12_sentence_47 at h
    refine x_iload_n C dX12_sentence_47 48 rfl 3 rfl ?_
    refine x_aload_n C dX12_sentence_48 49 rfl 0 rfl ?_
    refine x_get C inX12 0 lm0 EM_0 rfl 24 (by decide) dX12_sentence_49 52 rfl wmf_X12_66 rfl ?_
    refine x_iconst C dX12_sentence_52 53 rfl 0 rfl ?_
    refine x_ialdK C 16 lm16 EM_16 0 rfl dX12_sentence_53 54 rfl (by decide) 0 (by decide) ?_
    refine x_icmp_ge C dX12_sentence_54 57 rfl 118 rfl h (fun h => ?_) (fun h => ?_)
    · refine x_iload_n C dX12_sentence_118 119 rfl 2 rfl ?_
      exact x_iret C rfl dX12_sentence_119 h
    · refine x_aload_n C dX12_sentence_57 58 rfl 0 rfl ?_
      refine x_iload_n C dX12_sentence_58 59 rfl 3 rfl ?_
      refine x_iconst C dX12_sentence_59 60 rfl 0 rfl ?_
      obtain ⟨a60, hq, h⟩ := xbv_some h
      refine x_callVv C 0 (c_X12_laysToken C.2.2.2.2.2.2.1 hq) lm0 EM_0 rfl wml_X12_371 wq_X12_laysToken rfl ⟨by decide, by decide⟩ rfl rfl ⟨by decide, by decide⟩ dX12_sentence_60 63 rfl rfl (Nat.le_of_ble_eq_true rfl) ?_
      refine x_aload_n C dX12_sentence_63 64 rfl 0 rfl ?_
      refine x_iconst C dX12_sentence_64 65 rfl 1 rfl ?_
      obtain ⟨a65, hq, h⟩ := xbv_some h
      refine x_callVv C 0 (c_X12_mends C.2.2.2.2.2.2.1 hq) lm0 EM_0 rfl wml_X12_405 wq_X12_mends rfl ⟨by decide, by decide⟩ rfl rfl ⟨by decide, by decide⟩ dX12_sentence_65 68 rfl rfl (Nat.le_of_ble_eq_true rfl) ?_
      refine x_iload_n C dX12_sentence_68 69 rfl 2 rfl ?_
      refine x_iload_n C dX12_sentence_69 70 rfl 1 rfl ?_
      refine x_iconst C dX12_sentence_70 71 rfl 1 rfl ?_
      refine x_icmp_ne C dX12_sentence_71 74 rfl 95 rfl h (fun h => ?_) (fun h => ?_)
      · refine x_aload_n C dX12_sentence_95 96 rfl 0 rfl ?_
        refine x_get C inX12 0 lm0 EM_0 rfl 61 (by decide) dX12_sentence_96 99 rfl wmf_X12_149 rfl ?_
        refine x_iload_n C dX12_sentence_99 100 rfl 3 rfl ?_
        refine x_iald C 43 lm43 EM_43 0 rfl dX12_sentence_100 101 rfl h (fun h => ?_)
        refine x_iconst C dX12_sentence_101 102 rfl (-1) rfl ?_
        refine x_icmp_ne C dX12_sentence_102 105 rfl 109 rfl h (fun h => ?_) (fun h => ?_)
        · refine x_iconst C dX12_sentence_109 110 rfl 0 rfl ?_
          exact x_sub [0, 1, 3] rfl (b_X12_sentence_110 C (fun _ _ _ _ h => ih h) h)
        · refine x_iconst C dX12_sentence_105 106 rfl 1 rfl ?_
          refine x_goto C dX12_sentence_106 110 rfl ?_
          exact x_sub [0, 1, 3] rfl (b_X12_sentence_110 C (fun _ _ _ _ h => ih h) h)
      · refine x_aload_n C dX12_sentence_74 75 rfl 0 rfl ?_
        refine x_get C inX12 0 lm0 EM_0 rfl 61 (by decide) dX12_sentence_75 78 rfl wmf_X12_149 rfl ?_
        refine x_iload_n C dX12_sentence_78 79 rfl 3 rfl ?_
        refine x_iald C 43 lm43 EM_43 0 rfl dX12_sentence_79 80 rfl h (fun h => ?_)
        refine x_aload_n C dX12_sentence_80 81 rfl 0 rfl ?_
        refine x_get C inX12 0 lm0 EM_0 rfl 50 (by decide) dX12_sentence_81 84 rfl wmf_X12_396 rfl ?_
        refine x_icmp_eq C dX12_sentence_84 87 rfl 91 rfl h (fun h => ?_) (fun h => ?_)
        · refine x_iconst C dX12_sentence_91 92 rfl 0 rfl ?_
          refine x_goto C dX12_sentence_92 110 rfl ?_
          exact x_sub [0, 1, 3] rfl (b_X12_sentence_110 C (fun _ _ _ _ h => ih h) h)
        · refine x_iconst C dX12_sentence_87 88 rfl 1 rfl ?_
          refine x_goto C dX12_sentence_88 110 rfl ?_
          exact x_sub [0, 1, 3] rfl (b_X12_sentence_110 C (fun _ _ _ _ h => ih h) h)
theorem b_X12_sentence_20 (C : XC p l s m args meth c cX12_sentence 4 (some .int) RX12 D vwCl (tysM ca) (EM ad ca) NCM ad) {N : Nat} {o : (Int32 × AH)} {ah : AH} {v1 : Int32} {s1 : Int32} (h : F_X12_sentence_20 N ah v1 s1 = some o) : XW p l e rm_X12_sentence s m args below meth c 4 0 (xQi below args s D vwCl (tysM ca) (EM ad ca) NCM ad o) D vwCl (EM ad ca) NCM ad ah 20 [(0, .ref (ad 0)), (1, .int v1)] [.int s1, .ref (ad 0)] := by
  unfold F_X12_sentence_20 at h
  refine x_iconst C dX12_sentence_20 21 rfl 1 rfl ?_
  refine x_iconst C dX12_sentence_21 22 rfl 1 rfl ?_
  obtain ⟨r22, a22, hq, h⟩ := xb_some h
  refine x_callVi C 0 (c_X12_bad C.2.2.2.2.2.2.1 hq) lm0 EM_0 rfl wml_X12_249 wq_X12_bad rfl ⟨by decide, by decide⟩ rfl rfl ⟨by decide, by decide⟩ dX12_sentence_22 25 rfl rfl (Nat.le_of_ble_eq_true rfl) ?_
  refine x_if_eq C dX12_sentence_25 28 rfl 30 rfl h (fun h => ?_) (fun h => ?_)
  · refine x_aload_n C dX12_sentence_30 31 rfl 0 rfl ?_
    obtain ⟨a31, hq, h⟩ := xbv_some h
    refine x_callVv C 0 (c_X12_says C.2.2.2.2.2.2.1 hq) lm0 EM_0 rfl wml_X12_423 wq_X12_says rfl ⟨by decide, by decide⟩ rfl rfl ⟨by decide, by decide⟩ dX12_sentence_31 34 rfl rfl (Nat.le_of_ble_eq_true rfl) ?_
    refine x_iload_n C dX12_sentence_34 35 rfl 1 rfl ?_
    refine x_if_ne C dX12_sentence_35 38 rfl 43 rfl h (fun h => ?_) (fun h => ?_)
    · refine x_iconst C dX12_sentence_43 44 rfl 0 rfl ?_
      refine x_istore_n C dX12_sentence_44 45 rfl (by decide) (fun v2_44 => [(2, .int v2_44), (0, .ref (ad 0)), (1, .int v1)]) (fun _ => rfl) h (fun v2_44 h => ?_)
      refine x_iconst C dX12_sentence_45 46 rfl 0 rfl ?_
      refine x_istore_n C dX12_sentence_46 47 rfl (by decide) (fun v3_46 => [(3, .int v3_46), (2, .int v2_44), (0, .ref (ad 0)), (1, .int v1)]) (fun _ => rfl) h (fun v3_46 h => ?_)
      exact x_sub [2, 3, 1, 0] rfl (b_X12_sentence_47 C  N h)
    · refine x_aload_n C dX12_sentence_38 39 rfl 0 rfl ?_
      refine x_get C inX12 0 lm0 EM_0 rfl 62 (by decide) dX12_sentence_39 42 rfl wmf_X12_420 rfl ?_
      exact x_iret C rfl dX12_sentence_42 h
  · refine x_iconst C dX12_sentence_28 29 rfl 0 rfl ?_
    exact x_iret C rfl dX12_sentence_29 h
theorem c_X12_sentence {l : Launch} {D : va_G} {ca : Nat → ClassId} {ad : Nat → Nat} (hI : xInj ad NCM) {N : Nat} {ah : AH} {p1 : Int32} {r : Int32} {a : AH} (h : F_X12_sentence N ah p1 = some (r, a)) : xMi l yX12_sentence cX12_sentence 4 (some .int) rm_X12_sentence D vwCl (tysM ca) (EM ad ca) NCM ad [.ref (ad 0), .int p1] ah (r, a) := by
  refine x_meti (by decide) (Nat.le_of_ble_eq_true rfl) hI EM_loc ?_
  intro p e s m args below meth c C
  unfold F_X12_sentence at h
  refine x_aload_n C dX12_sentence_0 1 rfl 0 rfl ?_
  refine x_iconst C dX12_sentence_1 2 rfl 0 rfl ?_
  refine x_put C inX12 0 lm0 EM_0 rfl 0 (by decide) tyX12_ok nmX12 dX12_sentence_2 5 rfl wmf_X12_180 rfl rfl rfl (Nat.le_of_ble_eq_true rfl) EQ_0_0 h (fun a2 h => ?_)
  refine x_aload_n C dX12_sentence_5 6 rfl 0 rfl ?_
  refine x_iload_n C dX12_sentence_6 7 rfl 1 rfl ?_
  refine x_iconst C dX12_sentence_7 8 rfl 0 rfl ?_
  refine x_iconst C dX12_sentence_8 9 rfl 2 rfl ?_
  obtain ⟨r9, a9, hq, h⟩ := xb_some h
  refine x_callSi C (c_X12_in C.2.2.2.2.2.2.1 hq) wml_X12_223 wq_X12_in rfl ⟨by decide, by decide⟩ rfl rfl ⟨by decide, by decide⟩ dX12_sentence_9 12 rfl rfl (Nat.le_of_ble_eq_true rfl) ?_
  refine x_if_ne C dX12_sentence_12 15 rfl 19 rfl h (fun h => ?_) (fun h => ?_)
  · refine x_iconst C dX12_sentence_19 20 rfl 0 rfl ?_
    exact b_X12_sentence_20 C  h
  · refine x_iconst C dX12_sentence_15 16 rfl 1 rfl ?_
    refine x_goto C dX12_sentence_16 20 rfl ?_
    exact b_X12_sentence_20 C  h
abbrev rm_X12_said : Room := { frames := 6, cells := 0, slots := 0, locals := 148 }
theorem wq_X12_said : xcV RX12 yX12_said cX12_said 2 (some .int) 1 := ⟨wmi_X12_said, wms_X12_said, wmn_X12, wmc_X12_said, by decide, by decide, by decide +kernel⟩
def F_X12_said_19 (N : Nat) (ah : AH) (v1 : Int32) (s1 : Int32) : Option (Int32 × AH) := xb (F_X12_bad N ah s1 1 0) (fun r21 a21 => if r21 = 0 then xbv (F_X12_says N a21) (fun a30 => xg v1 40 (some (a30 43 (Int32.toNatClampNeg v1), a30))) else some (0, a21))
def F_X12_said (N : Nat) (ah : AH) (p1 : Int32) : Option (Int32 × AH) := xlet (xu ah 0 0 0) (fun a2 => xb (F_X12_isToken N a2 p1) (fun r8 a8 => if r8 = 0 then F_X12_said_19 N a8 p1 1 else F_X12_said_19 N a8 p1 0))
theorem b_X12_said_19 (C : XC p l s m args meth c cX12_said 2 (some .int) RX12 D vwCl (tysM ca) (EM ad ca) NCM ad) {N : Nat} {o : (Int32 × AH)} {ah : AH} {v1 : Int32} {s1 : Int32} (h : F_X12_said_19 N ah v1 s1 = some o) : XW p l e rm_X12_said s m args below meth c 2 0 (xQi below args s D vwCl (tysM ca) (EM ad ca) NCM ad o) D vwCl (EM ad ca) NCM ad ah 19 [(0, .ref (ad 0)), (1, .int v1)] [.int s1, .ref (ad 0)] := by
  unfold F_X12_said_19 at h
  refine x_iconst C dX12_said_19 20 rfl 1 rfl ?_
  refine x_iconst C dX12_said_20 21 rfl 0 rfl ?_
  obtain ⟨r21, a21, hq, h⟩ := xb_some h
  refine x_callVi C 0 (c_X12_bad C.2.2.2.2.2.2.1 hq) lm0 EM_0 rfl wml_X12_249 wq_X12_bad rfl ⟨by decide, by decide⟩ rfl rfl ⟨by decide, by decide⟩ dX12_said_21 24 rfl rfl (Nat.le_of_ble_eq_true rfl) ?_
  refine x_if_eq C dX12_said_24 27 rfl 29 rfl h (fun h => ?_) (fun h => ?_)
  · refine x_aload_n C dX12_said_29 30 rfl 0 rfl ?_
    obtain ⟨a30, hq, h⟩ := xbv_some h
    refine x_callVv C 0 (c_X12_says C.2.2.2.2.2.2.1 hq) lm0 EM_0 rfl wml_X12_423 wq_X12_says rfl ⟨by decide, by decide⟩ rfl rfl ⟨by decide, by decide⟩ dX12_said_30 33 rfl rfl (Nat.le_of_ble_eq_true rfl) ?_
    refine x_aload_n C dX12_said_33 34 rfl 0 rfl ?_
    refine x_get C inX12 0 lm0 EM_0 rfl 61 (by decide) dX12_said_34 37 rfl wmf_X12_149 rfl ?_
    refine x_iload_n C dX12_said_37 38 rfl 1 rfl ?_
    refine x_iald C 43 lm43 EM_43 0 rfl dX12_said_38 39 rfl h (fun h => ?_)
    exact x_iret C rfl dX12_said_39 h
  · refine x_iconst C dX12_said_27 28 rfl 0 rfl ?_
    exact x_iret C rfl dX12_said_28 h
theorem c_X12_said {l : Launch} {D : va_G} {ca : Nat → ClassId} {ad : Nat → Nat} (hI : xInj ad NCM) {N : Nat} {ah : AH} {p1 : Int32} {r : Int32} {a : AH} (h : F_X12_said N ah p1 = some (r, a)) : xMi l yX12_said cX12_said 2 (some .int) rm_X12_said D vwCl (tysM ca) (EM ad ca) NCM ad [.ref (ad 0), .int p1] ah (r, a) := by
  refine x_meti (by decide) (Nat.le_of_ble_eq_true rfl) hI EM_loc ?_
  intro p e s m args below meth c C
  unfold F_X12_said at h
  refine x_aload_n C dX12_said_0 1 rfl 0 rfl ?_
  refine x_iconst C dX12_said_1 2 rfl 0 rfl ?_
  refine x_put C inX12 0 lm0 EM_0 rfl 0 (by decide) tyX12_ok nmX12 dX12_said_2 5 rfl wmf_X12_180 rfl rfl rfl (Nat.le_of_ble_eq_true rfl) EQ_0_0 h (fun a2 h => ?_)
  refine x_aload_n C dX12_said_5 6 rfl 0 rfl ?_
  refine x_aload_n C dX12_said_6 7 rfl 0 rfl ?_
  refine x_iload_n C dX12_said_7 8 rfl 1 rfl ?_
  obtain ⟨r8, a8, hq, h⟩ := xb_some h
  refine x_callVi C 0 (c_X12_isToken C.2.2.2.2.2.2.1 hq) lm0 EM_0 rfl wml_X12_368 wq_X12_isToken rfl ⟨by decide, by decide⟩ rfl rfl ⟨by decide, by decide⟩ dX12_said_8 11 rfl rfl (Nat.le_of_ble_eq_true rfl) ?_
  refine x_if_ne C dX12_said_11 14 rfl 18 rfl h (fun h => ?_) (fun h => ?_)
  · refine x_iconst C dX12_said_18 19 rfl 0 rfl ?_
    exact b_X12_said_19 C  h
  · refine x_iconst C dX12_said_14 15 rfl 1 rfl ?_
    refine x_goto C dX12_said_15 19 rfl ?_
    exact b_X12_said_19 C  h
abbrev rm_X12_learn : Room := { frames := 4, cells := 0, slots := 0, locals := 98 }
theorem wq_X12_learn : xcV RX12 yX12_learn cX12_learn 2 (some .int) 1 := ⟨wmi_X12_learn, wms_X12_learn, wmn_X12, wmc_X12_learn, by decide, by decide, by decide +kernel⟩
def F_X12_learn_111 (N : Nat) (ah : AH) : Option (Int32 × AH) := xbv (F_X12_weighs N ah) (fun a112 => some (a112 0 50, a112))
def F_X12_learn_19 (N : Nat) (ah : AH) (v1 : Int32) (s1 : Int32) : Option (Int32 × AH) := xb (F_X12_bad N ah s1 1 0) (fun r21 a21 => if r21 = 0 then xbv (F_X12_laysToken N a21 v1 0) (fun a32 => xbv (F_X12_mends N a32 2) (fun a37 => if (a37 0 50) = ((-1)) then some ((-1), a37) else xg (a37 0 50) 61 (xb (F_X12_more N a37 0 ((a37 6 (Int32.toNatClampNeg (a37 0 50))) - 1)) (fun r70 a70 => xg (a37 0 50) 61 (xlet (xu a70 6 (Int32.toNatClampNeg (a37 0 50)) r70) (fun a73 => if (a73 0 49) ≤ 1 then F_X12_learn_111 N a73 else xg (a73 33 1) 61 (xb (F_X12_less N a73 99 ((a73 6 (Int32.toNatClampNeg (a73 33 1))) + 1)) (fun r107 a107 => xg (a73 33 1) 61 (xlet (xu a107 6 (Int32.toNatClampNeg (a73 33 1)) r107) (fun a110 => F_X12_learn_111 N a110)))))))))) else some (0, a21))
def F_X12_learn (N : Nat) (ah : AH) (p1 : Int32) : Option (Int32 × AH) := xlet (xu ah 0 0 0) (fun a2 => xb (F_X12_isToken N a2 p1) (fun r8 a8 => if r8 = 0 then F_X12_learn_19 N a8 p1 1 else F_X12_learn_19 N a8 p1 0))
theorem b_X12_learn_111 (C : XC p l s m args meth c cX12_learn 2 (some .int) RX12 D vwCl (tysM ca) (EM ad ca) NCM ad) {N : Nat} {o : (Int32 × AH)} {ah : AH} (h : F_X12_learn_111 N ah = some o) : XW p l e rm_X12_learn s m args below meth c 2 0 (xQi below args s D vwCl (tysM ca) (EM ad ca) NCM ad o) D vwCl (EM ad ca) NCM ad ah 111 [(0, .ref (ad 0))] [] := by
  unfold F_X12_learn_111 at h
  refine x_aload_n C dX12_learn_111 112 rfl 0 rfl ?_
  obtain ⟨a112, hq, h⟩ := xbv_some h
  refine x_callVv C 0 (c_X12_weighs C.2.2.2.2.2.2.1 hq) lm0 EM_0 rfl wml_X12_269 wq_X12_weighs rfl ⟨by decide, by decide⟩ rfl rfl ⟨by decide, by decide⟩ dX12_learn_112 115 rfl rfl (Nat.le_of_ble_eq_true rfl) ?_
  refine x_aload_n C dX12_learn_115 116 rfl 0 rfl ?_
  refine x_get C inX12 0 lm0 EM_0 rfl 50 (by decide) dX12_learn_116 119 rfl wmf_X12_396 rfl ?_
  exact x_iret C rfl dX12_learn_119 h
theorem b_X12_learn_19 (C : XC p l s m args meth c cX12_learn 2 (some .int) RX12 D vwCl (tysM ca) (EM ad ca) NCM ad) {N : Nat} {o : (Int32 × AH)} {ah : AH} {v1 : Int32} {s1 : Int32} (h : F_X12_learn_19 N ah v1 s1 = some o) : XW p l e rm_X12_learn s m args below meth c 2 0 (xQi below args s D vwCl (tysM ca) (EM ad ca) NCM ad o) D vwCl (EM ad ca) NCM ad ah 19 [(0, .ref (ad 0)), (1, .int v1)] [.int s1, .ref (ad 0)] := by
  unfold F_X12_learn_19 at h
  refine x_iconst C dX12_learn_19 20 rfl 1 rfl ?_
  refine x_iconst C dX12_learn_20 21 rfl 0 rfl ?_
  obtain ⟨r21, a21, hq, h⟩ := xb_some h
  refine x_callVi C 0 (c_X12_bad C.2.2.2.2.2.2.1 hq) lm0 EM_0 rfl wml_X12_249 wq_X12_bad rfl ⟨by decide, by decide⟩ rfl rfl ⟨by decide, by decide⟩ dX12_learn_21 24 rfl rfl (Nat.le_of_ble_eq_true rfl) ?_
  refine x_if_eq C dX12_learn_24 27 rfl 29 rfl h (fun h => ?_) (fun h => ?_)
  · refine x_aload_n C dX12_learn_29 30 rfl 0 rfl ?_
    refine x_iload_n C dX12_learn_30 31 rfl 1 rfl ?_
    refine x_iconst C dX12_learn_31 32 rfl 0 rfl ?_
    obtain ⟨a32, hq, h⟩ := xbv_some h
    refine x_callVv C 0 (c_X12_laysToken C.2.2.2.2.2.2.1 hq) lm0 EM_0 rfl wml_X12_371 wq_X12_laysToken rfl ⟨by decide, by decide⟩ rfl rfl ⟨by decide, by decide⟩ dX12_learn_32 35 rfl rfl (Nat.le_of_ble_eq_true rfl) ?_
    refine x_aload_n C dX12_learn_35 36 rfl 0 rfl ?_
    refine x_iconst C dX12_learn_36 37 rfl 2 rfl ?_
    obtain ⟨a37, hq, h⟩ := xbv_some h
    refine x_callVv C 0 (c_X12_mends C.2.2.2.2.2.2.1 hq) lm0 EM_0 rfl wml_X12_405 wq_X12_mends rfl ⟨by decide, by decide⟩ rfl rfl ⟨by decide, by decide⟩ dX12_learn_37 40 rfl rfl (Nat.le_of_ble_eq_true rfl) ?_
    refine x_aload_n C dX12_learn_40 41 rfl 0 rfl ?_
    refine x_get C inX12 0 lm0 EM_0 rfl 50 (by decide) dX12_learn_41 44 rfl wmf_X12_396 rfl ?_
    refine x_iconst C dX12_learn_44 45 rfl (-1) rfl ?_
    refine x_icmp_ne C dX12_learn_45 48 rfl 50 rfl h (fun h => ?_) (fun h => ?_)
    · refine x_aload_n C dX12_learn_50 51 rfl 0 rfl ?_
      refine x_get C inX12 0 lm0 EM_0 rfl 13 (by decide) dX12_learn_51 54 rfl wmf_X12_31 rfl ?_
      refine x_aload_n C dX12_learn_54 55 rfl 0 rfl ?_
      refine x_get C inX12 0 lm0 EM_0 rfl 50 (by decide) dX12_learn_55 58 rfl wmf_X12_396 rfl ?_
      refine x_iconst C dX12_learn_58 59 rfl 0 rfl ?_
      refine x_aload_n C dX12_learn_59 60 rfl 0 rfl ?_
      refine x_get C inX12 0 lm0 EM_0 rfl 13 (by decide) dX12_learn_60 63 rfl wmf_X12_31 rfl ?_
      refine x_aload_n C dX12_learn_63 64 rfl 0 rfl ?_
      refine x_get C inX12 0 lm0 EM_0 rfl 50 (by decide) dX12_learn_64 67 rfl wmf_X12_396 rfl ?_
      refine x_iald C 6 lm6 EM_6 0 rfl dX12_learn_67 68 rfl h (fun h => ?_)
      refine x_iconst C dX12_learn_68 69 rfl 1 rfl ?_
      refine x_isub C dX12_learn_69 70 rfl ?_
      obtain ⟨r70, a70, hq, h⟩ := xb_some h
      refine x_callSi C (c_X12_more C.2.2.2.2.2.2.1 hq) wml_X12_426 wq_X12_more rfl ⟨by decide, by decide⟩ rfl rfl ⟨by decide, by decide⟩ dX12_learn_70 73 rfl rfl (Nat.le_of_ble_eq_true rfl) ?_
      refine x_iast C 6 lm6 (fun _ => EM_6) 0 rfl dX12_learn_73 74 rfl h (fun a73 h => ?_)
      refine x_aload_n C dX12_learn_74 75 rfl 0 rfl ?_
      refine x_get C inX12 0 lm0 EM_0 rfl 49 (by decide) dX12_learn_75 78 rfl wmf_X12_350 rfl ?_
      refine x_iconst C dX12_learn_78 79 rfl 1 rfl ?_
      refine x_icmp_le C dX12_learn_79 82 rfl 111 rfl h (fun h => ?_) (fun h => ?_)
      · exact x_sub [0] rfl (b_X12_learn_111 C  h)
      · refine x_aload_n C dX12_learn_82 83 rfl 0 rfl ?_
        refine x_get C inX12 0 lm0 EM_0 rfl 13 (by decide) dX12_learn_83 86 rfl wmf_X12_31 rfl ?_
        refine x_aload_n C dX12_learn_86 87 rfl 0 rfl ?_
        refine x_get C inX12 0 lm0 EM_0 rfl 46 (by decide) dX12_learn_87 90 rfl wmf_X12_119 rfl ?_
        refine x_iconst C dX12_learn_90 91 rfl 1 rfl ?_
        refine x_ialdK C 33 lm33 EM_33 0 rfl dX12_learn_91 92 rfl (by decide) 1 (by decide) ?_
        refine x_bipush C dX12_learn_92 94 rfl 99 rfl ?_
        refine x_aload_n C dX12_learn_94 95 rfl 0 rfl ?_
        refine x_get C inX12 0 lm0 EM_0 rfl 13 (by decide) dX12_learn_95 98 rfl wmf_X12_31 rfl ?_
        refine x_aload_n C dX12_learn_98 99 rfl 0 rfl ?_
        refine x_get C inX12 0 lm0 EM_0 rfl 46 (by decide) dX12_learn_99 102 rfl wmf_X12_119 rfl ?_
        refine x_iconst C dX12_learn_102 103 rfl 1 rfl ?_
        refine x_ialdK C 33 lm33 EM_33 0 rfl dX12_learn_103 104 rfl (by decide) 1 (by decide) ?_
        refine x_iald C 6 lm6 EM_6 0 rfl dX12_learn_104 105 rfl h (fun h => ?_)
        refine x_iconst C dX12_learn_105 106 rfl 1 rfl ?_
        refine x_iadd C dX12_learn_106 107 rfl ?_
        obtain ⟨r107, a107, hq, h⟩ := xb_some h
        refine x_callSi C (c_X12_less C.2.2.2.2.2.2.1 hq) wml_X12_219 wq_X12_less rfl ⟨by decide, by decide⟩ rfl rfl ⟨by decide, by decide⟩ dX12_learn_107 110 rfl rfl (Nat.le_of_ble_eq_true rfl) ?_
        refine x_iast C 6 lm6 (fun _ => EM_6) 0 rfl dX12_learn_110 111 rfl h (fun a110 h => ?_)
        exact x_sub [0] rfl (b_X12_learn_111 C  h)
    · refine x_iconst C dX12_learn_48 49 rfl (-1) rfl ?_
      exact x_iret C rfl dX12_learn_49 h
  · refine x_iconst C dX12_learn_27 28 rfl 0 rfl ?_
    exact x_iret C rfl dX12_learn_28 h
theorem c_X12_learn {l : Launch} {D : va_G} {ca : Nat → ClassId} {ad : Nat → Nat} (hI : xInj ad NCM) {N : Nat} {ah : AH} {p1 : Int32} {r : Int32} {a : AH} (h : F_X12_learn N ah p1 = some (r, a)) : xMi l yX12_learn cX12_learn 2 (some .int) rm_X12_learn D vwCl (tysM ca) (EM ad ca) NCM ad [.ref (ad 0), .int p1] ah (r, a) := by
  refine x_meti (by decide) (Nat.le_of_ble_eq_true rfl) hI EM_loc ?_
  intro p e s m args below meth c C
  unfold F_X12_learn at h
  refine x_aload_n C dX12_learn_0 1 rfl 0 rfl ?_
  refine x_iconst C dX12_learn_1 2 rfl 0 rfl ?_
  refine x_put C inX12 0 lm0 EM_0 rfl 0 (by decide) tyX12_ok nmX12 dX12_learn_2 5 rfl wmf_X12_180 rfl rfl rfl (Nat.le_of_ble_eq_true rfl) EQ_0_0 h (fun a2 h => ?_)
  refine x_aload_n C dX12_learn_5 6 rfl 0 rfl ?_
  refine x_aload_n C dX12_learn_6 7 rfl 0 rfl ?_
  refine x_iload_n C dX12_learn_7 8 rfl 1 rfl ?_
  obtain ⟨r8, a8, hq, h⟩ := xb_some h
  refine x_callVi C 0 (c_X12_isToken C.2.2.2.2.2.2.1 hq) lm0 EM_0 rfl wml_X12_368 wq_X12_isToken rfl ⟨by decide, by decide⟩ rfl rfl ⟨by decide, by decide⟩ dX12_learn_8 11 rfl rfl (Nat.le_of_ble_eq_true rfl) ?_
  refine x_if_ne C dX12_learn_11 14 rfl 18 rfl h (fun h => ?_) (fun h => ?_)
  · refine x_iconst C dX12_learn_18 19 rfl 0 rfl ?_
    exact b_X12_learn_19 C  h
  · refine x_iconst C dX12_learn_14 15 rfl 1 rfl ?_
    refine x_goto C dX12_learn_15 19 rfl ?_
    exact b_X12_learn_19 C  h
abbrev rm_X12_laysAlone : Room := { frames := 4, cells := 0, slots := 0, locals := 98 }
theorem wq_X12_laysAlone : xcV RX12 yX12_laysAlone cX12_laysAlone 2 none 1 := ⟨wmi_X12_laysAlone, wms_X12_laysAlone, wmn_X12, wmc_X12_laysAlone, by decide, by decide, by decide +kernel⟩
def F_X12_laysAlone (N : Nat) (ah : AH) (p1 : Int32) : Option AH := xbv (F_X12_laysToken N ah p1 0) (fun a3 => xbv (F_X12_mends N a3 1) (fun a8 => xg p1 40 (xlet (xu a8 44 (Int32.toNatClampNeg p1) (a8 0 50)) (fun a20 => xg p1 40 (xlet (xu a20 45 (Int32.toNatClampNeg p1) (a20 0 51)) (fun a30 => xg p1 40 (xlet (xu a30 46 (Int32.toNatClampNeg p1) ((-1))) (fun a37 => if (a37 16 0) ≤ (p1 + 1) then some a37 else xlet (201 + 0) (fun x55 => xg p1 40 (if (a37 x55 (Int32.toNatClampNeg p1)) = 1 then xlet (197 + 0) (fun x67 => xg p1 40 (xlet (197 + 0) (fun x75 => xg (p1 + 1) 40 (if ((a37 x67 (Int32.toNatClampNeg p1)) + (a37 x75 (Int32.toNatClampNeg (p1 + 1)))) ≤ 24 then xbv (F_X12_laysToken N a37 p1 1) (fun a90 => xbv (F_X12_mends N a90 1) (fun a95 => xg p1 40 (xlet (xu a95 46 (Int32.toNatClampNeg p1) (a95 0 50)) (fun a107 => xg p1 40 (xlet (xu a107 47 (Int32.toNatClampNeg p1) ((a107 0 51) + (a107 3 5))) (fun a124 => some a124)))))) else some a37)))) else some a37))))))))))
theorem c_X12_laysAlone {l : Launch} {D : va_G} {ca : Nat → ClassId} {ad : Nat → Nat} (hI : xInj ad NCM) {N : Nat} {ah : AH} {p1 : Int32} {a : AH} (h : F_X12_laysAlone N ah p1 = some a) : xMv l yX12_laysAlone cX12_laysAlone 2 rm_X12_laysAlone D vwCl (tysM ca) (EM ad ca) NCM ad [.ref (ad 0), .int p1] ah a := by
  refine x_metv (by decide) (Nat.le_of_ble_eq_true rfl) hI EM_loc ?_
  intro p e s m args below meth c C
  unfold F_X12_laysAlone at h
  refine x_aload_n C dX12_laysAlone_0 1 rfl 0 rfl ?_
  refine x_iload_n C dX12_laysAlone_1 2 rfl 1 rfl ?_
  refine x_iconst C dX12_laysAlone_2 3 rfl 0 rfl ?_
  obtain ⟨a3, hq, h⟩ := xbv_some h
  refine x_callVv C 0 (c_X12_laysToken C.2.2.2.2.2.2.1 hq) lm0 EM_0 rfl wml_X12_371 wq_X12_laysToken rfl ⟨by decide, by decide⟩ rfl rfl ⟨by decide, by decide⟩ dX12_laysAlone_3 6 rfl rfl (Nat.le_of_ble_eq_true rfl) ?_
  refine x_aload_n C dX12_laysAlone_6 7 rfl 0 rfl ?_
  refine x_iconst C dX12_laysAlone_7 8 rfl 1 rfl ?_
  obtain ⟨a8, hq, h⟩ := xbv_some h
  refine x_callVv C 0 (c_X12_mends C.2.2.2.2.2.2.1 hq) lm0 EM_0 rfl wml_X12_405 wq_X12_mends rfl ⟨by decide, by decide⟩ rfl rfl ⟨by decide, by decide⟩ dX12_laysAlone_8 11 rfl rfl (Nat.le_of_ble_eq_true rfl) ?_
  refine x_aload_n C dX12_laysAlone_11 12 rfl 0 rfl ?_
  refine x_get C inX12 0 lm0 EM_0 rfl 63 (by decide) dX12_laysAlone_12 15 rfl wmf_X12_152 rfl ?_
  refine x_iload_n C dX12_laysAlone_15 16 rfl 1 rfl ?_
  refine x_aload_n C dX12_laysAlone_16 17 rfl 0 rfl ?_
  refine x_get C inX12 0 lm0 EM_0 rfl 50 (by decide) dX12_laysAlone_17 20 rfl wmf_X12_396 rfl ?_
  refine x_iast C 44 lm44 (fun _ => EM_44) 0 rfl dX12_laysAlone_20 21 rfl h (fun a20 h => ?_)
  refine x_aload_n C dX12_laysAlone_21 22 rfl 0 rfl ?_
  refine x_get C inX12 0 lm0 EM_0 rfl 64 (by decide) dX12_laysAlone_22 25 rfl wmf_X12_155 rfl ?_
  refine x_iload_n C dX12_laysAlone_25 26 rfl 1 rfl ?_
  refine x_aload_n C dX12_laysAlone_26 27 rfl 0 rfl ?_
  refine x_get C inX12 0 lm0 EM_0 rfl 51 (by decide) dX12_laysAlone_27 30 rfl wmf_X12_399 rfl ?_
  refine x_iast C 45 lm45 (fun _ => EM_45) 0 rfl dX12_laysAlone_30 31 rfl h (fun a30 h => ?_)
  refine x_aload_n C dX12_laysAlone_31 32 rfl 0 rfl ?_
  refine x_get C inX12 0 lm0 EM_0 rfl 65 (by decide) dX12_laysAlone_32 35 rfl wmf_X12_158 rfl ?_
  refine x_iload_n C dX12_laysAlone_35 36 rfl 1 rfl ?_
  refine x_iconst C dX12_laysAlone_36 37 rfl (-1) rfl ?_
  refine x_iast C 46 lm46 (fun _ => EM_46) 0 rfl dX12_laysAlone_37 38 rfl h (fun a37 h => ?_)
  refine x_iload_n C dX12_laysAlone_38 39 rfl 1 rfl ?_
  refine x_iconst C dX12_laysAlone_39 40 rfl 1 rfl ?_
  refine x_iadd C dX12_laysAlone_40 41 rfl ?_
  refine x_aload_n C dX12_laysAlone_41 42 rfl 0 rfl ?_
  refine x_get C inX12 0 lm0 EM_0 rfl 24 (by decide) dX12_laysAlone_42 45 rfl wmf_X12_66 rfl ?_
  refine x_iconst C dX12_laysAlone_45 46 rfl 0 rfl ?_
  refine x_ialdK C 16 lm16 EM_16 0 rfl dX12_laysAlone_46 47 rfl (by decide) 0 (by decide) ?_
  refine x_icmp_ge C dX12_laysAlone_47 50 rfl 86 rfl h (fun h => ?_) (fun h => ?_)
  · exact x_vret C rfl dX12_laysAlone_86 h
  · refine x_aload_n C dX12_laysAlone_50 51 rfl 0 rfl ?_
    refine x_get C inX12 0 lm0 EM_0 rfl 29 (by decide) dX12_laysAlone_51 54 rfl wmf_X12_78 rfl ?_
    refine x_iconst C dX12_laysAlone_54 55 rfl 0 rfl ?_
    refine x_aaldLK C (20) lm20 EM_20 2 rfl rfl (by decide) 0 (by decide) dX12_laysAlone_55 56 rfl (201 + 0) rfl h (fun x55 ex55 h => ?_)
    have hx55 : mI x55 40 := ex55 ▸ mI_behind (show 0 < 2 by decide)
    refine x_iload_n C dX12_laysAlone_56 57 rfl 1 rfl ?_
    refine x_iald C x55 hx55.1 (hx55.2 _ _ _) 0 rfl dX12_laysAlone_57 58 rfl h (fun h => ?_)
    refine x_iconst C dX12_laysAlone_58 59 rfl 1 rfl ?_
    refine x_icmp_ne C dX12_laysAlone_59 62 rfl 86 rfl h (fun h => ?_) (fun h => ?_)
    · exact x_vret C rfl dX12_laysAlone_86 h
    · refine x_aload_n C dX12_laysAlone_62 63 rfl 0 rfl ?_
      refine x_get C inX12 0 lm0 EM_0 rfl 27 (by decide) dX12_laysAlone_63 66 rfl wmf_X12_72 rfl ?_
      refine x_iconst C dX12_laysAlone_66 67 rfl 0 rfl ?_
      refine x_aaldLK C (18) lm18 EM_18 2 rfl rfl (by decide) 0 (by decide) dX12_laysAlone_67 68 rfl (197 + 0) rfl h (fun x67 ex67 h => ?_)
      have hx67 : mI x67 40 := ex67 ▸ mI_cells (show 0 < 2 by decide)
      refine x_iload_n C dX12_laysAlone_68 69 rfl 1 rfl ?_
      refine x_iald C x67 hx67.1 (hx67.2 _ _ _) 0 rfl dX12_laysAlone_69 70 rfl h (fun h => ?_)
      refine x_aload_n C dX12_laysAlone_70 71 rfl 0 rfl ?_
      refine x_get C inX12 0 lm0 EM_0 rfl 27 (by decide) dX12_laysAlone_71 74 rfl wmf_X12_72 rfl ?_
      refine x_iconst C dX12_laysAlone_74 75 rfl 0 rfl ?_
      refine x_aaldLK C (18) lm18 EM_18 2 rfl rfl (by decide) 0 (by decide) dX12_laysAlone_75 76 rfl (197 + 0) rfl h (fun x75 ex75 h => ?_)
      have hx75 : mI x75 40 := ex75 ▸ mI_cells (show 0 < 2 by decide)
      refine x_iload_n C dX12_laysAlone_76 77 rfl 1 rfl ?_
      refine x_iconst C dX12_laysAlone_77 78 rfl 1 rfl ?_
      refine x_iadd C dX12_laysAlone_78 79 rfl ?_
      refine x_iald C x75 hx75.1 (hx75.2 _ _ _) 0 rfl dX12_laysAlone_79 80 rfl h (fun h => ?_)
      refine x_iadd C dX12_laysAlone_80 81 rfl ?_
      refine x_bipush C dX12_laysAlone_81 83 rfl 24 rfl ?_
      refine x_icmp_le C dX12_laysAlone_83 86 rfl 87 rfl h (fun h => ?_) (fun h => ?_)
      · refine x_aload_n C dX12_laysAlone_87 88 rfl 0 rfl ?_
        refine x_iload_n C dX12_laysAlone_88 89 rfl 1 rfl ?_
        refine x_iconst C dX12_laysAlone_89 90 rfl 1 rfl ?_
        obtain ⟨a90, hq, h⟩ := xbv_some h
        refine x_callVv C 0 (c_X12_laysToken C.2.2.2.2.2.2.1 hq) lm0 EM_0 rfl wml_X12_371 wq_X12_laysToken rfl ⟨by decide, by decide⟩ rfl rfl ⟨by decide, by decide⟩ dX12_laysAlone_90 93 rfl rfl (Nat.le_of_ble_eq_true rfl) ?_
        refine x_aload_n C dX12_laysAlone_93 94 rfl 0 rfl ?_
        refine x_iconst C dX12_laysAlone_94 95 rfl 1 rfl ?_
        obtain ⟨a95, hq, h⟩ := xbv_some h
        refine x_callVv C 0 (c_X12_mends C.2.2.2.2.2.2.1 hq) lm0 EM_0 rfl wml_X12_405 wq_X12_mends rfl ⟨by decide, by decide⟩ rfl rfl ⟨by decide, by decide⟩ dX12_laysAlone_95 98 rfl rfl (Nat.le_of_ble_eq_true rfl) ?_
        refine x_aload_n C dX12_laysAlone_98 99 rfl 0 rfl ?_
        refine x_get C inX12 0 lm0 EM_0 rfl 65 (by decide) dX12_laysAlone_99 102 rfl wmf_X12_158 rfl ?_
        refine x_iload_n C dX12_laysAlone_102 103 rfl 1 rfl ?_
        refine x_aload_n C dX12_laysAlone_103 104 rfl 0 rfl ?_
        refine x_get C inX12 0 lm0 EM_0 rfl 50 (by decide) dX12_laysAlone_104 107 rfl wmf_X12_396 rfl ?_
        refine x_iast C 46 lm46 (fun _ => EM_46) 0 rfl dX12_laysAlone_107 108 rfl h (fun a107 h => ?_)
        refine x_aload_n C dX12_laysAlone_108 109 rfl 0 rfl ?_
        refine x_get C inX12 0 lm0 EM_0 rfl 66 (by decide) dX12_laysAlone_109 112 rfl wmf_X12_161 rfl ?_
        refine x_iload_n C dX12_laysAlone_112 113 rfl 1 rfl ?_
        refine x_aload_n C dX12_laysAlone_113 114 rfl 0 rfl ?_
        refine x_get C inX12 0 lm0 EM_0 rfl 51 (by decide) dX12_laysAlone_114 117 rfl wmf_X12_399 rfl ?_
        refine x_aload_n C dX12_laysAlone_117 118 rfl 0 rfl ?_
        refine x_get C inX12 0 lm0 EM_0 rfl 9 (by decide) dX12_laysAlone_118 121 rfl wmf_X12_20 rfl ?_
        refine x_iconst C dX12_laysAlone_121 122 rfl 5 rfl ?_
        refine x_ialdK C 3 lm3 EM_3 0 rfl dX12_laysAlone_122 123 rfl (by decide) 5 (by decide) ?_
        refine x_iadd C dX12_laysAlone_123 124 rfl ?_
        refine x_iast C 47 lm47 (fun _ => EM_47) 0 rfl dX12_laysAlone_124 125 rfl h (fun a124 h => ?_)
        exact x_vret C rfl dX12_laysAlone_125 h
      · exact x_vret C rfl dX12_laysAlone_86 h
abbrev rm_X12_writes : Room := { frames := 0, cells := 0, slots := 0, locals := 0 }
theorem wq_X12_writes : xcV RX12 yX12_writes cX12_writes 2 none 1 := ⟨wmi_X12_writes, wms_X12_writes, wmn_X12, wmc_X12_writes, by decide, by decide, by decide +kernel⟩
def F_X12_writes (N : Nat) (ah : AH) (p1 : Int32) : Option AH := xg (ah 0 69) 2000 (xlet (xu ah 50 (Int32.toNatClampNeg (ah 0 69)) p1) (fun a9 => xlet (xu a9 0 69 ((a9 0 69) + 1)) (fun a17 => some a17)))
theorem c_X12_writes {l : Launch} {D : va_G} {ca : Nat → ClassId} {ad : Nat → Nat} (hI : xInj ad NCM) {N : Nat} {ah : AH} {p1 : Int32} {a : AH} (h : F_X12_writes N ah p1 = some a) : xMv l yX12_writes cX12_writes 2 rm_X12_writes D vwCl (tysM ca) (EM ad ca) NCM ad [.ref (ad 0), .int p1] ah a := by
  refine x_metv (by decide) (Nat.le_of_ble_eq_true rfl) hI EM_loc ?_
  intro p e s m args below meth c C
  unfold F_X12_writes at h
  refine x_aload_n C dX12_writes_0 1 rfl 0 rfl ?_
  refine x_get C inX12 0 lm0 EM_0 rfl 72 (by decide) dX12_writes_1 4 rfl wmf_X12_171 rfl ?_
  refine x_aload_n C dX12_writes_4 5 rfl 0 rfl ?_
  refine x_get C inX12 0 lm0 EM_0 rfl 69 (by decide) dX12_writes_5 8 rfl wmf_X12_429 rfl ?_
  refine x_iload_n C dX12_writes_8 9 rfl 1 rfl ?_
  refine x_iast C 50 lm50 (fun _ => EM_50) 0 rfl dX12_writes_9 10 rfl h (fun a9 h => ?_)
  refine x_aload_n C dX12_writes_10 11 rfl 0 rfl ?_
  refine x_dup C dX12_writes_11 12 rfl rfl ?_
  refine x_get C inX12 0 lm0 EM_0 rfl 69 (by decide) dX12_writes_12 15 rfl wmf_X12_429 rfl ?_
  refine x_iconst C dX12_writes_15 16 rfl 1 rfl ?_
  refine x_iadd C dX12_writes_16 17 rfl ?_
  refine x_put C inX12 0 lm0 EM_0 rfl 69 (by decide) tyX12_ok nmX12 dX12_writes_17 20 rfl wmf_X12_429 rfl rfl rfl (Nat.le_of_ble_eq_true rfl) EQ_0_69 h (fun a17 h => ?_)
  exact x_vret C rfl dX12_writes_20 h
abbrev rm_X12_writesOne : Room := { frames := 1, cells := 0, slots := 0, locals := 21 }
theorem wq_X12_writesOne : xcV RX12 yX12_writesOne cX12_writesOne 4 none 2 := ⟨wmi_X12_writesOne, wms_X12_writesOne, wmn_X12, wmc_X12_writesOne, by decide, by decide, by decide +kernel⟩
def F_X12_writesOne_87 (N : Nat) (k37 : AH → Int32 → Int32 → Int32 → Option AH) (ah : AH) (v1 : Int32) (v2 : Int32) (v3 : Int32) : Option AH := xlet (v3 + 1) (fun v3_87 => k37 ah v1 v2 v3_87)
def F_X12_writesOne_37 (N : Nat) : Nat → AH → Int32 → Int32 → Int32 → Option AH
  | 0, _, _, _, _ => none
  | n + 1, ah, v1, v2, v3 => if v2 = ((-1)) then xlet (197 + 0) (fun x48 => xg v1 40 (if (ah x48 (Int32.toNatClampNeg v1)) ≤ v3 then some ah else xg v1 40 (xg v3 24 (xlet (285 + ((0 * 40 + Int32.toNatClampNeg v1) * 24 + Int32.toNatClampNeg v3)) (fun x63 => if (ah x63 0) = 10 then F_X12_writesOne_87 N (F_X12_writesOne_37 N n) ah v1 v2 v3 else xg v1 40 (xg v3 24 (xlet (285 + ((0 * 40 + Int32.toNatClampNeg v1) * 24 + Int32.toNatClampNeg v3)) (fun x81 => xbv (F_X12_writes N ah (ah x81 0)) (fun a84 => F_X12_writesOne_87 N (F_X12_writesOne_37 N n) a84 v1 v2 v3))))))))) else some ah
def F_X12_writesOne_35 (N : Nat) (ah : AH) (v1 : Int32) (v2 : Int32) : Option AH := xlet 0 (fun v3_36 => F_X12_writesOne_37 N N ah v1 v2 v3_36)
def F_X12_writesOne_2 (N : Nat) : Nat → AH → Int32 → Int32 → Int32 → Option AH
  | 0, _, _, _, _ => none
  | n + 1, ah, v1, v2, v3 => if v2 = ((-1)) then F_X12_writesOne_35 N ah v1 v2 else xg v2 61 (if (ah 5 (Int32.toNatClampNeg v2)) ≤ v3 then F_X12_writesOne_35 N ah v1 v2 else xg v2 61 (xlet (52 + (Int32.toNatClampNeg v2)) (fun x23 => xg v3 12 (xbv (F_X12_writes N ah (ah x23 (Int32.toNatClampNeg v3))) (fun a26 => xlet (v3 + 1) (fun v3_29 => F_X12_writesOne_2 N n a26 v1 v2 v3_29))))))
def F_X12_writesOne (N : Nat) (ah : AH) (p1 : Int32) (p2 : Int32) : Option AH := xlet 0 (fun v3_1 => F_X12_writesOne_2 N N ah p1 p2 v3_1)
theorem b_X12_writesOne_87 (C : XC p l s m args meth c cX12_writesOne 4 none RX12 D vwCl (tysM ca) (EM ad ca) NCM ad) {N : Nat} {o : AH} {k37 : AH → Int32 → Int32 → Int32 → Option AH} (hk37 : ∀ (ah : AH) (v1 : Int32) (v2 : Int32) (v3 : Int32), k37 ah v1 v2 v3 = some o → XW p l e rm_X12_writesOne s m args below meth c 4 0 (xQv below args s D vwCl (tysM ca) (EM ad ca) NCM ad o) D vwCl (EM ad ca) NCM ad ah 37 [(0, .ref (ad 0)), (1, .int v1), (2, .int v2), (3, .int v3)] []) {ah : AH} {v1 : Int32} {v2 : Int32} {v3 : Int32} (h : F_X12_writesOne_87 N k37 ah v1 v2 v3 = some o) : XW p l e rm_X12_writesOne s m args below meth c 4 0 (xQv below args s D vwCl (tysM ca) (EM ad ca) NCM ad o) D vwCl (EM ad ca) NCM ad ah 87 [(0, .ref (ad 0)), (1, .int v1), (2, .int v2), (3, .int v3)] [] := by
  unfold F_X12_writesOne_87 at h
  refine x_iinc C dX12_writesOne_87 90 rfl 3 rfl (d := 1) rfl (by decide) (fun v3_87 => [(3, .int v3_87), (0, .ref (ad 0)), (1, .int v1), (2, .int v2)]) (fun _ => rfl) h (fun v3_87 h => ?_)
  refine x_goto C dX12_writesOne_90 37 rfl ?_
  exact x_sub [1, 2, 3, 0] rfl (hk37 _ _ _ _ h)
theorem b_X12_writesOne_37 (C : XC p l s m args meth c cX12_writesOne 4 none RX12 D vwCl (tysM ca) (EM ad ca) NCM ad) {N : Nat} {o : AH} : ∀ (n : Nat) {ah : AH} {v1 : Int32} {v2 : Int32} {v3 : Int32}, F_X12_writesOne_37 N n ah v1 v2 v3 = some o → XW p l e rm_X12_writesOne s m args below meth c 4 0 (xQv below args s D vwCl (tysM ca) (EM ad ca) NCM ad o) D vwCl (EM ad ca) NCM ad ah 37 [(0, .ref (ad 0)), (1, .int v1), (2, .int v2), (3, .int v3)] [] := by
  intro n
  induction n with
  | zero => intro ah v1 v2 v3 h; unfold F_X12_writesOne_37 at h; cases h
  | succ n ih =>
    intro ah v1 v2 v3 h
    unfold F_X12_writesOne_37 at h
    refine x_iload_n C dX12_writesOne_37 38 rfl 2 rfl ?_
    refine x_iconst C dX12_writesOne_38 39 rfl (-1) rfl ?_
    refine x_icmp_ne C dX12_writesOne_39 42 rfl 93 rfl h (fun h => ?_) (fun h => ?_)
    · exact x_vret C rfl dX12_writesOne_93 h
    · refine x_iload_n C dX12_writesOne_42 43 rfl 3 rfl ?_
      refine x_aload_n C dX12_writesOne_43 44 rfl 0 rfl ?_
      refine x_get C inX12 0 lm0 EM_0 rfl 27 (by decide) dX12_writesOne_44 47 rfl wmf_X12_72 rfl ?_
      refine x_iconst C dX12_writesOne_47 48 rfl 0 rfl ?_
      refine x_aaldLK C (18) lm18 EM_18 2 rfl rfl (by decide) 0 (by decide) dX12_writesOne_48 49 rfl (197 + 0) rfl h (fun x48 ex48 h => ?_)
      have hx48 : mI x48 40 := ex48 ▸ mI_cells (show 0 < 2 by decide)
      refine x_iload_n C dX12_writesOne_49 50 rfl 1 rfl ?_
      refine x_iald C x48 hx48.1 (hx48.2 _ _ _) 0 rfl dX12_writesOne_50 51 rfl h (fun h => ?_)
      refine x_icmp_ge C dX12_writesOne_51 54 rfl 93 rfl h (fun h => ?_) (fun h => ?_)
      · exact x_vret C rfl dX12_writesOne_93 h
      · refine x_aload_n C dX12_writesOne_54 55 rfl 0 rfl ?_
        refine x_get C inX12 0 lm0 EM_0 rfl 30 (by decide) dX12_writesOne_55 58 rfl wmf_X12_83 rfl ?_
        refine x_iconst C dX12_writesOne_58 59 rfl 0 rfl ?_
        refine x_aaldK C (21) lm21 EM_21 4 rfl rfl (by decide) 0 (by decide) dX12_writesOne_59 60 rfl (203 + 0) rfl ?_
        refine x_iload_n C dX12_writesOne_60 61 rfl 1 rfl ?_
        refine x_aald C (203 + 0) (lm_cell_1 (show 0 < 2 by decide)) (EM_cell_1 (show 0 < 2 by decide)) 3 rfl rfl dX12_writesOne_61 62 rfl (205 + (0 * 40 + Int32.toNatClampNeg v1)) rfl h (fun hb61 h => ?_)
        refine x_iload_n C dX12_writesOne_62 63 rfl 3 rfl ?_
        refine x_aaldL C (205 + (0 * 40 + Int32.toNatClampNeg v1)) (lm_cell_2 (xfl (show 0 < 2 by decide) hb61)) (EM_cell_2 (xfl (show 0 < 2 by decide) hb61)) 2 rfl rfl dX12_writesOne_63 64 rfl (285 + ((0 * 40 + Int32.toNatClampNeg v1) * 24 + Int32.toNatClampNeg v3)) rfl h (fun x63 ex63 hb63 h => ?_)
        have hx63 : mI x63 8 := ex63 ▸ mI_cell (xfl (xfl (show 0 < 2 by decide) hb61) hb63)
        refine x_iconst C dX12_writesOne_64 65 rfl 0 rfl ?_
        refine x_ialdK C x63 hx63.1 (hx63.2 _ _ _) 0 rfl dX12_writesOne_65 66 rfl (by decide) 0 (by decide) ?_
        refine x_bipush C dX12_writesOne_66 68 rfl 10 rfl ?_
        refine x_icmp_eq C dX12_writesOne_68 71 rfl 87 rfl h (fun h => ?_) (fun h => ?_)
        · exact b_X12_writesOne_87 C (fun _ _ _ _ h => ih h) h
        · refine x_aload_n C dX12_writesOne_71 72 rfl 0 rfl ?_
          refine x_aload_n C dX12_writesOne_72 73 rfl 0 rfl ?_
          refine x_get C inX12 0 lm0 EM_0 rfl 30 (by decide) dX12_writesOne_73 76 rfl wmf_X12_83 rfl ?_
          refine x_iconst C dX12_writesOne_76 77 rfl 0 rfl ?_
          refine x_aaldK C (21) lm21 EM_21 4 rfl rfl (by decide) 0 (by decide) dX12_writesOne_77 78 rfl (203 + 0) rfl ?_
          refine x_iload_n C dX12_writesOne_78 79 rfl 1 rfl ?_
          refine x_aald C (203 + 0) (lm_cell_1 (show 0 < 2 by decide)) (EM_cell_1 (show 0 < 2 by decide)) 3 rfl rfl dX12_writesOne_79 80 rfl (205 + (0 * 40 + Int32.toNatClampNeg v1)) rfl h (fun hb79 h => ?_)
          refine x_iload_n C dX12_writesOne_80 81 rfl 3 rfl ?_
          refine x_aaldL C (205 + (0 * 40 + Int32.toNatClampNeg v1)) (lm_cell_2 (xfl (show 0 < 2 by decide) hb79)) (EM_cell_2 (xfl (show 0 < 2 by decide) hb79)) 2 rfl rfl dX12_writesOne_81 82 rfl (285 + ((0 * 40 + Int32.toNatClampNeg v1) * 24 + Int32.toNatClampNeg v3)) rfl h (fun x81 ex81 hb81 h => ?_)
          have hx81 : mI x81 8 := ex81 ▸ mI_cell (xfl (xfl (show 0 < 2 by decide) hb79) hb81)
          refine x_iconst C dX12_writesOne_82 83 rfl 0 rfl ?_
          refine x_ialdK C x81 hx81.1 (hx81.2 _ _ _) 0 rfl dX12_writesOne_83 84 rfl (by decide) 0 (by decide) ?_
          obtain ⟨a84, hq, h⟩ := xbv_some h
          refine x_callVv C 0 (c_X12_writes C.2.2.2.2.2.2.1 hq) lm0 EM_0 rfl wml_X12_432 wq_X12_writes rfl ⟨by decide, by decide⟩ rfl rfl ⟨by decide, by decide⟩ dX12_writesOne_84 87 rfl rfl (Nat.le_of_ble_eq_true rfl) ?_
          exact b_X12_writesOne_87 C (fun _ _ _ _ h => ih h) h
theorem b_X12_writesOne_35 (C : XC p l s m args meth c cX12_writesOne 4 none RX12 D vwCl (tysM ca) (EM ad ca) NCM ad) {N : Nat} {o : AH} {ah : AH} {v1 : Int32} {v2 : Int32} (h : F_X12_writesOne_35 N ah v1 v2 = some o) : XW p l e rm_X12_writesOne s m args below meth c 4 0 (xQv below args s D vwCl (tysM ca) (EM ad ca) NCM ad o) D vwCl (EM ad ca) NCM ad ah 35 [(0, .ref (ad 0)), (1, .int v1), (2, .int v2)] [] := by
  unfold F_X12_writesOne_35 at h
  refine x_iconst C dX12_writesOne_35 36 rfl 0 rfl ?_
  refine x_istore_n C dX12_writesOne_36 37 rfl (by decide) (fun v3_36 => [(3, .int v3_36), (0, .ref (ad 0)), (1, .int v1), (2, .int v2)]) (fun _ => rfl) h (fun v3_36 h => ?_)
  exact x_sub [1, 2, 3, 0] rfl (b_X12_writesOne_37 C  N h)
theorem b_X12_writesOne_2 (C : XC p l s m args meth c cX12_writesOne 4 none RX12 D vwCl (tysM ca) (EM ad ca) NCM ad) {N : Nat} {o : AH} : ∀ (n : Nat) {ah : AH} {v1 : Int32} {v2 : Int32} {v3 : Int32}, F_X12_writesOne_2 N n ah v1 v2 v3 = some o → XW p l e rm_X12_writesOne s m args below meth c 4 0 (xQv below args s D vwCl (tysM ca) (EM ad ca) NCM ad o) D vwCl (EM ad ca) NCM ad ah 2 [(0, .ref (ad 0)), (1, .int v1), (2, .int v2), (3, .int v3)] [] := by
  intro n
  induction n with
  | zero => intro ah v1 v2 v3 h; unfold F_X12_writesOne_2 at h; cases h
  | succ n ih =>
    intro ah v1 v2 v3 h
    unfold F_X12_writesOne_2 at h
    refine x_iload_n C dX12_writesOne_2 3 rfl 2 rfl ?_
    refine x_iconst C dX12_writesOne_3 4 rfl (-1) rfl ?_
    refine x_icmp_eq C dX12_writesOne_4 7 rfl 35 rfl h (fun h => ?_) (fun h => ?_)
    · exact x_sub [0, 1, 2] rfl (b_X12_writesOne_35 C  h)
    · refine x_iload_n C dX12_writesOne_7 8 rfl 3 rfl ?_
      refine x_aload_n C dX12_writesOne_8 9 rfl 0 rfl ?_
      refine x_get C inX12 0 lm0 EM_0 rfl 12 (by decide) dX12_writesOne_9 12 rfl wmf_X12_28 rfl ?_
      refine x_iload_n C dX12_writesOne_12 13 rfl 2 rfl ?_
      refine x_iald C 5 lm5 EM_5 0 rfl dX12_writesOne_13 14 rfl h (fun h => ?_)
      refine x_icmp_ge C dX12_writesOne_14 17 rfl 35 rfl h (fun h => ?_) (fun h => ?_)
      · exact x_sub [0, 1, 2] rfl (b_X12_writesOne_35 C  h)
      · refine x_aload_n C dX12_writesOne_17 18 rfl 0 rfl ?_
        refine x_aload_n C dX12_writesOne_18 19 rfl 0 rfl ?_
        refine x_get C inX12 0 lm0 EM_0 rfl 11 (by decide) dX12_writesOne_19 22 rfl wmf_X12_25 rfl ?_
        refine x_iload_n C dX12_writesOne_22 23 rfl 2 rfl ?_
        refine x_aaldL C (4) lm4 EM_4 2 rfl rfl dX12_writesOne_23 24 rfl (52 + (Int32.toNatClampNeg v2)) rfl h (fun x23 ex23 hb23 h => ?_)
        have hx23 : mI x23 12 := ex23 ▸ mI_sign hb23
        refine x_iload_n C dX12_writesOne_24 25 rfl 3 rfl ?_
        refine x_iald C x23 hx23.1 (hx23.2 _ _ _) 0 rfl dX12_writesOne_25 26 rfl h (fun h => ?_)
        obtain ⟨a26, hq, h⟩ := xbv_some h
        refine x_callVv C 0 (c_X12_writes C.2.2.2.2.2.2.1 hq) lm0 EM_0 rfl wml_X12_432 wq_X12_writes rfl ⟨by decide, by decide⟩ rfl rfl ⟨by decide, by decide⟩ dX12_writesOne_26 29 rfl rfl (Nat.le_of_ble_eq_true rfl) ?_
        refine x_iinc C dX12_writesOne_29 32 rfl 3 rfl (d := 1) rfl (by decide) (fun v3_29 => [(3, .int v3_29), (0, .ref (ad 0)), (1, .int v1), (2, .int v2)]) (fun _ => rfl) h (fun v3_29 h => ?_)
        refine x_goto C dX12_writesOne_32 2 rfl ?_
        exact x_sub [1, 2, 3, 0] rfl (ih h)
theorem c_X12_writesOne {l : Launch} {D : va_G} {ca : Nat → ClassId} {ad : Nat → Nat} (hI : xInj ad NCM) {N : Nat} {ah : AH} {p1 : Int32} {p2 : Int32} {a : AH} (h : F_X12_writesOne N ah p1 p2 = some a) : xMv l yX12_writesOne cX12_writesOne 4 rm_X12_writesOne D vwCl (tysM ca) (EM ad ca) NCM ad [.ref (ad 0), .int p1, .int p2] ah a := by
  refine x_metv (by decide) (Nat.le_of_ble_eq_true rfl) hI EM_loc ?_
  intro p e s m args below meth c C
  unfold F_X12_writesOne at h
  refine x_iconst C dX12_writesOne_0 1 rfl 0 rfl ?_
  refine x_istore_n C dX12_writesOne_1 2 rfl (by decide) (fun v3_1 => [(3, .int v3_1), (0, .ref (ad 0)), (1, .int p1), (2, .int p2)]) (fun _ => rfl) h (fun v3_1 h => ?_)
  exact x_sub [1, 2, 3, 0] rfl (b_X12_writesOne_2 C  N h)
abbrev rm_X12_mendsAll : Room := { frames := 5, cells := 0, slots := 0, locals := 119 }
theorem wq_X12_mendsAll : xcV RX12 yX12_mendsAll cX12_mendsAll 4 none 0 := ⟨wmi_X12_mendsAll, wms_X12_mendsAll, wmn_X12, wmc_X12_mendsAll, by decide, by decide, by decide +kernel⟩
def F_X12_mendsAll_300 (N : Nat) (k170 : AH → Int32 → Int32 → Option AH) (ah : AH) (v1 : Int32) (v2 : Int32) : Option AH := k170 ah v1 v2
def F_X12_mendsAll_297 (N : Nat) (k170 : AH → Int32 → Int32 → Option AH) (ah : AH) (v1 : Int32) (v2 : Int32) (s1 : Int32) : Option AH := xbv (F_X12_writes N ah s1) (fun a297 => F_X12_mendsAll_300 N k170 a297 v1 v2)
def F_X12_mendsAll_269 (N : Nat) (k170 : AH → Int32 → Int32 → Option AH) (ah : AH) (v1 : Int32) (s0 : Int32) (s1 : Int32) : Option AH := xlet (s0 + s1) (fun v2_270 => if v1 ≤ v2_270 then F_X12_mendsAll_300 N k170 ah v1 v2_270 else xlet (201 + 0) (fun x282 => xg (v2_270 - 1) 40 (if (ah x282 (Int32.toNatClampNeg (v2_270 - 1))) = 0 then F_X12_mendsAll_297 N k170 ah v1 v2_270 32 else F_X12_mendsAll_297 N k170 ah v1 v2_270 10)))
def F_X12_mendsAll_248 (N : Nat) (k170 : AH → Int32 → Int32 → Option AH) (ah : AH) (v1 : Int32) (v2 : Int32) (v3 : Int32) (s1 : Int32) (s2 : Int32) : Option AH := xlet (xu ah 0 71 (s1 + s2)) (fun a249 => xg v2 40 (xlet (xu a249 51 (Int32.toNatClampNeg v2) (vp_nar .boolean v3)) (fun a258 => if v3 = 0 then F_X12_mendsAll_269 N k170 a258 v1 v2 1 else F_X12_mendsAll_269 N k170 a258 v1 v2 2)))
def F_X12_mendsAll_247 (N : Nat) (k170 : AH → Int32 → Int32 → Option AH) (ah : AH) (v1 : Int32) (v2 : Int32) (v3 : Int32) (s1 : Int32) : Option AH := F_X12_mendsAll_248 N k170 ah v1 v2 v3 s1 0
def F_X12_mendsAll_220 (N : Nat) (k170 : AH → Int32 → Int32 → Option AH) (ah : AH) (v1 : Int32) (v2 : Int32) (v3 : Int32) (s1 : Int32) (s2 : Int32) : Option AH := xlet (xu ah 0 70 (s1 + s2)) (fun a221 => if v3 = 0 then xg v2 40 (if (a221 44 (Int32.toNatClampNeg v2)) = ((-1)) then F_X12_mendsAll_248 N k170 a221 v1 v2 v3 (a221 0 71) 1 else F_X12_mendsAll_247 N k170 a221 v1 v2 v3 (a221 0 71)) else F_X12_mendsAll_247 N k170 a221 v1 v2 v3 (a221 0 71))
def F_X12_mendsAll_203 (N : Nat) (k170 : AH → Int32 → Int32 → Option AH) (ah : AH) (v1 : Int32) (v2 : Int32) (v3 : Int32) (s1 : Int32) (s2 : Int32) : Option AH := xbv (F_X12_writesOne N ah s1 s2) (fun a203 => if v3 = 0 then F_X12_mendsAll_220 N k170 a203 v1 v2 v3 (a203 0 70) 0 else F_X12_mendsAll_220 N k170 a203 v1 v2 v3 (a203 0 70) 1)
def F_X12_mendsAll_170 (N : Nat) : Nat → AH → Int32 → Int32 → Option AH
  | 0, _, _, _ => none
  | n + 1, ah, v1, v2 => if v1 ≤ v2 then some ah else xg v2 40 (xlet (ah 49 (Int32.toNatClampNeg v2)) (fun v3_181 => if v3_181 = 0 then xg v2 40 (F_X12_mendsAll_203 N (F_X12_mendsAll_170 N n) ah v1 v2 v3_181 v2 (ah 44 (Int32.toNatClampNeg v2))) else xg v2 40 (F_X12_mendsAll_203 N (F_X12_mendsAll_170 N n) ah v1 v2 v3_181 v2 (ah 46 (Int32.toNatClampNeg v2)))))
def F_X12_mendsAll_147 (N : Nat) (k36 : AH → Int32 → Int32 → Option AH) (ah : AH) (v1 : Int32) (v2 : Int32) : Option AH := xlet (v2 + (-1)) (fun v2_147 => k36 ah v1 v2_147)
def F_X12_mendsAll_116 (N : Nat) (k36 : AH → Int32 → Int32 → Option AH) (ah : AH) (v1 : Int32) (v2 : Int32) (s1 : Int32) (s2 : Int32) : Option AH := xg s1 40 (xlet (xu ah 49 (Int32.toNatClampNeg s1) (vp_nar .boolean s2)) (fun a116 => xg v2 40 (if (a116 49 (Int32.toNatClampNeg v2)) = 0 then F_X12_mendsAll_147 N k36 a116 v1 v2 else xg v2 40 (xg (v2 + 2) 42 (xg v2 42 (xlet (xu a116 48 (Int32.toNatClampNeg v2) ((a116 47 (Int32.toNatClampNeg v2)) + (a116 48 (Int32.toNatClampNeg (v2 + 2))))) (fun a146 => F_X12_mendsAll_147 N k36 a146 v1 v2)))))))
def F_X12_mendsAll_115 (N : Nat) (k36 : AH → Int32 → Int32 → Option AH) (ah : AH) (v1 : Int32) (v2 : Int32) (s1 : Int32) : Option AH := F_X12_mendsAll_116 N k36 ah v1 v2 s1 0
def F_X12_mendsAll_100 (N : Nat) (k36 : AH → Int32 → Int32 → Option AH) (ah : AH) (v1 : Int32) (v2 : Int32) (s1 : Int32) (s2 : Int32) (s4 : Int32) : Option AH := xg s4 42 (xg v2 42 (if (ah 48 (Int32.toNatClampNeg v2)) ≤ (s2 + (ah 48 (Int32.toNatClampNeg s4))) then F_X12_mendsAll_115 N k36 ah v1 v2 s1 else F_X12_mendsAll_116 N k36 ah v1 v2 s1 1))
def F_X12_mendsAll_36 (N : Nat) : Nat → AH → Int32 → Int32 → Option AH
  | 0, _, _, _ => none
  | n + 1, ah, v1, v2 => if v2 < 0 then xlet (xu ah 0 69 0) (fun a155 => xlet (xu a155 0 70 0) (fun a160 => xlet (xu a160 0 71 0) (fun a165 => xlet 0 (fun v2_169 => F_X12_mendsAll_170 N N a165 v1 v2_169)))) else xg v2 40 (xg (v2 + 1) 42 (xg v2 42 (xlet (xu ah 48 (Int32.toNatClampNeg v2) ((ah 45 (Int32.toNatClampNeg v2)) + (ah 48 (Int32.toNatClampNeg (v2 + 1))))) (fun a60 => xg v2 40 (if (a60 46 (Int32.toNatClampNeg v2)) = ((-1)) then F_X12_mendsAll_115 N (F_X12_mendsAll_36 N n) a60 v1 v2 v2 else xg v2 40 (if (v2 + 2) ≤ v1 then F_X12_mendsAll_100 N (F_X12_mendsAll_36 N n) a60 v1 v2 v2 (a60 47 (Int32.toNatClampNeg v2)) (v2 + 2) else F_X12_mendsAll_100 N (F_X12_mendsAll_36 N n) a60 v1 v2 v2 (a60 47 (Int32.toNatClampNeg v2)) v1))))))
def F_X12_mendsAll_9 (N : Nat) : Nat → AH → Int32 → Int32 → Option AH
  | 0, _, _, _ => none
  | n + 1, ah, v1, v2 => if v1 ≤ v2 then xg v1 42 (xlet (xu ah 48 (Int32.toNatClampNeg v1) 0) (fun a31 => xlet (v1 - 1) (fun v2_35 => F_X12_mendsAll_36 N N a31 v1 v2_35))) else xbv (F_X12_laysAlone N ah v2) (fun a16 => xlet (v2 + 1) (fun v2_19 => F_X12_mendsAll_9 N n a16 v1 v2_19))
def F_X12_mendsAll (N : Nat) (ah : AH) : Option AH := xlet (ah 16 0) (fun v1_6 => xlet 0 (fun v2_8 => F_X12_mendsAll_9 N N ah v1_6 v2_8))
theorem b_X12_mendsAll_300 (C : XC p l s m args meth c cX12_mendsAll 4 none RX12 D vwCl (tysM ca) (EM ad ca) NCM ad) {N : Nat} {o : AH} {k170 : AH → Int32 → Int32 → Option AH} (hk170 : ∀ (ah : AH) (v1 : Int32) (v2 : Int32), k170 ah v1 v2 = some o → XW p l e rm_X12_mendsAll s m args below meth c 4 0 (xQv below args s D vwCl (tysM ca) (EM ad ca) NCM ad o) D vwCl (EM ad ca) NCM ad ah 170 [(0, .ref (ad 0)), (1, .int v1), (2, .int v2)] []) {ah : AH} {v1 : Int32} {v2 : Int32} (h : F_X12_mendsAll_300 N k170 ah v1 v2 = some o) : XW p l e rm_X12_mendsAll s m args below meth c 4 0 (xQv below args s D vwCl (tysM ca) (EM ad ca) NCM ad o) D vwCl (EM ad ca) NCM ad ah 300 [(0, .ref (ad 0)), (1, .int v1), (2, .int v2)] [] := by
  unfold F_X12_mendsAll_300 at h
  refine x_goto C dX12_mendsAll_300 170 rfl ?_
  exact hk170 _ _ _ h
theorem b_X12_mendsAll_297 (C : XC p l s m args meth c cX12_mendsAll 4 none RX12 D vwCl (tysM ca) (EM ad ca) NCM ad) {N : Nat} {o : AH} {k170 : AH → Int32 → Int32 → Option AH} (hk170 : ∀ (ah : AH) (v1 : Int32) (v2 : Int32), k170 ah v1 v2 = some o → XW p l e rm_X12_mendsAll s m args below meth c 4 0 (xQv below args s D vwCl (tysM ca) (EM ad ca) NCM ad o) D vwCl (EM ad ca) NCM ad ah 170 [(0, .ref (ad 0)), (1, .int v1), (2, .int v2)] []) {ah : AH} {v1 : Int32} {v2 : Int32} {s1 : Int32} (h : F_X12_mendsAll_297 N k170 ah v1 v2 s1 = some o) : XW p l e rm_X12_mendsAll s m args below meth c 4 0 (xQv below args s D vwCl (tysM ca) (EM ad ca) NCM ad o) D vwCl (EM ad ca) NCM ad ah 297 [(0, .ref (ad 0)), (1, .int v1), (2, .int v2)] [.int s1, .ref (ad 0)] := by
  unfold F_X12_mendsAll_297 at h
  obtain ⟨a297, hq, h⟩ := xbv_some h
  refine x_callVv C 0 (c_X12_writes C.2.2.2.2.2.2.1 hq) lm0 EM_0 rfl wml_X12_432 wq_X12_writes rfl ⟨by decide, by decide⟩ rfl rfl ⟨by decide, by decide⟩ dX12_mendsAll_297 300 rfl rfl (Nat.le_of_ble_eq_true rfl) ?_
  exact b_X12_mendsAll_300 C hk170 h
theorem b_X12_mendsAll_269 (C : XC p l s m args meth c cX12_mendsAll 4 none RX12 D vwCl (tysM ca) (EM ad ca) NCM ad) {N : Nat} {o : AH} {k170 : AH → Int32 → Int32 → Option AH} (hk170 : ∀ (ah : AH) (v1 : Int32) (v2 : Int32), k170 ah v1 v2 = some o → XW p l e rm_X12_mendsAll s m args below meth c 4 0 (xQv below args s D vwCl (tysM ca) (EM ad ca) NCM ad o) D vwCl (EM ad ca) NCM ad ah 170 [(0, .ref (ad 0)), (1, .int v1), (2, .int v2)] []) {ah : AH} {v1 : Int32} {s0 : Int32} {s1 : Int32} (h : F_X12_mendsAll_269 N k170 ah v1 s0 s1 = some o) : XW p l e rm_X12_mendsAll s m args below meth c 4 0 (xQv below args s D vwCl (tysM ca) (EM ad ca) NCM ad o) D vwCl (EM ad ca) NCM ad ah 269 [(0, .ref (ad 0)), (1, .int v1)] [.int s1, .int s0] := by
  unfold F_X12_mendsAll_269 at h
  refine x_iadd C dX12_mendsAll_269 270 rfl ?_
  refine x_istore_n C dX12_mendsAll_270 271 rfl (by decide) (fun v2_270 => [(2, .int v2_270), (0, .ref (ad 0)), (1, .int v1)]) (fun _ => rfl) h (fun v2_270 h => ?_)
  refine x_iload_n C dX12_mendsAll_271 272 rfl 0 rfl ?_
  refine x_iload_n C dX12_mendsAll_272 273 rfl 2 rfl ?_
  refine x_icmp_ge C dX12_mendsAll_273 276 rfl 300 rfl h (fun h => ?_) (fun h => ?_)
  · exact x_sub [1, 2, 0] rfl (b_X12_mendsAll_300 C hk170 h)
  · refine x_aload_n C dX12_mendsAll_276 277 rfl 1 rfl ?_
    refine x_aload_n C dX12_mendsAll_277 278 rfl 1 rfl ?_
    refine x_get C inX12 0 lm0 EM_0 rfl 29 (by decide) dX12_mendsAll_278 281 rfl wmf_X12_78 rfl ?_
    refine x_iconst C dX12_mendsAll_281 282 rfl 0 rfl ?_
    refine x_aaldLK C (20) lm20 EM_20 2 rfl rfl (by decide) 0 (by decide) dX12_mendsAll_282 283 rfl (201 + 0) rfl h (fun x282 ex282 h => ?_)
    have hx282 : mI x282 40 := ex282 ▸ mI_behind (show 0 < 2 by decide)
    refine x_iload_n C dX12_mendsAll_283 284 rfl 0 rfl ?_
    refine x_iconst C dX12_mendsAll_284 285 rfl 1 rfl ?_
    refine x_isub C dX12_mendsAll_285 286 rfl ?_
    refine x_iald C x282 hx282.1 (hx282.2 _ _ _) 0 rfl dX12_mendsAll_286 287 rfl h (fun h => ?_)
    refine x_if_ne C dX12_mendsAll_287 290 rfl 295 rfl h (fun h => ?_) (fun h => ?_)
    · refine x_bipush C dX12_mendsAll_295 297 rfl 10 rfl ?_
      exact x_sub [1, 2, 0] rfl (b_X12_mendsAll_297 C hk170 h)
    · refine x_bipush C dX12_mendsAll_290 292 rfl 32 rfl ?_
      refine x_goto C dX12_mendsAll_292 297 rfl ?_
      exact x_sub [1, 2, 0] rfl (b_X12_mendsAll_297 C hk170 h)
theorem b_X12_mendsAll_248 (C : XC p l s m args meth c cX12_mendsAll 4 none RX12 D vwCl (tysM ca) (EM ad ca) NCM ad) {N : Nat} {o : AH} {k170 : AH → Int32 → Int32 → Option AH} (hk170 : ∀ (ah : AH) (v1 : Int32) (v2 : Int32), k170 ah v1 v2 = some o → XW p l e rm_X12_mendsAll s m args below meth c 4 0 (xQv below args s D vwCl (tysM ca) (EM ad ca) NCM ad o) D vwCl (EM ad ca) NCM ad ah 170 [(0, .ref (ad 0)), (1, .int v1), (2, .int v2)] []) {ah : AH} {v1 : Int32} {v2 : Int32} {v3 : Int32} {s1 : Int32} {s2 : Int32} (h : F_X12_mendsAll_248 N k170 ah v1 v2 v3 s1 s2 = some o) : XW p l e rm_X12_mendsAll s m args below meth c 4 0 (xQv below args s D vwCl (tysM ca) (EM ad ca) NCM ad o) D vwCl (EM ad ca) NCM ad ah 248 [(0, .ref (ad 0)), (1, .int v1), (2, .int v2), (3, .int v3)] [.int s2, .int s1, .ref (ad 0)] := by
  unfold F_X12_mendsAll_248 at h
  refine x_iadd C dX12_mendsAll_248 249 rfl ?_
  refine x_put C inX12 0 lm0 EM_0 rfl 71 (by decide) tyX12_ok nmX12 dX12_mendsAll_249 252 rfl wmf_X12_441 rfl rfl rfl (Nat.le_of_ble_eq_true rfl) EQ_0_71 h (fun a249 h => ?_)
  refine x_aload_n C dX12_mendsAll_252 253 rfl 0 rfl ?_
  refine x_get C inX12 0 lm0 EM_0 rfl 73 (by decide) dX12_mendsAll_253 256 rfl wmf_X12_174 rfl ?_
  refine x_iload_n C dX12_mendsAll_256 257 rfl 2 rfl ?_
  refine x_iload_n C dX12_mendsAll_257 258 rfl 3 rfl ?_
  refine x_zast C 51 lm51 (fun _ => EM_51) 1 rfl dX12_mendsAll_258 259 rfl h (fun a258 h => ?_)
  refine x_iload_n C dX12_mendsAll_259 260 rfl 2 rfl ?_
  refine x_iload_n C dX12_mendsAll_260 261 rfl 3 rfl ?_
  refine x_if_eq C dX12_mendsAll_261 264 rfl 268 rfl h (fun h => ?_) (fun h => ?_)
  · refine x_iconst C dX12_mendsAll_268 269 rfl 1 rfl ?_
    exact x_sub [0, 1] rfl (b_X12_mendsAll_269 C hk170 h)
  · refine x_iconst C dX12_mendsAll_264 265 rfl 2 rfl ?_
    refine x_goto C dX12_mendsAll_265 269 rfl ?_
    exact x_sub [0, 1] rfl (b_X12_mendsAll_269 C hk170 h)
theorem b_X12_mendsAll_247 (C : XC p l s m args meth c cX12_mendsAll 4 none RX12 D vwCl (tysM ca) (EM ad ca) NCM ad) {N : Nat} {o : AH} {k170 : AH → Int32 → Int32 → Option AH} (hk170 : ∀ (ah : AH) (v1 : Int32) (v2 : Int32), k170 ah v1 v2 = some o → XW p l e rm_X12_mendsAll s m args below meth c 4 0 (xQv below args s D vwCl (tysM ca) (EM ad ca) NCM ad o) D vwCl (EM ad ca) NCM ad ah 170 [(0, .ref (ad 0)), (1, .int v1), (2, .int v2)] []) {ah : AH} {v1 : Int32} {v2 : Int32} {v3 : Int32} {s1 : Int32} (h : F_X12_mendsAll_247 N k170 ah v1 v2 v3 s1 = some o) : XW p l e rm_X12_mendsAll s m args below meth c 4 0 (xQv below args s D vwCl (tysM ca) (EM ad ca) NCM ad o) D vwCl (EM ad ca) NCM ad ah 247 [(0, .ref (ad 0)), (1, .int v1), (2, .int v2), (3, .int v3)] [.int s1, .ref (ad 0)] := by
  unfold F_X12_mendsAll_247 at h
  refine x_iconst C dX12_mendsAll_247 248 rfl 0 rfl ?_
  exact b_X12_mendsAll_248 C hk170 h
theorem b_X12_mendsAll_220 (C : XC p l s m args meth c cX12_mendsAll 4 none RX12 D vwCl (tysM ca) (EM ad ca) NCM ad) {N : Nat} {o : AH} {k170 : AH → Int32 → Int32 → Option AH} (hk170 : ∀ (ah : AH) (v1 : Int32) (v2 : Int32), k170 ah v1 v2 = some o → XW p l e rm_X12_mendsAll s m args below meth c 4 0 (xQv below args s D vwCl (tysM ca) (EM ad ca) NCM ad o) D vwCl (EM ad ca) NCM ad ah 170 [(0, .ref (ad 0)), (1, .int v1), (2, .int v2)] []) {ah : AH} {v1 : Int32} {v2 : Int32} {v3 : Int32} {s1 : Int32} {s2 : Int32} (h : F_X12_mendsAll_220 N k170 ah v1 v2 v3 s1 s2 = some o) : XW p l e rm_X12_mendsAll s m args below meth c 4 0 (xQv below args s D vwCl (tysM ca) (EM ad ca) NCM ad o) D vwCl (EM ad ca) NCM ad ah 220 [(0, .ref (ad 0)), (1, .int v1), (2, .int v2), (3, .int v3)] [.int s2, .int s1, .ref (ad 0)] := by
  unfold F_X12_mendsAll_220 at h
  refine x_iadd C dX12_mendsAll_220 221 rfl ?_
  refine x_put C inX12 0 lm0 EM_0 rfl 70 (by decide) tyX12_ok nmX12 dX12_mendsAll_221 224 rfl wmf_X12_438 rfl rfl rfl (Nat.le_of_ble_eq_true rfl) EQ_0_70 h (fun a221 h => ?_)
  refine x_aload_n C dX12_mendsAll_224 225 rfl 0 rfl ?_
  refine x_dup C dX12_mendsAll_225 226 rfl rfl ?_
  refine x_get C inX12 0 lm0 EM_0 rfl 71 (by decide) dX12_mendsAll_226 229 rfl wmf_X12_441 rfl ?_
  refine x_iload_n C dX12_mendsAll_229 230 rfl 3 rfl ?_
  refine x_if_ne C dX12_mendsAll_230 233 rfl 247 rfl h (fun h => ?_) (fun h => ?_)
  · exact b_X12_mendsAll_247 C hk170 h
  · refine x_aload_n C dX12_mendsAll_233 234 rfl 0 rfl ?_
    refine x_get C inX12 0 lm0 EM_0 rfl 63 (by decide) dX12_mendsAll_234 237 rfl wmf_X12_152 rfl ?_
    refine x_iload_n C dX12_mendsAll_237 238 rfl 2 rfl ?_
    refine x_iald C 44 lm44 EM_44 0 rfl dX12_mendsAll_238 239 rfl h (fun h => ?_)
    refine x_iconst C dX12_mendsAll_239 240 rfl (-1) rfl ?_
    refine x_icmp_ne C dX12_mendsAll_240 243 rfl 247 rfl h (fun h => ?_) (fun h => ?_)
    · exact b_X12_mendsAll_247 C hk170 h
    · refine x_iconst C dX12_mendsAll_243 244 rfl 1 rfl ?_
      refine x_goto C dX12_mendsAll_244 248 rfl ?_
      exact b_X12_mendsAll_248 C hk170 h
theorem b_X12_mendsAll_203 (C : XC p l s m args meth c cX12_mendsAll 4 none RX12 D vwCl (tysM ca) (EM ad ca) NCM ad) {N : Nat} {o : AH} {k170 : AH → Int32 → Int32 → Option AH} (hk170 : ∀ (ah : AH) (v1 : Int32) (v2 : Int32), k170 ah v1 v2 = some o → XW p l e rm_X12_mendsAll s m args below meth c 4 0 (xQv below args s D vwCl (tysM ca) (EM ad ca) NCM ad o) D vwCl (EM ad ca) NCM ad ah 170 [(0, .ref (ad 0)), (1, .int v1), (2, .int v2)] []) {ah : AH} {v1 : Int32} {v2 : Int32} {v3 : Int32} {s1 : Int32} {s2 : Int32} (h : F_X12_mendsAll_203 N k170 ah v1 v2 v3 s1 s2 = some o) : XW p l e rm_X12_mendsAll s m args below meth c 4 0 (xQv below args s D vwCl (tysM ca) (EM ad ca) NCM ad o) D vwCl (EM ad ca) NCM ad ah 203 [(0, .ref (ad 0)), (1, .int v1), (2, .int v2), (3, .int v3)] [.int s2, .int s1, .ref (ad 0)] := by
  unfold F_X12_mendsAll_203 at h
  obtain ⟨a203, hq, h⟩ := xbv_some h
  refine x_callVv C 0 (c_X12_writesOne C.2.2.2.2.2.2.1 hq) lm0 EM_0 rfl wml_X12_444 wq_X12_writesOne rfl ⟨by decide, by decide⟩ rfl rfl ⟨by decide, by decide⟩ dX12_mendsAll_203 206 rfl rfl (Nat.le_of_ble_eq_true rfl) ?_
  refine x_aload_n C dX12_mendsAll_206 207 rfl 0 rfl ?_
  refine x_dup C dX12_mendsAll_207 208 rfl rfl ?_
  refine x_get C inX12 0 lm0 EM_0 rfl 70 (by decide) dX12_mendsAll_208 211 rfl wmf_X12_438 rfl ?_
  refine x_iload_n C dX12_mendsAll_211 212 rfl 3 rfl ?_
  refine x_if_eq C dX12_mendsAll_212 215 rfl 219 rfl h (fun h => ?_) (fun h => ?_)
  · refine x_iconst C dX12_mendsAll_219 220 rfl 0 rfl ?_
    exact b_X12_mendsAll_220 C hk170 h
  · refine x_iconst C dX12_mendsAll_215 216 rfl 1 rfl ?_
    refine x_goto C dX12_mendsAll_216 220 rfl ?_
    exact b_X12_mendsAll_220 C hk170 h
theorem b_X12_mendsAll_170 (C : XC p l s m args meth c cX12_mendsAll 4 none RX12 D vwCl (tysM ca) (EM ad ca) NCM ad) {N : Nat} {o : AH} : ∀ (n : Nat) {ah : AH} {v1 : Int32} {v2 : Int32}, F_X12_mendsAll_170 N n ah v1 v2 = some o → XW p l e rm_X12_mendsAll s m args below meth c 4 0 (xQv below args s D vwCl (tysM ca) (EM ad ca) NCM ad o) D vwCl (EM ad ca) NCM ad ah 170 [(0, .ref (ad 0)), (1, .int v1), (2, .int v2)] [] := by
  intro n
  induction n with
  | zero => intro ah v1 v2 h; unfold F_X12_mendsAll_170 at h; cases h
  | succ n ih =>
    intro ah v1 v2 h
    unfold F_X12_mendsAll_170 at h
    refine x_iload_n C dX12_mendsAll_170 171 rfl 2 rfl ?_
    refine x_iload_n C dX12_mendsAll_171 172 rfl 1 rfl ?_
    refine x_icmp_ge C dX12_mendsAll_172 175 rfl 303 rfl h (fun h => ?_) (fun h => ?_)
    · exact x_vret C rfl dX12_mendsAll_303 h
    · refine x_aload_n C dX12_mendsAll_175 176 rfl 0 rfl ?_
      refine x_get C inX12 0 lm0 EM_0 rfl 68 (by decide) dX12_mendsAll_176 179 rfl wmf_X12_167 rfl ?_
      refine x_iload_n C dX12_mendsAll_179 180 rfl 2 rfl ?_
      refine x_zald C 49 lm49 EM_49 1 rfl dX12_mendsAll_180 181 rfl h (fun h => ?_)
      refine x_istore_n C dX12_mendsAll_181 182 rfl (by decide) (fun v3_181 => [(3, .int v3_181), (0, .ref (ad 0)), (1, .int v1), (2, .int v2)]) (fun _ => rfl) h (fun v3_181 h => ?_)
      refine x_aload_n C dX12_mendsAll_182 183 rfl 1 rfl ?_
      refine x_iload_n C dX12_mendsAll_183 184 rfl 3 rfl ?_
      refine x_iload_n C dX12_mendsAll_184 185 rfl 0 rfl ?_
      refine x_if_eq C dX12_mendsAll_185 188 rfl 197 rfl h (fun h => ?_) (fun h => ?_)
      · refine x_aload_n C dX12_mendsAll_197 198 rfl 1 rfl ?_
        refine x_get C inX12 0 lm0 EM_0 rfl 63 (by decide) dX12_mendsAll_198 201 rfl wmf_X12_152 rfl ?_
        refine x_iload_n C dX12_mendsAll_201 202 rfl 3 rfl ?_
        refine x_iald C 44 lm44 EM_44 0 rfl dX12_mendsAll_202 203 rfl h (fun h => ?_)
        exact x_sub [1, 2, 3, 0] rfl (b_X12_mendsAll_203 C (fun _ _ _ h => ih h) h)
      · refine x_aload_n C dX12_mendsAll_188 189 rfl 1 rfl ?_
        refine x_get C inX12 0 lm0 EM_0 rfl 65 (by decide) dX12_mendsAll_189 192 rfl wmf_X12_158 rfl ?_
        refine x_iload_n C dX12_mendsAll_192 193 rfl 3 rfl ?_
        refine x_iald C 46 lm46 EM_46 0 rfl dX12_mendsAll_193 194 rfl h (fun h => ?_)
        refine x_goto C dX12_mendsAll_194 203 rfl ?_
        exact x_sub [1, 2, 3, 0] rfl (b_X12_mendsAll_203 C (fun _ _ _ h => ih h) h)
theorem b_X12_mendsAll_147 (C : XC p l s m args meth c cX12_mendsAll 4 none RX12 D vwCl (tysM ca) (EM ad ca) NCM ad) {N : Nat} {o : AH} {k36 : AH → Int32 → Int32 → Option AH} (hk36 : ∀ (ah : AH) (v1 : Int32) (v2 : Int32), k36 ah v1 v2 = some o → XW p l e rm_X12_mendsAll s m args below meth c 4 0 (xQv below args s D vwCl (tysM ca) (EM ad ca) NCM ad o) D vwCl (EM ad ca) NCM ad ah 36 [(0, .ref (ad 0)), (1, .int v1), (2, .int v2)] []) {ah : AH} {v1 : Int32} {v2 : Int32} (h : F_X12_mendsAll_147 N k36 ah v1 v2 = some o) : XW p l e rm_X12_mendsAll s m args below meth c 4 0 (xQv below args s D vwCl (tysM ca) (EM ad ca) NCM ad o) D vwCl (EM ad ca) NCM ad ah 147 [(0, .ref (ad 0)), (1, .int v1), (2, .int v2)] [] := by
  unfold F_X12_mendsAll_147 at h
  refine x_iinc C dX12_mendsAll_147 150 rfl 2 rfl (d := (-1)) rfl (by decide) (fun v2_147 => [(2, .int v2_147), (0, .ref (ad 0)), (1, .int v1)]) (fun _ => rfl) h (fun v2_147 h => ?_)
  refine x_goto C dX12_mendsAll_150 36 rfl ?_
  exact x_sub [1, 2, 0] rfl (hk36 _ _ _ h)
theorem b_X12_mendsAll_116 (C : XC p l s m args meth c cX12_mendsAll 4 none RX12 D vwCl (tysM ca) (EM ad ca) NCM ad) {N : Nat} {o : AH} {k36 : AH → Int32 → Int32 → Option AH} (hk36 : ∀ (ah : AH) (v1 : Int32) (v2 : Int32), k36 ah v1 v2 = some o → XW p l e rm_X12_mendsAll s m args below meth c 4 0 (xQv below args s D vwCl (tysM ca) (EM ad ca) NCM ad o) D vwCl (EM ad ca) NCM ad ah 36 [(0, .ref (ad 0)), (1, .int v1), (2, .int v2)] []) {ah : AH} {v1 : Int32} {v2 : Int32} {s1 : Int32} {s2 : Int32} (h : F_X12_mendsAll_116 N k36 ah v1 v2 s1 s2 = some o) : XW p l e rm_X12_mendsAll s m args below meth c 4 0 (xQv below args s D vwCl (tysM ca) (EM ad ca) NCM ad o) D vwCl (EM ad ca) NCM ad ah 116 [(0, .ref (ad 0)), (1, .int v1), (2, .int v2)] [.int s2, .int s1, .ref (ad 49)] := by
  unfold F_X12_mendsAll_116 at h
  refine x_zast C 49 lm49 (fun _ => EM_49) 1 rfl dX12_mendsAll_116 117 rfl h (fun a116 h => ?_)
  refine x_aload_n C dX12_mendsAll_117 118 rfl 0 rfl ?_
  refine x_get C inX12 0 lm0 EM_0 rfl 68 (by decide) dX12_mendsAll_118 121 rfl wmf_X12_167 rfl ?_
  refine x_iload_n C dX12_mendsAll_121 122 rfl 2 rfl ?_
  refine x_zald C 49 lm49 EM_49 1 rfl dX12_mendsAll_122 123 rfl h (fun h => ?_)
  refine x_if_eq C dX12_mendsAll_123 126 rfl 147 rfl h (fun h => ?_) (fun h => ?_)
  · exact b_X12_mendsAll_147 C hk36 h
  · refine x_aload_n C dX12_mendsAll_126 127 rfl 0 rfl ?_
    refine x_get C inX12 0 lm0 EM_0 rfl 67 (by decide) dX12_mendsAll_127 130 rfl wmf_X12_164 rfl ?_
    refine x_iload_n C dX12_mendsAll_130 131 rfl 2 rfl ?_
    refine x_aload_n C dX12_mendsAll_131 132 rfl 0 rfl ?_
    refine x_get C inX12 0 lm0 EM_0 rfl 66 (by decide) dX12_mendsAll_132 135 rfl wmf_X12_161 rfl ?_
    refine x_iload_n C dX12_mendsAll_135 136 rfl 2 rfl ?_
    refine x_iald C 47 lm47 EM_47 0 rfl dX12_mendsAll_136 137 rfl h (fun h => ?_)
    refine x_aload_n C dX12_mendsAll_137 138 rfl 0 rfl ?_
    refine x_get C inX12 0 lm0 EM_0 rfl 67 (by decide) dX12_mendsAll_138 141 rfl wmf_X12_164 rfl ?_
    refine x_iload_n C dX12_mendsAll_141 142 rfl 2 rfl ?_
    refine x_iconst C dX12_mendsAll_142 143 rfl 2 rfl ?_
    refine x_iadd C dX12_mendsAll_143 144 rfl ?_
    refine x_iald C 48 lm48 EM_48 0 rfl dX12_mendsAll_144 145 rfl h (fun h => ?_)
    refine x_iadd C dX12_mendsAll_145 146 rfl ?_
    refine x_iast C 48 lm48 (fun _ => EM_48) 0 rfl dX12_mendsAll_146 147 rfl h (fun a146 h => ?_)
    exact b_X12_mendsAll_147 C hk36 h
theorem b_X12_mendsAll_115 (C : XC p l s m args meth c cX12_mendsAll 4 none RX12 D vwCl (tysM ca) (EM ad ca) NCM ad) {N : Nat} {o : AH} {k36 : AH → Int32 → Int32 → Option AH} (hk36 : ∀ (ah : AH) (v1 : Int32) (v2 : Int32), k36 ah v1 v2 = some o → XW p l e rm_X12_mendsAll s m args below meth c 4 0 (xQv below args s D vwCl (tysM ca) (EM ad ca) NCM ad o) D vwCl (EM ad ca) NCM ad ah 36 [(0, .ref (ad 0)), (1, .int v1), (2, .int v2)] []) {ah : AH} {v1 : Int32} {v2 : Int32} {s1 : Int32} (h : F_X12_mendsAll_115 N k36 ah v1 v2 s1 = some o) : XW p l e rm_X12_mendsAll s m args below meth c 4 0 (xQv below args s D vwCl (tysM ca) (EM ad ca) NCM ad o) D vwCl (EM ad ca) NCM ad ah 115 [(0, .ref (ad 0)), (1, .int v1), (2, .int v2)] [.int s1, .ref (ad 49)] := by
  unfold F_X12_mendsAll_115 at h
  refine x_iconst C dX12_mendsAll_115 116 rfl 0 rfl ?_
  exact b_X12_mendsAll_116 C hk36 h
theorem b_X12_mendsAll_100 (C : XC p l s m args meth c cX12_mendsAll 4 none RX12 D vwCl (tysM ca) (EM ad ca) NCM ad) {N : Nat} {o : AH} {k36 : AH → Int32 → Int32 → Option AH} (hk36 : ∀ (ah : AH) (v1 : Int32) (v2 : Int32), k36 ah v1 v2 = some o → XW p l e rm_X12_mendsAll s m args below meth c 4 0 (xQv below args s D vwCl (tysM ca) (EM ad ca) NCM ad o) D vwCl (EM ad ca) NCM ad ah 36 [(0, .ref (ad 0)), (1, .int v1), (2, .int v2)] []) {ah : AH} {v1 : Int32} {v2 : Int32} {s1 : Int32} {s2 : Int32} {s4 : Int32} (h : F_X12_mendsAll_100 N k36 ah v1 v2 s1 s2 s4 = some o) : XW p l e rm_X12_mendsAll s m args below meth c 4 0 (xQv below args s D vwCl (tysM ca) (EM ad ca) NCM ad o) D vwCl (EM ad ca) NCM ad ah 100 [(0, .ref (ad 0)), (1, .int v1), (2, .int v2)] [.int s4, .ref (ad 48), .int s2, .int s1, .ref (ad 49)] := by
  unfold F_X12_mendsAll_100 at h
  refine x_iald C 48 lm48 EM_48 0 rfl dX12_mendsAll_100 101 rfl h (fun h => ?_)
  refine x_iadd C dX12_mendsAll_101 102 rfl ?_
  refine x_aload_n C dX12_mendsAll_102 103 rfl 0 rfl ?_
  refine x_get C inX12 0 lm0 EM_0 rfl 67 (by decide) dX12_mendsAll_103 106 rfl wmf_X12_164 rfl ?_
  refine x_iload_n C dX12_mendsAll_106 107 rfl 2 rfl ?_
  refine x_iald C 48 lm48 EM_48 0 rfl dX12_mendsAll_107 108 rfl h (fun h => ?_)
  refine x_icmp_ge C dX12_mendsAll_108 111 rfl 115 rfl h (fun h => ?_) (fun h => ?_)
  · exact b_X12_mendsAll_115 C hk36 h
  · refine x_iconst C dX12_mendsAll_111 112 rfl 1 rfl ?_
    refine x_goto C dX12_mendsAll_112 116 rfl ?_
    exact b_X12_mendsAll_116 C hk36 h
theorem b_X12_mendsAll_36 (C : XC p l s m args meth c cX12_mendsAll 4 none RX12 D vwCl (tysM ca) (EM ad ca) NCM ad) {N : Nat} {o : AH} : ∀ (n : Nat) {ah : AH} {v1 : Int32} {v2 : Int32}, F_X12_mendsAll_36 N n ah v1 v2 = some o → XW p l e rm_X12_mendsAll s m args below meth c 4 0 (xQv below args s D vwCl (tysM ca) (EM ad ca) NCM ad o) D vwCl (EM ad ca) NCM ad ah 36 [(0, .ref (ad 0)), (1, .int v1), (2, .int v2)] [] := by
  intro n
  induction n with
  | zero => intro ah v1 v2 h; unfold F_X12_mendsAll_36 at h; cases h
  | succ n ih =>
    intro ah v1 v2 h
    unfold F_X12_mendsAll_36 at h
    refine x_iload_n C dX12_mendsAll_36 37 rfl 2 rfl ?_
    refine x_if_lt C dX12_mendsAll_37 40 rfl 153 rfl h (fun h => ?_) (fun h => ?_)
    · refine x_aload_n C dX12_mendsAll_153 154 rfl 0 rfl ?_
      refine x_iconst C dX12_mendsAll_154 155 rfl 0 rfl ?_
      refine x_put C inX12 0 lm0 EM_0 rfl 69 (by decide) tyX12_ok nmX12 dX12_mendsAll_155 158 rfl wmf_X12_429 rfl rfl rfl (Nat.le_of_ble_eq_true rfl) EQ_0_69 h (fun a155 h => ?_)
      refine x_aload_n C dX12_mendsAll_158 159 rfl 0 rfl ?_
      refine x_iconst C dX12_mendsAll_159 160 rfl 0 rfl ?_
      refine x_put C inX12 0 lm0 EM_0 rfl 70 (by decide) tyX12_ok nmX12 dX12_mendsAll_160 163 rfl wmf_X12_438 rfl rfl rfl (Nat.le_of_ble_eq_true rfl) EQ_0_70 h (fun a160 h => ?_)
      refine x_aload_n C dX12_mendsAll_163 164 rfl 0 rfl ?_
      refine x_iconst C dX12_mendsAll_164 165 rfl 0 rfl ?_
      refine x_put C inX12 0 lm0 EM_0 rfl 71 (by decide) tyX12_ok nmX12 dX12_mendsAll_165 168 rfl wmf_X12_441 rfl rfl rfl (Nat.le_of_ble_eq_true rfl) EQ_0_71 h (fun a165 h => ?_)
      refine x_iconst C dX12_mendsAll_168 169 rfl 0 rfl ?_
      refine x_istore_n C dX12_mendsAll_169 170 rfl (by decide) (fun v2_169 => [(2, .int v2_169), (0, .ref (ad 0)), (1, .int v1)]) (fun _ => rfl) h (fun v2_169 h => ?_)
      exact x_sub [1, 2, 0] rfl (b_X12_mendsAll_170 C  N h)
    · refine x_aload_n C dX12_mendsAll_40 41 rfl 0 rfl ?_
      refine x_get C inX12 0 lm0 EM_0 rfl 67 (by decide) dX12_mendsAll_41 44 rfl wmf_X12_164 rfl ?_
      refine x_iload_n C dX12_mendsAll_44 45 rfl 2 rfl ?_
      refine x_aload_n C dX12_mendsAll_45 46 rfl 0 rfl ?_
      refine x_get C inX12 0 lm0 EM_0 rfl 64 (by decide) dX12_mendsAll_46 49 rfl wmf_X12_155 rfl ?_
      refine x_iload_n C dX12_mendsAll_49 50 rfl 2 rfl ?_
      refine x_iald C 45 lm45 EM_45 0 rfl dX12_mendsAll_50 51 rfl h (fun h => ?_)
      refine x_aload_n C dX12_mendsAll_51 52 rfl 0 rfl ?_
      refine x_get C inX12 0 lm0 EM_0 rfl 67 (by decide) dX12_mendsAll_52 55 rfl wmf_X12_164 rfl ?_
      refine x_iload_n C dX12_mendsAll_55 56 rfl 2 rfl ?_
      refine x_iconst C dX12_mendsAll_56 57 rfl 1 rfl ?_
      refine x_iadd C dX12_mendsAll_57 58 rfl ?_
      refine x_iald C 48 lm48 EM_48 0 rfl dX12_mendsAll_58 59 rfl h (fun h => ?_)
      refine x_iadd C dX12_mendsAll_59 60 rfl ?_
      refine x_iast C 48 lm48 (fun _ => EM_48) 0 rfl dX12_mendsAll_60 61 rfl h (fun a60 h => ?_)
      refine x_aload_n C dX12_mendsAll_61 62 rfl 0 rfl ?_
      refine x_get C inX12 0 lm0 EM_0 rfl 68 (by decide) dX12_mendsAll_62 65 rfl wmf_X12_167 rfl ?_
      refine x_iload_n C dX12_mendsAll_65 66 rfl 2 rfl ?_
      refine x_aload_n C dX12_mendsAll_66 67 rfl 0 rfl ?_
      refine x_get C inX12 0 lm0 EM_0 rfl 65 (by decide) dX12_mendsAll_67 70 rfl wmf_X12_158 rfl ?_
      refine x_iload_n C dX12_mendsAll_70 71 rfl 2 rfl ?_
      refine x_iald C 46 lm46 EM_46 0 rfl dX12_mendsAll_71 72 rfl h (fun h => ?_)
      refine x_iconst C dX12_mendsAll_72 73 rfl (-1) rfl ?_
      refine x_icmp_eq C dX12_mendsAll_73 76 rfl 115 rfl h (fun h => ?_) (fun h => ?_)
      · exact b_X12_mendsAll_115 C (fun _ _ _ h => ih h) h
      · refine x_aload_n C dX12_mendsAll_76 77 rfl 0 rfl ?_
        refine x_get C inX12 0 lm0 EM_0 rfl 66 (by decide) dX12_mendsAll_77 80 rfl wmf_X12_161 rfl ?_
        refine x_iload_n C dX12_mendsAll_80 81 rfl 2 rfl ?_
        refine x_iald C 47 lm47 EM_47 0 rfl dX12_mendsAll_81 82 rfl h (fun h => ?_)
        refine x_aload_n C dX12_mendsAll_82 83 rfl 0 rfl ?_
        refine x_get C inX12 0 lm0 EM_0 rfl 67 (by decide) dX12_mendsAll_83 86 rfl wmf_X12_164 rfl ?_
        refine x_iload_n C dX12_mendsAll_86 87 rfl 2 rfl ?_
        refine x_iconst C dX12_mendsAll_87 88 rfl 2 rfl ?_
        refine x_iadd C dX12_mendsAll_88 89 rfl ?_
        refine x_iload_n C dX12_mendsAll_89 90 rfl 1 rfl ?_
        refine x_icmp_le C dX12_mendsAll_90 93 rfl 97 rfl h (fun h => ?_) (fun h => ?_)
        · refine x_iload_n C dX12_mendsAll_97 98 rfl 2 rfl ?_
          refine x_iconst C dX12_mendsAll_98 99 rfl 2 rfl ?_
          refine x_iadd C dX12_mendsAll_99 100 rfl ?_
          exact b_X12_mendsAll_100 C (fun _ _ _ h => ih h) h
        · refine x_iload_n C dX12_mendsAll_93 94 rfl 1 rfl ?_
          refine x_goto C dX12_mendsAll_94 100 rfl ?_
          exact b_X12_mendsAll_100 C (fun _ _ _ h => ih h) h
theorem b_X12_mendsAll_9 (C : XC p l s m args meth c cX12_mendsAll 4 none RX12 D vwCl (tysM ca) (EM ad ca) NCM ad) {N : Nat} {o : AH} : ∀ (n : Nat) {ah : AH} {v1 : Int32} {v2 : Int32}, F_X12_mendsAll_9 N n ah v1 v2 = some o → XW p l e rm_X12_mendsAll s m args below meth c 4 0 (xQv below args s D vwCl (tysM ca) (EM ad ca) NCM ad o) D vwCl (EM ad ca) NCM ad ah 9 [(0, .ref (ad 0)), (1, .int v1), (2, .int v2)] [] := by
  intro n
  induction n with
  | zero => intro ah v1 v2 h; unfold F_X12_mendsAll_9 at h; cases h
  | succ n ih =>
    intro ah v1 v2 h
    unfold F_X12_mendsAll_9 at h
    refine x_iload_n C dX12_mendsAll_9 10 rfl 2 rfl ?_
    refine x_iload_n C dX12_mendsAll_10 11 rfl 1 rfl ?_
    refine x_icmp_ge C dX12_mendsAll_11 14 rfl 25 rfl h (fun h => ?_) (fun h => ?_)
    · refine x_aload_n C dX12_mendsAll_25 26 rfl 0 rfl ?_
      refine x_get C inX12 0 lm0 EM_0 rfl 67 (by decide) dX12_mendsAll_26 29 rfl wmf_X12_164 rfl ?_
      refine x_iload_n C dX12_mendsAll_29 30 rfl 1 rfl ?_
      refine x_iconst C dX12_mendsAll_30 31 rfl 0 rfl ?_
      refine x_iast C 48 lm48 (fun _ => EM_48) 0 rfl dX12_mendsAll_31 32 rfl h (fun a31 h => ?_)
      refine x_iload_n C dX12_mendsAll_32 33 rfl 1 rfl ?_
      refine x_iconst C dX12_mendsAll_33 34 rfl 1 rfl ?_
      refine x_isub C dX12_mendsAll_34 35 rfl ?_
      refine x_istore_n C dX12_mendsAll_35 36 rfl (by decide) (fun v2_35 => [(2, .int v2_35), (0, .ref (ad 0)), (1, .int v1)]) (fun _ => rfl) h (fun v2_35 h => ?_)
      exact x_sub [1, 2, 0] rfl (b_X12_mendsAll_36 C  N h)
    · refine x_aload_n C dX12_mendsAll_14 15 rfl 0 rfl ?_
      refine x_iload_n C dX12_mendsAll_15 16 rfl 2 rfl ?_
      obtain ⟨a16, hq, h⟩ := xbv_some h
      refine x_callVv C 0 (c_X12_laysAlone C.2.2.2.2.2.2.1 hq) lm0 EM_0 rfl wml_X12_435 wq_X12_laysAlone rfl ⟨by decide, by decide⟩ rfl rfl ⟨by decide, by decide⟩ dX12_mendsAll_16 19 rfl rfl (Nat.le_of_ble_eq_true rfl) ?_
      refine x_iinc C dX12_mendsAll_19 22 rfl 2 rfl (d := 1) rfl (by decide) (fun v2_19 => [(2, .int v2_19), (0, .ref (ad 0)), (1, .int v1)]) (fun _ => rfl) h (fun v2_19 h => ?_)
      refine x_goto C dX12_mendsAll_22 9 rfl ?_
      exact x_sub [1, 2, 0] rfl (ih h)
theorem c_X12_mendsAll {l : Launch} {D : va_G} {ca : Nat → ClassId} {ad : Nat → Nat} (hI : xInj ad NCM) {N : Nat} {ah : AH} {a : AH} (h : F_X12_mendsAll N ah = some a) : xMv l yX12_mendsAll cX12_mendsAll 4 rm_X12_mendsAll D vwCl (tysM ca) (EM ad ca) NCM ad [.ref (ad 0)] ah a := by
  refine x_metv (by decide) (Nat.le_of_ble_eq_true rfl) hI EM_loc ?_
  intro p e s m args below meth c C
  unfold F_X12_mendsAll at h
  refine x_aload_n C dX12_mendsAll_0 1 rfl 0 rfl ?_
  refine x_get C inX12 0 lm0 EM_0 rfl 24 (by decide) dX12_mendsAll_1 4 rfl wmf_X12_66 rfl ?_
  refine x_iconst C dX12_mendsAll_4 5 rfl 0 rfl ?_
  refine x_ialdK C 16 lm16 EM_16 0 rfl dX12_mendsAll_5 6 rfl (by decide) 0 (by decide) ?_
  refine x_istore_n C dX12_mendsAll_6 7 rfl (by decide) (fun v1_6 => [(1, .int v1_6), (0, .ref (ad 0))]) (fun _ => rfl) h (fun v1_6 h => ?_)
  refine x_iconst C dX12_mendsAll_7 8 rfl 0 rfl ?_
  refine x_istore_n C dX12_mendsAll_8 9 rfl (by decide) (fun v2_8 => [(2, .int v2_8), (1, .int v1_6), (0, .ref (ad 0))]) (fun _ => rfl) h (fun v2_8 h => ?_)
  exact x_sub [2, 1, 0] rfl (b_X12_mendsAll_9 C  N h)
abbrev rm_X12_text : Room := { frames := 6, cells := 0, slots := 0, locals := 142 }
theorem wq_X12_text : xcV RX12 yX12_text cX12_text 2 (some .int) 1 := ⟨wmi_X12_text, wms_X12_text, wmn_X12, wmc_X12_text, by decide, by decide, by decide +kernel⟩
def F_X12_text_20 (N : Nat) (ah : AH) (v1 : Int32) (s1 : Int32) : Option (Int32 × AH) := xb (F_X12_bad N ah s1 1 1) (fun r22 a22 => if r22 = 0 then xbv (F_X12_mendsAll N a22) (fun a31 => if v1 = 0 then some (a31 0 69, a31) else if v1 = 1 then some (a31 48 0, a31) else if v1 = 2 then some (a31 0 70, a31) else some (a31 0 71, a31)) else some (0, a22))
def F_X12_text (N : Nat) (ah : AH) (p1 : Int32) : Option (Int32 × AH) := xlet (xu ah 0 0 0) (fun a2 => xb (F_X12_in N a2 p1 0 3) (fun r9 a9 => if r9 = 0 then F_X12_text_20 N a9 p1 1 else F_X12_text_20 N a9 p1 0))
theorem b_X12_text_20 (C : XC p l s m args meth c cX12_text 2 (some .int) RX12 D vwCl (tysM ca) (EM ad ca) NCM ad) {N : Nat} {o : (Int32 × AH)} {ah : AH} {v1 : Int32} {s1 : Int32} (h : F_X12_text_20 N ah v1 s1 = some o) : XW p l e rm_X12_text s m args below meth c 2 0 (xQi below args s D vwCl (tysM ca) (EM ad ca) NCM ad o) D vwCl (EM ad ca) NCM ad ah 20 [(0, .ref (ad 0)), (1, .int v1)] [.int s1, .ref (ad 0)] := by
  unfold F_X12_text_20 at h
  refine x_iconst C dX12_text_20 21 rfl 1 rfl ?_
  refine x_iconst C dX12_text_21 22 rfl 1 rfl ?_
  obtain ⟨r22, a22, hq, h⟩ := xb_some h
  refine x_callVi C 0 (c_X12_bad C.2.2.2.2.2.2.1 hq) lm0 EM_0 rfl wml_X12_249 wq_X12_bad rfl ⟨by decide, by decide⟩ rfl rfl ⟨by decide, by decide⟩ dX12_text_22 25 rfl rfl (Nat.le_of_ble_eq_true rfl) ?_
  refine x_if_eq C dX12_text_25 28 rfl 30 rfl h (fun h => ?_) (fun h => ?_)
  · refine x_aload_n C dX12_text_30 31 rfl 0 rfl ?_
    obtain ⟨a31, hq, h⟩ := xbv_some h
    refine x_callVv C 0 (c_X12_mendsAll C.2.2.2.2.2.2.1 hq) lm0 EM_0 rfl wml_X12_447 wq_X12_mendsAll rfl ⟨by decide, by decide⟩ rfl rfl ⟨by decide, by decide⟩ dX12_text_31 34 rfl rfl (Nat.le_of_ble_eq_true rfl) ?_
    refine x_iload_n C dX12_text_34 35 rfl 1 rfl ?_
    refine x_if_ne C dX12_text_35 38 rfl 45 rfl h (fun h => ?_) (fun h => ?_)
    · refine x_iload_n C dX12_text_45 46 rfl 1 rfl ?_
      refine x_iconst C dX12_text_46 47 rfl 1 rfl ?_
      refine x_icmp_ne C dX12_text_47 50 rfl 59 rfl h (fun h => ?_) (fun h => ?_)
      · refine x_iload_n C dX12_text_59 60 rfl 1 rfl ?_
        refine x_iconst C dX12_text_60 61 rfl 2 rfl ?_
        refine x_icmp_ne C dX12_text_61 64 rfl 71 rfl h (fun h => ?_) (fun h => ?_)
        · refine x_aload_n C dX12_text_71 72 rfl 0 rfl ?_
          refine x_get C inX12 0 lm0 EM_0 rfl 71 (by decide) dX12_text_72 75 rfl wmf_X12_441 rfl ?_
          exact x_iret C rfl dX12_text_75 h
        · refine x_aload_n C dX12_text_64 65 rfl 0 rfl ?_
          refine x_get C inX12 0 lm0 EM_0 rfl 70 (by decide) dX12_text_65 68 rfl wmf_X12_438 rfl ?_
          refine x_goto C dX12_text_68 75 rfl ?_
          exact x_iret C rfl dX12_text_75 h
      · refine x_aload_n C dX12_text_50 51 rfl 0 rfl ?_
        refine x_get C inX12 0 lm0 EM_0 rfl 67 (by decide) dX12_text_51 54 rfl wmf_X12_164 rfl ?_
        refine x_iconst C dX12_text_54 55 rfl 0 rfl ?_
        refine x_ialdK C 48 lm48 EM_48 0 rfl dX12_text_55 56 rfl (by decide) 0 (by decide) ?_
        refine x_goto C dX12_text_56 75 rfl ?_
        exact x_iret C rfl dX12_text_75 h
    · refine x_aload_n C dX12_text_38 39 rfl 0 rfl ?_
      refine x_get C inX12 0 lm0 EM_0 rfl 69 (by decide) dX12_text_39 42 rfl wmf_X12_429 rfl ?_
      refine x_goto C dX12_text_42 75 rfl ?_
      exact x_iret C rfl dX12_text_75 h
  · refine x_iconst C dX12_text_28 29 rfl 0 rfl ?_
    exact x_iret C rfl dX12_text_29 h
theorem c_X12_text {l : Launch} {D : va_G} {ca : Nat → ClassId} {ad : Nat → Nat} (hI : xInj ad NCM) {N : Nat} {ah : AH} {p1 : Int32} {r : Int32} {a : AH} (h : F_X12_text N ah p1 = some (r, a)) : xMi l yX12_text cX12_text 2 (some .int) rm_X12_text D vwCl (tysM ca) (EM ad ca) NCM ad [.ref (ad 0), .int p1] ah (r, a) := by
  refine x_meti (by decide) (Nat.le_of_ble_eq_true rfl) hI EM_loc ?_
  intro p e s m args below meth c C
  unfold F_X12_text at h
  refine x_aload_n C dX12_text_0 1 rfl 0 rfl ?_
  refine x_iconst C dX12_text_1 2 rfl 0 rfl ?_
  refine x_put C inX12 0 lm0 EM_0 rfl 0 (by decide) tyX12_ok nmX12 dX12_text_2 5 rfl wmf_X12_180 rfl rfl rfl (Nat.le_of_ble_eq_true rfl) EQ_0_0 h (fun a2 h => ?_)
  refine x_aload_n C dX12_text_5 6 rfl 0 rfl ?_
  refine x_iload_n C dX12_text_6 7 rfl 1 rfl ?_
  refine x_iconst C dX12_text_7 8 rfl 0 rfl ?_
  refine x_iconst C dX12_text_8 9 rfl 3 rfl ?_
  obtain ⟨r9, a9, hq, h⟩ := xb_some h
  refine x_callSi C (c_X12_in C.2.2.2.2.2.2.1 hq) wml_X12_223 wq_X12_in rfl ⟨by decide, by decide⟩ rfl rfl ⟨by decide, by decide⟩ dX12_text_9 12 rfl rfl (Nat.le_of_ble_eq_true rfl) ?_
  refine x_if_ne C dX12_text_12 15 rfl 19 rfl h (fun h => ?_) (fun h => ?_)
  · refine x_iconst C dX12_text_19 20 rfl 0 rfl ?_
    exact b_X12_text_20 C  h
  · refine x_iconst C dX12_text_15 16 rfl 1 rfl ?_
    refine x_goto C dX12_text_16 20 rfl ?_
    exact b_X12_text_20 C  h
abbrev rm_X12_at : Room := { frames := 6, cells := 0, slots := 0, locals := 142 }
theorem wq_X12_at : xcV RX12 yX12_at cX12_at 2 (some .int) 1 := ⟨wmi_X12_at, wms_X12_at, wmn_X12, wmc_X12_at, by decide, by decide, by decide +kernel⟩
def F_X12_at (N : Nat) (ah : AH) (p1 : Int32) : Option (Int32 × AH) := xlet (xu ah 0 0 0) (fun a2 => xbv (F_X12_mendsAll N a2) (fun a6 => xb (F_X12_in N a6 p1 0 ((a6 0 69) - 1)) (fun r17 a17 => if r17 = 0 then some ((-1), a17) else xg p1 2000 (some (a17 50 (Int32.toNatClampNeg p1), a17)))))
theorem c_X12_at {l : Launch} {D : va_G} {ca : Nat → ClassId} {ad : Nat → Nat} (hI : xInj ad NCM) {N : Nat} {ah : AH} {p1 : Int32} {r : Int32} {a : AH} (h : F_X12_at N ah p1 = some (r, a)) : xMi l yX12_at cX12_at 2 (some .int) rm_X12_at D vwCl (tysM ca) (EM ad ca) NCM ad [.ref (ad 0), .int p1] ah (r, a) := by
  refine x_meti (by decide) (Nat.le_of_ble_eq_true rfl) hI EM_loc ?_
  intro p e s m args below meth c C
  unfold F_X12_at at h
  refine x_aload_n C dX12_at_0 1 rfl 0 rfl ?_
  refine x_iconst C dX12_at_1 2 rfl 0 rfl ?_
  refine x_put C inX12 0 lm0 EM_0 rfl 0 (by decide) tyX12_ok nmX12 dX12_at_2 5 rfl wmf_X12_180 rfl rfl rfl (Nat.le_of_ble_eq_true rfl) EQ_0_0 h (fun a2 h => ?_)
  refine x_aload_n C dX12_at_5 6 rfl 0 rfl ?_
  obtain ⟨a6, hq, h⟩ := xbv_some h
  refine x_callVv C 0 (c_X12_mendsAll C.2.2.2.2.2.2.1 hq) lm0 EM_0 rfl wml_X12_447 wq_X12_mendsAll rfl ⟨by decide, by decide⟩ rfl rfl ⟨by decide, by decide⟩ dX12_at_6 9 rfl rfl (Nat.le_of_ble_eq_true rfl) ?_
  refine x_iload_n C dX12_at_9 10 rfl 1 rfl ?_
  refine x_iconst C dX12_at_10 11 rfl 0 rfl ?_
  refine x_aload_n C dX12_at_11 12 rfl 0 rfl ?_
  refine x_get C inX12 0 lm0 EM_0 rfl 69 (by decide) dX12_at_12 15 rfl wmf_X12_429 rfl ?_
  refine x_iconst C dX12_at_15 16 rfl 1 rfl ?_
  refine x_isub C dX12_at_16 17 rfl ?_
  obtain ⟨r17, a17, hq, h⟩ := xb_some h
  refine x_callSi C (c_X12_in C.2.2.2.2.2.2.1 hq) wml_X12_223 wq_X12_in rfl ⟨by decide, by decide⟩ rfl rfl ⟨by decide, by decide⟩ dX12_at_17 20 rfl rfl (Nat.le_of_ble_eq_true rfl) ?_
  refine x_if_eq C dX12_at_20 23 rfl 32 rfl h (fun h => ?_) (fun h => ?_)
  · refine x_iconst C dX12_at_32 33 rfl (-1) rfl ?_
    exact x_iret C rfl dX12_at_33 h
  · refine x_aload_n C dX12_at_23 24 rfl 0 rfl ?_
    refine x_get C inX12 0 lm0 EM_0 rfl 72 (by decide) dX12_at_24 27 rfl wmf_X12_171 rfl ?_
    refine x_iload_n C dX12_at_27 28 rfl 1 rfl ?_
    refine x_iald C 50 lm50 EM_50 0 rfl dX12_at_28 29 rfl h (fun h => ?_)
    refine x_goto C dX12_at_29 33 rfl ?_
    exact x_iret C rfl dX12_at_33 h
abbrev rm_X12_isLostAt : Room := { frames := 0, cells := 0, slots := 0, locals := 0 }
theorem wq_X12_isLostAt : xcV RX12 yX12_isLostAt cX12_isLostAt 3 (some .boolean) 1 := ⟨wmi_X12_isLostAt, wms_X12_isLostAt, wmn_X12, wmc_X12_isLostAt, by decide, by decide, by decide +kernel⟩
def F_X12_isLostAt_22 (N : Nat) (k2 : AH → Int32 → Int32 → Option (Int32 × AH)) (ah : AH) (v1 : Int32) (s0 : Int32) (s1 : Int32) : Option (Int32 × AH) := xlet (s0 + s1) (fun v2_23 => k2 ah v1 v2_23)
def F_X12_isLostAt_2 (N : Nat) : Nat → AH → Int32 → Int32 → Option (Int32 × AH)
  | 0, _, _, _ => none
  | n + 1, ah, v1, v2 => if v1 ≤ v2 then if v2 = v1 then if v1 < 0 then some (0, ah) else if (ah 16 0) ≤ v1 then some (0, ah) else xg v1 40 (if (ah 49 (Int32.toNatClampNeg v1)) = 0 then some (0, ah) else some (1, ah)) else some (0, ah) else xg v2 40 (if (ah 49 (Int32.toNatClampNeg v2)) = 0 then F_X12_isLostAt_22 N (F_X12_isLostAt_2 N n) ah v1 v2 1 else F_X12_isLostAt_22 N (F_X12_isLostAt_2 N n) ah v1 v2 2)
def F_X12_isLostAt (N : Nat) (ah : AH) (p1 : Int32) : Option (Int32 × AH) := xlet 0 (fun v2_1 => F_X12_isLostAt_2 N N ah p1 v2_1)
theorem b_X12_isLostAt_22 (C : XC p l s m args meth c cX12_isLostAt 3 (some .boolean) RX12 D vwCl (tysM ca) (EM ad ca) NCM ad) {N : Nat} {o : (Int32 × AH)} {k2 : AH → Int32 → Int32 → Option (Int32 × AH)} (hk2 : ∀ (ah : AH) (v1 : Int32) (v2 : Int32), k2 ah v1 v2 = some o → XW p l e rm_X12_isLostAt s m args below meth c 3 0 (xQi below args s D vwCl (tysM ca) (EM ad ca) NCM ad o) D vwCl (EM ad ca) NCM ad ah 2 [(0, .ref (ad 0)), (1, .int v1), (2, .int v2)] []) {ah : AH} {v1 : Int32} {s0 : Int32} {s1 : Int32} (h : F_X12_isLostAt_22 N k2 ah v1 s0 s1 = some o) : XW p l e rm_X12_isLostAt s m args below meth c 3 0 (xQi below args s D vwCl (tysM ca) (EM ad ca) NCM ad o) D vwCl (EM ad ca) NCM ad ah 22 [(0, .ref (ad 0)), (1, .int v1)] [.int s1, .int s0] := by
  unfold F_X12_isLostAt_22 at h
  refine x_iadd C dX12_isLostAt_22 23 rfl ?_
  refine x_istore_n C dX12_isLostAt_23 24 rfl (by decide) (fun v2_23 => [(2, .int v2_23), (0, .ref (ad 0)), (1, .int v1)]) (fun _ => rfl) h (fun v2_23 h => ?_)
  refine x_goto C dX12_isLostAt_24 2 rfl ?_
  exact x_sub [1, 2, 0] rfl (hk2 _ _ _ h)
theorem b_X12_isLostAt_2 (C : XC p l s m args meth c cX12_isLostAt 3 (some .boolean) RX12 D vwCl (tysM ca) (EM ad ca) NCM ad) {N : Nat} {o : (Int32 × AH)} : ∀ (n : Nat) {ah : AH} {v1 : Int32} {v2 : Int32}, F_X12_isLostAt_2 N n ah v1 v2 = some o → XW p l e rm_X12_isLostAt s m args below meth c 3 0 (xQi below args s D vwCl (tysM ca) (EM ad ca) NCM ad o) D vwCl (EM ad ca) NCM ad ah 2 [(0, .ref (ad 0)), (1, .int v1), (2, .int v2)] [] := by
  intro n
  induction n with
  | zero => intro ah v1 v2 h; unfold F_X12_isLostAt_2 at h; cases h
  | succ n ih =>
    intro ah v1 v2 h
    unfold F_X12_isLostAt_2 at h
    refine x_iload_n C dX12_isLostAt_2 3 rfl 2 rfl ?_
    refine x_iload_n C dX12_isLostAt_3 4 rfl 1 rfl ?_
    refine x_icmp_ge C dX12_isLostAt_4 7 rfl 27 rfl h (fun h => ?_) (fun h => ?_)
    · refine x_iload_n C dX12_isLostAt_27 28 rfl 2 rfl ?_
      refine x_iload_n C dX12_isLostAt_28 29 rfl 1 rfl ?_
      refine x_icmp_ne C dX12_isLostAt_29 32 rfl 59 rfl h (fun h => ?_) (fun h => ?_)
      · refine x_iconst C dX12_isLostAt_59 60 rfl 0 rfl ?_
        exact x_zret C rfl dX12_isLostAt_60 (by decide) h
      · refine x_iload_n C dX12_isLostAt_32 33 rfl 1 rfl ?_
        refine x_if_lt C dX12_isLostAt_33 36 rfl 59 rfl h (fun h => ?_) (fun h => ?_)
        · refine x_iconst C dX12_isLostAt_59 60 rfl 0 rfl ?_
          exact x_zret C rfl dX12_isLostAt_60 (by decide) h
        · refine x_iload_n C dX12_isLostAt_36 37 rfl 1 rfl ?_
          refine x_aload_n C dX12_isLostAt_37 38 rfl 0 rfl ?_
          refine x_get C inX12 0 lm0 EM_0 rfl 24 (by decide) dX12_isLostAt_38 41 rfl wmf_X12_66 rfl ?_
          refine x_iconst C dX12_isLostAt_41 42 rfl 0 rfl ?_
          refine x_ialdK C 16 lm16 EM_16 0 rfl dX12_isLostAt_42 43 rfl (by decide) 0 (by decide) ?_
          refine x_icmp_ge C dX12_isLostAt_43 46 rfl 59 rfl h (fun h => ?_) (fun h => ?_)
          · refine x_iconst C dX12_isLostAt_59 60 rfl 0 rfl ?_
            exact x_zret C rfl dX12_isLostAt_60 (by decide) h
          · refine x_aload_n C dX12_isLostAt_46 47 rfl 0 rfl ?_
            refine x_get C inX12 0 lm0 EM_0 rfl 68 (by decide) dX12_isLostAt_47 50 rfl wmf_X12_167 rfl ?_
            refine x_iload_n C dX12_isLostAt_50 51 rfl 1 rfl ?_
            refine x_zald C 49 lm49 EM_49 1 rfl dX12_isLostAt_51 52 rfl h (fun h => ?_)
            refine x_if_eq C dX12_isLostAt_52 55 rfl 59 rfl h (fun h => ?_) (fun h => ?_)
            · refine x_iconst C dX12_isLostAt_59 60 rfl 0 rfl ?_
              exact x_zret C rfl dX12_isLostAt_60 (by decide) h
            · refine x_iconst C dX12_isLostAt_55 56 rfl 1 rfl ?_
              refine x_goto C dX12_isLostAt_56 60 rfl ?_
              exact x_zret C rfl dX12_isLostAt_60 (by decide) h
    · refine x_iload_n C dX12_isLostAt_7 8 rfl 2 rfl ?_
      refine x_aload_n C dX12_isLostAt_8 9 rfl 0 rfl ?_
      refine x_get C inX12 0 lm0 EM_0 rfl 68 (by decide) dX12_isLostAt_9 12 rfl wmf_X12_167 rfl ?_
      refine x_iload_n C dX12_isLostAt_12 13 rfl 2 rfl ?_
      refine x_zald C 49 lm49 EM_49 1 rfl dX12_isLostAt_13 14 rfl h (fun h => ?_)
      refine x_if_eq C dX12_isLostAt_14 17 rfl 21 rfl h (fun h => ?_) (fun h => ?_)
      · refine x_iconst C dX12_isLostAt_21 22 rfl 1 rfl ?_
        exact x_sub [0, 1] rfl (b_X12_isLostAt_22 C (fun _ _ _ h => ih h) h)
      · refine x_iconst C dX12_isLostAt_17 18 rfl 2 rfl ?_
        refine x_goto C dX12_isLostAt_18 22 rfl ?_
        exact x_sub [0, 1] rfl (b_X12_isLostAt_22 C (fun _ _ _ h => ih h) h)
theorem c_X12_isLostAt {l : Launch} {D : va_G} {ca : Nat → ClassId} {ad : Nat → Nat} (hI : xInj ad NCM) {N : Nat} {ah : AH} {p1 : Int32} {r : Int32} {a : AH} (h : F_X12_isLostAt N ah p1 = some (r, a)) : xMi l yX12_isLostAt cX12_isLostAt 3 (some .boolean) rm_X12_isLostAt D vwCl (tysM ca) (EM ad ca) NCM ad [.ref (ad 0), .int p1] ah (r, a) := by
  refine x_meti (by decide) (Nat.le_of_ble_eq_true rfl) hI EM_loc ?_
  intro p e s m args below meth c C
  unfold F_X12_isLostAt at h
  refine x_iconst C dX12_isLostAt_0 1 rfl 0 rfl ?_
  refine x_istore_n C dX12_isLostAt_1 2 rfl (by decide) (fun v2_1 => [(2, .int v2_1), (0, .ref (ad 0)), (1, .int p1)]) (fun _ => rfl) h (fun v2_1 h => ?_)
  exact x_sub [1, 2, 0] rfl (b_X12_isLostAt_2 C  N h)
abbrev rm_X12_lost : Room := { frames := 6, cells := 0, slots := 0, locals := 142 }
theorem wq_X12_lost : xcV RX12 yX12_lost cX12_lost 3 (some .boolean) 2 := ⟨wmi_X12_lost, wms_X12_lost, wmn_X12, wmc_X12_lost, by decide, by decide, by decide +kernel⟩
def F_X12_lost_68 (N : Nat) (ah : AH) (s1 : Int32) : Option (Int32 × AH) := xb (F_X12_isLostAt N ah s1) (fun r68 a68 => xbo r68 (some (r68, a68)))
def F_X12_lost_42 (N : Nat) (ah : AH) (v1 : Int32) (v2 : Int32) (s1 : Int32) : Option (Int32 × AH) := xb (F_X12_bad N ah s1 2 1) (fun r44 a44 => if r44 = 0 then xbv (F_X12_mendsAll N a44) (fun a53 => if v2 = 0 then F_X12_lost_68 N a53 v1 else F_X12_lost_68 N a53 (v1 - 1)) else some (0, a44))
def F_X12_lost_19 (N : Nat) (ah : AH) (v1 : Int32) (v2 : Int32) (s1 : Int32) : Option (Int32 × AH) := xb (F_X12_bad N ah s1 1 0) (fun r21 a21 => if r21 = 0 then xb (F_X12_in N a21 v2 0 1) (fun r31 a31 => if r31 = 0 then F_X12_lost_42 N a31 v1 v2 1 else F_X12_lost_42 N a31 v1 v2 0) else some (0, a21))
def F_X12_lost (N : Nat) (ah : AH) (p1 : Int32) (p2 : Int32) : Option (Int32 × AH) := xlet (xu ah 0 0 0) (fun a2 => xb (F_X12_isToken N a2 p1) (fun r8 a8 => if r8 = 0 then F_X12_lost_19 N a8 p1 p2 1 else F_X12_lost_19 N a8 p1 p2 0))
theorem b_X12_lost_68 (C : XC p l s m args meth c cX12_lost 3 (some .boolean) RX12 D vwCl (tysM ca) (EM ad ca) NCM ad) {N : Nat} {o : (Int32 × AH)} {ah : AH} {s1 : Int32} (h : F_X12_lost_68 N ah s1 = some o) : XW p l e rm_X12_lost s m args below meth c 3 0 (xQi below args s D vwCl (tysM ca) (EM ad ca) NCM ad o) D vwCl (EM ad ca) NCM ad ah 68 [] [.int s1, .ref (ad 0)] := by
  unfold F_X12_lost_68 at h
  obtain ⟨r68, a68, hq, h⟩ := xb_some h
  refine x_callVi C 0 (c_X12_isLostAt C.2.2.2.2.2.2.1 hq) lm0 EM_0 rfl wml_X12_450 wq_X12_isLostAt rfl ⟨by decide, by decide⟩ rfl rfl ⟨by decide, by decide⟩ dX12_lost_68 71 rfl rfl (Nat.le_of_ble_eq_true rfl) ?_
  exact x_zretB C rfl dX12_lost_71 h
theorem b_X12_lost_42 (C : XC p l s m args meth c cX12_lost 3 (some .boolean) RX12 D vwCl (tysM ca) (EM ad ca) NCM ad) {N : Nat} {o : (Int32 × AH)} {ah : AH} {v1 : Int32} {v2 : Int32} {s1 : Int32} (h : F_X12_lost_42 N ah v1 v2 s1 = some o) : XW p l e rm_X12_lost s m args below meth c 3 0 (xQi below args s D vwCl (tysM ca) (EM ad ca) NCM ad o) D vwCl (EM ad ca) NCM ad ah 42 [(0, .ref (ad 0)), (1, .int v1), (2, .int v2)] [.int s1, .ref (ad 0)] := by
  unfold F_X12_lost_42 at h
  refine x_iconst C dX12_lost_42 43 rfl 2 rfl ?_
  refine x_iconst C dX12_lost_43 44 rfl 1 rfl ?_
  obtain ⟨r44, a44, hq, h⟩ := xb_some h
  refine x_callVi C 0 (c_X12_bad C.2.2.2.2.2.2.1 hq) lm0 EM_0 rfl wml_X12_249 wq_X12_bad rfl ⟨by decide, by decide⟩ rfl rfl ⟨by decide, by decide⟩ dX12_lost_44 47 rfl rfl (Nat.le_of_ble_eq_true rfl) ?_
  refine x_if_eq C dX12_lost_47 50 rfl 52 rfl h (fun h => ?_) (fun h => ?_)
  · refine x_aload_n C dX12_lost_52 53 rfl 0 rfl ?_
    obtain ⟨a53, hq, h⟩ := xbv_some h
    refine x_callVv C 0 (c_X12_mendsAll C.2.2.2.2.2.2.1 hq) lm0 EM_0 rfl wml_X12_447 wq_X12_mendsAll rfl ⟨by decide, by decide⟩ rfl rfl ⟨by decide, by decide⟩ dX12_lost_53 56 rfl rfl (Nat.le_of_ble_eq_true rfl) ?_
    refine x_aload_n C dX12_lost_56 57 rfl 0 rfl ?_
    refine x_iload_n C dX12_lost_57 58 rfl 2 rfl ?_
    refine x_if_ne C dX12_lost_58 61 rfl 65 rfl h (fun h => ?_) (fun h => ?_)
    · refine x_iload_n C dX12_lost_65 66 rfl 1 rfl ?_
      refine x_iconst C dX12_lost_66 67 rfl 1 rfl ?_
      refine x_isub C dX12_lost_67 68 rfl ?_
      exact x_sub [] rfl (b_X12_lost_68 C  h)
    · refine x_iload_n C dX12_lost_61 62 rfl 1 rfl ?_
      refine x_goto C dX12_lost_62 68 rfl ?_
      exact x_sub [] rfl (b_X12_lost_68 C  h)
  · refine x_iconst C dX12_lost_50 51 rfl 0 rfl ?_
    exact x_zret C rfl dX12_lost_51 (by decide) h
theorem b_X12_lost_19 (C : XC p l s m args meth c cX12_lost 3 (some .boolean) RX12 D vwCl (tysM ca) (EM ad ca) NCM ad) {N : Nat} {o : (Int32 × AH)} {ah : AH} {v1 : Int32} {v2 : Int32} {s1 : Int32} (h : F_X12_lost_19 N ah v1 v2 s1 = some o) : XW p l e rm_X12_lost s m args below meth c 3 0 (xQi below args s D vwCl (tysM ca) (EM ad ca) NCM ad o) D vwCl (EM ad ca) NCM ad ah 19 [(0, .ref (ad 0)), (1, .int v1), (2, .int v2)] [.int s1, .ref (ad 0)] := by
  unfold F_X12_lost_19 at h
  refine x_iconst C dX12_lost_19 20 rfl 1 rfl ?_
  refine x_iconst C dX12_lost_20 21 rfl 0 rfl ?_
  obtain ⟨r21, a21, hq, h⟩ := xb_some h
  refine x_callVi C 0 (c_X12_bad C.2.2.2.2.2.2.1 hq) lm0 EM_0 rfl wml_X12_249 wq_X12_bad rfl ⟨by decide, by decide⟩ rfl rfl ⟨by decide, by decide⟩ dX12_lost_21 24 rfl rfl (Nat.le_of_ble_eq_true rfl) ?_
  refine x_if_ne C dX12_lost_24 27 rfl 50 rfl h (fun h => ?_) (fun h => ?_)
  · refine x_iconst C dX12_lost_50 51 rfl 0 rfl ?_
    exact x_zret C rfl dX12_lost_51 (by decide) h
  · refine x_aload_n C dX12_lost_27 28 rfl 0 rfl ?_
    refine x_iload_n C dX12_lost_28 29 rfl 2 rfl ?_
    refine x_iconst C dX12_lost_29 30 rfl 0 rfl ?_
    refine x_iconst C dX12_lost_30 31 rfl 1 rfl ?_
    obtain ⟨r31, a31, hq, h⟩ := xb_some h
    refine x_callSi C (c_X12_in C.2.2.2.2.2.2.1 hq) wml_X12_223 wq_X12_in rfl ⟨by decide, by decide⟩ rfl rfl ⟨by decide, by decide⟩ dX12_lost_31 34 rfl rfl (Nat.le_of_ble_eq_true rfl) ?_
    refine x_if_ne C dX12_lost_34 37 rfl 41 rfl h (fun h => ?_) (fun h => ?_)
    · refine x_iconst C dX12_lost_41 42 rfl 0 rfl ?_
      exact b_X12_lost_42 C  h
    · refine x_iconst C dX12_lost_37 38 rfl 1 rfl ?_
      refine x_goto C dX12_lost_38 42 rfl ?_
      exact b_X12_lost_42 C  h
theorem c_X12_lost {l : Launch} {D : va_G} {ca : Nat → ClassId} {ad : Nat → Nat} (hI : xInj ad NCM) {N : Nat} {ah : AH} {p1 : Int32} {p2 : Int32} {r : Int32} {a : AH} (h : F_X12_lost N ah p1 p2 = some (r, a)) : xMi l yX12_lost cX12_lost 3 (some .boolean) rm_X12_lost D vwCl (tysM ca) (EM ad ca) NCM ad [.ref (ad 0), .int p1, .int p2] ah (r, a) := by
  refine x_meti (by decide) (Nat.le_of_ble_eq_true rfl) hI EM_loc ?_
  intro p e s m args below meth c C
  unfold F_X12_lost at h
  refine x_aload_n C dX12_lost_0 1 rfl 0 rfl ?_
  refine x_iconst C dX12_lost_1 2 rfl 0 rfl ?_
  refine x_put C inX12 0 lm0 EM_0 rfl 0 (by decide) tyX12_ok nmX12 dX12_lost_2 5 rfl wmf_X12_180 rfl rfl rfl (Nat.le_of_ble_eq_true rfl) EQ_0_0 h (fun a2 h => ?_)
  refine x_aload_n C dX12_lost_5 6 rfl 0 rfl ?_
  refine x_aload_n C dX12_lost_6 7 rfl 0 rfl ?_
  refine x_iload_n C dX12_lost_7 8 rfl 1 rfl ?_
  obtain ⟨r8, a8, hq, h⟩ := xb_some h
  refine x_callVi C 0 (c_X12_isToken C.2.2.2.2.2.2.1 hq) lm0 EM_0 rfl wml_X12_368 wq_X12_isToken rfl ⟨by decide, by decide⟩ rfl rfl ⟨by decide, by decide⟩ dX12_lost_8 11 rfl rfl (Nat.le_of_ble_eq_true rfl) ?_
  refine x_if_ne C dX12_lost_11 14 rfl 18 rfl h (fun h => ?_) (fun h => ?_)
  · refine x_iconst C dX12_lost_18 19 rfl 0 rfl ?_
    exact b_X12_lost_19 C  h
  · refine x_iconst C dX12_lost_14 15 rfl 1 rfl ?_
    refine x_goto C dX12_lost_15 19 rfl ?_
    exact b_X12_lost_19 C  h
abbrev rm_X12_apartOf : Room := { frames := 4, cells := 0, slots := 0, locals := 96 }
theorem wq_X12_apartOf : xcV RX12 yX12_apartOf cX12_apartOf 4 (some .int) 2 := ⟨wmi_X12_apartOf, wms_X12_apartOf, wmn_X12, wmc_X12_apartOf, by decide, by decide, by decide +kernel⟩
def F_X12_apartOf (N : Nat) (ah : AH) (p1 : Int32) (p2 : Int32) : Option (Int32 × AH) := xbv (F_X12_laysWord N ah p1) (fun a2 => xb (F_X12_spells N a2 p2) (fun r7 a7 => xlet r7 (fun v3_10 => if v3_10 < 1000000 then some (v3_10, a7) else some ((-1), a7))))
theorem c_X12_apartOf {l : Launch} {D : va_G} {ca : Nat → ClassId} {ad : Nat → Nat} (hI : xInj ad NCM) {N : Nat} {ah : AH} {p1 : Int32} {p2 : Int32} {r : Int32} {a : AH} (h : F_X12_apartOf N ah p1 p2 = some (r, a)) : xMi l yX12_apartOf cX12_apartOf 4 (some .int) rm_X12_apartOf D vwCl (tysM ca) (EM ad ca) NCM ad [.ref (ad 0), .int p1, .int p2] ah (r, a) := by
  refine x_meti (by decide) (Nat.le_of_ble_eq_true rfl) hI EM_loc ?_
  intro p e s m args below meth c C
  unfold F_X12_apartOf at h
  refine x_aload_n C dX12_apartOf_0 1 rfl 0 rfl ?_
  refine x_iload_n C dX12_apartOf_1 2 rfl 1 rfl ?_
  obtain ⟨a2, hq, h⟩ := xbv_some h
  refine x_callVv C 0 (c_X12_laysWord C.2.2.2.2.2.2.1 hq) lm0 EM_0 rfl wml_X12_453 wq_X12_laysWord rfl ⟨by decide, by decide⟩ rfl rfl ⟨by decide, by decide⟩ dX12_apartOf_2 5 rfl rfl (Nat.le_of_ble_eq_true rfl) ?_
  refine x_aload_n C dX12_apartOf_5 6 rfl 0 rfl ?_
  refine x_iload_n C dX12_apartOf_6 7 rfl 2 rfl ?_
  obtain ⟨r7, a7, hq, h⟩ := xb_some h
  refine x_callVi C 0 (c_X12_spells C.2.2.2.2.2.2.1 hq) lm0 EM_0 rfl wml_X12_390 wq_X12_spells rfl ⟨by decide, by decide⟩ rfl rfl ⟨by decide, by decide⟩ dX12_apartOf_7 10 rfl rfl (Nat.le_of_ble_eq_true rfl) ?_
  refine x_istore_n C dX12_apartOf_10 11 rfl (by decide) (fun v3_10 => [(3, .int v3_10), (0, .ref (ad 0)), (1, .int p1), (2, .int p2)]) (fun _ => rfl) h (fun v3_10 h => ?_)
  refine x_iload_n C dX12_apartOf_11 12 rfl 0 rfl ?_
  refine x_ldcw C dX12_apartOf_12 15 rfl wmk_X12_326 ?_
  refine x_icmp_lt C dX12_apartOf_15 18 rfl 22 rfl h (fun h => ?_) (fun h => ?_)
  · refine x_iload_n C dX12_apartOf_22 23 rfl 0 rfl ?_
    exact x_iret C rfl dX12_apartOf_23 h
  · refine x_iconst C dX12_apartOf_18 19 rfl (-1) rfl ?_
    refine x_goto C dX12_apartOf_19 23 rfl ?_
    exact x_iret C rfl dX12_apartOf_23 h
abbrev rm_X12_apart : Room := { frames := 5, cells := 0, slots := 0, locals := 119 }
theorem wq_X12_apart : xcV RX12 yX12_apart cX12_apart 3 (some .int) 2 := ⟨wmi_X12_apart, wms_X12_apart, wmn_X12, wmc_X12_apart, by decide, by decide, by decide +kernel⟩
def F_X12_apart_27 (N : Nat) (ah : AH) (v1 : Int32) (v2 : Int32) (s1 : Int32) : Option (Int32 × AH) := xb (F_X12_bad N ah s1 1 0) (fun r29 a29 => if r29 = 0 then xb (F_X12_apartOf N a29 v1 v2) (fun r40 a40 => some (r40, a40)) else some (0, a29))
def F_X12_apart_22 (N : Nat) (ah : AH) (v1 : Int32) (v2 : Int32) : Option (Int32 × AH) := F_X12_apart_27 N ah v1 v2 1
def F_X12_apart (N : Nat) (ah : AH) (p1 : Int32) (p2 : Int32) : Option (Int32 × AH) := xlet (xu ah 0 0 0) (fun a2 => xb (F_X12_isWord N a2 p1) (fun r8 a8 => if r8 = 0 then F_X12_apart_22 N a8 p1 p2 else xb (F_X12_isWord N a8 p2) (fun r16 a16 => if r16 = 0 then F_X12_apart_22 N a16 p1 p2 else F_X12_apart_27 N a16 p1 p2 0)))
theorem b_X12_apart_27 (C : XC p l s m args meth c cX12_apart 3 (some .int) RX12 D vwCl (tysM ca) (EM ad ca) NCM ad) {N : Nat} {o : (Int32 × AH)} {ah : AH} {v1 : Int32} {v2 : Int32} {s1 : Int32} (h : F_X12_apart_27 N ah v1 v2 s1 = some o) : XW p l e rm_X12_apart s m args below meth c 3 0 (xQi below args s D vwCl (tysM ca) (EM ad ca) NCM ad o) D vwCl (EM ad ca) NCM ad ah 27 [(0, .ref (ad 0)), (1, .int v1), (2, .int v2)] [.int s1, .ref (ad 0)] := by
  unfold F_X12_apart_27 at h
  refine x_iconst C dX12_apart_27 28 rfl 1 rfl ?_
  refine x_iconst C dX12_apart_28 29 rfl 0 rfl ?_
  obtain ⟨r29, a29, hq, h⟩ := xb_some h
  refine x_callVi C 0 (c_X12_bad C.2.2.2.2.2.2.1 hq) lm0 EM_0 rfl wml_X12_249 wq_X12_bad rfl ⟨by decide, by decide⟩ rfl rfl ⟨by decide, by decide⟩ dX12_apart_29 32 rfl rfl (Nat.le_of_ble_eq_true rfl) ?_
  refine x_if_eq C dX12_apart_32 35 rfl 37 rfl h (fun h => ?_) (fun h => ?_)
  · refine x_aload_n C dX12_apart_37 38 rfl 0 rfl ?_
    refine x_iload_n C dX12_apart_38 39 rfl 1 rfl ?_
    refine x_iload_n C dX12_apart_39 40 rfl 2 rfl ?_
    obtain ⟨r40, a40, hq, h⟩ := xb_some h
    refine x_callVi C 0 (c_X12_apartOf C.2.2.2.2.2.2.1 hq) lm0 EM_0 rfl wml_X12_456 wq_X12_apartOf rfl ⟨by decide, by decide⟩ rfl rfl ⟨by decide, by decide⟩ dX12_apart_40 43 rfl rfl (Nat.le_of_ble_eq_true rfl) ?_
    exact x_iret C rfl dX12_apart_43 h
  · refine x_iconst C dX12_apart_35 36 rfl 0 rfl ?_
    exact x_iret C rfl dX12_apart_36 h
theorem b_X12_apart_22 (C : XC p l s m args meth c cX12_apart 3 (some .int) RX12 D vwCl (tysM ca) (EM ad ca) NCM ad) {N : Nat} {o : (Int32 × AH)} {ah : AH} {v1 : Int32} {v2 : Int32} (h : F_X12_apart_22 N ah v1 v2 = some o) : XW p l e rm_X12_apart s m args below meth c 3 0 (xQi below args s D vwCl (tysM ca) (EM ad ca) NCM ad o) D vwCl (EM ad ca) NCM ad ah 22 [(0, .ref (ad 0)), (1, .int v1), (2, .int v2)] [.ref (ad 0)] := by
  unfold F_X12_apart_22 at h
  refine x_iconst C dX12_apart_22 23 rfl 1 rfl ?_
  refine x_goto C dX12_apart_23 27 rfl ?_
  exact b_X12_apart_27 C  h
theorem c_X12_apart {l : Launch} {D : va_G} {ca : Nat → ClassId} {ad : Nat → Nat} (hI : xInj ad NCM) {N : Nat} {ah : AH} {p1 : Int32} {p2 : Int32} {r : Int32} {a : AH} (h : F_X12_apart N ah p1 p2 = some (r, a)) : xMi l yX12_apart cX12_apart 3 (some .int) rm_X12_apart D vwCl (tysM ca) (EM ad ca) NCM ad [.ref (ad 0), .int p1, .int p2] ah (r, a) := by
  refine x_meti (by decide) (Nat.le_of_ble_eq_true rfl) hI EM_loc ?_
  intro p e s m args below meth c C
  unfold F_X12_apart at h
  refine x_aload_n C dX12_apart_0 1 rfl 0 rfl ?_
  refine x_iconst C dX12_apart_1 2 rfl 0 rfl ?_
  refine x_put C inX12 0 lm0 EM_0 rfl 0 (by decide) tyX12_ok nmX12 dX12_apart_2 5 rfl wmf_X12_180 rfl rfl rfl (Nat.le_of_ble_eq_true rfl) EQ_0_0 h (fun a2 h => ?_)
  refine x_aload_n C dX12_apart_5 6 rfl 0 rfl ?_
  refine x_aload_n C dX12_apart_6 7 rfl 0 rfl ?_
  refine x_iload_n C dX12_apart_7 8 rfl 1 rfl ?_
  obtain ⟨r8, a8, hq, h⟩ := xb_some h
  refine x_callVi C 0 (c_X12_isWord C.2.2.2.2.2.2.1 hq) lm0 EM_0 rfl wml_X12_282 wq_X12_isWord rfl ⟨by decide, by decide⟩ rfl rfl ⟨by decide, by decide⟩ dX12_apart_8 11 rfl rfl (Nat.le_of_ble_eq_true rfl) ?_
  refine x_if_eq C dX12_apart_11 14 rfl 22 rfl h (fun h => ?_) (fun h => ?_)
  · exact b_X12_apart_22 C  h
  · refine x_aload_n C dX12_apart_14 15 rfl 0 rfl ?_
    refine x_iload_n C dX12_apart_15 16 rfl 2 rfl ?_
    obtain ⟨r16, a16, hq, h⟩ := xb_some h
    refine x_callVi C 0 (c_X12_isWord C.2.2.2.2.2.2.1 hq) lm0 EM_0 rfl wml_X12_282 wq_X12_isWord rfl ⟨by decide, by decide⟩ rfl rfl ⟨by decide, by decide⟩ dX12_apart_16 19 rfl rfl (Nat.le_of_ble_eq_true rfl) ?_
    refine x_if_ne C dX12_apart_19 22 rfl 26 rfl h (fun h => ?_) (fun h => ?_)
    · refine x_iconst C dX12_apart_26 27 rfl 0 rfl ?_
      exact b_X12_apart_27 C  h
    · exact b_X12_apart_22 C  h
abbrev rm_X12_twin : Room := { frames := 5, cells := 0, slots := 0, locals := 119 }
theorem wq_X12_twin : xcV RX12 yX12_twin cX12_twin 7 (some .int) 2 := ⟨wmi_X12_twin, wms_X12_twin, wmn_X12, wmc_X12_twin, by decide, by decide, by decide +kernel⟩
def F_X12_twin_117 (N : Nat) (k60 : AH → Int32 → Int32 → Int32 → Int32 → Int32 → Option (Int32 × AH)) (ah : AH) (v1 : Int32) (v2 : Int32) (v3 : Int32) (v4 : Int32) (v5 : Int32) : Option (Int32 × AH) := xlet (v5 + 1) (fun v5_117 => k60 ah v1 v2 v3 v4 v5_117)
def F_X12_twin_110 (N : Nat) (k60 : AH → Int32 → Int32 → Int32 → Int32 → Int32 → Option (Int32 × AH)) (ah : AH) (v1 : Int32) (v2 : Int32) (v5 : Int32) (v6 : Int32) : Option (Int32 × AH) := xlet v5 (fun v3_112 => xlet v6 (fun v4_115 => F_X12_twin_117 N k60 ah v1 v2 v3_112 v4_115 v5))
def F_X12_twin_86 (N : Nat) (k60 : AH → Int32 → Int32 → Int32 → Int32 → Int32 → Option (Int32 × AH)) (ah : AH) (v1 : Int32) (v2 : Int32) (v3 : Int32) (v4 : Int32) (v5 : Int32) (s0 : Int32) : Option (Int32 × AH) := xlet s0 (fun v6_86 => if v6_86 = ((-1)) then F_X12_twin_117 N k60 ah v1 v2 v3 v4 v5 else if v4 = ((-1)) then F_X12_twin_110 N k60 ah v1 v2 v5 v6_86 else if v6_86 < v4 then F_X12_twin_110 N k60 ah v1 v2 v5 v6_86 else F_X12_twin_117 N k60 ah v1 v2 v3 v4 v5)
def F_X12_twin_60 (N : Nat) : Nat → AH → Int32 → Int32 → Int32 → Int32 → Int32 → Option (Int32 × AH)
  | 0, _, _, _, _, _, _ => none
  | n + 1, ah, v1, v2, v3, v4, v5 => if (ah 0 10) ≤ v5 then if v2 = 0 then some (v3, ah) else some (v4, ah) else if v5 = v1 then F_X12_twin_86 N (F_X12_twin_60 N n) ah v1 v2 v3 v4 v5 ((-1)) else xb (F_X12_apartOf N ah v1 v5) (fun r83 a83 => F_X12_twin_86 N (F_X12_twin_60 N n) a83 v1 v2 v3 v4 v5 r83)
def F_X12_twin_42 (N : Nat) (ah : AH) (v1 : Int32) (v2 : Int32) (s1 : Int32) : Option (Int32 × AH) := xb (F_X12_bad N ah s1 2 1) (fun r44 a44 => if r44 = 0 then xlet ((-1)) (fun v3_53 => xlet ((-1)) (fun v4_55 => xlet 0 (fun v5_58 => F_X12_twin_60 N N a44 v1 v2 v3_53 v4_55 v5_58))) else some (0, a44))
def F_X12_twin_19 (N : Nat) (ah : AH) (v1 : Int32) (v2 : Int32) (s1 : Int32) : Option (Int32 × AH) := xb (F_X12_bad N ah s1 1 0) (fun r21 a21 => if r21 = 0 then xb (F_X12_in N a21 v2 0 1) (fun r31 a31 => if r31 = 0 then F_X12_twin_42 N a31 v1 v2 1 else F_X12_twin_42 N a31 v1 v2 0) else some (0, a21))
def F_X12_twin (N : Nat) (ah : AH) (p1 : Int32) (p2 : Int32) : Option (Int32 × AH) := xlet (xu ah 0 0 0) (fun a2 => xb (F_X12_isWord N a2 p1) (fun r8 a8 => if r8 = 0 then F_X12_twin_19 N a8 p1 p2 1 else F_X12_twin_19 N a8 p1 p2 0))
theorem b_X12_twin_117 (C : XC p l s m args meth c cX12_twin 7 (some .int) RX12 D vwCl (tysM ca) (EM ad ca) NCM ad) {N : Nat} {o : (Int32 × AH)} {k60 : AH → Int32 → Int32 → Int32 → Int32 → Int32 → Option (Int32 × AH)} (hk60 : ∀ (ah : AH) (v1 : Int32) (v2 : Int32) (v3 : Int32) (v4 : Int32) (v5 : Int32), k60 ah v1 v2 v3 v4 v5 = some o → XW p l e rm_X12_twin s m args below meth c 7 0 (xQi below args s D vwCl (tysM ca) (EM ad ca) NCM ad o) D vwCl (EM ad ca) NCM ad ah 60 [(0, .ref (ad 0)), (1, .int v1), (2, .int v2), (3, .int v3), (4, .int v4), (5, .int v5)] []) {ah : AH} {v1 : Int32} {v2 : Int32} {v3 : Int32} {v4 : Int32} {v5 : Int32} (h : F_X12_twin_117 N k60 ah v1 v2 v3 v4 v5 = some o) : XW p l e rm_X12_twin s m args below meth c 7 0 (xQi below args s D vwCl (tysM ca) (EM ad ca) NCM ad o) D vwCl (EM ad ca) NCM ad ah 117 [(0, .ref (ad 0)), (1, .int v1), (2, .int v2), (3, .int v3), (4, .int v4), (5, .int v5)] [] := by
  unfold F_X12_twin_117 at h
  refine x_iinc C dX12_twin_117 120 rfl 5 rfl (d := 1) rfl (by decide) (fun v5_117 => [(5, .int v5_117), (0, .ref (ad 0)), (1, .int v1), (2, .int v2), (3, .int v3), (4, .int v4)]) (fun _ => rfl) h (fun v5_117 h => ?_)
  refine x_goto C dX12_twin_120 60 rfl ?_
  exact x_sub [1, 2, 3, 4, 5, 0] rfl (hk60 _ _ _ _ _ _ h)
theorem b_X12_twin_110 (C : XC p l s m args meth c cX12_twin 7 (some .int) RX12 D vwCl (tysM ca) (EM ad ca) NCM ad) {N : Nat} {o : (Int32 × AH)} {k60 : AH → Int32 → Int32 → Int32 → Int32 → Int32 → Option (Int32 × AH)} (hk60 : ∀ (ah : AH) (v1 : Int32) (v2 : Int32) (v3 : Int32) (v4 : Int32) (v5 : Int32), k60 ah v1 v2 v3 v4 v5 = some o → XW p l e rm_X12_twin s m args below meth c 7 0 (xQi below args s D vwCl (tysM ca) (EM ad ca) NCM ad o) D vwCl (EM ad ca) NCM ad ah 60 [(0, .ref (ad 0)), (1, .int v1), (2, .int v2), (3, .int v3), (4, .int v4), (5, .int v5)] []) {ah : AH} {v1 : Int32} {v2 : Int32} {v5 : Int32} {v6 : Int32} (h : F_X12_twin_110 N k60 ah v1 v2 v5 v6 = some o) : XW p l e rm_X12_twin s m args below meth c 7 0 (xQi below args s D vwCl (tysM ca) (EM ad ca) NCM ad o) D vwCl (EM ad ca) NCM ad ah 110 [(0, .ref (ad 0)), (1, .int v1), (2, .int v2), (5, .int v5), (6, .int v6)] [] := by
  unfold F_X12_twin_110 at h
  refine x_iload C dX12_twin_110 112 rfl 3 rfl ?_
  refine x_istore_n C dX12_twin_112 113 rfl (by decide) (fun v3_112 => [(3, .int v3_112), (0, .ref (ad 0)), (1, .int v1), (2, .int v2), (5, .int v5), (6, .int v6)]) (fun _ => rfl) h (fun v3_112 h => ?_)
  refine x_iload C dX12_twin_113 115 rfl 5 rfl ?_
  refine x_istore C dX12_twin_115 117 rfl (by decide) (fun v4_115 => [(4, .int v4_115), (3, .int v3_112), (0, .ref (ad 0)), (1, .int v1), (2, .int v2), (5, .int v5), (6, .int v6)]) (fun _ => rfl) h (fun v4_115 h => ?_)
  exact x_sub [2, 3, 4, 1, 0, 5] rfl (b_X12_twin_117 C hk60 h)
theorem b_X12_twin_86 (C : XC p l s m args meth c cX12_twin 7 (some .int) RX12 D vwCl (tysM ca) (EM ad ca) NCM ad) {N : Nat} {o : (Int32 × AH)} {k60 : AH → Int32 → Int32 → Int32 → Int32 → Int32 → Option (Int32 × AH)} (hk60 : ∀ (ah : AH) (v1 : Int32) (v2 : Int32) (v3 : Int32) (v4 : Int32) (v5 : Int32), k60 ah v1 v2 v3 v4 v5 = some o → XW p l e rm_X12_twin s m args below meth c 7 0 (xQi below args s D vwCl (tysM ca) (EM ad ca) NCM ad o) D vwCl (EM ad ca) NCM ad ah 60 [(0, .ref (ad 0)), (1, .int v1), (2, .int v2), (3, .int v3), (4, .int v4), (5, .int v5)] []) {ah : AH} {v1 : Int32} {v2 : Int32} {v3 : Int32} {v4 : Int32} {v5 : Int32} {s0 : Int32} (h : F_X12_twin_86 N k60 ah v1 v2 v3 v4 v5 s0 = some o) : XW p l e rm_X12_twin s m args below meth c 7 0 (xQi below args s D vwCl (tysM ca) (EM ad ca) NCM ad o) D vwCl (EM ad ca) NCM ad ah 86 [(0, .ref (ad 0)), (1, .int v1), (2, .int v2), (3, .int v3), (4, .int v4), (5, .int v5)] [.int s0] := by
  unfold F_X12_twin_86 at h
  refine x_istore C dX12_twin_86 88 rfl (by decide) (fun v6_86 => [(6, .int v6_86), (0, .ref (ad 0)), (1, .int v1), (2, .int v2), (3, .int v3), (4, .int v4), (5, .int v5)]) (fun _ => rfl) h (fun v6_86 h => ?_)
  refine x_iload C dX12_twin_88 90 rfl 0 rfl ?_
  refine x_iconst C dX12_twin_90 91 rfl (-1) rfl ?_
  refine x_icmp_eq C dX12_twin_91 94 rfl 117 rfl h (fun h => ?_) (fun h => ?_)
  · exact x_sub [1, 2, 3, 4, 5, 6] rfl (b_X12_twin_117 C hk60 h)
  · refine x_iload C dX12_twin_94 96 rfl 5 rfl ?_
    refine x_iconst C dX12_twin_96 97 rfl (-1) rfl ?_
    refine x_icmp_eq C dX12_twin_97 100 rfl 110 rfl h (fun h => ?_) (fun h => ?_)
    · exact x_sub [1, 2, 3, 6, 0] rfl (b_X12_twin_110 C hk60 h)
    · refine x_iload C dX12_twin_100 102 rfl 0 rfl ?_
      refine x_iload C dX12_twin_102 104 rfl 5 rfl ?_
      refine x_icmp_lt C dX12_twin_104 107 rfl 110 rfl h (fun h => ?_) (fun h => ?_)
      · exact x_sub [1, 2, 3, 6, 0] rfl (b_X12_twin_110 C hk60 h)
      · refine x_goto C dX12_twin_107 117 rfl ?_
        exact x_sub [1, 2, 3, 4, 5, 6] rfl (b_X12_twin_117 C hk60 h)
theorem b_X12_twin_60 (C : XC p l s m args meth c cX12_twin 7 (some .int) RX12 D vwCl (tysM ca) (EM ad ca) NCM ad) {N : Nat} {o : (Int32 × AH)} : ∀ (n : Nat) {ah : AH} {v1 : Int32} {v2 : Int32} {v3 : Int32} {v4 : Int32} {v5 : Int32}, F_X12_twin_60 N n ah v1 v2 v3 v4 v5 = some o → XW p l e rm_X12_twin s m args below meth c 7 0 (xQi below args s D vwCl (tysM ca) (EM ad ca) NCM ad o) D vwCl (EM ad ca) NCM ad ah 60 [(0, .ref (ad 0)), (1, .int v1), (2, .int v2), (3, .int v3), (4, .int v4), (5, .int v5)] [] := by
  intro n
  induction n with
  | zero => intro ah v1 v2 v3 v4 v5 h; unfold F_X12_twin_60 at h; cases h
  | succ n ih =>
    intro ah v1 v2 v3 v4 v5 h
    unfold F_X12_twin_60 at h
    refine x_iload C dX12_twin_60 62 rfl 5 rfl ?_
    refine x_aload_n C dX12_twin_62 63 rfl 0 rfl ?_
    refine x_get C inX12 0 lm0 EM_0 rfl 10 (by decide) dX12_twin_63 66 rfl wmf_X12_257 rfl ?_
    refine x_icmp_ge C dX12_twin_66 69 rfl 123 rfl h (fun h => ?_) (fun h => ?_)
    · refine x_iload_n C dX12_twin_123 124 rfl 2 rfl ?_
      refine x_if_ne C dX12_twin_124 127 rfl 131 rfl h (fun h => ?_) (fun h => ?_)
      · refine x_iload C dX12_twin_131 133 rfl 4 rfl ?_
        exact x_iret C rfl dX12_twin_133 h
      · refine x_iload_n C dX12_twin_127 128 rfl 3 rfl ?_
        refine x_goto C dX12_twin_128 133 rfl ?_
        exact x_iret C rfl dX12_twin_133 h
    · refine x_iload C dX12_twin_69 71 rfl 5 rfl ?_
      refine x_iload_n C dX12_twin_71 72 rfl 1 rfl ?_
      refine x_icmp_ne C dX12_twin_72 75 rfl 79 rfl h (fun h => ?_) (fun h => ?_)
      · refine x_aload_n C dX12_twin_79 80 rfl 0 rfl ?_
        refine x_iload_n C dX12_twin_80 81 rfl 1 rfl ?_
        refine x_iload C dX12_twin_81 83 rfl 5 rfl ?_
        obtain ⟨r83, a83, hq, h⟩ := xb_some h
        refine x_callVi C 0 (c_X12_apartOf C.2.2.2.2.2.2.1 hq) lm0 EM_0 rfl wml_X12_456 wq_X12_apartOf rfl ⟨by decide, by decide⟩ rfl rfl ⟨by decide, by decide⟩ dX12_twin_83 86 rfl rfl (Nat.le_of_ble_eq_true rfl) ?_
        exact b_X12_twin_86 C (fun _ _ _ _ _ _ h => ih h) h
      · refine x_iconst C dX12_twin_75 76 rfl (-1) rfl ?_
        refine x_goto C dX12_twin_76 86 rfl ?_
        exact b_X12_twin_86 C (fun _ _ _ _ _ _ h => ih h) h
theorem b_X12_twin_42 (C : XC p l s m args meth c cX12_twin 7 (some .int) RX12 D vwCl (tysM ca) (EM ad ca) NCM ad) {N : Nat} {o : (Int32 × AH)} {ah : AH} {v1 : Int32} {v2 : Int32} {s1 : Int32} (h : F_X12_twin_42 N ah v1 v2 s1 = some o) : XW p l e rm_X12_twin s m args below meth c 7 0 (xQi below args s D vwCl (tysM ca) (EM ad ca) NCM ad o) D vwCl (EM ad ca) NCM ad ah 42 [(0, .ref (ad 0)), (1, .int v1), (2, .int v2)] [.int s1, .ref (ad 0)] := by
  unfold F_X12_twin_42 at h
  refine x_iconst C dX12_twin_42 43 rfl 2 rfl ?_
  refine x_iconst C dX12_twin_43 44 rfl 1 rfl ?_
  obtain ⟨r44, a44, hq, h⟩ := xb_some h
  refine x_callVi C 0 (c_X12_bad C.2.2.2.2.2.2.1 hq) lm0 EM_0 rfl wml_X12_249 wq_X12_bad rfl ⟨by decide, by decide⟩ rfl rfl ⟨by decide, by decide⟩ dX12_twin_44 47 rfl rfl (Nat.le_of_ble_eq_true rfl) ?_
  refine x_if_eq C dX12_twin_47 50 rfl 52 rfl h (fun h => ?_) (fun h => ?_)
  · refine x_iconst C dX12_twin_52 53 rfl (-1) rfl ?_
    refine x_istore_n C dX12_twin_53 54 rfl (by decide) (fun v3_53 => [(3, .int v3_53), (0, .ref (ad 0)), (1, .int v1), (2, .int v2)]) (fun _ => rfl) h (fun v3_53 h => ?_)
    refine x_iconst C dX12_twin_54 55 rfl (-1) rfl ?_
    refine x_istore C dX12_twin_55 57 rfl (by decide) (fun v4_55 => [(4, .int v4_55), (3, .int v3_53), (0, .ref (ad 0)), (1, .int v1), (2, .int v2)]) (fun _ => rfl) h (fun v4_55 h => ?_)
    refine x_iconst C dX12_twin_57 58 rfl 0 rfl ?_
    refine x_istore C dX12_twin_58 60 rfl (by decide) (fun v5_58 => [(5, .int v5_58), (4, .int v4_55), (3, .int v3_53), (0, .ref (ad 0)), (1, .int v1), (2, .int v2)]) (fun _ => rfl) h (fun v5_58 h => ?_)
    exact x_sub [3, 4, 5, 2, 1, 0] rfl (b_X12_twin_60 C  N h)
  · refine x_iconst C dX12_twin_50 51 rfl 0 rfl ?_
    exact x_iret C rfl dX12_twin_51 h
theorem b_X12_twin_19 (C : XC p l s m args meth c cX12_twin 7 (some .int) RX12 D vwCl (tysM ca) (EM ad ca) NCM ad) {N : Nat} {o : (Int32 × AH)} {ah : AH} {v1 : Int32} {v2 : Int32} {s1 : Int32} (h : F_X12_twin_19 N ah v1 v2 s1 = some o) : XW p l e rm_X12_twin s m args below meth c 7 0 (xQi below args s D vwCl (tysM ca) (EM ad ca) NCM ad o) D vwCl (EM ad ca) NCM ad ah 19 [(0, .ref (ad 0)), (1, .int v1), (2, .int v2)] [.int s1, .ref (ad 0)] := by
  unfold F_X12_twin_19 at h
  refine x_iconst C dX12_twin_19 20 rfl 1 rfl ?_
  refine x_iconst C dX12_twin_20 21 rfl 0 rfl ?_
  obtain ⟨r21, a21, hq, h⟩ := xb_some h
  refine x_callVi C 0 (c_X12_bad C.2.2.2.2.2.2.1 hq) lm0 EM_0 rfl wml_X12_249 wq_X12_bad rfl ⟨by decide, by decide⟩ rfl rfl ⟨by decide, by decide⟩ dX12_twin_21 24 rfl rfl (Nat.le_of_ble_eq_true rfl) ?_
  refine x_if_ne C dX12_twin_24 27 rfl 50 rfl h (fun h => ?_) (fun h => ?_)
  · refine x_iconst C dX12_twin_50 51 rfl 0 rfl ?_
    exact x_iret C rfl dX12_twin_51 h
  · refine x_aload_n C dX12_twin_27 28 rfl 0 rfl ?_
    refine x_iload_n C dX12_twin_28 29 rfl 2 rfl ?_
    refine x_iconst C dX12_twin_29 30 rfl 0 rfl ?_
    refine x_iconst C dX12_twin_30 31 rfl 1 rfl ?_
    obtain ⟨r31, a31, hq, h⟩ := xb_some h
    refine x_callSi C (c_X12_in C.2.2.2.2.2.2.1 hq) wml_X12_223 wq_X12_in rfl ⟨by decide, by decide⟩ rfl rfl ⟨by decide, by decide⟩ dX12_twin_31 34 rfl rfl (Nat.le_of_ble_eq_true rfl) ?_
    refine x_if_ne C dX12_twin_34 37 rfl 41 rfl h (fun h => ?_) (fun h => ?_)
    · refine x_iconst C dX12_twin_41 42 rfl 0 rfl ?_
      exact b_X12_twin_42 C  h
    · refine x_iconst C dX12_twin_37 38 rfl 1 rfl ?_
      refine x_goto C dX12_twin_38 42 rfl ?_
      exact b_X12_twin_42 C  h
theorem c_X12_twin {l : Launch} {D : va_G} {ca : Nat → ClassId} {ad : Nat → Nat} (hI : xInj ad NCM) {N : Nat} {ah : AH} {p1 : Int32} {p2 : Int32} {r : Int32} {a : AH} (h : F_X12_twin N ah p1 p2 = some (r, a)) : xMi l yX12_twin cX12_twin 7 (some .int) rm_X12_twin D vwCl (tysM ca) (EM ad ca) NCM ad [.ref (ad 0), .int p1, .int p2] ah (r, a) := by
  refine x_meti (by decide) (Nat.le_of_ble_eq_true rfl) hI EM_loc ?_
  intro p e s m args below meth c C
  unfold F_X12_twin at h
  refine x_aload_n C dX12_twin_0 1 rfl 0 rfl ?_
  refine x_iconst C dX12_twin_1 2 rfl 0 rfl ?_
  refine x_put C inX12 0 lm0 EM_0 rfl 0 (by decide) tyX12_ok nmX12 dX12_twin_2 5 rfl wmf_X12_180 rfl rfl rfl (Nat.le_of_ble_eq_true rfl) EQ_0_0 h (fun a2 h => ?_)
  refine x_aload_n C dX12_twin_5 6 rfl 0 rfl ?_
  refine x_aload_n C dX12_twin_6 7 rfl 0 rfl ?_
  refine x_iload_n C dX12_twin_7 8 rfl 1 rfl ?_
  obtain ⟨r8, a8, hq, h⟩ := xb_some h
  refine x_callVi C 0 (c_X12_isWord C.2.2.2.2.2.2.1 hq) lm0 EM_0 rfl wml_X12_282 wq_X12_isWord rfl ⟨by decide, by decide⟩ rfl rfl ⟨by decide, by decide⟩ dX12_twin_8 11 rfl rfl (Nat.le_of_ble_eq_true rfl) ?_
  refine x_if_ne C dX12_twin_11 14 rfl 18 rfl h (fun h => ?_) (fun h => ?_)
  · refine x_iconst C dX12_twin_18 19 rfl 0 rfl ?_
    exact b_X12_twin_19 C  h
  · refine x_iconst C dX12_twin_14 15 rfl 1 rfl ?_
    refine x_goto C dX12_twin_15 19 rfl ?_
    exact b_X12_twin_19 C  h
abbrev rm_X12_twins : Room := { frames := 5, cells := 0, slots := 0, locals := 119 }
theorem wq_X12_twins : xcV RX12 yX12_twins cX12_twins 5 (some .int) 1 := ⟨wmi_X12_twins, wms_X12_twins, wmn_X12, wmc_X12_twins, by decide, by decide, by decide +kernel⟩
def F_X12_twins_83 (N : Nat) (k36 : AH → Int32 → Int32 → Int32 → Option (Int32 × AH)) (k47 : AH → Int32 → Int32 → Int32 → Int32 → Option (Int32 × AH)) (ah : AH) (v1 : Int32) (v3 : Int32) (v4 : Int32) (s0 : Int32) (s1 : Int32) : Option (Int32 × AH) := xlet (s0 + s1) (fun v2_84 => xlet (v4 + 1) (fun v4_85 => k47 ah v1 v2_84 v3 v4_85))
def F_X12_twins_82 (N : Nat) (k36 : AH → Int32 → Int32 → Int32 → Option (Int32 × AH)) (k47 : AH → Int32 → Int32 → Int32 → Int32 → Option (Int32 × AH)) (ah : AH) (v1 : Int32) (v3 : Int32) (v4 : Int32) (s0 : Int32) : Option (Int32 × AH) := F_X12_twins_83 N k36 k47 ah v1 v3 v4 s0 0
def F_X12_twins_47 (N : Nat) (k36 : AH → Int32 → Int32 → Int32 → Option (Int32 × AH)) : Nat → AH → Int32 → Int32 → Int32 → Int32 → Option (Int32 × AH)
  | 0, _, _, _, _, _ => none
  | n + 1, ah, v1, v2, v3, v4 => if (ah 0 10) ≤ v4 then xlet (v3 + 1) (fun v3_91 => k36 ah v1 v2 v3_91) else if v3 = v4 then F_X12_twins_82 N k36 (F_X12_twins_47 N k36 n) ah v1 v3 v4 v2 else xb (F_X12_apartOf N ah v3 v4) (fun r67 a67 => xb (F_X12_in N a67 r67 0 v1) (fun r72 a72 => if r72 = 0 then F_X12_twins_82 N k36 (F_X12_twins_47 N k36 n) a72 v1 v3 v4 v2 else F_X12_twins_83 N k36 (F_X12_twins_47 N k36 n) a72 v1 v3 v4 v2 1))
def F_X12_twins_36 (N : Nat) : Nat → AH → Int32 → Int32 → Int32 → Option (Int32 × AH)
  | 0, _, _, _, _ => none
  | n + 1, ah, v1, v2, v3 => if (ah 0 10) ≤ v3 then some (v2, ah) else xlet 0 (fun v4_45 => F_X12_twins_47 N (F_X12_twins_36 N n) N ah v1 v2 v3 v4_45)
def F_X12_twins_22 (N : Nat) (ah : AH) (v1 : Int32) (s1 : Int32) : Option (Int32 × AH) := xb (F_X12_bad N ah s1 1 1) (fun r24 a24 => if r24 = 0 then xlet 0 (fun v2_33 => xlet 0 (fun v3_35 => F_X12_twins_36 N N a24 v1 v2_33 v3_35)) else some (0, a24))
def F_X12_twins (N : Nat) (ah : AH) (p1 : Int32) : Option (Int32 × AH) := xlet (xu ah 0 0 0) (fun a2 => xb (F_X12_in N a2 p1 0 999) (fun r11 a11 => if r11 = 0 then F_X12_twins_22 N a11 p1 1 else F_X12_twins_22 N a11 p1 0))
theorem b_X12_twins_83 (C : XC p l s m args meth c cX12_twins 5 (some .int) RX12 D vwCl (tysM ca) (EM ad ca) NCM ad) {N : Nat} {o : (Int32 × AH)} {k36 : AH → Int32 → Int32 → Int32 → Option (Int32 × AH)} (hk36 : ∀ (ah : AH) (v1 : Int32) (v2 : Int32) (v3 : Int32), k36 ah v1 v2 v3 = some o → XW p l e rm_X12_twins s m args below meth c 5 0 (xQi below args s D vwCl (tysM ca) (EM ad ca) NCM ad o) D vwCl (EM ad ca) NCM ad ah 36 [(0, .ref (ad 0)), (1, .int v1), (2, .int v2), (3, .int v3)] []) {k47 : AH → Int32 → Int32 → Int32 → Int32 → Option (Int32 × AH)} (hk47 : ∀ (ah : AH) (v1 : Int32) (v2 : Int32) (v3 : Int32) (v4 : Int32), k47 ah v1 v2 v3 v4 = some o → XW p l e rm_X12_twins s m args below meth c 5 0 (xQi below args s D vwCl (tysM ca) (EM ad ca) NCM ad o) D vwCl (EM ad ca) NCM ad ah 47 [(0, .ref (ad 0)), (1, .int v1), (2, .int v2), (3, .int v3), (4, .int v4)] []) {ah : AH} {v1 : Int32} {v3 : Int32} {v4 : Int32} {s0 : Int32} {s1 : Int32} (h : F_X12_twins_83 N k36 k47 ah v1 v3 v4 s0 s1 = some o) : XW p l e rm_X12_twins s m args below meth c 5 0 (xQi below args s D vwCl (tysM ca) (EM ad ca) NCM ad o) D vwCl (EM ad ca) NCM ad ah 83 [(0, .ref (ad 0)), (1, .int v1), (3, .int v3), (4, .int v4)] [.int s1, .int s0] := by
  unfold F_X12_twins_83 at h
  refine x_iadd C dX12_twins_83 84 rfl ?_
  refine x_istore_n C dX12_twins_84 85 rfl (by decide) (fun v2_84 => [(2, .int v2_84), (0, .ref (ad 0)), (1, .int v1), (3, .int v3), (4, .int v4)]) (fun _ => rfl) h (fun v2_84 h => ?_)
  refine x_iinc C dX12_twins_85 88 rfl 4 rfl (d := 1) rfl (by decide) (fun v4_85 => [(4, .int v4_85), (2, .int v2_84), (0, .ref (ad 0)), (1, .int v1), (3, .int v3)]) (fun _ => rfl) h (fun v4_85 h => ?_)
  refine x_goto C dX12_twins_88 47 rfl ?_
  exact x_sub [2, 3, 1, 4, 0] rfl (hk47 _ _ _ _ _ h)
theorem b_X12_twins_82 (C : XC p l s m args meth c cX12_twins 5 (some .int) RX12 D vwCl (tysM ca) (EM ad ca) NCM ad) {N : Nat} {o : (Int32 × AH)} {k36 : AH → Int32 → Int32 → Int32 → Option (Int32 × AH)} (hk36 : ∀ (ah : AH) (v1 : Int32) (v2 : Int32) (v3 : Int32), k36 ah v1 v2 v3 = some o → XW p l e rm_X12_twins s m args below meth c 5 0 (xQi below args s D vwCl (tysM ca) (EM ad ca) NCM ad o) D vwCl (EM ad ca) NCM ad ah 36 [(0, .ref (ad 0)), (1, .int v1), (2, .int v2), (3, .int v3)] []) {k47 : AH → Int32 → Int32 → Int32 → Int32 → Option (Int32 × AH)} (hk47 : ∀ (ah : AH) (v1 : Int32) (v2 : Int32) (v3 : Int32) (v4 : Int32), k47 ah v1 v2 v3 v4 = some o → XW p l e rm_X12_twins s m args below meth c 5 0 (xQi below args s D vwCl (tysM ca) (EM ad ca) NCM ad o) D vwCl (EM ad ca) NCM ad ah 47 [(0, .ref (ad 0)), (1, .int v1), (2, .int v2), (3, .int v3), (4, .int v4)] []) {ah : AH} {v1 : Int32} {v3 : Int32} {v4 : Int32} {s0 : Int32} (h : F_X12_twins_82 N k36 k47 ah v1 v3 v4 s0 = some o) : XW p l e rm_X12_twins s m args below meth c 5 0 (xQi below args s D vwCl (tysM ca) (EM ad ca) NCM ad o) D vwCl (EM ad ca) NCM ad ah 82 [(0, .ref (ad 0)), (1, .int v1), (3, .int v3), (4, .int v4)] [.int s0] := by
  unfold F_X12_twins_82 at h
  refine x_iconst C dX12_twins_82 83 rfl 0 rfl ?_
  exact b_X12_twins_83 C hk36 hk47 h
theorem b_X12_twins_47 (C : XC p l s m args meth c cX12_twins 5 (some .int) RX12 D vwCl (tysM ca) (EM ad ca) NCM ad) {N : Nat} {o : (Int32 × AH)} {k36 : AH → Int32 → Int32 → Int32 → Option (Int32 × AH)} (hk36 : ∀ (ah : AH) (v1 : Int32) (v2 : Int32) (v3 : Int32), k36 ah v1 v2 v3 = some o → XW p l e rm_X12_twins s m args below meth c 5 0 (xQi below args s D vwCl (tysM ca) (EM ad ca) NCM ad o) D vwCl (EM ad ca) NCM ad ah 36 [(0, .ref (ad 0)), (1, .int v1), (2, .int v2), (3, .int v3)] []) : ∀ (n : Nat) {ah : AH} {v1 : Int32} {v2 : Int32} {v3 : Int32} {v4 : Int32}, F_X12_twins_47 N k36 n ah v1 v2 v3 v4 = some o → XW p l e rm_X12_twins s m args below meth c 5 0 (xQi below args s D vwCl (tysM ca) (EM ad ca) NCM ad o) D vwCl (EM ad ca) NCM ad ah 47 [(0, .ref (ad 0)), (1, .int v1), (2, .int v2), (3, .int v3), (4, .int v4)] [] := by
  intro n
  induction n with
  | zero => intro ah v1 v2 v3 v4 h; unfold F_X12_twins_47 at h; cases h
  | succ n ih =>
    intro ah v1 v2 v3 v4 h
    unfold F_X12_twins_47 at h
    refine x_iload C dX12_twins_47 49 rfl 4 rfl ?_
    refine x_aload_n C dX12_twins_49 50 rfl 0 rfl ?_
    refine x_get C inX12 0 lm0 EM_0 rfl 10 (by decide) dX12_twins_50 53 rfl wmf_X12_257 rfl ?_
    refine x_icmp_ge C dX12_twins_53 56 rfl 91 rfl h (fun h => ?_) (fun h => ?_)
    · refine x_iinc C dX12_twins_91 94 rfl 3 rfl (d := 1) rfl (by decide) (fun v3_91 => [(3, .int v3_91), (0, .ref (ad 0)), (1, .int v1), (2, .int v2), (4, .int v4)]) (fun _ => rfl) h (fun v3_91 h => ?_)
      refine x_goto C dX12_twins_94 36 rfl ?_
      exact x_sub [1, 2, 3, 0] rfl (hk36 _ _ _ _ h)
    · refine x_iload_n C dX12_twins_56 57 rfl 2 rfl ?_
      refine x_iload_n C dX12_twins_57 58 rfl 3 rfl ?_
      refine x_iload C dX12_twins_58 60 rfl 4 rfl ?_
      refine x_icmp_eq C dX12_twins_60 63 rfl 82 rfl h (fun h => ?_) (fun h => ?_)
      · exact x_sub [0, 1, 3, 4] rfl (b_X12_twins_82 C hk36 (fun _ _ _ _ _ h => ih h) h)
      · refine x_aload_n C dX12_twins_63 64 rfl 0 rfl ?_
        refine x_iload_n C dX12_twins_64 65 rfl 3 rfl ?_
        refine x_iload C dX12_twins_65 67 rfl 4 rfl ?_
        obtain ⟨r67, a67, hq, h⟩ := xb_some h
        refine x_callVi C 0 (c_X12_apartOf C.2.2.2.2.2.2.1 hq) lm0 EM_0 rfl wml_X12_456 wq_X12_apartOf rfl ⟨by decide, by decide⟩ rfl rfl ⟨by decide, by decide⟩ dX12_twins_67 70 rfl rfl (Nat.le_of_ble_eq_true rfl) ?_
        refine x_iconst C dX12_twins_70 71 rfl 0 rfl ?_
        refine x_iload_n C dX12_twins_71 72 rfl 1 rfl ?_
        obtain ⟨r72, a72, hq, h⟩ := xb_some h
        refine x_callSi C (c_X12_in C.2.2.2.2.2.2.1 hq) wml_X12_223 wq_X12_in rfl ⟨by decide, by decide⟩ rfl rfl ⟨by decide, by decide⟩ dX12_twins_72 75 rfl rfl (Nat.le_of_ble_eq_true rfl) ?_
        refine x_if_eq C dX12_twins_75 78 rfl 82 rfl h (fun h => ?_) (fun h => ?_)
        · exact x_sub [0, 1, 3, 4] rfl (b_X12_twins_82 C hk36 (fun _ _ _ _ _ h => ih h) h)
        · refine x_iconst C dX12_twins_78 79 rfl 1 rfl ?_
          refine x_goto C dX12_twins_79 83 rfl ?_
          exact x_sub [0, 1, 3, 4] rfl (b_X12_twins_83 C hk36 (fun _ _ _ _ _ h => ih h) h)
theorem b_X12_twins_36 (C : XC p l s m args meth c cX12_twins 5 (some .int) RX12 D vwCl (tysM ca) (EM ad ca) NCM ad) {N : Nat} {o : (Int32 × AH)} : ∀ (n : Nat) {ah : AH} {v1 : Int32} {v2 : Int32} {v3 : Int32}, F_X12_twins_36 N n ah v1 v2 v3 = some o → XW p l e rm_X12_twins s m args below meth c 5 0 (xQi below args s D vwCl (tysM ca) (EM ad ca) NCM ad o) D vwCl (EM ad ca) NCM ad ah 36 [(0, .ref (ad 0)), (1, .int v1), (2, .int v2), (3, .int v3)] [] := by
  intro n
  induction n with
  | zero => intro ah v1 v2 v3 h; unfold F_X12_twins_36 at h; cases h
  | succ n ih =>
    intro ah v1 v2 v3 h
    unfold F_X12_twins_36 at h
    refine x_iload_n C dX12_twins_36 37 rfl 3 rfl ?_
    refine x_aload_n C dX12_twins_37 38 rfl 0 rfl ?_
    refine x_get C inX12 0 lm0 EM_0 rfl 10 (by decide) dX12_twins_38 41 rfl wmf_X12_257 rfl ?_
    refine x_icmp_ge C dX12_twins_41 44 rfl 97 rfl h (fun h => ?_) (fun h => ?_)
    · refine x_iload_n C dX12_twins_97 98 rfl 2 rfl ?_
      exact x_iret C rfl dX12_twins_98 h
    · refine x_iconst C dX12_twins_44 45 rfl 0 rfl ?_
      refine x_istore C dX12_twins_45 47 rfl (by decide) (fun v4_45 => [(4, .int v4_45), (0, .ref (ad 0)), (1, .int v1), (2, .int v2), (3, .int v3)]) (fun _ => rfl) h (fun v4_45 h => ?_)
      exact x_sub [1, 2, 3, 4, 0] rfl (b_X12_twins_47 C (fun _ _ _ _ h => ih h) N h)
theorem b_X12_twins_22 (C : XC p l s m args meth c cX12_twins 5 (some .int) RX12 D vwCl (tysM ca) (EM ad ca) NCM ad) {N : Nat} {o : (Int32 × AH)} {ah : AH} {v1 : Int32} {s1 : Int32} (h : F_X12_twins_22 N ah v1 s1 = some o) : XW p l e rm_X12_twins s m args below meth c 5 0 (xQi below args s D vwCl (tysM ca) (EM ad ca) NCM ad o) D vwCl (EM ad ca) NCM ad ah 22 [(0, .ref (ad 0)), (1, .int v1)] [.int s1, .ref (ad 0)] := by
  unfold F_X12_twins_22 at h
  refine x_iconst C dX12_twins_22 23 rfl 1 rfl ?_
  refine x_iconst C dX12_twins_23 24 rfl 1 rfl ?_
  obtain ⟨r24, a24, hq, h⟩ := xb_some h
  refine x_callVi C 0 (c_X12_bad C.2.2.2.2.2.2.1 hq) lm0 EM_0 rfl wml_X12_249 wq_X12_bad rfl ⟨by decide, by decide⟩ rfl rfl ⟨by decide, by decide⟩ dX12_twins_24 27 rfl rfl (Nat.le_of_ble_eq_true rfl) ?_
  refine x_if_eq C dX12_twins_27 30 rfl 32 rfl h (fun h => ?_) (fun h => ?_)
  · refine x_iconst C dX12_twins_32 33 rfl 0 rfl ?_
    refine x_istore_n C dX12_twins_33 34 rfl (by decide) (fun v2_33 => [(2, .int v2_33), (0, .ref (ad 0)), (1, .int v1)]) (fun _ => rfl) h (fun v2_33 h => ?_)
    refine x_iconst C dX12_twins_34 35 rfl 0 rfl ?_
    refine x_istore_n C dX12_twins_35 36 rfl (by decide) (fun v3_35 => [(3, .int v3_35), (2, .int v2_33), (0, .ref (ad 0)), (1, .int v1)]) (fun _ => rfl) h (fun v3_35 h => ?_)
    exact x_sub [2, 3, 1, 0] rfl (b_X12_twins_36 C  N h)
  · refine x_iconst C dX12_twins_30 31 rfl 0 rfl ?_
    exact x_iret C rfl dX12_twins_31 h
theorem c_X12_twins {l : Launch} {D : va_G} {ca : Nat → ClassId} {ad : Nat → Nat} (hI : xInj ad NCM) {N : Nat} {ah : AH} {p1 : Int32} {r : Int32} {a : AH} (h : F_X12_twins N ah p1 = some (r, a)) : xMi l yX12_twins cX12_twins 5 (some .int) rm_X12_twins D vwCl (tysM ca) (EM ad ca) NCM ad [.ref (ad 0), .int p1] ah (r, a) := by
  refine x_meti (by decide) (Nat.le_of_ble_eq_true rfl) hI EM_loc ?_
  intro p e s m args below meth c C
  unfold F_X12_twins at h
  refine x_aload_n C dX12_twins_0 1 rfl 0 rfl ?_
  refine x_iconst C dX12_twins_1 2 rfl 0 rfl ?_
  refine x_put C inX12 0 lm0 EM_0 rfl 0 (by decide) tyX12_ok nmX12 dX12_twins_2 5 rfl wmf_X12_180 rfl rfl rfl (Nat.le_of_ble_eq_true rfl) EQ_0_0 h (fun a2 h => ?_)
  refine x_aload_n C dX12_twins_5 6 rfl 0 rfl ?_
  refine x_iload_n C dX12_twins_6 7 rfl 1 rfl ?_
  refine x_iconst C dX12_twins_7 8 rfl 0 rfl ?_
  refine x_sipush C dX12_twins_8 11 rfl 999 rfl ?_
  obtain ⟨r11, a11, hq, h⟩ := xb_some h
  refine x_callSi C (c_X12_in C.2.2.2.2.2.2.1 hq) wml_X12_223 wq_X12_in rfl ⟨by decide, by decide⟩ rfl rfl ⟨by decide, by decide⟩ dX12_twins_11 14 rfl rfl (Nat.le_of_ble_eq_true rfl) ?_
  refine x_if_ne C dX12_twins_14 17 rfl 21 rfl h (fun h => ?_) (fun h => ?_)
  · refine x_iconst C dX12_twins_21 22 rfl 0 rfl ?_
    exact b_X12_twins_22 C  h
  · refine x_iconst C dX12_twins_17 18 rfl 1 rfl ?_
    refine x_goto C dX12_twins_18 22 rfl ?_
    exact b_X12_twins_22 C  h
abbrev rm_X12_status : Room := { frames := 1, cells := 0, slots := 0, locals := 22 }
theorem wq_X12_status : xcV RX12 yX12_status cX12_status 2 (some .int) 1 := ⟨wmi_X12_status, wms_X12_status, wmn_X12, wmc_X12_status, by decide, by decide, by decide +kernel⟩
def F_X12_status (N : Nat) (ah : AH) (p1 : Int32) : Option (Int32 × AH) := xlet (xu ah 0 0 0) (fun a2 => xb (F_X12_in N a2 p1 0 1) (fun r8 a8 => if r8 = 0 then some ((-1), a8) else xg p1 2 (some (a8 1 (Int32.toNatClampNeg p1), a8))))
theorem c_X12_status {l : Launch} {D : va_G} {ca : Nat → ClassId} {ad : Nat → Nat} (hI : xInj ad NCM) {N : Nat} {ah : AH} {p1 : Int32} {r : Int32} {a : AH} (h : F_X12_status N ah p1 = some (r, a)) : xMi l yX12_status cX12_status 2 (some .int) rm_X12_status D vwCl (tysM ca) (EM ad ca) NCM ad [.ref (ad 0), .int p1] ah (r, a) := by
  refine x_meti (by decide) (Nat.le_of_ble_eq_true rfl) hI EM_loc ?_
  intro p e s m args below meth c C
  unfold F_X12_status at h
  refine x_aload_n C dX12_status_0 1 rfl 0 rfl ?_
  refine x_iconst C dX12_status_1 2 rfl 0 rfl ?_
  refine x_put C inX12 0 lm0 EM_0 rfl 0 (by decide) tyX12_ok nmX12 dX12_status_2 5 rfl wmf_X12_180 rfl rfl rfl (Nat.le_of_ble_eq_true rfl) EQ_0_0 h (fun a2 h => ?_)
  refine x_iload_n C dX12_status_5 6 rfl 1 rfl ?_
  refine x_iconst C dX12_status_6 7 rfl 0 rfl ?_
  refine x_iconst C dX12_status_7 8 rfl 1 rfl ?_
  obtain ⟨r8, a8, hq, h⟩ := xb_some h
  refine x_callSi C (c_X12_in C.2.2.2.2.2.2.1 hq) wml_X12_223 wq_X12_in rfl ⟨by decide, by decide⟩ rfl rfl ⟨by decide, by decide⟩ dX12_status_8 11 rfl rfl (Nat.le_of_ble_eq_true rfl) ?_
  refine x_if_eq C dX12_status_11 14 rfl 23 rfl h (fun h => ?_) (fun h => ?_)
  · refine x_iconst C dX12_status_23 24 rfl (-1) rfl ?_
    exact x_iret C rfl dX12_status_24 h
  · refine x_aload_n C dX12_status_14 15 rfl 0 rfl ?_
    refine x_get C inX12 0 lm0 EM_0 rfl 1 (by decide) dX12_status_15 18 rfl wmf_X12_7 rfl ?_
    refine x_iload_n C dX12_status_18 19 rfl 1 rfl ?_
    refine x_iald C 1 lm1 EM_1 0 rfl dX12_status_19 20 rfl h (fun h => ?_)
    refine x_goto C dX12_status_20 24 rfl ?_
    exact x_iret C rfl dX12_status_24 h
