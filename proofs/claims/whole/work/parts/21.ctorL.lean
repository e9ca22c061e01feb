def EXr (ad : Nat → Nat) (ca : Nat → ClassId) (k : Nat) (r : Nat → Int32) : va_E := match k with
  | 0 => .inr (2, [.int (r 0), .ref (ad 1), .ref (ad 2), .ref (ad 3), .ref (ad 4), .int (r 5), .ref (ad 5), .ref (ad 6), .ref (ad 7), .ref (ad 8), .ref (ad 9), .ref (ad 10), .ref (ad 11), .int (r 13), .ref (ad 12), .ref (ad 13), .ref (ad 14)])
  | 1 => .inl (ca 0, 60, .inl r)
  | 2 => .inl (ca 0, 60, .inl r)
  | 3 => .inl (ca 0, 60, .inl r)
  | 4 => .inl (ca 0, 720, .inl r)
  | 5 => .inl (ca 0, 721, .inl r)
  | 6 => .inl (ca 0, 721, .inl r)
  | 7 => .inl (ca 0, 721, .inl r)
  | 8 => .inl (ca 0, 721, .inl r)
  | 9 => .inl (ca 0, 721, .inl r)
  | 10 => .inl (ca 0, 721, .inl r)
  | 11 => .inl (ca 0, 721, .inl r)
  | 12 => .inl (ca 0, 60, .inl r)
  | 13 => .inl (ca 0, 60, .inl r)
  | 14 => .inl (ca 0, 60, .inl r)
  | _ => .inl (ca 0, 0, .inl r)
def EX (ad : Nat → Nat) (ca : Nat → ClassId) : xL := fun ah k => EXr ad ca k (ah k)
theorem EX_loc {ad : Nat → Nat} {ca : Nat → ClassId} : xLoc (EX ad ca) := fun ah k i v j h => by unfold EX; rw [xu_row h]
abbrev NCX : Nat := 15
theorem lx0 : 0 < NCX := by decide
theorem EX_0 {ad : Nat → Nat} {ca : Nat → ClassId} {ah : AH} : EX ad ca ah 0 = .inr (2, [.int (ah 0 0), .ref (ad 1), .ref (ad 2), .ref (ad 3), .ref (ad 4), .int (ah 0 5), .ref (ad 5), .ref (ad 6), .ref (ad 7), .ref (ad 8), .ref (ad 9), .ref (ad 10), .ref (ad 11), .int (ah 0 13), .ref (ad 12), .ref (ad 13), .ref (ad 14)]) := rfl
theorem EY_0_0 {ad : Nat → Nat} {ca : Nat → ClassId} {ah : AH} {x : Int32} : EX ad ca (xu ah 0 0 x) 0 = .inr (2, ([.int (ah 0 0), .ref (ad 1), .ref (ad 2), .ref (ad 3), .ref (ad 4), .int (ah 0 5), .ref (ad 5), .ref (ad 6), .ref (ad 7), .ref (ad 8), .ref (ad 9), .ref (ad 10), .ref (ad 11), .int (ah 0 13), .ref (ad 12), .ref (ad 13), .ref (ad 14)]).set 0 (.int x)) := rfl
theorem EY_0_5 {ad : Nat → Nat} {ca : Nat → ClassId} {ah : AH} {x : Int32} : EX ad ca (xu ah 0 5 x) 0 = .inr (2, ([.int (ah 0 0), .ref (ad 1), .ref (ad 2), .ref (ad 3), .ref (ad 4), .int (ah 0 5), .ref (ad 5), .ref (ad 6), .ref (ad 7), .ref (ad 8), .ref (ad 9), .ref (ad 10), .ref (ad 11), .int (ah 0 13), .ref (ad 12), .ref (ad 13), .ref (ad 14)]).set 5 (.int x)) := rfl
theorem EY_0_13 {ad : Nat → Nat} {ca : Nat → ClassId} {ah : AH} {x : Int32} : EX ad ca (xu ah 0 13 x) 0 = .inr (2, ([.int (ah 0 0), .ref (ad 1), .ref (ad 2), .ref (ad 3), .ref (ad 4), .int (ah 0 5), .ref (ad 5), .ref (ad 6), .ref (ad 7), .ref (ad 8), .ref (ad 9), .ref (ad 10), .ref (ad 11), .int (ah 0 13), .ref (ad 12), .ref (ad 13), .ref (ad 14)]).set 13 (.int x)) := rfl
theorem lx1 : 1 < NCX := by decide
theorem EX_1 {ad : Nat → Nat} {ca : Nat → ClassId} {ah : AH} : EX ad ca ah 1 = .inl (ca 0, 60, .inl (ah 1)) := rfl
theorem lx2 : 2 < NCX := by decide
theorem EX_2 {ad : Nat → Nat} {ca : Nat → ClassId} {ah : AH} : EX ad ca ah 2 = .inl (ca 0, 60, .inl (ah 2)) := rfl
theorem lx3 : 3 < NCX := by decide
theorem EX_3 {ad : Nat → Nat} {ca : Nat → ClassId} {ah : AH} : EX ad ca ah 3 = .inl (ca 0, 60, .inl (ah 3)) := rfl
theorem lx4 : 4 < NCX := by decide
theorem EX_4 {ad : Nat → Nat} {ca : Nat → ClassId} {ah : AH} : EX ad ca ah 4 = .inl (ca 0, 720, .inl (ah 4)) := rfl
theorem lx5 : 5 < NCX := by decide
theorem EX_5 {ad : Nat → Nat} {ca : Nat → ClassId} {ah : AH} : EX ad ca ah 5 = .inl (ca 0, 721, .inl (ah 5)) := rfl
theorem lx6 : 6 < NCX := by decide
theorem EX_6 {ad : Nat → Nat} {ca : Nat → ClassId} {ah : AH} : EX ad ca ah 6 = .inl (ca 0, 721, .inl (ah 6)) := rfl
theorem lx7 : 7 < NCX := by decide
theorem EX_7 {ad : Nat → Nat} {ca : Nat → ClassId} {ah : AH} : EX ad ca ah 7 = .inl (ca 0, 721, .inl (ah 7)) := rfl
theorem lx8 : 8 < NCX := by decide
theorem EX_8 {ad : Nat → Nat} {ca : Nat → ClassId} {ah : AH} : EX ad ca ah 8 = .inl (ca 0, 721, .inl (ah 8)) := rfl
theorem lx9 : 9 < NCX := by decide
theorem EX_9 {ad : Nat → Nat} {ca : Nat → ClassId} {ah : AH} : EX ad ca ah 9 = .inl (ca 0, 721, .inl (ah 9)) := rfl
theorem lx10 : 10 < NCX := by decide
theorem EX_10 {ad : Nat → Nat} {ca : Nat → ClassId} {ah : AH} : EX ad ca ah 10 = .inl (ca 0, 721, .inl (ah 10)) := rfl
theorem lx11 : 11 < NCX := by decide
theorem EX_11 {ad : Nat → Nat} {ca : Nat → ClassId} {ah : AH} : EX ad ca ah 11 = .inl (ca 0, 721, .inl (ah 11)) := rfl
theorem lx12 : 12 < NCX := by decide
theorem EX_12 {ad : Nat → Nat} {ca : Nat → ClassId} {ah : AH} : EX ad ca ah 12 = .inl (ca 0, 60, .inl (ah 12)) := rfl
theorem lx13 : 13 < NCX := by decide
theorem EX_13 {ad : Nat → Nat} {ca : Nat → ClassId} {ah : AH} : EX ad ca ah 13 = .inl (ca 0, 60, .inl (ah 13)) := rfl
theorem lx14 : 14 < NCX := by decide
theorem EX_14 {ad : Nat → Nat} {ca : Nat → ClassId} {ah : AH} : EX ad ca ah 14 = .inl (ca 0, 60, .inl (ah 14)) := rfl
section
variable {p : Program} {l : Launch} {e : Env} {s : State} {m : MethodId} {args : Array Value} {below : List Frame} {meth : Method} {c : Code} {D : va_G} {ca : Nat → ClassId} {ad : Nat → Nat}
def FX_X2_addNode (N : Nat) (ah : AH) (p1 : Int32) (p2 : Int32) : Option (Int32 × AH) := xlet (ah 0 5) (fun v3_4 => if v3_4 < 721 then xlet (xu ah 0 5 ((ah 0 5) + 1)) (fun a21 => xg v3_4 721 (xlet (xu a21 5 (Int32.toNatClampNeg v3_4) p1) (fun a30 => xg v3_4 721 (xlet (xu a30 6 (Int32.toNatClampNeg v3_4) p2) (fun a37 => xg v3_4 721 (xlet (xu a37 7 (Int32.toNatClampNeg v3_4) ((-1))) (fun a44 => xg v3_4 721 (xlet (xu a44 8 (Int32.toNatClampNeg v3_4) ((-1))) (fun a51 => xg v3_4 721 (xlet (xu a51 9 (Int32.toNatClampNeg v3_4) ((-1))) (fun a58 => xg v3_4 721 (xlet (xu a58 10 (Int32.toNatClampNeg v3_4) 0) (fun a65 => xg v3_4 721 (xlet (xu a65 11 (Int32.toNatClampNeg v3_4) ((-1))) (fun a72 => if p1 < 0 then some (v3_4, a72) else xg p1 721 (xg v3_4 721 (xlet (xu a72 9 (Int32.toNatClampNeg v3_4) (a72 8 (Int32.toNatClampNeg p1))) (fun a88 => xg p1 721 (xlet (xu a88 8 (Int32.toNatClampNeg p1) v3_4) (fun a95 => some (v3_4, a95))))))))))))))))))))) else some ((-1), ah))
theorem cx_X2_addNode {l : Launch} {D : va_G} {ca : Nat → ClassId} {ad : Nat → Nat} (hI : xInj ad NCX) {N : Nat} {ah : AH} {p1 : Int32} {p2 : Int32} {r : Int32} {a : AH} (h : FX_X2_addNode N ah p1 p2 = some (r, a)) : xMi l yX2_addNode cX2_addNode 4 (some .int) rm_X2_addNode D vwCl (tysC ca) (EX ad ca) NCX ad [.ref (ad 0), .int p1, .int p2] ah (r, a) := by
  refine x_meti (by decide) (Nat.le_of_ble_eq_true rfl) hI EX_loc ?_
  intro p e s m args below meth c C
  unfold FX_X2_addNode at h
  refine x_aload_n C dX2_addNode_0 1 rfl 0 rfl ?_
  refine x_get C inX2 0 lx0 EX_0 rfl 5 (by decide) dX2_addNode_1 4 rfl wmf_X2_24 rfl ?_
  refine x_istore_n C dX2_addNode_4 5 rfl (by decide) (fun v3_4 => [(3, .int v3_4), (0, .ref (ad 0)), (1, .int p1), (2, .int p2)]) (fun _ => rfl) h (fun v3_4 h => ?_)
  refine x_iload_n C dX2_addNode_5 6 rfl 0 rfl ?_
  refine x_sipush C dX2_addNode_6 9 rfl 721 rfl ?_
  refine x_icmp_lt C dX2_addNode_9 12 rfl 14 rfl h (fun h => ?_) (fun h => ?_)
  · refine x_aload_n C dX2_addNode_14 15 rfl 1 rfl ?_
    refine x_dup C dX2_addNode_15 16 rfl rfl ?_
    refine x_get C inX2 0 lx0 EX_0 rfl 5 (by decide) dX2_addNode_16 19 rfl wmf_X2_24 rfl ?_
    refine x_iconst C dX2_addNode_19 20 rfl 1 rfl ?_
    refine x_iadd C dX2_addNode_20 21 rfl ?_
    refine x_put C inX2 0 lx0 EX_0 rfl 5 (by decide) tyX2_ok nmX2 dX2_addNode_21 24 rfl wmf_X2_24 rfl rfl rfl (Nat.le_of_ble_eq_true rfl) EY_0_5 h (fun a21 h => ?_)
    refine x_aload_n C dX2_addNode_24 25 rfl 1 rfl ?_
    refine x_get C inX2 0 lx0 EX_0 rfl 6 (by decide) dX2_addNode_25 28 rfl wmf_X2_28 rfl ?_
    refine x_iload_n C dX2_addNode_28 29 rfl 0 rfl ?_
    refine x_iload_n C dX2_addNode_29 30 rfl 2 rfl ?_
    refine x_iast C 5 lx5 (fun _ => EX_5) 0 rfl dX2_addNode_30 31 rfl h (fun a30 h => ?_)
    refine x_aload_n C dX2_addNode_31 32 rfl 1 rfl ?_
    refine x_get C inX2 0 lx0 EX_0 rfl 7 (by decide) dX2_addNode_32 35 rfl wmf_X2_31 rfl ?_
    refine x_iload_n C dX2_addNode_35 36 rfl 0 rfl ?_
    refine x_iload_n C dX2_addNode_36 37 rfl 3 rfl ?_
    refine x_iast C 6 lx6 (fun _ => EX_6) 0 rfl dX2_addNode_37 38 rfl h (fun a37 h => ?_)
    refine x_aload_n C dX2_addNode_38 39 rfl 1 rfl ?_
    refine x_get C inX2 0 lx0 EX_0 rfl 8 (by decide) dX2_addNode_39 42 rfl wmf_X2_34 rfl ?_
    refine x_iload_n C dX2_addNode_42 43 rfl 0 rfl ?_
    refine x_iconst C dX2_addNode_43 44 rfl (-1) rfl ?_
    refine x_iast C 7 lx7 (fun _ => EX_7) 0 rfl dX2_addNode_44 45 rfl h (fun a44 h => ?_)
    refine x_aload_n C dX2_addNode_45 46 rfl 1 rfl ?_
    refine x_get C inX2 0 lx0 EX_0 rfl 9 (by decide) dX2_addNode_46 49 rfl wmf_X2_37 rfl ?_
    refine x_iload_n C dX2_addNode_49 50 rfl 0 rfl ?_
    refine x_iconst C dX2_addNode_50 51 rfl (-1) rfl ?_
    refine x_iast C 8 lx8 (fun _ => EX_8) 0 rfl dX2_addNode_51 52 rfl h (fun a51 h => ?_)
    refine x_aload_n C dX2_addNode_52 53 rfl 1 rfl ?_
    refine x_get C inX2 0 lx0 EX_0 rfl 10 (by decide) dX2_addNode_53 56 rfl wmf_X2_40 rfl ?_
    refine x_iload_n C dX2_addNode_56 57 rfl 0 rfl ?_
    refine x_iconst C dX2_addNode_57 58 rfl (-1) rfl ?_
    refine x_iast C 9 lx9 (fun _ => EX_9) 0 rfl dX2_addNode_58 59 rfl h (fun a58 h => ?_)
    refine x_aload_n C dX2_addNode_59 60 rfl 1 rfl ?_
    refine x_get C inX2 0 lx0 EX_0 rfl 11 (by decide) dX2_addNode_60 63 rfl wmf_X2_43 rfl ?_
    refine x_iload_n C dX2_addNode_63 64 rfl 0 rfl ?_
    refine x_iconst C dX2_addNode_64 65 rfl 0 rfl ?_
    refine x_iast C 10 lx10 (fun _ => EX_10) 0 rfl dX2_addNode_65 66 rfl h (fun a65 h => ?_)
    refine x_aload_n C dX2_addNode_66 67 rfl 1 rfl ?_
    refine x_get C inX2 0 lx0 EX_0 rfl 12 (by decide) dX2_addNode_67 70 rfl wmf_X2_46 rfl ?_
    refine x_iload_n C dX2_addNode_70 71 rfl 0 rfl ?_
    refine x_iconst C dX2_addNode_71 72 rfl (-1) rfl ?_
    refine x_iast C 11 lx11 (fun _ => EX_11) 0 rfl dX2_addNode_72 73 rfl h (fun a72 h => ?_)
    refine x_iload_n C dX2_addNode_73 74 rfl 2 rfl ?_
    refine x_if_lt C dX2_addNode_74 77 rfl 96 rfl h (fun h => ?_) (fun h => ?_)
    · refine x_iload_n C dX2_addNode_96 97 rfl 0 rfl ?_
      exact x_iret C rfl dX2_addNode_97 h
    · refine x_aload_n C dX2_addNode_77 78 rfl 1 rfl ?_
      refine x_get C inX2 0 lx0 EX_0 rfl 10 (by decide) dX2_addNode_78 81 rfl wmf_X2_40 rfl ?_
      refine x_iload_n C dX2_addNode_81 82 rfl 0 rfl ?_
      refine x_aload_n C dX2_addNode_82 83 rfl 1 rfl ?_
      refine x_get C inX2 0 lx0 EX_0 rfl 9 (by decide) dX2_addNode_83 86 rfl wmf_X2_37 rfl ?_
      refine x_iload_n C dX2_addNode_86 87 rfl 2 rfl ?_
      refine x_iald C 8 lx8 EX_8 0 rfl dX2_addNode_87 88 rfl h (fun h => ?_)
      refine x_iast C 9 lx9 (fun _ => EX_9) 0 rfl dX2_addNode_88 89 rfl h (fun a88 h => ?_)
      refine x_aload_n C dX2_addNode_89 90 rfl 1 rfl ?_
      refine x_get C inX2 0 lx0 EX_0 rfl 9 (by decide) dX2_addNode_90 93 rfl wmf_X2_37 rfl ?_
      refine x_iload_n C dX2_addNode_93 94 rfl 2 rfl ?_
      refine x_iload_n C dX2_addNode_94 95 rfl 0 rfl ?_
      refine x_iast C 8 lx8 (fun _ => EX_8) 0 rfl dX2_addNode_95 96 rfl h (fun a95 h => ?_)
      refine x_iload_n C dX2_addNode_96 97 rfl 0 rfl ?_
      exact x_iret C rfl dX2_addNode_97 h
  · refine x_iconst C dX2_addNode_12 13 rfl (-1) rfl ?_
    exact x_iret C rfl dX2_addNode_13 h
def FX_X2_clear (N : Nat) (ah : AH) : Option AH := xlet (xu ah 0 0 0) (fun a2 => xlet (xu a2 0 5 0) (fun a7 => xb (FX_X2_addNode N a7 ((-1)) 0) (fun r13 a13 => some a13)))
theorem cx_X2_clear {l : Launch} {D : va_G} {ca : Nat → ClassId} {ad : Nat → Nat} (hI : xInj ad NCX) {N : Nat} {ah : AH} {a : AH} (h : FX_X2_clear N ah = some a) : xMv l yX2_clear cX2_clear 1 rm_X2_clear D vwCl (tysC ca) (EX ad ca) NCX ad [.ref (ad 0)] ah a := by
  refine x_metv (by decide) (Nat.le_of_ble_eq_true rfl) hI EX_loc ?_
  intro p e s m args below meth c C
  unfold FX_X2_clear at h
  refine x_aload_n C dX2_clear_0 1 rfl 0 rfl ?_
  refine x_iconst C dX2_clear_1 2 rfl 0 rfl ?_
  refine x_put C inX2 0 lx0 EX_0 rfl 0 (by decide) tyX2_ok nmX2 dX2_clear_2 5 rfl wmf_X2_61 rfl rfl rfl (Nat.le_of_ble_eq_true rfl) EY_0_0 h (fun a2 h => ?_)
  refine x_aload_n C dX2_clear_5 6 rfl 0 rfl ?_
  refine x_iconst C dX2_clear_6 7 rfl 0 rfl ?_
  refine x_put C inX2 0 lx0 EX_0 rfl 5 (by decide) tyX2_ok nmX2 dX2_clear_7 10 rfl wmf_X2_24 rfl rfl rfl (Nat.le_of_ble_eq_true rfl) EY_0_5 h (fun a7 h => ?_)
  refine x_aload_n C dX2_clear_10 11 rfl 0 rfl ?_
  refine x_iconst C dX2_clear_11 12 rfl (-1) rfl ?_
  refine x_iconst C dX2_clear_12 13 rfl 0 rfl ?_
  obtain ⟨r13, a13, hq, h⟩ := xb_some h
  refine x_callVi C 0 (cx_X2_addNode C.2.2.2.2.2.2.1 hq) lx0 EX_0 rfl wml_X2_64 wq_X2_addNode rfl ⟨by decide, by decide⟩ rfl rfl ⟨by decide, by decide⟩ dX2_clear_13 16 rfl rfl (Nat.le_of_ble_eq_true rfl) ?_
  refine x_pop C dX2_clear_16 17 rfl rfl ?_
  exact x_vret C rfl dX2_clear_17 h
end
abbrev rm_X2_init : Room := { frames := 2, cells := 14, slots := 6127, locals := 43 }
/-- the lexicon's cells: the object at o, its rows from sz on -/
def kad (o sz : Nat) : Nat → Nat := fun k => if k = 0 then o else sz + (k - 1)
def kah : AH := fun k j => if k = 0 ∧ j = 5 then 1 else 0
theorem kad_inj {o sz : Nat} (h : o < sz) : xInj (kad o sz) NCX := by
  intro i j hi hj e
  unfold kad at e
  by_cases h1 : i = 0 <;> by_cases h2 : j = 0 <;> simp [h1, h2] at e <;> omega
def kes (ca : Nat → ClassId) (o sz : Nat) (ah : AH) : List va_E := ((List.range NCX).tail).map (fun k => EX (kad o sz) ca ah k)
theorem kw_xw {ca : Nat → ClassId} {o sz : Nat} {ah : AH} : KW o (EX (kad o sz) ca ah 0) sz (kes ca o sz ah) = xw (EX (kad o sz) ca) NCX (kad o sz) ah := rfl
section
variable {p : Program} {l : Launch} {e : Env} {R : Room} {s : State} {m : MethodId} {args : Array Value} {below : List Frame} {meth : Method} {c : Code} {cc : ByteArray} {nL : Nat} {D : va_G} {ca : Nat → ClassId} {Q : State → Prop} {o sz cs sl pc : Nat} {lv : List (Nat × Value)} {st : List Value}
theorem k_clear (C : KC p l s m args meth c cX2_init 1 RX2 D vwCl (tysC ca)) {N : Nat} {a1 : AH} (hq : FX_X2_clear N kah = some a1) (hd : decode cX2_init pc = .ok (.invokevirtual 58, 3)) (pc' : Nat) (hp : pc + 3 = pc') (kk : XK p l e rm_X2_init s m args below meth c 1 Q D vwCl o (EX (kad o sz) ca a1 0) sz (kes ca o sz a1) 14 6127 pc' lv st) (hcat : (st.map fun v => v.category).sum ≤ 8 := by exact Nat.le_of_ble_eq_true rfl) : XK p l e rm_X2_init s m args below meth c 1 Q D vwCl o (EX (kad o sz) ca kah 0) sz (kes ca o sz kah) 14 6127 pc lv (.ref o :: st) := by
  intro H locs ls hP hz hS hss ho hl
  subst hp
  have hP' : va_P D vwCl (xw (EX (kad o sz) ca) NCX (kad o sz) kah) H := hP
  obtain ⟨w1, w2, w3, w4, w5⟩ := wq_X2_clear
  have cb := callB_of (R := rm_X2_init) (own := RX2) (index := 58) (ws := Cond.code yX2_clear cX2_clear 1 none :: xWs) (ws' := xWs) (rm := rm_X2_clear) (mc := 0) (ms := 0) 0 C.2.2.2.2.1 (xGood yX2_clear cX2_clear 1 none w4) rfl rfl rfl (C.2.2.2.2.1 _ w3) (C.2.2.2.2.1 _ wml_X2_58) w5 ⟨by decide, by decide⟩
  have hin : ∀ q, xA (kad o sz) NCX H.size q → kA o sz q := fun q h => by
    rcases h with ⟨k, hk, rfl⟩ | h
    · unfold kad
      by_cases h0 : k = 0
      · rw [if_pos h0]; exact Or.inl rfl
      · rw [if_neg h0]; exact Or.inr (by omega)
    · exact Or.inr (by omega)
  refine va_callv (va_runV (As := []) (rest := st) (C := RX2) ⟨C.1, C.2.1, C.2.2.1, C.2.2.2.1, C.2.2.2.2.1⟩ (cx_X2_clear (ad := kad o sz) (kad_inj ho) hq H.size) ⟨cb, C.2.2.2.2.1 _ w1, C.2.2.2.2.1 _ w2⟩ ⟨xPre_blind, va_recv C.2.2.2.2.2.1 hP' (ci := 2) rfl (xw_get lx0 EX_0), fun U hU hW => ⟨rfl, by rw [hU], by rw [hU]; exact hP', va_K.moved hW.alike C.2.2.2.2.2.1, C.2.2.2.2.2.2.2.2.2.warm hW⟩⟩ rfl rfl hl.1 rfl (lv_room hcat) hd ⟨by decide, by decide⟩) hS (fun q _ h => hin q h) (fun q h => hin q h) (fun u t H1 locs1 ht hvm hw hB _ _ hS1 => ?_)
  subst hw
  obtain ⟨⟨hP1, -⟩, z1⟩ := hB
  rw [ht] at hP1 z1
  exact kk H1 locs1 ls hP1 (z1.trans hz) hS1 hss ho hl
end
theorem k_X2 {l : Launch} {D : va_G} {ca : Nat → ClassId} {o sz : Nat} {N : Nat} {a1 : AH} (h0 : FX_X2_clear N kah = some a1) : xMk l yX2_init cX2_init 1 rm_X2_init D vwCl (tysC ca) [.ref o] o (.inr (2, [.int 0, .null, .null, .null, .null, .int 0, .null, .null, .null, .null, .null, .null, .null, .int 0, .null, .null, .null])) sz (EX (kad o sz) ca a1 0) (kes ca o sz a1) := by
  refine k_met (by decide) (Nat.le_of_ble_eq_true rfl) ?_ rfl
  intro p e s m args below meth c C hn
  refine k_aload_n C dX2_init_0 1 rfl 0 rfl ?_
  refine k_oinit C wml_X2_3 dX2_init_1 4 rfl ⟨by decide, Nat.le_of_ble_eq_true rfl⟩ ?_
  refine k_aload_n C dX2_init_4 5 rfl 0 rfl ?_
  refine k_bipush C dX2_init_5 7 rfl 60 rfl ?_
  refine k_newa (atype := .int) (a0 := (60, .inl (fun _ => 0))) C 0 rfl (fun h => h) wma_int 60 (fun _ => rfl) (by decide) (by decide) (Nat.le_of_ble_eq_true rfl) ⟨by decide, by decide⟩ dX2_init_7 9 rfl (sz + 0) rfl ?_
  refine k_putF C inX2 tyX2_ok nmX2 rfl 1 (by decide) wmf_X2_9 rfl rfl rfl rfl (Nat.le_of_ble_eq_true rfl) dX2_init_9 12 rfl [.int 0, .ref (sz + 0), .null, .null, .null, .int 0, .null, .null, .null, .null, .null, .null, .null, .int 0, .null, .null, .null] rfl ?_
  refine k_aload_n C dX2_init_12 13 rfl 0 rfl ?_
  refine k_bipush C dX2_init_13 15 rfl 60 rfl ?_
  refine k_newa (atype := .int) (a0 := (60, .inl (fun _ => 0))) C 0 rfl (fun h => h) wma_int 60 (fun _ => rfl) (by decide) (by decide) (Nat.le_of_ble_eq_true rfl) ⟨by decide, by decide⟩ dX2_init_15 17 rfl (sz + 1) rfl ?_
  refine k_putF C inX2 tyX2_ok nmX2 rfl 2 (by decide) wmf_X2_15 rfl rfl rfl rfl (Nat.le_of_ble_eq_true rfl) dX2_init_17 20 rfl [.int 0, .ref (sz + 0), .ref (sz + 1), .null, .null, .int 0, .null, .null, .null, .null, .null, .null, .null, .int 0, .null, .null, .null] rfl ?_
  refine k_aload_n C dX2_init_20 21 rfl 0 rfl ?_
  refine k_bipush C dX2_init_21 23 rfl 60 rfl ?_
  refine k_newa (atype := .int) (a0 := (60, .inl (fun _ => 0))) C 0 rfl (fun h => h) wma_int 60 (fun _ => rfl) (by decide) (by decide) (Nat.le_of_ble_eq_true rfl) ⟨by decide, by decide⟩ dX2_init_23 25 rfl (sz + 2) rfl ?_
  refine k_putF C inX2 tyX2_ok nmX2 rfl 3 (by decide) wmf_X2_18 rfl rfl rfl rfl (Nat.le_of_ble_eq_true rfl) dX2_init_25 28 rfl [.int 0, .ref (sz + 0), .ref (sz + 1), .ref (sz + 2), .null, .int 0, .null, .null, .null, .null, .null, .null, .null, .int 0, .null, .null, .null] rfl ?_
  refine k_aload_n C dX2_init_28 29 rfl 0 rfl ?_
  refine k_sipush C dX2_init_29 32 rfl 720 rfl ?_
  refine k_newa (atype := .int) (a0 := (720, .inl (fun _ => 0))) C 0 rfl (fun h => h) wma_int 720 (fun _ => rfl) (by decide) (by decide) (Nat.le_of_ble_eq_true rfl) ⟨by decide, by decide⟩ dX2_init_32 34 rfl (sz + 3) rfl ?_
  refine k_putF C inX2 tyX2_ok nmX2 rfl 4 (by decide) wmf_X2_21 rfl rfl rfl rfl (Nat.le_of_ble_eq_true rfl) dX2_init_34 37 rfl [.int 0, .ref (sz + 0), .ref (sz + 1), .ref (sz + 2), .ref (sz + 3), .int 0, .null, .null, .null, .null, .null, .null, .null, .int 0, .null, .null, .null] rfl ?_
  refine k_aload_n C dX2_init_37 38 rfl 0 rfl ?_
  refine k_iconst C dX2_init_38 39 rfl 1 rfl ?_
  refine k_put C inX2 tyX2_ok nmX2 rfl 5 (by decide) wmf_X2_24 rfl rfl rfl (Nat.le_of_ble_eq_true rfl) dX2_init_39 42 rfl [.int 0, .ref (sz + 0), .ref (sz + 1), .ref (sz + 2), .ref (sz + 3), .int 1, .null, .null, .null, .null, .null, .null, .null, .int 0, .null, .null, .null] rfl ?_
  refine k_aload_n C dX2_init_42 43 rfl 0 rfl ?_
  refine k_sipush C dX2_init_43 46 rfl 721 rfl ?_
  refine k_newa (atype := .int) (a0 := (721, .inl (fun _ => 0))) C 0 rfl (fun h => h) wma_int 721 (fun _ => rfl) (by decide) (by decide) (Nat.le_of_ble_eq_true rfl) ⟨by decide, by decide⟩ dX2_init_46 48 rfl (sz + 4) rfl ?_
  refine k_putF C inX2 tyX2_ok nmX2 rfl 6 (by decide) wmf_X2_28 rfl rfl rfl rfl (Nat.le_of_ble_eq_true rfl) dX2_init_48 51 rfl [.int 0, .ref (sz + 0), .ref (sz + 1), .ref (sz + 2), .ref (sz + 3), .int 1, .ref (sz + 4), .null, .null, .null, .null, .null, .null, .int 0, .null, .null, .null] rfl ?_
  refine k_aload_n C dX2_init_51 52 rfl 0 rfl ?_
  refine k_sipush C dX2_init_52 55 rfl 721 rfl ?_
  refine k_newa (atype := .int) (a0 := (721, .inl (fun _ => 0))) C 0 rfl (fun h => h) wma_int 721 (fun _ => rfl) (by decide) (by decide) (Nat.le_of_ble_eq_true rfl) ⟨by decide, by decide⟩ dX2_init_55 57 rfl (sz + 5) rfl ?_
  refine k_putF C inX2 tyX2_ok nmX2 rfl 7 (by decide) wmf_X2_31 rfl rfl rfl rfl (Nat.le_of_ble_eq_true rfl) dX2_init_57 60 rfl [.int 0, .ref (sz + 0), .ref (sz + 1), .ref (sz + 2), .ref (sz + 3), .int 1, .ref (sz + 4), .ref (sz + 5), .null, .null, .null, .null, .null, .int 0, .null, .null, .null] rfl ?_
  refine k_aload_n C dX2_init_60 61 rfl 0 rfl ?_
  refine k_sipush C dX2_init_61 64 rfl 721 rfl ?_
  refine k_newa (atype := .int) (a0 := (721, .inl (fun _ => 0))) C 0 rfl (fun h => h) wma_int 721 (fun _ => rfl) (by decide) (by decide) (Nat.le_of_ble_eq_true rfl) ⟨by decide, by decide⟩ dX2_init_64 66 rfl (sz + 6) rfl ?_
  refine k_putF C inX2 tyX2_ok nmX2 rfl 8 (by decide) wmf_X2_34 rfl rfl rfl rfl (Nat.le_of_ble_eq_true rfl) dX2_init_66 69 rfl [.int 0, .ref (sz + 0), .ref (sz + 1), .ref (sz + 2), .ref (sz + 3), .int 1, .ref (sz + 4), .ref (sz + 5), .ref (sz + 6), .null, .null, .null, .null, .int 0, .null, .null, .null] rfl ?_
  refine k_aload_n C dX2_init_69 70 rfl 0 rfl ?_
  refine k_sipush C dX2_init_70 73 rfl 721 rfl ?_
  refine k_newa (atype := .int) (a0 := (721, .inl (fun _ => 0))) C 0 rfl (fun h => h) wma_int 721 (fun _ => rfl) (by decide) (by decide) (Nat.le_of_ble_eq_true rfl) ⟨by decide, by decide⟩ dX2_init_73 75 rfl (sz + 7) rfl ?_
  refine k_putF C inX2 tyX2_ok nmX2 rfl 9 (by decide) wmf_X2_37 rfl rfl rfl rfl (Nat.le_of_ble_eq_true rfl) dX2_init_75 78 rfl [.int 0, .ref (sz + 0), .ref (sz + 1), .ref (sz + 2), .ref (sz + 3), .int 1, .ref (sz + 4), .ref (sz + 5), .ref (sz + 6), .ref (sz + 7), .null, .null, .null, .int 0, .null, .null, .null] rfl ?_
  refine k_aload_n C dX2_init_78 79 rfl 0 rfl ?_
  refine k_sipush C dX2_init_79 82 rfl 721 rfl ?_
  refine k_newa (atype := .int) (a0 := (721, .inl (fun _ => 0))) C 0 rfl (fun h => h) wma_int 721 (fun _ => rfl) (by decide) (by decide) (Nat.le_of_ble_eq_true rfl) ⟨by decide, by decide⟩ dX2_init_82 84 rfl (sz + 8) rfl ?_
  refine k_putF C inX2 tyX2_ok nmX2 rfl 10 (by decide) wmf_X2_40 rfl rfl rfl rfl (Nat.le_of_ble_eq_true rfl) dX2_init_84 87 rfl [.int 0, .ref (sz + 0), .ref (sz + 1), .ref (sz + 2), .ref (sz + 3), .int 1, .ref (sz + 4), .ref (sz + 5), .ref (sz + 6), .ref (sz + 7), .ref (sz + 8), .null, .null, .int 0, .null, .null, .null] rfl ?_
  refine k_aload_n C dX2_init_87 88 rfl 0 rfl ?_
  refine k_sipush C dX2_init_88 91 rfl 721 rfl ?_
  refine k_newa (atype := .int) (a0 := (721, .inl (fun _ => 0))) C 0 rfl (fun h => h) wma_int 721 (fun _ => rfl) (by decide) (by decide) (Nat.le_of_ble_eq_true rfl) ⟨by decide, by decide⟩ dX2_init_91 93 rfl (sz + 9) rfl ?_
  refine k_putF C inX2 tyX2_ok nmX2 rfl 11 (by decide) wmf_X2_43 rfl rfl rfl rfl (Nat.le_of_ble_eq_true rfl) dX2_init_93 96 rfl [.int 0, .ref (sz + 0), .ref (sz + 1), .ref (sz + 2), .ref (sz + 3), .int 1, .ref (sz + 4), .ref (sz + 5), .ref (sz + 6), .ref (sz + 7), .ref (sz + 8), .ref (sz + 9), .null, .int 0, .null, .null, .null] rfl ?_
  refine k_aload_n C dX2_init_96 97 rfl 0 rfl ?_
  refine k_sipush C dX2_init_97 100 rfl 721 rfl ?_
  refine k_newa (atype := .int) (a0 := (721, .inl (fun _ => 0))) C 0 rfl (fun h => h) wma_int 721 (fun _ => rfl) (by decide) (by decide) (Nat.le_of_ble_eq_true rfl) ⟨by decide, by decide⟩ dX2_init_100 102 rfl (sz + 10) rfl ?_
  refine k_putF C inX2 tyX2_ok nmX2 rfl 12 (by decide) wmf_X2_46 rfl rfl rfl rfl (Nat.le_of_ble_eq_true rfl) dX2_init_102 105 rfl [.int 0, .ref (sz + 0), .ref (sz + 1), .ref (sz + 2), .ref (sz + 3), .int 1, .ref (sz + 4), .ref (sz + 5), .ref (sz + 6), .ref (sz + 7), .ref (sz + 8), .ref (sz + 9), .ref (sz + 10), .int 0, .null, .null, .null] rfl ?_
  refine k_aload_n C dX2_init_105 106 rfl 0 rfl ?_
  refine k_bipush C dX2_init_106 108 rfl 60 rfl ?_
  refine k_newa (atype := .int) (a0 := (60, .inl (fun _ => 0))) C 0 rfl (fun h => h) wma_int 60 (fun _ => rfl) (by decide) (by decide) (Nat.le_of_ble_eq_true rfl) ⟨by decide, by decide⟩ dX2_init_108 110 rfl (sz + 11) rfl ?_
  refine k_putF C inX2 tyX2_ok nmX2 rfl 14 (by decide) wmf_X2_49 rfl rfl rfl rfl (Nat.le_of_ble_eq_true rfl) dX2_init_110 113 rfl [.int 0, .ref (sz + 0), .ref (sz + 1), .ref (sz + 2), .ref (sz + 3), .int 1, .ref (sz + 4), .ref (sz + 5), .ref (sz + 6), .ref (sz + 7), .ref (sz + 8), .ref (sz + 9), .ref (sz + 10), .int 0, .ref (sz + 11), .null, .null] rfl ?_
  refine k_aload_n C dX2_init_113 114 rfl 0 rfl ?_
  refine k_bipush C dX2_init_114 116 rfl 60 rfl ?_
  refine k_newa (atype := .int) (a0 := (60, .inl (fun _ => 0))) C 0 rfl (fun h => h) wma_int 60 (fun _ => rfl) (by decide) (by decide) (Nat.le_of_ble_eq_true rfl) ⟨by decide, by decide⟩ dX2_init_116 118 rfl (sz + 12) rfl ?_
  refine k_putF C inX2 tyX2_ok nmX2 rfl 15 (by decide) wmf_X2_52 rfl rfl rfl rfl (Nat.le_of_ble_eq_true rfl) dX2_init_118 121 rfl [.int 0, .ref (sz + 0), .ref (sz + 1), .ref (sz + 2), .ref (sz + 3), .int 1, .ref (sz + 4), .ref (sz + 5), .ref (sz + 6), .ref (sz + 7), .ref (sz + 8), .ref (sz + 9), .ref (sz + 10), .int 0, .ref (sz + 11), .ref (sz + 12), .null] rfl ?_
  refine k_aload_n C dX2_init_121 122 rfl 0 rfl ?_
  refine k_bipush C dX2_init_122 124 rfl 60 rfl ?_
  refine k_newa (atype := .int) (a0 := (60, .inl (fun _ => 0))) C 0 rfl (fun h => h) wma_int 60 (fun _ => rfl) (by decide) (by decide) (Nat.le_of_ble_eq_true rfl) ⟨by decide, by decide⟩ dX2_init_124 126 rfl (sz + 13) rfl ?_
  refine k_putF C inX2 tyX2_ok nmX2 rfl 16 (by decide) wmf_X2_55 rfl rfl rfl rfl (Nat.le_of_ble_eq_true rfl) dX2_init_126 129 rfl [.int 0, .ref (sz + 0), .ref (sz + 1), .ref (sz + 2), .ref (sz + 3), .int 1, .ref (sz + 4), .ref (sz + 5), .ref (sz + 6), .ref (sz + 7), .ref (sz + 8), .ref (sz + 9), .ref (sz + 10), .int 0, .ref (sz + 11), .ref (sz + 12), .ref (sz + 13)] rfl ?_
  refine k_aload_n C dX2_init_129 130 rfl 0 rfl ?_
  refine k_clear C h0 dX2_init_130 133 rfl ?_
  exact k_vret C dX2_init_133 rfl rfl
