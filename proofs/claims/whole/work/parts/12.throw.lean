def xN : String := "java/util/NoSuchElementException"
def xI : String := "java/lang/IllegalArgumentException"
def xnm : List String := ["java/lang/RuntimeException", "java/lang/Exception"]
def hcv (j : Nat) : Int32 := if j = 0 then 999 else 99
/-- what a throw asks of the state: two statics of Throwable, two texts, words of the tables; and the class's own static row -/
def xThr (A : Nat → Prop) (U : State) : Prop :=
  vx_Zq Bundle.tN "UNASSIGNED_STACK" Bundle.steD A U U.heap ∧ vx_Zq Bundle.tN "SUPPRESSED_SENTINEL" Bundle.listD A U U.heap ∧ (∃ a, vk_R RX11 399 "there is none such" a U) ∧ (∃ a, vk_R RX11 406 "not between its least and its most" a U) ∧
  (va_Nw (.declares (Bundle.initS "java/lang/RuntimeException")) U ∧ va_Nw (.declares (Bundle.initS "java/lang/Exception")) U ∧ va_Nw (.declares (Bundle.initS Bundle.tN)) U ∧ va_Nw (.castable xN xN) U ∧ va_Nw (.castable xI xI) U) ∧
  va_Nc xI xN U ∧ ∃ t, va_Z RX11 "HIGHEST_COSTS" "[I" (.ref t) A U U.heap ∧ va_T .int t 7 (fun j => .int (hcv j)) A U U.heap
theorem xThr.go {A B : Nat → Prop} {s U : State} (h : xThr A s) (hvm : s.WarmedH U.vm) (hk : ∀ q : Nat, q < s.heap.size → ¬ A q → U.heap[q]? = s.heap[q]?) (hAB : ∀ q, B q → A q) : xThr B U := by
  obtain ⟨h1, h2, ⟨a1, h3⟩, ⟨a2, h4⟩, ⟨n1, n2, n3, n4, n5⟩, n6, t, h5, h6⟩ := h
  exact ⟨((h1.moved hvm.alike).kept hk).narrow hAB, ((h2.moved hvm.alike).kept hk).narrow hAB, ⟨a1, vk_R.warm hvm h3⟩, ⟨a2, vk_R.warm hvm h4⟩,
    ⟨va_Nw.warmD hvm n1, va_Nw.warmD hvm n2, va_Nw.warmD hvm n3, va_Nw.warmC hvm n4, va_Nw.warmC hvm n5⟩, n6.moved hvm.alike, t, ((h5.moved hvm.alike).kept hk).narrow hAB, ((h6.moved hvm.alike).kept hk).narrow hAB⟩
theorem xThr.same {A : Nat → Prop} {s U : State} (h : xThr A s) (hv : U.vm = s.vm) (hh : U.heap = s.heap) : xThr A U := by
  obtain ⟨h1, h2, ⟨a1, h3⟩, ⟨a2, h4⟩, ⟨n1, n2, n3, n4, n5⟩, n6, t, h5, h6⟩ := h
  have hvm : s.vm.Alike U.vm := by rw [hv]; exact Vm.Alike.refl _
  exact ⟨by rw [hh]; exact h1.moved hvm, by rw [hh]; exact h2.moved hvm, ⟨a1, vk_R.same hv h3⟩, ⟨a2, vk_R.same hv h4⟩,
    ⟨va_Nw.same rfl hv.symm n1, va_Nw.same rfl hv.symm n2, va_Nw.same rfl hv.symm n3, va_Nw.same rfl hv.symm n4, va_Nw.same rfl hv.symm n5⟩, n6.moved hvm, t, by rw [hh]; exact h5.moved hvm, by rw [hh]; exact h6.moved hvm⟩
def XT (l : Launch) (s : State) (c : Code) (ad : Nat → Nat) (NC : Nat) : Prop := l.stackTraces = false ∧ xThr (xA ad NC s.heap.size) s ∧ ∀ x ∈ c.exceptionTable.toList, False
/-- how a call ends: 0 and its answer, 1 NoSuchElementException, 2 IllegalArgumentException; and the heap -/
abbrev XR : Type := Nat × Int32 × AH
def xbx (x : Option XR) (f : AH → Option XR) : Option XR := match x with
  | none => none
  | some o => if o.1 = 0 then f o.2.2 else some (o.1, 0, o.2.2)
theorem xbx_some {x : Option XR} {f : AH → Option XR} {o : XR} (h : xbx x f = some o) : ∃ k r a, x = some (k, r, a) ∧ (if k = 0 then f a else some (k, 0, a)) = some o := by
  cases x with
  | none => cases h
  | some q => exact ⟨q.1, q.2.1, q.2.2, rfl, h⟩
def xEx (k : Nat) (X : String) : Prop := (k = 1 ∧ X = xN) ∨ (k = 2 ∧ X = xI)
def xXC (D : va_G) (cl : List vw_C) (tys : List (ClassId × FieldType)) (E : xL) (NC : Nat) (ad : Nat → Nat) (sz : Nat) (o : XR) : String → State → State → Prop := vx_X (fun u => u = o.2.2) (fun X u t => xEx o.1 X ∧ xB D cl tys E NC ad u t) (xA ad NC sz)
def xPreT (D : va_G) (cl : List vw_C) (tys : List (ClassId × FieldType)) (E : xL) (NC : Nat) (ad : Nat → Nat) (ah : AH) (sz : Nat) (U : State) : Prop := xPre D cl tys E NC ad ah sz U ∧ xThr (xA ad NC sz) U
abbrev xQn (below : List Frame) (args : Array Value) (s : State) (D : va_G) (cl : List vw_C) (tys : List (ClassId × FieldType)) (E : xL) (NC : Nat) (ad : Nat → Nat) (o : XR) : State → Prop :=
  vx_MQ below (va_Qv (fun u => o.1 = 0 ∧ u = o.2.2) (xB D cl tys E NC ad) (xA ad NC s.heap.size)) (xXC D cl tys E NC ad s.heap.size o) args s 1 6 (xA ad NC s.heap.size)
abbrev xQx (below : List Frame) (args : Array Value) (s : State) (D : va_G) (cl : List vw_C) (tys : List (ClassId × FieldType)) (E : xL) (NC : Nat) (ad : Nat → Nat) (o : XR) : State → Prop :=
  vx_MQ below (va_Qi (fun r u => o.1 = 0 ∧ r = o.2.1 ∧ u = o.2.2) (xB D cl tys E NC ad) (xA ad NC s.heap.size)) (xXC D cl tys E NC ad s.heap.size o) args s 3 18 (xA ad NC s.heap.size)
def xMn (l : Launch) (y : MethodName) (bytes : ByteArray) (maxL : Nat) (ret : Option FieldType) (rm : Room) (D : va_G) (cl : List vw_C) (tys : List (ClassId × FieldType)) (E : xL) (NC : Nat) (ad : Nat → Nat) (avs : List Value) (ah : AH) (o : XR) : Prop :=
  ∀ sz : Nat, vx_Met l y (Cond.code y bytes maxL ret :: xWs) rm (va_Pc avs (xPreT D cl tys E NC ad ah sz)) (va_Qv (fun u => o.1 = 0 ∧ u = o.2.2) (xB D cl tys E NC ad) (xA ad NC sz)) (xXC D cl tys E NC ad sz o) 1 6 (xA ad NC sz)
def xMx (l : Launch) (y : MethodName) (bytes : ByteArray) (maxL : Nat) (ret : Option FieldType) (rm : Room) (D : va_G) (cl : List vw_C) (tys : List (ClassId × FieldType)) (E : xL) (NC : Nat) (ad : Nat → Nat) (avs : List Value) (ah : AH) (o : XR) : Prop :=
  ∀ sz : Nat, vx_Met l y (Cond.code y bytes maxL ret :: xWs) rm (va_Pc avs (xPreT D cl tys E NC ad ah sz)) (va_Qi (fun r u => o.1 = 0 ∧ r = o.2.1 ∧ u = o.2.2) (xB D cl tys E NC ad) (xA ad NC sz)) (xXC D cl tys E NC ad sz o) 3 18 (xA ad NC sz)
theorem xPreT_blind {D : va_G} {cl : List vw_C} {tys : List (ClassId × FieldType)} {E : xL} {NC : Nat} {ad : Nat → Nat} {ah : AH} {sz : Nat} {avs : List Value} : FrameBlind (va_Pc avs (xPreT D cl tys E NC ad ah sz)) := by
  intro a U g mk q
  obtain ⟨q0, qp, qt⟩ := q
  have h := xPre_blind (D := D) (cl := cl) (tys := tys) (E := E) (NC := NC) (ad := ad) (ah := ah) (sz := sz) (avs := avs) a U g mk ⟨q0, qp⟩
  exact ⟨h.1, h.2, qt.same rfl rfl⟩
section
variable {p : Program} {l : Launch} {e : Env} {R : Room} {s : State} {m : MethodId} {args : Array Value} {below : List Frame} {meth : Method} {c : Code} {cc : ByteArray} {nL : Nat} {ret : Option FieldType} {own : String} {D : va_G} {cl : List vw_C} {tys : List (ClassId × FieldType)} {E : xL} {NC : Nat} {ad : Nat → Nat} {Q : State → Prop} {ah : AH} {pc cn : Nat} {lv : List (Nat × Value)} {st : List Value}
theorem x_iretX (C : XC p l s m args meth c cc nL ret own D cl tys E NC ad) (hr : ret = some .int) (hcn : cn ≤ 3) (hd : decode cc pc = .ok (.ireturn, 1)) {v : Int32} {o : XR} (h : some (0, v, ah) = some o) : XW p l e R s m args below meth c nL cn (xQx below args s D cl tys E NC ad o) D cl E NC ad ah pc lv ([.int v]) := by
  intro H locs ls hP hS hz hl
  cases h
  subst hr
  refine W.widen (k := 3) (n := 18) hcn (by omega) (vx_ret ?_)
  exact W.iret C.1 C.2.1 C.2.2.2.2.2.2.2.2.1 (fun t ht hW => ⟨⟨v, ah, rfl, ⟨rfl, rfl, rfl⟩, by rw [ht]; exact hP, va_K.moved hW.alike C.2.2.2.2.2.1⟩, hS.F ht⟩) hS.2.2 hd C.2.2.2.2.2.2.2.2.2.1
theorem x_zretX (C : XC p l s m args meth c cc nL ret own D cl tys E NC ad) (hr : ret = some .boolean) (hcn : cn ≤ 3) (hd : decode cc pc = .ok (.ireturn, 1)) {v : Int32} (hv : v = 0 ∨ v = 1) {o : XR} (h : some (0, v, ah) = some o) : XW p l e R s m args below meth c nL cn (xQx below args s D cl tys E NC ad o) D cl E NC ad ah pc lv ([.int v]) := by
  intro H locs ls hP hS hz hl
  cases h
  subst hr
  refine W.widen (k := 3) (n := 18) hcn (by omega) (vx_ret ?_)
  exact W.zret C.1 C.2.1 C.2.2.2.2.2.2.2.2.1 (by rcases hv with rfl | rfl <;> rfl) (fun t ht hW => ⟨⟨v, ah, rfl, ⟨rfl, rfl, rfl⟩, by rw [ht]; exact hP, va_K.moved hW.alike C.2.2.2.2.2.1⟩, hS.F ht⟩) hS.2.2 hd C.2.2.2.2.2.2.2.2.2.1
theorem x_zretXB (C : XC p l s m args meth c cc nL ret own D cl tys E NC ad) (hr : ret = some .boolean) (hcn : cn ≤ 3) (hd : decode cc pc = .ok (.ireturn, 1)) {v : Int32} {o : XR} (h : xbo v (some (0, v, ah)) = some o) : XW p l e R s m args below meth c nL cn (xQx below args s D cl tys E NC ad o) D cl E NC ad ah pc lv ([.int v]) := x_zretX C hr hcn hd (xbo_some h).1 (xbo_some h).2
theorem x_vretX (C : XC p l s m args meth c cc nL ret own D cl tys E NC ad) (hr : ret = none) (hcn : cn ≤ 1) (hd : decode cc pc = .ok (.return_, 1)) {o : XR} (h : some (0, 0, ah) = some o) : XW p l e R s m args below meth c nL cn (xQn below args s D cl tys E NC ad o) D cl E NC ad ah pc lv ([]) := by
  intro H locs ls hP hS hz hl
  cases h
  subst hr
  refine W.widen (k := 1) (n := 6) hcn (by omega) (vx_ret ?_)
  exact W.vret C.1 C.2.1 C.2.2.2.2.2.2.2.2.1 (fun t ht hW => ⟨⟨ah, rfl, ⟨rfl, rfl⟩, by rw [ht]; exact hP, va_K.moved hW.alike C.2.2.2.2.2.1⟩, hS.F ht⟩) hS.2.2 hd C.2.2.2.2.2.2.2.2.2.1
theorem x_gets (C : XC p l s m args meth c cc nL ret own D cl tys E NC ad) {t ix : Nat} (hzz : va_Z RX11 "HIGHEST_COSTS" "[I" (.ref t) (xA ad NC s.heap.size) s s.heap) (hlink : Cond.fieldLink own ix "MendedLetters" "HIGHEST_COSTS" "[I" ∈ xWs) (hd : decode cc pc = .ok (.getstatic ix, 3)) (pc' : Nat) (hp : pc + 3 = pc') (kk : XW p l e R s m args below meth c nL cn Q D cl E NC ad ah pc' lv (.ref t :: st)) : XW p l e R s m args below meth c nL cn Q D cl E NC ad ah pc lv st := by
  intro H locs ls hP hS hz hl
  subst hp
  exact va_gets C.1 C.2.1 hzz hS C.2.2.2.1 (C.2.2.2.2.1 _ hlink) (fun _ h => h) hd (kk H locs ls hP hS hz hl)
theorem x_tald (C : XC p l s m args meth c cc nL ret own D cl tys E NC ad) {t : Nat} {i : Int32} {n : Nat} {f : Nat → Int32} (ht : va_T .int t n (fun j => .int (f j)) (xA ad NC s.heap.size) s s.heap) (hd : decode cc pc = .ok (.iaload, 1)) (pc' : Nat) (hp : pc + 1 = pc') {α : Type} {B : Option α} {o : α} (h : xg i n B = some o) (kk : B = some o → XW p l e R s m args below meth c nL cn Q D cl E NC ad ah pc' lv (.int (f i.toNatClampNeg) :: st)) : XW p l e R s m args below meth c nL cn Q D cl E NC ad ah pc lv (.int i :: .ref t :: st) := by
  intro H locs ls hP hS hz hl
  subst hp
  obtain ⟨hi, h⟩ := xg_some h
  exact va_ti C.1 C.2.1 ht hS hi rfl hd (kk h H locs ls hP hS hz hl)
theorem x_callX (C : XC p l s m args meth c cc nL ret own D cl tys E NC ad) (T : XT l s c ad NC) {y : MethodName} {bytes : ByteArray} {maxL n ix : Nat} {rm : Room} {As : List Value} {C0 : String} {kx : Nat} {rx : Int32} {ax : AH} (k : Nat) (hM : xMn l y bytes maxL none rm D cl tys E NC ad (.ref (ad k) :: As) ah (kx, rx, ax)) (hk : k < NC) {ci : Nat} {fs : List Value} (hE : E ah k = .inr (ci, fs)) {T0 : u_T} {N : Nat} (hc : cl[ci]? = some (C0, T0, N)) (hlink : Cond.methodLink own ix y ∈ xWs) (hw : xcV C0 y bytes maxL none n) (hn : As.length = n) {Qc : Array Value → State → Outcome → State → Prop} {mc ms : Nat} (hcn : cn + 1 ≤ R.cells ∧ 6 * cn + 6 ≤ R.slots) (hQ : cn + 1 ≤ mc ∧ 6 * cn + 6 ≤ ms) (hrc : rm.cells = 1) (hrs : rm.slots = 6) (hR : rm.frames + 1 ≤ R.frames ∧ 8 + (maxL + 11) + rm.locals ≤ R.locals) (hd : decode cc pc = .ok (.invokevirtual ix, 3)) (pc' : Nat) (hp : pc + 3 = pc') {st0 : List Value} (hst : st0 = As.reverse ++ .ref (ad k) :: st) (hcat : (st.map fun v => v.category).sum ≤ 8) {B : Option XR} {o : XR} (h : (if kx = 0 then B else some (kx, 0, ax)) = some o) (kk : B = some o → XW p l e R s m args below meth c nL (cn + 1) (vx_MQ below Qc (xXC D cl tys E NC ad s.heap.size o) args s mc ms (xA ad NC s.heap.size)) D cl E NC ad ax pc' lv st) : XW p l e R s m args below meth c nL cn (vx_MQ below Qc (xXC D cl tys E NC ad s.heap.size o) args s mc ms (xA ad NC s.heap.size)) D cl E NC ad ah pc lv st0 := by
  intro H locs ls hP hS hz hl
  subst hp
  obtain ⟨w1, w2, w3, w4, w5⟩ := hw
  have cb := callB_of (R := R) (own := own) (index := ix) (ws := Cond.code y bytes maxL none :: xWs) (ws' := xWs) (rm := rm) (mc := 1) (ms := 6) n C.2.2.2.2.1 (xGood y bytes maxL none w4) rfl hrc hrs (C.2.2.2.2.1 _ w3) (C.2.2.2.2.1 _ hlink) w5 hR
  refine vx_callv (vx_runV (As := As) (rest := st) (C := C0) ⟨C.1, C.2.1, C.2.2.1, C.2.2.2.1, C.2.2.2.2.1⟩ (hM H.size) ⟨cb, C.2.2.2.2.1 _ w1, C.2.2.2.2.1 _ w2⟩ ⟨xPreT_blind, va_recv C.2.2.2.2.2.1 hP hc (xw_get hk hE), fun U hU hW => ⟨rfl, ⟨by rw [hU], by rw [hU]; exact hP, va_K.moved hW.alike C.2.2.2.2.2.1, C.2.2.2.2.2.2.2.2.2.2.warm hW⟩, T.2.1.go hW (fun q h1 h2 => by rw [hU]; exact hS.2.1 q h1 h2) (fun q hq => xA_mono hS.1 hq)⟩⟩ rfl hn hl.1 hst (lv_room hcat) hd hcn) hS (fun q _ h => xA_mono hS.1 h) (fun q h => xA_mono hS.1 h) (fun q _ h => xA_mono hS.1 h) ?_ ?_
  · intro X ce q9 u t H1 locs1 ht hvm hu hB _ _ hS1 hce hcv hcl
    obtain ⟨hX, hP1, -⟩ := hB
    dsimp only at hu hX
    subst hu
    have hk0 : ¬ kx = 0 := by
      rcases hX with ⟨e1, _⟩ | ⟨e1, _⟩ <;> omega
    rw [if_neg hk0] at h
    cases h
    rw [ht] at hP1
    refine vx_out (fun x hx => absurd (T.2.2 x hx) id) C.2.2.2.2.2.2.2.2.2.1 hce hcv hcl (fun t2 ht2 hvm2 => ⟨_, rfl, ⟨hX, by rw [ht2]; exact hP1, va_K.moved hvm2 C.2.2.2.2.2.1⟩, hS1.F ht2⟩) hS1.2.2 hQ.1 hQ.2
  · intro u t H1 locs1 ht hvm hu hB _ _ hS1
    obtain ⟨h0, rfl⟩ := hu
    dsimp only at h0
    rw [if_pos h0] at h
    obtain ⟨hP1, -⟩ := hB
    rw [ht] at hP1
    exact kk h H1 locs1 ls hP1 hS1 (fun h0 => absurd h0 (Nat.succ_ne_zero _)) hl
theorem x_swM {x : Int32} (v : Int32) (b : Int) (hb : v.toInt = b) {α : Type} {A B : Option α} {o : α} (h : (if x = v then A else B) = some o) (kt : x = v → A = some o → XW p l e R s m args below meth c nL cn Q D cl E NC ad ah pc lv st) (kf : ¬ b = x.toInt → B = some o → XW p l e R s m args below meth c nL cn Q D cl E NC ad ah pc lv st) : XW p l e R s m args below meth c nL cn Q D cl E NC ad ah pc lv st := by
  by_cases q : x = v
  · exact kt q (by rw [if_pos q] at h; exact h)
  · exact kf (fun e => q (Int32.toInt_inj.mp (by rw [hb, e]))) (by rw [if_neg q] at h; exact h)
theorem x_at1 : ∀ w ∈ (x_atSX RX11 401 xN 13 prog_23_method_4_code xnm).filter goodWord, w ∈ lw_tbl := by decide +kernel
theorem x_throw1 (C : XC p l s m args meth c cc nL ret RX11 D cl tys E NC ad) (T : XT l s c ad NC) {Qc : Array Value → State → Outcome → State → Prop} {mc ms : Nat} (d0 : decode cc pc = .ok (.new 397, 3)) (d3 : decode cc (pc + 3) = .ok (.dup, 1)) (d4 : decode cc (pc + 4) = .ok (.ldc_w 399, 3)) (d7 : decode cc (pc + 7) = .ok (.invokespecial 401, 3)) (d10 : decode cc (pc + 10) = .ok (.athrow, 1)) (hf : 5 < R.frames) (hlo : 82 ≤ R.locals) (hc : 1 ≤ R.cells) (hs : 6 ≤ R.slots) (hmc : 1 ≤ mc) (hms : 6 ≤ ms) {o : XR} (h : some (1, 0, ah) = some o) : XW p l e R s m args below meth c nL 0 (vx_MQ below Qc (xXC D cl tys E NC ad s.heap.size o) args s mc ms (xA ad NC s.heap.size)) D cl E NC ad ah pc lv ([]) := by
  intro H locs ls hP hS hz hl
  cases h
  obtain ⟨hU, hN, ⟨a1, s1⟩, ⟨a2, s2⟩, ⟨n1, n2, n3, n4, n5⟩, -⟩ := T.2.1
  refine x_throwSX (ix := 13) (rx := prog_23_method_4_code) (by decide +kernel) (by decide +kernel) (by decide +kernel) (by decide +kernel) C.1 C.2.1 T.1 C.2.2.2.1 (cls := xN) (names := xnm) (by decide +kernel) (by decide +kernel) (C.2.2.2.2.1 _ wmd_X11_397) (C.2.2.2.2.1 _ wmn_java_util_NoSuchElementException) s1 ?_ (by decide +kernel) hU hN hS (by rw [C.2.2.1]; exact hl.1) d0 d3 d4 d7 d10 (fun x hx => absurd (T.2.2 x hx) id) hf (by simpa [xnm] using hlo) (by omega) (by omega) C.2.2.2.2.2.2.2.2.2.1 ?_ hS.2.2 (by omega) (by omega)
  · refine vx_hat (B := [.declares (Bundle.initS "java/lang/RuntimeException"), .declares (Bundle.initS "java/lang/Exception"), .declares (Bundle.initS Bundle.tN), .castable xN xN]) (fun w hw => C.2.2.2.2.1 w (List.mem_filter.mpr ⟨x_at1 w hw, (List.mem_filter.mp hw).2⟩)) (by decide +kernel) ?_
    exact vx_c (va_Nw.use rfl n1) (vx_c (va_Nw.use rfl n2) (vx_c (va_Nw.use rfl n3) (vx_c (va_Nw.use rfl n4) vx_n)))
  · intro t hvm hz hq
    refine ⟨ah, rfl, ⟨Or.inl ⟨rfl, rfl⟩, hP.kept (fun k x hx => hq x.1 ((hP k x hx).lt)), va_K.moved hvm C.2.2.2.2.2.1⟩, Nat.le_trans hS.1 hz, fun q h1 h2 => ?_⟩
    rw [hq q (Nat.lt_of_lt_of_le h1 hS.1)]
    exact hS.2.1 q h1 h2
theorem x_at2 : ∀ w ∈ (x_atSX RX11 408 xI 7 prog_18_method_2_code xnm).filter goodWord, w ∈ lw_tbl := by decide +kernel
theorem x_throw2 (C : XC p l s m args meth c cc nL ret RX11 D cl tys E NC ad) (T : XT l s c ad NC) {Qc : Array Value → State → Outcome → State → Prop} {mc ms : Nat} (d0 : decode cc pc = .ok (.new 404, 3)) (d3 : decode cc (pc + 3) = .ok (.dup, 1)) (d4 : decode cc (pc + 4) = .ok (.ldc_w 406, 3)) (d7 : decode cc (pc + 7) = .ok (.invokespecial 408, 3)) (d10 : decode cc (pc + 10) = .ok (.athrow, 1)) (hf : 5 < R.frames) (hlo : 82 ≤ R.locals) (hc : 1 ≤ R.cells) (hs : 6 ≤ R.slots) (hmc : 1 ≤ mc) (hms : 6 ≤ ms) {o : XR} (h : some (2, 0, ah) = some o) : XW p l e R s m args below meth c nL 0 (vx_MQ below Qc (xXC D cl tys E NC ad s.heap.size o) args s mc ms (xA ad NC s.heap.size)) D cl E NC ad ah pc lv ([]) := by
  intro H locs ls hP hS hz hl
  cases h
  obtain ⟨hU, hN, ⟨a1, s1⟩, ⟨a2, s2⟩, ⟨n1, n2, n3, n4, n5⟩, -⟩ := T.2.1
  refine x_throwSX (ix := 7) (rx := prog_18_method_2_code) (by decide +kernel) (by decide +kernel) (by decide +kernel) (by decide +kernel) C.1 C.2.1 T.1 C.2.2.2.1 (cls := xI) (names := xnm) (by decide +kernel) (by decide +kernel) (C.2.2.2.2.1 _ wmd_X11_404) (C.2.2.2.2.1 _ wmn_java_lang_IllegalArgumentException) s2 ?_ (by decide +kernel) hU hN hS (by rw [C.2.2.1]; exact hl.1) d0 d3 d4 d7 d10 (fun x hx => absurd (T.2.2 x hx) id) hf (by simpa [xnm] using hlo) (by omega) (by omega) C.2.2.2.2.2.2.2.2.2.1 ?_ hS.2.2 (by omega) (by omega)
  · refine vx_hat (B := [.declares (Bundle.initS "java/lang/RuntimeException"), .declares (Bundle.initS "java/lang/Exception"), .declares (Bundle.initS Bundle.tN), .castable xI xI]) (fun w hw => C.2.2.2.2.1 w (List.mem_filter.mpr ⟨x_at2 w hw, (List.mem_filter.mp hw).2⟩)) (by decide +kernel) ?_
    exact vx_c (va_Nw.use rfl n1) (vx_c (va_Nw.use rfl n2) (vx_c (va_Nw.use rfl n3) (vx_c (va_Nw.use rfl n5) vx_n)))
  · intro t hvm hz hq
    refine ⟨ah, rfl, ⟨Or.inr ⟨rfl, rfl⟩, hP.kept (fun k x hx => hq x.1 ((hP k x hx).lt)), va_K.moved hvm C.2.2.2.2.2.1⟩, Nat.le_trans hS.1 hz, fun q h1 h2 => ?_⟩
    rw [hq q (Nat.lt_of_lt_of_le h1 hS.1)]
    exact hS.2.1 q h1 h2
end
theorem x_metn {l : Launch} {y : MethodName} {bytes : ByteArray} {maxL : Nat} {ret : Option FieldType} {rm : Room} {D : va_G} {cl : List vw_C} {tys : List (ClassId × FieldType)} {E : xL} {NC : Nat} {ad : Nat → Nat} {avs : List Value} {ah : AH} {o : XR} (hy : plainName y.cls = true) (hav : (lg_sl avs).length ≤ maxL) (hI : xInj ad NC) (hL : xLoc E) (hst : l.stackTraces = false)
    (body : ∀ (p : Program) (e : Env) (s : State) (m : MethodId) (args : Array Value) (below : List Frame) (meth : Method) (c : Code), XC p l s m args meth c bytes maxL ret y.cls D cl tys E NC ad → XT l s c ad NC → XW p l e rm s m args below meth c maxL 0 (xQn below args s D cl tys E NC ad o) D cl E NC ad ah 0 (lv_args 0 avs) []) : xMn l y bytes maxL ret rm D cl tys E NC ad avs ah o := by
  intro sz
  refine vx_ofW (cc := bytes) (maxL := maxL) (ret := ret) hy rfl ?_
  intro p e s m args below meth c s₁ B hml htab hv
  obtain ⟨rfl, ⟨hsz, hP, hK, hN⟩, hT⟩ := hv
  subst hsz
  have hts := atoms_spec (ws := Cond.code y bytes maxL ret :: xWs) B.pre
  have C : XC p l s m avs.toArray meth c bytes maxL ret y.cls D cl tys E NC ad := ⟨B.exec, B.bytes, hml, findClass_of_methodNamed B.named, fun w hw => hts w (List.mem_cons_of_mem _ hw), hK, hI, hL, B.returns, B.notSynchronized, hN⟩
  have hl := lv_entry avs (n := maxL) hav
  rw [lg_entry_eq]
  exact body p e s m _ below meth c C ⟨hst, hT, htab⟩ s.heap [] _ hP va_S.rf (fun _ => rfl) hl
theorem x_metx {l : Launch} {y : MethodName} {bytes : ByteArray} {maxL : Nat} {ret : Option FieldType} {rm : Room} {D : va_G} {cl : List vw_C} {tys : List (ClassId × FieldType)} {E : xL} {NC : Nat} {ad : Nat → Nat} {avs : List Value} {ah : AH} {o : XR} (hy : plainName y.cls = true) (hav : (lg_sl avs).length ≤ maxL) (hI : xInj ad NC) (hL : xLoc E) (hst : l.stackTraces = false)
    (body : ∀ (p : Program) (e : Env) (s : State) (m : MethodId) (args : Array Value) (below : List Frame) (meth : Method) (c : Code), XC p l s m args meth c bytes maxL ret y.cls D cl tys E NC ad → XT l s c ad NC → XW p l e rm s m args below meth c maxL 0 (xQx below args s D cl tys E NC ad o) D cl E NC ad ah 0 (lv_args 0 avs) []) : xMx l y bytes maxL ret rm D cl tys E NC ad avs ah o := by
  intro sz
  refine vx_ofW (cc := bytes) (maxL := maxL) (ret := ret) hy rfl ?_
  intro p e s m args below meth c s₁ B hml htab hv
  obtain ⟨rfl, ⟨hsz, hP, hK, hN⟩, hT⟩ := hv
  subst hsz
  have hts := atoms_spec (ws := Cond.code y bytes maxL ret :: xWs) B.pre
  have C : XC p l s m avs.toArray meth c bytes maxL ret y.cls D cl tys E NC ad := ⟨B.exec, B.bytes, hml, findClass_of_methodNamed B.named, fun w hw => hts w (List.mem_cons_of_mem _ hw), hK, hI, hL, B.returns, B.notSynchronized, hN⟩
  have hl := lv_entry avs (n := maxL) hav
  rw [lg_entry_eq]
  exact body p e s m _ below meth c C ⟨hst, hT, htab⟩ s.heap [] _ hP va_S.rf (fun _ => rfl) hl
