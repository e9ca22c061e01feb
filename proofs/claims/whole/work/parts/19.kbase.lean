def sq : Nat → List va_E → va_W
  | _, [] => []
  | z, e :: es => (z, e) :: sq (z + 1) es
theorem sq_get : ∀ (es : List va_E) (z k : Nat), (sq z es)[k]? = (es[k]?).map (fun e => (z + k, e))
  | [], z, k => by simp [sq]
  | e :: es, z, 0 => by simp [sq]
  | e :: es, z, k + 1 => by
    show (sq (z + 1) es)[k]? = _
    rw [sq_get es (z + 1) k]
    simp only [List.getElem?_cons_succ]
    congr 1
    funext e
    simp only [Prod.mk.injEq, and_true]
    omega
theorem sq_some {es : List va_E} {z k : Nat} {x : Nat × va_E} (h : (sq z es)[k]? = some x) : x.1 = z + k ∧ es[k]? = some x.2 := by
  rw [sq_get] at h
  cases he : es[k]? with
  | none => rw [he] at h; cases h
  | some e => rw [he] at h; cases h; exact ⟨rfl, rfl⟩
theorem sq_app : ∀ (a b : List va_E) (z : Nat), sq z (a ++ b) = sq z a ++ sq (z + a.length) b
  | [], b, z => by simp [sq]
  | e :: a, b, z => by
    show (z, e) :: sq (z + 1) (a ++ b) = (z, e) :: (sq (z + 1) a ++ sq (z + (a.length + 1)) b)
    rw [sq_app a b (z + 1), show z + 1 + a.length = z + (a.length + 1) by omega]
def KW (o : Nat) (e0 : va_E) (sz : Nat) (es : List va_E) : va_W := (o, e0) :: sq sz es
def kA (o sz : Nat) : Nat → Prop := fun q => q = o ∨ sz ≤ q
theorem KW_D {o sz : Nat} {e0 : va_E} {es : List va_E} (h : o < sz) : va_D (kA o sz) (KW o e0 sz es) := by
  refine ⟨fun i j p q hi hj e => ?_, fun k q hk => ?_⟩
  · cases i with
    | zero =>
      cases j with
      | zero => rfl
      | succ j =>
        have h1 : p = (o, e0) := (Option.some.inj hi).symm
        have h2 := sq_some (show (sq sz es)[j]? = some q from hj)
        subst h1
        exact absurd e (by rw [h2.1]; show ¬ o = sz + j; omega)
    | succ i =>
      have h1 := sq_some (show (sq sz es)[i]? = some p from hi)
      cases j with
      | zero =>
        have h2 : q = (o, e0) := (Option.some.inj hj).symm
        subst h2
        exact absurd e (by rw [h1.1]; show ¬ sz + i = o; omega)
      | succ j =>
        have h2 := sq_some (show (sq sz es)[j]? = some q from hj)
        rw [h1.1, h2.1] at e
        omega
  · cases k with
    | zero => have h1 : q = (o, e0) := (Option.some.inj hk).symm; subst h1; exact Or.inl rfl
    | succ k =>
      have h1 := sq_some (show (sq sz es)[k]? = some q from hk)
      exact Or.inr (by rw [h1.1]; omega)
def KC (p : Program) (l : Launch) (s : State) (m : MethodId) (args : Array Value) (meth : Method) (c : Code) (cc : ByteArray) (nL : Nat) (own : String) (D : va_G) (cl : List vw_C) (tys : List (ClassId × FieldType)) : Prop :=
  p.tables.exec = Jvm.exec ∧ c.code = cc ∧ c.maxLocals = nL ∧ s.vm.findClass own = some m.cls ∧ (∀ w ∈ xWs, w.before args s = true) ∧ va_K D cl tys s ∧ meth.sig.returnType = none ∧ meth.locks = false ∧ meth.name = "<init>" ∧ xNest s
def XK (p : Program) (l : Launch) (e : Env) (R : Room) (s : State) (m : MethodId) (args : Array Value) (below : List Frame) (meth : Method) (c : Code) (nL : Nat) (Q : State → Prop) (D : va_G) (cl : List vw_C) (o : Nat) (e0 : va_E) (sz : Nat) (es : List va_E) (cs sl pc : Nat) (lv : List (Nat × Value)) (st : List Value) : Prop :=
  ∀ (H : Heap) (locs : List Loc) (ls : Array Slot), va_P D cl (KW o e0 sz es) H → H.size = sz + es.length → va_S (kA o sz) s.heap H locs → s.heap.size = sz → o < sz → lv_has ls nL lv → W p l e R s m args below meth c H locs cs sl Q (F0 m pc ls st)
def kB (D : va_G) (cl : List vw_C) (tys : List (ClassId × FieldType)) (o : Nat) (e0 : va_E) (sz : Nat) (es : List va_E) (t : State) : Prop := va_P D cl (KW o e0 sz es) t.heap ∧ t.heap.size = sz + es.length ∧ va_K D cl tys t
def kPre (D : va_G) (cl : List vw_C) (tys : List (ClassId × FieldType)) (o : Nat) (e0 : va_E) (sz : Nat) (U : State) : Prop := va_P D cl [(o, e0)] U.heap ∧ U.heap.size = sz ∧ o < sz ∧ va_K D cl tys U ∧ xNest U
abbrev kQ (below : List Frame) (args : Array Value) (s : State) (D : va_G) (cl : List vw_C) (tys : List (ClassId × FieldType)) (o : Nat) (e1 : va_E) (sz : Nat) (es1 : List va_E) (mc ms : Nat) : State → Prop := MQ below (va_Qv (fun _ : Unit => True) (fun _ t => kB D cl tys o e1 sz es1 t) (kA o sz)) args s mc ms (kA o sz)
/-- a constructor: from the blank object at o, with sz cells before, to the object e1 and the cells es1 from sz on -/
def xMk (l : Launch) (y : MethodName) (bytes : ByteArray) (maxL : Nat) (rm : Room) (D : va_G) (cl : List vw_C) (tys : List (ClassId × FieldType)) (avs : List Value) (o : Nat) (e0 : va_E) (sz : Nat) (e1 : va_E) (es1 : List va_E) : Prop :=
  Met l y (Cond.code y bytes maxL none :: xWs) rm (va_Pc avs (kPre D cl tys o e0 sz)) (va_Qv (fun _ : Unit => True) (fun _ t => kB D cl tys o e1 sz es1 t) (kA o sz)) rm.cells rm.slots (kA o sz)
theorem kPre_blind {D : va_G} {cl : List vw_C} {tys : List (ClassId × FieldType)} {o : Nat} {e0 : va_E} {sz : Nat} {avs : List Value} : FrameBlind (va_Pc avs (kPre D cl tys o e0 sz)) := by
  intro a U g mk q
  obtain ⟨q0, q1, q2, q3, qK, qN⟩ := q
  exact ⟨q0, q1, q2, q3, va_K.moved (u := U) (U := U.calling g mk a) (Vm.Alike.refl U.vm) qK, fun w hw => va_Nw.same rfl rfl (qN w hw)⟩
section
variable {p : Program} {l : Launch} {e : Env} {R : Room} {s : State} {m : MethodId} {args : Array Value} {below : List Frame} {meth : Method} {c : Code} {cc : ByteArray} {nL : Nat} {own : String} {D : va_G} {cl : List vw_C} {tys : List (ClassId × FieldType)} {Q : State → Prop} {o sz cs sl pc : Nat} {e0 : va_E} {es : List va_E} {lv : List (Nat × Value)} {st : List Value}
theorem k_aload_n (C : KC p l s m args meth c cc nL own D cl tys) {k : Fin 4} (hd : decode cc pc = .ok (.aload_n k, 1)) (pc' : Nat) (hp : pc + 1 = pc') (j : Nat) {x : Nat} (hj : lv[j]? = some (k.val, .ref x)) (kk : XK p l e R s m args below meth c nL Q D cl o e0 sz es cs sl (pc') lv (.ref x :: st)) : XK p l e R s m args below meth c nL Q D cl o e0 sz es cs sl pc lv st := by
  intro H locs ls hP hz hS hss ho hl
  subst hp
  exact lv_aload_n C.1 C.2.1 hd rfl (lv_at hl j hj) (kk H locs ls hP hz hS hss ho hl)
theorem k_aload (C : KC p l s m args meth c cc nL own D cl tys) {k : Nat} (hd : decode cc pc = .ok (.aload k, 2)) (pc' : Nat) (hp : pc + 2 = pc') (j : Nat) {x : Nat} (hj : lv[j]? = some (k, .ref x)) (kk : XK p l e R s m args below meth c nL Q D cl o e0 sz es cs sl (pc') lv (.ref x :: st)) : XK p l e R s m args below meth c nL Q D cl o e0 sz es cs sl pc lv st := by
  intro H locs ls hP hz hS hss ho hl
  subst hp
  exact lv_aload C.1 C.2.1 hd (lv_at hl j hj) (kk H locs ls hP hz hS hss ho hl)
theorem k_iconst (C : KC p l s m args meth c cc nL own D cl tys) {n : Int} (hd : decode cc pc = .ok (.iconst n, 1)) (pc' : Nat) (hp : pc + 1 = pc') (v : Int32) (hv : Int32.ofInt n = v) (kk : XK p l e R s m args below meth c nL Q D cl o e0 sz es cs sl (pc') lv (.int v :: st)) : XK p l e R s m args below meth c nL Q D cl o e0 sz es cs sl pc lv st := by
  intro H locs ls hP hz hS hss ho hl
  subst hp
  exact lv_iconst C.1 C.2.1 hd hv (kk H locs ls hP hz hS hss ho hl)
theorem k_bipush (C : KC p l s m args meth c cc nL own D cl tys) {n : Int} (hd : decode cc pc = .ok (.bipush n, 2)) (pc' : Nat) (hp : pc + 2 = pc') (v : Int32) (hv : (Int8.ofInt n).toInt32 = v) (kk : XK p l e R s m args below meth c nL Q D cl o e0 sz es cs sl (pc') lv (.int v :: st)) : XK p l e R s m args below meth c nL Q D cl o e0 sz es cs sl pc lv st := by
  intro H locs ls hP hz hS hss ho hl
  subst hp
  exact lv_bipush C.1 C.2.1 hd hv (kk H locs ls hP hz hS hss ho hl)
theorem k_sipush (C : KC p l s m args meth c cc nL own D cl tys) {n : Int} (hd : decode cc pc = .ok (.sipush n, 3)) (pc' : Nat) (hp : pc + 3 = pc') (v : Int32) (hv : (Int16.ofInt n).toInt32 = v) (kk : XK p l e R s m args below meth c nL Q D cl o e0 sz es cs sl (pc') lv (.int v :: st)) : XK p l e R s m args below meth c nL Q D cl o e0 sz es cs sl pc lv st := by
  intro H locs ls hP hz hS hss ho hl
  subst hp
  exact lv_sipush C.1 C.2.1 hd hv (kk H locs ls hP hz hS hss ho hl)
theorem k_dup (C : KC p l s m args meth c cc nL own D cl tys) {v : Value} (hd : decode cc pc = .ok (.dup, 1)) (pc' : Nat) (hp : pc + 1 = pc') (hv : v.category = 1) (kk : XK p l e R s m args below meth c nL Q D cl o e0 sz es cs sl (pc') lv (v :: v :: st)) : XK p l e R s m args below meth c nL Q D cl o e0 sz es cs sl pc lv (v :: st) := by
  intro H locs ls hP hz hS hss ho hl
  subst hp
  exact lv_dup C.1 C.2.1 hd hv (kk H locs ls hP hz hS hss ho hl)
theorem k_oinit (C : KC p l s m args meth c cc nL own D cl tys) {ix a : Nat} (hlink : Cond.methodLink own ix Lib.objectInit ∈ xWs) (hd : decode cc pc = .ok (.invokespecial ix, 3)) (pc' : Nat) (hp : pc + 3 = pc') (hR : 1 ≤ R.frames ∧ (st.map fun v => v.category).sum + 12 ≤ R.locals) (kk : XK p l e R s m args below meth c nL Q D cl o e0 sz es cs sl (pc') lv st) : XK p l e R s m args below meth c nL Q D cl o e0 sz es cs sl pc lv (.ref a :: st) := by
  intro H locs ls hP hz hS hss ho hl
  subst hp
  refine W.objInit C.1 C.2.1 C.2.2.2.1 (C.2.2.2.2.1 _ hlink) (C.2.2.2.2.1 _ wmi_java_lang_Object_init) (C.2.2.2.2.1 _ wmc_java_lang_Object_init) rfl (by rw [C.2.2.1]; exact hl.1) rfl hd hR.1 (by show 2 * 0 + _ + 12 ≤ _; omega) ?_
  exact kk H locs ls hP hz hS hss ho hl
theorem k_newa (C : KC p l s m args meth c cc nL own D cl tys) {atype : ArrayType} {cA : ClassId} (t0 : Nat) (ht : tys[t0]? = some (cA, newarray.typeOf atype)) (hnm : va_RA s cA (newarray.typeOf atype) → s.vm.findClass ("[" ++ (newarray.typeOf atype).toString) = some cA) (harr : Cond.arrayClass (newarray.typeOf atype) ∈ xWs) {n : Int32} (N : Nat) {a0 : vp_A} (ha : ∀ cA : ClassId, vp_cell cA a0 = arrV cA N (fun _ => defaultValue (newarray.typeOf atype))) (hn : ¬ n < 0) (hN : n.toNatClampNeg = N) (hb : N * componentBytes (newarray.typeOf atype) ≤ 536870912) (hR : cs + 1 ≤ R.cells ∧ sl + N ≤ R.slots) (hd : decode cc pc = .ok (.newarray atype, 2)) (pc' : Nat) (hp : pc + 2 = pc') (q : Nat) (hq : sz + es.length = q) (kk : XK p l e R s m args below meth c nL Q D cl o e0 sz (es ++ [.inl (cA, a0)]) (cs + 1) (sl + N) (pc') lv (.ref q :: st)) : XK p l e R s m args below meth c nL Q D cl o e0 sz es cs sl pc lv (.int n :: st) := by
  intro H locs ls hP hz hS hss ho hl
  subst hp
  subst hq
  refine va_newaK C.1 C.2.1 (C.2.2.2.2.1 _ harr) rfl hd rfl hn hN hb hR.1 hR.2 hz (fun H1 cA1 e1 z1 o1 hAr hNm => ?_)
  have hcA : cA1 = cA := Option.some.inj (hNm.symm.trans (hnm ((C.2.2.2.2.2.1.2 t0 _ ht).2)))
  subst hcA
  have hold : va_P D cl (KW o e0 sz es) H1 := hP.kept (fun k x hx => o1 x.1 (by have := (hP k x hx).lt; omega))
  have hP1 : va_P D cl (KW o e0 sz (es ++ [.inl (cA1, a0)])) H1 := by
    unfold KW
    rw [sq_app, ← List.cons_append]
    refine hold.app (fun k x hx => ?_)
    have hk := sq_some hx
    cases k with
    | zero =>
      obtain ⟨x1, x2⟩ := x
      obtain ⟨k1, k2⟩ := hk
      cases k2
      show H1[x1]? = some (vp_cell cA1 a0)
      have k1' : x1 = sz + es.length := k1
      rw [k1', ha]
      exact e1
    | succ k => exact absurd hk.2 (by simp)
  refine kk H1 locs ls hP1 (by rw [z1, List.length_append]; rfl) ⟨by have := hS.1; omega, fun q h1 h2 => ?_, hS.2.2⟩ hss ho hl
  rw [o1 q (by omega)]
  exact hS.2.1 q h1 h2
theorem k_putF (C : KC p l s m args meth c cc nL own D cl tys) {C0 : String} {ty0 : Nat → FieldType} {T : u_T} {N ci ix : Nat} (hin : ∀ w ∈ u_ws C0 T N, w ∈ xWs) (hty : ∀ k, k < N → parseFieldDescriptor (T k).2.2.1 = some (ty0 k)) (hnm : ∀ a, a < N → ∀ b, b < N → a ≠ b → (T a).2.1 ≠ (T b).2.1) {fs : List Value} (hc : cl[ci]? = some (C0, T, N)) (j : Nat) (hj : j < N) (hlink : Cond.fieldLink own ix (T j).1 (T j).2.1 (T j).2.2.1 ∈ xWs) {v : Value} (hfin : (T j).2.2.2 = true) (hdecl : (T j).1 = own) (hn : narrow (ty0 j) v = v) (hfit : fits (ty0 j) v = true) (hlen : j < fs.length) (hd : decode cc pc = .ok (.putfield ix, 3)) (pc' : Nat) (hp : pc + 3 = pc') (fs' : List Value) (hfs : fs.set j v = fs') (kk : XK p l e R s m args below meth c nL Q D cl o (Sum.inr (ci, fs')) sz es cs sl (pc') lv st) : XK p l e R s m args below meth c nL Q D cl o (Sum.inr (ci, fs)) sz es cs sl pc lv (v :: .ref o :: st) := by
  intro H locs ls hP hz hS hss ho hl
  subst hp
  subst hfs
  have hts := C.2.2.2.2.1
  have hK := C.2.2.2.2.2.1
  have hap := va_apart (own := own) hts hin ty0 hty hnm hK hc
  obtain ⟨r, h1, cell, q1, q2, q3, q4⟩ := hP 0 _ rfl
  have hr : r = (C0, T, N) := Option.some.inj (h1.symm.trans hc)
  subst hr
  obtain ⟨hSl, hfc, kC, hkC, hkind⟩ := hK.1 ci _ hc
  obtain ⟨cf, kf, fi, f, hi, hsl⟩ := hSl j hj
  have hlay := hts _ (hin _ (u_in_lay hj))
  unfold u_lay at hlay
  rw [if_pos hfin] at hlay
  have hst := (u_facts hfc hkC (u_lays hts hin hj) hi).1
  have hcf : m.cls = cf := by
    obtain ⟨_, _, c', _, _, _, -, -, hf', -, -, -, hown2, -⟩ := Cond.laysFinal_spec hlay
    have e1 : c' = cf := by have := hi.symm.trans hf'; simp at this; exact this.1.symm
    rw [hdecl] at hown2
    rw [← e1]; exact Option.some.inj (C.2.2.2.1.symm.trans hown2)
  have h6 := u_fits hfc hkC hkind (Or.inr hlay) hi (hty j hj) hn hfit
  refine W.putFinK C.1 C.2.1 C.2.2.2.1 (hts _ hlink) hi hst hcf C.2.2.2.2.2.2.2.2.1 (by rw [q2]; exact h6) q1 q3 (by rw [hsl]; exact k2_hasslot (q4 j hj)) rfl rfl hd fun H1 e1 e2 e3 => ?_
  have hP0 : va_P D cl (KW o (Sum.inr (ci, fs)) sz es) H := hP
  rw [hsl] at e1
  have hP1 : va_P D cl (KW o (Sum.inr (ci, fs.set j v)) sz es) H1 := hP0.set (KW_D ho) (p := 0) rfl ⟨_, hc, t_OB.to (V := updV (vp_V fs) j v) ⟨_, e1, q2, q3, t_set q4 hap hj v⟩ (fun i _ => vp_updV_set hlen v i)⟩ e3
  exact kk H1 _ ls hP1 (by rw [e2]; exact hz) (hS.put e2 e3 (Or.inl rfl)) hss ho hl
theorem k_put (C : KC p l s m args meth c cc nL own D cl tys) {C0 : String} {ty0 : Nat → FieldType} {T : u_T} {N ci ix : Nat} (hin : ∀ w ∈ u_ws C0 T N, w ∈ xWs) (hty : ∀ k, k < N → parseFieldDescriptor (T k).2.2.1 = some (ty0 k)) (hnm : ∀ a, a < N → ∀ b, b < N → a ≠ b → (T a).2.1 ≠ (T b).2.1) {fs : List Value} (hc : cl[ci]? = some (C0, T, N)) (j : Nat) (hj : j < N) (hlink : Cond.fieldLink own ix (T j).1 (T j).2.1 (T j).2.2.1 ∈ xWs) {v : Value} (hfin : (T j).2.2.2 = false) (hn : narrow (ty0 j) v = v) (hfit : fits (ty0 j) v = true) (hlen : j < fs.length) (hd : decode cc pc = .ok (.putfield ix, 3)) (pc' : Nat) (hp : pc + 3 = pc') (fs' : List Value) (hfs : fs.set j v = fs') (kk : XK p l e R s m args below meth c nL Q D cl o (Sum.inr (ci, fs')) sz es cs sl (pc') lv st) : XK p l e R s m args below meth c nL Q D cl o (Sum.inr (ci, fs)) sz es cs sl pc lv (v :: .ref o :: st) := by
  intro H locs ls hP hz hS hss ho hl
  subst hp
  subst hfs
  have hts := C.2.2.2.2.1
  have hK := C.2.2.2.2.2.1
  have hap := va_apart (own := own) hts hin ty0 hty hnm hK hc
  obtain ⟨r, h1, cell, q1, q2, q3, q4⟩ := hP 0 _ rfl
  have hr : r = (C0, T, N) := Option.some.inj (h1.symm.trans hc)
  subst hr
  obtain ⟨hSl, hfc, kC, hkC, hkind⟩ := hK.1 ci _ hc
  obtain ⟨cf, kf, fi, f, hi, hsl⟩ := hSl j hj
  have hlay := hts _ (hin _ (u_in_lay hj))
  unfold u_lay at hlay
  rw [if_neg (by rw [hfin]; decide)] at hlay
  have hst := (u_facts hfc hkC (u_lays hts hin hj) hi).1
  have h6 := u_store hfc hkC hkind hlay hi (hty j hj) hn hfit
  refine W.putK C.1 C.2.1 (f := f) ⟨C.2.2.2.1, hts _ hlink, ⟨_, _, _, hi⟩, hst⟩ (by rw [q2]; exact h6) q1 q3 (by rw [hsl]; exact k2_hasslot (q4 j hj)) rfl rfl hd fun H1 e1 e2 e3 => ?_
  have hP0 : va_P D cl (KW o (Sum.inr (ci, fs)) sz es) H := hP
  rw [hsl] at e1
  have hP1 : va_P D cl (KW o (Sum.inr (ci, fs.set j v)) sz es) H1 := hP0.set (KW_D ho) (p := 0) rfl ⟨_, hc, t_OB.to (V := updV (vp_V fs) j v) ⟨_, e1, q2, q3, t_set q4 hap hj v⟩ (fun i _ => vp_updV_set hlen v i)⟩ e3
  exact kk H1 _ ls hP1 (by rw [e2]; exact hz) (hS.put e2 e3 (Or.inl rfl)) hss ho hl
theorem k_get (C : KC p l s m args meth c cc nL own D cl tys) {C0 : String} {T : u_T} {N ci ix : Nat} (hin : ∀ w ∈ u_ws C0 T N, w ∈ xWs) {fs : List Value} (hc : cl[ci]? = some (C0, T, N)) (j : Nat) (hj : j < N) (hlink : Cond.fieldLink own ix (T j).1 (T j).2.1 (T j).2.2.1 ∈ xWs) (hd : decode cc pc = .ok (.getfield ix, 3)) (pc' : Nat) (hp : pc + 3 = pc') {v : Value} (hv : fs[j]? = some v) (kk : XK p l e R s m args below meth c nL Q D cl o (Sum.inr (ci, fs)) sz es cs sl (pc') lv (v :: st)) : XK p l e R s m args below meth c nL Q D cl o (Sum.inr (ci, fs)) sz es cs sl pc lv (.ref o :: st) := by
  intro H locs ls hP hz hS hss ho hl
  subst hp
  exact va_get C.1 C.2.1 C.2.2.2.2.1 hin C.2.2.2.1 C.2.2.2.2.2.1 hP 0 rfl hc j hj (C.2.2.2.2.1 _ hlink) (fun _ h => h) hv hd (kk H locs ls hP hz hS hss ho hl)
theorem k_vret (C : KC p l s m args meth c cc nL own D cl tys) (hd : decode cc pc = .ok (.return_, 1)) {mc ms : Nat} (h1 : cs = mc) (h2 : sl = ms) : XK p l e R s m args below meth c nL (kQ below args s D cl tys o e0 sz es mc ms) D cl o e0 sz es cs sl pc lv ([]) := by
  intro H locs ls hP hz hS hss ho hl
  subst h1
  subst h2
  exact W.vret C.1 C.2.1 C.2.2.2.2.2.2.1 (fun t ht hW => ⟨⟨(), rfl, trivial, by rw [ht]; exact hP, by rw [ht]; exact hz, va_K.moved hW.alike C.2.2.2.2.2.1⟩, hS.F ht⟩) hS.2.2 hd C.2.2.2.2.2.2.2.1
theorem k_new (C : KC p l s m args meth c cc nL own D cl tys) {C0 : String} {T : u_T} {N ci ix : Nat} (ty : Nat → FieldType) (hin : ∀ w ∈ u_ws C0 T N, w ∈ xWs) (hty : ∀ k, k < N → parseFieldDescriptor (T k).2.2.1 = some (ty k)) (hcl : Cond.classLink own ix C0 ∈ xWs) (hinst : Cond.instantiable C0 N ∈ xWs) (hini : Cond.initialized C0 ∈ xWs) (hc : cl[ci]? = some (C0, T, N)) (fs : List Value) (hfs : ∀ j, j < N → defaultValue (ty j) = vp_V fs j) (hR : cs + 1 ≤ R.cells ∧ sl + N ≤ R.slots) (hd : decode cc pc = .ok (.new ix, 3)) (pc' : Nat) (hp : pc + 3 = pc') (q : Nat) (hq : sz + es.length = q) (kk : XK p l e R s m args below meth c nL Q D cl o e0 sz (es ++ [Sum.inr (ci, fs)]) (cs + 1) (sl + N) (pc') lv (.ref q :: st)) : XK p l e R s m args below meth c nL Q D cl o e0 sz es cs sl pc lv st := by
  intro H locs ls hP hz hS hss ho hl
  subst hp
  subst hq
  have hts := C.2.2.2.2.1
  have hKn := C.2.2.2.2.2.1.1 ci _ hc
  have hA : ∀ q, s.heap.size ≤ q → kA o sz q := fun q h => Or.inr (by omega)
  have hw : ∀ H1 : Heap, H1.size = H.size + 1 → va_P D cl (KW o e0 sz es ++ [(sz + es.length, Sum.inr (ci, fs))]) H1 → va_S (kA o sz) s.heap H1 locs → W p l e R s m args below meth c H1 locs (cs + 1) (sl + N) Q (F0 m (pc + 3) ls (.ref (sz + es.length) :: st)) := by
    intro H1 z1 hP1 hS1
    have hP2 : va_P D cl (KW o e0 sz (es ++ [Sum.inr (ci, fs)])) H1 := by
      unfold KW
      rw [sq_app, ← List.cons_append]
      exact hP1
    exact kk H1 locs ls hP2 (by rw [z1, hz, List.length_append]; rfl) hS1 hss ho hl
  refine W.newcK C.1 C.2.1 C.2.2.2.1 (hts _ hcl) (hts _ hinst) (hts _ hini) rfl hd hR.1 hR.2 hKn.2.1 hz fun H1 kC hkC e1 z1 o1 => ?_
  refine hw H1 (by rw [z1, hz]) ((hP.kept (fun k x hx => o1 x.1 (by have := (hP k x hx).lt; omega))).app (fun k x hx => ?_)) ⟨by have := hS.1; omega, fun x h1 h2 => (o1 x (by omega)).trans (hS.2.1 x h1 h2), hS.2.2⟩
  have hk1 : k < 1 := (List.getElem?_eq_some_iff.mp hx).1
  rw [show k = 0 by omega] at hx
  cases hx
  exact ⟨_, hc, (u_born ty hts hin hKn hkC e1 hty).to hfs⟩
theorem k_callI (C : KC p l s m args meth c cc nL own D cl tys) {y : MethodName} {bytes : ByteArray} {maxL n ix : Nat} {rm : Room} {As : List Value} (j oj zz : Nat) {eb e1 : va_E} {es1 : List va_E} (hM : xMk l y bytes maxL rm D cl tys (.ref oj :: As) oj eb zz e1 es1) (hj : es[j]? = some eb) (hoj : sz + j = oj) (hzz : sz + es.length = zz) (hlink : Cond.methodLink own ix y ∈ xWs) (hinst : Cond.instanceMethod y ∈ xWs) (hini : Cond.initialized y.cls ∈ xWs) (hcode : Cond.code y bytes maxL none ∈ xWs) (hy : y.name = "<init>") (hd0 : y.cls ≠ "java/lang/invoke/MethodHandle" ∧ y.cls ≠ "java/lang/invoke/VarHandle" ∧ (parseMethodDescriptor y.desc).map (fun d => d.parameters.length) = some n) (hn : As.length = n) (hR : rm.frames + 1 ≤ R.frames ∧ 8 + (maxL + 11) + rm.locals ≤ R.locals) (hcs : cs + rm.cells ≤ R.cells ∧ sl + rm.slots ≤ R.slots) (hd : decode cc pc = .ok (.invokespecial ix, 3)) (pc' : Nat) (hp : pc + 3 = pc') {st0 : List Value} (hst : st0 = As.reverse ++ .ref oj :: st) (hcat : (st.map fun v => v.category).sum ≤ 8) (es' : List va_E) (hes : es.set j e1 ++ es1 = es') (cs' sl' : Nat) (hcs1 : cs + rm.cells = cs') (hsl1 : sl + rm.slots = sl') (kk : XK p l e R s m args below meth c nL Q D cl o e0 sz (es') (cs') (sl') (pc') lv st) : XK p l e R s m args below meth c nL Q D cl o e0 sz es cs sl pc lv st0 := by
  intro H locs ls hP hz hS hss ho hl
  subst hp
  subst hoj
  subst hzz
  subst hes
  subst hcs1
  subst hsl1
  have hjl : j < es.length := (List.getElem?_eq_some_iff.mp hj).1
  have cb := callB_of (R := R) (own := own) (index := ix) (ws := Cond.code y bytes maxL none :: xWs) (ws' := xWs) (rm := rm) (mc := rm.cells) (ms := rm.slots) n C.2.2.2.2.1 (xGood y bytes maxL none hcode) rfl rfl rfl (C.2.2.2.2.1 _ hini) (C.2.2.2.2.1 _ hlink) hd0 hR
  have hPj : va_P D cl [(sz + j, eb)] H := fun k x hx => by
    have hk1 : k < 1 := (List.getElem?_eq_some_iff.mp hx).1
    rw [show k = 0 by omega] at hx
    cases hx
    exact hP (j + 1) _ (by show (sq sz es)[j]? = _; rw [sq_get, hj]; rfl)
  refine va_callv (va_runI (As := As) (rest := st) ⟨C.1, C.2.1, C.2.2.1, C.2.2.2.1, C.2.2.2.2.1⟩ hM ⟨cb, hy, C.2.2.2.2.1 _ hinst⟩ ⟨kPre_blind, fun U hU hW => ⟨rfl, by rw [hU]; exact hPj, by rw [hU]; exact hz, by omega, va_K.moved hW.alike C.2.2.2.2.2.1, C.2.2.2.2.2.2.2.2.2.warm hW⟩⟩ rfl hn hl.1 hst (lv_room hcat) hd hcs) hS (fun q _ h => ?_) (fun q h => ?_) (fun u t H1 locs1 ht hvm _ hB hz1 hk1 hS1 => ?_)
  · rcases h with rfl | h
    · exact Or.inr (by omega)
    · exact Or.inr (by omega)
  · rcases h with rfl | h
    · exact Or.inr (by omega)
    · exact Or.inr (by omega)
  · obtain ⟨hB1, hB2, -⟩ := hB
    rw [ht] at hB1 hB2
    have hkeep : ∀ q : Nat, q < sz + es.length → q ≠ sz + j → H1[q]? = H[q]? := fun q h1 h2 => hk1 q (by omega) (fun h => by
      rcases h with h | h
      · exact h2 h
      · omega)
    have hP1 : va_P D cl (KW o e0 sz (es.set j e1 ++ es1)) H1 := by
      intro k x hx
      cases k with
      | zero => exact (hP 0 x hx).kept (by cases hx; exact hkeep o (by omega) (by omega))
      | succ k =>
        have hx0 : (sq sz (es.set j e1 ++ es1))[k]? = some x := hx
        obtain ⟨a1, a2⟩ := sq_some hx0
        by_cases hk : k < es.length
        · rw [List.getElem?_append_left (by rw [List.length_set]; exact hk)] at a2
          by_cases hkj : k = j
          · subst hkj
            rw [List.getElem?_set_self hk] at a2
            obtain ⟨x1, x2⟩ := x
            cases a2
            have a1' : x1 = sz + k := a1
            subst a1'
            exact hB1 0 _ rfl
          · rw [List.getElem?_set_ne (fun q => hkj q.symm)] at a2
            have hx1 : (KW o e0 sz es)[k + 1]? = some x := by
              show (sq sz es)[k]? = _
              rw [sq_get, a2]
              obtain ⟨x1, x2⟩ := x
              have a1' : x1 = sz + k := a1
              subst a1'
              rfl
            exact (hP (k + 1) x hx1).kept (by rw [a1]; exact hkeep _ (by omega) (by omega))
        · rw [List.getElem?_append_right (by rw [List.length_set]; omega), List.length_set] at a2
          have hx1 : (KW (sz + j) e1 (sz + es.length) es1)[(k - es.length) + 1]? = some x := by
            show (sq (sz + es.length) es1)[k - es.length]? = _
            rw [sq_get, a2]
            obtain ⟨x1, x2⟩ := x
            have a1' : x1 = sz + k := a1
            subst a1'
            show some (sz + es.length + (k - es.length), x2) = _
            rw [show sz + es.length + (k - es.length) = sz + k by omega]
          exact hB1 _ x hx1
    exact kk H1 locs1 ls hP1 (by rw [hB2, List.length_append, List.length_set]; omega) hS1 hss ho hl
end
theorem k_met {l : Launch} {y : MethodName} {bytes : ByteArray} {maxL : Nat} {rm : Room} {D : va_G} {cl : List vw_C} {tys : List (ClassId × FieldType)} {avs : List Value} {o sz : Nat} {e0 e1 : va_E} {es1 : List va_E} (hy : plainName y.cls = true) (hav : (lg_sl avs).length ≤ maxL)
    (body : ∀ (p : Program) (e : Env) (s : State) (m : MethodId) (args : Array Value) (below : List Frame) (meth : Method) (c : Code), KC p l s m args meth c bytes maxL y.cls D cl tys → y.name = "<init>" → XK p l e rm s m args below meth c maxL (kQ below args s D cl tys o e1 sz es1 rm.cells rm.slots) D cl o e0 sz [] 0 0 0 (lv_args 0 avs) []) (hn : y.name = "<init>") : xMk l y bytes maxL rm D cl tys avs o e0 sz e1 es1 := by
  refine Met.ofW (cc := bytes) (maxL := maxL) (ret := none) hy rfl ?_
  intro p e s m args below meth c s₁ B hml hv
  obtain ⟨rfl, hP, hz, ho, hK, hN⟩ := hv
  have hts := atoms_spec (ws := Cond.code y bytes maxL none :: xWs) B.pre
  have C : KC p l s m avs.toArray meth c bytes maxL y.cls D cl tys := ⟨B.exec, B.bytes, hml, findClass_of_methodNamed B.named, fun w hw => hts w (List.mem_cons_of_mem _ hw), hK, B.returns, B.notSynchronized, by rw [(name_of_methodNamed B.named B.method).1]; exact hn, hN⟩
  have hl := lv_entry avs (n := maxL) hav
  rw [lg_entry_eq]
  exact body p e s m _ below meth c C hn s.heap [] _ hP (by rw [hz]; rfl) va_S.rf hz ho hl
