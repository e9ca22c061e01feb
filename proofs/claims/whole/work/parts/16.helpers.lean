/-- at pc the exception X is caught, at hpc -/
def xCt (s : State) (args : Array Value) (c : Code) (own : String) (pc : Nat) (X : String) (hpc : Nat) : Prop := ∃ (pre : List ExceptionTableEntry) (x : ExceptionTableEntry) (suf : List ExceptionTableEntry) (name : String), c.exceptionTable.toList = pre ++ x :: suf ∧ (∀ z ∈ pre, covers z pc = false ∨ (z.catchType ≠ 0 ∧ ∃ nm : String, (Cond.classLink own z.catchType nm).before args s = true ∧ va_Nc X nm s)) ∧ covers x pc = true ∧ x.catchType ≠ 0 ∧ (Cond.classLink own x.catchType name).before args s = true ∧ (Cond.castable X name).before args s = true ∧ x.handlerPc = hpc
abbrev xQh (below : List Frame) (args : Array Value) (s : State) (D : va_G) (cl : List vw_C) (tys : List (ClassId × FieldType)) (E : xL) (NC : Nat) (ad : Nat → Nat) (o : Int32 × AH) : State → Prop :=
  vx_MQ below (va_Qi (fun r u => r = o.1 ∧ u = o.2) (xB D cl tys E NC ad) (xA ad NC s.heap.size)) (vx_X (fun _ : Unit => False) (fun _ _ _ => True) (xA ad NC s.heap.size)) args s 3 18 (xA ad NC s.heap.size)
def xMh (l : Launch) (y : MethodName) (bytes : ByteArray) (maxL : Nat) (hh : List (Nat × Nat × Nat × Nat)) (rm : Room) (D : va_G) (cl : List vw_C) (tys : List (ClassId × FieldType)) (E : xL) (NC : Nat) (ad : Nat → Nat) (avs : List Value) (ah : AH) (o : Int32 × AH) : Prop :=
  ∀ sz : Nat, vx_Met l y (Cond.codeWith y bytes maxL (some .int) hh :: xWs) rm (va_Pc avs (xPreT D cl tys E NC ad ah sz)) (va_Qi (fun r u => r = o.1 ∧ u = o.2) (xB D cl tys E NC ad) (xA ad NC sz)) (vx_X (fun _ : Unit => False) (fun _ _ _ => True) (xA ad NC sz)) 3 18 (xA ad NC sz)
/-- a call that may throw, among handlers: what comes of its three ends -/
def xbh (x : Option XR) (f : Int32 → AH → Option (Int32 × AH)) (g1 g2 : AH → Option (Int32 × AH)) : Option (Int32 × AH) := match x with
  | none => none
  | some q => if q.1 = 0 then f q.2.1 q.2.2 else if q.1 = 1 then g1 q.2.2 else if q.1 = 2 then g2 q.2.2 else none
theorem xbh_some {x : Option XR} {f : Int32 → AH → Option (Int32 × AH)} {g1 g2 : AH → Option (Int32 × AH)} {o : Int32 × AH} (h : xbh x f g1 g2 = some o) : ∃ k r a, x = some (k, r, a) ∧ (k = 0 → f r a = some o) ∧ (k = 1 → g1 a = some o) ∧ (k = 2 → g2 a = some o) := by
  cases x with
  | none => cases h
  | some q =>
    refine ⟨q.1, q.2.1, q.2.2, rfl, fun e => ?_, fun e => ?_, fun e => ?_⟩
    · unfold xbh at h; simp only [e, if_true] at h; exact h
    · unfold xbh at h; simp only [e] at h; simpa using h
    · unfold xbh at h; simp only [e] at h; simpa using h
section
variable {p : Program} {l : Launch} {e : Env} {R : Room} {s : State} {m : MethodId} {args : Array Value} {below : List Frame} {meth : Method} {c : Code} {cc : ByteArray} {nL : Nat} {ret : Option FieldType} {own : String} {D : va_G} {cl : List vw_C} {tys : List (ClassId × FieldType)} {E : xL} {NC : Nat} {ad : Nat → Nat} {Q : State → Prop} {ah : AH} {pc cn : Nat} {lv : List (Nat × Value)} {st : List Value}
theorem x_iretH (C : XC p l s m args meth c cc nL ret own D cl tys E NC ad) (hr : ret = some .int) (hcn : cn ≤ 3) (hd : decode cc pc = .ok (.ireturn, 1)) {v : Int32} {o : Int32 × AH} (h : some (v, ah) = some o) : XW p l e R s m args below meth c nL cn (xQh below args s D cl tys E NC ad o) D cl E NC ad ah pc lv ([.int v]) := by
  intro H locs ls hP hS hz hl
  cases h
  subst hr
  refine W.widen (k := 3) (n := 18) hcn (by omega) (vx_ret ?_)
  exact W.iret C.1 C.2.1 C.2.2.2.2.2.2.2.2.1 (fun t ht hW => ⟨⟨v, ah, rfl, ⟨rfl, rfl⟩, by rw [ht]; exact hP, va_K.moved hW.alike C.2.2.2.2.2.1⟩, hS.F ht⟩) hS.2.2 hd C.2.2.2.2.2.2.2.2.2.1
theorem x_i2l (C : XC p l s m args meth c cc nL ret own D cl tys E NC ad) {x : Int32} (hd : decode cc pc = .ok (.i2l, 1)) (pc' : Nat) (hp : pc + 1 = pc') (kk : XW p l e R s m args below meth c nL cn Q D cl E NC ad ah pc' lv (.long x.toInt64 :: st)) : XW p l e R s m args below meth c nL cn Q D cl E NC ad ah pc lv (.int x :: st) := by
  intro H locs ls hP hS hz hl
  subst hp
  exact lv_i2l C.1 C.2.1 hd rfl (kk H locs ls hP hS hz hl)
theorem x_lconst (C : XC p l s m args meth c cc nL ret own D cl tys E NC ad) {n : Fin 2} (x : Int32) (hx : Int64.ofNat (n : Nat) = x.toInt64) (hd : decode cc pc = .ok (.lconst n, 1)) (pc' : Nat) (hp : pc + 1 = pc') (kk : XW p l e R s m args below meth c nL cn Q D cl E NC ad ah pc' lv (.long x.toInt64 :: st)) : XW p l e R s m args below meth c nL cn Q D cl E NC ad ah pc lv st := by
  intro H locs ls hP hS hz hl
  subst hp
  exact lv_lconst C.1 C.2.1 hd hx (kk H locs ls hP hS hz hl)
theorem x_last (C : XC p l s m args meth c cc nL ret own D cl tys E NC ad) {x : Int32} {cA : ClassId} (k : Nat) (hk : k < NC) (hE : ∀ ah : AH, E ah k = .inl (cA, 1, .inr (.inl (fun j => (ah k j).toInt64)))) (t0 : Nat) (ht : tys[t0]? = some (cA, .long)) (hd : decode cc pc = .ok (.lastore, 1)) (pc' : Nat) (hp : pc + 1 = pc') {α : Type} {f : AH → Option α} {o : α} (hcn : ¬ cn = 0) (h : xlet (xu ah k 0 x) f = some o) (kk : ∀ ah1, f ah1 = some o → XW p l e R s m args below meth c nL cn Q D cl E NC ad ah1 pc' lv st) : XW p l e R s m args below meth c nL cn Q D cl E NC ad ah pc lv (.long x.toInt64 :: .int 0 :: .ref (ad k) :: st) := by
  intro H locs ls hP hS hz hl
  subst hp
  refine va_last C.1 C.2.1 C.2.2.2.2.2.1 hP (xw_D C.2.2.2.2.2.2.1) hS k t0 (xw_get hk (hE ah)) ht (show vp_in 0 1 from (show ¬ ((0 : Int32) < 0 ∨ 1 ≤ Int32.toNatClampNeg 0) by decide)) hd (fun H1 locs1 hP1 _ hS1 => ?_)
  have he : E (xu ah k 0 x) k = .inl (cA, 1, .inr (.inl (vp_updL (fun j => (ah k j).toInt64) (Int32.toNatClampNeg 0) x.toInt64))) := by
    rw [hE]
    congr 5
    funext j
    rw [xu_self]
    unfold vp_updL upd
    show (if j = 0 then x else ah k j).toInt64 = if j = 0 then x.toInt64 else (ah k j).toInt64
    by_cases hj : j = 0 <;> simp [hj]
  rw [xw_set C.2.2.2.2.2.2.2.1 he] at hP1
  exact kk _ h H1 locs1 ls hP1 hS1 (fun h0 => absurd h0 hcn) hl
theorem x_callH (C : XC p l s m args meth c cc nL ret own D cl tys E NC ad) (hst : l.stackTraces = false) (hT : xThr (xA ad NC s.heap.size) s) {y : MethodName} {bytes : ByteArray} {maxL n ix : Nat} {rt : Option FieldType} {rm : Room} {As : List Value} {C0 : String} {kx : Nat} {rx : Int32} {ax : AH} (k : Nat) (hM : xMx l y bytes maxL rt rm D cl tys E NC ad (.ref (ad k) :: As) ah (kx, rx, ax)) (hk : k < NC) {ci : Nat} {fs : List Value} (hE : E ah k = .inr (ci, fs)) {T0 : u_T} {N : Nat} (hc : cl[ci]? = some (C0, T0, N)) (hlink : Cond.methodLink own ix y ∈ xWs) (hw : xcV C0 y bytes maxL rt n) (hn : As.length = n) (hcn : cn + 3 ≤ R.cells ∧ 6 * cn + 18 ≤ R.slots) (hrc : rm.cells = 3) (hrs : rm.slots = 18) (hR : rm.frames + 1 ≤ R.frames ∧ 8 + (maxL + 11) + rm.locals ≤ R.locals) (hd : decode cc pc = .ok (.invokevirtual ix, 3)) (pc' : Nat) (hp : pc + 3 = pc') {st0 : List Value} (hst0 : st0 = As.reverse ++ .ref (ad k) :: st) (hcat : (st.map fun v => v.category).sum ≤ 8)
    (kx1 : kx = 1 → ∃ hpc, xCt s args c own pc xN hpc ∧ ∀ q, XW p l e R s m args below meth c nL (cn + 3) Q D cl E NC ad ax hpc lv ([.ref q])) (kx2 : kx = 2 → ∃ hpc, xCt s args c own pc xI hpc ∧ ∀ q, XW p l e R s m args below meth c nL (cn + 3) Q D cl E NC ad ax hpc lv ([.ref q])) (kk : kx = 0 → XW p l e R s m args below meth c nL (cn + 3) Q D cl E NC ad ax pc' lv (.int rx :: st)) : XW p l e R s m args below meth c nL cn Q D cl E NC ad ah pc lv st0 := by
  intro H locs ls hP hS hz hl
  subst hp
  obtain ⟨w1, w2, w3, w4, w5⟩ := hw
  have cb := callB_of (R := R) (own := own) (index := ix) (ws := Cond.code y bytes maxL rt :: xWs) (ws' := xWs) (rm := rm) (mc := 3) (ms := 18) n C.2.2.2.2.1 (xGood y bytes maxL rt w4) rfl hrc hrs (C.2.2.2.2.1 _ w3) (C.2.2.2.2.1 _ hlink) w5 hR
  refine vx_calli (vx_runV (As := As) (rest := st) (C := C0) ⟨C.1, C.2.1, C.2.2.1, C.2.2.2.1, C.2.2.2.2.1⟩ (hM H.size) ⟨cb, C.2.2.2.2.1 _ w1, C.2.2.2.2.1 _ w2⟩ ⟨xPreT_blind, va_recv C.2.2.2.2.2.1 hP hc (xw_get hk hE), fun U hU hW => ⟨rfl, ⟨by rw [hU], by rw [hU]; exact hP, va_K.moved hW.alike C.2.2.2.2.2.1, C.2.2.2.2.2.2.2.2.2.2.warm hW⟩, hT.go hW (fun q h1 h2 => by rw [hU]; exact hS.2.1 q h1 h2) (fun q hq => xA_mono hS.1 hq)⟩⟩ rfl hn hl.1 hst0 (lv_room hcat) hd hcn) hS (fun q _ h => xA_mono hS.1 h) (fun q h => xA_mono hS.1 h) (fun q _ h => xA_mono hS.1 h) ?_ ?_
  · intro X ce q9 u t H1 locs1 ht hvm hu hB _ _ hS1 hce hcv hcl
    obtain ⟨hX, hP1, -⟩ := hB
    dsimp only at hu hX
    subst hu
    rw [ht] at hP1
    rcases hX with ⟨e1, rfl⟩ | ⟨e1, rfl⟩
    · obtain ⟨hpc, ⟨pre, x, suf, name, c1, c2, c3, c4, c5, c6, rfl⟩, kq⟩ := kx1 e1
      exact vx_catch C.2.2.2.1 pre x suf c1 c2 c3 c4 c5 c6 hce hcv hcl (kq q9 H1 locs1 ls hP1 hS1 (fun h0 => absurd h0 (Nat.succ_ne_zero _)) hl)
    · obtain ⟨hpc, ⟨pre, x, suf, name, c1, c2, c3, c4, c5, c6, rfl⟩, kq⟩ := kx2 e1
      exact vx_catch C.2.2.2.1 pre x suf c1 c2 c3 c4 c5 c6 hce hcv hcl (kq q9 H1 locs1 ls hP1 hS1 (fun h0 => absurd h0 (Nat.succ_ne_zero _)) hl)
  · intro r u t H1 locs1 ht hvm hu hB _ _ hS1
    obtain ⟨h0, rfl, rfl⟩ := hu
    obtain ⟨hP1, -⟩ := hB
    rw [ht] at hP1
    exact kk h0 H1 locs1 ls hP1 hS1 (fun h0 => absurd h0 (Nat.succ_ne_zero _)) hl
end
theorem x_meth {l : Launch} {y : MethodName} {bytes : ByteArray} {maxL : Nat} {hh : List (Nat × Nat × Nat × Nat)} {rm : Room} {D : va_G} {cl : List vw_C} {tys : List (ClassId × FieldType)} {E : xL} {NC : Nat} {ad : Nat → Nat} {avs : List Value} {ah : AH} {o : Int32 × AH} (hy : plainName y.cls = true) (hav : (lg_sl avs).length ≤ maxL) (hI : xInj ad NC) (hL : xLoc E)
    (body : ∀ (p : Program) (e : Env) (s : State) (m : MethodId) (args : Array Value) (below : List Frame) (meth : Method) (c : Code), XC p l s m args meth c bytes maxL (some .int) y.cls D cl tys E NC ad → xThr (xA ad NC s.heap.size) s → c.exceptionTable.toList = tableOf hh → XW p l e rm s m args below meth c maxL 0 (xQh below args s D cl tys E NC ad o) D cl E NC ad ah 0 (lv_args 0 avs) []) : xMh l y bytes maxL hh rm D cl tys E NC ad avs ah o := by
  intro sz
  refine vx_ofWH (cc := bytes) (maxL := maxL) (ret := some .int) (hh := hh) hy rfl ?_
  intro p e s m args below meth c s₁ B hml hv
  obtain ⟨rfl, ⟨hsz, hP, hK, hN⟩, hT⟩ := hv
  subst hsz
  have hts := atoms_spec (ws := Cond.codeWith y bytes maxL (some .int) hh :: xWs) B.pre
  have C : XC p l s m avs.toArray meth c bytes maxL (some .int) y.cls D cl tys E NC ad := ⟨B.exec, B.bytes, hml, findClass_of_methodNamed B.named, fun w hw => hts w (List.mem_cons_of_mem _ hw), hK, hI, hL, B.returns, B.notSynchronized, hN⟩
  have htab : c.exceptionTable.toList = tableOf hh := vx_table (x := y) B (hts _ List.mem_cons_self)
  have hl := lv_entry avs (n := maxL) hav
  rw [lg_entry_eq]
  exact body p e s m _ below meth c C hT htab s.heap [] _ hP va_S.rf (fun _ => rfl) hl
theorem x_ct1 {s : State} {args : Array Value} {c : Code} {e h t pc : Nat} {X : String} (htab : c.exceptionTable.toList = tableOf [(0, e, h, t)]) (hpc : pc < e) (ht : t ≠ 0) (hl : (Cond.classLink RL t X).before args s = true) (hc : va_Nw (.castable X X) s) : xCt s args c RL pc X h := by
  refine ⟨[], ⟨0, e, h, t⟩, [], X, htab, fun z hz => (by cases hz), ?_, ht, hl, va_Nw.use rfl hc, rfl⟩
  simp [covers, hpc]
theorem x_ct2a {s : State} {args : Array Value} {c : Code} {e h t h2 t2 pc : Nat} {X : String} (htab : c.exceptionTable.toList = tableOf [(0, e, h, t), (0, e, h2, t2)]) (hpc : pc < e) (ht : t ≠ 0) (hl : (Cond.classLink RL t X).before args s = true) (hc : va_Nw (.castable X X) s) : xCt s args c RL pc X h := by
  refine ⟨[], ⟨0, e, h, t⟩, [⟨0, e, h2, t2⟩], X, htab, fun z hz => (by cases hz), ?_, ht, hl, va_Nw.use rfl hc, rfl⟩
  simp [covers, hpc]
theorem x_ct2b {s : State} {args : Array Value} {c : Code} {e h t h2 t2 pc : Nat} {X Y : String} (htab : c.exceptionTable.toList = tableOf [(0, e, h, t), (0, e, h2, t2)]) (hpc : pc < e) (ht : t ≠ 0) (ht2 : t2 ≠ 0) (hl : (Cond.classLink RL t Y).before args s = true) (hl2 : (Cond.classLink RL t2 X).before args s = true) (hn : va_Nc X Y s) (hc : va_Nw (.castable X X) s) : xCt s args c RL pc X h2 := by
  refine ⟨[⟨0, e, h, t⟩], ⟨0, e, h2, t2⟩, [], X, htab, fun z hz => ?_, ?_, ht2, hl2, va_Nw.use rfl hc, rfl⟩
  · rcases List.mem_singleton.mp hz with rfl
    exact Or.inr ⟨ht, Y, hl, hn⟩
  · simp [covers, hpc]
def F_L_lexicon (N : Nat) (ah : AH) (p1 : Int32) : Option (Int32 × AH) := xbh (F_X11_lexicon N ah p1) (fun r a => xlet (xu a 91 0 r) (fun a1 => some (0, a1))) (fun _ => none) (fun a => some (1, a))
def F_L_shapes (N : Nat) (ah : AH) (p1 : Int32) : Option (Int32 × AH) := xbh (F_X11_shapes N ah p1) (fun r a => xlet (xu a 91 0 r) (fun a1 => some (0, a1))) (fun _ => none) (fun a => some (1, a))
def F_L_reading (N : Nat) (ah : AH) (p1 : Int32) : Option (Int32 × AH) := xbh (F_X11_reading N ah p1) (fun r a => xlet (xu a 91 0 r) (fun a1 => some (0, a1))) (fun _ => none) (fun a => some (1, a))
def F_L_follows (N : Nat) (ah : AH) (p1 : Int32) : Option (Int32 × AH) := xbh (F_X11_follows N ah p1) (fun r a => xlet (xu a 91 0 r) (fun a1 => some (0, a1))) (fun _ => none) (fun a => some (1, a))
def F_L_set (N : Nat) (ah : AH) (p1 : Int32) (p2 : Int32) : Option (Int32 × AH) := xbh (F_X11_set N ah p1 p2) (fun r a => xlet (xu a 91 0 r) (fun a1 => some (0, a1))) (fun _ => none) (fun a => some (1, a))
def F_L_weigh (N : Nat) (ah : AH) (p1 : Int32) (p2 : Int32) : Option (Int32 × AH) := xbh (F_X11_weigh N ah p1 p2) (fun r a => xlet (xu a 91 0 r) (fun a1 => some (0, a1))) (fun a => some (1, a)) (fun a => some (2, a))
def F_L_learn (N : Nat) (ah : AH) (p1 : Int32) : Option (Int32 × AH) := xbh (F_X11_learn N ah p1) (fun r a => xlet (xu a 91 0 r) (fun a1 => some (0, a1))) (fun a => some (1, a)) (fun _ => none)
def F_L_told (N : Nat) (ah : AH) (p1 : Int32) : Option (Int32 × AH) := xbh (F_X11_told N ah p1) (fun r a => xlet (xu a 91 0 r) (fun a1 => some (0, a1))) (fun _ => none) (fun a => some (1, a))
def F_L_word (N : Nat) (ah : AH) (p1 : Int32) (p2 : Int32) : Option (Int32 × AH) := xbh (F_X11_word N ah p1 p2) (fun r a => xlet (xu a 91 0 r) (fun a1 => some (0, a1))) (fun a => some (1, a)) (fun a => some (2, a))
def F_L_sign (N : Nat) (ah : AH) (p1 : Int32) (p2 : Int32) : Option (Int32 × AH) := xbh (F_X11_sign N ah p1 p2) (fun r a => xlet (xu a 91 0 r) (fun a1 => some (0, a1))) (fun a => some (1, a)) (fun _ => none)
def F_L_find (N : Nat) (ah : AH) (p1 : Int32) : Option (Int32 × AH) := xbh (F_X11_find N ah p1) (fun r a => xlet (xu a 91 0 r) (fun a1 => some (0, a1))) (fun _ => none) (fun a => some (1, a))
def F_L_node (N : Nat) (ah : AH) (p1 : Int32) (p2 : Int32) : Option (Int32 × AH) := xbh (F_X11_node N ah p1 p2) (fun r a => xlet (xu a 91 0 r) (fun a1 => some (0, a1))) (fun a => some (1, a)) (fun a => some (2, a))
def F_L_child (N : Nat) (ah : AH) (p1 : Int32) (p2 : Int32) : Option (Int32 × AH) := xbh (F_X11_child N ah p1 p2) (fun r a => xlet (xu a 91 0 r) (fun a1 => some (0, a1))) (fun a => some (1, a)) (fun _ => none)
def F_L_shape (N : Nat) (ah : AH) (p1 : Int32) (p2 : Int32) : Option (Int32 × AH) := xbh (F_X11_shape N ah p1 p2) (fun r a => xlet (xu a 91 0 r) (fun a1 => some (0, a1))) (fun a => some (1, a)) (fun a => some (2, a))
def F_L_token (N : Nat) (ah : AH) (p1 : Int32) (p2 : Int32) : Option (Int32 × AH) := xbh (F_X11_token N ah p1 p2) (fun r a => xlet (xu a 91 0 r) (fun a1 => some (0, a1))) (fun a => some (1, a)) (fun a => some (2, a))
def F_L_cell (N : Nat) (ah : AH) (p1 : Int32) (p2 : Int32) (p3 : Int32) : Option (Int32 × AH) := xbh (F_X11_cell N ah p1 p2 p3) (fun r a => xlet (xu a 91 0 r) (fun a1 => some (0, a1))) (fun a => some (1, a)) (fun a => some (2, a))
def F_L_rest (N : Nat) (ah : AH) (p1 : Int32) (p2 : Int32) : Option (Int32 × AH) := xbh (F_X11_rest N ah p1 p2) (fun r a => xlet (xu a 91 0 r) (fun a1 => some (0, a1))) (fun a => some (1, a)) (fun _ => none)
def F_L_best (N : Nat) (ah : AH) (p1 : Int32) (p2 : Int32) (p3 : Int32) : Option (Int32 × AH) := xbh (F_X11_best N ah p1 p2 p3) (fun r a => xlet (xu a 91 0 r) (fun a1 => some (0, a1))) (fun a => some (1, a)) (fun a => some (2, a))
def F_L_price (N : Nat) (ah : AH) (p1 : Int32) (p2 : Int32) : Option (Int32 × AH) := xbh (F_X11_price N ah p1 p2) (fun r a => xlet (xu a 91 0 r) (fun a1 => some (0, a1))) (fun a => some (1, a)) (fun _ => none)
def F_L_within (N : Nat) (ah : AH) (p1 : Int32) (p2 : Int32) : Option (Int32 × AH) := xbh (F_X11_within N ah p1 p2) (fun r a => xlet (xu a 91 0 r) (fun a1 => some (0, a1))) (fun a => some (1, a)) (fun a => some (2, a))
def F_L_mended (N : Nat) (ah : AH) (p1 : Int32) (p2 : Int32) : Option (Int32 × AH) := xbh (F_X11_mended N ah p1 p2) (fun r a => xlet (xu a 91 0 r) (fun a1 => some (0, a1))) (fun a => some (1, a)) (fun a => some (2, a))
def F_L_text (N : Nat) (ah : AH) (p1 : Int32) : Option (Int32 × AH) := xbh (F_X11_text N ah p1) (fun r a => xlet (xu a 91 0 r) (fun a1 => some (0, a1))) (fun _ => none) (fun a => some (1, a))
def F_L_lost (N : Nat) (ah : AH) (p1 : Int32) (p2 : Int32) : Option (Int32 × AH) := xbh (F_X11_lost N ah p1 p2) (fun r a => if r = 0 then xlet (xu a 91 0 0) (fun a1 => some (0, a1)) else xlet (xu a 91 0 1) (fun a1 => some (0, a1))) (fun a => some (1, a)) (fun a => some (2, a))
def F_L_way (N : Nat) (ah : AH) (p1 : Int32) (p2 : Int32) : Option (Int32 × AH) := xbh (F_X11_way N ah p1 p2) (fun r a => xlet (xu a 91 0 r) (fun a1 => some (0, a1))) (fun a => some (1, a)) (fun a => some (2, a))
def F_L_edge (N : Nat) (ah : AH) (p1 : Int32) (p2 : Int32) (p3 : Int32) : Option (Int32 × AH) := xbh (F_X11_edge N ah p1 p2 p3) (fun r a => xlet (xu a 91 0 r) (fun a1 => some (0, a1))) (fun a => some (1, a)) (fun a => some (2, a))
def F_L_used (N : Nat) (ah : AH) (p1 : Int32) : Option (Int32 × AH) := xbh (F_X11_used N ah p1) (fun r a => xlet (xu a 91 0 r) (fun a1 => some (0, a1))) (fun a => some (1, a)) (fun _ => none)
def F_L_dear (N : Nat) (ah : AH) (p1 : Int32) (p2 : Int32) : Option (Int32 × AH) := xbh (F_X11_dear N ah p1 p2) (fun r a => xlet (xu a 91 0 r) (fun a1 => some (0, a1))) (fun a => some (1, a)) (fun _ => none)
def F_L_sentence (N : Nat) (ah : AH) (p1 : Int32) : Option (Int32 × AH) := xbh (F_X11_sentence N ah p1) (fun r a => xlet (xu a 91 0 r) (fun a1 => some (0, a1))) (fun _ => none) (fun a => some (1, a))
def F_L_said (N : Nat) (ah : AH) (p1 : Int32) : Option (Int32 × AH) := xbh (F_X11_said N ah p1) (fun r a => xlet (xu a 91 0 r) (fun a1 => some (0, a1))) (fun a => some (1, a)) (fun _ => none)
def F_L_apart (N : Nat) (ah : AH) (p1 : Int32) (p2 : Int32) : Option (Int32 × AH) := xbh (F_X11_apart N ah p1 p2) (fun r a => xlet (xu a 91 0 r) (fun a1 => some (0, a1))) (fun a => some (1, a)) (fun _ => none)
def F_L_twin (N : Nat) (ah : AH) (p1 : Int32) (p2 : Int32) : Option (Int32 × AH) := xbh (F_X11_twin N ah p1 p2) (fun r a => xlet (xu a 91 0 r) (fun a1 => some (0, a1))) (fun a => some (1, a)) (fun a => some (2, a))
def F_L_twins (N : Nat) (ah : AH) (p1 : Int32) : Option (Int32 × AH) := xbh (F_X11_twins N ah p1) (fun r a => xlet (xu a 91 0 r) (fun a1 => some (0, a1))) (fun _ => none) (fun a => some (1, a))
abbrev rm_L_lexicon : Room := { frames := 8, cells := 3, slots := 18, locals := 135 }
theorem c_L_lexicon {l : Launch} {D : va_G} {ca : Nat → ClassId} {ad : Nat → Nat} (hI : xInj ad NCC) (hst : l.stackTraces = false) {N : Nat} {ah : AH} {p1 : Int32} {r : Int32} {a : AH} (h : F_L_lexicon N ah p1 = some (r, a)) : xMh l yL_lexicon cL_lexicon 4 [(0, 9, 12, 13)] rm_L_lexicon D vwCl (tysC ca) (EC ad ca) NCC ad [.ref (ad 0), .int p1, .ref (ad 91)] ah (r, a) := by
  refine x_meth (by decide) (Nat.le_of_ble_eq_true rfl) hI EC_loc ?_
  intro p e s m args below meth c C hT htab
  unfold F_L_lexicon at h
  refine x_aload_n C dL_lexicon_0 1 rfl 2 rfl ?_
  refine x_iconst C dL_lexicon_1 2 rfl 0 rfl ?_
  refine x_aload_n C dL_lexicon_2 3 rfl 0 rfl ?_
  refine x_iload_n C dL_lexicon_3 4 rfl 1 rfl ?_
  obtain ⟨k0, r0, a0, hq, h0, h1, h2⟩ := xbh_some h
  refine x_callH C hst hT 0 (c_X11_lexicon C.2.2.2.2.2.2.1 hst hq) lc0 EC_0 rfl wml_L_7 wq_X11_lexicon rfl ⟨by decide, by decide⟩ rfl rfl ⟨by decide, by decide⟩ dL_lexicon_4 7 rfl rfl (Nat.le_of_ble_eq_true rfl) (fun e0 => ?_) (fun e0 => ?_) (fun e0 => ?_)
  · exact absurd (h1 e0) (by intro hz; cases hz)
  · refine ⟨12, x_ct1 htab (by decide) (by decide) (C.2.2.2.2.1 _ wmd_L_13) hT.2.2.2.2.1.2.2.2.2, fun q => ?_⟩
    have h := h2 e0
    refine x_astore_n C dL_lexicon_12 13 rfl (by decide) [(3, .ref q), (0, .ref (ad 0)), (1, .int p1), (2, .ref (ad 91))] rfl ?_
    refine x_iconst C dL_lexicon_13 14 rfl 1 rfl ?_
    exact x_iretH C rfl (by decide) dL_lexicon_14 h
  · have h := h0 e0
    refine x_i2l C dL_lexicon_7 8 rfl ?_
    refine x_last C 91 lc91 (fun _ => EC_91) 2 rfl dL_lexicon_8 9 rfl (by decide) h (fun a1 h => ?_)
    refine x_goto C dL_lexicon_9 15 rfl ?_
    refine x_iconst C dL_lexicon_15 16 rfl 0 rfl ?_
    exact x_iretH C rfl (by decide) dL_lexicon_16 h
abbrev rm_L_shapes : Room := { frames := 8, cells := 3, slots := 18, locals := 133 }
theorem c_L_shapes {l : Launch} {D : va_G} {ca : Nat → ClassId} {ad : Nat → Nat} (hI : xInj ad NCC) (hst : l.stackTraces = false) {N : Nat} {ah : AH} {p1 : Int32} {r : Int32} {a : AH} (h : F_L_shapes N ah p1 = some (r, a)) : xMh l yL_shapes cL_shapes 4 [(0, 9, 12, 13)] rm_L_shapes D vwCl (tysC ca) (EC ad ca) NCC ad [.ref (ad 0), .int p1, .ref (ad 91)] ah (r, a) := by
  refine x_meth (by decide) (Nat.le_of_ble_eq_true rfl) hI EC_loc ?_
  intro p e s m args below meth c C hT htab
  unfold F_L_shapes at h
  refine x_aload_n C dL_shapes_0 1 rfl 2 rfl ?_
  refine x_iconst C dL_shapes_1 2 rfl 0 rfl ?_
  refine x_aload_n C dL_shapes_2 3 rfl 0 rfl ?_
  refine x_iload_n C dL_shapes_3 4 rfl 1 rfl ?_
  obtain ⟨k0, r0, a0, hq, h0, h1, h2⟩ := xbh_some h
  refine x_callH C hst hT 0 (c_X11_shapes C.2.2.2.2.2.2.1 hst hq) lc0 EC_0 rfl wml_L_15 wq_X11_shapes rfl ⟨by decide, by decide⟩ rfl rfl ⟨by decide, by decide⟩ dL_shapes_4 7 rfl rfl (Nat.le_of_ble_eq_true rfl) (fun e0 => ?_) (fun e0 => ?_) (fun e0 => ?_)
  · exact absurd (h1 e0) (by intro hz; cases hz)
  · refine ⟨12, x_ct1 htab (by decide) (by decide) (C.2.2.2.2.1 _ wmd_L_13) hT.2.2.2.2.1.2.2.2.2, fun q => ?_⟩
    have h := h2 e0
    refine x_astore_n C dL_shapes_12 13 rfl (by decide) [(3, .ref q), (0, .ref (ad 0)), (1, .int p1), (2, .ref (ad 91))] rfl ?_
    refine x_iconst C dL_shapes_13 14 rfl 1 rfl ?_
    exact x_iretH C rfl (by decide) dL_shapes_14 h
  · have h := h0 e0
    refine x_i2l C dL_shapes_7 8 rfl ?_
    refine x_last C 91 lc91 (fun _ => EC_91) 2 rfl dL_shapes_8 9 rfl (by decide) h (fun a1 h => ?_)
    refine x_goto C dL_shapes_9 15 rfl ?_
    refine x_iconst C dL_shapes_15 16 rfl 0 rfl ?_
    exact x_iretH C rfl (by decide) dL_shapes_16 h
abbrev rm_L_reading : Room := { frames := 8, cells := 3, slots := 18, locals := 159 }
theorem c_L_reading {l : Launch} {D : va_G} {ca : Nat → ClassId} {ad : Nat → Nat} (hI : xInj ad NCC) (hst : l.stackTraces = false) {N : Nat} {ah : AH} {p1 : Int32} {r : Int32} {a : AH} (h : F_L_reading N ah p1 = some (r, a)) : xMh l yL_reading cL_reading 4 [(0, 9, 12, 13)] rm_L_reading D vwCl (tysC ca) (EC ad ca) NCC ad [.ref (ad 0), .int p1, .ref (ad 91)] ah (r, a) := by
  refine x_meth (by decide) (Nat.le_of_ble_eq_true rfl) hI EC_loc ?_
  intro p e s m args below meth c C hT htab
  unfold F_L_reading at h
  refine x_aload_n C dL_reading_0 1 rfl 2 rfl ?_
  refine x_iconst C dL_reading_1 2 rfl 0 rfl ?_
  refine x_aload_n C dL_reading_2 3 rfl 0 rfl ?_
  refine x_iload_n C dL_reading_3 4 rfl 1 rfl ?_
  obtain ⟨k0, r0, a0, hq, h0, h1, h2⟩ := xbh_some h
  refine x_callH C hst hT 0 (c_X11_reading C.2.2.2.2.2.2.1 hst hq) lc0 EC_0 rfl wml_L_18 wq_X11_reading rfl ⟨by decide, by decide⟩ rfl rfl ⟨by decide, by decide⟩ dL_reading_4 7 rfl rfl (Nat.le_of_ble_eq_true rfl) (fun e0 => ?_) (fun e0 => ?_) (fun e0 => ?_)
  · exact absurd (h1 e0) (by intro hz; cases hz)
  · refine ⟨12, x_ct1 htab (by decide) (by decide) (C.2.2.2.2.1 _ wmd_L_13) hT.2.2.2.2.1.2.2.2.2, fun q => ?_⟩
    have h := h2 e0
    refine x_astore_n C dL_reading_12 13 rfl (by decide) [(3, .ref q), (0, .ref (ad 0)), (1, .int p1), (2, .ref (ad 91))] rfl ?_
    refine x_iconst C dL_reading_13 14 rfl 1 rfl ?_
    exact x_iretH C rfl (by decide) dL_reading_14 h
  · have h := h0 e0
    refine x_i2l C dL_reading_7 8 rfl ?_
    refine x_last C 91 lc91 (fun _ => EC_91) 2 rfl dL_reading_8 9 rfl (by decide) h (fun a1 h => ?_)
    refine x_goto C dL_reading_9 15 rfl ?_
    refine x_iconst C dL_reading_15 16 rfl 0 rfl ?_
    exact x_iretH C rfl (by decide) dL_reading_16 h
abbrev rm_L_follows : Room := { frames := 8, cells := 3, slots := 18, locals := 139 }
theorem c_L_follows {l : Launch} {D : va_G} {ca : Nat → ClassId} {ad : Nat → Nat} (hI : xInj ad NCC) (hst : l.stackTraces = false) {N : Nat} {ah : AH} {p1 : Int32} {r : Int32} {a : AH} (h : F_L_follows N ah p1 = some (r, a)) : xMh l yL_follows cL_follows 4 [(0, 9, 12, 13)] rm_L_follows D vwCl (tysC ca) (EC ad ca) NCC ad [.ref (ad 0), .int p1, .ref (ad 91)] ah (r, a) := by
  refine x_meth (by decide) (Nat.le_of_ble_eq_true rfl) hI EC_loc ?_
  intro p e s m args below meth c C hT htab
  unfold F_L_follows at h
  refine x_aload_n C dL_follows_0 1 rfl 2 rfl ?_
  refine x_iconst C dL_follows_1 2 rfl 0 rfl ?_
  refine x_aload_n C dL_follows_2 3 rfl 0 rfl ?_
  refine x_iload_n C dL_follows_3 4 rfl 1 rfl ?_
  obtain ⟨k0, r0, a0, hq, h0, h1, h2⟩ := xbh_some h
  refine x_callH C hst hT 0 (c_X11_follows C.2.2.2.2.2.2.1 hst hq) lc0 EC_0 rfl wml_L_21 wq_X11_follows rfl ⟨by decide, by decide⟩ rfl rfl ⟨by decide, by decide⟩ dL_follows_4 7 rfl rfl (Nat.le_of_ble_eq_true rfl) (fun e0 => ?_) (fun e0 => ?_) (fun e0 => ?_)
  · exact absurd (h1 e0) (by intro hz; cases hz)
  · refine ⟨12, x_ct1 htab (by decide) (by decide) (C.2.2.2.2.1 _ wmd_L_13) hT.2.2.2.2.1.2.2.2.2, fun q => ?_⟩
    have h := h2 e0
    refine x_astore_n C dL_follows_12 13 rfl (by decide) [(3, .ref q), (0, .ref (ad 0)), (1, .int p1), (2, .ref (ad 91))] rfl ?_
    refine x_iconst C dL_follows_13 14 rfl 1 rfl ?_
    exact x_iretH C rfl (by decide) dL_follows_14 h
  · have h := h0 e0
    refine x_i2l C dL_follows_7 8 rfl ?_
    refine x_last C 91 lc91 (fun _ => EC_91) 2 rfl dL_follows_8 9 rfl (by decide) h (fun a1 h => ?_)
    refine x_goto C dL_follows_9 15 rfl ?_
    refine x_iconst C dL_follows_15 16 rfl 0 rfl ?_
    exact x_iretH C rfl (by decide) dL_follows_16 h
abbrev rm_L_set : Room := { frames := 8, cells := 3, slots := 18, locals := 128 }
theorem c_L_set {l : Launch} {D : va_G} {ca : Nat → ClassId} {ad : Nat → Nat} (hI : xInj ad NCC) (hst : l.stackTraces = false) {N : Nat} {ah : AH} {p1 : Int32} {p2 : Int32} {r : Int32} {a : AH} (h : F_L_set N ah p1 p2 = some (r, a)) : xMh l yL_set cL_set 5 [(0, 10, 13, 13)] rm_L_set D vwCl (tysC ca) (EC ad ca) NCC ad [.ref (ad 0), .int p1, .int p2, .ref (ad 91)] ah (r, a) := by
  refine x_meth (by decide) (Nat.le_of_ble_eq_true rfl) hI EC_loc ?_
  intro p e s m args below meth c C hT htab
  unfold F_L_set at h
  refine x_aload_n C dL_set_0 1 rfl 3 rfl ?_
  refine x_iconst C dL_set_1 2 rfl 0 rfl ?_
  refine x_aload_n C dL_set_2 3 rfl 0 rfl ?_
  refine x_iload_n C dL_set_3 4 rfl 1 rfl ?_
  refine x_iload_n C dL_set_4 5 rfl 2 rfl ?_
  obtain ⟨k0, r0, a0, hq, h0, h1, h2⟩ := xbh_some h
  refine x_callH C hst hT 0 (c_X11_set C.2.2.2.2.2.2.1 hst hq) lc0 EC_0 rfl wml_L_24 wq_X11_set rfl ⟨by decide, by decide⟩ rfl rfl ⟨by decide, by decide⟩ dL_set_5 8 rfl rfl (Nat.le_of_ble_eq_true rfl) (fun e0 => ?_) (fun e0 => ?_) (fun e0 => ?_)
  · exact absurd (h1 e0) (by intro hz; cases hz)
  · refine ⟨13, x_ct1 htab (by decide) (by decide) (C.2.2.2.2.1 _ wmd_L_13) hT.2.2.2.2.1.2.2.2.2, fun q => ?_⟩
    have h := h2 e0
    refine x_astore C dL_set_13 15 rfl (by decide) [(4, .ref q), (0, .ref (ad 0)), (1, .int p1), (2, .int p2), (3, .ref (ad 91))] rfl ?_
    refine x_iconst C dL_set_15 16 rfl 1 rfl ?_
    exact x_iretH C rfl (by decide) dL_set_16 h
  · have h := h0 e0
    refine x_i2l C dL_set_8 9 rfl ?_
    refine x_last C 91 lc91 (fun _ => EC_91) 2 rfl dL_set_9 10 rfl (by decide) h (fun a1 h => ?_)
    refine x_goto C dL_set_10 17 rfl ?_
    refine x_iconst C dL_set_17 18 rfl 0 rfl ?_
    exact x_iretH C rfl (by decide) dL_set_18 h
abbrev rm_L_weigh : Room := { frames := 9, cells := 3, slots := 18, locals := 148 }
theorem c_L_weigh {l : Launch} {D : va_G} {ca : Nat → ClassId} {ad : Nat → Nat} (hI : xInj ad NCC) (hst : l.stackTraces = false) {N : Nat} {ah : AH} {p1 : Int32} {p2 : Int32} {r : Int32} {a : AH} (h : F_L_weigh N ah p1 p2 = some (r, a)) : xMh l yL_weigh cL_weigh 5 [(0, 10, 13, 31), (0, 10, 17, 13)] rm_L_weigh D vwCl (tysC ca) (EC ad ca) NCC ad [.ref (ad 0), .int p1, .int p2, .ref (ad 91)] ah (r, a) := by
  refine x_meth (by decide) (Nat.le_of_ble_eq_true rfl) hI EC_loc ?_
  intro p e s m args below meth c C hT htab
  unfold F_L_weigh at h
  refine x_aload_n C dL_weigh_0 1 rfl 3 rfl ?_
  refine x_iconst C dL_weigh_1 2 rfl 0 rfl ?_
  refine x_aload_n C dL_weigh_2 3 rfl 0 rfl ?_
  refine x_iload_n C dL_weigh_3 4 rfl 1 rfl ?_
  refine x_iload_n C dL_weigh_4 5 rfl 2 rfl ?_
  obtain ⟨k0, r0, a0, hq, h0, h1, h2⟩ := xbh_some h
  refine x_callH C hst hT 0 (c_X11_weigh C.2.2.2.2.2.2.1 hst hq) lc0 EC_0 rfl wml_L_28 wq_X11_weigh rfl ⟨by decide, by decide⟩ rfl rfl ⟨by decide, by decide⟩ dL_weigh_5 8 rfl rfl (Nat.le_of_ble_eq_true rfl) (fun e0 => ?_) (fun e0 => ?_) (fun e0 => ?_)
  · refine ⟨13, x_ct2a htab (by decide) (by decide) (C.2.2.2.2.1 _ wmd_L_31) hT.2.2.2.2.1.2.2.2.1, fun q => ?_⟩
    have h := h1 e0
    refine x_astore C dL_weigh_13 15 rfl (by decide) [(4, .ref q), (0, .ref (ad 0)), (1, .int p1), (2, .int p2), (3, .ref (ad 91))] rfl ?_
    refine x_iconst C dL_weigh_15 16 rfl 1 rfl ?_
    exact x_iretH C rfl (by decide) dL_weigh_16 h
  · refine ⟨17, x_ct2b htab (by decide) (by decide) (by decide) (C.2.2.2.2.1 _ wmd_L_31) (C.2.2.2.2.1 _ wmd_L_13) hT.2.2.2.2.2.1 hT.2.2.2.2.1.2.2.2.2, fun q => ?_⟩
    have h := h2 e0
    refine x_astore C dL_weigh_17 19 rfl (by decide) [(4, .ref q), (0, .ref (ad 0)), (1, .int p1), (2, .int p2), (3, .ref (ad 91))] rfl ?_
    refine x_iconst C dL_weigh_19 20 rfl 2 rfl ?_
    exact x_iretH C rfl (by decide) dL_weigh_20 h
  · have h := h0 e0
    refine x_i2l C dL_weigh_8 9 rfl ?_
    refine x_last C 91 lc91 (fun _ => EC_91) 2 rfl dL_weigh_9 10 rfl (by decide) h (fun a1 h => ?_)
    refine x_goto C dL_weigh_10 21 rfl ?_
    refine x_iconst C dL_weigh_21 22 rfl 0 rfl ?_
    exact x_iretH C rfl (by decide) dL_weigh_22 h
abbrev rm_L_learn : Room := { frames := 9, cells := 3, slots := 18, locals := 148 }
theorem c_L_learn {l : Launch} {D : va_G} {ca : Nat → ClassId} {ad : Nat → Nat} (hI : xInj ad NCC) (hst : l.stackTraces = false) {N : Nat} {ah : AH} {p1 : Int32} {r : Int32} {a : AH} (h : F_L_learn N ah p1 = some (r, a)) : xMh l yL_learn cL_learn 4 [(0, 9, 12, 31)] rm_L_learn D vwCl (tysC ca) (EC ad ca) NCC ad [.ref (ad 0), .int p1, .ref (ad 91)] ah (r, a) := by
  refine x_meth (by decide) (Nat.le_of_ble_eq_true rfl) hI EC_loc ?_
  intro p e s m args below meth c C hT htab
  unfold F_L_learn at h
  refine x_aload_n C dL_learn_0 1 rfl 2 rfl ?_
  refine x_iconst C dL_learn_1 2 rfl 0 rfl ?_
  refine x_aload_n C dL_learn_2 3 rfl 0 rfl ?_
  refine x_iload_n C dL_learn_3 4 rfl 1 rfl ?_
  obtain ⟨k0, r0, a0, hq, h0, h1, h2⟩ := xbh_some h
  refine x_callH C hst hT 0 (c_X11_learn C.2.2.2.2.2.2.1 hst hq) lc0 EC_0 rfl wml_L_33 wq_X11_learn rfl ⟨by decide, by decide⟩ rfl rfl ⟨by decide, by decide⟩ dL_learn_4 7 rfl rfl (Nat.le_of_ble_eq_true rfl) (fun e0 => ?_) (fun e0 => ?_) (fun e0 => ?_)
  · refine ⟨12, x_ct1 htab (by decide) (by decide) (C.2.2.2.2.1 _ wmd_L_31) hT.2.2.2.2.1.2.2.2.1, fun q => ?_⟩
    have h := h1 e0
    refine x_astore_n C dL_learn_12 13 rfl (by decide) [(3, .ref q), (0, .ref (ad 0)), (1, .int p1), (2, .ref (ad 91))] rfl ?_
    refine x_iconst C dL_learn_13 14 rfl 1 rfl ?_
    exact x_iretH C rfl (by decide) dL_learn_14 h
  · exact absurd (h2 e0) (by intro hz; cases hz)
  · have h := h0 e0
    refine x_i2l C dL_learn_7 8 rfl ?_
    refine x_last C 91 lc91 (fun _ => EC_91) 2 rfl dL_learn_8 9 rfl (by decide) h (fun a1 h => ?_)
    refine x_goto C dL_learn_9 15 rfl ?_
    refine x_iconst C dL_learn_15 16 rfl 0 rfl ?_
    exact x_iretH C rfl (by decide) dL_learn_16 h
abbrev rm_L_told : Room := { frames := 8, cells := 3, slots := 18, locals := 126 }
theorem c_L_told {l : Launch} {D : va_G} {ca : Nat → ClassId} {ad : Nat → Nat} (hI : xInj ad NCC) (hst : l.stackTraces = false) {N : Nat} {ah : AH} {p1 : Int32} {r : Int32} {a : AH} (h : F_L_told N ah p1 = some (r, a)) : xMh l yL_told cL_told 4 [(0, 9, 12, 13)] rm_L_told D vwCl (tysC ca) (EC ad ca) NCC ad [.ref (ad 0), .int p1, .ref (ad 91)] ah (r, a) := by
  refine x_meth (by decide) (Nat.le_of_ble_eq_true rfl) hI EC_loc ?_
  intro p e s m args below meth c C hT htab
  unfold F_L_told at h
  refine x_aload_n C dL_told_0 1 rfl 2 rfl ?_
  refine x_iconst C dL_told_1 2 rfl 0 rfl ?_
  refine x_aload_n C dL_told_2 3 rfl 0 rfl ?_
  refine x_iload_n C dL_told_3 4 rfl 1 rfl ?_
  obtain ⟨k0, r0, a0, hq, h0, h1, h2⟩ := xbh_some h
  refine x_callH C hst hT 0 (c_X11_told C.2.2.2.2.2.2.1 hst hq) lc0 EC_0 rfl wml_L_36 wq_X11_told rfl ⟨by decide, by decide⟩ rfl rfl ⟨by decide, by decide⟩ dL_told_4 7 rfl rfl (Nat.le_of_ble_eq_true rfl) (fun e0 => ?_) (fun e0 => ?_) (fun e0 => ?_)
  · exact absurd (h1 e0) (by intro hz; cases hz)
  · refine ⟨12, x_ct1 htab (by decide) (by decide) (C.2.2.2.2.1 _ wmd_L_13) hT.2.2.2.2.1.2.2.2.2, fun q => ?_⟩
    have h := h2 e0
    refine x_astore_n C dL_told_12 13 rfl (by decide) [(3, .ref q), (0, .ref (ad 0)), (1, .int p1), (2, .ref (ad 91))] rfl ?_
    refine x_iconst C dL_told_13 14 rfl 1 rfl ?_
    exact x_iretH C rfl (by decide) dL_told_14 h
  · have h := h0 e0
    refine x_i2l C dL_told_7 8 rfl ?_
    refine x_last C 91 lc91 (fun _ => EC_91) 2 rfl dL_told_8 9 rfl (by decide) h (fun a1 h => ?_)
    refine x_goto C dL_told_9 15 rfl ?_
    refine x_iconst C dL_told_15 16 rfl 0 rfl ?_
    exact x_iretH C rfl (by decide) dL_told_16 h
abbrev rm_L_word : Room := { frames := 9, cells := 3, slots := 18, locals := 147 }
theorem c_L_word {l : Launch} {D : va_G} {ca : Nat → ClassId} {ad : Nat → Nat} (hI : xInj ad NCC) (hst : l.stackTraces = false) {N : Nat} {ah : AH} {p1 : Int32} {p2 : Int32} {r : Int32} {a : AH} (h : F_L_word N ah p1 p2 = some (r, a)) : xMh l yL_word cL_word 5 [(0, 10, 13, 31), (0, 10, 17, 13)] rm_L_word D vwCl (tysC ca) (EC ad ca) NCC ad [.ref (ad 0), .int p1, .int p2, .ref (ad 91)] ah (r, a) := by
  refine x_meth (by decide) (Nat.le_of_ble_eq_true rfl) hI EC_loc ?_
  intro p e s m args below meth c C hT htab
  unfold F_L_word at h
  refine x_aload_n C dL_word_0 1 rfl 3 rfl ?_
  refine x_iconst C dL_word_1 2 rfl 0 rfl ?_
  refine x_aload_n C dL_word_2 3 rfl 0 rfl ?_
  refine x_iload_n C dL_word_3 4 rfl 1 rfl ?_
  refine x_iload_n C dL_word_4 5 rfl 2 rfl ?_
  obtain ⟨k0, r0, a0, hq, h0, h1, h2⟩ := xbh_some h
  refine x_callH C hst hT 0 (c_X11_word C.2.2.2.2.2.2.1 hst hq) lc0 EC_0 rfl wml_L_39 wq_X11_word rfl ⟨by decide, by decide⟩ rfl rfl ⟨by decide, by decide⟩ dL_word_5 8 rfl rfl (Nat.le_of_ble_eq_true rfl) (fun e0 => ?_) (fun e0 => ?_) (fun e0 => ?_)
  · refine ⟨13, x_ct2a htab (by decide) (by decide) (C.2.2.2.2.1 _ wmd_L_31) hT.2.2.2.2.1.2.2.2.1, fun q => ?_⟩
    have h := h1 e0
    refine x_astore C dL_word_13 15 rfl (by decide) [(4, .ref q), (0, .ref (ad 0)), (1, .int p1), (2, .int p2), (3, .ref (ad 91))] rfl ?_
    refine x_iconst C dL_word_15 16 rfl 1 rfl ?_
    exact x_iretH C rfl (by decide) dL_word_16 h
  · refine ⟨17, x_ct2b htab (by decide) (by decide) (by decide) (C.2.2.2.2.1 _ wmd_L_31) (C.2.2.2.2.1 _ wmd_L_13) hT.2.2.2.2.2.1 hT.2.2.2.2.1.2.2.2.2, fun q => ?_⟩
    have h := h2 e0
    refine x_astore C dL_word_17 19 rfl (by decide) [(4, .ref q), (0, .ref (ad 0)), (1, .int p1), (2, .int p2), (3, .ref (ad 91))] rfl ?_
    refine x_iconst C dL_word_19 20 rfl 2 rfl ?_
    exact x_iretH C rfl (by decide) dL_word_20 h
  · have h := h0 e0
    refine x_i2l C dL_word_8 9 rfl ?_
    refine x_last C 91 lc91 (fun _ => EC_91) 2 rfl dL_word_9 10 rfl (by decide) h (fun a1 h => ?_)
    refine x_goto C dL_word_10 21 rfl ?_
    refine x_iconst C dL_word_21 22 rfl 0 rfl ?_
    exact x_iretH C rfl (by decide) dL_word_22 h
abbrev rm_L_sign : Room := { frames := 9, cells := 3, slots := 18, locals := 147 }
theorem c_L_sign {l : Launch} {D : va_G} {ca : Nat → ClassId} {ad : Nat → Nat} (hI : xInj ad NCC) (hst : l.stackTraces = false) {N : Nat} {ah : AH} {p1 : Int32} {p2 : Int32} {r : Int32} {a : AH} (h : F_L_sign N ah p1 p2 = some (r, a)) : xMh l yL_sign cL_sign 5 [(0, 10, 13, 31)] rm_L_sign D vwCl (tysC ca) (EC ad ca) NCC ad [.ref (ad 0), .int p1, .int p2, .ref (ad 91)] ah (r, a) := by
  refine x_meth (by decide) (Nat.le_of_ble_eq_true rfl) hI EC_loc ?_
  intro p e s m args below meth c C hT htab
  unfold F_L_sign at h
  refine x_aload_n C dL_sign_0 1 rfl 3 rfl ?_
  refine x_iconst C dL_sign_1 2 rfl 0 rfl ?_
  refine x_aload_n C dL_sign_2 3 rfl 0 rfl ?_
  refine x_iload_n C dL_sign_3 4 rfl 1 rfl ?_
  refine x_iload_n C dL_sign_4 5 rfl 2 rfl ?_
  obtain ⟨k0, r0, a0, hq, h0, h1, h2⟩ := xbh_some h
  refine x_callH C hst hT 0 (c_X11_sign C.2.2.2.2.2.2.1 hst hq) lc0 EC_0 rfl wml_L_42 wq_X11_sign rfl ⟨by decide, by decide⟩ rfl rfl ⟨by decide, by decide⟩ dL_sign_5 8 rfl rfl (Nat.le_of_ble_eq_true rfl) (fun e0 => ?_) (fun e0 => ?_) (fun e0 => ?_)
  · refine ⟨13, x_ct1 htab (by decide) (by decide) (C.2.2.2.2.1 _ wmd_L_31) hT.2.2.2.2.1.2.2.2.1, fun q => ?_⟩
    have h := h1 e0
    refine x_astore C dL_sign_13 15 rfl (by decide) [(4, .ref q), (0, .ref (ad 0)), (1, .int p1), (2, .int p2), (3, .ref (ad 91))] rfl ?_
    refine x_iconst C dL_sign_15 16 rfl 1 rfl ?_
    exact x_iretH C rfl (by decide) dL_sign_16 h
  · exact absurd (h2 e0) (by intro hz; cases hz)
  · have h := h0 e0
    refine x_i2l C dL_sign_8 9 rfl ?_
    refine x_last C 91 lc91 (fun _ => EC_91) 2 rfl dL_sign_9 10 rfl (by decide) h (fun a1 h => ?_)
    refine x_goto C dL_sign_10 17 rfl ?_
    refine x_iconst C dL_sign_17 18 rfl 0 rfl ?_
    exact x_iretH C rfl (by decide) dL_sign_18 h
abbrev rm_L_find : Room := { frames := 8, cells := 3, slots := 18, locals := 126 }
theorem c_L_find {l : Launch} {D : va_G} {ca : Nat → ClassId} {ad : Nat → Nat} (hI : xInj ad NCC) (hst : l.stackTraces = false) {N : Nat} {ah : AH} {p1 : Int32} {r : Int32} {a : AH} (h : F_L_find N ah p1 = some (r, a)) : xMh l yL_find cL_find 4 [(0, 9, 12, 13)] rm_L_find D vwCl (tysC ca) (EC ad ca) NCC ad [.ref (ad 0), .int p1, .ref (ad 91)] ah (r, a) := by
  refine x_meth (by decide) (Nat.le_of_ble_eq_true rfl) hI EC_loc ?_
  intro p e s m args below meth c C hT htab
  unfold F_L_find at h
  refine x_aload_n C dL_find_0 1 rfl 2 rfl ?_
  refine x_iconst C dL_find_1 2 rfl 0 rfl ?_
  refine x_aload_n C dL_find_2 3 rfl 0 rfl ?_
  refine x_iload_n C dL_find_3 4 rfl 1 rfl ?_
  obtain ⟨k0, r0, a0, hq, h0, h1, h2⟩ := xbh_some h
  refine x_callH C hst hT 0 (c_X11_find C.2.2.2.2.2.2.1 hst hq) lc0 EC_0 rfl wml_L_45 wq_X11_find rfl ⟨by decide, by decide⟩ rfl rfl ⟨by decide, by decide⟩ dL_find_4 7 rfl rfl (Nat.le_of_ble_eq_true rfl) (fun e0 => ?_) (fun e0 => ?_) (fun e0 => ?_)
  · exact absurd (h1 e0) (by intro hz; cases hz)
  · refine ⟨12, x_ct1 htab (by decide) (by decide) (C.2.2.2.2.1 _ wmd_L_13) hT.2.2.2.2.1.2.2.2.2, fun q => ?_⟩
    have h := h2 e0
    refine x_astore_n C dL_find_12 13 rfl (by decide) [(3, .ref q), (0, .ref (ad 0)), (1, .int p1), (2, .ref (ad 91))] rfl ?_
    refine x_iconst C dL_find_13 14 rfl 1 rfl ?_
    exact x_iretH C rfl (by decide) dL_find_14 h
  · have h := h0 e0
    refine x_i2l C dL_find_7 8 rfl ?_
    refine x_last C 91 lc91 (fun _ => EC_91) 2 rfl dL_find_8 9 rfl (by decide) h (fun a1 h => ?_)
    refine x_goto C dL_find_9 15 rfl ?_
    refine x_iconst C dL_find_15 16 rfl 0 rfl ?_
    exact x_iretH C rfl (by decide) dL_find_16 h
abbrev rm_L_node : Room := { frames := 9, cells := 3, slots := 18, locals := 147 }
theorem c_L_node {l : Launch} {D : va_G} {ca : Nat → ClassId} {ad : Nat → Nat} (hI : xInj ad NCC) (hst : l.stackTraces = false) {N : Nat} {ah : AH} {p1 : Int32} {p2 : Int32} {r : Int32} {a : AH} (h : F_L_node N ah p1 p2 = some (r, a)) : xMh l yL_node cL_node 5 [(0, 10, 13, 31), (0, 10, 17, 13)] rm_L_node D vwCl (tysC ca) (EC ad ca) NCC ad [.ref (ad 0), .int p1, .int p2, .ref (ad 91)] ah (r, a) := by
  refine x_meth (by decide) (Nat.le_of_ble_eq_true rfl) hI EC_loc ?_
  intro p e s m args below meth c C hT htab
  unfold F_L_node at h
  refine x_aload_n C dL_node_0 1 rfl 3 rfl ?_
  refine x_iconst C dL_node_1 2 rfl 0 rfl ?_
  refine x_aload_n C dL_node_2 3 rfl 0 rfl ?_
  refine x_iload_n C dL_node_3 4 rfl 1 rfl ?_
  refine x_iload_n C dL_node_4 5 rfl 2 rfl ?_
  obtain ⟨k0, r0, a0, hq, h0, h1, h2⟩ := xbh_some h
  refine x_callH C hst hT 0 (c_X11_node C.2.2.2.2.2.2.1 hst hq) lc0 EC_0 rfl wml_L_48 wq_X11_node rfl ⟨by decide, by decide⟩ rfl rfl ⟨by decide, by decide⟩ dL_node_5 8 rfl rfl (Nat.le_of_ble_eq_true rfl) (fun e0 => ?_) (fun e0 => ?_) (fun e0 => ?_)
  · refine ⟨13, x_ct2a htab (by decide) (by decide) (C.2.2.2.2.1 _ wmd_L_31) hT.2.2.2.2.1.2.2.2.1, fun q => ?_⟩
    have h := h1 e0
    refine x_astore C dL_node_13 15 rfl (by decide) [(4, .ref q), (0, .ref (ad 0)), (1, .int p1), (2, .int p2), (3, .ref (ad 91))] rfl ?_
    refine x_iconst C dL_node_15 16 rfl 1 rfl ?_
    exact x_iretH C rfl (by decide) dL_node_16 h
  · refine ⟨17, x_ct2b htab (by decide) (by decide) (by decide) (C.2.2.2.2.1 _ wmd_L_31) (C.2.2.2.2.1 _ wmd_L_13) hT.2.2.2.2.2.1 hT.2.2.2.2.1.2.2.2.2, fun q => ?_⟩
    have h := h2 e0
    refine x_astore C dL_node_17 19 rfl (by decide) [(4, .ref q), (0, .ref (ad 0)), (1, .int p1), (2, .int p2), (3, .ref (ad 91))] rfl ?_
    refine x_iconst C dL_node_19 20 rfl 2 rfl ?_
    exact x_iretH C rfl (by decide) dL_node_20 h
  · have h := h0 e0
    refine x_i2l C dL_node_8 9 rfl ?_
    refine x_last C 91 lc91 (fun _ => EC_91) 2 rfl dL_node_9 10 rfl (by decide) h (fun a1 h => ?_)
    refine x_goto C dL_node_10 21 rfl ?_
    refine x_iconst C dL_node_21 22 rfl 0 rfl ?_
    exact x_iretH C rfl (by decide) dL_node_22 h
abbrev rm_L_child : Room := { frames := 9, cells := 3, slots := 18, locals := 147 }
theorem c_L_child {l : Launch} {D : va_G} {ca : Nat → ClassId} {ad : Nat → Nat} (hI : xInj ad NCC) (hst : l.stackTraces = false) {N : Nat} {ah : AH} {p1 : Int32} {p2 : Int32} {r : Int32} {a : AH} (h : F_L_child N ah p1 p2 = some (r, a)) : xMh l yL_child cL_child 5 [(0, 10, 13, 31)] rm_L_child D vwCl (tysC ca) (EC ad ca) NCC ad [.ref (ad 0), .int p1, .int p2, .ref (ad 91)] ah (r, a) := by
  refine x_meth (by decide) (Nat.le_of_ble_eq_true rfl) hI EC_loc ?_
  intro p e s m args below meth c C hT htab
  unfold F_L_child at h
  refine x_aload_n C dL_child_0 1 rfl 3 rfl ?_
  refine x_iconst C dL_child_1 2 rfl 0 rfl ?_
  refine x_aload_n C dL_child_2 3 rfl 0 rfl ?_
  refine x_iload_n C dL_child_3 4 rfl 1 rfl ?_
  refine x_iload_n C dL_child_4 5 rfl 2 rfl ?_
  obtain ⟨k0, r0, a0, hq, h0, h1, h2⟩ := xbh_some h
  refine x_callH C hst hT 0 (c_X11_child C.2.2.2.2.2.2.1 hst hq) lc0 EC_0 rfl wml_L_51 wq_X11_child rfl ⟨by decide, by decide⟩ rfl rfl ⟨by decide, by decide⟩ dL_child_5 8 rfl rfl (Nat.le_of_ble_eq_true rfl) (fun e0 => ?_) (fun e0 => ?_) (fun e0 => ?_)
  · refine ⟨13, x_ct1 htab (by decide) (by decide) (C.2.2.2.2.1 _ wmd_L_31) hT.2.2.2.2.1.2.2.2.1, fun q => ?_⟩
    have h := h1 e0
    refine x_astore C dL_child_13 15 rfl (by decide) [(4, .ref q), (0, .ref (ad 0)), (1, .int p1), (2, .int p2), (3, .ref (ad 91))] rfl ?_
    refine x_iconst C dL_child_15 16 rfl 1 rfl ?_
    exact x_iretH C rfl (by decide) dL_child_16 h
  · exact absurd (h2 e0) (by intro hz; cases hz)
  · have h := h0 e0
    refine x_i2l C dL_child_8 9 rfl ?_
    refine x_last C 91 lc91 (fun _ => EC_91) 2 rfl dL_child_9 10 rfl (by decide) h (fun a1 h => ?_)
    refine x_goto C dL_child_10 17 rfl ?_
    refine x_iconst C dL_child_17 18 rfl 0 rfl ?_
    exact x_iretH C rfl (by decide) dL_child_18 h
abbrev rm_L_shape : Room := { frames := 9, cells := 3, slots := 18, locals := 147 }
theorem c_L_shape {l : Launch} {D : va_G} {ca : Nat → ClassId} {ad : Nat → Nat} (hI : xInj ad NCC) (hst : l.stackTraces = false) {N : Nat} {ah : AH} {p1 : Int32} {p2 : Int32} {r : Int32} {a : AH} (h : F_L_shape N ah p1 p2 = some (r, a)) : xMh l yL_shape cL_shape 5 [(0, 10, 13, 31), (0, 10, 17, 13)] rm_L_shape D vwCl (tysC ca) (EC ad ca) NCC ad [.ref (ad 0), .int p1, .int p2, .ref (ad 91)] ah (r, a) := by
  refine x_meth (by decide) (Nat.le_of_ble_eq_true rfl) hI EC_loc ?_
  intro p e s m args below meth c C hT htab
  unfold F_L_shape at h
  refine x_aload_n C dL_shape_0 1 rfl 3 rfl ?_
  refine x_iconst C dL_shape_1 2 rfl 0 rfl ?_
  refine x_aload_n C dL_shape_2 3 rfl 0 rfl ?_
  refine x_iload_n C dL_shape_3 4 rfl 1 rfl ?_
  refine x_iload_n C dL_shape_4 5 rfl 2 rfl ?_
  obtain ⟨k0, r0, a0, hq, h0, h1, h2⟩ := xbh_some h
  refine x_callH C hst hT 0 (c_X11_shape C.2.2.2.2.2.2.1 hst hq) lc0 EC_0 rfl wml_L_54 wq_X11_shape rfl ⟨by decide, by decide⟩ rfl rfl ⟨by decide, by decide⟩ dL_shape_5 8 rfl rfl (Nat.le_of_ble_eq_true rfl) (fun e0 => ?_) (fun e0 => ?_) (fun e0 => ?_)
  · refine ⟨13, x_ct2a htab (by decide) (by decide) (C.2.2.2.2.1 _ wmd_L_31) hT.2.2.2.2.1.2.2.2.1, fun q => ?_⟩
    have h := h1 e0
    refine x_astore C dL_shape_13 15 rfl (by decide) [(4, .ref q), (0, .ref (ad 0)), (1, .int p1), (2, .int p2), (3, .ref (ad 91))] rfl ?_
    refine x_iconst C dL_shape_15 16 rfl 1 rfl ?_
    exact x_iretH C rfl (by decide) dL_shape_16 h
  · refine ⟨17, x_ct2b htab (by decide) (by decide) (by decide) (C.2.2.2.2.1 _ wmd_L_31) (C.2.2.2.2.1 _ wmd_L_13) hT.2.2.2.2.2.1 hT.2.2.2.2.1.2.2.2.2, fun q => ?_⟩
    have h := h2 e0
    refine x_astore C dL_shape_17 19 rfl (by decide) [(4, .ref q), (0, .ref (ad 0)), (1, .int p1), (2, .int p2), (3, .ref (ad 91))] rfl ?_
    refine x_iconst C dL_shape_19 20 rfl 2 rfl ?_
    exact x_iretH C rfl (by decide) dL_shape_20 h
  · have h := h0 e0
    refine x_i2l C dL_shape_8 9 rfl ?_
    refine x_last C 91 lc91 (fun _ => EC_91) 2 rfl dL_shape_9 10 rfl (by decide) h (fun a1 h => ?_)
    refine x_goto C dL_shape_10 21 rfl ?_
    refine x_iconst C dL_shape_21 22 rfl 0 rfl ?_
    exact x_iretH C rfl (by decide) dL_shape_22 h
abbrev rm_L_token : Room := { frames := 9, cells := 3, slots := 18, locals := 147 }
theorem c_L_token {l : Launch} {D : va_G} {ca : Nat → ClassId} {ad : Nat → Nat} (hI : xInj ad NCC) (hst : l.stackTraces = false) {N : Nat} {ah : AH} {p1 : Int32} {p2 : Int32} {r : Int32} {a : AH} (h : F_L_token N ah p1 p2 = some (r, a)) : xMh l yL_token cL_token 5 [(0, 10, 13, 31), (0, 10, 17, 13)] rm_L_token D vwCl (tysC ca) (EC ad ca) NCC ad [.ref (ad 0), .int p1, .int p2, .ref (ad 91)] ah (r, a) := by
  refine x_meth (by decide) (Nat.le_of_ble_eq_true rfl) hI EC_loc ?_
  intro p e s m args below meth c C hT htab
  unfold F_L_token at h
  refine x_aload_n C dL_token_0 1 rfl 3 rfl ?_
  refine x_iconst C dL_token_1 2 rfl 0 rfl ?_
  refine x_aload_n C dL_token_2 3 rfl 0 rfl ?_
  refine x_iload_n C dL_token_3 4 rfl 1 rfl ?_
  refine x_iload_n C dL_token_4 5 rfl 2 rfl ?_
  obtain ⟨k0, r0, a0, hq, h0, h1, h2⟩ := xbh_some h
  refine x_callH C hst hT 0 (c_X11_token C.2.2.2.2.2.2.1 hst hq) lc0 EC_0 rfl wml_L_57 wq_X11_token rfl ⟨by decide, by decide⟩ rfl rfl ⟨by decide, by decide⟩ dL_token_5 8 rfl rfl (Nat.le_of_ble_eq_true rfl) (fun e0 => ?_) (fun e0 => ?_) (fun e0 => ?_)
  · refine ⟨13, x_ct2a htab (by decide) (by decide) (C.2.2.2.2.1 _ wmd_L_31) hT.2.2.2.2.1.2.2.2.1, fun q => ?_⟩
    have h := h1 e0
    refine x_astore C dL_token_13 15 rfl (by decide) [(4, .ref q), (0, .ref (ad 0)), (1, .int p1), (2, .int p2), (3, .ref (ad 91))] rfl ?_
    refine x_iconst C dL_token_15 16 rfl 1 rfl ?_
    exact x_iretH C rfl (by decide) dL_token_16 h
  · refine ⟨17, x_ct2b htab (by decide) (by decide) (by decide) (C.2.2.2.2.1 _ wmd_L_31) (C.2.2.2.2.1 _ wmd_L_13) hT.2.2.2.2.2.1 hT.2.2.2.2.1.2.2.2.2, fun q => ?_⟩
    have h := h2 e0
    refine x_astore C dL_token_17 19 rfl (by decide) [(4, .ref q), (0, .ref (ad 0)), (1, .int p1), (2, .int p2), (3, .ref (ad 91))] rfl ?_
    refine x_iconst C dL_token_19 20 rfl 2 rfl ?_
    exact x_iretH C rfl (by decide) dL_token_20 h
  · have h := h0 e0
    refine x_i2l C dL_token_8 9 rfl ?_
    refine x_last C 91 lc91 (fun _ => EC_91) 2 rfl dL_token_9 10 rfl (by decide) h (fun a1 h => ?_)
    refine x_goto C dL_token_10 21 rfl ?_
    refine x_iconst C dL_token_21 22 rfl 0 rfl ?_
    exact x_iretH C rfl (by decide) dL_token_22 h
abbrev rm_L_cell : Room := { frames := 9, cells := 3, slots := 18, locals := 149 }
theorem c_L_cell {l : Launch} {D : va_G} {ca : Nat → ClassId} {ad : Nat → Nat} (hI : xInj ad NCC) (hst : l.stackTraces = false) {N : Nat} {ah : AH} {p1 : Int32} {p2 : Int32} {p3 : Int32} {r : Int32} {a : AH} (h : F_L_cell N ah p1 p2 p3 = some (r, a)) : xMh l yL_cell cL_cell 6 [(0, 12, 15, 31), (0, 12, 19, 13)] rm_L_cell D vwCl (tysC ca) (EC ad ca) NCC ad [.ref (ad 0), .int p1, .int p2, .int p3, .ref (ad 91)] ah (r, a) := by
  refine x_meth (by decide) (Nat.le_of_ble_eq_true rfl) hI EC_loc ?_
  intro p e s m args below meth c C hT htab
  unfold F_L_cell at h
  refine x_aload C dL_cell_0 2 rfl 4 rfl ?_
  refine x_iconst C dL_cell_2 3 rfl 0 rfl ?_
  refine x_aload_n C dL_cell_3 4 rfl 0 rfl ?_
  refine x_iload_n C dL_cell_4 5 rfl 1 rfl ?_
  refine x_iload_n C dL_cell_5 6 rfl 2 rfl ?_
  refine x_iload_n C dL_cell_6 7 rfl 3 rfl ?_
  obtain ⟨k0, r0, a0, hq, h0, h1, h2⟩ := xbh_some h
  refine x_callH C hst hT 0 (c_X11_cell C.2.2.2.2.2.2.1 hst hq) lc0 EC_0 rfl wml_L_60 wq_X11_cell rfl ⟨by decide, by decide⟩ rfl rfl ⟨by decide, by decide⟩ dL_cell_7 10 rfl rfl (Nat.le_of_ble_eq_true rfl) (fun e0 => ?_) (fun e0 => ?_) (fun e0 => ?_)
  · refine ⟨15, x_ct2a htab (by decide) (by decide) (C.2.2.2.2.1 _ wmd_L_31) hT.2.2.2.2.1.2.2.2.1, fun q => ?_⟩
    have h := h1 e0
    refine x_astore C dL_cell_15 17 rfl (by decide) [(5, .ref q), (0, .ref (ad 0)), (1, .int p1), (2, .int p2), (3, .int p3), (4, .ref (ad 91))] rfl ?_
    refine x_iconst C dL_cell_17 18 rfl 1 rfl ?_
    exact x_iretH C rfl (by decide) dL_cell_18 h
  · refine ⟨19, x_ct2b htab (by decide) (by decide) (by decide) (C.2.2.2.2.1 _ wmd_L_31) (C.2.2.2.2.1 _ wmd_L_13) hT.2.2.2.2.2.1 hT.2.2.2.2.1.2.2.2.2, fun q => ?_⟩
    have h := h2 e0
    refine x_astore C dL_cell_19 21 rfl (by decide) [(5, .ref q), (0, .ref (ad 0)), (1, .int p1), (2, .int p2), (3, .int p3), (4, .ref (ad 91))] rfl ?_
    refine x_iconst C dL_cell_21 22 rfl 2 rfl ?_
    exact x_iretH C rfl (by decide) dL_cell_22 h
  · have h := h0 e0
    refine x_i2l C dL_cell_10 11 rfl ?_
    refine x_last C 91 lc91 (fun _ => EC_91) 2 rfl dL_cell_11 12 rfl (by decide) h (fun a1 h => ?_)
    refine x_goto C dL_cell_12 23 rfl ?_
    refine x_iconst C dL_cell_23 24 rfl 0 rfl ?_
    exact x_iretH C rfl (by decide) dL_cell_24 h
abbrev rm_L_rest : Room := { frames := 9, cells := 3, slots := 18, locals := 147 }
theorem c_L_rest {l : Launch} {D : va_G} {ca : Nat → ClassId} {ad : Nat → Nat} (hI : xInj ad NCC) (hst : l.stackTraces = false) {N : Nat} {ah : AH} {p1 : Int32} {p2 : Int32} {r : Int32} {a : AH} (h : F_L_rest N ah p1 p2 = some (r, a)) : xMh l yL_rest cL_rest 5 [(0, 10, 13, 31)] rm_L_rest D vwCl (tysC ca) (EC ad ca) NCC ad [.ref (ad 0), .int p1, .int p2, .ref (ad 91)] ah (r, a) := by
  refine x_meth (by decide) (Nat.le_of_ble_eq_true rfl) hI EC_loc ?_
  intro p e s m args below meth c C hT htab
  unfold F_L_rest at h
  refine x_aload_n C dL_rest_0 1 rfl 3 rfl ?_
  refine x_iconst C dL_rest_1 2 rfl 0 rfl ?_
  refine x_aload_n C dL_rest_2 3 rfl 0 rfl ?_
  refine x_iload_n C dL_rest_3 4 rfl 1 rfl ?_
  refine x_iload_n C dL_rest_4 5 rfl 2 rfl ?_
  obtain ⟨k0, r0, a0, hq, h0, h1, h2⟩ := xbh_some h
  refine x_callH C hst hT 0 (c_X11_rest C.2.2.2.2.2.2.1 hst hq) lc0 EC_0 rfl wml_L_64 wq_X11_rest rfl ⟨by decide, by decide⟩ rfl rfl ⟨by decide, by decide⟩ dL_rest_5 8 rfl rfl (Nat.le_of_ble_eq_true rfl) (fun e0 => ?_) (fun e0 => ?_) (fun e0 => ?_)
  · refine ⟨13, x_ct1 htab (by decide) (by decide) (C.2.2.2.2.1 _ wmd_L_31) hT.2.2.2.2.1.2.2.2.1, fun q => ?_⟩
    have h := h1 e0
    refine x_astore C dL_rest_13 15 rfl (by decide) [(4, .ref q), (0, .ref (ad 0)), (1, .int p1), (2, .int p2), (3, .ref (ad 91))] rfl ?_
    refine x_iconst C dL_rest_15 16 rfl 1 rfl ?_
    exact x_iretH C rfl (by decide) dL_rest_16 h
  · exact absurd (h2 e0) (by intro hz; cases hz)
  · have h := h0 e0
    refine x_i2l C dL_rest_8 9 rfl ?_
    refine x_last C 91 lc91 (fun _ => EC_91) 2 rfl dL_rest_9 10 rfl (by decide) h (fun a1 h => ?_)
    refine x_goto C dL_rest_10 17 rfl ?_
    refine x_iconst C dL_rest_17 18 rfl 0 rfl ?_
    exact x_iretH C rfl (by decide) dL_rest_18 h
abbrev rm_L_best : Room := { frames := 9, cells := 3, slots := 18, locals := 148 }
theorem c_L_best {l : Launch} {D : va_G} {ca : Nat → ClassId} {ad : Nat → Nat} (hI : xInj ad NCC) (hst : l.stackTraces = false) {N : Nat} {ah : AH} {p1 : Int32} {p2 : Int32} {p3 : Int32} {r : Int32} {a : AH} (h : F_L_best N ah p1 p2 p3 = some (r, a)) : xMh l yL_best cL_best 6 [(0, 12, 15, 31), (0, 12, 19, 13)] rm_L_best D vwCl (tysC ca) (EC ad ca) NCC ad [.ref (ad 0), .int p1, .int p2, .int p3, .ref (ad 91)] ah (r, a) := by
  refine x_meth (by decide) (Nat.le_of_ble_eq_true rfl) hI EC_loc ?_
  intro p e s m args below meth c C hT htab
  unfold F_L_best at h
  refine x_aload C dL_best_0 2 rfl 4 rfl ?_
  refine x_iconst C dL_best_2 3 rfl 0 rfl ?_
  refine x_aload_n C dL_best_3 4 rfl 0 rfl ?_
  refine x_iload_n C dL_best_4 5 rfl 1 rfl ?_
  refine x_iload_n C dL_best_5 6 rfl 2 rfl ?_
  refine x_iload_n C dL_best_6 7 rfl 3 rfl ?_
  obtain ⟨k0, r0, a0, hq, h0, h1, h2⟩ := xbh_some h
  refine x_callH C hst hT 0 (c_X11_best C.2.2.2.2.2.2.1 hst hq) lc0 EC_0 rfl wml_L_67 wq_X11_best rfl ⟨by decide, by decide⟩ rfl rfl ⟨by decide, by decide⟩ dL_best_7 10 rfl rfl (Nat.le_of_ble_eq_true rfl) (fun e0 => ?_) (fun e0 => ?_) (fun e0 => ?_)
  · refine ⟨15, x_ct2a htab (by decide) (by decide) (C.2.2.2.2.1 _ wmd_L_31) hT.2.2.2.2.1.2.2.2.1, fun q => ?_⟩
    have h := h1 e0
    refine x_astore C dL_best_15 17 rfl (by decide) [(5, .ref q), (0, .ref (ad 0)), (1, .int p1), (2, .int p2), (3, .int p3), (4, .ref (ad 91))] rfl ?_
    refine x_iconst C dL_best_17 18 rfl 1 rfl ?_
    exact x_iretH C rfl (by decide) dL_best_18 h
  · refine ⟨19, x_ct2b htab (by decide) (by decide) (by decide) (C.2.2.2.2.1 _ wmd_L_31) (C.2.2.2.2.1 _ wmd_L_13) hT.2.2.2.2.2.1 hT.2.2.2.2.1.2.2.2.2, fun q => ?_⟩
    have h := h2 e0
    refine x_astore C dL_best_19 21 rfl (by decide) [(5, .ref q), (0, .ref (ad 0)), (1, .int p1), (2, .int p2), (3, .int p3), (4, .ref (ad 91))] rfl ?_
    refine x_iconst C dL_best_21 22 rfl 2 rfl ?_
    exact x_iretH C rfl (by decide) dL_best_22 h
  · have h := h0 e0
    refine x_i2l C dL_best_10 11 rfl ?_
    refine x_last C 91 lc91 (fun _ => EC_91) 2 rfl dL_best_11 12 rfl (by decide) h (fun a1 h => ?_)
    refine x_goto C dL_best_12 23 rfl ?_
    refine x_iconst C dL_best_23 24 rfl 0 rfl ?_
    exact x_iretH C rfl (by decide) dL_best_24 h
abbrev rm_L_price : Room := { frames := 9, cells := 3, slots := 18, locals := 147 }
theorem c_L_price {l : Launch} {D : va_G} {ca : Nat → ClassId} {ad : Nat → Nat} (hI : xInj ad NCC) (hst : l.stackTraces = false) {N : Nat} {ah : AH} {p1 : Int32} {p2 : Int32} {r : Int32} {a : AH} (h : F_L_price N ah p1 p2 = some (r, a)) : xMh l yL_price cL_price 5 [(0, 10, 13, 31)] rm_L_price D vwCl (tysC ca) (EC ad ca) NCC ad [.ref (ad 0), .int p1, .int p2, .ref (ad 91)] ah (r, a) := by
  refine x_meth (by decide) (Nat.le_of_ble_eq_true rfl) hI EC_loc ?_
  intro p e s m args below meth c C hT htab
  unfold F_L_price at h
  refine x_aload_n C dL_price_0 1 rfl 3 rfl ?_
  refine x_iconst C dL_price_1 2 rfl 0 rfl ?_
  refine x_aload_n C dL_price_2 3 rfl 0 rfl ?_
  refine x_iload_n C dL_price_3 4 rfl 1 rfl ?_
  refine x_iload_n C dL_price_4 5 rfl 2 rfl ?_
  obtain ⟨k0, r0, a0, hq, h0, h1, h2⟩ := xbh_some h
  refine x_callH C hst hT 0 (c_X11_price C.2.2.2.2.2.2.1 hst hq) lc0 EC_0 rfl wml_L_70 wq_X11_price rfl ⟨by decide, by decide⟩ rfl rfl ⟨by decide, by decide⟩ dL_price_5 8 rfl rfl (Nat.le_of_ble_eq_true rfl) (fun e0 => ?_) (fun e0 => ?_) (fun e0 => ?_)
  · refine ⟨13, x_ct1 htab (by decide) (by decide) (C.2.2.2.2.1 _ wmd_L_31) hT.2.2.2.2.1.2.2.2.1, fun q => ?_⟩
    have h := h1 e0
    refine x_astore C dL_price_13 15 rfl (by decide) [(4, .ref q), (0, .ref (ad 0)), (1, .int p1), (2, .int p2), (3, .ref (ad 91))] rfl ?_
    refine x_iconst C dL_price_15 16 rfl 1 rfl ?_
    exact x_iretH C rfl (by decide) dL_price_16 h
  · exact absurd (h2 e0) (by intro hz; cases hz)
  · have h := h0 e0
    refine x_i2l C dL_price_8 9 rfl ?_
    refine x_last C 91 lc91 (fun _ => EC_91) 2 rfl dL_price_9 10 rfl (by decide) h (fun a1 h => ?_)
    refine x_goto C dL_price_10 17 rfl ?_
    refine x_iconst C dL_price_17 18 rfl 0 rfl ?_
    exact x_iretH C rfl (by decide) dL_price_18 h
abbrev rm_L_within : Room := { frames := 9, cells := 3, slots := 18, locals := 149 }
theorem c_L_within {l : Launch} {D : va_G} {ca : Nat → ClassId} {ad : Nat → Nat} (hI : xInj ad NCC) (hst : l.stackTraces = false) {N : Nat} {ah : AH} {p1 : Int32} {p2 : Int32} {r : Int32} {a : AH} (h : F_L_within N ah p1 p2 = some (r, a)) : xMh l yL_within cL_within 5 [(0, 10, 13, 31), (0, 10, 17, 13)] rm_L_within D vwCl (tysC ca) (EC ad ca) NCC ad [.ref (ad 0), .int p1, .int p2, .ref (ad 91)] ah (r, a) := by
  refine x_meth (by decide) (Nat.le_of_ble_eq_true rfl) hI EC_loc ?_
  intro p e s m args below meth c C hT htab
  unfold F_L_within at h
  refine x_aload_n C dL_within_0 1 rfl 3 rfl ?_
  refine x_iconst C dL_within_1 2 rfl 0 rfl ?_
  refine x_aload_n C dL_within_2 3 rfl 0 rfl ?_
  refine x_iload_n C dL_within_3 4 rfl 1 rfl ?_
  refine x_iload_n C dL_within_4 5 rfl 2 rfl ?_
  obtain ⟨k0, r0, a0, hq, h0, h1, h2⟩ := xbh_some h
  refine x_callH C hst hT 0 (c_X11_within C.2.2.2.2.2.2.1 hst hq) lc0 EC_0 rfl wml_L_73 wq_X11_within rfl ⟨by decide, by decide⟩ rfl rfl ⟨by decide, by decide⟩ dL_within_5 8 rfl rfl (Nat.le_of_ble_eq_true rfl) (fun e0 => ?_) (fun e0 => ?_) (fun e0 => ?_)
  · refine ⟨13, x_ct2a htab (by decide) (by decide) (C.2.2.2.2.1 _ wmd_L_31) hT.2.2.2.2.1.2.2.2.1, fun q => ?_⟩
    have h := h1 e0
    refine x_astore C dL_within_13 15 rfl (by decide) [(4, .ref q), (0, .ref (ad 0)), (1, .int p1), (2, .int p2), (3, .ref (ad 91))] rfl ?_
    refine x_iconst C dL_within_15 16 rfl 1 rfl ?_
    exact x_iretH C rfl (by decide) dL_within_16 h
  · refine ⟨17, x_ct2b htab (by decide) (by decide) (by decide) (C.2.2.2.2.1 _ wmd_L_31) (C.2.2.2.2.1 _ wmd_L_13) hT.2.2.2.2.2.1 hT.2.2.2.2.1.2.2.2.2, fun q => ?_⟩
    have h := h2 e0
    refine x_astore C dL_within_17 19 rfl (by decide) [(4, .ref q), (0, .ref (ad 0)), (1, .int p1), (2, .int p2), (3, .ref (ad 91))] rfl ?_
    refine x_iconst C dL_within_19 20 rfl 2 rfl ?_
    exact x_iretH C rfl (by decide) dL_within_20 h
  · have h := h0 e0
    refine x_i2l C dL_within_8 9 rfl ?_
    refine x_last C 91 lc91 (fun _ => EC_91) 2 rfl dL_within_9 10 rfl (by decide) h (fun a1 h => ?_)
    refine x_goto C dL_within_10 21 rfl ?_
    refine x_iconst C dL_within_21 22 rfl 0 rfl ?_
    exact x_iretH C rfl (by decide) dL_within_22 h
abbrev rm_L_mended : Room := { frames := 9, cells := 3, slots := 18, locals := 147 }
theorem c_L_mended {l : Launch} {D : va_G} {ca : Nat → ClassId} {ad : Nat → Nat} (hI : xInj ad NCC) (hst : l.stackTraces = false) {N : Nat} {ah : AH} {p1 : Int32} {p2 : Int32} {r : Int32} {a : AH} (h : F_L_mended N ah p1 p2 = some (r, a)) : xMh l yL_mended cL_mended 5 [(0, 10, 13, 31), (0, 10, 17, 13)] rm_L_mended D vwCl (tysC ca) (EC ad ca) NCC ad [.ref (ad 0), .int p1, .int p2, .ref (ad 91)] ah (r, a) := by
  refine x_meth (by decide) (Nat.le_of_ble_eq_true rfl) hI EC_loc ?_
  intro p e s m args below meth c C hT htab
  unfold F_L_mended at h
  refine x_aload_n C dL_mended_0 1 rfl 3 rfl ?_
  refine x_iconst C dL_mended_1 2 rfl 0 rfl ?_
  refine x_aload_n C dL_mended_2 3 rfl 0 rfl ?_
  refine x_iload_n C dL_mended_3 4 rfl 1 rfl ?_
  refine x_iload_n C dL_mended_4 5 rfl 2 rfl ?_
  obtain ⟨k0, r0, a0, hq, h0, h1, h2⟩ := xbh_some h
  refine x_callH C hst hT 0 (c_X11_mended C.2.2.2.2.2.2.1 hst hq) lc0 EC_0 rfl wml_L_76 wq_X11_mended rfl ⟨by decide, by decide⟩ rfl rfl ⟨by decide, by decide⟩ dL_mended_5 8 rfl rfl (Nat.le_of_ble_eq_true rfl) (fun e0 => ?_) (fun e0 => ?_) (fun e0 => ?_)
  · refine ⟨13, x_ct2a htab (by decide) (by decide) (C.2.2.2.2.1 _ wmd_L_31) hT.2.2.2.2.1.2.2.2.1, fun q => ?_⟩
    have h := h1 e0
    refine x_astore C dL_mended_13 15 rfl (by decide) [(4, .ref q), (0, .ref (ad 0)), (1, .int p1), (2, .int p2), (3, .ref (ad 91))] rfl ?_
    refine x_iconst C dL_mended_15 16 rfl 1 rfl ?_
    exact x_iretH C rfl (by decide) dL_mended_16 h
  · refine ⟨17, x_ct2b htab (by decide) (by decide) (by decide) (C.2.2.2.2.1 _ wmd_L_31) (C.2.2.2.2.1 _ wmd_L_13) hT.2.2.2.2.2.1 hT.2.2.2.2.1.2.2.2.2, fun q => ?_⟩
    have h := h2 e0
    refine x_astore C dL_mended_17 19 rfl (by decide) [(4, .ref q), (0, .ref (ad 0)), (1, .int p1), (2, .int p2), (3, .ref (ad 91))] rfl ?_
    refine x_iconst C dL_mended_19 20 rfl 2 rfl ?_
    exact x_iretH C rfl (by decide) dL_mended_20 h
  · have h := h0 e0
    refine x_i2l C dL_mended_8 9 rfl ?_
    refine x_last C 91 lc91 (fun _ => EC_91) 2 rfl dL_mended_9 10 rfl (by decide) h (fun a1 h => ?_)
    refine x_goto C dL_mended_10 21 rfl ?_
    refine x_iconst C dL_mended_21 22 rfl 0 rfl ?_
    exact x_iretH C rfl (by decide) dL_mended_22 h
abbrev rm_L_text : Room := { frames := 8, cells := 3, slots := 18, locals := 170 }
theorem c_L_text {l : Launch} {D : va_G} {ca : Nat → ClassId} {ad : Nat → Nat} (hI : xInj ad NCC) (hst : l.stackTraces = false) {N : Nat} {ah : AH} {p1 : Int32} {r : Int32} {a : AH} (h : F_L_text N ah p1 = some (r, a)) : xMh l yL_text cL_text 4 [(0, 9, 12, 13)] rm_L_text D vwCl (tysC ca) (EC ad ca) NCC ad [.ref (ad 0), .int p1, .ref (ad 91)] ah (r, a) := by
  refine x_meth (by decide) (Nat.le_of_ble_eq_true rfl) hI EC_loc ?_
  intro p e s m args below meth c C hT htab
  unfold F_L_text at h
  refine x_aload_n C dL_text_0 1 rfl 2 rfl ?_
  refine x_iconst C dL_text_1 2 rfl 0 rfl ?_
  refine x_aload_n C dL_text_2 3 rfl 0 rfl ?_
  refine x_iload_n C dL_text_3 4 rfl 1 rfl ?_
  obtain ⟨k0, r0, a0, hq, h0, h1, h2⟩ := xbh_some h
  refine x_callH C hst hT 0 (c_X11_text C.2.2.2.2.2.2.1 hst hq) lc0 EC_0 rfl wml_L_79 wq_X11_text rfl ⟨by decide, by decide⟩ rfl rfl ⟨by decide, by decide⟩ dL_text_4 7 rfl rfl (Nat.le_of_ble_eq_true rfl) (fun e0 => ?_) (fun e0 => ?_) (fun e0 => ?_)
  · exact absurd (h1 e0) (by intro hz; cases hz)
  · refine ⟨12, x_ct1 htab (by decide) (by decide) (C.2.2.2.2.1 _ wmd_L_13) hT.2.2.2.2.1.2.2.2.2, fun q => ?_⟩
    have h := h2 e0
    refine x_astore_n C dL_text_12 13 rfl (by decide) [(3, .ref q), (0, .ref (ad 0)), (1, .int p1), (2, .ref (ad 91))] rfl ?_
    refine x_iconst C dL_text_13 14 rfl 1 rfl ?_
    exact x_iretH C rfl (by decide) dL_text_14 h
  · have h := h0 e0
    refine x_i2l C dL_text_7 8 rfl ?_
    refine x_last C 91 lc91 (fun _ => EC_91) 2 rfl dL_text_8 9 rfl (by decide) h (fun a1 h => ?_)
    refine x_goto C dL_text_9 15 rfl ?_
    refine x_iconst C dL_text_15 16 rfl 0 rfl ?_
    exact x_iretH C rfl (by decide) dL_text_16 h
abbrev rm_L_lost : Room := { frames := 9, cells := 3, slots := 18, locals := 171 }
theorem c_L_lost {l : Launch} {D : va_G} {ca : Nat → ClassId} {ad : Nat → Nat} (hI : xInj ad NCC) (hst : l.stackTraces = false) {N : Nat} {ah : AH} {p1 : Int32} {p2 : Int32} {r : Int32} {a : AH} (h : F_L_lost N ah p1 p2 = some (r, a)) : xMh l yL_lost cL_lost 5 [(0, 17, 20, 31), (0, 17, 24, 13)] rm_L_lost D vwCl (tysC ca) (EC ad ca) NCC ad [.ref (ad 0), .int p1, .int p2, .ref (ad 91)] ah (r, a) := by
  refine x_meth (by decide) (Nat.le_of_ble_eq_true rfl) hI EC_loc ?_
  intro p e s m args below meth c C hT htab
  unfold F_L_lost at h
  refine x_aload_n C dL_lost_0 1 rfl 3 rfl ?_
  refine x_iconst C dL_lost_1 2 rfl 0 rfl ?_
  refine x_aload_n C dL_lost_2 3 rfl 0 rfl ?_
  refine x_iload_n C dL_lost_3 4 rfl 1 rfl ?_
  refine x_iload_n C dL_lost_4 5 rfl 2 rfl ?_
  obtain ⟨k0, r0, a0, hq, h0, h1, h2⟩ := xbh_some h
  refine x_callH C hst hT 0 (c_X11_lost C.2.2.2.2.2.2.1 hst hq) lc0 EC_0 rfl wml_L_82 wq_X11_lost rfl ⟨by decide, by decide⟩ rfl rfl ⟨by decide, by decide⟩ dL_lost_5 8 rfl rfl (Nat.le_of_ble_eq_true rfl) (fun e0 => ?_) (fun e0 => ?_) (fun e0 => ?_)
  · refine ⟨20, x_ct2a htab (by decide) (by decide) (C.2.2.2.2.1 _ wmd_L_31) hT.2.2.2.2.1.2.2.2.1, fun q => ?_⟩
    have h := h1 e0
    refine x_astore C dL_lost_20 22 rfl (by decide) [(4, .ref q), (0, .ref (ad 0)), (1, .int p1), (2, .int p2), (3, .ref (ad 91))] rfl ?_
    refine x_iconst C dL_lost_22 23 rfl 1 rfl ?_
    exact x_iretH C rfl (by decide) dL_lost_23 h
  · refine ⟨24, x_ct2b htab (by decide) (by decide) (by decide) (C.2.2.2.2.1 _ wmd_L_31) (C.2.2.2.2.1 _ wmd_L_13) hT.2.2.2.2.2.1 hT.2.2.2.2.1.2.2.2.2, fun q => ?_⟩
    have h := h2 e0
    refine x_astore C dL_lost_24 26 rfl (by decide) [(4, .ref q), (0, .ref (ad 0)), (1, .int p1), (2, .int p2), (3, .ref (ad 91))] rfl ?_
    refine x_iconst C dL_lost_26 27 rfl 2 rfl ?_
    exact x_iretH C rfl (by decide) dL_lost_27 h
  · have h := h0 e0
    refine x_if_eq C dL_lost_8 11 rfl 15 rfl h (fun h => ?_) (fun h => ?_)
    · refine x_lconst C 0 rfl dL_lost_15 16 rfl ?_
      refine x_last C 91 lc91 (fun _ => EC_91) 2 rfl dL_lost_16 17 rfl (by decide) h (fun a1 h => ?_)
      refine x_goto C dL_lost_17 28 rfl ?_
      refine x_iconst C dL_lost_28 29 rfl 0 rfl ?_
      exact x_iretH C rfl (by decide) dL_lost_29 h
    · refine x_lconst C 1 rfl dL_lost_11 12 rfl ?_
      refine x_goto C dL_lost_12 16 rfl ?_
      refine x_last C 91 lc91 (fun _ => EC_91) 2 rfl dL_lost_16 17 rfl (by decide) h (fun a1 h => ?_)
      refine x_goto C dL_lost_17 28 rfl ?_
      refine x_iconst C dL_lost_28 29 rfl 0 rfl ?_
      exact x_iretH C rfl (by decide) dL_lost_29 h
abbrev rm_L_way : Room := { frames := 9, cells := 3, slots := 18, locals := 168 }
theorem c_L_way {l : Launch} {D : va_G} {ca : Nat → ClassId} {ad : Nat → Nat} (hI : xInj ad NCC) (hst : l.stackTraces = false) {N : Nat} {ah : AH} {p1 : Int32} {p2 : Int32} {r : Int32} {a : AH} (h : F_L_way N ah p1 p2 = some (r, a)) : xMh l yL_way cL_way 5 [(0, 10, 13, 31), (0, 10, 17, 13)] rm_L_way D vwCl (tysC ca) (EC ad ca) NCC ad [.ref (ad 0), .int p1, .int p2, .ref (ad 91)] ah (r, a) := by
  refine x_meth (by decide) (Nat.le_of_ble_eq_true rfl) hI EC_loc ?_
  intro p e s m args below meth c C hT htab
  unfold F_L_way at h
  refine x_aload_n C dL_way_0 1 rfl 3 rfl ?_
  refine x_iconst C dL_way_1 2 rfl 0 rfl ?_
  refine x_aload_n C dL_way_2 3 rfl 0 rfl ?_
  refine x_iload_n C dL_way_3 4 rfl 1 rfl ?_
  refine x_iload_n C dL_way_4 5 rfl 2 rfl ?_
  obtain ⟨k0, r0, a0, hq, h0, h1, h2⟩ := xbh_some h
  refine x_callH C hst hT 0 (c_X11_way C.2.2.2.2.2.2.1 hst hq) lc0 EC_0 rfl wml_L_86 wq_X11_way rfl ⟨by decide, by decide⟩ rfl rfl ⟨by decide, by decide⟩ dL_way_5 8 rfl rfl (Nat.le_of_ble_eq_true rfl) (fun e0 => ?_) (fun e0 => ?_) (fun e0 => ?_)
  · refine ⟨13, x_ct2a htab (by decide) (by decide) (C.2.2.2.2.1 _ wmd_L_31) hT.2.2.2.2.1.2.2.2.1, fun q => ?_⟩
    have h := h1 e0
    refine x_astore C dL_way_13 15 rfl (by decide) [(4, .ref q), (0, .ref (ad 0)), (1, .int p1), (2, .int p2), (3, .ref (ad 91))] rfl ?_
    refine x_iconst C dL_way_15 16 rfl 1 rfl ?_
    exact x_iretH C rfl (by decide) dL_way_16 h
  · refine ⟨17, x_ct2b htab (by decide) (by decide) (by decide) (C.2.2.2.2.1 _ wmd_L_31) (C.2.2.2.2.1 _ wmd_L_13) hT.2.2.2.2.2.1 hT.2.2.2.2.1.2.2.2.2, fun q => ?_⟩
    have h := h2 e0
    refine x_astore C dL_way_17 19 rfl (by decide) [(4, .ref q), (0, .ref (ad 0)), (1, .int p1), (2, .int p2), (3, .ref (ad 91))] rfl ?_
    refine x_iconst C dL_way_19 20 rfl 2 rfl ?_
    exact x_iretH C rfl (by decide) dL_way_20 h
  · have h := h0 e0
    refine x_i2l C dL_way_8 9 rfl ?_
    refine x_last C 91 lc91 (fun _ => EC_91) 2 rfl dL_way_9 10 rfl (by decide) h (fun a1 h => ?_)
    refine x_goto C dL_way_10 21 rfl ?_
    refine x_iconst C dL_way_21 22 rfl 0 rfl ?_
    exact x_iretH C rfl (by decide) dL_way_22 h
abbrev rm_L_edge : Room := { frames := 9, cells := 3, slots := 18, locals := 170 }
theorem c_L_edge {l : Launch} {D : va_G} {ca : Nat → ClassId} {ad : Nat → Nat} (hI : xInj ad NCC) (hst : l.stackTraces = false) {N : Nat} {ah : AH} {p1 : Int32} {p2 : Int32} {p3 : Int32} {r : Int32} {a : AH} (h : F_L_edge N ah p1 p2 p3 = some (r, a)) : xMh l yL_edge cL_edge 6 [(0, 12, 15, 31), (0, 12, 19, 13)] rm_L_edge D vwCl (tysC ca) (EC ad ca) NCC ad [.ref (ad 0), .int p1, .int p2, .int p3, .ref (ad 91)] ah (r, a) := by
  refine x_meth (by decide) (Nat.le_of_ble_eq_true rfl) hI EC_loc ?_
  intro p e s m args below meth c C hT htab
  unfold F_L_edge at h
  refine x_aload C dL_edge_0 2 rfl 4 rfl ?_
  refine x_iconst C dL_edge_2 3 rfl 0 rfl ?_
  refine x_aload_n C dL_edge_3 4 rfl 0 rfl ?_
  refine x_iload_n C dL_edge_4 5 rfl 1 rfl ?_
  refine x_iload_n C dL_edge_5 6 rfl 2 rfl ?_
  refine x_iload_n C dL_edge_6 7 rfl 3 rfl ?_
  obtain ⟨k0, r0, a0, hq, h0, h1, h2⟩ := xbh_some h
  refine x_callH C hst hT 0 (c_X11_edge C.2.2.2.2.2.2.1 hst hq) lc0 EC_0 rfl wml_L_89 wq_X11_edge rfl ⟨by decide, by decide⟩ rfl rfl ⟨by decide, by decide⟩ dL_edge_7 10 rfl rfl (Nat.le_of_ble_eq_true rfl) (fun e0 => ?_) (fun e0 => ?_) (fun e0 => ?_)
  · refine ⟨15, x_ct2a htab (by decide) (by decide) (C.2.2.2.2.1 _ wmd_L_31) hT.2.2.2.2.1.2.2.2.1, fun q => ?_⟩
    have h := h1 e0
    refine x_astore C dL_edge_15 17 rfl (by decide) [(5, .ref q), (0, .ref (ad 0)), (1, .int p1), (2, .int p2), (3, .int p3), (4, .ref (ad 91))] rfl ?_
    refine x_iconst C dL_edge_17 18 rfl 1 rfl ?_
    exact x_iretH C rfl (by decide) dL_edge_18 h
  · refine ⟨19, x_ct2b htab (by decide) (by decide) (by decide) (C.2.2.2.2.1 _ wmd_L_31) (C.2.2.2.2.1 _ wmd_L_13) hT.2.2.2.2.2.1 hT.2.2.2.2.1.2.2.2.2, fun q => ?_⟩
    have h := h2 e0
    refine x_astore C dL_edge_19 21 rfl (by decide) [(5, .ref q), (0, .ref (ad 0)), (1, .int p1), (2, .int p2), (3, .int p3), (4, .ref (ad 91))] rfl ?_
    refine x_iconst C dL_edge_21 22 rfl 2 rfl ?_
    exact x_iretH C rfl (by decide) dL_edge_22 h
  · have h := h0 e0
    refine x_i2l C dL_edge_10 11 rfl ?_
    refine x_last C 91 lc91 (fun _ => EC_91) 2 rfl dL_edge_11 12 rfl (by decide) h (fun a1 h => ?_)
    refine x_goto C dL_edge_12 23 rfl ?_
    refine x_iconst C dL_edge_23 24 rfl 0 rfl ?_
    exact x_iretH C rfl (by decide) dL_edge_24 h
abbrev rm_L_used : Room := { frames := 9, cells := 3, slots := 18, locals := 169 }
theorem c_L_used {l : Launch} {D : va_G} {ca : Nat → ClassId} {ad : Nat → Nat} (hI : xInj ad NCC) (hst : l.stackTraces = false) {N : Nat} {ah : AH} {p1 : Int32} {r : Int32} {a : AH} (h : F_L_used N ah p1 = some (r, a)) : xMh l yL_used cL_used 4 [(0, 9, 12, 31)] rm_L_used D vwCl (tysC ca) (EC ad ca) NCC ad [.ref (ad 0), .int p1, .ref (ad 91)] ah (r, a) := by
  refine x_meth (by decide) (Nat.le_of_ble_eq_true rfl) hI EC_loc ?_
  intro p e s m args below meth c C hT htab
  unfold F_L_used at h
  refine x_aload_n C dL_used_0 1 rfl 2 rfl ?_
  refine x_iconst C dL_used_1 2 rfl 0 rfl ?_
  refine x_aload_n C dL_used_2 3 rfl 0 rfl ?_
  refine x_iload_n C dL_used_3 4 rfl 1 rfl ?_
  obtain ⟨k0, r0, a0, hq, h0, h1, h2⟩ := xbh_some h
  refine x_callH C hst hT 0 (c_X11_used C.2.2.2.2.2.2.1 hst hq) lc0 EC_0 rfl wml_L_92 wq_X11_used rfl ⟨by decide, by decide⟩ rfl rfl ⟨by decide, by decide⟩ dL_used_4 7 rfl rfl (Nat.le_of_ble_eq_true rfl) (fun e0 => ?_) (fun e0 => ?_) (fun e0 => ?_)
  · refine ⟨12, x_ct1 htab (by decide) (by decide) (C.2.2.2.2.1 _ wmd_L_31) hT.2.2.2.2.1.2.2.2.1, fun q => ?_⟩
    have h := h1 e0
    refine x_astore_n C dL_used_12 13 rfl (by decide) [(3, .ref q), (0, .ref (ad 0)), (1, .int p1), (2, .ref (ad 91))] rfl ?_
    refine x_iconst C dL_used_13 14 rfl 1 rfl ?_
    exact x_iretH C rfl (by decide) dL_used_14 h
  · exact absurd (h2 e0) (by intro hz; cases hz)
  · have h := h0 e0
    refine x_i2l C dL_used_7 8 rfl ?_
    refine x_last C 91 lc91 (fun _ => EC_91) 2 rfl dL_used_8 9 rfl (by decide) h (fun a1 h => ?_)
    refine x_goto C dL_used_9 15 rfl ?_
    refine x_iconst C dL_used_15 16 rfl 0 rfl ?_
    exact x_iretH C rfl (by decide) dL_used_16 h
abbrev rm_L_dear : Room := { frames := 9, cells := 3, slots := 18, locals := 147 }
theorem c_L_dear {l : Launch} {D : va_G} {ca : Nat → ClassId} {ad : Nat → Nat} (hI : xInj ad NCC) (hst : l.stackTraces = false) {N : Nat} {ah : AH} {p1 : Int32} {p2 : Int32} {r : Int32} {a : AH} (h : F_L_dear N ah p1 p2 = some (r, a)) : xMh l yL_dear cL_dear 5 [(0, 10, 13, 31)] rm_L_dear D vwCl (tysC ca) (EC ad ca) NCC ad [.ref (ad 0), .int p1, .int p2, .ref (ad 91)] ah (r, a) := by
  refine x_meth (by decide) (Nat.le_of_ble_eq_true rfl) hI EC_loc ?_
  intro p e s m args below meth c C hT htab
  unfold F_L_dear at h
  refine x_aload_n C dL_dear_0 1 rfl 3 rfl ?_
  refine x_iconst C dL_dear_1 2 rfl 0 rfl ?_
  refine x_aload_n C dL_dear_2 3 rfl 0 rfl ?_
  refine x_iload_n C dL_dear_3 4 rfl 1 rfl ?_
  refine x_iload_n C dL_dear_4 5 rfl 2 rfl ?_
  obtain ⟨k0, r0, a0, hq, h0, h1, h2⟩ := xbh_some h
  refine x_callH C hst hT 0 (c_X11_dear C.2.2.2.2.2.2.1 hst hq) lc0 EC_0 rfl wml_L_95 wq_X11_dear rfl ⟨by decide, by decide⟩ rfl rfl ⟨by decide, by decide⟩ dL_dear_5 8 rfl rfl (Nat.le_of_ble_eq_true rfl) (fun e0 => ?_) (fun e0 => ?_) (fun e0 => ?_)
  · refine ⟨13, x_ct1 htab (by decide) (by decide) (C.2.2.2.2.1 _ wmd_L_31) hT.2.2.2.2.1.2.2.2.1, fun q => ?_⟩
    have h := h1 e0
    refine x_astore C dL_dear_13 15 rfl (by decide) [(4, .ref q), (0, .ref (ad 0)), (1, .int p1), (2, .int p2), (3, .ref (ad 91))] rfl ?_
    refine x_iconst C dL_dear_15 16 rfl 1 rfl ?_
    exact x_iretH C rfl (by decide) dL_dear_16 h
  · exact absurd (h2 e0) (by intro hz; cases hz)
  · have h := h0 e0
    refine x_i2l C dL_dear_8 9 rfl ?_
    refine x_last C 91 lc91 (fun _ => EC_91) 2 rfl dL_dear_9 10 rfl (by decide) h (fun a1 h => ?_)
    refine x_goto C dL_dear_10 17 rfl ?_
    refine x_iconst C dL_dear_17 18 rfl 0 rfl ?_
    exact x_iretH C rfl (by decide) dL_dear_18 h
abbrev rm_L_sentence : Room := { frames := 8, cells := 3, slots := 18, locals := 167 }
theorem c_L_sentence {l : Launch} {D : va_G} {ca : Nat → ClassId} {ad : Nat → Nat} (hI : xInj ad NCC) (hst : l.stackTraces = false) {N : Nat} {ah : AH} {p1 : Int32} {r : Int32} {a : AH} (h : F_L_sentence N ah p1 = some (r, a)) : xMh l yL_sentence cL_sentence 4 [(0, 9, 12, 13)] rm_L_sentence D vwCl (tysC ca) (EC ad ca) NCC ad [.ref (ad 0), .int p1, .ref (ad 91)] ah (r, a) := by
  refine x_meth (by decide) (Nat.le_of_ble_eq_true rfl) hI EC_loc ?_
  intro p e s m args below meth c C hT htab
  unfold F_L_sentence at h
  refine x_aload_n C dL_sentence_0 1 rfl 2 rfl ?_
  refine x_iconst C dL_sentence_1 2 rfl 0 rfl ?_
  refine x_aload_n C dL_sentence_2 3 rfl 0 rfl ?_
  refine x_iload_n C dL_sentence_3 4 rfl 1 rfl ?_
  obtain ⟨k0, r0, a0, hq, h0, h1, h2⟩ := xbh_some h
  refine x_callH C hst hT 0 (c_X11_sentence C.2.2.2.2.2.2.1 hst hq) lc0 EC_0 rfl wml_L_98 wq_X11_sentence rfl ⟨by decide, by decide⟩ rfl rfl ⟨by decide, by decide⟩ dL_sentence_4 7 rfl rfl (Nat.le_of_ble_eq_true rfl) (fun e0 => ?_) (fun e0 => ?_) (fun e0 => ?_)
  · exact absurd (h1 e0) (by intro hz; cases hz)
  · refine ⟨12, x_ct1 htab (by decide) (by decide) (C.2.2.2.2.1 _ wmd_L_13) hT.2.2.2.2.1.2.2.2.2, fun q => ?_⟩
    have h := h2 e0
    refine x_astore_n C dL_sentence_12 13 rfl (by decide) [(3, .ref q), (0, .ref (ad 0)), (1, .int p1), (2, .ref (ad 91))] rfl ?_
    refine x_iconst C dL_sentence_13 14 rfl 1 rfl ?_
    exact x_iretH C rfl (by decide) dL_sentence_14 h
  · have h := h0 e0
    refine x_i2l C dL_sentence_7 8 rfl ?_
    refine x_last C 91 lc91 (fun _ => EC_91) 2 rfl dL_sentence_8 9 rfl (by decide) h (fun a1 h => ?_)
    refine x_goto C dL_sentence_9 15 rfl ?_
    refine x_iconst C dL_sentence_15 16 rfl 0 rfl ?_
    exact x_iretH C rfl (by decide) dL_sentence_16 h
abbrev rm_L_said : Room := { frames := 9, cells := 3, slots := 18, locals := 167 }
theorem c_L_said {l : Launch} {D : va_G} {ca : Nat → ClassId} {ad : Nat → Nat} (hI : xInj ad NCC) (hst : l.stackTraces = false) {N : Nat} {ah : AH} {p1 : Int32} {r : Int32} {a : AH} (h : F_L_said N ah p1 = some (r, a)) : xMh l yL_said cL_said 4 [(0, 9, 12, 31)] rm_L_said D vwCl (tysC ca) (EC ad ca) NCC ad [.ref (ad 0), .int p1, .ref (ad 91)] ah (r, a) := by
  refine x_meth (by decide) (Nat.le_of_ble_eq_true rfl) hI EC_loc ?_
  intro p e s m args below meth c C hT htab
  unfold F_L_said at h
  refine x_aload_n C dL_said_0 1 rfl 2 rfl ?_
  refine x_iconst C dL_said_1 2 rfl 0 rfl ?_
  refine x_aload_n C dL_said_2 3 rfl 0 rfl ?_
  refine x_iload_n C dL_said_3 4 rfl 1 rfl ?_
  obtain ⟨k0, r0, a0, hq, h0, h1, h2⟩ := xbh_some h
  refine x_callH C hst hT 0 (c_X11_said C.2.2.2.2.2.2.1 hst hq) lc0 EC_0 rfl wml_L_101 wq_X11_said rfl ⟨by decide, by decide⟩ rfl rfl ⟨by decide, by decide⟩ dL_said_4 7 rfl rfl (Nat.le_of_ble_eq_true rfl) (fun e0 => ?_) (fun e0 => ?_) (fun e0 => ?_)
  · refine ⟨12, x_ct1 htab (by decide) (by decide) (C.2.2.2.2.1 _ wmd_L_31) hT.2.2.2.2.1.2.2.2.1, fun q => ?_⟩
    have h := h1 e0
    refine x_astore_n C dL_said_12 13 rfl (by decide) [(3, .ref q), (0, .ref (ad 0)), (1, .int p1), (2, .ref (ad 91))] rfl ?_
    refine x_iconst C dL_said_13 14 rfl 1 rfl ?_
    exact x_iretH C rfl (by decide) dL_said_14 h
  · exact absurd (h2 e0) (by intro hz; cases hz)
  · have h := h0 e0
    refine x_i2l C dL_said_7 8 rfl ?_
    refine x_last C 91 lc91 (fun _ => EC_91) 2 rfl dL_said_8 9 rfl (by decide) h (fun a1 h => ?_)
    refine x_goto C dL_said_9 15 rfl ?_
    refine x_iconst C dL_said_15 16 rfl 0 rfl ?_
    exact x_iretH C rfl (by decide) dL_said_16 h
abbrev rm_L_apart : Room := { frames := 9, cells := 3, slots := 18, locals := 169 }
theorem c_L_apart {l : Launch} {D : va_G} {ca : Nat → ClassId} {ad : Nat → Nat} (hI : xInj ad NCC) (hst : l.stackTraces = false) {N : Nat} {ah : AH} {p1 : Int32} {p2 : Int32} {r : Int32} {a : AH} (h : F_L_apart N ah p1 p2 = some (r, a)) : xMh l yL_apart cL_apart 5 [(0, 10, 13, 31)] rm_L_apart D vwCl (tysC ca) (EC ad ca) NCC ad [.ref (ad 0), .int p1, .int p2, .ref (ad 91)] ah (r, a) := by
  refine x_meth (by decide) (Nat.le_of_ble_eq_true rfl) hI EC_loc ?_
  intro p e s m args below meth c C hT htab
  unfold F_L_apart at h
  refine x_aload_n C dL_apart_0 1 rfl 3 rfl ?_
  refine x_iconst C dL_apart_1 2 rfl 0 rfl ?_
  refine x_aload_n C dL_apart_2 3 rfl 0 rfl ?_
  refine x_iload_n C dL_apart_3 4 rfl 1 rfl ?_
  refine x_iload_n C dL_apart_4 5 rfl 2 rfl ?_
  obtain ⟨k0, r0, a0, hq, h0, h1, h2⟩ := xbh_some h
  refine x_callH C hst hT 0 (c_X11_apart C.2.2.2.2.2.2.1 hst hq) lc0 EC_0 rfl wml_L_104 wq_X11_apart rfl ⟨by decide, by decide⟩ rfl rfl ⟨by decide, by decide⟩ dL_apart_5 8 rfl rfl (Nat.le_of_ble_eq_true rfl) (fun e0 => ?_) (fun e0 => ?_) (fun e0 => ?_)
  · refine ⟨13, x_ct1 htab (by decide) (by decide) (C.2.2.2.2.1 _ wmd_L_31) hT.2.2.2.2.1.2.2.2.1, fun q => ?_⟩
    have h := h1 e0
    refine x_astore C dL_apart_13 15 rfl (by decide) [(4, .ref q), (0, .ref (ad 0)), (1, .int p1), (2, .int p2), (3, .ref (ad 91))] rfl ?_
    refine x_iconst C dL_apart_15 16 rfl 1 rfl ?_
    exact x_iretH C rfl (by decide) dL_apart_16 h
  · exact absurd (h2 e0) (by intro hz; cases hz)
  · have h := h0 e0
    refine x_i2l C dL_apart_8 9 rfl ?_
    refine x_last C 91 lc91 (fun _ => EC_91) 2 rfl dL_apart_9 10 rfl (by decide) h (fun a1 h => ?_)
    refine x_goto C dL_apart_10 17 rfl ?_
    refine x_iconst C dL_apart_17 18 rfl 0 rfl ?_
    exact x_iretH C rfl (by decide) dL_apart_18 h
abbrev rm_L_twin : Room := { frames := 9, cells := 3, slots := 18, locals := 173 }
theorem c_L_twin {l : Launch} {D : va_G} {ca : Nat → ClassId} {ad : Nat → Nat} (hI : xInj ad NCC) (hst : l.stackTraces = false) {N : Nat} {ah : AH} {p1 : Int32} {p2 : Int32} {r : Int32} {a : AH} (h : F_L_twin N ah p1 p2 = some (r, a)) : xMh l yL_twin cL_twin 5 [(0, 10, 13, 31), (0, 10, 17, 13)] rm_L_twin D vwCl (tysC ca) (EC ad ca) NCC ad [.ref (ad 0), .int p1, .int p2, .ref (ad 91)] ah (r, a) := by
  refine x_meth (by decide) (Nat.le_of_ble_eq_true rfl) hI EC_loc ?_
  intro p e s m args below meth c C hT htab
  unfold F_L_twin at h
  refine x_aload_n C dL_twin_0 1 rfl 3 rfl ?_
  refine x_iconst C dL_twin_1 2 rfl 0 rfl ?_
  refine x_aload_n C dL_twin_2 3 rfl 0 rfl ?_
  refine x_iload_n C dL_twin_3 4 rfl 1 rfl ?_
  refine x_iload_n C dL_twin_4 5 rfl 2 rfl ?_
  obtain ⟨k0, r0, a0, hq, h0, h1, h2⟩ := xbh_some h
  refine x_callH C hst hT 0 (c_X11_twin C.2.2.2.2.2.2.1 hst hq) lc0 EC_0 rfl wml_L_107 wq_X11_twin rfl ⟨by decide, by decide⟩ rfl rfl ⟨by decide, by decide⟩ dL_twin_5 8 rfl rfl (Nat.le_of_ble_eq_true rfl) (fun e0 => ?_) (fun e0 => ?_) (fun e0 => ?_)
  · refine ⟨13, x_ct2a htab (by decide) (by decide) (C.2.2.2.2.1 _ wmd_L_31) hT.2.2.2.2.1.2.2.2.1, fun q => ?_⟩
    have h := h1 e0
    refine x_astore C dL_twin_13 15 rfl (by decide) [(4, .ref q), (0, .ref (ad 0)), (1, .int p1), (2, .int p2), (3, .ref (ad 91))] rfl ?_
    refine x_iconst C dL_twin_15 16 rfl 1 rfl ?_
    exact x_iretH C rfl (by decide) dL_twin_16 h
  · refine ⟨17, x_ct2b htab (by decide) (by decide) (by decide) (C.2.2.2.2.1 _ wmd_L_31) (C.2.2.2.2.1 _ wmd_L_13) hT.2.2.2.2.2.1 hT.2.2.2.2.1.2.2.2.2, fun q => ?_⟩
    have h := h2 e0
    refine x_astore C dL_twin_17 19 rfl (by decide) [(4, .ref q), (0, .ref (ad 0)), (1, .int p1), (2, .int p2), (3, .ref (ad 91))] rfl ?_
    refine x_iconst C dL_twin_19 20 rfl 2 rfl ?_
    exact x_iretH C rfl (by decide) dL_twin_20 h
  · have h := h0 e0
    refine x_i2l C dL_twin_8 9 rfl ?_
    refine x_last C 91 lc91 (fun _ => EC_91) 2 rfl dL_twin_9 10 rfl (by decide) h (fun a1 h => ?_)
    refine x_goto C dL_twin_10 21 rfl ?_
    refine x_iconst C dL_twin_21 22 rfl 0 rfl ?_
    exact x_iretH C rfl (by decide) dL_twin_22 h
abbrev rm_L_twins : Room := { frames := 8, cells := 3, slots := 18, locals := 172 }
theorem c_L_twins {l : Launch} {D : va_G} {ca : Nat → ClassId} {ad : Nat → Nat} (hI : xInj ad NCC) (hst : l.stackTraces = false) {N : Nat} {ah : AH} {p1 : Int32} {r : Int32} {a : AH} (h : F_L_twins N ah p1 = some (r, a)) : xMh l yL_twins cL_twins 4 [(0, 9, 12, 13)] rm_L_twins D vwCl (tysC ca) (EC ad ca) NCC ad [.ref (ad 0), .int p1, .ref (ad 91)] ah (r, a) := by
  refine x_meth (by decide) (Nat.le_of_ble_eq_true rfl) hI EC_loc ?_
  intro p e s m args below meth c C hT htab
  unfold F_L_twins at h
  refine x_aload_n C dL_twins_0 1 rfl 2 rfl ?_
  refine x_iconst C dL_twins_1 2 rfl 0 rfl ?_
  refine x_aload_n C dL_twins_2 3 rfl 0 rfl ?_
  refine x_iload_n C dL_twins_3 4 rfl 1 rfl ?_
  obtain ⟨k0, r0, a0, hq, h0, h1, h2⟩ := xbh_some h
  refine x_callH C hst hT 0 (c_X11_twins C.2.2.2.2.2.2.1 hst hq) lc0 EC_0 rfl wml_L_110 wq_X11_twins rfl ⟨by decide, by decide⟩ rfl rfl ⟨by decide, by decide⟩ dL_twins_4 7 rfl rfl (Nat.le_of_ble_eq_true rfl) (fun e0 => ?_) (fun e0 => ?_) (fun e0 => ?_)
  · exact absurd (h1 e0) (by intro hz; cases hz)
  · refine ⟨12, x_ct1 htab (by decide) (by decide) (C.2.2.2.2.1 _ wmd_L_13) hT.2.2.2.2.1.2.2.2.2, fun q => ?_⟩
    have h := h2 e0
    refine x_astore_n C dL_twins_12 13 rfl (by decide) [(3, .ref q), (0, .ref (ad 0)), (1, .int p1), (2, .ref (ad 91))] rfl ?_
    refine x_iconst C dL_twins_13 14 rfl 1 rfl ?_
    exact x_iretH C rfl (by decide) dL_twins_14 h
  · have h := h0 e0
    refine x_i2l C dL_twins_7 8 rfl ?_
    refine x_last C 91 lc91 (fun _ => EC_91) 2 rfl dL_twins_8 9 rfl (by decide) h (fun a1 h => ?_)
    refine x_goto C dL_twins_9 15 rfl ?_
    refine x_iconst C dL_twins_15 16 rfl 0 rfl ?_
    exact x_iretH C rfl (by decide) dL_twins_16 h
