section
variable {p : Program} {l : Launch} {e : Env} {R : Room} {s : State} {m : MethodId} {args : Array Value} {below : List Frame} {meth : Method} {c : Code} {H : Heap} {locs : List Loc} {cells slots : Nat} {Q : State → Prop} {cc : ByteArray} {pc : Nat} {ls : Array Slot} {rest : List Value} {D : va_G} {cl : List vw_C} {A : Nat → Prop} {a : Nat} {tys : List (ClassId × FieldType)} {ws : va_W} {H0 : Heap}
theorem va_putz (hexec : p.tables.exec = Jvm.exec) (hb : c.code = cc) {own ref C : String} {T : u_T} {N ci index : Nat} {Ts : List Cond} (hts : ∀ w ∈ Ts, w.before args s = true) (hin : ∀ w ∈ u_ws C T N, w ∈ Ts) (ty0 : Nat → FieldType) (hty : ∀ k, k < N → parseFieldDescriptor (T k).2.2.1 = some (ty0 k)) (hnm : ∀ a, a < N → ∀ b, b < N → a ≠ b → (T a).2.1 ≠ (T b).2.1) (hown : s.vm.findClass own = some m.cls) (hK : va_K D cl tys s) (hP : va_P D cl ws H) (hD : va_D A ws) (hS0 : va_S A H0 H locs) (q0 : Nat) {fs : List Value} (he : ws[q0]? = some (a, .inr (ci, fs))) (hc : cl[ci]? = some (C, T, N)) (k : Nat) (hk : k < N) (hlink : (Cond.fieldLink own index ref (T k).2.1 (T k).2.2.1).before args s = true) (hsame : ∀ x, s.fieldFound? (T k).1 (T k).2.1 (T k).2.2.1 = some x → s.fieldFound? ref (T k).2.1 (T k).2.2.1 = some x) (hfin : (T k).2.2.2 = false) {ty : FieldType} {v : Value} (hd : parseFieldDescriptor (T k).2.2.1 = some ty) (hn : narrow ty v = v) (hfit : fits ty v = true) (hl : k < fs.length)
    (hdg : decode cc pc = .ok (.putfield index, 3)) (kk : ∀ (H1 : Heap) (locs1 : List Loc), va_P D cl (ws.set q0 (a, .inr (ci, fs.set k v))) H1 → va_S A H0 H1 locs1 → H1.size = H.size → W p l e R s m args below meth c H1 locs1 cells slots Q (F0 m (pc + 3) ls rest)) : W p l e R s m args below meth c H locs cells slots Q (F0 m pc ls (v :: .ref a :: rest)) := by
  have hap := va_apart (own := own) hts hin ty0 hty hnm hK hc
  obtain ⟨r, h1, cell, q1, q2, q3, q4⟩ := hP q0 _ he
  have hr : r = (C, T, N) := Option.some.inj (h1.symm.trans hc)
  subst hr
  obtain ⟨hS, hfc, kC, hkC, hkind⟩ := hK.1 ci _ hc
  obtain ⟨cf, kf, fi, f, hi, hsl⟩ := hS k hk
  have hlay := hts _ (hin _ (u_in_lay hk))
  unfold u_lay at hlay
  rw [if_neg (by rw [hfin]; decide)] at hlay
  have hst := (u_facts hfc hkC (u_lays hts hin hk) hi).1
  have h6 := u_store hfc hkC hkind hlay hi hd hn hfit
  refine W.putK hexec hb (f := f) ⟨hown, hlink, ⟨_, _, _, hsame _ hi⟩, hst⟩ (by rw [q2]; exact h6) q1 q3 (by rw [hsl]; exact k2_hasslot (q4 k hk)) rfl rfl hdg fun H' e1 e2 e3 => ?_
  rw [hsl] at e1 ⊢
  exact kk H' _ (hP.set hD he ⟨_, hc, t_OB.to (V := updV (vp_V fs) k v) ⟨_, e1, q2, q3, t_set q4 hap hk v⟩ (fun j _ => vp_updV_set hl v j)⟩ e3) (hS0.put e2 e3 (hD.2 q0 _ he)) e2
theorem va_iastz (hexec : p.tables.exec = Jvm.exec) (hb : c.code = cc) (hK : va_K D cl tys s) (hP : va_P D cl ws H) (hD : va_D A ws) (hS : va_S A H0 H locs) (q0 t0 : Nat) {cA : ClassId} {n : Nat} {f : Nat → Int32} (ha : ws[q0]? = some (a, .inl (cA, n, .inl f))) (ht : tys[t0]? = some (cA, .int)) {i : Int32} {x : Int32} (hin : vp_in i n) (hdg : decode cc pc = .ok (.iastore, 1))
    (kk : ∀ (H1 : Heap) (locs1 : List Loc), va_P D cl (ws.set q0 (a, .inl (cA, n, .inl (upd f i.toNatClampNeg (x))))) H1 → va_S A H0 H1 locs1 → H1.size = H.size → W p l e R s m args below meth c H1 locs1 cells slots Q (F0 m (pc + 1) ls rest)) : W p l e R s m args below meth c H locs cells slots Q (F0 m pc ls (.int x :: .int i :: .ref a :: rest)) := by
  refine W.iast hexec hb (hP q0 _ ha) ((hK.2 t0 _ ht).1 n (fun j => .int (f j))) (fun q => by cases q) (by show ¬ (i < 0 ∨ (arrV _ _ _).slots.size ≤ _); rw [arrV_size]; exact hin) rfl rfl hdg fun H1 e z oq => ?_
  refine kk H1 _ (hP.set hD ha ?_ oq) (hS.put z oq (hD.2 q0 _ ha)) z
  show H1[a]? = some (vp_cell _ _)
  rw [e]
  rw [vp_cell_i, vp_cell_i, arrV_store]
  congr 2
  funext q
  by_cases hq : q = i.toNatClampNeg
  · subst hq
    simp [updV, upd]
    try rfl
  · simp [updV, upd, hq]
theorem va_zastz (hexec : p.tables.exec = Jvm.exec) (hb : c.code = cc) (hK : va_K D cl tys s) (hP : va_P D cl ws H) (hD : va_D A ws) (hS : va_S A H0 H locs) (q0 t0 : Nat) {cA : ClassId} {n : Nat} {f : Nat → Int32} (ha : ws[q0]? = some (a, .inl (cA, n, .inl f))) (ht : tys[t0]? = some (cA, .boolean)) {i : Int32} {x : Int32} (hin : vp_in i n) (hdg : decode cc pc = .ok (.bastore, 1))
    (kk : ∀ (H1 : Heap) (locs1 : List Loc), va_P D cl (ws.set q0 (a, .inl (cA, n, .inl (upd f i.toNatClampNeg (vp_nar .boolean x))))) H1 → va_S A H0 H1 locs1 → H1.size = H.size → W p l e R s m args below meth c H1 locs1 cells slots Q (F0 m (pc + 1) ls rest)) : W p l e R s m args below meth c H locs cells slots Q (F0 m pc ls (.int x :: .int i :: .ref a :: rest)) := by
  refine W.zast hexec hb (hP q0 _ ha) ((hK.2 t0 _ ht).1 n (fun j => .int (f j))) (fun q => by cases q) (by show ¬ (i < 0 ∨ (arrV _ _ _).slots.size ≤ _); rw [arrV_size]; exact hin) rfl rfl hdg fun H1 e z oq => ?_
  refine kk H1 _ (hP.set hD ha ?_ oq) (hS.put z oq (hD.2 q0 _ ha)) z
  show H1[a]? = some (vp_cell _ _)
  rw [e]
  rw [vp_cell_i, vp_cell_i, arrV_store]
  congr 2
  funext q
  by_cases hq : q = i.toNatClampNeg
  · subst hq
    simp [updV, upd, vp_nar]
    try rfl
  · simp [updV, upd, hq]
end
abbrev AH : Type := Nat → Nat → Int32
/-- one number of one cell written -/
def xu (ah : AH) (k i : Nat) (v : Int32) : AH := fun a b => if a = k ∧ b = i then v else ah a b
def xlet {α β : Type} (e : α) (f : α → β) : β := f e
/-- an index within its row -/
def xg {α : Type} (i : Int32) (n : Nat) (B : Option α) : Option α := if i < 0 ∨ n ≤ i.toNatClampNeg then none else B
/-- a divisor that is none -/
def xz {α : Type} (d : Int32) (B : Option α) : Option α := if d = 0 then none else B
theorem xu_ne {ah : AH} {k i a b : Nat} {v : Int32} (h : ¬ (a = k ∧ b = i)) : xu ah k i v a b = ah a b := if_neg h
theorem xu_eq {ah : AH} {k i : Nat} {v : Int32} : xu ah k i v k i = v := if_pos ⟨rfl, rfl⟩
theorem xu_row {ah : AH} {k i a : Nat} {v : Int32} (h : a ≠ k) : xu ah k i v a = ah a := by
  funext b
  exact if_neg (fun q => h q.1)
theorem xu_self {ah : AH} {k i : Nat} {v : Int32} : xu ah k i v k = upd (ah k) i v := by
  funext b
  unfold xu upd
  by_cases h : b = i
  · subst h; simp
  · simp [h]
theorem xg_some {α : Type} {i : Int32} {n : Nat} {B : Option α} {o : α} (h : xg i n B = some o) : vp_in i n ∧ B = some o := by
  unfold xg at h
  by_cases hc : i < 0 ∨ n ≤ i.toNatClampNeg
  · rw [if_pos hc] at h; cases h
  · rw [if_neg hc] at h; exact ⟨hc, h⟩
theorem xg_in {α : Type} {i : Int32} {n : Nat} {B : Option α} (h : vp_in i n) : xg i n B = B := if_neg h
theorem xz_some {α : Type} {d : Int32} {B : Option α} {o : α} (h : xz d B = some o) : ¬ d = 0 ∧ B = some o := by
  unfold xz at h
  by_cases hc : d = 0
  · rw [if_pos hc] at h; cases h
  · rw [if_neg hc] at h; exact ⟨hc, h⟩
/-- a boolean that is one -/
def xbo {α : Type} (v : Int32) (B : Option α) : Option α := if v = 0 ∨ v = 1 then B else none
theorem xbo_some {α : Type} {v : Int32} {B : Option α} {o : α} (h : xbo v B = some o) : (v = 0 ∨ v = 1) ∧ B = some o := by
  unfold xbo at h
  by_cases hc : v = 0 ∨ v = 1
  · rw [if_pos hc] at h; exact ⟨hc, h⟩
  · rw [if_neg hc] at h; cases h
theorem xbo_in {α : Type} {v : Int32} {B : Option α} (h : v = 0 ∨ v = 1) : xbo v B = B := if_pos h
/-- a call that answers an int; one that answers nothing -/
def xb {α : Type} (x : Option (Int32 × AH)) (f : Int32 → AH → Option α) : Option α := match x with
  | none => none
  | some q => f q.1 q.2
def xbv {α : Type} (x : Option AH) (f : AH → Option α) : Option α := match x with
  | none => none
  | some q => f q
theorem xb_some {α : Type} {x : Option (Int32 × AH)} {f : Int32 → AH → Option α} {o : α} (h : xb x f = some o) : ∃ r a, x = some (r, a) ∧ f r a = some o := by
  cases x with
  | none => cases h
  | some q => exact ⟨q.1, q.2, rfl, h⟩
theorem xbv_some {α : Type} {x : Option AH} {f : AH → Option α} {o : α} (h : xbv x f = some o) : ∃ a, x = some a ∧ f a = some o := by
  cases x with
  | none => cases h
  | some q => exact ⟨q, rfl, h⟩
theorem xb_in {α : Type} {x : Option (Int32 × AH)} {f : Int32 → AH → Option α} {r : Int32} {a : AH} (h : x = some (r, a)) : xb x f = f r a := by subst h; rfl
theorem xbv_in {α : Type} {x : Option AH} {f : AH → Option α} {a : AH} (h : x = some a) : xbv x f = f a := by subst h; rfl
theorem xz_in {α : Type} {d : Int32} {B : Option α} (h : ¬ d = 0) : xz d B = B := if_neg h
abbrev xL : Type := AH → Nat → va_E
def xw (E : xL) (NC : Nat) (ad : Nat → Nat) (ah : AH) : va_W := (List.range NC).map (fun k => (ad k, E ah k))
def xA (ad : Nat → Nat) (NC sz : Nat) : Nat → Prop := fun q => (∃ k, k < NC ∧ q = ad k) ∨ sz ≤ q
def xInj (ad : Nat → Nat) (NC : Nat) : Prop := ∀ i j, i < NC → j < NC → ad i = ad j → i = j
def xLoc (E : xL) : Prop := ∀ (ah : AH) (k i : Nat) (v : Int32) (j : Nat), j ≠ k → E (xu ah k i v) j = E ah j
theorem xw_get {E : xL} {NC : Nat} {ad : Nat → Nat} {ah : AH} {k : Nat} (h : k < NC) {e : va_E} (he : E ah k = e) : (xw E NC ad ah)[k]? = some (ad k, e) := by
  subst he
  simp [xw, h]
theorem xw_some {E : xL} {NC : Nat} {ad : Nat → Nat} {ah : AH} {k : Nat} {q : Nat × va_E} (h : (xw E NC ad ah)[k]? = some q) : k < NC ∧ q = (ad k, E ah k) := by
  unfold xw at h
  rw [List.getElem?_map] at h
  by_cases hk : k < NC
  · rw [List.getElem?_range hk] at h
    exact ⟨hk, (Option.some.inj h).symm⟩
  · rw [List.getElem?_eq_none (by simpa using hk)] at h
    cases h
theorem xw_D {E : xL} {NC : Nat} {ad : Nat → Nat} {ah : AH} {sz : Nat} (h : xInj ad NC) : va_D (xA ad NC sz) (xw E NC ad ah) := by
  refine ⟨fun i j p q hi hj e => ?_, fun k q hk => ?_⟩
  · obtain ⟨h1, rfl⟩ := xw_some hi
    obtain ⟨h2, rfl⟩ := xw_some hj
    exact h i j h1 h2 e
  · obtain ⟨h1, rfl⟩ := xw_some hk
    exact Or.inl ⟨k, h1, rfl⟩
theorem xw_set {E : xL} {NC : Nat} {ad : Nat → Nat} {ah : AH} {k i : Nat} {v : Int32} (hL : xLoc E) {e : va_E} (he : E (xu ah k i v) k = e) : (xw E NC ad ah).set k (ad k, e) = xw E NC ad (xu ah k i v) := by
  subst he
  apply List.ext_getElem?
  intro j
  by_cases hj : j < NC
  · by_cases hk : k = j
    · subst hk
      rw [List.getElem?_set_self (by simp [xw, hj]), xw_get hj rfl]
    · rw [List.getElem?_set_ne hk, xw_get hj rfl, xw_get hj rfl, hL ah k i v j (fun q => hk q.symm)]
  · rw [List.getElem?_eq_none (by simp [xw]; omega), List.getElem?_eq_none (by simp [xw]; omega)]
theorem xA_mono {ad : Nat → Nat} {NC a b q : Nat} (h : a ≤ b) (hq : xA ad NC b q) : xA ad NC a q := hq.elim Or.inl (fun k => Or.inr (Nat.le_trans h k))
/-- the calls of private static methods of the outer class from the classes inside it -/
def xNl : List (String × Nat × MethodName × String) := [("MendedLetters$Lexicon", 101, ⟨"MendedLetters", "isLetter", "(I)Z"⟩, "MendedLetters"), ("MendedLetters$Tape", 35, ⟨"MendedLetters", "isDigit", "(I)Z"⟩, "MendedLetters"), ("MendedLetters$Shapes", 48, ⟨"MendedLetters", "isLetter", "(I)Z"⟩, "MendedLetters"), ("MendedLetters$Reading", 97, ⟨"MendedLetters", "isLetter", "(I)Z"⟩, "MendedLetters"), ("MendedLetters$Follows", 46, ⟨"MendedLetters", "isLetter", "(I)Z"⟩, "MendedLetters")]
def xNest (U : State) : Prop := ∀ q ∈ xNl, va_Nw (.methodLinkNest q.1 q.2.1 q.2.2.1 q.2.2.2) U
def XC (p : Program) (l : Launch) (s : State) (m : MethodId) (args : Array Value) (meth : Method) (c : Code) (cc : ByteArray) (nL : Nat) (ret : Option FieldType) (own : String) (D : va_G) (cl : List vw_C) (tys : List (ClassId × FieldType)) (E : xL) (NC : Nat) (ad : Nat → Nat) : Prop :=
  p.tables.exec = Jvm.exec ∧ c.code = cc ∧ c.maxLocals = nL ∧ s.vm.findClass own = some m.cls ∧ (∀ w ∈ xWs, w.before args s = true) ∧ va_K D cl tys s ∧ xInj ad NC ∧ xLoc E ∧ meth.sig.returnType = ret ∧ meth.locks = false ∧ xNest s
def XW (p : Program) (l : Launch) (e : Env) (R : Room) (s : State) (m : MethodId) (args : Array Value) (below : List Frame) (meth : Method) (c : Code) (nL cn : Nat) (Q : State → Prop) (D : va_G) (cl : List vw_C) (E : xL) (NC : Nat) (ad : Nat → Nat) (ah : AH) (pc : Nat) (lv : List (Nat × Value)) (st : List Value) : Prop :=
  ∀ (H : Heap) (locs : List Loc) (ls : Array Slot), va_P D cl (xw E NC ad ah) H → va_S (xA ad NC s.heap.size) s.heap H locs → (cn = 0 → H.size = s.heap.size) → lv_has ls nL lv → W p l e R s m args below meth c H locs cn (6 * cn) Q (F0 m pc ls st)
def xB (D : va_G) (cl : List vw_C) (tys : List (ClassId × FieldType)) (E : xL) (NC : Nat) (ad : Nat → Nat) (u : AH) (t : State) : Prop := va_P D cl (xw E NC ad u) t.heap ∧ va_K D cl tys t
def xBz (D : va_G) (cl : List vw_C) (tys : List (ClassId × FieldType)) (E : xL) (NC : Nat) (ad : Nat → Nat) (sz : Nat) (u : AH) (t : State) : Prop := xB D cl tys E NC ad u t ∧ t.heap.size = sz
def xPre (D : va_G) (cl : List vw_C) (tys : List (ClassId × FieldType)) (E : xL) (NC : Nat) (ad : Nat → Nat) (ah : AH) (sz : Nat) (U : State) : Prop := U.heap.size = sz ∧ va_P D cl (xw E NC ad ah) U.heap ∧ va_K D cl tys U ∧ xNest U
def xQi (below : List Frame) (args : Array Value) (s : State) (D : va_G) (cl : List vw_C) (tys : List (ClassId × FieldType)) (E : xL) (NC : Nat) (ad : Nat → Nat) (o : Int32 × AH) : State → Prop :=
  MQ below (va_Qi (fun r u => r = o.1 ∧ u = o.2) (xBz D cl tys E NC ad s.heap.size) (xA ad NC s.heap.size)) args s 0 0 (xA ad NC s.heap.size)
def xQv (below : List Frame) (args : Array Value) (s : State) (D : va_G) (cl : List vw_C) (tys : List (ClassId × FieldType)) (E : xL) (NC : Nat) (ad : Nat → Nat) (o : AH) : State → Prop :=
  MQ below (va_Qv (fun u => u = o) (xBz D cl tys E NC ad s.heap.size) (xA ad NC s.heap.size)) args s 0 0 (xA ad NC s.heap.size)
/-- a method that answers an int: from the heap ah it comes to o -/
def xMi (l : Launch) (y : MethodName) (bytes : ByteArray) (maxL : Nat) (ret : Option FieldType) (rm : Room) (D : va_G) (cl : List vw_C) (tys : List (ClassId × FieldType)) (E : xL) (NC : Nat) (ad : Nat → Nat) (avs : List Value) (ah : AH) (o : Int32 × AH) : Prop :=
  ∀ sz : Nat, Met l y (Cond.code y bytes maxL ret :: xWs) rm (va_Pc avs (xPre D cl tys E NC ad ah sz)) (va_Qi (fun r u => r = o.1 ∧ u = o.2) (xBz D cl tys E NC ad sz) (xA ad NC sz)) 0 0 (xA ad NC sz)
def xMv (l : Launch) (y : MethodName) (bytes : ByteArray) (maxL : Nat) (rm : Room) (D : va_G) (cl : List vw_C) (tys : List (ClassId × FieldType)) (E : xL) (NC : Nat) (ad : Nat → Nat) (avs : List Value) (ah : AH) (o : AH) : Prop :=
  ∀ sz : Nat, Met l y (Cond.code y bytes maxL none :: xWs) rm (va_Pc avs (xPre D cl tys E NC ad ah sz)) (va_Qv (fun u => u = o) (xBz D cl tys E NC ad sz) (xA ad NC sz)) 0 0 (xA ad NC sz)
theorem xNest.warm {s U : State} (hW : s.WarmedH U.vm) (h : xNest s) : xNest U := fun q hq => va_Nw.warmM hW (h q hq)
theorem xPre_blind {D : va_G} {cl : List vw_C} {tys : List (ClassId × FieldType)} {E : xL} {NC : Nat} {ad : Nat → Nat} {ah : AH} {sz : Nat} {avs : List Value} : FrameBlind (va_Pc avs (xPre D cl tys E NC ad ah sz)) := by
  intro a U g mk q
  obtain ⟨q0, q1, qP, qK, qN⟩ := q
  exact ⟨q0, q1, qP, va_K.moved (u := U) (U := U.calling g mk a) (Vm.Alike.refl U.vm) qK, fun w hw => va_Nw.same rfl rfl (qN w hw)⟩
theorem xGood (y : MethodName) (bytes : ByteArray) (maxL : Nat) (ret : Option FieldType) (h : Cond.code y bytes maxL ret ∈ xWs) : GoodIn xWs (Cond.code y bytes maxL ret :: xWs) := fun w hw => by
  have hm : w ∈ xWs := by
    rcases List.mem_cons.mp hw with rfl | q
    · exact h
    · exact q
  exact ⟨hm, good_of_word (xWs_good hm)⟩
/-- what a call of an instance method asks of the tables; of a static one -/
def xcV (C : String) (y : MethodName) (bytes : ByteArray) (maxL : Nat) (ret : Option FieldType) (n : Nat) : Prop := Cond.instanceMethod y ∈ xWs ∧ Cond.selects C y y ∈ xWs ∧ Cond.initialized y.cls ∈ xWs ∧ Cond.code y bytes maxL ret ∈ xWs ∧ (y.cls ≠ "java/lang/invoke/MethodHandle" ∧ y.cls ≠ "java/lang/invoke/VarHandle" ∧ (parseMethodDescriptor y.desc).map (fun d => d.parameters.length) = some n)
def xcS (y : MethodName) (bytes : ByteArray) (maxL : Nat) (ret : Option FieldType) (n : Nat) : Prop := Cond.static y ∈ xWs ∧ Cond.initialized y.cls ∈ xWs ∧ Cond.code y bytes maxL ret ∈ xWs ∧ (y.cls ≠ "java/lang/invoke/MethodHandle" ∧ y.cls ≠ "java/lang/invoke/VarHandle" ∧ (parseMethodDescriptor y.desc).map (fun d => d.parameters.length) = some n)
section
variable {p : Program} {l : Launch} {e : Env} {R : Room} {s : State} {m : MethodId} {args : Array Value} {below : List Frame} {meth : Method} {c : Code} {cc : ByteArray} {nL : Nat} {ret : Option FieldType} {own : String} {D : va_G} {cl : List vw_C} {tys : List (ClassId × FieldType)} {E : xL} {NC : Nat} {ad : Nat → Nat} {Q : State → Prop} {ah : AH} {pc cn : Nat} {lv : List (Nat × Value)} {st : List Value}
theorem x_iload_n (C : XC p l s m args meth c cc nL ret own D cl tys E NC ad) {k : Fin 4} (hd : decode cc pc = .ok (.iload_n k, 1)) (pc' : Nat) (hp : pc + 1 = pc') (j : Nat) {x : Int32} (hj : lv[j]? = some (k.val, .int x)) (kk : XW p l e R s m args below meth c nL cn Q D cl E NC ad ah pc' lv (.int x :: st)) : XW p l e R s m args below meth c nL cn Q D cl E NC ad ah pc lv st := by
  intro H locs ls hP hS hz hl
  subst hp
  exact lv_iload_n C.1 C.2.1 hd rfl (lv_at hl j hj) (kk H locs ls hP hS hz hl)
theorem x_iload (C : XC p l s m args meth c cc nL ret own D cl tys E NC ad) {k : Nat} (hd : decode cc pc = .ok (.iload k, 2)) (pc' : Nat) (hp : pc + 2 = pc') (j : Nat) {x : Int32} (hj : lv[j]? = some (k, .int x)) (kk : XW p l e R s m args below meth c nL cn Q D cl E NC ad ah pc' lv (.int x :: st)) : XW p l e R s m args below meth c nL cn Q D cl E NC ad ah pc lv st := by
  intro H locs ls hP hS hz hl
  subst hp
  exact lv_iload C.1 C.2.1 hd (lv_at hl j hj) (kk H locs ls hP hS hz hl)
theorem x_aload_n (C : XC p l s m args meth c cc nL ret own D cl tys E NC ad) {k : Fin 4} (hd : decode cc pc = .ok (.aload_n k, 1)) (pc' : Nat) (hp : pc + 1 = pc') (j : Nat) {x : Nat} (hj : lv[j]? = some (k.val, .ref x)) (kk : XW p l e R s m args below meth c nL cn Q D cl E NC ad ah pc' lv (.ref x :: st)) : XW p l e R s m args below meth c nL cn Q D cl E NC ad ah pc lv st := by
  intro H locs ls hP hS hz hl
  subst hp
  exact lv_aload_n C.1 C.2.1 hd rfl (lv_at hl j hj) (kk H locs ls hP hS hz hl)
theorem x_aload (C : XC p l s m args meth c cc nL ret own D cl tys E NC ad) {k : Nat} (hd : decode cc pc = .ok (.aload k, 2)) (pc' : Nat) (hp : pc + 2 = pc') (j : Nat) {x : Nat} (hj : lv[j]? = some (k, .ref x)) (kk : XW p l e R s m args below meth c nL cn Q D cl E NC ad ah pc' lv (.ref x :: st)) : XW p l e R s m args below meth c nL cn Q D cl E NC ad ah pc lv st := by
  intro H locs ls hP hS hz hl
  subst hp
  exact lv_aload C.1 C.2.1 hd (lv_at hl j hj) (kk H locs ls hP hS hz hl)
theorem x_istore_n (C : XC p l s m args meth c cc nL ret own D cl tys E NC ad) {k : Fin 4} (hd : decode cc pc = .ok (.istore_n k, 1)) (pc' : Nat) (hp : pc + 1 = pc') {α : Type} {x : Int32} {f : Int32 → Option α} {o : α} (hn : k.val < nL) (lv' : Int32 → List (Nat × Value)) (hl' : ∀ v, (k.val, Value.int v) :: lv.filter (fun q => !(q.1 == k.val) && !(q.1 + 1 == k.val && q.2.category == 2)) = lv' v) (h : xlet x f = some o) (kk : ∀ v, f v = some o → XW p l e R s m args below meth c nL cn Q D cl E NC ad ah pc' (lv' v) st) : XW p l e R s m args below meth c nL cn Q D cl E NC ad ah pc lv (.int x :: st) := by
  intro H locs ls hP hS hz hl
  subst hp
  exact lv_istore_n C.1 C.2.1 hd rfl hl hn (hl' x) (fun ls hl => kk x h H locs ls hP hS hz hl)
theorem x_istore (C : XC p l s m args meth c cc nL ret own D cl tys E NC ad) {k : Nat} (hd : decode cc pc = .ok (.istore k, 2)) (pc' : Nat) (hp : pc + 2 = pc') {α : Type} {x : Int32} {f : Int32 → Option α} {o : α} (hn : k < nL) (lv' : Int32 → List (Nat × Value)) (hl' : ∀ v, (k, Value.int v) :: lv.filter (fun q => !(q.1 == k) && !(q.1 + 1 == k && q.2.category == 2)) = lv' v) (h : xlet x f = some o) (kk : ∀ v, f v = some o → XW p l e R s m args below meth c nL cn Q D cl E NC ad ah pc' (lv' v) st) : XW p l e R s m args below meth c nL cn Q D cl E NC ad ah pc lv (.int x :: st) := by
  intro H locs ls hP hS hz hl
  subst hp
  exact lv_istore C.1 C.2.1 hd hl hn (hl' x) (fun ls hl => kk x h H locs ls hP hS hz hl)
theorem x_astore_n (C : XC p l s m args meth c cc nL ret own D cl tys E NC ad) {k : Fin 4} (hd : decode cc pc = .ok (.astore_n k, 1)) (pc' : Nat) (hp : pc + 1 = pc') {x : Nat} (hn : k.val < nL) (lv' : List (Nat × Value)) (hl' : (k.val, Value.ref x) :: lv.filter (fun q => !(q.1 == k.val) && !(q.1 + 1 == k.val && q.2.category == 2)) = lv') (kk : XW p l e R s m args below meth c nL cn Q D cl E NC ad ah pc' (lv') st) : XW p l e R s m args below meth c nL cn Q D cl E NC ad ah pc lv (.ref x :: st) := by
  intro H locs ls hP hS hz hl
  subst hp
  exact lv_astore_n C.1 C.2.1 hd rfl hl hn hl' (fun ls hl => kk H locs ls hP hS hz hl)
theorem x_astore (C : XC p l s m args meth c cc nL ret own D cl tys E NC ad) {k : Nat} (hd : decode cc pc = .ok (.astore k, 2)) (pc' : Nat) (hp : pc + 2 = pc') {x : Nat} (hn : k < nL) (lv' : List (Nat × Value)) (hl' : (k, Value.ref x) :: lv.filter (fun q => !(q.1 == k) && !(q.1 + 1 == k && q.2.category == 2)) = lv') (kk : XW p l e R s m args below meth c nL cn Q D cl E NC ad ah pc' (lv') st) : XW p l e R s m args below meth c nL cn Q D cl E NC ad ah pc lv (.ref x :: st) := by
  intro H locs ls hP hS hz hl
  subst hp
  exact lv_astore C.1 C.2.1 hd hl hn hl' (fun ls hl => kk H locs ls hP hS hz hl)
theorem x_iinc (C : XC p l s m args meth c cc nL ret own D cl tys E NC ad) {k : Nat} {n : Int} (hd : decode cc pc = .ok (.iinc k n, 3)) (pc' : Nat) (hp : pc + 3 = pc') (j : Nat) {x d : Int32} (hj : lv[j]? = some (k, .int x)) (hv : Int32.ofInt n = d) {α : Type} {f : Int32 → Option α} {o : α} (hn : k < nL) (lv' : Int32 → List (Nat × Value)) (hl' : ∀ v, (k, Value.int v) :: lv.filter (fun q => !(q.1 == k) && !(q.1 + 1 == k && q.2.category == 2)) = lv' v) (h : xlet (x + d) f = some o) (kk : ∀ v, f v = some o → XW p l e R s m args below meth c nL cn Q D cl E NC ad ah pc' (lv' v) st) : XW p l e R s m args below meth c nL cn Q D cl E NC ad ah pc lv st := by
  intro H locs ls hP hS hz hl
  subst hp
  subst hv
  exact lv_iinc C.1 C.2.1 hd hl hj rfl hn (hl' _) (fun ls hl => kk _ h H locs ls hP hS hz hl)
theorem x_iconst (C : XC p l s m args meth c cc nL ret own D cl tys E NC ad) {n : Int} (hd : decode cc pc = .ok (.iconst n, 1)) (pc' : Nat) (hp : pc + 1 = pc') (v : Int32) (hv : Int32.ofInt n = v) (kk : XW p l e R s m args below meth c nL cn Q D cl E NC ad ah pc' lv (.int v :: st)) : XW p l e R s m args below meth c nL cn Q D cl E NC ad ah pc lv st := by
  intro H locs ls hP hS hz hl
  subst hp
  exact lv_iconst C.1 C.2.1 hd hv (kk H locs ls hP hS hz hl)
theorem x_bipush (C : XC p l s m args meth c cc nL ret own D cl tys E NC ad) {n : Int} (hd : decode cc pc = .ok (.bipush n, 2)) (pc' : Nat) (hp : pc + 2 = pc') (v : Int32) (hv : (Int8.ofInt n).toInt32 = v) (kk : XW p l e R s m args below meth c nL cn Q D cl E NC ad ah pc' lv (.int v :: st)) : XW p l e R s m args below meth c nL cn Q D cl E NC ad ah pc lv st := by
  intro H locs ls hP hS hz hl
  subst hp
  exact lv_bipush C.1 C.2.1 hd hv (kk H locs ls hP hS hz hl)
theorem x_sipush (C : XC p l s m args meth c cc nL ret own D cl tys E NC ad) {n : Int} (hd : decode cc pc = .ok (.sipush n, 3)) (pc' : Nat) (hp : pc + 3 = pc') (v : Int32) (hv : (Int16.ofInt n).toInt32 = v) (kk : XW p l e R s m args below meth c nL cn Q D cl E NC ad ah pc' lv (.int v :: st)) : XW p l e R s m args below meth c nL cn Q D cl E NC ad ah pc lv st := by
  intro H locs ls hP hS hz hl
  subst hp
  exact lv_sipush C.1 C.2.1 hd hv (kk H locs ls hP hS hz hl)
theorem x_ldc (C : XC p l s m args meth c cc nL ret own D cl tys E NC ad) {ix : Nat} (hd : decode cc pc = .ok (.ldc ix, 2)) (pc' : Nat) (hp : pc + 2 = pc') {v : Int32} (hv : Cond.constant own ix v ∈ xWs) (kk : XW p l e R s m args below meth c nL cn Q D cl E NC ad ah pc' lv (.int v :: st)) : XW p l e R s m args below meth c nL cn Q D cl E NC ad ah pc lv st := by
  intro H locs ls hP hS hz hl
  subst hp
  exact lv_ldc C.1 C.2.1 C.2.2.2.1 (C.2.2.2.2.1 _ hv) hd (kk H locs ls hP hS hz hl)
theorem x_ldcw (C : XC p l s m args meth c cc nL ret own D cl tys E NC ad) {ix : Nat} (hd : decode cc pc = .ok (.ldc_w ix, 3)) (pc' : Nat) (hp : pc + 3 = pc') {v : Int32} (hv : Cond.constant own ix v ∈ xWs) (kk : XW p l e R s m args below meth c nL cn Q D cl E NC ad ah pc' lv (.int v :: st)) : XW p l e R s m args below meth c nL cn Q D cl E NC ad ah pc lv st := by
  intro H locs ls hP hS hz hl
  subst hp
  exact lv_ldcw C.1 C.2.1 C.2.2.2.1 (C.2.2.2.2.1 _ hv) hd (kk H locs ls hP hS hz hl)
theorem x_iadd (C : XC p l s m args meth c cc nL ret own D cl tys E NC ad) {x y : Int32} (hd : decode cc pc = .ok (.iadd, 1)) (pc' : Nat) (hp : pc + 1 = pc') (kk : XW p l e R s m args below meth c nL cn Q D cl E NC ad ah pc' lv (.int (x + y) :: st)) : XW p l e R s m args below meth c nL cn Q D cl E NC ad ah pc lv (.int y :: .int x :: st) := by
  intro H locs ls hP hS hz hl
  subst hp
  exact lv_iadd C.1 C.2.1 hd (kk H locs ls hP hS hz hl)
theorem x_isub (C : XC p l s m args meth c cc nL ret own D cl tys E NC ad) {x y : Int32} (hd : decode cc pc = .ok (.isub, 1)) (pc' : Nat) (hp : pc + 1 = pc') (kk : XW p l e R s m args below meth c nL cn Q D cl E NC ad ah pc' lv (.int (x - y) :: st)) : XW p l e R s m args below meth c nL cn Q D cl E NC ad ah pc lv (.int y :: .int x :: st) := by
  intro H locs ls hP hS hz hl
  subst hp
  exact lv_isub C.1 C.2.1 hd (kk H locs ls hP hS hz hl)
theorem x_imul (C : XC p l s m args meth c cc nL ret own D cl tys E NC ad) {x y : Int32} (hd : decode cc pc = .ok (.imul, 1)) (pc' : Nat) (hp : pc + 1 = pc') (kk : XW p l e R s m args below meth c nL cn Q D cl E NC ad ah pc' lv (.int (x * y) :: st)) : XW p l e R s m args below meth c nL cn Q D cl E NC ad ah pc lv (.int y :: .int x :: st) := by
  intro H locs ls hP hS hz hl
  subst hp
  exact lv_imul C.1 C.2.1 hd (kk H locs ls hP hS hz hl)
theorem x_ishl (C : XC p l s m args meth c cc nL ret own D cl tys E NC ad) {x y : Int32} (hd : decode cc pc = .ok (.ishl, 1)) (pc' : Nat) (hp : pc + 1 = pc') (kk : XW p l e R s m args below meth c nL cn Q D cl E NC ad ah pc' lv (.int (x <<< (y &&& 31)) :: st)) : XW p l e R s m args below meth c nL cn Q D cl E NC ad ah pc lv (.int y :: .int x :: st) := by
  intro H locs ls hP hS hz hl
  subst hp
  exact lv_ishl C.1 C.2.1 hd (kk H locs ls hP hS hz hl)
theorem x_ishr (C : XC p l s m args meth c cc nL ret own D cl tys E NC ad) {x y : Int32} (hd : decode cc pc = .ok (.ishr, 1)) (pc' : Nat) (hp : pc + 1 = pc') (kk : XW p l e R s m args below meth c nL cn Q D cl E NC ad ah pc' lv (.int (x >>> (y &&& 31)) :: st)) : XW p l e R s m args below meth c nL cn Q D cl E NC ad ah pc lv (.int y :: .int x :: st) := by
  intro H locs ls hP hS hz hl
  subst hp
  exact lv_ishr C.1 C.2.1 hd (kk H locs ls hP hS hz hl)
theorem x_iand (C : XC p l s m args meth c cc nL ret own D cl tys E NC ad) {x y : Int32} (hd : decode cc pc = .ok (.iand, 1)) (pc' : Nat) (hp : pc + 1 = pc') (kk : XW p l e R s m args below meth c nL cn Q D cl E NC ad ah pc' lv (.int (x &&& y) :: st)) : XW p l e R s m args below meth c nL cn Q D cl E NC ad ah pc lv (.int y :: .int x :: st) := by
  intro H locs ls hP hS hz hl
  subst hp
  exact lv_iand C.1 C.2.1 hd (kk H locs ls hP hS hz hl)
theorem x_ior (C : XC p l s m args meth c cc nL ret own D cl tys E NC ad) {x y : Int32} (hd : decode cc pc = .ok (.ior, 1)) (pc' : Nat) (hp : pc + 1 = pc') (kk : XW p l e R s m args below meth c nL cn Q D cl E NC ad ah pc' lv (.int (x ||| y) :: st)) : XW p l e R s m args below meth c nL cn Q D cl E NC ad ah pc lv (.int y :: .int x :: st) := by
  intro H locs ls hP hS hz hl
  subst hp
  exact lv_ior C.1 C.2.1 hd (kk H locs ls hP hS hz hl)
theorem x_idiv (C : XC p l s m args meth c cc nL ret own D cl tys E NC ad) {x y : Int32} (hd : decode cc pc = .ok (.idiv, 1)) (pc' : Nat) (hp : pc + 1 = pc') {α : Type} {B : Option α} {o : α} (h : xz y B = some o) (kk : B = some o → XW p l e R s m args below meth c nL cn Q D cl E NC ad ah pc' lv (.int (x / y) :: st)) : XW p l e R s m args below meth c nL cn Q D cl E NC ad ah pc lv (.int y :: .int x :: st) := by
  intro H locs ls hP hS hz hl
  subst hp
  obtain ⟨h0, h⟩ := xz_some h
  exact lv_idiv C.1 C.2.1 hd h0 (kk h H locs ls hP hS hz hl)
theorem x_irem (C : XC p l s m args meth c cc nL ret own D cl tys E NC ad) {x y : Int32} (hd : decode cc pc = .ok (.irem, 1)) (pc' : Nat) (hp : pc + 1 = pc') {α : Type} {B : Option α} {o : α} (h : xz y B = some o) (kk : B = some o → XW p l e R s m args below meth c nL cn Q D cl E NC ad ah pc' lv (.int (x - x / y * y) :: st)) : XW p l e R s m args below meth c nL cn Q D cl E NC ad ah pc lv (.int y :: .int x :: st) := by
  intro H locs ls hP hS hz hl
  subst hp
  obtain ⟨h0, h⟩ := xz_some h
  exact lv_irem C.1 C.2.1 hd h0 (kk h H locs ls hP hS hz hl)
def xushr (x y : Int32) : Int32 := (x.toUInt32 >>> (y.toUInt32 &&& Int32.toUInt32 31)).toInt32
theorem x_iushr (C : XC p l s m args meth c cc nL ret own D cl tys E NC ad) {x y : Int32} (hd : decode cc pc = .ok (.iushr, 1)) (pc' : Nat) (hp : pc + 1 = pc') (kk : XW p l e R s m args below meth c nL cn Q D cl E NC ad ah pc' lv (.int (xushr x y) :: st)) : XW p l e R s m args below meth c nL cn Q D cl E NC ad ah pc lv (.int y :: .int x :: st) := by
  intro H locs ls hP hS hz hl
  subst hp
  exact lv_iushr C.1 C.2.1 hd rfl (kk H locs ls hP hS hz hl)
def xmin (x y : Int32) : Int32 := if y < x then y else x
def xmax (x y : Int32) : Int32 := if x < y then y else x
theorem x_mmin (C : XC p l s m args meth c cc nL ret own D cl tys E NC ad) {x y : Int32} {ix : Nat} (hlink : Cond.methodLink own ix Lib.Math.min.name ∈ xWs) (hstat : Cond.static Lib.Math.min.name ∈ xWs) (hini : Cond.initialized "java/lang/Math" ∈ xWs) (hcode : Cond.code Lib.Math.min.name Lib.Math.min.code 2 (some .int) ∈ xWs) (hcn : cn ≤ R.cells ∧ 6 * cn ≤ R.slots) (hf : 1 ≤ R.frames) (hlo : (st.map fun v => v.category).sum + 13 ≤ R.locals) (hd : decode cc pc = .ok (.invokestatic ix, 3)) (pc' : Nat) (hp : pc + 3 = pc') (kk : XW p l e R s m args below meth c nL cn Q D cl E NC ad ah pc' lv (.int (xmin x y) :: st)) : XW p l e R s m args below meth c nL cn Q D cl E NC ad ah pc lv (.int y :: .int x :: st) := by
  intro H locs ls hP hS hz hl
  subst hp
  exact va_mmin C.1 C.2.1 (by rw [C.2.2.1]; exact hl.1.symm) C.2.2.2.1 (C.2.2.2.2.1 _ hlink) (C.2.2.2.2.1 _ hstat) (C.2.2.2.2.1 _ hini) (C.2.2.2.2.1 _ hcode) hf hlo hcn.1 hcn.2 hd (kk H locs ls hP hS hz hl)
theorem x_mmax (C : XC p l s m args meth c cc nL ret own D cl tys E NC ad) {x y : Int32} {ix : Nat} (hlink : Cond.methodLink own ix Lib.Math.max.name ∈ xWs) (hstat : Cond.static Lib.Math.max.name ∈ xWs) (hini : Cond.initialized "java/lang/Math" ∈ xWs) (hcode : Cond.code Lib.Math.max.name Lib.Math.max.code 2 (some .int) ∈ xWs) (hcn : cn ≤ R.cells ∧ 6 * cn ≤ R.slots) (hf : 1 ≤ R.frames) (hlo : (st.map fun v => v.category).sum + 13 ≤ R.locals) (hd : decode cc pc = .ok (.invokestatic ix, 3)) (pc' : Nat) (hp : pc + 3 = pc') (kk : XW p l e R s m args below meth c nL cn Q D cl E NC ad ah pc' lv (.int (xmax x y) :: st)) : XW p l e R s m args below meth c nL cn Q D cl E NC ad ah pc lv (.int y :: .int x :: st) := by
  intro H locs ls hP hS hz hl
  subst hp
  exact va_mmax C.1 C.2.1 (by rw [C.2.2.1]; exact hl.1.symm) C.2.2.2.1 (C.2.2.2.2.1 _ hlink) (C.2.2.2.2.1 _ hstat) (C.2.2.2.2.1 _ hini) (C.2.2.2.2.1 _ hcode) hf hlo hcn.1 hcn.2 hd (kk H locs ls hP hS hz hl)
theorem x_dup (C : XC p l s m args meth c cc nL ret own D cl tys E NC ad) {v : Value} (hd : decode cc pc = .ok (.dup, 1)) (pc' : Nat) (hp : pc + 1 = pc') (hv : v.category = 1) (kk : XW p l e R s m args below meth c nL cn Q D cl E NC ad ah pc' lv (v :: v :: st)) : XW p l e R s m args below meth c nL cn Q D cl E NC ad ah pc lv (v :: st) := by
  intro H locs ls hP hS hz hl
  subst hp
  exact lv_dup C.1 C.2.1 hd hv (kk H locs ls hP hS hz hl)
theorem x_dup2 (C : XC p l s m args meth c cc nL ret own D cl tys E NC ad) {v w : Value} (hd : decode cc pc = .ok (.dup2, 1)) (pc' : Nat) (hp : pc + 1 = pc') (hv : v.category = 1) (hw : w.category = 1) (kk : XW p l e R s m args below meth c nL cn Q D cl E NC ad ah pc' lv (v :: w :: v :: w :: st)) : XW p l e R s m args below meth c nL cn Q D cl E NC ad ah pc lv (v :: w :: st) := by
  intro H locs ls hP hS hz hl
  subst hp
  exact lv_dup2_11 C.1 C.2.1 hd hv hw (kk H locs ls hP hS hz hl)
theorem x_pop (C : XC p l s m args meth c cc nL ret own D cl tys E NC ad) {v : Value} (hd : decode cc pc = .ok (.pop, 1)) (pc' : Nat) (hp : pc + 1 = pc') (hv : v.category = 1) (kk : XW p l e R s m args below meth c nL cn Q D cl E NC ad ah pc' lv st) : XW p l e R s m args below meth c nL cn Q D cl E NC ad ah pc lv (v :: st) := by
  intro H locs ls hP hS hz hl
  subst hp
  exact lv_pop C.1 C.2.1 hd hv (kk H locs ls hP hS hz hl)
theorem x_if_eq (C : XC p l s m args meth c cc nL ret own D cl tys E NC ad) {x : Int32} {off : Int} (hd : decode cc pc = .ok (.ifCond .eq off, 3)) (pc' : Nat) (hp : pc + 3 = pc') (tgt : Nat) (ht : (pc : Int) + off = (tgt : Int)) {α : Type} {A B : Option α} {o : α} (h : (if x = 0 then A else B) = some o) (kt : A = some o → XW p l e R s m args below meth c nL cn Q D cl E NC ad ah tgt lv st) (kf : B = some o → XW p l e R s m args below meth c nL cn Q D cl E NC ad ah pc' lv st) : XW p l e R s m args below meth c nL cn Q D cl E NC ad ah pc lv (.int x :: st) := by
  intro H locs ls hP hS hz hl
  subst hp
  exact lv_if_eq C.1 C.2.1 hd ht (fun q => kt (by rw [if_pos q] at h; exact h) H locs ls hP hS hz hl) (fun q => kf (by rw [if_neg q] at h; exact h) H locs ls hP hS hz hl)
theorem x_if_ne (C : XC p l s m args meth c cc nL ret own D cl tys E NC ad) {x : Int32} {off : Int} (hd : decode cc pc = .ok (.ifCond .ne off, 3)) (pc' : Nat) (hp : pc + 3 = pc') (tgt : Nat) (ht : (pc : Int) + off = (tgt : Int)) {α : Type} {A B : Option α} {o : α} (h : (if x = 0 then B else A) = some o) (kt : A = some o → XW p l e R s m args below meth c nL cn Q D cl E NC ad ah tgt lv st) (kf : B = some o → XW p l e R s m args below meth c nL cn Q D cl E NC ad ah pc' lv st) : XW p l e R s m args below meth c nL cn Q D cl E NC ad ah pc lv (.int x :: st) := by
  intro H locs ls hP hS hz hl
  subst hp
  exact lv_if_ne C.1 C.2.1 hd ht (fun q => kt (by rw [if_neg q] at h; exact h) H locs ls hP hS hz hl) (fun q => kf (by rw [if_pos q] at h; exact h) H locs ls hP hS hz hl)
theorem x_if_lt (C : XC p l s m args meth c cc nL ret own D cl tys E NC ad) {x : Int32} {off : Int} (hd : decode cc pc = .ok (.ifCond .lt off, 3)) (pc' : Nat) (hp : pc + 3 = pc') (tgt : Nat) (ht : (pc : Int) + off = (tgt : Int)) {α : Type} {A B : Option α} {o : α} (h : (if x < 0 then A else B) = some o) (kt : A = some o → XW p l e R s m args below meth c nL cn Q D cl E NC ad ah tgt lv st) (kf : B = some o → XW p l e R s m args below meth c nL cn Q D cl E NC ad ah pc' lv st) : XW p l e R s m args below meth c nL cn Q D cl E NC ad ah pc lv (.int x :: st) := by
  intro H locs ls hP hS hz hl
  subst hp
  exact lv_if_lt C.1 C.2.1 hd ht (fun q => kt (by rw [if_pos q] at h; exact h) H locs ls hP hS hz hl) (fun q => kf (by rw [if_neg q] at h; exact h) H locs ls hP hS hz hl)
theorem x_if_ge (C : XC p l s m args meth c cc nL ret own D cl tys E NC ad) {x : Int32} {off : Int} (hd : decode cc pc = .ok (.ifCond .ge off, 3)) (pc' : Nat) (hp : pc + 3 = pc') (tgt : Nat) (ht : (pc : Int) + off = (tgt : Int)) {α : Type} {A B : Option α} {o : α} (h : (if 0 ≤ x then A else B) = some o) (kt : A = some o → XW p l e R s m args below meth c nL cn Q D cl E NC ad ah tgt lv st) (kf : B = some o → XW p l e R s m args below meth c nL cn Q D cl E NC ad ah pc' lv st) : XW p l e R s m args below meth c nL cn Q D cl E NC ad ah pc lv (.int x :: st) := by
  intro H locs ls hP hS hz hl
  subst hp
  exact lv_if_ge C.1 C.2.1 hd ht (fun q => kt (by rw [if_pos q] at h; exact h) H locs ls hP hS hz hl) (fun q => kf (by rw [if_neg q] at h; exact h) H locs ls hP hS hz hl)
theorem x_if_gt (C : XC p l s m args meth c cc nL ret own D cl tys E NC ad) {x : Int32} {off : Int} (hd : decode cc pc = .ok (.ifCond .gt off, 3)) (pc' : Nat) (hp : pc + 3 = pc') (tgt : Nat) (ht : (pc : Int) + off = (tgt : Int)) {α : Type} {A B : Option α} {o : α} (h : (if 0 < x then A else B) = some o) (kt : A = some o → XW p l e R s m args below meth c nL cn Q D cl E NC ad ah tgt lv st) (kf : B = some o → XW p l e R s m args below meth c nL cn Q D cl E NC ad ah pc' lv st) : XW p l e R s m args below meth c nL cn Q D cl E NC ad ah pc lv (.int x :: st) := by
  intro H locs ls hP hS hz hl
  subst hp
  exact lv_if_gt C.1 C.2.1 hd ht (fun q => kt (by rw [if_pos q] at h; exact h) H locs ls hP hS hz hl) (fun q => kf (by rw [if_neg q] at h; exact h) H locs ls hP hS hz hl)
theorem x_if_le (C : XC p l s m args meth c cc nL ret own D cl tys E NC ad) {x : Int32} {off : Int} (hd : decode cc pc = .ok (.ifCond .le off, 3)) (pc' : Nat) (hp : pc + 3 = pc') (tgt : Nat) (ht : (pc : Int) + off = (tgt : Int)) {α : Type} {A B : Option α} {o : α} (h : (if x ≤ 0 then A else B) = some o) (kt : A = some o → XW p l e R s m args below meth c nL cn Q D cl E NC ad ah tgt lv st) (kf : B = some o → XW p l e R s m args below meth c nL cn Q D cl E NC ad ah pc' lv st) : XW p l e R s m args below meth c nL cn Q D cl E NC ad ah pc lv (.int x :: st) := by
  intro H locs ls hP hS hz hl
  subst hp
  exact lv_if_le C.1 C.2.1 hd ht (fun q => kt (by rw [if_pos q] at h; exact h) H locs ls hP hS hz hl) (fun q => kf (by rw [if_neg q] at h; exact h) H locs ls hP hS hz hl)
theorem x_icmp_eq (C : XC p l s m args meth c cc nL ret own D cl tys E NC ad) {x y : Int32} {off : Int} (hd : decode cc pc = .ok (.if_icmp .eq off, 3)) (pc' : Nat) (hp : pc + 3 = pc') (tgt : Nat) (ht : (pc : Int) + off = (tgt : Int)) {α : Type} {A B : Option α} {o : α} (h : (if x = y then A else B) = some o) (kt : A = some o → XW p l e R s m args below meth c nL cn Q D cl E NC ad ah tgt lv st) (kf : B = some o → XW p l e R s m args below meth c nL cn Q D cl E NC ad ah pc' lv st) : XW p l e R s m args below meth c nL cn Q D cl E NC ad ah pc lv (.int y :: .int x :: st) := by
  intro H locs ls hP hS hz hl
  subst hp
  exact lv_icmp_eq C.1 C.2.1 hd ht (fun q => kt (by rw [if_pos q] at h; exact h) H locs ls hP hS hz hl) (fun q => kf (by rw [if_neg q] at h; exact h) H locs ls hP hS hz hl)
theorem x_icmp_ne (C : XC p l s m args meth c cc nL ret own D cl tys E NC ad) {x y : Int32} {off : Int} (hd : decode cc pc = .ok (.if_icmp .ne off, 3)) (pc' : Nat) (hp : pc + 3 = pc') (tgt : Nat) (ht : (pc : Int) + off = (tgt : Int)) {α : Type} {A B : Option α} {o : α} (h : (if x = y then B else A) = some o) (kt : A = some o → XW p l e R s m args below meth c nL cn Q D cl E NC ad ah tgt lv st) (kf : B = some o → XW p l e R s m args below meth c nL cn Q D cl E NC ad ah pc' lv st) : XW p l e R s m args below meth c nL cn Q D cl E NC ad ah pc lv (.int y :: .int x :: st) := by
  intro H locs ls hP hS hz hl
  subst hp
  exact lv_icmp_ne C.1 C.2.1 hd ht (fun q => kt (by rw [if_neg q] at h; exact h) H locs ls hP hS hz hl) (fun q => kf (by rw [if_pos q] at h; exact h) H locs ls hP hS hz hl)
theorem x_icmp_lt (C : XC p l s m args meth c cc nL ret own D cl tys E NC ad) {x y : Int32} {off : Int} (hd : decode cc pc = .ok (.if_icmp .lt off, 3)) (pc' : Nat) (hp : pc + 3 = pc') (tgt : Nat) (ht : (pc : Int) + off = (tgt : Int)) {α : Type} {A B : Option α} {o : α} (h : (if x < y then A else B) = some o) (kt : A = some o → XW p l e R s m args below meth c nL cn Q D cl E NC ad ah tgt lv st) (kf : B = some o → XW p l e R s m args below meth c nL cn Q D cl E NC ad ah pc' lv st) : XW p l e R s m args below meth c nL cn Q D cl E NC ad ah pc lv (.int y :: .int x :: st) := by
  intro H locs ls hP hS hz hl
  subst hp
  exact lv_icmp_lt C.1 C.2.1 hd ht (fun q => kt (by rw [if_pos q] at h; exact h) H locs ls hP hS hz hl) (fun q => kf (by rw [if_neg q] at h; exact h) H locs ls hP hS hz hl)
theorem x_icmp_ge (C : XC p l s m args meth c cc nL ret own D cl tys E NC ad) {x y : Int32} {off : Int} (hd : decode cc pc = .ok (.if_icmp .ge off, 3)) (pc' : Nat) (hp : pc + 3 = pc') (tgt : Nat) (ht : (pc : Int) + off = (tgt : Int)) {α : Type} {A B : Option α} {o : α} (h : (if y ≤ x then A else B) = some o) (kt : A = some o → XW p l e R s m args below meth c nL cn Q D cl E NC ad ah tgt lv st) (kf : B = some o → XW p l e R s m args below meth c nL cn Q D cl E NC ad ah pc' lv st) : XW p l e R s m args below meth c nL cn Q D cl E NC ad ah pc lv (.int y :: .int x :: st) := by
  intro H locs ls hP hS hz hl
  subst hp
  exact lv_icmp_ge C.1 C.2.1 hd ht (fun q => kt (by rw [if_pos q] at h; exact h) H locs ls hP hS hz hl) (fun q => kf (by rw [if_neg q] at h; exact h) H locs ls hP hS hz hl)
theorem x_icmp_gt (C : XC p l s m args meth c cc nL ret own D cl tys E NC ad) {x y : Int32} {off : Int} (hd : decode cc pc = .ok (.if_icmp .gt off, 3)) (pc' : Nat) (hp : pc + 3 = pc') (tgt : Nat) (ht : (pc : Int) + off = (tgt : Int)) {α : Type} {A B : Option α} {o : α} (h : (if y < x then A else B) = some o) (kt : A = some o → XW p l e R s m args below meth c nL cn Q D cl E NC ad ah tgt lv st) (kf : B = some o → XW p l e R s m args below meth c nL cn Q D cl E NC ad ah pc' lv st) : XW p l e R s m args below meth c nL cn Q D cl E NC ad ah pc lv (.int y :: .int x :: st) := by
  intro H locs ls hP hS hz hl
  subst hp
  exact lv_icmp_gt C.1 C.2.1 hd ht (fun q => kt (by rw [if_pos q] at h; exact h) H locs ls hP hS hz hl) (fun q => kf (by rw [if_neg q] at h; exact h) H locs ls hP hS hz hl)
theorem x_icmp_le (C : XC p l s m args meth c cc nL ret own D cl tys E NC ad) {x y : Int32} {off : Int} (hd : decode cc pc = .ok (.if_icmp .le off, 3)) (pc' : Nat) (hp : pc + 3 = pc') (tgt : Nat) (ht : (pc : Int) + off = (tgt : Int)) {α : Type} {A B : Option α} {o : α} (h : (if x ≤ y then A else B) = some o) (kt : A = some o → XW p l e R s m args below meth c nL cn Q D cl E NC ad ah tgt lv st) (kf : B = some o → XW p l e R s m args below meth c nL cn Q D cl E NC ad ah pc' lv st) : XW p l e R s m args below meth c nL cn Q D cl E NC ad ah pc lv (.int y :: .int x :: st) := by
  intro H locs ls hP hS hz hl
  subst hp
  exact lv_icmp_le C.1 C.2.1 hd ht (fun q => kt (by rw [if_pos q] at h; exact h) H locs ls hP hS hz hl) (fun q => kf (by rw [if_neg q] at h; exact h) H locs ls hP hS hz hl)
theorem x_goto (C : XC p l s m args meth c cc nL ret own D cl tys E NC ad) {off : Int} (hd : decode cc pc = .ok (.goto off, 3)) (tgt : Nat) (ht : (pc : Int) + off = (tgt : Int)) (kk : XW p l e R s m args below meth c nL cn Q D cl E NC ad ah tgt lv st) : XW p l e R s m args below meth c nL cn Q D cl E NC ad ah pc lv st := by
  intro H locs ls hP hS hz hl
  exact lv_goto C.1 C.2.1 hd ht (kk H locs ls hP hS hz hl)
theorem x_sub (ks : List Nat) {lv' : List (Nat × Value)} (hk : lv_pick lv ks = lv') (kk : XW p l e R s m args below meth c nL cn Q D cl E NC ad ah pc (lv') st) : XW p l e R s m args below meth c nL cn Q D cl E NC ad ah pc lv st := fun H locs ls hP hS hz hl => kk H locs ls hP hS hz (lv_sub hl ks hk)
theorem x_sw {x : Int32} (v : Int32) {α : Type} {A B : Option α} {o : α} (h : (if x = v then A else B) = some o) (kt : x = v → A = some o → XW p l e R s m args below meth c nL cn Q D cl E NC ad ah pc lv st) (kf : B = some o → XW p l e R s m args below meth c nL cn Q D cl E NC ad ah pc lv st) : XW p l e R s m args below meth c nL cn Q D cl E NC ad ah pc lv st := by
  by_cases q : x = v
  · exact kt q (by rw [if_pos q] at h; exact h)
  · exact kf (by rw [if_neg q] at h; exact h)
theorem x_tabIn (C : XC p l s m args meth c cc nL ret own D cl tys E NC ad) {dflt lo hi : Int} {offs : Array Int} {len : Nat} {x : Int32} {off : Int} (tgt : Nat) (v : Int32) (hd : decode cc pc = .ok (.tableswitch dflt lo hi offs, len)) (q : x = v) (h1 : ¬ v.toInt < lo) (h2 : ¬ hi < v.toInt) (ho : offs[(v.toInt - lo).toNat]? = some off) (ht : (pc : Int) + off = (tgt : Int)) (kk : XW p l e R s m args below meth c nL cn Q D cl E NC ad ah tgt lv st) : XW p l e R s m args below meth c nL cn Q D cl E NC ad ah pc lv (.int x :: st) := by
  intro H locs ls hP hS hz hl
  subst q
  exact lv_tableIn C.1 C.2.1 hd h1 h2 ho ht (kk H locs ls hP hS hz hl)
theorem x_tabOut (C : XC p l s m args meth c cc nL ret own D cl tys E NC ad) {dflt lo hi : Int} {offs : Array Int} {len : Nat} {x : Int32} (tgt : Nat) (hd : decode cc pc = .ok (.tableswitch dflt lo hi offs, len)) (h1 : x.toInt < lo ∨ hi < x.toInt) (ht : (pc : Int) + dflt = (tgt : Int)) (kk : XW p l e R s m args below meth c nL cn Q D cl E NC ad ah tgt lv st) : XW p l e R s m args below meth c nL cn Q D cl E NC ad ah pc lv (.int x :: st) := by
  intro H locs ls hP hS hz hl
  exact lv_tableOut C.1 C.2.1 hd h1 ht (kk H locs ls hP hS hz hl)
theorem x_look (C : XC p l s m args meth c cc nL ret own D cl tys E NC ad) {dflt : Int} {ps : Array (Int × Int)} {len : Nat} {x : Int32} {off : Int} (tgt : Nat) (hd : decode cc pc = .ok (.lookupswitch dflt ps, len)) (hq : (ps.toList.zip (ps.toList.drop 1)).all (fun (a, next) => a.1 < next.1) = true) (ho : Op.lookupswitch.offset ps.toList dflt x.toInt = off) (ht : (pc : Int) + off = (tgt : Int)) (kk : XW p l e R s m args below meth c nL cn Q D cl E NC ad ah tgt lv st) : XW p l e R s m args below meth c nL cn Q D cl E NC ad ah pc lv (.int x :: st) := by
  intro H locs ls hP hS hz hl
  exact lv_lookup C.1 C.2.1 hd hq ho ht (kk H locs ls hP hS hz hl)
theorem x_swL {x : Int32} (v : Int32) (b : Int) (hb : v.toInt = b) {α : Type} {A B : Option α} {o : α} (h : (if x < v then A else B) = some o) (kt : x.toInt < b → A = some o → XW p l e R s m args below meth c nL cn Q D cl E NC ad ah pc lv st) (kf : B = some o → XW p l e R s m args below meth c nL cn Q D cl E NC ad ah pc lv st) : XW p l e R s m args below meth c nL cn Q D cl E NC ad ah pc lv st := by
  by_cases q : x < v
  · exact kt (by rw [← hb]; exact Int32.lt_iff_toInt_lt.mp q) (by rw [if_pos q] at h; exact h)
  · exact kf (by rw [if_neg q] at h; exact h)
theorem x_swG {x : Int32} (v : Int32) (b : Int) (hb : v.toInt = b) {α : Type} {A B : Option α} {o : α} (h : (if v < x then A else B) = some o) (kt : b < x.toInt → A = some o → XW p l e R s m args below meth c nL cn Q D cl E NC ad ah pc lv st) (kf : B = some o → XW p l e R s m args below meth c nL cn Q D cl E NC ad ah pc lv st) : XW p l e R s m args below meth c nL cn Q D cl E NC ad ah pc lv st := by
  by_cases q : v < x
  · exact kt (by rw [← hb]; exact Int32.lt_iff_toInt_lt.mp q) (by rw [if_pos q] at h; exact h)
  · exact kf (by rw [if_neg q] at h; exact h)
theorem x_swN {x : Int32} (v : Int32) {α : Type} {A B : Option α} {o : α} (h : (if x = v then A else B) = some o) (kt : x = v → A = some o → XW p l e R s m args below meth c nL cn Q D cl E NC ad ah pc lv st) (kf : ¬ x.toInt = v.toInt → B = some o → XW p l e R s m args below meth c nL cn Q D cl E NC ad ah pc lv st) : XW p l e R s m args below meth c nL cn Q D cl E NC ad ah pc lv st := by
  by_cases q : x = v
  · exact kt q (by rw [if_pos q] at h; exact h)
  · exact kf (fun e => q (Int32.toInt_inj.mp e)) (by rw [if_neg q] at h; exact h)
theorem x_lookIn (C : XC p l s m args meth c cc nL ret own D cl tys E NC ad) {dflt : Int} {ps : Array (Int × Int)} {len : Nat} {x : Int32} {off : Int} (tgt : Nat) (v : Int32) (hd : decode cc pc = .ok (.lookupswitch dflt ps, len)) (q : x = v) (hq : (ps.toList.zip (ps.toList.drop 1)).all (fun (a, next) => a.1 < next.1) = true) (ho : Op.lookupswitch.offset ps.toList dflt v.toInt = off) (ht : (pc : Int) + off = (tgt : Int)) (kk : XW p l e R s m args below meth c nL cn Q D cl E NC ad ah tgt lv st) : XW p l e R s m args below meth c nL cn Q D cl E NC ad ah pc lv (.int x :: st) := by
  intro H locs ls hP hS hz hl
  subst q
  exact lv_lookup C.1 C.2.1 hd hq ho ht (kk H locs ls hP hS hz hl)
theorem x_get (C : XC p l s m args meth c cc nL ret own D cl tys E NC ad) {C0 : String} {T : u_T} {N ci ix : Nat} (hin : ∀ w ∈ u_ws C0 T N, w ∈ xWs) (k : Nat) (hk : k < NC) {fs : List Value} (hE : E ah k = .inr (ci, fs)) (hc : cl[ci]? = some (C0, T, N)) (j : Nat) (hj : j < N) (hd : decode cc pc = .ok (.getfield ix, 3)) (pc' : Nat) (hp : pc + 3 = pc') (hlink : Cond.fieldLink own ix (T j).1 (T j).2.1 (T j).2.2.1 ∈ xWs) {v : Value} (hv : fs[j]? = some v) (kk : XW p l e R s m args below meth c nL cn Q D cl E NC ad ah pc' lv (v :: st)) : XW p l e R s m args below meth c nL cn Q D cl E NC ad ah pc lv (.ref (ad k) :: st) := by
  intro H locs ls hP hS hz hl
  subst hp
  exact va_get C.1 C.2.1 C.2.2.2.2.1 hin C.2.2.2.1 C.2.2.2.2.2.1 hP k (xw_get hk hE) hc j hj (C.2.2.2.2.1 _ hlink) (fun _ h => h) hv hd (kk H locs ls hP hS hz hl)
theorem x_put (C : XC p l s m args meth c cc nL ret own D cl tys E NC ad) {C0 : String} {ty0 : Nat → FieldType} {T : u_T} {N ci ix : Nat} (hin : ∀ w ∈ u_ws C0 T N, w ∈ xWs) (k : Nat) (hk : k < NC) {fs : List Value} (hE : E ah k = .inr (ci, fs)) (hc : cl[ci]? = some (C0, T, N)) (j : Nat) (hj : j < N) (hty : ∀ k, k < N → parseFieldDescriptor (T k).2.2.1 = some (ty0 k)) (hnm : ∀ a, a < N → ∀ b, b < N → a ≠ b → (T a).2.1 ≠ (T b).2.1) (hd : decode cc pc = .ok (.putfield ix, 3)) (pc' : Nat) (hp : pc + 3 = pc') (hlink : Cond.fieldLink own ix (T j).1 (T j).2.1 (T j).2.2.1 ∈ xWs) (hfin : (T j).2.2.2 = false) {x : Int32} (hn : narrow (ty0 j) (.int x) = .int x) (hfit : fits (ty0 j) (.int x) = true) (hlen : j < fs.length) (hset : E (xu ah k j x) k = .inr (ci, fs.set j (.int x))) {α : Type} {f : AH → Option α} {o : α} (h : xlet (xu ah k j x) f = some o) (kk : ∀ ah1, f ah1 = some o → XW p l e R s m args below meth c nL cn Q D cl E NC ad ah1 pc' lv st) : XW p l e R s m args below meth c nL cn Q D cl E NC ad ah pc lv (.int x :: .ref (ad k) :: st) := by
  intro H locs ls hP hS hz hl
  subst hp
  refine va_putz C.1 C.2.1 C.2.2.2.2.1 hin ty0 hty hnm C.2.2.2.1 C.2.2.2.2.2.1 hP (xw_D C.2.2.2.2.2.2.1) hS k (xw_get hk hE) hc j hj (C.2.2.2.2.1 _ hlink) (fun _ h => h) hfin (hty j hj) hn hfit hlen hd (fun H1 locs1 hP1 hS1 z1 => ?_)
  rw [xw_set C.2.2.2.2.2.2.2.1 hset] at hP1
  exact kk _ h H1 locs1 ls hP1 hS1 (fun h0 => z1.trans (hz h0)) hl
theorem x_iald (C : XC p l s m args meth c cc nL ret own D cl tys E NC ad) {i : Int32} {cA : ClassId} {n : Nat} (k : Nat) (hk : k < NC) (hE : E ah k = .inl (cA, n, .inl (ah k))) (t0 : Nat) (ht : tys[t0]? = some (cA, .int)) (hd : decode cc pc = .ok (.iaload, 1)) (pc' : Nat) (hp : pc + 1 = pc') {α : Type} {B : Option α} {o : α} (h : xg i n B = some o) (kk : B = some o → XW p l e R s m args below meth c nL cn Q D cl E NC ad ah pc' lv (.int (ah k i.toNatClampNeg) :: st)) : XW p l e R s m args below meth c nL cn Q D cl E NC ad ah pc lv (.int i :: .ref (ad k) :: st) := by
  intro H locs ls hP hS hz hl
  subst hp
  obtain ⟨hi, h⟩ := xg_some h
  exact va_iald C.1 C.2.1 C.2.2.2.2.2.1 hP k t0 (xw_get hk hE) ht hi hd (kk h H locs ls hP hS hz hl)
theorem x_zald (C : XC p l s m args meth c cc nL ret own D cl tys E NC ad) {i : Int32} {cA : ClassId} {n : Nat} (k : Nat) (hk : k < NC) (hE : E ah k = .inl (cA, n, .inl (ah k))) (t0 : Nat) (ht : tys[t0]? = some (cA, .boolean)) (hd : decode cc pc = .ok (.baload, 1)) (pc' : Nat) (hp : pc + 1 = pc') {α : Type} {B : Option α} {o : α} (h : xg i n B = some o) (kk : B = some o → XW p l e R s m args below meth c nL cn Q D cl E NC ad ah pc' lv (.int (ah k i.toNatClampNeg) :: st)) : XW p l e R s m args below meth c nL cn Q D cl E NC ad ah pc lv (.int i :: .ref (ad k) :: st) := by
  intro H locs ls hP hS hz hl
  subst hp
  obtain ⟨hi, h⟩ := xg_some h
  exact va_zald C.1 C.2.1 C.2.2.2.2.2.1 hP k t0 (xw_get hk hE) ht hi hd (kk h H locs ls hP hS hz hl)
theorem x_iast (C : XC p l s m args meth c cc nL ret own D cl tys E NC ad) {i x : Int32} {cA : ClassId} {n : Nat} (k : Nat) (hk : k < NC) (hE : ∀ ah : AH, E ah k = .inl (cA, n, .inl (ah k))) (t0 : Nat) (ht : tys[t0]? = some (cA, .int)) (hd : decode cc pc = .ok (.iastore, 1)) (pc' : Nat) (hp : pc + 1 = pc') {α : Type} {f : AH → Option α} {o : α} (h : xg i n (xlet (xu ah k i.toNatClampNeg (x)) f) = some o) (kk : ∀ ah1, f ah1 = some o → XW p l e R s m args below meth c nL cn Q D cl E NC ad ah1 pc' lv st) : XW p l e R s m args below meth c nL cn Q D cl E NC ad ah pc lv (.int x :: .int i :: .ref (ad k) :: st) := by
  intro H locs ls hP hS hz hl
  subst hp
  obtain ⟨hi, h⟩ := xg_some h
  refine va_iastz C.1 C.2.1 C.2.2.2.2.2.1 hP (xw_D C.2.2.2.2.2.2.1) hS k t0 (xw_get hk (hE ah)) ht hi hd (fun H1 locs1 hP1 hS1 z1 => ?_)
  rw [xw_set C.2.2.2.2.2.2.2.1 (by rw [hE, xu_self])] at hP1
  exact kk _ h H1 locs1 ls hP1 hS1 (fun h0 => z1.trans (hz h0)) hl
theorem x_zast (C : XC p l s m args meth c cc nL ret own D cl tys E NC ad) {i x : Int32} {cA : ClassId} {n : Nat} (k : Nat) (hk : k < NC) (hE : ∀ ah : AH, E ah k = .inl (cA, n, .inl (ah k))) (t0 : Nat) (ht : tys[t0]? = some (cA, .boolean)) (hd : decode cc pc = .ok (.bastore, 1)) (pc' : Nat) (hp : pc + 1 = pc') {α : Type} {f : AH → Option α} {o : α} (h : xg i n (xlet (xu ah k i.toNatClampNeg (vp_nar .boolean x)) f) = some o) (kk : ∀ ah1, f ah1 = some o → XW p l e R s m args below meth c nL cn Q D cl E NC ad ah1 pc' lv st) : XW p l e R s m args below meth c nL cn Q D cl E NC ad ah pc lv (.int x :: .int i :: .ref (ad k) :: st) := by
  intro H locs ls hP hS hz hl
  subst hp
  obtain ⟨hi, h⟩ := xg_some h
  refine va_zastz C.1 C.2.1 C.2.2.2.2.2.1 hP (xw_D C.2.2.2.2.2.2.1) hS k t0 (xw_get hk (hE ah)) ht hi hd (fun H1 locs1 hP1 hS1 z1 => ?_)
  rw [xw_set C.2.2.2.2.2.2.2.1 (by rw [hE, xu_self])] at hP1
  exact kk _ h H1 locs1 ls hP1 hS1 (fun h0 => z1.trans (hz h0)) hl
theorem x_ialdK (C : XC p l s m args meth c cc nL ret own D cl tys E NC ad) {i : Int32} {cA : ClassId} {n : Nat} (k : Nat) (hk : k < NC) (hE : E ah k = .inl (cA, n, .inl (ah k))) (t0 : Nat) (ht : tys[t0]? = some (cA, .int)) (hd : decode cc pc = .ok (.iaload, 1)) (pc' : Nat) (hp : pc + 1 = pc') (hi : ¬ (i < 0 ∨ n ≤ i.toNatClampNeg)) (j : Nat) (hj : i.toNatClampNeg = j) (kk : XW p l e R s m args below meth c nL cn Q D cl E NC ad ah pc' lv (.int (ah k j) :: st)) : XW p l e R s m args below meth c nL cn Q D cl E NC ad ah pc lv (.int i :: .ref (ad k) :: st) := by
  intro H locs ls hP hS hz hl
  subst hp
  subst hj
  exact va_iald C.1 C.2.1 C.2.2.2.2.2.1 hP k t0 (xw_get hk hE) ht hi hd (kk H locs ls hP hS hz hl)
theorem x_zaldK (C : XC p l s m args meth c cc nL ret own D cl tys E NC ad) {i : Int32} {cA : ClassId} {n : Nat} (k : Nat) (hk : k < NC) (hE : E ah k = .inl (cA, n, .inl (ah k))) (t0 : Nat) (ht : tys[t0]? = some (cA, .boolean)) (hd : decode cc pc = .ok (.baload, 1)) (pc' : Nat) (hp : pc + 1 = pc') (hi : ¬ (i < 0 ∨ n ≤ i.toNatClampNeg)) (j : Nat) (hj : i.toNatClampNeg = j) (kk : XW p l e R s m args below meth c nL cn Q D cl E NC ad ah pc' lv (.int (ah k j) :: st)) : XW p l e R s m args below meth c nL cn Q D cl E NC ad ah pc lv (.int i :: .ref (ad k) :: st) := by
  intro H locs ls hP hS hz hl
  subst hp
  subst hj
  exact va_zald C.1 C.2.1 C.2.2.2.2.2.1 hP k t0 (xw_get hk hE) ht hi hd (kk H locs ls hP hS hz hl)
theorem x_iastK (C : XC p l s m args meth c cc nL ret own D cl tys E NC ad) {i x : Int32} {cA : ClassId} {n : Nat} (k : Nat) (hk : k < NC) (hE : ∀ ah : AH, E ah k = .inl (cA, n, .inl (ah k))) (t0 : Nat) (ht : tys[t0]? = some (cA, .int)) (hd : decode cc pc = .ok (.iastore, 1)) (pc' : Nat) (hp : pc + 1 = pc') (hi : ¬ (i < 0 ∨ n ≤ i.toNatClampNeg)) (j : Nat) (hj : i.toNatClampNeg = j) {α : Type} {f : AH → Option α} {o : α} (h : xlet (xu ah k j (x)) f = some o) (kk : ∀ ah1, f ah1 = some o → XW p l e R s m args below meth c nL cn Q D cl E NC ad ah1 pc' lv st) : XW p l e R s m args below meth c nL cn Q D cl E NC ad ah pc lv (.int x :: .int i :: .ref (ad k) :: st) := by
  intro H locs ls hP hS hz hl
  subst hp
  subst hj
  refine va_iastz C.1 C.2.1 C.2.2.2.2.2.1 hP (xw_D C.2.2.2.2.2.2.1) hS k t0 (xw_get hk (hE ah)) ht hi hd (fun H1 locs1 hP1 hS1 z1 => ?_)
  rw [xw_set C.2.2.2.2.2.2.2.1 (by rw [hE, xu_self])] at hP1
  exact kk _ h H1 locs1 ls hP1 hS1 (fun h0 => z1.trans (hz h0)) hl
theorem x_zastK (C : XC p l s m args meth c cc nL ret own D cl tys E NC ad) {i x : Int32} {cA : ClassId} {n : Nat} (k : Nat) (hk : k < NC) (hE : ∀ ah : AH, E ah k = .inl (cA, n, .inl (ah k))) (t0 : Nat) (ht : tys[t0]? = some (cA, .boolean)) (hd : decode cc pc = .ok (.bastore, 1)) (pc' : Nat) (hp : pc + 1 = pc') (hi : ¬ (i < 0 ∨ n ≤ i.toNatClampNeg)) (j : Nat) (hj : i.toNatClampNeg = j) {α : Type} {f : AH → Option α} {o : α} (h : xlet (xu ah k j (vp_nar .boolean x)) f = some o) (kk : ∀ ah1, f ah1 = some o → XW p l e R s m args below meth c nL cn Q D cl E NC ad ah1 pc' lv st) : XW p l e R s m args below meth c nL cn Q D cl E NC ad ah pc lv (.int x :: .int i :: .ref (ad k) :: st) := by
  intro H locs ls hP hS hz hl
  subst hp
  subst hj
  refine va_zastz C.1 C.2.1 C.2.2.2.2.2.1 hP (xw_D C.2.2.2.2.2.2.1) hS k t0 (xw_get hk (hE ah)) ht hi hd (fun H1 locs1 hP1 hS1 z1 => ?_)
  rw [xw_set C.2.2.2.2.2.2.2.1 (by rw [hE, xu_self])] at hP1
  exact kk _ h H1 locs1 ls hP1 hS1 (fun h0 => z1.trans (hz h0)) hl
theorem x_aald (C : XC p l s m args meth c cc nL ret own D cl tys E NC ad) {i : Int32} {cA : ClassId} {n : Nat} {ty : FieldType} {f : Nat → Option Nat} (k : Nat) (hk : k < NC) (hE : E ah k = .inl (cA, n, .inr (.inr (.inr (.inr f))))) (t0 : Nat) (ht : tys[t0]? = some (cA, ty)) (hty : ty.isReference = true) (hd : decode cc pc = .ok (.aaload, 1)) (pc' : Nat) (hp : pc + 1 = pc') (k2 : Nat) (hf : f i.toNatClampNeg = some (ad k2)) {α : Type} {B : Option α} {o : α} (h : xg i n B = some o) (kk : i.toNatClampNeg < n → B = some o → XW p l e R s m args below meth c nL cn Q D cl E NC ad ah pc' lv (.ref (ad k2) :: st)) : XW p l e R s m args below meth c nL cn Q D cl E NC ad ah pc lv (.int i :: .ref (ad k) :: st) := by
  intro H locs ls hP hS hz hl
  subst hp
  obtain ⟨hi, h⟩ := xg_some h
  have hlt : i.toNatClampNeg < n := Nat.not_le.mp fun q => hi (Or.inr q)
  exact W.aald (v := .ref (ad k2)) (ty := ty) C.1 C.2.1 (hP k _ (xw_get hk hE)) ((C.2.2.2.2.2.1.2 t0 _ ht).1 n (fun j => va_rf (f j))) hty (fun q => by cases q) (by show ¬ (i < 0 ∨ (arrV _ _ _).slots.size ≤ _); rw [arrV_size]; exact hi) (by show (arrV _ _ _).slots[_]? = _; rw [arrV_read _ _ hlt, hf]; rfl) rfl rfl hd (kk hlt h H locs ls hP hS hz hl)
theorem x_aaldK (C : XC p l s m args meth c cc nL ret own D cl tys E NC ad) {i : Int32} {cA : ClassId} {n : Nat} {ty : FieldType} {f : Nat → Option Nat} (k : Nat) (hk : k < NC) (hE : E ah k = .inl (cA, n, .inr (.inr (.inr (.inr f))))) (t0 : Nat) (ht : tys[t0]? = some (cA, ty)) (hty : ty.isReference = true) (hi : ¬ (i < 0 ∨ n ≤ i.toNatClampNeg)) (j : Nat) (hj : i.toNatClampNeg = j) (hd : decode cc pc = .ok (.aaload, 1)) (pc' : Nat) (hp : pc + 1 = pc') (k2 : Nat) (hf : f j = some (ad k2)) (kk : XW p l e R s m args below meth c nL cn Q D cl E NC ad ah pc' lv (.ref (ad k2) :: st)) : XW p l e R s m args below meth c nL cn Q D cl E NC ad ah pc lv (.int i :: .ref (ad k) :: st) := by
  intro H locs ls hP hS hz hl
  subst hp
  subst hj
  have hlt : i.toNatClampNeg < n := Nat.not_le.mp fun q => hi (Or.inr q)
  exact W.aald (v := .ref (ad k2)) (ty := ty) C.1 C.2.1 (hP k _ (xw_get hk hE)) ((C.2.2.2.2.2.1.2 t0 _ ht).1 n (fun j => va_rf (f j))) hty (fun q => by cases q) (by show ¬ (i < 0 ∨ (arrV _ _ _).slots.size ≤ _); rw [arrV_size]; exact hi) (by show (arrV _ _ _).slots[_]? = _; rw [arrV_read _ _ hlt, hf]; rfl) rfl rfl hd (kk H locs ls hP hS hz hl)
theorem x_aaldL (C : XC p l s m args meth c cc nL ret own D cl tys E NC ad) {i : Int32} {cA : ClassId} {n : Nat} {ty : FieldType} {f : Nat → Option Nat} (k : Nat) (hk : k < NC) (hE : E ah k = .inl (cA, n, .inr (.inr (.inr (.inr f))))) (t0 : Nat) (ht : tys[t0]? = some (cA, ty)) (hty : ty.isReference = true) (hd : decode cc pc = .ok (.aaload, 1)) (pc' : Nat) (hp : pc + 1 = pc') (k2 : Nat) (hf : f i.toNatClampNeg = some (ad k2)) {α : Type} {g : Nat → Option α} {o : α} (h : xg i n (xlet k2 g) = some o) (kk : ∀ x : Nat, k2 = x → i.toNatClampNeg < n → g x = some o → XW p l e R s m args below meth c nL cn Q D cl E NC ad ah pc' lv (.ref (ad x) :: st)) : XW p l e R s m args below meth c nL cn Q D cl E NC ad ah pc lv (.int i :: .ref (ad k) :: st) := by
  intro H locs ls hP hS hz hl
  subst hp
  obtain ⟨hi, h⟩ := xg_some h
  have hlt : i.toNatClampNeg < n := Nat.not_le.mp fun q => hi (Or.inr q)
  exact W.aald (v := .ref (ad k2)) (ty := ty) C.1 C.2.1 (hP k _ (xw_get hk hE)) ((C.2.2.2.2.2.1.2 t0 _ ht).1 n (fun j => va_rf (f j))) hty (fun q => by cases q) (by show ¬ (i < 0 ∨ (arrV _ _ _).slots.size ≤ _); rw [arrV_size]; exact hi) (by show (arrV _ _ _).slots[_]? = _; rw [arrV_read _ _ hlt, hf]; rfl) rfl rfl hd (kk _ rfl hlt h H locs ls hP hS hz hl)
theorem x_aaldLK (C : XC p l s m args meth c cc nL ret own D cl tys E NC ad) {i : Int32} {cA : ClassId} {n : Nat} {ty : FieldType} {f : Nat → Option Nat} (k : Nat) (hk : k < NC) (hE : E ah k = .inl (cA, n, .inr (.inr (.inr (.inr f))))) (t0 : Nat) (ht : tys[t0]? = some (cA, ty)) (hty : ty.isReference = true) (hi : ¬ (i < 0 ∨ n ≤ i.toNatClampNeg)) (j : Nat) (hj : i.toNatClampNeg = j) (hd : decode cc pc = .ok (.aaload, 1)) (pc' : Nat) (hp : pc + 1 = pc') (k2 : Nat) (hf : f j = some (ad k2)) {α : Type} {g : Nat → Option α} {o : α} (h : xlet k2 g = some o) (kk : ∀ x : Nat, k2 = x → g x = some o → XW p l e R s m args below meth c nL cn Q D cl E NC ad ah pc' lv (.ref (ad x) :: st)) : XW p l e R s m args below meth c nL cn Q D cl E NC ad ah pc lv (.int i :: .ref (ad k) :: st) := by
  intro H locs ls hP hS hz hl
  subst hp
  subst hj
  have hlt : i.toNatClampNeg < n := Nat.not_le.mp fun q => hi (Or.inr q)
  exact W.aald (v := .ref (ad k2)) (ty := ty) C.1 C.2.1 (hP k _ (xw_get hk hE)) ((C.2.2.2.2.2.1.2 t0 _ ht).1 n (fun j => va_rf (f j))) hty (fun q => by cases q) (by show ¬ (i < 0 ∨ (arrV _ _ _).slots.size ≤ _); rw [arrV_size]; exact hi) (by show (arrV _ _ _).slots[_]? = _; rw [arrV_read _ _ hlt, hf]; rfl) rfl rfl hd (kk _ rfl h H locs ls hP hS hz hl)
theorem x_iret (C : XC p l s m args meth c cc nL ret own D cl tys E NC ad) (hr : ret = some .int) (hd : decode cc pc = .ok (.ireturn, 1)) {v : Int32} {o : Int32 × AH} (h : some (v, ah) = some o) : XW p l e R s m args below meth c nL 0 (xQi below args s D cl tys E NC ad o) D cl E NC ad ah pc lv ([.int v]) := by
  intro H locs ls hP hS hz hl
  cases h
  subst hr
  exact W.iret C.1 C.2.1 C.2.2.2.2.2.2.2.2.1 (fun t ht hW => ⟨⟨v, ah, rfl, ⟨rfl, rfl⟩, ⟨by rw [ht]; exact hP, va_K.moved hW.alike C.2.2.2.2.2.1⟩, by rw [ht]; exact hz rfl⟩, hS.F ht⟩) hS.2.2 hd C.2.2.2.2.2.2.2.2.2.1
theorem x_zret (C : XC p l s m args meth c cc nL ret own D cl tys E NC ad) (hr : ret = some .boolean) (hd : decode cc pc = .ok (.ireturn, 1)) {v : Int32} (hv : v = 0 ∨ v = 1) {o : Int32 × AH} (h : some (v, ah) = some o) : XW p l e R s m args below meth c nL 0 (xQi below args s D cl tys E NC ad o) D cl E NC ad ah pc lv ([.int v]) := by
  intro H locs ls hP hS hz hl
  cases h
  subst hr
  exact W.zret C.1 C.2.1 C.2.2.2.2.2.2.2.2.1 (by rcases hv with rfl | rfl <;> rfl) (fun t ht hW => ⟨⟨v, ah, rfl, ⟨rfl, rfl⟩, ⟨by rw [ht]; exact hP, va_K.moved hW.alike C.2.2.2.2.2.1⟩, by rw [ht]; exact hz rfl⟩, hS.F ht⟩) hS.2.2 hd C.2.2.2.2.2.2.2.2.2.1
theorem x_zretB (C : XC p l s m args meth c cc nL ret own D cl tys E NC ad) (hr : ret = some .boolean) (hd : decode cc pc = .ok (.ireturn, 1)) {v : Int32} {o : Int32 × AH} (h : xbo v (some (v, ah)) = some o) : XW p l e R s m args below meth c nL 0 (xQi below args s D cl tys E NC ad o) D cl E NC ad ah pc lv ([.int v]) := x_zret C hr hd (xbo_some h).1 (xbo_some h).2
theorem x_vret (C : XC p l s m args meth c cc nL ret own D cl tys E NC ad) (hr : ret = none) (hd : decode cc pc = .ok (.return_, 1)) {o : AH} (h : some ah = some o) : XW p l e R s m args below meth c nL 0 (xQv below args s D cl tys E NC ad o) D cl E NC ad ah pc lv ([]) := by
  intro H locs ls hP hS hz hl
  cases h
  subst hr
  exact W.vret C.1 C.2.1 C.2.2.2.2.2.2.2.2.1 (fun t ht hW => ⟨⟨ah, rfl, rfl, ⟨by rw [ht]; exact hP, va_K.moved hW.alike C.2.2.2.2.2.1⟩, by rw [ht]; exact hz rfl⟩, hS.F ht⟩) hS.2.2 hd C.2.2.2.2.2.2.2.2.2.1
theorem x_callVi (C : XC p l s m args meth c cc nL ret own D cl tys E NC ad) {y : MethodName} {bytes : ByteArray} {maxL n ix : Nat} {rt : Option FieldType} {rm : Room} {As : List Value} {C0 : String} {r1 : Int32} {a1 : AH} (k : Nat) (hM : xMi l y bytes maxL rt rm D cl tys E NC ad (.ref (ad k) :: As) ah (r1, a1)) (hk : k < NC) {ci : Nat} {fs : List Value} (hE : E ah k = .inr (ci, fs)) {T : u_T} {N : Nat} (hc : cl[ci]? = some (C0, T, N)) (hlink : Cond.methodLink own ix y ∈ xWs) (hw : xcV C0 y bytes maxL rt n) (hn : As.length = n) (hcn : cn ≤ R.cells ∧ 6 * cn ≤ R.slots) (hrc : rm.cells = 0) (hrs : rm.slots = 0) (hR : rm.frames + 1 ≤ R.frames ∧ 8 + (maxL + 11) + rm.locals ≤ R.locals) (hd : decode cc pc = .ok (.invokevirtual ix, 3)) (pc' : Nat) (hp : pc + 3 = pc') {st0 : List Value} (hst : st0 = As.reverse ++ .ref (ad k) :: st) (hcat : (st.map fun v => v.category).sum ≤ 8) (kk : XW p l e R s m args below meth c nL cn Q D cl E NC ad a1 pc' lv (.int r1 :: st)) : XW p l e R s m args below meth c nL cn Q D cl E NC ad ah pc lv st0 := by
  intro H locs ls hP hS hz hl
  subst hp
  obtain ⟨w1, w2, w3, w4, w5⟩ := hw
  have cb := callB_of (R := R) (own := own) (index := ix) (ws := Cond.code y bytes maxL rt :: xWs) (ws' := xWs) (rm := rm) (mc := 0) (ms := 0) n C.2.2.2.2.1 (xGood y bytes maxL rt w4) rfl hrc hrs (C.2.2.2.2.1 _ w3) (C.2.2.2.2.1 _ hlink) w5 hR
  refine va_calli (va_runV (As := As) (rest := st) (C := C0) ⟨C.1, C.2.1, C.2.2.1, C.2.2.2.1, C.2.2.2.2.1⟩ (hM H.size) ⟨cb, C.2.2.2.2.1 _ w1, C.2.2.2.2.1 _ w2⟩ ⟨xPre_blind, va_recv C.2.2.2.2.2.1 hP hc (xw_get hk hE), fun U hU hW => ⟨rfl, by rw [hU], by rw [hU]; exact hP, va_K.moved hW.alike C.2.2.2.2.2.1, C.2.2.2.2.2.2.2.2.2.2.warm hW⟩⟩ rfl hn hl.1 hst (lv_room hcat) hd hcn) hS (fun q _ h => xA_mono hS.1 h) (fun q h => xA_mono hS.1 h) (fun r u t H1 locs ht hvm hw hB _ _ hS => ?_)
  obtain ⟨rfl, rfl⟩ := hw
  obtain ⟨⟨hP1, -⟩, z1⟩ := hB
  rw [ht] at hP1 z1
  exact kk H1 locs ls hP1 hS (fun h0 => z1.trans (hz h0)) hl
theorem x_callSi (C : XC p l s m args meth c cc nL ret own D cl tys E NC ad) {y : MethodName} {bytes : ByteArray} {maxL n ix : Nat} {rt : Option FieldType} {rm : Room} {As : List Value} {r1 : Int32} {a1 : AH} (hM : xMi l y bytes maxL rt rm D cl tys E NC ad As ah (r1, a1)) (hlink : Cond.methodLink own ix y ∈ xWs) (hw : xcS y bytes maxL rt n) (hn : As.length = n) (hcn : cn ≤ R.cells ∧ 6 * cn ≤ R.slots) (hrc : rm.cells = 0) (hrs : rm.slots = 0) (hR : rm.frames + 1 ≤ R.frames ∧ 8 + (maxL + 11) + rm.locals ≤ R.locals) (hd : decode cc pc = .ok (.invokestatic ix, 3)) (pc' : Nat) (hp : pc + 3 = pc') {st0 : List Value} (hst : st0 = As.reverse ++ st) (hcat : (st.map fun v => v.category).sum ≤ 8) (kk : XW p l e R s m args below meth c nL cn Q D cl E NC ad a1 pc' lv (.int r1 :: st)) : XW p l e R s m args below meth c nL cn Q D cl E NC ad ah pc lv st0 := by
  intro H locs ls hP hS hz hl
  subst hp
  obtain ⟨w1, w3, w4, w5⟩ := hw
  have cb := callB_of (R := R) (own := own) (index := ix) (ws := Cond.code y bytes maxL rt :: xWs) (ws' := xWs) (rm := rm) (mc := 0) (ms := 0) n C.2.2.2.2.1 (xGood y bytes maxL rt w4) rfl hrc hrs (C.2.2.2.2.1 _ w3) (C.2.2.2.2.1 _ hlink) w5 hR
  refine va_calli (va_runS (As := As) (rest := st) ⟨C.1, C.2.1, C.2.2.1, C.2.2.2.1, C.2.2.2.2.1⟩ (hM H.size) ⟨cb, C.2.2.2.2.1 _ w1⟩ ⟨xPre_blind, fun U hU hW => ⟨rfl, by rw [hU], by rw [hU]; exact hP, va_K.moved hW.alike C.2.2.2.2.2.1, C.2.2.2.2.2.2.2.2.2.2.warm hW⟩⟩ rfl hn hl.1 hst (lv_room hcat) hd hcn) hS (fun q _ h => xA_mono hS.1 h) (fun q h => xA_mono hS.1 h) (fun r u t H1 locs ht hvm hw hB _ _ hS => ?_)
  obtain ⟨rfl, rfl⟩ := hw
  obtain ⟨⟨hP1, -⟩, z1⟩ := hB
  rw [ht] at hP1 z1
  exact kk H1 locs ls hP1 hS (fun h0 => z1.trans (hz h0)) hl
theorem x_callNi (C : XC p l s m args meth c cc nL ret own D cl tys E NC ad) {y : MethodName} {bytes : ByteArray} {maxL n ix : Nat} {rt : Option FieldType} {rm : Room} {As : List Value} {host : String} {r1 : Int32} {a1 : AH} (hM : xMi l y bytes maxL rt rm D cl tys E NC ad As ah (r1, a1)) (hlink : (own, ix, y, host) ∈ xNl) (hw : xcS y bytes maxL rt n) (hn : As.length = n) (hcn : cn ≤ R.cells ∧ 6 * cn ≤ R.slots) (hrc : rm.cells = 0) (hrs : rm.slots = 0) (hR : rm.frames + 1 ≤ R.frames ∧ 8 + (maxL + 11) + rm.locals ≤ R.locals) (hd : decode cc pc = .ok (.invokestatic ix, 3)) (pc' : Nat) (hp : pc + 3 = pc') {st0 : List Value} (hst : st0 = As.reverse ++ st) (hcat : (st.map fun v => v.category).sum ≤ 8) (kk : XW p l e R s m args below meth c nL cn Q D cl E NC ad a1 pc' lv (.int r1 :: st)) : XW p l e R s m args below meth c nL cn Q D cl E NC ad ah pc lv st0 := by
  intro H locs ls hP hS hz hl
  subst hp
  obtain ⟨w1, w3, w4, w5⟩ := hw
  have cb := va_cnB (R := R) (own := own) (host := host) (index := ix) (ws := Cond.code y bytes maxL rt :: xWs) (ws' := xWs) (rm := rm) (mc := 0) (ms := 0) n C.2.2.2.2.1 (xGood y bytes maxL rt w4) rfl hrc hrs (C.2.2.2.2.2.2.2.2.2.2 _ hlink) (C.2.2.2.2.1 _ w3) w5 hR
  refine va_calli (va_runSN (As := As) (rest := st) ⟨C.1, C.2.1, C.2.2.1, C.2.2.2.1, C.2.2.2.2.1⟩ (hM H.size) ⟨cb, C.2.2.2.2.1 _ w1, trivial⟩ ⟨xPre_blind, fun U hU hW => ⟨rfl, by rw [hU], by rw [hU]; exact hP, va_K.moved hW.alike C.2.2.2.2.2.1, C.2.2.2.2.2.2.2.2.2.2.warm hW⟩⟩ rfl hn hl.1 hst (lv_room hcat) hd hcn) hS (fun q _ h => xA_mono hS.1 h) (fun q h => xA_mono hS.1 h) (fun r u t H1 locs ht hvm hw hB _ _ hS => ?_)
  obtain ⟨rfl, rfl⟩ := hw
  obtain ⟨⟨hP1, -⟩, z1⟩ := hB
  rw [ht] at hP1 z1
  exact kk H1 locs ls hP1 hS (fun h0 => z1.trans (hz h0)) hl
theorem x_callVv (C : XC p l s m args meth c cc nL ret own D cl tys E NC ad) {y : MethodName} {bytes : ByteArray} {maxL n ix : Nat} {rm : Room} {As : List Value} {C0 : String} {o1 : AH} (k : Nat) (hM : xMv l y bytes maxL rm D cl tys E NC ad (.ref (ad k) :: As) ah o1) (hk : k < NC) {ci : Nat} {fs : List Value} (hE : E ah k = .inr (ci, fs)) {T : u_T} {N : Nat} (hc : cl[ci]? = some (C0, T, N)) (hlink : Cond.methodLink own ix y ∈ xWs) (hw : xcV C0 y bytes maxL none n) (hn : As.length = n) (hcn : cn ≤ R.cells ∧ 6 * cn ≤ R.slots) (hrc : rm.cells = 0) (hrs : rm.slots = 0) (hR : rm.frames + 1 ≤ R.frames ∧ 8 + (maxL + 11) + rm.locals ≤ R.locals) (hd : decode cc pc = .ok (.invokevirtual ix, 3)) (pc' : Nat) (hp : pc + 3 = pc') {st0 : List Value} (hst : st0 = As.reverse ++ .ref (ad k) :: st) (hcat : (st.map fun v => v.category).sum ≤ 8) (kk : XW p l e R s m args below meth c nL cn Q D cl E NC ad o1 pc' lv st) : XW p l e R s m args below meth c nL cn Q D cl E NC ad ah pc lv st0 := by
  intro H locs ls hP hS hz hl
  subst hp
  obtain ⟨w1, w2, w3, w4, w5⟩ := hw
  have cb := callB_of (R := R) (own := own) (index := ix) (ws := Cond.code y bytes maxL none :: xWs) (ws' := xWs) (rm := rm) (mc := 0) (ms := 0) n C.2.2.2.2.1 (xGood y bytes maxL none w4) rfl hrc hrs (C.2.2.2.2.1 _ w3) (C.2.2.2.2.1 _ hlink) w5 hR
  refine va_callv (va_runV (As := As) (rest := st) (C := C0) ⟨C.1, C.2.1, C.2.2.1, C.2.2.2.1, C.2.2.2.2.1⟩ (hM H.size) ⟨cb, C.2.2.2.2.1 _ w1, C.2.2.2.2.1 _ w2⟩ ⟨xPre_blind, va_recv C.2.2.2.2.2.1 hP hc (xw_get hk hE), fun U hU hW => ⟨rfl, by rw [hU], by rw [hU]; exact hP, va_K.moved hW.alike C.2.2.2.2.2.1, C.2.2.2.2.2.2.2.2.2.2.warm hW⟩⟩ rfl hn hl.1 hst (lv_room hcat) hd hcn) hS (fun q _ h => xA_mono hS.1 h) (fun q h => xA_mono hS.1 h) (fun u t H1 locs ht hvm hw hB _ _ hS => ?_)
  subst hw
  obtain ⟨⟨hP1, -⟩, z1⟩ := hB
  rw [ht] at hP1 z1
  exact kk H1 locs ls hP1 hS (fun h0 => z1.trans (hz h0)) hl
theorem x_callSv (C : XC p l s m args meth c cc nL ret own D cl tys E NC ad) {y : MethodName} {bytes : ByteArray} {maxL n ix : Nat} {rm : Room} {As : List Value} {o1 : AH} (hM : xMv l y bytes maxL rm D cl tys E NC ad As ah o1) (hlink : Cond.methodLink own ix y ∈ xWs) (hw : xcS y bytes maxL none n) (hn : As.length = n) (hcn : cn ≤ R.cells ∧ 6 * cn ≤ R.slots) (hrc : rm.cells = 0) (hrs : rm.slots = 0) (hR : rm.frames + 1 ≤ R.frames ∧ 8 + (maxL + 11) + rm.locals ≤ R.locals) (hd : decode cc pc = .ok (.invokestatic ix, 3)) (pc' : Nat) (hp : pc + 3 = pc') {st0 : List Value} (hst : st0 = As.reverse ++ st) (hcat : (st.map fun v => v.category).sum ≤ 8) (kk : XW p l e R s m args below meth c nL cn Q D cl E NC ad o1 pc' lv st) : XW p l e R s m args below meth c nL cn Q D cl E NC ad ah pc lv st0 := by
  intro H locs ls hP hS hz hl
  subst hp
  obtain ⟨w1, w3, w4, w5⟩ := hw
  have cb := callB_of (R := R) (own := own) (index := ix) (ws := Cond.code y bytes maxL none :: xWs) (ws' := xWs) (rm := rm) (mc := 0) (ms := 0) n C.2.2.2.2.1 (xGood y bytes maxL none w4) rfl hrc hrs (C.2.2.2.2.1 _ w3) (C.2.2.2.2.1 _ hlink) w5 hR
  refine va_callv (va_runS (As := As) (rest := st) ⟨C.1, C.2.1, C.2.2.1, C.2.2.2.1, C.2.2.2.2.1⟩ (hM H.size) ⟨cb, C.2.2.2.2.1 _ w1⟩ ⟨xPre_blind, fun U hU hW => ⟨rfl, by rw [hU], by rw [hU]; exact hP, va_K.moved hW.alike C.2.2.2.2.2.1, C.2.2.2.2.2.2.2.2.2.2.warm hW⟩⟩ rfl hn hl.1 hst (lv_room hcat) hd hcn) hS (fun q _ h => xA_mono hS.1 h) (fun q h => xA_mono hS.1 h) (fun u t H1 locs ht hvm hw hB _ _ hS => ?_)
  subst hw
  obtain ⟨⟨hP1, -⟩, z1⟩ := hB
  rw [ht] at hP1 z1
  exact kk H1 locs ls hP1 hS (fun h0 => z1.trans (hz h0)) hl
end
theorem x_meti {l : Launch} {y : MethodName} {bytes : ByteArray} {maxL : Nat} {ret : Option FieldType} {rm : Room} {D : va_G} {cl : List vw_C} {tys : List (ClassId × FieldType)} {E : xL} {NC : Nat} {ad : Nat → Nat} {avs : List Value} {ah : AH} {o : Int32 × AH} (hy : plainName y.cls = true) (hav : (lg_sl avs).length ≤ maxL) (hI : xInj ad NC) (hL : xLoc E)
    (body : ∀ (p : Program) (e : Env) (s : State) (m : MethodId) (args : Array Value) (below : List Frame) (meth : Method) (c : Code), XC p l s m args meth c bytes maxL ret y.cls D cl tys E NC ad → XW p l e rm s m args below meth c maxL 0 (xQi below args s D cl tys E NC ad o) D cl E NC ad ah 0 (lv_args 0 avs) []) : xMi l y bytes maxL ret rm D cl tys E NC ad avs ah o := by
  intro sz
  refine Met.ofW (cc := bytes) (maxL := maxL) (ret := ret) hy rfl ?_
  intro p e s m args below meth c s₁ B hml hv
  obtain ⟨rfl, hsz, hP, hK, hN⟩ := hv
  subst hsz
  have hts := atoms_spec (ws := Cond.code y bytes maxL ret :: xWs) B.pre
  have C : XC p l s m avs.toArray meth c bytes maxL ret y.cls D cl tys E NC ad := ⟨B.exec, B.bytes, hml, findClass_of_methodNamed B.named, fun w hw => hts w (List.mem_cons_of_mem _ hw), hK, hI, hL, B.returns, B.notSynchronized, hN⟩
  have hl := lv_entry avs (n := maxL) hav
  rw [lg_entry_eq]
  exact body p e s m _ below meth c C s.heap [] _ hP va_S.rf (fun _ => rfl) hl
theorem x_metv {l : Launch} {y : MethodName} {bytes : ByteArray} {maxL : Nat} {rm : Room} {D : va_G} {cl : List vw_C} {tys : List (ClassId × FieldType)} {E : xL} {NC : Nat} {ad : Nat → Nat} {avs : List Value} {ah : AH} {o : AH} (hy : plainName y.cls = true) (hav : (lg_sl avs).length ≤ maxL) (hI : xInj ad NC) (hL : xLoc E)
    (body : ∀ (p : Program) (e : Env) (s : State) (m : MethodId) (args : Array Value) (below : List Frame) (meth : Method) (c : Code), XC p l s m args meth c bytes maxL none y.cls D cl tys E NC ad → XW p l e rm s m args below meth c maxL 0 (xQv below args s D cl tys E NC ad o) D cl E NC ad ah 0 (lv_args 0 avs) []) : xMv l y bytes maxL rm D cl tys E NC ad avs ah o := by
  intro sz
  refine Met.ofW (cc := bytes) (maxL := maxL) (ret := none) hy rfl ?_
  intro p e s m args below meth c s₁ B hml hv
  obtain ⟨rfl, hsz, hP, hK, hN⟩ := hv
  subst hsz
  have hts := atoms_spec (ws := Cond.code y bytes maxL none :: xWs) B.pre
  have C : XC p l s m avs.toArray meth c bytes maxL none y.cls D cl tys E NC ad := ⟨B.exec, B.bytes, hml, findClass_of_methodNamed B.named, fun w hw => hts w (List.mem_cons_of_mem _ hw), hK, hI, hL, B.returns, B.notSynchronized, hN⟩
  have hl := lv_entry avs (n := maxL) hav
  rw [lg_entry_eq]
  exact body p e s m _ below meth c C s.heap [] _ hP va_S.rf (fun _ => rfl) hl
