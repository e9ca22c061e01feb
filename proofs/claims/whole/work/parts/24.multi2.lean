/-- b z: the K cells that a maker leaves from z on -/
def Bk (K : Nat) (g : Nat → Nat → Cell) (b : Nat → List va_E) : Prop := ∀ z : Nat, (b z).length = K ∧ ∀ (j : Nat) (e : va_E), (b z)[j]? = some e → ∃ a : ClassId × vp_A, e = .inl a ∧ vp_cell a.1 a.2 = g z j
def blk1 (c : ClassId) (M : Nat) : Nat → List va_E := fun _ => [.inl (c, M, .inl (fun _ => 0))]
def blkN (c : ClassId) (N K : Nat) (b : Nat → List va_E) : Nat → List va_E := fun z => .inl (c, N, .inr (.inr (.inr (.inr (fun i => if i < N then some (z + 1 + i * K) else none))))) :: (List.range N).flatMap (fun i => b (z + 1 + i * K))
theorem flat_len {α : Type} {f : Nat → List α} {K : Nat} (h : ∀ i, (f i).length = K) : ∀ N : Nat, ((List.range N).flatMap f).length = N * K
  | 0 => by simp
  | N + 1 => by rw [List.range_succ, List.flatMap_append, List.length_append, flat_len h N, Nat.succ_mul]; simp [h]
theorem flat_get {α : Type} {f : Nat → List α} {K : Nat} (h : ∀ i, (f i).length = K) (hK : 0 < K) : ∀ (N i j : Nat), i < N → j < K → ((List.range N).flatMap f)[i * K + j]? = (f i)[j]?
  | 0, i, j, hi, _ => absurd hi (Nat.not_lt_zero _)
  | N + 1, i, j, hi, hj => by
    rw [List.range_succ, List.flatMap_append]
    rcases Nat.lt_or_ge i N with hq | hq
    · have e3 : (i + 1) * K ≤ N * K := Nat.mul_le_mul_right K hq
      rw [Nat.succ_mul] at e3
      rw [List.getElem?_append_left (by rw [flat_len h N]; omega)]
      exact flat_get h hK N i j hq hj
    · have e : i = N := by omega
      subst e
      rw [List.getElem?_append_right (by rw [flat_len h i]; omega), flat_len h i]
      simp
theorem blk1_ok {c : ClassId} {M : Nat} : Bk 1 (fun _ _ => Jvm.Free.Multi.innerC c M (defaultValue .int)) (blk1 c M) := by
  refine fun z => ⟨rfl, fun j e h => ?_⟩
  have hj : j < 1 := (List.getElem?_eq_some_iff.mp h).1
  rw [show j = 0 by omega] at h
  cases h
  exact ⟨_, rfl, by rw [vp_cell_i]; exact (arrV_new _ _ _).symm⟩
theorem outG_arr (c : ClassId) (N K h0 : Nat) : ∀ i : Nat, outG c N K h0 i = arrV c N (fun j => va_rf (if j < i then some (h0 + 1 + j * K) else none))
  | 0 => by
    show ({ cls := c, slots := Array.replicate N .null, vm := .none } : Cell) = _
    rw [arrV_new]
    refine congrArg (arrV c N) (funext fun j => ?_)
    simp [va_rf]
  | i + 1 => by
    show (outG c N K h0 i).setSlot i (.ref (h0 + 1 + i * K)) = _
    rw [outG_arr c N K h0 i, arrV_store]
    refine congrArg (arrV c N) (funext fun j => ?_)
    by_cases e : j = i
    · subst e
      simp [updV, va_rf]
    · by_cases h : j < i
      · simp [updV, e, h, Nat.lt_succ_of_lt h]
      · simp [updV, e, h, show ¬ j < i + 1 by omega]
theorem blkN_ok {c : ClassId} {N K : Nat} {g : Nat → Nat → Cell} {b : Nat → List va_E} (hb : Bk K g b) (hK : 0 < K) : Bk (1 + N * K) (gN c N K g) (blkN c N K b) := by
  intro z
  have hlen : ∀ i, (b (z + 1 + i * K)).length = K := fun i => (hb _).1
  refine ⟨by show (List.flatMap _ _).length + 1 = _; rw [flat_len hlen N]; omega, fun j e h => ?_⟩
  cases j with
  | zero =>
    cases h
    refine ⟨_, rfl, ?_⟩
    show _ = outG c N K z N
    rw [vp_cell_q, outG_arr]
  | succ j =>
    have h' : ((List.range N).flatMap (fun i => b (z + 1 + i * K)))[j]? = some e := h
    have hj : j < N * K := by have := (List.getElem?_eq_some_iff.mp h').1; rw [flat_len hlen N] at this; exact this
    have hd := Nat.div_add_mod j K
    have hm := Nat.mod_lt j hK
    have hq : j / K < N := Nat.div_lt_of_lt_mul (by rw [Nat.mul_comm]; exact hj)
    have hg := flat_get hlen hK N (j / K) (j % K) hq hm
    rw [show j / K * K + j % K = j by rw [Nat.mul_comm]; exact hd, h'] at hg
    obtain ⟨a, h1, h2⟩ := (hb (z + 1 + j / K * K)).2 (j % K) e hg.symm
    refine ⟨a, h1, ?_⟩
    rw [h2]
    unfold gN
    rw [if_neg (Nat.succ_ne_zero j)]
    rfl
section
variable {p : Program} {l : Launch} {e : Env} {R : Room} {s : State} {m : MethodId} {args : Array Value} {below : List Frame} {meth : Method} {c : Code} {cc : ByteArray} {nL : Nat} {own : String} {D : va_G} {cl : List vw_C} {tys : List (ClassId × FieldType)} {Q : State → Prop} {o sz cs sl pc : Nat} {e0 : va_E} {es : List va_E} {lv : List (Nat × Value)} {st : List Value}
theorem k_multi2 (C : KC p l s m args meth c cc nL own D cl tys) {ix : Nat} {nm : String} {cA : ClassId} {n1 n2 : Int32} (hclink : Cond.classLink own ix nm ∈ xWs) (hnm : s.vm.findClass nm = some cA) {V : Vm → Prop} {f : State → State} {K S : Nat} {g : Nat → Nat → Cell} {b : Nat → List va_E} (hV : ∀ vm : Vm, s.vm.Alike vm → V vm) (hmk : (∀ M : Nat, M ≤ 100000 → ¬ M > e.platform.arrayLengthLimit) → (∀ M : Nat, M ≤ 100000 → ¬ M > e.platform.maxHeapBytes) → Mk e V (multianewarray.make cA [n1, n2]) f K S g) (hb : Bk K g b) (hK : 0 < K) (hcs : cs + K ≤ R.cells ∧ sl + S ≤ R.slots) (hd : decode cc pc = .ok (.multianewarray ix 2, 4)) (pc' : Nat) (hp : pc + 4 = pc') (q : Nat) (hq : sz + es.length = q)
    (kk : XK p l e R s m args below meth c nL Q D cl o e0 sz (es ++ b q) (cs + K) (sl + S) pc' lv (.ref q :: st)) : XK p l e R s m args below meth c nL Q D cl o e0 sz es cs sl pc lv (.int n2 :: .int n1 :: st) := by
  intro H locs ls hP hz hS hss ho hl
  subst hp
  subst hq
  intro T hT X
  have hpl : e.platform.magicAccessors = ({} : Platform).magicAccessors := by rw [X.admits.platform]
  have hM := hmk (fun M h => by rw [Launch.admits_arrayLengthLimit X.admits]; omega) (fun M h => by rw [Launch.admits_maxHeapBytes X.admits]; omega)
  obtain ⟨c0, hfc0, hcl⟩ := Cond.classLink_spec C.2.2.2.1 (C.2.2.2.2.1 _ hclink) e.platform hpl
  cases hnm.symm.trans hfc0
  obtain ⟨hg₁, hwarm₁, hready₁⟩ := State.classEntry (e := e) X.warmed hcl
  generalize T.vm.noted m.cls ix (.cls cA) = vm₁ at hg₁ hwarm₁ hready₁
  have X₁ := X.noted hwarm₁
  obtain ⟨hr1, hr2⟩ := X.roomAbove hcs.1 hcs.2
  obtain ⟨h1, h2, h3, h4, h5⟩ := hM.1 (T.setVm vm₁)
  have hTh : (T.setVm vm₁).heap = H := hT
  rw [hTh] at h1 h4 h5
  obtain ⟨L, XL, hL⟩ := hM.2.2.2 _ _ _ _ _ _ _ _ _ _ _ _ _ X₁
  have XF := XL.dropFresh (fun x hx => by have h9 := hL x hx; rw [hTh] at h9; exact Nat.le_trans hS.1 h9)
  have hP1 : va_P D cl (KW o e0 sz (es ++ b (sz + es.length))) (f (T.setVm vm₁)).heap := by
    unfold KW
    rw [sq_app, ← List.cons_append]
    refine (hP.kept (fun k x hx => h4 x.1 (hP k x hx).lt)).app (fun k x hx => ?_)
    obtain ⟨k1, k2⟩ := sq_some hx
    obtain ⟨a, ha, hv⟩ := (hb (sz + es.length)).2 k x.2 k2
    have hk : k < K := by have := (List.getElem?_eq_some_iff.mp k2).1; rw [(hb _).1] at this; exact this
    obtain ⟨x1, x2⟩ := x
    have k1' : x1 = sz + es.length + k := k1
    have ha' : x2 = .inl a := ha
    subst ha'
    show (f (T.setVm vm₁)).heap[x1]? = some (vp_cell a.1 a.2)
    rw [k1', hv, ← hz]
    exact h5 k hk
  have hS1 : va_S (kA o sz) s.heap (f (T.setVm vm₁)).heap locs := ⟨by have := hS.1; omega, fun q h1 h2 => by rw [h4 q (by have := hS.1; omega)]; exact hS.2.1 q h1 h2, hS.2.2⟩
  obtain ⟨t9, b1, b2⟩ := kk _ locs ls hP1 (by rw [h1, hz, List.length_append, (hb _).1]; omega) hS1 hss ho hl (f (T.setVm vm₁)) rfl XF
  refine ⟨t9, ?_, b2⟩
  have hdg : decode c.code (F0 m pc ls (.int n2 :: .int n1 :: st)).pc = .ok (.multianewarray ix 2, 4) := by rw [C.2.1]; exact hd
  jvm_step X.here [C.1, hdg]
  simp only [multianewarray.sem, wp_bind', W.resolveClassAt_links (State.method?_setTop (F0 m pc ls (.int n2 :: .int n1 :: st)) X.here.top) hg₁]
  rw [W.popN, if_neg (by decide)]
  refine ⟨F0 m pc ls (.int n2 :: .int n1 :: st), State.topJava?_setTop' (s := T.setVm vm₁) _ X.here.top, [.int n1, .int n2], st, rfl, rfl, ?_⟩
  simp only [List.mapM_cons, List.mapM_nil, wp_bind', wp_pure']
  refine hM.2.2.1 _ _ _ _ _ (hV vm₁ hwarm₁.alike) (by show T.heap.size + _ ≤ _; omega) (by show T.slotsUsed + _ ≤ _; omega) (fun d' acts' => ?_)
  have eS : ((T.setTop (F0 m pc ls (.int n2 :: .int n1 :: st))).setVm vm₁).setTop (F0 m pc ls st) = (T.setVm vm₁).setTop (F0 m pc ls st) := by
    show ((T.setVm vm₁).setTop (F0 m pc ls (.int n2 :: .int n1 :: st))).setTop _ = _
    rw [State.setTop_setTop]
  have eS' : ((T.setTop (F0 m pc ls (.int n2 :: .int n1 :: st))).setVm vm₁).setTop { (F0 m pc ls (.int n2 :: .int n1 :: st)) with stack := st } = (T.setVm vm₁).setTop (F0 m pc ls st) := eS
  rw [eS', hM.2.1]
  simp only [wp_bind', W.mark, W.pushRef, State.topJava?_setTop' _ XF.here.top, Option.some.injEq, exists_eq_left', State.setTop_setTop, State.heap_setTop]
  intro acts
  have hz' : T.heap.size = sz + es.length := by rw [hT]; exact hz
  simp [jvm, XF.here.top]
  rw [show T.heap.size = sz + es.length from hz'] at *
  exact b1
theorem k_multi3 (C : KC p l s m args meth c cc nL own D cl tys) {ix : Nat} {nm : String} {cA : ClassId} {n1 n2 n3 : Int32} (hclink : Cond.classLink own ix nm ∈ xWs) (hnm : s.vm.findClass nm = some cA) {V : Vm → Prop} {f : State → State} {K S : Nat} {g : Nat → Nat → Cell} {b : Nat → List va_E} (hV : ∀ vm : Vm, s.vm.Alike vm → V vm) (hmk : (∀ M : Nat, M ≤ 100000 → ¬ M > e.platform.arrayLengthLimit) → (∀ M : Nat, M ≤ 100000 → ¬ M > e.platform.maxHeapBytes) → Mk e V (multianewarray.make cA [n1, n2, n3]) f K S g) (hb : Bk K g b) (hK : 0 < K) (hcs : cs + K ≤ R.cells ∧ sl + S ≤ R.slots) (hd : decode cc pc = .ok (.multianewarray ix 3, 4)) (pc' : Nat) (hp : pc + 4 = pc') (q : Nat) (hq : sz + es.length = q)
    (kk : XK p l e R s m args below meth c nL Q D cl o e0 sz (es ++ b q) (cs + K) (sl + S) pc' lv (.ref q :: st)) : XK p l e R s m args below meth c nL Q D cl o e0 sz es cs sl pc lv (.int n3 :: .int n2 :: .int n1 :: st) := by
  intro H locs ls hP hz hS hss ho hl
  subst hp
  subst hq
  intro T hT X
  have hpl : e.platform.magicAccessors = ({} : Platform).magicAccessors := by rw [X.admits.platform]
  have hM := hmk (fun M h => by rw [Launch.admits_arrayLengthLimit X.admits]; omega) (fun M h => by rw [Launch.admits_maxHeapBytes X.admits]; omega)
  obtain ⟨c0, hfc0, hcl⟩ := Cond.classLink_spec C.2.2.2.1 (C.2.2.2.2.1 _ hclink) e.platform hpl
  cases hnm.symm.trans hfc0
  obtain ⟨hg₁, hwarm₁, hready₁⟩ := State.classEntry (e := e) X.warmed hcl
  generalize T.vm.noted m.cls ix (.cls cA) = vm₁ at hg₁ hwarm₁ hready₁
  have X₁ := X.noted hwarm₁
  obtain ⟨hr1, hr2⟩ := X.roomAbove hcs.1 hcs.2
  obtain ⟨h1, h2, h3, h4, h5⟩ := hM.1 (T.setVm vm₁)
  have hTh : (T.setVm vm₁).heap = H := hT
  rw [hTh] at h1 h4 h5
  obtain ⟨L, XL, hL⟩ := hM.2.2.2 _ _ _ _ _ _ _ _ _ _ _ _ _ X₁
  have XF := XL.dropFresh (fun x hx => by have h9 := hL x hx; rw [hTh] at h9; exact Nat.le_trans hS.1 h9)
  have hP1 : va_P D cl (KW o e0 sz (es ++ b (sz + es.length))) (f (T.setVm vm₁)).heap := by
    unfold KW
    rw [sq_app, ← List.cons_append]
    refine (hP.kept (fun k x hx => h4 x.1 (hP k x hx).lt)).app (fun k x hx => ?_)
    obtain ⟨k1, k2⟩ := sq_some hx
    obtain ⟨a, ha, hv⟩ := (hb (sz + es.length)).2 k x.2 k2
    have hk : k < K := by have := (List.getElem?_eq_some_iff.mp k2).1; rw [(hb _).1] at this; exact this
    obtain ⟨x1, x2⟩ := x
    have k1' : x1 = sz + es.length + k := k1
    have ha' : x2 = .inl a := ha
    subst ha'
    show (f (T.setVm vm₁)).heap[x1]? = some (vp_cell a.1 a.2)
    rw [k1', hv, ← hz]
    exact h5 k hk
  have hS1 : va_S (kA o sz) s.heap (f (T.setVm vm₁)).heap locs := ⟨by have := hS.1; omega, fun q h1 h2 => by rw [h4 q (by have := hS.1; omega)]; exact hS.2.1 q h1 h2, hS.2.2⟩
  obtain ⟨t9, b1, b2⟩ := kk _ locs ls hP1 (by rw [h1, hz, List.length_append, (hb _).1]; omega) hS1 hss ho hl (f (T.setVm vm₁)) rfl XF
  refine ⟨t9, ?_, b2⟩
  have hdg : decode c.code (F0 m pc ls (.int n3 :: .int n2 :: .int n1 :: st)).pc = .ok (.multianewarray ix 3, 4) := by rw [C.2.1]; exact hd
  jvm_step X.here [C.1, hdg]
  simp only [multianewarray.sem, wp_bind', W.resolveClassAt_links (State.method?_setTop (F0 m pc ls (.int n3 :: .int n2 :: .int n1 :: st)) X.here.top) hg₁]
  rw [W.popN, if_neg (by decide)]
  refine ⟨F0 m pc ls (.int n3 :: .int n2 :: .int n1 :: st), State.topJava?_setTop' (s := T.setVm vm₁) _ X.here.top, [.int n1, .int n2, .int n3], st, rfl, rfl, ?_⟩
  simp only [List.mapM_cons, List.mapM_nil, wp_bind', wp_pure']
  refine hM.2.2.1 _ _ _ _ _ (hV vm₁ hwarm₁.alike) (by show T.heap.size + _ ≤ _; omega) (by show T.slotsUsed + _ ≤ _; omega) (fun d' acts' => ?_)
  have eS : ((T.setTop (F0 m pc ls (.int n3 :: .int n2 :: .int n1 :: st))).setVm vm₁).setTop (F0 m pc ls st) = (T.setVm vm₁).setTop (F0 m pc ls st) := by
    show ((T.setVm vm₁).setTop (F0 m pc ls (.int n3 :: .int n2 :: .int n1 :: st))).setTop _ = _
    rw [State.setTop_setTop]
  have eS' : ((T.setTop (F0 m pc ls (.int n3 :: .int n2 :: .int n1 :: st))).setVm vm₁).setTop { (F0 m pc ls (.int n3 :: .int n2 :: .int n1 :: st)) with stack := st } = (T.setVm vm₁).setTop (F0 m pc ls st) := eS
  rw [eS', hM.2.1]
  simp only [wp_bind', W.mark, W.pushRef, State.topJava?_setTop' _ XF.here.top, Option.some.injEq, exists_eq_left', State.setTop_setTop, State.heap_setTop]
  intro acts
  have hz' : T.heap.size = sz + es.length := by rw [hT]; exact hz
  simp [jvm, XF.here.top]
  rw [show T.heap.size = sz + es.length from hz'] at *
  exact b1
theorem k_multi4 (C : KC p l s m args meth c cc nL own D cl tys) {ix : Nat} {nm : String} {cA : ClassId} {n1 n2 n3 n4 : Int32} (hclink : Cond.classLink own ix nm ∈ xWs) (hnm : s.vm.findClass nm = some cA) {V : Vm → Prop} {f : State → State} {K S : Nat} {g : Nat → Nat → Cell} {b : Nat → List va_E} (hV : ∀ vm : Vm, s.vm.Alike vm → V vm) (hmk : (∀ M : Nat, M ≤ 100000 → ¬ M > e.platform.arrayLengthLimit) → (∀ M : Nat, M ≤ 100000 → ¬ M > e.platform.maxHeapBytes) → Mk e V (multianewarray.make cA [n1, n2, n3, n4]) f K S g) (hb : Bk K g b) (hK : 0 < K) (hcs : cs + K ≤ R.cells ∧ sl + S ≤ R.slots) (hd : decode cc pc = .ok (.multianewarray ix 4, 4)) (pc' : Nat) (hp : pc + 4 = pc') (q : Nat) (hq : sz + es.length = q)
    (kk : XK p l e R s m args below meth c nL Q D cl o e0 sz (es ++ b q) (cs + K) (sl + S) pc' lv (.ref q :: st)) : XK p l e R s m args below meth c nL Q D cl o e0 sz es cs sl pc lv (.int n4 :: .int n3 :: .int n2 :: .int n1 :: st) := by
  intro H locs ls hP hz hS hss ho hl
  subst hp
  subst hq
  intro T hT X
  have hpl : e.platform.magicAccessors = ({} : Platform).magicAccessors := by rw [X.admits.platform]
  have hM := hmk (fun M h => by rw [Launch.admits_arrayLengthLimit X.admits]; omega) (fun M h => by rw [Launch.admits_maxHeapBytes X.admits]; omega)
  obtain ⟨c0, hfc0, hcl⟩ := Cond.classLink_spec C.2.2.2.1 (C.2.2.2.2.1 _ hclink) e.platform hpl
  cases hnm.symm.trans hfc0
  obtain ⟨hg₁, hwarm₁, hready₁⟩ := State.classEntry (e := e) X.warmed hcl
  generalize T.vm.noted m.cls ix (.cls cA) = vm₁ at hg₁ hwarm₁ hready₁
  have X₁ := X.noted hwarm₁
  obtain ⟨hr1, hr2⟩ := X.roomAbove hcs.1 hcs.2
  obtain ⟨h1, h2, h3, h4, h5⟩ := hM.1 (T.setVm vm₁)
  have hTh : (T.setVm vm₁).heap = H := hT
  rw [hTh] at h1 h4 h5
  obtain ⟨L, XL, hL⟩ := hM.2.2.2 _ _ _ _ _ _ _ _ _ _ _ _ _ X₁
  have XF := XL.dropFresh (fun x hx => by have h9 := hL x hx; rw [hTh] at h9; exact Nat.le_trans hS.1 h9)
  have hP1 : va_P D cl (KW o e0 sz (es ++ b (sz + es.length))) (f (T.setVm vm₁)).heap := by
    unfold KW
    rw [sq_app, ← List.cons_append]
    refine (hP.kept (fun k x hx => h4 x.1 (hP k x hx).lt)).app (fun k x hx => ?_)
    obtain ⟨k1, k2⟩ := sq_some hx
    obtain ⟨a, ha, hv⟩ := (hb (sz + es.length)).2 k x.2 k2
    have hk : k < K := by have := (List.getElem?_eq_some_iff.mp k2).1; rw [(hb _).1] at this; exact this
    obtain ⟨x1, x2⟩ := x
    have k1' : x1 = sz + es.length + k := k1
    have ha' : x2 = .inl a := ha
    subst ha'
    show (f (T.setVm vm₁)).heap[x1]? = some (vp_cell a.1 a.2)
    rw [k1', hv, ← hz]
    exact h5 k hk
  have hS1 : va_S (kA o sz) s.heap (f (T.setVm vm₁)).heap locs := ⟨by have := hS.1; omega, fun q h1 h2 => by rw [h4 q (by have := hS.1; omega)]; exact hS.2.1 q h1 h2, hS.2.2⟩
  obtain ⟨t9, b1, b2⟩ := kk _ locs ls hP1 (by rw [h1, hz, List.length_append, (hb _).1]; omega) hS1 hss ho hl (f (T.setVm vm₁)) rfl XF
  refine ⟨t9, ?_, b2⟩
  have hdg : decode c.code (F0 m pc ls (.int n4 :: .int n3 :: .int n2 :: .int n1 :: st)).pc = .ok (.multianewarray ix 4, 4) := by rw [C.2.1]; exact hd
  jvm_step X.here [C.1, hdg]
  simp only [multianewarray.sem, wp_bind', W.resolveClassAt_links (State.method?_setTop (F0 m pc ls (.int n4 :: .int n3 :: .int n2 :: .int n1 :: st)) X.here.top) hg₁]
  rw [W.popN, if_neg (by decide)]
  refine ⟨F0 m pc ls (.int n4 :: .int n3 :: .int n2 :: .int n1 :: st), State.topJava?_setTop' (s := T.setVm vm₁) _ X.here.top, [.int n1, .int n2, .int n3, .int n4], st, rfl, rfl, ?_⟩
  simp only [List.mapM_cons, List.mapM_nil, wp_bind', wp_pure']
  refine hM.2.2.1 _ _ _ _ _ (hV vm₁ hwarm₁.alike) (by show T.heap.size + _ ≤ _; omega) (by show T.slotsUsed + _ ≤ _; omega) (fun d' acts' => ?_)
  have eS : ((T.setTop (F0 m pc ls (.int n4 :: .int n3 :: .int n2 :: .int n1 :: st))).setVm vm₁).setTop (F0 m pc ls st) = (T.setVm vm₁).setTop (F0 m pc ls st) := by
    show ((T.setVm vm₁).setTop (F0 m pc ls (.int n4 :: .int n3 :: .int n2 :: .int n1 :: st))).setTop _ = _
    rw [State.setTop_setTop]
  have eS' : ((T.setTop (F0 m pc ls (.int n4 :: .int n3 :: .int n2 :: .int n1 :: st))).setVm vm₁).setTop { (F0 m pc ls (.int n4 :: .int n3 :: .int n2 :: .int n1 :: st)) with stack := st } = (T.setVm vm₁).setTop (F0 m pc ls st) := eS
  rw [eS', hM.2.1]
  simp only [wp_bind', W.mark, W.pushRef, State.topJava?_setTop' _ XF.here.top, Option.some.injEq, exists_eq_left', State.setTop_setTop, State.heap_setTop]
  intro acts
  have hz' : T.heap.size = sz + es.length := by rw [hT]; exact hz
  simp [jvm, XF.here.top]
  rw [show T.heap.size = sz + es.length from hz'] at *
  exact b1
end
