/-! THE CLAIM OUT OF ONE WALK OF THE LAW'S BODY. Your part is whole_start (and what it stands on); all else here is the same for every law, but numbers. -/
def R_law : String := "MendedLettersLaw"
def lw_P (b : Addr) (xs : List Int32) (args : Array Value) (s : State) : Prop := args = #[.ref b] ∧ s.IntsAt b xs ∧ xs.length ≤ 3072 ∧ (Jvm.Cond.and given_1 narrow_1).before args s = true
def lw_Q (_ : Array Value) (s : State) (o : Outcome) (t : State) : Prop := o = .returned (some (.int 1)) ∧ Framed s o t [] 601024 7293034
def lw_Z (below : List Frame) (a : Array Value) (s : State) : State → Prop := fun t => ∃ o, t.status = .running ∧ Ended t below o ∧ lw_Q a s o t
/-- the law's own end, with 1 on the stack, nothing written that was there before, its room as the claim has it -/
theorem lw_ret {p : Program} {l : Launch} {e : Env} {s : State} {m : MethodId} {below : List Frame} {meth : Method} {c : Code} {b : Nat} (hx : p.tables.exec = Jvm.exec) (hb : c.code = code) (hr : meth.sig.returnType = ret) (hlocks : meth.locks = false) {pc : Nat} {H : Heap} {ls : Array Slot} (hdg : decode code pc = .ok (.ireturn, 1)) : W p l e room_1 s m #[Value.ref b] below meth c H [] 601024 7293034 (lw_Z below #[Value.ref b] s) (F0 m pc ls [.int 1]) := by
  intro T hT X
  obtain ⟨fs, hret, hrun, hended, hW, hframe⟩ := X.leave (v := some (.int 1)) (hlocks := hlocks) (fun h => by rw [hr] at h; cases h)
  have hmeth' : T.vm.method? m = some meth := X.method'
  refine ⟨T.setFrames fs, ?_, .returned (some (.int 1)), hrun, hended, rfl, ⟨_, rfl⟩, hW, hframe⟩
  jvm_step X.here [X.here.top, hx, hb, hdg, hmeth', hr, ret, narrow_b1]
  (try refine ⟨rfl, ?_⟩); (try refine ⟨rfl, ?_⟩)
  first | (intro acts; rw [hret _ acts rfl rfl rfl]) | rw [hret _ _ rfl rfl rfl]
  exact Steps.refl _
/-- what holds at the law's entry: the machine, the code, the tables' words (any of lw_tbl by 'hts w (by decide +kernel)'), the script of L ints xs at the cell b, what the Statement gives of the start (any of its parts by flat_of_before) -/
def lw_At (p : Program) (s : State) (m : MethodId) (meth : Method) (c : Code) (b L : Nat) (xs : Nat → Int32) : Prop :=
  p.tables.exec = Jvm.exec ∧ c.code = code ∧ meth.sig.returnType = ret ∧ c.maxLocals = 7 ∧ s.vm.findClass R_law = some m.cls ∧ (∀ w ∈ lw_tbl, w.before #[Value.ref b] s = true) ∧ va_X b L xs s s.heap ∧ b < s.heap.size ∧ meth.locks = false ∧ (Jvm.Cond.and given_1 narrow_1).before #[Value.ref b] s = true
def LX (p : Program) (l : Launch) (s : State) (m : MethodId) (b : Nat) (meth : Method) (c : Code) (D : va_G) (adC : Nat → Nat) (caC : Nat → ClassId) (adM : Nat → Nat) (caM : Nat → ClassId) : Prop :=
  p.tables.exec = Jvm.exec ∧ c.code = code ∧ c.maxLocals = 7 ∧ s.vm.findClass RL = some m.cls ∧ (∀ w ∈ xWs, w.before #[Value.ref b] s = true) ∧ va_K D vwCl (tysC caC) s ∧ va_K D vwCl (tysM caM) s ∧ xNest s ∧ xThr (fun q : Nat => s.heap.size ≤ q) s ∧ l.stackTraces = false ∧ xInj adC NCC ∧ xInj adM NCM ∧ (∀ k, k < NCC → s.heap.size ≤ adC k) ∧ (∀ k, k < NCM → s.heap.size ≤ adM k) ∧ (∀ i j, i < NCC → j < NCM → adC i ≠ adM j)
theorem l_keep {D : va_G} {E : xL} {NC : Nat} {ad ad2 : Nat → Nat} {NC2 : Nat} {a : AH} {H H1 : Heap} (hP : va_P D vwCl (xw E NC ad a) H) (hd : ∀ i j, i < NC → j < NC2 → ad i ≠ ad2 j) (hk : ∀ q : Nat, q < H.size → ¬ xA ad2 NC2 H.size q → H1[q]? = H[q]?) : va_P D vwCl (xw E NC ad a) H1 := by
  refine hP.kept (fun k q hq => ?_)
  have hlt := (hP k q hq).lt
  obtain ⟨h1, rfl⟩ := xw_some hq
  refine hk _ hlt (fun h => ?_)
  rcases h with ⟨j, hj, e⟩ | h
  · exact hd k j h1 hj e
  · exact absurd hlt (Nat.not_lt.mpr h)
theorem l_inA {s : State} {ad : Nat → Nat} {NC : Nat} {H H0 : Heap} {locs : List Loc} (hA : ∀ k, k < NC → s.heap.size ≤ ad k) (hS : va_S (fun q : Nat => s.heap.size ≤ q) s.heap H locs) {q : Nat} (h : xA ad NC H.size q) : s.heap.size ≤ q := by
  rcases h with ⟨k, hk, rfl⟩ | h
  · exact hA k hk
  · exact Nat.le_trans hS.1 h
section
variable {p : Program} {l : Launch} {e : Env} {s : State} {m : MethodId} {b : Nat} {below : List Frame} {meth : Method} {c : Code} {D : va_G} {adC : Nat → Nat} {caC : Nat → ClassId} {adM : Nat → Nat} {caM : Nat → ClassId} {Q : State → Prop} {H : Heap} {locs : List Loc} {ls : Array Slot} {aC aM : AH} {pc cs sl : Nat} {st : List Value}
theorem l_callC (X : LX p l s m b meth c D adC caC adM caM) {y : MethodName} {bytes : ByteArray} {maxL n ix : Nat} {rt : Option FieldType} {rm : Room} {As : List Value} {r1 : Int32} {a1 : AH} (hMe : xMi l y bytes maxL rt rm D vwCl (tysC caC) (EC adC caC) NCC adC (.ref (adC 0) :: As) aC (r1, a1)) (hlink : Cond.methodLink RL ix y ∈ xWs) (hw : xcV RX11 y bytes maxL rt n) (hn : As.length = n) (hrc : rm.cells = 0) (hrs : rm.slots = 0) (hR : rm.frames + 1 ≤ room_1.frames ∧ 8 + (maxL + 11) + rm.locals ≤ room_1.locals) (hd : decode code pc = .ok (.invokevirtual ix, 3)) (hC : va_P D vwCl (xw (EC adC caC) NCC adC aC) H) (hM : va_P D vwCl (xw (EM adM caM) NCM adM aM) H) (hS : va_S (fun q : Nat => s.heap.size ≤ q) s.heap H locs) (hcs : cs ≤ 601024 ∧ sl ≤ 7293034) (hsz : ls.size = 7) {st0 : List Value} (hst : st0 = As.reverse ++ .ref (adC 0) :: st) (hcat : (st.map fun v => v.category).sum ≤ 8) (pc' : Nat) (hp : pc + 3 = pc')
    (kk : ∀ (H1 : Heap) (locs1 : List Loc), va_P D vwCl (xw (EC adC caC) NCC adC a1) H1 → va_P D vwCl (xw (EM adM caM) NCM adM aM) H1 → va_S (fun q : Nat => s.heap.size ≤ q) s.heap H1 locs1 → W p l e room_1 s m #[Value.ref b] below meth c H1 locs1 cs sl Q (F0 m pc' ls (.int r1 :: st))) : W p l e room_1 s m #[Value.ref b] below meth c H locs cs sl Q (F0 m pc ls st0) := by
  subst hp
  obtain ⟨w1, w2, w3, w4, w5⟩ := hw
  have cb := callB_of (R := room_1) (own := RL) (index := ix) (ws := Cond.code y bytes maxL rt :: xWs) (ws' := xWs) (rm := rm) (mc := 0) (ms := 0) n X.2.2.2.2.1 (xGood y bytes maxL rt w4) rfl hrc hrs (X.2.2.2.2.1 _ w3) (X.2.2.2.2.1 _ hlink) w5 hR
  refine va_calli (va_runV (As := As) (rest := st) (C := RX11) ⟨X.1, X.2.1, X.2.2.1, X.2.2.2.1, X.2.2.2.2.1⟩ (hMe H.size) ⟨cb, X.2.2.2.2.1 _ w1, X.2.2.2.2.1 _ w2⟩ ⟨xPre_blind, va_recv X.2.2.2.2.2.1 hC (ci := 11) rfl (xw_get lc0 EC_0), fun U hU hW => ⟨rfl, by rw [hU], by rw [hU]; exact hC, va_K.moved hW.alike X.2.2.2.2.2.1, X.2.2.2.2.2.2.2.1.warm hW⟩⟩ rfl hn hsz hst (lv_room hcat) hd hcs) hS (fun q _ h => l_inA (H0 := H) X.2.2.2.2.2.2.2.2.2.2.2.2.1 hS h) (fun q h => l_inA (H0 := H) X.2.2.2.2.2.2.2.2.2.2.2.2.1 hS h) (fun r u t H1 locs1 ht hvm hw1 hB _ hk1 hS1 => ?_)
  obtain ⟨rfl, rfl⟩ := hw1
  obtain ⟨⟨hP1, -⟩, -⟩ := hB
  rw [ht] at hP1
  exact kk H1 locs1 hP1 (l_keep hM (fun i j hi hj => (X.2.2.2.2.2.2.2.2.2.2.2.2.2.2 j i hj hi).symm) hk1) hS1
theorem l_callM (X : LX p l s m b meth c D adC caC adM caM) {y : MethodName} {bytes : ByteArray} {maxL n ix : Nat} {rt : Option FieldType} {rm : Room} {As : List Value} {r1 : Int32} {a1 : AH} (hMe : xMi l y bytes maxL rt rm D vwCl (tysM caM) (EM adM caM) NCM adM (.ref (adM 0) :: As) aM (r1, a1)) (hlink : Cond.methodLink RL ix y ∈ xWs) (hw : xcV RX12 y bytes maxL rt n) (hn : As.length = n) (hrc : rm.cells = 0) (hrs : rm.slots = 0) (hR : rm.frames + 1 ≤ room_1.frames ∧ 8 + (maxL + 11) + rm.locals ≤ room_1.locals) (hd : decode code pc = .ok (.invokevirtual ix, 3)) (hC : va_P D vwCl (xw (EC adC caC) NCC adC aC) H) (hM : va_P D vwCl (xw (EM adM caM) NCM adM aM) H) (hS : va_S (fun q : Nat => s.heap.size ≤ q) s.heap H locs) (hcs : cs ≤ 601024 ∧ sl ≤ 7293034) (hsz : ls.size = 7) {st0 : List Value} (hst : st0 = As.reverse ++ .ref (adM 0) :: st) (hcat : (st.map fun v => v.category).sum ≤ 8) (pc' : Nat) (hp : pc + 3 = pc')
    (kk : ∀ (H1 : Heap) (locs1 : List Loc), va_P D vwCl (xw (EC adC caC) NCC adC aC) H1 → va_P D vwCl (xw (EM adM caM) NCM adM a1) H1 → va_S (fun q : Nat => s.heap.size ≤ q) s.heap H1 locs1 → W p l e room_1 s m #[Value.ref b] below meth c H1 locs1 cs sl Q (F0 m pc' ls (.int r1 :: st))) : W p l e room_1 s m #[Value.ref b] below meth c H locs cs sl Q (F0 m pc ls st0) := by
  subst hp
  obtain ⟨w1, w2, w3, w4, w5⟩ := hw
  have cb := callB_of (R := room_1) (own := RL) (index := ix) (ws := Cond.code y bytes maxL rt :: xWs) (ws' := xWs) (rm := rm) (mc := 0) (ms := 0) n X.2.2.2.2.1 (xGood y bytes maxL rt w4) rfl hrc hrs (X.2.2.2.2.1 _ w3) (X.2.2.2.2.1 _ hlink) w5 hR
  refine va_calli (va_runV (As := As) (rest := st) (C := RX12) ⟨X.1, X.2.1, X.2.2.1, X.2.2.2.1, X.2.2.2.2.1⟩ (hMe H.size) ⟨cb, X.2.2.2.2.1 _ w1, X.2.2.2.2.1 _ w2⟩ ⟨xPre_blind, va_recv X.2.2.2.2.2.2.1 hM (ci := 12) rfl (xw_get lm0 EM_0), fun U hU hW => ⟨rfl, by rw [hU], by rw [hU]; exact hM, va_K.moved hW.alike X.2.2.2.2.2.2.1, X.2.2.2.2.2.2.2.1.warm hW⟩⟩ rfl hn hsz hst (lv_room hcat) hd hcs) hS (fun q _ h => l_inA (H0 := H) X.2.2.2.2.2.2.2.2.2.2.2.2.2.1 hS h) (fun q h => l_inA (H0 := H) X.2.2.2.2.2.2.2.2.2.2.2.2.2.1 hS h) (fun r u t H1 locs1 ht hvm hw1 hB _ hk1 hS1 => ?_)
  obtain ⟨rfl, rfl⟩ := hw1
  obtain ⟨⟨hP1, -⟩, -⟩ := hB
  rw [ht] at hP1
  exact kk H1 locs1 (l_keep hC X.2.2.2.2.2.2.2.2.2.2.2.2.2.2 hk1) hP1 hS1
theorem l_callH (X : LX p l s m b meth c D adC caC adM caM) {y : MethodName} {bytes : ByteArray} {maxL n ix : Nat} {hh : List (Nat × Nat × Nat × Nat)} {rm : Room} {As : List Value} {r1 : Int32} {a1 : AH} (hMe : xMh l y bytes maxL hh rm D vwCl (tysC caC) (EC adC caC) NCC adC As aC (r1, a1)) (hlink : Cond.methodLink RL ix y ∈ xWs) (hstat : Cond.static y ∈ xWs) (hini : Cond.initialized y.cls ∈ xWs) (hcode : Cond.codeWith y bytes maxL (some .int) hh ∈ xWs) (hd0 : y.cls ≠ "java/lang/invoke/MethodHandle" ∧ y.cls ≠ "java/lang/invoke/VarHandle" ∧ (parseMethodDescriptor y.desc).map (fun d => d.parameters.length) = some n) (hn : As.length = n) (hrc : rm.cells = 3) (hrs : rm.slots = 18) (hR : rm.frames + 1 ≤ room_1.frames ∧ 8 + (maxL + 11) + rm.locals ≤ room_1.locals) (hd : decode code pc = .ok (.invokestatic ix, 3)) (hC : va_P D vwCl (xw (EC adC caC) NCC adC aC) H) (hM : va_P D vwCl (xw (EM adM caM) NCM adM aM) H) (hS : va_S (fun q : Nat => s.heap.size ≤ q) s.heap H locs) (hcs : cs + 3 ≤ 601024 ∧ sl + 18 ≤ 7293034) (hsz : ls.size = 7) {st0 : List Value} (hst : st0 = As.reverse ++ st) (hcat : (st.map fun v => v.category).sum ≤ 8) (pc' : Nat) (hp : pc + 3 = pc')
    (kk : ∀ (H1 : Heap) (locs1 : List Loc), va_P D vwCl (xw (EC adC caC) NCC adC a1) H1 → va_P D vwCl (xw (EM adM caM) NCM adM aM) H1 → va_S (fun q : Nat => s.heap.size ≤ q) s.heap H1 locs1 → W p l e room_1 s m #[Value.ref b] below meth c H1 locs1 (cs + 3) (sl + 18) Q (F0 m pc' ls (.int r1 :: st))) : W p l e room_1 s m #[Value.ref b] below meth c H locs cs sl Q (F0 m pc ls st0) := by
  subst hp
  have hG : GoodIn xWs (Cond.codeWith y bytes maxL (some .int) hh :: xWs) := fun w hw => by
    have hm : w ∈ xWs := by
      rcases List.mem_cons.mp hw with rfl | q
      · exact hcode
      · exact q
    exact ⟨hm, good_of_word (xWs_good hm)⟩
  have cb : vx_CSW room_1 s #[Value.ref b] RL ix y bytes maxL (some .int) hh (Cond.codeWith y bytes maxL (some .int) hh :: xWs) rm 3 18 n := by
    refine ⟨⟨hrc, hrs, hR.1, hR.2, pay_in X.2.2.2.2.1 hG, List.mem_cons_self⟩, X.2.2.2.2.1 _ hcode, X.2.2.2.2.1 _ hini, ⟨hd0.1, hd0.2.1⟩, fun sig h => ?_, X.2.2.2.2.1 _ hlink, X.2.2.2.2.1 _ hstat⟩
    have h2 := hd0.2.2
    rw [h] at h2
    exact (Option.some.inj h2).symm
  refine vx_calli (vx_runSX (As := As) (rest := st) (hh := hh) ⟨X.1, X.2.1, X.2.2.1, X.2.2.2.1, X.2.2.2.2.1⟩ (hMe H.size) cb ⟨xPreT_blind, fun U hU hW => ⟨rfl, ⟨by rw [hU], by rw [hU]; exact hC, va_K.moved hW.alike X.2.2.2.2.2.1, X.2.2.2.2.2.2.2.1.warm hW⟩, X.2.2.2.2.2.2.2.2.1.go hW (fun q h1 h2 => by rw [hU]; exact hS.2.1 q h1 h2) (fun q hq => l_inA (H0 := H) X.2.2.2.2.2.2.2.2.2.2.2.2.1 hS hq)⟩⟩ rfl hn hsz hst (lv_room hcat) hd hcs) hS (fun q _ h => l_inA (H0 := H) X.2.2.2.2.2.2.2.2.2.2.2.2.1 hS h) (fun q h => l_inA (H0 := H) X.2.2.2.2.2.2.2.2.2.2.2.2.1 hS h) (fun q _ h => l_inA (H0 := H) X.2.2.2.2.2.2.2.2.2.2.2.2.1 hS h) ?_ ?_
  · intro E2 ce q9 u t H1 locs1 ht hvm hu
    exact absurd hu id
  · intro r u t H1 locs1 ht hvm hw1 hB _ hk1 hS1
    obtain ⟨rfl, rfl⟩ := hw1
    obtain ⟨hP1, -⟩ := hB
    rw [ht] at hP1
    exact kk H1 locs1 hP1 (l_keep hM (fun i j hi hj => (X.2.2.2.2.2.2.2.2.2.2.2.2.2.2 j i hj hi).symm) hk1) hS1
end
theorem l_cmp_self (x : Int64) : lg_cmp x x = 0 := by simp [lg_cmp]
def LK (p : Program) (l : Launch) (e : Env) (s : State) (m : MethodId) (b : Nat) (below : List Frame) (meth : Method) (c : Code) (D : va_G) (adC : Nat → Nat) (caC : Nat → ClassId) (adM : Nat → Nat) (caM : Nat → ClassId) (cs sl : Nat) (aC aM : AH) (x4 : Int32) (pc : Nat) : Prop :=
  ∀ (H : Heap) (locs : List Loc) (ls : Array Slot), va_P D vwCl (xw (EC adC caC) NCC adC aC) H → va_P D vwCl (xw (EM adM caM) NCM adM aM) H → va_S (fun q : Nat => s.heap.size ≤ q) s.heap H locs → lv_has ls 7 [(0, .ref b), (1, .ref (adC 0)), (2, .ref (adM 0)), (3, .ref (adC 91)), (4, .int x4)] → W p l e room_1 s m #[Value.ref b] below meth c H locs cs sl (lw_Z below #[Value.ref b] s) (F0 m pc ls [])
section
variable {p : Program} {l : Launch} {e : Env} {s : State} {m : MethodId} {b : Nat} {below : List Frame} {meth : Method} {c : Code} {D : va_G} {adC : Nat → Nat} {caC : Nat → ClassId} {adM : Nat → Nat} {caM : Nat → ClassId} {N : Nat} {aC aM : AH} {cs sl L : Nat} {xs : Nat → Int32} {x4 : Int32} {Rel : AH → AH → Prop}
def Sim_feed (N : Nat) (Rel : AH → AH → Prop) : Prop := ∀ (aC aM : AH), Rel aC aM → ∀ p1 p2 p3 p4 p5 : Int32, ∃ (r : Int32) (aC1 aM1 : AH), F_X11_feed N aC p1 p2 p3 p4 p5 = some (r, aC1) ∧ F_X12_feed N aM p1 p2 p3 p4 p5 = some (r, aM1) ∧ Rel aC1 aM1
theorem law_feed (X : LX p l s m b meth c D adC caC adM caM) (hX : va_X b L xs s s.heap) (hbl : b < s.heap.size) (hbA : ¬ (fun q : Nat => s.heap.size ≤ q) b) (hin : ∀ j : Int32, 0 ≤ j ∧ j ≤ 5 → vp_in (x4 + j) L) (hcs : cs + 3 ≤ 601024 ∧ sl + 18 ≤ 7293034) (hs : Sim_feed N Rel) (hrel : Rel aC aM) (K : ∀ aC1 aM1, Rel aC1 aM1 → LK p l e s m b below meth c D adC caC adM caM (cs + 3) (sl + 18) aC1 aM1 x4 2428) : LK p l e s m b below meth c D adC caC adM caM cs sl aC aM x4 204 := by
  intro H locs ls hC hM hS hl
  have hx := X.1
  have hb := X.2.1
  have hsz := hl.1
  obtain ⟨r6, aC1, aM1, f1, f2, hr⟩ := hs aC aM hrel (xs (Int32.toNatClampNeg (x4 + 1))) (xs (Int32.toNatClampNeg (x4 + 2))) (xs (Int32.toNatClampNeg (x4 + 3))) (xs (Int32.toNatClampNeg (x4 + 4))) (xs (Int32.toNatClampNeg (x4 + 5)))
  refine lv_aload_n hx hb dL_law_204 rfl (lv_at hl 1 rfl) ?_
  refine lv_aload_n hx hb dL_law_205 rfl (lv_at hl 0 rfl) ?_
  refine lv_iload hx hb dL_law_206 (lv_at hl 4 rfl) ?_
  refine lv_iconst (v := 1) hx hb dL_law_208 (by decide) ?_
  refine lv_iadd hx hb dL_law_209 ?_
  refine va_sld hx hb hX hbl hbA hS (hin 1 (by decide)) dL_law_210 ?_
  refine lv_aload_n hx hb dL_law_211 rfl (lv_at hl 0 rfl) ?_
  refine lv_iload hx hb dL_law_212 (lv_at hl 4 rfl) ?_
  refine lv_iconst (v := 2) hx hb dL_law_214 (by decide) ?_
  refine lv_iadd hx hb dL_law_215 ?_
  refine va_sld hx hb hX hbl hbA hS (hin 2 (by decide)) dL_law_216 ?_
  refine lv_aload_n hx hb dL_law_217 rfl (lv_at hl 0 rfl) ?_
  refine lv_iload hx hb dL_law_218 (lv_at hl 4 rfl) ?_
  refine lv_iconst (v := 3) hx hb dL_law_220 (by decide) ?_
  refine lv_iadd hx hb dL_law_221 ?_
  refine va_sld hx hb hX hbl hbA hS (hin 3 (by decide)) dL_law_222 ?_
  refine lv_aload_n hx hb dL_law_223 rfl (lv_at hl 0 rfl) ?_
  refine lv_iload hx hb dL_law_224 (lv_at hl 4 rfl) ?_
  refine lv_iconst (v := 4) hx hb dL_law_226 (by decide) ?_
  refine lv_iadd hx hb dL_law_227 ?_
  refine va_sld hx hb hX hbl hbA hS (hin 4 (by decide)) dL_law_228 ?_
  refine lv_aload_n hx hb dL_law_229 rfl (lv_at hl 0 rfl) ?_
  refine lv_iload hx hb dL_law_230 (lv_at hl 4 rfl) ?_
  refine lv_iconst (v := 5) hx hb dL_law_232 (by decide) ?_
  refine lv_iadd hx hb dL_law_233 ?_
  refine va_sld hx hb hX hbl hbA hS (hin 5 (by decide)) dL_law_234 ?_
  refine l_callC X (c_X11_feed X.2.2.2.2.2.2.2.2.2.2.1 f1) wml_L_117 wq_X11_feed rfl rfl rfl ⟨by decide, by decide⟩ dL_law_235 hC hM hS ⟨by omega, by omega⟩ hsz rfl (Nat.le_of_ble_eq_true rfl) 238 rfl (fun H locs hC hM hS => ?_)
  refine lv_aload_n hx hb dL_law_238 rfl (lv_at hl 2 rfl) ?_
  refine lv_aload_n hx hb dL_law_239 rfl (lv_at hl 0 rfl) ?_
  refine lv_iload hx hb dL_law_240 (lv_at hl 4 rfl) ?_
  refine lv_iconst (v := 1) hx hb dL_law_242 (by decide) ?_
  refine lv_iadd hx hb dL_law_243 ?_
  refine va_sld hx hb hX hbl hbA hS (hin 1 (by decide)) dL_law_244 ?_
  refine lv_aload_n hx hb dL_law_245 rfl (lv_at hl 0 rfl) ?_
  refine lv_iload hx hb dL_law_246 (lv_at hl 4 rfl) ?_
  refine lv_iconst (v := 2) hx hb dL_law_248 (by decide) ?_
  refine lv_iadd hx hb dL_law_249 ?_
  refine va_sld hx hb hX hbl hbA hS (hin 2 (by decide)) dL_law_250 ?_
  refine lv_aload_n hx hb dL_law_251 rfl (lv_at hl 0 rfl) ?_
  refine lv_iload hx hb dL_law_252 (lv_at hl 4 rfl) ?_
  refine lv_iconst (v := 3) hx hb dL_law_254 (by decide) ?_
  refine lv_iadd hx hb dL_law_255 ?_
  refine va_sld hx hb hX hbl hbA hS (hin 3 (by decide)) dL_law_256 ?_
  refine lv_aload_n hx hb dL_law_257 rfl (lv_at hl 0 rfl) ?_
  refine lv_iload hx hb dL_law_258 (lv_at hl 4 rfl) ?_
  refine lv_iconst (v := 4) hx hb dL_law_260 (by decide) ?_
  refine lv_iadd hx hb dL_law_261 ?_
  refine va_sld hx hb hX hbl hbA hS (hin 4 (by decide)) dL_law_262 ?_
  refine lv_aload_n hx hb dL_law_263 rfl (lv_at hl 0 rfl) ?_
  refine lv_iload hx hb dL_law_264 (lv_at hl 4 rfl) ?_
  refine lv_iconst (v := 5) hx hb dL_law_266 (by decide) ?_
  refine lv_iadd hx hb dL_law_267 ?_
  refine va_sld hx hb hX hbl hbA hS (hin 5 (by decide)) dL_law_268 ?_
  refine l_callM X (c_X12_feed X.2.2.2.2.2.2.2.2.2.2.2.1 f2) wml_L_121 wq_X12_feed rfl rfl rfl ⟨by decide, by decide⟩ dL_law_269 hC hM hS ⟨by omega, by omega⟩ hsz rfl (Nat.le_of_ble_eq_true rfl) 272 rfl (fun H locs hC hM hS => ?_)
  refine lv_icmp_eq (tgt := 2428) hx hb dL_law_272 (by decide) (fun _ => ?_) (fun ne => absurd rfl ne)
  refine W.widen (k := cs + 3) (n := sl + 18) (by omega) (by omega) ?_
  exact K aC1 aM1 hr H locs ls hC hM hS (lv_sub hl [0, 1, 2, 3, 4] rfl)
def Sim_lexicon (N : Nat) (Rel : AH → AH → Prop) : Prop := ∀ (aC aM : AH), Rel aC aM → ∀ p1 : Int32, ∃ (k r : Int32) (aC1 aM1 : AH), F_L_lexicon N aC p1 = some (k, aC1) ∧ F_X12_lexicon N aM p1 = some (r, aM1) ∧ aM1 0 0 = k ∧ (k = 0 → aC1 91 0 = r) ∧ Rel aC1 aM1
theorem law_lexicon (X : LX p l s m b meth c D adC caC adM caM) (hX : va_X b L xs s s.heap) (hbl : b < s.heap.size) (hbA : ¬ (fun q : Nat => s.heap.size ≤ q) b) (hin : ∀ j : Int32, 0 ≤ j ∧ j ≤ 5 → vp_in (x4 + j) L) (hcs : cs + 3 ≤ 601024 ∧ sl + 18 ≤ 7293034) (hs : Sim_lexicon N Rel) (hrel : Rel aC aM) (K : ∀ aC1 aM1, Rel aC1 aM1 → LK p l e s m b below meth c D adC caC adM caM (cs + 3) (sl + 18) aC1 aM1 x4 2428) : LK p l e s m b below meth c D adC caC adM caM cs sl aC aM x4 277 := by
  intro H locs ls hC hM hS hl
  have hx := X.1
  have hb := X.2.1
  have hsz := hl.1
  obtain ⟨k5, r6, aC1, aM1, f1, f2, f3, f4, hr⟩ := hs aC aM hrel (xs (Int32.toNatClampNeg (x4 + 1)))
  refine lv_aload_n hx hb dL_law_277 rfl (lv_at hl 1 rfl) ?_
  refine lv_aload_n hx hb dL_law_278 rfl (lv_at hl 0 rfl) ?_
  refine lv_iload hx hb dL_law_279 (lv_at hl 4 rfl) ?_
  refine lv_iconst (v := 1) hx hb dL_law_281 (by decide) ?_
  refine lv_iadd hx hb dL_law_282 ?_
  refine va_sld hx hb hX hbl hbA hS (hin 1 (by decide)) dL_law_283 ?_
  refine lv_aload_n hx hb dL_law_284 rfl (lv_at hl 3 rfl) ?_
  refine l_callH (n := 3) X (c_L_lexicon X.2.2.2.2.2.2.2.2.2.2.1 X.2.2.2.2.2.2.2.2.2.1 f1) wml_L_122 wmt_L_lexicon wmn_L wmc_L_lexicon (by decide +kernel) rfl rfl rfl ⟨by decide, by decide⟩ dL_law_285 hC hM hS ⟨by omega, by omega⟩ hsz rfl (Nat.le_of_ble_eq_true rfl) 288 rfl (fun H locs hC hM hS => ?_)
  refine lv_istore (lv' := [(5, .int k5), (0, .ref b), (1, .ref (adC 0)), (2, .ref (adM 0)), (3, .ref (adC 91)), (4, .int x4)]) hx hb dL_law_288 hl (by decide) rfl (fun ls hl => ?_)
  have hsz := hl.1
  refine lv_aload_n hx hb dL_law_290 rfl (lv_at hl 3 rfl) ?_
  refine lv_aload_n hx hb dL_law_291 rfl (lv_at hl 1 rfl) ?_
  refine lv_iload hx hb dL_law_292 (lv_at hl 5 rfl) ?_
  refine lv_iconst (v := 1) hx hb dL_law_294 (by decide) ?_
  refine lv_iadd hx hb dL_law_295 ?_
  refine va_sld hx hb hX hbl hbA hS (hin 1 (by decide)) dL_law_296 ?_
  refine l_callM X (c_X12_lexicon X.2.2.2.2.2.2.2.2.2.2.2.1 f2) wml_L_127 wq_X12_lexicon rfl rfl rfl ⟨by decide, by decide⟩ dL_law_297 hC hM hS ⟨by omega, by omega⟩ hsz rfl (Nat.le_of_ble_eq_true rfl) 300 rfl (fun H locs hC hM hS => ?_)
  refine lv_istore (lv' := [(6, .int r6), (5, .int k5), (0, .ref b), (1, .ref (adC 0)), (2, .ref (adM 0)), (3, .ref (adC 91)), (4, .int x4)]) hx hb dL_law_300 hl (by decide) rfl (fun ls hl => ?_)
  have hsz := hl.1
  refine lv_aload_n hx hb dL_law_302 rfl (lv_at hl 4 rfl) ?_
  refine l_callM X (c_X12_thrown X.2.2.2.2.2.2.2.2.2.2.2.1 (show F_X12_thrown N aM1 = some (aM1 0 0, aM1) from rfl)) wml_L_128 wq_X12_thrown rfl rfl rfl ⟨by decide, by decide⟩ dL_law_303 hC hM hS ⟨by omega, by omega⟩ hsz rfl (Nat.le_of_ble_eq_true rfl) 306 rfl (fun H locs hC hM hS => ?_)
  refine lv_iload hx hb dL_law_306 (lv_at hl 1 rfl) ?_
  refine lv_icmp_eq (tgt := 313) hx hb dL_law_308 (by decide) (fun _ => ?_) (fun ne => absurd f3 ne)
  refine lv_iload hx hb dL_law_313 (lv_at hl 1 rfl) ?_
  refine lv_if_ne (tgt := 330) hx hb dL_law_315 (by decide) (fun _ => ?_) (fun k0 => ?_)
  · refine lv_goto (tgt := 2428) hx hb dL_law_330 (by decide) ?_
    exact K aC1 aM1 hr H locs ls hC hM hS (lv_sub hl [2, 3, 4, 5, 6] rfl)
  · have f4 := f4 k0
    refine lv_aload_n hx hb dL_law_318 rfl (lv_at hl 5 rfl) ?_
    refine lv_iconst (v := 0) hx hb dL_law_319 (by decide) ?_
    refine va_lald hx hb X.2.2.2.2.2.1 hC 91 2 (xw_get lc91 EC_91) rfl (show vp_in 0 1 from (show ¬ ((0 : Int32) < 0 ∨ 1 ≤ Int32.toNatClampNeg 0) by decide)) dL_law_320 ?_
    refine lv_iload hx hb dL_law_321 (lv_at hl 0 rfl) ?_
    refine lv_i2l hx hb dL_law_323 rfl ?_
    refine W.lcmp hx hb dL_law_324 ?_
    refine lv_if_eq (tgt := 330) hx hb dL_law_325 (by decide) (fun _ => ?_) (fun ne => absurd (by rw [show aC1 91 (Int32.toNatClampNeg 0) = aC1 91 0 from rfl, f4]; exact l_cmp_self _) ne)
    refine lv_goto (tgt := 2428) hx hb dL_law_330 (by decide) ?_
    exact K aC1 aM1 hr H locs ls hC hM hS (lv_sub hl [2, 3, 4, 5, 6] rfl)
def Sim_shapes (N : Nat) (Rel : AH → AH → Prop) : Prop := ∀ (aC aM : AH), Rel aC aM → ∀ p1 : Int32, ∃ (k r : Int32) (aC1 aM1 : AH), F_L_shapes N aC p1 = some (k, aC1) ∧ F_X12_shapes N aM p1 = some (r, aM1) ∧ aM1 0 0 = k ∧ (k = 0 → aC1 91 0 = r) ∧ Rel aC1 aM1
theorem law_shapes (X : LX p l s m b meth c D adC caC adM caM) (hX : va_X b L xs s s.heap) (hbl : b < s.heap.size) (hbA : ¬ (fun q : Nat => s.heap.size ≤ q) b) (hin : ∀ j : Int32, 0 ≤ j ∧ j ≤ 5 → vp_in (x4 + j) L) (hcs : cs + 3 ≤ 601024 ∧ sl + 18 ≤ 7293034) (hs : Sim_shapes N Rel) (hrel : Rel aC aM) (K : ∀ aC1 aM1, Rel aC1 aM1 → LK p l e s m b below meth c D adC caC adM caM (cs + 3) (sl + 18) aC1 aM1 x4 2428) : LK p l e s m b below meth c D adC caC adM caM cs sl aC aM x4 333 := by
  intro H locs ls hC hM hS hl
  have hx := X.1
  have hb := X.2.1
  have hsz := hl.1
  obtain ⟨k5, r6, aC1, aM1, f1, f2, f3, f4, hr⟩ := hs aC aM hrel (xs (Int32.toNatClampNeg (x4 + 1)))
  refine lv_aload_n hx hb dL_law_333 rfl (lv_at hl 1 rfl) ?_
  refine lv_aload_n hx hb dL_law_334 rfl (lv_at hl 0 rfl) ?_
  refine lv_iload hx hb dL_law_335 (lv_at hl 4 rfl) ?_
  refine lv_iconst (v := 1) hx hb dL_law_337 (by decide) ?_
  refine lv_iadd hx hb dL_law_338 ?_
  refine va_sld hx hb hX hbl hbA hS (hin 1 (by decide)) dL_law_339 ?_
  refine lv_aload_n hx hb dL_law_340 rfl (lv_at hl 3 rfl) ?_
  refine l_callH (n := 3) X (c_L_shapes X.2.2.2.2.2.2.2.2.2.2.1 X.2.2.2.2.2.2.2.2.2.1 f1) wml_L_132 wmt_L_shapes wmn_L wmc_L_shapes (by decide +kernel) rfl rfl rfl ⟨by decide, by decide⟩ dL_law_341 hC hM hS ⟨by omega, by omega⟩ hsz rfl (Nat.le_of_ble_eq_true rfl) 344 rfl (fun H locs hC hM hS => ?_)
  refine lv_istore (lv' := [(5, .int k5), (0, .ref b), (1, .ref (adC 0)), (2, .ref (adM 0)), (3, .ref (adC 91)), (4, .int x4)]) hx hb dL_law_344 hl (by decide) rfl (fun ls hl => ?_)
  have hsz := hl.1
  refine lv_aload_n hx hb dL_law_346 rfl (lv_at hl 3 rfl) ?_
  refine lv_aload_n hx hb dL_law_347 rfl (lv_at hl 1 rfl) ?_
  refine lv_iload hx hb dL_law_348 (lv_at hl 5 rfl) ?_
  refine lv_iconst (v := 1) hx hb dL_law_350 (by decide) ?_
  refine lv_iadd hx hb dL_law_351 ?_
  refine va_sld hx hb hX hbl hbA hS (hin 1 (by decide)) dL_law_352 ?_
  refine l_callM X (c_X12_shapes X.2.2.2.2.2.2.2.2.2.2.2.1 f2) wml_L_134 wq_X12_shapes rfl rfl rfl ⟨by decide, by decide⟩ dL_law_353 hC hM hS ⟨by omega, by omega⟩ hsz rfl (Nat.le_of_ble_eq_true rfl) 356 rfl (fun H locs hC hM hS => ?_)
  refine lv_istore (lv' := [(6, .int r6), (5, .int k5), (0, .ref b), (1, .ref (adC 0)), (2, .ref (adM 0)), (3, .ref (adC 91)), (4, .int x4)]) hx hb dL_law_356 hl (by decide) rfl (fun ls hl => ?_)
  have hsz := hl.1
  refine lv_aload_n hx hb dL_law_358 rfl (lv_at hl 4 rfl) ?_
  refine l_callM X (c_X12_thrown X.2.2.2.2.2.2.2.2.2.2.2.1 (show F_X12_thrown N aM1 = some (aM1 0 0, aM1) from rfl)) wml_L_128 wq_X12_thrown rfl rfl rfl ⟨by decide, by decide⟩ dL_law_359 hC hM hS ⟨by omega, by omega⟩ hsz rfl (Nat.le_of_ble_eq_true rfl) 362 rfl (fun H locs hC hM hS => ?_)
  refine lv_iload hx hb dL_law_362 (lv_at hl 1 rfl) ?_
  refine lv_icmp_eq (tgt := 369) hx hb dL_law_364 (by decide) (fun _ => ?_) (fun ne => absurd f3 ne)
  refine lv_iload hx hb dL_law_369 (lv_at hl 1 rfl) ?_
  refine lv_if_ne (tgt := 386) hx hb dL_law_371 (by decide) (fun _ => ?_) (fun k0 => ?_)
  · refine lv_goto (tgt := 2428) hx hb dL_law_386 (by decide) ?_
    exact K aC1 aM1 hr H locs ls hC hM hS (lv_sub hl [2, 3, 4, 5, 6] rfl)
  · have f4 := f4 k0
    refine lv_aload_n hx hb dL_law_374 rfl (lv_at hl 5 rfl) ?_
    refine lv_iconst (v := 0) hx hb dL_law_375 (by decide) ?_
    refine va_lald hx hb X.2.2.2.2.2.1 hC 91 2 (xw_get lc91 EC_91) rfl (show vp_in 0 1 from (show ¬ ((0 : Int32) < 0 ∨ 1 ≤ Int32.toNatClampNeg 0) by decide)) dL_law_376 ?_
    refine lv_iload hx hb dL_law_377 (lv_at hl 0 rfl) ?_
    refine lv_i2l hx hb dL_law_379 rfl ?_
    refine W.lcmp hx hb dL_law_380 ?_
    refine lv_if_eq (tgt := 386) hx hb dL_law_381 (by decide) (fun _ => ?_) (fun ne => absurd (by rw [show aC1 91 (Int32.toNatClampNeg 0) = aC1 91 0 from rfl, f4]; exact l_cmp_self _) ne)
    refine lv_goto (tgt := 2428) hx hb dL_law_386 (by decide) ?_
    exact K aC1 aM1 hr H locs ls hC hM hS (lv_sub hl [2, 3, 4, 5, 6] rfl)
def Sim_reading (N : Nat) (Rel : AH → AH → Prop) : Prop := ∀ (aC aM : AH), Rel aC aM → ∀ p1 : Int32, ∃ (k r : Int32) (aC1 aM1 : AH), F_L_reading N aC p1 = some (k, aC1) ∧ F_X12_reading N aM p1 = some (r, aM1) ∧ aM1 0 0 = k ∧ (k = 0 → aC1 91 0 = r) ∧ Rel aC1 aM1
theorem law_reading (X : LX p l s m b meth c D adC caC adM caM) (hX : va_X b L xs s s.heap) (hbl : b < s.heap.size) (hbA : ¬ (fun q : Nat => s.heap.size ≤ q) b) (hin : ∀ j : Int32, 0 ≤ j ∧ j ≤ 5 → vp_in (x4 + j) L) (hcs : cs + 3 ≤ 601024 ∧ sl + 18 ≤ 7293034) (hs : Sim_reading N Rel) (hrel : Rel aC aM) (K : ∀ aC1 aM1, Rel aC1 aM1 → LK p l e s m b below meth c D adC caC adM caM (cs + 3) (sl + 18) aC1 aM1 x4 2428) : LK p l e s m b below meth c D adC caC adM caM cs sl aC aM x4 389 := by
  intro H locs ls hC hM hS hl
  have hx := X.1
  have hb := X.2.1
  have hsz := hl.1
  obtain ⟨k5, r6, aC1, aM1, f1, f2, f3, f4, hr⟩ := hs aC aM hrel (xs (Int32.toNatClampNeg (x4 + 1)))
  refine lv_aload_n hx hb dL_law_389 rfl (lv_at hl 1 rfl) ?_
  refine lv_aload_n hx hb dL_law_390 rfl (lv_at hl 0 rfl) ?_
  refine lv_iload hx hb dL_law_391 (lv_at hl 4 rfl) ?_
  refine lv_iconst (v := 1) hx hb dL_law_393 (by decide) ?_
  refine lv_iadd hx hb dL_law_394 ?_
  refine va_sld hx hb hX hbl hbA hS (hin 1 (by decide)) dL_law_395 ?_
  refine lv_aload_n hx hb dL_law_396 rfl (lv_at hl 3 rfl) ?_
  refine l_callH (n := 3) X (c_L_reading X.2.2.2.2.2.2.2.2.2.2.1 X.2.2.2.2.2.2.2.2.2.1 f1) wml_L_135 wmt_L_reading wmn_L wmc_L_reading (by decide +kernel) rfl rfl rfl ⟨by decide, by decide⟩ dL_law_397 hC hM hS ⟨by omega, by omega⟩ hsz rfl (Nat.le_of_ble_eq_true rfl) 400 rfl (fun H locs hC hM hS => ?_)
  refine lv_istore (lv' := [(5, .int k5), (0, .ref b), (1, .ref (adC 0)), (2, .ref (adM 0)), (3, .ref (adC 91)), (4, .int x4)]) hx hb dL_law_400 hl (by decide) rfl (fun ls hl => ?_)
  have hsz := hl.1
  refine lv_aload_n hx hb dL_law_402 rfl (lv_at hl 3 rfl) ?_
  refine lv_aload_n hx hb dL_law_403 rfl (lv_at hl 1 rfl) ?_
  refine lv_iload hx hb dL_law_404 (lv_at hl 5 rfl) ?_
  refine lv_iconst (v := 1) hx hb dL_law_406 (by decide) ?_
  refine lv_iadd hx hb dL_law_407 ?_
  refine va_sld hx hb hX hbl hbA hS (hin 1 (by decide)) dL_law_408 ?_
  refine l_callM X (c_X12_reading X.2.2.2.2.2.2.2.2.2.2.2.1 f2) wml_L_137 wq_X12_reading rfl rfl rfl ⟨by decide, by decide⟩ dL_law_409 hC hM hS ⟨by omega, by omega⟩ hsz rfl (Nat.le_of_ble_eq_true rfl) 412 rfl (fun H locs hC hM hS => ?_)
  refine lv_istore (lv' := [(6, .int r6), (5, .int k5), (0, .ref b), (1, .ref (adC 0)), (2, .ref (adM 0)), (3, .ref (adC 91)), (4, .int x4)]) hx hb dL_law_412 hl (by decide) rfl (fun ls hl => ?_)
  have hsz := hl.1
  refine lv_aload_n hx hb dL_law_414 rfl (lv_at hl 4 rfl) ?_
  refine l_callM X (c_X12_thrown X.2.2.2.2.2.2.2.2.2.2.2.1 (show F_X12_thrown N aM1 = some (aM1 0 0, aM1) from rfl)) wml_L_128 wq_X12_thrown rfl rfl rfl ⟨by decide, by decide⟩ dL_law_415 hC hM hS ⟨by omega, by omega⟩ hsz rfl (Nat.le_of_ble_eq_true rfl) 418 rfl (fun H locs hC hM hS => ?_)
  refine lv_iload hx hb dL_law_418 (lv_at hl 1 rfl) ?_
  refine lv_icmp_eq (tgt := 425) hx hb dL_law_420 (by decide) (fun _ => ?_) (fun ne => absurd f3 ne)
  refine lv_iload hx hb dL_law_425 (lv_at hl 1 rfl) ?_
  refine lv_if_ne (tgt := 442) hx hb dL_law_427 (by decide) (fun _ => ?_) (fun k0 => ?_)
  · refine lv_goto (tgt := 2428) hx hb dL_law_442 (by decide) ?_
    exact K aC1 aM1 hr H locs ls hC hM hS (lv_sub hl [2, 3, 4, 5, 6] rfl)
  · have f4 := f4 k0
    refine lv_aload_n hx hb dL_law_430 rfl (lv_at hl 5 rfl) ?_
    refine lv_iconst (v := 0) hx hb dL_law_431 (by decide) ?_
    refine va_lald hx hb X.2.2.2.2.2.1 hC 91 2 (xw_get lc91 EC_91) rfl (show vp_in 0 1 from (show ¬ ((0 : Int32) < 0 ∨ 1 ≤ Int32.toNatClampNeg 0) by decide)) dL_law_432 ?_
    refine lv_iload hx hb dL_law_433 (lv_at hl 0 rfl) ?_
    refine lv_i2l hx hb dL_law_435 rfl ?_
    refine W.lcmp hx hb dL_law_436 ?_
    refine lv_if_eq (tgt := 442) hx hb dL_law_437 (by decide) (fun _ => ?_) (fun ne => absurd (by rw [show aC1 91 (Int32.toNatClampNeg 0) = aC1 91 0 from rfl, f4]; exact l_cmp_self _) ne)
    refine lv_goto (tgt := 2428) hx hb dL_law_442 (by decide) ?_
    exact K aC1 aM1 hr H locs ls hC hM hS (lv_sub hl [2, 3, 4, 5, 6] rfl)
def Sim_fault (N : Nat) (Rel : AH → AH → Prop) : Prop := ∀ (aC aM : AH), Rel aC aM → ∃ (r : Int32) (aC1 aM1 : AH), F_X11_fault N aC  = some (r, aC1) ∧ F_X12_fault N aM  = some (r, aM1) ∧ Rel aC1 aM1
theorem law_fault (X : LX p l s m b meth c D adC caC adM caM) (hX : va_X b L xs s s.heap) (hbl : b < s.heap.size) (hbA : ¬ (fun q : Nat => s.heap.size ≤ q) b) (hin : ∀ j : Int32, 0 ≤ j ∧ j ≤ 5 → vp_in (x4 + j) L) (hcs : cs + 3 ≤ 601024 ∧ sl + 18 ≤ 7293034) (hs : Sim_fault N Rel) (hrel : Rel aC aM) (K : ∀ aC1 aM1, Rel aC1 aM1 → LK p l e s m b below meth c D adC caC adM caM (cs + 3) (sl + 18) aC1 aM1 x4 2428) : LK p l e s m b below meth c D adC caC adM caM cs sl aC aM x4 445 := by
  intro H locs ls hC hM hS hl
  have hx := X.1
  have hb := X.2.1
  have hsz := hl.1
  obtain ⟨r6, aC1, aM1, f1, f2, hr⟩ := hs aC aM hrel
  refine lv_aload_n hx hb dL_law_445 rfl (lv_at hl 1 rfl) ?_
  refine l_callC X (c_X11_fault X.2.2.2.2.2.2.2.2.2.2.1 f1) wml_L_138 wq_X11_fault rfl rfl rfl ⟨by decide, by decide⟩ dL_law_446 hC hM hS ⟨by omega, by omega⟩ hsz rfl (Nat.le_of_ble_eq_true rfl) 449 rfl (fun H locs hC hM hS => ?_)
  refine lv_aload_n hx hb dL_law_449 rfl (lv_at hl 2 rfl) ?_
  refine l_callM X (c_X12_fault X.2.2.2.2.2.2.2.2.2.2.2.1 f2) wml_L_141 wq_X12_fault rfl rfl rfl ⟨by decide, by decide⟩ dL_law_450 hC hM hS ⟨by omega, by omega⟩ hsz rfl (Nat.le_of_ble_eq_true rfl) 453 rfl (fun H locs hC hM hS => ?_)
  refine lv_icmp_eq (tgt := 2428) hx hb dL_law_453 (by decide) (fun _ => ?_) (fun ne => absurd rfl ne)
  refine W.widen (k := cs + 3) (n := sl + 18) (by omega) (by omega) ?_
  exact K aC1 aM1 hr H locs ls hC hM hS (lv_sub hl [0, 1, 2, 3, 4] rfl)
def Sim_follows (N : Nat) (Rel : AH → AH → Prop) : Prop := ∀ (aC aM : AH), Rel aC aM → ∀ p1 : Int32, ∃ (k r : Int32) (aC1 aM1 : AH), F_L_follows N aC p1 = some (k, aC1) ∧ F_X12_follows N aM p1 = some (r, aM1) ∧ aM1 0 0 = k ∧ (k = 0 → aC1 91 0 = r) ∧ Rel aC1 aM1
theorem law_follows (X : LX p l s m b meth c D adC caC adM caM) (hX : va_X b L xs s s.heap) (hbl : b < s.heap.size) (hbA : ¬ (fun q : Nat => s.heap.size ≤ q) b) (hin : ∀ j : Int32, 0 ≤ j ∧ j ≤ 5 → vp_in (x4 + j) L) (hcs : cs + 3 ≤ 601024 ∧ sl + 18 ≤ 7293034) (hs : Sim_follows N Rel) (hrel : Rel aC aM) (K : ∀ aC1 aM1, Rel aC1 aM1 → LK p l e s m b below meth c D adC caC adM caM (cs + 3) (sl + 18) aC1 aM1 x4 2428) : LK p l e s m b below meth c D adC caC adM caM cs sl aC aM x4 458 := by
  intro H locs ls hC hM hS hl
  have hx := X.1
  have hb := X.2.1
  have hsz := hl.1
  obtain ⟨k5, r6, aC1, aM1, f1, f2, f3, f4, hr⟩ := hs aC aM hrel (xs (Int32.toNatClampNeg (x4 + 1)))
  refine lv_aload_n hx hb dL_law_458 rfl (lv_at hl 1 rfl) ?_
  refine lv_aload_n hx hb dL_law_459 rfl (lv_at hl 0 rfl) ?_
  refine lv_iload hx hb dL_law_460 (lv_at hl 4 rfl) ?_
  refine lv_iconst (v := 1) hx hb dL_law_462 (by decide) ?_
  refine lv_iadd hx hb dL_law_463 ?_
  refine va_sld hx hb hX hbl hbA hS (hin 1 (by decide)) dL_law_464 ?_
  refine lv_aload_n hx hb dL_law_465 rfl (lv_at hl 3 rfl) ?_
  refine l_callH (n := 3) X (c_L_follows X.2.2.2.2.2.2.2.2.2.2.1 X.2.2.2.2.2.2.2.2.2.1 f1) wml_L_142 wmt_L_follows wmn_L wmc_L_follows (by decide +kernel) rfl rfl rfl ⟨by decide, by decide⟩ dL_law_466 hC hM hS ⟨by omega, by omega⟩ hsz rfl (Nat.le_of_ble_eq_true rfl) 469 rfl (fun H locs hC hM hS => ?_)
  refine lv_istore (lv' := [(5, .int k5), (0, .ref b), (1, .ref (adC 0)), (2, .ref (adM 0)), (3, .ref (adC 91)), (4, .int x4)]) hx hb dL_law_469 hl (by decide) rfl (fun ls hl => ?_)
  have hsz := hl.1
  refine lv_aload_n hx hb dL_law_471 rfl (lv_at hl 3 rfl) ?_
  refine lv_aload_n hx hb dL_law_472 rfl (lv_at hl 1 rfl) ?_
  refine lv_iload hx hb dL_law_473 (lv_at hl 5 rfl) ?_
  refine lv_iconst (v := 1) hx hb dL_law_475 (by decide) ?_
  refine lv_iadd hx hb dL_law_476 ?_
  refine va_sld hx hb hX hbl hbA hS (hin 1 (by decide)) dL_law_477 ?_
  refine l_callM X (c_X12_follows X.2.2.2.2.2.2.2.2.2.2.2.1 f2) wml_L_144 wq_X12_follows rfl rfl rfl ⟨by decide, by decide⟩ dL_law_478 hC hM hS ⟨by omega, by omega⟩ hsz rfl (Nat.le_of_ble_eq_true rfl) 481 rfl (fun H locs hC hM hS => ?_)
  refine lv_istore (lv' := [(6, .int r6), (5, .int k5), (0, .ref b), (1, .ref (adC 0)), (2, .ref (adM 0)), (3, .ref (adC 91)), (4, .int x4)]) hx hb dL_law_481 hl (by decide) rfl (fun ls hl => ?_)
  have hsz := hl.1
  refine lv_aload_n hx hb dL_law_483 rfl (lv_at hl 4 rfl) ?_
  refine l_callM X (c_X12_thrown X.2.2.2.2.2.2.2.2.2.2.2.1 (show F_X12_thrown N aM1 = some (aM1 0 0, aM1) from rfl)) wml_L_128 wq_X12_thrown rfl rfl rfl ⟨by decide, by decide⟩ dL_law_484 hC hM hS ⟨by omega, by omega⟩ hsz rfl (Nat.le_of_ble_eq_true rfl) 487 rfl (fun H locs hC hM hS => ?_)
  refine lv_iload hx hb dL_law_487 (lv_at hl 1 rfl) ?_
  refine lv_icmp_eq (tgt := 494) hx hb dL_law_489 (by decide) (fun _ => ?_) (fun ne => absurd f3 ne)
  refine lv_iload hx hb dL_law_494 (lv_at hl 1 rfl) ?_
  refine lv_if_ne (tgt := 511) hx hb dL_law_496 (by decide) (fun _ => ?_) (fun k0 => ?_)
  · refine lv_goto (tgt := 2428) hx hb dL_law_511 (by decide) ?_
    exact K aC1 aM1 hr H locs ls hC hM hS (lv_sub hl [2, 3, 4, 5, 6] rfl)
  · have f4 := f4 k0
    refine lv_aload_n hx hb dL_law_499 rfl (lv_at hl 5 rfl) ?_
    refine lv_iconst (v := 0) hx hb dL_law_500 (by decide) ?_
    refine va_lald hx hb X.2.2.2.2.2.1 hC 91 2 (xw_get lc91 EC_91) rfl (show vp_in 0 1 from (show ¬ ((0 : Int32) < 0 ∨ 1 ≤ Int32.toNatClampNeg 0) by decide)) dL_law_501 ?_
    refine lv_iload hx hb dL_law_502 (lv_at hl 0 rfl) ?_
    refine lv_i2l hx hb dL_law_504 rfl ?_
    refine W.lcmp hx hb dL_law_505 ?_
    refine lv_if_eq (tgt := 511) hx hb dL_law_506 (by decide) (fun _ => ?_) (fun ne => absurd (by rw [show aC1 91 (Int32.toNatClampNeg 0) = aC1 91 0 from rfl, f4]; exact l_cmp_self _) ne)
    refine lv_goto (tgt := 2428) hx hb dL_law_511 (by decide) ?_
    exact K aC1 aM1 hr H locs ls hC hM hS (lv_sub hl [2, 3, 4, 5, 6] rfl)
def Sim_forget (N : Nat) (Rel : AH → AH → Prop) : Prop := ∀ (aC aM : AH), Rel aC aM → ∃ (r : Int32) (aC1 aM1 : AH), F_X11_forget N aC  = some (r, aC1) ∧ F_X12_forget N aM  = some (r, aM1) ∧ Rel aC1 aM1
theorem law_forget (X : LX p l s m b meth c D adC caC adM caM) (hX : va_X b L xs s s.heap) (hbl : b < s.heap.size) (hbA : ¬ (fun q : Nat => s.heap.size ≤ q) b) (hin : ∀ j : Int32, 0 ≤ j ∧ j ≤ 5 → vp_in (x4 + j) L) (hcs : cs + 3 ≤ 601024 ∧ sl + 18 ≤ 7293034) (hs : Sim_forget N Rel) (hrel : Rel aC aM) (K : ∀ aC1 aM1, Rel aC1 aM1 → LK p l e s m b below meth c D adC caC adM caM (cs + 3) (sl + 18) aC1 aM1 x4 2428) : LK p l e s m b below meth c D adC caC adM caM cs sl aC aM x4 514 := by
  intro H locs ls hC hM hS hl
  have hx := X.1
  have hb := X.2.1
  have hsz := hl.1
  obtain ⟨r6, aC1, aM1, f1, f2, hr⟩ := hs aC aM hrel
  refine lv_aload_n hx hb dL_law_514 rfl (lv_at hl 1 rfl) ?_
  refine l_callC X (c_X11_forget X.2.2.2.2.2.2.2.2.2.2.1 f1) wml_L_145 wq_X11_forget rfl rfl rfl ⟨by decide, by decide⟩ dL_law_515 hC hM hS ⟨by omega, by omega⟩ hsz rfl (Nat.le_of_ble_eq_true rfl) 518 rfl (fun H locs hC hM hS => ?_)
  refine lv_aload_n hx hb dL_law_518 rfl (lv_at hl 2 rfl) ?_
  refine l_callM X (c_X12_forget X.2.2.2.2.2.2.2.2.2.2.2.1 f2) wml_L_148 wq_X12_forget rfl rfl rfl ⟨by decide, by decide⟩ dL_law_519 hC hM hS ⟨by omega, by omega⟩ hsz rfl (Nat.le_of_ble_eq_true rfl) 522 rfl (fun H locs hC hM hS => ?_)
  refine lv_icmp_eq (tgt := 2428) hx hb dL_law_522 (by decide) (fun _ => ?_) (fun ne => absurd rfl ne)
  refine W.widen (k := cs + 3) (n := sl + 18) (by omega) (by omega) ?_
  exact K aC1 aM1 hr H locs ls hC hM hS (lv_sub hl [0, 1, 2, 3, 4] rfl)
def Sim_set (N : Nat) (Rel : AH → AH → Prop) : Prop := ∀ (aC aM : AH), Rel aC aM → ∀ p1 p2 : Int32, ∃ (k r : Int32) (aC1 aM1 : AH), F_L_set N aC p1 p2 = some (k, aC1) ∧ F_X12_set N aM p1 p2 = some (r, aM1) ∧ aM1 0 0 = k ∧ (k = 0 → aC1 91 0 = r) ∧ Rel aC1 aM1
theorem law_set (X : LX p l s m b meth c D adC caC adM caM) (hX : va_X b L xs s s.heap) (hbl : b < s.heap.size) (hbA : ¬ (fun q : Nat => s.heap.size ≤ q) b) (hin : ∀ j : Int32, 0 ≤ j ∧ j ≤ 5 → vp_in (x4 + j) L) (hcs : cs + 3 ≤ 601024 ∧ sl + 18 ≤ 7293034) (hs : Sim_set N Rel) (hrel : Rel aC aM) (K : ∀ aC1 aM1, Rel aC1 aM1 → LK p l e s m b below meth c D adC caC adM caM (cs + 3) (sl + 18) aC1 aM1 x4 2428) : LK p l e s m b below meth c D adC caC adM caM cs sl aC aM x4 527 := by
  intro H locs ls hC hM hS hl
  have hx := X.1
  have hb := X.2.1
  have hsz := hl.1
  obtain ⟨k5, r6, aC1, aM1, f1, f2, f3, f4, hr⟩ := hs aC aM hrel (xs (Int32.toNatClampNeg (x4 + 1))) (xs (Int32.toNatClampNeg (x4 + 2)))
  refine lv_aload_n hx hb dL_law_527 rfl (lv_at hl 1 rfl) ?_
  refine lv_aload_n hx hb dL_law_528 rfl (lv_at hl 0 rfl) ?_
  refine lv_iload hx hb dL_law_529 (lv_at hl 4 rfl) ?_
  refine lv_iconst (v := 1) hx hb dL_law_531 (by decide) ?_
  refine lv_iadd hx hb dL_law_532 ?_
  refine va_sld hx hb hX hbl hbA hS (hin 1 (by decide)) dL_law_533 ?_
  refine lv_aload_n hx hb dL_law_534 rfl (lv_at hl 0 rfl) ?_
  refine lv_iload hx hb dL_law_535 (lv_at hl 4 rfl) ?_
  refine lv_iconst (v := 2) hx hb dL_law_537 (by decide) ?_
  refine lv_iadd hx hb dL_law_538 ?_
  refine va_sld hx hb hX hbl hbA hS (hin 2 (by decide)) dL_law_539 ?_
  refine lv_aload_n hx hb dL_law_540 rfl (lv_at hl 3 rfl) ?_
  refine l_callH (n := 4) X (c_L_set X.2.2.2.2.2.2.2.2.2.2.1 X.2.2.2.2.2.2.2.2.2.1 f1) wml_L_149 wmt_L_set wmn_L wmc_L_set (by decide +kernel) rfl rfl rfl ⟨by decide, by decide⟩ dL_law_541 hC hM hS ⟨by omega, by omega⟩ hsz rfl (Nat.le_of_ble_eq_true rfl) 544 rfl (fun H locs hC hM hS => ?_)
  refine lv_istore (lv' := [(5, .int k5), (0, .ref b), (1, .ref (adC 0)), (2, .ref (adM 0)), (3, .ref (adC 91)), (4, .int x4)]) hx hb dL_law_544 hl (by decide) rfl (fun ls hl => ?_)
  have hsz := hl.1
  refine lv_aload_n hx hb dL_law_546 rfl (lv_at hl 3 rfl) ?_
  refine lv_aload_n hx hb dL_law_547 rfl (lv_at hl 1 rfl) ?_
  refine lv_iload hx hb dL_law_548 (lv_at hl 5 rfl) ?_
  refine lv_iconst (v := 1) hx hb dL_law_550 (by decide) ?_
  refine lv_iadd hx hb dL_law_551 ?_
  refine va_sld hx hb hX hbl hbA hS (hin 1 (by decide)) dL_law_552 ?_
  refine lv_aload_n hx hb dL_law_553 rfl (lv_at hl 1 rfl) ?_
  refine lv_iload hx hb dL_law_554 (lv_at hl 5 rfl) ?_
  refine lv_iconst (v := 2) hx hb dL_law_556 (by decide) ?_
  refine lv_iadd hx hb dL_law_557 ?_
  refine va_sld hx hb hX hbl hbA hS (hin 2 (by decide)) dL_law_558 ?_
  refine l_callM X (c_X12_set X.2.2.2.2.2.2.2.2.2.2.2.1 f2) wml_L_152 wq_X12_set rfl rfl rfl ⟨by decide, by decide⟩ dL_law_559 hC hM hS ⟨by omega, by omega⟩ hsz rfl (Nat.le_of_ble_eq_true rfl) 562 rfl (fun H locs hC hM hS => ?_)
  refine lv_istore (lv' := [(6, .int r6), (5, .int k5), (0, .ref b), (1, .ref (adC 0)), (2, .ref (adM 0)), (3, .ref (adC 91)), (4, .int x4)]) hx hb dL_law_562 hl (by decide) rfl (fun ls hl => ?_)
  have hsz := hl.1
  refine lv_aload_n hx hb dL_law_564 rfl (lv_at hl 4 rfl) ?_
  refine l_callM X (c_X12_thrown X.2.2.2.2.2.2.2.2.2.2.2.1 (show F_X12_thrown N aM1 = some (aM1 0 0, aM1) from rfl)) wml_L_128 wq_X12_thrown rfl rfl rfl ⟨by decide, by decide⟩ dL_law_565 hC hM hS ⟨by omega, by omega⟩ hsz rfl (Nat.le_of_ble_eq_true rfl) 568 rfl (fun H locs hC hM hS => ?_)
  refine lv_iload hx hb dL_law_568 (lv_at hl 1 rfl) ?_
  refine lv_icmp_eq (tgt := 575) hx hb dL_law_570 (by decide) (fun _ => ?_) (fun ne => absurd f3 ne)
  refine lv_iload hx hb dL_law_575 (lv_at hl 1 rfl) ?_
  refine lv_if_ne (tgt := 592) hx hb dL_law_577 (by decide) (fun _ => ?_) (fun k0 => ?_)
  · refine lv_goto (tgt := 2428) hx hb dL_law_592 (by decide) ?_
    exact K aC1 aM1 hr H locs ls hC hM hS (lv_sub hl [2, 3, 4, 5, 6] rfl)
  · have f4 := f4 k0
    refine lv_aload_n hx hb dL_law_580 rfl (lv_at hl 5 rfl) ?_
    refine lv_iconst (v := 0) hx hb dL_law_581 (by decide) ?_
    refine va_lald hx hb X.2.2.2.2.2.1 hC 91 2 (xw_get lc91 EC_91) rfl (show vp_in 0 1 from (show ¬ ((0 : Int32) < 0 ∨ 1 ≤ Int32.toNatClampNeg 0) by decide)) dL_law_582 ?_
    refine lv_iload hx hb dL_law_583 (lv_at hl 0 rfl) ?_
    refine lv_i2l hx hb dL_law_585 rfl ?_
    refine W.lcmp hx hb dL_law_586 ?_
    refine lv_if_eq (tgt := 592) hx hb dL_law_587 (by decide) (fun _ => ?_) (fun ne => absurd (by rw [show aC1 91 (Int32.toNatClampNeg 0) = aC1 91 0 from rfl, f4]; exact l_cmp_self _) ne)
    refine lv_goto (tgt := 2428) hx hb dL_law_592 (by decide) ?_
    exact K aC1 aM1 hr H locs ls hC hM hS (lv_sub hl [2, 3, 4, 5, 6] rfl)
def Sim_weigh (N : Nat) (Rel : AH → AH → Prop) : Prop := ∀ (aC aM : AH), Rel aC aM → ∀ p1 p2 : Int32, ∃ (k r : Int32) (aC1 aM1 : AH), F_L_weigh N aC p1 p2 = some (k, aC1) ∧ F_X12_weigh N aM p1 p2 = some (r, aM1) ∧ aM1 0 0 = k ∧ (k = 0 → aC1 91 0 = r) ∧ Rel aC1 aM1
theorem law_weigh (X : LX p l s m b meth c D adC caC adM caM) (hX : va_X b L xs s s.heap) (hbl : b < s.heap.size) (hbA : ¬ (fun q : Nat => s.heap.size ≤ q) b) (hin : ∀ j : Int32, 0 ≤ j ∧ j ≤ 5 → vp_in (x4 + j) L) (hcs : cs + 3 ≤ 601024 ∧ sl + 18 ≤ 7293034) (hs : Sim_weigh N Rel) (hrel : Rel aC aM) (K : ∀ aC1 aM1, Rel aC1 aM1 → LK p l e s m b below meth c D adC caC adM caM (cs + 3) (sl + 18) aC1 aM1 x4 2428) : LK p l e s m b below meth c D adC caC adM caM cs sl aC aM x4 595 := by
  intro H locs ls hC hM hS hl
  have hx := X.1
  have hb := X.2.1
  have hsz := hl.1
  obtain ⟨k5, r6, aC1, aM1, f1, f2, f3, f4, hr⟩ := hs aC aM hrel (xs (Int32.toNatClampNeg (x4 + 1))) (xs (Int32.toNatClampNeg (x4 + 2)))
  refine lv_aload_n hx hb dL_law_595 rfl (lv_at hl 1 rfl) ?_
  refine lv_aload_n hx hb dL_law_596 rfl (lv_at hl 0 rfl) ?_
  refine lv_iload hx hb dL_law_597 (lv_at hl 4 rfl) ?_
  refine lv_iconst (v := 1) hx hb dL_law_599 (by decide) ?_
  refine lv_iadd hx hb dL_law_600 ?_
  refine va_sld hx hb hX hbl hbA hS (hin 1 (by decide)) dL_law_601 ?_
  refine lv_aload_n hx hb dL_law_602 rfl (lv_at hl 0 rfl) ?_
  refine lv_iload hx hb dL_law_603 (lv_at hl 4 rfl) ?_
  refine lv_iconst (v := 2) hx hb dL_law_605 (by decide) ?_
  refine lv_iadd hx hb dL_law_606 ?_
  refine va_sld hx hb hX hbl hbA hS (hin 2 (by decide)) dL_law_607 ?_
  refine lv_aload_n hx hb dL_law_608 rfl (lv_at hl 3 rfl) ?_
  refine l_callH (n := 4) X (c_L_weigh X.2.2.2.2.2.2.2.2.2.2.1 X.2.2.2.2.2.2.2.2.2.1 f1) wml_L_153 wmt_L_weigh wmn_L wmc_L_weigh (by decide +kernel) rfl rfl rfl ⟨by decide, by decide⟩ dL_law_609 hC hM hS ⟨by omega, by omega⟩ hsz rfl (Nat.le_of_ble_eq_true rfl) 612 rfl (fun H locs hC hM hS => ?_)
  refine lv_istore (lv' := [(5, .int k5), (0, .ref b), (1, .ref (adC 0)), (2, .ref (adM 0)), (3, .ref (adC 91)), (4, .int x4)]) hx hb dL_law_612 hl (by decide) rfl (fun ls hl => ?_)
  have hsz := hl.1
  refine lv_aload_n hx hb dL_law_614 rfl (lv_at hl 3 rfl) ?_
  refine lv_aload_n hx hb dL_law_615 rfl (lv_at hl 1 rfl) ?_
  refine lv_iload hx hb dL_law_616 (lv_at hl 5 rfl) ?_
  refine lv_iconst (v := 1) hx hb dL_law_618 (by decide) ?_
  refine lv_iadd hx hb dL_law_619 ?_
  refine va_sld hx hb hX hbl hbA hS (hin 1 (by decide)) dL_law_620 ?_
  refine lv_aload_n hx hb dL_law_621 rfl (lv_at hl 1 rfl) ?_
  refine lv_iload hx hb dL_law_622 (lv_at hl 5 rfl) ?_
  refine lv_iconst (v := 2) hx hb dL_law_624 (by decide) ?_
  refine lv_iadd hx hb dL_law_625 ?_
  refine va_sld hx hb hX hbl hbA hS (hin 2 (by decide)) dL_law_626 ?_
  refine l_callM X (c_X12_weigh X.2.2.2.2.2.2.2.2.2.2.2.1 f2) wml_L_155 wq_X12_weigh rfl rfl rfl ⟨by decide, by decide⟩ dL_law_627 hC hM hS ⟨by omega, by omega⟩ hsz rfl (Nat.le_of_ble_eq_true rfl) 630 rfl (fun H locs hC hM hS => ?_)
  refine lv_istore (lv' := [(6, .int r6), (5, .int k5), (0, .ref b), (1, .ref (adC 0)), (2, .ref (adM 0)), (3, .ref (adC 91)), (4, .int x4)]) hx hb dL_law_630 hl (by decide) rfl (fun ls hl => ?_)
  have hsz := hl.1
  refine lv_aload_n hx hb dL_law_632 rfl (lv_at hl 4 rfl) ?_
  refine l_callM X (c_X12_thrown X.2.2.2.2.2.2.2.2.2.2.2.1 (show F_X12_thrown N aM1 = some (aM1 0 0, aM1) from rfl)) wml_L_128 wq_X12_thrown rfl rfl rfl ⟨by decide, by decide⟩ dL_law_633 hC hM hS ⟨by omega, by omega⟩ hsz rfl (Nat.le_of_ble_eq_true rfl) 636 rfl (fun H locs hC hM hS => ?_)
  refine lv_iload hx hb dL_law_636 (lv_at hl 1 rfl) ?_
  refine lv_icmp_eq (tgt := 643) hx hb dL_law_638 (by decide) (fun _ => ?_) (fun ne => absurd f3 ne)
  refine lv_iload hx hb dL_law_643 (lv_at hl 1 rfl) ?_
  refine lv_if_ne (tgt := 660) hx hb dL_law_645 (by decide) (fun _ => ?_) (fun k0 => ?_)
  · refine lv_goto (tgt := 2428) hx hb dL_law_660 (by decide) ?_
    exact K aC1 aM1 hr H locs ls hC hM hS (lv_sub hl [2, 3, 4, 5, 6] rfl)
  · have f4 := f4 k0
    refine lv_aload_n hx hb dL_law_648 rfl (lv_at hl 5 rfl) ?_
    refine lv_iconst (v := 0) hx hb dL_law_649 (by decide) ?_
    refine va_lald hx hb X.2.2.2.2.2.1 hC 91 2 (xw_get lc91 EC_91) rfl (show vp_in 0 1 from (show ¬ ((0 : Int32) < 0 ∨ 1 ≤ Int32.toNatClampNeg 0) by decide)) dL_law_650 ?_
    refine lv_iload hx hb dL_law_651 (lv_at hl 0 rfl) ?_
    refine lv_i2l hx hb dL_law_653 rfl ?_
    refine W.lcmp hx hb dL_law_654 ?_
    refine lv_if_eq (tgt := 660) hx hb dL_law_655 (by decide) (fun _ => ?_) (fun ne => absurd (by rw [show aC1 91 (Int32.toNatClampNeg 0) = aC1 91 0 from rfl, f4]; exact l_cmp_self _) ne)
    refine lv_goto (tgt := 2428) hx hb dL_law_660 (by decide) ?_
    exact K aC1 aM1 hr H locs ls hC hM hS (lv_sub hl [2, 3, 4, 5, 6] rfl)
def Sim_learn (N : Nat) (Rel : AH → AH → Prop) : Prop := ∀ (aC aM : AH), Rel aC aM → ∀ p1 : Int32, ∃ (k r : Int32) (aC1 aM1 : AH), F_L_learn N aC p1 = some (k, aC1) ∧ F_X12_learn N aM p1 = some (r, aM1) ∧ aM1 0 0 = k ∧ (k = 0 → aC1 91 0 = r) ∧ Rel aC1 aM1
theorem law_learn (X : LX p l s m b meth c D adC caC adM caM) (hX : va_X b L xs s s.heap) (hbl : b < s.heap.size) (hbA : ¬ (fun q : Nat => s.heap.size ≤ q) b) (hin : ∀ j : Int32, 0 ≤ j ∧ j ≤ 5 → vp_in (x4 + j) L) (hcs : cs + 3 ≤ 601024 ∧ sl + 18 ≤ 7293034) (hs : Sim_learn N Rel) (hrel : Rel aC aM) (K : ∀ aC1 aM1, Rel aC1 aM1 → LK p l e s m b below meth c D adC caC adM caM (cs + 3) (sl + 18) aC1 aM1 x4 2428) : LK p l e s m b below meth c D adC caC adM caM cs sl aC aM x4 663 := by
  intro H locs ls hC hM hS hl
  have hx := X.1
  have hb := X.2.1
  have hsz := hl.1
  obtain ⟨k5, r6, aC1, aM1, f1, f2, f3, f4, hr⟩ := hs aC aM hrel (xs (Int32.toNatClampNeg (x4 + 1)))
  refine lv_aload_n hx hb dL_law_663 rfl (lv_at hl 1 rfl) ?_
  refine lv_aload_n hx hb dL_law_664 rfl (lv_at hl 0 rfl) ?_
  refine lv_iload hx hb dL_law_665 (lv_at hl 4 rfl) ?_
  refine lv_iconst (v := 1) hx hb dL_law_667 (by decide) ?_
  refine lv_iadd hx hb dL_law_668 ?_
  refine va_sld hx hb hX hbl hbA hS (hin 1 (by decide)) dL_law_669 ?_
  refine lv_aload_n hx hb dL_law_670 rfl (lv_at hl 3 rfl) ?_
  refine l_callH (n := 3) X (c_L_learn X.2.2.2.2.2.2.2.2.2.2.1 X.2.2.2.2.2.2.2.2.2.1 f1) wml_L_156 wmt_L_learn wmn_L wmc_L_learn (by decide +kernel) rfl rfl rfl ⟨by decide, by decide⟩ dL_law_671 hC hM hS ⟨by omega, by omega⟩ hsz rfl (Nat.le_of_ble_eq_true rfl) 674 rfl (fun H locs hC hM hS => ?_)
  refine lv_istore (lv' := [(5, .int k5), (0, .ref b), (1, .ref (adC 0)), (2, .ref (adM 0)), (3, .ref (adC 91)), (4, .int x4)]) hx hb dL_law_674 hl (by decide) rfl (fun ls hl => ?_)
  have hsz := hl.1
  refine lv_aload_n hx hb dL_law_676 rfl (lv_at hl 3 rfl) ?_
  refine lv_aload_n hx hb dL_law_677 rfl (lv_at hl 1 rfl) ?_
  refine lv_iload hx hb dL_law_678 (lv_at hl 5 rfl) ?_
  refine lv_iconst (v := 1) hx hb dL_law_680 (by decide) ?_
  refine lv_iadd hx hb dL_law_681 ?_
  refine va_sld hx hb hX hbl hbA hS (hin 1 (by decide)) dL_law_682 ?_
  refine l_callM X (c_X12_learn X.2.2.2.2.2.2.2.2.2.2.2.1 f2) wml_L_158 wq_X12_learn rfl rfl rfl ⟨by decide, by decide⟩ dL_law_683 hC hM hS ⟨by omega, by omega⟩ hsz rfl (Nat.le_of_ble_eq_true rfl) 686 rfl (fun H locs hC hM hS => ?_)
  refine lv_istore (lv' := [(6, .int r6), (5, .int k5), (0, .ref b), (1, .ref (adC 0)), (2, .ref (adM 0)), (3, .ref (adC 91)), (4, .int x4)]) hx hb dL_law_686 hl (by decide) rfl (fun ls hl => ?_)
  have hsz := hl.1
  refine lv_aload_n hx hb dL_law_688 rfl (lv_at hl 4 rfl) ?_
  refine l_callM X (c_X12_thrown X.2.2.2.2.2.2.2.2.2.2.2.1 (show F_X12_thrown N aM1 = some (aM1 0 0, aM1) from rfl)) wml_L_128 wq_X12_thrown rfl rfl rfl ⟨by decide, by decide⟩ dL_law_689 hC hM hS ⟨by omega, by omega⟩ hsz rfl (Nat.le_of_ble_eq_true rfl) 692 rfl (fun H locs hC hM hS => ?_)
  refine lv_iload hx hb dL_law_692 (lv_at hl 1 rfl) ?_
  refine lv_icmp_eq (tgt := 699) hx hb dL_law_694 (by decide) (fun _ => ?_) (fun ne => absurd f3 ne)
  refine lv_iload hx hb dL_law_699 (lv_at hl 1 rfl) ?_
  refine lv_if_ne (tgt := 716) hx hb dL_law_701 (by decide) (fun _ => ?_) (fun k0 => ?_)
  · refine lv_goto (tgt := 2428) hx hb dL_law_716 (by decide) ?_
    exact K aC1 aM1 hr H locs ls hC hM hS (lv_sub hl [2, 3, 4, 5, 6] rfl)
  · have f4 := f4 k0
    refine lv_aload_n hx hb dL_law_704 rfl (lv_at hl 5 rfl) ?_
    refine lv_iconst (v := 0) hx hb dL_law_705 (by decide) ?_
    refine va_lald hx hb X.2.2.2.2.2.1 hC 91 2 (xw_get lc91 EC_91) rfl (show vp_in 0 1 from (show ¬ ((0 : Int32) < 0 ∨ 1 ≤ Int32.toNatClampNeg 0) by decide)) dL_law_706 ?_
    refine lv_iload hx hb dL_law_707 (lv_at hl 0 rfl) ?_
    refine lv_i2l hx hb dL_law_709 rfl ?_
    refine W.lcmp hx hb dL_law_710 ?_
    refine lv_if_eq (tgt := 716) hx hb dL_law_711 (by decide) (fun _ => ?_) (fun ne => absurd (by rw [show aC1 91 (Int32.toNatClampNeg 0) = aC1 91 0 from rfl, f4]; exact l_cmp_self _) ne)
    refine lv_goto (tgt := 2428) hx hb dL_law_716 (by decide) ?_
    exact K aC1 aM1 hr H locs ls hC hM hS (lv_sub hl [2, 3, 4, 5, 6] rfl)
def Sim_told (N : Nat) (Rel : AH → AH → Prop) : Prop := ∀ (aC aM : AH), Rel aC aM → ∀ p1 : Int32, ∃ (k r : Int32) (aC1 aM1 : AH), F_L_told N aC p1 = some (k, aC1) ∧ F_X12_told N aM p1 = some (r, aM1) ∧ aM1 0 0 = k ∧ (k = 0 → aC1 91 0 = r) ∧ Rel aC1 aM1
theorem law_told (X : LX p l s m b meth c D adC caC adM caM) (hX : va_X b L xs s s.heap) (hbl : b < s.heap.size) (hbA : ¬ (fun q : Nat => s.heap.size ≤ q) b) (hin : ∀ j : Int32, 0 ≤ j ∧ j ≤ 5 → vp_in (x4 + j) L) (hcs : cs + 3 ≤ 601024 ∧ sl + 18 ≤ 7293034) (hs : Sim_told N Rel) (hrel : Rel aC aM) (K : ∀ aC1 aM1, Rel aC1 aM1 → LK p l e s m b below meth c D adC caC adM caM (cs + 3) (sl + 18) aC1 aM1 x4 2428) : LK p l e s m b below meth c D adC caC adM caM cs sl aC aM x4 719 := by
  intro H locs ls hC hM hS hl
  have hx := X.1
  have hb := X.2.1
  have hsz := hl.1
  obtain ⟨k5, r6, aC1, aM1, f1, f2, f3, f4, hr⟩ := hs aC aM hrel (xs (Int32.toNatClampNeg (x4 + 1)))
  refine lv_aload_n hx hb dL_law_719 rfl (lv_at hl 1 rfl) ?_
  refine lv_aload_n hx hb dL_law_720 rfl (lv_at hl 0 rfl) ?_
  refine lv_iload hx hb dL_law_721 (lv_at hl 4 rfl) ?_
  refine lv_iconst (v := 1) hx hb dL_law_723 (by decide) ?_
  refine lv_iadd hx hb dL_law_724 ?_
  refine va_sld hx hb hX hbl hbA hS (hin 1 (by decide)) dL_law_725 ?_
  refine lv_aload_n hx hb dL_law_726 rfl (lv_at hl 3 rfl) ?_
  refine l_callH (n := 3) X (c_L_told X.2.2.2.2.2.2.2.2.2.2.1 X.2.2.2.2.2.2.2.2.2.1 f1) wml_L_159 wmt_L_told wmn_L wmc_L_told (by decide +kernel) rfl rfl rfl ⟨by decide, by decide⟩ dL_law_727 hC hM hS ⟨by omega, by omega⟩ hsz rfl (Nat.le_of_ble_eq_true rfl) 730 rfl (fun H locs hC hM hS => ?_)
  refine lv_istore (lv' := [(5, .int k5), (0, .ref b), (1, .ref (adC 0)), (2, .ref (adM 0)), (3, .ref (adC 91)), (4, .int x4)]) hx hb dL_law_730 hl (by decide) rfl (fun ls hl => ?_)
  have hsz := hl.1
  refine lv_aload_n hx hb dL_law_732 rfl (lv_at hl 3 rfl) ?_
  refine lv_aload_n hx hb dL_law_733 rfl (lv_at hl 1 rfl) ?_
  refine lv_iload hx hb dL_law_734 (lv_at hl 5 rfl) ?_
  refine lv_iconst (v := 1) hx hb dL_law_736 (by decide) ?_
  refine lv_iadd hx hb dL_law_737 ?_
  refine va_sld hx hb hX hbl hbA hS (hin 1 (by decide)) dL_law_738 ?_
  refine l_callM X (c_X12_told X.2.2.2.2.2.2.2.2.2.2.2.1 f2) wml_L_161 wq_X12_told rfl rfl rfl ⟨by decide, by decide⟩ dL_law_739 hC hM hS ⟨by omega, by omega⟩ hsz rfl (Nat.le_of_ble_eq_true rfl) 742 rfl (fun H locs hC hM hS => ?_)
  refine lv_istore (lv' := [(6, .int r6), (5, .int k5), (0, .ref b), (1, .ref (adC 0)), (2, .ref (adM 0)), (3, .ref (adC 91)), (4, .int x4)]) hx hb dL_law_742 hl (by decide) rfl (fun ls hl => ?_)
  have hsz := hl.1
  refine lv_aload_n hx hb dL_law_744 rfl (lv_at hl 4 rfl) ?_
  refine l_callM X (c_X12_thrown X.2.2.2.2.2.2.2.2.2.2.2.1 (show F_X12_thrown N aM1 = some (aM1 0 0, aM1) from rfl)) wml_L_128 wq_X12_thrown rfl rfl rfl ⟨by decide, by decide⟩ dL_law_745 hC hM hS ⟨by omega, by omega⟩ hsz rfl (Nat.le_of_ble_eq_true rfl) 748 rfl (fun H locs hC hM hS => ?_)
  refine lv_iload hx hb dL_law_748 (lv_at hl 1 rfl) ?_
  refine lv_icmp_eq (tgt := 755) hx hb dL_law_750 (by decide) (fun _ => ?_) (fun ne => absurd f3 ne)
  refine lv_iload hx hb dL_law_755 (lv_at hl 1 rfl) ?_
  refine lv_if_ne (tgt := 772) hx hb dL_law_757 (by decide) (fun _ => ?_) (fun k0 => ?_)
  · refine lv_goto (tgt := 2428) hx hb dL_law_772 (by decide) ?_
    exact K aC1 aM1 hr H locs ls hC hM hS (lv_sub hl [2, 3, 4, 5, 6] rfl)
  · have f4 := f4 k0
    refine lv_aload_n hx hb dL_law_760 rfl (lv_at hl 5 rfl) ?_
    refine lv_iconst (v := 0) hx hb dL_law_761 (by decide) ?_
    refine va_lald hx hb X.2.2.2.2.2.1 hC 91 2 (xw_get lc91 EC_91) rfl (show vp_in 0 1 from (show ¬ ((0 : Int32) < 0 ∨ 1 ≤ Int32.toNatClampNeg 0) by decide)) dL_law_762 ?_
    refine lv_iload hx hb dL_law_763 (lv_at hl 0 rfl) ?_
    refine lv_i2l hx hb dL_law_765 rfl ?_
    refine W.lcmp hx hb dL_law_766 ?_
    refine lv_if_eq (tgt := 772) hx hb dL_law_767 (by decide) (fun _ => ?_) (fun ne => absurd (by rw [show aC1 91 (Int32.toNatClampNeg 0) = aC1 91 0 from rfl, f4]; exact l_cmp_self _) ne)
    refine lv_goto (tgt := 2428) hx hb dL_law_772 (by decide) ?_
    exact K aC1 aM1 hr H locs ls hC hM hS (lv_sub hl [2, 3, 4, 5, 6] rfl)
def Sim_word (N : Nat) (Rel : AH → AH → Prop) : Prop := ∀ (aC aM : AH), Rel aC aM → ∀ p1 p2 : Int32, ∃ (k r : Int32) (aC1 aM1 : AH), F_L_word N aC p1 p2 = some (k, aC1) ∧ F_X12_word N aM p1 p2 = some (r, aM1) ∧ aM1 0 0 = k ∧ (k = 0 → aC1 91 0 = r) ∧ Rel aC1 aM1
theorem law_word (X : LX p l s m b meth c D adC caC adM caM) (hX : va_X b L xs s s.heap) (hbl : b < s.heap.size) (hbA : ¬ (fun q : Nat => s.heap.size ≤ q) b) (hin : ∀ j : Int32, 0 ≤ j ∧ j ≤ 5 → vp_in (x4 + j) L) (hcs : cs + 3 ≤ 601024 ∧ sl + 18 ≤ 7293034) (hs : Sim_word N Rel) (hrel : Rel aC aM) (K : ∀ aC1 aM1, Rel aC1 aM1 → LK p l e s m b below meth c D adC caC adM caM (cs + 3) (sl + 18) aC1 aM1 x4 2428) : LK p l e s m b below meth c D adC caC adM caM cs sl aC aM x4 775 := by
  intro H locs ls hC hM hS hl
  have hx := X.1
  have hb := X.2.1
  have hsz := hl.1
  obtain ⟨k5, r6, aC1, aM1, f1, f2, f3, f4, hr⟩ := hs aC aM hrel (xs (Int32.toNatClampNeg (x4 + 1))) (xs (Int32.toNatClampNeg (x4 + 2)))
  refine lv_aload_n hx hb dL_law_775 rfl (lv_at hl 1 rfl) ?_
  refine lv_aload_n hx hb dL_law_776 rfl (lv_at hl 0 rfl) ?_
  refine lv_iload hx hb dL_law_777 (lv_at hl 4 rfl) ?_
  refine lv_iconst (v := 1) hx hb dL_law_779 (by decide) ?_
  refine lv_iadd hx hb dL_law_780 ?_
  refine va_sld hx hb hX hbl hbA hS (hin 1 (by decide)) dL_law_781 ?_
  refine lv_aload_n hx hb dL_law_782 rfl (lv_at hl 0 rfl) ?_
  refine lv_iload hx hb dL_law_783 (lv_at hl 4 rfl) ?_
  refine lv_iconst (v := 2) hx hb dL_law_785 (by decide) ?_
  refine lv_iadd hx hb dL_law_786 ?_
  refine va_sld hx hb hX hbl hbA hS (hin 2 (by decide)) dL_law_787 ?_
  refine lv_aload_n hx hb dL_law_788 rfl (lv_at hl 3 rfl) ?_
  refine l_callH (n := 4) X (c_L_word X.2.2.2.2.2.2.2.2.2.2.1 X.2.2.2.2.2.2.2.2.2.1 f1) wml_L_162 wmt_L_word wmn_L wmc_L_word (by decide +kernel) rfl rfl rfl ⟨by decide, by decide⟩ dL_law_789 hC hM hS ⟨by omega, by omega⟩ hsz rfl (Nat.le_of_ble_eq_true rfl) 792 rfl (fun H locs hC hM hS => ?_)
  refine lv_istore (lv' := [(5, .int k5), (0, .ref b), (1, .ref (adC 0)), (2, .ref (adM 0)), (3, .ref (adC 91)), (4, .int x4)]) hx hb dL_law_792 hl (by decide) rfl (fun ls hl => ?_)
  have hsz := hl.1
  refine lv_aload_n hx hb dL_law_794 rfl (lv_at hl 3 rfl) ?_
  refine lv_aload_n hx hb dL_law_795 rfl (lv_at hl 1 rfl) ?_
  refine lv_iload hx hb dL_law_796 (lv_at hl 5 rfl) ?_
  refine lv_iconst (v := 1) hx hb dL_law_798 (by decide) ?_
  refine lv_iadd hx hb dL_law_799 ?_
  refine va_sld hx hb hX hbl hbA hS (hin 1 (by decide)) dL_law_800 ?_
  refine lv_aload_n hx hb dL_law_801 rfl (lv_at hl 1 rfl) ?_
  refine lv_iload hx hb dL_law_802 (lv_at hl 5 rfl) ?_
  refine lv_iconst (v := 2) hx hb dL_law_804 (by decide) ?_
  refine lv_iadd hx hb dL_law_805 ?_
  refine va_sld hx hb hX hbl hbA hS (hin 2 (by decide)) dL_law_806 ?_
  refine l_callM X (c_X12_word X.2.2.2.2.2.2.2.2.2.2.2.1 f2) wml_L_164 wq_X12_word rfl rfl rfl ⟨by decide, by decide⟩ dL_law_807 hC hM hS ⟨by omega, by omega⟩ hsz rfl (Nat.le_of_ble_eq_true rfl) 810 rfl (fun H locs hC hM hS => ?_)
  refine lv_istore (lv' := [(6, .int r6), (5, .int k5), (0, .ref b), (1, .ref (adC 0)), (2, .ref (adM 0)), (3, .ref (adC 91)), (4, .int x4)]) hx hb dL_law_810 hl (by decide) rfl (fun ls hl => ?_)
  have hsz := hl.1
  refine lv_aload_n hx hb dL_law_812 rfl (lv_at hl 4 rfl) ?_
  refine l_callM X (c_X12_thrown X.2.2.2.2.2.2.2.2.2.2.2.1 (show F_X12_thrown N aM1 = some (aM1 0 0, aM1) from rfl)) wml_L_128 wq_X12_thrown rfl rfl rfl ⟨by decide, by decide⟩ dL_law_813 hC hM hS ⟨by omega, by omega⟩ hsz rfl (Nat.le_of_ble_eq_true rfl) 816 rfl (fun H locs hC hM hS => ?_)
  refine lv_iload hx hb dL_law_816 (lv_at hl 1 rfl) ?_
  refine lv_icmp_eq (tgt := 823) hx hb dL_law_818 (by decide) (fun _ => ?_) (fun ne => absurd f3 ne)
  refine lv_iload hx hb dL_law_823 (lv_at hl 1 rfl) ?_
  refine lv_if_ne (tgt := 840) hx hb dL_law_825 (by decide) (fun _ => ?_) (fun k0 => ?_)
  · refine lv_goto (tgt := 2428) hx hb dL_law_840 (by decide) ?_
    exact K aC1 aM1 hr H locs ls hC hM hS (lv_sub hl [2, 3, 4, 5, 6] rfl)
  · have f4 := f4 k0
    refine lv_aload_n hx hb dL_law_828 rfl (lv_at hl 5 rfl) ?_
    refine lv_iconst (v := 0) hx hb dL_law_829 (by decide) ?_
    refine va_lald hx hb X.2.2.2.2.2.1 hC 91 2 (xw_get lc91 EC_91) rfl (show vp_in 0 1 from (show ¬ ((0 : Int32) < 0 ∨ 1 ≤ Int32.toNatClampNeg 0) by decide)) dL_law_830 ?_
    refine lv_iload hx hb dL_law_831 (lv_at hl 0 rfl) ?_
    refine lv_i2l hx hb dL_law_833 rfl ?_
    refine W.lcmp hx hb dL_law_834 ?_
    refine lv_if_eq (tgt := 840) hx hb dL_law_835 (by decide) (fun _ => ?_) (fun ne => absurd (by rw [show aC1 91 (Int32.toNatClampNeg 0) = aC1 91 0 from rfl, f4]; exact l_cmp_self _) ne)
    refine lv_goto (tgt := 2428) hx hb dL_law_840 (by decide) ?_
    exact K aC1 aM1 hr H locs ls hC hM hS (lv_sub hl [2, 3, 4, 5, 6] rfl)
def Sim_sign (N : Nat) (Rel : AH → AH → Prop) : Prop := ∀ (aC aM : AH), Rel aC aM → ∀ p1 p2 : Int32, ∃ (k r : Int32) (aC1 aM1 : AH), F_L_sign N aC p1 p2 = some (k, aC1) ∧ F_X12_sign N aM p1 p2 = some (r, aM1) ∧ aM1 0 0 = k ∧ (k = 0 → aC1 91 0 = r) ∧ Rel aC1 aM1
theorem law_sign (X : LX p l s m b meth c D adC caC adM caM) (hX : va_X b L xs s s.heap) (hbl : b < s.heap.size) (hbA : ¬ (fun q : Nat => s.heap.size ≤ q) b) (hin : ∀ j : Int32, 0 ≤ j ∧ j ≤ 5 → vp_in (x4 + j) L) (hcs : cs + 3 ≤ 601024 ∧ sl + 18 ≤ 7293034) (hs : Sim_sign N Rel) (hrel : Rel aC aM) (K : ∀ aC1 aM1, Rel aC1 aM1 → LK p l e s m b below meth c D adC caC adM caM (cs + 3) (sl + 18) aC1 aM1 x4 2428) : LK p l e s m b below meth c D adC caC adM caM cs sl aC aM x4 843 := by
  intro H locs ls hC hM hS hl
  have hx := X.1
  have hb := X.2.1
  have hsz := hl.1
  obtain ⟨k5, r6, aC1, aM1, f1, f2, f3, f4, hr⟩ := hs aC aM hrel (xs (Int32.toNatClampNeg (x4 + 1))) (xs (Int32.toNatClampNeg (x4 + 2)))
  refine lv_aload_n hx hb dL_law_843 rfl (lv_at hl 1 rfl) ?_
  refine lv_aload_n hx hb dL_law_844 rfl (lv_at hl 0 rfl) ?_
  refine lv_iload hx hb dL_law_845 (lv_at hl 4 rfl) ?_
  refine lv_iconst (v := 1) hx hb dL_law_847 (by decide) ?_
  refine lv_iadd hx hb dL_law_848 ?_
  refine va_sld hx hb hX hbl hbA hS (hin 1 (by decide)) dL_law_849 ?_
  refine lv_aload_n hx hb dL_law_850 rfl (lv_at hl 0 rfl) ?_
  refine lv_iload hx hb dL_law_851 (lv_at hl 4 rfl) ?_
  refine lv_iconst (v := 2) hx hb dL_law_853 (by decide) ?_
  refine lv_iadd hx hb dL_law_854 ?_
  refine va_sld hx hb hX hbl hbA hS (hin 2 (by decide)) dL_law_855 ?_
  refine lv_aload_n hx hb dL_law_856 rfl (lv_at hl 3 rfl) ?_
  refine l_callH (n := 4) X (c_L_sign X.2.2.2.2.2.2.2.2.2.2.1 X.2.2.2.2.2.2.2.2.2.1 f1) wml_L_165 wmt_L_sign wmn_L wmc_L_sign (by decide +kernel) rfl rfl rfl ⟨by decide, by decide⟩ dL_law_857 hC hM hS ⟨by omega, by omega⟩ hsz rfl (Nat.le_of_ble_eq_true rfl) 860 rfl (fun H locs hC hM hS => ?_)
  refine lv_istore (lv' := [(5, .int k5), (0, .ref b), (1, .ref (adC 0)), (2, .ref (adM 0)), (3, .ref (adC 91)), (4, .int x4)]) hx hb dL_law_860 hl (by decide) rfl (fun ls hl => ?_)
  have hsz := hl.1
  refine lv_aload_n hx hb dL_law_862 rfl (lv_at hl 3 rfl) ?_
  refine lv_aload_n hx hb dL_law_863 rfl (lv_at hl 1 rfl) ?_
  refine lv_iload hx hb dL_law_864 (lv_at hl 5 rfl) ?_
  refine lv_iconst (v := 1) hx hb dL_law_866 (by decide) ?_
  refine lv_iadd hx hb dL_law_867 ?_
  refine va_sld hx hb hX hbl hbA hS (hin 1 (by decide)) dL_law_868 ?_
  refine lv_aload_n hx hb dL_law_869 rfl (lv_at hl 1 rfl) ?_
  refine lv_iload hx hb dL_law_870 (lv_at hl 5 rfl) ?_
  refine lv_iconst (v := 2) hx hb dL_law_872 (by decide) ?_
  refine lv_iadd hx hb dL_law_873 ?_
  refine va_sld hx hb hX hbl hbA hS (hin 2 (by decide)) dL_law_874 ?_
  refine l_callM X (c_X12_sign X.2.2.2.2.2.2.2.2.2.2.2.1 f2) wml_L_167 wq_X12_sign rfl rfl rfl ⟨by decide, by decide⟩ dL_law_875 hC hM hS ⟨by omega, by omega⟩ hsz rfl (Nat.le_of_ble_eq_true rfl) 878 rfl (fun H locs hC hM hS => ?_)
  refine lv_istore (lv' := [(6, .int r6), (5, .int k5), (0, .ref b), (1, .ref (adC 0)), (2, .ref (adM 0)), (3, .ref (adC 91)), (4, .int x4)]) hx hb dL_law_878 hl (by decide) rfl (fun ls hl => ?_)
  have hsz := hl.1
  refine lv_aload_n hx hb dL_law_880 rfl (lv_at hl 4 rfl) ?_
  refine l_callM X (c_X12_thrown X.2.2.2.2.2.2.2.2.2.2.2.1 (show F_X12_thrown N aM1 = some (aM1 0 0, aM1) from rfl)) wml_L_128 wq_X12_thrown rfl rfl rfl ⟨by decide, by decide⟩ dL_law_881 hC hM hS ⟨by omega, by omega⟩ hsz rfl (Nat.le_of_ble_eq_true rfl) 884 rfl (fun H locs hC hM hS => ?_)
  refine lv_iload hx hb dL_law_884 (lv_at hl 1 rfl) ?_
  refine lv_icmp_eq (tgt := 891) hx hb dL_law_886 (by decide) (fun _ => ?_) (fun ne => absurd f3 ne)
  refine lv_iload hx hb dL_law_891 (lv_at hl 1 rfl) ?_
  refine lv_if_ne (tgt := 908) hx hb dL_law_893 (by decide) (fun _ => ?_) (fun k0 => ?_)
  · refine lv_goto (tgt := 2428) hx hb dL_law_908 (by decide) ?_
    exact K aC1 aM1 hr H locs ls hC hM hS (lv_sub hl [2, 3, 4, 5, 6] rfl)
  · have f4 := f4 k0
    refine lv_aload_n hx hb dL_law_896 rfl (lv_at hl 5 rfl) ?_
    refine lv_iconst (v := 0) hx hb dL_law_897 (by decide) ?_
    refine va_lald hx hb X.2.2.2.2.2.1 hC 91 2 (xw_get lc91 EC_91) rfl (show vp_in 0 1 from (show ¬ ((0 : Int32) < 0 ∨ 1 ≤ Int32.toNatClampNeg 0) by decide)) dL_law_898 ?_
    refine lv_iload hx hb dL_law_899 (lv_at hl 0 rfl) ?_
    refine lv_i2l hx hb dL_law_901 rfl ?_
    refine W.lcmp hx hb dL_law_902 ?_
    refine lv_if_eq (tgt := 908) hx hb dL_law_903 (by decide) (fun _ => ?_) (fun ne => absurd (by rw [show aC1 91 (Int32.toNatClampNeg 0) = aC1 91 0 from rfl, f4]; exact l_cmp_self _) ne)
    refine lv_goto (tgt := 2428) hx hb dL_law_908 (by decide) ?_
    exact K aC1 aM1 hr H locs ls hC hM hS (lv_sub hl [2, 3, 4, 5, 6] rfl)
def Sim_find (N : Nat) (Rel : AH → AH → Prop) : Prop := ∀ (aC aM : AH), Rel aC aM → ∀ p1 : Int32, ∃ (k r : Int32) (aC1 aM1 : AH), F_L_find N aC p1 = some (k, aC1) ∧ F_X12_find N aM p1 = some (r, aM1) ∧ aM1 0 0 = k ∧ (k = 0 → aC1 91 0 = r) ∧ Rel aC1 aM1
theorem law_find (X : LX p l s m b meth c D adC caC adM caM) (hX : va_X b L xs s s.heap) (hbl : b < s.heap.size) (hbA : ¬ (fun q : Nat => s.heap.size ≤ q) b) (hin : ∀ j : Int32, 0 ≤ j ∧ j ≤ 5 → vp_in (x4 + j) L) (hcs : cs + 3 ≤ 601024 ∧ sl + 18 ≤ 7293034) (hs : Sim_find N Rel) (hrel : Rel aC aM) (K : ∀ aC1 aM1, Rel aC1 aM1 → LK p l e s m b below meth c D adC caC adM caM (cs + 3) (sl + 18) aC1 aM1 x4 2428) : LK p l e s m b below meth c D adC caC adM caM cs sl aC aM x4 911 := by
  intro H locs ls hC hM hS hl
  have hx := X.1
  have hb := X.2.1
  have hsz := hl.1
  obtain ⟨k5, r6, aC1, aM1, f1, f2, f3, f4, hr⟩ := hs aC aM hrel (xs (Int32.toNatClampNeg (x4 + 1)))
  refine lv_aload_n hx hb dL_law_911 rfl (lv_at hl 1 rfl) ?_
  refine lv_aload_n hx hb dL_law_912 rfl (lv_at hl 0 rfl) ?_
  refine lv_iload hx hb dL_law_913 (lv_at hl 4 rfl) ?_
  refine lv_iconst (v := 1) hx hb dL_law_915 (by decide) ?_
  refine lv_iadd hx hb dL_law_916 ?_
  refine va_sld hx hb hX hbl hbA hS (hin 1 (by decide)) dL_law_917 ?_
  refine lv_aload_n hx hb dL_law_918 rfl (lv_at hl 3 rfl) ?_
  refine l_callH (n := 3) X (c_L_find X.2.2.2.2.2.2.2.2.2.2.1 X.2.2.2.2.2.2.2.2.2.1 f1) wml_L_168 wmt_L_find wmn_L wmc_L_find (by decide +kernel) rfl rfl rfl ⟨by decide, by decide⟩ dL_law_919 hC hM hS ⟨by omega, by omega⟩ hsz rfl (Nat.le_of_ble_eq_true rfl) 922 rfl (fun H locs hC hM hS => ?_)
  refine lv_istore (lv' := [(5, .int k5), (0, .ref b), (1, .ref (adC 0)), (2, .ref (adM 0)), (3, .ref (adC 91)), (4, .int x4)]) hx hb dL_law_922 hl (by decide) rfl (fun ls hl => ?_)
  have hsz := hl.1
  refine lv_aload_n hx hb dL_law_924 rfl (lv_at hl 3 rfl) ?_
  refine lv_aload_n hx hb dL_law_925 rfl (lv_at hl 1 rfl) ?_
  refine lv_iload hx hb dL_law_926 (lv_at hl 5 rfl) ?_
  refine lv_iconst (v := 1) hx hb dL_law_928 (by decide) ?_
  refine lv_iadd hx hb dL_law_929 ?_
  refine va_sld hx hb hX hbl hbA hS (hin 1 (by decide)) dL_law_930 ?_
  refine l_callM X (c_X12_find X.2.2.2.2.2.2.2.2.2.2.2.1 f2) wml_L_170 wq_X12_find rfl rfl rfl ⟨by decide, by decide⟩ dL_law_931 hC hM hS ⟨by omega, by omega⟩ hsz rfl (Nat.le_of_ble_eq_true rfl) 934 rfl (fun H locs hC hM hS => ?_)
  refine lv_istore (lv' := [(6, .int r6), (5, .int k5), (0, .ref b), (1, .ref (adC 0)), (2, .ref (adM 0)), (3, .ref (adC 91)), (4, .int x4)]) hx hb dL_law_934 hl (by decide) rfl (fun ls hl => ?_)
  have hsz := hl.1
  refine lv_aload_n hx hb dL_law_936 rfl (lv_at hl 4 rfl) ?_
  refine l_callM X (c_X12_thrown X.2.2.2.2.2.2.2.2.2.2.2.1 (show F_X12_thrown N aM1 = some (aM1 0 0, aM1) from rfl)) wml_L_128 wq_X12_thrown rfl rfl rfl ⟨by decide, by decide⟩ dL_law_937 hC hM hS ⟨by omega, by omega⟩ hsz rfl (Nat.le_of_ble_eq_true rfl) 940 rfl (fun H locs hC hM hS => ?_)
  refine lv_iload hx hb dL_law_940 (lv_at hl 1 rfl) ?_
  refine lv_icmp_eq (tgt := 947) hx hb dL_law_942 (by decide) (fun _ => ?_) (fun ne => absurd f3 ne)
  refine lv_iload hx hb dL_law_947 (lv_at hl 1 rfl) ?_
  refine lv_if_ne (tgt := 964) hx hb dL_law_949 (by decide) (fun _ => ?_) (fun k0 => ?_)
  · refine lv_goto (tgt := 2428) hx hb dL_law_964 (by decide) ?_
    exact K aC1 aM1 hr H locs ls hC hM hS (lv_sub hl [2, 3, 4, 5, 6] rfl)
  · have f4 := f4 k0
    refine lv_aload_n hx hb dL_law_952 rfl (lv_at hl 5 rfl) ?_
    refine lv_iconst (v := 0) hx hb dL_law_953 (by decide) ?_
    refine va_lald hx hb X.2.2.2.2.2.1 hC 91 2 (xw_get lc91 EC_91) rfl (show vp_in 0 1 from (show ¬ ((0 : Int32) < 0 ∨ 1 ≤ Int32.toNatClampNeg 0) by decide)) dL_law_954 ?_
    refine lv_iload hx hb dL_law_955 (lv_at hl 0 rfl) ?_
    refine lv_i2l hx hb dL_law_957 rfl ?_
    refine W.lcmp hx hb dL_law_958 ?_
    refine lv_if_eq (tgt := 964) hx hb dL_law_959 (by decide) (fun _ => ?_) (fun ne => absurd (by rw [show aC1 91 (Int32.toNatClampNeg 0) = aC1 91 0 from rfl, f4]; exact l_cmp_self _) ne)
    refine lv_goto (tgt := 2428) hx hb dL_law_964 (by decide) ?_
    exact K aC1 aM1 hr H locs ls hC hM hS (lv_sub hl [2, 3, 4, 5, 6] rfl)
def Sim_node (N : Nat) (Rel : AH → AH → Prop) : Prop := ∀ (aC aM : AH), Rel aC aM → ∀ p1 p2 : Int32, ∃ (k r : Int32) (aC1 aM1 : AH), F_L_node N aC p1 p2 = some (k, aC1) ∧ F_X12_node N aM p1 p2 = some (r, aM1) ∧ aM1 0 0 = k ∧ (k = 0 → aC1 91 0 = r) ∧ Rel aC1 aM1
theorem law_node (X : LX p l s m b meth c D adC caC adM caM) (hX : va_X b L xs s s.heap) (hbl : b < s.heap.size) (hbA : ¬ (fun q : Nat => s.heap.size ≤ q) b) (hin : ∀ j : Int32, 0 ≤ j ∧ j ≤ 5 → vp_in (x4 + j) L) (hcs : cs + 3 ≤ 601024 ∧ sl + 18 ≤ 7293034) (hs : Sim_node N Rel) (hrel : Rel aC aM) (K : ∀ aC1 aM1, Rel aC1 aM1 → LK p l e s m b below meth c D adC caC adM caM (cs + 3) (sl + 18) aC1 aM1 x4 2428) : LK p l e s m b below meth c D adC caC adM caM cs sl aC aM x4 967 := by
  intro H locs ls hC hM hS hl
  have hx := X.1
  have hb := X.2.1
  have hsz := hl.1
  obtain ⟨k5, r6, aC1, aM1, f1, f2, f3, f4, hr⟩ := hs aC aM hrel (xs (Int32.toNatClampNeg (x4 + 1))) (xs (Int32.toNatClampNeg (x4 + 2)))
  refine lv_aload_n hx hb dL_law_967 rfl (lv_at hl 1 rfl) ?_
  refine lv_aload_n hx hb dL_law_968 rfl (lv_at hl 0 rfl) ?_
  refine lv_iload hx hb dL_law_969 (lv_at hl 4 rfl) ?_
  refine lv_iconst (v := 1) hx hb dL_law_971 (by decide) ?_
  refine lv_iadd hx hb dL_law_972 ?_
  refine va_sld hx hb hX hbl hbA hS (hin 1 (by decide)) dL_law_973 ?_
  refine lv_aload_n hx hb dL_law_974 rfl (lv_at hl 0 rfl) ?_
  refine lv_iload hx hb dL_law_975 (lv_at hl 4 rfl) ?_
  refine lv_iconst (v := 2) hx hb dL_law_977 (by decide) ?_
  refine lv_iadd hx hb dL_law_978 ?_
  refine va_sld hx hb hX hbl hbA hS (hin 2 (by decide)) dL_law_979 ?_
  refine lv_aload_n hx hb dL_law_980 rfl (lv_at hl 3 rfl) ?_
  refine l_callH (n := 4) X (c_L_node X.2.2.2.2.2.2.2.2.2.2.1 X.2.2.2.2.2.2.2.2.2.1 f1) wml_L_171 wmt_L_node wmn_L wmc_L_node (by decide +kernel) rfl rfl rfl ⟨by decide, by decide⟩ dL_law_981 hC hM hS ⟨by omega, by omega⟩ hsz rfl (Nat.le_of_ble_eq_true rfl) 984 rfl (fun H locs hC hM hS => ?_)
  refine lv_istore (lv' := [(5, .int k5), (0, .ref b), (1, .ref (adC 0)), (2, .ref (adM 0)), (3, .ref (adC 91)), (4, .int x4)]) hx hb dL_law_984 hl (by decide) rfl (fun ls hl => ?_)
  have hsz := hl.1
  refine lv_aload_n hx hb dL_law_986 rfl (lv_at hl 3 rfl) ?_
  refine lv_aload_n hx hb dL_law_987 rfl (lv_at hl 1 rfl) ?_
  refine lv_iload hx hb dL_law_988 (lv_at hl 5 rfl) ?_
  refine lv_iconst (v := 1) hx hb dL_law_990 (by decide) ?_
  refine lv_iadd hx hb dL_law_991 ?_
  refine va_sld hx hb hX hbl hbA hS (hin 1 (by decide)) dL_law_992 ?_
  refine lv_aload_n hx hb dL_law_993 rfl (lv_at hl 1 rfl) ?_
  refine lv_iload hx hb dL_law_994 (lv_at hl 5 rfl) ?_
  refine lv_iconst (v := 2) hx hb dL_law_996 (by decide) ?_
  refine lv_iadd hx hb dL_law_997 ?_
  refine va_sld hx hb hX hbl hbA hS (hin 2 (by decide)) dL_law_998 ?_
  refine l_callM X (c_X12_node X.2.2.2.2.2.2.2.2.2.2.2.1 f2) wml_L_173 wq_X12_node rfl rfl rfl ⟨by decide, by decide⟩ dL_law_999 hC hM hS ⟨by omega, by omega⟩ hsz rfl (Nat.le_of_ble_eq_true rfl) 1002 rfl (fun H locs hC hM hS => ?_)
  refine lv_istore (lv' := [(6, .int r6), (5, .int k5), (0, .ref b), (1, .ref (adC 0)), (2, .ref (adM 0)), (3, .ref (adC 91)), (4, .int x4)]) hx hb dL_law_1002 hl (by decide) rfl (fun ls hl => ?_)
  have hsz := hl.1
  refine lv_aload_n hx hb dL_law_1004 rfl (lv_at hl 4 rfl) ?_
  refine l_callM X (c_X12_thrown X.2.2.2.2.2.2.2.2.2.2.2.1 (show F_X12_thrown N aM1 = some (aM1 0 0, aM1) from rfl)) wml_L_128 wq_X12_thrown rfl rfl rfl ⟨by decide, by decide⟩ dL_law_1005 hC hM hS ⟨by omega, by omega⟩ hsz rfl (Nat.le_of_ble_eq_true rfl) 1008 rfl (fun H locs hC hM hS => ?_)
  refine lv_iload hx hb dL_law_1008 (lv_at hl 1 rfl) ?_
  refine lv_icmp_eq (tgt := 1015) hx hb dL_law_1010 (by decide) (fun _ => ?_) (fun ne => absurd f3 ne)
  refine lv_iload hx hb dL_law_1015 (lv_at hl 1 rfl) ?_
  refine lv_if_ne (tgt := 1032) hx hb dL_law_1017 (by decide) (fun _ => ?_) (fun k0 => ?_)
  · refine lv_goto (tgt := 2428) hx hb dL_law_1032 (by decide) ?_
    exact K aC1 aM1 hr H locs ls hC hM hS (lv_sub hl [2, 3, 4, 5, 6] rfl)
  · have f4 := f4 k0
    refine lv_aload_n hx hb dL_law_1020 rfl (lv_at hl 5 rfl) ?_
    refine lv_iconst (v := 0) hx hb dL_law_1021 (by decide) ?_
    refine va_lald hx hb X.2.2.2.2.2.1 hC 91 2 (xw_get lc91 EC_91) rfl (show vp_in 0 1 from (show ¬ ((0 : Int32) < 0 ∨ 1 ≤ Int32.toNatClampNeg 0) by decide)) dL_law_1022 ?_
    refine lv_iload hx hb dL_law_1023 (lv_at hl 0 rfl) ?_
    refine lv_i2l hx hb dL_law_1025 rfl ?_
    refine W.lcmp hx hb dL_law_1026 ?_
    refine lv_if_eq (tgt := 1032) hx hb dL_law_1027 (by decide) (fun _ => ?_) (fun ne => absurd (by rw [show aC1 91 (Int32.toNatClampNeg 0) = aC1 91 0 from rfl, f4]; exact l_cmp_self _) ne)
    refine lv_goto (tgt := 2428) hx hb dL_law_1032 (by decide) ?_
    exact K aC1 aM1 hr H locs ls hC hM hS (lv_sub hl [2, 3, 4, 5, 6] rfl)
def Sim_child (N : Nat) (Rel : AH → AH → Prop) : Prop := ∀ (aC aM : AH), Rel aC aM → ∀ p1 p2 : Int32, ∃ (k r : Int32) (aC1 aM1 : AH), F_L_child N aC p1 p2 = some (k, aC1) ∧ F_X12_child N aM p1 p2 = some (r, aM1) ∧ aM1 0 0 = k ∧ (k = 0 → aC1 91 0 = r) ∧ Rel aC1 aM1
theorem law_child (X : LX p l s m b meth c D adC caC adM caM) (hX : va_X b L xs s s.heap) (hbl : b < s.heap.size) (hbA : ¬ (fun q : Nat => s.heap.size ≤ q) b) (hin : ∀ j : Int32, 0 ≤ j ∧ j ≤ 5 → vp_in (x4 + j) L) (hcs : cs + 3 ≤ 601024 ∧ sl + 18 ≤ 7293034) (hs : Sim_child N Rel) (hrel : Rel aC aM) (K : ∀ aC1 aM1, Rel aC1 aM1 → LK p l e s m b below meth c D adC caC adM caM (cs + 3) (sl + 18) aC1 aM1 x4 2428) : LK p l e s m b below meth c D adC caC adM caM cs sl aC aM x4 1035 := by
  intro H locs ls hC hM hS hl
  have hx := X.1
  have hb := X.2.1
  have hsz := hl.1
  obtain ⟨k5, r6, aC1, aM1, f1, f2, f3, f4, hr⟩ := hs aC aM hrel (xs (Int32.toNatClampNeg (x4 + 1))) (xs (Int32.toNatClampNeg (x4 + 2)))
  refine lv_aload_n hx hb dL_law_1035 rfl (lv_at hl 1 rfl) ?_
  refine lv_aload_n hx hb dL_law_1036 rfl (lv_at hl 0 rfl) ?_
  refine lv_iload hx hb dL_law_1037 (lv_at hl 4 rfl) ?_
  refine lv_iconst (v := 1) hx hb dL_law_1039 (by decide) ?_
  refine lv_iadd hx hb dL_law_1040 ?_
  refine va_sld hx hb hX hbl hbA hS (hin 1 (by decide)) dL_law_1041 ?_
  refine lv_aload_n hx hb dL_law_1042 rfl (lv_at hl 0 rfl) ?_
  refine lv_iload hx hb dL_law_1043 (lv_at hl 4 rfl) ?_
  refine lv_iconst (v := 2) hx hb dL_law_1045 (by decide) ?_
  refine lv_iadd hx hb dL_law_1046 ?_
  refine va_sld hx hb hX hbl hbA hS (hin 2 (by decide)) dL_law_1047 ?_
  refine lv_aload_n hx hb dL_law_1048 rfl (lv_at hl 3 rfl) ?_
  refine l_callH (n := 4) X (c_L_child X.2.2.2.2.2.2.2.2.2.2.1 X.2.2.2.2.2.2.2.2.2.1 f1) wml_L_174 wmt_L_child wmn_L wmc_L_child (by decide +kernel) rfl rfl rfl ⟨by decide, by decide⟩ dL_law_1049 hC hM hS ⟨by omega, by omega⟩ hsz rfl (Nat.le_of_ble_eq_true rfl) 1052 rfl (fun H locs hC hM hS => ?_)
  refine lv_istore (lv' := [(5, .int k5), (0, .ref b), (1, .ref (adC 0)), (2, .ref (adM 0)), (3, .ref (adC 91)), (4, .int x4)]) hx hb dL_law_1052 hl (by decide) rfl (fun ls hl => ?_)
  have hsz := hl.1
  refine lv_aload_n hx hb dL_law_1054 rfl (lv_at hl 3 rfl) ?_
  refine lv_aload_n hx hb dL_law_1055 rfl (lv_at hl 1 rfl) ?_
  refine lv_iload hx hb dL_law_1056 (lv_at hl 5 rfl) ?_
  refine lv_iconst (v := 1) hx hb dL_law_1058 (by decide) ?_
  refine lv_iadd hx hb dL_law_1059 ?_
  refine va_sld hx hb hX hbl hbA hS (hin 1 (by decide)) dL_law_1060 ?_
  refine lv_aload_n hx hb dL_law_1061 rfl (lv_at hl 1 rfl) ?_
  refine lv_iload hx hb dL_law_1062 (lv_at hl 5 rfl) ?_
  refine lv_iconst (v := 2) hx hb dL_law_1064 (by decide) ?_
  refine lv_iadd hx hb dL_law_1065 ?_
  refine va_sld hx hb hX hbl hbA hS (hin 2 (by decide)) dL_law_1066 ?_
  refine l_callM X (c_X12_child X.2.2.2.2.2.2.2.2.2.2.2.1 f2) wml_L_176 wq_X12_child rfl rfl rfl ⟨by decide, by decide⟩ dL_law_1067 hC hM hS ⟨by omega, by omega⟩ hsz rfl (Nat.le_of_ble_eq_true rfl) 1070 rfl (fun H locs hC hM hS => ?_)
  refine lv_istore (lv' := [(6, .int r6), (5, .int k5), (0, .ref b), (1, .ref (adC 0)), (2, .ref (adM 0)), (3, .ref (adC 91)), (4, .int x4)]) hx hb dL_law_1070 hl (by decide) rfl (fun ls hl => ?_)
  have hsz := hl.1
  refine lv_aload_n hx hb dL_law_1072 rfl (lv_at hl 4 rfl) ?_
  refine l_callM X (c_X12_thrown X.2.2.2.2.2.2.2.2.2.2.2.1 (show F_X12_thrown N aM1 = some (aM1 0 0, aM1) from rfl)) wml_L_128 wq_X12_thrown rfl rfl rfl ⟨by decide, by decide⟩ dL_law_1073 hC hM hS ⟨by omega, by omega⟩ hsz rfl (Nat.le_of_ble_eq_true rfl) 1076 rfl (fun H locs hC hM hS => ?_)
  refine lv_iload hx hb dL_law_1076 (lv_at hl 1 rfl) ?_
  refine lv_icmp_eq (tgt := 1083) hx hb dL_law_1078 (by decide) (fun _ => ?_) (fun ne => absurd f3 ne)
  refine lv_iload hx hb dL_law_1083 (lv_at hl 1 rfl) ?_
  refine lv_if_ne (tgt := 1100) hx hb dL_law_1085 (by decide) (fun _ => ?_) (fun k0 => ?_)
  · refine lv_goto (tgt := 2428) hx hb dL_law_1100 (by decide) ?_
    exact K aC1 aM1 hr H locs ls hC hM hS (lv_sub hl [2, 3, 4, 5, 6] rfl)
  · have f4 := f4 k0
    refine lv_aload_n hx hb dL_law_1088 rfl (lv_at hl 5 rfl) ?_
    refine lv_iconst (v := 0) hx hb dL_law_1089 (by decide) ?_
    refine va_lald hx hb X.2.2.2.2.2.1 hC 91 2 (xw_get lc91 EC_91) rfl (show vp_in 0 1 from (show ¬ ((0 : Int32) < 0 ∨ 1 ≤ Int32.toNatClampNeg 0) by decide)) dL_law_1090 ?_
    refine lv_iload hx hb dL_law_1091 (lv_at hl 0 rfl) ?_
    refine lv_i2l hx hb dL_law_1093 rfl ?_
    refine W.lcmp hx hb dL_law_1094 ?_
    refine lv_if_eq (tgt := 1100) hx hb dL_law_1095 (by decide) (fun _ => ?_) (fun ne => absurd (by rw [show aC1 91 (Int32.toNatClampNeg 0) = aC1 91 0 from rfl, f4]; exact l_cmp_self _) ne)
    refine lv_goto (tgt := 2428) hx hb dL_law_1100 (by decide) ?_
    exact K aC1 aM1 hr H locs ls hC hM hS (lv_sub hl [2, 3, 4, 5, 6] rfl)
def Sim_shape (N : Nat) (Rel : AH → AH → Prop) : Prop := ∀ (aC aM : AH), Rel aC aM → ∀ p1 p2 : Int32, ∃ (k r : Int32) (aC1 aM1 : AH), F_L_shape N aC p1 p2 = some (k, aC1) ∧ F_X12_shape N aM p1 p2 = some (r, aM1) ∧ aM1 0 0 = k ∧ (k = 0 → aC1 91 0 = r) ∧ Rel aC1 aM1
theorem law_shape (X : LX p l s m b meth c D adC caC adM caM) (hX : va_X b L xs s s.heap) (hbl : b < s.heap.size) (hbA : ¬ (fun q : Nat => s.heap.size ≤ q) b) (hin : ∀ j : Int32, 0 ≤ j ∧ j ≤ 5 → vp_in (x4 + j) L) (hcs : cs + 3 ≤ 601024 ∧ sl + 18 ≤ 7293034) (hs : Sim_shape N Rel) (hrel : Rel aC aM) (K : ∀ aC1 aM1, Rel aC1 aM1 → LK p l e s m b below meth c D adC caC adM caM (cs + 3) (sl + 18) aC1 aM1 x4 2428) : LK p l e s m b below meth c D adC caC adM caM cs sl aC aM x4 1103 := by
  intro H locs ls hC hM hS hl
  have hx := X.1
  have hb := X.2.1
  have hsz := hl.1
  obtain ⟨k5, r6, aC1, aM1, f1, f2, f3, f4, hr⟩ := hs aC aM hrel (xs (Int32.toNatClampNeg (x4 + 1))) (xs (Int32.toNatClampNeg (x4 + 2)))
  refine lv_aload_n hx hb dL_law_1103 rfl (lv_at hl 1 rfl) ?_
  refine lv_aload_n hx hb dL_law_1104 rfl (lv_at hl 0 rfl) ?_
  refine lv_iload hx hb dL_law_1105 (lv_at hl 4 rfl) ?_
  refine lv_iconst (v := 1) hx hb dL_law_1107 (by decide) ?_
  refine lv_iadd hx hb dL_law_1108 ?_
  refine va_sld hx hb hX hbl hbA hS (hin 1 (by decide)) dL_law_1109 ?_
  refine lv_aload_n hx hb dL_law_1110 rfl (lv_at hl 0 rfl) ?_
  refine lv_iload hx hb dL_law_1111 (lv_at hl 4 rfl) ?_
  refine lv_iconst (v := 2) hx hb dL_law_1113 (by decide) ?_
  refine lv_iadd hx hb dL_law_1114 ?_
  refine va_sld hx hb hX hbl hbA hS (hin 2 (by decide)) dL_law_1115 ?_
  refine lv_aload_n hx hb dL_law_1116 rfl (lv_at hl 3 rfl) ?_
  refine l_callH (n := 4) X (c_L_shape X.2.2.2.2.2.2.2.2.2.2.1 X.2.2.2.2.2.2.2.2.2.1 f1) wml_L_177 wmt_L_shape wmn_L wmc_L_shape (by decide +kernel) rfl rfl rfl ⟨by decide, by decide⟩ dL_law_1117 hC hM hS ⟨by omega, by omega⟩ hsz rfl (Nat.le_of_ble_eq_true rfl) 1120 rfl (fun H locs hC hM hS => ?_)
  refine lv_istore (lv' := [(5, .int k5), (0, .ref b), (1, .ref (adC 0)), (2, .ref (adM 0)), (3, .ref (adC 91)), (4, .int x4)]) hx hb dL_law_1120 hl (by decide) rfl (fun ls hl => ?_)
  have hsz := hl.1
  refine lv_aload_n hx hb dL_law_1122 rfl (lv_at hl 3 rfl) ?_
  refine lv_aload_n hx hb dL_law_1123 rfl (lv_at hl 1 rfl) ?_
  refine lv_iload hx hb dL_law_1124 (lv_at hl 5 rfl) ?_
  refine lv_iconst (v := 1) hx hb dL_law_1126 (by decide) ?_
  refine lv_iadd hx hb dL_law_1127 ?_
  refine va_sld hx hb hX hbl hbA hS (hin 1 (by decide)) dL_law_1128 ?_
  refine lv_aload_n hx hb dL_law_1129 rfl (lv_at hl 1 rfl) ?_
  refine lv_iload hx hb dL_law_1130 (lv_at hl 5 rfl) ?_
  refine lv_iconst (v := 2) hx hb dL_law_1132 (by decide) ?_
  refine lv_iadd hx hb dL_law_1133 ?_
  refine va_sld hx hb hX hbl hbA hS (hin 2 (by decide)) dL_law_1134 ?_
  refine l_callM X (c_X12_shape X.2.2.2.2.2.2.2.2.2.2.2.1 f2) wml_L_179 wq_X12_shape rfl rfl rfl ⟨by decide, by decide⟩ dL_law_1135 hC hM hS ⟨by omega, by omega⟩ hsz rfl (Nat.le_of_ble_eq_true rfl) 1138 rfl (fun H locs hC hM hS => ?_)
  refine lv_istore (lv' := [(6, .int r6), (5, .int k5), (0, .ref b), (1, .ref (adC 0)), (2, .ref (adM 0)), (3, .ref (adC 91)), (4, .int x4)]) hx hb dL_law_1138 hl (by decide) rfl (fun ls hl => ?_)
  have hsz := hl.1
  refine lv_aload_n hx hb dL_law_1140 rfl (lv_at hl 4 rfl) ?_
  refine l_callM X (c_X12_thrown X.2.2.2.2.2.2.2.2.2.2.2.1 (show F_X12_thrown N aM1 = some (aM1 0 0, aM1) from rfl)) wml_L_128 wq_X12_thrown rfl rfl rfl ⟨by decide, by decide⟩ dL_law_1141 hC hM hS ⟨by omega, by omega⟩ hsz rfl (Nat.le_of_ble_eq_true rfl) 1144 rfl (fun H locs hC hM hS => ?_)
  refine lv_iload hx hb dL_law_1144 (lv_at hl 1 rfl) ?_
  refine lv_icmp_eq (tgt := 1151) hx hb dL_law_1146 (by decide) (fun _ => ?_) (fun ne => absurd f3 ne)
  refine lv_iload hx hb dL_law_1151 (lv_at hl 1 rfl) ?_
  refine lv_if_ne (tgt := 1168) hx hb dL_law_1153 (by decide) (fun _ => ?_) (fun k0 => ?_)
  · refine lv_goto (tgt := 2428) hx hb dL_law_1168 (by decide) ?_
    exact K aC1 aM1 hr H locs ls hC hM hS (lv_sub hl [2, 3, 4, 5, 6] rfl)
  · have f4 := f4 k0
    refine lv_aload_n hx hb dL_law_1156 rfl (lv_at hl 5 rfl) ?_
    refine lv_iconst (v := 0) hx hb dL_law_1157 (by decide) ?_
    refine va_lald hx hb X.2.2.2.2.2.1 hC 91 2 (xw_get lc91 EC_91) rfl (show vp_in 0 1 from (show ¬ ((0 : Int32) < 0 ∨ 1 ≤ Int32.toNatClampNeg 0) by decide)) dL_law_1158 ?_
    refine lv_iload hx hb dL_law_1159 (lv_at hl 0 rfl) ?_
    refine lv_i2l hx hb dL_law_1161 rfl ?_
    refine W.lcmp hx hb dL_law_1162 ?_
    refine lv_if_eq (tgt := 1168) hx hb dL_law_1163 (by decide) (fun _ => ?_) (fun ne => absurd (by rw [show aC1 91 (Int32.toNatClampNeg 0) = aC1 91 0 from rfl, f4]; exact l_cmp_self _) ne)
    refine lv_goto (tgt := 2428) hx hb dL_law_1168 (by decide) ?_
    exact K aC1 aM1 hr H locs ls hC hM hS (lv_sub hl [2, 3, 4, 5, 6] rfl)
def Sim_token (N : Nat) (Rel : AH → AH → Prop) : Prop := ∀ (aC aM : AH), Rel aC aM → ∀ p1 p2 : Int32, ∃ (k r : Int32) (aC1 aM1 : AH), F_L_token N aC p1 p2 = some (k, aC1) ∧ F_X12_token N aM p1 p2 = some (r, aM1) ∧ aM1 0 0 = k ∧ (k = 0 → aC1 91 0 = r) ∧ Rel aC1 aM1
theorem law_token (X : LX p l s m b meth c D adC caC adM caM) (hX : va_X b L xs s s.heap) (hbl : b < s.heap.size) (hbA : ¬ (fun q : Nat => s.heap.size ≤ q) b) (hin : ∀ j : Int32, 0 ≤ j ∧ j ≤ 5 → vp_in (x4 + j) L) (hcs : cs + 3 ≤ 601024 ∧ sl + 18 ≤ 7293034) (hs : Sim_token N Rel) (hrel : Rel aC aM) (K : ∀ aC1 aM1, Rel aC1 aM1 → LK p l e s m b below meth c D adC caC adM caM (cs + 3) (sl + 18) aC1 aM1 x4 2428) : LK p l e s m b below meth c D adC caC adM caM cs sl aC aM x4 1171 := by
  intro H locs ls hC hM hS hl
  have hx := X.1
  have hb := X.2.1
  have hsz := hl.1
  obtain ⟨k5, r6, aC1, aM1, f1, f2, f3, f4, hr⟩ := hs aC aM hrel (xs (Int32.toNatClampNeg (x4 + 1))) (xs (Int32.toNatClampNeg (x4 + 2)))
  refine lv_aload_n hx hb dL_law_1171 rfl (lv_at hl 1 rfl) ?_
  refine lv_aload_n hx hb dL_law_1172 rfl (lv_at hl 0 rfl) ?_
  refine lv_iload hx hb dL_law_1173 (lv_at hl 4 rfl) ?_
  refine lv_iconst (v := 1) hx hb dL_law_1175 (by decide) ?_
  refine lv_iadd hx hb dL_law_1176 ?_
  refine va_sld hx hb hX hbl hbA hS (hin 1 (by decide)) dL_law_1177 ?_
  refine lv_aload_n hx hb dL_law_1178 rfl (lv_at hl 0 rfl) ?_
  refine lv_iload hx hb dL_law_1179 (lv_at hl 4 rfl) ?_
  refine lv_iconst (v := 2) hx hb dL_law_1181 (by decide) ?_
  refine lv_iadd hx hb dL_law_1182 ?_
  refine va_sld hx hb hX hbl hbA hS (hin 2 (by decide)) dL_law_1183 ?_
  refine lv_aload_n hx hb dL_law_1184 rfl (lv_at hl 3 rfl) ?_
  refine l_callH (n := 4) X (c_L_token X.2.2.2.2.2.2.2.2.2.2.1 X.2.2.2.2.2.2.2.2.2.1 f1) wml_L_180 wmt_L_token wmn_L wmc_L_token (by decide +kernel) rfl rfl rfl ⟨by decide, by decide⟩ dL_law_1185 hC hM hS ⟨by omega, by omega⟩ hsz rfl (Nat.le_of_ble_eq_true rfl) 1188 rfl (fun H locs hC hM hS => ?_)
  refine lv_istore (lv' := [(5, .int k5), (0, .ref b), (1, .ref (adC 0)), (2, .ref (adM 0)), (3, .ref (adC 91)), (4, .int x4)]) hx hb dL_law_1188 hl (by decide) rfl (fun ls hl => ?_)
  have hsz := hl.1
  refine lv_aload_n hx hb dL_law_1190 rfl (lv_at hl 3 rfl) ?_
  refine lv_aload_n hx hb dL_law_1191 rfl (lv_at hl 1 rfl) ?_
  refine lv_iload hx hb dL_law_1192 (lv_at hl 5 rfl) ?_
  refine lv_iconst (v := 1) hx hb dL_law_1194 (by decide) ?_
  refine lv_iadd hx hb dL_law_1195 ?_
  refine va_sld hx hb hX hbl hbA hS (hin 1 (by decide)) dL_law_1196 ?_
  refine lv_aload_n hx hb dL_law_1197 rfl (lv_at hl 1 rfl) ?_
  refine lv_iload hx hb dL_law_1198 (lv_at hl 5 rfl) ?_
  refine lv_iconst (v := 2) hx hb dL_law_1200 (by decide) ?_
  refine lv_iadd hx hb dL_law_1201 ?_
  refine va_sld hx hb hX hbl hbA hS (hin 2 (by decide)) dL_law_1202 ?_
  refine l_callM X (c_X12_token X.2.2.2.2.2.2.2.2.2.2.2.1 f2) wml_L_182 wq_X12_token rfl rfl rfl ⟨by decide, by decide⟩ dL_law_1203 hC hM hS ⟨by omega, by omega⟩ hsz rfl (Nat.le_of_ble_eq_true rfl) 1206 rfl (fun H locs hC hM hS => ?_)
  refine lv_istore (lv' := [(6, .int r6), (5, .int k5), (0, .ref b), (1, .ref (adC 0)), (2, .ref (adM 0)), (3, .ref (adC 91)), (4, .int x4)]) hx hb dL_law_1206 hl (by decide) rfl (fun ls hl => ?_)
  have hsz := hl.1
  refine lv_aload_n hx hb dL_law_1208 rfl (lv_at hl 4 rfl) ?_
  refine l_callM X (c_X12_thrown X.2.2.2.2.2.2.2.2.2.2.2.1 (show F_X12_thrown N aM1 = some (aM1 0 0, aM1) from rfl)) wml_L_128 wq_X12_thrown rfl rfl rfl ⟨by decide, by decide⟩ dL_law_1209 hC hM hS ⟨by omega, by omega⟩ hsz rfl (Nat.le_of_ble_eq_true rfl) 1212 rfl (fun H locs hC hM hS => ?_)
  refine lv_iload hx hb dL_law_1212 (lv_at hl 1 rfl) ?_
  refine lv_icmp_eq (tgt := 1219) hx hb dL_law_1214 (by decide) (fun _ => ?_) (fun ne => absurd f3 ne)
  refine lv_iload hx hb dL_law_1219 (lv_at hl 1 rfl) ?_
  refine lv_if_ne (tgt := 1236) hx hb dL_law_1221 (by decide) (fun _ => ?_) (fun k0 => ?_)
  · refine lv_goto (tgt := 2428) hx hb dL_law_1236 (by decide) ?_
    exact K aC1 aM1 hr H locs ls hC hM hS (lv_sub hl [2, 3, 4, 5, 6] rfl)
  · have f4 := f4 k0
    refine lv_aload_n hx hb dL_law_1224 rfl (lv_at hl 5 rfl) ?_
    refine lv_iconst (v := 0) hx hb dL_law_1225 (by decide) ?_
    refine va_lald hx hb X.2.2.2.2.2.1 hC 91 2 (xw_get lc91 EC_91) rfl (show vp_in 0 1 from (show ¬ ((0 : Int32) < 0 ∨ 1 ≤ Int32.toNatClampNeg 0) by decide)) dL_law_1226 ?_
    refine lv_iload hx hb dL_law_1227 (lv_at hl 0 rfl) ?_
    refine lv_i2l hx hb dL_law_1229 rfl ?_
    refine W.lcmp hx hb dL_law_1230 ?_
    refine lv_if_eq (tgt := 1236) hx hb dL_law_1231 (by decide) (fun _ => ?_) (fun ne => absurd (by rw [show aC1 91 (Int32.toNatClampNeg 0) = aC1 91 0 from rfl, f4]; exact l_cmp_self _) ne)
    refine lv_goto (tgt := 2428) hx hb dL_law_1236 (by decide) ?_
    exact K aC1 aM1 hr H locs ls hC hM hS (lv_sub hl [2, 3, 4, 5, 6] rfl)
def Sim_cell (N : Nat) (Rel : AH → AH → Prop) : Prop := ∀ (aC aM : AH), Rel aC aM → ∀ p1 p2 p3 : Int32, ∃ (k r : Int32) (aC1 aM1 : AH), F_L_cell N aC p1 p2 p3 = some (k, aC1) ∧ F_X12_cell N aM p1 p2 p3 = some (r, aM1) ∧ aM1 0 0 = k ∧ (k = 0 → aC1 91 0 = r) ∧ Rel aC1 aM1
theorem law_cell (X : LX p l s m b meth c D adC caC adM caM) (hX : va_X b L xs s s.heap) (hbl : b < s.heap.size) (hbA : ¬ (fun q : Nat => s.heap.size ≤ q) b) (hin : ∀ j : Int32, 0 ≤ j ∧ j ≤ 5 → vp_in (x4 + j) L) (hcs : cs + 3 ≤ 601024 ∧ sl + 18 ≤ 7293034) (hs : Sim_cell N Rel) (hrel : Rel aC aM) (K : ∀ aC1 aM1, Rel aC1 aM1 → LK p l e s m b below meth c D adC caC adM caM (cs + 3) (sl + 18) aC1 aM1 x4 2428) : LK p l e s m b below meth c D adC caC adM caM cs sl aC aM x4 1239 := by
  intro H locs ls hC hM hS hl
  have hx := X.1
  have hb := X.2.1
  have hsz := hl.1
  obtain ⟨k5, r6, aC1, aM1, f1, f2, f3, f4, hr⟩ := hs aC aM hrel (xs (Int32.toNatClampNeg (x4 + 1))) (xs (Int32.toNatClampNeg (x4 + 2))) (xs (Int32.toNatClampNeg (x4 + 3)))
  refine lv_aload_n hx hb dL_law_1239 rfl (lv_at hl 1 rfl) ?_
  refine lv_aload_n hx hb dL_law_1240 rfl (lv_at hl 0 rfl) ?_
  refine lv_iload hx hb dL_law_1241 (lv_at hl 4 rfl) ?_
  refine lv_iconst (v := 1) hx hb dL_law_1243 (by decide) ?_
  refine lv_iadd hx hb dL_law_1244 ?_
  refine va_sld hx hb hX hbl hbA hS (hin 1 (by decide)) dL_law_1245 ?_
  refine lv_aload_n hx hb dL_law_1246 rfl (lv_at hl 0 rfl) ?_
  refine lv_iload hx hb dL_law_1247 (lv_at hl 4 rfl) ?_
  refine lv_iconst (v := 2) hx hb dL_law_1249 (by decide) ?_
  refine lv_iadd hx hb dL_law_1250 ?_
  refine va_sld hx hb hX hbl hbA hS (hin 2 (by decide)) dL_law_1251 ?_
  refine lv_aload_n hx hb dL_law_1252 rfl (lv_at hl 0 rfl) ?_
  refine lv_iload hx hb dL_law_1253 (lv_at hl 4 rfl) ?_
  refine lv_iconst (v := 3) hx hb dL_law_1255 (by decide) ?_
  refine lv_iadd hx hb dL_law_1256 ?_
  refine va_sld hx hb hX hbl hbA hS (hin 3 (by decide)) dL_law_1257 ?_
  refine lv_aload_n hx hb dL_law_1258 rfl (lv_at hl 3 rfl) ?_
  refine l_callH (n := 5) X (c_L_cell X.2.2.2.2.2.2.2.2.2.2.1 X.2.2.2.2.2.2.2.2.2.1 f1) wml_L_183 wmt_L_cell wmn_L wmc_L_cell (by decide +kernel) rfl rfl rfl ⟨by decide, by decide⟩ dL_law_1259 hC hM hS ⟨by omega, by omega⟩ hsz rfl (Nat.le_of_ble_eq_true rfl) 1262 rfl (fun H locs hC hM hS => ?_)
  refine lv_istore (lv' := [(5, .int k5), (0, .ref b), (1, .ref (adC 0)), (2, .ref (adM 0)), (3, .ref (adC 91)), (4, .int x4)]) hx hb dL_law_1262 hl (by decide) rfl (fun ls hl => ?_)
  have hsz := hl.1
  refine lv_aload_n hx hb dL_law_1264 rfl (lv_at hl 3 rfl) ?_
  refine lv_aload_n hx hb dL_law_1265 rfl (lv_at hl 1 rfl) ?_
  refine lv_iload hx hb dL_law_1266 (lv_at hl 5 rfl) ?_
  refine lv_iconst (v := 1) hx hb dL_law_1268 (by decide) ?_
  refine lv_iadd hx hb dL_law_1269 ?_
  refine va_sld hx hb hX hbl hbA hS (hin 1 (by decide)) dL_law_1270 ?_
  refine lv_aload_n hx hb dL_law_1271 rfl (lv_at hl 1 rfl) ?_
  refine lv_iload hx hb dL_law_1272 (lv_at hl 5 rfl) ?_
  refine lv_iconst (v := 2) hx hb dL_law_1274 (by decide) ?_
  refine lv_iadd hx hb dL_law_1275 ?_
  refine va_sld hx hb hX hbl hbA hS (hin 2 (by decide)) dL_law_1276 ?_
  refine lv_aload_n hx hb dL_law_1277 rfl (lv_at hl 1 rfl) ?_
  refine lv_iload hx hb dL_law_1278 (lv_at hl 5 rfl) ?_
  refine lv_iconst (v := 3) hx hb dL_law_1280 (by decide) ?_
  refine lv_iadd hx hb dL_law_1281 ?_
  refine va_sld hx hb hX hbl hbA hS (hin 3 (by decide)) dL_law_1282 ?_
  refine l_callM X (c_X12_cell X.2.2.2.2.2.2.2.2.2.2.2.1 f2) wml_L_186 wq_X12_cell rfl rfl rfl ⟨by decide, by decide⟩ dL_law_1283 hC hM hS ⟨by omega, by omega⟩ hsz rfl (Nat.le_of_ble_eq_true rfl) 1286 rfl (fun H locs hC hM hS => ?_)
  refine lv_istore (lv' := [(6, .int r6), (5, .int k5), (0, .ref b), (1, .ref (adC 0)), (2, .ref (adM 0)), (3, .ref (adC 91)), (4, .int x4)]) hx hb dL_law_1286 hl (by decide) rfl (fun ls hl => ?_)
  have hsz := hl.1
  refine lv_aload_n hx hb dL_law_1288 rfl (lv_at hl 4 rfl) ?_
  refine l_callM X (c_X12_thrown X.2.2.2.2.2.2.2.2.2.2.2.1 (show F_X12_thrown N aM1 = some (aM1 0 0, aM1) from rfl)) wml_L_128 wq_X12_thrown rfl rfl rfl ⟨by decide, by decide⟩ dL_law_1289 hC hM hS ⟨by omega, by omega⟩ hsz rfl (Nat.le_of_ble_eq_true rfl) 1292 rfl (fun H locs hC hM hS => ?_)
  refine lv_iload hx hb dL_law_1292 (lv_at hl 1 rfl) ?_
  refine lv_icmp_eq (tgt := 1299) hx hb dL_law_1294 (by decide) (fun _ => ?_) (fun ne => absurd f3 ne)
  refine lv_iload hx hb dL_law_1299 (lv_at hl 1 rfl) ?_
  refine lv_if_ne (tgt := 1316) hx hb dL_law_1301 (by decide) (fun _ => ?_) (fun k0 => ?_)
  · refine lv_goto (tgt := 2428) hx hb dL_law_1316 (by decide) ?_
    exact K aC1 aM1 hr H locs ls hC hM hS (lv_sub hl [2, 3, 4, 5, 6] rfl)
  · have f4 := f4 k0
    refine lv_aload_n hx hb dL_law_1304 rfl (lv_at hl 5 rfl) ?_
    refine lv_iconst (v := 0) hx hb dL_law_1305 (by decide) ?_
    refine va_lald hx hb X.2.2.2.2.2.1 hC 91 2 (xw_get lc91 EC_91) rfl (show vp_in 0 1 from (show ¬ ((0 : Int32) < 0 ∨ 1 ≤ Int32.toNatClampNeg 0) by decide)) dL_law_1306 ?_
    refine lv_iload hx hb dL_law_1307 (lv_at hl 0 rfl) ?_
    refine lv_i2l hx hb dL_law_1309 rfl ?_
    refine W.lcmp hx hb dL_law_1310 ?_
    refine lv_if_eq (tgt := 1316) hx hb dL_law_1311 (by decide) (fun _ => ?_) (fun ne => absurd (by rw [show aC1 91 (Int32.toNatClampNeg 0) = aC1 91 0 from rfl, f4]; exact l_cmp_self _) ne)
    refine lv_goto (tgt := 2428) hx hb dL_law_1316 (by decide) ?_
    exact K aC1 aM1 hr H locs ls hC hM hS (lv_sub hl [2, 3, 4, 5, 6] rfl)
def Sim_rest (N : Nat) (Rel : AH → AH → Prop) : Prop := ∀ (aC aM : AH), Rel aC aM → ∀ p1 p2 : Int32, ∃ (k r : Int32) (aC1 aM1 : AH), F_L_rest N aC p1 p2 = some (k, aC1) ∧ F_X12_rest N aM p1 p2 = some (r, aM1) ∧ aM1 0 0 = k ∧ (k = 0 → aC1 91 0 = r) ∧ Rel aC1 aM1
theorem law_rest (X : LX p l s m b meth c D adC caC adM caM) (hX : va_X b L xs s s.heap) (hbl : b < s.heap.size) (hbA : ¬ (fun q : Nat => s.heap.size ≤ q) b) (hin : ∀ j : Int32, 0 ≤ j ∧ j ≤ 5 → vp_in (x4 + j) L) (hcs : cs + 3 ≤ 601024 ∧ sl + 18 ≤ 7293034) (hs : Sim_rest N Rel) (hrel : Rel aC aM) (K : ∀ aC1 aM1, Rel aC1 aM1 → LK p l e s m b below meth c D adC caC adM caM (cs + 3) (sl + 18) aC1 aM1 x4 2428) : LK p l e s m b below meth c D adC caC adM caM cs sl aC aM x4 1319 := by
  intro H locs ls hC hM hS hl
  have hx := X.1
  have hb := X.2.1
  have hsz := hl.1
  obtain ⟨k5, r6, aC1, aM1, f1, f2, f3, f4, hr⟩ := hs aC aM hrel (xs (Int32.toNatClampNeg (x4 + 1))) (xs (Int32.toNatClampNeg (x4 + 2)))
  refine lv_aload_n hx hb dL_law_1319 rfl (lv_at hl 1 rfl) ?_
  refine lv_aload_n hx hb dL_law_1320 rfl (lv_at hl 0 rfl) ?_
  refine lv_iload hx hb dL_law_1321 (lv_at hl 4 rfl) ?_
  refine lv_iconst (v := 1) hx hb dL_law_1323 (by decide) ?_
  refine lv_iadd hx hb dL_law_1324 ?_
  refine va_sld hx hb hX hbl hbA hS (hin 1 (by decide)) dL_law_1325 ?_
  refine lv_aload_n hx hb dL_law_1326 rfl (lv_at hl 0 rfl) ?_
  refine lv_iload hx hb dL_law_1327 (lv_at hl 4 rfl) ?_
  refine lv_iconst (v := 2) hx hb dL_law_1329 (by decide) ?_
  refine lv_iadd hx hb dL_law_1330 ?_
  refine va_sld hx hb hX hbl hbA hS (hin 2 (by decide)) dL_law_1331 ?_
  refine lv_aload_n hx hb dL_law_1332 rfl (lv_at hl 3 rfl) ?_
  refine l_callH (n := 4) X (c_L_rest X.2.2.2.2.2.2.2.2.2.2.1 X.2.2.2.2.2.2.2.2.2.1 f1) wml_L_187 wmt_L_rest wmn_L wmc_L_rest (by decide +kernel) rfl rfl rfl ⟨by decide, by decide⟩ dL_law_1333 hC hM hS ⟨by omega, by omega⟩ hsz rfl (Nat.le_of_ble_eq_true rfl) 1336 rfl (fun H locs hC hM hS => ?_)
  refine lv_istore (lv' := [(5, .int k5), (0, .ref b), (1, .ref (adC 0)), (2, .ref (adM 0)), (3, .ref (adC 91)), (4, .int x4)]) hx hb dL_law_1336 hl (by decide) rfl (fun ls hl => ?_)
  have hsz := hl.1
  refine lv_aload_n hx hb dL_law_1338 rfl (lv_at hl 3 rfl) ?_
  refine lv_aload_n hx hb dL_law_1339 rfl (lv_at hl 1 rfl) ?_
  refine lv_iload hx hb dL_law_1340 (lv_at hl 5 rfl) ?_
  refine lv_iconst (v := 1) hx hb dL_law_1342 (by decide) ?_
  refine lv_iadd hx hb dL_law_1343 ?_
  refine va_sld hx hb hX hbl hbA hS (hin 1 (by decide)) dL_law_1344 ?_
  refine lv_aload_n hx hb dL_law_1345 rfl (lv_at hl 1 rfl) ?_
  refine lv_iload hx hb dL_law_1346 (lv_at hl 5 rfl) ?_
  refine lv_iconst (v := 2) hx hb dL_law_1348 (by decide) ?_
  refine lv_iadd hx hb dL_law_1349 ?_
  refine va_sld hx hb hX hbl hbA hS (hin 2 (by decide)) dL_law_1350 ?_
  refine l_callM X (c_X12_rest X.2.2.2.2.2.2.2.2.2.2.2.1 f2) wml_L_189 wq_X12_rest rfl rfl rfl ⟨by decide, by decide⟩ dL_law_1351 hC hM hS ⟨by omega, by omega⟩ hsz rfl (Nat.le_of_ble_eq_true rfl) 1354 rfl (fun H locs hC hM hS => ?_)
  refine lv_istore (lv' := [(6, .int r6), (5, .int k5), (0, .ref b), (1, .ref (adC 0)), (2, .ref (adM 0)), (3, .ref (adC 91)), (4, .int x4)]) hx hb dL_law_1354 hl (by decide) rfl (fun ls hl => ?_)
  have hsz := hl.1
  refine lv_aload_n hx hb dL_law_1356 rfl (lv_at hl 4 rfl) ?_
  refine l_callM X (c_X12_thrown X.2.2.2.2.2.2.2.2.2.2.2.1 (show F_X12_thrown N aM1 = some (aM1 0 0, aM1) from rfl)) wml_L_128 wq_X12_thrown rfl rfl rfl ⟨by decide, by decide⟩ dL_law_1357 hC hM hS ⟨by omega, by omega⟩ hsz rfl (Nat.le_of_ble_eq_true rfl) 1360 rfl (fun H locs hC hM hS => ?_)
  refine lv_iload hx hb dL_law_1360 (lv_at hl 1 rfl) ?_
  refine lv_icmp_eq (tgt := 1367) hx hb dL_law_1362 (by decide) (fun _ => ?_) (fun ne => absurd f3 ne)
  refine lv_iload hx hb dL_law_1367 (lv_at hl 1 rfl) ?_
  refine lv_if_ne (tgt := 1384) hx hb dL_law_1369 (by decide) (fun _ => ?_) (fun k0 => ?_)
  · refine lv_goto (tgt := 2428) hx hb dL_law_1384 (by decide) ?_
    exact K aC1 aM1 hr H locs ls hC hM hS (lv_sub hl [2, 3, 4, 5, 6] rfl)
  · have f4 := f4 k0
    refine lv_aload_n hx hb dL_law_1372 rfl (lv_at hl 5 rfl) ?_
    refine lv_iconst (v := 0) hx hb dL_law_1373 (by decide) ?_
    refine va_lald hx hb X.2.2.2.2.2.1 hC 91 2 (xw_get lc91 EC_91) rfl (show vp_in 0 1 from (show ¬ ((0 : Int32) < 0 ∨ 1 ≤ Int32.toNatClampNeg 0) by decide)) dL_law_1374 ?_
    refine lv_iload hx hb dL_law_1375 (lv_at hl 0 rfl) ?_
    refine lv_i2l hx hb dL_law_1377 rfl ?_
    refine W.lcmp hx hb dL_law_1378 ?_
    refine lv_if_eq (tgt := 1384) hx hb dL_law_1379 (by decide) (fun _ => ?_) (fun ne => absurd (by rw [show aC1 91 (Int32.toNatClampNeg 0) = aC1 91 0 from rfl, f4]; exact l_cmp_self _) ne)
    refine lv_goto (tgt := 2428) hx hb dL_law_1384 (by decide) ?_
    exact K aC1 aM1 hr H locs ls hC hM hS (lv_sub hl [2, 3, 4, 5, 6] rfl)
def Sim_best (N : Nat) (Rel : AH → AH → Prop) : Prop := ∀ (aC aM : AH), Rel aC aM → ∀ p1 p2 p3 : Int32, ∃ (k r : Int32) (aC1 aM1 : AH), F_L_best N aC p1 p2 p3 = some (k, aC1) ∧ F_X12_best N aM p1 p2 p3 = some (r, aM1) ∧ aM1 0 0 = k ∧ (k = 0 → aC1 91 0 = r) ∧ Rel aC1 aM1
theorem law_best (X : LX p l s m b meth c D adC caC adM caM) (hX : va_X b L xs s s.heap) (hbl : b < s.heap.size) (hbA : ¬ (fun q : Nat => s.heap.size ≤ q) b) (hin : ∀ j : Int32, 0 ≤ j ∧ j ≤ 5 → vp_in (x4 + j) L) (hcs : cs + 3 ≤ 601024 ∧ sl + 18 ≤ 7293034) (hs : Sim_best N Rel) (hrel : Rel aC aM) (K : ∀ aC1 aM1, Rel aC1 aM1 → LK p l e s m b below meth c D adC caC adM caM (cs + 3) (sl + 18) aC1 aM1 x4 2428) : LK p l e s m b below meth c D adC caC adM caM cs sl aC aM x4 1387 := by
  intro H locs ls hC hM hS hl
  have hx := X.1
  have hb := X.2.1
  have hsz := hl.1
  obtain ⟨k5, r6, aC1, aM1, f1, f2, f3, f4, hr⟩ := hs aC aM hrel (xs (Int32.toNatClampNeg (x4 + 1))) (xs (Int32.toNatClampNeg (x4 + 2))) (xs (Int32.toNatClampNeg (x4 + 3)))
  refine lv_aload_n hx hb dL_law_1387 rfl (lv_at hl 1 rfl) ?_
  refine lv_aload_n hx hb dL_law_1388 rfl (lv_at hl 0 rfl) ?_
  refine lv_iload hx hb dL_law_1389 (lv_at hl 4 rfl) ?_
  refine lv_iconst (v := 1) hx hb dL_law_1391 (by decide) ?_
  refine lv_iadd hx hb dL_law_1392 ?_
  refine va_sld hx hb hX hbl hbA hS (hin 1 (by decide)) dL_law_1393 ?_
  refine lv_aload_n hx hb dL_law_1394 rfl (lv_at hl 0 rfl) ?_
  refine lv_iload hx hb dL_law_1395 (lv_at hl 4 rfl) ?_
  refine lv_iconst (v := 2) hx hb dL_law_1397 (by decide) ?_
  refine lv_iadd hx hb dL_law_1398 ?_
  refine va_sld hx hb hX hbl hbA hS (hin 2 (by decide)) dL_law_1399 ?_
  refine lv_aload_n hx hb dL_law_1400 rfl (lv_at hl 0 rfl) ?_
  refine lv_iload hx hb dL_law_1401 (lv_at hl 4 rfl) ?_
  refine lv_iconst (v := 3) hx hb dL_law_1403 (by decide) ?_
  refine lv_iadd hx hb dL_law_1404 ?_
  refine va_sld hx hb hX hbl hbA hS (hin 3 (by decide)) dL_law_1405 ?_
  refine lv_aload_n hx hb dL_law_1406 rfl (lv_at hl 3 rfl) ?_
  refine l_callH (n := 5) X (c_L_best X.2.2.2.2.2.2.2.2.2.2.1 X.2.2.2.2.2.2.2.2.2.1 f1) wml_L_190 wmt_L_best wmn_L wmc_L_best (by decide +kernel) rfl rfl rfl ⟨by decide, by decide⟩ dL_law_1407 hC hM hS ⟨by omega, by omega⟩ hsz rfl (Nat.le_of_ble_eq_true rfl) 1410 rfl (fun H locs hC hM hS => ?_)
  refine lv_istore (lv' := [(5, .int k5), (0, .ref b), (1, .ref (adC 0)), (2, .ref (adM 0)), (3, .ref (adC 91)), (4, .int x4)]) hx hb dL_law_1410 hl (by decide) rfl (fun ls hl => ?_)
  have hsz := hl.1
  refine lv_aload_n hx hb dL_law_1412 rfl (lv_at hl 3 rfl) ?_
  refine lv_aload_n hx hb dL_law_1413 rfl (lv_at hl 1 rfl) ?_
  refine lv_iload hx hb dL_law_1414 (lv_at hl 5 rfl) ?_
  refine lv_iconst (v := 1) hx hb dL_law_1416 (by decide) ?_
  refine lv_iadd hx hb dL_law_1417 ?_
  refine va_sld hx hb hX hbl hbA hS (hin 1 (by decide)) dL_law_1418 ?_
  refine lv_aload_n hx hb dL_law_1419 rfl (lv_at hl 1 rfl) ?_
  refine lv_iload hx hb dL_law_1420 (lv_at hl 5 rfl) ?_
  refine lv_iconst (v := 2) hx hb dL_law_1422 (by decide) ?_
  refine lv_iadd hx hb dL_law_1423 ?_
  refine va_sld hx hb hX hbl hbA hS (hin 2 (by decide)) dL_law_1424 ?_
  refine lv_aload_n hx hb dL_law_1425 rfl (lv_at hl 1 rfl) ?_
  refine lv_iload hx hb dL_law_1426 (lv_at hl 5 rfl) ?_
  refine lv_iconst (v := 3) hx hb dL_law_1428 (by decide) ?_
  refine lv_iadd hx hb dL_law_1429 ?_
  refine va_sld hx hb hX hbl hbA hS (hin 3 (by decide)) dL_law_1430 ?_
  refine l_callM X (c_X12_best X.2.2.2.2.2.2.2.2.2.2.2.1 f2) wml_L_192 wq_X12_best rfl rfl rfl ⟨by decide, by decide⟩ dL_law_1431 hC hM hS ⟨by omega, by omega⟩ hsz rfl (Nat.le_of_ble_eq_true rfl) 1434 rfl (fun H locs hC hM hS => ?_)
  refine lv_istore (lv' := [(6, .int r6), (5, .int k5), (0, .ref b), (1, .ref (adC 0)), (2, .ref (adM 0)), (3, .ref (adC 91)), (4, .int x4)]) hx hb dL_law_1434 hl (by decide) rfl (fun ls hl => ?_)
  have hsz := hl.1
  refine lv_aload_n hx hb dL_law_1436 rfl (lv_at hl 4 rfl) ?_
  refine l_callM X (c_X12_thrown X.2.2.2.2.2.2.2.2.2.2.2.1 (show F_X12_thrown N aM1 = some (aM1 0 0, aM1) from rfl)) wml_L_128 wq_X12_thrown rfl rfl rfl ⟨by decide, by decide⟩ dL_law_1437 hC hM hS ⟨by omega, by omega⟩ hsz rfl (Nat.le_of_ble_eq_true rfl) 1440 rfl (fun H locs hC hM hS => ?_)
  refine lv_iload hx hb dL_law_1440 (lv_at hl 1 rfl) ?_
  refine lv_icmp_eq (tgt := 1447) hx hb dL_law_1442 (by decide) (fun _ => ?_) (fun ne => absurd f3 ne)
  refine lv_iload hx hb dL_law_1447 (lv_at hl 1 rfl) ?_
  refine lv_if_ne (tgt := 1464) hx hb dL_law_1449 (by decide) (fun _ => ?_) (fun k0 => ?_)
  · refine lv_goto (tgt := 2428) hx hb dL_law_1464 (by decide) ?_
    exact K aC1 aM1 hr H locs ls hC hM hS (lv_sub hl [2, 3, 4, 5, 6] rfl)
  · have f4 := f4 k0
    refine lv_aload_n hx hb dL_law_1452 rfl (lv_at hl 5 rfl) ?_
    refine lv_iconst (v := 0) hx hb dL_law_1453 (by decide) ?_
    refine va_lald hx hb X.2.2.2.2.2.1 hC 91 2 (xw_get lc91 EC_91) rfl (show vp_in 0 1 from (show ¬ ((0 : Int32) < 0 ∨ 1 ≤ Int32.toNatClampNeg 0) by decide)) dL_law_1454 ?_
    refine lv_iload hx hb dL_law_1455 (lv_at hl 0 rfl) ?_
    refine lv_i2l hx hb dL_law_1457 rfl ?_
    refine W.lcmp hx hb dL_law_1458 ?_
    refine lv_if_eq (tgt := 1464) hx hb dL_law_1459 (by decide) (fun _ => ?_) (fun ne => absurd (by rw [show aC1 91 (Int32.toNatClampNeg 0) = aC1 91 0 from rfl, f4]; exact l_cmp_self _) ne)
    refine lv_goto (tgt := 2428) hx hb dL_law_1464 (by decide) ?_
    exact K aC1 aM1 hr H locs ls hC hM hS (lv_sub hl [2, 3, 4, 5, 6] rfl)
def Sim_price (N : Nat) (Rel : AH → AH → Prop) : Prop := ∀ (aC aM : AH), Rel aC aM → ∀ p1 p2 : Int32, ∃ (k r : Int32) (aC1 aM1 : AH), F_L_price N aC p1 p2 = some (k, aC1) ∧ F_X12_price N aM p1 p2 = some (r, aM1) ∧ aM1 0 0 = k ∧ (k = 0 → aC1 91 0 = r) ∧ Rel aC1 aM1
theorem law_price (X : LX p l s m b meth c D adC caC adM caM) (hX : va_X b L xs s s.heap) (hbl : b < s.heap.size) (hbA : ¬ (fun q : Nat => s.heap.size ≤ q) b) (hin : ∀ j : Int32, 0 ≤ j ∧ j ≤ 5 → vp_in (x4 + j) L) (hcs : cs + 3 ≤ 601024 ∧ sl + 18 ≤ 7293034) (hs : Sim_price N Rel) (hrel : Rel aC aM) (K : ∀ aC1 aM1, Rel aC1 aM1 → LK p l e s m b below meth c D adC caC adM caM (cs + 3) (sl + 18) aC1 aM1 x4 2428) : LK p l e s m b below meth c D adC caC adM caM cs sl aC aM x4 1467 := by
  intro H locs ls hC hM hS hl
  have hx := X.1
  have hb := X.2.1
  have hsz := hl.1
  obtain ⟨k5, r6, aC1, aM1, f1, f2, f3, f4, hr⟩ := hs aC aM hrel (xs (Int32.toNatClampNeg (x4 + 1))) (xs (Int32.toNatClampNeg (x4 + 2)))
  refine lv_aload_n hx hb dL_law_1467 rfl (lv_at hl 1 rfl) ?_
  refine lv_aload_n hx hb dL_law_1468 rfl (lv_at hl 0 rfl) ?_
  refine lv_iload hx hb dL_law_1469 (lv_at hl 4 rfl) ?_
  refine lv_iconst (v := 1) hx hb dL_law_1471 (by decide) ?_
  refine lv_iadd hx hb dL_law_1472 ?_
  refine va_sld hx hb hX hbl hbA hS (hin 1 (by decide)) dL_law_1473 ?_
  refine lv_aload_n hx hb dL_law_1474 rfl (lv_at hl 0 rfl) ?_
  refine lv_iload hx hb dL_law_1475 (lv_at hl 4 rfl) ?_
  refine lv_iconst (v := 2) hx hb dL_law_1477 (by decide) ?_
  refine lv_iadd hx hb dL_law_1478 ?_
  refine va_sld hx hb hX hbl hbA hS (hin 2 (by decide)) dL_law_1479 ?_
  refine lv_aload_n hx hb dL_law_1480 rfl (lv_at hl 3 rfl) ?_
  refine l_callH (n := 4) X (c_L_price X.2.2.2.2.2.2.2.2.2.2.1 X.2.2.2.2.2.2.2.2.2.1 f1) wml_L_193 wmt_L_price wmn_L wmc_L_price (by decide +kernel) rfl rfl rfl ⟨by decide, by decide⟩ dL_law_1481 hC hM hS ⟨by omega, by omega⟩ hsz rfl (Nat.le_of_ble_eq_true rfl) 1484 rfl (fun H locs hC hM hS => ?_)
  refine lv_istore (lv' := [(5, .int k5), (0, .ref b), (1, .ref (adC 0)), (2, .ref (adM 0)), (3, .ref (adC 91)), (4, .int x4)]) hx hb dL_law_1484 hl (by decide) rfl (fun ls hl => ?_)
  have hsz := hl.1
  refine lv_aload_n hx hb dL_law_1486 rfl (lv_at hl 3 rfl) ?_
  refine lv_aload_n hx hb dL_law_1487 rfl (lv_at hl 1 rfl) ?_
  refine lv_iload hx hb dL_law_1488 (lv_at hl 5 rfl) ?_
  refine lv_iconst (v := 1) hx hb dL_law_1490 (by decide) ?_
  refine lv_iadd hx hb dL_law_1491 ?_
  refine va_sld hx hb hX hbl hbA hS (hin 1 (by decide)) dL_law_1492 ?_
  refine lv_aload_n hx hb dL_law_1493 rfl (lv_at hl 1 rfl) ?_
  refine lv_iload hx hb dL_law_1494 (lv_at hl 5 rfl) ?_
  refine lv_iconst (v := 2) hx hb dL_law_1496 (by decide) ?_
  refine lv_iadd hx hb dL_law_1497 ?_
  refine va_sld hx hb hX hbl hbA hS (hin 2 (by decide)) dL_law_1498 ?_
  refine l_callM X (c_X12_price X.2.2.2.2.2.2.2.2.2.2.2.1 f2) wml_L_195 wq_X12_price rfl rfl rfl ⟨by decide, by decide⟩ dL_law_1499 hC hM hS ⟨by omega, by omega⟩ hsz rfl (Nat.le_of_ble_eq_true rfl) 1502 rfl (fun H locs hC hM hS => ?_)
  refine lv_istore (lv' := [(6, .int r6), (5, .int k5), (0, .ref b), (1, .ref (adC 0)), (2, .ref (adM 0)), (3, .ref (adC 91)), (4, .int x4)]) hx hb dL_law_1502 hl (by decide) rfl (fun ls hl => ?_)
  have hsz := hl.1
  refine lv_aload_n hx hb dL_law_1504 rfl (lv_at hl 4 rfl) ?_
  refine l_callM X (c_X12_thrown X.2.2.2.2.2.2.2.2.2.2.2.1 (show F_X12_thrown N aM1 = some (aM1 0 0, aM1) from rfl)) wml_L_128 wq_X12_thrown rfl rfl rfl ⟨by decide, by decide⟩ dL_law_1505 hC hM hS ⟨by omega, by omega⟩ hsz rfl (Nat.le_of_ble_eq_true rfl) 1508 rfl (fun H locs hC hM hS => ?_)
  refine lv_iload hx hb dL_law_1508 (lv_at hl 1 rfl) ?_
  refine lv_icmp_eq (tgt := 1515) hx hb dL_law_1510 (by decide) (fun _ => ?_) (fun ne => absurd f3 ne)
  refine lv_iload hx hb dL_law_1515 (lv_at hl 1 rfl) ?_
  refine lv_if_ne (tgt := 1532) hx hb dL_law_1517 (by decide) (fun _ => ?_) (fun k0 => ?_)
  · refine lv_goto (tgt := 2428) hx hb dL_law_1532 (by decide) ?_
    exact K aC1 aM1 hr H locs ls hC hM hS (lv_sub hl [2, 3, 4, 5, 6] rfl)
  · have f4 := f4 k0
    refine lv_aload_n hx hb dL_law_1520 rfl (lv_at hl 5 rfl) ?_
    refine lv_iconst (v := 0) hx hb dL_law_1521 (by decide) ?_
    refine va_lald hx hb X.2.2.2.2.2.1 hC 91 2 (xw_get lc91 EC_91) rfl (show vp_in 0 1 from (show ¬ ((0 : Int32) < 0 ∨ 1 ≤ Int32.toNatClampNeg 0) by decide)) dL_law_1522 ?_
    refine lv_iload hx hb dL_law_1523 (lv_at hl 0 rfl) ?_
    refine lv_i2l hx hb dL_law_1525 rfl ?_
    refine W.lcmp hx hb dL_law_1526 ?_
    refine lv_if_eq (tgt := 1532) hx hb dL_law_1527 (by decide) (fun _ => ?_) (fun ne => absurd (by rw [show aC1 91 (Int32.toNatClampNeg 0) = aC1 91 0 from rfl, f4]; exact l_cmp_self _) ne)
    refine lv_goto (tgt := 2428) hx hb dL_law_1532 (by decide) ?_
    exact K aC1 aM1 hr H locs ls hC hM hS (lv_sub hl [2, 3, 4, 5, 6] rfl)
def Sim_within (N : Nat) (Rel : AH → AH → Prop) : Prop := ∀ (aC aM : AH), Rel aC aM → ∀ p1 p2 : Int32, ∃ (k r : Int32) (aC1 aM1 : AH), F_L_within N aC p1 p2 = some (k, aC1) ∧ F_X12_within N aM p1 p2 = some (r, aM1) ∧ aM1 0 0 = k ∧ (k = 0 → aC1 91 0 = r) ∧ Rel aC1 aM1
theorem law_within (X : LX p l s m b meth c D adC caC adM caM) (hX : va_X b L xs s s.heap) (hbl : b < s.heap.size) (hbA : ¬ (fun q : Nat => s.heap.size ≤ q) b) (hin : ∀ j : Int32, 0 ≤ j ∧ j ≤ 5 → vp_in (x4 + j) L) (hcs : cs + 3 ≤ 601024 ∧ sl + 18 ≤ 7293034) (hs : Sim_within N Rel) (hrel : Rel aC aM) (K : ∀ aC1 aM1, Rel aC1 aM1 → LK p l e s m b below meth c D adC caC adM caM (cs + 3) (sl + 18) aC1 aM1 x4 2428) : LK p l e s m b below meth c D adC caC adM caM cs sl aC aM x4 1535 := by
  intro H locs ls hC hM hS hl
  have hx := X.1
  have hb := X.2.1
  have hsz := hl.1
  obtain ⟨k5, r6, aC1, aM1, f1, f2, f3, f4, hr⟩ := hs aC aM hrel (xs (Int32.toNatClampNeg (x4 + 1))) (xs (Int32.toNatClampNeg (x4 + 2)))
  refine lv_aload_n hx hb dL_law_1535 rfl (lv_at hl 1 rfl) ?_
  refine lv_aload_n hx hb dL_law_1536 rfl (lv_at hl 0 rfl) ?_
  refine lv_iload hx hb dL_law_1537 (lv_at hl 4 rfl) ?_
  refine lv_iconst (v := 1) hx hb dL_law_1539 (by decide) ?_
  refine lv_iadd hx hb dL_law_1540 ?_
  refine va_sld hx hb hX hbl hbA hS (hin 1 (by decide)) dL_law_1541 ?_
  refine lv_aload_n hx hb dL_law_1542 rfl (lv_at hl 0 rfl) ?_
  refine lv_iload hx hb dL_law_1543 (lv_at hl 4 rfl) ?_
  refine lv_iconst (v := 2) hx hb dL_law_1545 (by decide) ?_
  refine lv_iadd hx hb dL_law_1546 ?_
  refine va_sld hx hb hX hbl hbA hS (hin 2 (by decide)) dL_law_1547 ?_
  refine lv_aload_n hx hb dL_law_1548 rfl (lv_at hl 3 rfl) ?_
  refine l_callH (n := 4) X (c_L_within X.2.2.2.2.2.2.2.2.2.2.1 X.2.2.2.2.2.2.2.2.2.1 f1) wml_L_196 wmt_L_within wmn_L wmc_L_within (by decide +kernel) rfl rfl rfl ⟨by decide, by decide⟩ dL_law_1549 hC hM hS ⟨by omega, by omega⟩ hsz rfl (Nat.le_of_ble_eq_true rfl) 1552 rfl (fun H locs hC hM hS => ?_)
  refine lv_istore (lv' := [(5, .int k5), (0, .ref b), (1, .ref (adC 0)), (2, .ref (adM 0)), (3, .ref (adC 91)), (4, .int x4)]) hx hb dL_law_1552 hl (by decide) rfl (fun ls hl => ?_)
  have hsz := hl.1
  refine lv_aload_n hx hb dL_law_1554 rfl (lv_at hl 3 rfl) ?_
  refine lv_aload_n hx hb dL_law_1555 rfl (lv_at hl 1 rfl) ?_
  refine lv_iload hx hb dL_law_1556 (lv_at hl 5 rfl) ?_
  refine lv_iconst (v := 1) hx hb dL_law_1558 (by decide) ?_
  refine lv_iadd hx hb dL_law_1559 ?_
  refine va_sld hx hb hX hbl hbA hS (hin 1 (by decide)) dL_law_1560 ?_
  refine lv_aload_n hx hb dL_law_1561 rfl (lv_at hl 1 rfl) ?_
  refine lv_iload hx hb dL_law_1562 (lv_at hl 5 rfl) ?_
  refine lv_iconst (v := 2) hx hb dL_law_1564 (by decide) ?_
  refine lv_iadd hx hb dL_law_1565 ?_
  refine va_sld hx hb hX hbl hbA hS (hin 2 (by decide)) dL_law_1566 ?_
  refine l_callM X (c_X12_within X.2.2.2.2.2.2.2.2.2.2.2.1 f2) wml_L_198 wq_X12_within rfl rfl rfl ⟨by decide, by decide⟩ dL_law_1567 hC hM hS ⟨by omega, by omega⟩ hsz rfl (Nat.le_of_ble_eq_true rfl) 1570 rfl (fun H locs hC hM hS => ?_)
  refine lv_istore (lv' := [(6, .int r6), (5, .int k5), (0, .ref b), (1, .ref (adC 0)), (2, .ref (adM 0)), (3, .ref (adC 91)), (4, .int x4)]) hx hb dL_law_1570 hl (by decide) rfl (fun ls hl => ?_)
  have hsz := hl.1
  refine lv_aload_n hx hb dL_law_1572 rfl (lv_at hl 4 rfl) ?_
  refine l_callM X (c_X12_thrown X.2.2.2.2.2.2.2.2.2.2.2.1 (show F_X12_thrown N aM1 = some (aM1 0 0, aM1) from rfl)) wml_L_128 wq_X12_thrown rfl rfl rfl ⟨by decide, by decide⟩ dL_law_1573 hC hM hS ⟨by omega, by omega⟩ hsz rfl (Nat.le_of_ble_eq_true rfl) 1576 rfl (fun H locs hC hM hS => ?_)
  refine lv_iload hx hb dL_law_1576 (lv_at hl 1 rfl) ?_
  refine lv_icmp_eq (tgt := 1583) hx hb dL_law_1578 (by decide) (fun _ => ?_) (fun ne => absurd f3 ne)
  refine lv_iload hx hb dL_law_1583 (lv_at hl 1 rfl) ?_
  refine lv_if_ne (tgt := 1600) hx hb dL_law_1585 (by decide) (fun _ => ?_) (fun k0 => ?_)
  · refine lv_goto (tgt := 2428) hx hb dL_law_1600 (by decide) ?_
    exact K aC1 aM1 hr H locs ls hC hM hS (lv_sub hl [2, 3, 4, 5, 6] rfl)
  · have f4 := f4 k0
    refine lv_aload_n hx hb dL_law_1588 rfl (lv_at hl 5 rfl) ?_
    refine lv_iconst (v := 0) hx hb dL_law_1589 (by decide) ?_
    refine va_lald hx hb X.2.2.2.2.2.1 hC 91 2 (xw_get lc91 EC_91) rfl (show vp_in 0 1 from (show ¬ ((0 : Int32) < 0 ∨ 1 ≤ Int32.toNatClampNeg 0) by decide)) dL_law_1590 ?_
    refine lv_iload hx hb dL_law_1591 (lv_at hl 0 rfl) ?_
    refine lv_i2l hx hb dL_law_1593 rfl ?_
    refine W.lcmp hx hb dL_law_1594 ?_
    refine lv_if_eq (tgt := 1600) hx hb dL_law_1595 (by decide) (fun _ => ?_) (fun ne => absurd (by rw [show aC1 91 (Int32.toNatClampNeg 0) = aC1 91 0 from rfl, f4]; exact l_cmp_self _) ne)
    refine lv_goto (tgt := 2428) hx hb dL_law_1600 (by decide) ?_
    exact K aC1 aM1 hr H locs ls hC hM hS (lv_sub hl [2, 3, 4, 5, 6] rfl)
def Sim_mended (N : Nat) (Rel : AH → AH → Prop) : Prop := ∀ (aC aM : AH), Rel aC aM → ∀ p1 p2 : Int32, ∃ (k r : Int32) (aC1 aM1 : AH), F_L_mended N aC p1 p2 = some (k, aC1) ∧ F_X12_mended N aM p1 p2 = some (r, aM1) ∧ aM1 0 0 = k ∧ (k = 0 → aC1 91 0 = r) ∧ Rel aC1 aM1
theorem law_mended (X : LX p l s m b meth c D adC caC adM caM) (hX : va_X b L xs s s.heap) (hbl : b < s.heap.size) (hbA : ¬ (fun q : Nat => s.heap.size ≤ q) b) (hin : ∀ j : Int32, 0 ≤ j ∧ j ≤ 5 → vp_in (x4 + j) L) (hcs : cs + 3 ≤ 601024 ∧ sl + 18 ≤ 7293034) (hs : Sim_mended N Rel) (hrel : Rel aC aM) (K : ∀ aC1 aM1, Rel aC1 aM1 → LK p l e s m b below meth c D adC caC adM caM (cs + 3) (sl + 18) aC1 aM1 x4 2428) : LK p l e s m b below meth c D adC caC adM caM cs sl aC aM x4 1603 := by
  intro H locs ls hC hM hS hl
  have hx := X.1
  have hb := X.2.1
  have hsz := hl.1
  obtain ⟨k5, r6, aC1, aM1, f1, f2, f3, f4, hr⟩ := hs aC aM hrel (xs (Int32.toNatClampNeg (x4 + 1))) (xs (Int32.toNatClampNeg (x4 + 2)))
  refine lv_aload_n hx hb dL_law_1603 rfl (lv_at hl 1 rfl) ?_
  refine lv_aload_n hx hb dL_law_1604 rfl (lv_at hl 0 rfl) ?_
  refine lv_iload hx hb dL_law_1605 (lv_at hl 4 rfl) ?_
  refine lv_iconst (v := 1) hx hb dL_law_1607 (by decide) ?_
  refine lv_iadd hx hb dL_law_1608 ?_
  refine va_sld hx hb hX hbl hbA hS (hin 1 (by decide)) dL_law_1609 ?_
  refine lv_aload_n hx hb dL_law_1610 rfl (lv_at hl 0 rfl) ?_
  refine lv_iload hx hb dL_law_1611 (lv_at hl 4 rfl) ?_
  refine lv_iconst (v := 2) hx hb dL_law_1613 (by decide) ?_
  refine lv_iadd hx hb dL_law_1614 ?_
  refine va_sld hx hb hX hbl hbA hS (hin 2 (by decide)) dL_law_1615 ?_
  refine lv_aload_n hx hb dL_law_1616 rfl (lv_at hl 3 rfl) ?_
  refine l_callH (n := 4) X (c_L_mended X.2.2.2.2.2.2.2.2.2.2.1 X.2.2.2.2.2.2.2.2.2.1 f1) wml_L_199 wmt_L_mended wmn_L wmc_L_mended (by decide +kernel) rfl rfl rfl ⟨by decide, by decide⟩ dL_law_1617 hC hM hS ⟨by omega, by omega⟩ hsz rfl (Nat.le_of_ble_eq_true rfl) 1620 rfl (fun H locs hC hM hS => ?_)
  refine lv_istore (lv' := [(5, .int k5), (0, .ref b), (1, .ref (adC 0)), (2, .ref (adM 0)), (3, .ref (adC 91)), (4, .int x4)]) hx hb dL_law_1620 hl (by decide) rfl (fun ls hl => ?_)
  have hsz := hl.1
  refine lv_aload_n hx hb dL_law_1622 rfl (lv_at hl 3 rfl) ?_
  refine lv_aload_n hx hb dL_law_1623 rfl (lv_at hl 1 rfl) ?_
  refine lv_iload hx hb dL_law_1624 (lv_at hl 5 rfl) ?_
  refine lv_iconst (v := 1) hx hb dL_law_1626 (by decide) ?_
  refine lv_iadd hx hb dL_law_1627 ?_
  refine va_sld hx hb hX hbl hbA hS (hin 1 (by decide)) dL_law_1628 ?_
  refine lv_aload_n hx hb dL_law_1629 rfl (lv_at hl 1 rfl) ?_
  refine lv_iload hx hb dL_law_1630 (lv_at hl 5 rfl) ?_
  refine lv_iconst (v := 2) hx hb dL_law_1632 (by decide) ?_
  refine lv_iadd hx hb dL_law_1633 ?_
  refine va_sld hx hb hX hbl hbA hS (hin 2 (by decide)) dL_law_1634 ?_
  refine l_callM X (c_X12_mended X.2.2.2.2.2.2.2.2.2.2.2.1 f2) wml_L_201 wq_X12_mended rfl rfl rfl ⟨by decide, by decide⟩ dL_law_1635 hC hM hS ⟨by omega, by omega⟩ hsz rfl (Nat.le_of_ble_eq_true rfl) 1638 rfl (fun H locs hC hM hS => ?_)
  refine lv_istore (lv' := [(6, .int r6), (5, .int k5), (0, .ref b), (1, .ref (adC 0)), (2, .ref (adM 0)), (3, .ref (adC 91)), (4, .int x4)]) hx hb dL_law_1638 hl (by decide) rfl (fun ls hl => ?_)
  have hsz := hl.1
  refine lv_aload_n hx hb dL_law_1640 rfl (lv_at hl 4 rfl) ?_
  refine l_callM X (c_X12_thrown X.2.2.2.2.2.2.2.2.2.2.2.1 (show F_X12_thrown N aM1 = some (aM1 0 0, aM1) from rfl)) wml_L_128 wq_X12_thrown rfl rfl rfl ⟨by decide, by decide⟩ dL_law_1641 hC hM hS ⟨by omega, by omega⟩ hsz rfl (Nat.le_of_ble_eq_true rfl) 1644 rfl (fun H locs hC hM hS => ?_)
  refine lv_iload hx hb dL_law_1644 (lv_at hl 1 rfl) ?_
  refine lv_icmp_eq (tgt := 1651) hx hb dL_law_1646 (by decide) (fun _ => ?_) (fun ne => absurd f3 ne)
  refine lv_iload hx hb dL_law_1651 (lv_at hl 1 rfl) ?_
  refine lv_if_ne (tgt := 1668) hx hb dL_law_1653 (by decide) (fun _ => ?_) (fun k0 => ?_)
  · refine lv_goto (tgt := 2428) hx hb dL_law_1668 (by decide) ?_
    exact K aC1 aM1 hr H locs ls hC hM hS (lv_sub hl [2, 3, 4, 5, 6] rfl)
  · have f4 := f4 k0
    refine lv_aload_n hx hb dL_law_1656 rfl (lv_at hl 5 rfl) ?_
    refine lv_iconst (v := 0) hx hb dL_law_1657 (by decide) ?_
    refine va_lald hx hb X.2.2.2.2.2.1 hC 91 2 (xw_get lc91 EC_91) rfl (show vp_in 0 1 from (show ¬ ((0 : Int32) < 0 ∨ 1 ≤ Int32.toNatClampNeg 0) by decide)) dL_law_1658 ?_
    refine lv_iload hx hb dL_law_1659 (lv_at hl 0 rfl) ?_
    refine lv_i2l hx hb dL_law_1661 rfl ?_
    refine W.lcmp hx hb dL_law_1662 ?_
    refine lv_if_eq (tgt := 1668) hx hb dL_law_1663 (by decide) (fun _ => ?_) (fun ne => absurd (by rw [show aC1 91 (Int32.toNatClampNeg 0) = aC1 91 0 from rfl, f4]; exact l_cmp_self _) ne)
    refine lv_goto (tgt := 2428) hx hb dL_law_1668 (by decide) ?_
    exact K aC1 aM1 hr H locs ls hC hM hS (lv_sub hl [2, 3, 4, 5, 6] rfl)
def Sim_text (N : Nat) (Rel : AH → AH → Prop) : Prop := ∀ (aC aM : AH), Rel aC aM → ∀ p1 : Int32, ∃ (k r : Int32) (aC1 aM1 : AH), F_L_text N aC p1 = some (k, aC1) ∧ F_X12_text N aM p1 = some (r, aM1) ∧ aM1 0 0 = k ∧ (k = 0 → aC1 91 0 = r) ∧ Rel aC1 aM1
theorem law_text (X : LX p l s m b meth c D adC caC adM caM) (hX : va_X b L xs s s.heap) (hbl : b < s.heap.size) (hbA : ¬ (fun q : Nat => s.heap.size ≤ q) b) (hin : ∀ j : Int32, 0 ≤ j ∧ j ≤ 5 → vp_in (x4 + j) L) (hcs : cs + 3 ≤ 601024 ∧ sl + 18 ≤ 7293034) (hs : Sim_text N Rel) (hrel : Rel aC aM) (K : ∀ aC1 aM1, Rel aC1 aM1 → LK p l e s m b below meth c D adC caC adM caM (cs + 3) (sl + 18) aC1 aM1 x4 2428) : LK p l e s m b below meth c D adC caC adM caM cs sl aC aM x4 1671 := by
  intro H locs ls hC hM hS hl
  have hx := X.1
  have hb := X.2.1
  have hsz := hl.1
  obtain ⟨k5, r6, aC1, aM1, f1, f2, f3, f4, hr⟩ := hs aC aM hrel (xs (Int32.toNatClampNeg (x4 + 1)))
  refine lv_aload_n hx hb dL_law_1671 rfl (lv_at hl 1 rfl) ?_
  refine lv_aload_n hx hb dL_law_1672 rfl (lv_at hl 0 rfl) ?_
  refine lv_iload hx hb dL_law_1673 (lv_at hl 4 rfl) ?_
  refine lv_iconst (v := 1) hx hb dL_law_1675 (by decide) ?_
  refine lv_iadd hx hb dL_law_1676 ?_
  refine va_sld hx hb hX hbl hbA hS (hin 1 (by decide)) dL_law_1677 ?_
  refine lv_aload_n hx hb dL_law_1678 rfl (lv_at hl 3 rfl) ?_
  refine l_callH (n := 3) X (c_L_text X.2.2.2.2.2.2.2.2.2.2.1 X.2.2.2.2.2.2.2.2.2.1 f1) wml_L_202 wmt_L_text wmn_L wmc_L_text (by decide +kernel) rfl rfl rfl ⟨by decide, by decide⟩ dL_law_1679 hC hM hS ⟨by omega, by omega⟩ hsz rfl (Nat.le_of_ble_eq_true rfl) 1682 rfl (fun H locs hC hM hS => ?_)
  refine lv_istore (lv' := [(5, .int k5), (0, .ref b), (1, .ref (adC 0)), (2, .ref (adM 0)), (3, .ref (adC 91)), (4, .int x4)]) hx hb dL_law_1682 hl (by decide) rfl (fun ls hl => ?_)
  have hsz := hl.1
  refine lv_aload_n hx hb dL_law_1684 rfl (lv_at hl 3 rfl) ?_
  refine lv_aload_n hx hb dL_law_1685 rfl (lv_at hl 1 rfl) ?_
  refine lv_iload hx hb dL_law_1686 (lv_at hl 5 rfl) ?_
  refine lv_iconst (v := 1) hx hb dL_law_1688 (by decide) ?_
  refine lv_iadd hx hb dL_law_1689 ?_
  refine va_sld hx hb hX hbl hbA hS (hin 1 (by decide)) dL_law_1690 ?_
  refine l_callM X (c_X12_text X.2.2.2.2.2.2.2.2.2.2.2.1 f2) wml_L_204 wq_X12_text rfl rfl rfl ⟨by decide, by decide⟩ dL_law_1691 hC hM hS ⟨by omega, by omega⟩ hsz rfl (Nat.le_of_ble_eq_true rfl) 1694 rfl (fun H locs hC hM hS => ?_)
  refine lv_istore (lv' := [(6, .int r6), (5, .int k5), (0, .ref b), (1, .ref (adC 0)), (2, .ref (adM 0)), (3, .ref (adC 91)), (4, .int x4)]) hx hb dL_law_1694 hl (by decide) rfl (fun ls hl => ?_)
  have hsz := hl.1
  refine lv_aload_n hx hb dL_law_1696 rfl (lv_at hl 4 rfl) ?_
  refine l_callM X (c_X12_thrown X.2.2.2.2.2.2.2.2.2.2.2.1 (show F_X12_thrown N aM1 = some (aM1 0 0, aM1) from rfl)) wml_L_128 wq_X12_thrown rfl rfl rfl ⟨by decide, by decide⟩ dL_law_1697 hC hM hS ⟨by omega, by omega⟩ hsz rfl (Nat.le_of_ble_eq_true rfl) 1700 rfl (fun H locs hC hM hS => ?_)
  refine lv_iload hx hb dL_law_1700 (lv_at hl 1 rfl) ?_
  refine lv_icmp_eq (tgt := 1707) hx hb dL_law_1702 (by decide) (fun _ => ?_) (fun ne => absurd f3 ne)
  refine lv_iload hx hb dL_law_1707 (lv_at hl 1 rfl) ?_
  refine lv_if_ne (tgt := 1724) hx hb dL_law_1709 (by decide) (fun _ => ?_) (fun k0 => ?_)
  · refine lv_goto (tgt := 2428) hx hb dL_law_1724 (by decide) ?_
    exact K aC1 aM1 hr H locs ls hC hM hS (lv_sub hl [2, 3, 4, 5, 6] rfl)
  · have f4 := f4 k0
    refine lv_aload_n hx hb dL_law_1712 rfl (lv_at hl 5 rfl) ?_
    refine lv_iconst (v := 0) hx hb dL_law_1713 (by decide) ?_
    refine va_lald hx hb X.2.2.2.2.2.1 hC 91 2 (xw_get lc91 EC_91) rfl (show vp_in 0 1 from (show ¬ ((0 : Int32) < 0 ∨ 1 ≤ Int32.toNatClampNeg 0) by decide)) dL_law_1714 ?_
    refine lv_iload hx hb dL_law_1715 (lv_at hl 0 rfl) ?_
    refine lv_i2l hx hb dL_law_1717 rfl ?_
    refine W.lcmp hx hb dL_law_1718 ?_
    refine lv_if_eq (tgt := 1724) hx hb dL_law_1719 (by decide) (fun _ => ?_) (fun ne => absurd (by rw [show aC1 91 (Int32.toNatClampNeg 0) = aC1 91 0 from rfl, f4]; exact l_cmp_self _) ne)
    refine lv_goto (tgt := 2428) hx hb dL_law_1724 (by decide) ?_
    exact K aC1 aM1 hr H locs ls hC hM hS (lv_sub hl [2, 3, 4, 5, 6] rfl)
def Sim_at (N : Nat) (Rel : AH → AH → Prop) : Prop := ∀ (aC aM : AH), Rel aC aM → ∀ p1 : Int32, ∃ (r : Int32) (aC1 aM1 : AH), F_X11_at N aC p1 = some (r, aC1) ∧ F_X12_at N aM p1 = some (r, aM1) ∧ Rel aC1 aM1
theorem law_at (X : LX p l s m b meth c D adC caC adM caM) (hX : va_X b L xs s s.heap) (hbl : b < s.heap.size) (hbA : ¬ (fun q : Nat => s.heap.size ≤ q) b) (hin : ∀ j : Int32, 0 ≤ j ∧ j ≤ 5 → vp_in (x4 + j) L) (hcs : cs + 3 ≤ 601024 ∧ sl + 18 ≤ 7293034) (hs : Sim_at N Rel) (hrel : Rel aC aM) (K : ∀ aC1 aM1, Rel aC1 aM1 → LK p l e s m b below meth c D adC caC adM caM (cs + 3) (sl + 18) aC1 aM1 x4 2428) : LK p l e s m b below meth c D adC caC adM caM cs sl aC aM x4 1727 := by
  intro H locs ls hC hM hS hl
  have hx := X.1
  have hb := X.2.1
  have hsz := hl.1
  obtain ⟨r6, aC1, aM1, f1, f2, hr⟩ := hs aC aM hrel (xs (Int32.toNatClampNeg (x4 + 1)))
  refine lv_aload_n hx hb dL_law_1727 rfl (lv_at hl 1 rfl) ?_
  refine lv_aload_n hx hb dL_law_1728 rfl (lv_at hl 0 rfl) ?_
  refine lv_iload hx hb dL_law_1729 (lv_at hl 4 rfl) ?_
  refine lv_iconst (v := 1) hx hb dL_law_1731 (by decide) ?_
  refine lv_iadd hx hb dL_law_1732 ?_
  refine va_sld hx hb hX hbl hbA hS (hin 1 (by decide)) dL_law_1733 ?_
  refine l_callC X (c_X11_at X.2.2.2.2.2.2.2.2.2.2.1 f1) wml_L_205 wq_X11_at rfl rfl rfl ⟨by decide, by decide⟩ dL_law_1734 hC hM hS ⟨by omega, by omega⟩ hsz rfl (Nat.le_of_ble_eq_true rfl) 1737 rfl (fun H locs hC hM hS => ?_)
  refine lv_aload_n hx hb dL_law_1737 rfl (lv_at hl 2 rfl) ?_
  refine lv_aload_n hx hb dL_law_1738 rfl (lv_at hl 0 rfl) ?_
  refine lv_iload hx hb dL_law_1739 (lv_at hl 4 rfl) ?_
  refine lv_iconst (v := 1) hx hb dL_law_1741 (by decide) ?_
  refine lv_iadd hx hb dL_law_1742 ?_
  refine va_sld hx hb hX hbl hbA hS (hin 1 (by decide)) dL_law_1743 ?_
  refine l_callM X (c_X12_at X.2.2.2.2.2.2.2.2.2.2.2.1 f2) wml_L_208 wq_X12_at rfl rfl rfl ⟨by decide, by decide⟩ dL_law_1744 hC hM hS ⟨by omega, by omega⟩ hsz rfl (Nat.le_of_ble_eq_true rfl) 1747 rfl (fun H locs hC hM hS => ?_)
  refine lv_icmp_eq (tgt := 2428) hx hb dL_law_1747 (by decide) (fun _ => ?_) (fun ne => absurd rfl ne)
  refine W.widen (k := cs + 3) (n := sl + 18) (by omega) (by omega) ?_
  exact K aC1 aM1 hr H locs ls hC hM hS (lv_sub hl [0, 1, 2, 3, 4] rfl)
def Sim_lost (N : Nat) (Rel : AH → AH → Prop) : Prop := ∀ (aC aM : AH), Rel aC aM → ∀ p1 p2 : Int32, ∃ (k r : Int32) (aC1 aM1 : AH), F_L_lost N aC p1 p2 = some (k, aC1) ∧ F_X12_lost N aM p1 p2 = some (r, aM1) ∧ aM1 0 0 = k ∧ (k = 0 → aC1 91 0 = if r = 0 then 0 else 1) ∧ Rel aC1 aM1
theorem law_lost (X : LX p l s m b meth c D adC caC adM caM) (hX : va_X b L xs s s.heap) (hbl : b < s.heap.size) (hbA : ¬ (fun q : Nat => s.heap.size ≤ q) b) (hin : ∀ j : Int32, 0 ≤ j ∧ j ≤ 5 → vp_in (x4 + j) L) (hcs : cs + 3 ≤ 601024 ∧ sl + 18 ≤ 7293034) (hs : Sim_lost N Rel) (hrel : Rel aC aM) (K : ∀ aC1 aM1, Rel aC1 aM1 → LK p l e s m b below meth c D adC caC adM caM (cs + 3) (sl + 18) aC1 aM1 x4 2428) : LK p l e s m b below meth c D adC caC adM caM cs sl aC aM x4 1752 := by
  intro H locs ls hC hM hS hl
  have hx := X.1
  have hb := X.2.1
  have hsz := hl.1
  obtain ⟨k5, r6, aC1, aM1, f1, f2, f3, f4, hr⟩ := hs aC aM hrel (xs (Int32.toNatClampNeg (x4 + 1))) (xs (Int32.toNatClampNeg (x4 + 2)))
  refine lv_aload_n hx hb dL_law_1752 rfl (lv_at hl 1 rfl) ?_
  refine lv_aload_n hx hb dL_law_1753 rfl (lv_at hl 0 rfl) ?_
  refine lv_iload hx hb dL_law_1754 (lv_at hl 4 rfl) ?_
  refine lv_iconst (v := 1) hx hb dL_law_1756 (by decide) ?_
  refine lv_iadd hx hb dL_law_1757 ?_
  refine va_sld hx hb hX hbl hbA hS (hin 1 (by decide)) dL_law_1758 ?_
  refine lv_aload_n hx hb dL_law_1759 rfl (lv_at hl 0 rfl) ?_
  refine lv_iload hx hb dL_law_1760 (lv_at hl 4 rfl) ?_
  refine lv_iconst (v := 2) hx hb dL_law_1762 (by decide) ?_
  refine lv_iadd hx hb dL_law_1763 ?_
  refine va_sld hx hb hX hbl hbA hS (hin 2 (by decide)) dL_law_1764 ?_
  refine lv_aload_n hx hb dL_law_1765 rfl (lv_at hl 3 rfl) ?_
  refine l_callH (n := 4) X (c_L_lost X.2.2.2.2.2.2.2.2.2.2.1 X.2.2.2.2.2.2.2.2.2.1 f1) wml_L_209 wmt_L_lost wmn_L wmc_L_lost (by decide +kernel) rfl rfl rfl ⟨by decide, by decide⟩ dL_law_1766 hC hM hS ⟨by omega, by omega⟩ hsz rfl (Nat.le_of_ble_eq_true rfl) 1769 rfl (fun H locs hC hM hS => ?_)
  refine lv_istore (lv' := [(5, .int k5), (0, .ref b), (1, .ref (adC 0)), (2, .ref (adM 0)), (3, .ref (adC 91)), (4, .int x4)]) hx hb dL_law_1769 hl (by decide) rfl (fun ls hl => ?_)
  have hsz := hl.1
  refine lv_aload_n hx hb dL_law_1771 rfl (lv_at hl 3 rfl) ?_
  refine lv_aload_n hx hb dL_law_1772 rfl (lv_at hl 1 rfl) ?_
  refine lv_iload hx hb dL_law_1773 (lv_at hl 5 rfl) ?_
  refine lv_iconst (v := 1) hx hb dL_law_1775 (by decide) ?_
  refine lv_iadd hx hb dL_law_1776 ?_
  refine va_sld hx hb hX hbl hbA hS (hin 1 (by decide)) dL_law_1777 ?_
  refine lv_aload_n hx hb dL_law_1778 rfl (lv_at hl 1 rfl) ?_
  refine lv_iload hx hb dL_law_1779 (lv_at hl 5 rfl) ?_
  refine lv_iconst (v := 2) hx hb dL_law_1781 (by decide) ?_
  refine lv_iadd hx hb dL_law_1782 ?_
  refine va_sld hx hb hX hbl hbA hS (hin 2 (by decide)) dL_law_1783 ?_
  refine l_callM X (c_X12_lost X.2.2.2.2.2.2.2.2.2.2.2.1 f2) wml_L_211 wq_X12_lost rfl rfl rfl ⟨by decide, by decide⟩ dL_law_1784 hC hM hS ⟨by omega, by omega⟩ hsz rfl (Nat.le_of_ble_eq_true rfl) 1787 rfl (fun H locs hC hM hS => ?_)
  refine lv_istore (lv' := [(6, .int r6), (5, .int k5), (0, .ref b), (1, .ref (adC 0)), (2, .ref (adM 0)), (3, .ref (adC 91)), (4, .int x4)]) hx hb dL_law_1787 hl (by decide) rfl (fun ls hl => ?_)
  have hsz := hl.1
  refine lv_aload_n hx hb dL_law_1789 rfl (lv_at hl 4 rfl) ?_
  refine l_callM X (c_X12_thrown X.2.2.2.2.2.2.2.2.2.2.2.1 (show F_X12_thrown N aM1 = some (aM1 0 0, aM1) from rfl)) wml_L_128 wq_X12_thrown rfl rfl rfl ⟨by decide, by decide⟩ dL_law_1790 hC hM hS ⟨by omega, by omega⟩ hsz rfl (Nat.le_of_ble_eq_true rfl) 1793 rfl (fun H locs hC hM hS => ?_)
  refine lv_iload hx hb dL_law_1793 (lv_at hl 1 rfl) ?_
  refine lv_icmp_eq (tgt := 1800) hx hb dL_law_1795 (by decide) (fun _ => ?_) (fun ne => absurd f3 ne)
  refine lv_iload hx hb dL_law_1800 (lv_at hl 1 rfl) ?_
  refine lv_if_ne (tgt := 1824) hx hb dL_law_1802 (by decide) (fun _ => ?_) (fun k0 => ?_)
  · refine lv_goto (tgt := 2428) hx hb dL_law_1824 (by decide) ?_
    exact K aC1 aM1 hr H locs ls hC hM hS (lv_sub hl [2, 3, 4, 5, 6] rfl)
  · have f4 := f4 k0
    refine lv_aload_n hx hb dL_law_1805 rfl (lv_at hl 5 rfl) ?_
    refine lv_iconst (v := 0) hx hb dL_law_1806 (by decide) ?_
    refine va_lald hx hb X.2.2.2.2.2.1 hC 91 2 (xw_get lc91 EC_91) rfl (show vp_in 0 1 from (show ¬ ((0 : Int32) < 0 ∨ 1 ≤ Int32.toNatClampNeg 0) by decide)) dL_law_1807 ?_
    refine lv_iload hx hb dL_law_1808 (lv_at hl 0 rfl) ?_
    refine lv_if_eq (tgt := 1817) hx hb dL_law_1810 (by decide) (fun z0 => ?_) (fun z0 => ?_)
    · refine lv_lconst (v := 0) hx hb dL_law_1817 rfl ?_
      refine W.lcmp hx hb dL_law_1818 ?_
      refine lv_if_eq (tgt := 1824) hx hb dL_law_1819 (by decide) (fun _ => ?_) (fun ne => absurd (by rw [show aC1 91 (Int32.toNatClampNeg 0) = aC1 91 0 from rfl, f4, if_pos z0]; rfl) ne)
      refine lv_goto (tgt := 2428) hx hb dL_law_1824 (by decide) ?_
      exact K aC1 aM1 hr H locs ls hC hM hS (lv_sub hl [2, 3, 4, 5, 6] rfl)
    · refine lv_lconst (v := 1) hx hb dL_law_1813 rfl ?_
      refine lv_goto (tgt := 1818) hx hb dL_law_1814 (by decide) ?_
      refine W.lcmp hx hb dL_law_1818 ?_
      refine lv_if_eq (tgt := 1824) hx hb dL_law_1819 (by decide) (fun _ => ?_) (fun ne => absurd (by rw [show aC1 91 (Int32.toNatClampNeg 0) = aC1 91 0 from rfl, f4, if_neg z0]; rfl) ne)
      refine lv_goto (tgt := 2428) hx hb dL_law_1824 (by decide) ?_
      exact K aC1 aM1 hr H locs ls hC hM hS (lv_sub hl [2, 3, 4, 5, 6] rfl)
def Sim_way (N : Nat) (Rel : AH → AH → Prop) : Prop := ∀ (aC aM : AH), Rel aC aM → ∀ p1 p2 : Int32, ∃ (k r : Int32) (aC1 aM1 : AH), F_L_way N aC p1 p2 = some (k, aC1) ∧ F_X12_way N aM p1 p2 = some (r, aM1) ∧ aM1 0 0 = k ∧ (k = 0 → aC1 91 0 = r) ∧ Rel aC1 aM1
theorem law_way (X : LX p l s m b meth c D adC caC adM caM) (hX : va_X b L xs s s.heap) (hbl : b < s.heap.size) (hbA : ¬ (fun q : Nat => s.heap.size ≤ q) b) (hin : ∀ j : Int32, 0 ≤ j ∧ j ≤ 5 → vp_in (x4 + j) L) (hcs : cs + 3 ≤ 601024 ∧ sl + 18 ≤ 7293034) (hs : Sim_way N Rel) (hrel : Rel aC aM) (K : ∀ aC1 aM1, Rel aC1 aM1 → LK p l e s m b below meth c D adC caC adM caM (cs + 3) (sl + 18) aC1 aM1 x4 2428) : LK p l e s m b below meth c D adC caC adM caM cs sl aC aM x4 1827 := by
  intro H locs ls hC hM hS hl
  have hx := X.1
  have hb := X.2.1
  have hsz := hl.1
  obtain ⟨k5, r6, aC1, aM1, f1, f2, f3, f4, hr⟩ := hs aC aM hrel (xs (Int32.toNatClampNeg (x4 + 1))) (xs (Int32.toNatClampNeg (x4 + 2)))
  refine lv_aload_n hx hb dL_law_1827 rfl (lv_at hl 1 rfl) ?_
  refine lv_aload_n hx hb dL_law_1828 rfl (lv_at hl 0 rfl) ?_
  refine lv_iload hx hb dL_law_1829 (lv_at hl 4 rfl) ?_
  refine lv_iconst (v := 1) hx hb dL_law_1831 (by decide) ?_
  refine lv_iadd hx hb dL_law_1832 ?_
  refine va_sld hx hb hX hbl hbA hS (hin 1 (by decide)) dL_law_1833 ?_
  refine lv_aload_n hx hb dL_law_1834 rfl (lv_at hl 0 rfl) ?_
  refine lv_iload hx hb dL_law_1835 (lv_at hl 4 rfl) ?_
  refine lv_iconst (v := 2) hx hb dL_law_1837 (by decide) ?_
  refine lv_iadd hx hb dL_law_1838 ?_
  refine va_sld hx hb hX hbl hbA hS (hin 2 (by decide)) dL_law_1839 ?_
  refine lv_aload_n hx hb dL_law_1840 rfl (lv_at hl 3 rfl) ?_
  refine l_callH (n := 4) X (c_L_way X.2.2.2.2.2.2.2.2.2.2.1 X.2.2.2.2.2.2.2.2.2.1 f1) wml_L_212 wmt_L_way wmn_L wmc_L_way (by decide +kernel) rfl rfl rfl ⟨by decide, by decide⟩ dL_law_1841 hC hM hS ⟨by omega, by omega⟩ hsz rfl (Nat.le_of_ble_eq_true rfl) 1844 rfl (fun H locs hC hM hS => ?_)
  refine lv_istore (lv' := [(5, .int k5), (0, .ref b), (1, .ref (adC 0)), (2, .ref (adM 0)), (3, .ref (adC 91)), (4, .int x4)]) hx hb dL_law_1844 hl (by decide) rfl (fun ls hl => ?_)
  have hsz := hl.1
  refine lv_aload_n hx hb dL_law_1846 rfl (lv_at hl 3 rfl) ?_
  refine lv_aload_n hx hb dL_law_1847 rfl (lv_at hl 1 rfl) ?_
  refine lv_iload hx hb dL_law_1848 (lv_at hl 5 rfl) ?_
  refine lv_iconst (v := 1) hx hb dL_law_1850 (by decide) ?_
  refine lv_iadd hx hb dL_law_1851 ?_
  refine va_sld hx hb hX hbl hbA hS (hin 1 (by decide)) dL_law_1852 ?_
  refine lv_aload_n hx hb dL_law_1853 rfl (lv_at hl 1 rfl) ?_
  refine lv_iload hx hb dL_law_1854 (lv_at hl 5 rfl) ?_
  refine lv_iconst (v := 2) hx hb dL_law_1856 (by decide) ?_
  refine lv_iadd hx hb dL_law_1857 ?_
  refine va_sld hx hb hX hbl hbA hS (hin 2 (by decide)) dL_law_1858 ?_
  refine l_callM X (c_X12_way X.2.2.2.2.2.2.2.2.2.2.2.1 f2) wml_L_214 wq_X12_way rfl rfl rfl ⟨by decide, by decide⟩ dL_law_1859 hC hM hS ⟨by omega, by omega⟩ hsz rfl (Nat.le_of_ble_eq_true rfl) 1862 rfl (fun H locs hC hM hS => ?_)
  refine lv_istore (lv' := [(6, .int r6), (5, .int k5), (0, .ref b), (1, .ref (adC 0)), (2, .ref (adM 0)), (3, .ref (adC 91)), (4, .int x4)]) hx hb dL_law_1862 hl (by decide) rfl (fun ls hl => ?_)
  have hsz := hl.1
  refine lv_aload_n hx hb dL_law_1864 rfl (lv_at hl 4 rfl) ?_
  refine l_callM X (c_X12_thrown X.2.2.2.2.2.2.2.2.2.2.2.1 (show F_X12_thrown N aM1 = some (aM1 0 0, aM1) from rfl)) wml_L_128 wq_X12_thrown rfl rfl rfl ⟨by decide, by decide⟩ dL_law_1865 hC hM hS ⟨by omega, by omega⟩ hsz rfl (Nat.le_of_ble_eq_true rfl) 1868 rfl (fun H locs hC hM hS => ?_)
  refine lv_iload hx hb dL_law_1868 (lv_at hl 1 rfl) ?_
  refine lv_icmp_eq (tgt := 1875) hx hb dL_law_1870 (by decide) (fun _ => ?_) (fun ne => absurd f3 ne)
  refine lv_iload hx hb dL_law_1875 (lv_at hl 1 rfl) ?_
  refine lv_if_ne (tgt := 1892) hx hb dL_law_1877 (by decide) (fun _ => ?_) (fun k0 => ?_)
  · refine lv_goto (tgt := 2428) hx hb dL_law_1892 (by decide) ?_
    exact K aC1 aM1 hr H locs ls hC hM hS (lv_sub hl [2, 3, 4, 5, 6] rfl)
  · have f4 := f4 k0
    refine lv_aload_n hx hb dL_law_1880 rfl (lv_at hl 5 rfl) ?_
    refine lv_iconst (v := 0) hx hb dL_law_1881 (by decide) ?_
    refine va_lald hx hb X.2.2.2.2.2.1 hC 91 2 (xw_get lc91 EC_91) rfl (show vp_in 0 1 from (show ¬ ((0 : Int32) < 0 ∨ 1 ≤ Int32.toNatClampNeg 0) by decide)) dL_law_1882 ?_
    refine lv_iload hx hb dL_law_1883 (lv_at hl 0 rfl) ?_
    refine lv_i2l hx hb dL_law_1885 rfl ?_
    refine W.lcmp hx hb dL_law_1886 ?_
    refine lv_if_eq (tgt := 1892) hx hb dL_law_1887 (by decide) (fun _ => ?_) (fun ne => absurd (by rw [show aC1 91 (Int32.toNatClampNeg 0) = aC1 91 0 from rfl, f4]; exact l_cmp_self _) ne)
    refine lv_goto (tgt := 2428) hx hb dL_law_1892 (by decide) ?_
    exact K aC1 aM1 hr H locs ls hC hM hS (lv_sub hl [2, 3, 4, 5, 6] rfl)
def Sim_edge (N : Nat) (Rel : AH → AH → Prop) : Prop := ∀ (aC aM : AH), Rel aC aM → ∀ p1 p2 p3 : Int32, ∃ (k r : Int32) (aC1 aM1 : AH), F_L_edge N aC p1 p2 p3 = some (k, aC1) ∧ F_X12_edge_ N aM p1 p2 p3 = some (r, aM1) ∧ aM1 0 0 = k ∧ (k = 0 → aC1 91 0 = r) ∧ Rel aC1 aM1
theorem law_edge (X : LX p l s m b meth c D adC caC adM caM) (hX : va_X b L xs s s.heap) (hbl : b < s.heap.size) (hbA : ¬ (fun q : Nat => s.heap.size ≤ q) b) (hin : ∀ j : Int32, 0 ≤ j ∧ j ≤ 5 → vp_in (x4 + j) L) (hcs : cs + 3 ≤ 601024 ∧ sl + 18 ≤ 7293034) (hs : Sim_edge N Rel) (hrel : Rel aC aM) (K : ∀ aC1 aM1, Rel aC1 aM1 → LK p l e s m b below meth c D adC caC adM caM (cs + 3) (sl + 18) aC1 aM1 x4 2428) : LK p l e s m b below meth c D adC caC adM caM cs sl aC aM x4 1895 := by
  intro H locs ls hC hM hS hl
  have hx := X.1
  have hb := X.2.1
  have hsz := hl.1
  obtain ⟨k5, r6, aC1, aM1, f1, f2, f3, f4, hr⟩ := hs aC aM hrel (xs (Int32.toNatClampNeg (x4 + 1))) (xs (Int32.toNatClampNeg (x4 + 2))) (xs (Int32.toNatClampNeg (x4 + 3)))
  refine lv_aload_n hx hb dL_law_1895 rfl (lv_at hl 1 rfl) ?_
  refine lv_aload_n hx hb dL_law_1896 rfl (lv_at hl 0 rfl) ?_
  refine lv_iload hx hb dL_law_1897 (lv_at hl 4 rfl) ?_
  refine lv_iconst (v := 1) hx hb dL_law_1899 (by decide) ?_
  refine lv_iadd hx hb dL_law_1900 ?_
  refine va_sld hx hb hX hbl hbA hS (hin 1 (by decide)) dL_law_1901 ?_
  refine lv_aload_n hx hb dL_law_1902 rfl (lv_at hl 0 rfl) ?_
  refine lv_iload hx hb dL_law_1903 (lv_at hl 4 rfl) ?_
  refine lv_iconst (v := 2) hx hb dL_law_1905 (by decide) ?_
  refine lv_iadd hx hb dL_law_1906 ?_
  refine va_sld hx hb hX hbl hbA hS (hin 2 (by decide)) dL_law_1907 ?_
  refine lv_aload_n hx hb dL_law_1908 rfl (lv_at hl 0 rfl) ?_
  refine lv_iload hx hb dL_law_1909 (lv_at hl 4 rfl) ?_
  refine lv_iconst (v := 3) hx hb dL_law_1911 (by decide) ?_
  refine lv_iadd hx hb dL_law_1912 ?_
  refine va_sld hx hb hX hbl hbA hS (hin 3 (by decide)) dL_law_1913 ?_
  refine lv_aload_n hx hb dL_law_1914 rfl (lv_at hl 3 rfl) ?_
  refine l_callH (n := 5) X (c_L_edge X.2.2.2.2.2.2.2.2.2.2.1 X.2.2.2.2.2.2.2.2.2.1 f1) wml_L_215 wmt_L_edge wmn_L wmc_L_edge (by decide +kernel) rfl rfl rfl ⟨by decide, by decide⟩ dL_law_1915 hC hM hS ⟨by omega, by omega⟩ hsz rfl (Nat.le_of_ble_eq_true rfl) 1918 rfl (fun H locs hC hM hS => ?_)
  refine lv_istore (lv' := [(5, .int k5), (0, .ref b), (1, .ref (adC 0)), (2, .ref (adM 0)), (3, .ref (adC 91)), (4, .int x4)]) hx hb dL_law_1918 hl (by decide) rfl (fun ls hl => ?_)
  have hsz := hl.1
  refine lv_aload_n hx hb dL_law_1920 rfl (lv_at hl 3 rfl) ?_
  refine lv_aload_n hx hb dL_law_1921 rfl (lv_at hl 1 rfl) ?_
  refine lv_iload hx hb dL_law_1922 (lv_at hl 5 rfl) ?_
  refine lv_iconst (v := 1) hx hb dL_law_1924 (by decide) ?_
  refine lv_iadd hx hb dL_law_1925 ?_
  refine va_sld hx hb hX hbl hbA hS (hin 1 (by decide)) dL_law_1926 ?_
  refine lv_aload_n hx hb dL_law_1927 rfl (lv_at hl 1 rfl) ?_
  refine lv_iload hx hb dL_law_1928 (lv_at hl 5 rfl) ?_
  refine lv_iconst (v := 2) hx hb dL_law_1930 (by decide) ?_
  refine lv_iadd hx hb dL_law_1931 ?_
  refine va_sld hx hb hX hbl hbA hS (hin 2 (by decide)) dL_law_1932 ?_
  refine lv_aload_n hx hb dL_law_1933 rfl (lv_at hl 1 rfl) ?_
  refine lv_iload hx hb dL_law_1934 (lv_at hl 5 rfl) ?_
  refine lv_iconst (v := 3) hx hb dL_law_1936 (by decide) ?_
  refine lv_iadd hx hb dL_law_1937 ?_
  refine va_sld hx hb hX hbl hbA hS (hin 3 (by decide)) dL_law_1938 ?_
  refine l_callM X (c_X12_edge_ X.2.2.2.2.2.2.2.2.2.2.2.1 f2) wml_L_217 wq_X12_edge_ rfl rfl rfl ⟨by decide, by decide⟩ dL_law_1939 hC hM hS ⟨by omega, by omega⟩ hsz rfl (Nat.le_of_ble_eq_true rfl) 1942 rfl (fun H locs hC hM hS => ?_)
  refine lv_istore (lv' := [(6, .int r6), (5, .int k5), (0, .ref b), (1, .ref (adC 0)), (2, .ref (adM 0)), (3, .ref (adC 91)), (4, .int x4)]) hx hb dL_law_1942 hl (by decide) rfl (fun ls hl => ?_)
  have hsz := hl.1
  refine lv_aload_n hx hb dL_law_1944 rfl (lv_at hl 4 rfl) ?_
  refine l_callM X (c_X12_thrown X.2.2.2.2.2.2.2.2.2.2.2.1 (show F_X12_thrown N aM1 = some (aM1 0 0, aM1) from rfl)) wml_L_128 wq_X12_thrown rfl rfl rfl ⟨by decide, by decide⟩ dL_law_1945 hC hM hS ⟨by omega, by omega⟩ hsz rfl (Nat.le_of_ble_eq_true rfl) 1948 rfl (fun H locs hC hM hS => ?_)
  refine lv_iload hx hb dL_law_1948 (lv_at hl 1 rfl) ?_
  refine lv_icmp_eq (tgt := 1955) hx hb dL_law_1950 (by decide) (fun _ => ?_) (fun ne => absurd f3 ne)
  refine lv_iload hx hb dL_law_1955 (lv_at hl 1 rfl) ?_
  refine lv_if_ne (tgt := 1972) hx hb dL_law_1957 (by decide) (fun _ => ?_) (fun k0 => ?_)
  · refine lv_goto (tgt := 2428) hx hb dL_law_1972 (by decide) ?_
    exact K aC1 aM1 hr H locs ls hC hM hS (lv_sub hl [2, 3, 4, 5, 6] rfl)
  · have f4 := f4 k0
    refine lv_aload_n hx hb dL_law_1960 rfl (lv_at hl 5 rfl) ?_
    refine lv_iconst (v := 0) hx hb dL_law_1961 (by decide) ?_
    refine va_lald hx hb X.2.2.2.2.2.1 hC 91 2 (xw_get lc91 EC_91) rfl (show vp_in 0 1 from (show ¬ ((0 : Int32) < 0 ∨ 1 ≤ Int32.toNatClampNeg 0) by decide)) dL_law_1962 ?_
    refine lv_iload hx hb dL_law_1963 (lv_at hl 0 rfl) ?_
    refine lv_i2l hx hb dL_law_1965 rfl ?_
    refine W.lcmp hx hb dL_law_1966 ?_
    refine lv_if_eq (tgt := 1972) hx hb dL_law_1967 (by decide) (fun _ => ?_) (fun ne => absurd (by rw [show aC1 91 (Int32.toNatClampNeg 0) = aC1 91 0 from rfl, f4]; exact l_cmp_self _) ne)
    refine lv_goto (tgt := 2428) hx hb dL_law_1972 (by decide) ?_
    exact K aC1 aM1 hr H locs ls hC hM hS (lv_sub hl [2, 3, 4, 5, 6] rfl)
def Sim_used (N : Nat) (Rel : AH → AH → Prop) : Prop := ∀ (aC aM : AH), Rel aC aM → ∀ p1 : Int32, ∃ (k r : Int32) (aC1 aM1 : AH), F_L_used N aC p1 = some (k, aC1) ∧ F_X12_used N aM p1 = some (r, aM1) ∧ aM1 0 0 = k ∧ (k = 0 → aC1 91 0 = r) ∧ Rel aC1 aM1
theorem law_used (X : LX p l s m b meth c D adC caC adM caM) (hX : va_X b L xs s s.heap) (hbl : b < s.heap.size) (hbA : ¬ (fun q : Nat => s.heap.size ≤ q) b) (hin : ∀ j : Int32, 0 ≤ j ∧ j ≤ 5 → vp_in (x4 + j) L) (hcs : cs + 3 ≤ 601024 ∧ sl + 18 ≤ 7293034) (hs : Sim_used N Rel) (hrel : Rel aC aM) (K : ∀ aC1 aM1, Rel aC1 aM1 → LK p l e s m b below meth c D adC caC adM caM (cs + 3) (sl + 18) aC1 aM1 x4 2428) : LK p l e s m b below meth c D adC caC adM caM cs sl aC aM x4 1975 := by
  intro H locs ls hC hM hS hl
  have hx := X.1
  have hb := X.2.1
  have hsz := hl.1
  obtain ⟨k5, r6, aC1, aM1, f1, f2, f3, f4, hr⟩ := hs aC aM hrel (xs (Int32.toNatClampNeg (x4 + 1)))
  refine lv_aload_n hx hb dL_law_1975 rfl (lv_at hl 1 rfl) ?_
  refine lv_aload_n hx hb dL_law_1976 rfl (lv_at hl 0 rfl) ?_
  refine lv_iload hx hb dL_law_1977 (lv_at hl 4 rfl) ?_
  refine lv_iconst (v := 1) hx hb dL_law_1979 (by decide) ?_
  refine lv_iadd hx hb dL_law_1980 ?_
  refine va_sld hx hb hX hbl hbA hS (hin 1 (by decide)) dL_law_1981 ?_
  refine lv_aload_n hx hb dL_law_1982 rfl (lv_at hl 3 rfl) ?_
  refine l_callH (n := 3) X (c_L_used X.2.2.2.2.2.2.2.2.2.2.1 X.2.2.2.2.2.2.2.2.2.1 f1) wml_L_218 wmt_L_used wmn_L wmc_L_used (by decide +kernel) rfl rfl rfl ⟨by decide, by decide⟩ dL_law_1983 hC hM hS ⟨by omega, by omega⟩ hsz rfl (Nat.le_of_ble_eq_true rfl) 1986 rfl (fun H locs hC hM hS => ?_)
  refine lv_istore (lv' := [(5, .int k5), (0, .ref b), (1, .ref (adC 0)), (2, .ref (adM 0)), (3, .ref (adC 91)), (4, .int x4)]) hx hb dL_law_1986 hl (by decide) rfl (fun ls hl => ?_)
  have hsz := hl.1
  refine lv_aload_n hx hb dL_law_1988 rfl (lv_at hl 3 rfl) ?_
  refine lv_aload_n hx hb dL_law_1989 rfl (lv_at hl 1 rfl) ?_
  refine lv_iload hx hb dL_law_1990 (lv_at hl 5 rfl) ?_
  refine lv_iconst (v := 1) hx hb dL_law_1992 (by decide) ?_
  refine lv_iadd hx hb dL_law_1993 ?_
  refine va_sld hx hb hX hbl hbA hS (hin 1 (by decide)) dL_law_1994 ?_
  refine l_callM X (c_X12_used X.2.2.2.2.2.2.2.2.2.2.2.1 f2) wml_L_220 wq_X12_used rfl rfl rfl ⟨by decide, by decide⟩ dL_law_1995 hC hM hS ⟨by omega, by omega⟩ hsz rfl (Nat.le_of_ble_eq_true rfl) 1998 rfl (fun H locs hC hM hS => ?_)
  refine lv_istore (lv' := [(6, .int r6), (5, .int k5), (0, .ref b), (1, .ref (adC 0)), (2, .ref (adM 0)), (3, .ref (adC 91)), (4, .int x4)]) hx hb dL_law_1998 hl (by decide) rfl (fun ls hl => ?_)
  have hsz := hl.1
  refine lv_aload_n hx hb dL_law_2000 rfl (lv_at hl 4 rfl) ?_
  refine l_callM X (c_X12_thrown X.2.2.2.2.2.2.2.2.2.2.2.1 (show F_X12_thrown N aM1 = some (aM1 0 0, aM1) from rfl)) wml_L_128 wq_X12_thrown rfl rfl rfl ⟨by decide, by decide⟩ dL_law_2001 hC hM hS ⟨by omega, by omega⟩ hsz rfl (Nat.le_of_ble_eq_true rfl) 2004 rfl (fun H locs hC hM hS => ?_)
  refine lv_iload hx hb dL_law_2004 (lv_at hl 1 rfl) ?_
  refine lv_icmp_eq (tgt := 2011) hx hb dL_law_2006 (by decide) (fun _ => ?_) (fun ne => absurd f3 ne)
  refine lv_iload hx hb dL_law_2011 (lv_at hl 1 rfl) ?_
  refine lv_if_ne (tgt := 2028) hx hb dL_law_2013 (by decide) (fun _ => ?_) (fun k0 => ?_)
  · refine lv_goto (tgt := 2428) hx hb dL_law_2028 (by decide) ?_
    exact K aC1 aM1 hr H locs ls hC hM hS (lv_sub hl [2, 3, 4, 5, 6] rfl)
  · have f4 := f4 k0
    refine lv_aload_n hx hb dL_law_2016 rfl (lv_at hl 5 rfl) ?_
    refine lv_iconst (v := 0) hx hb dL_law_2017 (by decide) ?_
    refine va_lald hx hb X.2.2.2.2.2.1 hC 91 2 (xw_get lc91 EC_91) rfl (show vp_in 0 1 from (show ¬ ((0 : Int32) < 0 ∨ 1 ≤ Int32.toNatClampNeg 0) by decide)) dL_law_2018 ?_
    refine lv_iload hx hb dL_law_2019 (lv_at hl 0 rfl) ?_
    refine lv_i2l hx hb dL_law_2021 rfl ?_
    refine W.lcmp hx hb dL_law_2022 ?_
    refine lv_if_eq (tgt := 2028) hx hb dL_law_2023 (by decide) (fun _ => ?_) (fun ne => absurd (by rw [show aC1 91 (Int32.toNatClampNeg 0) = aC1 91 0 from rfl, f4]; exact l_cmp_self _) ne)
    refine lv_goto (tgt := 2428) hx hb dL_law_2028 (by decide) ?_
    exact K aC1 aM1 hr H locs ls hC hM hS (lv_sub hl [2, 3, 4, 5, 6] rfl)
def Sim_dear (N : Nat) (Rel : AH → AH → Prop) : Prop := ∀ (aC aM : AH), Rel aC aM → ∀ p1 p2 : Int32, ∃ (k r : Int32) (aC1 aM1 : AH), F_L_dear N aC p1 p2 = some (k, aC1) ∧ F_X12_dear N aM p1 p2 = some (r, aM1) ∧ aM1 0 0 = k ∧ (k = 0 → aC1 91 0 = r) ∧ Rel aC1 aM1
theorem law_dear (X : LX p l s m b meth c D adC caC adM caM) (hX : va_X b L xs s s.heap) (hbl : b < s.heap.size) (hbA : ¬ (fun q : Nat => s.heap.size ≤ q) b) (hin : ∀ j : Int32, 0 ≤ j ∧ j ≤ 5 → vp_in (x4 + j) L) (hcs : cs + 3 ≤ 601024 ∧ sl + 18 ≤ 7293034) (hs : Sim_dear N Rel) (hrel : Rel aC aM) (K : ∀ aC1 aM1, Rel aC1 aM1 → LK p l e s m b below meth c D adC caC adM caM (cs + 3) (sl + 18) aC1 aM1 x4 2428) : LK p l e s m b below meth c D adC caC adM caM cs sl aC aM x4 2031 := by
  intro H locs ls hC hM hS hl
  have hx := X.1
  have hb := X.2.1
  have hsz := hl.1
  obtain ⟨k5, r6, aC1, aM1, f1, f2, f3, f4, hr⟩ := hs aC aM hrel (xs (Int32.toNatClampNeg (x4 + 1))) (xs (Int32.toNatClampNeg (x4 + 2)))
  refine lv_aload_n hx hb dL_law_2031 rfl (lv_at hl 1 rfl) ?_
  refine lv_aload_n hx hb dL_law_2032 rfl (lv_at hl 0 rfl) ?_
  refine lv_iload hx hb dL_law_2033 (lv_at hl 4 rfl) ?_
  refine lv_iconst (v := 1) hx hb dL_law_2035 (by decide) ?_
  refine lv_iadd hx hb dL_law_2036 ?_
  refine va_sld hx hb hX hbl hbA hS (hin 1 (by decide)) dL_law_2037 ?_
  refine lv_aload_n hx hb dL_law_2038 rfl (lv_at hl 0 rfl) ?_
  refine lv_iload hx hb dL_law_2039 (lv_at hl 4 rfl) ?_
  refine lv_iconst (v := 2) hx hb dL_law_2041 (by decide) ?_
  refine lv_iadd hx hb dL_law_2042 ?_
  refine va_sld hx hb hX hbl hbA hS (hin 2 (by decide)) dL_law_2043 ?_
  refine lv_aload_n hx hb dL_law_2044 rfl (lv_at hl 3 rfl) ?_
  refine l_callH (n := 4) X (c_L_dear X.2.2.2.2.2.2.2.2.2.2.1 X.2.2.2.2.2.2.2.2.2.1 f1) wml_L_221 wmt_L_dear wmn_L wmc_L_dear (by decide +kernel) rfl rfl rfl ⟨by decide, by decide⟩ dL_law_2045 hC hM hS ⟨by omega, by omega⟩ hsz rfl (Nat.le_of_ble_eq_true rfl) 2048 rfl (fun H locs hC hM hS => ?_)
  refine lv_istore (lv' := [(5, .int k5), (0, .ref b), (1, .ref (adC 0)), (2, .ref (adM 0)), (3, .ref (adC 91)), (4, .int x4)]) hx hb dL_law_2048 hl (by decide) rfl (fun ls hl => ?_)
  have hsz := hl.1
  refine lv_aload_n hx hb dL_law_2050 rfl (lv_at hl 3 rfl) ?_
  refine lv_aload_n hx hb dL_law_2051 rfl (lv_at hl 1 rfl) ?_
  refine lv_iload hx hb dL_law_2052 (lv_at hl 5 rfl) ?_
  refine lv_iconst (v := 1) hx hb dL_law_2054 (by decide) ?_
  refine lv_iadd hx hb dL_law_2055 ?_
  refine va_sld hx hb hX hbl hbA hS (hin 1 (by decide)) dL_law_2056 ?_
  refine lv_aload_n hx hb dL_law_2057 rfl (lv_at hl 1 rfl) ?_
  refine lv_iload hx hb dL_law_2058 (lv_at hl 5 rfl) ?_
  refine lv_iconst (v := 2) hx hb dL_law_2060 (by decide) ?_
  refine lv_iadd hx hb dL_law_2061 ?_
  refine va_sld hx hb hX hbl hbA hS (hin 2 (by decide)) dL_law_2062 ?_
  refine l_callM X (c_X12_dear X.2.2.2.2.2.2.2.2.2.2.2.1 f2) wml_L_223 wq_X12_dear rfl rfl rfl ⟨by decide, by decide⟩ dL_law_2063 hC hM hS ⟨by omega, by omega⟩ hsz rfl (Nat.le_of_ble_eq_true rfl) 2066 rfl (fun H locs hC hM hS => ?_)
  refine lv_istore (lv' := [(6, .int r6), (5, .int k5), (0, .ref b), (1, .ref (adC 0)), (2, .ref (adM 0)), (3, .ref (adC 91)), (4, .int x4)]) hx hb dL_law_2066 hl (by decide) rfl (fun ls hl => ?_)
  have hsz := hl.1
  refine lv_aload_n hx hb dL_law_2068 rfl (lv_at hl 4 rfl) ?_
  refine l_callM X (c_X12_thrown X.2.2.2.2.2.2.2.2.2.2.2.1 (show F_X12_thrown N aM1 = some (aM1 0 0, aM1) from rfl)) wml_L_128 wq_X12_thrown rfl rfl rfl ⟨by decide, by decide⟩ dL_law_2069 hC hM hS ⟨by omega, by omega⟩ hsz rfl (Nat.le_of_ble_eq_true rfl) 2072 rfl (fun H locs hC hM hS => ?_)
  refine lv_iload hx hb dL_law_2072 (lv_at hl 1 rfl) ?_
  refine lv_icmp_eq (tgt := 2079) hx hb dL_law_2074 (by decide) (fun _ => ?_) (fun ne => absurd f3 ne)
  refine lv_iload hx hb dL_law_2079 (lv_at hl 1 rfl) ?_
  refine lv_if_ne (tgt := 2096) hx hb dL_law_2081 (by decide) (fun _ => ?_) (fun k0 => ?_)
  · refine lv_goto (tgt := 2428) hx hb dL_law_2096 (by decide) ?_
    exact K aC1 aM1 hr H locs ls hC hM hS (lv_sub hl [2, 3, 4, 5, 6] rfl)
  · have f4 := f4 k0
    refine lv_aload_n hx hb dL_law_2084 rfl (lv_at hl 5 rfl) ?_
    refine lv_iconst (v := 0) hx hb dL_law_2085 (by decide) ?_
    refine va_lald hx hb X.2.2.2.2.2.1 hC 91 2 (xw_get lc91 EC_91) rfl (show vp_in 0 1 from (show ¬ ((0 : Int32) < 0 ∨ 1 ≤ Int32.toNatClampNeg 0) by decide)) dL_law_2086 ?_
    refine lv_iload hx hb dL_law_2087 (lv_at hl 0 rfl) ?_
    refine lv_i2l hx hb dL_law_2089 rfl ?_
    refine W.lcmp hx hb dL_law_2090 ?_
    refine lv_if_eq (tgt := 2096) hx hb dL_law_2091 (by decide) (fun _ => ?_) (fun ne => absurd (by rw [show aC1 91 (Int32.toNatClampNeg 0) = aC1 91 0 from rfl, f4]; exact l_cmp_self _) ne)
    refine lv_goto (tgt := 2428) hx hb dL_law_2096 (by decide) ?_
    exact K aC1 aM1 hr H locs ls hC hM hS (lv_sub hl [2, 3, 4, 5, 6] rfl)
def Sim_sentence (N : Nat) (Rel : AH → AH → Prop) : Prop := ∀ (aC aM : AH), Rel aC aM → ∀ p1 : Int32, ∃ (k r : Int32) (aC1 aM1 : AH), F_L_sentence N aC p1 = some (k, aC1) ∧ F_X12_sentence N aM p1 = some (r, aM1) ∧ aM1 0 0 = k ∧ (k = 0 → aC1 91 0 = r) ∧ Rel aC1 aM1
theorem law_sentence (X : LX p l s m b meth c D adC caC adM caM) (hX : va_X b L xs s s.heap) (hbl : b < s.heap.size) (hbA : ¬ (fun q : Nat => s.heap.size ≤ q) b) (hin : ∀ j : Int32, 0 ≤ j ∧ j ≤ 5 → vp_in (x4 + j) L) (hcs : cs + 3 ≤ 601024 ∧ sl + 18 ≤ 7293034) (hs : Sim_sentence N Rel) (hrel : Rel aC aM) (K : ∀ aC1 aM1, Rel aC1 aM1 → LK p l e s m b below meth c D adC caC adM caM (cs + 3) (sl + 18) aC1 aM1 x4 2428) : LK p l e s m b below meth c D adC caC adM caM cs sl aC aM x4 2099 := by
  intro H locs ls hC hM hS hl
  have hx := X.1
  have hb := X.2.1
  have hsz := hl.1
  obtain ⟨k5, r6, aC1, aM1, f1, f2, f3, f4, hr⟩ := hs aC aM hrel (xs (Int32.toNatClampNeg (x4 + 1)))
  refine lv_aload_n hx hb dL_law_2099 rfl (lv_at hl 1 rfl) ?_
  refine lv_aload_n hx hb dL_law_2100 rfl (lv_at hl 0 rfl) ?_
  refine lv_iload hx hb dL_law_2101 (lv_at hl 4 rfl) ?_
  refine lv_iconst (v := 1) hx hb dL_law_2103 (by decide) ?_
  refine lv_iadd hx hb dL_law_2104 ?_
  refine va_sld hx hb hX hbl hbA hS (hin 1 (by decide)) dL_law_2105 ?_
  refine lv_aload_n hx hb dL_law_2106 rfl (lv_at hl 3 rfl) ?_
  refine l_callH (n := 3) X (c_L_sentence X.2.2.2.2.2.2.2.2.2.2.1 X.2.2.2.2.2.2.2.2.2.1 f1) wml_L_224 wmt_L_sentence wmn_L wmc_L_sentence (by decide +kernel) rfl rfl rfl ⟨by decide, by decide⟩ dL_law_2107 hC hM hS ⟨by omega, by omega⟩ hsz rfl (Nat.le_of_ble_eq_true rfl) 2110 rfl (fun H locs hC hM hS => ?_)
  refine lv_istore (lv' := [(5, .int k5), (0, .ref b), (1, .ref (adC 0)), (2, .ref (adM 0)), (3, .ref (adC 91)), (4, .int x4)]) hx hb dL_law_2110 hl (by decide) rfl (fun ls hl => ?_)
  have hsz := hl.1
  refine lv_aload_n hx hb dL_law_2112 rfl (lv_at hl 3 rfl) ?_
  refine lv_aload_n hx hb dL_law_2113 rfl (lv_at hl 1 rfl) ?_
  refine lv_iload hx hb dL_law_2114 (lv_at hl 5 rfl) ?_
  refine lv_iconst (v := 1) hx hb dL_law_2116 (by decide) ?_
  refine lv_iadd hx hb dL_law_2117 ?_
  refine va_sld hx hb hX hbl hbA hS (hin 1 (by decide)) dL_law_2118 ?_
  refine l_callM X (c_X12_sentence X.2.2.2.2.2.2.2.2.2.2.2.1 f2) wml_L_226 wq_X12_sentence rfl rfl rfl ⟨by decide, by decide⟩ dL_law_2119 hC hM hS ⟨by omega, by omega⟩ hsz rfl (Nat.le_of_ble_eq_true rfl) 2122 rfl (fun H locs hC hM hS => ?_)
  refine lv_istore (lv' := [(6, .int r6), (5, .int k5), (0, .ref b), (1, .ref (adC 0)), (2, .ref (adM 0)), (3, .ref (adC 91)), (4, .int x4)]) hx hb dL_law_2122 hl (by decide) rfl (fun ls hl => ?_)
  have hsz := hl.1
  refine lv_aload_n hx hb dL_law_2124 rfl (lv_at hl 4 rfl) ?_
  refine l_callM X (c_X12_thrown X.2.2.2.2.2.2.2.2.2.2.2.1 (show F_X12_thrown N aM1 = some (aM1 0 0, aM1) from rfl)) wml_L_128 wq_X12_thrown rfl rfl rfl ⟨by decide, by decide⟩ dL_law_2125 hC hM hS ⟨by omega, by omega⟩ hsz rfl (Nat.le_of_ble_eq_true rfl) 2128 rfl (fun H locs hC hM hS => ?_)
  refine lv_iload hx hb dL_law_2128 (lv_at hl 1 rfl) ?_
  refine lv_icmp_eq (tgt := 2135) hx hb dL_law_2130 (by decide) (fun _ => ?_) (fun ne => absurd f3 ne)
  refine lv_iload hx hb dL_law_2135 (lv_at hl 1 rfl) ?_
  refine lv_if_ne (tgt := 2152) hx hb dL_law_2137 (by decide) (fun _ => ?_) (fun k0 => ?_)
  · refine lv_goto (tgt := 2428) hx hb dL_law_2152 (by decide) ?_
    exact K aC1 aM1 hr H locs ls hC hM hS (lv_sub hl [2, 3, 4, 5, 6] rfl)
  · have f4 := f4 k0
    refine lv_aload_n hx hb dL_law_2140 rfl (lv_at hl 5 rfl) ?_
    refine lv_iconst (v := 0) hx hb dL_law_2141 (by decide) ?_
    refine va_lald hx hb X.2.2.2.2.2.1 hC 91 2 (xw_get lc91 EC_91) rfl (show vp_in 0 1 from (show ¬ ((0 : Int32) < 0 ∨ 1 ≤ Int32.toNatClampNeg 0) by decide)) dL_law_2142 ?_
    refine lv_iload hx hb dL_law_2143 (lv_at hl 0 rfl) ?_
    refine lv_i2l hx hb dL_law_2145 rfl ?_
    refine W.lcmp hx hb dL_law_2146 ?_
    refine lv_if_eq (tgt := 2152) hx hb dL_law_2147 (by decide) (fun _ => ?_) (fun ne => absurd (by rw [show aC1 91 (Int32.toNatClampNeg 0) = aC1 91 0 from rfl, f4]; exact l_cmp_self _) ne)
    refine lv_goto (tgt := 2428) hx hb dL_law_2152 (by decide) ?_
    exact K aC1 aM1 hr H locs ls hC hM hS (lv_sub hl [2, 3, 4, 5, 6] rfl)
def Sim_said (N : Nat) (Rel : AH → AH → Prop) : Prop := ∀ (aC aM : AH), Rel aC aM → ∀ p1 : Int32, ∃ (k r : Int32) (aC1 aM1 : AH), F_L_said N aC p1 = some (k, aC1) ∧ F_X12_said N aM p1 = some (r, aM1) ∧ aM1 0 0 = k ∧ (k = 0 → aC1 91 0 = r) ∧ Rel aC1 aM1
theorem law_said (X : LX p l s m b meth c D adC caC adM caM) (hX : va_X b L xs s s.heap) (hbl : b < s.heap.size) (hbA : ¬ (fun q : Nat => s.heap.size ≤ q) b) (hin : ∀ j : Int32, 0 ≤ j ∧ j ≤ 5 → vp_in (x4 + j) L) (hcs : cs + 3 ≤ 601024 ∧ sl + 18 ≤ 7293034) (hs : Sim_said N Rel) (hrel : Rel aC aM) (K : ∀ aC1 aM1, Rel aC1 aM1 → LK p l e s m b below meth c D adC caC adM caM (cs + 3) (sl + 18) aC1 aM1 x4 2428) : LK p l e s m b below meth c D adC caC adM caM cs sl aC aM x4 2155 := by
  intro H locs ls hC hM hS hl
  have hx := X.1
  have hb := X.2.1
  have hsz := hl.1
  obtain ⟨k5, r6, aC1, aM1, f1, f2, f3, f4, hr⟩ := hs aC aM hrel (xs (Int32.toNatClampNeg (x4 + 1)))
  refine lv_aload_n hx hb dL_law_2155 rfl (lv_at hl 1 rfl) ?_
  refine lv_aload_n hx hb dL_law_2156 rfl (lv_at hl 0 rfl) ?_
  refine lv_iload hx hb dL_law_2157 (lv_at hl 4 rfl) ?_
  refine lv_iconst (v := 1) hx hb dL_law_2159 (by decide) ?_
  refine lv_iadd hx hb dL_law_2160 ?_
  refine va_sld hx hb hX hbl hbA hS (hin 1 (by decide)) dL_law_2161 ?_
  refine lv_aload_n hx hb dL_law_2162 rfl (lv_at hl 3 rfl) ?_
  refine l_callH (n := 3) X (c_L_said X.2.2.2.2.2.2.2.2.2.2.1 X.2.2.2.2.2.2.2.2.2.1 f1) wml_L_227 wmt_L_said wmn_L wmc_L_said (by decide +kernel) rfl rfl rfl ⟨by decide, by decide⟩ dL_law_2163 hC hM hS ⟨by omega, by omega⟩ hsz rfl (Nat.le_of_ble_eq_true rfl) 2166 rfl (fun H locs hC hM hS => ?_)
  refine lv_istore (lv' := [(5, .int k5), (0, .ref b), (1, .ref (adC 0)), (2, .ref (adM 0)), (3, .ref (adC 91)), (4, .int x4)]) hx hb dL_law_2166 hl (by decide) rfl (fun ls hl => ?_)
  have hsz := hl.1
  refine lv_aload_n hx hb dL_law_2168 rfl (lv_at hl 3 rfl) ?_
  refine lv_aload_n hx hb dL_law_2169 rfl (lv_at hl 1 rfl) ?_
  refine lv_iload hx hb dL_law_2170 (lv_at hl 5 rfl) ?_
  refine lv_iconst (v := 1) hx hb dL_law_2172 (by decide) ?_
  refine lv_iadd hx hb dL_law_2173 ?_
  refine va_sld hx hb hX hbl hbA hS (hin 1 (by decide)) dL_law_2174 ?_
  refine l_callM X (c_X12_said X.2.2.2.2.2.2.2.2.2.2.2.1 f2) wml_L_229 wq_X12_said rfl rfl rfl ⟨by decide, by decide⟩ dL_law_2175 hC hM hS ⟨by omega, by omega⟩ hsz rfl (Nat.le_of_ble_eq_true rfl) 2178 rfl (fun H locs hC hM hS => ?_)
  refine lv_istore (lv' := [(6, .int r6), (5, .int k5), (0, .ref b), (1, .ref (adC 0)), (2, .ref (adM 0)), (3, .ref (adC 91)), (4, .int x4)]) hx hb dL_law_2178 hl (by decide) rfl (fun ls hl => ?_)
  have hsz := hl.1
  refine lv_aload_n hx hb dL_law_2180 rfl (lv_at hl 4 rfl) ?_
  refine l_callM X (c_X12_thrown X.2.2.2.2.2.2.2.2.2.2.2.1 (show F_X12_thrown N aM1 = some (aM1 0 0, aM1) from rfl)) wml_L_128 wq_X12_thrown rfl rfl rfl ⟨by decide, by decide⟩ dL_law_2181 hC hM hS ⟨by omega, by omega⟩ hsz rfl (Nat.le_of_ble_eq_true rfl) 2184 rfl (fun H locs hC hM hS => ?_)
  refine lv_iload hx hb dL_law_2184 (lv_at hl 1 rfl) ?_
  refine lv_icmp_eq (tgt := 2191) hx hb dL_law_2186 (by decide) (fun _ => ?_) (fun ne => absurd f3 ne)
  refine lv_iload hx hb dL_law_2191 (lv_at hl 1 rfl) ?_
  refine lv_if_ne (tgt := 2208) hx hb dL_law_2193 (by decide) (fun _ => ?_) (fun k0 => ?_)
  · refine lv_goto (tgt := 2428) hx hb dL_law_2208 (by decide) ?_
    exact K aC1 aM1 hr H locs ls hC hM hS (lv_sub hl [2, 3, 4, 5, 6] rfl)
  · have f4 := f4 k0
    refine lv_aload_n hx hb dL_law_2196 rfl (lv_at hl 5 rfl) ?_
    refine lv_iconst (v := 0) hx hb dL_law_2197 (by decide) ?_
    refine va_lald hx hb X.2.2.2.2.2.1 hC 91 2 (xw_get lc91 EC_91) rfl (show vp_in 0 1 from (show ¬ ((0 : Int32) < 0 ∨ 1 ≤ Int32.toNatClampNeg 0) by decide)) dL_law_2198 ?_
    refine lv_iload hx hb dL_law_2199 (lv_at hl 0 rfl) ?_
    refine lv_i2l hx hb dL_law_2201 rfl ?_
    refine W.lcmp hx hb dL_law_2202 ?_
    refine lv_if_eq (tgt := 2208) hx hb dL_law_2203 (by decide) (fun _ => ?_) (fun ne => absurd (by rw [show aC1 91 (Int32.toNatClampNeg 0) = aC1 91 0 from rfl, f4]; exact l_cmp_self _) ne)
    refine lv_goto (tgt := 2428) hx hb dL_law_2208 (by decide) ?_
    exact K aC1 aM1 hr H locs ls hC hM hS (lv_sub hl [2, 3, 4, 5, 6] rfl)
def Sim_apart (N : Nat) (Rel : AH → AH → Prop) : Prop := ∀ (aC aM : AH), Rel aC aM → ∀ p1 p2 : Int32, ∃ (k r : Int32) (aC1 aM1 : AH), F_L_apart N aC p1 p2 = some (k, aC1) ∧ F_X12_apart N aM p1 p2 = some (r, aM1) ∧ aM1 0 0 = k ∧ (k = 0 → aC1 91 0 = r) ∧ Rel aC1 aM1
theorem law_apart (X : LX p l s m b meth c D adC caC adM caM) (hX : va_X b L xs s s.heap) (hbl : b < s.heap.size) (hbA : ¬ (fun q : Nat => s.heap.size ≤ q) b) (hin : ∀ j : Int32, 0 ≤ j ∧ j ≤ 5 → vp_in (x4 + j) L) (hcs : cs + 3 ≤ 601024 ∧ sl + 18 ≤ 7293034) (hs : Sim_apart N Rel) (hrel : Rel aC aM) (K : ∀ aC1 aM1, Rel aC1 aM1 → LK p l e s m b below meth c D adC caC adM caM (cs + 3) (sl + 18) aC1 aM1 x4 2428) : LK p l e s m b below meth c D adC caC adM caM cs sl aC aM x4 2211 := by
  intro H locs ls hC hM hS hl
  have hx := X.1
  have hb := X.2.1
  have hsz := hl.1
  obtain ⟨k5, r6, aC1, aM1, f1, f2, f3, f4, hr⟩ := hs aC aM hrel (xs (Int32.toNatClampNeg (x4 + 1))) (xs (Int32.toNatClampNeg (x4 + 2)))
  refine lv_aload_n hx hb dL_law_2211 rfl (lv_at hl 1 rfl) ?_
  refine lv_aload_n hx hb dL_law_2212 rfl (lv_at hl 0 rfl) ?_
  refine lv_iload hx hb dL_law_2213 (lv_at hl 4 rfl) ?_
  refine lv_iconst (v := 1) hx hb dL_law_2215 (by decide) ?_
  refine lv_iadd hx hb dL_law_2216 ?_
  refine va_sld hx hb hX hbl hbA hS (hin 1 (by decide)) dL_law_2217 ?_
  refine lv_aload_n hx hb dL_law_2218 rfl (lv_at hl 0 rfl) ?_
  refine lv_iload hx hb dL_law_2219 (lv_at hl 4 rfl) ?_
  refine lv_iconst (v := 2) hx hb dL_law_2221 (by decide) ?_
  refine lv_iadd hx hb dL_law_2222 ?_
  refine va_sld hx hb hX hbl hbA hS (hin 2 (by decide)) dL_law_2223 ?_
  refine lv_aload_n hx hb dL_law_2224 rfl (lv_at hl 3 rfl) ?_
  refine l_callH (n := 4) X (c_L_apart X.2.2.2.2.2.2.2.2.2.2.1 X.2.2.2.2.2.2.2.2.2.1 f1) wml_L_230 wmt_L_apart wmn_L wmc_L_apart (by decide +kernel) rfl rfl rfl ⟨by decide, by decide⟩ dL_law_2225 hC hM hS ⟨by omega, by omega⟩ hsz rfl (Nat.le_of_ble_eq_true rfl) 2228 rfl (fun H locs hC hM hS => ?_)
  refine lv_istore (lv' := [(5, .int k5), (0, .ref b), (1, .ref (adC 0)), (2, .ref (adM 0)), (3, .ref (adC 91)), (4, .int x4)]) hx hb dL_law_2228 hl (by decide) rfl (fun ls hl => ?_)
  have hsz := hl.1
  refine lv_aload_n hx hb dL_law_2230 rfl (lv_at hl 3 rfl) ?_
  refine lv_aload_n hx hb dL_law_2231 rfl (lv_at hl 1 rfl) ?_
  refine lv_iload hx hb dL_law_2232 (lv_at hl 5 rfl) ?_
  refine lv_iconst (v := 1) hx hb dL_law_2234 (by decide) ?_
  refine lv_iadd hx hb dL_law_2235 ?_
  refine va_sld hx hb hX hbl hbA hS (hin 1 (by decide)) dL_law_2236 ?_
  refine lv_aload_n hx hb dL_law_2237 rfl (lv_at hl 1 rfl) ?_
  refine lv_iload hx hb dL_law_2238 (lv_at hl 5 rfl) ?_
  refine lv_iconst (v := 2) hx hb dL_law_2240 (by decide) ?_
  refine lv_iadd hx hb dL_law_2241 ?_
  refine va_sld hx hb hX hbl hbA hS (hin 2 (by decide)) dL_law_2242 ?_
  refine l_callM X (c_X12_apart X.2.2.2.2.2.2.2.2.2.2.2.1 f2) wml_L_232 wq_X12_apart rfl rfl rfl ⟨by decide, by decide⟩ dL_law_2243 hC hM hS ⟨by omega, by omega⟩ hsz rfl (Nat.le_of_ble_eq_true rfl) 2246 rfl (fun H locs hC hM hS => ?_)
  refine lv_istore (lv' := [(6, .int r6), (5, .int k5), (0, .ref b), (1, .ref (adC 0)), (2, .ref (adM 0)), (3, .ref (adC 91)), (4, .int x4)]) hx hb dL_law_2246 hl (by decide) rfl (fun ls hl => ?_)
  have hsz := hl.1
  refine lv_aload_n hx hb dL_law_2248 rfl (lv_at hl 4 rfl) ?_
  refine l_callM X (c_X12_thrown X.2.2.2.2.2.2.2.2.2.2.2.1 (show F_X12_thrown N aM1 = some (aM1 0 0, aM1) from rfl)) wml_L_128 wq_X12_thrown rfl rfl rfl ⟨by decide, by decide⟩ dL_law_2249 hC hM hS ⟨by omega, by omega⟩ hsz rfl (Nat.le_of_ble_eq_true rfl) 2252 rfl (fun H locs hC hM hS => ?_)
  refine lv_iload hx hb dL_law_2252 (lv_at hl 1 rfl) ?_
  refine lv_icmp_eq (tgt := 2259) hx hb dL_law_2254 (by decide) (fun _ => ?_) (fun ne => absurd f3 ne)
  refine lv_iload hx hb dL_law_2259 (lv_at hl 1 rfl) ?_
  refine lv_if_ne (tgt := 2276) hx hb dL_law_2261 (by decide) (fun _ => ?_) (fun k0 => ?_)
  · refine lv_goto (tgt := 2428) hx hb dL_law_2276 (by decide) ?_
    exact K aC1 aM1 hr H locs ls hC hM hS (lv_sub hl [2, 3, 4, 5, 6] rfl)
  · have f4 := f4 k0
    refine lv_aload_n hx hb dL_law_2264 rfl (lv_at hl 5 rfl) ?_
    refine lv_iconst (v := 0) hx hb dL_law_2265 (by decide) ?_
    refine va_lald hx hb X.2.2.2.2.2.1 hC 91 2 (xw_get lc91 EC_91) rfl (show vp_in 0 1 from (show ¬ ((0 : Int32) < 0 ∨ 1 ≤ Int32.toNatClampNeg 0) by decide)) dL_law_2266 ?_
    refine lv_iload hx hb dL_law_2267 (lv_at hl 0 rfl) ?_
    refine lv_i2l hx hb dL_law_2269 rfl ?_
    refine W.lcmp hx hb dL_law_2270 ?_
    refine lv_if_eq (tgt := 2276) hx hb dL_law_2271 (by decide) (fun _ => ?_) (fun ne => absurd (by rw [show aC1 91 (Int32.toNatClampNeg 0) = aC1 91 0 from rfl, f4]; exact l_cmp_self _) ne)
    refine lv_goto (tgt := 2428) hx hb dL_law_2276 (by decide) ?_
    exact K aC1 aM1 hr H locs ls hC hM hS (lv_sub hl [2, 3, 4, 5, 6] rfl)
def Sim_twin (N : Nat) (Rel : AH → AH → Prop) : Prop := ∀ (aC aM : AH), Rel aC aM → ∀ p1 p2 : Int32, ∃ (k r : Int32) (aC1 aM1 : AH), F_L_twin N aC p1 p2 = some (k, aC1) ∧ F_X12_twin N aM p1 p2 = some (r, aM1) ∧ aM1 0 0 = k ∧ (k = 0 → aC1 91 0 = r) ∧ Rel aC1 aM1
theorem law_twin (X : LX p l s m b meth c D adC caC adM caM) (hX : va_X b L xs s s.heap) (hbl : b < s.heap.size) (hbA : ¬ (fun q : Nat => s.heap.size ≤ q) b) (hin : ∀ j : Int32, 0 ≤ j ∧ j ≤ 5 → vp_in (x4 + j) L) (hcs : cs + 3 ≤ 601024 ∧ sl + 18 ≤ 7293034) (hs : Sim_twin N Rel) (hrel : Rel aC aM) (K : ∀ aC1 aM1, Rel aC1 aM1 → LK p l e s m b below meth c D adC caC adM caM (cs + 3) (sl + 18) aC1 aM1 x4 2428) : LK p l e s m b below meth c D adC caC adM caM cs sl aC aM x4 2279 := by
  intro H locs ls hC hM hS hl
  have hx := X.1
  have hb := X.2.1
  have hsz := hl.1
  obtain ⟨k5, r6, aC1, aM1, f1, f2, f3, f4, hr⟩ := hs aC aM hrel (xs (Int32.toNatClampNeg (x4 + 1))) (xs (Int32.toNatClampNeg (x4 + 2)))
  refine lv_aload_n hx hb dL_law_2279 rfl (lv_at hl 1 rfl) ?_
  refine lv_aload_n hx hb dL_law_2280 rfl (lv_at hl 0 rfl) ?_
  refine lv_iload hx hb dL_law_2281 (lv_at hl 4 rfl) ?_
  refine lv_iconst (v := 1) hx hb dL_law_2283 (by decide) ?_
  refine lv_iadd hx hb dL_law_2284 ?_
  refine va_sld hx hb hX hbl hbA hS (hin 1 (by decide)) dL_law_2285 ?_
  refine lv_aload_n hx hb dL_law_2286 rfl (lv_at hl 0 rfl) ?_
  refine lv_iload hx hb dL_law_2287 (lv_at hl 4 rfl) ?_
  refine lv_iconst (v := 2) hx hb dL_law_2289 (by decide) ?_
  refine lv_iadd hx hb dL_law_2290 ?_
  refine va_sld hx hb hX hbl hbA hS (hin 2 (by decide)) dL_law_2291 ?_
  refine lv_aload_n hx hb dL_law_2292 rfl (lv_at hl 3 rfl) ?_
  refine l_callH (n := 4) X (c_L_twin X.2.2.2.2.2.2.2.2.2.2.1 X.2.2.2.2.2.2.2.2.2.1 f1) wml_L_233 wmt_L_twin wmn_L wmc_L_twin (by decide +kernel) rfl rfl rfl ⟨by decide, by decide⟩ dL_law_2293 hC hM hS ⟨by omega, by omega⟩ hsz rfl (Nat.le_of_ble_eq_true rfl) 2296 rfl (fun H locs hC hM hS => ?_)
  refine lv_istore (lv' := [(5, .int k5), (0, .ref b), (1, .ref (adC 0)), (2, .ref (adM 0)), (3, .ref (adC 91)), (4, .int x4)]) hx hb dL_law_2296 hl (by decide) rfl (fun ls hl => ?_)
  have hsz := hl.1
  refine lv_aload_n hx hb dL_law_2298 rfl (lv_at hl 3 rfl) ?_
  refine lv_aload_n hx hb dL_law_2299 rfl (lv_at hl 1 rfl) ?_
  refine lv_iload hx hb dL_law_2300 (lv_at hl 5 rfl) ?_
  refine lv_iconst (v := 1) hx hb dL_law_2302 (by decide) ?_
  refine lv_iadd hx hb dL_law_2303 ?_
  refine va_sld hx hb hX hbl hbA hS (hin 1 (by decide)) dL_law_2304 ?_
  refine lv_aload_n hx hb dL_law_2305 rfl (lv_at hl 1 rfl) ?_
  refine lv_iload hx hb dL_law_2306 (lv_at hl 5 rfl) ?_
  refine lv_iconst (v := 2) hx hb dL_law_2308 (by decide) ?_
  refine lv_iadd hx hb dL_law_2309 ?_
  refine va_sld hx hb hX hbl hbA hS (hin 2 (by decide)) dL_law_2310 ?_
  refine l_callM X (c_X12_twin X.2.2.2.2.2.2.2.2.2.2.2.1 f2) wml_L_235 wq_X12_twin rfl rfl rfl ⟨by decide, by decide⟩ dL_law_2311 hC hM hS ⟨by omega, by omega⟩ hsz rfl (Nat.le_of_ble_eq_true rfl) 2314 rfl (fun H locs hC hM hS => ?_)
  refine lv_istore (lv' := [(6, .int r6), (5, .int k5), (0, .ref b), (1, .ref (adC 0)), (2, .ref (adM 0)), (3, .ref (adC 91)), (4, .int x4)]) hx hb dL_law_2314 hl (by decide) rfl (fun ls hl => ?_)
  have hsz := hl.1
  refine lv_aload_n hx hb dL_law_2316 rfl (lv_at hl 4 rfl) ?_
  refine l_callM X (c_X12_thrown X.2.2.2.2.2.2.2.2.2.2.2.1 (show F_X12_thrown N aM1 = some (aM1 0 0, aM1) from rfl)) wml_L_128 wq_X12_thrown rfl rfl rfl ⟨by decide, by decide⟩ dL_law_2317 hC hM hS ⟨by omega, by omega⟩ hsz rfl (Nat.le_of_ble_eq_true rfl) 2320 rfl (fun H locs hC hM hS => ?_)
  refine lv_iload hx hb dL_law_2320 (lv_at hl 1 rfl) ?_
  refine lv_icmp_eq (tgt := 2327) hx hb dL_law_2322 (by decide) (fun _ => ?_) (fun ne => absurd f3 ne)
  refine lv_iload hx hb dL_law_2327 (lv_at hl 1 rfl) ?_
  refine lv_if_ne (tgt := 2344) hx hb dL_law_2329 (by decide) (fun _ => ?_) (fun k0 => ?_)
  · refine lv_goto (tgt := 2428) hx hb dL_law_2344 (by decide) ?_
    exact K aC1 aM1 hr H locs ls hC hM hS (lv_sub hl [2, 3, 4, 5, 6] rfl)
  · have f4 := f4 k0
    refine lv_aload_n hx hb dL_law_2332 rfl (lv_at hl 5 rfl) ?_
    refine lv_iconst (v := 0) hx hb dL_law_2333 (by decide) ?_
    refine va_lald hx hb X.2.2.2.2.2.1 hC 91 2 (xw_get lc91 EC_91) rfl (show vp_in 0 1 from (show ¬ ((0 : Int32) < 0 ∨ 1 ≤ Int32.toNatClampNeg 0) by decide)) dL_law_2334 ?_
    refine lv_iload hx hb dL_law_2335 (lv_at hl 0 rfl) ?_
    refine lv_i2l hx hb dL_law_2337 rfl ?_
    refine W.lcmp hx hb dL_law_2338 ?_
    refine lv_if_eq (tgt := 2344) hx hb dL_law_2339 (by decide) (fun _ => ?_) (fun ne => absurd (by rw [show aC1 91 (Int32.toNatClampNeg 0) = aC1 91 0 from rfl, f4]; exact l_cmp_self _) ne)
    refine lv_goto (tgt := 2428) hx hb dL_law_2344 (by decide) ?_
    exact K aC1 aM1 hr H locs ls hC hM hS (lv_sub hl [2, 3, 4, 5, 6] rfl)
def Sim_twins (N : Nat) (Rel : AH → AH → Prop) : Prop := ∀ (aC aM : AH), Rel aC aM → ∀ p1 : Int32, ∃ (k r : Int32) (aC1 aM1 : AH), F_L_twins N aC p1 = some (k, aC1) ∧ F_X12_twins N aM p1 = some (r, aM1) ∧ aM1 0 0 = k ∧ (k = 0 → aC1 91 0 = r) ∧ Rel aC1 aM1
theorem law_twins (X : LX p l s m b meth c D adC caC adM caM) (hX : va_X b L xs s s.heap) (hbl : b < s.heap.size) (hbA : ¬ (fun q : Nat => s.heap.size ≤ q) b) (hin : ∀ j : Int32, 0 ≤ j ∧ j ≤ 5 → vp_in (x4 + j) L) (hcs : cs + 3 ≤ 601024 ∧ sl + 18 ≤ 7293034) (hs : Sim_twins N Rel) (hrel : Rel aC aM) (K : ∀ aC1 aM1, Rel aC1 aM1 → LK p l e s m b below meth c D adC caC adM caM (cs + 3) (sl + 18) aC1 aM1 x4 2428) : LK p l e s m b below meth c D adC caC adM caM cs sl aC aM x4 2347 := by
  intro H locs ls hC hM hS hl
  have hx := X.1
  have hb := X.2.1
  have hsz := hl.1
  obtain ⟨k5, r6, aC1, aM1, f1, f2, f3, f4, hr⟩ := hs aC aM hrel (xs (Int32.toNatClampNeg (x4 + 1)))
  refine lv_aload_n hx hb dL_law_2347 rfl (lv_at hl 1 rfl) ?_
  refine lv_aload_n hx hb dL_law_2348 rfl (lv_at hl 0 rfl) ?_
  refine lv_iload hx hb dL_law_2349 (lv_at hl 4 rfl) ?_
  refine lv_iconst (v := 1) hx hb dL_law_2351 (by decide) ?_
  refine lv_iadd hx hb dL_law_2352 ?_
  refine va_sld hx hb hX hbl hbA hS (hin 1 (by decide)) dL_law_2353 ?_
  refine lv_aload_n hx hb dL_law_2354 rfl (lv_at hl 3 rfl) ?_
  refine l_callH (n := 3) X (c_L_twins X.2.2.2.2.2.2.2.2.2.2.1 X.2.2.2.2.2.2.2.2.2.1 f1) wml_L_236 wmt_L_twins wmn_L wmc_L_twins (by decide +kernel) rfl rfl rfl ⟨by decide, by decide⟩ dL_law_2355 hC hM hS ⟨by omega, by omega⟩ hsz rfl (Nat.le_of_ble_eq_true rfl) 2358 rfl (fun H locs hC hM hS => ?_)
  refine lv_istore (lv' := [(5, .int k5), (0, .ref b), (1, .ref (adC 0)), (2, .ref (adM 0)), (3, .ref (adC 91)), (4, .int x4)]) hx hb dL_law_2358 hl (by decide) rfl (fun ls hl => ?_)
  have hsz := hl.1
  refine lv_aload_n hx hb dL_law_2360 rfl (lv_at hl 3 rfl) ?_
  refine lv_aload_n hx hb dL_law_2361 rfl (lv_at hl 1 rfl) ?_
  refine lv_iload hx hb dL_law_2362 (lv_at hl 5 rfl) ?_
  refine lv_iconst (v := 1) hx hb dL_law_2364 (by decide) ?_
  refine lv_iadd hx hb dL_law_2365 ?_
  refine va_sld hx hb hX hbl hbA hS (hin 1 (by decide)) dL_law_2366 ?_
  refine l_callM X (c_X12_twins X.2.2.2.2.2.2.2.2.2.2.2.1 f2) wml_L_238 wq_X12_twins rfl rfl rfl ⟨by decide, by decide⟩ dL_law_2367 hC hM hS ⟨by omega, by omega⟩ hsz rfl (Nat.le_of_ble_eq_true rfl) 2370 rfl (fun H locs hC hM hS => ?_)
  refine lv_istore (lv' := [(6, .int r6), (5, .int k5), (0, .ref b), (1, .ref (adC 0)), (2, .ref (adM 0)), (3, .ref (adC 91)), (4, .int x4)]) hx hb dL_law_2370 hl (by decide) rfl (fun ls hl => ?_)
  have hsz := hl.1
  refine lv_aload_n hx hb dL_law_2372 rfl (lv_at hl 4 rfl) ?_
  refine l_callM X (c_X12_thrown X.2.2.2.2.2.2.2.2.2.2.2.1 (show F_X12_thrown N aM1 = some (aM1 0 0, aM1) from rfl)) wml_L_128 wq_X12_thrown rfl rfl rfl ⟨by decide, by decide⟩ dL_law_2373 hC hM hS ⟨by omega, by omega⟩ hsz rfl (Nat.le_of_ble_eq_true rfl) 2376 rfl (fun H locs hC hM hS => ?_)
  refine lv_iload hx hb dL_law_2376 (lv_at hl 1 rfl) ?_
  refine lv_icmp_eq (tgt := 2383) hx hb dL_law_2378 (by decide) (fun _ => ?_) (fun ne => absurd f3 ne)
  refine lv_iload hx hb dL_law_2383 (lv_at hl 1 rfl) ?_
  refine lv_if_ne (tgt := 2400) hx hb dL_law_2385 (by decide) (fun _ => ?_) (fun k0 => ?_)
  · refine lv_goto (tgt := 2428) hx hb dL_law_2400 (by decide) ?_
    exact K aC1 aM1 hr H locs ls hC hM hS (lv_sub hl [2, 3, 4, 5, 6] rfl)
  · have f4 := f4 k0
    refine lv_aload_n hx hb dL_law_2388 rfl (lv_at hl 5 rfl) ?_
    refine lv_iconst (v := 0) hx hb dL_law_2389 (by decide) ?_
    refine va_lald hx hb X.2.2.2.2.2.1 hC 91 2 (xw_get lc91 EC_91) rfl (show vp_in 0 1 from (show ¬ ((0 : Int32) < 0 ∨ 1 ≤ Int32.toNatClampNeg 0) by decide)) dL_law_2390 ?_
    refine lv_iload hx hb dL_law_2391 (lv_at hl 0 rfl) ?_
    refine lv_i2l hx hb dL_law_2393 rfl ?_
    refine W.lcmp hx hb dL_law_2394 ?_
    refine lv_if_eq (tgt := 2400) hx hb dL_law_2395 (by decide) (fun _ => ?_) (fun ne => absurd (by rw [show aC1 91 (Int32.toNatClampNeg 0) = aC1 91 0 from rfl, f4]; exact l_cmp_self _) ne)
    refine lv_goto (tgt := 2428) hx hb dL_law_2400 (by decide) ?_
    exact K aC1 aM1 hr H locs ls hC hM hS (lv_sub hl [2, 3, 4, 5, 6] rfl)
def Sim_status (N : Nat) (Rel : AH → AH → Prop) : Prop := ∀ (aC aM : AH), Rel aC aM → ∀ p1 : Int32, ∃ (r : Int32) (aC1 aM1 : AH), F_X11_status N aC p1 = some (r, aC1) ∧ F_X12_status N aM p1 = some (r, aM1) ∧ Rel aC1 aM1
theorem law_status (X : LX p l s m b meth c D adC caC adM caM) (hX : va_X b L xs s s.heap) (hbl : b < s.heap.size) (hbA : ¬ (fun q : Nat => s.heap.size ≤ q) b) (hin : ∀ j : Int32, 0 ≤ j ∧ j ≤ 5 → vp_in (x4 + j) L) (hcs : cs + 3 ≤ 601024 ∧ sl + 18 ≤ 7293034) (hs : Sim_status N Rel) (hrel : Rel aC aM) (K : ∀ aC1 aM1, Rel aC1 aM1 → LK p l e s m b below meth c D adC caC adM caM (cs + 3) (sl + 18) aC1 aM1 x4 2428) : LK p l e s m b below meth c D adC caC adM caM cs sl aC aM x4 2403 := by
  intro H locs ls hC hM hS hl
  have hx := X.1
  have hb := X.2.1
  have hsz := hl.1
  obtain ⟨r6, aC1, aM1, f1, f2, hr⟩ := hs aC aM hrel (xs (Int32.toNatClampNeg (x4 + 1)))
  refine lv_aload_n hx hb dL_law_2403 rfl (lv_at hl 1 rfl) ?_
  refine lv_aload_n hx hb dL_law_2404 rfl (lv_at hl 0 rfl) ?_
  refine lv_iload hx hb dL_law_2405 (lv_at hl 4 rfl) ?_
  refine lv_iconst (v := 1) hx hb dL_law_2407 (by decide) ?_
  refine lv_iadd hx hb dL_law_2408 ?_
  refine va_sld hx hb hX hbl hbA hS (hin 1 (by decide)) dL_law_2409 ?_
  refine l_callC X (c_X11_status X.2.2.2.2.2.2.2.2.2.2.1 f1) wml_L_239 wq_X11_status rfl rfl rfl ⟨by decide, by decide⟩ dL_law_2410 hC hM hS ⟨by omega, by omega⟩ hsz rfl (Nat.le_of_ble_eq_true rfl) 2413 rfl (fun H locs hC hM hS => ?_)
  refine lv_aload_n hx hb dL_law_2413 rfl (lv_at hl 2 rfl) ?_
  refine lv_aload_n hx hb dL_law_2414 rfl (lv_at hl 0 rfl) ?_
  refine lv_iload hx hb dL_law_2415 (lv_at hl 4 rfl) ?_
  refine lv_iconst (v := 1) hx hb dL_law_2417 (by decide) ?_
  refine lv_iadd hx hb dL_law_2418 ?_
  refine va_sld hx hb hX hbl hbA hS (hin 1 (by decide)) dL_law_2419 ?_
  refine l_callM X (c_X12_status X.2.2.2.2.2.2.2.2.2.2.2.1 f2) wml_L_242 wq_X12_status rfl rfl rfl ⟨by decide, by decide⟩ dL_law_2420 hC hM hS ⟨by omega, by omega⟩ hsz rfl (Nat.le_of_ble_eq_true rfl) 2423 rfl (fun H locs hC hM hS => ?_)
  refine lv_icmp_eq (tgt := 2428) hx hb dL_law_2423 (by decide) (fun _ => ?_) (fun ne => absurd rfl ne)
  refine W.widen (k := cs + 3) (n := sl + 18) (by omega) (by omega) ?_
  exact K aC1 aM1 hr H locs ls hC hM hS (lv_sub hl [0, 1, 2, 3, 4] rfl)
end
def SimAll (N : Nat) (Rel : AH → AH → Prop) : Prop := Sim_feed N Rel ∧ Sim_lexicon N Rel ∧ Sim_shapes N Rel ∧ Sim_reading N Rel ∧ Sim_fault N Rel ∧ Sim_follows N Rel ∧ Sim_forget N Rel ∧ Sim_set N Rel ∧ Sim_weigh N Rel ∧ Sim_learn N Rel ∧ Sim_told N Rel ∧ Sim_word N Rel ∧ Sim_sign N Rel ∧ Sim_find N Rel ∧ Sim_node N Rel ∧ Sim_child N Rel ∧ Sim_shape N Rel ∧ Sim_token N Rel ∧ Sim_cell N Rel ∧ Sim_rest N Rel ∧ Sim_best N Rel ∧ Sim_price N Rel ∧ Sim_within N Rel ∧ Sim_mended N Rel ∧ Sim_text N Rel ∧ Sim_at N Rel ∧ Sim_lost N Rel ∧ Sim_way N Rel ∧ Sim_edge N Rel ∧ Sim_used N Rel ∧ Sim_dear N Rel ∧ Sim_sentence N Rel ∧ Sim_said N Rel ∧ Sim_apart N Rel ∧ Sim_twin N Rel ∧ Sim_twins N Rel ∧ Sim_status N Rel
