/-- a maker of K cells with S slots: what it leaves, by the place z where it begins -/
def Mk (e : Env) (V : Vm → Prop) (mk : Sem Addr) (f : State → State) (K S : Nat) (g : Nat → Nat → Cell) : Prop :=
  (∀ s : State, (f s).heap.size = s.heap.size + K ∧ (f s).vm = s.vm ∧ (f s).slotsUsed = s.slotsUsed + S ∧ (∀ x : Nat, x < s.heap.size → (f s).heap[x]? = s.heap[x]?) ∧ (∀ j : Nat, j < K → (f s).heap[s.heap.size + j]? = some (g s.heap.size j))) ∧
  (∀ (s : State) (fr : JFrame), f (s.setTop fr) = (f s).setTop fr) ∧
  (∀ (E : CtlPost) (d : Bool) (acts : List Action) (s : State) (Q : Addr → Pre), V s.vm → s.heap.size + K ≤ e.platform.maxCells → s.slotsUsed + S ≤ e.platform.maxSlots → (∀ d' acts', Q s.heap.size d' acts' (f s)) → wp mk Q E e d acts s) ∧
  (∀ (p : Program) (l : Launch) (R : Room) (s : State) (m : MethodId) (args : Array Value) (below : List Frame) (meth : Method) (c : Code) (T : State) (locs : List Loc) (cells slots : Nat), Stand p l e R s m args below meth c T locs cells slots → ∃ L : List Loc, Stand p l e R s m args below meth c (f T) (locs ++ L) (cells + K) (slots + S) ∧ ∀ x ∈ L, T.heap.size ≤ x.base)
def mV1 (c : ClassId) (type : FieldType) : Vm → Prop := fun vm => ∃ (kc : Class) (cc : ClassId), vm.classes[c]? = some kc ∧ kc.kind = .array cc type
theorem Mk.leaf {e : Env} {c : ClassId} {type : FieldType} {m : Int32} {M : Nat} (hM : m.toNatClampNeg = M) (hm : ¬ m < 0) (hl : ¬ M > e.platform.arrayLengthLimit) (hh : ¬ M * componentBytes type > e.platform.maxHeapBytes) (hdf : fits type (defaultValue type) = true) (hdd : (defaultValue type).isDefault = true) :
    Mk e (mV1 c type) (multianewarray.make c [m]) (fun s => s.pushCell (Jvm.Free.Multi.innerC c M (defaultValue type))) 1 M (fun _ _ => Jvm.Free.Multi.innerC c M (defaultValue type)) := by
  subst hM
  refine ⟨fun s => ⟨by simp, rfl, by simp [Jvm.Free.Multi.innerC], fun x hx => State.heap_pushCell_of_lt _ _ hx, fun j hj => ?_⟩, fun s fr => State.pushCell_setTop .., ?_, ?_⟩
  · rw [show j = 0 by omega]
    exact State.heap_pushCell_size _ _
  · intro E d acts s Q ⟨kc, cc, h1, h2⟩ hc hs hq
    exact Jvm.Free.Multi.wp_make1 h1 h2 hm hl hh hdf hdd (by omega) hs (hq _ _)
  · intro p l R s m9 args below meth c0 T locs cells slots X
    have h := X.pushed (Jvm.Free.Multi.innerC c m.toNatClampNeg (defaultValue type))
    rw [show (Jvm.Free.Multi.innerC c m.toNatClampNeg (defaultValue type)).slots.size = m.toNatClampNeg by simp [Jvm.Free.Multi.innerC]] at h
    exact ⟨[], by rw [List.append_nil]; exact h, fun x hx => by cases hx⟩
def outG (c : ClassId) (N K h0 : Nat) : Nat → Cell
  | 0 => { cls := c, slots := Array.replicate N .null, vm := .none }
  | i + 1 => (outG c N K h0 i).setSlot i (.ref (h0 + 1 + i * K))
def fillG (f : State → State) (c : ClassId) (N K : Nat) (s : State) : Nat → State
  | 0 => s.pushCell (outG c N K s.heap.size 0)
  | i + 1 => (f (fillG f c N K s i)).setCell s.heap.size (outG c N K s.heap.size (i + 1))
theorem outG_facts (c : ClassId) (N K h0 : Nat) : ∀ i, (outG c N K h0 i).cls = c ∧ (outG c N K h0 i).vm = .none ∧ (outG c N K h0 i).slots.size = N
  | 0 => ⟨rfl, rfl, by simp [outG]⟩
  | i + 1 => by
    obtain ⟨a, b, d⟩ := outG_facts c N K h0 i
    exact ⟨by simp [outG, Cell.setSlot, a], by simp [outG, Cell.setSlot, b], by simp [outG, Cell.setSlot, d]⟩
theorem fillG_facts {e : Env} {V : Vm → Prop} {mk : Sem Addr} {f : State → State} {K S : Nat} {g : Nat → Nat → Cell} (h : Mk e V mk f K S g) (s : State) (c : ClassId) (N : Nat) : ∀ i, (fillG f c N K s i).heap.size = s.heap.size + 1 + i * K ∧ (fillG f c N K s i).heap[s.heap.size]? = some (outG c N K s.heap.size i) ∧
    (fillG f c N K s i).vm = s.vm ∧ (fillG f c N K s i).slotsUsed = s.slotsUsed + N + i * S ∧ (∀ x : Nat, x < s.heap.size → (fillG f c N K s i).heap[x]? = s.heap[x]?) ∧
    (∀ i' j : Nat, i' < i → j < K → (fillG f c N K s i).heap[s.heap.size + 1 + i' * K + j]? = some (g (s.heap.size + 1 + i' * K) j))
  | 0 => ⟨by simp [fillG], by simp [fillG], rfl, by simp [fillG, outG], fun x hx => State.heap_pushCell_of_lt _ _ hx, fun i' j h1 => absurd h1 (Nat.not_lt_zero _)⟩
  | i + 1 => by
    obtain ⟨a, b, d, u, o, n⟩ := fillG_facts h s c N i
    obtain ⟨h1, h2, h3, h4, h5⟩ := h.1 (fillG f c N K s i)
    have hlt : s.heap.size < (fillG f c N K s i).heap.size := by omega
    have hb' : (f (fillG f c N K s i)).heap[s.heap.size]? = some (outG c N K s.heap.size i) := by rw [h4 _ hlt]; exact b
    have e1 : (i + 1) * K = i * K + K := Nat.succ_mul i K
    have e2 : (i + 1) * S = i * S + S := Nat.succ_mul i S
    refine ⟨?_, State.heap_setCell_self hb', ?_, ?_, fun x hx => ?_, fun i' j hi hj => ?_⟩
    · show ((f (fillG f c N K s i)).setCell s.heap.size _).heap.size = _
      simp only [State.setCell, Array.size_setIfInBounds]
      omega
    · show (f (fillG f c N K s i)).vm = _
      rw [h2, d]
    · show (f (fillG f c N K s i)).slotsUsed = _
      rw [h3, u]
      omega
    · show ((f (fillG f c N K s i)).setCell s.heap.size _).heap[x]? = _
      rw [State.heap_setCell_other (Nat.ne_of_gt hx), h4 x (by omega)]
      exact o x hx
    · show ((f (fillG f c N K s i)).setCell s.heap.size _).heap[s.heap.size + 1 + i' * K + j]? = _
      rw [State.heap_setCell_other (show s.heap.size ≠ s.heap.size + 1 + i' * K + j by omega)]
      rcases Nat.lt_or_ge i' i with hq | hq
      · have e3 : (i' + 1) * K ≤ i * K := Nat.mul_le_mul_right K hq
        rw [Nat.succ_mul] at e3
        rw [h4 _ (by omega)]
        exact n i' j hq hj
      · have e3 : i' = i := by omega
        subst e3
        have h6 := h5 j hj
        rw [a] at h6
        exact h6
theorem fillG_setTop {e : Env} {V : Vm → Prop} {mk : Sem Addr} {f : State → State} {K S : Nat} {g : Nat → Nat → Cell} (h : Mk e V mk f K S g) (s : State) (fr : JFrame) (c : ClassId) (N : Nat) : ∀ i, fillG f c N K (s.setTop fr) i = (fillG f c N K s i).setTop fr
  | 0 => rfl
  | i + 1 => by simp only [fillG, fillG_setTop h s fr c N i, State.heap_setTop, h.2.1, State.setCell_setTop]
def mVn (c comp : ClassId) (t0 : FieldType) (V : Vm → Prop) : Vm → Prop := fun vm => (∃ k : Class, vm.classes[c]? = some k ∧ k.kind = .array comp t0) ∧ V vm
def gN (c : ClassId) (N K : Nat) (g : Nat → Nat → Cell) : Nat → Nat → Cell := fun z j => if j = 0 then outG c N K z N else g (z + 1 + (j - 1) / K * K) ((j - 1) % K)
theorem Mk.outer {e : Env} {V : Vm → Prop} {f : State → State} {K S : Nat} {g : Nat → Nat → Cell} {c comp : ClassId} {t0 : FieldType} {n m1 : Int32} {rest : List Int32} {N : Nat} (hi : Mk e V (multianewarray.make comp (m1 :: rest)) f K S g) (hK : 0 < K) (hN : n.toNatClampNeg = N) (hn : ¬ n < 0) (hfind : ((m1 :: rest).find? (· < 0)) = none) (href : t0.isReference = true)
    (hl1 : ¬ N > e.platform.arrayLengthLimit) (hh1 : ¬ N * componentBytes t0 > e.platform.maxHeapBytes) :
    Mk e (mVn c comp t0 V) (multianewarray.make c (n :: m1 :: rest)) (fun s => fillG f c N K s N) (1 + N * K) (N + N * S) (gN c N K g) := by
  subst hN
  refine ⟨fun s => ?_, fun s fr => fillG_setTop hi s fr c _ _, ?_, ?_⟩
  · obtain ⟨a, b, d, u, o, q⟩ := fillG_facts hi s c n.toNatClampNeg n.toNatClampNeg
    refine ⟨by show (fillG f c n.toNatClampNeg K s n.toNatClampNeg).heap.size = _; omega, d, by show (fillG f c n.toNatClampNeg K s n.toNatClampNeg).slotsUsed = _; omega, o, fun j hj => ?_⟩
    unfold gN
    by_cases h0 : j = 0
    · subst h0
      rw [if_pos rfl]
      exact b
    · rw [if_neg h0]
      have hd := Nat.div_add_mod (j - 1) K
      have hm := Nat.mod_lt (j - 1) hK
      have hq : (j - 1) / K < n.toNatClampNeg := Nat.div_lt_of_lt_mul (by rw [Nat.mul_comm]; omega)
      have := q ((j - 1) / K) ((j - 1) % K) hq hm
      rw [show s.heap.size + 1 + (j - 1) / K * K + (j - 1) % K = s.heap.size + j by rw [Nat.mul_comm] ; omega] at this
      exact this
  · intro E d acts s Q hV hc hs hq
    obtain ⟨⟨k, hk, hkind⟩, hVi⟩ := hV
    rw [multianewarray.make]
    simp only [wp_bind', W.ite, hn, if_false, wp_pure', W.theClass, hk, hkind, Option.some.injEq, exists_eq_left']
    refine Jvm.Free.Multi.wp_newArray hk hkind hl1 hh1 (Jvm.Free.Multi.refFits href _ (Or.inl rfl)) rfl (by omega) (by have := Nat.zero_le (n.toNatClampNeg * S); omega) ?_
    simp only [hfind]
    rw [ite_self, wp_bind', Std.Legacy.Range.forIn_eq_forIn_range']
    have hsz : ([:n.toNatClampNeg] : Std.Legacy.Range).size = n.toNatClampNeg := by simp [Std.Legacy.Range.size]
    rw [hsz]
    show wp (forIn (List.range' 0 n.toNatClampNeg 1) PUnit.unit _) _ E e d acts _
    refine wp_forIn_inv (fun rest s' => ∃ i, i ≤ n.toNatClampNeg ∧ rest = List.range' i (n.toNatClampNeg - i) ∧ s' = fillG f c n.toNatClampNeg K s i) _ _ ⟨0, Nat.zero_le _, rfl, rfl⟩ ?_ ?_
    · rintro x rest' s' d' acts' Q' ⟨i, hi', hl, rfl⟩ hnext
      have hlt : i < n.toNatClampNeg := by
        rcases Nat.lt_or_ge i n.toNatClampNeg with h | h
        · exact h
        · rw [show n.toNatClampNeg - i = 0 from by omega] at hl; simp at hl
      obtain ⟨rfl, hrest⟩ : x = i ∧ rest' = List.range' (i + 1) (n.toNatClampNeg - (i + 1)) := by
        rw [show n.toNatClampNeg - i = (n.toNatClampNeg - (i + 1)) + 1 from by omega, List.range'_succ] at hl
        exact ⟨(List.cons.inj hl).1, (List.cons.inj hl).2⟩
      obtain ⟨f1, f2, f3, f4, -, -⟩ := fillG_facts hi s c n.toNatClampNeg x
      obtain ⟨o1, o2, o3⟩ := outG_facts c n.toNatClampNeg K s.heap.size x
      obtain ⟨h1, h2, h3, h4, -⟩ := hi.1 (fillG f c n.toNatClampNeg K s x)
      have hmul : x * S + S ≤ n.toNatClampNeg * S := by
        have := Nat.mul_le_mul_right S (show x + 1 ≤ n.toNatClampNeg from hlt)
        rw [Nat.succ_mul] at this; exact this
      have hmulK : x * K + K ≤ n.toNatClampNeg * K := by
        have := Nat.mul_le_mul_right K (show x + 1 ≤ n.toNatClampNeg from hlt)
        rw [Nat.succ_mul] at this; exact this
      simp only [wp_bind']
      refine hi.2.2.1 _ _ _ _ _ (by rw [f3]; exact hVi) (by rw [f1]; omega) (by rw [f4]; omega) (fun d2 acts2 => ?_)
      have hlt0 : s.heap.size < (fillG f c n.toNatClampNeg K s x).heap.size := by rw [f1]; omega
      simp only [wp_bind', W.writeLoc, wp_pure']
      refine ⟨outG c n.toNatClampNeg K s.heap.size x, by rw [h4 _ hlt0]; exact f2, by rw [o2]; simp, by rw [o3]; exact hlt, ?_, hnext _ _ _ ⟨x + 1, hlt, hrest, ?_⟩⟩
      · rw [o1, o2]
        simp [State.fitsSlot, State.slotType?, h2, f3, hk, hkind, Jvm.Free.Multi.refFits href _ (Or.inr ⟨_, rfl⟩)]
      · rw [f1]; rfl
    · rintro s' d' acts' ⟨i, hi', hl, rfl⟩
      have hiN : i = n.toNatClampNeg := by
        rcases Nat.lt_or_ge i n.toNatClampNeg with h | h
        · rw [show n.toNatClampNeg - i = (n.toNatClampNeg - (i + 1)) + 1 from by omega, List.range'_succ] at hl; cases hl
        · omega
      subst hiN
      simp only [wp_pure']
      exact hq _ _
  · intro p l R s m args below meth c0 T locs cells slots X
    have key : ∀ i, ∃ L : List Loc, Stand p l e R s m args below meth c0 (fillG f c n.toNatClampNeg K T i) (locs ++ L) (cells + 1 + i * K) (slots + n.toNatClampNeg + i * S) ∧ ∀ x ∈ L, T.heap.size ≤ x.base := by
      intro i
      induction i with
      | zero =>
        have h := X.pushed (outG c n.toNatClampNeg K T.heap.size 0)
        rw [(outG_facts c n.toNatClampNeg K T.heap.size 0).2.2] at h
        exact ⟨[], by simpa [fillG] using h, fun x hx => by cases hx⟩
      | succ i ih =>
        obtain ⟨L, Xi, hL⟩ := ih
        obtain ⟨f1, f2, f3, f4, -, -⟩ := fillG_facts hi T c n.toNatClampNeg i
        obtain ⟨L2, X2, hL2⟩ := hi.2.2.2 _ _ _ _ _ _ _ _ _ _ _ _ _ Xi
        obtain ⟨h1, h2, h3, h4, -⟩ := hi.1 (fillG f c n.toNatClampNeg K T i)
        have hcell : (f (fillG f c n.toNatClampNeg K T i)).heap[T.heap.size]? = some (outG c n.toNatClampNeg K T.heap.size i) := by rw [h4 _ (by omega)]; exact f2
        have h := X2.stored hcell i (.ref (T.heap.size + 1 + i * K))
        refine ⟨L ++ L2 ++ [⟨T.heap.size, i⟩], ?_, fun x hx => ?_⟩
        · rw [Nat.succ_mul, Nat.succ_mul, ← Nat.add_assoc, ← Nat.add_assoc, ← List.append_assoc, ← List.append_assoc]
          exact h
        · rcases List.mem_append.mp hx with hx | hx
          · rcases List.mem_append.mp hx with hx | hx
            · exact hL x hx
            · have := hL2 x hx; omega
          · rcases List.mem_singleton.mp hx with rfl; exact Nat.le_refl _
    obtain ⟨L, hX, hL⟩ := key n.toNatClampNeg
    exact ⟨L, by rw [← Nat.add_assoc, ← Nat.add_assoc]; exact hX, hL⟩
