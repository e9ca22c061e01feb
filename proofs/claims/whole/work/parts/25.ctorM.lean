theorem cell_q {c : ClassId} {N : Nat} {f g : Nat → Option Nat} (h : ∀ j, j < N → f j = g j) : vp_cell c (N, .inr (.inr (.inr (.inr f)))) = vp_cell c (N, .inr (.inr (.inr (.inr g)))) := by
  rw [vp_cell_q, vp_cell_q]
  have hs : (arrV c N (fun j => va_rf (f j))).slots = (arrV c N (fun j => va_rf (g j))).slots := by
    apply Array.ext_getElem?
    intro i
    by_cases hi : i < N
    · rw [arrV_read _ _ hi, arrV_read _ _ hi, h i hi]
    · rw [Array.getElem?_eq_none (by rw [arrV_size]; omega), Array.getElem?_eq_none (by rw [arrV_size]; omega)]
  exact congrArg (fun s : Array Value => ({ cls := c, slots := s } : Cell)) hs
theorem app_get {α : Type} {a b : List α} {T x : Nat} {e : α} (hl : a.length = T) (h : b[x]? = some e) : (a ++ b)[T + x]? = some e := by
  subst hl
  rw [List.getElem?_append_right (by omega)]
  simpa using h
theorem pre_app {α : Type} {a b : List α} {i : Nat} {e : α} (h : a[i]? = some e) : (a ++ b)[i]? = some e := by
  rw [List.getElem?_append_left (List.getElem?_eq_some_iff.mp h).1]
  exact h
theorem blkN_sub {c : ClassId} {N K : Nat} {b : Nat → List va_E} {z : Nat} (hl : ∀ z, (b z).length = K) (hK : 0 < K) {i j : Nat} (hi : i < N) (hj : j < K) {e : va_E} (h : (b (z + 1 + i * K))[j]? = some e) : (blkN c N K b z)[1 + i * K + j]? = some e := by
  unfold blkN
  rw [show 1 + i * K + j = (i * K + j) + 1 by omega, List.getElem?_cons_succ, flat_get (fun i => hl _) hK N i j hi hj]
  exact h
theorem blkN_len {c : ClassId} {N K L : Nat} {b : Nat → List va_E} (hl : ∀ z, (b z).length = K) (hL : 1 + N * K = L) (z : Nat) : (blkN c N K b z).length = L := by
  subst hL
  show (List.flatMap _ _).length + 1 = _
  rw [flat_len (fun i => hl _) N]
  omega
theorem blk1_len {c : ClassId} {M : Nat} (z : Nat) : (blk1 c M z).length = 1 := rfl
def chk (f : Nat → Bool) : Nat → Nat → Bool
  | 0, z => f z
  | d + 1, z => chk f d z && chk f d (z + 2 ^ d)
theorem chk_ok {f : Nat → Bool} : ∀ (d z : Nat), chk f d z = true → ∀ k, z ≤ k → k < z + 2 ^ d → f k = true
  | 0, z, h, k, h1, h2 => by
    have : k = z := by simp at h2; omega
    subst this
    exact h
  | d + 1, z, h, k, h1, h2 => by
    have h3 : chk f d z = true ∧ chk f d (z + 2 ^ d) = true := by simpa [chk] using h
    have h4 : 2 ^ (d + 1) = 2 ^ d + 2 ^ d := by rw [Nat.pow_succ]; omega
    rcases Nat.lt_or_ge k (z + 2 ^ d) with q | q
    · exact chk_ok d z h3.1 k h1 q
    · exact chk_ok d (z + 2 ^ d) h3.2 k q (by omega)
/-- the classes of arrays that the reference makes, by dimensions -/
def xMA (ca : Nat → ClassId) : Vm → Prop := mVn (ca 4) (ca 3) (.array (.array (.array .int))) (mVn (ca 3) (ca 2) (.array (.array .int)) (mVn (ca 2) (ca 0) (.array .int) (mV1 (ca 0) .int)))
theorem mV1.alike {c : ClassId} {t : FieldType} {vm vm' : Vm} (hA : vm.Alike vm') (h : mV1 c t vm) : mV1 c t vm' := by
  obtain ⟨k, cc, h1, h2⟩ := h
  obtain ⟨k', hk', he⟩ := hA.2.2 _ _ h1
  exact ⟨k', cc, hk', by rw [he]; exact h2⟩
theorem mVn.alike {c comp : ClassId} {t : FieldType} {V : Vm → Prop} {vm vm' : Vm} (hA : vm.Alike vm') (hV : V vm → V vm') (h : mVn c comp t V vm) : mVn c comp t V vm' := by
  obtain ⟨⟨k, h1, h2⟩, h3⟩ := h
  obtain ⟨k', hk', he⟩ := hA.2.2 _ _ h1
  exact ⟨⟨k', hk', by rw [he]; exact h2⟩, hV h3⟩
theorem xMA.alike {ca : Nat → ClassId} {vm vm' : Vm} (hA : vm.Alike vm') (h : xMA ca vm) : xMA ca vm' := mVn.alike hA (mVn.alike hA (mVn.alike hA (mV1.alike hA))) h
section
variable {e : Env} {ca : Nat → ClassId}
theorem mk1 {m : Int32} {M : Nat} (h1 : ∀ M : Nat, M ≤ 100000 → ¬ M > e.platform.arrayLengthLimit) (h2 : ∀ M : Nat, M ≤ 100000 → ¬ M > e.platform.maxHeapBytes) (hm : m.toNatClampNeg = M) (h0 : ¬ m < 0) (hM : M ≤ 100000 ∧ M * componentBytes .int ≤ 100000) : Mk e (mV1 (ca 0) .int) (multianewarray.make (ca 0) [m]) (fun s => s.pushCell (Jvm.Free.Multi.innerC (ca 0) M (defaultValue .int))) 1 M (fun _ _ => Jvm.Free.Multi.innerC (ca 0) M (defaultValue .int)) := Mk.leaf hm h0 (h1 _ hM.1) (h2 _ hM.2) rfl rfl
theorem mkS {V : Vm → Prop} {f : State → State} {K S : Nat} {g : Nat → Nat → Cell} {c comp : ClassId} {t0 : FieldType} {n m1 : Int32} {rest : List Int32} {N : Nat} (h1 : ∀ M : Nat, M ≤ 100000 → ¬ M > e.platform.arrayLengthLimit) (h2 : ∀ M : Nat, M ≤ 100000 → ¬ M > e.platform.maxHeapBytes) (hi : Mk e V (multianewarray.make comp (m1 :: rest)) f K S g) (hK : 0 < K) (hN : n.toNatClampNeg = N) (hn : ¬ n < 0) (hfind : ((m1 :: rest).find? (· < 0)) = none) (href : t0.isReference = true) (hM : N ≤ 100000 ∧ N * componentBytes t0 ≤ 100000) : Mk e (mVn c comp t0 V) (multianewarray.make c (n :: m1 :: rest)) (fun s => fillG f c N K s N) (1 + N * K) (N + N * S) (gN c N K g) := Mk.outer hi hK hN hn hfind href (h1 _ hM.1) (h2 _ hM.2)
end
theorem XK_go {p : Program} {l : Launch} {e : Env} {R : Room} {s : State} {m : MethodId} {args : Array Value} {below : List Frame} {meth : Method} {c : Code} {nL : Nat} {D : va_G} {cl : List vw_C} {Q : State → Prop} {o sz cs sl pc cs1 sl1 : Nat} {e0 : va_E} {es es1 : List va_E} {lv : List (Nat × Value)} {st : List Value} (he : es = es1) (hc : cs = cs1) (hs : sl = sl1) (kk : XK p l e R s m args below meth c nL Q D cl o e0 sz es1 cs1 sl1 pc lv st) : XK p l e R s m args below meth c nL Q D cl o e0 sz es cs sl pc lv st := by
  subst he; subst hc; subst hs; exact kk
theorem k_iast {p : Program} {l : Launch} {e : Env} {R : Room} {s : State} {m : MethodId} {args : Array Value} {below : List Frame} {meth : Method} {c : Code} {cc : ByteArray} {nL : Nat} {own : String} {D : va_G} {cl : List vw_C} {tys : List (ClassId × FieldType)} {Q : State → Prop} {o sz cs sl pc : Nat} {e0 : va_E} {es : List va_E} {lv : List (Nat × Value)} {st : List Value} (C : KC p l s m args meth c cc nL own D cl tys) {i x : Int32} {cA : ClassId} {n : Nat} {f : Nat → Int32} (k q : Nat) (hq : sz + k = q) (hk : es[k]? = some (.inl (cA, n, .inl f))) (t0 : Nat) (ht : tys[t0]? = some (cA, .int)) (hi : ¬ (i < 0 ∨ n ≤ i.toNatClampNeg)) (hd : decode cc pc = .ok (.iastore, 1)) (pc' : Nat) (hp : pc + 1 = pc') (es' : List va_E) (hes : es.set k (.inl (cA, n, .inl (upd f i.toNatClampNeg x))) = es') (kk : XK p l e R s m args below meth c nL Q D cl o e0 sz es' cs sl pc' lv st) : XK p l e R s m args below meth c nL Q D cl o e0 sz es cs sl pc lv (.int x :: .int i :: .ref q :: st) := by
  intro H locs ls hP hz hS hss ho hl
  subst hp
  subst hq
  subst hes
  have hget : (KW o e0 sz es)[k + 1]? = some (sz + k, .inl (cA, n, .inl f)) := by
    show (sq sz es)[k]? = _
    rw [sq_get, hk]
    rfl
  refine va_iastz C.1 C.2.1 C.2.2.2.2.2.1 hP (KW_D ho) hS (k + 1) t0 hget ht hi hd (fun H1 locs1 hP1 hS1 z1 => ?_)
  refine kk H1 locs1 ls ?_ (by rw [z1, hz, List.length_set]) hS1 hss ho hl
  have e1 : (KW o e0 sz es).set (k + 1) (sz + k, .inl (cA, n, .inl (upd f i.toNatClampNeg x))) = KW o e0 sz (es.set k (.inl (cA, n, .inl (upd f i.toNatClampNeg x)))) := by
    show (o, e0) :: (sq sz es).set k _ = (o, e0) :: sq sz (es.set k _)
    congr 1
    apply List.ext_getElem?
    intro j
    rw [sq_get]
    by_cases hj : k = j
    · subst hj
      have hkl : k < es.length := (List.getElem?_eq_some_iff.mp hk).1
      have hkl2 : k < (sq sz es).length := by
        have h9 : (sq sz es)[k]? = some (sz + k, Sum.inl (cA, n, .inl f)) := hget
        exact (List.getElem?_eq_some_iff.mp h9).1
      rw [List.getElem?_set_self hkl2, List.getElem?_set_self hkl]
      rfl
    · rw [List.getElem?_set_ne hj, List.getElem?_set_ne hj, sq_get]
  rw [← e1]
  exact hP1
def mfc : List va_E → List va_E := fun es => es
abbrev esM0 (_ : Nat → ClassId) (_ : Nat) : List va_E := []
theorem lenM0 {ca : Nat → ClassId} {sz : Nat} : (esM0 ca sz).length = 0 := rfl
def esM1 (ca : Nat → ClassId) (sz : Nat) : List va_E := esM0 ca sz ++ [.inl (ca 0, 2, .inl (fun _ => 0))]
theorem lenM1 {ca : Nat → ClassId} {sz : Nat} : (esM1 ca sz).length = 1 := by unfold esM1; rw [List.length_append, lenM0]; rfl
def esM2 (ca : Nat → ClassId) (sz : Nat) : List va_E := esM1 ca sz ++ [.inl (ca 0, 400, .inl (fun _ => 0))]
theorem lenM2 {ca : Nat → ClassId} {sz : Nat} : (esM2 ca sz).length = 2 := by unfold esM2; rw [List.length_append, lenM1]; rfl
def esM3 (ca : Nat → ClassId) (sz : Nat) : List va_E := esM2 ca sz ++ [.inl (ca 0, 7, .inl fcv)]
theorem lenM3 {ca : Nat → ClassId} {sz : Nat} : (esM3 ca sz).length = 3 := by unfold esM3; rw [List.length_append, lenM2]; rfl
def esM4 (ca : Nat → ClassId) (sz : Nat) : List va_E := esM3 ca sz ++ blkN (ca 2) 61 1 (blk1 (ca 0) 12) (sz + 3)
theorem lenM4 {ca : Nat → ClassId} {sz : Nat} : (esM4 ca sz).length = 65 := by unfold esM4; rw [List.length_append, lenM3, (blkN_len (N := 61) (K := 1) (L := 62) blk1_len rfl)]
def esM5 (ca : Nat → ClassId) (sz : Nat) : List va_E := esM4 ca sz ++ [.inl (ca 0, 61, .inl (fun _ => 0))]
theorem lenM5 {ca : Nat → ClassId} {sz : Nat} : (esM5 ca sz).length = 66 := by unfold esM5; rw [List.length_append, lenM4]; rfl
def esM6 (ca : Nat → ClassId) (sz : Nat) : List va_E := esM5 ca sz ++ [.inl (ca 0, 61, .inl (fun _ => 0))]
theorem lenM6 {ca : Nat → ClassId} {sz : Nat} : (esM6 ca sz).length = 67 := by unfold esM6; rw [List.length_append, lenM5]; rfl
def esM7 (ca : Nat → ClassId) (sz : Nat) : List va_E := esM6 ca sz ++ [.inl (ca 0, 61, .inl (fun _ => 0))]
theorem lenM7 {ca : Nat → ClassId} {sz : Nat} : (esM7 ca sz).length = 68 := by unfold esM7; rw [List.length_append, lenM6]; rfl
def esM8 (ca : Nat → ClassId) (sz : Nat) : List va_E := esM7 ca sz ++ [.inl (ca 0, 721, .inl (fun _ => 0))]
theorem lenM8 {ca : Nat → ClassId} {sz : Nat} : (esM8 ca sz).length = 69 := by unfold esM8; rw [List.length_append, lenM7]; rfl
def esM9 (ca : Nat → ClassId) (sz : Nat) : List va_E := esM8 ca sz ++ [.inl (ca 0, 721, .inl (fun _ => 0))]
theorem lenM9 {ca : Nat → ClassId} {sz : Nat} : (esM9 ca sz).length = 70 := by unfold esM9; rw [List.length_append, lenM8]; rfl
def esM10 (ca : Nat → ClassId) (sz : Nat) : List va_E := esM9 ca sz ++ [.inl (ca 0, 721, .inl (fun _ => 0))]
theorem lenM10 {ca : Nat → ClassId} {sz : Nat} : (esM10 ca sz).length = 71 := by unfold esM10; rw [List.length_append, lenM9]; rfl
def esM11 (ca : Nat → ClassId) (sz : Nat) : List va_E := esM10 ca sz ++ [.inl (ca 0, 721, .inl (fun _ => 0))]
theorem lenM11 {ca : Nat → ClassId} {sz : Nat} : (esM11 ca sz).length = 72 := by unfold esM11; rw [List.length_append, lenM10]; rfl
def esM12 (ca : Nat → ClassId) (sz : Nat) : List va_E := esM11 ca sz ++ [.inl (ca 0, 721, .inl (fun _ => 0))]
theorem lenM12 {ca : Nat → ClassId} {sz : Nat} : (esM12 ca sz).length = 73 := by unfold esM12; rw [List.length_append, lenM11]; rfl
def esM13 (ca : Nat → ClassId) (sz : Nat) : List va_E := esM12 ca sz ++ [.inl (ca 0, 2, .inl (fun _ => 0))]
theorem lenM13 {ca : Nat → ClassId} {sz : Nat} : (esM13 ca sz).length = 74 := by unfold esM13; rw [List.length_append, lenM12]; rfl
def esM14 (ca : Nat → ClassId) (sz : Nat) : List va_E := esM13 ca sz ++ blkN (ca 3) 2 21 (blkN (ca 2) 20 1 (blk1 (ca 0) 6)) (sz + 74)
theorem lenM14 {ca : Nat → ClassId} {sz : Nat} : (esM14 ca sz).length = 117 := by unfold esM14; rw [List.length_append, lenM13, (blkN_len (N := 2) (K := 21) (L := 43) (blkN_len (N := 20) (K := 1) (L := 21) blk1_len rfl) rfl)]
def esM15 (ca : Nat → ClassId) (sz : Nat) : List va_E := esM14 ca sz ++ blkN (ca 3) 2 21 (blkN (ca 2) 20 1 (blk1 (ca 0) 3)) (sz + 117)
theorem lenM15 {ca : Nat → ClassId} {sz : Nat} : (esM15 ca sz).length = 160 := by unfold esM15; rw [List.length_append, lenM14, (blkN_len (N := 2) (K := 21) (L := 43) (blkN_len (N := 20) (K := 1) (L := 21) blk1_len rfl) rfl)]
def esM16 (ca : Nat → ClassId) (sz : Nat) : List va_E := esM15 ca sz ++ [.inl (ca 0, 2, .inl (fun _ => 0))]
theorem lenM16 {ca : Nat → ClassId} {sz : Nat} : (esM16 ca sz).length = 161 := by unfold esM16; rw [List.length_append, lenM15]; rfl
def esM17 (ca : Nat → ClassId) (sz : Nat) : List va_E := esM16 ca sz ++ [.inl (ca 0, 2, .inl (fun _ => 0))]
theorem lenM17 {ca : Nat → ClassId} {sz : Nat} : (esM17 ca sz).length = 162 := by unfold esM17; rw [List.length_append, lenM16]; rfl
def esM18 (ca : Nat → ClassId) (sz : Nat) : List va_E := esM17 ca sz ++ blkN (ca 2) 2 1 (blk1 (ca 0) 40) (sz + 162)
theorem lenM18 {ca : Nat → ClassId} {sz : Nat} : (esM18 ca sz).length = 165 := by unfold esM18; rw [List.length_append, lenM17, (blkN_len (N := 2) (K := 1) (L := 3) blk1_len rfl)]
def esM19 (ca : Nat → ClassId) (sz : Nat) : List va_E := esM18 ca sz ++ blkN (ca 2) 2 1 (blk1 (ca 0) 40) (sz + 165)
theorem lenM19 {ca : Nat → ClassId} {sz : Nat} : (esM19 ca sz).length = 168 := by unfold esM19; rw [List.length_append, lenM18, (blkN_len (N := 2) (K := 1) (L := 3) blk1_len rfl)]
def esM20 (ca : Nat → ClassId) (sz : Nat) : List va_E := esM19 ca sz ++ blkN (ca 2) 2 1 (blk1 (ca 0) 40) (sz + 168)
theorem lenM20 {ca : Nat → ClassId} {sz : Nat} : (esM20 ca sz).length = 171 := by unfold esM20; rw [List.length_append, lenM19, (blkN_len (N := 2) (K := 1) (L := 3) blk1_len rfl)]
def esM21 (ca : Nat → ClassId) (sz : Nat) : List va_E := esM20 ca sz ++ blkN (ca 4) 2 1001 (blkN (ca 3) 40 25 (blkN (ca 2) 24 1 (blk1 (ca 0) 8))) (sz + 171)
theorem lenM21 {ca : Nat → ClassId} {sz : Nat} : (esM21 ca sz).length = 2174 := by unfold esM21; rw [List.length_append, lenM20, (blkN_len (N := 2) (K := 1001) (L := 2003) (blkN_len (N := 40) (K := 25) (L := 1001) (blkN_len (N := 24) (K := 1) (L := 25) blk1_len rfl) rfl) rfl)]
def esM22 (ca : Nat → ClassId) (sz : Nat) : List va_E := esM21 ca sz ++ [.inl (ca 0, 2, .inl (fun _ => 0))]
theorem lenM22 {ca : Nat → ClassId} {sz : Nat} : (esM22 ca sz).length = 2175 := by unfold esM22; rw [List.length_append, lenM21]; rfl
def esM23 (ca : Nat → ClassId) (sz : Nat) : List va_E := esM22 ca sz ++ blkN (ca 3) 2 61 (blkN (ca 2) 60 1 (blk1 (ca 0) 3)) (sz + 2175)
theorem lenM23 {ca : Nat → ClassId} {sz : Nat} : (esM23 ca sz).length = 2298 := by unfold esM23; rw [List.length_append, lenM22, (blkN_len (N := 2) (K := 61) (L := 123) (blkN_len (N := 60) (K := 1) (L := 61) blk1_len rfl) rfl)]
def esM24 (ca : Nat → ClassId) (sz : Nat) : List va_E := esM23 ca sz ++ blkN (ca 2) 48 1 (blk1 (ca 0) 8) (sz + 2298)
theorem lenM24 {ca : Nat → ClassId} {sz : Nat} : (esM24 ca sz).length = 2347 := by unfold esM24; rw [List.length_append, lenM23, (blkN_len (N := 48) (K := 1) (L := 49) blk1_len rfl)]
def esM25 (ca : Nat → ClassId) (sz : Nat) : List va_E := esM24 ca sz ++ [.inl (ca 0, 49, .inl (fun _ => 0))]
theorem lenM25 {ca : Nat → ClassId} {sz : Nat} : (esM25 ca sz).length = 2348 := by unfold esM25; rw [List.length_append, lenM24]; rfl
def esM26 (ca : Nat → ClassId) (sz : Nat) : List va_E := esM25 ca sz ++ [.inl (ca 0, 49, .inl (fun _ => 0))]
theorem lenM26 {ca : Nat → ClassId} {sz : Nat} : (esM26 ca sz).length = 2349 := by unfold esM26; rw [List.length_append, lenM25]; rfl
def esM27 (ca : Nat → ClassId) (sz : Nat) : List va_E := esM26 ca sz ++ blkN (ca 3) 48 61 (blkN (ca 2) 60 1 (blk1 (ca 0) 7)) (sz + 2349)
theorem lenM27 {ca : Nat → ClassId} {sz : Nat} : (esM27 ca sz).length = 5278 := by unfold esM27; rw [List.length_append, lenM26, (blkN_len (N := 48) (K := 61) (L := 2929) (blkN_len (N := 60) (K := 1) (L := 61) blk1_len rfl) rfl)]
def esM28 (ca : Nat → ClassId) (sz : Nat) : List va_E := esM27 ca sz ++ blkN (ca 2) 49 1 (blk1 (ca 0) 13) (sz + 5278)
theorem lenM28 {ca : Nat → ClassId} {sz : Nat} : (esM28 ca sz).length = 5328 := by unfold esM28; rw [List.length_append, lenM27, (blkN_len (N := 49) (K := 1) (L := 50) blk1_len rfl)]
def esM29 (ca : Nat → ClassId) (sz : Nat) : List va_E := esM28 ca sz ++ [.inl (ca 0, 18025, .inl (fun _ => 0))]
theorem lenM29 {ca : Nat → ClassId} {sz : Nat} : (esM29 ca sz).length = 5329 := by unfold esM29; rw [List.length_append, lenM28]; rfl
def esM30 (ca : Nat → ClassId) (sz : Nat) : List va_E := esM29 ca sz ++ [.inl (ca 0, 18025, .inl (fun _ => 0))]
theorem lenM30 {ca : Nat → ClassId} {sz : Nat} : (esM30 ca sz).length = 5330 := by unfold esM30; rw [List.length_append, lenM29]; rfl
def esM31 (ca : Nat → ClassId) (sz : Nat) : List va_E := esM30 ca sz ++ [.inl (ca 0, 18025, .inl (fun _ => 0))]
theorem lenM31 {ca : Nat → ClassId} {sz : Nat} : (esM31 ca sz).length = 5331 := by unfold esM31; rw [List.length_append, lenM30]; rfl
def esM32 (ca : Nat → ClassId) (sz : Nat) : List va_E := esM31 ca sz ++ [.inl (ca 0, 60, .inl (fun _ => 0))]
theorem lenM32 {ca : Nat → ClassId} {sz : Nat} : (esM32 ca sz).length = 5332 := by unfold esM32; rw [List.length_append, lenM31]; rfl
def esM33 (ca : Nat → ClassId) (sz : Nat) : List va_E := esM32 ca sz ++ [.inl (ca 0, 60, .inl (fun _ => 0))]
theorem lenM33 {ca : Nat → ClassId} {sz : Nat} : (esM33 ca sz).length = 5333 := by unfold esM33; rw [List.length_append, lenM32]; rfl
def esM34 (ca : Nat → ClassId) (sz : Nat) : List va_E := esM33 ca sz ++ [.inl (ca 0, 60, .inl (fun _ => 0))]
theorem lenM34 {ca : Nat → ClassId} {sz : Nat} : (esM34 ca sz).length = 5334 := by unfold esM34; rw [List.length_append, lenM33]; rfl
def esM35 (ca : Nat → ClassId) (sz : Nat) : List va_E := esM34 ca sz ++ [.inl (ca 0, 60, .inl (fun _ => 0))]
theorem lenM35 {ca : Nat → ClassId} {sz : Nat} : (esM35 ca sz).length = 5335 := by unfold esM35; rw [List.length_append, lenM34]; rfl
def esM36 (ca : Nat → ClassId) (sz : Nat) : List va_E := esM35 ca sz ++ [.inl (ca 0, 24, .inl (fun _ => 0))]
theorem lenM36 {ca : Nat → ClassId} {sz : Nat} : (esM36 ca sz).length = 5336 := by unfold esM36; rw [List.length_append, lenM35]; rfl
def esM37 (ca : Nat → ClassId) (sz : Nat) : List va_E := esM36 ca sz ++ [.inl (ca 0, 24, .inl (fun _ => 0))]
theorem lenM37 {ca : Nat → ClassId} {sz : Nat} : (esM37 ca sz).length = 5337 := by unfold esM37; rw [List.length_append, lenM36]; rfl
def esM38 (ca : Nat → ClassId) (sz : Nat) : List va_E := esM37 ca sz ++ [.inl (ca 0, 40, .inl (fun _ => 0))]
theorem lenM38 {ca : Nat → ClassId} {sz : Nat} : (esM38 ca sz).length = 5338 := by unfold esM38; rw [List.length_append, lenM37]; rfl
def esM39 (ca : Nat → ClassId) (sz : Nat) : List va_E := esM38 ca sz ++ blkN (ca 2) 40 1 (blk1 (ca 0) 5) (sz + 5338)
theorem lenM39 {ca : Nat → ClassId} {sz : Nat} : (esM39 ca sz).length = 5379 := by unfold esM39; rw [List.length_append, lenM38, (blkN_len (N := 40) (K := 1) (L := 41) blk1_len rfl)]
def esM40 (ca : Nat → ClassId) (sz : Nat) : List va_E := esM39 ca sz ++ blkN (ca 2) 40 1 (blk1 (ca 0) 5) (sz + 5379)
theorem lenM40 {ca : Nat → ClassId} {sz : Nat} : (esM40 ca sz).length = 5420 := by unfold esM40; rw [List.length_append, lenM39, (blkN_len (N := 40) (K := 1) (L := 41) blk1_len rfl)]
def esM41 (ca : Nat → ClassId) (sz : Nat) : List va_E := esM40 ca sz ++ blkN (ca 2) 41 1 (blk1 (ca 0) 5) (sz + 5420)
theorem lenM41 {ca : Nat → ClassId} {sz : Nat} : (esM41 ca sz).length = 5462 := by unfold esM41; rw [List.length_append, lenM40, (blkN_len (N := 41) (K := 1) (L := 42) blk1_len rfl)]
def esM42 (ca : Nat → ClassId) (sz : Nat) : List va_E := esM41 ca sz ++ blkN (ca 2) 40 1 (blk1 (ca 0) 5) (sz + 5462)
theorem lenM42 {ca : Nat → ClassId} {sz : Nat} : (esM42 ca sz).length = 5503 := by unfold esM42; rw [List.length_append, lenM41, (blkN_len (N := 40) (K := 1) (L := 41) blk1_len rfl)]
def esM43 (ca : Nat → ClassId) (sz : Nat) : List va_E := esM42 ca sz ++ [.inl (ca 0, 40, .inl (fun _ => 0))]
theorem lenM43 {ca : Nat → ClassId} {sz : Nat} : (esM43 ca sz).length = 5504 := by unfold esM43; rw [List.length_append, lenM42]; rfl
def esM44 (ca : Nat → ClassId) (sz : Nat) : List va_E := esM43 ca sz ++ [.inl (ca 0, 40, .inl (fun _ => 0))]
theorem lenM44 {ca : Nat → ClassId} {sz : Nat} : (esM44 ca sz).length = 5505 := by unfold esM44; rw [List.length_append, lenM43]; rfl
def esM45 (ca : Nat → ClassId) (sz : Nat) : List va_E := esM44 ca sz ++ [.inl (ca 0, 40, .inl (fun _ => 0))]
theorem lenM45 {ca : Nat → ClassId} {sz : Nat} : (esM45 ca sz).length = 5506 := by unfold esM45; rw [List.length_append, lenM44]; rfl
def esM46 (ca : Nat → ClassId) (sz : Nat) : List va_E := esM45 ca sz ++ [.inl (ca 0, 40, .inl (fun _ => 0))]
theorem lenM46 {ca : Nat → ClassId} {sz : Nat} : (esM46 ca sz).length = 5507 := by unfold esM46; rw [List.length_append, lenM45]; rfl
def esM47 (ca : Nat → ClassId) (sz : Nat) : List va_E := esM46 ca sz ++ [.inl (ca 0, 40, .inl (fun _ => 0))]
theorem lenM47 {ca : Nat → ClassId} {sz : Nat} : (esM47 ca sz).length = 5508 := by unfold esM47; rw [List.length_append, lenM46]; rfl
def esM48 (ca : Nat → ClassId) (sz : Nat) : List va_E := esM47 ca sz ++ [.inl (ca 0, 42, .inl (fun _ => 0))]
theorem lenM48 {ca : Nat → ClassId} {sz : Nat} : (esM48 ca sz).length = 5509 := by unfold esM48; rw [List.length_append, lenM47]; rfl
def esM49 (ca : Nat → ClassId) (sz : Nat) : List va_E := esM48 ca sz ++ [.inl (ca 1, 40, .inl (fun _ => 0))]
theorem lenM49 {ca : Nat → ClassId} {sz : Nat} : (esM49 ca sz).length = 5510 := by unfold esM49; rw [List.length_append, lenM48]; rfl
def esM50 (ca : Nat → ClassId) (sz : Nat) : List va_E := esM49 ca sz ++ [.inl (ca 0, 2000, .inl (fun _ => 0))]
theorem lenM50 {ca : Nat → ClassId} {sz : Nat} : (esM50 ca sz).length = 5511 := by unfold esM50; rw [List.length_append, lenM49]; rfl
def esM51 (ca : Nat → ClassId) (sz : Nat) : List va_E := esM50 ca sz ++ [.inl (ca 1, 40, .inl (fun _ => 0))]
theorem lenM51 {ca : Nat → ClassId} {sz : Nat} : (esM51 ca sz).length = 5512 := by unfold esM51; rw [List.length_append, lenM50]; rfl
theorem preM51 {ca : Nat → ClassId} {sz i : Nat} {e : va_E} (h : (esM51 ca sz)[i]? = some e) : (esM51 ca sz)[i]? = some e := h
theorem preM50 {ca : Nat → ClassId} {sz i : Nat} {e : va_E} (h : (esM50 ca sz)[i]? = some e) : (esM51 ca sz)[i]? = some e := preM51 (pre_app h)
theorem preM49 {ca : Nat → ClassId} {sz i : Nat} {e : va_E} (h : (esM49 ca sz)[i]? = some e) : (esM51 ca sz)[i]? = some e := preM50 (pre_app h)
theorem preM48 {ca : Nat → ClassId} {sz i : Nat} {e : va_E} (h : (esM48 ca sz)[i]? = some e) : (esM51 ca sz)[i]? = some e := preM49 (pre_app h)
theorem preM47 {ca : Nat → ClassId} {sz i : Nat} {e : va_E} (h : (esM47 ca sz)[i]? = some e) : (esM51 ca sz)[i]? = some e := preM48 (pre_app h)
theorem preM46 {ca : Nat → ClassId} {sz i : Nat} {e : va_E} (h : (esM46 ca sz)[i]? = some e) : (esM51 ca sz)[i]? = some e := preM47 (pre_app h)
theorem preM45 {ca : Nat → ClassId} {sz i : Nat} {e : va_E} (h : (esM45 ca sz)[i]? = some e) : (esM51 ca sz)[i]? = some e := preM46 (pre_app h)
theorem preM44 {ca : Nat → ClassId} {sz i : Nat} {e : va_E} (h : (esM44 ca sz)[i]? = some e) : (esM51 ca sz)[i]? = some e := preM45 (pre_app h)
theorem preM43 {ca : Nat → ClassId} {sz i : Nat} {e : va_E} (h : (esM43 ca sz)[i]? = some e) : (esM51 ca sz)[i]? = some e := preM44 (pre_app h)
theorem preM42 {ca : Nat → ClassId} {sz i : Nat} {e : va_E} (h : (esM42 ca sz)[i]? = some e) : (esM51 ca sz)[i]? = some e := preM43 (pre_app h)
theorem preM41 {ca : Nat → ClassId} {sz i : Nat} {e : va_E} (h : (esM41 ca sz)[i]? = some e) : (esM51 ca sz)[i]? = some e := preM42 (pre_app h)
theorem preM40 {ca : Nat → ClassId} {sz i : Nat} {e : va_E} (h : (esM40 ca sz)[i]? = some e) : (esM51 ca sz)[i]? = some e := preM41 (pre_app h)
theorem preM39 {ca : Nat → ClassId} {sz i : Nat} {e : va_E} (h : (esM39 ca sz)[i]? = some e) : (esM51 ca sz)[i]? = some e := preM40 (pre_app h)
theorem preM38 {ca : Nat → ClassId} {sz i : Nat} {e : va_E} (h : (esM38 ca sz)[i]? = some e) : (esM51 ca sz)[i]? = some e := preM39 (pre_app h)
theorem preM37 {ca : Nat → ClassId} {sz i : Nat} {e : va_E} (h : (esM37 ca sz)[i]? = some e) : (esM51 ca sz)[i]? = some e := preM38 (pre_app h)
theorem preM36 {ca : Nat → ClassId} {sz i : Nat} {e : va_E} (h : (esM36 ca sz)[i]? = some e) : (esM51 ca sz)[i]? = some e := preM37 (pre_app h)
theorem preM35 {ca : Nat → ClassId} {sz i : Nat} {e : va_E} (h : (esM35 ca sz)[i]? = some e) : (esM51 ca sz)[i]? = some e := preM36 (pre_app h)
theorem preM34 {ca : Nat → ClassId} {sz i : Nat} {e : va_E} (h : (esM34 ca sz)[i]? = some e) : (esM51 ca sz)[i]? = some e := preM35 (pre_app h)
theorem preM33 {ca : Nat → ClassId} {sz i : Nat} {e : va_E} (h : (esM33 ca sz)[i]? = some e) : (esM51 ca sz)[i]? = some e := preM34 (pre_app h)
theorem preM32 {ca : Nat → ClassId} {sz i : Nat} {e : va_E} (h : (esM32 ca sz)[i]? = some e) : (esM51 ca sz)[i]? = some e := preM33 (pre_app h)
theorem preM31 {ca : Nat → ClassId} {sz i : Nat} {e : va_E} (h : (esM31 ca sz)[i]? = some e) : (esM51 ca sz)[i]? = some e := preM32 (pre_app h)
theorem preM30 {ca : Nat → ClassId} {sz i : Nat} {e : va_E} (h : (esM30 ca sz)[i]? = some e) : (esM51 ca sz)[i]? = some e := preM31 (pre_app h)
theorem preM29 {ca : Nat → ClassId} {sz i : Nat} {e : va_E} (h : (esM29 ca sz)[i]? = some e) : (esM51 ca sz)[i]? = some e := preM30 (pre_app h)
theorem preM28 {ca : Nat → ClassId} {sz i : Nat} {e : va_E} (h : (esM28 ca sz)[i]? = some e) : (esM51 ca sz)[i]? = some e := preM29 (pre_app h)
theorem preM27 {ca : Nat → ClassId} {sz i : Nat} {e : va_E} (h : (esM27 ca sz)[i]? = some e) : (esM51 ca sz)[i]? = some e := preM28 (pre_app h)
theorem preM26 {ca : Nat → ClassId} {sz i : Nat} {e : va_E} (h : (esM26 ca sz)[i]? = some e) : (esM51 ca sz)[i]? = some e := preM27 (pre_app h)
theorem preM25 {ca : Nat → ClassId} {sz i : Nat} {e : va_E} (h : (esM25 ca sz)[i]? = some e) : (esM51 ca sz)[i]? = some e := preM26 (pre_app h)
theorem preM24 {ca : Nat → ClassId} {sz i : Nat} {e : va_E} (h : (esM24 ca sz)[i]? = some e) : (esM51 ca sz)[i]? = some e := preM25 (pre_app h)
theorem preM23 {ca : Nat → ClassId} {sz i : Nat} {e : va_E} (h : (esM23 ca sz)[i]? = some e) : (esM51 ca sz)[i]? = some e := preM24 (pre_app h)
theorem preM22 {ca : Nat → ClassId} {sz i : Nat} {e : va_E} (h : (esM22 ca sz)[i]? = some e) : (esM51 ca sz)[i]? = some e := preM23 (pre_app h)
theorem preM21 {ca : Nat → ClassId} {sz i : Nat} {e : va_E} (h : (esM21 ca sz)[i]? = some e) : (esM51 ca sz)[i]? = some e := preM22 (pre_app h)
theorem preM20 {ca : Nat → ClassId} {sz i : Nat} {e : va_E} (h : (esM20 ca sz)[i]? = some e) : (esM51 ca sz)[i]? = some e := preM21 (pre_app h)
theorem preM19 {ca : Nat → ClassId} {sz i : Nat} {e : va_E} (h : (esM19 ca sz)[i]? = some e) : (esM51 ca sz)[i]? = some e := preM20 (pre_app h)
theorem preM18 {ca : Nat → ClassId} {sz i : Nat} {e : va_E} (h : (esM18 ca sz)[i]? = some e) : (esM51 ca sz)[i]? = some e := preM19 (pre_app h)
theorem preM17 {ca : Nat → ClassId} {sz i : Nat} {e : va_E} (h : (esM17 ca sz)[i]? = some e) : (esM51 ca sz)[i]? = some e := preM18 (pre_app h)
theorem preM16 {ca : Nat → ClassId} {sz i : Nat} {e : va_E} (h : (esM16 ca sz)[i]? = some e) : (esM51 ca sz)[i]? = some e := preM17 (pre_app h)
theorem preM15 {ca : Nat → ClassId} {sz i : Nat} {e : va_E} (h : (esM15 ca sz)[i]? = some e) : (esM51 ca sz)[i]? = some e := preM16 (pre_app h)
theorem preM14 {ca : Nat → ClassId} {sz i : Nat} {e : va_E} (h : (esM14 ca sz)[i]? = some e) : (esM51 ca sz)[i]? = some e := preM15 (pre_app h)
theorem preM13 {ca : Nat → ClassId} {sz i : Nat} {e : va_E} (h : (esM13 ca sz)[i]? = some e) : (esM51 ca sz)[i]? = some e := preM14 (pre_app h)
theorem preM12 {ca : Nat → ClassId} {sz i : Nat} {e : va_E} (h : (esM12 ca sz)[i]? = some e) : (esM51 ca sz)[i]? = some e := preM13 (pre_app h)
theorem preM11 {ca : Nat → ClassId} {sz i : Nat} {e : va_E} (h : (esM11 ca sz)[i]? = some e) : (esM51 ca sz)[i]? = some e := preM12 (pre_app h)
theorem preM10 {ca : Nat → ClassId} {sz i : Nat} {e : va_E} (h : (esM10 ca sz)[i]? = some e) : (esM51 ca sz)[i]? = some e := preM11 (pre_app h)
theorem preM9 {ca : Nat → ClassId} {sz i : Nat} {e : va_E} (h : (esM9 ca sz)[i]? = some e) : (esM51 ca sz)[i]? = some e := preM10 (pre_app h)
theorem preM8 {ca : Nat → ClassId} {sz i : Nat} {e : va_E} (h : (esM8 ca sz)[i]? = some e) : (esM51 ca sz)[i]? = some e := preM9 (pre_app h)
theorem preM7 {ca : Nat → ClassId} {sz i : Nat} {e : va_E} (h : (esM7 ca sz)[i]? = some e) : (esM51 ca sz)[i]? = some e := preM8 (pre_app h)
theorem preM6 {ca : Nat → ClassId} {sz i : Nat} {e : va_E} (h : (esM6 ca sz)[i]? = some e) : (esM51 ca sz)[i]? = some e := preM7 (pre_app h)
theorem preM5 {ca : Nat → ClassId} {sz i : Nat} {e : va_E} (h : (esM5 ca sz)[i]? = some e) : (esM51 ca sz)[i]? = some e := preM6 (pre_app h)
theorem preM4 {ca : Nat → ClassId} {sz i : Nat} {e : va_E} (h : (esM4 ca sz)[i]? = some e) : (esM51 ca sz)[i]? = some e := preM5 (pre_app h)
theorem preM3 {ca : Nat → ClassId} {sz i : Nat} {e : va_E} (h : (esM3 ca sz)[i]? = some e) : (esM51 ca sz)[i]? = some e := preM4 (pre_app h)
theorem preM2 {ca : Nat → ClassId} {sz i : Nat} {e : va_E} (h : (esM2 ca sz)[i]? = some e) : (esM51 ca sz)[i]? = some e := preM3 (pre_app h)
theorem preM1 {ca : Nat → ClassId} {sz i : Nat} {e : va_E} (h : (esM1 ca sz)[i]? = some e) : (esM51 ca sz)[i]? = some e := preM2 (pre_app h)
def ofT (k : Nat) : Nat := match k with
  | 1 => 0
  | 2 => 1
  | 3 => 2
  | 4 => 3
  | 5 => 65
  | 6 => 66
  | 7 => 67
  | 8 => 68
  | 9 => 69
  | 10 => 70
  | 11 => 71
  | 12 => 72
  | 13 => 73
  | 14 => 74
  | 15 => 117
  | 16 => 160
  | 17 => 161
  | 18 => 162
  | 19 => 165
  | 20 => 168
  | 21 => 171
  | 22 => 2174
  | 23 => 2175
  | 24 => 2298
  | 25 => 2347
  | 26 => 2348
  | 27 => 2349
  | 28 => 5278
  | 29 => 5328
  | 30 => 5329
  | 31 => 5330
  | 32 => 5331
  | 33 => 5332
  | 34 => 5333
  | 35 => 5334
  | 36 => 5335
  | 37 => 5336
  | 38 => 5337
  | 39 => 5338
  | 40 => 5379
  | 41 => 5420
  | 42 => 5462
  | 43 => 5503
  | 44 => 5504
  | 45 => 5505
  | 46 => 5506
  | 47 => 5507
  | 48 => 5508
  | 49 => 5509
  | 50 => 5510
  | 51 => 5511
  | _ => 0
def ofM (k : Nat) : Nat := if k < 52 then ofT k
  else if k < 113 then 4 + (k - 52) * 1
  else if k < 115 then 75 + (k - 113) * 21
  else if k < 155 then 76 + (k - 115) / 20 * 21 + (k - 115) % 20 * 1
  else if k < 157 then 118 + (k - 155) * 21
  else if k < 197 then 119 + (k - 157) / 20 * 21 + (k - 157) % 20 * 1
  else if k < 199 then 163 + (k - 197) * 1
  else if k < 201 then 166 + (k - 199) * 1
  else if k < 203 then 169 + (k - 201) * 1
  else if k < 205 then 172 + (k - 203) * 1001
  else if k < 285 then 173 + (k - 205) / 40 * 1001 + (k - 205) % 40 * 25
  else if k < 2205 then 174 + (k - 285) / 960 * 1001 + (k - 285) / 24 % 40 * 25 + (k - 285) % 24 * 1
  else if k < 2207 then 2176 + (k - 2205) * 61
  else if k < 2327 then 2177 + (k - 2207) / 60 * 61 + (k - 2207) % 60 * 1
  else if k < 2375 then 2299 + (k - 2327) * 1
  else if k < 2423 then 2350 + (k - 2375) * 61
  else if k < 5303 then 2351 + (k - 2423) / 60 * 61 + (k - 2423) % 60 * 1
  else if k < 5352 then 5279 + (k - 5303) * 1
  else if k < 5392 then 5339 + (k - 5352) * 1
  else if k < 5432 then 5380 + (k - 5392) * 1
  else if k < 5473 then 5421 + (k - 5432) * 1
  else if k < 5513 then 5463 + (k - 5473) * 1
  else 0
def adM (o sz : Nat) : Nat → Nat := fun k => if k = 0 then o else sz + ofM k
def ivM (x : Nat) : Nat :=
  if x < 1 then 1
  else if x < 2 then 2
  else if x < 3 then 3
  else if x < 65 then (if x = 3 then 4 else 52 + (x - 4))
  else if x < 66 then 5
  else if x < 67 then 6
  else if x < 68 then 7
  else if x < 69 then 8
  else if x < 70 then 9
  else if x < 71 then 10
  else if x < 72 then 11
  else if x < 73 then 12
  else if x < 74 then 13
  else if x < 117 then (if x = 74 then 14 else if (x - 75) % 21 = 0 then 113 + (x - 75) / 21 else 115 + ((x - 75) / 21 * 20 + ((x - 75) % 21 - 1)))
  else if x < 160 then (if x = 117 then 15 else if (x - 118) % 21 = 0 then 155 + (x - 118) / 21 else 157 + ((x - 118) / 21 * 20 + ((x - 118) % 21 - 1)))
  else if x < 161 then 16
  else if x < 162 then 17
  else if x < 165 then (if x = 162 then 18 else 197 + (x - 163))
  else if x < 168 then (if x = 165 then 19 else 199 + (x - 166))
  else if x < 171 then (if x = 168 then 20 else 201 + (x - 169))
  else if x < 2174 then (if x = 171 then 21 else if (x - 172) % 1001 = 0 then 203 + (x - 172) / 1001 else if ((x - 172) % 1001 - 1) % 25 = 0 then 205 + ((x - 172) / 1001 * 40 + ((x - 172) % 1001 - 1) / 25) else 285 + (((x - 172) / 1001 * 40 + ((x - 172) % 1001 - 1) / 25) * 24 + (((x - 172) % 1001 - 1) % 25 - 1)))
  else if x < 2175 then 22
  else if x < 2298 then (if x = 2175 then 23 else if (x - 2176) % 61 = 0 then 2205 + (x - 2176) / 61 else 2207 + ((x - 2176) / 61 * 60 + ((x - 2176) % 61 - 1)))
  else if x < 2347 then (if x = 2298 then 24 else 2327 + (x - 2299))
  else if x < 2348 then 25
  else if x < 2349 then 26
  else if x < 5278 then (if x = 2349 then 27 else if (x - 2350) % 61 = 0 then 2375 + (x - 2350) / 61 else 2423 + ((x - 2350) / 61 * 60 + ((x - 2350) % 61 - 1)))
  else if x < 5328 then (if x = 5278 then 28 else 5303 + (x - 5279))
  else if x < 5329 then 29
  else if x < 5330 then 30
  else if x < 5331 then 31
  else if x < 5332 then 32
  else if x < 5333 then 33
  else if x < 5334 then 34
  else if x < 5335 then 35
  else if x < 5336 then 36
  else if x < 5337 then 37
  else if x < 5338 then 38
  else if x < 5379 then (if x = 5338 then 39 else 5352 + (x - 5339))
  else if x < 5420 then (if x = 5379 then 40 else 5392 + (x - 5380))
  else if x < 5462 then (if x = 5420 then 41 else 5432 + (x - 5421))
  else if x < 5503 then (if x = 5462 then 42 else 5473 + (x - 5463))
  else if x < 5504 then 43
  else if x < 5505 then 44
  else if x < 5506 then 45
  else if x < 5507 then 46
  else if x < 5508 then 47
  else if x < 5509 then 48
  else if x < 5510 then 49
  else if x < 5511 then 50
  else if x < 5512 then 51
  else 0
theorem ivM_ok {k : Nat} (h0 : k ≠ 0) (h : k < 5513) : ivM (ofM k) = k := by
  have hc : chk (fun k => k == 0 || Nat.ble 5513 k || ivM (ofM k) == k) 13 0 = true := by decide +kernel
  have := chk_ok 13 0 hc k (Nat.zero_le _) (by omega)
  simpa [h0, Nat.ble_eq, show ¬ 5513 ≤ k by omega] using this
theorem adM_inj {o sz : Nat} (h : o < sz) : xInj (adM o sz) NCM := by
  intro i j hi hj e
  unfold adM at e
  by_cases h1 : i = 0 <;> by_cases h2 : j = 0 <;> simp only [h1, h2, if_true, if_false] at e
  · omega
  · omega
  · omega
  · rw [← ivM_ok h1 hi, ← ivM_ok h2 hj, show ofM i = ofM j by omega]
def aMb : AH := fun k j => if k = 0 then (if j = 5 then -1 else if j = 15 then 1 else 0) else if k = 3 then fcv j else 0
theorem aMb_z {k : Nat} (h : k ≠ 0) (h3 : k ≠ 3) : aMb k = fun _ => 0 := by funext j; simp [aMb, h, h3]
section
variable {D : va_G} {ca : Nat → ClassId} {o sz : Nat} {H : Heap} {e0 : va_E}
theorem KW_at {es : List va_E} (hP : va_P D vwCl (KW o e0 sz es) H) {i : Nat} {e : va_E} (h : es[i]? = some e) : va_at D vwCl (sz + i, e) H := hP (i + 1) _ (by show (sq sz es)[i]? = _; rw [sq_get, h]; rfl)
theorem atM (hP : va_P D vwCl (KW o e0 sz (esM51 ca sz)) H) {i : Nat} {e : va_E} (h : (esM51 ca sz)[i]? = some e) : va_at D vwCl (sz + i, e) H := KW_at hP h
theorem ofM_sign_1 {i : Nat} (hi : i < 61) : ofM (52 + i) = 3 + (1 + i * 1 + 0) := by
  have h52 : ¬ 52 + i < 52 := by omega
  unfold ofM
  rw [if_neg h52, if_pos (by omega)]
  omega
theorem ofM_part_1 {i : Nat} (hi : i < 2) : ofM (113 + i) = 74 + (1 + i * 21 + 0) := by
  have h52 : ¬ 113 + i < 52 := by omega
  unfold ofM
  rw [if_neg h52, if_neg (by omega), if_pos (by omega)]
  omega
theorem ofM_part_2 {i j : Nat} (hi : i < 2) (hj : j < 20) : ofM (115 + (i * 20 + j)) = 74 + (1 + i * 21 + (1 + j * 1 + 0)) := by
  have h52 : ¬ 115 + (i * 20 + j) < 52 := by omega
  unfold ofM
  rw [if_neg h52, if_neg (by omega), if_neg (by omega), if_pos (by omega)]
  omega
theorem ofM_shape_1 {i : Nat} (hi : i < 2) : ofM (155 + i) = 117 + (1 + i * 21 + 0) := by
  have h52 : ¬ 155 + i < 52 := by omega
  unfold ofM
  rw [if_neg h52, if_neg (by omega), if_neg (by omega), if_neg (by omega), if_pos (by omega)]
  omega
theorem ofM_shape_2 {i j : Nat} (hi : i < 2) (hj : j < 20) : ofM (157 + (i * 20 + j)) = 117 + (1 + i * 21 + (1 + j * 1 + 0)) := by
  have h52 : ¬ 157 + (i * 20 + j) < 52 := by omega
  unfold ofM
  rw [if_neg h52, if_neg (by omega), if_neg (by omega), if_neg (by omega), if_neg (by omega), if_pos (by omega)]
  omega
theorem ofM_cells_1 {i : Nat} (hi : i < 2) : ofM (197 + i) = 162 + (1 + i * 1 + 0) := by
  have h52 : ¬ 197 + i < 52 := by omega
  unfold ofM
  rw [if_neg h52, if_neg (by omega), if_neg (by omega), if_neg (by omega), if_neg (by omega), if_neg (by omega), if_pos (by omega)]
  omega
theorem ofM_lineOf_1 {i : Nat} (hi : i < 2) : ofM (199 + i) = 165 + (1 + i * 1 + 0) := by
  have h52 : ¬ 199 + i < 52 := by omega
  unfold ofM
  rw [if_neg h52, if_neg (by omega), if_neg (by omega), if_neg (by omega), if_neg (by omega), if_neg (by omega), if_neg (by omega), if_pos (by omega)]
  omega
theorem ofM_behind_1 {i : Nat} (hi : i < 2) : ofM (201 + i) = 168 + (1 + i * 1 + 0) := by
  have h52 : ¬ 201 + i < 52 := by omega
  unfold ofM
  rw [if_neg h52, if_neg (by omega), if_neg (by omega), if_neg (by omega), if_neg (by omega), if_neg (by omega), if_neg (by omega), if_neg (by omega), if_pos (by omega)]
  omega
theorem ofM_cell_1 {i : Nat} (hi : i < 2) : ofM (203 + i) = 171 + (1 + i * 1001 + 0) := by
  have h52 : ¬ 203 + i < 52 := by omega
  unfold ofM
  rw [if_neg h52, if_neg (by omega), if_neg (by omega), if_neg (by omega), if_neg (by omega), if_neg (by omega), if_neg (by omega), if_neg (by omega), if_neg (by omega), if_pos (by omega)]
  omega
theorem ofM_cell_2 {i j : Nat} (hi : i < 2) (hj : j < 40) : ofM (205 + (i * 40 + j)) = 171 + (1 + i * 1001 + (1 + j * 25 + 0)) := by
  have h52 : ¬ 205 + (i * 40 + j) < 52 := by omega
  unfold ofM
  rw [if_neg h52, if_neg (by omega), if_neg (by omega), if_neg (by omega), if_neg (by omega), if_neg (by omega), if_neg (by omega), if_neg (by omega), if_neg (by omega), if_neg (by omega), if_pos (by omega)]
  omega
theorem ofM_cell_3 {i j q : Nat} (hi : i < 2) (hj : j < 40) (hq : q < 24) : ofM (285 + ((i * 40 + j) * 24 + q)) = 171 + (1 + i * 1001 + (1 + j * 25 + (1 + q * 1 + 0))) := by
  have h52 : ¬ 285 + ((i * 40 + j) * 24 + q) < 52 := by omega
  unfold ofM
  rw [if_neg h52, if_neg (by omega), if_neg (by omega), if_neg (by omega), if_neg (by omega), if_neg (by omega), if_neg (by omega), if_neg (by omega), if_neg (by omega), if_neg (by omega), if_neg (by omega), if_pos (by omega)]
  omega
theorem ofM_follow_1 {i : Nat} (hi : i < 2) : ofM (2205 + i) = 2175 + (1 + i * 61 + 0) := by
  have h52 : ¬ 2205 + i < 52 := by omega
  unfold ofM
  rw [if_neg h52, if_neg (by omega), if_neg (by omega), if_neg (by omega), if_neg (by omega), if_neg (by omega), if_neg (by omega), if_neg (by omega), if_neg (by omega), if_neg (by omega), if_neg (by omega), if_neg (by omega), if_pos (by omega)]
  omega
theorem ofM_follow_2 {i j : Nat} (hi : i < 2) (hj : j < 60) : ofM (2207 + (i * 60 + j)) = 2175 + (1 + i * 61 + (1 + j * 1 + 0)) := by
  have h52 : ¬ 2207 + (i * 60 + j) < 52 := by omega
  unfold ofM
  rw [if_neg h52, if_neg (by omega), if_neg (by omega), if_neg (by omega), if_neg (by omega), if_neg (by omega), if_neg (by omega), if_neg (by omega), if_neg (by omega), if_neg (by omega), if_neg (by omega), if_neg (by omega), if_neg (by omega), if_pos (by omega)]
  omega
theorem ofM_net_1 {i : Nat} (hi : i < 48) : ofM (2327 + i) = 2298 + (1 + i * 1 + 0) := by
  have h52 : ¬ 2327 + i < 52 := by omega
  unfold ofM
  rw [if_neg h52, if_neg (by omega), if_neg (by omega), if_neg (by omega), if_neg (by omega), if_neg (by omega), if_neg (by omega), if_neg (by omega), if_neg (by omega), if_neg (by omega), if_neg (by omega), if_neg (by omega), if_neg (by omega), if_neg (by omega), if_pos (by omega)]
  omega
theorem ofM_edge_1 {i : Nat} (hi : i < 48) : ofM (2375 + i) = 2349 + (1 + i * 61 + 0) := by
  have h52 : ¬ 2375 + i < 52 := by omega
  unfold ofM
  rw [if_neg h52, if_neg (by omega), if_neg (by omega), if_neg (by omega), if_neg (by omega), if_neg (by omega), if_neg (by omega), if_neg (by omega), if_neg (by omega), if_neg (by omega), if_neg (by omega), if_neg (by omega), if_neg (by omega), if_neg (by omega), if_neg (by omega), if_pos (by omega)]
  omega
theorem ofM_edge_2 {i j : Nat} (hi : i < 48) (hj : j < 60) : ofM (2423 + (i * 60 + j)) = 2349 + (1 + i * 61 + (1 + j * 1 + 0)) := by
  have h52 : ¬ 2423 + (i * 60 + j) < 52 := by omega
  unfold ofM
  rw [if_neg h52, if_neg (by omega), if_neg (by omega), if_neg (by omega), if_neg (by omega), if_neg (by omega), if_neg (by omega), if_neg (by omega), if_neg (by omega), if_neg (by omega), if_neg (by omega), if_neg (by omega), if_neg (by omega), if_neg (by omega), if_neg (by omega), if_neg (by omega), if_pos (by omega)]
  omega
theorem ofM_cost_1 {i : Nat} (hi : i < 49) : ofM (5303 + i) = 5278 + (1 + i * 1 + 0) := by
  have h52 : ¬ 5303 + i < 52 := by omega
  unfold ofM
  rw [if_neg h52, if_neg (by omega), if_neg (by omega), if_neg (by omega), if_neg (by omega), if_neg (by omega), if_neg (by omega), if_neg (by omega), if_neg (by omega), if_neg (by omega), if_neg (by omega), if_neg (by omega), if_neg (by omega), if_neg (by omega), if_neg (by omega), if_neg (by omega), if_neg (by omega), if_pos (by omega)]
  omega
theorem ofM_choice_1 {i : Nat} (hi : i < 40) : ofM (5352 + i) = 5338 + (1 + i * 1 + 0) := by
  have h52 : ¬ 5352 + i < 52 := by omega
  unfold ofM
  rw [if_neg h52, if_neg (by omega), if_neg (by omega), if_neg (by omega), if_neg (by omega), if_neg (by omega), if_neg (by omega), if_neg (by omega), if_neg (by omega), if_neg (by omega), if_neg (by omega), if_neg (by omega), if_neg (by omega), if_neg (by omega), if_neg (by omega), if_neg (by omega), if_neg (by omega), if_neg (by omega), if_pos (by omega)]
  omega
theorem ofM_choiceAt_1 {i : Nat} (hi : i < 40) : ofM (5392 + i) = 5379 + (1 + i * 1 + 0) := by
  have h52 : ¬ 5392 + i < 52 := by omega
  unfold ofM
  rw [if_neg h52, if_neg (by omega), if_neg (by omega), if_neg (by omega), if_neg (by omega), if_neg (by omega), if_neg (by omega), if_neg (by omega), if_neg (by omega), if_neg (by omega), if_neg (by omega), if_neg (by omega), if_neg (by omega), if_neg (by omega), if_neg (by omega), if_neg (by omega), if_neg (by omega), if_neg (by omega), if_neg (by omega), if_pos (by omega)]
  omega
theorem ofM_onFrom_1 {i : Nat} (hi : i < 41) : ofM (5432 + i) = 5420 + (1 + i * 1 + 0) := by
  have h52 : ¬ 5432 + i < 52 := by omega
  unfold ofM
  rw [if_neg h52, if_neg (by omega), if_neg (by omega), if_neg (by omega), if_neg (by omega), if_neg (by omega), if_neg (by omega), if_neg (by omega), if_neg (by omega), if_neg (by omega), if_neg (by omega), if_neg (by omega), if_neg (by omega), if_neg (by omega), if_neg (by omega), if_neg (by omega), if_neg (by omega), if_neg (by omega), if_neg (by omega), if_neg (by omega), if_pos (by omega)]
  omega
theorem ofM_chosen_1 {i : Nat} (hi : i < 40) : ofM (5473 + i) = 5462 + (1 + i * 1 + 0) := by
  have h52 : ¬ 5473 + i < 52 := by omega
  unfold ofM
  rw [if_neg h52, if_neg (by omega), if_neg (by omega), if_neg (by omega), if_neg (by omega), if_neg (by omega), if_neg (by omega), if_neg (by omega), if_neg (by omega), if_neg (by omega), if_neg (by omega), if_neg (by omega), if_neg (by omega), if_neg (by omega), if_neg (by omega), if_neg (by omega), if_neg (by omega), if_neg (by omega), if_neg (by omega), if_neg (by omega), if_neg (by omega), if_pos (by omega)]
  omega
theorem esM_sign_1 {i : Nat} (hi : i < 61) : (esM51 ca sz)[3 + (1 + i * 1 + 0)]? = some (.inl (ca 0, 12, .inl (fun _ => 0))) := preM4 (app_get lenM3 (blkN_sub (i := i) (j := 0) blk1_len (by decide) hi (by omega) rfl))
theorem wM_sign_1 (hP : va_P D vwCl (KW o e0 sz (esM51 ca sz)) H) {i : Nat} (hi : i < 61) : va_at D vwCl (adM o sz (52 + i), EM (adM o sz) ca aMb (52 + i)) H := by
  have h1 := atM hP (esM_sign_1 hi)
  rw [EM_sign_1 hi]
  have h2 : adM o sz (52 + i) = sz + (3 + (1 + i * 1 + 0)) := by unfold adM; rw [if_neg (show 52 + i ≠ 0 by omega), ofM_sign_1 hi]
  rw [h2]
  rw [aMb_z (show 52 + i ≠ 0 by omega) (show 52 + i ≠ 3 by omega)]
  exact h1
theorem esM_part_1 {i : Nat} (hi : i < 2) : (esM51 ca sz)[74 + (1 + i * 21 + 0)]? = some (.inl (ca 2, 20, .inr (.inr (.inr (.inr (fun y => if y < 20 then some (sz + 74 + 1 + i * 21 + 1 + y * 1) else none)))))) := preM14 (app_get lenM13 (blkN_sub (i := i) (j := 0) (blkN_len (N := 20) (K := 1) (L := 21) blk1_len rfl) (by decide) hi (by omega) rfl))
theorem wM_part_1 (hP : va_P D vwCl (KW o e0 sz (esM51 ca sz)) H) {i : Nat} (hi : i < 2) : va_at D vwCl (adM o sz (113 + i), EM (adM o sz) ca aMb (113 + i)) H := by
  have h1 := atM hP (esM_part_1 hi)
  rw [EM_part_1 hi]
  have h2 : adM o sz (113 + i) = sz + (74 + (1 + i * 21 + 0)) := by unfold adM; rw [if_neg (show 113 + i ≠ 0 by omega), ofM_part_1 hi]
  rw [h2]
  refine Eq.trans h1 (congrArg some (cell_q (fun y hy => ?_)))
  show (if y < 20 then _ else _) = some (adM o sz (115 + (i * 20 + y)))
  unfold adM
  rw [if_pos hy, if_neg (show 115 + (i * 20 + y) ≠ 0 by omega), ofM_part_2 hi hy]
  exact congrArg some (by omega)
theorem esM_part_2 {i j : Nat} (hi : i < 2) (hj : j < 20) : (esM51 ca sz)[74 + (1 + i * 21 + (1 + j * 1 + 0))]? = some (.inl (ca 0, 6, .inl (fun _ => 0))) := preM14 (app_get lenM13 (blkN_sub (i := i) (j := 1 + j * 1 + 0) (blkN_len (N := 20) (K := 1) (L := 21) blk1_len rfl) (by decide) hi (by omega) (blkN_sub (i := j) (j := 0) blk1_len (by decide) hj (by omega) rfl)))
theorem wM_part_2 (hP : va_P D vwCl (KW o e0 sz (esM51 ca sz)) H) {i j : Nat} (hi : i < 2) (hj : j < 20) : va_at D vwCl (adM o sz (115 + (i * 20 + j)), EM (adM o sz) ca aMb (115 + (i * 20 + j))) H := by
  have h1 := atM hP (esM_part_2 hi hj)
  rw [EM_part_2 (xfl hi hj)]
  have h2 : adM o sz (115 + (i * 20 + j)) = sz + (74 + (1 + i * 21 + (1 + j * 1 + 0))) := by unfold adM; rw [if_neg (show 115 + (i * 20 + j) ≠ 0 by omega), ofM_part_2 hi hj]
  rw [h2]
  rw [aMb_z (show 115 + (i * 20 + j) ≠ 0 by omega) (show 115 + (i * 20 + j) ≠ 3 by omega)]
  exact h1
theorem esM_shape_1 {i : Nat} (hi : i < 2) : (esM51 ca sz)[117 + (1 + i * 21 + 0)]? = some (.inl (ca 2, 20, .inr (.inr (.inr (.inr (fun y => if y < 20 then some (sz + 117 + 1 + i * 21 + 1 + y * 1) else none)))))) := preM15 (app_get lenM14 (blkN_sub (i := i) (j := 0) (blkN_len (N := 20) (K := 1) (L := 21) blk1_len rfl) (by decide) hi (by omega) rfl))
theorem wM_shape_1 (hP : va_P D vwCl (KW o e0 sz (esM51 ca sz)) H) {i : Nat} (hi : i < 2) : va_at D vwCl (adM o sz (155 + i), EM (adM o sz) ca aMb (155 + i)) H := by
  have h1 := atM hP (esM_shape_1 hi)
  rw [EM_shape_1 hi]
  have h2 : adM o sz (155 + i) = sz + (117 + (1 + i * 21 + 0)) := by unfold adM; rw [if_neg (show 155 + i ≠ 0 by omega), ofM_shape_1 hi]
  rw [h2]
  refine Eq.trans h1 (congrArg some (cell_q (fun y hy => ?_)))
  show (if y < 20 then _ else _) = some (adM o sz (157 + (i * 20 + y)))
  unfold adM
  rw [if_pos hy, if_neg (show 157 + (i * 20 + y) ≠ 0 by omega), ofM_shape_2 hi hy]
  exact congrArg some (by omega)
theorem esM_shape_2 {i j : Nat} (hi : i < 2) (hj : j < 20) : (esM51 ca sz)[117 + (1 + i * 21 + (1 + j * 1 + 0))]? = some (.inl (ca 0, 3, .inl (fun _ => 0))) := preM15 (app_get lenM14 (blkN_sub (i := i) (j := 1 + j * 1 + 0) (blkN_len (N := 20) (K := 1) (L := 21) blk1_len rfl) (by decide) hi (by omega) (blkN_sub (i := j) (j := 0) blk1_len (by decide) hj (by omega) rfl)))
theorem wM_shape_2 (hP : va_P D vwCl (KW o e0 sz (esM51 ca sz)) H) {i j : Nat} (hi : i < 2) (hj : j < 20) : va_at D vwCl (adM o sz (157 + (i * 20 + j)), EM (adM o sz) ca aMb (157 + (i * 20 + j))) H := by
  have h1 := atM hP (esM_shape_2 hi hj)
  rw [EM_shape_2 (xfl hi hj)]
  have h2 : adM o sz (157 + (i * 20 + j)) = sz + (117 + (1 + i * 21 + (1 + j * 1 + 0))) := by unfold adM; rw [if_neg (show 157 + (i * 20 + j) ≠ 0 by omega), ofM_shape_2 hi hj]
  rw [h2]
  rw [aMb_z (show 157 + (i * 20 + j) ≠ 0 by omega) (show 157 + (i * 20 + j) ≠ 3 by omega)]
  exact h1
theorem esM_cells_1 {i : Nat} (hi : i < 2) : (esM51 ca sz)[162 + (1 + i * 1 + 0)]? = some (.inl (ca 0, 40, .inl (fun _ => 0))) := preM18 (app_get lenM17 (blkN_sub (i := i) (j := 0) blk1_len (by decide) hi (by omega) rfl))
theorem wM_cells_1 (hP : va_P D vwCl (KW o e0 sz (esM51 ca sz)) H) {i : Nat} (hi : i < 2) : va_at D vwCl (adM o sz (197 + i), EM (adM o sz) ca aMb (197 + i)) H := by
  have h1 := atM hP (esM_cells_1 hi)
  rw [EM_cells_1 hi]
  have h2 : adM o sz (197 + i) = sz + (162 + (1 + i * 1 + 0)) := by unfold adM; rw [if_neg (show 197 + i ≠ 0 by omega), ofM_cells_1 hi]
  rw [h2]
  rw [aMb_z (show 197 + i ≠ 0 by omega) (show 197 + i ≠ 3 by omega)]
  exact h1
theorem esM_lineOf_1 {i : Nat} (hi : i < 2) : (esM51 ca sz)[165 + (1 + i * 1 + 0)]? = some (.inl (ca 0, 40, .inl (fun _ => 0))) := preM19 (app_get lenM18 (blkN_sub (i := i) (j := 0) blk1_len (by decide) hi (by omega) rfl))
theorem wM_lineOf_1 (hP : va_P D vwCl (KW o e0 sz (esM51 ca sz)) H) {i : Nat} (hi : i < 2) : va_at D vwCl (adM o sz (199 + i), EM (adM o sz) ca aMb (199 + i)) H := by
  have h1 := atM hP (esM_lineOf_1 hi)
  rw [EM_lineOf_1 hi]
  have h2 : adM o sz (199 + i) = sz + (165 + (1 + i * 1 + 0)) := by unfold adM; rw [if_neg (show 199 + i ≠ 0 by omega), ofM_lineOf_1 hi]
  rw [h2]
  rw [aMb_z (show 199 + i ≠ 0 by omega) (show 199 + i ≠ 3 by omega)]
  exact h1
theorem esM_behind_1 {i : Nat} (hi : i < 2) : (esM51 ca sz)[168 + (1 + i * 1 + 0)]? = some (.inl (ca 0, 40, .inl (fun _ => 0))) := preM20 (app_get lenM19 (blkN_sub (i := i) (j := 0) blk1_len (by decide) hi (by omega) rfl))
theorem wM_behind_1 (hP : va_P D vwCl (KW o e0 sz (esM51 ca sz)) H) {i : Nat} (hi : i < 2) : va_at D vwCl (adM o sz (201 + i), EM (adM o sz) ca aMb (201 + i)) H := by
  have h1 := atM hP (esM_behind_1 hi)
  rw [EM_behind_1 hi]
  have h2 : adM o sz (201 + i) = sz + (168 + (1 + i * 1 + 0)) := by unfold adM; rw [if_neg (show 201 + i ≠ 0 by omega), ofM_behind_1 hi]
  rw [h2]
  rw [aMb_z (show 201 + i ≠ 0 by omega) (show 201 + i ≠ 3 by omega)]
  exact h1
theorem esM_cell_1 {i : Nat} (hi : i < 2) : (esM51 ca sz)[171 + (1 + i * 1001 + 0)]? = some (.inl (ca 3, 40, .inr (.inr (.inr (.inr (fun y => if y < 40 then some (sz + 171 + 1 + i * 1001 + 1 + y * 25) else none)))))) := preM21 (app_get lenM20 (blkN_sub (i := i) (j := 0) (blkN_len (N := 40) (K := 25) (L := 1001) (blkN_len (N := 24) (K := 1) (L := 25) blk1_len rfl) rfl) (by decide) hi (by omega) rfl))
theorem wM_cell_1 (hP : va_P D vwCl (KW o e0 sz (esM51 ca sz)) H) {i : Nat} (hi : i < 2) : va_at D vwCl (adM o sz (203 + i), EM (adM o sz) ca aMb (203 + i)) H := by
  have h1 := atM hP (esM_cell_1 hi)
  rw [EM_cell_1 hi]
  have h2 : adM o sz (203 + i) = sz + (171 + (1 + i * 1001 + 0)) := by unfold adM; rw [if_neg (show 203 + i ≠ 0 by omega), ofM_cell_1 hi]
  rw [h2]
  refine Eq.trans h1 (congrArg some (cell_q (fun y hy => ?_)))
  show (if y < 40 then _ else _) = some (adM o sz (205 + (i * 40 + y)))
  unfold adM
  rw [if_pos hy, if_neg (show 205 + (i * 40 + y) ≠ 0 by omega), ofM_cell_2 hi hy]
  exact congrArg some (by omega)
theorem esM_cell_2 {i j : Nat} (hi : i < 2) (hj : j < 40) : (esM51 ca sz)[171 + (1 + i * 1001 + (1 + j * 25 + 0))]? = some (.inl (ca 2, 24, .inr (.inr (.inr (.inr (fun y => if y < 24 then some (sz + 171 + 1 + i * 1001 + 1 + j * 25 + 1 + y * 1) else none)))))) := preM21 (app_get lenM20 (blkN_sub (i := i) (j := 1 + j * 25 + 0) (blkN_len (N := 40) (K := 25) (L := 1001) (blkN_len (N := 24) (K := 1) (L := 25) blk1_len rfl) rfl) (by decide) hi (by omega) (blkN_sub (i := j) (j := 0) (blkN_len (N := 24) (K := 1) (L := 25) blk1_len rfl) (by decide) hj (by omega) rfl)))
theorem wM_cell_2 (hP : va_P D vwCl (KW o e0 sz (esM51 ca sz)) H) {i j : Nat} (hi : i < 2) (hj : j < 40) : va_at D vwCl (adM o sz (205 + (i * 40 + j)), EM (adM o sz) ca aMb (205 + (i * 40 + j))) H := by
  have h1 := atM hP (esM_cell_2 hi hj)
  rw [EM_cell_2 (xfl hi hj)]
  have h2 : adM o sz (205 + (i * 40 + j)) = sz + (171 + (1 + i * 1001 + (1 + j * 25 + 0))) := by unfold adM; rw [if_neg (show 205 + (i * 40 + j) ≠ 0 by omega), ofM_cell_2 hi hj]
  rw [h2]
  refine Eq.trans h1 (congrArg some (cell_q (fun y hy => ?_)))
  show (if y < 24 then _ else _) = some (adM o sz (285 + ((i * 40 + j) * 24 + y)))
  unfold adM
  rw [if_pos hy, if_neg (show 285 + ((i * 40 + j) * 24 + y) ≠ 0 by omega), ofM_cell_3 hi hj hy]
  exact congrArg some (by omega)
theorem esM_cell_3 {i j q : Nat} (hi : i < 2) (hj : j < 40) (hq : q < 24) : (esM51 ca sz)[171 + (1 + i * 1001 + (1 + j * 25 + (1 + q * 1 + 0)))]? = some (.inl (ca 0, 8, .inl (fun _ => 0))) := preM21 (app_get lenM20 (blkN_sub (i := i) (j := 1 + j * 25 + (1 + q * 1 + 0)) (blkN_len (N := 40) (K := 25) (L := 1001) (blkN_len (N := 24) (K := 1) (L := 25) blk1_len rfl) rfl) (by decide) hi (by omega) (blkN_sub (i := j) (j := 1 + q * 1 + 0) (blkN_len (N := 24) (K := 1) (L := 25) blk1_len rfl) (by decide) hj (by omega) (blkN_sub (i := q) (j := 0) blk1_len (by decide) hq (by omega) rfl))))
theorem wM_cell_3 (hP : va_P D vwCl (KW o e0 sz (esM51 ca sz)) H) {i j q : Nat} (hi : i < 2) (hj : j < 40) (hq : q < 24) : va_at D vwCl (adM o sz (285 + ((i * 40 + j) * 24 + q)), EM (adM o sz) ca aMb (285 + ((i * 40 + j) * 24 + q))) H := by
  have h1 := atM hP (esM_cell_3 hi hj hq)
  rw [EM_cell_3 (xfl (xfl hi hj) hq)]
  have h2 : adM o sz (285 + ((i * 40 + j) * 24 + q)) = sz + (171 + (1 + i * 1001 + (1 + j * 25 + (1 + q * 1 + 0)))) := by unfold adM; rw [if_neg (show 285 + ((i * 40 + j) * 24 + q) ≠ 0 by omega), ofM_cell_3 hi hj hq]
  rw [h2]
  rw [aMb_z (show 285 + ((i * 40 + j) * 24 + q) ≠ 0 by omega) (show 285 + ((i * 40 + j) * 24 + q) ≠ 3 by omega)]
  exact h1
theorem esM_follow_1 {i : Nat} (hi : i < 2) : (esM51 ca sz)[2175 + (1 + i * 61 + 0)]? = some (.inl (ca 2, 60, .inr (.inr (.inr (.inr (fun y => if y < 60 then some (sz + 2175 + 1 + i * 61 + 1 + y * 1) else none)))))) := preM23 (app_get lenM22 (blkN_sub (i := i) (j := 0) (blkN_len (N := 60) (K := 1) (L := 61) blk1_len rfl) (by decide) hi (by omega) rfl))
theorem wM_follow_1 (hP : va_P D vwCl (KW o e0 sz (esM51 ca sz)) H) {i : Nat} (hi : i < 2) : va_at D vwCl (adM o sz (2205 + i), EM (adM o sz) ca aMb (2205 + i)) H := by
  have h1 := atM hP (esM_follow_1 hi)
  rw [EM_follow_1 hi]
  have h2 : adM o sz (2205 + i) = sz + (2175 + (1 + i * 61 + 0)) := by unfold adM; rw [if_neg (show 2205 + i ≠ 0 by omega), ofM_follow_1 hi]
  rw [h2]
  refine Eq.trans h1 (congrArg some (cell_q (fun y hy => ?_)))
  show (if y < 60 then _ else _) = some (adM o sz (2207 + (i * 60 + y)))
  unfold adM
  rw [if_pos hy, if_neg (show 2207 + (i * 60 + y) ≠ 0 by omega), ofM_follow_2 hi hy]
  exact congrArg some (by omega)
theorem esM_follow_2 {i j : Nat} (hi : i < 2) (hj : j < 60) : (esM51 ca sz)[2175 + (1 + i * 61 + (1 + j * 1 + 0))]? = some (.inl (ca 0, 3, .inl (fun _ => 0))) := preM23 (app_get lenM22 (blkN_sub (i := i) (j := 1 + j * 1 + 0) (blkN_len (N := 60) (K := 1) (L := 61) blk1_len rfl) (by decide) hi (by omega) (blkN_sub (i := j) (j := 0) blk1_len (by decide) hj (by omega) rfl)))
theorem wM_follow_2 (hP : va_P D vwCl (KW o e0 sz (esM51 ca sz)) H) {i j : Nat} (hi : i < 2) (hj : j < 60) : va_at D vwCl (adM o sz (2207 + (i * 60 + j)), EM (adM o sz) ca aMb (2207 + (i * 60 + j))) H := by
  have h1 := atM hP (esM_follow_2 hi hj)
  rw [EM_follow_2 (xfl hi hj)]
  have h2 : adM o sz (2207 + (i * 60 + j)) = sz + (2175 + (1 + i * 61 + (1 + j * 1 + 0))) := by unfold adM; rw [if_neg (show 2207 + (i * 60 + j) ≠ 0 by omega), ofM_follow_2 hi hj]
  rw [h2]
  rw [aMb_z (show 2207 + (i * 60 + j) ≠ 0 by omega) (show 2207 + (i * 60 + j) ≠ 3 by omega)]
  exact h1
theorem esM_net_1 {i : Nat} (hi : i < 48) : (esM51 ca sz)[2298 + (1 + i * 1 + 0)]? = some (.inl (ca 0, 8, .inl (fun _ => 0))) := preM24 (app_get lenM23 (blkN_sub (i := i) (j := 0) blk1_len (by decide) hi (by omega) rfl))
theorem wM_net_1 (hP : va_P D vwCl (KW o e0 sz (esM51 ca sz)) H) {i : Nat} (hi : i < 48) : va_at D vwCl (adM o sz (2327 + i), EM (adM o sz) ca aMb (2327 + i)) H := by
  have h1 := atM hP (esM_net_1 hi)
  rw [EM_net_1 hi]
  have h2 : adM o sz (2327 + i) = sz + (2298 + (1 + i * 1 + 0)) := by unfold adM; rw [if_neg (show 2327 + i ≠ 0 by omega), ofM_net_1 hi]
  rw [h2]
  rw [aMb_z (show 2327 + i ≠ 0 by omega) (show 2327 + i ≠ 3 by omega)]
  exact h1
theorem esM_edge_1 {i : Nat} (hi : i < 48) : (esM51 ca sz)[2349 + (1 + i * 61 + 0)]? = some (.inl (ca 2, 60, .inr (.inr (.inr (.inr (fun y => if y < 60 then some (sz + 2349 + 1 + i * 61 + 1 + y * 1) else none)))))) := preM27 (app_get lenM26 (blkN_sub (i := i) (j := 0) (blkN_len (N := 60) (K := 1) (L := 61) blk1_len rfl) (by decide) hi (by omega) rfl))
theorem wM_edge_1 (hP : va_P D vwCl (KW o e0 sz (esM51 ca sz)) H) {i : Nat} (hi : i < 48) : va_at D vwCl (adM o sz (2375 + i), EM (adM o sz) ca aMb (2375 + i)) H := by
  have h1 := atM hP (esM_edge_1 hi)
  rw [EM_edge_1 hi]
  have h2 : adM o sz (2375 + i) = sz + (2349 + (1 + i * 61 + 0)) := by unfold adM; rw [if_neg (show 2375 + i ≠ 0 by omega), ofM_edge_1 hi]
  rw [h2]
  refine Eq.trans h1 (congrArg some (cell_q (fun y hy => ?_)))
  show (if y < 60 then _ else _) = some (adM o sz (2423 + (i * 60 + y)))
  unfold adM
  rw [if_pos hy, if_neg (show 2423 + (i * 60 + y) ≠ 0 by omega), ofM_edge_2 hi hy]
  exact congrArg some (by omega)
theorem esM_edge_2 {i j : Nat} (hi : i < 48) (hj : j < 60) : (esM51 ca sz)[2349 + (1 + i * 61 + (1 + j * 1 + 0))]? = some (.inl (ca 0, 7, .inl (fun _ => 0))) := preM27 (app_get lenM26 (blkN_sub (i := i) (j := 1 + j * 1 + 0) (blkN_len (N := 60) (K := 1) (L := 61) blk1_len rfl) (by decide) hi (by omega) (blkN_sub (i := j) (j := 0) blk1_len (by decide) hj (by omega) rfl)))
theorem wM_edge_2 (hP : va_P D vwCl (KW o e0 sz (esM51 ca sz)) H) {i j : Nat} (hi : i < 48) (hj : j < 60) : va_at D vwCl (adM o sz (2423 + (i * 60 + j)), EM (adM o sz) ca aMb (2423 + (i * 60 + j))) H := by
  have h1 := atM hP (esM_edge_2 hi hj)
  rw [EM_edge_2 (xfl hi hj)]
  have h2 : adM o sz (2423 + (i * 60 + j)) = sz + (2349 + (1 + i * 61 + (1 + j * 1 + 0))) := by unfold adM; rw [if_neg (show 2423 + (i * 60 + j) ≠ 0 by omega), ofM_edge_2 hi hj]
  rw [h2]
  rw [aMb_z (show 2423 + (i * 60 + j) ≠ 0 by omega) (show 2423 + (i * 60 + j) ≠ 3 by omega)]
  exact h1
theorem esM_cost_1 {i : Nat} (hi : i < 49) : (esM51 ca sz)[5278 + (1 + i * 1 + 0)]? = some (.inl (ca 0, 13, .inl (fun _ => 0))) := preM28 (app_get lenM27 (blkN_sub (i := i) (j := 0) blk1_len (by decide) hi (by omega) rfl))
theorem wM_cost_1 (hP : va_P D vwCl (KW o e0 sz (esM51 ca sz)) H) {i : Nat} (hi : i < 49) : va_at D vwCl (adM o sz (5303 + i), EM (adM o sz) ca aMb (5303 + i)) H := by
  have h1 := atM hP (esM_cost_1 hi)
  rw [EM_cost_1 hi]
  have h2 : adM o sz (5303 + i) = sz + (5278 + (1 + i * 1 + 0)) := by unfold adM; rw [if_neg (show 5303 + i ≠ 0 by omega), ofM_cost_1 hi]
  rw [h2]
  rw [aMb_z (show 5303 + i ≠ 0 by omega) (show 5303 + i ≠ 3 by omega)]
  exact h1
theorem esM_choice_1 {i : Nat} (hi : i < 40) : (esM51 ca sz)[5338 + (1 + i * 1 + 0)]? = some (.inl (ca 0, 5, .inl (fun _ => 0))) := preM39 (app_get lenM38 (blkN_sub (i := i) (j := 0) blk1_len (by decide) hi (by omega) rfl))
theorem wM_choice_1 (hP : va_P D vwCl (KW o e0 sz (esM51 ca sz)) H) {i : Nat} (hi : i < 40) : va_at D vwCl (adM o sz (5352 + i), EM (adM o sz) ca aMb (5352 + i)) H := by
  have h1 := atM hP (esM_choice_1 hi)
  rw [EM_choice_1 hi]
  have h2 : adM o sz (5352 + i) = sz + (5338 + (1 + i * 1 + 0)) := by unfold adM; rw [if_neg (show 5352 + i ≠ 0 by omega), ofM_choice_1 hi]
  rw [h2]
  rw [aMb_z (show 5352 + i ≠ 0 by omega) (show 5352 + i ≠ 3 by omega)]
  exact h1
theorem esM_choiceAt_1 {i : Nat} (hi : i < 40) : (esM51 ca sz)[5379 + (1 + i * 1 + 0)]? = some (.inl (ca 0, 5, .inl (fun _ => 0))) := preM40 (app_get lenM39 (blkN_sub (i := i) (j := 0) blk1_len (by decide) hi (by omega) rfl))
theorem wM_choiceAt_1 (hP : va_P D vwCl (KW o e0 sz (esM51 ca sz)) H) {i : Nat} (hi : i < 40) : va_at D vwCl (adM o sz (5392 + i), EM (adM o sz) ca aMb (5392 + i)) H := by
  have h1 := atM hP (esM_choiceAt_1 hi)
  rw [EM_choiceAt_1 hi]
  have h2 : adM o sz (5392 + i) = sz + (5379 + (1 + i * 1 + 0)) := by unfold adM; rw [if_neg (show 5392 + i ≠ 0 by omega), ofM_choiceAt_1 hi]
  rw [h2]
  rw [aMb_z (show 5392 + i ≠ 0 by omega) (show 5392 + i ≠ 3 by omega)]
  exact h1
theorem esM_onFrom_1 {i : Nat} (hi : i < 41) : (esM51 ca sz)[5420 + (1 + i * 1 + 0)]? = some (.inl (ca 0, 5, .inl (fun _ => 0))) := preM41 (app_get lenM40 (blkN_sub (i := i) (j := 0) blk1_len (by decide) hi (by omega) rfl))
theorem wM_onFrom_1 (hP : va_P D vwCl (KW o e0 sz (esM51 ca sz)) H) {i : Nat} (hi : i < 41) : va_at D vwCl (adM o sz (5432 + i), EM (adM o sz) ca aMb (5432 + i)) H := by
  have h1 := atM hP (esM_onFrom_1 hi)
  rw [EM_onFrom_1 hi]
  have h2 : adM o sz (5432 + i) = sz + (5420 + (1 + i * 1 + 0)) := by unfold adM; rw [if_neg (show 5432 + i ≠ 0 by omega), ofM_onFrom_1 hi]
  rw [h2]
  rw [aMb_z (show 5432 + i ≠ 0 by omega) (show 5432 + i ≠ 3 by omega)]
  exact h1
theorem esM_chosen_1 {i : Nat} (hi : i < 40) : (esM51 ca sz)[5462 + (1 + i * 1 + 0)]? = some (.inl (ca 0, 5, .inl (fun _ => 0))) := preM42 (app_get lenM41 (blkN_sub (i := i) (j := 0) blk1_len (by decide) hi (by omega) rfl))
theorem wM_chosen_1 (hP : va_P D vwCl (KW o e0 sz (esM51 ca sz)) H) {i : Nat} (hi : i < 40) : va_at D vwCl (adM o sz (5473 + i), EM (adM o sz) ca aMb (5473 + i)) H := by
  have h1 := atM hP (esM_chosen_1 hi)
  rw [EM_chosen_1 hi]
  have h2 : adM o sz (5473 + i) = sz + (5462 + (1 + i * 1 + 0)) := by unfold adM; rw [if_neg (show 5473 + i ≠ 0 by omega), ofM_chosen_1 hi]
  rw [h2]
  rw [aMb_z (show 5473 + i ≠ 0 by omega) (show 5473 + i ≠ 3 by omega)]
  exact h1
theorem wM_1 (hP : va_P D vwCl (KW o e0 sz (esM51 ca sz)) H) : va_at D vwCl (adM o sz 1, EM (adM o sz) ca aMb 1) H := atM hP (i := 0) (e := .inl (ca 0, 2, .inl (aMb 1))) (preM1 (app_get (x := 0) lenM0 rfl))
theorem wM_2 (hP : va_P D vwCl (KW o e0 sz (esM51 ca sz)) H) : va_at D vwCl (adM o sz 2, EM (adM o sz) ca aMb 2) H := atM hP (i := 1) (e := .inl (ca 0, 400, .inl (aMb 2))) (preM2 (app_get (x := 0) lenM1 rfl))
theorem wM_3 (hP : va_P D vwCl (KW o e0 sz (esM51 ca sz)) H) : va_at D vwCl (adM o sz 3, EM (adM o sz) ca aMb 3) H := atM hP (i := 2) (e := .inl (ca 0, 7, .inl (aMb 3))) (preM3 (app_get (x := 0) lenM2 rfl))
theorem wM_4 (hP : va_P D vwCl (KW o e0 sz (esM51 ca sz)) H) : va_at D vwCl (adM o sz 4, EM (adM o sz) ca aMb 4) H := by
  have h1 := atM hP (i := 3) (e := .inl (ca 2, 61, .inr (.inr (.inr (.inr (fun y => if y < 61 then some (sz + 3 + 1 + y * 1) else none)))))) (preM4 (app_get (x := 0) lenM3 rfl))
  refine Eq.trans h1 (congrArg some (cell_q (fun y hy => ?_)))
  show (if y < 61 then _ else _) = some (adM o sz (52 + y))
  unfold adM
  rw [if_pos hy, if_neg (show 52 + y ≠ 0 by omega), ofM_sign_1 hy]
  exact congrArg some (by omega)
theorem wM_5 (hP : va_P D vwCl (KW o e0 sz (esM51 ca sz)) H) : va_at D vwCl (adM o sz 5, EM (adM o sz) ca aMb 5) H := atM hP (i := 65) (e := .inl (ca 0, 61, .inl (aMb 5))) (preM5 (app_get (x := 0) lenM4 rfl))
theorem wM_6 (hP : va_P D vwCl (KW o e0 sz (esM51 ca sz)) H) : va_at D vwCl (adM o sz 6, EM (adM o sz) ca aMb 6) H := atM hP (i := 66) (e := .inl (ca 0, 61, .inl (aMb 6))) (preM6 (app_get (x := 0) lenM5 rfl))
theorem wM_7 (hP : va_P D vwCl (KW o e0 sz (esM51 ca sz)) H) : va_at D vwCl (adM o sz 7, EM (adM o sz) ca aMb 7) H := atM hP (i := 67) (e := .inl (ca 0, 61, .inl (aMb 7))) (preM7 (app_get (x := 0) lenM6 rfl))
theorem wM_8 (hP : va_P D vwCl (KW o e0 sz (esM51 ca sz)) H) : va_at D vwCl (adM o sz 8, EM (adM o sz) ca aMb 8) H := atM hP (i := 68) (e := .inl (ca 0, 721, .inl (aMb 8))) (preM8 (app_get (x := 0) lenM7 rfl))
theorem wM_9 (hP : va_P D vwCl (KW o e0 sz (esM51 ca sz)) H) : va_at D vwCl (adM o sz 9, EM (adM o sz) ca aMb 9) H := atM hP (i := 69) (e := .inl (ca 0, 721, .inl (aMb 9))) (preM9 (app_get (x := 0) lenM8 rfl))
theorem wM_10 (hP : va_P D vwCl (KW o e0 sz (esM51 ca sz)) H) : va_at D vwCl (adM o sz 10, EM (adM o sz) ca aMb 10) H := atM hP (i := 70) (e := .inl (ca 0, 721, .inl (aMb 10))) (preM10 (app_get (x := 0) lenM9 rfl))
theorem wM_11 (hP : va_P D vwCl (KW o e0 sz (esM51 ca sz)) H) : va_at D vwCl (adM o sz 11, EM (adM o sz) ca aMb 11) H := atM hP (i := 71) (e := .inl (ca 0, 721, .inl (aMb 11))) (preM11 (app_get (x := 0) lenM10 rfl))
theorem wM_12 (hP : va_P D vwCl (KW o e0 sz (esM51 ca sz)) H) : va_at D vwCl (adM o sz 12, EM (adM o sz) ca aMb 12) H := atM hP (i := 72) (e := .inl (ca 0, 721, .inl (aMb 12))) (preM12 (app_get (x := 0) lenM11 rfl))
theorem wM_13 (hP : va_P D vwCl (KW o e0 sz (esM51 ca sz)) H) : va_at D vwCl (adM o sz 13, EM (adM o sz) ca aMb 13) H := atM hP (i := 73) (e := .inl (ca 0, 2, .inl (aMb 13))) (preM13 (app_get (x := 0) lenM12 rfl))
theorem wM_14 (hP : va_P D vwCl (KW o e0 sz (esM51 ca sz)) H) : va_at D vwCl (adM o sz 14, EM (adM o sz) ca aMb 14) H := by
  have h1 := atM hP (i := 74) (e := .inl (ca 3, 2, .inr (.inr (.inr (.inr (fun y => if y < 2 then some (sz + 74 + 1 + y * 21) else none)))))) (preM14 (app_get (x := 0) lenM13 rfl))
  refine Eq.trans h1 (congrArg some (cell_q (fun y hy => ?_)))
  show (if y < 2 then _ else _) = some (adM o sz (113 + y))
  unfold adM
  rw [if_pos hy, if_neg (show 113 + y ≠ 0 by omega), ofM_part_1 hy]
  exact congrArg some (by omega)
theorem wM_15 (hP : va_P D vwCl (KW o e0 sz (esM51 ca sz)) H) : va_at D vwCl (adM o sz 15, EM (adM o sz) ca aMb 15) H := by
  have h1 := atM hP (i := 117) (e := .inl (ca 3, 2, .inr (.inr (.inr (.inr (fun y => if y < 2 then some (sz + 117 + 1 + y * 21) else none)))))) (preM15 (app_get (x := 0) lenM14 rfl))
  refine Eq.trans h1 (congrArg some (cell_q (fun y hy => ?_)))
  show (if y < 2 then _ else _) = some (adM o sz (155 + y))
  unfold adM
  rw [if_pos hy, if_neg (show 155 + y ≠ 0 by omega), ofM_shape_1 hy]
  exact congrArg some (by omega)
theorem wM_16 (hP : va_P D vwCl (KW o e0 sz (esM51 ca sz)) H) : va_at D vwCl (adM o sz 16, EM (adM o sz) ca aMb 16) H := atM hP (i := 160) (e := .inl (ca 0, 2, .inl (aMb 16))) (preM16 (app_get (x := 0) lenM15 rfl))
theorem wM_17 (hP : va_P D vwCl (KW o e0 sz (esM51 ca sz)) H) : va_at D vwCl (adM o sz 17, EM (adM o sz) ca aMb 17) H := atM hP (i := 161) (e := .inl (ca 0, 2, .inl (aMb 17))) (preM17 (app_get (x := 0) lenM16 rfl))
theorem wM_18 (hP : va_P D vwCl (KW o e0 sz (esM51 ca sz)) H) : va_at D vwCl (adM o sz 18, EM (adM o sz) ca aMb 18) H := by
  have h1 := atM hP (i := 162) (e := .inl (ca 2, 2, .inr (.inr (.inr (.inr (fun y => if y < 2 then some (sz + 162 + 1 + y * 1) else none)))))) (preM18 (app_get (x := 0) lenM17 rfl))
  refine Eq.trans h1 (congrArg some (cell_q (fun y hy => ?_)))
  show (if y < 2 then _ else _) = some (adM o sz (197 + y))
  unfold adM
  rw [if_pos hy, if_neg (show 197 + y ≠ 0 by omega), ofM_cells_1 hy]
  exact congrArg some (by omega)
theorem wM_19 (hP : va_P D vwCl (KW o e0 sz (esM51 ca sz)) H) : va_at D vwCl (adM o sz 19, EM (adM o sz) ca aMb 19) H := by
  have h1 := atM hP (i := 165) (e := .inl (ca 2, 2, .inr (.inr (.inr (.inr (fun y => if y < 2 then some (sz + 165 + 1 + y * 1) else none)))))) (preM19 (app_get (x := 0) lenM18 rfl))
  refine Eq.trans h1 (congrArg some (cell_q (fun y hy => ?_)))
  show (if y < 2 then _ else _) = some (adM o sz (199 + y))
  unfold adM
  rw [if_pos hy, if_neg (show 199 + y ≠ 0 by omega), ofM_lineOf_1 hy]
  exact congrArg some (by omega)
theorem wM_20 (hP : va_P D vwCl (KW o e0 sz (esM51 ca sz)) H) : va_at D vwCl (adM o sz 20, EM (adM o sz) ca aMb 20) H := by
  have h1 := atM hP (i := 168) (e := .inl (ca 2, 2, .inr (.inr (.inr (.inr (fun y => if y < 2 then some (sz + 168 + 1 + y * 1) else none)))))) (preM20 (app_get (x := 0) lenM19 rfl))
  refine Eq.trans h1 (congrArg some (cell_q (fun y hy => ?_)))
  show (if y < 2 then _ else _) = some (adM o sz (201 + y))
  unfold adM
  rw [if_pos hy, if_neg (show 201 + y ≠ 0 by omega), ofM_behind_1 hy]
  exact congrArg some (by omega)
theorem wM_21 (hP : va_P D vwCl (KW o e0 sz (esM51 ca sz)) H) : va_at D vwCl (adM o sz 21, EM (adM o sz) ca aMb 21) H := by
  have h1 := atM hP (i := 171) (e := .inl (ca 4, 2, .inr (.inr (.inr (.inr (fun y => if y < 2 then some (sz + 171 + 1 + y * 1001) else none)))))) (preM21 (app_get (x := 0) lenM20 rfl))
  refine Eq.trans h1 (congrArg some (cell_q (fun y hy => ?_)))
  show (if y < 2 then _ else _) = some (adM o sz (203 + y))
  unfold adM
  rw [if_pos hy, if_neg (show 203 + y ≠ 0 by omega), ofM_cell_1 hy]
  exact congrArg some (by omega)
theorem wM_22 (hP : va_P D vwCl (KW o e0 sz (esM51 ca sz)) H) : va_at D vwCl (adM o sz 22, EM (adM o sz) ca aMb 22) H := atM hP (i := 2174) (e := .inl (ca 0, 2, .inl (aMb 22))) (preM22 (app_get (x := 0) lenM21 rfl))
theorem wM_23 (hP : va_P D vwCl (KW o e0 sz (esM51 ca sz)) H) : va_at D vwCl (adM o sz 23, EM (adM o sz) ca aMb 23) H := by
  have h1 := atM hP (i := 2175) (e := .inl (ca 3, 2, .inr (.inr (.inr (.inr (fun y => if y < 2 then some (sz + 2175 + 1 + y * 61) else none)))))) (preM23 (app_get (x := 0) lenM22 rfl))
  refine Eq.trans h1 (congrArg some (cell_q (fun y hy => ?_)))
  show (if y < 2 then _ else _) = some (adM o sz (2205 + y))
  unfold adM
  rw [if_pos hy, if_neg (show 2205 + y ≠ 0 by omega), ofM_follow_1 hy]
  exact congrArg some (by omega)
theorem wM_24 (hP : va_P D vwCl (KW o e0 sz (esM51 ca sz)) H) : va_at D vwCl (adM o sz 24, EM (adM o sz) ca aMb 24) H := by
  have h1 := atM hP (i := 2298) (e := .inl (ca 2, 48, .inr (.inr (.inr (.inr (fun y => if y < 48 then some (sz + 2298 + 1 + y * 1) else none)))))) (preM24 (app_get (x := 0) lenM23 rfl))
  refine Eq.trans h1 (congrArg some (cell_q (fun y hy => ?_)))
  show (if y < 48 then _ else _) = some (adM o sz (2327 + y))
  unfold adM
  rw [if_pos hy, if_neg (show 2327 + y ≠ 0 by omega), ofM_net_1 hy]
  exact congrArg some (by omega)
theorem wM_25 (hP : va_P D vwCl (KW o e0 sz (esM51 ca sz)) H) : va_at D vwCl (adM o sz 25, EM (adM o sz) ca aMb 25) H := atM hP (i := 2347) (e := .inl (ca 0, 49, .inl (aMb 25))) (preM25 (app_get (x := 0) lenM24 rfl))
theorem wM_26 (hP : va_P D vwCl (KW o e0 sz (esM51 ca sz)) H) : va_at D vwCl (adM o sz 26, EM (adM o sz) ca aMb 26) H := atM hP (i := 2348) (e := .inl (ca 0, 49, .inl (aMb 26))) (preM26 (app_get (x := 0) lenM25 rfl))
theorem wM_27 (hP : va_P D vwCl (KW o e0 sz (esM51 ca sz)) H) : va_at D vwCl (adM o sz 27, EM (adM o sz) ca aMb 27) H := by
  have h1 := atM hP (i := 2349) (e := .inl (ca 3, 48, .inr (.inr (.inr (.inr (fun y => if y < 48 then some (sz + 2349 + 1 + y * 61) else none)))))) (preM27 (app_get (x := 0) lenM26 rfl))
  refine Eq.trans h1 (congrArg some (cell_q (fun y hy => ?_)))
  show (if y < 48 then _ else _) = some (adM o sz (2375 + y))
  unfold adM
  rw [if_pos hy, if_neg (show 2375 + y ≠ 0 by omega), ofM_edge_1 hy]
  exact congrArg some (by omega)
theorem wM_28 (hP : va_P D vwCl (KW o e0 sz (esM51 ca sz)) H) : va_at D vwCl (adM o sz 28, EM (adM o sz) ca aMb 28) H := by
  have h1 := atM hP (i := 5278) (e := .inl (ca 2, 49, .inr (.inr (.inr (.inr (fun y => if y < 49 then some (sz + 5278 + 1 + y * 1) else none)))))) (preM28 (app_get (x := 0) lenM27 rfl))
  refine Eq.trans h1 (congrArg some (cell_q (fun y hy => ?_)))
  show (if y < 49 then _ else _) = some (adM o sz (5303 + y))
  unfold adM
  rw [if_pos hy, if_neg (show 5303 + y ≠ 0 by omega), ofM_cost_1 hy]
  exact congrArg some (by omega)
theorem wM_29 (hP : va_P D vwCl (KW o e0 sz (esM51 ca sz)) H) : va_at D vwCl (adM o sz 29, EM (adM o sz) ca aMb 29) H := atM hP (i := 5328) (e := .inl (ca 0, 18025, .inl (aMb 29))) (preM29 (app_get (x := 0) lenM28 rfl))
theorem wM_30 (hP : va_P D vwCl (KW o e0 sz (esM51 ca sz)) H) : va_at D vwCl (adM o sz 30, EM (adM o sz) ca aMb 30) H := atM hP (i := 5329) (e := .inl (ca 0, 18025, .inl (aMb 30))) (preM30 (app_get (x := 0) lenM29 rfl))
theorem wM_31 (hP : va_P D vwCl (KW o e0 sz (esM51 ca sz)) H) : va_at D vwCl (adM o sz 31, EM (adM o sz) ca aMb 31) H := atM hP (i := 5330) (e := .inl (ca 0, 18025, .inl (aMb 31))) (preM31 (app_get (x := 0) lenM30 rfl))
theorem wM_32 (hP : va_P D vwCl (KW o e0 sz (esM51 ca sz)) H) : va_at D vwCl (adM o sz 32, EM (adM o sz) ca aMb 32) H := atM hP (i := 5331) (e := .inl (ca 0, 60, .inl (aMb 32))) (preM32 (app_get (x := 0) lenM31 rfl))
theorem wM_33 (hP : va_P D vwCl (KW o e0 sz (esM51 ca sz)) H) : va_at D vwCl (adM o sz 33, EM (adM o sz) ca aMb 33) H := atM hP (i := 5332) (e := .inl (ca 0, 60, .inl (aMb 33))) (preM33 (app_get (x := 0) lenM32 rfl))
theorem wM_34 (hP : va_P D vwCl (KW o e0 sz (esM51 ca sz)) H) : va_at D vwCl (adM o sz 34, EM (adM o sz) ca aMb 34) H := atM hP (i := 5333) (e := .inl (ca 0, 60, .inl (aMb 34))) (preM34 (app_get (x := 0) lenM33 rfl))
theorem wM_35 (hP : va_P D vwCl (KW o e0 sz (esM51 ca sz)) H) : va_at D vwCl (adM o sz 35, EM (adM o sz) ca aMb 35) H := atM hP (i := 5334) (e := .inl (ca 0, 60, .inl (aMb 35))) (preM35 (app_get (x := 0) lenM34 rfl))
theorem wM_36 (hP : va_P D vwCl (KW o e0 sz (esM51 ca sz)) H) : va_at D vwCl (adM o sz 36, EM (adM o sz) ca aMb 36) H := atM hP (i := 5335) (e := .inl (ca 0, 24, .inl (aMb 36))) (preM36 (app_get (x := 0) lenM35 rfl))
theorem wM_37 (hP : va_P D vwCl (KW o e0 sz (esM51 ca sz)) H) : va_at D vwCl (adM o sz 37, EM (adM o sz) ca aMb 37) H := atM hP (i := 5336) (e := .inl (ca 0, 24, .inl (aMb 37))) (preM37 (app_get (x := 0) lenM36 rfl))
theorem wM_38 (hP : va_P D vwCl (KW o e0 sz (esM51 ca sz)) H) : va_at D vwCl (adM o sz 38, EM (adM o sz) ca aMb 38) H := atM hP (i := 5337) (e := .inl (ca 0, 40, .inl (aMb 38))) (preM38 (app_get (x := 0) lenM37 rfl))
theorem wM_39 (hP : va_P D vwCl (KW o e0 sz (esM51 ca sz)) H) : va_at D vwCl (adM o sz 39, EM (adM o sz) ca aMb 39) H := by
  have h1 := atM hP (i := 5338) (e := .inl (ca 2, 40, .inr (.inr (.inr (.inr (fun y => if y < 40 then some (sz + 5338 + 1 + y * 1) else none)))))) (preM39 (app_get (x := 0) lenM38 rfl))
  refine Eq.trans h1 (congrArg some (cell_q (fun y hy => ?_)))
  show (if y < 40 then _ else _) = some (adM o sz (5352 + y))
  unfold adM
  rw [if_pos hy, if_neg (show 5352 + y ≠ 0 by omega), ofM_choice_1 hy]
  exact congrArg some (by omega)
theorem wM_40 (hP : va_P D vwCl (KW o e0 sz (esM51 ca sz)) H) : va_at D vwCl (adM o sz 40, EM (adM o sz) ca aMb 40) H := by
  have h1 := atM hP (i := 5379) (e := .inl (ca 2, 40, .inr (.inr (.inr (.inr (fun y => if y < 40 then some (sz + 5379 + 1 + y * 1) else none)))))) (preM40 (app_get (x := 0) lenM39 rfl))
  refine Eq.trans h1 (congrArg some (cell_q (fun y hy => ?_)))
  show (if y < 40 then _ else _) = some (adM o sz (5392 + y))
  unfold adM
  rw [if_pos hy, if_neg (show 5392 + y ≠ 0 by omega), ofM_choiceAt_1 hy]
  exact congrArg some (by omega)
theorem wM_41 (hP : va_P D vwCl (KW o e0 sz (esM51 ca sz)) H) : va_at D vwCl (adM o sz 41, EM (adM o sz) ca aMb 41) H := by
  have h1 := atM hP (i := 5420) (e := .inl (ca 2, 41, .inr (.inr (.inr (.inr (fun y => if y < 41 then some (sz + 5420 + 1 + y * 1) else none)))))) (preM41 (app_get (x := 0) lenM40 rfl))
  refine Eq.trans h1 (congrArg some (cell_q (fun y hy => ?_)))
  show (if y < 41 then _ else _) = some (adM o sz (5432 + y))
  unfold adM
  rw [if_pos hy, if_neg (show 5432 + y ≠ 0 by omega), ofM_onFrom_1 hy]
  exact congrArg some (by omega)
theorem wM_42 (hP : va_P D vwCl (KW o e0 sz (esM51 ca sz)) H) : va_at D vwCl (adM o sz 42, EM (adM o sz) ca aMb 42) H := by
  have h1 := atM hP (i := 5462) (e := .inl (ca 2, 40, .inr (.inr (.inr (.inr (fun y => if y < 40 then some (sz + 5462 + 1 + y * 1) else none)))))) (preM42 (app_get (x := 0) lenM41 rfl))
  refine Eq.trans h1 (congrArg some (cell_q (fun y hy => ?_)))
  show (if y < 40 then _ else _) = some (adM o sz (5473 + y))
  unfold adM
  rw [if_pos hy, if_neg (show 5473 + y ≠ 0 by omega), ofM_chosen_1 hy]
  exact congrArg some (by omega)
theorem wM_43 (hP : va_P D vwCl (KW o e0 sz (esM51 ca sz)) H) : va_at D vwCl (adM o sz 43, EM (adM o sz) ca aMb 43) H := atM hP (i := 5503) (e := .inl (ca 0, 40, .inl (aMb 43))) (preM43 (app_get (x := 0) lenM42 rfl))
theorem wM_44 (hP : va_P D vwCl (KW o e0 sz (esM51 ca sz)) H) : va_at D vwCl (adM o sz 44, EM (adM o sz) ca aMb 44) H := atM hP (i := 5504) (e := .inl (ca 0, 40, .inl (aMb 44))) (preM44 (app_get (x := 0) lenM43 rfl))
theorem wM_45 (hP : va_P D vwCl (KW o e0 sz (esM51 ca sz)) H) : va_at D vwCl (adM o sz 45, EM (adM o sz) ca aMb 45) H := atM hP (i := 5505) (e := .inl (ca 0, 40, .inl (aMb 45))) (preM45 (app_get (x := 0) lenM44 rfl))
theorem wM_46 (hP : va_P D vwCl (KW o e0 sz (esM51 ca sz)) H) : va_at D vwCl (adM o sz 46, EM (adM o sz) ca aMb 46) H := atM hP (i := 5506) (e := .inl (ca 0, 40, .inl (aMb 46))) (preM46 (app_get (x := 0) lenM45 rfl))
theorem wM_47 (hP : va_P D vwCl (KW o e0 sz (esM51 ca sz)) H) : va_at D vwCl (adM o sz 47, EM (adM o sz) ca aMb 47) H := atM hP (i := 5507) (e := .inl (ca 0, 40, .inl (aMb 47))) (preM47 (app_get (x := 0) lenM46 rfl))
theorem wM_48 (hP : va_P D vwCl (KW o e0 sz (esM51 ca sz)) H) : va_at D vwCl (adM o sz 48, EM (adM o sz) ca aMb 48) H := atM hP (i := 5508) (e := .inl (ca 0, 42, .inl (aMb 48))) (preM48 (app_get (x := 0) lenM47 rfl))
theorem wM_49 (hP : va_P D vwCl (KW o e0 sz (esM51 ca sz)) H) : va_at D vwCl (adM o sz 49, EM (adM o sz) ca aMb 49) H := atM hP (i := 5509) (e := .inl (ca 1, 40, .inl (aMb 49))) (preM49 (app_get (x := 0) lenM48 rfl))
theorem wM_50 (hP : va_P D vwCl (KW o e0 sz (esM51 ca sz)) H) : va_at D vwCl (adM o sz 50, EM (adM o sz) ca aMb 50) H := atM hP (i := 5510) (e := .inl (ca 0, 2000, .inl (aMb 50))) (preM50 (app_get (x := 0) lenM49 rfl))
theorem wM_51 (hP : va_P D vwCl (KW o e0 sz (esM51 ca sz)) H) : va_at D vwCl (adM o sz 51, EM (adM o sz) ca aMb 51) H := atM hP (i := 5511) (e := .inl (ca 1, 40, .inl (aMb 51))) (preM51 (app_get (x := 0) lenM50 rfl))
end
