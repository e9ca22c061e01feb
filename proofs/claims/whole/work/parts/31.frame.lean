def rgC (q i : Nat) : Nat := if (q == 0 || q == 2 || q == 4 || q == 19 || q == 25 || q == 31 || q == 40 || q == 49 || q == 53 || q == 57 || q == 67 || q == 74 || q == 80 || q == 84 || q == 88) = true then 1000 + 100 * q + i else q
def rgM (q i : Nat) : Nat := if q = 0 then i else if q < 52 then 100 + q
  else if q < 113 then 200
  else if q < 115 then 201
  else if q < 155 then 202
  else if q < 157 then 203
  else if q < 197 then 204
  else if q < 199 then 205
  else if q < 201 then 206
  else if q < 203 then 207
  else if q < 205 then 208
  else if q < 285 then 209
  else if q < 2205 then 210
  else if q < 2207 then 211
  else if q < 2327 then 212
  else if q < 2375 then 213
  else if q < 2423 then 214
  else if q < 5303 then 215
  else if q < 5352 then 216
  else if q < 5392 then 217
  else if q < 5432 then 218
  else if q < 5473 then 219
  else if q < 5513 then 220
  else 300
theorem rgM_0 {q i : Nat} (h1 : 52 ≤ q) (h2 : q < 113) : rgM q i = 200 := by
  unfold rgM
  rw [if_neg (by omega), if_neg (by omega), if_pos h2]
theorem rgM_1 {q i : Nat} (h1 : 113 ≤ q) (h2 : q < 115) : rgM q i = 201 := by
  unfold rgM
  rw [if_neg (by omega), if_neg (by omega), if_neg (by omega), if_pos h2]
theorem rgM_2 {q i : Nat} (h1 : 115 ≤ q) (h2 : q < 155) : rgM q i = 202 := by
  unfold rgM
  rw [if_neg (by omega), if_neg (by omega), if_neg (by omega), if_neg (by omega), if_pos h2]
theorem rgM_3 {q i : Nat} (h1 : 155 ≤ q) (h2 : q < 157) : rgM q i = 203 := by
  unfold rgM
  rw [if_neg (by omega), if_neg (by omega), if_neg (by omega), if_neg (by omega), if_neg (by omega), if_pos h2]
theorem rgM_4 {q i : Nat} (h1 : 157 ≤ q) (h2 : q < 197) : rgM q i = 204 := by
  unfold rgM
  rw [if_neg (by omega), if_neg (by omega), if_neg (by omega), if_neg (by omega), if_neg (by omega), if_neg (by omega), if_pos h2]
theorem rgM_5 {q i : Nat} (h1 : 197 ≤ q) (h2 : q < 199) : rgM q i = 205 := by
  unfold rgM
  rw [if_neg (by omega), if_neg (by omega), if_neg (by omega), if_neg (by omega), if_neg (by omega), if_neg (by omega), if_neg (by omega), if_pos h2]
theorem rgM_6 {q i : Nat} (h1 : 199 ≤ q) (h2 : q < 201) : rgM q i = 206 := by
  unfold rgM
  rw [if_neg (by omega), if_neg (by omega), if_neg (by omega), if_neg (by omega), if_neg (by omega), if_neg (by omega), if_neg (by omega), if_neg (by omega), if_pos h2]
theorem rgM_7 {q i : Nat} (h1 : 201 ≤ q) (h2 : q < 203) : rgM q i = 207 := by
  unfold rgM
  rw [if_neg (by omega), if_neg (by omega), if_neg (by omega), if_neg (by omega), if_neg (by omega), if_neg (by omega), if_neg (by omega), if_neg (by omega), if_neg (by omega), if_pos h2]
theorem rgM_8 {q i : Nat} (h1 : 203 ≤ q) (h2 : q < 205) : rgM q i = 208 := by
  unfold rgM
  rw [if_neg (by omega), if_neg (by omega), if_neg (by omega), if_neg (by omega), if_neg (by omega), if_neg (by omega), if_neg (by omega), if_neg (by omega), if_neg (by omega), if_neg (by omega), if_pos h2]
theorem rgM_9 {q i : Nat} (h1 : 205 ≤ q) (h2 : q < 285) : rgM q i = 209 := by
  unfold rgM
  rw [if_neg (by omega), if_neg (by omega), if_neg (by omega), if_neg (by omega), if_neg (by omega), if_neg (by omega), if_neg (by omega), if_neg (by omega), if_neg (by omega), if_neg (by omega), if_neg (by omega), if_pos h2]
theorem rgM_10 {q i : Nat} (h1 : 285 ≤ q) (h2 : q < 2205) : rgM q i = 210 := by
  unfold rgM
  rw [if_neg (by omega), if_neg (by omega), if_neg (by omega), if_neg (by omega), if_neg (by omega), if_neg (by omega), if_neg (by omega), if_neg (by omega), if_neg (by omega), if_neg (by omega), if_neg (by omega), if_neg (by omega), if_pos h2]
theorem rgM_11 {q i : Nat} (h1 : 2205 ≤ q) (h2 : q < 2207) : rgM q i = 211 := by
  unfold rgM
  rw [if_neg (by omega), if_neg (by omega), if_neg (by omega), if_neg (by omega), if_neg (by omega), if_neg (by omega), if_neg (by omega), if_neg (by omega), if_neg (by omega), if_neg (by omega), if_neg (by omega), if_neg (by omega), if_neg (by omega), if_pos h2]
theorem rgM_12 {q i : Nat} (h1 : 2207 ≤ q) (h2 : q < 2327) : rgM q i = 212 := by
  unfold rgM
  rw [if_neg (by omega), if_neg (by omega), if_neg (by omega), if_neg (by omega), if_neg (by omega), if_neg (by omega), if_neg (by omega), if_neg (by omega), if_neg (by omega), if_neg (by omega), if_neg (by omega), if_neg (by omega), if_neg (by omega), if_neg (by omega), if_pos h2]
theorem rgM_13 {q i : Nat} (h1 : 2327 ≤ q) (h2 : q < 2375) : rgM q i = 213 := by
  unfold rgM
  rw [if_neg (by omega), if_neg (by omega), if_neg (by omega), if_neg (by omega), if_neg (by omega), if_neg (by omega), if_neg (by omega), if_neg (by omega), if_neg (by omega), if_neg (by omega), if_neg (by omega), if_neg (by omega), if_neg (by omega), if_neg (by omega), if_neg (by omega), if_pos h2]
theorem rgM_14 {q i : Nat} (h1 : 2375 ≤ q) (h2 : q < 2423) : rgM q i = 214 := by
  unfold rgM
  rw [if_neg (by omega), if_neg (by omega), if_neg (by omega), if_neg (by omega), if_neg (by omega), if_neg (by omega), if_neg (by omega), if_neg (by omega), if_neg (by omega), if_neg (by omega), if_neg (by omega), if_neg (by omega), if_neg (by omega), if_neg (by omega), if_neg (by omega), if_neg (by omega), if_pos h2]
theorem rgM_15 {q i : Nat} (h1 : 2423 ≤ q) (h2 : q < 5303) : rgM q i = 215 := by
  unfold rgM
  rw [if_neg (by omega), if_neg (by omega), if_neg (by omega), if_neg (by omega), if_neg (by omega), if_neg (by omega), if_neg (by omega), if_neg (by omega), if_neg (by omega), if_neg (by omega), if_neg (by omega), if_neg (by omega), if_neg (by omega), if_neg (by omega), if_neg (by omega), if_neg (by omega), if_neg (by omega), if_pos h2]
theorem rgM_16 {q i : Nat} (h1 : 5303 ≤ q) (h2 : q < 5352) : rgM q i = 216 := by
  unfold rgM
  rw [if_neg (by omega), if_neg (by omega), if_neg (by omega), if_neg (by omega), if_neg (by omega), if_neg (by omega), if_neg (by omega), if_neg (by omega), if_neg (by omega), if_neg (by omega), if_neg (by omega), if_neg (by omega), if_neg (by omega), if_neg (by omega), if_neg (by omega), if_neg (by omega), if_neg (by omega), if_neg (by omega), if_pos h2]
theorem rgM_17 {q i : Nat} (h1 : 5352 ≤ q) (h2 : q < 5392) : rgM q i = 217 := by
  unfold rgM
  rw [if_neg (by omega), if_neg (by omega), if_neg (by omega), if_neg (by omega), if_neg (by omega), if_neg (by omega), if_neg (by omega), if_neg (by omega), if_neg (by omega), if_neg (by omega), if_neg (by omega), if_neg (by omega), if_neg (by omega), if_neg (by omega), if_neg (by omega), if_neg (by omega), if_neg (by omega), if_neg (by omega), if_neg (by omega), if_pos h2]
theorem rgM_18 {q i : Nat} (h1 : 5392 ≤ q) (h2 : q < 5432) : rgM q i = 218 := by
  unfold rgM
  rw [if_neg (by omega), if_neg (by omega), if_neg (by omega), if_neg (by omega), if_neg (by omega), if_neg (by omega), if_neg (by omega), if_neg (by omega), if_neg (by omega), if_neg (by omega), if_neg (by omega), if_neg (by omega), if_neg (by omega), if_neg (by omega), if_neg (by omega), if_neg (by omega), if_neg (by omega), if_neg (by omega), if_neg (by omega), if_neg (by omega), if_pos h2]
theorem rgM_19 {q i : Nat} (h1 : 5432 ≤ q) (h2 : q < 5473) : rgM q i = 219 := by
  unfold rgM
  rw [if_neg (by omega), if_neg (by omega), if_neg (by omega), if_neg (by omega), if_neg (by omega), if_neg (by omega), if_neg (by omega), if_neg (by omega), if_neg (by omega), if_neg (by omega), if_neg (by omega), if_neg (by omega), if_neg (by omega), if_neg (by omega), if_neg (by omega), if_neg (by omega), if_neg (by omega), if_neg (by omega), if_neg (by omega), if_neg (by omega), if_neg (by omega), if_pos h2]
theorem rgM_20 {q i : Nat} (h1 : 5473 ≤ q) (h2 : q < 5513) : rgM q i = 220 := by
  unfold rgM
  rw [if_neg (by omega), if_neg (by omega), if_neg (by omega), if_neg (by omega), if_neg (by omega), if_neg (by omega), if_neg (by omega), if_neg (by omega), if_neg (by omega), if_neg (by omega), if_neg (by omega), if_neg (by omega), if_neg (by omega), if_neg (by omega), if_neg (by omega), if_neg (by omega), if_neg (by omega), if_neg (by omega), if_neg (by omega), if_neg (by omega), if_neg (by omega), if_neg (by omega), if_pos h2]
/-- b is a but in the regions of L -/
def Fr (rg : Nat → Nat → Nat) (L : List Nat) (a b : AH) : Prop := ∀ q i, L.elem (rg q i) = false → b q i = a q i
abbrev hpV : AH → AH := fun a => a
abbrev hpI : Int32 × AH → AH := fun a => a.2
abbrev hpX : XR → AH := fun a => a.2.2
def Sf {α : Type} (hp : α → AH) (rg : Nat → Nat → Nat) (L : List Nat) (a0 : AH) (x : Option α) : Prop := ∀ o, x = some o → Fr rg L a0 (hp o)
def subL (a b : List Nat) : Bool := a.all fun x => b.elem x
theorem Fr.rf {rg : Nat → Nat → Nat} {L : List Nat} {a : AH} : Fr rg L a a := fun _ _ _ => rfl
theorem Fr.tr {rg : Nat → Nat → Nat} {L L' : List Nat} {a b c : AH} (h1 : Fr rg L a b) (h2 : Fr rg L' b c) (hs : subL L' L = true) : Fr rg L a c := by
  intro q i h
  rw [h2 q i, h1 q i h]
  cases hq : L'.elem (rg q i) with
  | false => rfl
  | true =>
    have h3 := List.all_eq_true.mp hs _ (List.elem_iff.mp hq)
    have h4 : L.elem (rg q i) = true := h3
    rw [h] at h4
    cases h4
theorem Fr.xu {rg : Nat → Nat → Nat} {L : List Nat} {a b : AH} {K I : Nat} {v : Int32} (h : Fr rg L a b) (hm : L.elem (rg K I) = true) : Fr rg L a (xu b K I v) := by
  intro q i hq
  by_cases hc : q = K ∧ i = I
  · obtain ⟨rfl, rfl⟩ := hc
    rw [hm] at hq
    cases hq
  · rw [xu_ne hc]
    exact h q i hq
section
variable {α : Type} {hp : α → AH} {rg : Nat → Nat → Nat} {L : List Nat} {a0 : AH}
theorem Sf.none : Sf hp rg L a0 (none : Option α) := fun o h => by cases h
theorem Sf.ret {o : α} (h : Fr rg L a0 (hp o)) : Sf hp rg L a0 (some o) := fun o' h' => by cases h'; exact h
theorem Sf.let_v {β : Type} {e : β} {f : β → Option α} (h : ∀ v, Sf hp rg L a0 (f v)) : Sf hp rg L a0 (xlet e f) := h e
theorem Sf.let_c {β : Type} {e : β} {f : β → Option α} (h : Sf hp rg L a0 (f e)) : Sf hp rg L a0 (xlet e f) := h
theorem Sf.let_xu {b : AH} {K I : Nat} {v : Int32} {f : AH → Option α} (hb : Fr rg L a0 b) (hm : L.elem (rg K I) = true) (h : ∀ b', Fr rg L a0 b' → Sf hp rg L a0 (f b')) : Sf hp rg L a0 (xlet (xu b K I v) f) := h _ (hb.xu hm)
theorem Sf.g {i : Int32} {n : Nat} {B : Option α} (h : i.toNatClampNeg < n → Sf hp rg L a0 B) : Sf hp rg L a0 (xg i n B) := fun o ho => by
  obtain ⟨h1, h2⟩ := xg_some ho
  exact h (by have h3 : ¬ (i < 0 ∨ n ≤ i.toNatClampNeg) := h1; exact Nat.lt_of_not_le (fun q => h3 (Or.inr q))) o h2
theorem Sf.z {d : Int32} {B : Option α} (h : Sf hp rg L a0 B) : Sf hp rg L a0 (xz d B) := fun o ho => h o (xz_some ho).2
theorem Sf.bo {d : Int32} {B : Option α} (h : Sf hp rg L a0 B) : Sf hp rg L a0 (xbo d B) := fun o ho => h o (xbo_some ho).2
theorem Sf.ite {c : Prop} [Decidable c] {A B : Option α} (h1 : Sf hp rg L a0 A) (h2 : Sf hp rg L a0 B) : Sf hp rg L a0 (if c then A else B) := by
  by_cases h : c
  · rw [if_pos h]; exact h1
  · rw [if_neg h]; exact h2
theorem Sf.b {L' : List Nat} {a1 : AH} {x : Option (Int32 × AH)} {f : Int32 → AH → Option α} (hx : Sf hpI rg L' a1 x) (h1 : Fr rg L a0 a1) (hs : subL L' L = true) (h : ∀ r b, Fr rg L a0 b → Sf hp rg L a0 (f r b)) : Sf hp rg L a0 (xb x f) := fun o ho => by
  obtain ⟨r, b, e1, e2⟩ := xb_some ho
  exact h r b (h1.tr (hx _ e1) hs) o e2
theorem Sf.bv {L' : List Nat} {a1 : AH} {x : Option AH} {f : AH → Option α} (hx : Sf hpV rg L' a1 x) (h1 : Fr rg L a0 a1) (hs : subL L' L = true) (h : ∀ b, Fr rg L a0 b → Sf hp rg L a0 (f b)) : Sf hp rg L a0 (xbv x f) := fun o ho => by
  obtain ⟨b, e1, e2⟩ := xbv_some ho
  exact h b (h1.tr (hx _ e1) hs) o e2
theorem Sf.bx {L' : List Nat} {a1 : AH} {x : Option XR} {f : AH → Option XR} (hx : Sf hpX rg L' a1 x) (h1 : Fr rg L a0 a1) (hs : subL L' L = true) (h : ∀ b, Fr rg L a0 b → Sf hpX rg L a0 (f b)) : Sf hpX rg L a0 (xbx x f) := fun o ho => by
  obtain ⟨k, r, b, e1, e2⟩ := xbx_some ho
  have hb := h1.tr (hx _ e1) hs
  by_cases hk : k = 0
  · rw [if_pos hk] at e2; exact h b hb o e2
  · rw [if_neg hk] at e2; cases e2; exact hb
end
