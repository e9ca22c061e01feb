/-- a heap of whole numbers: cell, place -/
abbrev IH : Type := Int → Int → Int
abbrev YR : Type := Nat × Int × IH
/-- one number written -/
def xv (h : IH) (k i v : Int) : IH := fun a b => if a = k ∧ b = i then v else h a b
/-- as the machine's int wraps -/
def wr (e : Int) : Int := Int.bmod e 4294967296
theorem wr_in {e : Int} (h1 : -2147483648 ≤ e) (h2 : e < 2147483648) : wr e = e := Int.bmod_eq_of_le (by omega) (by omega)
theorem wr_R {e : Int} : zR (wr e) := by
  unfold wr zR
  have h1 := Int.le_bmod (x := e) (m := 4294967296) (by decide)
  have h2 := Int.bmod_lt (x := e) (m := 4294967296) (by decide)
  omega
theorem zRd {z : Int} (h : decide (-2147483648 ≤ z ∧ z < 2147483648) = true) : zR z := by
  have q : -2147483648 ≤ z ∧ z < 2147483648 := of_decide_eq_true h
  exact q
/-- an index within its row -/
def xq {α : Type} (i n : Int) (B : Option α) : Option α := if 0 ≤ i ∧ i < n then B else none
def ybo {α : Type} (v : Int) (B : Option α) : Option α := if v = 0 ∨ v = 1 then B else none
def yb {α : Type} (x : Option (Int × IH)) (f : Int → IH → Option α) : Option α := match x with
  | none => none
  | some q => f q.1 q.2
def ybv {α : Type} (x : Option IH) (f : IH → Option α) : Option α := match x with
  | none => none
  | some q => f q
def ybx (x : Option YR) (f : IH → Option YR) : Option YR := match x with
  | none => none
  | some q => if q.1 = 0 then f q.2.2 else some (q.1, 0, q.2.2)
def yand (a b : Int) : Int := (zI a &&& zI b).toInt
def yor (a b : Int) : Int := (zI a ||| zI b).toInt
def yshl (a b : Int) : Int := (zI a <<< zI b).toInt
def yshr (a b : Int) : Int := (zI a >>> zI b).toInt
def yushr (a b : Int) : Int := (xushr (zI a) (zI b)).toInt
def ynar (v : Int) : Int := (vp_nar .boolean (zI v)).toInt
def yhcv (p : Int) : Int := if p = 0 then 999 else 99
theorem yand_R {a b : Int} : zR (yand a b) := zR_of _
theorem yor_R {a b : Int} : zR (yor a b) := zR_of _
theorem yshl_R {a b : Int} : zR (yshl a b) := zR_of _
theorem yshr_R {a b : Int} : zR (yshr a b) := zR_of _
theorem yushr_R {a b : Int} : zR (yushr a b) := zR_of _
theorem ynar_R {a : Int} : zR (ynar a) := zR_of _
theorem yhcv_R {a : Int} : zR (yhcv a) := by
  unfold yhcv zR
  by_cases h : a = 0
  · rw [if_pos h]; omega
  · rw [if_neg h]; omega
theorem min_R {a b : Int} (ha : zR a) (hb : zR b) : zR (min a b) := by unfold zR at *; omega
theorem max_R {a b : Int} (ha : zR a) (hb : zR b) : zR (max a b) := by unfold zR at *; omega
theorem tdiv_R {a b : Int} (ha : zR a) (hb : 0 < b ∧ b < 2147483648) : zR (Int.tdiv a b) := by
  unfold zR at *
  rcases Int.le_total 0 a with h | h
  · have h1 := Int.tdiv_nonneg h (Int.le_of_lt hb.1)
    have h2 := Int.tdiv_le_self b h
    omega
  · have e : Int.tdiv a b = - Int.tdiv (-a) b := by rw [Int.neg_tdiv, Int.neg_neg]
    have h1 := Int.tdiv_nonneg (show 0 ≤ -a by omega) (Int.le_of_lt hb.1)
    have h2 := Int.tdiv_le_self b (show 0 ≤ -a by omega)
    omega
/-- the machine's heap -/
def zh (h : IH) : AH := fun k i => zI (h (k : Int) (i : Int))
/-- all numbers fit -/
def HR (h : IH) : Prop := ∀ k i, zR (h k i)
def rhoV (h : IH) (a : AH) : Prop := a = zh h ∧ HR h
def rhoI (o : Int × IH) (q : Int32 × AH) : Prop := q = (zI o.1, zh o.2) ∧ zR o.1 ∧ HR o.2
def rhoX (o : YR) (q : XR) : Prop := q = (o.1, zI o.2.1, zh o.2.2) ∧ zR o.2.1 ∧ HR o.2.2
def Lg {α β : Type} (ρ : α → β → Prop) (g : Option α) (f : Option β) : Prop := ∀ o, g = some o → ∃ q, f = some q ∧ ρ o q
abbrev LfV (g : Option IH) (f : Option AH) : Prop := Lg rhoV g f
abbrev LfI (g : Option (Int × IH)) (f : Option (Int32 × AH)) : Prop := Lg rhoI g f
abbrev LfX (g : Option YR) (f : Option XR) : Prop := Lg rhoX g f
theorem HR.wv {h : IH} {k i v : Int} (hh : HR h) (hv : zR v) : HR (xv h k i v) := by
  intro a b
  unfold xv
  by_cases c : a = k ∧ b = i
  · rw [if_pos c]; exact hv
  · rw [if_neg c]; exact hh a b
theorem zwr {x : Int32} {e : Int} (h : x = zI e) : x = zI (wr e) := by
  subst h
  apply Int32.toInt.inj
  rw [zI_toInt wr_R]
  unfold zI wr
  rw [Int32.toInt_ofInt]
theorem zadd {x y : Int32} {a b : Int} (h1 : x = zI a) (h2 : y = zI b) : x + y = zI (a + b) := by subst h1; subst h2; exact zI_add a b
theorem zsub {x y : Int32} {a b : Int} (h1 : x = zI a) (h2 : y = zI b) : x - y = zI (a - b) := by subst h1; subst h2; exact zI_sub a b
theorem zmul {x y : Int32} {a b : Int} (h1 : x = zI a) (h2 : y = zI b) : x * y = zI (a * b) := by subst h1; subst h2; exact zI_mul a b
theorem zdiv {x y : Int32} {a b : Int} (h1 : x = zI a) (h2 : y = zI b) (ha : zR a) (hb : 0 < b ∧ b < 2147483648) : x / y = zI (Int.tdiv a b) := by
  subst h1; subst h2
  have hq := tdiv_R ha hb
  apply Int32.toInt.inj
  rw [Int32.toInt_div, zI_toInt ha, zI_toInt (show zR b by unfold zR; omega), zI_toInt hq]
  exact Int.bmod_eq_of_le (by have := hq.1; omega) (by have := hq.2; omega)
theorem zand {x y : Int32} {a b : Int} (h1 : x = zI a) (h2 : y = zI b) : x &&& y = zI (yand a b) := by subst h1; subst h2; exact (zI_of _).symm
theorem zor {x y : Int32} {a b : Int} (h1 : x = zI a) (h2 : y = zI b) : x ||| y = zI (yor a b) := by subst h1; subst h2; exact (zI_of _).symm
theorem zshl {x y : Int32} {a b : Int} (h1 : x = zI a) (h2 : y = zI b) : x <<< y = zI (yshl a b) := by subst h1; subst h2; exact (zI_of _).symm
theorem zshr {x y : Int32} {a b : Int} (h1 : x = zI a) (h2 : y = zI b) : x >>> y = zI (yshr a b) := by subst h1; subst h2; exact (zI_of _).symm
theorem zushr {x y : Int32} {a b : Int} (h1 : x = zI a) (h2 : y = zI b) : xushr x y = zI (yushr a b) := by subst h1; subst h2; exact (zI_of _).symm
theorem znar {x : Int32} {a : Int} (h1 : x = zI a) : vp_nar .boolean x = zI (ynar a) := by subst h1; exact (zI_of _).symm
theorem zmin {x y : Int32} {a b : Int} (h1 : x = zI a) (h2 : y = zI b) (ha : zR a) (hb : zR b) : xmin x y = zI (min a b) := by
  subst h1; subst h2
  unfold xmin
  simp only [zt_lt hb ha]
  by_cases h : b < a
  · rw [if_pos h, Int.min_eq_right (by omega)]
  · rw [if_neg h, Int.min_eq_left (by omega)]
theorem zmax {x y : Int32} {a b : Int} (h1 : x = zI a) (h2 : y = zI b) (ha : zR a) (hb : zR b) : xmax x y = zI (max a b) := by
  subst h1; subst h2
  unfold xmax
  simp only [zt_lt ha hb]
  by_cases h : a < b
  · rw [if_pos h, Int.max_eq_right (by omega)]
  · rw [if_neg h, Int.max_eq_left (by omega)]
theorem zix {x : Int32} {e : Int} (hx : x = zI e) (hg : 0 ≤ e ∧ e < 2147483648) : ((x.toNatClampNeg : Nat) : Int) = e := by
  subst hx
  rw [zI_nat (show zR e by unfold zR; omega)]
  omega
theorem zlk {a : IH} {c : Nat} {x : Int32} {e : Int} (hx : x = zI e) (hg : 0 ≤ e ∧ e < 2147483648) : zh a c x.toNatClampNeg = zI (a (c : Int) e) := by
  unfold zh
  rw [zix hx hg]
theorem zhcv {x : Int32} {e : Int} (hx : x = zI e) (hg : 0 ≤ e ∧ e < 2147483648) : hcv x.toNatClampNeg = zI (yhcv e) := by
  have h := zix hx hg
  unfold hcv yhcv
  by_cases c : e = 0
  · rw [if_pos c, if_pos (by omega)]; rfl
  · rw [if_neg c, if_neg (by omega)]; rfl
theorem cadd {a b : Nat} {x y : Int} (h1 : (a : Int) = x) (h2 : (b : Int) = y) : ((a + b : Nat) : Int) = x + y := by omega
theorem cmul {a b : Nat} {x y : Int} (h1 : (a : Int) = x) (h2 : (b : Int) = y) : ((a * b : Nat) : Int) = x * y := by subst h1; subst h2; exact Int.natCast_mul a b
section
variable {α β : Type} {ρ : α → β → Prop}
theorem Lg.none {f : Option β} : Lg ρ none f := fun o h => by cases h
theorem LgV.ret {h : IH} (hh : HR h) : Lg rhoV (some h) (some (zh h)) := fun o e => by cases e; exact ⟨_, rfl, rfl, hh⟩
theorem LgI.ret {h : IH} {x : Int32} {e : Int} (hx : x = zI e) (hr : zR e) (hh : HR h) : Lg rhoI (some (e, h)) (some (x, zh h)) := fun o q => by cases q; subst hx; exact ⟨_, rfl, rfl, hr, hh⟩
theorem LgX.ret {h : IH} {k : Nat} {x : Int32} {e : Int} (hx : x = zI e) (hr : zR e) (hh : HR h) : Lg rhoX (some (k, e, h)) (some (k, x, zh h)) := fun o q => by cases q; subst hx; exact ⟨_, rfl, rfl, hr, hh⟩
theorem Lg.letv {x : Int32} {e : Int} {g : Int → Option α} {f : Int32 → Option β} (hx : x = zI e) (hr : zR e) (h : ∀ v, zR v → Lg ρ (g v) (f (zI v))) : Lg ρ (xlet e g) (xlet x f) := by subst hx; exact h e hr
theorem Lg.letc {x : Nat} {e : Int} {g : Int → Option α} {f : Nat → Option β} (hx : (x : Int) = e) (h : ∀ y : Nat, Lg ρ (g (y : Int)) (f y)) : Lg ρ (xlet e g) (xlet x f) := by subst hx; exact h x
theorem Lg.wrt {h : IH} {k i : Nat} {K I : Int} {x : Int32} {e : Int} {g : IH → Option α} {f : AH → Option β} (hh : HR h) (hk : (k : Int) = K) (hi : (i : Int) = I) (hx : x = zI e) (hr : zR e) (q : ∀ b, HR b → Lg ρ (g b) (f (zh b))) : Lg ρ (xlet (xv h K I e) g) (xlet (xu (zh h) k i x) f) := by
  have e1 : xu (zh h) k i x = zh (xv h K I e) := by
    funext a b
    unfold zh xu xv
    by_cases c : a = k ∧ b = i
    · rw [if_pos c, if_pos (by omega), hx]
    · rw [if_neg c, if_neg (by omega)]
  show Lg ρ (g (xv h K I e)) (f (xu (zh h) k i x))
  rw [e1]
  exact q _ (hh.wv hr)
theorem Lg.ite {c d : Prop} [Decidable c] [Decidable d] {A B : Option α} {A' B' : Option β} (e : d ↔ c) (h1 : Lg ρ A A') (h2 : Lg ρ B B') : Lg ρ (if c then A else B) (if d then A' else B') := by
  by_cases hc : c
  · rw [if_pos hc, if_pos (e.mpr hc)]; exact h1
  · rw [if_neg hc, if_neg (fun q => hc (e.mp q))]; exact h2
theorem Lg.lt {x y : Int32} {a b : Int} {A B : Option α} {A' B' : Option β} (hx : x = zI a) (hy : y = zI b) (ha : zR a) (hb : zR b) (h1 : Lg ρ A A') (h2 : Lg ρ B B') : Lg ρ (if a < b then A else B) (if x < y then A' else B') := Lg.ite (z_lt hx hy ha hb) h1 h2
theorem Lg.le {x y : Int32} {a b : Int} {A B : Option α} {A' B' : Option β} (hx : x = zI a) (hy : y = zI b) (ha : zR a) (hb : zR b) (h1 : Lg ρ A A') (h2 : Lg ρ B B') : Lg ρ (if a ≤ b then A else B) (if x ≤ y then A' else B') := Lg.ite (z_le hx hy ha hb) h1 h2
theorem Lg.eq {x y : Int32} {a b : Int} {A B : Option α} {A' B' : Option β} (hx : x = zI a) (hy : y = zI b) (ha : zR a) (hb : zR b) (h1 : Lg ρ A A') (h2 : Lg ρ B B') : Lg ρ (if a = b then A else B) (if x = y then A' else B') := Lg.ite (z_eq hx hy ha hb) h1 h2
theorem Lg.g {x : Int32} {e m : Int} {n : Nat} {B : Option α} {B' : Option β} (hx : x = zI e) (hm : m = (n : Int)) (hn : n < 2147483648) (h : (0 ≤ e ∧ e < 2147483648) → Lg ρ B B') : Lg ρ (xq e m B) (xg x n B') := by
  unfold xq
  by_cases c : 0 ≤ e ∧ e < m
  · rw [if_pos c]
    have g : 0 ≤ e ∧ e < 2147483648 := by omega
    have h1 := zix hx g
    have h2 : ¬ x < 0 := by
      rw [z_lt hx (show (0 : Int32) = zI 0 from rfl) (by unfold zR; omega) (by unfold zR; omega)]
      omega
    unfold xg
    rw [if_neg (by intro q; rcases q with q | q; exact h2 q; omega)]
    exact h g
  · rw [if_neg c]; exact Lg.none
theorem Lg.z {d : Int32} {g : Option α} {B' : Option β} (hd : d ≠ 0) (h : Lg ρ g B') : Lg ρ g (xz d B') := by unfold xz; rw [if_neg hd]; exact h
theorem Lg.bo {x : Int32} {e : Int} {B : Option α} {B' : Option β} (hx : x = zI e) (h : Lg ρ B B') : Lg ρ (ybo e B) (xbo x B') := by
  unfold ybo xbo
  by_cases c : e = 0 ∨ e = 1
  · rw [if_pos c, if_pos (by subst hx; rcases c with c | c <;> subst c; exact Or.inl rfl; exact Or.inr rfl)]
    exact h
  · rw [if_neg c]; exact Lg.none
theorem Lg.b {c : Option (Int × IH)} {c' : Option (Int32 × AH)} {g : Int → IH → Option α} {f : Int32 → AH → Option β} (hc : Lg rhoI c c') (h : ∀ r a, zR r → HR a → Lg ρ (g r a) (f (zI r) (zh a))) : Lg ρ (yb c g) (xb c' f) := by
  cases c with
  | none => exact Lg.none
  | some o =>
    obtain ⟨q, e1, e2, e3, e4⟩ := hc o rfl
    subst e1; subst e2
    exact h _ _ e3 e4
theorem Lg.bv {c : Option IH} {c' : Option AH} {g : IH → Option α} {f : AH → Option β} (hc : Lg rhoV c c') (h : ∀ a, HR a → Lg ρ (g a) (f (zh a))) : Lg ρ (ybv c g) (xbv c' f) := by
  cases c with
  | none => exact Lg.none
  | some o =>
    obtain ⟨q, e1, e2, e3⟩ := hc o rfl
    subst e1; subst e2
    exact h _ e3
theorem Lg.bx {c : Option YR} {c' : Option XR} {g : IH → Option YR} {f : AH → Option XR} (hc : Lg rhoX c c') (h : ∀ a, HR a → Lg rhoX (g a) (f (zh a))) : Lg rhoX (ybx c g) (xbx c' f) := by
  cases c with
  | none => exact Lg.none
  | some o =>
    obtain ⟨q, e1, e2, e3, e4⟩ := hc o rfl
    subst e1; subst e2
    show Lg rhoX (if o.1 = 0 then g o.2.2 else some (o.1, 0, o.2.2)) (if o.1 = 0 then f (zh o.2.2) else some (o.1, 0, zh o.2.2))
    by_cases k : o.1 = 0
    · rw [if_pos k, if_pos k]; exact h _ e4
    · rw [if_neg k, if_neg k]; exact LgX.ret rfl (zRd rfl) e4
end
/-- b is a but in the regions of L -/
def Fg (rg : Nat → Nat → Nat) (L : List Nat) (a b : IH) : Prop := ∀ q i : Int, L.elem (rg q.toNat i.toNat) = false → b q i = a q i
abbrev gpV : IH → IH := fun a => a
abbrev gpI : Int × IH → IH := fun a => a.2
abbrev gpX : YR → IH := fun a => a.2.2
def Sg {α : Type} (hp : α → IH) (rg : Nat → Nat → Nat) (L : List Nat) (a0 : IH) (x : Option α) : Prop := ∀ o, x = some o → Fg rg L a0 (hp o)
theorem Fg.rf {rg : Nat → Nat → Nat} {L : List Nat} {a : IH} : Fg rg L a a := fun _ _ _ => rfl
theorem Fg.tr {rg : Nat → Nat → Nat} {L L' : List Nat} {a b c : IH} (h1 : Fg rg L a b) (h2 : Fg rg L' b c) (hs : subL L' L = true) : Fg rg L a c := by
  intro q i h
  rw [h2 q i, h1 q i h]
  cases hq : L'.elem (rg q.toNat i.toNat) with
  | false => rfl
  | true =>
    have h3 := List.all_eq_true.mp hs _ (List.elem_iff.mp hq)
    have h4 : L.elem (rg q.toNat i.toNat) = true := h3
    rw [h] at h4
    cases h4
theorem Fg.wv {rg : Nat → Nat → Nat} {L : List Nat} {a b : IH} {K I v : Int} (h : Fg rg L a b) (hm : L.elem (rg K.toNat I.toNat) = true) : Fg rg L a (xv b K I v) := by
  intro q i hq
  unfold xv
  by_cases hc : q = K ∧ i = I
  · obtain ⟨rfl, rfl⟩ := hc
    rw [hm] at hq
    cases hq
  · rw [if_neg hc]
    exact h q i hq
section
variable {α : Type} {hp : α → IH} {rg : Nat → Nat → Nat} {L : List Nat} {a0 : IH}
theorem Sg.none : Sg hp rg L a0 (none : Option α) := fun o h => by cases h
theorem Sg.ret {o : α} (h : Fg rg L a0 (hp o)) : Sg hp rg L a0 (some o) := fun o' h' => by cases h'; exact h
theorem Sg.let_v {β : Type} {e : β} {f : β → Option α} (h : ∀ v, Sg hp rg L a0 (f v)) : Sg hp rg L a0 (xlet e f) := h e
theorem Sg.let_c {β : Type} {e : β} {f : β → Option α} (h : Sg hp rg L a0 (f e)) : Sg hp rg L a0 (xlet e f) := h
theorem Sg.let_xu {b : IH} {K I v : Int} {f : IH → Option α} (hb : Fg rg L a0 b) (hm : L.elem (rg K.toNat I.toNat) = true) (h : ∀ b', Fg rg L a0 b' → Sg hp rg L a0 (f b')) : Sg hp rg L a0 (xlet (xv b K I v) f) := h _ (hb.wv hm)
theorem Sg.g {i n : Int} {B : Option α} (h : (0 ≤ i ∧ i < n) → Sg hp rg L a0 B) : Sg hp rg L a0 (xq i n B) := fun o ho => by
  unfold xq at ho
  by_cases c : 0 ≤ i ∧ i < n
  · rw [if_pos c] at ho; exact h c o ho
  · rw [if_neg c] at ho; cases ho
theorem Sg.bo {d : Int} {B : Option α} (h : Sg hp rg L a0 B) : Sg hp rg L a0 (ybo d B) := fun o ho => by
  unfold ybo at ho
  by_cases c : d = 0 ∨ d = 1
  · rw [if_pos c] at ho; exact h o ho
  · rw [if_neg c] at ho; cases ho
theorem Sg.ite {c : Prop} [Decidable c] {A B : Option α} (h1 : Sg hp rg L a0 A) (h2 : Sg hp rg L a0 B) : Sg hp rg L a0 (if c then A else B) := by
  by_cases h : c
  · rw [if_pos h]; exact h1
  · rw [if_neg h]; exact h2
theorem Sg.b {L' : List Nat} {a1 : IH} {x : Option (Int × IH)} {f : Int → IH → Option α} (hx : Sg gpI rg L' a1 x) (h1 : Fg rg L a0 a1) (hs : subL L' L = true) (h : ∀ r b, Fg rg L a0 b → Sg hp rg L a0 (f r b)) : Sg hp rg L a0 (yb x f) := fun o ho => by
  cases x with
  | none => cases ho
  | some q => exact h q.1 q.2 (h1.tr (hx _ rfl) hs) o ho
theorem Sg.bv {L' : List Nat} {a1 : IH} {x : Option IH} {f : IH → Option α} (hx : Sg gpV rg L' a1 x) (h1 : Fg rg L a0 a1) (hs : subL L' L = true) (h : ∀ b, Fg rg L a0 b → Sg hp rg L a0 (f b)) : Sg hp rg L a0 (ybv x f) := fun o ho => by
  cases x with
  | none => cases ho
  | some q => exact h q (h1.tr (hx _ rfl) hs) o ho
theorem Sg.bx {L' : List Nat} {a1 : IH} {x : Option YR} {f : IH → Option YR} (hx : Sg gpX rg L' a1 x) (h1 : Fg rg L a0 a1) (hs : subL L' L = true) (h : ∀ b, Fg rg L a0 b → Sg gpX rg L a0 (f b)) : Sg gpX rg L a0 (ybx x f) := fun o ho => by
  cases x with
  | none => cases ho
  | some q =>
    have hb := h1.tr (hx _ rfl) hs
    have ho' : (if q.1 = 0 then f q.2.2 else some (q.1, 0, q.2.2)) = some o := ho
    by_cases hk : q.1 = 0
    · rw [if_pos hk] at ho'; exact h _ hb o ho'
    · rw [if_neg hk] at ho'; cases ho'; exact hb
end
