/-- x gives an answer of which Q holds -/
def wo {α : Type} (x : Option α) (Q : α → Prop) : Prop := ∃ a, x = some a ∧ Q a
section
variable {α β : Type} {Q : α → Prop}
theorem wo_some {a : α} (h : Q a) : wo (some a) Q := ⟨a, rfl, h⟩
theorem wo.mono {x : Option α} {P : α → Prop} (h : wo x P) (hq : ∀ a, P a → Q a) : wo x Q := by
  obtain ⟨a, h1, h2⟩ := h
  exact ⟨a, h1, hq a h2⟩
theorem wo_let {e : β} {f : β → Option α} (h : wo (f e) Q) : wo (xlet e f) Q := h
theorem wo_g {i : Int32} {n : Nat} {B : Option α} (h1 : ¬ i < 0) (h2 : i.toNatClampNeg < n) (h : wo B Q) : wo (xg i n B) Q := by
  unfold xg
  rw [if_neg (by intro q; rcases q with q | q; exact h1 q; omega)]
  exact h
theorem wo_z {d : Int32} {B : Option α} (h1 : d ≠ 0) (h : wo B Q) : wo (xz d B) Q := by
  unfold xz
  rw [if_neg h1]
  exact h
theorem wo_bo {v : Int32} {B : Option α} (h1 : v = 0 ∨ v = 1) (h : wo B Q) : wo (xbo v B) Q := by
  unfold xbo
  rw [if_pos h1]
  exact h
theorem wo_b {x : Option (Int32 × AH)} {f : Int32 → AH → Option α} {P : Int32 × AH → Prop} (h : wo x P) (hf : ∀ r a, P (r, a) → wo (f r a) Q) : wo (xb x f) Q := by
  obtain ⟨⟨r, a⟩, h1, h2⟩ := h
  subst h1
  exact hf r a h2
theorem wo_bv {x : Option AH} {f : AH → Option α} {P : AH → Prop} (h : wo x P) (hf : ∀ a, P a → wo (f a) Q) : wo (xbv x f) Q := by
  obtain ⟨a, h1, h2⟩ := h
  subst h1
  exact hf a h2
theorem wo_if {c : Prop} [Decidable c] {A B : Option α} (h1 : c → wo A Q) (h2 : ¬ c → wo B Q) : wo (if c then A else B) Q := by
  by_cases h : c
  · rw [if_pos h]; exact h1 h
  · rw [if_neg h]; exact h2 h
end
/-- a whole number as the machine's int -/
def zI (z : Int) : Int32 := Int32.ofInt z
/-- it fits -/
def zR (z : Int) : Prop := -2147483648 ≤ z ∧ z < 2147483648
theorem zI_toInt {z : Int} (h : zR z) : (zI z).toInt = z := by
  unfold zI
  exact Int32.toInt_ofInt_of_le h.1 (by have := h.2; omega)
theorem zI_of (x : Int32) : zI x.toInt = x := by
  unfold zI
  exact Int32.ofInt_toInt x
theorem zR_of (x : Int32) : zR x.toInt := ⟨Int32.le_toInt x, Int32.toInt_lt x⟩
theorem zI_add (a b : Int) : zI a + zI b = zI (a + b) := (Int32.ofInt_add a b).symm
theorem zI_sub (a b : Int) : zI a - zI b = zI (a - b) := (Int32.ofInt_sub a b).symm
theorem zI_mul (a b : Int) : zI a * zI b = zI (a * b) := (Int32.ofInt_mul a b).symm
theorem zI_neg (a : Int) : - zI a = zI (-a) := (Int32.ofInt_neg a).symm
theorem zI_lt {a b : Int} (ha : zR a) (hb : zR b) : (zI a < zI b) ↔ a < b := by
  rw [Int32.lt_iff_toInt_lt, zI_toInt ha, zI_toInt hb]
theorem zI_le {a b : Int} (ha : zR a) (hb : zR b) : (zI a ≤ zI b) ↔ a ≤ b := by
  rw [Int32.le_iff_toInt_le, zI_toInt ha, zI_toInt hb]
theorem zI_eq {a b : Int} (ha : zR a) (hb : zR b) : (zI a = zI b) ↔ a = b := by
  constructor
  · intro h
    have := congrArg Int32.toInt h
    rwa [zI_toInt ha, zI_toInt hb] at this
  · intro h; rw [h]
theorem zI_nat {a : Int} (ha : zR a) : (zI a).toNatClampNeg = a.toNat := by
  unfold Int32.toNatClampNeg
  rw [zI_toInt ha]
theorem zI_div {a b : Int} (ha : zR a) (hb : zR b) (h0 : 0 ≤ a) (h1 : 0 < b) : zI a / zI b = zI (a / b) := by
  have hq : zR (a / b) := by
    have h2 : 0 ≤ a / b := Int.ediv_nonneg h0 (by omega)
    have h3 : a / b ≤ a := Int.ediv_le_self b h0
    exact ⟨by have := ha.1; omega, by have := ha.2; omega⟩
  apply Int32.toInt.inj
  rw [Int32.toInt_div, zI_toInt ha, zI_toInt hb, zI_toInt hq]
  rw [Int.tdiv_eq_ediv_of_nonneg h0]
  exact Int.bmod_eq_of_le (by have := hq.1; omega) (by have := hq.2; omega)
theorem wo_gz {α : Type} {Q : α → Prop} {a : Int} {n : Nat} {B : Option α} (h1 : 0 ≤ a) (h2 : a < n) (hn : n < 2147483648) (h : wo B Q) : wo (xg (zI a) n B) Q := by
  have ha : zR a := ⟨by omega, by omega⟩
  refine wo_g ?_ ?_ h
  · rw [show (0 : Int32) = zI 0 from rfl, zI_lt ha ⟨by decide, by decide⟩]
    omega
  · rw [zI_nat ha]
    omega
theorem xu_at {ah : AH} {k i : Nat} {v : Int32} (a b : Nat) : xu ah k i v a b = if a = k ∧ b = i then v else ah a b := rfl
