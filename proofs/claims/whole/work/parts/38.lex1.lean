/-- letters, digits, by their numbers -/
def isL (z : Int) : Bool := decide (97 ≤ z ∧ z ≤ 122)
def isD (z : Int) : Bool := decide (48 ≤ z ∧ z ≤ 57)
/-- a text of n bytes; behind it nothing -/
def Txt (B : Nat → Int) (n : Nat) : Prop := n ≤ 400 ∧ (∀ j, j < n → 0 ≤ B j ∧ B j < 256) ∧ ∀ j, n ≤ j → B j = -1
theorem Txt.rng {B : Nat → Int} {n : Nat} (h : Txt B n) (j : Nat) : -1 ≤ B j ∧ B j < 256 := by
  by_cases hj : j < n
  · have := h.2.1 j hj; omega
  · have := h.2.2 j (by omega); omega
/-- the class's tape amid a text, no fault yet -/
def TC (a : AH) (B : Nat → Int) (n i : Nat) : Prop := a 2 2 = zI n ∧ a 2 3 = zI i ∧ a 2 4 = zI 0 ∧ (∀ j, j < n → a 3 j = zI (B j))
/-- the reference's -/
def TM (a : AH) (B : Nat → Int) (n i : Nat) : Prop := a 0 3 = zI n ∧ a 0 4 = zI i ∧ a 0 6 = zI 0 ∧ (∀ j, j < n → a 2 j = zI (B j))
def b1 (b : Bool) : Int32 := if b then 1 else 0
theorem b1_0 {b : Bool} : (b1 b = 0) ↔ b = false := by cases b <;> decide
theorem letC {N : Nat} {a : AH} {z : Int} (hz : zR z) : F_X11_isLetter N a (zI z) = some (b1 (isL z), a) := by
  obtain ⟨z1, z2⟩ := hz
  unfold F_X11_isLetter isL b1
  simp (disch := (unfold zR; omega)) only [zl0, zl1, zlm1, zl, zI_add, zI_sub, zI_mul, zt_lt, zt_le, zt_eq]
  by_cases h1 : z < 97
  · have e : ¬ (97 ≤ z ∧ z ≤ 122) := by omega
    simp [h1, e]
  · by_cases h2 : 123 ≤ z
    · have e : ¬ (97 ≤ z ∧ z ≤ 122) := by omega
      simp [h1, h2, e]
    · have e : 97 ≤ z ∧ z ≤ 122 := by omega
      simp [h1, h2, e]
theorem digC {N : Nat} {a : AH} {z : Int} (hz : zR z) : F_X11_isDigit N a (zI z) = some (b1 (isD z), a) := by
  obtain ⟨z1, z2⟩ := hz
  unfold F_X11_isDigit isD b1
  simp (disch := (unfold zR; omega)) only [zl0, zl1, zlm1, zl, zI_add, zI_sub, zI_mul, zt_lt, zt_le, zt_eq]
  by_cases h1 : z < 48
  · have e : ¬ (48 ≤ z ∧ z ≤ 57) := by omega
    simp [h1, e]
  · by_cases h2 : 57 < z
    · have e : ¬ (48 ≤ z ∧ z ≤ 57) := by omega
      simp [h1, h2, e]
    · have e : 48 ≤ z ∧ z ≤ 57 := by omega
      simp [h1, h2, e]
theorem letM {N : Nat} {a : AH} {z : Int} (hz : zR z) : F_X12_isSmall N a (zI z) = some (b1 (isL z), a) := by
  obtain ⟨z1, z2⟩ := hz
  unfold F_X12_isSmall isL b1
  simp (disch := (unfold zR; omega)) only [zl0, zl1, zlm1, zl, zI_add, zI_sub, zI_mul, zt_lt, zt_le, zt_eq]
  by_cases h1 : z < 97
  · have e : ¬ (97 ≤ z ∧ z ≤ 122) := by omega
    simp [h1, e]
  · by_cases h2 : 122 < z
    · have e : ¬ (97 ≤ z ∧ z ≤ 122) := by omega
      simp [h1, h2, e]
    · have e : 97 ≤ z ∧ z ≤ 122 := by omega
      simp [h1, h2, e]
theorem digM {N : Nat} {a : AH} {z : Int} (hz : zR z) : F_X12_isDigit N a (zI z) = some (b1 (isD z), a) := by
  obtain ⟨z1, z2⟩ := hz
  unfold F_X12_isDigit isD b1
  simp (disch := (unfold zR; omega)) only [zl0, zl1, zlm1, zl, zI_add, zI_sub, zI_mul, zt_lt, zt_le, zt_eq]
  by_cases h1 : z < 48
  · have e : ¬ (48 ≤ z ∧ z ≤ 57) := by omega
    simp [h1, e]
  · by_cases h2 : 57 < z
    · have e : ¬ (48 ≤ z ∧ z ≤ 57) := by omega
      simp [h1, h2, e]
    · have e : 48 ≤ z ∧ z ≤ 57 := by omega
      simp [h1, h2, e]
theorem peekC {N : Nat} {a : AH} {B : Nat → Int} {n i d : Nat} (hB : Txt B n) (h : TC a B n i) (hi : i ≤ 1000) (hd : d ≤ 1000) {p : Int32} (hp : p = zI d) : F_X9_peek N a p = some (zI (B (i + d)), a) := by
  obtain ⟨h1, h2, h3, h4⟩ := h
  have hn := hB.1
  subst hp
  unfold F_X9_peek xlet
  dsimp only
  rw [h2, h1, zI_add]
  have e1 : ¬ zI ((i : Int) + d) < 0 := fun q => by simp (disch := (unfold zR; omega)) only [zl0, zl1, zlm1, zl, zI_add, zI_sub, zI_mul, zt_lt, zt_le, zt_eq] at q; omega
  rw [if_neg e1]
  by_cases hlt : i + d < n
  · have e2 : ¬ zI (n : Int) ≤ zI ((i : Int) + d) := fun q => by simp (disch := (unfold zR; omega)) only [zl0, zl1, zlm1, zl, zI_add, zI_sub, zI_mul, zt_lt, zt_le, zt_eq] at q; omega
    rw [if_neg e2]
    unfold xg
    rw [zI_nat (by unfold zR; omega), if_neg (by intro q; rcases q with q | q; exact e1 q; omega)]
    rw [show ((i : Int) + d).toNat = i + d by omega, h4 _ hlt]
  · have e2 : zI (n : Int) ≤ zI ((i : Int) + d) := by simp (disch := (unfold zR; omega)) only [zl0, zl1, zlm1, zl, zI_add, zI_sub, zI_mul, zt_lt, zt_le, zt_eq]; omega
    rw [if_pos e2, hB.2.2 _ (by omega)]
    rfl
theorem hereM {N : Nat} {a : AH} {B : Nat → Int} {n i : Nat} (hB : Txt B n) (h : TM a B n i) (hi : i ≤ 1000) : F_X12_here N a = some (zI (B i), a) := by
  obtain ⟨h1, h2, h3, h4⟩ := h
  have hn := hB.1
  unfold F_X12_here F_X12_byteAt
  rw [h2, h1]
  by_cases hlt : i < n
  · have e2 : zI (i : Int) < zI (n : Int) := by simp (disch := (unfold zR; omega)) only [zl0, zl1, zlm1, zl, zI_add, zI_sub, zI_mul, zt_lt, zt_le, zt_eq]; omega
    rw [if_pos e2]
    unfold xg
    rw [zI_nat (by unfold zR; omega), if_neg (by intro q; rcases q with q | q; (simp (disch := (unfold zR; omega)) only [zl0, zl1, zlm1, zl, zI_add, zI_sub, zI_mul, zt_lt, zt_le, zt_eq] at q; omega); omega)]
    show some (a 2 (i : Int).toNat, a) = _
    rw [show (i : Int).toNat = i by omega, h4 _ hlt]
  · have e2 : ¬ zI (i : Int) < zI (n : Int) := fun q => by simp (disch := (unfold zR; omega)) only [zl0, zl1, zlm1, zl, zI_add, zI_sub, zI_mul, zt_lt, zt_le, zt_eq] at q; omega
    rw [if_neg e2, hB.2.2 _ (by omega)]
    rfl
