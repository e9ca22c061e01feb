/-- behind the blanks -/
def sk (B : Nat → Int) : Nat → Nat → Nat
  | 0, i => i
  | f + 1, i => if B i = 32 then sk B f (i + 1) else i
theorem sk_ge (B : Nat → Int) : ∀ f i, i ≤ sk B f i
  | 0, i => Nat.le_refl _
  | f + 1, i => by
    unfold sk
    by_cases h : B i = 32
    · rw [if_pos h]; have := sk_ge B f (i + 1); omega
    · rw [if_neg h]; exact Nat.le_refl _
theorem sk_le {B : Nat → Int} {n : Nat} (hB : Txt B n) : ∀ f i, i ≤ n → sk B f i ≤ n
  | 0, i, h => h
  | f + 1, i, h => by
    unfold sk
    by_cases hb : B i = 32
    · rw [if_pos hb]
      have hi : i < n := by
        rcases Nat.lt_or_ge i n with q | q
        · exact q
        · have := hB.2.2 i q; omega
      exact sk_le hB f (i + 1) (by omega)
    · rw [if_neg hb]; exact h
theorem xu_id {a : AH} {k i : Nat} {v : Int32} (h : a k i = v) : xu a k i v = a := by
  funext q j
  rw [xu_at]
  by_cases c : q = k ∧ j = i
  · rw [if_pos c, c.1, c.2, h]
  · rw [if_neg c]
theorem xu_xu {a : AH} {k i : Nat} {v w : Int32} : xu (xu a k i v) k i w = xu a k i w := by
  funext q j
  rw [xu_at, xu_at, xu_at]
  by_cases c : q = k ∧ j = i
  · rw [if_pos c, if_pos c]
  · rw [if_neg c, if_neg c, if_neg c]
theorem TC.at {a : AH} {B : Nat → Int} {n i : Nat} (h : TC a B n i) (j : Nat) : TC (xu a 2 3 (zI j)) B n j := ⟨by rw [xu_ne (by omega)]; exact h.1, xu_eq, by rw [xu_ne (by omega)]; exact h.2.2.1, fun q hq => by rw [xu_ne (by omega)]; exact h.2.2.2 q hq⟩
theorem TM.at {a : AH} {B : Nat → Int} {n i : Nat} (h : TM a B n i) (j : Nat) : TM (xu a 0 4 (zI j)) B n j := ⟨by rw [xu_ne (by omega)]; exact h.1, xu_eq, by rw [xu_ne (by omega)]; exact h.2.2.1, fun q hq => by rw [xu_ne (by omega)]; exact h.2.2.2 q hq⟩
theorem skipC0 {N : Nat} {B : Nat → Int} {n : Nat} (hB : Txt B n) : ∀ (f : Nat) (a : AH) (i : Nat), TC a B n i → i ≤ n → n - i < f → F_X9_skipBlanks_0 N f a = some (xu a 2 3 (zI (sk B f i))) := by
  intro f
  induction f with
  | zero => intro a i _ _ h; omega
  | succ f ih =>
    intro a i h hi hf
    have hn := hB.1
    unfold F_X9_skipBlanks_0 sk
    rw [h.1, h.2.1]
    by_cases hlt : i < n
    · have e1 : ¬ zI (n : Int) ≤ zI (i : Int) := fun q => by simp (disch := (unfold zR; omega)) only [zl0, zl1, zlm1, zl, zI_add, zI_sub, zI_mul, zt_lt, zt_le, zt_eq] at q; omega
      have hr := hB.2.1 i hlt
      rw [if_neg e1]
      unfold xg
      rw [zI_nat (by unfold zR; omega), if_neg (by intro q; rcases q with q | q; (simp (disch := (unfold zR; omega)) only [zl0, zl1, zlm1, zl, zI_add, zI_sub, zI_mul, zt_lt, zt_le, zt_eq] at q; omega); omega), show (i : Int).toNat = i by omega, h.2.2.2 i hlt]
      by_cases hb : B i = 32
      · rw [if_pos (by rw [hb]; rfl), if_pos hb]
        show F_X9_skipBlanks_0 N f (xu a 2 3 (zI i + 1)) = _
        rw [show zI (i : Int) + 1 = zI ((i + 1 : Nat) : Int) by rw [zl1, zI_add]; rfl, ih _ (i + 1) (h.at (i + 1)) (by omega) (by omega), xu_xu]
      · have e2 : ¬ zI (B i) = 32 := fun q => by simp (disch := (unfold zR; omega)) only [zl0, zl1, zlm1, zl, zI_add, zI_sub, zI_mul, zt_lt, zt_le, zt_eq] at q; omega
        rw [if_neg e2, if_neg hb, xu_id h.2.1]
    · have e1 : zI (n : Int) ≤ zI (i : Int) := by simp (disch := (unfold zR; omega)) only [zl0, zl1, zlm1, zl, zI_add, zI_sub, zI_mul, zt_lt, zt_le, zt_eq]; omega
      rw [if_pos e1, if_neg (by have := hB.2.2 i (by omega); omega), xu_id h.2.1]
theorem skipC {N : Nat} {B : Nat → Int} {n i : Nat} {a : AH} (hB : Txt B n) (hN : 400 < N) (h : TC a B n i) (hi : i ≤ n) : F_X9_skipBlanks N a = some (xu a 2 3 (zI (sk B N i))) := skipC0 hB N a i h hi (by have := hB.1; omega)
theorem skipM0 {N : Nat} {B : Nat → Int} {n : Nat} (hB : Txt B n) : ∀ (f : Nat) (a : AH) (i : Nat), TM a B n i → i ≤ n → n - i < f → F_X12_blanks_0 N f a = some (zI (B (sk B f i)), xu a 0 4 (zI (sk B f i))) := by
  intro f
  induction f with
  | zero => intro a i _ _ h; omega
  | succ f ih =>
    intro a i h hi hf
    have hn := hB.1
    have hr := hB.rng i
    unfold F_X12_blanks_0 sk
    rw [hereM hB h (by omega)]
    show (if zI (B i) = 32 then _ else _) = _
    by_cases hb : B i = 32
    · have hlt : i < n := by
        rcases Nat.lt_or_ge i n with q | q
        · exact q
        · have := hB.2.2 i q; omega
      rw [if_pos (by rw [hb]; rfl), if_pos hb]
      show F_X12_blanks_0 N f (xu a 0 4 (a 0 4 + 1)) = _
      rw [h.2.1, show zI (i : Int) + 1 = zI ((i + 1 : Nat) : Int) by rw [zl1, zI_add]; rfl, ih _ (i + 1) (h.at (i + 1)) (by omega) (by omega), xu_xu]
    · have e2 : ¬ zI (B i) = 32 := fun q => by simp (disch := (unfold zR; omega)) only [zl0, zl1, zlm1, zl, zI_add, zI_sub, zI_mul, zt_lt, zt_le, zt_eq] at q; omega
      rw [if_neg e2, if_neg hb, hereM hB h (by omega), xu_id h.2.1]
      rfl
theorem skipM {N : Nat} {B : Nat → Int} {n i : Nat} {a : AH} (hB : Txt B n) (hN : 400 < N) (h : TM a B n i) (hi : i ≤ n) : F_X12_blanks N a = some (zI (B (sk B N i)), xu a 0 4 (zI (sk B N i))) := skipM0 hB N a i h hi (by have := hB.1; omega)
