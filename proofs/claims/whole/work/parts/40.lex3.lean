/-- a run of digits: where it ends, what it says -/
def pn (B : Nat → Int) : Nat → Nat → Int → Nat × Int
  | 0, i, v => (i, v)
  | f + 1, i, v => if isD (B i) = true then pn B f (i + 1) (v * 10 + B i - 48) else (i, v)
theorem isD_iff {z : Int} : isD z = true ↔ 48 ≤ z ∧ z ≤ 57 := by unfold isD; exact decide_eq_true_iff
theorem isL_iff {z : Int} : isL z = true ↔ 97 ≤ z ∧ z ≤ 122 := by unfold isL; exact decide_eq_true_iff
theorem Txt.lt {B : Nat → Int} {n i : Nat} (h : Txt B n) (hb : B i ≠ -1) : i < n := by
  rcases Nat.lt_or_ge i n with q | q
  · exact q
  · exact absurd (h.2.2 i q) hb
theorem pn_facts {B : Nat → Int} {n : Nat} (hB : Txt B n) : ∀ f i v, i ≤ n → 0 ≤ v → i ≤ (pn B f i v).1 ∧ (pn B f i v).1 ≤ n ∧ 0 ≤ (pn B f i v).2
  | 0, i, v, h, hv => ⟨Nat.le_refl _, h, hv⟩
  | f + 1, i, v, h, hv => by
    unfold pn
    by_cases hb : isD (B i) = true
    · rw [if_pos hb]
      have hd := isD_iff.mp hb
      have := pn_facts hB f (i + 1) (v * 10 + B i - 48) (hB.lt (by omega)) (by omega)
      omega
    · rw [if_neg hb]
      exact ⟨Nat.le_refl _, h, hv⟩
theorem xb_s {α : Type} {r : Int32} {a : AH} {f : Int32 → AH → Option α} : xb (some (r, a)) f = f r a := rfl
theorem xbv_s {α : Type} {a : AH} {f : AH → Option α} : xbv (some a) f = f a := rfl
theorem xlet_s {α β : Type} {e : α} {f : α → β} : xlet e f = f e := rfl
/-- the class's tape with a fault told -/
def flC (a : AH) (k p : Int) : AH := xu (xu a 2 4 (zI k)) 2 5 (zI p)
/-- the reference's -/
def flM (a : AH) (k p : Int) : AH := xu (xu a 0 6 (zI k)) 0 7 (zI p)
theorem refuseC {N : Nat} {a : AH} {k p : Int} : F_X9_refuse N a (zI k) (zI p) = some (0, flC a k p) := rfl
theorem wrongM {N : Nat} {a : AH} {k p : Int} (h : a 0 6 = zI 0) : F_X12_wrong N a (zI k) (zI p) = some (flM a k p) := by
  unfold F_X12_wrong
  rw [if_pos (show a 0 6 = 0 from h)]
  rfl
theorem wrongM2 {N : Nat} {a : AH} {x y : Int32} (h : a 0 6 ≠ 0) : F_X12_wrong N a x y = some a := by
  unfold F_X12_wrong
  rw [if_neg h]
theorem fineM {N : Nat} {a : AH} (h : a 0 6 = zI 0) : F_X12_fine N a = some (1, a) := by
  unfold F_X12_fine
  rw [if_pos (show a 0 6 = 0 from h)]
theorem fineM2 {N : Nat} {a : AH} (h : a 0 6 ≠ 0) : F_X12_fine N a = some (0, a) := by
  unfold F_X12_fine
  rw [if_neg h]
theorem xmin_z {a b : Int} (ha : zR a) (hb : zR b) : xmin (zI a) (zI b) = zI (min a b) := by
  unfold xmin
  simp only [zt_lt hb ha]
  by_cases h : b < a
  · rw [if_pos h, Int.min_eq_right (by omega)]
  · rw [if_neg h, Int.min_eq_left (by omega)]
/-- a number read by the class: between low and 99, or a fault -/
def numC (B : Nat → Int) (N : Nat) (a : AH) (low : Int) (i : Nat) : Int32 × AH :=
  if isD (B i) = true then (let q := pn B N i 0; if low ≤ q.2 ∧ q.2 ≤ 99 then (zI q.2, xu a 2 3 (zI q.1)) else (-1, flC (xu a 2 3 (zI q.1)) 2 i)) else (-1, flC a 1 i)
theorem numC89 {N : Nat} {a : AH} {low v s : Int} (h0 : 0 ≤ low ∧ low ≤ 99) (hv : 0 ≤ v ∧ v ≤ 100) : F_X9_readNumber_89 N a (zI low) (zI s) (zI v) = some (if low ≤ v ∧ v ≤ 99 then (zI v, a) else (-1, flC a 2 s)) := by
  unfold F_X9_readNumber_89 F_X9_readNumber_100
  simp only [zt_lt (show zR v from (by unfold zR; omega)) (show zR low from (by unfold zR; omega)), show (99 : Int32) = zI 99 from rfl, zt_le (show zR v from (by unfold zR; omega)) (show zR 99 from (by unfold zR; omega))]
  by_cases c1 : v < low
  · rw [if_pos c1, if_neg (by omega)]; rfl
  · rw [if_neg c1]
    by_cases c2 : v ≤ 99
    · rw [if_pos c2, if_pos (by omega)]
    · rw [if_neg c2, if_neg (by omega)]; rfl
theorem numC27 {N : Nat} {B : Nat → Int} {n : Nat} (hB : Txt B n) {low : Int} (h0 : 0 ≤ low ∧ low ≤ 99) {s : Int} : ∀ (f : Nat) (a : AH) (i : Nat) (v : Int), TC a B n i → i ≤ n → n - i < f → 0 ≤ v → F_X9_readNumber_27 N f a (zI low) (zI s) (zI (min v 100)) = some (let q := pn B f i v; if low ≤ q.2 ∧ q.2 ≤ 99 then (zI q.2, xu a 2 3 (zI q.1)) else (-1, flC (xu a 2 3 (zI q.1)) 2 s)) := by
  intro f
  induction f with
  | zero => intro a i v _ _ h; omega
  | succ f ih =>
    intro a i v h hi hf hv
    have hn := hB.1
    have hend : ∀ a : AH, a 2 3 = zI i → F_X9_readNumber_89 N a (zI low) (zI s) (zI (min v 100)) = some (if low ≤ v ∧ v ≤ 99 then (zI v, xu a 2 3 (zI i)) else (-1, flC (xu a 2 3 (zI i)) 2 s)) := by
      intro a ha
      rw [numC89 h0 (by omega), xu_id ha]
      by_cases c : low ≤ v ∧ v ≤ 99
      · rw [if_pos (by omega), if_pos c, Int.min_eq_left (by omega)]
      · rw [if_neg (by omega), if_neg c]
    unfold F_X9_readNumber_27 pn
    rw [h.1, h.2.1]
    by_cases hlt : i < n
    · have e1 : ¬ zI (n : Int) ≤ zI (i : Int) := fun q => by simp (disch := (unfold zR; omega)) only [zl0, zl1, zlm1, zl, zI_add, zI_sub, zI_mul, zt_lt, zt_le, zt_eq] at q; omega
      have hr := hB.2.1 i hlt
      rw [if_neg e1]
      unfold xg
      rw [zI_nat (by unfold zR; omega), if_neg (by intro q; rcases q with q | q; (simp (disch := (unfold zR; omega)) only [zl0, zl1, zlm1, zl, zI_add, zI_sub, zI_mul, zt_lt, zt_le, zt_eq] at q; omega); omega), show (i : Int).toNat = i by omega, h.2.2.2 i hlt, digC (by unfold zR; omega), xb_s]
      by_cases hb : isD (B i) = true
      · have hd := isD_iff.mp hb
        rw [hb, if_neg (show ¬ b1 true = 0 by decide), if_pos rfl, h.2.1, if_neg (by intro q; rcases q with q | q; (simp (disch := (unfold zR; omega)) only [zl0, zl1, zlm1, zl, zI_add, zI_sub, zI_mul, zt_lt, zt_le, zt_eq] at q; omega); (rw [zI_nat (by unfold zR; omega)] at q; omega)), zI_nat (by unfold zR; omega), show (i : Int).toNat = i by omega, h.2.2.2 i hlt]
        show F_X9_readNumber_27 N f (xu a 2 3 (zI i + 1)) (zI low) (zI s) (xmin (zI (min v 100) * 10 + zI (B i) - 48) 100) = _
        rw [show zI (i : Int) + 1 = zI ((i + 1 : Nat) : Int) by rw [zl1, zI_add]; rfl, show (10 : Int32) = zI 10 from rfl, show (48 : Int32) = zI 48 from rfl, show (100 : Int32) = zI 100 from rfl, zI_mul, zI_add, zI_sub, xmin_z (by unfold zR; omega) (by unfold zR; omega), show min (min v 100 * 10 + B i - 48) 100 = min (v * 10 + B i - 48) 100 by omega]
        rw [ih _ (i + 1) _ (h.at (i + 1)) (by omega) (by omega) (by omega)]
        simp only [xu_xu]
      · have hb' : isD (B i) = false := by simpa using hb
        rw [hb', if_pos (show b1 false = 0 by decide), if_neg (show ¬ (false = true) by decide)]
        exact hend a h.2.1
    · have e1 : zI (n : Int) ≤ zI (i : Int) := by simp (disch := (unfold zR; omega)) only [zl0, zl1, zlm1, zl, zI_add, zI_sub, zI_mul, zt_lt, zt_le, zt_eq]; omega
      have hb : ¬ isD (B i) = true := by rw [isD_iff]; have := hB.2.2 i (by omega); omega
      rw [if_pos e1, if_neg hb]
      exact hend a h.2.1
theorem numberC {N : Nat} {B : Nat → Int} {n i : Nat} {a : AH} (hB : Txt B n) (hN : 400 < N) {low : Int} (h0 : 0 ≤ low ∧ low ≤ 99) (h : TC a B n i) (hi : i ≤ n) : F_X9_readNumber N a (zI low) = some (numC B N a low i) := by
  have hn := hB.1
  have hr := hB.rng i
  unfold F_X9_readNumber xlet
  dsimp only
  rw [peekC hB h (by omega) (show 0 ≤ 1000 by omega) (show (0 : Int32) = zI (0 : Nat) from rfl)]
  rw [xb_s, Nat.add_zero, digC (by unfold zR; omega), xb_s]
  unfold numC
  by_cases hb : isD (B i) = true
  · rw [hb, if_neg (show ¬ b1 true = 0 by decide), if_pos rfl, h.2.1]
    have := numC27 (N := N) hB h0 (s := i) N a i 0 h hi (by omega) (by omega)
    exact this
  · have hb' : isD (B i) = false := by simpa using hb
    rw [hb', if_pos (show b1 false = 0 by decide), if_neg (show ¬ (false = true) by decide), h.2.1]
    rfl
