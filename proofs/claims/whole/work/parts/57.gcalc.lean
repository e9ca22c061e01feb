section
variable {α : Type} {Q : α → Prop}
theorem wo_q {i n : Int} {B : Option α} (h : 0 ≤ i ∧ i < n) (k : wo B Q) : wo (xq i n B) Q := by
  unfold xq
  rw [if_pos h]
  exact k
theorem wo_ybo {v : Int} {B : Option α} (h : v = 0 ∨ v = 1) (k : wo B Q) : wo (ybo v B) Q := by
  unfold ybo
  rw [if_pos h]
  exact k
theorem wo_yb {x : Option (Int × IH)} {f : Int → IH → Option α} {P : Int × IH → Prop} (h : wo x P) (hf : ∀ r a, P (r, a) → wo (f r a) Q) : wo (yb x f) Q := by
  obtain ⟨⟨r, a⟩, h1, h2⟩ := h
  subst h1
  exact hf r a h2
theorem wo_ybe {x : Option (Int × IH)} {f : Int → IH → Option α} {r : Int} {a : IH} (h : x = some (r, a)) (k : wo (f r a) Q) : wo (yb x f) Q := by
  subst h
  exact k
theorem wo_ybv {x : Option IH} {f : IH → Option α} {P : IH → Prop} (h : wo x P) (hf : ∀ a, P a → wo (f a) Q) : wo (ybv x f) Q := by
  obtain ⟨a, h1, h2⟩ := h
  subst h1
  exact hf a h2
theorem wo_ybve {x : Option IH} {f : IH → Option α} {a : IH} (h : x = some a) (k : wo (f a) Q) : wo (ybv x f) Q := by
  subst h
  exact k
theorem wo_ifp {c : Prop} [Decidable c] {A B : Option α} (h : c) (k : wo A Q) : wo (if c then A else B) Q := by rw [if_pos h]; exact k
theorem wo_ifn {c : Prop} [Decidable c] {A B : Option α} (h : ¬ c) (k : wo B Q) : wo (if c then A else B) Q := by rw [if_neg h]; exact k
theorem wo_eq {x : Option α} {a : α} (h : x = some a) (k : Q a) : wo x Q := ⟨a, h, k⟩
theorem wo.get {x : Option α} (h : wo x Q) : ∃ a, x = some a ∧ Q a := h
end
theorem wo_ybx0 {x : Option YR} {f : IH → Option YR} {r : Int} {a : IH} {Q : YR → Prop} (h : x = some (0, r, a)) (k : wo (f a) Q) : wo (ybx x f) Q := by
  subst h
  exact k
theorem wo_ybx1 {x : Option YR} {f : IH → Option YR} {j : Nat} {r : Int} {a : IH} {Q : YR → Prop} (h : x = some (j + 1, r, a)) (k : Q (j + 1, 0, a)) : wo (ybx x f) Q := by
  subst h
  exact ⟨_, rfl, k⟩
/-- two runs, the other one first -/
theorem wo_sw {α β : Type} {x : Option α} {y : Option β} {R : α → β → Prop} (h : wo y (fun q => wo x (fun p => R p q))) : wo x (fun p => wo y (fun q => R p q)) := by
  obtain ⟨q, h1, p, h2, h3⟩ := h
  exact ⟨p, h2, q, h1, h3⟩
theorem xv_eq {h : IH} {k i v a b : Int} (h1 : a = k) (h2 : b = i) : xv h k i v a b = v := if_pos ⟨h1, h2⟩
theorem xv_ne {h : IH} {k i v a b : Int} (h1 : ¬ (a = k ∧ b = i)) : xv h k i v a b = h a b := if_neg h1
theorem xv_at {h : IH} {k i v a b : Int} : xv h k i v a b = if a = k ∧ b = i then v else h a b := rfl
theorem xlet_q {α β : Type} {e : α} {f : α → β} : xlet e f = f e := rfl
theorem yb_s {α : Type} {r : Int} {a : IH} {f : Int → IH → Option α} : yb (some (r, a)) f = f r a := rfl
theorem ybv_s {α : Type} {a : IH} {f : IH → Option α} : ybv (some a) f = f a := rfl
theorem ybx_0 {r : Int} {a : IH} {f : IH → Option YR} : ybx (some (0, r, a)) f = f a := rfl
theorem ybx_1 {j : Nat} {r : Int} {a : IH} {f : IH → Option YR} : ybx (some (j + 1, r, a)) f = some (j + 1, 0, a) := rfl
theorem ynar_0 : ynar 0 = 0 := by decide
theorem ynar_1 : ynar 1 = 1 := by decide
/-- a byte of a text of n bytes; behind it nothing -/
def bt (m : IH) (n j : Int) : Int := if j < n then m 2 j else -1
/-- both amid one text, no fault yet -/
def TP (c m : IH) (n i : Int) : Prop := (c 2 2 = n ∧ m 0 3 = n ∧ c 2 3 = i ∧ m 0 4 = i ∧ (c 2 4 = 0 ∧ c 2 5 = -1 ∧ m 0 7 = -1) ∧ m 0 6 = 0) ∧ (0 ≤ i ∧ i ≤ n ∧ n ≤ 400) ∧ ∀ j, 0 ≤ j → j < 400 → c 3 j = m 2 j ∧ 0 ≤ m 2 j ∧ m 2 j < 256
theorem TP.rng {c m : IH} {n i : Int} (h : TP c m n i) {j : Int} (hj : 0 ≤ j) : -1 ≤ bt m n j ∧ bt m n j < 256 ∧ (n ≤ j → bt m n j = -1) ∧ (j < n → 0 ≤ bt m n j) := by
  unfold bt
  have h3 := h.2.1
  by_cases c1 : j < n
  · rw [if_pos c1]
    have := h.2.2 j hj (by omega)
    omega
  · rw [if_neg c1]; omega
def isl (b : Int) : Int := if b < 97 then 0 else if 122 < b then 0 else 1
def isd (b : Int) : Int := if b < 48 then 0 else if 57 < b then 0 else 1
theorem isl_1 {b : Int} (h : 97 ≤ b ∧ b ≤ 122) : isl b = 1 := by unfold isl; rw [if_neg (by omega), if_neg (by omega)]
theorem isl_0 {b : Int} (h : ¬ (97 ≤ b ∧ b ≤ 122)) : isl b = 0 := by
  unfold isl
  by_cases c : b < 97
  · rw [if_pos c]
  · rw [if_neg c, if_pos (by omega)]
theorem isd_1 {b : Int} (h : 48 ≤ b ∧ b ≤ 57) : isd b = 1 := by unfold isd; rw [if_neg (by omega), if_neg (by omega)]
theorem isd_0 {b : Int} (h : ¬ (48 ≤ b ∧ b ≤ 57)) : isd b = 0 := by
  unfold isd
  by_cases c : b < 48
  · rw [if_pos c]
  · rw [if_neg c, if_pos (by omega)]
section
variable {N : Nat} {c m : IH} {n i : Int}
theorem gletC {b : Int} : G_X11_isLetter N c b = some (isl b, c) := by
  unfold G_X11_isLetter isl
  by_cases c1 : b < 97
  · simp [c1]
  · by_cases c2 : 122 < b
    · have : 123 ≤ b := by omega
      simp [c1, c2, this]
    · have : ¬ 123 ≤ b := by omega
      simp [c1, c2, this]
theorem gdigC {b : Int} : G_X11_isDigit N c b = some (isd b, c) := by
  unfold G_X11_isDigit isd
  by_cases c1 : b < 48
  · simp [c1]
  · by_cases c2 : 57 < b
    · simp [c1, c2]
    · simp [c1, c2]
theorem gletM {b : Int} : G_X12_isSmall N m b = some (isl b, m) := by
  unfold G_X12_isSmall isl
  by_cases c1 : b < 97
  · simp [c1]
  · by_cases c2 : 122 < b
    · simp [c1, c2]
    · simp [c1, c2]
theorem gdigM {b : Int} : G_X12_isDigit N m b = some (isd b, m) := by
  unfold G_X12_isDigit isd
  by_cases c1 : b < 48
  · simp [c1]
  · by_cases c2 : 57 < b
    · simp [c1, c2]
    · simp [c1, c2]
theorem gpeek (h : TP c m n i) {d : Int} (hd : 0 ≤ d ∧ d ≤ 5) : G_X9_peek N c d = some (bt m n (i + d), c) := by
  obtain ⟨⟨h1, h2, h3, h4, h5, h6⟩, ⟨h7, h8, h9⟩, h10⟩ := h
  unfold G_X9_peek bt xlet
  dsimp only
  rw [h1, h3, wr_in (by omega) (by omega), if_neg (show ¬ i + d < 0 by omega)]
  by_cases c1 : i + d < n
  · rw [if_neg (by omega), if_pos c1]
    unfold xq
    rw [if_pos (by omega), (h10 _ (by omega) (by omega)).1]
  · rw [if_pos (by omega), if_neg c1]
theorem gbyte {c : IH} (h : m 0 3 = n) (hn : n ≤ 400) {k : Int} (hk : 0 ≤ k) : G_X12_byteAt N m k = some (bt m n k, m) := by
  unfold G_X12_byteAt bt
  rw [h]
  by_cases c1 : k < n
  · rw [if_pos c1, if_pos c1]
    unfold xq
    rw [if_pos (by omega)]
  · rw [if_neg c1, if_neg c1]
theorem ghere' (h : m 0 3 = n) (hn : n ≤ 400) (h4 : m 0 4 = i) (hi : 0 ≤ i) : G_X12_here N m = some (bt m n i, m) := by
  unfold G_X12_here
  rw [h4, gbyte (c := m) h hn hi]
  rfl
theorem ghere (h : TP c m n i) : G_X12_here N m = some (bt m n i, m) := ghere' h.1.2.1 h.2.1.2.2 h.1.2.2.2.1 h.2.1.1
theorem gfine (h : m 0 6 = 0) : G_X12_fine N m = some (1, m) := by
  unfold G_X12_fine
  rw [if_pos h]
theorem gfine0 (h : m 0 6 ≠ 0) : G_X12_fine N m = some (0, m) := by
  unfold G_X12_fine
  rw [if_neg h]
theorem gwrong (h : m 0 6 = 0) {k p : Int} : G_X12_wrong N m k p = some (xv (xv m 0 6 k) 0 7 p) := by
  unfold G_X12_wrong
  rw [if_pos h]
  rfl
theorem gwrong0 (h : m 0 6 ≠ 0) {k p : Int} : G_X12_wrong N m k p = some m := by
  unfold G_X12_wrong
  rw [if_neg h]
theorem grefuse {k p : Int} : G_X9_refuse N c k p = some (0, xv (xv c 2 4 k) 2 5 p) := rfl
end
