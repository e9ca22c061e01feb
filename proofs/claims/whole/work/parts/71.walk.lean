/-- the reference's lexicon, as the search needs it -/
def LXM (m : IH) : Prop := TrM m ∧ (0 ≤ m 0 10 ∧ m 0 10 ≤ 60) ∧ (∀ w, 0 ≤ w → w < m 0 10 → (1 ≤ m 5 w ∧ m 5 w ≤ 12) ∧ (0 ≤ m 6 w ∧ m 6 w ≤ 99) ∧ (1 ≤ m 7 w ∧ m 7 w < m 0 15) ∧ m 10 (m 7 w) = w ∧ m 11 (m 7 w) ≤ m 6 w) ∧ (∀ x, 0 ≤ x → x < m 0 15 → m 10 x = -1 ∨ (0 ≤ m 10 x ∧ m 10 x < m 0 10 ∧ m 7 (m 10 x) = x)) ∧ (0 < m 0 10 → ∀ x, 0 ≤ x → x < m 0 15 → 0 ≤ m 11 x ∧ m 11 x ≤ 99) ∧ (0 < m 0 10 → ∀ x, 1 ≤ x → x < m 0 15 → m 11 (m 8 x) ≤ m 11 x)
/-- the class's lexicon is the reference's -/
def LXC (c m : IH) : Prop := c 4 0 = m 0 10 ∧ TrC c m ∧ (∀ w, 0 ≤ w → w < m 0 10 → c 5 w = m 5 w ∧ c 6 w = m 6 w ∧ c 7 w = m 7 w ∧ ∀ k, 0 ≤ k → k < m 5 w → c 8 (w * 12 + k) = m (52 + w) k ∧ sg (m (52 + w) k)) ∧ ∀ x, 0 ≤ x → x < m 0 15 → c 15 x = m 11 x ∧ c 14 x = m 12 x
/-- from a node on by the signs of an edge; -1: nowhere -/
noncomputable def wk (m : IH) (y : Int) : Nat → Int → Int → Int
  | 0, _, x => x
  | r + 1, q, x => if x = -1 then -1 else wk m y r (q + 1) (ch m x (m y (3 + q)))
theorem wk_neg {m : IH} {y : Int} : ∀ (r : Nat) (q : Int), wk m y r q (-1) = -1 := by
  intro r q
  cases r with
  | zero => rfl
  | succ r => simp [wk]
theorem wk_s {m : IH} {y q x : Int} {r : Nat} (h : x ≠ -1) : wk m y (r + 1) q x = wk m y r (q + 1) (ch m x (m y (3 + q))) := by
  simp [wk, h]
theorem ch_node {m : IH} {p s : Int} (h : TrM m) : ch m p s = -1 ∨ (1 ≤ ch m p s ∧ ch m p s < m 0 15 ∧ m 8 (ch m p s) = p ∧ m 9 (ch m p s) = s) := by
  rcases ch_cases m p s with q | q
  · exact Or.inl q.1
  · exact Or.inr q
theorem wk_node {m : IH} {y : Int} (h : TrM m) : ∀ (r : Nat) (q x : Int), (x = -1 ∨ (0 ≤ x ∧ x < m 0 15)) → wk m y r q x = -1 ∨ (0 ≤ wk m y r q x ∧ wk m y r q x < m 0 15) := by
  intro r
  induction r with
  | zero => intro q x hx; exact hx
  | succ r ih =>
    intro q x hx
    by_cases c1 : x = -1
    · left; rw [c1]; exact wk_neg _ _
    · rw [wk_s c1]
      refine ih _ _ ?_
      rcases ch_node (p := x) (s := m y (3 + q)) h with e | e
      · exact Or.inl e
      · exact Or.inr ⟨by omega, e.2.1⟩
theorem wk_least {m : IH} {y : Int} (h : TrM m) (hl : ∀ x, 1 ≤ x → x < m 0 15 → m 11 (m 8 x) ≤ m 11 x) : ∀ (r : Nat) (q x : Int), x ≠ -1 → wk m y r q x ≠ -1 → m 11 x ≤ m 11 (wk m y r q x) := by
  intro r
  induction r with
  | zero => intro q x hx _; exact Int.le_refl _
  | succ r ih =>
    intro q x hx hw
    rw [wk_s hx] at hw ⊢
    rcases ch_node (p := x) (s := m y (3 + q)) h with e | e
    · rw [e, wk_neg] at hw
      exact absurd rfl hw
    · have := ih (q + 1) _ (by omega) hw
      have e2 := hl _ e.1 e.2.1
      rw [e.2.2.1] at e2
      omega
theorem walkC {N : Nat} {c m : IH} {e y : Int} (hN : 20000 ≤ N) (h : TrM m) (hc : TrC c m) (he : 0 ≤ e ∧ e < 624) (h63 : c 63 e = m y 2) (hk : 0 ≤ m y 2 ∧ m y 2 ≤ 3) (hs : ∀ q, 0 ≤ q → q < m y 2 → c 64 (e * 3 + q) = m y (3 + q)) : ∀ (f : Nat) (q x : Int), 0 ≤ q → q ≤ m y 2 → (x = -1 ∨ (0 ≤ x ∧ x < m 0 15)) → m y 2 - q < f → G_X6_walk_5 N f c e x q = some (wk m y (m y 2 - q).toNat q x, c) := by
  intro f
  induction f with
  | zero => intro q x h1 h2 h3 h4; omega
  | succ f ih =>
    intro q x h1 h2 h3 h4
    unfold G_X6_walk_5
    (try simp (disch := omega) only [xlet_q, xq_in])
    by_cases c1 : m y 2 ≤ q
    · rw [h63, if_pos c1, show (m y 2 - q).toNat = 0 by omega]
      rfl
    · rw [h63, if_neg c1]
      by_cases c2 : x = -1
      · rw [if_pos c2, c2, wk_neg]
      · have hn := h.1
        rw [if_neg c2, hs q h1 (by omega), chC hN h hc (by omega), yb_s, wr_in (by omega) (by omega), ih (q + 1) _ (by omega) (by omega) ?_ (by omega)]
        · rw [show (m y 2 - q).toNat = (m y 2 - (q + 1)).toNat + 1 by omega, wk_s c2]
        · rcases ch_node (p := x) (s := m y (3 + q)) h with e | e
          · exact Or.inl e
          · exact Or.inr ⟨by omega, e.2.1⟩
theorem walkM {N : Nat} {m : IH} {v2 v3 v4 v5 y : Int} {k : IH → Int → Int → Int → Int → Option IH} (hN : 20000 ≤ N) (h : TrM m) (hk : 0 ≤ m y 2 ∧ m y 2 ≤ 3) : ∀ (f : Nat) (q x : Int), 0 ≤ q → q ≤ m y 2 → (x = -1 ∨ (0 ≤ x ∧ x < m 0 15)) → m y 2 - q < f → G_X12_opens_152 N k f m v2 v3 v4 v5 y x q = G_X12_opens_188 N k m v2 v3 v4 v5 y (wk m y (m y 2 - q).toNat q x) := by
  intro f
  induction f with
  | zero => intro q x h1 h2 h3 h4; omega
  | succ f ih =>
    intro q x h1 h2 h3 h4
    unfold G_X12_opens_152
    by_cases c1 : m y 2 ≤ q
    · rw [if_pos c1, show (m y 2 - q).toNat = 0 by omega]
      rfl
    · rw [if_neg c1]
      by_cases c2 : x = -1
      · rw [if_pos c2, c2, wk_neg]
      · have hn := h.1
        rw [if_neg c2]
        (try simp (disch := omega) only [xlet_q, xq_in])
        rw [chM hN h (by omega), yb_s, wr_in (by omega) (by omega), ih (q + 1) _ (by omega) (by omega) ?_ (by omega)]
        · rw [show (m y 2 - q).toNat = (m y 2 - (q + 1)).toNat + 1 by omega, wk_s c2]
        · rcases ch_node (p := x) (s := m y (3 + q)) h with e | e
          · exact Or.inl e
          · exact Or.inr ⟨by omega, e.2.1⟩
/-- the effect of letting a state wait -/
def WF (m m' : IH) (s v : Int) : Prop := (m 30 s = 2 ∧ m' = m) ∨ (m 30 s = 1 ∧ m 29 s ≤ v ∧ m' = m) ∨ ((m 30 s = 0 ∨ (m 30 s = 1 ∧ v < m 29 s)) ∧ m' 30 s = 1 ∧ m' 29 s = v ∧ ∀ a b, ¬ (a = 29 ∧ b = s) → ¬ (a = 30 ∧ b = s) → a ≠ 31 → ¬ (a = 0 ∧ b = 42) → m' a b = m a b)
theorem waitsM0 {N : Nat} {m : IH} {s v : Int} (hs : 0 ≤ s ∧ s < 18025) (h : m 30 s = 2 ∨ (m 30 s = 1 ∧ m 29 s ≤ v)) : G_X12_waitsFor N m s v = some m := by
  unfold G_X12_waitsFor
  (try simp (disch := omega) only [xlet_q, xq_in])
  rcases h with h | ⟨h1, h2⟩
  · rw [if_pos h]
  · rw [if_neg (by omega), if_pos h1, if_neg (by omega)]
theorem waitsM1 {N : Nat} {m : IH} {s v : Int} (hs : 0 ≤ s ∧ s < 18025) (h : m 30 s = 1 ∧ v < m 29 s) : G_X12_waitsFor N m s v = some (xv (xv m 30 s 1) 29 s v) := by
  unfold G_X12_waitsFor G_X12_waitsFor_31 G_X12_waitsFor_60
  (try simp (disch := omega) only [xlet_q, xq_in])
  rw [if_neg (by omega), if_pos h.1, if_pos h.2, if_neg (by omega)]
theorem waitsM2 {N : Nat} {m : IH} {s v : Int} (hs : 0 ≤ s ∧ s < 18025) (h : m 30 s = 0) (hw : 0 ≤ m 0 42 ∧ m 0 42 < 18025) : G_X12_waitsFor N m s v = some (xv (xv (xv (xv m 31 (m 0 42) s) 0 42 (m 0 42 + 1)) 30 s 1) 29 s v) := by
  unfold G_X12_waitsFor G_X12_waitsFor_31 G_X12_waitsFor_60
  (try simp (disch := omega) only [xlet_q, xq_in])
  rw [if_neg (by omega), if_neg (by omega), if_pos h, xv_ne (show ¬ ((0 : Int) = 31 ∧ (42 : Int) = m 0 42) by omega), wr_in (by omega) (by omega)]
/-- the state of an item -/
def sto (t : Int) : Int := (24 - (t - 60) / 721) * 721 + (t - 60) % 721
def bnd (m : IH) (s : Int) : Int := m 29 s + m 26 (s / 721) + m 11 (s % 721)
/-- the key of an item, as the reference has it -/
def Kf (m : IH) (t : Int) : Int := (if t < 60 then m 32 t else bnd m (sto t)) * 32768 + t
theorem Kf_w {m : IH} {w : Int} (h : w < 60) : Kf m w = m 32 w * 32768 + w := by
  unfold Kf
  rw [if_pos h]
theorem Kf_s {m : IH} {j x : Int} (h : 0 ≤ j ∧ j ≤ 24) (hx : 0 ≤ x ∧ x < 721) : Kf m (60 + (24 - j) * 721 + x) = (m 29 (j * 721 + x) + m 26 j + m 11 x) * 32768 + (60 + (24 - j) * 721 + x) := by
  unfold Kf bnd sto
  rw [if_neg (by omega)]
  have e1 : (60 + (24 - j) * 721 + x - 60) / 721 = 24 - j := by omega
  have e2 : (60 + (24 - j) * 721 + x - 60) % 721 = x := by omega
  rw [e1, e2, show 24 - (24 - j) = j by omega, show (j * 721 + x) / 721 = j by omega, show (j * 721 + x) % 721 = x by omega]
theorem HPz.cg {c : IH} {K K' : Int → Int} {n z : Int} (h : HPz c K n z) (hk : ∀ t, 0 ≤ t → t < 18085 → K' t = K t) : HPz c K' n z := by
  obtain ⟨a1, a2, a3, a4⟩ := h
  refine ⟨a1, fun p p1 p2 => ?_, fun t t1 t2 t3 => ?_, a4⟩
  · have := a2 p p1 p2
    rw [hk _ (by omega) (by omega)]
    exact this
  · rw [hk t t1 t2]
    exact a3 t t1 t2 t3
theorem HPz.cv {c c' : IH} {K : Int → Int} {n z : Int} (h : HPz c K n z) (h1 : ∀ b, c' 71 b = c 71 b) (h2 : ∀ b, c' 72 b = c 72 b) : HPz c' K n z := by
  unfold HPz at *
  simp only [h1, h2]
  exact h
