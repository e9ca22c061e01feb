section
variable {N : Nat} {m : IH}
/-- behind a fault the reference reads a shape no more -/
theorem sh158_0 {x3 : Int} (hx : x3 ≠ 0) (h : m 0 6 ≠ 0) : G_X12_readsShape_158 N m x3 = some (xv m x3 0 5) := by
  unfold G_X12_readsShape_158 G_X12_readsShape_187 G_X12_readsShape_188
  rw [gfine0 h, yb_s, if_pos rfl]
  simp (disch := omega) only [xlet_q, xq_in]
  rw [closes0 (by rw [xv_ne (by omega)]; exact h), ybv_s]
theorem sh109_0 {x2 x3 v4 L : Int} (hx : x3 ≠ 0) (h : m 0 6 ≠ 0) (hm : m x3 1 = L) (hL : L ≤ 3) : ∀ (f : Nat) (v q : Int), (v = 0 ∨ v = 1) → 0 ≤ q → (q ≤ L ∨ q = 0) → L - q < f → 0 < f → G_X12_readsShape_109 N f m x2 x3 v4 v q = some (xv m x3 0 5) := by
  intro f
  induction f with
  | zero => intro v q g0 g1 g2 g3 g4; omega
  | succ f ih =>
    intro v q g0 g1 g2 g3 g4
    unfold G_X12_readsShape_109 G_X12_readsShape_137
    rw [hm]
    by_cases c1 : L ≤ q
    · rw [if_pos c1, gwrong0 h, ybv_s, sh158_0 hx h]
      by_cases c2 : v = 0
      · rw [if_pos c2]
      · rw [if_neg c2]
    · rw [if_neg c1]
      simp (disch := omega) only [xlet_q, xq_in]
      rw [wr_in (by omega) (by omega)]
      have y1 : yand v 1 = 0 ∨ yand v 1 = 1 := by
        rcases g0 with e | e
        · subst e; exact Or.inl yand01
        · subst e; exact Or.inr yand11
      have y0 : yand v 0 = 0 ∨ yand v 0 = 1 := by
        rcases g0 with e | e
        · subst e; exact Or.inl yand00
        · subst e; exact Or.inl yand10
      by_cases c2 : m x2 q = m x2 (3 + q)
      · rw [if_pos c2]
        exact ih _ (q + 1) y1 (by omega) (by omega) (by omega) (by omega)
      · rw [if_neg c2]
        exact ih _ (q + 1) y0 (by omega) (by omega) (by omega) (by omega)
theorem sh52_0 {x2 x3 : Int} (h : m 0 6 ≠ 0) : G_X12_readsShape_52 N m x2 x3 = some (xv m 0 4 (wr (m 0 4 + 1))) := by
  unfold G_X12_readsShape_52
  rw [xlet_q, gfine0 (by rw [xv_ne (by omega)]; exact h), yb_s, if_pos rfl]
end
