section
variable {N : Nat} {c m : IH}
theorem yand11 : yand 1 1 = 1 := by decide
theorem yand10 : yand 1 0 = 0 := by decide
theorem yand01 : yand 0 1 = 0 := by decide
theorem yand00 : yand 0 0 = 0 := by decide
/-- the two parts of a shape are alike or not, both sides -/
theorem alikeS {k S x2 x3 v4 L1 L2 : Int} (hN : 20000 ≤ N) (hS : 0 ≤ S ∧ S < 20) (hk : c k 0 = S) (h1 : c (k + 2) S = L1) (h2 : c (k + 3) S = L2) (hm1 : m x3 1 = L1) (hL1 : 1 ≤ L1 ∧ L1 ≤ 3) (ha : ∀ a, 0 ≤ a → a < L1 → c (k + 4) (S * 3 + a) = m x2 a) (hb : ∀ a, 0 ≤ a → a < L2 → c (k + 5) (S * 3 + a) = m x2 (3 + a)) : ∃ v, (v = 0 ∨ v = 1) ∧ G_X8_partsAlike N k c = some (v, c) ∧ G_X12_readsShape_104 N m x2 x3 v4 (if L1 = L2 then 1 else 0) = if v = 0 then G_X12_readsShape_158 N m x3 else ybv (G_X12_wrong N m 1 v4) (fun a => G_X12_readsShape_158 N a x3) := by
  have zero : ∀ (f : Nat) (q : Int), 0 ≤ q → q ≤ L1 → L1 - q < f → G_X12_readsShape_109 N f m x2 x3 v4 0 q = G_X12_readsShape_158 N m x3 := by
    intro f
    induction f with
    | zero => intro q g1 g2 g3; omega
    | succ f ih =>
      intro q g1 g2 g3
      unfold G_X12_readsShape_109 G_X12_readsShape_137
      rw [hm1]
      by_cases c1 : L1 ≤ q
      · rw [if_pos c1, if_pos rfl]
      · rw [if_neg c1]
        simp (disch := omega) only [xlet_q, xq_in]
        rw [wr_in (by omega) (by omega), yand01, yand00]
        by_cases c2 : m x2 q = m x2 (3 + q)
        · rw [if_pos c2]; exact ih (q + 1) (by omega) (by omega) (by omega)
        · rw [if_neg c2]; exact ih (q + 1) (by omega) (by omega) (by omega)
  unfold G_X8_partsAlike G_X12_readsShape_104
  rw [hk]
  simp (disch := omega) only [xlet_q, xq_in]
  rw [h1, h2]
  by_cases cl : L1 = L2
  · rw [if_pos cl, if_pos cl]
    have lp : ∀ (f : Nat) (q : Int), 0 ≤ q → q ≤ L1 → L1 - q < f → ∃ v, (v = 0 ∨ v = 1) ∧ G_X8_partsAlike_25 N k f c q = some (v, c) ∧ G_X12_readsShape_109 N f m x2 x3 v4 1 q = if v = 0 then G_X12_readsShape_158 N m x3 else ybv (G_X12_wrong N m 1 v4) (fun a => G_X12_readsShape_158 N a x3) := by
      intro f
      induction f with
      | zero => intro q g1 g2 g3; omega
      | succ f ih =>
        intro q g1 g2 g3
        unfold G_X8_partsAlike_25 G_X12_readsShape_109 G_X12_readsShape_137
        rw [hm1, hk]
        simp (disch := omega) only [xlet_q, xq_in]
        rw [h1]
        by_cases c1 : L1 ≤ q
        · rw [if_pos c1, if_pos c1]
          exact ⟨1, Or.inr rfl, rfl, rfl⟩
        · rw [if_neg c1, if_neg c1]
          rw [ha q g1 (by omega), hb q g1 (by omega), wr_in (by omega) (by omega), yand11, yand10]
          by_cases c2 : m x2 q = m x2 (3 + q)
          · rw [if_pos c2, if_pos c2]
            exact ih (q + 1) (by omega) (by omega) (by omega)
          · rw [if_neg c2, if_neg c2]
            exact ⟨0, Or.inl rfl, rfl, by rw [if_pos rfl]; exact zero f (q + 1) (by omega) (by omega) (by omega)⟩
    exact lp N 0 (by omega) (by omega) (by omega)
  · rw [if_neg cl, if_neg cl]
    exact ⟨0, Or.inl rfl, rfl, by rw [if_pos rfl]; exact zero N 0 (by omega) (by omega) (by omega)⟩
end
