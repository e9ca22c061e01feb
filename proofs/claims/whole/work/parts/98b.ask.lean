section
variable {N : Nat} {c m : IH}
theorem bx0 {v : Int} {f : IH → Option YR} : ybx (some (0, v, c)) f = f c := rfl
theorem bx1 {f : IH → Option YR} : ybx (some (1, 0, c)) f = some (1, 0, c) := rfl
theorem bx2 {f : IH → Option YR} : ybx (some (2, 0, c)) f = some (2, 0, c) := rfl
theorem ybo1 {α : Type} {B : Option α} {P : Prop} [Decidable P] : ybo (if P then 1 else 0) B = B := by
  unfold ybo
  by_cases c1 : P
  · rw [if_pos c1, if_pos (Or.inr rfl)]
  · rw [if_neg c1, if_pos (Or.inl rfl)]
theorem R.tr (h : R N c m) : TR c m := h.2.2.1
theorem needT {p : Int} (h : R N c m) : G_X11_needToken N c p = if 0 ≤ p ∧ p < m 16 0 then some (0, 0, c) else some (1, 0, xv c 0 14 (wr (c 0 14 + 1))) := by
  have e : c 31 0 = m 16 0 := by have := h.tr.2.2.2.2.2.1.1; omega
  unfold G_X11_needToken
  rw [needE, e]
  by_cases c1 : 0 ≤ p ∧ p < m 16 0
  · rw [if_pos c1]; rfl
  · rw [if_neg c1]; rfl
theorem needW {p : Int} (h : R N c m) : G_X11_needWord N c p = if 0 ≤ p ∧ p < m 0 10 then some (0, 0, c) else some (1, 0, xv c 0 14 (wr (c 0 14 + 1))) := by
  have e : c 4 0 = m 0 10 := h.tr.2.1.1
  unfold G_X11_needWord
  rw [needE, e]
  by_cases c1 : 0 ≤ p ∧ p < m 0 10
  · rw [if_pos c1]; rfl
  · rw [if_neg c1]; rfl
theorem needN {p : Int} (h : R N c m) : G_X11_needNode N c p = if 0 ≤ p ∧ p < m 0 15 then some (0, 0, c) else some (1, 0, xv c 0 14 (wr (c 0 14 + 1))) := by
  have e : c 4 5 = m 0 15 := h.tr.2.1.2.1.1
  unfold G_X11_needNode
  rw [needE, e]
  by_cases c1 : 0 ≤ p ∧ p < m 0 15
  · rw [if_pos c1]; rfl
  · rw [if_neg c1]; rfl
theorem needS {p : Int} (h : R N c m) : G_X11_needShape N c p = if 0 ≤ p ∧ p < m 13 0 then some (0, 0, c) else some (1, 0, xv c 0 14 (wr (c 0 14 + 1))) := by
  have e : c 19 0 = m 13 0 := h.tr.2.2.2.1.1
  unfold G_X11_needShape
  rw [needE, e]
  by_cases c1 : 0 ≤ p ∧ p < m 13 0
  · rw [if_pos c1]; rfl
  · rw [if_neg c1]; rfl
theorem inS {p n : Int} (hn : 0 ≤ n ∧ n ≤ 1000) : G_X12_in N m p 0 (wr (n - 1)) = some ((if 0 ≤ p ∧ p < n then 1 else 0), m) := by
  rw [wr_in (by omega) (by omega), inM]
  by_cases c1 : 0 ≤ p ∧ p < n
  · rw [if_pos c1, if_pos (by omega)]
  · rw [if_neg c1, if_neg (by omega)]
theorem isT {p : Int} (h : R N c m) : G_X12_isToken N m p = some ((if 0 ≤ p ∧ p < m 16 0 then 1 else 0), m) := by
  have := h.tr.2.2.2.2.2.1.1
  unfold G_X12_isToken
  rw [inS (by omega), yb_s, ybo1]
theorem isW {p : Int} (h : R N c m) : G_X12_isWord N m p = some ((if 0 ≤ p ∧ p < m 0 10 then 1 else 0), m) := by
  have := h.tr.1.2.1
  unfold G_X12_isWord
  rw [inS (by omega), yb_s, ybo1]
theorem isN {p : Int} (h : R N c m) : G_X12_isNode N m p = some ((if 0 ≤ p ∧ p < m 0 15 then 1 else 0), m) := by
  have := h.tr.1.1.1
  unfold G_X12_isNode
  rw [inS (by omega), yb_s, ybo1]
theorem cxE {e1 e2 : Int} {g : IH → Option (Int × IH)} (hN : 20000 ≤ N) (h : R N c m) (h0 : m 0 0 = 0) (he : e1 ≠ 0) : CX N e1 e2 (some (1, 0, xv c 0 14 (wr (c 0 14 + 1)))) (yb (G_X12_bad N m 1 e1 0) (fun r a => if r = 0 then g a else some (0, a))) := by
  obtain ⟨m', b1, b2, b3⟩ := h.bad hN (p := e1) (q := 0) he (Or.inl rfl) h0
  rw [b1, yb_s, if_neg (by omega)]
  exact ⟨1, 0, _, 0, m', rfl, rfl, b3, Or.inr (Or.inl ⟨rfl, b2, he⟩)⟩
theorem cxB {e1 e2 : Int} {g : IH → Option (Int × IH)} (hN : 20000 ≤ N) (h : R N c m) (h0 : m 0 0 = 0) (he : e2 ≠ 0) : CX N e1 e2 (some (2, 0, xv c 0 15 (wr (c 0 15 + 1)))) (yb (G_X12_bad N m 1 e2 1) (fun r a => if r = 0 then g a else some (0, a))) := by
  obtain ⟨m', b1, b2, b3⟩ := h.bad hN (p := e2) (q := 1) he (Or.inr rfl) h0
  rw [b1, yb_s, if_neg (by omega)]
  exact ⟨2, 0, _, 0, m', rfl, rfl, b3, Or.inr (Or.inr ⟨rfl, b2, he⟩)⟩
theorem S_word {p q : Int} (hN : 20000 ≤ N) (h : R N c m) : CX N 1 2 (G_X11_word N c p q) (G_X12_word N m p q) := by
  unfold G_X11_word G_X12_word G_X12_word_19 G_X12_word_42
  have h' := h.m0 hN
  have z : xv m 0 0 0 0 0 = 0 := xv_eq rfl rfl
  rw [xlet_q]
  generalize xv m 0 0 0 = m at h' z ⊢
  rw [needW h', isW h', yb_s]
  by_cases c1 : 0 ≤ p ∧ p < m 0 10
  · rw [if_pos c1, if_pos c1, bx0, if_neg (by omega), bad0 z, yb_s, if_pos rfl, inM, yb_s, needB]
    by_cases c2 : 0 ≤ q ∧ q ≤ 3
    · rw [if_pos c2, if_pos c2, bx0, if_neg (by omega), bad0 z, yb_s, if_pos rfl]
      have l := h'.tr.2.1.2.2.1 p c1.1 c1.2
      have lm := h'.tr.1.2.2.1 p c1.1 c1.2
      have ln := h'.tr.1.2.1
      have l14 := (h'.tr.2.1.2.2.2 (m 7 p) (by omega) (by omega)).2
      have nn := h'.tr.1.1.1
      have : q = 0 ∨ q = 1 ∨ q = 2 ∨ q = 3 := by omega
      rcases this with e | e | e | e <;> subst e <;> simp (disch := omega) [xq_in, l.1, l.2.1, l.2.2.1, l14] <;> exact CX.ok h' z
    · rw [if_neg c2, if_neg c2, bx2, if_pos rfl]
      exact cxB hN h' z (by omega)
  · rw [if_neg c1, if_neg c1, bx1, if_pos rfl]
    exact cxE hN h' z (by omega)
end
