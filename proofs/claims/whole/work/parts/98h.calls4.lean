section
variable {N : Nat} {c m : IH}
/-- how often a shape is taken on a way -/
theorem used60 {c' m' : IH} {L p : Int} {k41 : IH → Int → Int → Int → Option (Int × IH)} (hN : 20000 ≤ N) (hW : WR c' m' L) (hR : NetR c' m' L) {t : Int} (ht : 0 ≤ t ∧ t < 40) : ∀ (f : Nat) (v k u : Int), 0 ≤ v → 0 ≤ k → k ≤ m' 0 53 → 0 ≤ u → u ≤ 40 * 24 → v ≤ k → m' 0 53 - k < f → ∃ v', v ≤ v' ∧ v' ≤ m' 0 53 ∧ G_X10_countShape_4 N f c' p v k = some (v', c') ∧ G_X12_used_60 N k41 f m' p (u + v) t k = k41 m' p (u + v') (t + 1) := by
  obtain ⟨x1, x2, x3, x4⟩ := hW
  intro f
  induction f with
  | zero => intro v k u h1 h2 h3 h4 h5 h6 h7; omega
  | succ f ih =>
    intro v k u h1 h2 h3 h4 h5 h6 h7
    unfold G_X10_countShape_4 G_X12_used_60 G_X10_countShape_33 G_X12_used_102
    rw [x1]
    by_cases c1 : m' 0 53 ≤ k
    · rw [if_pos c1, if_pos c1, xlet_q, wr_in (by omega) (by omega)]
      exact ⟨v, by omega, by omega, rfl, rfl⟩
    · rw [if_neg c1, if_neg c1]
      obtain ⟨y1, y2, y3⟩ := x4 k h2 (by omega)
      have e := hR.e y1 y2
      have n25 := (hR.nm.2.2.1 (m' 36 k) y1.1 y1.2).2.1
      have l24 := hR.1
      obtain ⟨e1, e2⟩ := e
      simp (disch := omega) only [xlet_q, xq_in]
      rw [y3, e2.2.2.2.2.1, wr_in (show -2147483648 ≤ k + 1 by omega) (by omega), wr_in (show -2147483648 ≤ v + 1 by omega) (by omega), wr_in (show -2147483648 ≤ u + v + 1 by omega) (by omega), wr_in (show -2147483648 ≤ u + v + 0 by omega) (by omega), show u + v + 1 = u + (v + 1) by omega, show u + v + 0 = u + v by omega]
      by_cases c2 : m' (2423 + (m' 36 k * 60 + m' 37 k)) 6 = p
      · rw [if_pos c2, if_pos c2]
        obtain ⟨v', a1, a2, a3, a4⟩ := ih (v + 1) (k + 1) u (by omega) (by omega) (by omega) h4 h5 (by omega) (by omega)
        exact ⟨v', by omega, a2, a3, a4⟩
      · rw [if_neg c2, if_neg c2]
        exact ih v (k + 1) u h1 (by omega) (by omega) h4 h5 (by omega) (by omega)
theorem used41 {p : Int} (hN : 20000 ≤ N) : ∀ (f : Nat) (c m : IH) (v t : Int), R N c m → m 0 0 = 0 → 0 ≤ t → t ≤ m 16 0 → 0 ≤ v → v ≤ t * 24 → m 16 0 - t < f → CX N 1 0 (G_X11_used_9 N f c p v t) (G_X12_used_41 N f m p v t) := by
  intro f
  induction f with
  | zero => intro c m v t h z h1 h2 h3 h4 h5; omega
  | succ f ih =>
    intro c m v t h z h1 h2 h3 h4 h5
    have h40 := h.tr.2.2.2.2.2.1.1
    unfold G_X11_used_9 G_X12_used_41
    rw [h40.1]
    by_cases c1 : m 16 0 ≤ t
    · rw [if_pos c1, if_pos c1]
      exact CX.ok h z
    · rw [if_neg c1, if_neg c1]
      unfold G_X11_used_39
      obtain ⟨c', m', a1, a2, a3, a4⟩ := wayS (t := t) hN h ⟨h1, by omega⟩
      have e16 : m' 16 0 = m 16 0 := a3 _ _ (by omega) (by omega) (by omega)
      have z' : m' 0 0 = 0 := by rw [a2]; exact z
      rcases a4 with ⟨b1, b2, b3⟩ | ⟨b1, b2, b3, b4, b5⟩
      · rw [b1, b2, yb_s, yb_s, if_pos rfl, xlet_q, xlet_q, wr_in (by omega) (by omega)]
        have e : ∀ (K : Nat) (k41 : IH → Int → Int → Int → Option (Int × IH)) (f' : Nat), G_X12_used_60 K k41 (f' + 1) m' p v t 0 = k41 m' p v (t + 1) := by
          intro K k41 f'
          unfold G_X12_used_60
          rw [if_pos (by omega), xlet_q, wr_in (by omega) (by omega)]
        obtain ⟨N', hN'⟩ : ∃ N', N = N' + 1 := ⟨N - 1, by omega⟩
        have e := e N (G_X12_used_41 N f) N'
        rw [← hN'] at e
        rw [e]
        exact ih c' m' v (t + 1) a1 z' (by omega) (by omega) h3 (by omega) (by omega)
      · rw [b1, b2, yb_s, yb_s, if_neg i10, xlet_q]
        have w := b3.2.2.1
        obtain ⟨v', d1, d2, d3, d4⟩ := used60 (N := N) (p := p) (k41 := G_X12_used_41 N f) (t := t) hN b3 b4 (by omega) N 0 0 v (by omega) (by omega) b3.2.1 h3 (by omega) (by omega) (by omega)
        unfold G_X10_countShape
        simp only [xlet_q]
        rw [show v + 0 = v by omega] at d4
        rw [d3, d4, yb_s, wr_in (by omega) (by omega), wr_in (by omega) (by omega)]
        exact ih c' m' (v + v') (t + 1) a1 z' (by omega) (by omega) (by omega) (by omega) (by omega)

theorem S_used {p : Int} (hN : 20000 ≤ N) (h : R N c m) : CX N 1 0 (G_X11_used N c p) (G_X12_used N m p) := by
  unfold G_X11_used G_X12_used G_X12_used_27
  have h' := h.m0 hN
  have z : xv m 0 0 0 0 0 = 0 := xv_eq rfl rfl
  rw [xlet_q]
  generalize xv m 0 0 0 = m at h' z ⊢
  have hsr := h'.tr.2.2.2.1
  have hs13 : 0 ≤ m 13 0 ∧ m 13 0 ≤ 20 := ⟨hsr.2.1, hsr.2.2.1⟩
  rw [needS h', inS (by omega), yb_s]
  by_cases c1 : 0 ≤ p ∧ p < m 13 0
  · rw [if_pos c1, if_pos c1, bx0, if_neg i10, bad0 z, yb_s, if_pos rfl]
    simp only [xlet_q]
    have h40 := h'.tr.2.2.2.2.2.1.1
    exact used41 hN N c m 0 0 h' z (by omega) (by omega) (by omega) (by omega) (by omega)
  · rw [if_neg c1, if_neg c1, bx1, if_pos rfl]
    exact cxE hN h' z (by omega)

theorem S_way {p q : Int} (hN : 20000 ≤ N) (h : R N c m) : CX N 1 2 (G_X11_way N c p q) (G_X12_way N m p q) := by
  unfold G_X11_way G_X12_way G_X12_way_19 G_X12_way_42
  have h' := h.m0 hN
  have z : xv m 0 0 0 0 0 = 0 := xv_eq rfl rfl
  rw [xlet_q]
  generalize xv m 0 0 0 = m at h' z ⊢
  rw [needT h', isT h', yb_s]
  by_cases c1 : 0 ≤ p ∧ p < m 16 0
  · rw [if_pos c1, if_pos c1, bx0, if_neg i10, bad0 z, yb_s, if_pos rfl, inM, yb_s, needB]
    by_cases c2 : 0 ≤ q ∧ q ≤ 1
    · rw [if_pos c2, if_pos c2, bx0, if_neg i10, bad0 z, yb_s, if_pos rfl]
      obtain ⟨c', m', a1, a2, a3, a4⟩ := wayS (t := p) hN h' c1
      have z' : m' 0 0 = 0 := by rw [a2]; exact z
      rcases a4 with ⟨b1, b2, b3⟩ | ⟨b1, b2, b3, b4, b5⟩
      · rw [b1, b2, yb_s, yb_s, if_pos rfl, if_pos rfl]
        exact CX.ok a1 z'
      · rw [b1, b2, yb_s, yb_s, if_neg i10, if_neg i10, b3.1, b5, xlet_q, show (5303 : Int) + 0 = 5303 by omega]
        by_cases c3 : q = 0
        · rw [if_pos c3, if_pos c3]; exact CX.ok a1 z'
        · rw [if_neg c3, if_neg c3]; exact CX.ok a1 z'
    · rw [if_neg c2, if_neg c2, bx2, if_pos rfl]
      exact cxB hN h' z (by omega)
  · rw [if_neg c1, if_neg c1, bx1, if_pos rfl]
    exact cxE hN h' z (by omega)

theorem S_edge {p q s : Int} (hN : 20000 ≤ N) (h : R N c m) : CX N 1 2 (G_X11_edge N c p q s) (G_X12_edge_ N m p q s) := by
  unfold G_X11_edge G_X12_edge_
  have h' := h.m0 hN
  have z : xv m 0 0 0 0 0 = 0 := xv_eq rfl rfl
  rw [xlet_q]
  generalize xv m 0 0 0 = m at h' z ⊢
  rw [needT h', isT h', yb_s, xlet_q]
  by_cases c1 : 0 ≤ p ∧ p < m 16 0
  · rw [if_pos c1, if_pos c1, bx0, if_neg i10]
    obtain ⟨c', m', a1, a2, a3, a4⟩ := wayS (t := p) hN h' c1
    have z' : m' 0 0 = 0 := by rw [a2]; exact z
    unfold G_X11_edge_26 G_X12_edge__23 G_X12_edge__43 G_X12_edge__48
    rcases a4 with ⟨b1, b2, b3⟩ | ⟨b1, b2, b3, b4, b5⟩
    · rw [b1, b2, yb_s, yb_s, if_pos rfl, if_neg i10, needE, b3, inS (by omega), yb_s]
      rw [if_neg (show ¬ (0 ≤ q ∧ q < 0) by omega), if_neg (show ¬ (0 ≤ q ∧ q < 0) by omega), bx1, if_pos rfl]
      exact cxE hN a1 z' (by omega)
    · have w := b3.2.2.1
      have w0 := b3.2.1
      rw [b1, b2, yb_s, yb_s, if_neg i10, if_neg i10, needE, b3.1, inS (by omega), yb_s]
      by_cases c2 : 0 ≤ q ∧ q < m' 0 53
      · rw [if_pos c2, if_pos c2, bx0, if_neg i10, bad0 z', yb_s, if_pos rfl, inM, yb_s, needB]
        by_cases c3 : 0 ≤ s ∧ s ≤ 4
        · unfold G_X12_edge__71
          rw [if_pos c3, if_pos c3, bx0, if_neg i10, bad0 z', yb_s, if_pos rfl]
          obtain ⟨y1, y2, y3⟩ := b3.2.2.2 q c2.1 c2.2
          obtain ⟨e1, e2⟩ := b4.e y1 y2
          have n25 := (b4.nm.2.2.1 (m' 36 q) y1.1 y1.2).2.1
          have l24 := b4.1
          simp (disch := omega) only [xlet_q, xq_in]
          rw [y3, e2.1, e2.2.1, e2.2.2.1, e2.2.2.2.1, e2.2.2.2.2.1]
          have : s = 0 ∨ s = 1 ∨ s = 2 ∨ s = 3 ∨ s = 4 := by omega
          rcases this with e | e | e | e | e <;> subst e <;> simp <;> exact CX.ok a1 z'
        · unfold G_X12_edge__71
          rw [if_neg c3, if_neg c3, bx2, if_pos rfl]
          exact cxB hN a1 z' (by omega)
      · rw [if_neg c2, if_neg c2, bx1, if_pos rfl]
        exact cxE hN a1 z' (by omega)
  · unfold G_X12_edge__23 G_X12_edge__43 G_X12_edge__48
    rw [if_neg c1, if_neg c1, bx1, if_pos rfl, if_pos rfl]
    exact cxE hN h' z (by omega)

end
