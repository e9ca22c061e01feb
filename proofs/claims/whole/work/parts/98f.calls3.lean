section
variable {N : Nat} {c m : IH}
theorem netR {t : Int} (hN : 20000 ≤ N) (h : R N c m) (ht : 0 ≤ t ∧ t < m 16 0) : ∃ c' m', G_X4_ofCells N c (c 32 t) (m 197 t) = some c' ∧ G_X12_laysToken N m t 0 = some m' ∧ NetR c' m' (m 197 t) ∧ R N c' m' ∧ R N c m' ∧ m' 0 0 = m 0 0 ∧ (∀ a b, a < 57 ∨ 66 < a → c' a b = c a b) ∧ TM m m' ∧ ∀ i, 0 ≤ i → i < m 197 t → c 36 (c 32 t + i) = m' (2327 + i) 0 := by
  have hR := h.tr.2.2.2.2.2.1
  have hS := h.tr.2.2.2.1
  have hK := h.tr.2.2.2.2.1
  have hT := hR.2.2 t ht.1 ht.2
  have hb := hT.1
  have h40 := hR.1
  obtain ⟨m1, e1, e2, e3, e4⟩ := laysOne hN hT (by omega)
  obtain ⟨c', m', g1, g2, g3, g4, g5⟩ := netCells (c := c) (m := m1) (L := m 197 t) (st := c 32 t) hN (by omega) (by omega) (hS.mv (e4 _ _ (by omega) (by omega)) (fun a b q1 q2 => e4 _ _ (by omega) (by omega)) (fun a b q1 q2 => e4 _ _ (by omega) (by omega))) (hK.mv (fun b => e4 _ _ (by omega) (by omega))) e3 e2
  have el : G_X12_laysToken N m t 0 = some m' := by rw [e1, g2, ybv_s]
  have f1 := fr_laysToken el
  have tm : TM m m' := fun a b z1 z2 z3 => by rw [g5 a b (by omega) (by omega) (by omega), e4 a b (by omega) (by omega)]
  have hm := h.mv hN tm f1.1
  refine ⟨c', m', g1, el, g3, hm.cn (fun a b z1 z2 => g4 a b (by omega)), hm, f1.2.1, g4, tm, fun i i1 i2 => ?_⟩
  rw [g5 _ _ (by omega) (by omega) (by omega)]
  exact (e3 i i1 i2).1
/-- lines broken within a token -/
theorem breaksS {m' : IH} {t : Int} (hN : 20000 ≤ N) (h : RD c m) (ht : 0 ≤ t ∧ t < m 16 0) (hm : TM m m') : ∃ v, G_X5_countBreaks N 31 c t = some (v, c) ∧ G_X12_breaks N m' t = some (v, m') := by
  have hT := h.2.2 t ht.1 ht.2
  have hb := hT.1
  have h40 := h.1
  have e197 : m' 197 t = m 197 t := hm _ _ (by omega) (by omega) (by omega)
  have lp : ∀ (f : Nat) (v k : Int), 0 ≤ v → v ≤ k → 0 ≤ k → k ≤ m 197 t → m 197 t - k < f → ∃ v', G_X5_countBreaks_9 N 31 f c t v (c 32 t + k) = some (v', c) ∧ G_X12_breaks_4 N f m' t v k = some (v', m') := by
    intro f
    induction f with
    | zero => intro v k h1 h2 h3 h4 h5; omega
    | succ f ih =>
      intro v k h1 h2 h3 h4 h5
      unfold G_X5_countBreaks_9 G_X12_breaks_4 G_X5_countBreaks_35 G_X12_breaks_39
      have i1 : (31 : Int) + 1 = 32 := by omega
      have i2 : (31 : Int) + 5 = 36 := by omega
      have i3 : (197 : Int) + 0 = 197 := by omega
      have i4 : (0 * 40 + t) * 24 + k = t * 24 + k := by omega
      simp only [i1, i2, i3, i4]
      simp (disch := omega) only [xlet_q, xq_in]
      rw [e197]
      by_cases c1 : m 197 t ≤ k
      · rw [if_pos (by omega), if_pos c1]
        exact ⟨v, rfl, rfl⟩
      · rw [if_neg (by omega), if_neg c1]
        have cl := (hT.2.2.2.2 k h3 (by omega)).1
        have ex : m' (285 + (t * 24 + k)) 0 = m (285 + (t * 24 + k)) 0 := hm _ _ (by omega) (by omega) (by omega)
        rw [cl, ex, wr_in (show -2147483648 ≤ c 32 t + k + 1 by omega) (by omega), wr_in (show -2147483648 ≤ k + 1 by omega) (by omega), wr_in (show -2147483648 ≤ v + 1 by omega) (by omega), wr_in (show -2147483648 ≤ v + 0 by omega) (by omega), show v + 0 = v by omega, show c 32 t + k + 1 = c 32 t + (k + 1) by omega]
        by_cases c2 : m (285 + (t * 24 + k)) 0 = 10
        · rw [if_pos c2, if_pos c2]
          exact ih (v + 1) (k + 1) (by omega) (by omega) (by omega) (by omega) (by omega)
        · rw [if_neg c2, if_neg c2]
          exact ih v (k + 1) (by omega) (by omega) (by omega) (by omega) (by omega)
  obtain ⟨v, v1, v2⟩ := lp N 0 0 (by omega) (by omega) (by omega) (by omega) (by omega)
  refine ⟨v, ?_, ?_⟩
  · unfold G_X5_countBreaks
    simp (disch := omega) only [xlet_q, xq_in]
    rw [show (31 : Int) + 1 = 32 by omega]
    rw [show c 32 t + 0 = c 32 t by omega] at v1
    exact v1
  · unfold G_X12_breaks
    simp only [xlet_q]
    exact v2
/-- all edges of a net -/
theorem edgesAll {c' m' : IH} {L : Int} (hN : 20000 ≤ N) (h : NetR c' m' L) : G_X12_edgesOfAll N m' = some (c' 57 5, m') := by
  obtain ⟨n1, n2, n3, n4, n5⟩ := h
  have lp : ∀ (f : Nat) (k : Int), 0 ≤ k → k ≤ L → (0 ≤ c' 59 k ∧ c' 59 k ≤ 26 * k) → L - k < f → G_X12_edgesOfAll_4 N f m' (c' 59 k) k = some (c' 57 5, m') := by
    intro f
    induction f with
    | zero => intro k h1 h2 h3 h4; omega
    | succ f ih =>
      intro k h1 h2 h3 h4
      unfold G_X12_edgesOfAll_4
      rw [n2.2.1]
      by_cases c1 : L ≤ k
      · rw [if_pos c1, n2.2.2.1, show k = L by omega]
      · rw [if_neg c1]
        have a := n3 k h1 (by omega)
        have b := a.2.1
        simp (disch := omega) only [xlet_q, xq_in]
        rw [b, show c' 59 k + (c' 59 (k + 1) - c' 59 k) = c' 59 (k + 1) by omega, wr_in (by omega) (by omega), wr_in (by omega) (by omega)]
        exact ih (k + 1) (by omega) (by omega) (by omega) (by omega)
  unfold G_X12_edgesOfAll
  simp only [xlet_q]
  have := lp N 0 (by omega) (by omega) (by rw [n2.2.2.2.2]; omega) (by omega)
  rw [n2.2.2.2.2] at this
  exact this
/-- a token read plainly -/
theorem readAsS {m' : IH} {t : Int} (hN : 20000 ≤ N) (h : R N c m') (ht : 0 ≤ t ∧ t < m' 16 0) (h33 : m' 0 33 = m' 197 t) (hc : ∀ i, 0 ≤ i → i < m' 197 t → c 36 (c 32 t + i) = m' (2327 + i) 0) : ∃ v, G_X5_readAs N 31 c t = some (v, c) ∧ G_X12_readAs N m' = some (v, m') := by
  have hR := h.tr.2.2.2.2.2.1
  have hT := hR.2.2 t ht.1 ht.2
  have hb := hT.1
  have h40 := hR.1
  have nn := h.tr.1.1.1
  have lp : ∀ (f : Nat) (x k : Int), 0 ≤ x → x < m' 0 15 → 0 ≤ k → k ≤ m' 197 t → m' 197 t - k + 1 < f → ∃ v', G_X5_readAs_10 N 31 f c t x (c 32 t + k) = some (v', c) ∧ G_X12_readAs_4 N f m' x k = some (v', m') := by
    intro f
    induction f with
    | zero => intro x k h1 h2 h3 h4 h5; omega
    | succ f ih =>
      intro x k h1 h2 h3 h4 h5
      unfold G_X5_readAs_10 G_X12_readAs_4 G_X5_readAs_48 G_X12_readAs_44 G_X12_readAs_50
      have i1 : (31 : Int) + 1 = 32 := by omega
      have i2 : (31 : Int) + 5 = 36 := by omega
      simp only [i1, i2]
      simp (disch := omega) only [xlet_q, xq_in]
      have e11 := (h.tr.2.1.2.1.2.1 x h1 h2).2.2
      rw [h33, e11]
      have nx : ¬ x = -1 := by omega
      simp only [if_neg nx]
      by_cases c1 : m' 197 t ≤ k
      · rw [if_pos (by omega), if_pos c1]
        exact ⟨_, rfl, rfl⟩
      · rw [if_neg (by omega), if_neg c1]
        rw [hc k h3 (by omega), wr_in (show -2147483648 ≤ c 32 t + k + 1 by omega) (by omega), wr_in (show -2147483648 ≤ k + 1 by omega) (by omega), show c 32 t + k + 1 = c 32 t + (k + 1) by omega]
        by_cases c2 : m' (2327 + k) 0 = 10
        · rw [if_pos c2, if_pos c2]
          exact ih x (k + 1) h1 h2 (by omega) (by omega) (by omega)
        · rw [if_neg c2, if_neg c2, chC hN h.tr.1.1 h.tr.2.1.2.1 ⟨h1, h2⟩, chM hN h.tr.1.1 ⟨h1, h2⟩, yb_s, yb_s]
          rcases ch_cases m' x (m' (2327 + k) 0) with q | q
          · rw [if_pos q.1, q.1]
            obtain ⟨f', hf'⟩ : ∃ f', f = f' + 1 := ⟨f - 1, by omega⟩
            subst hf'
            unfold G_X12_readAs_4 G_X12_readAs_50
            by_cases c3 : m' 0 33 ≤ k + 1
            · rw [if_pos c3, if_pos rfl]; exact ⟨_, rfl, rfl⟩
            · rw [if_neg c3, if_pos rfl, if_pos rfl]; exact ⟨_, rfl, rfl⟩
          · rw [if_neg (by omega)]
            exact ih _ (k + 1) (by omega) (by omega) (by omega) (by omega) (by omega)
  obtain ⟨v, v1, v2⟩ := lp N 0 0 (by omega) (by omega) (by omega) (by omega) (by omega)
  refine ⟨v, ?_, ?_⟩
  · unfold G_X5_readAs
    simp (disch := omega) only [xlet_q, xq_in]
    rw [show (31 : Int) + 1 = 32 by omega]
    rw [show c 32 t + 0 = c 32 t by omega] at v1
    exact v1
  · unfold G_X12_readAs
    simp only [xlet_q]
    exact v2
/-- the least price of another reading of a cell -/
theorem leastS {j x : Int} (hN : 20000 ≤ N) (h : CL c m j x) (hj : 0 ≤ j ∧ j < 400) : ∃ v, G_X5_leastOther N 31 c j = some (v, c) ∧ G_X12_cell_110 N N m x (-1) 0 = some (v, m) := by
  obtain ⟨l1, l2, l3, l4, l5, l6, l7⟩ := h
  have lp : ∀ (f : Nat) (v k : Int), -1 ≤ v → v ≤ 99 → 0 ≤ k → k ≤ m x 1 → m x 1 - k < f → ∃ v', G_X5_leastOther_4 N 31 f c j v k = some (v', c) ∧ G_X12_cell_110 N f m x v k = some (v', m) := by
    intro f
    induction f with
    | zero => intro v k h1 h2 h3 h4 h5; omega
    | succ f ih =>
      intro v k h1 h2 h3 h4 h5
      unfold G_X5_leastOther_4 G_X12_cell_110 G_X5_leastOther_42 G_X12_cell_151 G_X12_less
      have i1 : (31 : Int) + 6 = 37 := by omega
      have i2 : (31 : Int) + 8 = 39 := by omega
      simp only [i1, i2]
      simp (disch := omega) only [xlet_q, xq_in]
      rw [l3]
      by_cases c1 : m x 1 ≤ k
      · rw [if_pos c1, if_pos c1]; exact ⟨v, rfl, rfl⟩
      · rw [if_neg c1, if_neg c1]
        have q := l7 k h3 (by omega)
        rw [q.2.1, wr_in (by omega) (by omega)]
        by_cases c2 : v = -1
        · rw [if_pos c2, if_pos c2]
          exact ih _ (k + 1) (by omega) (by omega) (by omega) (by omega) (by omega)
        · rw [if_neg c2, if_neg c2]
          by_cases c3 : m x (3 + 2 * k) ≤ v
          · rw [if_pos c3, yb_s, show min v (m x (3 + 2 * k)) = m x (3 + 2 * k) by omega]
            exact ih _ (k + 1) (by omega) (by omega) (by omega) (by omega) (by omega)
          · rw [if_neg c3, yb_s, show min v (m x (3 + 2 * k)) = v by omega]
            exact ih _ (k + 1) (by omega) (by omega) (by omega) (by omega) (by omega)
  obtain ⟨v, v1, v2⟩ := lp N (-1) 0 (by omega) (by omega) (by omega) (by omega) (by omega)
  refine ⟨v, ?_, v2⟩
  unfold G_X5_leastOther
  simp only [xlet_q]
  exact v1

theorem S_token {p q : Int} (hN : 20000 ≤ N) (h : R N c m) : CX N 1 2 (G_X11_token N c p q) (G_X12_token N m p q) := by
  unfold G_X11_token G_X12_token G_X12_token_19 G_X12_token_43
  have h' := h.m0 hN
  have z : xv m 0 0 0 0 0 = 0 := xv_eq rfl rfl
  rw [xlet_q]
  generalize xv m 0 0 0 = m at h' z ⊢
  rw [needT h', isT h', yb_s]
  by_cases c1 : 0 ≤ p ∧ p < m 16 0
  · rw [if_pos c1, if_pos c1, bx0, if_neg i10, bad0 z, yb_s, if_pos rfl, inM, yb_s, needB]
    by_cases c2 : 0 ≤ q ∧ q ≤ 6
    · rw [if_pos c2, if_pos c2, bx0, if_neg i10, bad0 z, yb_s, if_pos rfl]
      obtain ⟨c', m', a1, a2, a3, a4, a5, a6, a7, a8, a9⟩ := netR hN h' c1
      have rd := h'.tr.2.2.2.2.2.1
      have h40 := rd.1
      have tk := rd.2.2 p c1.1 c1.2
      have e197 : m' 197 p = m 197 p := a8 _ _ (by omega) (by omega) (by omega)
      have e16 : m' 16 0 = m 16 0 := a8 _ _ (by omega) (by omega) (by omega)
      have e199 : m' 199 p = m 199 p := a8 _ _ (by omega) (by omega) (by omega)
      have e201 : m' 201 p = m 201 p := a8 _ _ (by omega) (by omega) (by omega)
      have e33 : m' 0 33 = m 197 p := a3.2.1.2.1
      have z' : m' 0 0 = 0 := by rw [a6]; exact z
      obtain ⟨v, v1, v2⟩ := breaksS (N := N) hN rd c1 a8
      obtain ⟨w, w1, w2⟩ := readAsS (N := N) (t := p) hN a5 (by omega) (by omega) (fun i i1 i2 => a9 i i1 (by omega))
      have ea := edgesAll (N := N) hN a3
      have eo := outsideM (N := N) (m1 := m') (n := m 197 p) h'.tr.2.2.2.2.1 a8 (by have := tk.1; omega) e33
      rw [a2, ybv_s, w1, w2, v2, ea, eo, cellsS rd c1, v1, outsideS h'.tr c1, wr_in (by omega) (by omega)]
      simp (disch := omega) only [xlet_q, xq_in, yb_s]
      rw [a1, ybv_s, tk.2.1, tk.2.2.1, e33, e16, show (199 : Int) + 0 = 199 by omega, show (201 : Int) + 0 = 201 by omega, e199, e201]
      have : q = 0 ∨ q = 1 ∨ q = 2 ∨ q = 3 ∨ q = 4 ∨ q = 5 ∨ q = 6 := by omega
      rcases this with e | e | e | e | e | e | e <;> subst e <;> simp
      · exact CX.ok a5 z'
      · exact CX.ok a5 z'
      · exact CX.ok a5 z'
      · exact CX.ok a4 z'
      · exact CX.ok a5 z'
      · by_cases x1 : m 16 0 ≤ p + 1
        · rw [if_pos (fun y => by omega), if_pos x1]; exact CX.ok a5 z'
        · rw [if_neg x1]
          by_cases x2 : m 201 p = 1
          · rw [if_neg (fun y => y (by omega) x2), if_pos x2]; exact CX.ok a5 z'
          · rw [if_pos (fun y => x2), if_neg x2]; exact CX.ok a5 z'
      · by_cases x1 : w = -1
        · rw [if_pos x1, if_pos x1]; exact CX.ok a5 z'
        · rw [if_neg x1, if_neg x1]; exact CX.ok a5 z'
    · rw [if_neg c2, if_neg c2, bx2, if_pos rfl]
      exact cxB hN h' z (by omega)
  · rw [if_neg c1, if_neg c1, bx1, if_pos rfl]
    exact cxE hN h' z (by omega)

theorem S_rest {p q : Int} (hN : 20000 ≤ N) (h : R N c m) : CX N 1 0 (G_X11_rest N c p q) (G_X12_rest N m p q) := by
  unfold G_X11_rest G_X12_rest G_X12_rest_33 G_X12_rest_34 G_X12_rest_45
  have h' := h.m0 hN
  have z : xv m 0 0 0 0 0 = 0 := xv_eq rfl rfl
  rw [xlet_q]
  generalize xv m 0 0 0 = m at h' z ⊢
  rw [needT h', isT h', yb_s]
  by_cases c1 : 0 ≤ p ∧ p < m 16 0
  · rw [if_pos c1, if_pos c1, bx0, if_neg i10]
    have rd := h'.tr.2.2.2.2.2.1
    have h40 := rd.1
    have tk := (rd.2.2 p c1.1 c1.2).1
    rw [cellsS rd c1, yb_s, needE, wr_in (by omega) (by omega), show (197 : Int) + 0 = 197 by omega]
    simp (disch := omega) only [xlet_q, xq_in]
    rw [inM, yb_s]
    by_cases c2 : 0 ≤ q ∧ q ≤ m 197 p
    · rw [if_pos (show 0 ≤ q ∧ q < m 197 p + 1 by omega), if_pos c2, bx0, if_neg i10, if_neg i10, bad0 z, yb_s, if_pos rfl]
      obtain ⟨c', m', a1, a2, a3, a4, a5, a6, a7, a8, a9⟩ := netR hN h' c1
      rw [cellsS rd c1, yb_s, a1, ybv_s, a2, ybv_s]
      simp (disch := omega) only [xq_in]
      rw [(a3.2.2.2.1 q (by omega) c2.2).1]
      exact CX.ok a4 (by rw [a6]; exact z)
    · rw [if_neg (show ¬ (0 ≤ q ∧ q < m 197 p + 1) by omega), if_neg c2, bx1, if_pos rfl, if_true]
      exact cxE hN h' z (by omega)
  · rw [if_neg c1, if_neg c1, bx1, if_pos rfl]
    simp only [xlet_q, if_true]
    exact cxE hN h' z (by omega)

theorem S_cell {p q s : Int} (hN : 20000 ≤ N) (h : R N c m) : CX N 1 2 (G_X11_cell N c p q s) (G_X12_cell N m p q s) := by
  unfold G_X11_cell G_X12_cell G_X12_cell_35
  have h' := h.m0 hN
  have z : xv m 0 0 0 0 0 = 0 := xv_eq rfl rfl
  rw [xlet_q]
  generalize xv m 0 0 0 = m at h' z ⊢
  rw [needT h', isT h', yb_s]
  by_cases c1 : 0 ≤ p ∧ p < m 16 0
  · rw [if_pos c1, if_pos c1, bx0, if_neg i10]
    have rd := h'.tr.2.2.2.2.2.1
    have h40 := rd.1
    have tk0 := rd.2.2 p c1.1 c1.2
    have tk := tk0.1
    rw [cellsS rd c1, yb_s, needE, show (197 : Int) + 0 = 197 by omega, xlet_q, xq_in (by omega) (by omega), inS (by omega), yb_s]
    by_cases c2 : 0 ≤ q ∧ q < m 197 p
    · unfold G_X12_cell_36 G_X12_cell_49
      rw [if_pos c2, if_pos c2, bx0, if_neg i10, xlet_q, if_neg i10, bad0 z, yb_s, if_pos rfl, inM, yb_s, needB]
      by_cases c3 : 0 ≤ s ∧ s ≤ 2
      · unfold G_X12_cell_72
        rw [if_pos c3, if_pos c3, bx0, if_neg i10, bad0 z, yb_s, if_pos rfl]
        simp (disch := omega) only [xlet_q, xq_in]
        have cl := tk0.2.2.2.2 q c2.1 c2.2
        rw [wr_in (by omega) (by omega), show (0 * 40 + p) * 24 + q = p * 24 + q by omega]
        obtain ⟨v, v1, v2⟩ := leastS (N := N) hN cl (by omega)
        rw [v1, v2, yb_s]
        simp (disch := omega) only [xq_in]
        rw [cl.1, cl.2.2.1]
        have : s = 0 ∨ s = 1 ∨ s = 2 := by omega
        rcases this with e | e | e <;> subst e <;> simp (disch := omega) [xq_in] <;> exact CX.ok h' z
      · unfold G_X12_cell_72
        rw [if_neg c3, if_neg c3, bx2, if_pos rfl]
        exact cxB hN h' z (by omega)
    · unfold G_X12_cell_36 G_X12_cell_49
      rw [if_neg c2, if_neg c2, bx1, if_pos rfl, xlet_q, if_pos rfl]
      exact cxE hN h' z (by omega)
  · unfold G_X12_cell_36 G_X12_cell_49
    rw [if_neg c1, if_neg c1, bx1, if_pos rfl, xlet_q, if_pos rfl]
    exact cxE hN h' z (by omega)

end
