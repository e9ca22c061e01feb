/-- the price of a word among those found -/
noncomputable def pf (m2 : IH) (w : Int) : Int := @dite _ (∃ j, 0 ≤ j ∧ j < m2 0 49 ∧ m2 33 j = w) (Classical.propDecidable _) (fun h => m2 34 h.choose) (fun _ => -1)
theorem pf_in {m m2 : IH} {w j : Int} (hB : RB m m2) (h1 : 0 ≤ j) (h2 : j < m2 0 49) (h3 : m2 33 j = w) : pf m2 w = m2 34 j := by
  have hx : ∃ j, 0 ≤ j ∧ j < m2 0 49 ∧ m2 33 j = w := ⟨j, h1, h2, h3⟩
  unfold pf
  rw [dif_pos hx]
  have e := hx.choose_spec
  have : hx.choose = j := by
    rcases Int.lt_trichotomy hx.choose j with q | q | q
    · exact absurd (e.2.2.trans h3.symm) (hB.2.2 _ _ e.1 q h2).1
    · exact q
    · exact absurd (h3.trans e.2.2.symm) (hB.2.2 _ _ h1 q e.2.1).1
  rw [this]
theorem pf_out {m2 : IH} {w : Int} (h : ∀ j, 0 ≤ j → j < m2 0 49 → m2 33 j ≠ w) : pf m2 w = -1 := by
  unfold pf
  exact dif_neg (fun ⟨j, a, b, d⟩ => h j a b d)
theorem pf_rng {m m2 : IH} {w : Int} (hB : RB m m2) : -1 ≤ pf m2 w ∧ pf m2 w ≤ 2475 := by
  by_cases h : ∃ j, 0 ≤ j ∧ j < m2 0 49 ∧ m2 33 j = w
  · obtain ⟨j, a, b, d⟩ := h
    rw [pf_in hB a b d]
    have := (hB.2.1 j a b).2
    omega
  · rw [pf_out (fun j a b d => h ⟨j, a, b, d⟩)]; omega
theorem priceFor0 {N : Nat} {c m m2 : IH} {r w : Int} (hB : RB m m2) (hr : 0 ≤ r ∧ r < 140) (hR : RWM c r m2) : ∀ (f : Nat) (j : Int), 0 ≤ j → j ≤ m2 0 49 → (∀ i, 0 ≤ i → i < j → m2 33 i ≠ w) → m2 0 49 - j < f → G_X0_priceFor_2 N f c r w j = some (pf m2 w, c) := by
  obtain ⟨r1, r2, r3, r4⟩ := hR
  intro f
  induction f with
  | zero => intro j h1 h2 h3 h4; omega
  | succ f ih =>
    intro j h1 h2 h3 h4
    unfold G_X0_priceFor_2
    simp (disch := omega) only [xlet_q, xq_in]
    rw [r1]
    by_cases c1 : m2 0 49 ≤ j
    · rw [if_pos c1, pf_out (fun i a b => h3 i a (by omega))]
    · rw [if_neg c1]
      have q := r4 j h1 (by omega)
      rw [q.1]
      by_cases c2 : m2 33 j = w
      · rw [if_pos c2, q.2.1, pf_in hB h1 (by omega) c2]
      · rw [if_neg c2, wr_in (by omega) (by omega)]
        exact ih (j + 1) (by omega) (by omega) (fun i a b => by
          by_cases ci : i = j
          · rw [ci]; exact c2
          · exact h3 i a (by omega)) (by omega)
theorem priceForS {N : Nat} {c m m2 : IH} {r w : Int} (hN : 20000 ≤ N) (hB : RB m m2) (hr : 0 ≤ r ∧ r < 140) (hR : RWM c r m2) : G_X0_priceFor N c r w = some (pf m2 w, c) := by
  have := hB.1
  unfold G_X0_priceFor
  rw [xlet_q]
  exact priceFor0 hB hr hR N 0 (by omega) (by omega) (fun i a b => by omega) (by omega)
/-- spelling a word on a net whose search is known -/
theorem spP {N : Nat} {c c0 c1 c2 m m1 m2 m1' : IH} {L w : Int} (hN : 20000 ≤ N) (h : TR c m) (hm : TM m m1) (h1 : NetR c1 m1 L) (hR : RN N c0 m1 L 60 c2 m2) (hw : 0 ≤ w ∧ w < m 0 10) (hB : RB m m2) (hf : ∀ a b, ¬ (5303 ≤ a ∧ a < 5352) → m1' a b = m1 a b) : ∃ m4, G_X12_spells N m1' w = some (m4 5303 0, m4) ∧ (∀ a b, ¬ (5303 ≤ a ∧ a < 5352) → m4 a b = m1 a b) ∧ 0 ≤ m4 5303 0 ∧ ((m4 5303 0 < 1000000 ∧ pf m2 w = m4 5303 0 + m 6 w ∧ pf m2 w ≠ -1 ∧ pf m2 w ≤ 2475) ∨ (1000000 ≤ m4 5303 0 ∧ pf m2 w = -1)) ∧ DPT m1 L w (fun i k => m4 (5303 + i) k) := by
  have w60 := h.1.2.1
  have lw := h.1.2.2.1 w hw.1 hw.2
  have e5 : m1 5 w = m 5 w := hm _ _ (by omega) (by omega) (by omega)
  have nm := h1.nm
  have nm' : NM m1' L := nm.mv (fun a b q => hf a b (by omega))
  obtain ⟨m4, s1, s2, s3⟩ := spellsM (N := N) (w := w) hN nm' (by omega) (by rw [hf _ _ (by omega), e5]; exact lw.1)
  have s3' : ∀ a b, ¬ (5303 ≤ a ∧ a < 5352) → m4 a b = m1 a b := fun a b q => by rw [s3 a b q, hf a b q]
  obtain ⟨r1, r2, r3, r4, r5⟩ := hR
  have m2o : ∀ a b, 35 < a → m2 a b = m1 a b := fun a b q => r5 a b (by omega) (by omega)
  have D1 : DPT m1 L w (fun i k => m4 (5303 + i) k) := s2.mv nm' (by rw [hf _ _ (by omega)]) (fun b => by rw [hf _ _ (by omega)]) (fun a b q1 q2 => by rw [hf _ _ (by omega)]) (fun b => by rw [hf _ _ (by omega)]) (fun _ _ _ _ _ _ => rfl)
  have D2 : DPT m2 L w (fun i k => m4 (5303 + i) k) := D1.mv nm (r5 _ _ (by omega) (by omega)) (fun b => r5 _ _ (by omega) (by omega)) (fun a b q1 q2 => m2o _ _ (by omega)) (fun b => m2o _ _ (by omega)) (fun _ _ _ _ _ _ => rfl)
  have t2 : ∀ a b, ¬ ((a = 0 ∧ (b = 0 ∨ 33 ≤ b)) ∨ a = 1) → ¬ (24 ≤ a ∧ a ≤ 51) → a < 2327 → m2 a b = m a b := fun a b z1 z2 z3 => by rw [r5 a b (by omega) (by omega)]; exact hm a b z1 z2 z3
  have e10 : m2 0 10 = m 0 10 := t2 _ _ (by omega) (by omega) (by omega)
  have e6 : m2 6 w = m 6 w := t2 _ _ (by omega) (by omega) (by omega)
  obtain ⟨P, pp', _⟩ := h.2.2.1
  have P2 : PATH m2 P := pp'.mv e10 (t2 _ _ (by omega) (by omega) (by omega)) (fun a b q1 q2 => t2 _ _ (by omega) (by omega) (by omega)) (fun a b q1 q2 => t2 _ _ (by omega) (by omega) (by omega))
  have pe := priceE (m := m2) (w := w) r2.2.1 P2 r2.1.nm (by rw [e10]; exact hw) D2 r4
  have i0 : (5303 : Int) + 0 = 5303 := by omega
  simp only [i0, e6] at pe
  have d0 : 0 ≤ m4 5303 0 := by
    have L0 := nm.1
    by_cases cL : L = 0
    · have := D1.1 0 (by omega) (by omega)
      rw [cL] at this
      simp only [i0] at this
      rw [this]
      by_cases cz : (0 : Int) = m1 5 w
      · rw [if_pos cz]; omega
      · rw [if_neg cz]; omega
    · have := (D1.2 0 0 (by omega) (by omega) (by omega) (by omega)).1.2
      simp only [i0] at this
      exact this
  refine ⟨m4, s1, s3', d0, ?_, D1⟩
  rcases pe with ⟨a, j, j1, j2, j3, j4⟩ | ⟨a, b⟩
  · left
    have := (hB.2.1 j j1 j2).2
    refine ⟨a, by rw [pf_in hB j1 j2 j3]; exact j4, ?_, ?_⟩
    · rw [pf_in hB j1 j2 j3]; omega
    · rw [pf_in hB j1 j2 j3]; omega
  · right
    exact ⟨a, pf_out b⟩
section
variable {N : Nat} {c m : IH}
/-- a word read as another, both sides -/
theorem apartS {p q : Int} (hN : 20000 ≤ N) (h : R N c m) (hp : 0 ≤ p ∧ p < m 0 10) (hq : 0 ≤ q ∧ q < m 0 10) : ∃ v c' m', G_X11_costBetween N c p q = some (v, c') ∧ G_X12_apartOf N m p q = some (v, m') ∧ R N c' m' ∧ m' 0 0 = m 0 0 ∧ m' 0 10 = m 0 10 ∧ -1 ≤ v ∧ v ≤ 2475 := by
  have w60 := h.tr.1.2.1
  obtain ⟨c', m2, a1, a2, a3, a4, lk⟩ := surelyS hN h.tr h.2.2.2.1 h.2.2.2.2.1 hp
  have hr := h.lk lk
  obtain ⟨rb, c1, c2, m1, b1, b2, b3, b4, b5⟩ := gvW hN h.tr h.2.2.2.1 hp a2
  obtain ⟨m4, d1, d2, d3, d4, _⟩ := spP (m1' := m1) (w := q) hN h.tr b4 b2 b5 hq rb (fun _ _ _ => rfl)
  have lw := h.tr.1.2.2.1 q hq.1 hq.2
  have l6 := (hr.tr.2.1.2.2.1 q hq.1 hq.2).2.1
  have f1 := fr_laysWord b1
  have f2 := fr_spells d1
  have tm : TM m m4 := fun a b z1 z2 z3 => by rw [d2 a b (by omega)]; exact b4 a b z1 z2 z3
  have fin := hr.mv hN tm (fun b => by rw [f2.1, f1.1])
  have z : m4 0 0 = m 0 0 := by rw [f2.2.1, f1.2.1]
  have e10 : m4 0 10 = m 0 10 := tm _ _ (by omega) (by omega) (by omega)
  unfold G_X11_costBetween G_X12_apartOf
  rw [a1, ybv_s, wr_in (by omega) (by omega), priceForS hN rb (by omega) a3, yb_s, b1, ybv_s, d1, yb_s]
  simp (disch := omega) only [xlet_q, xq_in]
  rcases d4 with ⟨e1, e2, e3, e4⟩ | ⟨e1, e2⟩
  · rw [if_neg e3, if_pos e1, l6, e2, wr_in (by omega) (by omega)]
    exact ⟨_, c', m4, rfl, by rw [show m4 5303 0 + m 6 q - m 6 q = m4 5303 0 by omega], fin, z, e10, by omega, by omega⟩
  · rw [if_pos e2, if_neg (by omega)]
    exact ⟨_, c', m4, rfl, rfl, fin, z, e10, by omega, by omega⟩
theorem twin60 {p q : Int} (hN : 20000 ≤ N) : ∀ (f : Nat) (c m : IH) (v3 v4 k : Int), R N c m → m 0 0 = 0 → (0 ≤ p ∧ p < m 0 10) → 0 ≤ k → k ≤ m 0 10 → m 0 10 - k < f → CX N 1 2 (G_X11_twin_20 N f c p q v3 v4 k) (G_X12_twin_60 N f m p q v3 v4 k) := by
  intro f
  induction f with
  | zero => intro c m v3 v4 k h z h1 h2 h3 h4; omega
  | succ f ih =>
    intro c m v3 v4 k h z h1 h2 h3 h4
    have e10 : c 4 0 = m 0 10 := h.tr.2.1.1
    have w60 := h.tr.1.2.1
    unfold G_X11_twin_20 G_X12_twin_60
    rw [e10]
    by_cases c1 : m 0 10 ≤ k
    · rw [if_pos c1, if_pos c1]
      by_cases cq : q = 0
      · rw [if_pos cq, if_pos cq]; exact CX.ok h z
      · rw [if_neg cq, if_neg cq]; exact CX.ok h z
    · rw [if_neg c1, if_neg c1]
      have go : ∀ (c m : IH) (v : Int), R N c m → m 0 0 = 0 → (0 ≤ p ∧ p < m 0 10) → k < m 0 10 → m 0 10 - k < f + 1 → CX N 1 2 (G_X11_twin_49 N (G_X11_twin_20 N f) c p q v3 v4 k v) (G_X12_twin_86 N (G_X12_twin_60 N f) m p q v3 v4 k v) := by
        intro c m v g1 g2 g3 g4 g5
        have w60 := g1.tr.1.2.1
        unfold G_X11_twin_49 G_X12_twin_86 G_X11_twin_77 G_X11_twin_70 G_X12_twin_117 G_X12_twin_110 G_X11_twin_77 G_X12_twin_117
        simp only [xlet_q]
        rw [wr_in (by omega) (by omega)]
        by_cases x1 : v = -1
        · rw [if_pos x1, if_pos x1]
          exact ih c m v3 v4 (k + 1) g1 g2 g3 (by omega) (by omega) (by omega)
        · rw [if_neg x1, if_neg x1]
          by_cases x2 : v4 = -1
          · rw [if_pos x2, if_pos x2]
            exact ih c m k v (k + 1) g1 g2 g3 (by omega) (by omega) (by omega)
          · rw [if_neg x2, if_neg x2]
            by_cases x3 : v4 ≤ v
            · rw [if_pos x3, if_neg (by omega)]
              exact ih c m v3 v4 (k + 1) g1 g2 g3 (by omega) (by omega) (by omega)
            · rw [if_neg x3, if_pos (by omega)]
              exact ih c m k v (k + 1) g1 g2 g3 (by omega) (by omega) (by omega)
      by_cases c2 : k = p
      · rw [if_pos c2, if_pos c2]
        exact go c m (-1) h z h1 (by omega) h4
      · rw [if_neg c2, if_neg c2]
        obtain ⟨v, c', m', a1, a2, a3, a4, a5, _⟩ := apartS (p := p) (q := k) hN h h1 (by omega)
        rw [a1, a2, yb_s, yb_s]
        exact go c' m' v a3 (by rw [a4]; exact z) (by rw [a5]; exact h1) (by omega) (by omega)
/-- the counts of pairs -/
theorem twins47 {p : Int} {k13 : IH → Int → Int → Int → Option YR} {k36 : IH → Int → Int → Int → Option (Int × IH)} {a W : Int} (hN : 20000 ≤ N) (hW : W ≤ 60) (ha : 0 ≤ a ∧ a < W) (hk : ∀ (c m : IH) (v : Int), R N c m → m 0 0 = 0 → m 0 10 = W → 0 ≤ v → v ≤ (a + 1) * W → CX N 0 1 (k13 c p v (a + 1)) (k36 m p v (a + 1))) : ∀ (f : Nat) (c m : IH) (v k : Int), R N c m → m 0 0 = 0 → m 0 10 = W → 0 ≤ v → v ≤ a * W + k → 0 ≤ k → k ≤ W → W - k < f → CX N 0 1 (G_X11_twins_27 N k13 f c p v a k) (G_X12_twins_47 N k36 f m p v a k) := by
  have aW : a * W ≤ 60 * 60 := Int.mul_le_mul (by omega) hW (by omega) (by omega)
  have aW0 : 0 ≤ a * W := Int.mul_nonneg ha.1 (by omega)
  have aS : (a + 1) * W = a * W + W := by rw [Int.add_mul, Int.one_mul]
  intro f
  induction f with
  | zero => intro c m v k h z h1 h2 h3 h4 h5 h6; omega
  | succ f ih =>
    intro c m v k h z h1 h2 h3 h4 h5 h6
    have e10 : c 4 0 = m 0 10 := h.tr.2.1.1
    unfold G_X11_twins_27 G_X12_twins_47
    rw [e10, h1]
    by_cases c1 : W ≤ k
    · rw [if_pos c1, if_pos c1]
      simp only [xlet_q]
      rw [wr_in (by omega) (by omega)]
      exact hk c m v h z h1 h2 (by omega)
    · rw [if_neg c1, if_neg c1]
      unfold G_X12_twins_82 G_X12_twins_83 G_X11_twins_56 G_X11_twins_73
      simp only [xlet_q]
      rw [wr_in (show -2147483648 ≤ k + 1 by omega) (by omega), wr_in (show -2147483648 ≤ v + 0 by omega) (by omega), wr_in (show -2147483648 ≤ v + 1 by omega) (by omega), show v + 0 = v by omega]
      by_cases c2 : k = a
      · rw [if_pos c2, if_pos c2.symm, if_true]
        exact ih c m v (k + 1) h z h1 h2 (by omega) (by omega) (by omega) (by omega)
      · rw [if_neg c2, if_neg (fun q => c2 q.symm)]
        obtain ⟨x, c', m', a1, a2, a3, a4, a5, a6, a7⟩ := apartS (p := a) (q := k) hN h (by omega) (by omega)
        rw [a1, a2, yb_s, yb_s, inM, yb_s]
        by_cases x1 : x = -1
        · rw [if_pos x1, if_neg (show ¬ (0 ≤ x ∧ x ≤ p) by omega), if_pos rfl]
          exact ih c' m' v (k + 1) a3 (by rw [a4]; exact z) (by rw [a5]; exact h1) h2 (by omega) (by omega) (by omega) (by omega)
        · rw [if_neg x1]
          by_cases x2 : p < x
          · rw [if_pos x2, if_neg (show ¬ (0 ≤ x ∧ x ≤ p) by omega), if_pos rfl]
            exact ih c' m' v (k + 1) a3 (by rw [a4]; exact z) (by rw [a5]; exact h1) h2 (by omega) (by omega) (by omega) (by omega)
          · rw [if_neg x2, if_pos (show 0 ≤ x ∧ x ≤ p by omega), if_neg i10]
            exact ih c' m' (v + 1) (k + 1) a3 (by rw [a4]; exact z) (by rw [a5]; exact h1) (by omega) (by omega) (by omega) (by omega) (by omega)
theorem twins36 {p W : Int} (hN : 20000 ≤ N) (hW : 0 ≤ W ∧ W ≤ 60) : ∀ (f : Nat) (c m : IH) (v a : Int), R N c m → m 0 0 = 0 → m 0 10 = W → 0 ≤ v → v ≤ a * W → 0 ≤ a → a ≤ W → W - a < f → CX N 0 1 (G_X11_twins_13 N f c p v a) (G_X12_twins_36 N f m p v a) := by
  intro f
  induction f with
  | zero => intro c m v k h z h1 h2 h3 h4 h5 h6; omega
  | succ f ih =>
    intro c m v a h z h1 h2 h3 h4 h5 h6
    have e10 : c 4 0 = m 0 10 := h.tr.2.1.1
    unfold G_X11_twins_13 G_X12_twins_36
    rw [e10, h1]
    by_cases c1 : W ≤ a
    · rw [if_pos c1, if_pos c1]; exact CX.ok h z
    · rw [if_neg c1, if_neg c1]
      simp only [xlet_q]
      exact twins47 (p := p) (a := a) (W := W) hN hW.2 (by omega) (fun c m v q1 q2 q3 q4 q5 => ih c m v (a + 1) q1 q2 q3 q4 q5 (by omega) (by omega) (by omega)) N c m v 0 h z h1 h2 (by omega) (by omega) (by omega) (by omega)
end
