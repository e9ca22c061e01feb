/-- a state's key -/
def ks (m : IH) (s : Int) : Int := bnd m s * 32768 + (60 + (24 - s / 721) * 721 + s % 721)
/-- a state whose bound is small -/
def OK (m : IH) (s : Int) : Prop := 0 ≤ s ∧ s / 721 ≤ 24 ∧ 0 ≤ bnd m s ∧ bnd m s < 60000
theorem boundM {N : Nat} {m : IH} {s : Int} (h : OK m s) : G_X12_boundOf N m s = some (bnd m s, m) := by
  obtain ⟨h1, h2, h3, h4⟩ := h
  unfold G_X12_boundOf
  rw [Int.tdiv_eq_ediv_of_nonneg h1, show s - s / 721 * 721 = s % 721 by omega]
  (try simp (disch := omega) only [xlet_q, xq_in])
  unfold bnd at *
  rw [wr_in (by omega) (by omega)]
theorem first0 {N : Nat} {m : IH} (hw : 0 ≤ m 0 42 ∧ m 0 42 ≤ 18025) (hB : ∀ k, 0 ≤ k → k < m 0 42 → OK m (m 31 k)) : ∀ (f : Nat) (b v : Int), 0 ≤ v → v ≤ m 0 42 → ((b = -1 ∧ v = 0) ∨ (0 ≤ b ∧ b < v ∧ ∀ k, 0 ≤ k → k < v → ks m (m 31 b) ≤ ks m (m 31 k))) → m 0 42 - v < f → ∃ r, G_X12_firstState_4 N f m b v = some (r, m) ∧ ((r = -1 ∧ m 0 42 = 0) ∨ (0 ≤ r ∧ r < m 0 42 ∧ ∀ k, 0 ≤ k → k < m 0 42 → ks m (m 31 r) ≤ ks m (m 31 k))) := by
  intro f
  induction f with
  | zero => intro b v h1 h2 h3 h4; omega
  | succ f ih =>
    intro b v h1 h2 h3 h4
    unfold G_X12_firstState_4 G_X12_firstState_110 G_X12_firstState_112
    by_cases c1 : m 0 42 ≤ v
    · rw [if_pos c1]
      have : v = m 0 42 := by omega
      subst this
      refine ⟨b, rfl, ?_⟩
      rcases h3 with h3 | h3
      · exact Or.inl h3
      · exact Or.inr h3
    · rw [if_neg c1]
      have w1 : wr (v + 1) = v + 1 := wr_in (by omega) (by omega)
      rcases h3 with ⟨h3, h5⟩ | ⟨h3, h5, h6⟩
      · rw [if_pos h3, xlet_q, xlet_q, w1]
        refine ih _ _ (by omega) (by omega) (Or.inr ⟨h1, by omega, fun k k1 k2 => ?_⟩) (by omega)
        rw [show k = v by omega]
        exact Int.le_refl _
      · rw [if_neg (by omega)]
        (try simp (disch := omega) only [xlet_q, xq_in])
        have o1 := hB v h1 (by omega)
        have o2 := hB b h3 (by omega)
        rw [boundM o1, yb_s, boundM o2, yb_s, Int.tdiv_eq_ediv_of_nonneg o1.1, Int.tdiv_eq_ediv_of_nonneg o2.1, w1]
        have keep : ks m (m 31 b) ≤ ks m (m 31 v) → ∃ r, G_X12_firstState_4 N f m b (v + 1) = some (r, m) ∧ ((r = -1 ∧ m 0 42 = 0) ∨ (0 ≤ r ∧ r < m 0 42 ∧ ∀ k, 0 ≤ k → k < m 0 42 → ks m (m 31 r) ≤ ks m (m 31 k))) := by
          intro q
          refine ih b (v + 1) (by omega) (by omega) (Or.inr ⟨h3, by omega, fun k k1 k2 => ?_⟩) (by omega)
          by_cases ck : k = v
          · rw [ck]; exact q
          · exact h6 k k1 (by omega)
        have take : ks m (m 31 v) ≤ ks m (m 31 b) → ∃ r, G_X12_firstState_4 N f m v (v + 1) = some (r, m) ∧ ((r = -1 ∧ m 0 42 = 0) ∨ (0 ≤ r ∧ r < m 0 42 ∧ ∀ k, 0 ≤ k → k < m 0 42 → ks m (m 31 r) ≤ ks m (m 31 k))) := by
          intro q
          refine ih v (v + 1) (by omega) (by omega) (Or.inr ⟨h1, by omega, fun k k1 k2 => ?_⟩) (by omega)
          by_cases ck : k = v
          · rw [ck]; exact Int.le_refl _
          · exact Int.le_trans q (h6 k k1 (by omega))
        unfold OK at o1 o2
        unfold ks at keep take
        by_cases d1 : bnd m (m 31 v) < bnd m (m 31 b)
        · rw [if_pos d1]
          exact take (by omega)
        · rw [if_neg d1]
          by_cases d2 : bnd m (m 31 v) = bnd m (m 31 b)
          · rw [if_pos d2]
            by_cases d3 : m 31 b / 721 < m 31 v / 721
            · rw [if_pos d3]
              exact take (by omega)
            · rw [if_neg d3]
              by_cases d4 : m 31 v / 721 = m 31 b / 721
              · rw [if_pos d4]
                by_cases d5 : m 31 b ≤ m 31 v
                · rw [if_pos d5]
                  exact keep (by omega)
                · rw [if_neg d5]
                  exact take (by omega)
              · rw [if_neg d4]
                exact keep (by omega)
          · rw [if_neg d2]
            exact keep (by omega)
theorem firstS {N : Nat} {m : IH} (hN : 20000 ≤ N) (hw : 0 ≤ m 0 42 ∧ m 0 42 ≤ 18025) (hB : ∀ k, 0 ≤ k → k < m 0 42 → OK m (m 31 k)) : ∃ r, G_X12_firstState N m = some (r, m) ∧ ((r = -1 ∧ m 0 42 = 0) ∨ (0 ≤ r ∧ r < m 0 42 ∧ ∀ k, 0 ≤ k → k < m 0 42 → ks m (m 31 r) ≤ ks m (m 31 k))) :=
  first0 hw hB N (-1) 0 (by omega) (by omega) (Or.inl ⟨rfl, rfl⟩) (by omega)
theorem answer0 {N : Nat} {m : IH} (hw : 0 ≤ m 0 10 ∧ m 0 10 ≤ 60) : ∀ (f : Nat) (b v : Int), 0 ≤ v → v ≤ m 0 10 → ((b = -1 ∧ ∀ k, 0 ≤ k → k < v → m 32 k < 0) ∨ (0 ≤ b ∧ b < v ∧ 0 ≤ m 32 b ∧ ∀ k, 0 ≤ k → k < v → 0 ≤ m 32 k → m 32 b * 32768 + b ≤ m 32 k * 32768 + k)) → m 0 10 - v < f → ∃ r, G_X12_firstAnswer_4 N f m b v = some (r, m) ∧ ((r = -1 ∧ ∀ k, 0 ≤ k → k < m 0 10 → m 32 k < 0) ∨ (0 ≤ r ∧ r < m 0 10 ∧ 0 ≤ m 32 r ∧ ∀ k, 0 ≤ k → k < m 0 10 → 0 ≤ m 32 k → m 32 r * 32768 + r ≤ m 32 k * 32768 + k)) := by
  intro f
  induction f with
  | zero => intro b v h1 h2 h3 h4; omega
  | succ f ih =>
    intro b v h1 h2 h3 h4
    unfold G_X12_firstAnswer_4 G_X12_firstAnswer_41 G_X12_firstAnswer_43
    by_cases c1 : m 0 10 ≤ v
    · rw [if_pos c1]
      have : v = m 0 10 := by omega
      subst this
      exact ⟨b, rfl, h3⟩
    · rw [if_neg c1]
      have w1 : wr (v + 1) = v + 1 := wr_in (by omega) (by omega)
      (try simp (disch := omega) only [xlet_q, xq_in])
      rw [w1]
      by_cases c2 : m 32 v < 0
      · rw [if_pos c2]
        refine ih b (v + 1) (by omega) (by omega) ?_ (by omega)
        rcases h3 with ⟨h3, h5⟩ | ⟨h3, h5, h6, h7⟩
        · refine Or.inl ⟨h3, fun k k1 k2 => ?_⟩
          by_cases ck : k = v
          · rw [ck]; exact c2
          · exact h5 k k1 (by omega)
        · refine Or.inr ⟨h3, by omega, h6, fun k k1 k2 k3 => ?_⟩
          by_cases ck : k = v
          · rw [ck] at k3; omega
          · exact h7 k k1 (by omega) k3
      · rw [if_neg c2]
        rcases h3 with ⟨h3, h5⟩ | ⟨h3, h5, h6, h7⟩
        · rw [if_pos h3]
          refine ih v (v + 1) (by omega) (by omega) (Or.inr ⟨h1, by omega, by omega, fun k k1 k2 k3 => ?_⟩) (by omega)
          by_cases ck : k = v
          · rw [ck]; exact Int.le_refl _
          · have := h5 k k1 (by omega); omega
        · rw [if_neg (by omega)]
          (try simp (disch := omega) only [xlet_q, xq_in])
          by_cases c3 : m 32 b ≤ m 32 v
          · rw [if_pos c3]
            refine ih b (v + 1) (by omega) (by omega) (Or.inr ⟨h3, by omega, h6, fun k k1 k2 k3 => ?_⟩) (by omega)
            by_cases ck : k = v
            · rw [ck]; omega
            · exact h7 k k1 (by omega) k3
          · rw [if_neg c3]
            refine ih v (v + 1) (by omega) (by omega) (Or.inr ⟨h1, by omega, by omega, fun k k1 k2 k3 => ?_⟩) (by omega)
            by_cases ck : k = v
            · rw [ck]; exact Int.le_refl _
            · have := h7 k k1 (by omega) k3; omega
theorem answerS {N : Nat} {m : IH} (hN : 20000 ≤ N) (hw : 0 ≤ m 0 10 ∧ m 0 10 ≤ 60) : ∃ r, G_X12_firstAnswer N m = some (r, m) ∧ ((r = -1 ∧ ∀ k, 0 ≤ k → k < m 0 10 → m 32 k < 0) ∨ (0 ≤ r ∧ r < m 0 10 ∧ 0 ≤ m 32 r ∧ ∀ k, 0 ≤ k → k < m 0 10 → 0 ≤ m 32 k → m 32 r * 32768 + r ≤ m 32 k * 32768 + k)) :=
  answer0 hw N (-1) 0 (by omega) (by omega) (Or.inl ⟨rfl, fun k k1 k2 => by omega⟩) (by omega)
/-- what stands still in a search -/
def ST (c m : IH) (L : Int) : Prop := NetR c m L ∧ LXM m ∧ LXC c m
theorem ST.pr {c c' m m' : IH} {L : Int} (h : ST c m L) (hc : ∀ a b, a < 67 ∨ 73 < a → c' a b = c a b) (hm : DM m m') : ST c' m' L := by
  obtain ⟨⟨n1, n2, n3, n4, n5⟩, h2, h3⟩ := h
  have cA : ∀ a b, a < 67 → c' a b = c a b := fun a b q => hc a b (Or.inl q)
  have mA : ∀ a b, 35 < a → m' a b = m a b := fun a b q => hm a b (by omega) (by omega)
  have mB : ∀ a b, 0 < a → a < 29 → m' a b = m a b := fun a b q1 q2 => hm a b (by omega) (by omega)
  have m15 : m' 0 15 = m 0 15 := hm _ _ (by omega) (by omega)
  have m10 : m' 0 10 = m 0 10 := hm _ _ (by omega) (by omega)
  have m33 : m' 0 33 = m 0 33 := hm _ _ (by omega) (by omega)
  have c57 : ∀ b, c' 57 b = c 57 b := fun b => cA _ _ (by omega)
  have c59 : ∀ b, c' 59 b = c 59 b := fun b => cA _ _ (by omega)
  have c66 : ∀ b, c' 66 b = c 66 b := fun b => cA _ _ (by omega)
  have m25 : ∀ b, m' 25 b = m 25 b := fun b => mB _ _ (by omega) (by omega)
  have m26 : ∀ b, m' 26 b = m 26 b := fun b => mB _ _ (by omega) (by omega)
  have m5 : ∀ b, m' 5 b = m 5 b := fun b => mB _ _ (by omega) (by omega)
  have m6 : ∀ b, m' 6 b = m 6 b := fun b => mB _ _ (by omega) (by omega)
  have m7 : ∀ b, m' 7 b = m 7 b := fun b => mB _ _ (by omega) (by omega)
  have m8 : ∀ b, m' 8 b = m 8 b := fun b => mB _ _ (by omega) (by omega)
  have m9 : ∀ b, m' 9 b = m 9 b := fun b => mB _ _ (by omega) (by omega)
  have mt : ∀ b, m' 10 b = m 10 b := fun b => mB _ _ (by omega) (by omega)
  have me : ∀ b, m' 11 b = m 11 b := fun b => mB _ _ (by omega) (by omega)
  have mw : ∀ b, m' 12 b = m 12 b := fun b => mB _ _ (by omega) (by omega)
  have c4 : ∀ b, c' 4 b = c 4 b := fun b => cA _ _ (by omega)
  have c5 : ∀ b, c' 5 b = c 5 b := fun b => cA _ _ (by omega)
  have c6 : ∀ b, c' 6 b = c 6 b := fun b => cA _ _ (by omega)
  have c7 : ∀ b, c' 7 b = c 7 b := fun b => cA _ _ (by omega)
  have c8 : ∀ b, c' 8 b = c 8 b := fun b => cA _ _ (by omega)
  have c9 : ∀ b, c' 9 b = c 9 b := fun b => cA _ _ (by omega)
  have c10 : ∀ b, c' 10 b = c 10 b := fun b => cA _ _ (by omega)
  have c11 : ∀ b, c' 11 b = c 11 b := fun b => cA _ _ (by omega)
  have c12 : ∀ b, c' 12 b = c 12 b := fun b => cA _ _ (by omega)
  have c13 : ∀ b, c' 13 b = c 13 b := fun b => cA _ _ (by omega)
  have c14 : ∀ b, c' 14 b = c 14 b := fun b => cA _ _ (by omega)
  have c15 : ∀ b, c' 15 b = c 15 b := fun b => cA _ _ (by omega)
  refine ⟨⟨n1, ?_, fun i i1 i2 => ?_, ?_, fun i i1 i2 => ?_⟩, ?_, ?_⟩
  · rw [c57, c57, c59, c59, c59, m33]
    exact n2
  · rw [c59, c59]
    have := n3 i i1 i2
    exact ⟨this.1, (this.2.cv (fun a b q1 q2 => cA _ _ (by omega))).mv (m25 i) (fun a b q1 q2 => mA _ _ (by omega))⟩
  · unfold RS at *
    simp only [c66, m26]
    exact n4
  · rw [m25]
    have := n5 i i1 i2
    intro e e1 e2
    rw [m26, m26, mA _ _ (by omega), mA _ _ (by omega)]
    exact this e e1 e2
  · unfold LXM TrM at *
    simp only [m15, m10, m5, m6, m7, m8, m9, mt, me]
    exact h2
  · unfold LXC TrC at *
    simp only [m15, m10, m5, m6, m7, m8, m9, mt, me, mw, c4, c5, c6, c7, c8, c9, c10, c11, c12, c13, c14, c15]
    obtain ⟨a1, a2, a3, a4⟩ := h3
    refine ⟨a1, a2, fun w w1 w2 => ?_, a4⟩
    obtain ⟨b1, b2, b3, b4⟩ := a3 w w1 w2
    refine ⟨b1, b2, b3, fun k k1 k2 => ?_⟩
    rw [mA (52 + w) k (by omega)]
    exact b4 k k1 k2
