/-- the search's own cells of the reference -/
def DM (m m' : IH) : Prop := ∀ a b, ¬ (a = 0 ∧ (b = 42 ∨ b = 43 ∨ b = 49)) → ¬ (29 ≤ a ∧ a ≤ 35) → m' a b = m a b
theorem DM.rf {m : IH} : DM m m := fun _ _ _ _ => rfl
theorem DM.tr {m m1 m2 : IH} (h : DM m m1) (h1 : DM m1 m2) : DM m m2 := fun a b q1 q2 => by rw [h1 a b q1 q2, h a b q1 q2]
theorem ch_dm {m m' : IH} {p s : Int} (h : DM m m') : ch m' p s = ch m p s := ch_eq (h _ _ (by omega) (by omega)) (fun x => h _ _ (by omega) (by omega)) (fun x => h _ _ (by omega) (by omega))
theorem wk_eq {m m' : IH} {y : Int} (h1 : m' 0 15 = m 0 15) (h2 : ∀ x, m' 8 x = m 8 x) (h3 : ∀ x, m' 9 x = m 9 x) (h4 : ∀ q, m' y q = m y q) : ∀ (r : Nat) (q x : Int), wk m' y r q x = wk m y r q x := by
  intro r
  induction r with
  | zero => intro q x; rfl
  | succ r ih =>
    intro q x
    simp only [wk]
    rw [ch_eq h1 h2 h3, h4, ih]
theorem wk_dm {m m' : IH} {y : Int} (h : DM m m') (hy : 35 < y) (r : Nat) (q x : Int) : wk m' y r q x = wk m y r q x := wk_eq (h _ _ (by omega) (by omega)) (fun x => h _ _ (by omega) (by omega)) (fun x => h _ _ (by omega) (by omega)) (fun x => h _ _ (by omega) (by omega)) r q x
/-- where edge e of place j leads from node x -/
noncomputable def wt (m : IH) (j e x : Int) : Int := wk m (2423 + (j * 60 + e)) (m (2423 + (j * 60 + e)) 2).toNat 0 x
theorem wt_dm {m m' : IH} {j e x : Int} (h : DM m m') (hj : 0 ≤ j) (he : 0 ≤ e) : wt m' j e x = wt m j e x := by
  unfold wt
  rw [wk_dm h (by omega), h _ 2 (by omega) (by omega)]
/-- an edge of a state that was taken -/
def GO (m : IH) (j x e : Int) : Prop := wt m j e x ≠ -1 → m 30 (m (2423 + (j * 60 + e)) 0 * 721 + wt m j e x) ≠ 0 ∧ m 29 (m (2423 + (j * 60 + e)) 0 * 721 + wt m j e x) ≤ m 29 (j * 721 + x) + m (2423 + (j * 60 + e)) 1
/-- where a state came from -/
def FR (m : IH) (L j x : Int) : Prop := ∃ j0 x0 e, (0 ≤ j0 ∧ j0 < L) ∧ (0 ≤ x0 ∧ x0 < m 0 15) ∧ (0 ≤ e ∧ e < m 25 j0) ∧ m 30 (j0 * 721 + x0) = 2 ∧ m (2423 + (j0 * 60 + e)) 0 = j ∧ wt m j0 e x0 = x ∧ m 29 (j * 721 + x) = m 29 (j0 * 721 + x0) + m (2423 + (j0 * 60 + e)) 1
/-- what holds of the states: Lb the latest bound; s0 the state that is being opened, so many of its edges done -/
def EI (m : IH) (L Lb s0 e0 : Int) : Prop := (∀ j x, 0 ≤ j → j ≤ L → 0 ≤ x → x < m 0 15 → (m 30 (j * 721 + x) = 2 → bnd m (j * 721 + x) ≤ Lb) ∧ (m 30 (j * 721 + x) = 1 → Lb ≤ bnd m (j * 721 + x))) ∧ (∀ w, 0 ≤ w → w < m 0 10 → 0 ≤ m 32 w → Lb ≤ m 32 w) ∧ (∀ j x e, 0 ≤ j → j < L → 0 ≤ x → x < m 0 15 → 0 ≤ e → e < m 25 j → m 30 (j * 721 + x) = 2 → (j * 721 + x = s0 → e < e0) → GO m j x e) ∧ ∀ j x, 0 ≤ j → j ≤ L → 0 ≤ x → x < m 0 15 → m 30 (j * 721 + x) ≠ 0 → (j = 0 ∧ x = 0 ∧ m 29 (j * 721 + x) = 0) ∨ FR m L j x
/-- what holds of the answers; u the word whose end was just opened -/
def EA (m : IH) (L Lb u : Int) : Prop := (∀ k, 0 ≤ k → k < m 0 49 → (0 ≤ m 33 k ∧ m 33 k < m 0 10) ∧ m 30 (L * 721 + m 7 (m 33 k)) = 2 ∧ m 34 k = m 29 (L * 721 + m 7 (m 33 k)) + m 6 (m 33 k) ∧ m 34 k ≤ Lb) ∧ (∀ k l, 0 ≤ k → k < l → l < m 0 49 → m 33 k ≠ m 33 l ∧ m 34 k ≤ m 34 l) ∧ (∀ w, 0 ≤ w → w < m 0 10 → 0 ≤ m 32 w → m 32 w = m 29 (L * 721 + m 7 w) + m 6 w ∧ m 30 (L * 721 + m 7 w) = 2 ∧ ∀ k, 0 ≤ k → k < m 0 49 → m 33 k ≠ w) ∧ (∀ w, 0 ≤ w → w < m 0 10 → m 30 (L * 721 + m 7 w) = 2 → w ≠ u → 0 ≤ m 32 w ∨ ∃ k, 0 ≤ k ∧ k < m 0 49 ∧ m 33 k = w) ∧ (0 ≤ u → ∀ k, 0 ≤ k → k < m 0 49 → m 33 k ≠ u) ∧ m 30 0 ≠ 0
theorem WF.dm {m m' : IH} {s v : Int} (h : WF m m' s v) : DM m m' := by
  rcases h with ⟨_, h⟩ | ⟨_, _, h⟩ | ⟨_, _, _, h⟩
  · rw [h]; exact DM.rf
  · rw [h]; exact DM.rf
  · exact fun a b q1 q2 => h a b (by omega) (by omega) (by omega) (by omega)
section
variable {m m' : IH} {L Lb : Int}
/-- one edge more of the state that is opened -/
theorem EI.wf {j0 x0 e0 : Int} (h : EI m L Lb (j0 * 721 + x0) e0) (hL : L ≤ 24) (hn : m 0 15 ≤ 721) (hj : 0 ≤ j0 ∧ j0 < L) (hx : 0 ≤ x0 ∧ x0 < m 0 15) (he : 0 ≤ e0 ∧ e0 < m 25 j0) (ht : m 30 (j0 * 721 + x0) = 2) (hLb : Lb = bnd m (j0 * 721 + x0)) (hto : j0 < m (2423 + (j0 * 60 + e0)) 0 ∧ m (2423 + (j0 * 60 + e0)) 0 ≤ L) (hw : 0 ≤ wt m j0 e0 x0 ∧ wt m j0 e0 x0 < m 0 15) (hti : m 26 j0 ≤ m (2423 + (j0 * 60 + e0)) 1 + m 26 (m (2423 + (j0 * 60 + e0)) 0)) (hle : m 11 x0 ≤ m 11 (wt m j0 e0 x0)) (hf : WF m m' (m (2423 + (j0 * 60 + e0)) 0 * 721 + wt m j0 e0 x0) (m 29 (j0 * 721 + x0) + m (2423 + (j0 * 60 + e0)) 1)) : EI m' L Lb (j0 * 721 + x0) (e0 + 1) := by
  have hdm := hf.dm
  obtain ⟨h1, h2, h3, h4⟩ := h
  have hb0 : bnd m (j0 * 721 + x0) = m 29 (j0 * 721 + x0) + m 26 j0 + m 11 x0 := by
    unfold bnd
    rw [show (j0 * 721 + x0) / 721 = j0 by omega, show (j0 * 721 + x0) % 721 = x0 by omega]
  have hGO : ∀ (j x e : Int), 0 ≤ j → j < L → 0 ≤ x → x < m 0 15 → 0 ≤ e → e < m 25 j → m 30 (j * 721 + x) = 2 → (j * 721 + x = j0 * 721 + x0 → e < e0 + 1) → (m 30 (m (2423 + (j0 * 60 + e0)) 0 * 721 + wt m j0 e0 x0) ≠ 0 ∧ m 29 (m (2423 + (j0 * 60 + e0)) 0 * 721 + wt m j0 e0 x0) ≤ m 29 (j0 * 721 + x0) + m (2423 + (j0 * 60 + e0)) 1) → GO m j x e := by
    intro j x e a1 a2 a3 a4 a5 a6 a7 a8 a9
    by_cases c1 : j * 721 + x = j0 * 721 + x0 ∧ e = e0
    · obtain ⟨c1, c2⟩ := c1
      have e1 : j = j0 := by omega
      have e2 : x = x0 := by omega
      subst e1; subst e2; subst c2
      exact fun _ => a9
    · exact h3 j x e a1 a2 a3 a4 a5 a6 a7 (fun q => by have := a8 q; omega)
  have hbt : bnd m (m (2423 + (j0 * 60 + e0)) 0 * 721 + wt m j0 e0 x0) = m 29 (m (2423 + (j0 * 60 + e0)) 0 * 721 + wt m j0 e0 x0) + m 26 (m (2423 + (j0 * 60 + e0)) 0) + m 11 (wt m j0 e0 x0) := by
    unfold bnd
    rw [show (m (2423 + (j0 * 60 + e0)) 0 * 721 + wt m j0 e0 x0) / 721 = m (2423 + (j0 * 60 + e0)) 0 by omega, show (m (2423 + (j0 * 60 + e0)) 0 * 721 + wt m j0 e0 x0) % 721 = wt m j0 e0 x0 by omega]
  rcases hf with ⟨g1, g2⟩ | ⟨g1, g2, g3⟩ | ⟨g1, g2, g3, g4⟩
  · subst g2
    refine ⟨h1, h2, fun j x e a1 a2 a3 a4 a5 a6 a7 a8 => hGO j x e a1 a2 a3 a4 a5 a6 a7 a8 ⟨by omega, ?_⟩, h4⟩
    have := (h1 (m' (2423 + (j0 * 60 + e0)) 0) (wt m' j0 e0 x0) (by omega) (by omega) (by omega) (by omega)).1 g1
    omega
  · subst g3
    exact ⟨h1, h2, fun j x e a1 a2 a3 a4 a5 a6 a7 a8 => hGO j x e a1 a2 a3 a4 a5 a6 a7 a8 ⟨by omega, g2⟩, h4⟩
  · generalize hs : m (2423 + (j0 * 60 + e0)) 0 * 721 + wt m j0 e0 x0 = s at *
    have mA : ∀ a b, a ≠ 29 → a ≠ 30 → a ≠ 31 → a ≠ 0 → m' a b = m a b := fun a b q1 q2 q3 q4 => g4 a b (by omega) (by omega) q3 (by omega)
    have m15 : m' 0 15 = m 0 15 := g4 _ _ (by omega) (by omega) (by omega) (by omega)
    have m10 : m' 0 10 = m 0 10 := g4 _ _ (by omega) (by omega) (by omega) (by omega)
    have m29 : ∀ b, b ≠ s → m' 29 b = m 29 b := fun b q => g4 _ _ (by omega) (by omega) (by omega) (by omega)
    have m30 : ∀ b, b ≠ s → m' 30 b = m 30 b := fun b q => g4 _ _ (by omega) (by omega) (by omega) (by omega)
    have s0 : j0 * 721 + x0 ≠ s := by omega
    have two : ∀ b, m' 30 b = 2 → b ≠ s ∧ m 30 b = 2 := fun b q => by
      by_cases cb : b = s
      · rw [cb, g2] at q; omega
      · exact ⟨cb, by rw [← m30 b cb]; exact q⟩
    have bn : ∀ b, b ≠ s → bnd m' b = bnd m b := fun b q => by
      unfold bnd
      rw [m29 b q, mA 26 _ (by omega) (by omega) (by omega) (by omega), mA 11 _ (by omega) (by omega) (by omega) (by omega)]
    refine ⟨fun j x a1 a2 a3 a4 => ⟨fun q => ?_, fun q => ?_⟩, fun w a1 a2 a3 => ?_, fun j x e a1 a2 a3 a4 a5 a6 a7 a8 => ?_, fun j x a1 a2 a3 a4 a5 => ?_⟩
    · rw [m15] at a4
      obtain ⟨q1, q2⟩ := two _ q
      rw [bn _ q1]
      exact (h1 j x a1 a2 a3 a4).1 q2
    · rw [m15] at a4
      by_cases cb : j * 721 + x = s
      · rw [cb]
        unfold bnd
        rw [g3, mA 26 _ (by omega) (by omega) (by omega) (by omega), mA 11 _ (by omega) (by omega) (by omega) (by omega), ← hs, show (m (2423 + (j0 * 60 + e0)) 0 * 721 + wt m j0 e0 x0) / 721 = m (2423 + (j0 * 60 + e0)) 0 by omega, show (m (2423 + (j0 * 60 + e0)) 0 * 721 + wt m j0 e0 x0) % 721 = wt m j0 e0 x0 by omega]
        omega
      · rw [bn _ cb]
        rw [m30 _ cb] at q
        exact (h1 j x a1 a2 a3 a4).2 q
    · rw [m10] at a2
      rw [mA 32 _ (by omega) (by omega) (by omega) (by omega)] at a3 ⊢
      exact h2 w a1 a2 a3
    · rw [m15] at a4
      rw [mA 25 _ (by omega) (by omega) (by omega) (by omega)] at a6
      obtain ⟨q1, q2⟩ := two _ a7
      unfold GO
      rw [wt_dm hdm a1 a5, mA (2423 + (j * 60 + e)) 0 (by omega) (by omega) (by omega) (by omega), mA (2423 + (j * 60 + e)) 1 (by omega) (by omega) (by omega) (by omega), m29 _ q1]
      intro q
      by_cases cz : j * 721 + x = j0 * 721 + x0 ∧ e = e0
      · obtain ⟨c1, c2⟩ := cz
        have e1 : j = j0 := by omega
        have e2 : x = x0 := by omega
        subst e1; subst e2; subst c2
        rw [hs, g2, g3]
        omega
      · have := h3 j x e a1 a2 a3 a4 a5 a6 q2 (fun q => by have := a8 q; omega) q
        by_cases cb : m (2423 + (j * 60 + e)) 0 * 721 + wt m j e x = s
        · rw [cb] at this ⊢
          rw [g2, g3]
          rcases g1 with g1 | g1
          · exact absurd g1 this.1
          · omega
        · rw [m30 _ cb, m29 _ cb]
          exact this
    · rw [m15] at a4
      by_cases cb : j * 721 + x = s
      · right
        have e1 : j = m (2423 + (j0 * 60 + e0)) 0 := by omega
        have e2 : x = wt m j0 e0 x0 := by omega
        refine ⟨j0, x0, e0, hj, by omega, by rw [mA 25 _ (by omega) (by omega) (by omega) (by omega)]; exact he, by rw [m30 _ s0]; exact ht, by rw [mA (2423 + (j0 * 60 + e0)) 0 (by omega) (by omega) (by omega) (by omega)]; exact e1.symm, by rw [wt_dm hdm hj.1 he.1]; exact e2.symm, ?_⟩
        rw [cb, g3, m29 _ s0, mA (2423 + (j0 * 60 + e0)) 1 (by omega) (by omega) (by omega) (by omega)]
      · rw [m30 _ cb] at a5
        rw [m29 _ cb]
        rcases h4 j x a1 a2 a3 a4 a5 with q | ⟨j1, x1, e1, b1, b2, b3, b4, b5, b6, b7⟩
        · exact Or.inl q
        · right
          have cs : j1 * 721 + x1 ≠ s := by
            intro q
            rw [q] at b4
            rcases g1 with g1 | g1 <;> omega
          refine ⟨j1, x1, e1, b1, by omega, by rw [mA 25 _ (by omega) (by omega) (by omega) (by omega)]; exact b3, by rw [m30 _ cs]; exact b4, by rw [mA (2423 + (j1 * 60 + e1)) 0 (by omega) (by omega) (by omega) (by omega)]; exact b5, by rw [wt_dm hdm b1.1 b3.1]; exact b6, ?_⟩
          rw [m29 _ cb, m29 _ cs, mA (2423 + (j1 * 60 + e1)) 1 (by omega) (by omega) (by omega) (by omega)]
          exact b7
theorem EA.wf {s v u : Int} (h : EA m L Lb u) (hf : WF m m' s v) : EA m' L Lb u := by
  have hdm := hf.dm
  rcases hf with ⟨g1, g2⟩ | ⟨g1, g2, g3⟩ | ⟨g1, g2, g3, g4⟩
  · rw [g2]; exact h
  · rw [g3]; exact h
  · obtain ⟨h1, h2, h3, h4, h5, h6⟩ := h
    have mA : ∀ a b, a ≠ 29 → a ≠ 30 → a ≠ 31 → a ≠ 0 → m' a b = m a b := fun a b q1 q2 q3 q4 => g4 a b (by omega) (by omega) q3 (by omega)
    have m10 : m' 0 10 = m 0 10 := g4 _ _ (by omega) (by omega) (by omega) (by omega)
    have m49 : m' 0 49 = m 0 49 := g4 _ _ (by omega) (by omega) (by omega) (by omega)
    have m29 : ∀ b, b ≠ s → m' 29 b = m 29 b := fun b q => g4 _ _ (by omega) (by omega) (by omega) (by omega)
    have m30 : ∀ b, b ≠ s → m' 30 b = m 30 b := fun b q => g4 _ _ (by omega) (by omega) (by omega) (by omega)
    have two : ∀ b, m' 30 b = 2 → b ≠ s ∧ m 30 b = 2 := fun b q => by
      by_cases cb : b = s
      · rw [cb, g2] at q; omega
      · exact ⟨cb, by rw [← m30 b cb]; exact q⟩
    have ntwo : ∀ b, m 30 b = 2 → b ≠ s := fun b q z => by
      rw [z] at q
      rcases g1 with g1 | g1 <;> omega
    have m33 : ∀ b, m' 33 b = m 33 b := fun b => mA _ _ (by omega) (by omega) (by omega) (by omega)
    have m34 : ∀ b, m' 34 b = m 34 b := fun b => mA _ _ (by omega) (by omega) (by omega) (by omega)
    have m32 : ∀ b, m' 32 b = m 32 b := fun b => mA _ _ (by omega) (by omega) (by omega) (by omega)
    have m7 : ∀ b, m' 7 b = m 7 b := fun b => mA _ _ (by omega) (by omega) (by omega) (by omega)
    have m6 : ∀ b, m' 6 b = m 6 b := fun b => mA _ _ (by omega) (by omega) (by omega) (by omega)
    unfold EA
    simp only [m10, m49, m33, m34, m32, m7, m6]
    refine ⟨fun k k1 k2 => ?_, h2, fun w w1 w2 w3 => ?_, fun w w1 w2 w3 w4 => ?_, h5, ?_⟩
    · obtain ⟨a1, a2, a3, a4⟩ := h1 k k1 k2
      rw [m30 _ (ntwo _ a2), m29 _ (ntwo _ a2)]
      exact ⟨a1, a2, a3, a4⟩
    · obtain ⟨a1, a2, a3⟩ := h3 w w1 w2 w3
      rw [m30 _ (ntwo _ a2), m29 _ (ntwo _ a2)]
      exact ⟨a1, a2, a3⟩
    · exact h4 w w1 w2 (two _ w3).2 w4
    · by_cases c0 : (0 : Int) = s
      · rw [c0, g2]; omega
      · rw [m30 0 c0]; exact h6
end
