/-- a row of answers holds what a search of the reference has found -/
def RWM (c : IH) (r : Int) (m2 : IH) : Prop := c 76 r = m2 0 49 ∧ 0 ≤ m2 0 49 ∧ m2 0 49 ≤ 60 ∧ ∀ j, 0 ≤ j → j < m2 0 49 → c 77 (r * 60 + j) = m2 33 j ∧ c 78 (r * 60 + j) = m2 34 j ∧ c 79 (r * 60 + j) = m2 35 j
/-- what laying and searching give -/
def GV (N : Nat) (lay : Option IH) (most : Int) (m2 : IH) : Prop := ∃ m1, lay = some m1 ∧ G_X12_searches N m1 most = some m2
def ROW (N : Nat) (c : IH) (r : Int) (lay : Option IH) (most : Int) : Prop := c 75 r = 0 ∨ (c 75 r = 1 ∧ ∃ m2, GV N lay most m2 ∧ RWM c r m2)
/-- the answers that are kept -/
def CA (N : Nat) (c m : IH) : Prop := (∀ t, 0 ≤ t → t < m 16 0 → ROW N c t (G_X12_laysToken N m t 0) 60) ∧ (∀ t, 0 ≤ t → t + 1 < m 16 0 → m 197 t + m 197 (t + 1) ≤ 24 → ROW N c (40 + t) (G_X12_laysToken N m t 1) 1) ∧ ∀ w, 0 ≤ w → w < m 0 10 → ROW N c (80 + w) (G_X12_laysWord N m w) 60
/-- two searches that found the same -/
def SF (m2 m2' : IH) : Prop := m2 0 49 = m2' 0 49 ∧ ∀ j, 0 ≤ j → j < m2 0 49 → m2 33 j = m2' 33 j ∧ m2 34 j = m2' 34 j ∧ m2 35 j = m2' 35 j
theorem RES.sf {c m m' : IH} (h : RES c m) (h' : RES c m') : SF m m' := by
  obtain ⟨a1, a2, a3, a4⟩ := h
  obtain ⟨b1, b2, b3, b4⟩ := h'
  refine ⟨by omega, fun j j1 j2 => ?_⟩
  have x := a4 j j1 j2
  have y := b4 j j1 (by omega)
  exact ⟨x.1.symm.trans y.1, x.2.1.symm.trans y.2.1, x.2.2.symm.trans y.2.2⟩
theorem RWM.sf {c m m' : IH} {r : Int} (h : RWM c r m) (hs : SF m m') : RWM c r m' := by
  obtain ⟨a1, a2, a3, a4⟩ := h
  obtain ⟨b1, b2⟩ := hs
  refine ⟨by omega, by omega, by omega, fun j j1 j2 => ?_⟩
  have x := a4 j j1 (by omega)
  have y := b2 j j1 (by omega)
  rw [← y.1, ← y.2.1, ← y.2.2]
  exact x
theorem RWM.cv {c c' m : IH} {r : Int} (h : RWM c r m) (h76 : c' 76 r = c 76 r) (hf : ∀ a j, 77 ≤ a → a ≤ 79 → 0 ≤ j → j < 60 → c' a (r * 60 + j) = c a (r * 60 + j)) : RWM c' r m := by
  obtain ⟨a1, a2, a3, a4⟩ := h
  refine ⟨by rw [h76]; exact a1, a2, a3, fun j j1 j2 => ?_⟩
  rw [hf 77 j (by omega) (by omega) j1 (by omega), hf 78 j (by omega) (by omega) j1 (by omega), hf 79 j (by omega) (by omega) j1 (by omega)]
  exact a4 j j1 j2
theorem ROW.cv {N : Nat} {c c' : IH} {r most : Int} {lay : Option IH} (h : ROW N c r lay most) (h75 : c' 75 r = c 75 r) (h76 : c' 76 r = c 76 r) (hf : ∀ a j, 77 ≤ a → a ≤ 79 → 0 ≤ j → j < 60 → c' a (r * 60 + j) = c a (r * 60 + j)) : ROW N c' r lay most := by
  rcases h with h | ⟨h, m2, g, k⟩
  · exact Or.inl (by rw [h75]; exact h)
  · exact Or.inr ⟨by rw [h75]; exact h, m2, g, k.cv h76 hf⟩
theorem ROW.mv {N : Nat} {c : IH} {r most : Int} {lay lay' : Option IH} (h : ROW N c r lay most) (hs : ∀ m2, GV N lay most m2 → ∃ m2', GV N lay' most m2' ∧ SF m2 m2') : ROW N c r lay' most := by
  rcases h with h | ⟨h, m2, g, k⟩
  · exact Or.inl h
  · obtain ⟨m2', g', s⟩ := hs m2 g
    exact Or.inr ⟨h, m2', g', k.sf s⟩
section
variable {N : Nat} {c m m' : IH}
/-- what the reference finds doesn't hang on its scratch -/
theorem sameT {t : Int} (hN : 20000 ≤ N) (h : TR c m) (hs : SL c) (hm : TM m m') (ht : 0 ≤ t ∧ t < m 16 0) : ∀ m2, GV N (G_X12_laysToken N m t 0) 60 m2 → ∃ m2', GV N (G_X12_laysToken N m' t 0) 60 m2' ∧ SF m2 m2' := by
  intro m2 ⟨m1, g1, g2⟩
  have h' := h.pr TC.rf hm
  have e16 : m' 16 0 = m 16 0 := hm _ _ (by omega) (by omega) (by omega)
  have e197 : m' 197 t = m 197 t := hm _ _ (by omega) (by omega) (by omega)
  obtain ⟨c1, c2, n1, n2, a1, a2, a3, a4, _⟩ := lookT (most := 60) hN (by omega) h hs ht
  obtain ⟨c1', c2', n1', n2', b1, b2, b3, b4, _⟩ := lookT (t := t) (most := 60) hN (by omega) h' hs (by omega)
  rw [e197] at b1
  have e1 : c1' = c1 := Option.some.inj (b1.symm.trans a1)
  subst e1
  have e2 : c2' = c2 := Option.some.inj (b2.symm.trans a2)
  subst e2
  have e3 : n1 = m1 := Option.some.inj (a3.symm.trans g1)
  subst e3
  have e4 : n2 = m2 := Option.some.inj (a4.1.symm.trans g2)
  subst e4
  exact ⟨n2', ⟨n1', b3, b4.1⟩, a4.2.2.1.sf b4.2.2.1⟩
theorem sameJ {t : Int} (hN : 20000 ≤ N) (h : TR c m) (hs : SL c) (hm : TM m m') (ht : 0 ≤ t ∧ t + 1 < m 16 0) (h24 : m 197 t + m 197 (t + 1) ≤ 24) : ∀ m2, GV N (G_X12_laysToken N m t 1) 1 m2 → ∃ m2', GV N (G_X12_laysToken N m' t 1) 1 m2' ∧ SF m2 m2' := by
  intro m2 ⟨m1, g1, g2⟩
  have h' := h.pr TC.rf hm
  have e16 : m' 16 0 = m 16 0 := hm _ _ (by omega) (by omega) (by omega)
  have e197 : m' 197 t = m 197 t := hm _ _ (by omega) (by omega) (by omega)
  have e198 : m' 197 (t + 1) = m 197 (t + 1) := hm _ _ (by omega) (by omega) (by omega)
  obtain ⟨c1, c2, n1, n2, a1, a2, a3, a4, _⟩ := lookJ (most := 1) hN (by omega) h hs ht h24
  obtain ⟨c1', c2', n1', n2', b1, b2, b3, b4, _⟩ := lookJ (t := t) (most := 1) hN (by omega) h' hs (by omega) (by omega)
  rw [e197, e198] at b1
  have e1 : c1' = c1 := Option.some.inj (b1.symm.trans a1)
  subst e1
  have e2 : c2' = c2 := Option.some.inj (b2.symm.trans a2)
  subst e2
  have e3 : n1 = m1 := Option.some.inj (a3.symm.trans g1)
  subst e3
  have e4 : n2 = m2 := Option.some.inj (a4.1.symm.trans g2)
  subst e4
  exact ⟨n2', ⟨n1', b3, b4.1⟩, a4.2.2.1.sf b4.2.2.1⟩
theorem sameW {w : Int} (hN : 20000 ≤ N) (h : TR c m) (hs : SL c) (hm : TM m m') (hw : 0 ≤ w ∧ w < m 0 10) : ∀ m2, GV N (G_X12_laysWord N m w) 60 m2 → ∃ m2', GV N (G_X12_laysWord N m' w) 60 m2' ∧ SF m2 m2' := by
  intro m2 ⟨m1, g1, g2⟩
  have h' := h.pr TC.rf hm
  have e10 : m' 0 10 = m 0 10 := hm _ _ (by omega) (by omega) (by omega)
  obtain ⟨c1, c2, n1, n2, a1, a2, a3, a4, _⟩ := lookW (most := 60) hN (by omega) h hs hw
  obtain ⟨c1', c2', n1', n2', b1, b2, b3, b4, _⟩ := lookW (w := w) (most := 60) hN (by omega) h' hs (by omega)
  have e1 : c1' = c1 := Option.some.inj (b1.symm.trans a1)
  subst e1
  have e2 : c2' = c2 := Option.some.inj (b2.symm.trans a2)
  subst e2
  have e3 : n1 = m1 := Option.some.inj (a3.symm.trans g1)
  subst e3
  have e4 : n2 = m2 := Option.some.inj (a4.1.symm.trans g2)
  subst e4
  exact ⟨n2', ⟨n1', b3, b4.1⟩, a4.2.2.1.sf b4.2.2.1⟩
/-- the kept answers stay right when the reference's scratch changes -/
theorem CA.mv (hN : 20000 ≤ N) (h : TR c m) (hs : SL c) (hC : CA N c m) (hm : TM m m') : CA N c m' := by
  have e16 : m' 16 0 = m 16 0 := hm _ _ (by omega) (by omega) (by omega)
  have e10 : m' 0 10 = m 0 10 := hm _ _ (by omega) (by omega) (by omega)
  have e197 : ∀ t, m' 197 t = m 197 t := fun t => hm _ _ (by omega) (by omega) (by omega)
  obtain ⟨h1, h2, h3⟩ := hC
  refine ⟨fun t t1 t2 => ?_, fun t t1 t2 t3 => ?_, fun w w1 w2 => ?_⟩
  · rw [e16] at t2
    exact (h1 t t1 t2).mv (sameT hN h hs hm ⟨t1, t2⟩)
  · rw [e16] at t2
    rw [e197, e197] at t3
    exact (h2 t t1 t2 t3).mv (sameJ hN h hs hm ⟨t1, t2⟩ t3)
  · rw [e10] at w2
    exact (h3 w w1 w2).mv (sameW hN h hs hm ⟨w1, w2⟩)
theorem CA.cv {c' : IH} (hC : CA N c m) (hf : ∀ a b, 75 ≤ a → a ≤ 79 → c' a b = c a b) : CA N c' m := by
  obtain ⟨h1, h2, h3⟩ := hC
  refine ⟨fun t t1 t2 => ?_, fun t t1 t2 t3 => ?_, fun w w1 w2 => ?_⟩
  · exact (h1 t t1 t2).cv (hf _ _ (by omega) (by omega)) (hf _ _ (by omega) (by omega)) (fun a j q1 q2 q3 q4 => hf _ _ (by omega) (by omega))
  · exact (h2 t t1 t2 t3).cv (hf _ _ (by omega) (by omega)) (hf _ _ (by omega) (by omega)) (fun a j q1 q2 q3 q4 => hf _ _ (by omega) (by omega))
  · exact (h3 w w1 w2).cv (hf _ _ (by omega) (by omega)) (hf _ _ (by omega) (by omega)) (fun a j q1 q2 q3 q4 => hf _ _ (by omega) (by omega))
end
theorem keep0 {N : Nat} {r S : Int} (hr : 0 ≤ r ∧ r < 140) (hS : 0 ≤ S ∧ S ≤ 60) : ∀ (f : Nat) (c : IH) (v : Int), c 67 2 = S → 0 ≤ v → v ≤ S → S - v < f → ∃ c', G_X0_keep_22 N f c r v = some c' ∧ (∀ a b, ¬ (77 ≤ a ∧ a ≤ 79 ∧ r * 60 + v ≤ b ∧ b < r * 60 + S) → c' a b = c a b) ∧ ∀ j, v ≤ j → j < S → c' 77 (r * 60 + j) = c 68 j ∧ c' 78 (r * 60 + j) = c 69 j ∧ c' 79 (r * 60 + j) = c 70 j := by
  intro f
  induction f with
  | zero => intro c v h1 h2 h3 h4; omega
  | succ f ih =>
    intro c v h1 h2 h3 h4
    unfold G_X0_keep_22
    rw [h1]
    by_cases c1 : S ≤ v
    · rw [if_pos c1]
      exact ⟨c, rfl, fun _ _ _ => rfl, fun j j1 j2 => by omega⟩
    · rw [if_neg c1]
      simp (disch := omega) only [xlet_q, xq_in, xv_ne]
      rw [wr_in (by omega) (by omega)]
      obtain ⟨c', g1, g2, g3⟩ := ih (xv (xv (xv c 77 (r * 60 + v) (c 68 v)) 78 (r * 60 + v) (c 69 v)) 79 (r * 60 + v) (c 70 v)) (v + 1) (by rw [xv_ne (by omega), xv_ne (by omega), xv_ne (by omega)]; exact h1) (by omega) (by omega) (by omega)
      refine ⟨c', g1, fun a b q => ?_, fun j j1 j2 => ?_⟩
      · rw [g2 a b (by omega), xv_ne (by omega), xv_ne (by omega), xv_ne (by omega)]
      · by_cases cj : j = v
        · subst cj
          rw [g2 77 _ (by omega), g2 78 _ (by omega), g2 79 _ (by omega), xv_ne (by omega), xv_ne (by omega), xv_eq rfl rfl, xv_ne (by omega), xv_eq rfl rfl, xv_eq rfl rfl]
          exact ⟨rfl, rfl, rfl⟩
        · have := g3 j (by omega) j2
          rw [xv_ne (by omega), xv_ne (by omega), xv_ne (by omega), xv_ne (by omega), xv_ne (by omega), xv_ne (by omega), xv_ne (by omega), xv_ne (by omega), xv_ne (by omega)] at this
          exact this
theorem keepS {N : Nat} {c m2 : IH} {r : Int} (hN : 20000 ≤ N) (hr : 0 ≤ r ∧ r < 140) (h : RES c m2) : ∃ c', G_X0_keep N c r = some c' ∧ c' 75 r = 1 ∧ RWM c' r m2 ∧ (∀ a b, ¬ ((a = 75 ∨ a = 76) ∧ b = r) → ¬ (77 ≤ a ∧ a ≤ 79 ∧ r * 60 ≤ b ∧ b < r * 60 + 60) → c' a b = c a b) := by
  obtain ⟨h1, h2, h3, h4⟩ := h
  unfold G_X0_keep
  simp (disch := omega) only [xlet_q, xq_in, xv_ne, ynar_1]
  obtain ⟨c', g1, g2, g3⟩ := keep0 (N := N) (r := r) (S := m2 0 49) hr ⟨h2, h3⟩ N (xv (xv c 75 r 1) 76 r (c 67 2)) 0 (by rw [xv_ne (by omega), xv_ne (by omega)]; exact h1) (by omega) (by omega) (by omega)
  refine ⟨c', g1, ?_, ⟨?_, h2, h3, fun j j1 j2 => ?_⟩, fun a b q1 q2 => ?_⟩
  · rw [g2 _ _ (by omega), xv_ne (by omega), xv_eq rfl rfl]
  · rw [g2 _ _ (by omega), xv_eq rfl rfl]; exact h1
  · have := g3 j j1 j2
    have x := h4 j j1 j2
    rw [xv_ne (by omega), xv_ne (by omega), xv_ne (by omega), xv_ne (by omega), xv_ne (by omega), xv_ne (by omega), x.1, x.2.1, x.2.2] at this
    exact this
  · rw [g2 a b (by omega), xv_ne (by omega), xv_ne (by omega)]
