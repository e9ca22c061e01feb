def EE (m m' : IH) : Prop := m' 16 0 = m 16 0 ∧ m' 0 10 = m 0 10 ∧ ∀ t, m' 197 t = m 197 t
section
variable {N : Nat} {c m m' : IH}

theorem sameT2 {t : Int} (hN : 20000 ≤ N) (h : TR c m) (hs : SL c) (h' : TR c m') (ee : EE m m') (ht : 0 ≤ t ∧ t < m 16 0) : ∀ m2, GV N (G_X12_laysToken N m t 0) 60 m2 → ∃ m2', GV N (G_X12_laysToken N m' t 0) 60 m2' ∧ SF m2 m2' := by
  intro m2 ⟨m1, g1, g2⟩
  have e16 := ee.1
  have e197 := ee.2.2 t
  obtain ⟨c1, c2, n1, n2, a1, a2, a3, a4, _⟩ := lookT (most := 60) hN (by omega) h hs ht
  obtain ⟨c1', c2', n1', n2', b1, b2, b3, b4, _⟩ := lookT (t := t) (most := 60) hN (by omega) h' hs (by omega)
  rw [e197] at b1
  have e1 : c1' = c1 := Option.some.inj (b1.symm.trans a1)
  subst e1
  have e2 : c2' = c2 := Option.some.inj (b2.symm.trans a2)
  subst e2
  have e3 : n1 = m1 := Option.some.inj (a3.symm.trans g1)
  subst e3
  have e4 : n2 = m2 := Option.some.inj (a4.1.symm.trans g2)
  subst e4
  exact ⟨n2', ⟨n1', b3, b4.1⟩, a4.2.2.1.sf b4.2.2.1⟩

theorem sameJ2 {t : Int} (hN : 20000 ≤ N) (h : TR c m) (hs : SL c) (h' : TR c m') (ee : EE m m') (ht : 0 ≤ t ∧ t + 1 < m 16 0) (h24 : m 197 t + m 197 (t + 1) ≤ 24) : ∀ m2, GV N (G_X12_laysToken N m t 1) 1 m2 → ∃ m2', GV N (G_X12_laysToken N m' t 1) 1 m2' ∧ SF m2 m2' := by
  intro m2 ⟨m1, g1, g2⟩
  have e16 := ee.1
  have e197 := ee.2.2 t
  have e198 := ee.2.2 (t + 1)
  obtain ⟨c1, c2, n1, n2, a1, a2, a3, a4, _⟩ := lookJ (most := 1) hN (by omega) h hs ht h24
  obtain ⟨c1', c2', n1', n2', b1, b2, b3, b4, _⟩ := lookJ (t := t) (most := 1) hN (by omega) h' hs (by omega) (by omega)
  rw [e197, e198] at b1
  have e1 : c1' = c1 := Option.some.inj (b1.symm.trans a1)
  subst e1
  have e2 : c2' = c2 := Option.some.inj (b2.symm.trans a2)
  subst e2
  have e3 : n1 = m1 := Option.some.inj (a3.symm.trans g1)
  subst e3
  have e4 : n2 = m2 := Option.some.inj (a4.1.symm.trans g2)
  subst e4
  exact ⟨n2', ⟨n1', b3, b4.1⟩, a4.2.2.1.sf b4.2.2.1⟩

theorem sameW2 {w : Int} (hN : 20000 ≤ N) (h : TR c m) (hs : SL c) (h' : TR c m') (ee : EE m m') (hw : 0 ≤ w ∧ w < m 0 10) : ∀ m2, GV N (G_X12_laysWord N m w) 60 m2 → ∃ m2', GV N (G_X12_laysWord N m' w) 60 m2' ∧ SF m2 m2' := by
  intro m2 ⟨m1, g1, g2⟩
  have e10 := ee.2.1
  obtain ⟨c1, c2, n1, n2, a1, a2, a3, a4, _⟩ := lookW (most := 60) hN (by omega) h hs hw
  obtain ⟨c1', c2', n1', n2', b1, b2, b3, b4, _⟩ := lookW (w := w) (most := 60) hN (by omega) h' hs (by omega)
  have e1 : c1' = c1 := Option.some.inj (b1.symm.trans a1)
  subst e1
  have e2 : c2' = c2 := Option.some.inj (b2.symm.trans a2)
  subst e2
  have e3 : n1 = m1 := Option.some.inj (a3.symm.trans g1)
  subst e3
  have e4 : n2 = m2 := Option.some.inj (a4.1.symm.trans g2)
  subst e4
  exact ⟨n2', ⟨n1', b3, b4.1⟩, a4.2.2.1.sf b4.2.2.1⟩

theorem CA.mv2 (hN : 20000 ≤ N) (h : TR c m) (hs : SL c) (hC : CA N c m) (h' : TR c m') (ee : EE m m') : CA N c m' := by
  have e16 := ee.1
  have e10 := ee.2.1
  have e197 := ee.2.2
  obtain ⟨h1, h2, h3⟩ := hC
  refine ⟨fun t t1 t2 => ?_, fun t t1 t2 t3 => ?_, fun w w1 w2 => ?_⟩
  · rw [e16] at t2
    exact (h1 t t1 t2).mv (sameT2 hN h hs h' ee ⟨t1, t2⟩)
  · rw [e16] at t2
    rw [e197, e197] at t3
    exact (h2 t t1 t2 t3).mv (sameJ2 hN h hs h' ee ⟨t1, t2⟩ t3)
  · rw [e10] at w2
    exact (h3 w w1 w2).mv (sameW2 hN h hs h' ee ⟨w1, w2⟩)

theorem MT.mv2 {N : Nat} {c m m' : IH} (hN : 20000 ≤ N) (h : TR c m) (hs : SL c) (hC : CA N c m) (hM : MT N c m) (h' : TR c m') (ee : EE m m') : MT N c m' := by
  rcases hM with q | ⟨q, m1, g, x⟩
  · exact Or.inl q
  · right
    refine ⟨q, ?_⟩
    have e16 := ee.1
    have co : ∀ a b, ¬ (a = 80 ∧ b = 3) → xv c 80 3 0 a b = c a b := fun a b z => xv_ne z
    have h1' := h'.pr (c' := xv c 80 3 0) (fun a b z => co a b (by omega)) TM.rf
    have h1 := h.pr (c' := xv c 80 3 0) (fun a b z => co a b (by omega)) TM.rf
    have s1 := hs.cv (c' := xv c 80 3 0) (fun a b q1 q2 => co a b (by omega))
    have C1 := hC.cv (c' := xv c 80 3 0) (fun a b q1 q2 => co a b (by omega))
    obtain ⟨c2, m2, a1, a2, a3, _⟩ := textS hN h1 s1 C1 (xv_eq rfl rfl)
    obtain ⟨c2', m2', b1, b2, b3, _⟩ := textS hN h1' s1 (CA.mv2 hN h1 s1 C1 h1' ee) (xv_eq rfl rfl)
    have e1 : c2' = c2 := Option.some.inj (b1.symm.trans a1)
    subst e1
    have e2 : m2 = m1 := Option.some.inj (a2.symm.trans g)
    subst e2
    refine ⟨m2', b2, ?_⟩
    rw [e16] at b3 ⊢
    obtain ⟨x1, x2, x3, x4, x5, x6, x7, x8⟩ := x
    obtain ⟨y1, y2, y3, y4, y5, y6, y7, y8⟩ := a3
    obtain ⟨z1, z2, z3, z4, z5, z6, z7, z8⟩ := b3
    refine ⟨by omega, z2, by omega, by omega, by omega, fun k k1 k2 => ?_, fun t t1 t2 => ?_, z8⟩
    · rw [x6 k k1 (by omega), ← y6 k k1 (by omega), z6 k k1 k2]
    · obtain ⟨r1, _, p1, p2⟩ := x7 t t1 t2
      obtain ⟨r2, _, p3, p4⟩ := y7 t t1 t2
      obtain ⟨r3, p7, p5, p6⟩ := z7 t t1 t2
      have e12 : r1 = r2 := congrArg Prod.fst (Option.some.inj (p1.symm.trans p3))
      exact ⟨r3, p7, p5, by rw [p2, e12, ← p4, p6]⟩


theorem SN.mv2 (hN : 20000 ≤ N) (h : TR c m) (hs : SL c) (hCA : CA N c m) (hS : SN N c m) (h' : TR c m') (ee : EE m m') : SN N c m' := by
  rcases hS with z | ⟨z, g, hh, r0, x1, x2⟩
  · exact Or.inl z
  · right
    refine ⟨z, ?_⟩
    have e16 := ee.1
    have co : ∀ a b, ¬ (a = 84 ∧ b = 4) → xv c 84 4 0 a b = c a b := fun a b z => xv_ne z
    have h1' := h'.pr (c' := xv c 84 4 0) (fun a b z => co a b (by omega)) TM.rf
    have h1 := h.pr (c' := xv c 84 4 0) (fun a b z => co a b (by omega)) TM.rf
    have s1 := hs.cv (c' := xv c 84 4 0) (fun a b q1 q2 => co a b (by omega))
    have C1 := hCA.cv (c' := xv c 84 4 0) (fun a b q1 q2 => co a b (by omega))
    obtain ⟨c2, g2, hh2, r2, a1, a2, a3, _⟩ := sentC hN h1 s1 C1 (Or.inl (xv_eq rfl rfl))
    obtain ⟨c2', g3, hh3, r3, b1, b2, b3, _⟩ := sentC hN h1' s1 (CA.mv2 hN h1 s1 C1 h1' ee) (Or.inl (xv_eq rfl rfl))
    have e1 : c2' = c2 := Option.some.inj (b1.symm.trans a1)
    subst e1
    obtain ⟨u1, u2, u3, u4⟩ := SX.uq x1 a2 x2 a3
    refine ⟨g3, hh3, r3, b2, ?_⟩
    obtain ⟨y1, y2, y3, y4⟩ := b3
    exact ⟨by rw [u1]; exact y1, fun s q => by rw [u2 s (by omega)]; exact y2 s q, by rw [u3]; exact y3, by rw [u4]; exact y4⟩

/-- the reference's heap changes but not what it was told -/
theorem R.same (hN : 20000 ≤ N) (h : R N c m) (h' : TR c m') (ee : EE m m') (ta : TA c m') (h1 : ∀ b, m' 1 b = m 1 b) (h11 : m' 11 0 = m 11 0) : R N c m' := by
  obtain ⟨_, ⟨b1, b2, b3⟩, t, s, ca, mt, sn⟩ := h
  exact ⟨ta, ⟨by rw [h1]; exact b1, by rw [h1]; exact b2, by rw [ee.2.1, h11]; exact b3⟩, h', s, CA.mv2 hN t s ca h' ee, MT.mv2 hN t s ca mt h' ee, SN.mv2 hN t s ca sn h' ee⟩
/-- a heap of the class that differs in its tape only -/
theorem R.tape {c' : IH} (h : R N c m) (ta : TA c' m) (hf : ∀ a b, ¬ (a = 2 ∨ a = 3) → c' a b = c a b) : R N c' m := by
  obtain ⟨_, ⟨b1, b2, b3⟩, t, s, ca, mt, sn⟩ := h
  have t' : TR c' m := TR.mk (t.ll.fr (fun a b _ _ => hf a b (by omega)) (fun _ _ _ => rfl)) (t.2.2.2.1.cv (fun a b _ _ => hf a b (by omega))) (t.2.2.2.2.1.cv (fun b => hf _ b (by omega))) (t.2.2.2.2.2.1.fr (fun a b _ _ => hf a b (by omega)) (fun _ _ _ => rfl)) (t.2.2.2.2.2.2.fr (fun a b _ _ => hf a b (by omega)) (fun _ _ _ => rfl))
  exact ⟨ta, ⟨by rw [hf _ _ (by omega)]; exact b1, by rw [hf _ _ (by omega)]; exact b2, b3⟩, t', s.cv (fun a b _ _ => hf a b (by omega)), ca.cv (fun a b _ _ => hf a b (by omega)), mt.cv (fun a b _ _ => hf a b (by omega)), sn.cv (fun a b _ => hf a b (by omega))⟩
end
