/-- a text made is the reference's -/
def TXR (N : Nat) (c m' : IH) (T : Int) : Prop := c 80 4 = m' 0 69 ∧ (0 ≤ m' 0 69 ∧ m' 0 69 ≤ 1000) ∧ c 80 5 = m' 48 0 ∧ c 80 6 = m' 0 70 ∧ c 80 7 = m' 0 71 ∧ (∀ k, 0 ≤ k → k < m' 0 69 → c 81 k = m' 50 k) ∧ (∀ t, 0 ≤ t → t < T → ∃ r, (r = 0 ∨ r = 1) ∧ G_X12_isLostAt N m' t = some (r, m') ∧ c 82 t = r) ∧ (0 < T → G_X12_isLostAt N m' (-1) = some (0, m'))
/-- what making a text leaves -/
def LK3 (N : Nat) (c m c' : IH) : Prop := TR c' m ∧ SL c' ∧ CA N c' m ∧ TC c c' ∧ (∀ a b, 83 < a → c' a b = c a b) ∧ c' 0 14 = c 0 14 ∧ c' 0 15 = c 0 15
theorem textS {N : Nat} {c m : IH} (hN : 20000 ≤ N) (h : TR c m) (hs : SL c) (hC : CA N c m) (h0 : c 80 3 = 0) : ∃ c' m', G_X3_make N c = some c' ∧ G_X12_mendsAll N m = some m' ∧ TXR N c' m' (m 16 0) ∧ c' 80 3 = 1 ∧ LK3 N c m c' ∧ TM m m' := by
  have h40 := h.2.2.2.2.2.1.1
  unfold G_X3_make G_X12_mendsAll
  rw [if_pos h0, h40.1]
  simp (disch := omega) only [xlet_q, xq_in, xv_ne]
  rw [h40.1, wr_in (by omega) (by omega)]
  have co : ∀ a b, ¬ (a = 83 ∧ b = m 16 0) → xv c 83 (m 16 0) 0 a b = c a b := fun a b q => xv_ne q
  obtain ⟨c1, e1, e2, e3, e4⟩ := make31 (N := N) (m := m) hN N (xv c 83 (m 16 0) 0) (m 16 0 - 1) (h.pr (fun a b q => co a b (by omega)) TM.rf) (hs.cv (fun a b q1 q2 => co a b (by omega))) (hC.cv (fun a b q1 q2 => co a b (by omega))) (xv_eq rfl rfl) (fun s s1 s2 => by omega) (by omega) (by omega) (by omega)
  rw [e1]
  obtain ⟨m1, f1, f2, f3⟩ := all9 (N := N) hN h hs N m 0 TM.rf (fun s s1 s2 => by omega) (by omega) (by omega) (by omega)
  rw [f1]
  obtain ⟨m2, g1, g2, g3, g4, g5⟩ := all36 (N := N) hN h hs N (xv m1 48 (m 16 0) 0) (m 16 0 - 1) (fun a b z1 z2 z3 => by rw [xv_ne (by omega)]; exact f2 a b z1 z2 z3) (fun s s1 s2 => by
    rw [xv_ne (by omega), xv_ne (by omega), xv_ne (by omega), xv_ne (by omega)]
    exact f3 s s1 s2) (xv_eq rfl rfl) (fun s s1 s2 => by omega) (by omega) (by omega) (by omega)
  rw [g1]
  have uq := DR.uq (N := N) (m := m) (T := m 16 0) rfl e3 g4 (fun s s1 s2 => (e4 s s1 s2).1) g5
  obtain ⟨j1, j2, j3, j4, j5, j6, j7, j8, j9⟩ := e2
  generalize hcw : xv (xv (xv (xv c1 80 5 (c1 83 0)) 80 4 0) 80 6 0) 80 7 0 = cw
  generalize hmw : xv (xv (xv m2 0 69 0) 0 70 0) 0 71 0 = mw
  have cwo : ∀ a b, ¬ (a = 80 ∧ 4 ≤ b ∧ b ≤ 7) → cw a b = c1 a b := fun a b q => by rw [← hcw, xv_ne (by omega), xv_ne (by omega), xv_ne (by omega), xv_ne (by omega)]
  have mwo : ∀ a b, ¬ (a = 0 ∧ 69 ≤ b) → mw a b = m2 a b := fun a b q => by rw [← hmw, xv_ne (by omega), xv_ne (by omega), xv_ne (by omega)]
  have cw5 : cw 80 5 = c1 83 0 := by rw [← hcw, xv_ne (by omega), xv_ne (by omega), xv_ne (by omega), xv_eq rfl rfl]
  have cw4 : cw 80 4 = 0 := by rw [← hcw, xv_ne (by omega), xv_ne (by omega), xv_eq rfl rfl]
  have cw6 : cw 80 6 = 0 := by rw [← hcw, xv_ne (by omega), xv_eq rfl rfl]
  have cw7 : cw 80 7 = 0 := by rw [← hcw, xv_eq rfl rfl]
  have mw69 : mw 0 69 = 0 := by rw [← hmw, xv_ne (by omega), xv_ne (by omega), xv_eq rfl rfl]
  have mw70 : mw 0 70 = 0 := by rw [← hmw, xv_ne (by omega), xv_eq rfl rfl]
  have mw71 : mw 0 71 = 0 := by rw [← hmw, xv_eq rfl rfl]
  have tcw : TC c1 cw := fun a b q => cwo a b (by omega)
  have tmw : TM m mw := fun a b z1 z2 z3 => by rw [mwo a b (by omega)]; exact g2 a b z1 z2 z3
  obtain ⟨c3, m3, k1, k2, k3⟩ := write0 (N := N) (mb := m) (l := m2 49) hN (fun s s1 s2 => by
    rcases (g5 s s1 s2).1 with q | q
    · exact Or.inl ⟨q.1, q.2.1⟩
    · exact Or.inr q.1) N cw mw 0 (j1.pr tcw TM.rf) (j2.cv (fun a b q1 q2 => cwo a b (by omega))) (j3.cv (fun a b q1 q2 => cwo a b (by omega))) (fun s s1 s2 => by rw [cwo _ _ (by omega), cwo _ _ (by omega)]; exact (e4 s s1 s2).2) tmw (fun s s1 s2 => by
      rw [mwo _ _ (by omega), mwo _ _ (by omega), mwo _ _ (by omega), mwo _ _ (by omega)]
      exact g3 s s1 s2) (fun b => mwo _ _ (by omega)) ⟨by omega, by omega, fun k q1 q2 => by omega⟩ (by simp only [rea]; omega) (by omega) (by omega) (by simp only [rea]; omega) (by simp only [rea]; omega) (by simp only [rea]; omega) (fun s s1 s2 => by simp only [rea] at s2; omega) (fun s s1 s2 => by
      simp only [rea] at s1
      rw [cwo _ _ (by omega)]
      exact (uq ((m 16 0 - s).toNat + 1) s s1 (by omega) (by omega)).2 s2) (by simp only [rea]; omega)
  obtain ⟨w1, w2, w3, w4, w5, w6, w7, w8, w9⟩ := k3
  have k1' : G_X3_write N cw = some c3 := by
    unfold G_X3_write
    rw [xlet_q, xlet_q]
    exact k1
  have k2' : G_X12_mendsAll_170 N N mw (m 16 0) 0 = some m3 := k2
  rw [k1', ybv_s, k2']
  have c3o : ∀ a b, ¬ (a = 80 ∧ b = 3) → xv c3 80 3 1 a b = c3 a b := fun a b q => xv_ne q
  have e48 : m3 48 0 = m2 48 0 := by rw [w8, mwo _ _ (by omega)]
  have m316 : m3 16 0 = m 16 0 := w6 _ _ (by omega) (by omega) (by omega)
  have tot : TC c c3 := fun a b q => by rw [w9 a b (by omega) (by omega) (by omega), cwo a b (by omega), j4 a b q, co a b (by omega)]
  refine ⟨_, m3, rfl, rfl, ⟨?_, ⟨w1.2.1, w2⟩, ?_, ?_, ?_, fun k q1 q2 => ?_, fun t t1 t2 => ?_, fun hT => ?_⟩, xv_eq rfl rfl, ⟨?_, ?_, ?_, ?_, fun a b q => ?_, ?_, ?_⟩, w6⟩
  · rw [c3o _ _ (by omega)]; exact w1.1
  · rw [c3o _ _ (by omega), w9 _ _ (by omega) (by omega) (by omega), cw5, e48]
    exact (uq ((m 16 0 - 0).toNat + 1) 0 (by omega) (by omega) (by omega)).1
  · rw [c3o _ _ (by omega)]; exact w3
  · rw [c3o _ _ (by omega)]; exact w4
  · rw [c3o _ _ (by omega)]; exact w1.2.2 k q1 q2
  · rw [c3o _ _ (by omega)]
    have e49 : m3 49 = m2 49 := funext w7
    rcases lostAtS (N := N) (m := m3) (t := t) hN (by omega) (by omega) with ⟨q1, q2, q3⟩ | ⟨q1, q3⟩
    · rw [e49] at q1
      rcases w5 t t1 t2 with ⟨p1, p2⟩ | ⟨p1, p2⟩
      · exact ⟨1, Or.inr rfl, q3, p2⟩
      · exact absurd q1 p1
    · rw [e49] at q1
      rcases w5 t t1 t2 with ⟨p1, p2⟩ | ⟨p1, p2⟩
      · exact absurd ⟨p1, t1⟩ q1
      · exact ⟨0, Or.inl rfl, q3, p2⟩
  · rcases lostAtS (N := N) (m := m3) (t := -1) hN (by omega) (by omega) with ⟨q1, q2, q3⟩ | ⟨q1, q3⟩
    · omega
    · exact q3
  · exact h.pr (fun a b q => by rw [c3o a b (by omega), tot a b q]) TM.rf
  · exact (j2.cv (fun a b q1 q2 => by rw [c3o a b (by omega), w9 a b (by omega) (by omega) (by omega), cwo a b (by omega)]))
  · exact (j3.cv (fun a b q1 q2 => by rw [c3o a b (by omega), w9 a b (by omega) (by omega) (by omega), cwo a b (by omega)]))
  · exact fun a b q => by rw [c3o a b (by omega), tot a b q]
  · rw [c3o a b (by omega), w9 a b (by omega) (by omega) (by omega), cwo a b (by omega), j5 a b q, co a b (by omega)]
  · rw [c3o _ _ (by omega), w9 _ _ (by omega) (by omega) (by omega), cwo _ _ (by omega), j6, co _ _ (by omega)]
  · rw [c3o _ _ (by omega), w9 _ _ (by omega) (by omega) (by omega), cwo _ _ (by omega), j7, co _ _ (by omega)]
/-- the text that is kept is the reference's -/
def MT (N : Nat) (c m : IH) : Prop := c 80 3 = 0 ∨ (c 80 3 = 1 ∧ ∃ m', G_X12_mendsAll N m = some m' ∧ TXR N c m' (m 16 0))
theorem MT.cv {N : Nat} {c c' m : IH} (h : MT N c m) (hf : ∀ a b, 80 ≤ a → a ≤ 82 → c' a b = c a b) : MT N c' m := by
  have e80 : ∀ b, c' 80 b = c 80 b := fun b => hf _ _ (by omega) (by omega)
  have e81 : ∀ b, c' 81 b = c 81 b := fun b => hf _ _ (by omega) (by omega)
  have e82 : ∀ b, c' 82 b = c 82 b := fun b => hf _ _ (by omega) (by omega)
  unfold MT TXR at *
  simp only [e80, e81, e82]
  exact h
theorem MT.mv {N : Nat} {c m m' : IH} (hN : 20000 ≤ N) (h : TR c m) (hs : SL c) (hC : CA N c m) (hM : MT N c m) (hm : TM m m') : MT N c m' := by
  rcases hM with q | ⟨q, m1, g, x⟩
  · exact Or.inl q
  · right
    refine ⟨q, ?_⟩
    have e16 : m' 16 0 = m 16 0 := hm _ _ (by omega) (by omega) (by omega)
    have co : ∀ a b, ¬ (a = 80 ∧ b = 3) → xv c 80 3 0 a b = c a b := fun a b z => xv_ne z
    have h1 := h.pr (c' := xv c 80 3 0) (fun a b z => co a b (by omega)) TM.rf
    have s1 := hs.cv (c' := xv c 80 3 0) (fun a b q1 q2 => co a b (by omega))
    have C1 := hC.cv (c' := xv c 80 3 0) (fun a b q1 q2 => co a b (by omega))
    obtain ⟨c2, m2, a1, a2, a3, _⟩ := textS hN h1 s1 C1 (xv_eq rfl rfl)
    obtain ⟨c2', m2', b1, b2, b3, _⟩ := textS hN (h1.pr TC.rf hm) s1 (CA.mv hN h1 s1 C1 hm) (xv_eq rfl rfl)
    have e1 : c2' = c2 := Option.some.inj (b1.symm.trans a1)
    subst e1
    have e2 : m2 = m1 := Option.some.inj (a2.symm.trans g)
    subst e2
    refine ⟨m2', b2, ?_⟩
    rw [e16] at b3 ⊢
    obtain ⟨x1, x2, x3, x4, x5, x6, x7, x8⟩ := x
    obtain ⟨y1, y2, y3, y4, y5, y6, y7, y8⟩ := a3
    obtain ⟨z1, z2, z3, z4, z5, z6, z7, z8⟩ := b3
    refine ⟨by omega, z2, by omega, by omega, by omega, fun k k1 k2 => ?_, fun t t1 t2 => ?_, z8⟩
    · rw [x6 k k1 (by omega), ← y6 k k1 (by omega), z6 k k1 k2]
    · obtain ⟨r1, _, p1, p2⟩ := x7 t t1 t2
      obtain ⟨r2, _, p3, p4⟩ := y7 t t1 t2
      obtain ⟨r3, p7, p5, p6⟩ := z7 t t1 t2
      have e12 : r1 = r2 := congrArg Prod.fst (Option.some.inj (p1.symm.trans p3))
      exact ⟨r3, p7, p5, by rw [p2, e12, ← p4, p6]⟩
