section
variable {N : Nat} {c m : IH}
theorem CA.kp {c' : IH} {r : Int} (hC : CA N c m) (hR : (∀ t, 0 ≤ t → t < m 16 0 → r = t → ROW N c' t (G_X12_laysToken N m t 0) 60) ∧ (∀ t, 0 ≤ t → t + 1 < m 16 0 → r = 40 + t → ROW N c' (40 + t) (G_X12_laysToken N m t 1) 1) ∧ ∀ w, 0 ≤ w → w < m 0 10 → r = 80 + w → ROW N c' (80 + w) (G_X12_laysWord N m w) 60) (hf : ∀ a b, ¬ ((a = 75 ∨ a = 76) ∧ b = r) → ¬ (77 ≤ a ∧ a ≤ 79 ∧ r * 60 ≤ b ∧ b < r * 60 + 60) → c' a b = c a b) : CA N c' m := by
  obtain ⟨h1, h2, h3⟩ := hC
  obtain ⟨r1, r2, r3⟩ := hR
  refine ⟨fun t t1 t2 => ?_, fun t t1 t2 t3 => ?_, fun w w1 w2 => ?_⟩
  · by_cases ct : r = t
    · exact r1 t t1 t2 ct
    · exact (h1 t t1 t2).cv (hf _ _ (by omega) (by omega)) (hf _ _ (by omega) (by omega)) (fun a j q1 q2 q3 q4 => hf _ _ (by omega) (by omega))
  · by_cases ct : r = 40 + t
    · exact r2 t t1 t2 ct
    · exact (h2 t t1 t2 t3).cv (hf _ _ (by omega) (by omega)) (hf _ _ (by omega) (by omega)) (fun a j q1 q2 q3 q4 => hf _ _ (by omega) (by omega))
  · by_cases ct : r = 80 + w
    · exact r3 w w1 w2 ct
    · exact (h3 w w1 w2).cv (hf _ _ (by omega) (by omega)) (hf _ _ (by omega) (by omega)) (fun a j q1 q2 q3 q4 => hf _ _ (by omega) (by omega))
theorem cellsS {t : Int} (h : RD c m) (ht : 0 ≤ t ∧ t < m 16 0) : G_X5_cellsOf N 31 c t = some (m 197 t, c) := by
  have hT := (h.2.2 t ht.1 ht.2).1
  have h40 := h.1
  unfold G_X5_cellsOf
  (try simp (disch := omega) only [xlet_q, xq_in])
  rw [show (31 : Int) + 1 = 32 by omega, wr_in (by omega) (by omega), show c 32 (t + 1) - c 32 t = m 197 t by omega]
/-- what a look leaves -/
def LKg (N : Nat) (c m c' : IH) : Prop := TR c' m ∧ SL c' ∧ CA N c' m ∧ TC c c' ∧ (∀ a b, 79 < a → c' a b = c a b) ∧ c' 0 14 = c 0 14 ∧ c' 0 15 = c 0 15 ∧ ∀ r, c 75 r = 1 → c' 75 r = 1
theorem LKg.rf (h : TR c m) (hs : SL c) (hC : CA N c m) : LKg N c m c := ⟨h, hs, hC, TC.rf, fun _ _ _ => rfl, rfl, rfl, fun _ q => q⟩
theorem LKg.tr {c1 c2 : IH} (h : LKg N c m c1) (h1 : LKg N c1 m c2) : LKg N c m c2 := ⟨h1.1, h1.2.1, h1.2.2.1, h.2.2.2.1.tr h1.2.2.2.1, fun a b q => by rw [h1.2.2.2.2.1 a b q, h.2.2.2.2.1 a b q], h1.2.2.2.2.2.1.trans h.2.2.2.2.2.1, h1.2.2.2.2.2.2.1.trans h.2.2.2.2.2.2.1, fun r q => h1.2.2.2.2.2.2.2 r (h.2.2.2.2.2.2.2 r q)⟩
theorem aloneS {t : Int} (hN : 20000 ≤ N) (h : TR c m) (hs : SL c) (hC : CA N c m) (ht : 0 ≤ t ∧ t < m 16 0) : ∃ c' m2, G_X0_lookAlone N c t = some c' ∧ GV N (G_X12_laysToken N m t 0) 60 m2 ∧ RWM c' t m2 ∧ c' 75 t = 1 ∧ LKg N c m c' := by
  have h40 := h.2.2.2.2.2.1.1
  unfold G_X0_lookAlone
  (try simp (disch := omega) only [xlet_q, xq_in])
  rcases hC.1 t ht.1 ht.2 with q | ⟨q, m2, g, k⟩
  · rw [if_pos q]
    (try simp (disch := omega) only [xlet_q, xq_in])
    rw [cellsS h.2.2.2.2.2.1 ht, yb_s]
    obtain ⟨c1, c2, m1, m2, a1, a2, a3, a4, a5, a6, a7, a8, a9, a10, a11, a12, a13⟩ := lookT (most := 60) hN (by omega) h hs ht
    obtain ⟨c3, b1, b2, b3, b4⟩ := keepS (r := t) hN (by omega) a4.2.2.1
    rw [a1, ybv_s, a2, ybv_s, b1, ybv_s]
    have tc3 : TC c2 c3 := fun a b z => b4 a b (by omega) (by omega)
    have hgv : GV N (G_X12_laysToken N m t 0) 60 m2 := ⟨m1, a3, a4.1⟩
    refine ⟨c3, m2, rfl, hgv, b3, b2, (h.pr (a9.tr tc3) TM.rf), a6.cv (fun a b z1 z2 => b4 a b (by omega) (by omega)), ?_, a9.tr tc3, fun a b z => by rw [b4 a b (by omega) (by omega), a12 a b (by omega)], by rw [b4 0 14 (by omega) (by omega)]; exact a13.1, by rw [b4 0 15 (by omega) (by omega)]; exact a13.2, fun r q => by
      by_cases cr : r = t
      · rw [cr]; exact b2
      · rw [b4 75 r (by omega) (by omega), a12 75 r (by omega)]; exact q⟩
    refine (hC.cv (fun a b z1 z2 => a12 a b (by omega))).kp (c' := c3) (r := t) ⟨fun t' z1 z2 z3 => ?_, fun t' z1 z2 z3 => by omega, fun w z1 z2 z3 => by omega⟩ b4
    subst z3
    exact Or.inr ⟨b2, m2, hgv, b3⟩
  · rw [if_neg (by omega)]
    exact ⟨c, m2, rfl, g, k, q, LKg.rf h hs hC⟩
theorem joinedS {t : Int} (hN : 20000 ≤ N) (h : TR c m) (hs : SL c) (hC : CA N c m) (ht : 0 ≤ t ∧ t + 1 < m 16 0) (h24 : m 197 t + m 197 (t + 1) ≤ 24) : ∃ c' m2, G_X0_lookJoined N c t = some c' ∧ GV N (G_X12_laysToken N m t 1) 1 m2 ∧ RWM c' (40 + t) m2 ∧ c' 75 (40 + t) = 1 ∧ LKg N c m c' := by
  have h40 := h.2.2.2.2.2.1.1
  have hb := (h.2.2.2.2.2.1.2.2 t ht.1 (by omega)).1
  have hb1 := (h.2.2.2.2.2.1.2.2 (t + 1) (by omega) ht.2).1
  unfold G_X0_lookJoined G_X0_joinedCells
  (try simp (disch := omega) only [xlet_q, xq_in])
  rcases hC.2.1 t ht.1 ht.2 h24 with q | ⟨q, m2, g, k⟩
  · rw [if_pos q]
    (try simp (disch := omega) only [xlet_q, xq_in])
    rw [cellsS h.2.2.2.2.2.1 ⟨ht.1, by omega⟩, yb_s, wr_in (show -2147483648 ≤ t + 1 by omega) (by omega), cellsS h.2.2.2.2.2.1 ⟨by omega, ht.2⟩, yb_s, yb_s, wr_in (show -2147483648 ≤ m 197 t + m 197 (t + 1) by omega) (by omega)]
    obtain ⟨c1, c2, m1, m2, a1, a2, a3, a4, a5, a6, a7, a8, a9, a10, a11, a12, a13⟩ := lookJ (most := 1) hN (by omega) h hs ht h24
    obtain ⟨c3, b1, b2, b3, b4⟩ := keepS (r := 40 + t) hN (by omega) a4.2.2.1
    rw [a1, ybv_s, a2, ybv_s, wr_in (show -2147483648 ≤ 40 + t by omega) (by omega), b1, ybv_s]
    have tc3 : TC c2 c3 := fun a b z => b4 a b (by omega) (by omega)
    have hgv : GV N (G_X12_laysToken N m t 1) 1 m2 := ⟨m1, a3, a4.1⟩
    refine ⟨c3, m2, rfl, hgv, b3, b2, (h.pr (a9.tr tc3) TM.rf), a6.cv (fun a b z1 z2 => b4 a b (by omega) (by omega)), ?_, a9.tr tc3, fun a b z => by rw [b4 a b (by omega) (by omega), a12 a b (by omega)], by rw [b4 0 14 (by omega) (by omega)]; exact a13.1, by rw [b4 0 15 (by omega) (by omega)]; exact a13.2, fun r q => by
      by_cases cr : r = 40 + t
      · rw [cr]; exact b2
      · rw [b4 75 r (by omega) (by omega), a12 75 r (by omega)]; exact q⟩
    refine (hC.cv (fun a b z1 z2 => a12 a b (by omega))).kp (c' := c3) (r := 40 + t) ⟨fun t' z1 z2 z3 => by omega, fun t' z1 z2 z3 => ?_, fun w z1 z2 z3 => by omega⟩ b4
    have : t' = t := by omega
    subst this
    exact Or.inr ⟨b2, m2, hgv, b3⟩
  · rw [if_neg (by omega)]
    exact ⟨c, m2, rfl, g, k, q, LKg.rf h hs hC⟩
theorem surelyS {w : Int} (hN : 20000 ≤ N) (h : TR c m) (hs : SL c) (hC : CA N c m) (hw : 0 ≤ w ∧ w < m 0 10) : ∃ c' m2, G_X0_lookSurely N c w = some c' ∧ GV N (G_X12_laysWord N m w) 60 m2 ∧ RWM c' (80 + w) m2 ∧ c' 75 (80 + w) = 1 ∧ LKg N c m c' := by
  have h60 := h.1.2.1
  have h40 := h.2.2.2.2.2.1.1
  unfold G_X0_lookSurely
  (try simp (disch := omega) only [xlet_q, xq_in])
  rcases hC.2.2 w hw.1 hw.2 with q | ⟨q, m2, g, k⟩
  · rw [if_pos q]
    obtain ⟨c1, c2, m1, m2, a1, a2, a3, a4, a5, a6, a7, a8, a9, a10, a11, a12, a13⟩ := lookW (most := 60) hN (by omega) h hs hw
    obtain ⟨c3, b1, b2, b3, b4⟩ := keepS (r := 80 + w) hN (by omega) a4.2.2.1
    rw [a1, ybv_s, a2, ybv_s, wr_in (show -2147483648 ≤ 80 + w by omega) (by omega), b1, ybv_s]
    have tc3 : TC c2 c3 := fun a b z => b4 a b (by omega) (by omega)
    have hgv : GV N (G_X12_laysWord N m w) 60 m2 := ⟨m1, a3, a4.1⟩
    refine ⟨c3, m2, rfl, hgv, b3, b2, (h.pr (a9.tr tc3) TM.rf), a6.cv (fun a b z1 z2 => b4 a b (by omega) (by omega)), ?_, a9.tr tc3, fun a b z => by rw [b4 a b (by omega) (by omega), a12 a b (by omega)], by rw [b4 0 14 (by omega) (by omega)]; exact a13.1, by rw [b4 0 15 (by omega) (by omega)]; exact a13.2, fun r q => by
      by_cases cr : r = 80 + w
      · rw [cr]; exact b2
      · rw [b4 75 r (by omega) (by omega), a12 75 r (by omega)]; exact q⟩
    refine (hC.cv (fun a b z1 z2 => a12 a b (by omega))).kp (c' := c3) (r := 80 + w) ⟨fun t' z1 z2 z3 => by omega, fun t' z1 z2 z3 => by omega, fun w' z1 z2 z3 => ?_⟩ b4
    have : w' = w := by omega
    subst this
    exact Or.inr ⟨b2, m2, hgv, b3⟩
  · rw [if_neg (by omega)]
    exact ⟨c, m2, rfl, g, k, q, LKg.rf h hs hC⟩
end
