theorem HPz.cg2 {c : IH} {K K' : Int → Int} {n : Int} (h : HPz c K n (-1)) (hk : ∀ t, 0 ≤ t → t < 18085 → 0 < c 72 t → K' t = K t) : HPz c K' n (-1) := by
  obtain ⟨a1, a2, a3, a4⟩ := h
  refine ⟨a1, fun p p1 p2 => ?_, fun t t1 t2 t3 => ?_, a4⟩
  · have := a2 p p1 p2
    rw [hk _ (by omega) (by omega) (by omega)]
    exact this
  · have := a3 t t1 t2 t3
    refine ⟨this.1, this.2.1, fun q => ?_⟩
    rw [hk t t1 t2 q]
    exact this.2.2 q
section
variable {N : Nat} {c m : IH} {L n i : Int}
/-- the states that wait have small bounds -/
theorem SQ.ok {u : Int} (H : SQ c m L n i u) (hS : ST c m L) (h0 : 0 < m 0 10) {s : Int} (h1 : 0 ≤ s) (h2 : s / 721 ≤ L) (h3 : s % 721 < m 0 15) (h4 : m 30 s ≠ 0) : OK m s ∧ 0 ≤ m 29 s ∧ m 29 s ≤ s / 721 * 99 := by
  have hL := hS.1.1
  have hn := hS.2.1.1.1
  have cb := H.2.2.2.2.2.2.2.2.1 (s / 721) (s % 721) (by omega) h2 (by omega) h3 (by rw [show s / 721 * 721 + s % 721 = s by omega]; exact h4)
  rw [show s / 721 * 721 + s % 721 = s by omega] at cb
  have hr := hS.1.2.2.2.1 (s / 721) (by omega) h2
  have hl := hS.2.1.2.2.2.2.1 h0 (s % 721) (by omega) h3
  unfold OK bnd
  omega
theorem SQ.okw {u : Int} (H : SQ c m L n i u) (hS : ST c m L) (h0 : 0 < m 0 10) : ∀ k, 0 ≤ k → k < m 0 42 → OK m (m 31 k) := by
  intro k k1 k2
  have := H.2.2.2.2.2.1.2.1 k k1 k2
  exact (H.ok hS h0 this.1 this.2.1 this.2.2.1 (by omega)).1
/-- the item of a state -/
def its (s : Int) : Int := 60 + (24 - s / 721) * 721 + s % 721
theorem Kf_its {s : Int} (h : 0 ≤ s) (h2 : s / 721 ≤ 24) : Kf m (its s) = ks m s := by
  unfold its ks
  rw [Kf_s (by omega) (by omega)]
  unfold bnd
  rw [show s / 721 * 721 + s % 721 = s by omega]
/-- the item at the root -/
theorem SQ.root0 (H : SQ c m L n i (-1)) (hL : L ≤ 24) (hn : m 0 15 ≤ 721) (h1 : 1 ≤ n) : (0 ≤ c 71 0 % 32768 ∧ c 71 0 % 32768 < m 0 10 ∧ c 71 0 % 32768 < 60 ∧ 0 ≤ m 32 (c 71 0 % 32768) ∧ c 71 0 = m 32 (c 71 0 % 32768) * 32768 + c 71 0 % 32768) ∨ (∃ s, c 71 0 % 32768 = its s ∧ 0 ≤ s ∧ s / 721 ≤ L ∧ s % 721 < m 0 15 ∧ m 30 s = 1 ∧ c 71 0 = ks m s) := by
  obtain ⟨⟨⟨a1, a2, a3, a4⟩, q2⟩, q3, q6, ⟨q7, q7'⟩, q8, q9⟩ := H
  have r := a2 0 (by omega) (by omega)
  by_cases c1 : c 71 0 % 32768 < 60
  · left
    have hw := q7' (c 71 0 % 32768) (by omega) c1 (by omega)
    have sw := (q8 _ (by omega) hw).1
    have e := r.2.2.2.2.2
    rw [Kf_w c1] at e
    exact ⟨by omega, hw, c1, by omega, e⟩
  · right
    have h7 := q7 (c 71 0 % 32768) (by omega) (by omega) (by omega)
    generalize hT : c 71 0 % 32768 = t at *
    have hs := q6 (24 - (t - 60) / 721) ((t - 60) % 721) (by omega) h7.1 (by omega) h7.2
    refine ⟨sto t, ?_, ?_, ?_, ?_, ?_, ?_⟩
    · unfold its sto; omega
    · unfold sto; omega
    · unfold sto; omega
    · unfold sto; omega
    · unfold SS at hs
      rw [show 60 + (24 - (24 - (t - 60) / 721)) * 721 + (t - 60) % 721 = t by omega] at hs
      unfold sto
      omega
    · rw [r.2.2.2.2.2, ← Kf_its (by unfold sto; omega) (by unfold sto; omega), show its (sto t) = t by unfold its sto; omega]
/-- nothing waits on one side, nothing on the other -/
theorem SQ.none (H : SQ c m L 0 i (-1)) (hL : L ≤ 24) : m 0 42 = 0 ∧ ∀ w, 0 ≤ w → w < m 0 10 → m 0 10 ≤ 60 → m 32 w < 0 := by
  obtain ⟨⟨⟨a1, a2, a3, a4⟩, q2⟩, q3, q6, ⟨q7, q7'⟩, q8, ⟨w1, w2, w3, w4⟩, q9⟩ := H
  refine ⟨?_, fun w z1 z2 z3 => ?_⟩
  · by_cases cc : m 0 42 = 0
    · exact cc
    · exfalso
      have := w2 0 (by omega) (by omega)
      have hs := q6 (m 31 0 / 721) (m 31 0 % 721) (by omega) this.2.1 (by omega) this.2.2.1
      unfold SS at hs
      rw [show m 31 0 / 721 * 721 + m 31 0 % 721 = m 31 0 by omega] at hs
      have := a3 (60 + (24 - m 31 0 / 721) * 721 + m 31 0 % 721) (by omega) (by omega) (by omega)
      omega
  · have := (q8 w z1 z2).1
    have := a3 w z1 (by omega) (by omega)
    omega
/-- an answer taken, on both sides -/
theorem noteS {w most Lb : Int} (hN : 20000 ≤ N) (H : SQ c m L n i (-1)) (hS : ST c m L) (hE : EI m L Lb (-1) 0) (hA : EA m L Lb (-1)) (h1 : 1 ≤ n) (hw : 0 ≤ w ∧ w < m 0 10 ∧ m 0 10 ≤ 60) (h32 : 0 ≤ m 32 w) (hk : c 71 0 = m 32 w * 32768 + w) (ht : m 0 49 < 60) (hi : i < 18085) : ∃ c1 c2 m2, G_X6_takeLeast N c = some (c 71 0, c1) ∧ G_X6_note N c1 w (m 32 w) = some c2 ∧ (∀ k80 : IH → Int → Option IH, G_X12_searches_138 N k80 m most w = k80 m2 most) ∧ SQ c2 m2 L (n - 1) (i + 1) (-1) ∧ EI m2 L (m 32 w) (-1) 0 ∧ EA m2 L (m 32 w) (-1) ∧ DM m m2 ∧ (∀ a b, a < 67 ∨ 73 < a → c2 a b = c a b) := by
  obtain ⟨⟨q1, q2⟩, ⟨q3, q4, q5⟩, q6, ⟨q7, q7'⟩, q8, q9, q10, q11, q12, q13⟩ := id H
  have root := fun p p1 p2 => HPz.root q1 18085 p p1 p2 (by have := q1.1; omega)
  obtain ⟨c1, e1, e2, e3, e4, e5, e6⟩ := takeS hN q1 h1 q2
  have hw13 := q13 w hw.1 hw.2.1
  have k0 : c 71 0 % 32768 = w := by omega
  rw [k0] at e5 e6
  have sk : SK c c1 w := e6
  have c67 : ∀ b, b ≠ 7 → c1 67 b = c 67 b := fun b q => e4 _ _ (by omega) (by omega) (by omega)
  have sw := q8 w hw.1 hw.2.1
  have sw1 : 0 < c 72 w := by have := sw.1; omega
  refine ⟨c1, xv (xv (xv (xv c1 68 (m 0 49) w) 69 (m 0 49) (m 32 w)) 70 (m 0 49) (m 0 43)) 67 2 (m 0 49 + 1), xv (xv (xv (xv (xv m 33 (m 0 49) w) 34 (m 0 49) (m 32 w)) 35 (m 0 49) (m 0 43)) 0 49 (m 0 49 + 1)) 32 w (-1), e1, ?_, fun k80 => ?_, ?_⟩
  · unfold G_X6_note
    have f2 : c1 67 2 = m 0 49 := by rw [c67 2 (by omega)]; exact q11.1
    have f6 : c1 67 6 = m 0 43 := by rw [c67 6 (by omega)]; exact q10.1
    rw [f2, if_neg (by omega)]
    simp (disch := omega) only [xlet_q, xq_in, xv_ne, f2, f6]
    rw [wr_in (by omega) (by omega)]
  · unfold G_X12_searches_138 G_X12_searches_201
    simp (disch := omega) only [xlet_q, xq_in, xv_ne]
    rw [wr_in (by omega) (by omega)]
  · generalize hc2 : xv (xv (xv (xv c1 68 (m 0 49) w) 69 (m 0 49) (m 32 w)) 70 (m 0 49) (m 0 43)) 67 2 (m 0 49 + 1) = c2
    generalize hm2 : xv (xv (xv (xv (xv m 33 (m 0 49) w) 34 (m 0 49) (m 32 w)) 35 (m 0 49) (m 0 43)) 0 49 (m 0 49 + 1)) 32 w (-1) = m2
    have mo : ∀ a b, ¬ (a = 33 ∧ b = m 0 49) → ¬ (a = 34 ∧ b = m 0 49) → ¬ (a = 35 ∧ b = m 0 49) → ¬ (a = 0 ∧ b = 49) → ¬ (a = 32 ∧ b = w) → m2 a b = m a b := fun a b z1 z2 z3 z4 z5 => by rw [← hm2, xv_ne z5, xv_ne z4, xv_ne z3, xv_ne z2, xv_ne z1]
    have hdm : DM m m2 := fun a b z1 z2 => mo a b (by omega) (by omega) (by omega) (by omega) (by omega)
    have m32w : m2 32 w = -1 := by rw [← hm2, xv_eq rfl rfl]
    have m32 : ∀ b, b ≠ w → m2 32 b = m 32 b := fun b q => mo _ _ (by omega) (by omega) (by omega) (by omega) (by omega)
    have m49 : m2 0 49 = m 0 49 + 1 := by rw [← hm2, xv_ne (by omega), xv_eq rfl rfl]
    have m33n : m2 33 (m 0 49) = w := by rw [← hm2, xv_ne (by omega), xv_ne (by omega), xv_ne (by omega), xv_ne (by omega), xv_eq rfl rfl]
    have m34n : m2 34 (m 0 49) = m 32 w := by rw [← hm2, xv_ne (by omega), xv_ne (by omega), xv_ne (by omega), xv_eq rfl rfl]
    have m35n : m2 35 (m 0 49) = m 0 43 := by rw [← hm2, xv_ne (by omega), xv_ne (by omega), xv_eq rfl rfl]
    have m33 : ∀ b, b ≠ m 0 49 → m2 33 b = m 33 b := fun b q => mo _ _ (by omega) (by omega) (by omega) (by omega) (by omega)
    have m34 : ∀ b, b ≠ m 0 49 → m2 34 b = m 34 b := fun b q => mo _ _ (by omega) (by omega) (by omega) (by omega) (by omega)
    have m35 : ∀ b, b ≠ m 0 49 → m2 35 b = m 35 b := fun b q => mo _ _ (by omega) (by omega) (by omega) (by omega) (by omega)
    have mA : ∀ a b, a ≠ 0 → ¬ (32 ≤ a ∧ a ≤ 35) → m2 a b = m a b := fun a b z1 z2 => mo _ _ (by omega) (by omega) (by omega) (by omega) (by omega)
    have m0 : ∀ b, b ≠ 49 → m2 0 b = m 0 b := fun b q => mo _ _ (by omega) (by omega) (by omega) (by omega) (by omega)
    have co : ∀ a b, ¬ (a = 68 ∧ b = m 0 49) → ¬ (a = 69 ∧ b = m 0 49) → ¬ (a = 70 ∧ b = m 0 49) → ¬ (a = 67 ∧ b = 2) → c2 a b = c1 a b := fun a b z1 z2 z3 z4 => by rw [← hc2, xv_ne z4, xv_ne z3, xv_ne z2, xv_ne z1]
    have c72 : ∀ b, c2 72 b = c1 72 b := fun b => co _ _ (by omega) (by omega) (by omega) (by omega)
    have c71 : ∀ b, c2 71 b = c1 71 b := fun b => co _ _ (by omega) (by omega) (by omega) (by omega)
    have sk2 : SK c c2 w := fun t ht => by rw [c72]; exact sk t ht
    have nz : ∀ t, c2 72 t ≠ 0 ↔ c 72 t ≠ 0 := fun t => by
      by_cases ct : t = w
      · subst ct; rw [c72]; omega
      · exact sk2.nz ct
    have bn : ∀ s, bnd m2 s = bnd m s := fun s => by unfold bnd; rw [mA 29 _ (by omega) (by omega), mA 26 _ (by omega) (by omega), mA 11 _ (by omega) (by omega)]
    have m30 : ∀ b, m2 30 b = m 30 b := fun b => mA _ _ (by omega) (by omega)
    have m29 : ∀ b, m2 29 b = m 29 b := fun b => mA _ _ (by omega) (by omega)
    have m31 : ∀ b, m2 31 b = m 31 b := fun b => mA _ _ (by omega) (by omega)
    have m7 : ∀ b, m2 7 b = m 7 b := fun b => mA _ _ (by omega) (by omega)
    have m6 : ∀ b, m2 6 b = m 6 b := fun b => mA _ _ (by omega) (by omega)
    have m25 : ∀ b, m2 25 b = m 25 b := fun b => mA _ _ (by omega) (by omega)
    have m15 := m0 15 (by omega)
    have m10 := m0 10 (by omega)
    have m42 := m0 42 (by omega)
    have m43 := m0 43 (by omega)
    have Lle : Lb ≤ m 32 w := hE.2.1 w hw.1 hw.2.1 h32
    have hL := hS.1.1
    have hn := hS.2.1.1.1
    have minS : ∀ s, 0 ≤ s → s / 721 ≤ L → s % 721 < m 0 15 → m 30 s = 1 → m 32 w ≤ bnd m s := by
      intro s s1 s2 s3 s4
      have hs := q6 (s / 721) (s % 721) (by omega) s2 (by omega) s3
      unfold SS at hs
      rw [show s / 721 * 721 + s % 721 = s by omega] at hs
      have a3 := q1.2.2.1 (its s) (by unfold its; omega) (by unfold its; omega) (by unfold its; omega)
      have sl : 0 < c 72 (its s) := by unfold its; omega
      have a4 := (a3.2.2 sl).1
      rw [Kf_its s1 (by omega)] at a4
      have := root (c 72 (its s) - 1) (by omega) (by omega)
      rw [a4, hk] at this
      unfold ks at this
      omega
    have minW : ∀ v, 0 ≤ v → v < m 0 10 → 0 ≤ m 32 v → m 32 w ≤ m 32 v := by
      intro v v1 v2 v3
      have sv := (q8 v v1 v2).1
      have a3 := q1.2.2.1 v v1 (by omega) (by omega)
      have a4 := (a3.2.2 (by omega)).1
      rw [Kf_w (by omega)] at a4
      have := root (c 72 v - 1) (by omega) (by omega)
      rw [a4, hk] at this
      omega
    refine ⟨⟨⟨?_, ?_⟩, ⟨?_, ?_, by omega⟩, fun j x z1 z2 z3 z4 => ?_, ⟨fun t z1 z2 z3 => ?_, fun v z1 z2 z3 => ?_⟩, fun v z1 z2 => ?_, ?_, ?_, ?_, fun j x z1 z2 z3 z4 z5 => ?_, fun v z1 z2 => ?_⟩, ⟨fun j x z1 z2 z3 z4 => ?_, fun v z1 z2 z3 => ?_, fun j x e z1 z2 z3 z4 z5 z6 z7 z8 => ?_, fun j x z1 z2 z3 z4 z5 => ?_⟩, ⟨fun k k1 k2 => ?_, fun k l k1 k2 k3 => ?_, fun v z1 z2 z3 => ?_, fun v z1 z2 z3 z4 => ?_, fun z => by omega, by rw [m30]; exact hA.2.2.2.2.2⟩, hdm, fun a b z => ?_⟩
    · refine (e2.cv c71 c72).cg2 (fun t t1 t2 t3 => ?_)
      have tw : t ≠ w := by
        intro q
        rw [q, c72, e5] at t3
        omega
      unfold Kf
      by_cases c6 : t < 60
      · rw [if_pos c6, if_pos c6, m32 t tw]
      · rw [if_neg c6, if_neg c6, bn]
    · rw [co _ _ (by omega) (by omega) (by omega) (by omega)]; exact e3
    · have c673 : c2 67 10 = c 67 10 := by rw [co _ _ (by omega) (by omega) (by omega) (by omega), c67 10 (by omega)]
      have c73 : ∀ b, c2 73 b = c 73 b := fun b => by rw [co _ _ (by omega) (by omega) (by omega) (by omega), e4 _ _ (by omega) (by omega) (by omega)]
      unfold SEEN at *
      simp only [c673, c73, nz]
      exact q3
    · rw [co _ _ (by omega) (by omega) (by omega) (by omega), c67 10 (by omega)]; omega
    · rw [m15] at z4
      have := (q6 j x z1 z2 z3 z4).sk sk2 (by omega)
      unfold SS at *
      rw [m30]
      exact this
    · rw [m15]
      exact q7 t z1 z2 ((nz t).mp z3)
    · rw [m10]
      exact q7' v z1 z2 ((nz v).mp z3)
    · rw [m10] at z2
      by_cases cv : v = w
      · subst cv
        unfold SW
        rw [m32w, c72, e5, m30, m7]
        refine ⟨Or.inl ⟨rfl, by omega⟩, fun _ => ?_, fun z => by omega⟩
        have := sw.2.1 (by omega)
        constructor
        · intro q; omega
        · intro q
          have := this.mpr q
          omega
      · have := (q8 v z1 z2).sk sk2 cv
        unfold SW at *
        rw [m32 v cv, m30, m7]
        exact this
    · unfold WT at *
      simp only [m42, m31, m15, m30]
      exact q9
    · rw [co _ _ (by omega) (by omega) (by omega) (by omega), c67 6 (by omega), m43]
      omega
    · have c672 : c2 67 2 = m 0 49 + 1 := by rw [← hc2, xv_eq rfl rfl]
      rw [c672, m49]
      refine ⟨rfl, by omega, by omega, fun k k1 k2 => ?_⟩
      by_cases ck : k = m 0 49
      · subst ck
        rw [m33n, m34n, m35n, ← hc2, xv_ne (by omega), xv_ne (by omega), xv_ne (by omega), xv_eq rfl rfl, xv_ne (by omega), xv_ne (by omega), xv_eq rfl rfl, xv_ne (by omega), xv_eq rfl rfl]
        exact ⟨rfl, rfl, rfl⟩
      · rw [m33 k ck, m34 k ck, m35 k ck, co 68 k (by omega) (by omega) (by omega) (by omega), co 69 k (by omega) (by omega) (by omega) (by omega), co 70 k (by omega) (by omega) (by omega) (by omega), e4 68 k (by omega) (by omega) (by omega), e4 69 k (by omega) (by omega) (by omega), e4 70 k (by omega) (by omega) (by omega)]
        exact q11.2.2.2 k k1 (by omega)
    · rw [m15] at z4
      rw [m30] at z5
      rw [m29]
      exact q12 j x z1 z2 z3 z4 z5
    · rw [m10] at z2
      by_cases cv : v = w
      · subst cv; rw [m32w]; omega
      · rw [m32 v cv]; exact q13 v z1 z2
    · rw [m15] at z4
      rw [m30, bn]
      have := hE.1 j x z1 z2 z3 z4
      refine ⟨fun q => by have := this.1 q; omega, fun q => ?_⟩
      exact minS (j * 721 + x) (by omega) (by omega) (by omega) q
    · rw [m10] at z2
      by_cases cv : v = w
      · subst cv; rw [m32w] at z3; omega
      · rw [m32 v cv] at z3 ⊢
        exact minW v z1 z2 z3
    · rw [m15] at z4
      rw [m25] at z6
      rw [m30] at z7
      have := hE.2.2.1 j x e z1 z2 z3 z4 z5 z6 z7 z8
      unfold GO at *
      rw [wt_dm hdm z1 z5, mA (2423 + (j * 60 + e)) 0 (by omega) (by omega), mA (2423 + (j * 60 + e)) 1 (by omega) (by omega), m30, m29, m29]
      exact this
    · rw [m15] at z4
      rw [m30] at z5
      rw [m29]
      rcases hE.2.2.2 j x z1 z2 z3 z4 z5 with q | ⟨j1, x1, e1, b1, b2, b3, b4, b5, b6, b7⟩
      · exact Or.inl q
      · right
        exact ⟨j1, x1, e1, b1, by omega, by rw [m25]; exact b3, by rw [m30]; exact b4, by rw [mA (2423 + (j1 * 60 + e1)) 0 (by omega) (by omega)]; exact b5, by rw [wt_dm hdm b1.1 b3.1]; exact b6, by rw [m29, m29, mA (2423 + (j1 * 60 + e1)) 1 (by omega) (by omega)]; exact b7⟩
    · rw [m49] at k2
      rw [m10, m30, m29, m7, m6]
      by_cases ck : k = m 0 49
      · subst ck
        rw [m33n, m34n]
        have := hA.2.2.1 w hw.1 hw.2.1 h32
        exact ⟨⟨hw.1, hw.2.1⟩, this.2.1, this.1, Int.le_refl _⟩
      · rw [m33 k ck, m34 k ck]
        have := hA.1 k k1 (by omega)
        exact ⟨this.1, this.2.1, this.2.2.1, by have := this.2.2.2; omega⟩
    · rw [m49] at k3
      rw [m33 k (by omega), m34 k (by omega)]
      by_cases cl : l = m 0 49
      · subst cl
        rw [m33n, m34n]
        exact ⟨(hA.2.2.1 w hw.1 hw.2.1 h32).2.2 k k1 (by omega), by have := (hA.1 k k1 (by omega)).2.2.2; omega⟩
      · rw [m33 l cl, m34 l cl]
        exact hA.2.1 k l k1 k2 (by omega)
    · rw [m10] at z2
      by_cases cv : v = w
      · subst cv; rw [m32w] at z3; omega
      · rw [m32 v cv] at z3 ⊢
        rw [m29, m30, m7, m6]
        have := hA.2.2.1 v z1 z2 z3
        refine ⟨this.1, this.2.1, fun k k1 k2 => ?_⟩
        rw [m49] at k2
        by_cases ck : k = m 0 49
        · subst ck; rw [m33n]; omega
        · rw [m33 k ck]; exact this.2.2 k k1 (by omega)
    · rw [m10] at z2
      rw [m30, m7] at z3
      rw [m49]
      by_cases cv : v = w
      · right
        exact ⟨m 0 49, by omega, by omega, by rw [m33n, cv]⟩
      · rcases hA.2.2.2.1 v z1 z2 z3 z4 with q | ⟨k, k1, k2, k3⟩
        · left; rw [m32 v cv]; exact q
        · right; exact ⟨k, k1, by omega, by rw [m33 k (by omega)]; exact k3⟩
    · rw [co a b (by omega) (by omega) (by omega) (by omega), e4 a b (by omega) (by omega) (by omega)]
end
