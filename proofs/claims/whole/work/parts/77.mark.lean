section
variable {N : Nat} {c m : IH} {L n i : Int}
/-- a state taken: the class's heap, the reference's rows -/
theorem markS {r Lb u : Int} (hN : 20000 ≤ N) (H : SQ c m L n i (-1)) (hS : ST c m L) (hE : EI m L Lb (-1) 0) (hA : EA m L Lb (-1)) (h0 : 0 < m 0 10) (h1 : 1 ≤ n) (hr : 0 ≤ r ∧ r < m 0 42) (hk : c 71 0 = ks m (m 31 r)) (hi : i < 18085) (hu : u = if m 31 r / 721 = L then m 10 (m 31 r % 721) else -1) : ∃ c1, G_X6_takeLeast N c = some (c 71 0, c1) ∧ SQ (xv c1 67 6 (m 0 43 + 1)) (xv (xv (xv (xv m 0 42 (m 0 42 - 1)) 31 r (m 31 (m 0 42 - 1))) 30 (m 31 r) 2) 0 43 (m 0 43 + 1)) L (n - 1) (i + 1) u ∧ EI (xv (xv (xv (xv m 0 42 (m 0 42 - 1)) 31 r (m 31 (m 0 42 - 1))) 30 (m 31 r) 2) 0 43 (m 0 43 + 1)) L (bnd m (m 31 r)) (m 31 r) 0 ∧ EA (xv (xv (xv (xv m 0 42 (m 0 42 - 1)) 31 r (m 31 (m 0 42 - 1))) 30 (m 31 r) 2) 0 43 (m 0 43 + 1)) L (bnd m (m 31 r)) u ∧ (∀ a b, ¬ (a = 67 ∧ b = 7) → a ≠ 71 → a ≠ 72 → c1 a b = c a b) := by
  obtain ⟨⟨q1, q2⟩, ⟨q3, q4, q5⟩, q6, ⟨q7, q7'⟩, q8, ⟨w1, w2, w3, w4⟩, q10, q11, q12, q13⟩ := id H
  have root := fun p p1 p2 => HPz.root q1 18085 p p1 p2 (by have := q1.1; omega)
  have hL := hS.1.1
  have hn := hS.2.1.1.1
  have hW := hS.2.1.2.1
  have wr0 := w2 r hr.1 hr.2
  generalize hs : m 31 r = s at *
  have ok := H.ok hS h0 wr0.1 wr0.2.1 wr0.2.2.1 (by omega)
  have ok1 := ok.1
  unfold OK at ok1
  obtain ⟨c1, e1, e2, e3, e4, e5, e6⟩ := takeS hN q1 h1 q2
  have k0 : c 71 0 % 32768 = its s := by rw [hk]; unfold ks its; omega
  rw [k0] at e5 e6
  have sk : SK c c1 (its s) := e6
  have hsq : s / 721 * 721 + s % 721 = s := by omega
  have ss := q6 (s / 721) (s % 721) (by omega) wr0.2.1 (by omega) wr0.2.2.1
  unfold SS at ss
  rw [hsq] at ss
  have sl : 0 < c 72 (its s) := by unfold its; omega
  refine ⟨c1, e1, ?_⟩
  generalize hc2 : xv c1 67 6 (m 0 43 + 1) = c2
  generalize hm2 : xv (xv (xv (xv m 0 42 (m 0 42 - 1)) 31 r (m 31 (m 0 42 - 1))) 30 s 2) 0 43 (m 0 43 + 1) = m2
  have mo : ∀ a b, ¬ (a = 0 ∧ b = 42) → ¬ (a = 31 ∧ b = r) → ¬ (a = 30 ∧ b = s) → ¬ (a = 0 ∧ b = 43) → m2 a b = m a b := fun a b z1 z2 z3 z4 => by rw [← hm2, xv_ne z4, xv_ne z3, xv_ne z2, xv_ne z1]
  have hdm : DM m m2 := fun a b z1 z2 => mo a b (by omega) (by omega) (by omega) (by omega)
  have m42 : m2 0 42 = m 0 42 - 1 := by rw [← hm2, xv_ne (by omega), xv_ne (by omega), xv_ne (by omega), xv_eq rfl rfl]
  have m43 : m2 0 43 = m 0 43 + 1 := by rw [← hm2, xv_eq rfl rfl]
  have m30s : m2 30 s = 2 := by rw [← hm2, xv_ne (by omega), xv_eq rfl rfl]
  have m30 : ∀ b, b ≠ s → m2 30 b = m 30 b := fun b q => mo _ _ (by omega) (by omega) (by omega) (by omega)
  have m31r : m2 31 r = m 31 (m 0 42 - 1) := by rw [← hm2, xv_ne (by omega), xv_ne (by omega), xv_eq rfl rfl]
  have m31 : ∀ b, b ≠ r → m2 31 b = m 31 b := fun b q => mo _ _ (by omega) (by omega) (by omega) (by omega)
  have m0 : ∀ b, b ≠ 42 → b ≠ 43 → m2 0 b = m 0 b := fun b z1 z2 => mo _ _ (by omega) (by omega) (by omega) (by omega)
  have mA : ∀ a b, a ≠ 0 → a ≠ 30 → a ≠ 31 → m2 a b = m a b := fun a b z1 z2 z3 => mo _ _ (by omega) (by omega) (by omega) (by omega)
  have m15 := m0 15 (by omega) (by omega)
  have m10 := m0 10 (by omega) (by omega)
  have m49 := m0 49 (by omega) (by omega)
  have m29 : ∀ b, m2 29 b = m 29 b := fun b => mA _ _ (by omega) (by omega) (by omega)
  have m32 : ∀ b, m2 32 b = m 32 b := fun b => mA _ _ (by omega) (by omega) (by omega)
  have m33 : ∀ b, m2 33 b = m 33 b := fun b => mA _ _ (by omega) (by omega) (by omega)
  have m34 : ∀ b, m2 34 b = m 34 b := fun b => mA _ _ (by omega) (by omega) (by omega)
  have m35 : ∀ b, m2 35 b = m 35 b := fun b => mA _ _ (by omega) (by omega) (by omega)
  have m7 : ∀ b, m2 7 b = m 7 b := fun b => mA _ _ (by omega) (by omega) (by omega)
  have m6 : ∀ b, m2 6 b = m 6 b := fun b => mA _ _ (by omega) (by omega) (by omega)
  have m25 : ∀ b, m2 25 b = m 25 b := fun b => mA _ _ (by omega) (by omega) (by omega)
  have bn : ∀ x, bnd m2 x = bnd m x := fun x => by unfold bnd; rw [m29, mA 26 _ (by omega) (by omega) (by omega), mA 11 _ (by omega) (by omega) (by omega)]
  have co : ∀ a b, ¬ (a = 67 ∧ b = 6) → c2 a b = c1 a b := fun a b z => by rw [← hc2, xv_ne z]
  have c72 : ∀ b, c2 72 b = c1 72 b := fun b => co _ _ (by omega)
  have c71 : ∀ b, c2 71 b = c1 71 b := fun b => co _ _ (by omega)
  have sk2 : SK c c2 (its s) := fun t ht => by rw [c72]; exact sk t ht
  have nz : ∀ t, c2 72 t ≠ 0 ↔ c 72 t ≠ 0 := fun t => by
    by_cases ct : t = its s
    · subst ct; rw [c72]; omega
    · exact sk2.nz ct
  have its60 : 60 ≤ its s := by unfold its; omega
  have minS : ∀ x, 0 ≤ x → x / 721 ≤ L → x % 721 < m 0 15 → m 30 x = 1 → bnd m s ≤ bnd m x := by
    intro x x1 x2 x3 x4
    have hx := q6 (x / 721) (x % 721) (by omega) x2 (by omega) x3
    unfold SS at hx
    rw [show x / 721 * 721 + x % 721 = x by omega] at hx
    have a3 := q1.2.2.1 (its x) (by unfold its; omega) (by unfold its; omega) (by unfold its; omega)
    have sx : 0 < c 72 (its x) := by unfold its; omega
    have a4 := (a3.2.2 sx).1
    rw [Kf_its x1 (by omega)] at a4
    have := root (c 72 (its x) - 1) (by omega) (by omega)
    rw [a4, hk] at this
    unfold ks at this
    omega
  have minW : ∀ v, 0 ≤ v → v < m 0 10 → 0 ≤ m 32 v → bnd m s ≤ m 32 v := by
    intro v v1 v2 v3
    have sv := (q8 v v1 v2).1
    have a3 := q1.2.2.1 v v1 (by omega) (by omega)
    have a4 := (a3.2.2 (by omega)).1
    rw [Kf_w (by omega)] at a4
    have := root (c 72 v - 1) (by omega) (by omega)
    rw [a4, hk] at this
    unfold ks at this
    omega
  have Lle : Lb ≤ bnd m s := by
    have := (hE.1 (s / 721) (s % 721) (by omega) wr0.2.1 (by omega) wr0.2.2.1).2
    rw [hsq] at this
    exact this wr0.2.2.2
  have hword : ∀ v, 0 ≤ v → v < m 0 10 → v ≠ u → L * 721 + m 7 v ≠ s := by
    intro v v1 v2 v3 q
    have lw := hS.2.1.2.2.1 v v1 v2
    rw [hu, if_pos (by omega)] at v3
    have : s % 721 = m 7 v := by omega
    rw [this, lw.2.2.2.1] at v3
    exact v3 rfl
  refine ⟨⟨⟨?_, ?_⟩, ⟨?_, ?_, by omega⟩, fun j x z1 z2 z3 z4 => ?_, ⟨fun t z1 z2 z3 => ?_, fun v z1 z2 z3 => ?_⟩, fun v z1 z2 => ?_, ⟨?_, fun k k1 k2 => ?_, fun k l k1 k2 k3 => ?_, fun x z1 z2 z3 z4 => ?_⟩, ?_, ?_, fun j x z1 z2 z3 z4 z5 => ?_, fun v z1 z2 => ?_⟩, ⟨fun j x z1 z2 z3 z4 => ?_, fun v z1 z2 z3 => ?_, fun j x e z1 z2 z3 z4 z5 z6 z7 z8 => ?_, fun j x z1 z2 z3 z4 z5 => ?_⟩, ⟨fun k k1 k2 => ?_, ?_, fun v z1 z2 z3 => ?_, fun v z1 z2 z3 z4 => ?_, fun z k k1 k2 => ?_, ?_⟩, e4⟩
  · refine (e2.cv c71 c72).cg2 (fun t t1 t2 t3 => ?_)
    unfold Kf
    rw [m32, bn]
  · rw [co _ _ (by omega)]; exact e3
  · have c673 : c2 67 10 = c 67 10 := by rw [co _ _ (by omega), e4 _ _ (by omega) (by omega) (by omega)]
    have c73 : ∀ b, c2 73 b = c 73 b := fun b => by rw [co _ _ (by omega), e4 _ _ (by omega) (by omega) (by omega)]
    unfold SEEN at *
    simp only [c673, c73, nz]
    exact q3
  · rw [co _ _ (by omega), e4 _ _ (by omega) (by omega) (by omega)]; omega
  · rw [m15] at z4
    by_cases cj : j * 721 + x = s
    · have e : 60 + (24 - j) * 721 + x = its s := by unfold its; omega
      unfold SS
      rw [cj, e, m30s, c72, e5]
      exact Or.inr (Or.inr ⟨rfl, rfl⟩)
    · have := (q6 j x z1 z2 z3 z4).sk sk2 (by unfold its; omega)
      unfold SS at *
      rw [m30 _ cj]
      exact this
  · rw [m15]
    exact q7 t z1 z2 ((nz t).mp z3)
  · rw [m10]
    exact q7' v z1 z2 ((nz v).mp z3)
  · rw [m10] at z2
    have sv := (q8 v z1 z2).sk sk2 (by omega)
    unfold SW at *
    rw [m32, m7]
    by_cases cv : v = u
    · have hz : c 72 v = 0 := by
        have old := (q8 v z1 z2).2.1 (by omega)
        have e : L * 721 + m 7 v = s := by
          by_cases cl : s / 721 = L
          · rw [if_pos cl] at hu
            have lx := hS.2.1.2.2.2.1 (s % 721) (by omega) wr0.2.2.1
            rcases lx with lx | lx
            · omega
            · have := lx.2.2
              rw [← hu, ← cv] at this
              omega
          · rw [if_neg cl] at hu
            omega
        rw [e] at old
        exact old.mpr (by omega)
      have hz2 : c2 72 v = 0 := by rw [(sk2 v (by omega)).1 (by omega)]; exact hz
      refine ⟨sv.1, fun q => absurd cv q, fun _ => hz2⟩
    · rw [m30 _ (hword v z1 z2 cv)]
      exact ⟨sv.1, fun _ => sv.2.1 (by omega), fun q => absurd q cv⟩
  · omega
  · rw [m42] at k2
    rw [m15]
    by_cases ck : k = r
    · subst ck
      have := w2 (m 0 42 - 1) (by omega) (by omega)
      have ne := w3 k (m 0 42 - 1) k1 k2 (by omega)
      rw [hs] at ne
      rw [m31r, m30 _ (fun q => ne q.symm)]
      exact this
    · have := w2 k k1 (by omega)
      have ne : m 31 k ≠ s := by
        intro q
        by_cases c1 : k < r
        · exact w3 k r k1 c1 hr.2 (by rw [q, hs])
        · exact w3 r k hr.1 (by omega) (by omega) (by rw [q, hs])
      rw [m31 k ck, m30 _ ne]
      exact this
  · rw [m42] at k3
    by_cases ck : k = r
    · subst ck
      rw [m31r, m31 l (by omega)]
      exact fun q => w3 l (m 0 42 - 1) (by omega) (by omega) (by omega) q.symm
    · rw [m31 k ck]
      by_cases cl : l = r
      · subst cl
        rw [m31r]
        exact w3 k (m 0 42 - 1) k1 (by omega) (by omega)
      · rw [m31 l cl]
        exact w3 k l k1 k2 (by omega)
  · rw [m15] at z3
    rw [m42]
    have xs : x ≠ s := by
      intro q
      rw [q, m30s] at z4
      omega
    rw [m30 _ xs] at z4
    obtain ⟨k, k1, k2, k3⟩ := w4 x z1 z2 z3 z4
    have kr : k ≠ r := fun q => xs (by rw [← k3, q, hs])
    by_cases ck : k = m 0 42 - 1
    · exact ⟨r, hr.1, by omega, by rw [m31r, ← ck]; exact k3⟩
    · exact ⟨k, k1, by omega, by rw [m31 k kr]; exact k3⟩
  · rw [m43, ← hc2, xv_eq rfl rfl]
    omega
  · rw [m49, co _ _ (by omega), e4 _ _ (by omega) (by omega) (by omega)]
    refine ⟨q11.1, q11.2.1, q11.2.2.1, fun k k1 k2 => ?_⟩
    rw [m33, m34, m35, co _ _ (by omega), co _ _ (by omega), co _ _ (by omega), e4 _ _ (by omega) (by omega) (by omega), e4 _ _ (by omega) (by omega) (by omega), e4 _ _ (by omega) (by omega) (by omega)]
    exact q11.2.2.2 k k1 k2
  · rw [m15] at z4
    rw [m29]
    by_cases cj : j * 721 + x = s
    · exact q12 j x z1 z2 z3 z4 (by rw [cj]; omega)
    · rw [m30 _ cj] at z5
      exact q12 j x z1 z2 z3 z4 z5
  · rw [m10] at z2
    rw [m32]
    exact q13 v z1 z2
  · rw [m15] at z4
    rw [bn]
    have old := hE.1 j x z1 z2 z3 z4
    by_cases cj : j * 721 + x = s
    · rw [cj, m30s]
      exact ⟨fun _ => Int.le_refl _, fun q => by omega⟩
    · rw [m30 _ cj]
      refine ⟨fun q => by have := old.1 q; omega, fun q => ?_⟩
      exact minS (j * 721 + x) (by omega) (by omega) (by omega) q
  · rw [m10] at z2
    rw [m32] at z3 ⊢
    exact minW v z1 z2 z3
  · rw [m15] at z4
    rw [m25] at z6
    by_cases cj : j * 721 + x = s
    · have := z8 cj; omega
    · rw [m30 _ cj] at z7
      have := hE.2.2.1 j x e z1 z2 z3 z4 z5 z6 z7 (by omega)
      unfold GO at *
      rw [wt_dm hdm z1 z5, mA (2423 + (j * 60 + e)) 0 (by omega) (by omega) (by omega), mA (2423 + (j * 60 + e)) 1 (by omega) (by omega) (by omega), m29, m29]
      intro q
      refine ⟨?_, (this q).2⟩
      by_cases ct : m (2423 + (j * 60 + e)) 0 * 721 + wt m j e x = s
      · rw [ct, m30s]; omega
      · rw [m30 _ ct]; exact (this q).1
  · rw [m15] at z4
    rw [m29]
    have z5' : m 30 (j * 721 + x) ≠ 0 := by
      by_cases cj : j * 721 + x = s
      · rw [cj]; omega
      · rw [m30 _ cj] at z5; exact z5
    rcases hE.2.2.2 j x z1 z2 z3 z4 z5' with q | ⟨j1, x1, e1, b1, b2, b3, b4, b5, b6, b7⟩
    · exact Or.inl q
    · right
      refine ⟨j1, x1, e1, b1, by omega, by rw [m25]; exact b3, ?_, by rw [mA (2423 + (j1 * 60 + e1)) 0 (by omega) (by omega) (by omega)]; exact b5, by rw [wt_dm hdm b1.1 b3.1]; exact b6, by rw [m29, m29, mA (2423 + (j1 * 60 + e1)) 1 (by omega) (by omega) (by omega)]; exact b7⟩
      by_cases ct : j1 * 721 + x1 = s
      · rw [ct]; exact m30s
      · rw [m30 _ ct]; exact b4
  · rw [m49] at k2
    have := hA.1 k k1 k2
    rw [m10, m33, m34, m7, m29, m6]
    refine ⟨this.1, ?_, this.2.2.1, by have := this.2.2.2; omega⟩
    by_cases ct : L * 721 + m 7 (m 33 k) = s
    · rw [ct]; exact m30s
    · rw [m30 _ ct]; exact this.2.1
  · intro k l k1 k2 k3
    rw [m49] at k3
    rw [m33, m33, m34, m34]
    exact hA.2.1 k l k1 k2 k3
  · rw [m10] at z2
    rw [m32] at z3 ⊢
    rw [m7, m29, m6, m49]
    have := hA.2.2.1 v z1 z2 z3
    refine ⟨this.1, ?_, fun k k1 k2 => by rw [m33]; exact this.2.2 k k1 k2⟩
    by_cases ct : L * 721 + m 7 v = s
    · rw [ct]; exact m30s
    · rw [m30 _ ct]; exact this.2.1
  · rw [m10] at z2
    rw [m7, m30 _ (hword v z1 z2 z4)] at z3
    rw [m32, m49]
    rcases hA.2.2.2.1 v z1 z2 z3 (by omega) with q | ⟨k, k1, k2, k3⟩
    · exact Or.inl q
    · exact Or.inr ⟨k, k1, k2, by rw [m33]; exact k3⟩
  · rw [m49] at k2
    rw [m33]
    intro q
    have := (hA.1 k k1 k2).2.1
    have lw := hS.2.1.2.2.1 (m 33 k) (hA.1 k k1 k2).1.1 (hA.1 k k1 k2).1.2
    by_cases cl : s / 721 = L
    · rw [if_pos cl] at hu
      have lx := hS.2.1.2.2.2.1 (s % 721) (by omega) wr0.2.2.1
      rcases lx with lx | lx
      · omega
      · have e := lx.2.2
        rw [← hu, ← q] at e
        rw [e, show L * 721 + s % 721 = s by omega] at this
        omega
    · rw [if_neg cl] at hu
      omega
  · by_cases c0 : (0 : Int) = s
    · rw [c0, m30s]; omega
    · rw [m30 0 c0]; exact hA.2.2.2.2.2
end
