section
variable {N : Nat} {c m : IH} {L n i : Int}
/-- the word at an end comes to wait, on both sides -/
theorem wordS {w Lb : Int} (hN : 20000 ≤ N) (H : SQ c m L n i w) (hS : ST c m L) (hE : EI m L Lb (L * 721 + m 7 w) 0) (hA : EA m L Lb w) (h0 : 0 < m 0 10) (hw : 0 ≤ w ∧ w < m 0 10) (hL2 : Lb = bnd m (L * 721 + m 7 w)) (h2 : m 30 (L * 721 + m 7 w) = 2) : ∃ c2, G_X6_put N c w (m 29 (L * 721 + m 7 w) + m 6 w) = some c2 ∧ SQ c2 (xv m 32 w (m 29 (L * 721 + m 7 w) + m 6 w)) L (n + 1) i (-1) ∧ EI (xv m 32 w (m 29 (L * 721 + m 7 w) + m 6 w)) L Lb (L * 721 + m 7 w) 0 ∧ EA (xv m 32 w (m 29 (L * 721 + m 7 w) + m 6 w)) L Lb (-1) ∧ (∀ a b, a < 67 ∨ 73 < a → c2 a b = c a b) := by
  obtain ⟨⟨q1, q2⟩, ⟨q3, q4, q5⟩, q6, ⟨q7, q7'⟩, q8, q9, q10, q11, q12, q13⟩ := id H
  have hL := hS.1.1
  have hn := hS.2.1.1.1
  have hW := hS.2.1.2.1
  have lw := hS.2.1.2.2.1 w hw.1 hw.2
  have sw := q8 w hw.1 hw.2
  have s0 := sw.2.2 rfl
  have cb := q12 L (m 7 w) (by omega) (by omega) (by omega) (by omega) (by omega)
  have hroom := H.room (t := w) (by omega) s0
  have hse := q3.1
  obtain ⟨c2, e1, e2, e3, e4, e5, e6, e7, e8⟩ := putNew (K := Kf m) (t := w) (b := m 29 (L * 721 + m 7 w) + m 6 w) hN q1 q2 hroom.2 (by omega) (by omega) (by omega) s0
  have cA : ∀ a b, a < 67 ∨ 73 < a → c2 a b = c a b := fun a b z => e6 a b (by omega) (by omega) (by omega) (by omega)
  have c67 : ∀ b, b ≠ 7 → b ≠ 10 → c2 67 b = c 67 b := fun b z1 z2 => e6 _ _ (by omega) (by omega) (by omega) (by omega)
  have sk : SK c c2 w := e8
  refine ⟨c2, e1, ?_⟩
  generalize hv : m 29 (L * 721 + m 7 w) + m 6 w = v at *
  generalize hm2 : xv m 32 w v = m2
  have mo : ∀ a b, ¬ (a = 32 ∧ b = w) → m2 a b = m a b := fun a b z1 => by rw [← hm2, xv_ne z1]
  have hdm : DM m m2 := fun a b z1 z2 => mo a b (by omega)
  have m32w : m2 32 w = v := by rw [← hm2, xv_eq rfl rfl]
  have m32 : ∀ b, b ≠ w → m2 32 b = m 32 b := fun b q => mo _ _ (by omega)
  have mA : ∀ a b, a ≠ 32 → m2 a b = m a b := fun a b z => mo _ _ (by omega)
  have bn : ∀ s, bnd m2 s = bnd m s := fun s => by unfold bnd; rw [mA 29 _ (by omega), mA 26 _ (by omega), mA 11 _ (by omega)]
  have hb : Lb ≤ v := by
    have hr := hS.1.2.2.2.1 L (by omega) (by omega)
    have hbn : bnd m (L * 721 + m 7 w) = m 29 (L * 721 + m 7 w) + m 26 L + m 11 (m 7 w) := by
      unfold bnd
      rw [show (L * 721 + m 7 w) / 721 = L by omega, show (L * 721 + m 7 w) % 721 = m 7 w by omega]
    have := lw.2.2.2.2
    omega
  have m30 : ∀ b, m2 30 b = m 30 b := fun b => mA _ _ (by omega)
  have m29 : ∀ b, m2 29 b = m 29 b := fun b => mA _ _ (by omega)
  have m31 : ∀ b, m2 31 b = m 31 b := fun b => mA _ _ (by omega)
  have m33 : ∀ b, m2 33 b = m 33 b := fun b => mA _ _ (by omega)
  have m34 : ∀ b, m2 34 b = m 34 b := fun b => mA _ _ (by omega)
  have m35 : ∀ b, m2 35 b = m 35 b := fun b => mA _ _ (by omega)
  have m7 : ∀ b, m2 7 b = m 7 b := fun b => mA _ _ (by omega)
  have m6 : ∀ b, m2 6 b = m 6 b := fun b => mA _ _ (by omega)
  have m25 : ∀ b, m2 25 b = m 25 b := fun b => mA _ _ (by omega)
  have m0 : ∀ b, m2 0 b = m 0 b := fun b => mA _ _ (by omega)
  obtain ⟨t1, t2, t3, t4⟩ := q3
  refine ⟨⟨⟨?_, e3⟩, ⟨⟨by omega, fun k k1 k2 => ?_, fun k l k1 k2 k3 => ?_, fun t z1 z2 z3 => ?_⟩, by omega, q5⟩, fun j x z1 z2 z3 z4 => ?_, ⟨fun t z1 z2 z3 => ?_, fun y z1 z2 z3 => ?_⟩, fun y z1 z2 => ?_, ?_, ?_, ?_, fun j x z1 z2 z3 z4 z5 => ?_, fun y z1 z2 => ?_⟩, ⟨fun j x z1 z2 z3 z4 => ?_, fun y z1 z2 z3 => ?_, fun j x e z1 z2 z3 z4 z5 z6 z7 z8 => ?_, fun j x z1 z2 z3 z4 z5 => ?_⟩, ⟨fun k k1 k2 => ?_, fun k l k1 k2 k3 => ?_, fun y z1 z2 z3 => ?_, fun y z1 z2 z3 z4 => ?_, fun z => by omega, by rw [m30]; exact hA.2.2.2.2.2⟩, cA⟩
  · refine e2.cg (fun t z1 z2 => ?_)
    unfold Kf
    by_cases ct : t = w
    · rw [ct, uk_eq, if_pos (by omega), m32w]
    · rw [uk_ne ct, bn, m32 t ct]
  · by_cases ck : k = c 67 10
    · subst ck
      rw [e5]
      exact ⟨by omega, by omega, by omega⟩
    · have := t2 k k1 (by omega)
      rw [e6 73 k (by omega) (by omega) (by omega) (by omega)]
      have ne : c 73 k ≠ w := fun z => by rw [z] at this; omega
      exact ⟨this.1, this.2.1, (sk.nz ne).mpr this.2.2⟩
  · rw [e6 73 k (by omega) (by omega) (by omega) (by omega)]
    by_cases cl : l = c 67 10
    · subst cl
      rw [e5]
      intro z
      have := t2 k k1 (by omega)
      rw [z] at this
      omega
    · rw [e6 73 l (by omega) (by omega) (by omega) (by omega)]
      exact t3 k l k1 k2 (by omega)
  · by_cases ct : t = w
    · exact ⟨c 67 10, by omega, by omega, by rw [e5, ct]⟩
    · obtain ⟨k, k1, k2, k3⟩ := t4 t z1 z2 ((sk.nz ct).mp z3)
      exact ⟨k, k1, by omega, by rw [e6 73 k (by omega) (by omega) (by omega) (by omega)]; exact k3⟩
  · rw [m0] at z4
    have := (q6 j x z1 z2 z3 z4).sk sk (by omega)
    unfold SS at *
    rw [m30]
    exact this
  · rw [m0]
    exact q7 t z1 z2 ((sk.nz (by omega)).mp z3)
  · rw [m0]
    by_cases cy : y = w
    · omega
    · exact q7' y z1 z2 ((sk.nz cy).mp z3)
  · rw [m0] at z2
    by_cases cy : y = w
    · subst cy
      unfold SW
      rw [m32w, m30, m7, h2]
      exact ⟨Or.inr ⟨by omega, e7⟩, fun _ => by omega, fun z => by omega⟩
    · have := (q8 y z1 z2).sk sk cy
      unfold SW at *
      rw [m32 y cy, m30, m7]
      exact ⟨this.1, fun _ => this.2.1 cy, fun z => by omega⟩
  · unfold WT at *
    simp only [m0, m31, m30]
    exact q9
  · rw [c67 6 (by omega) (by omega), m0]
    exact q10
  · rw [c67 2 (by omega) (by omega), m0]
    refine ⟨q11.1, q11.2.1, q11.2.2.1, fun k k1 k2 => ?_⟩
    rw [e6 68 k (by omega) (by omega) (by omega) (by omega), e6 69 k (by omega) (by omega) (by omega) (by omega), e6 70 k (by omega) (by omega) (by omega) (by omega), m33, m34, m35]
    exact q11.2.2.2 k k1 k2
  · rw [m0] at z4
    rw [m30] at z5
    rw [m29]
    exact q12 j x z1 z2 z3 z4 z5
  · rw [m0] at z2
    by_cases cy : y = w
    · subst cy; rw [m32w]; omega
    · rw [m32 y cy]; exact q13 y z1 z2
  · rw [m0] at z4
    rw [m30, bn]
    exact hE.1 j x z1 z2 z3 z4
  · rw [m0] at z2
    by_cases cy : y = w
    · subst cy; rw [m32w]; exact hb
    · rw [m32 y cy] at z3 ⊢
      exact hE.2.1 y z1 z2 z3
  · rw [m0] at z4
    rw [m25] at z6
    rw [m30] at z7
    have := hE.2.2.1 j x e z1 z2 z3 z4 z5 z6 z7 z8
    unfold GO at *
    rw [wt_dm hdm z1 z5, mA (2423 + (j * 60 + e)) 0 (by omega), mA (2423 + (j * 60 + e)) 1 (by omega), m30, m29, m29]
    exact this
  · rw [m0] at z4
    rw [m30] at z5
    rw [m29]
    rcases hE.2.2.2 j x z1 z2 z3 z4 z5 with q | ⟨j1, x1, e1, b1, b2, b3, b4, b5, b6, b7⟩
    · exact Or.inl q
    · right
      exact ⟨j1, x1, e1, b1, by rw [m0]; exact b2, by rw [m25]; exact b3, by rw [m30]; exact b4, by rw [mA (2423 + (j1 * 60 + e1)) 0 (by omega)]; exact b5, by rw [wt_dm hdm b1.1 b3.1]; exact b6, by rw [m29, m29, mA (2423 + (j1 * 60 + e1)) 1 (by omega)]; exact b7⟩
  · rw [m0] at k2
    rw [m33, m34, m0, m30, m29, m7, m6]
    exact hA.1 k k1 k2
  · rw [m0] at k3
    rw [m33, m33, m34, m34]
    exact hA.2.1 k l k1 k2 k3
  · rw [m0] at z2
    rw [m29, m30, m7, m6, m0]
    by_cases cy : y = w
    · subst cy
      rw [m32w]
      exact ⟨hv.symm, h2, fun k k1 k2 => by rw [m33]; exact hA.2.2.2.2.1 z1 k k1 k2⟩
    · rw [m32 y cy] at z3 ⊢
      have := hA.2.2.1 y z1 z2 z3
      exact ⟨this.1, this.2.1, fun k k1 k2 => by rw [m33]; exact this.2.2 k k1 k2⟩
  · rw [m0] at z2
    rw [m30, m7] at z3
    rw [m0]
    by_cases cy : y = w
    · left; rw [cy, m32w]; omega
    · rcases hA.2.2.2.1 y z1 z2 z3 cy with q | ⟨k, k1, k2, k3⟩
      · left; rw [m32 y cy]; exact q
      · right; exact ⟨k, k1, k2, by rw [m33]; exact k3⟩
/-- a state taken and opened, on both sides -/
theorem openS {r Lb : Int} (hN : 20000 ≤ N) (H : SQ c m L n i (-1)) (hS : ST c m L) (hE : EI m L Lb (-1) 0) (hA : EA m L Lb (-1)) (h0 : 0 < m 0 10) (h1 : 1 ≤ n) (hr : 0 ≤ r ∧ r < m 0 42) (hk : c 71 0 = ks m (m 31 r)) (hi : i < 18085) : ∃ c1 c2 m2 n2, G_X6_takeLeast N c = some (c 71 0, c1) ∧ G_X6_open N c1 (its (m 31 r)) (bnd m (m 31 r)) = some c2 ∧ G_X12_opens N m r = some m2 ∧ ST c2 m2 L ∧ SQ c2 m2 L n2 (i + 1) (-1) ∧ EI m2 L (bnd m (m 31 r)) (-1) 0 ∧ EA m2 L (bnd m (m 31 r)) (-1) ∧ DM m m2 ∧ (∀ a b, a < 67 ∨ 73 < a → c2 a b = c a b) := by
  have hL := hS.1.1
  have hn := hS.2.1.1.1
  have hW := hS.2.1.2.1
  have w2 := H.2.2.2.2.2.1.2.1 r hr.1 hr.2
  have ww := H.2.2.2.2.2.1.1
  have q10 := H.2.2.2.2.2.2.1
  have hi' := H.2.1.2.1
  have hse := H.2.1.1.1
  have ok := H.ok hS h0 w2.1 w2.2.1 w2.2.2.1 (by omega)
  have ok1 := ok.1
  unfold OK at ok1
  obtain ⟨c1, e1, e2, e3, e4, e5⟩ := markS hN H hS hE hA h0 h1 hr hk hi rfl
  generalize hs : m 31 r = s at *
  have hsq : s / 721 * 721 + s % 721 = s := by omega
  have mo : ∀ a b, ¬ (a = 0 ∧ b = 42) → ¬ (a = 31 ∧ b = r) → ¬ (a = 30 ∧ b = s) → ¬ (a = 0 ∧ b = 43) → xv (xv (xv (xv m 0 42 (m 0 42 - 1)) 31 r (m 31 (m 0 42 - 1))) 30 s 2) 0 43 (m 0 43 + 1) a b = m a b := fun a b z1 z2 z3 z4 => by rw [xv_ne z4, xv_ne z3, xv_ne z2, xv_ne z1]
  have m30s : xv (xv (xv (xv m 0 42 (m 0 42 - 1)) 31 r (m 31 (m 0 42 - 1))) 30 s 2) 0 43 (m 0 43 + 1) 30 s = 2 := by rw [xv_ne (by omega), xv_eq rfl rfl]
  have e42 : xv m 0 42 (m 0 42 - 1) 31 (m 0 42 - 1) = m 31 (m 0 42 - 1) := xv_ne (by omega)
  have e43 : xv (xv (xv m 0 42 (m 0 42 - 1)) 31 r (m 31 (m 0 42 - 1))) 30 s 2 0 43 = m 0 43 := by rw [xv_ne (by omega), xv_ne (by omega), xv_ne (by omega)]
  have refE : G_X12_opens N m r = (if s / 721 = m 0 33 then (if m 10 (s % 721) = -1 then G_X12_opens_112 N (xv (xv (xv (xv m 0 42 (m 0 42 - 1)) 31 r (m 31 (m 0 42 - 1))) 30 s 2) 0 43 (m 0 43 + 1)) s (s / 721) (s % 721) else xq (m 10 (s % 721)) 61 (xq (m 10 (s % 721)) 60 (G_X12_opens_112 N (xv (xv (xv (xv (xv m 0 42 (m 0 42 - 1)) 31 r (m 31 (m 0 42 - 1))) 30 s 2) 0 43 (m 0 43 + 1)) 32 (m 10 (s % 721)) (wr (m 29 s + m 6 (m 10 (s % 721))))) s (s / 721) (s % 721)))) else G_X12_opens_112 N (xv (xv (xv (xv m 0 42 (m 0 42 - 1)) 31 r (m 31 (m 0 42 - 1))) 30 s 2) 0 43 (m 0 43 + 1)) s (s / 721) (s % 721)) := by
    unfold G_X12_opens
    rw [hs]
    simp only [xlet_q]
    rw [Int.tdiv_eq_ediv_of_nonneg w2.1, show s - s / 721 * 721 = s % 721 by omega, wr_in (show -2147483648 ≤ s % 721 by omega) (by omega), wr_in (show -2147483648 ≤ m 0 42 - 1 by omega) (by omega)]
    simp (disch := omega) only [xq_in, xv_eq, e42]
    rw [e43, wr_in (show -2147483648 ≤ m 0 43 + 1 by omega) (by omega), mo 0 33 (by omega) (by omega) (by omega) (by omega), mo 10 _ (by omega) (by omega) (by omega) (by omega), mo 29 _ (by omega) (by omega) (by omega) (by omega), mo 6 _ (by omega) (by omega) (by omega) (by omega)]
  have hj1 : (24 - (its s - 60) / 721) = s / 721 := by unfold its; omega
  have hx1 : (its s - 60) % 721 = s % 721 := by unfold its; omega
  have its60 : 60 ≤ its s ∧ its s < 18085 := by unfold its; omega
  have cA : ∀ a b, a < 67 → c1 a b = c a b := fun a b q => e5 a b (by omega) (by omega) (by omega)
  have hrs := hS.1.2.2.2.1 (s / 721) (by omega) w2.2.1
  have hls := hS.2.1.2.2.2.2.1 h0 (s % 721) (by omega) w2.2.2.1
  have hc15 := (hS.2.2.2.2.2 (s % 721) (by omega) w2.2.2.1).1
  have hc11 := (hS.2.2.2.1.2.1 (s % 721) (by omega) w2.2.2.1).2.2
  have hb : bnd m s = m 29 s + m 26 (s / 721) + m 11 (s % 721) := rfl
  have claE : G_X6_open N c1 (its s) (bnd m s) = (if s / 721 = L then (if m 10 (s % 721) = -1 then G_X6_open_104 N (xv c1 67 6 (m 0 43 + 1)) (s / 721) (s % 721) (m 29 s) else xq (m 10 (s % 721)) 60 (ybv (G_X6_put N (xv c1 67 6 (m 0 43 + 1)) (m 10 (s % 721)) (wr (m 29 s + c 6 (m 10 (s % 721))))) (fun a => G_X6_open_104 N a (s / 721) (s % 721) (m 29 s)))) else G_X6_open_104 N (xv c1 67 6 (m 0 43 + 1)) (s / 721) (s % 721) (m 29 s)) := by
    unfold G_X6_open
    rw [wr_in (show -2147483648 ≤ its s - 60 by omega) (by omega), Int.tdiv_eq_ediv_of_nonneg (by omega), hj1, show its s - 60 - (its s - 60) / 721 * 721 = s % 721 by omega, wr_in (show -2147483648 ≤ s / 721 by omega) (by omega), wr_in (show -2147483648 ≤ s % 721 by omega) (by omega), e5 67 6 (by omega) (by omega) (by omega), q10.1]
    simp (disch := omega) only [xlet_q, xq_in]
    rw [cA 66 _ (by omega), cA 15 _ (by omega), hrs.1, hc15, hb, show m 29 s + m 26 (s / 721) + m 11 (s % 721) - m 26 (s / 721) - m 11 (s % 721) = m 29 s by omega, wr_in (show -2147483648 ≤ m 29 s by omega) (by omega), wr_in (show -2147483648 ≤ m 0 43 + 1 by omega) (by omega), xv_ne (show ¬ ((11 : Int) = 67 ∧ s % 721 = 6) by omega), cA 11 _ (by omega), hc11, xv_ne (show ¬ ((57 : Int) = 67 ∧ (4 : Int) = 6) by omega), cA 57 _ (by omega), hS.1.2.1.1, xv_ne (show ¬ ((6 : Int) = 67 ∧ m 10 (s % 721) = 6) by omega), cA 6 _ (by omega)]
  refine ⟨c1, ?_⟩
  rw [refE, claE, hS.1.2.1.2.1]
  have fin : ∀ (cc mm : IH) (nn : Int), ST cc mm L → SQ cc mm L nn (i + 1) (-1) → EI mm L (bnd m s) s 0 → EA mm L (bnd m s) (-1) → mm 30 s = 2 → mm 29 s = m 29 s → DM m mm → (∀ a b, a < 67 ∨ 73 < a → cc a b = c a b) → ∃ c2 m2 n2, G_X6_open_104 N cc (s / 721) (s % 721) (m 29 s) = some c2 ∧ G_X12_opens_112 N mm s (s / 721) (s % 721) = some m2 ∧ ST c2 m2 L ∧ SQ c2 m2 L n2 (i + 1) (-1) ∧ EI m2 L (bnd m s) (-1) 0 ∧ EA m2 L (bnd m s) (-1) ∧ DM m m2 ∧ (∀ a b, a < 67 ∨ 73 < a → c2 a b = c a b) := by
    intro cc mm nn f1 f2 f3 f4 f5 f6 f7 f8
    have hbb : bnd mm s = bnd m s := by
      unfold bnd
      rw [f6, f7 26 _ (by omega) (by omega), f7 11 _ (by omega) (by omega)]
    have hp := fun cj => (f1.1.2.2.1 (s / 721) (by omega) cj).1
    have hp2 := fun cj => (f1.1.2.2.1 (s / 721) (by omega) cj).2.1
    have ed := edges0 (N := N) (L := L) (i := i + 1) (Lb := bnd m s) (j := s / 721) (x := s % 721) hN (by omega) N cc mm nn 0 f1 f2 (by rw [hsq]; exact f3) f4 (by rw [hsq]; exact f5) (by rw [hsq]; exact hbb.symm) (by rw [f7 _ _ (by omega) (by omega)]; exact h0) (by omega) (by rw [f7 _ _ (by omega) (by omega)]; exact w2.2.2.1) (by omega) (fun cj => by have := hp cj; have := hp2 cj; omega) (fun _ => rfl) (by omega)
    rw [hsq, f6, Int.add_zero] at ed
    obtain ⟨c2, m2, n2, g1, g2, g3, g4, g5, g6, g7, g8⟩ := ed
    refine ⟨c2, m2, n2, ?_, g2, g3, g4, g5, g6, f7.tr g7, fun a b q => by rw [g8 a b q, f8 a b q]⟩
    unfold G_X6_open_104
    (try simp (disch := omega) only [xlet_q, xq_in])
    exact g1
  have hdm : DM m (xv (xv (xv (xv m 0 42 (m 0 42 - 1)) 31 r (m 31 (m 0 42 - 1))) 30 s 2) 0 43 (m 0 43 + 1)) := fun a b z1 z2 => mo a b (by omega) (by omega) (by omega) (by omega)
  have cB : ∀ a b, a < 67 ∨ 73 < a → xv c1 67 6 (m 0 43 + 1) a b = c a b := fun a b q => by rw [xv_ne (by omega), e5 a b (by omega) (by omega) (by omega)]
  have hS1 := hS.pr cB hdm
  have m29 : xv (xv (xv (xv m 0 42 (m 0 42 - 1)) 31 r (m 31 (m 0 42 - 1))) 30 s 2) 0 43 (m 0 43 + 1) 29 s = m 29 s := mo _ _ (by omega) (by omega) (by omega) (by omega)
  by_cases cl : s / 721 = L
  · rw [if_pos cl] at e2 e4
    rw [if_pos cl, if_pos cl]
    by_cases cw : m 10 (s % 721) = -1
    · rw [cw] at e2 e4
      rw [if_pos cw, if_pos cw]
      obtain ⟨c2, m2, n2, g⟩ := fin _ _ _ hS1 e2 e3 e4 m30s m29 hdm cB
      exact ⟨c2, m2, n2, e1, g⟩
    · rw [if_neg cw, if_neg cw]
      have lx := hS.2.1.2.2.2.1 (s % 721) (by omega) w2.2.2.1
      have lx' : 0 ≤ m 10 (s % 721) ∧ m 10 (s % 721) < m 0 10 ∧ m 7 (m 10 (s % 721)) = s % 721 := by
        rcases lx with lx | lx
        · exact absurd lx cw
        · exact lx
      generalize hw : m 10 (s % 721) = w at *
      have lw := hS.2.1.2.2.1 w lx'.1 lx'.2.1
      have hc6 := (hS.2.2.2.2.1 w lx'.1 lx'.2.1).2.1
      (try simp (disch := omega) only [xlet_q, xq_in])
      rw [hc6, wr_in (show -2147483648 ≤ m 29 s + m 6 w by omega) (by omega)]
      have hsw : L * 721 + m 7 w = s := by rw [lx'.2.2]; omega
      have m7 : xv (xv (xv (xv m 0 42 (m 0 42 - 1)) 31 r (m 31 (m 0 42 - 1))) 30 s 2) 0 43 (m 0 43 + 1) 7 w = m 7 w := mo _ _ (by omega) (by omega) (by omega) (by omega)
      have m6 : xv (xv (xv (xv m 0 42 (m 0 42 - 1)) 31 r (m 31 (m 0 42 - 1))) 30 s 2) 0 43 (m 0 43 + 1) 6 w = m 6 w := mo _ _ (by omega) (by omega) (by omega) (by omega)
      have hbb : bnd (xv (xv (xv (xv m 0 42 (m 0 42 - 1)) 31 r (m 31 (m 0 42 - 1))) 30 s 2) 0 43 (m 0 43 + 1)) s = bnd m s := by
        unfold bnd
        rw [m29, hdm 26 _ (by omega) (by omega), hdm 11 _ (by omega) (by omega)]
      have ws := wordS (w := w) (Lb := bnd m s) hN e2 hS1 (by rw [m7, hsw]; exact e3) e4 (by rw [hdm _ _ (by omega) (by omega)]; exact h0) (by rw [hdm 0 10 (by omega) (by omega)]; exact ⟨lx'.1, lx'.2.1⟩) (by rw [m7, hsw, hbb]) (by rw [m7, hsw]; exact m30s)
      rw [m7, hsw, m29, m6] at ws
      obtain ⟨c3, g1, g2, g3, g4, g5⟩ := ws
      rw [g1, ybv_s]
      have hdm2 : DM m (xv (xv (xv (xv (xv m 0 42 (m 0 42 - 1)) 31 r (m 31 (m 0 42 - 1))) 30 s 2) 0 43 (m 0 43 + 1)) 32 w (m 29 s + m 6 w)) := hdm.tr (fun a b z1 z2 => xv_ne (by omega))
      have cC : ∀ a b, a < 67 ∨ 73 < a → c3 a b = c a b := fun a b q => by rw [g5 a b q, cB a b q]
      obtain ⟨c2, m2, n2, g⟩ := fin c3 _ _ (hS.pr cC hdm2) g2 g3 g4 (by rw [xv_ne (by omega)]; exact m30s) (by rw [xv_ne (by omega)]; exact m29) hdm2 cC
      exact ⟨c2, m2, n2, e1, g⟩
  · rw [if_neg cl] at e2 e4
    rw [if_neg cl, if_neg cl]
    obtain ⟨c2, m2, n2, g⟩ := fin _ _ _ hS1 e2 e3 e4 m30s m29 hdm cB
    exact ⟨c2, m2, n2, e1, g⟩
end
