/-- the slots that aren't 0 are those of the items seen -/
def SL (c : IH) : Prop := (0 ≤ c 67 10 ∧ c 67 10 ≤ 18085) ∧ (∀ i, 0 ≤ i → i < c 67 10 → 0 ≤ c 73 i ∧ c 73 i < 18085) ∧ ∀ t, 0 ≤ t → t < 18085 → c 72 t ≠ 0 → ∃ i, 0 ≤ i ∧ i < c 67 10 ∧ c 73 i = t
theorem SEEN.sl {c : IH} (h : SEEN c) : SL c := ⟨h.1, fun i a b => ⟨(h.2.1 i a b).1, (h.2.1 i a b).2.1⟩, h.2.2.2⟩
theorem clear0 {N : Nat} {S : Int} (hS : 0 ≤ S ∧ S ≤ 18085) : ∀ (f : Nat) (c : IH) (v : Int), c 67 10 = S → (∀ i, 0 ≤ i → i < S → 0 ≤ c 73 i ∧ c 73 i < 18085) → (∀ t, 0 ≤ t → t < 18085 → c 72 t ≠ 0 → ∃ i, v ≤ i ∧ i < S ∧ c 73 i = t) → 0 ≤ v → v ≤ S → S - v < f → ∃ c', G_X6_clear_2 N f c v = some c' ∧ (∀ t, 0 ≤ t → t < 18085 → c' 72 t = 0) ∧ c' 67 10 = 0 ∧ c' 67 7 = 0 ∧ c' 67 2 = 0 ∧ c' 67 6 = 0 ∧ ∀ a b, a ≠ 67 → a ≠ 72 → c' a b = c a b := by
  intro f
  induction f with
  | zero => intro c v h1 h2 h3 h4 h5 h6; omega
  | succ f ih =>
    intro c v h1 h2 h3 h4 h5 h6
    unfold G_X6_clear_2
    rw [h1]
    by_cases c1 : S ≤ v
    · rw [if_pos c1]
      simp only [xlet_q]
      refine ⟨_, rfl, fun t t1 t2 => ?_, ?_, ?_, ?_, ?_, fun a b q1 q2 => ?_⟩
      · rw [xv_ne (by omega), xv_ne (by omega), xv_ne (by omega), xv_ne (by omega)]
        by_cases ct : c 72 t = 0
        · exact ct
        · obtain ⟨i, i1, i2, i3⟩ := h3 t t1 t2 ct
          omega
      · rw [xv_ne (by omega), xv_ne (by omega), xv_ne (by omega), xv_eq rfl rfl]
      · rw [xv_ne (by omega), xv_ne (by omega), xv_eq rfl rfl]
      · rw [xv_ne (by omega), xv_eq rfl rfl]
      · rw [xv_eq rfl rfl]
      · rw [xv_ne (by omega), xv_ne (by omega), xv_ne (by omega), xv_ne (by omega)]
    · rw [if_neg c1]
      have h73 := h2 v h4 (by omega)
      (try simp (disch := omega) only [xlet_q, xq_in])
      rw [wr_in (by omega) (by omega)]
      obtain ⟨c', g1, g2, g3, g4, g5, g6, g7⟩ := ih (xv c 72 (c 73 v) 0) (v + 1) (by rw [xv_ne (by omega)]; exact h1) (fun i a b => by rw [xv_ne (by omega)]; exact h2 i a b) (fun t t1 t2 t3 => by
        by_cases ct : t = c 73 v
        · rw [ct, xv_eq rfl rfl] at t3
          exact absurd rfl t3
        · rw [xv_ne (by omega)] at t3
          obtain ⟨i, i1, i2, i3⟩ := h3 t t1 t2 t3
          refine ⟨i, ?_, i2, by rw [xv_ne (by omega)]; exact i3⟩
          have : i ≠ v := fun q => ct (by rw [← i3, q])
          omega) (by omega) (by omega) (by omega)
      exact ⟨c', g1, g2, g3, g4, g5, g6, fun a b q1 q2 => by rw [g7 a b q1 q2, xv_ne (by omega)]⟩
theorem clearS {N : Nat} {c : IH} (hN : 20000 ≤ N) (h : SL c) : ∃ c', G_X6_clear N c = some c' ∧ (∀ t, 0 ≤ t → t < 18085 → c' 72 t = 0) ∧ c' 67 10 = 0 ∧ c' 67 7 = 0 ∧ c' 67 2 = 0 ∧ c' 67 6 = 0 ∧ ∀ a b, a ≠ 67 → a ≠ 72 → c' a b = c a b := by
  obtain ⟨h1, h2, h3⟩ := h
  exact clear0 h1 N c 0 rfl h2 (fun t a b q => by obtain ⟨i, i1, i2, i3⟩ := h3 t a b q; exact ⟨i, i1, i2, i3⟩) (by omega) (by omega) (by omega)
theorem states0 {N : Nat} {L most : Int} (hL : 0 ≤ L ∧ L ≤ 24) : ∀ (f : Nat) (m : IH) (v : Int), m 0 33 = L → 0 ≤ v → v ≤ (L + 1) * 721 → (L + 1) * 721 - v < f → ∃ m', G_X12_searches_17 N f m most v = G_X12_searches_46 N N m' most 0 ∧ (∀ a b, a ≠ 30 → m' a b = m a b) ∧ (∀ s, s < v → m' 30 s = m 30 s) ∧ ∀ s, v ≤ s → s < (L + 1) * 721 → m' 30 s = 0 := by
  intro f
  induction f with
  | zero => intro m v h1 h2 h3 h4; omega
  | succ f ih =>
    intro m v h1 h2 h3 h4
    unfold G_X12_searches_17
    rw [h1, wr_in (by omega) (by omega)]
    by_cases c1 : (L + 1) * 721 ≤ v
    · rw [if_pos c1]
      exact ⟨m, rfl, fun _ _ _ => rfl, fun _ _ => rfl, fun s s1 s2 => by omega⟩
    · rw [if_neg c1]
      (try simp (disch := omega) only [xlet_q, xq_in])
      rw [wr_in (by omega) (by omega)]
      obtain ⟨m', g1, g2, g3, g4⟩ := ih (xv m 30 v 0) (v + 1) (by rw [xv_ne (by omega)]; exact h1) (by omega) (by omega) (by omega)
      refine ⟨m', g1, fun a b q => by rw [g2 a b q, xv_ne (by omega)], fun s q => by rw [g3 s (by omega), xv_ne (by omega)], fun s s1 s2 => ?_⟩
      by_cases cs : s = v
      · subst cs; rw [g3 s (by omega), xv_eq rfl rfl]
      · exact g4 s (by omega) s2
theorem answers0 {N : Nat} {W most : Int} (hW : 0 ≤ W ∧ W ≤ 60) : ∀ (f : Nat) (m : IH) (v : Int), m 0 10 = W → 0 ≤ v → v ≤ W → W - v < f → ∃ m', G_X12_searches_46 N f m most v = (if W ≤ 0 then G_X12_searches_80 N N m' most else ybv (G_X12_waitsFor N m' 0 0) (fun a => G_X12_searches_80 N N a most)) ∧ (∀ a b, a ≠ 32 → m' a b = m a b) ∧ (∀ s, s < v → m' 32 s = m 32 s) ∧ ∀ s, v ≤ s → s < W → m' 32 s = -1 := by
  intro f
  induction f with
  | zero => intro m v h1 h2 h3 h4; omega
  | succ f ih =>
    intro m v h1 h2 h3 h4
    unfold G_X12_searches_46
    rw [h1]
    by_cases c1 : W ≤ v
    · rw [if_pos c1]
      exact ⟨m, rfl, fun _ _ _ => rfl, fun _ _ => rfl, fun s s1 s2 => by omega⟩
    · rw [if_neg c1]
      (try simp (disch := omega) only [xlet_q, xq_in])
      rw [wr_in (by omega) (by omega)]
      obtain ⟨m', g1, g2, g3, g4⟩ := ih (xv m 32 v (-1)) (v + 1) (by rw [xv_ne (by omega)]; exact h1) (by omega) (by omega) (by omega)
      refine ⟨m', g1, fun a b q => by rw [g2 a b q, xv_ne (by omega)], fun s q => by rw [g3 s (by omega), xv_ne (by omega)], fun s s1 s2 => ?_⟩
      by_cases cs : s = v
      · subst cs; rw [g3 s (by omega), xv_eq rfl rfl]
      · exact g4 s (by omega) s2
/-- what a search has found, on both sides -/
def RES (c m : IH) : Prop := c 67 2 = m 0 49 ∧ 0 ≤ m 0 49 ∧ m 0 49 ≤ 60 ∧ ∀ j, 0 ≤ j → j < m 0 49 → c 68 j = m 33 j ∧ c 69 j = m 34 j ∧ c 70 j = m 35 j
/-- how a search ended -/
def FIN (c m : IH) (L most : Int) : Prop := (m 0 10 = 0 ∧ m 0 49 = 0) ∨ (0 < m 0 10 ∧ ∃ n i Lb, SQ c m L n i (-1) ∧ EI m L Lb (-1) 0 ∧ EA m L Lb (-1) ∧ (n = 0 ∨ most ≤ m 0 49))
theorem runS {N : Nat} {c m : IH} {L most : Int} (hN : 20000 ≤ N) (hm : 1 ≤ most ∧ most ≤ 60) (hS : ST c m L) (hSL : SL c) : ∃ c' m', G_X6_run N c most = some c' ∧ G_X12_searches N m most = some m' ∧ ST c' m' L ∧ SL c' ∧ RES c' m' ∧ FIN c' m' L most ∧ DM m m' ∧ (∀ a b, a < 67 ∨ 73 < a → c' a b = c a b) := by
  obtain ⟨c1, e1, e2, e3, e4, e5, e6, e7⟩ := clearS hN hSL
  have hL := hS.1.1
  have hn := hS.2.1.1.1
  have hW := hS.2.1.2.1
  have h33 := hS.1.2.1.2.1
  unfold G_X6_run G_X12_searches
  simp only [xlet_q]
  rw [e1, ybv_s]
  obtain ⟨m1, f1, f2, f3, f4⟩ := states0 (N := N) (most := most) hL N (xv (xv (xv m 0 42 0) 0 43 0) 0 49 0) 0 (by rw [xv_ne (by omega), xv_ne (by omega), xv_ne (by omega)]; exact h33) (by omega) (by omega) (by omega)
  have mA : ∀ a b, ¬ (a = 0 ∧ (b = 42 ∨ b = 43 ∨ b = 49)) → a ≠ 30 → m1 a b = m a b := fun a b q1 q2 => by rw [f2 a b q2, xv_ne (by omega), xv_ne (by omega), xv_ne (by omega)]
  obtain ⟨m2, g1, g2, g3, g4⟩ := answers0 (N := N) (most := most) hW N m1 0 (mA _ _ (by omega) (by omega)) (by omega) (by omega) (by omega)
  rw [f1, g1]
  have mB : ∀ a b, ¬ (a = 0 ∧ (b = 42 ∨ b = 43 ∨ b = 49)) → a ≠ 30 → a ≠ 32 → m2 a b = m a b := fun a b q1 q2 q3 => by rw [g2 a b q3, mA a b q1 q2]
  have hdm : DM m m2 := fun a b q1 q2 => mB a b q1 (by omega) (by omega)
  have m42 : m2 0 42 = 0 := by rw [g2 _ _ (by omega), f2 _ _ (by omega), xv_ne (by omega), xv_ne (by omega), xv_eq rfl rfl]
  have m43 : m2 0 43 = 0 := by rw [g2 _ _ (by omega), f2 _ _ (by omega), xv_ne (by omega), xv_eq rfl rfl]
  have m49 : m2 0 49 = 0 := by rw [g2 _ _ (by omega), f2 _ _ (by omega), xv_eq rfl rfl]
  have cA : ∀ a b, a < 67 ∨ 73 < a → c1 a b = c a b := fun a b q => e7 a b (by omega) (by omega)
  have hS1 := hS.pr cA hdm
  have m10 : m2 0 10 = m 0 10 := hdm _ _ (by omega) (by omega)
  have m15 : m2 0 15 = m 0 15 := hdm _ _ (by omega) (by omega)
  have c40 : c1 4 0 = m 0 10 := by rw [cA _ _ (by omega)]; exact hS.2.2.1
  rw [c40]
  by_cases c0 : m 0 10 ≤ 0
  · rw [if_pos c0, if_pos (by omega)]
    obtain ⟨N', hN'⟩ : ∃ N', N = N' + 1 := ⟨N - 1, by omega⟩
    have er : ∀ K : Nat, 20000 ≤ K → G_X12_searches_80 K (N' + 1) m2 most = some m2 := by
      intro K hK
      unfold G_X12_searches_80
      rw [if_neg (by omega)]
      obtain ⟨ra, ea, ga⟩ := answerS (N := K) (m := m2) hK (by omega)
      obtain ⟨rs, es, gs⟩ := firstS (N := K) (m := m2) hK (by omega) (fun k k1 k2 => by omega)
      rw [ea, yb_s, es]
      simp only [xlet_q, yb_s]
      rw [if_pos (show ra = -1 by rcases ga with ga | ga <;> omega), if_pos (show rs = -1 by rcases gs with gs | gs <;> omega)]
    have er' := er N hN
    rw [← hN'] at er'
    rw [er']
    refine ⟨c1, m2, rfl, rfl, hS1, ⟨by omega, fun i i1 i2 => by omega, fun t t1 t2 t3 => absurd (e2 t t1 t2) t3⟩, ⟨by omega, by omega, by omega, fun j j1 j2 => by omega⟩, Or.inl ⟨by omega, m49⟩, hdm, cA⟩
  · rw [if_neg c0, if_neg (show ¬ m 0 10 = 0 by omega)]
    have s30 : ∀ s, 0 ≤ s → s < (L + 1) * 721 → m2 30 s = 0 := fun s s1 s2 => by rw [g2 _ _ (by omega), f4 s s1 s2]
    have hQ : SQ c1 m2 L 0 0 (-1) := by
      refine ⟨⟨⟨by omega, fun p p1 p2 => by omega, fun t t1 t2 t3 => by rw [e2 t t1 t2]; exact ⟨by omega, by omega, by omega⟩, fun p p1 p2 => by omega⟩, e4⟩, ⟨⟨by omega, fun i i1 i2 => by omega, fun i j i1 i2 i3 => by omega, fun t t1 t2 t3 => absurd (e2 t t1 t2) t3⟩, by omega, by omega⟩, fun j x z1 z2 z3 z4 => ?_, ⟨fun t z1 z2 z3 => absurd (e2 t (by omega) z2) z3, fun w z1 z2 z3 => absurd (e2 w z1 (by omega)) z3⟩, fun w z1 z2 => ?_, ⟨by omega, fun k k1 k2 => by omega, fun k l k1 k2 k3 => by omega, fun s z1 z2 z3 z4 => ?_⟩, ⟨by omega, by omega, by omega⟩, ⟨by omega, by omega, by omega, fun j j1 j2 => by omega⟩, fun j x z1 z2 z3 z4 z5 => ?_, fun w z1 z2 => ?_⟩
      · left
        rw [s30 _ (by omega) (by omega), e2 _ (by omega) (by omega)]
        exact ⟨rfl, rfl⟩
      · have lw := hS.2.1.2.2.1 w z1 (by omega)
        rw [m10] at z2
        unfold SW
        rw [g4 w z1 z2, e2 w z1 (by omega), hdm 7 w (by omega) (by omega), s30 _ (by omega) (by omega)]
        exact ⟨Or.inl ⟨rfl, by omega⟩, fun _ => by omega, fun z => by omega⟩
      · rw [s30 s z1 (by omega)] at z4
        omega
      · rw [s30 _ (by omega) (by omega)] at z5
        exact absurd rfl z5
      · rw [g4 w z1 (by omega)]; omega
    have hrs := hS1.1.2.2.2.1 0 (by omega) (by omega)
    have hls := hS1.2.1.2.2.2.2.1 (by omega) 0 (by omega) (by omega)
    have hc15 := (hS1.2.2.2.2.2 0 (by omega) (by omega)).1
    obtain ⟨c3, m3, n3, k1, k2, k3, k4, k5⟩ := putS (N := N) (j := 0) (x := 0) (v := 0) hN hQ hL (by omega) (by omega) (by omega) (by omega) (by omega) (by omega) (by omega)
    have hdm3 := k4.dm
    unfold G_X6_itemOf
    rw [yb_s]
    rw [hrs.1, hc15, wr_in (show -2147483648 ≤ m2 26 0 + m2 11 0 by omega) (by omega), wr_in (show -2147483648 ≤ (60 + (24 - 0) * 721 + 0 : Int) by omega) (by omega)]
    rw [show (0 : Int) + m2 26 0 + m2 11 0 = m2 26 0 + m2 11 0 by omega] at k1
    rw [k1, ybv_s]
    rw [show (0 : Int) * 721 + 0 = 0 by omega] at k2 k4
    rw [k2, ybv_s]
    have hst : m2 30 0 = 0 := s30 0 (by omega) (by omega)
    have hwf : m3 30 0 = 1 ∧ m3 29 0 = 0 ∧ ∀ a b, ¬ (a = 29 ∧ b = 0) → ¬ (a = 30 ∧ b = 0) → a ≠ 31 → ¬ (a = 0 ∧ b = 42) → m3 a b = m2 a b := by
      rcases k4 with q | q | q
      · omega
      · omega
      · exact q.2
    obtain ⟨hw1, hw2, hw3⟩ := hwf
    have n30 : ∀ s, 0 < s → s < (L + 1) * 721 → m3 30 s = 0 := fun s s1 s2 => by rw [hw3 30 s (by omega) (by omega) (by omega) (by omega)]; exact s30 s (by omega) s2
    have n10 : m3 0 10 = m 0 10 := by rw [hw3 0 10 (by omega) (by omega) (by omega) (by omega)]; exact m10
    have n15 : m3 0 15 = m 0 15 := by rw [hw3 0 15 (by omega) (by omega) (by omega) (by omega)]; exact m15
    have n49 : m3 0 49 = 0 := by rw [hw3 0 49 (by omega) (by omega) (by omega) (by omega)]; exact m49
    have n32 : ∀ w, 0 ≤ w → w < m 0 10 → m3 32 w = -1 := fun w w1 w2 => by rw [hw3 32 w (by omega) (by omega) (by omega) (by omega)]; exact g4 w w1 w2
    have hE : EI m3 L 0 (-1) 0 := by
      refine ⟨fun j x z1 z2 z3 z4 => ?_, fun w z1 z2 z3 => ?_, fun j x e z1 z2 z3 z4 z5 z6 z7 z8 => ?_, fun j x z1 z2 z3 z4 z5 => ?_⟩
      · rw [n15] at z4
        by_cases cs : j * 721 + x = 0
        · rw [cs, hw1]
          refine ⟨fun q => by omega, fun _ => ?_⟩
          unfold bnd
          rw [hw2, show (0 : Int) / 721 = 0 by omega, show (0 : Int) % 721 = 0 by omega, hdm3 26 _ (by omega) (by omega), hdm3 11 _ (by omega) (by omega)]
          omega
        · rw [n30 _ (by omega) (by omega)]
          exact ⟨fun q => by omega, fun q => by omega⟩
      · rw [n10] at z2
        rw [n32 w z1 z2] at z3
        omega
      · rw [n15] at z4
        by_cases cs : j * 721 + x = 0
        · rw [cs, hw1] at z7; omega
        · rw [n30 _ (by omega) (by omega)] at z7; omega
      · rw [n15] at z4
        by_cases cs : j * 721 + x = 0
        · exact Or.inl ⟨by omega, by omega, by rw [cs]; exact hw2⟩
        · rw [n30 _ (by omega) (by omega)] at z5; exact absurd rfl z5
    have hA : EA m3 L 0 (-1) := by
      refine ⟨fun k q1 q2 => by omega, fun k l q1 q2 q3 => by omega, fun w z1 z2 z3 => ?_, fun w z1 z2 z3 z4 => ?_, fun z => by omega, by rw [hw1]; omega⟩
      · rw [n10] at z2
        rw [n32 w z1 z2] at z3
        omega
      · rw [n10] at z2
        have lw := hS.2.1.2.2.1 w z1 z2
        have e7' : m3 7 w = m 7 w := by rw [hdm3 7 w (by omega) (by omega), hdm 7 w (by omega) (by omega)]
        rw [e7', n30 _ (by omega) (by omega)] at z3
        omega
    obtain ⟨c4, m4, n4, i4, Lb4, d1, d2, d3, d4, d5, d6, d7, d8, d9⟩ := run0 hN hm.2 N c3 m3 n3 0 0 (hS1.pr k5 hdm3) k3 hE hA (by omega) (by omega)
    have n10' : m4 0 10 = m 0 10 := by rw [d8 _ _ (by omega) (by omega)]; exact n10
    exact ⟨c4, m4, d1, d2, d3, d4.2.1.1.sl, d4.2.2.2.2.2.2.2.1, Or.inr ⟨by omega, n4, i4, Lb4, d4, d5, d6, d7⟩, (hdm.tr hdm3).tr d8, fun a b q => by rw [d9 a b q, k5 a b q, cA a b q]⟩
