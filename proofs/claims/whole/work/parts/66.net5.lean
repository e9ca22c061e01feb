/-- the class's cells st .. are the reference's net rows -/
def CP (c m : IH) (st L : Int) : Prop := ∀ i, 0 ≤ i → i < L → c 36 (st + i) = m (2327 + i) 0 ∧ (isLt (m (2327 + i) 0) ∨ m (2327 + i) 0 = 63 ∨ m (2327 + i) 0 = 45 ∨ m (2327 + i) 0 = 10) ∧ OT c m (st + i) i ∧ (isLt (m (2327 + i) 0) ∨ m (2327 + i) 1 = 0)
theorem cells7 {N : Nat} {L st : Int} (hN : 20000 ≤ N) (hst : 0 ≤ st ∧ st + L ≤ 400) (hL : 0 ≤ L ∧ L ≤ 24) : ∀ (f : Nat) (c : IH) (p : Int), 0 ≤ p → p ≤ L → c 57 4 = L → L - p < f → ∃ c', G_X4_ofCells_7 N f c st p = G_X4_ofCells_40 N N c' st 0 ∧ (∀ a b, a ≠ 58 → c' a b = c a b) ∧ (∀ i, i < p → c' 58 i = c 58 i) ∧ ∀ i, p ≤ i → i < L → c' 58 i = c 36 (st + i) := by
  intro f
  induction f with
  | zero => intro c p h1 h2 h3 h4; omega
  | succ f ih =>
    intro c p h1 h2 h3 h4
    unfold G_X4_ofCells_7
    rw [h3]
    by_cases c1 : L ≤ p
    · rw [if_pos c1]
      exact ⟨c, rfl, fun _ _ _ => rfl, fun _ _ => rfl, fun i i1 i2 => by omega⟩
    · rw [if_neg c1]
      (try simp (disch := omega) only [xlet_q, xq_in])
      rw [wr_in (by omega) (by omega)]
      obtain ⟨c', g1, g2, g3, g4⟩ := ih (xv c 58 p (c 36 (st + p))) (p + 1) (by omega) (by omega) (by rw [xv_ne (by omega)]; exact h3) (by omega)
      refine ⟨c', g1, fun a b q => by rw [g2 a b q, xv_ne (by omega)], fun i q => by rw [g3 i (by omega), xv_ne (by omega)], fun i q1 q2 => ?_⟩
      by_cases ci : i = p
      · subst ci
        rw [g3 i (by omega), xv_eq rfl rfl]
      · rw [g4 i (by omega) q2, xv_ne (by omega)]
theorem word15 {N : Nat} {L w : Int} (hN : 20000 ≤ N) (hw : 0 ≤ w ∧ w < 60) (hL : 0 ≤ L ∧ L ≤ 12) : ∀ (f : Nat) (c : IH) (p : Int), 0 ≤ p → p ≤ L → c 57 4 = L → L - p < f → ∃ c', G_X4_ofWord_15 N f c w p = G_X4_ofWord_46 N N c' 0 ∧ (∀ a b, a ≠ 58 → c' a b = c a b) ∧ (∀ i, i < p → c' 58 i = c 58 i) ∧ ∀ i, p ≤ i → i < L → c' 58 i = c 8 (w * 12 + i) := by
  intro f
  induction f with
  | zero => intro c p h1 h2 h3 h4; omega
  | succ f ih =>
    intro c p h1 h2 h3 h4
    unfold G_X4_ofWord_15 G_X2_signOf
    rw [h3]
    by_cases c1 : L ≤ p
    · rw [if_pos c1]
      exact ⟨c, rfl, fun _ _ _ => rfl, fun _ _ => rfl, fun i i1 i2 => by omega⟩
    · rw [if_neg c1]
      (try simp (disch := omega) only [xlet_q, xq_in])
      rw [yb_s]
      rw [wr_in (by omega) (by omega)]
      obtain ⟨c', g1, g2, g3, g4⟩ := ih (xv c 58 p (c 8 (w * 12 + p))) (p + 1) (by omega) (by omega) (by rw [xv_ne (by omega)]; exact h3) (by omega)
      refine ⟨c', g1, fun a b q => by rw [g2 a b q, xv_ne (by omega)], fun i q => by rw [g3 i (by omega), xv_ne (by omega)], fun i q1 q2 => ?_⟩
      by_cases ci : i = p
      · subst ci
        rw [g3 i (by omega), xv_eq rfl rfl]
      · rw [g4 i (by omega) q2, xv_ne (by omega)]
theorem SR.cv {c c' m : IH} (h : SR c m) (hf : ∀ a b, 19 ≤ a → a ≤ 24 → c' a b = c a b) : SR c' m := by
  obtain ⟨b1, b2, b3, b4⟩ := h
  refine ⟨by rw [hf _ _ (by omega) (by omega)]; exact b1, b2, b3, fun s s1 s2 => ?_⟩
  have := b4 s s1 s2
  rw [hf 20 _ (by omega) (by omega), hf 21 _ (by omega) (by omega), hf 22 _ (by omega) (by omega)]
  refine ⟨this.1, this.2.1, this.2.2.1, this.2.2.2.1, fun q q1 q2 => ?_, fun q q1 q2 => ?_⟩
  · rw [hf _ _ (by omega) (by omega)]
    exact this.2.2.2.2.1 q q1 q2
  · rw [hf _ _ (by omega) (by omega)]
    exact this.2.2.2.2.2 q q1 q2
theorem SR.mv {c m m' : IH} (h : SR c m) (h13 : m' 13 0 = m 13 0) (hf : ∀ a b, 115 ≤ a → a < 135 → m' a b = m a b) (hg : ∀ a b, 157 ≤ a → a < 177 → m' a b = m a b) : SR c m' := by
  obtain ⟨b1, b2, b3, b4⟩ := h
  unfold SR
  rw [h13]
  refine ⟨b1, b2, b3, fun s s1 s2 => ?_⟩
  have := b4 s s1 s2
  rw [hg (157 + s) 0 (by omega) (by omega), hg (157 + s) 1 (by omega) (by omega), hg (157 + s) 2 (by omega) (by omega)]
  refine ⟨this.1, this.2.1, this.2.2.1, this.2.2.2.1, fun q q1 q2 => ?_, fun q q1 q2 => ?_⟩
  · rw [hf _ _ (by omega) (by omega)]
    exact this.2.2.2.2.1 q q1 q2
  · rw [hf _ _ (by omega) (by omega)]
    exact this.2.2.2.2.2 q q1 q2
theorem KR.cv {c c' m : IH} (h : KR c m) (hf : ∀ b, c' 1 b = c 1 b) : KR c' m := fun j j1 j2 => by rw [hf]; exact h j j1 j2
theorem KR.mv {c m m' : IH} (h : KR c m) (hf : ∀ b, m' 3 b = m 3 b) : KR c m' := fun j j1 j2 => by rw [hf]; exact h j j1 j2
theorem mid0 {N : Nat} {c m : IH} {L : Int} (h : c 57 5 = 0) : Mid N (xv c 59 0 (c 57 5)) m L 0 := by
  have h57 : xv c 59 0 (c 57 5) 57 5 = 0 := by rw [xv_ne (by omega)]; exact h
  refine ⟨by rw [h57, xv_eq rfl rfl]; exact h, by rw [h57]; omega, fun i i1 i2 => by omega, by rw [xv_eq rfl rfl]; exact h⟩
/-- the net of cells, on both sides -/
theorem netCells {N : Nat} {c m : IH} {L st : Int} (hN : 20000 ≤ N) (hst : 0 ≤ st ∧ st + L ≤ 400) (hL : 0 ≤ L ∧ L ≤ 24) (hS : SR c m) (hK : KR c m) (hP : CP c m st L) (hm : m 0 33 = L) : ∃ c' m', G_X4_ofCells N c st L = some c' ∧ G_X12_laysNet N m = some m' ∧ NetR c' m' L ∧ (∀ a b, a < 57 ∨ 66 < a → c' a b = c a b) ∧ (∀ a b, a ≠ 25 → a ≠ 26 → ¬ (2423 ≤ a ∧ a < 5303) → m' a b = m a b) := by
  unfold G_X4_ofCells G_X4_begin
  simp only [xlet_q, ybv_s]
  rw [show min L 24 = L by omega]
  obtain ⟨c1, g1, g2, g3, g4⟩ := cells7 (N := N) hN hst hL N (xv (xv c 57 4 L) 57 5 0) 0 (by omega) (by omega) (by rw [xv_ne (by omega), xv_eq rfl rfl]) (by omega)
  rw [g1]
  have cA : ∀ a b, a ≠ 57 → a ≠ 58 → c1 a b = c a b := fun a b q1 q2 => by rw [g2 a b q2, xv_ne (by omega), xv_ne (by omega)]
  have h57 : c1 57 5 = 0 := by rw [g2 _ _ (by omega), xv_eq rfl rfl]
  have hPR : PR c1 m L := by
    refine ⟨⟨hL, by rw [g2 _ _ (by omega), xv_ne (by omega), xv_eq rfl rfl], hm, fun i i1 i2 => ?_⟩, hS.cv (fun a b q1 q2 => cA a b (by omega) (by omega)), hK.cv (fun b => cA _ b (by omega) (by omega))⟩
    rw [g4 i i1 i2, xv_ne (by omega), xv_ne (by omega)]
    exact ⟨(hP i i1 i2).1, (hP i i1 i2).2.1⟩
  have key := cells40 (N := N) (m0 := m) (L := L) (st := st) hN hst (Q := fun c' => ∃ m', G_X12_laysNet N m = some m' ∧ NetR c' m' L ∧ (∀ a b, a < 57 ∨ 66 < a → c' a b = c a b) ∧ (∀ a b, a ≠ 25 → a ≠ 26 → ¬ (2423 ≤ a ∧ a < 5303) → m' a b = m a b)) N c1 0 (by omega) (by omega) hPR (fun i i1 i2 => ⟨?_, (hP i i1 i2).2.2.2⟩) (mid0 h57) (by omega) (fun c' k1 k2 k3 => ?_)
  · obtain ⟨c', k1, m', k2, k3⟩ := key
    exact ⟨c', m', k1, k2, k3⟩
  · obtain ⟨a1, a2, a3, a4, a5⟩ := (hP i i1 i2).2.2.1
    refine ⟨a1, by rw [cA _ _ (by omega) (by omega)]; exact a2, a3, a4, fun q q1 q2 => ?_⟩
    rw [cA _ _ (by omega) (by omega), cA _ _ (by omega) (by omega)]
    exact a5 q q1 q2
  · obtain ⟨c2, m2, d1, d2, d3, d4, d5⟩ := endS2 hN k2 k3
    rw [d1]
    refine wo_some ⟨m2, d2, d3, fun a b q => ?_, d5⟩
    rw [d4 a b (by omega), k1 a b (by omega) (by omega), cA a b (by omega) (by omega)]
/-- the net of a word, on both sides -/
theorem netWord {N : Nat} {c m : IH} {L w : Int} (hN : 20000 ≤ N) (hw : 0 ≤ w ∧ w < 60) (hL : 0 ≤ L ∧ L ≤ 12) (h5 : c 5 w = L) (hS : SR c m) (hK : KR c m) (hP : ∀ i, 0 ≤ i → i < L → c 8 (w * 12 + i) = m (2327 + i) 0 ∧ sg (m (2327 + i) 0) ∧ m (2327 + i) 1 = 0) (hm : m 0 33 = L) : ∃ c' m', G_X4_ofWord N c w = some c' ∧ G_X12_laysNet N m = some m' ∧ NetR c' m' L ∧ (∀ a b, a < 57 ∨ 66 < a → c' a b = c a b) ∧ (∀ a b, a ≠ 25 → a ≠ 26 → ¬ (2423 ≤ a ∧ a < 5303) → m' a b = m a b) := by
  unfold G_X4_ofWord G_X4_begin
  (try simp (disch := omega) only [xlet_q, xq_in])
  rw [ybv_s, h5, show min L 24 = L by omega]
  obtain ⟨c1, g1, g2, g3, g4⟩ := word15 (N := N) hN hw hL N (xv (xv c 57 4 L) 57 5 0) 0 (by omega) (by omega) (by rw [xv_ne (by omega), xv_eq rfl rfl]) (by omega)
  rw [g1]
  have cA : ∀ a b, a ≠ 57 → a ≠ 58 → c1 a b = c a b := fun a b q1 q2 => by rw [g2 a b q2, xv_ne (by omega), xv_ne (by omega)]
  have h57 : c1 57 5 = 0 := by rw [g2 _ _ (by omega), xv_eq rfl rfl]
  have hPR : PR c1 m L := by
    refine ⟨⟨by omega, by rw [g2 _ _ (by omega), xv_ne (by omega), xv_eq rfl rfl], hm, fun i i1 i2 => ?_⟩, hS.cv (fun a b q1 q2 => cA a b (by omega) (by omega)), hK.cv (fun b => cA _ b (by omega) (by omega))⟩
    rw [g4 i i1 i2, xv_ne (by omega), xv_ne (by omega)]
    have := (hP i i1 i2).2.1
    unfold sg at this
    unfold isLt
    exact ⟨(hP i i1 i2).1, by omega⟩
  have key := word46 (N := N) (m0 := m) (L := L) hN (Q := fun c' => ∃ m', G_X12_laysNet N m = some m' ∧ NetR c' m' L ∧ (∀ a b, a < 57 ∨ 66 < a → c' a b = c a b) ∧ (∀ a b, a ≠ 25 → a ≠ 26 → ¬ (2423 ≤ a ∧ a < 5303) → m' a b = m a b)) N c1 0 (by omega) (by omega) hPR (fun i i1 i2 => (hP i i1 i2).2.2) (mid0 h57) (by omega) (fun c' k1 k2 k3 => ?_)
  · obtain ⟨c', k1, m', k2, k3⟩ := key
    exact ⟨c', m', k1, k2, k3⟩
  · obtain ⟨c2, m2, d1, d2, d3, d4, d5⟩ := endS2 hN k2 k3
    rw [d1]
    refine wo_some ⟨m2, d2, d3, fun a b q => ?_, d5⟩
    rw [d4 a b (by omega), k1 a b (by omega) (by omega), cA a b (by omega) (by omega)]
theorem copies0 {N : Nat} {x y : Int} (hxy : x ≠ y) : ∀ (f : Nat) (m : IH) (v : Int), 0 ≤ v → v ≤ 8 → 8 - v < f → ∃ m', G_X12_copiesCell_2 N f m x y v = some m' ∧ (∀ a b, ¬ (a = y ∧ v ≤ b ∧ b < 8) → m' a b = m a b) ∧ ∀ b, v ≤ b → b < 8 → m' y b = m x b := by
  intro f
  induction f with
  | zero => intro m v h1 h2 h3; omega
  | succ f ih =>
    intro m v h1 h2 h3
    unfold G_X12_copiesCell_2
    by_cases c1 : 8 ≤ v
    · rw [if_pos c1]
      exact ⟨m, rfl, fun _ _ _ => rfl, fun b b1 b2 => by omega⟩
    · rw [if_neg c1]
      (try simp (disch := omega) only [xlet_q, xq_in])
      rw [wr_in (by omega) (by omega)]
      obtain ⟨m', g1, g2, g3⟩ := ih (xv m y v (m x v)) (v + 1) (by omega) (by omega) (by omega)
      refine ⟨m', g1, fun a b q => by rw [g2 a b (by omega), xv_ne (by omega)], fun b b1 b2 => ?_⟩
      by_cases cb : b = v
      · subst cb
        rw [g2 _ _ (by omega), xv_eq rfl rfl]
      · rw [g3 b (by omega) b2, xv_ne (by omega)]
/-- a token's cells copied to the net -/
theorem copy25 {N : Nat} {t u e n : Int} {k7 : IH → Int → Int → Int → Option IH} (hN : 20000 ≤ N) (he : 0 ≤ e ∧ e < 40) (hn : 0 ≤ n ∧ n ≤ 24) : ∀ (f : Nat) (m : IH) (k : Int), m 197 e = n → 0 ≤ k → k ≤ n → 0 ≤ m 0 33 → m 0 33 + (n - k) ≤ 48 → n - k < f → ∃ m', G_X12_laysToken_25 N k7 f m t u e k = k7 m' t u (e + 1) ∧ m' 0 33 = m 0 33 + (n - k) ∧ (∀ a b, ¬ (a = 0 ∧ b = 33) → ¬ (2327 + m 0 33 ≤ a ∧ a < 2375) → m' a b = m a b) ∧ ∀ i b, m 0 33 ≤ i → i < m 0 33 + (n - k) → 0 ≤ b → b < 8 → m' (2327 + i) b = m (285 + (e * 24 + (k + (i - m 0 33)))) b := by
  intro f
  induction f with
  | zero => intro m k h1 h2 h3 h4 h5 h6; omega
  | succ f ih =>
    intro m k h1 h2 h3 h4 h5 h6
    unfold G_X12_laysToken_25
    (try simp (disch := omega) only [xlet_q, xq_in])
    rw [show (197 : Int) + 0 = 197 by omega, h1]
    by_cases c1 : n ≤ k
    · rw [if_pos c1, wr_in (by omega) (by omega)]
      exact ⟨m, rfl, by omega, fun _ _ _ _ => rfl, fun i b q1 q2 => by omega⟩
    · rw [if_neg c1]
      (try simp (disch := omega) only [xlet_q, xq_in])
      rw [show (0 * 40 + e) * 24 + k = e * 24 + k by omega]
      obtain ⟨m1, g1, g2, g3⟩ := copies0 (N := N) (x := 285 + (e * 24 + k)) (y := 2327 + m 0 33) (by omega) N m 0 (by omega) (by omega) (by omega)
      unfold G_X12_copiesCell
      rw [xlet_q, g1, ybv_s, g2 0 33 (by omega), wr_in (by omega) (by omega), wr_in (by omega) (by omega)]
      have e33 : xv m1 0 33 (m 0 33 + 1) 0 33 = m 0 33 + 1 := xv_eq rfl rfl
      obtain ⟨m2, d1, d2, d3, d4⟩ := ih (xv m1 0 33 (m 0 33 + 1)) (k + 1) (by rw [xv_ne (by omega), g2 _ _ (by omega)]; exact h1) (by omega) (by omega) (by omega) (by omega) (by omega)
      rw [e33] at d2 d3 d4
      refine ⟨m2, d1, by omega, fun a b q1 q2 => ?_, fun i b q1 q2 q3 q4 => ?_⟩
      · rw [d3 a b q1 (by omega), xv_ne q1, g2 a b (by omega)]
      · by_cases ci : i = m 0 33
        · subst ci
          rw [d3 _ _ (by omega) (by omega), xv_ne (by omega), g3 b q3 q4]
          congr 1
          omega
        · rw [d4 i b (by omega) (by omega) q3 q4, xv_ne (by omega), g2 _ _ (by omega)]
          congr 1
          omega
