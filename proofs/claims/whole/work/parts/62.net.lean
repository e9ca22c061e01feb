theorem xq_in {α : Type} {i n : Int} {B : Option α} (h1 : 0 ≤ i) (h2 : i < n) : xq i n B = B := if_pos ⟨h1, h2⟩
/-- the seven costs -/
def KR (c m : IH) : Prop := ∀ j, 0 ≤ j → j < 7 → c 1 j = m 3 j ∧ 0 ≤ m 3 j ∧ m 3 j ≤ 999 ∧ (j ≠ 0 → m 3 j ≤ 99)
/-- the shapes -/
def SR (c m : IH) : Prop := c 19 0 = m 13 0 ∧ 0 ≤ m 13 0 ∧ m 13 0 ≤ 20 ∧ ∀ s, 0 ≤ s → s < m 13 0 → (c 20 s = m (157 + s) 0 ∧ c 21 s = m (157 + s) 1 ∧ c 22 s = m (157 + s) 2) ∧ (1 ≤ m (157 + s) 0 ∧ m (157 + s) 0 ≤ 99) ∧ (1 ≤ m (157 + s) 1 ∧ m (157 + s) 1 ≤ 3) ∧ (1 ≤ m (157 + s) 2 ∧ m (157 + s) 2 ≤ 3) ∧ (∀ q, 0 ≤ q → q < m (157 + s) 1 → c 23 (s * 3 + q) = m (115 + s) q ∧ isLt (m (115 + s) q)) ∧ ∀ q, 0 ≤ q → q < m (157 + s) 2 → c 24 (s * 3 + q) = m (115 + s) (3 + q)
/-- an edge: the class's number e, the reference's row x -/
def EQ (c m : IH) (L i e x : Int) : Prop := c 60 e = i ∧ c 61 e = m x 0 ∧ c 62 e = m x 1 ∧ c 63 e = m x 2 ∧ c 65 e = m x 6 ∧ (i < m x 0 ∧ m x 0 ≤ L) ∧ (0 ≤ m x 1 ∧ m x 1 ≤ 99) ∧ (0 ≤ m x 2 ∧ m x 2 ≤ 3) ∧ ∀ q, 0 ≤ q → q < m x 2 → c 64 (e * 3 + q) = m x (3 + q)
/-- the edges of a place -/
def EMg (c m : IH) (L i e0 k : Int) : Prop := m 25 i = k ∧ ∀ e, 0 ≤ e → e < k → EQ c m L i (e0 + e) (2423 + (i * 60 + e))
def EP (c m : IH) (L i e0 k : Int) : Prop := c 57 5 = e0 + k ∧ EMg c m L i e0 k
/-- the class laid edges from e on -/
def FC (c c' : IH) (e : Int) : Prop := (∀ a b, ¬ (a = 57 ∧ b = 5) → ¬ (60 ≤ a ∧ a ≤ 65) → c' a b = c a b) ∧ (∀ a b, b < e → a ≠ 57 → a ≠ 64 → c' a b = c a b) ∧ ∀ b, b < e * 3 → c' 64 b = c 64 b
/-- the reference laid edges of place i from number k on -/
def FM (m m' : IH) (i k : Int) : Prop := ∀ a b, ¬ (a = 25 ∧ b = i) → ¬ (2423 + (i * 60 + k) ≤ a ∧ a < 2423 + (i * 60 + 60)) → m' a b = m a b
/-- one edge laid -/
def CE (c c' : IH) (p b v n y0 y1 y2 z : Int) : Prop := c' 57 5 = c 57 5 + 1 ∧ FC c c' (c 57 5) ∧ c' 60 (c 57 5) = p ∧ c' 61 (c 57 5) = b ∧ c' 62 (c 57 5) = v ∧ c' 63 (c 57 5) = n ∧ c' 65 (c 57 5) = z ∧ (0 < n → c' 64 (c 57 5 * 3) = y0) ∧ (1 < n → c' 64 (c 57 5 * 3 + 1) = y1) ∧ (2 < n → c' 64 (c 57 5 * 3 + 2) = y2)
def ME (m m' : IH) (i b v n y0 y1 y2 z : Int) : Prop := m' 25 i = m 25 i + 1 ∧ (∀ a j, ¬ (a = 25 ∧ j = i) → a ≠ 2423 + (i * 60 + m 25 i) → m' a j = m a j) ∧ m' (2423 + (i * 60 + m 25 i)) 0 = b ∧ m' (2423 + (i * 60 + m 25 i)) 1 = v ∧ m' (2423 + (i * 60 + m 25 i)) 2 = n ∧ m' (2423 + (i * 60 + m 25 i)) 3 = y0 ∧ m' (2423 + (i * 60 + m 25 i)) 4 = y1 ∧ m' (2423 + (i * 60 + m 25 i)) 5 = y2 ∧ m' (2423 + (i * 60 + m 25 i)) 6 = z
theorem FC.tr {c c1 c2 : IH} {e e1 : Int} (h : FC c c1 e) (h1 : FC c1 c2 e1) (he : e ≤ e1) : FC c c2 e := by
  unfold FC at *
  refine ⟨fun a b q1 q2 => ?_, fun a b q1 q2 q3 => ?_, fun b q => ?_⟩
  · rw [h1.1 a b q1 q2, h.1 a b q1 q2]
  · rw [h1.2.1 a b (by omega) q2 q3, h.2.1 a b q1 q2 q3]
  · rw [h1.2.2 b (by omega), h.2.2 b q]
theorem FC.rf {c : IH} {e : Int} : FC c c e := ⟨fun _ _ _ _ => rfl, fun _ _ _ _ _ => rfl, fun _ _ => rfl⟩
theorem FC.le {c c1 : IH} {e e1 : Int} (h : FC c c1 e1) (he : e ≤ e1) : FC c c1 e := FC.tr FC.rf h he
theorem FM.tr {m m1 m2 : IH} {i k k1 : Int} (h : FM m m1 i k) (h1 : FM m1 m2 i k1) (he : k ≤ k1) : FM m m2 i k := by
  unfold FM at *
  intro a b q1 q2
  rw [h1 a b q1 (by omega), h a b q1 q2]
theorem FM.rf {m : IH} {i k : Int} : FM m m i k := fun _ _ _ _ => rfl
theorem ME.fm {m m' : IH} {i b v n y0 y1 y2 z : Int} (h : ME m m' i b v n y0 y1 y2 z) (h1 : 0 ≤ m 25 i ∧ m 25 i < 60) : FM m m' i (m 25 i) := by
  intro a j q1 q2
  exact h.2.1 a j q1 (by omega)
theorem edgeM {N : Nat} {m : IH} {i b v n y0 y1 y2 z : Int} (hi : 0 ≤ i ∧ i < 48) (hk : 0 ≤ m 25 i ∧ m 25 i < 60) : ∃ m', G_X12_edge N m i b v n y0 y1 y2 z = some m' ∧ ME m m' i b v n y0 y1 y2 z := by
  unfold G_X12_edge
  simp only [xlet, xq]
  rw [if_pos (by omega), if_pos (by omega), if_pos (by omega), if_pos (by omega), if_pos (by omega)]
  refine ⟨_, rfl, ?_⟩
  have w : wr (m 25 i + 1) = m 25 i + 1 := wr_in (by omega) (by omega)
  unfold ME
  simp (disch := omega) only [xv_eq, xv_ne, w]
  refine ⟨trivial, fun a j q1 q2 => ?_, trivial, trivial, trivial, trivial, trivial, trivial, trivial⟩
  simp (disch := omega) only [xv_ne]
theorem addEdgeS {N : Nat} {c : IH} {p b v : Int} (h : 0 ≤ c 57 5 ∧ c 57 5 < 624) : wo (G_X4_addEdge N c p b v) (fun q => q.1 = c 57 5 ∧ CE c q.2 p b v 0 0 0 0 (-1)) := by
  unfold G_X4_addEdge
  repeat (first | with_reducible refine wo_let ?_ | with_reducible refine wo_some ?_ | with_reducible refine wo_q ⟨by (first | omega | grind (ematch := 30) (splits := 30) (gen := 40) [xv_at]), by (first | omega | grind (ematch := 30) (splits := 30) (gen := 40) [xv_at])⟩ ?_ | with_reducible refine wo_ifp (by (first | omega | grind (ematch := 30) (splits := 30) (gen := 40) [xv_at])) ?_ | with_reducible refine wo_ifn (by (first | omega | grind (ematch := 30) (splits := 30) (gen := 40) [xv_at])) ?_)
  unfold CE FC
  grind (ematch := 30) (splits := 30) (gen := 40) [xv_at, wr_in]
theorem addSignS {N : Nat} {c : IH} {p s v : Int} (h : 0 ≤ c 57 5 ∧ c 57 5 < 624) (hp : 0 ≤ p ∧ p < 24) : wo (G_X4_addSign N c p s v) (fun q => CE c q p (p + 1) v 1 s 0 0 (-1)) := by
  unfold G_X4_addSign
  rw [wr_in (by omega) (by omega)]
  refine wo_yb (addEdgeS h) (fun r a hr => ?_)
  obtain ⟨hr, hc⟩ := hr
  dsimp only at hr hc
  subst hr
  repeat (first | with_reducible refine wo_let ?_ | with_reducible refine wo_some ?_ | with_reducible refine wo_q ⟨by (first | omega | grind (ematch := 30) (splits := 30) (gen := 40) [xv_at]), by (first | omega | grind (ematch := 30) (splits := 30) (gen := 40) [xv_at])⟩ ?_ | with_reducible refine wo_ifp (by (first | omega | grind (ematch := 30) (splits := 30) (gen := 40) [xv_at])) ?_ | with_reducible refine wo_ifn (by (first | omega | grind (ematch := 30) (splits := 30) (gen := 40) [xv_at])) ?_)
  unfold CE FC at *
  grind (ematch := 30) (splits := 30) (gen := 40) [xv_at]
theorem EP.step {c c' m m' : IH} {L i e0 k b v n y0 y1 y2 z : Int} (h : EP c m L i e0 k) (hc : CE c c' i b v n y0 y1 y2 z) (hm : ME m m' i b v n y0 y1 y2 z) (h0 : 0 ≤ e0) (hk : 0 ≤ k) (hi : 0 ≤ i) (hb : i < b ∧ b ≤ L) (hv : 0 ≤ v ∧ v ≤ 99) (hn : 0 ≤ n ∧ n ≤ 3) : EP c' m' L i e0 (k + 1) := by
  obtain ⟨h1, h2, h3⟩ := h
  obtain ⟨a1, ⟨a2, a3, a4⟩, a5, a6, a7, a8, a9, a10, a11, a12⟩ := hc
  obtain ⟨b1, b2, b3, b4, b5, b6, b7, b8, b9⟩ := hm
  rw [h2] at b1 b2 b3 b4 b5 b6 b7 b8 b9
  rw [h1] at a1 a3 a4 a5 a6 a7 a8 a9 a10 a11 a12
  refine ⟨by omega, by omega, fun e e1 e2 => ?_⟩
  by_cases ce : e = k
  · subst ce
    unfold EQ
    rw [b3, b4, b5, b9]
    refine ⟨a5, a6, a7, a8, a9, hb, hv, hn, fun q q1 q2 => ?_⟩
    have : q = 0 ∨ q = 1 ∨ q = 2 := by omega
    rcases this with rfl | rfl | rfl
    · rw [show (3 : Int) + 0 = 3 by omega, b6, Int.add_zero]; exact a10 (by omega)
    · rw [show (3 : Int) + 1 = 4 by omega, b7]; exact a11 (by omega)
    · rw [show (3 : Int) + 2 = 5 by omega, b8]; exact a12 (by omega)
  · have := h3 e e1 (by omega)
    unfold EQ at this ⊢
    have f : ∀ j, m' (2423 + (i * 60 + e)) j = m (2423 + (i * 60 + e)) j := fun j => b2 _ _ (by omega) (by omega)
    simp only [f]
    rw [a3 60 _ (by omega) (by omega) (by omega), a3 61 _ (by omega) (by omega) (by omega), a3 62 _ (by omega) (by omega) (by omega), a3 63 _ (by omega) (by omega) (by omega), a3 65 _ (by omega) (by omega) (by omega)]
    obtain ⟨t1, t2, t3, t4, t5, t6, t7, t8, t9⟩ := this
    refine ⟨t1, t2, t3, t4, t5, t6, t7, t8, fun q q1 q2 => ?_⟩
    rw [a4 _ (by omega)]
    exact t9 q q1 q2
/-- the cells of a net, read alike -/
def NP (c m : IH) (L : Int) : Prop := (0 ≤ L ∧ L ≤ 24) ∧ c 57 4 = L ∧ m 0 33 = L ∧ ∀ i, 0 ≤ i → i < L → c 58 i = m (2327 + i) 0 ∧ (isLt (m (2327 + i) 0) ∨ m (2327 + i) 0 = 63 ∨ m (2327 + i) 0 = 45 ∨ m (2327 + i) 0 = 10)
theorem stands0 {N : Nat} {c m : IH} {L s p : Int} (hP : NP c m L) (hS : SR c m) (hs : 0 ≤ s ∧ s < m 13 0) (hp : 0 ≤ p) (hl : p + m (157 + s) 1 ≤ L) : ∀ (f : Nat) (q : Int), 0 ≤ q → q ≤ m (157 + s) 1 → (0 < q → isLt (m (2327 + p) 0)) → m (157 + s) 1 - q < f → ∃ r, G_X4_standsAt_25 N f c s p (m (157 + s) 1) q = some (r, c) ∧ G_X12_isShapeAt_26 N f m s p (m (157 + s) 1) q = some (r, m) ∧ (r = 0 ∨ (r = 1 ∧ isLt (m (2327 + p) 0))) := by
  intro f
  induction f with
  | zero => intro q h1 h2 h3 h4; omega
  | succ f ih =>
    intro q h1 h2 h3 h4
    have hs2 := hS.2.2.2 s hs.1 hs.2
    have hb := hS.2
    unfold G_X4_standsAt_25 G_X12_isShapeAt_26
    by_cases c1 : m (157 + s) 1 ≤ q
    · rw [if_pos c1, if_pos c1]
      exact ⟨1, rfl, rfl, Or.inr ⟨rfl, h3 (by omega)⟩⟩
    · have hP1 := hP.1
      have e1 := hP.2.2.2 (p + q) (by omega) (by omega)
      have e2 := hs2.2.2.2.2.1 q h1 (by omega)
      rw [if_neg c1, if_neg c1]
      (try simp (disch := omega) only [xlet_q, xq_in])
      rw [e1.1, e2.1, show (0 : Int) * 20 + s = s by omega]
      by_cases c2 : m (2327 + (p + q)) 0 = m (115 + s) q
      · rw [if_pos c2, if_pos c2, wr_in (by omega) (by omega)]
        refine ih (q + 1) (by omega) (by omega) (fun _ => ?_) (by omega)
        by_cases c3 : q = 0
        · subst c3
          rw [Int.add_zero] at c2
          rw [c2]; exact e2.2
        · exact h3 (by omega)
      · rw [if_neg c2, if_neg c2]
        exact ⟨0, rfl, rfl, Or.inl rfl⟩
theorem standsS {N : Nat} {c m : IH} {L s p : Int} (hN : 20000 ≤ N) (hP : NP c m L) (hS : SR c m) (hs : 0 ≤ s ∧ s < m 13 0) (hp : 0 ≤ p ∧ p < L) : ∃ r, G_X4_standsAt N c s p = some (r, c) ∧ G_X12_isShapeAt N m s p = some (r, m) ∧ (r = 0 ∨ (r = 1 ∧ isLt (m (2327 + p) 0) ∧ p + m (157 + s) 1 ≤ L)) := by
  have hs2 := hS.2.2.2 s hs.1 hs.2
  have hb := hS.2
  have hP1 := hP.1
  unfold G_X4_standsAt G_X12_isShapeAt
  (try simp (disch := omega) only [xlet_q, xq_in])
  rw [show (0 : Int) * 20 + s = s by omega, hs2.1.2.1, hP.2.1, hP.2.2.1, wr_in (by omega) (by omega)]
  by_cases c1 : p + m (157 + s) 1 ≤ L
  · rw [if_pos c1, if_pos c1]
    obtain ⟨r, e1, e2, e3⟩ := stands0 (N := N) hP hS hs hp.1 c1 N 0 (by omega) (by omega) (by omega) (by omega)
    exact ⟨r, e1, e2, by grind⟩
  · rw [if_neg c1, if_neg c1]
    exact ⟨0, rfl, rfl, Or.inl rfl⟩
theorem addShape0 {N : Nat} {s e n : Int} (he : 0 ≤ e ∧ e < 624) (hs : 0 ≤ s ∧ s < 20) (hn : 0 ≤ n ∧ n ≤ 3) : ∀ (f : Nat) (c : IH) (q : Int), c 63 e = n → 0 ≤ q → q ≤ n → n - q < f → wo (G_X4_addShape_57 N f c s e q) (fun c' => (∀ a b, ¬ (a = 64 ∧ e * 3 + q ≤ b ∧ b < e * 3 + n) → c' a b = c a b) ∧ ∀ j, q ≤ j → j < n → c' 64 (e * 3 + j) = c 24 (s * 3 + j)) := by
  intro f
  induction f with
  | zero => intro c q h1 h2 h3 h4; omega
  | succ f ih =>
    intro c q h1 h2 h3 h4
    unfold G_X4_addShape_57
    refine wo_q he ?_
    by_cases c1 : c 63 e ≤ q
    · refine wo_ifp c1 (wo_some ?_)
      grind
    · refine wo_ifn c1 ?_
      repeat (first | with_reducible refine wo_let ?_ | with_reducible refine wo_some ?_ | with_reducible refine wo_q ⟨by (first | omega | grind (ematch := 30) (splits := 30) (gen := 40) [xv_at]), by (first | omega | grind (ematch := 30) (splits := 30) (gen := 40) [xv_at])⟩ ?_ | with_reducible refine wo_ifp (by (first | omega | grind (ematch := 30) (splits := 30) (gen := 40) [xv_at])) ?_ | with_reducible refine wo_ifn (by (first | omega | grind (ematch := 30) (splits := 30) (gen := 40) [xv_at])) ?_)
      rw [wr_in (by omega) (by omega)]
      refine (ih _ (q + 1) (by grind [xv_at]) (by omega) (by omega) (by omega)).mono (fun c' hc => ?_)
      grind (ematch := 30) (splits := 30) (gen := 40) [xv_at]
theorem addShapeS {N : Nat} {c m : IH} {L s p : Int} (hN : 20000 ≤ N) (hS : SR c m) (hs : 0 ≤ s ∧ s < m 13 0) (hp : 0 ≤ p ∧ p < 24) (he : 0 ≤ c 57 5 ∧ c 57 5 < 624) : wo (G_X4_addShape N c s p) (fun c' => CE c c' p (p + m (157 + s) 1) (m (157 + s) 0) (m (157 + s) 2) (m (115 + s) 3) (m (115 + s) 4) (m (115 + s) 5) s) := by
  have hs2 := hS.2.2.2 s hs.1 hs.2
  have hb := hS.2
  unfold G_X4_addShape
  refine wo_q (by omega) (wo_q (by omega) ?_)
  rw [hs2.1.2.1, hs2.1.1, wr_in (by omega) (by omega)]
  refine wo_yb (addEdgeS he) (fun r a hr => ?_)
  obtain ⟨hr, hc⟩ := hr
  dsimp only at hr hc
  subst hr
  have hc2 := hc
  unfold CE FC at hc2
  obtain ⟨a1, ⟨a2, a3, a4⟩, a5, a6, a7, a8, a9, a10, a11, a12⟩ := hc2
  refine wo_let (wo_ifn (by omega) (wo_q he (wo_let (wo_q (by omega) (wo_q he (wo_let (wo_let ?_)))))))
  have e22 : xv a 65 (c 57 5) s 22 s = m (157 + s) 2 := by
    rw [xv_ne (by omega), a2 22 s (by omega) (by omega)]; exact hs2.1.2.2
  rw [e22]
  refine (addShape0 (N := N) (s := s) (e := c 57 5) (n := m (157 + s) 2) he (by omega) (by omega) N _ 0 (xv_eq rfl rfl) (by omega) (by omega) (by omega)).mono (fun c' hc' => ?_)
  obtain ⟨f1, f2⟩ := hc'
  have g : ∀ a' b, ¬ (a' = 64 ∧ c 57 5 * 3 ≤ b ∧ b < c 57 5 * 3 + m (157 + s) 2) → ¬ (a' = 65 ∧ b = c 57 5) → ¬ (a' = 63 ∧ b = c 57 5) → c' a' b = a a' b := by
    intro a' b q1 q2 q3
    rw [f1 a' b (by omega), xv_ne q3, xv_ne q2]
  have g24 : ∀ b, xv (xv a 65 (c 57 5) s) 63 (c 57 5) (m (157 + s) 2) 24 b = c 24 b := by
    intro b
    rw [xv_ne (by omega), xv_ne (by omega), a2 24 b (by omega) (by omega)]
  refine ⟨?_, ⟨fun a' b q1 q2 => ?_, fun a' b q1 q2 q3 => ?_, fun b q => ?_⟩, ?_, ?_, ?_, ?_, ?_, ?_, ?_, ?_⟩
  · rw [g 57 5 (by omega) (by omega) (by omega)]; exact a1
  · rw [g a' b (by omega) (by omega) (by omega)]; exact a2 a' b q1 q2
  · rw [g a' b (by omega) (by omega) (by omega)]; exact a3 a' b q1 q2 q3
  · rw [g 64 b (by omega) (by omega) (by omega)]; exact a4 b q
  · rw [g 60 _ (by omega) (by omega) (by omega)]; exact a5
  · rw [g 61 _ (by omega) (by omega) (by omega)]; exact a6
  · rw [g 62 _ (by omega) (by omega) (by omega)]; exact a7
  · rw [f1 63 _ (by omega), xv_eq rfl rfl]
  · rw [f1 65 _ (by omega), xv_ne (by omega), xv_eq rfl rfl]
  · intro q
    have := f2 0 (by omega) q
    rw [g24, (hs2.2.2.2.2.2 0 (by omega) q)] at this
    rw [Int.add_zero] at this
    exact this
  · intro q
    have := f2 1 (by omega) q
    rw [g24, (hs2.2.2.2.2.2 1 (by omega) q)] at this
    exact this
  · intro q
    have := f2 2 (by omega) q
    rw [g24, (hs2.2.2.2.2.2 2 (by omega) q)] at this
    exact this
/-- what the laying of a place needs, and what an edge laid leaves of it -/
def PR (c m : IH) (L : Int) : Prop := NP c m L ∧ SR c m ∧ KR c m
theorem PR.cm {c c' m m' : IH} {L i e k : Int} (h : PR c m L) (hc : FC c c' e) (hm : FM m m' i k) (hi : 0 ≤ i) (hk : 0 ≤ k) : PR c' m' L := by
  obtain ⟨h1, h2, h3⟩ := h
  have cA := hc.1
  have mA : ∀ a b, a ≠ 25 → a < 2423 → m' a b = m a b := fun a b q1 q2 => hm a b (by omega) (by omega)
  refine ⟨?_, ?_, ?_⟩
  · obtain ⟨a1, a2, a3, a4⟩ := h1
    refine ⟨a1, by rw [cA 57 4 (by omega) (by omega)]; exact a2, by rw [mA 0 33 (by omega) (by omega)]; exact a3, fun j j1 j2 => ?_⟩
    rw [mA _ _ (by omega) (by omega), cA 58 j (by omega) (by omega)]
    exact a4 j j1 j2
  · obtain ⟨a1, a2, a3, a4⟩ := h2
    unfold SR
    rw [mA 13 0 (by omega) (by omega), cA 19 0 (by omega) (by omega)]
    refine ⟨a1, a2, a3, fun s s1 s2 => ?_⟩
    have := a4 s s1 s2
    rw [mA (157 + s) 0 (by omega) (by omega), mA (157 + s) 1 (by omega) (by omega), mA (157 + s) 2 (by omega) (by omega), cA 20 s (by omega) (by omega), cA 21 s (by omega) (by omega), cA 22 s (by omega) (by omega)]
    refine ⟨this.1, this.2.1, this.2.2.1, this.2.2.2.1, fun q q1 q2 => ?_, fun q q1 q2 => ?_⟩
    · rw [mA _ _ (by omega) (by omega), cA 23 _ (by omega) (by omega)]
      exact this.2.2.2.2.1 q q1 q2
    · rw [mA _ _ (by omega) (by omega), cA 24 _ (by omega) (by omega)]
      exact this.2.2.2.2.2 q q1 q2
  · intro j j1 j2
    rw [mA _ _ (by omega) (by omega), cA 1 _ (by omega) (by omega)]
    exact h3 j j1 j2
/-- what a stretch of laying gives: k edges more at most -/
def LR (c c' m m' : IH) (L i e0 k d : Int) : Prop := ∃ k', k ≤ k' ∧ k' ≤ k + d ∧ EP c' m' L i e0 k' ∧ FC c c' (c 57 5) ∧ FM m m' i k
theorem LR.tr {c c1 c2 m m1 m2 : IH} {L i e0 k k1 d d1 : Int} (hc : FC c c1 (c 57 5)) (hm : FM m m1 i k) (he : c 57 5 = e0 + k) (h1 : EP c1 m1 L i e0 k1) (hk : k ≤ k1 ∧ k1 ≤ k + d) (h : LR c1 c2 m1 m2 L i e0 k1 d1) : LR c c2 m m2 L i e0 k (d + d1) := by
  obtain ⟨k', g1, g2, g3, g4, g5⟩ := h
  have := h1.1
  exact ⟨k', by omega, by omega, g3, hc.tr g4 (by omega), hm.tr g5 (by omega)⟩
theorem LR.le {c c1 m m1 : IH} {L i e0 k d d' : Int} (h : LR c c1 m m1 L i e0 k d) (hd : d ≤ d') : LR c c1 m m1 L i e0 k d' := by
  obtain ⟨k', g1, g2, g3⟩ := h
  exact ⟨k', g1, by omega, g3⟩
theorem shapes0 {N : Nat} {L i e0 : Int} (hN : 20000 ≤ N) (hi : 0 ≤ i ∧ i < L) (h0 : 0 ≤ e0 ∧ e0 ≤ i * 26) : ∀ (f : Nat) (c m : IH) (s k : Int), PR c m L → EP c m L i e0 k → 0 ≤ s → s ≤ m 13 0 → 0 ≤ k → k ≤ 26 → (isLt (m (2327 + i) 0) → k + (m 13 0 - s) ≤ 26) → m 13 0 - s < f → wo (G_X4_addShapes_2 N f c i s) (fun c' => ∃ m', G_X12_laysEdges_208 N f m i s = some m' ∧ LR c c' m m' L i e0 k (26 - k)) := by
  intro f
  induction f with
  | zero => intro c m s k h1 h2 h3 h4; omega
  | succ f ih =>
    intro c m s k h1 h2 h3 h4 h5 h6 h7 h8
    obtain ⟨hP, hS, hK⟩ := h1
    have hP1 := hP.1
    unfold G_X4_addShapes_2 G_X12_laysEdges_208 G_X4_addShapes_28 G_X12_laysEdges_295
    have hb := hS.2
    by_cases c1 : m 13 0 ≤ s
    · rw [hS.1, if_pos c1, if_pos c1]
      exact wo_some ⟨m, rfl, k, by omega, by omega, h2, FC.rf, FM.rf⟩
    · rw [hS.1, if_neg c1, if_neg c1]
      obtain ⟨r, e1, e2, e3⟩ := standsS hN hP hS ⟨h3, by omega⟩ hi
      rw [e1, e2, yb_s, yb_s]
      rcases e3 with e3 | ⟨e3, e4, e5⟩
      · rw [e3, if_pos rfl, if_pos rfl]
        simp only [xlet]
        rw [wr_in (by omega) (by omega)]
        exact ih c m (s + 1) k ⟨hP, hS, hK⟩ h2 (by omega) (by omega) h5 h6 (fun q => by have := h7 q; omega) (by omega)
      · have h7' := h7 e4
        have hm25 : m 25 i = k := h2.2.1
        have hc57 : c 57 5 = e0 + k := h2.1
        rw [e3, if_neg (by omega), if_neg (by omega)]
        refine wo_ybv (addShapeS (L := L) hN hS ⟨h3, by omega⟩ (by omega) (by omega)) (fun c1 hc1 => ?_)
        (try simp (disch := omega) only [xlet_q, xq_in])
        have hs2 := hS.2.2.2 s h3 (by omega)
        rw [show (0 : Int) * 20 + s = s by omega, wr_in (show -2147483648 ≤ i + m (157 + s) 1 by omega) (by omega)]
        obtain ⟨m1, g1, g2⟩ := edgeM (N := N) (m := m) (i := i) (b := i + m (157 + s) 1) (v := m (157 + s) 0) (n := m (157 + s) 2) (y0 := m (115 + s) 3) (y1 := m (115 + s) 4) (y2 := m (115 + s) 5) (z := s) (by omega) (by omega)
        rw [g1, ybv_s, wr_in (by omega) (by omega)]
        have hst := h2.step hc1 g2 h0.1 h5 hi.1 (by omega) (by omega) (by omega)
        have hfm := g2.fm (by omega)
        have hPR := PR.cm ⟨hP, hS, hK⟩ hc1.2.1 hfm hi.1 (by omega)
        have m13 : m1 13 0 = m 13 0 := hfm 13 0 (by omega) (by omega)
        have m23 : m1 (2327 + i) 0 = m (2327 + i) 0 := hfm _ 0 (by omega) (by omega)
        refine (ih c1 m1 (s + 1) (k + 1) hPR hst (by omega) (by omega) (by omega) (by omega) (fun q => by omega) (by omega)).mono (fun c2 hc2 => ?_)
        obtain ⟨m2, k1, k2⟩ := hc2
        refine ⟨m2, k1, ?_⟩
        have := LR.tr (d := 1) hc1.2.1 (hm25 ▸ hfm) hc57 hst (by omega) k2
        exact this.le (by omega)
