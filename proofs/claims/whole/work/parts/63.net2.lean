/-- the others of a cell: the class's cell j, the reference's place i -/
def OT (c m : IH) (j i : Int) : Prop := (0 ≤ j ∧ j < 400) ∧ c 37 j = m (2327 + i) 1 ∧ 0 ≤ m (2327 + i) 1 ∧ m (2327 + i) 1 ≤ 3 ∧ ∀ q, 0 ≤ q → q < m (2327 + i) 1 → c 38 (j * 3 + q) = m (2327 + i) (2 + 2 * q) ∧ c 39 (j * 3 + q) = m (2327 + i) (3 + 2 * q) ∧ 0 ≤ m (2327 + i) (3 + 2 * q) ∧ m (2327 + i) (3 + 2 * q) ≤ 99
theorem OT.cm {c c' m m' : IH} {j i i' e k : Int} (h : OT c m j i) (hc : FC c c' e) (hm : FM m m' i' k) (hi : 0 ≤ i ∧ i < 48) (hi' : 0 ≤ i') (hk : 0 ≤ k) : OT c' m' j i := by
  have cA := hc.1
  have mA : ∀ b, m' (2327 + i) b = m (2327 + i) b := fun b => hm _ b (by omega) (by omega)
  unfold OT at *
  simp only [mA]
  rw [cA 37 j (by omega) (by omega)]
  refine ⟨h.1, h.2.1, h.2.2.1, h.2.2.2.1, fun q q1 q2 => ?_⟩
  rw [cA 38 _ (by omega) (by omega), cA 39 _ (by omega) (by omega)]
  exact h.2.2.2.2 q q1 q2
section
variable {N : Nat} {L i e0 : Int}
/-- one edge of one sign, on both sides -/
theorem signS {c m : IH} {k s v : Int} (hi : 0 ≤ i ∧ i < L) (h0 : 0 ≤ e0 ∧ e0 ≤ i * 26) (h : PR c m L) (hE : EP c m L i e0 k) (hk : 0 ≤ k ∧ k < 26) (hv : 0 ≤ v ∧ v ≤ 99) : wo (G_X4_addSign N c i s v) (fun c' => ∃ m', G_X12_edge N m i (i + 1) v 1 s 0 0 (-1) = some m' ∧ EP c' m' L i e0 (k + 1) ∧ FC c c' (c 57 5) ∧ FM m m' i k ∧ PR c' m' L) := by
  have hL := h.1.1
  have h1 := hE.1
  have h2 : m 25 i = k := hE.2.1
  refine (addSignS (by omega) (by omega)).mono (fun c' hc => ?_)
  obtain ⟨m', g1, g2⟩ := edgeM (N := N) (m := m) (i := i) (b := i + 1) (v := v) (n := 1) (y0 := s) (y1 := 0) (y2 := 0) (z := -1) (by omega) (by omega)
  have hf := g2.fm (by omega)
  rw [h2] at hf
  exact ⟨m', g1, hE.step hc g2 h0.1 hk.1 hi.1 (by omega) hv (by omega), hc.2.1, hf, h.cm hc.2.1 hf hi.1 hk.1⟩
/-- one edge without a sign -/
theorem voidS {c m : IH} {k v : Int} (hi : 0 ≤ i ∧ i < L) (h0 : 0 ≤ e0 ∧ e0 ≤ i * 26) (h : PR c m L) (hE : EP c m L i e0 k) (hk : 0 ≤ k ∧ k < 26) (hv : 0 ≤ v ∧ v ≤ 99) : wo (G_X4_addEdge N c i (i + 1) v) (fun q => ∃ m', G_X12_edge N m i (i + 1) v 0 0 0 0 (-1) = some m' ∧ EP q.2 m' L i e0 (k + 1) ∧ FC c q.2 (c 57 5) ∧ FM m m' i k ∧ PR q.2 m' L) := by
  have hL := h.1.1
  have h1 := hE.1
  have h2 : m 25 i = k := hE.2.1
  refine (addEdgeS (by omega)).mono (fun q hq => ?_)
  obtain ⟨-, hc⟩ := hq
  obtain ⟨m', g1, g2⟩ := edgeM (N := N) (m := m) (i := i) (b := i + 1) (v := v) (n := 0) (y0 := 0) (y1 := 0) (y2 := 0) (z := -1) (by omega) (by omega)
  have hf := g2.fm (by omega)
  rw [h2] at hf
  exact ⟨m', g1, hE.step hc g2 h0.1 hk.1 hi.1 (by omega) hv (by omega), hc.2.1, hf, h.cm hc.2.1 hf hi.1 hk.1⟩
theorem ref122 {m : IH} (hx : m (2327 + i) 0 ≠ 45) (hy : m (2327 + i) 0 ≠ 10) : G_X12_laysEdges_122 N m i (2327 + i) = G_X12_laysEdges_206 N m i := by
  unfold G_X12_laysEdges_122 G_X12_laysEdges_164
  rw [if_neg hx, if_neg hy]
theorem ref83 {m : IH} (hN : 20000 ≤ N) (hx : m (2327 + i) 0 ≠ 63) : G_X12_laysEdges_83 N N m i (2327 + i) 97 = G_X12_laysEdges_122 N m i (2327 + i) := by
  obtain ⟨N', hN'⟩ : ∃ N', N = N' + 1 := ⟨N - 1, by omega⟩
  have : ∀ K : Nat, G_X12_laysEdges_83 K (N' + 1) m i (2327 + i) 97 = G_X12_laysEdges_122 K m i (2327 + i) := by
    intro K
    unfold G_X12_laysEdges_83
    rw [if_neg (by omega), if_neg hx]
  have := this N
  rw [← hN'] at this
  exact this
theorem ref39 {m : IH} (hN : 20000 ≤ N) (hx : m (2327 + i) 1 = 0) : G_X12_laysEdges_39 N m i (2327 + i) = G_X12_laysEdges_83 N N m i (2327 + i) 97 := by
  obtain ⟨N', hN'⟩ : ∃ N', N = N' + 1 := ⟨N - 1, by omega⟩
  have : ∀ K : Nat, G_X12_laysEdges_41 K (N' + 1) m i (2327 + i) 0 = G_X12_laysEdges_83 K K m i (2327 + i) 97 := by
    intro K
    unfold G_X12_laysEdges_41
    rw [if_pos (by omega)]
    rfl
  have := this N
  rw [← hN'] at this
  exact this
/-- the others of a letter -/
theorem others0 {j : Int} (hN : 20000 ≤ N) (hi : 0 ≤ i ∧ i < L) (h0 : 0 ≤ e0 ∧ e0 ≤ i * 26) : ∀ (f : Nat) (c m : IH) (v : Int), PR c m L → OT c m j i → isLt (m (2327 + i) 0) → EP c m L i e0 (1 + v) → 0 ≤ v → v ≤ m (2327 + i) 1 → m (2327 + i) 1 - v < f → wo (G_X4_addOthers_2 N f c i j v) (fun c' => ∃ m', G_X12_laysEdges_41 N f m i (2327 + i) v = G_X12_laysEdges_206 N m' i ∧ PR c' m' L ∧ isLt (m' (2327 + i) 0) ∧ EP c' m' L i e0 (1 + m (2327 + i) 1) ∧ FC c c' (c 57 5) ∧ FM m m' i (1 + v)) := by
  intro f
  induction f with
  | zero => intro c m v h1 h2 h3 h4 h5 h6 h7; omega
  | succ f ih =>
    intro c m v h1 h2 h3 h4 h5 h6 h7
    have hL := h1.1.1
    unfold G_X4_addOthers_2 G_X12_laysEdges_41
    have hj := h2.1
    have ho := h2.2
    refine wo_q hj ?_
    by_cases c1 : m (2327 + i) 1 ≤ v
    · rw [ho.1, if_pos c1, if_pos c1]
      unfold isLt at h3
      rw [xlet_q, ref83 hN (by omega), ref122 (by omega) (by omega)]
      exact wo_some ⟨m, rfl, h1, h3, by rw [show m (2327 + i) 1 = v by omega]; exact h4, FC.rf, FM.rf⟩
    · have hq := ho.2.2.2 v h5 (by omega)
      rw [ho.1, if_neg c1, if_neg c1]
      (try simp (disch := omega) only [xlet_q, xq_in])
      rw [wr_in (by omega) (by omega)]
      (try simp (disch := omega) only [xlet_q, xq_in])
      rw [hq.1, hq.2.1, wr_in (show -2147483648 ≤ i + 1 by omega) (by omega), wr_in (show -2147483648 ≤ v + 1 by omega) (by omega)]
      refine wo_ybv (signS hi h0 h1 h4 (by omega) hq.2.2) (fun c1 hc1 => ?_)
      obtain ⟨m1, g1, g2, g3, g4, g5⟩ := hc1
      rw [g1, ybv_s]
      have mA : ∀ b, m1 (2327 + i) b = m (2327 + i) b := fun b => g4 _ b (by omega) (by omega)
      have := ih c1 m1 (v + 1) g5 (h2.cm g3 g4 (by omega) hi.1 (by omega)) (by rw [mA]; exact h3) (by rw [← Int.add_assoc]; exact g2) (by omega) (by rw [mA]; omega) (by rw [mA]; omega)
      refine this.mono (fun c2 hc2 => ?_)
      obtain ⟨m2, k1, k2, k3, k4, k5, k6⟩ := hc2
      rw [mA] at k4
      have hc57 := h4.1
      have hc57' := g2.1
      exact ⟨m2, k1, k2, k3, k4, g3.tr k5 (by omega), g4.tr k6 (by omega)⟩
/-- a blot -/
theorem blots0 (hN : 20000 ≤ N) (hi : 0 ≤ i ∧ i < L) (h0 : 0 ≤ e0 ∧ e0 ≤ i * 26) : ∀ (f : Nat) (c m : IH) (v : Int), PR c m L → m (2327 + i) 0 = 63 → EP c m L i e0 v → 0 ≤ v → v ≤ 26 → 26 - v < f → wo (G_X4_addRead_15 N f c i 63 v) (fun c' => ∃ m', G_X12_laysEdges_83 N f m i (2327 + i) (97 + v) = G_X12_laysEdges_206 N m' i ∧ PR c' m' L ∧ m' (2327 + i) 0 = 63 ∧ EP c' m' L i e0 26 ∧ FC c c' (c 57 5) ∧ FM m m' i v) := by
  intro f
  induction f with
  | zero => intro c m v h1 h2 h3 h4 h5 h6; omega
  | succ f ih =>
    intro c m v h1 h2 h3 h4 h5 h6
    have hL := h1.1.1
    unfold G_X4_addRead_15 G_X12_laysEdges_83
    by_cases c1 : 26 ≤ v
    · rw [if_pos c1, if_pos (by omega), ref122 (by omega) (by omega)]
      unfold G_X4_addRead_84
      rw [if_neg (by omega)]
      exact wo_some ⟨m, rfl, h1, h2, by rw [show (26 : Int) = v by omega]; exact h3, FC.rf, FM.rf⟩
    · have hK := h1.2.2 2 (by omega) (by omega)
      rw [if_neg c1, if_neg (by omega), if_pos h2, wr_in (show -2147483648 ≤ 97 + v by omega) (by omega), wr_in (show -2147483648 ≤ i + 1 by omega) (by omega), hK.1]
      refine wo_ybv (signS hi h0 h1 h3 (by omega) ⟨hK.2.1, hK.2.2.2 (by omega)⟩) (fun c1 hc1 => ?_)
      obtain ⟨m1, g1, g2, g3, g4, g5⟩ := hc1
      rw [g1, ybv_s]
      (try simp (disch := omega) only [xlet_q, xq_in])
      rw [wr_in (show -2147483648 ≤ v + 1 by omega) (by omega), wr_in (show -2147483648 ≤ 97 + v + 1 by omega) (by omega), Int.add_assoc]
      have mA : ∀ b, m1 (2327 + i) b = m (2327 + i) b := fun b => g4 _ b (by omega) (by omega)
      have := ih c1 m1 (v + 1) g5 (by rw [mA]; exact h2) g2 (by omega) (by omega) (by omega)
      refine this.mono (fun c2 hc2 => ?_)
      obtain ⟨m2, k1, k2, k3, k4, k5, k6⟩ := hc2
      have hc57 := h3.1
      have hc57' := g2.1
      exact ⟨m2, k1, k2, k3, k4, g3.tr k5 (by omega), g4.tr k6 (by omega)⟩
/-- the reference begins a place anew -/
theorem begin0 {c m : IH} (h : PR c m L) (hi : 0 ≤ i ∧ i < L) (he : c 57 5 = e0) : PR c (xv m 25 i 0) L ∧ EP c (xv m 25 i 0) L i e0 0 ∧ FM m (xv m 25 i 0) i 0 := by
  have f : FM m (xv m 25 i 0) i 0 := fun a b q1 q2 => xv_ne q1
  refine ⟨h.cm FC.rf f hi.1 (by omega) (e := 0), ⟨by omega, xv_eq rfl rfl, fun e e1 e2 => by omega⟩, f⟩
/-- a place of the class -/
def plc (N : Nat) (ot : IH → Option IH) (c : IH) (i : Int) : Option IH := ybv (G_X4_addRead N c i) (fun c1 => ybv (ot c1) (fun c2 => G_X4_addShapes N c2 i))
/-- what a place needs of its others: none of a word read surely, or a cell's -/
def OTx (N : Nat) (ot : IH → Option IH) (c m : IH) (i : Int) : Prop := ((∀ x, ot x = some x) ∧ m (2327 + i) 1 = 0) ∨ (∃ j, (∀ x, ot x = G_X4_addOthers N x i j) ∧ OT c m j i ∧ (isLt (m (2327 + i) 0) ∨ m (2327 + i) 1 = 0))
theorem noOthers {ot : IH → Option IH} {c c' m : IH} {e : Int} (hN : 20000 ≤ N) (h : OTx N ot c m i) (hl : ¬ isLt (m (2327 + i) 0)) (hc : FC c c' e) : ot c' = some c' ∧ m (2327 + i) 1 = 0 := by
  rcases h with ⟨h1, h2⟩ | ⟨j, h1, h2, h3⟩
  · exact ⟨h1 c', h2⟩
  · have h4 : m (2327 + i) 1 = 0 := by
      rcases h3 with h3 | h3
      · exact absurd h3 hl
      · exact h3
    refine ⟨?_, h4⟩
    obtain ⟨N', hN'⟩ : ∃ N', N = N' + 1 := ⟨N - 1, by omega⟩
    have : ∀ K : Nat, G_X4_addOthers_2 K (N' + 1) c' i j 0 = some c' := by
      intro K
      unfold G_X4_addOthers_2
      have hj := h2.1
      have e37 : c' 37 j = 0 := by rw [hc.1 37 j (by omega) (by omega), h2.2.1, h4]
      (try simp (disch := omega) only [xlet_q, xq_in])
      rw [if_pos (by omega)]
    have := this N
    rw [← hN'] at this
    rw [h1]
    exact this
theorem shapesS {c m : IH} {k : Int} (hN : 20000 ≤ N) (hi : 0 ≤ i ∧ i < L) (h0 : 0 ≤ e0 ∧ e0 ≤ i * 26) (h : PR c m L) (hE : EP c m L i e0 k) (hk : 0 ≤ k ∧ k ≤ 26) (hl : isLt (m (2327 + i) 0) → k ≤ 6) : wo (G_X4_addShapes N c i) (fun c' => ∃ m', G_X12_laysEdges_206 N m i = some m' ∧ LR c c' m m' L i e0 k (26 - k)) := by
  have hb := h.2.1.2
  exact shapes0 hN hi h0 N c m 0 k h hE (by omega) (by omega) hk.1 hk.2 (fun q => by have := hl q; omega) (by omega)
theorem placeS {ot : IH → Option IH} {c m : IH} (hN : 20000 ≤ N) (hi : 0 ≤ i ∧ i < L) (h0 : 0 ≤ e0 ∧ e0 ≤ i * 26) (h : PR c m L) (he : c 57 5 = e0) (ho : OTx N ot c m i) : wo (plc N ot c i) (fun c' => (∃ m', G_X12_laysEdges N m i = some m' ∧ LR c c' m m' L i e0 0 26) ∧ e0 < c' 57 5) := by
  have hL := h.1.1
  obtain ⟨b1, b2, b3⟩ := begin0 h hi he
  have hr := h.1.2.2.2 i hi.1 hi.2
  have mA : ∀ b, xv m 25 i 0 (2327 + i) b = m (2327 + i) b := fun b => xv_ne (by omega)
  unfold plc G_X4_addRead G_X12_laysEdges
  (try simp (disch := omega) only [xlet_q, xq_in])
  rw [gletM, yb_s, mA, hr.1, wr_in (show -2147483648 ≤ i + 1 by omega) (by omega)]
  by_cases hl : isLt (m (2327 + i) 0)
  · have hl' := hl
    unfold isLt at hl'
    rw [isl_1 hl', if_neg (show ¬ m (2327 + i) 0 = 63 by omega), if_neg (show ¬ m (2327 + i) 0 = 10 by omega), if_neg (show ¬ (1 : Int) = 0 by omega)]
    refine wo_ybv (P := fun c1 => ∃ m1, G_X12_edge N (xv m 25 i 0) i (i + 1) 0 1 (m (2327 + i) 0) 0 0 (-1) = some m1 ∧ EP c1 m1 L i e0 1 ∧ FC c c1 (c 57 5) ∧ FM (xv m 25 i 0) m1 i 0 ∧ PR c1 m1 L) ?_ (fun c1 hc1 => ?_)
    · refine wo_ybv (signS (m := xv m 25 i 0) (k := 0) hi h0 b1 b2 (by omega) (by omega)) (fun c1 hc1 => ?_)
      unfold G_X4_addRead_84
      rw [if_neg (by omega)]
      exact wo_some hc1
    · obtain ⟨m1, g1, g2, g3, g4, g5⟩ := hc1
      rw [g1, ybv_s]
      have mB : ∀ b, m1 (2327 + i) b = m (2327 + i) b := fun b => by rw [g4 _ b (by omega) (by omega)]; exact mA b
      have hF : FM m m1 i 0 := b3.tr g4 (by omega)
      refine wo_ybv (P := fun c2 => ∃ m2 k2, G_X12_laysEdges_39 N m1 i (2327 + i) = G_X12_laysEdges_206 N m2 i ∧ PR c2 m2 L ∧ EP c2 m2 L i e0 k2 ∧ 1 ≤ k2 ∧ k2 ≤ 4 ∧ FC c c2 (c 57 5) ∧ FM m m2 i 0) ?_ (fun c2 hc2 => ?_)
      · rcases ho with ⟨o1, o2⟩ | ⟨j, o1, o2, o3⟩
        · rw [o1, ref39 hN (by rw [mB]; exact o2), ref83 hN (by rw [mB]; omega), ref122 (by rw [mB]; omega) (by rw [mB]; omega)]
          exact wo_some ⟨m1, 1, rfl, g5, g2, by omega, by omega, g3, hF⟩
        · rw [o1]
          have o2' := o2.cm g3 hF (by omega) hi.1 (by omega)
          have o3' := o2'.2.2
          refine (others0 hN hi h0 N c1 m1 0 g5 o2' (by rw [mB]; exact hl) (by rw [Int.add_zero]; exact g2) (by omega) (by omega) (by omega)).mono (fun c2 hc2 => ?_)
          obtain ⟨m2, k1, k2, k3, k4, k5, k6⟩ := hc2
          have q1 := g2.1
          exact ⟨m2, _, k1, k2, k4, by omega, by omega, g3.tr k5 (by omega), hF.tr k6 (by omega)⟩
      · obtain ⟨m2, k2, k1, q1, q2, q3, q4, q5, q6⟩ := hc2
        rw [k1]
        refine (shapesS hN hi h0 q1 q2 (by omega) (fun _ => by omega)).mono (fun c3 hc3 => ?_)
        obtain ⟨m3, p1, k', p2, p3, p4, p5, p6⟩ := hc3
        have q7 := q2.1
        exact ⟨⟨m3, p1, k', by omega, by omega, p4, q5.tr p5 (by omega), q6.tr p6 (by omega)⟩, by have := p4.1; omega⟩
  · have hl' := hl
    unfold isLt at hl'
    rw [isl_0 hl', if_pos (show (0 : Int) = 0 from rfl)]
    have hK3 := h.2.2 3 (by omega) (by omega)
    have hK4 := h.2.2 4 (by omega) (by omega)
    refine wo_ybv (P := fun c1 => ∃ m1 k1, G_X12_laysEdges_39 N (xv m 25 i 0) i (2327 + i) = G_X12_laysEdges_206 N m1 i ∧ PR c1 m1 L ∧ EP c1 m1 L i e0 k1 ∧ 1 ≤ k1 ∧ k1 ≤ 26 ∧ FC c c1 (c 57 5) ∧ FM m m1 i 0) ?_ (fun c1 hc1 => ?_)
    · have hx1 := (noOthers hN ho hl (FC.rf (e := 0))).2
      rw [ref39 hN (by rw [mA]; exact hx1)]
      rcases hr.2 with q | q | q | q
      · exact absurd q hl
      · rw [q, if_pos rfl]
        refine (blots0 hN hi h0 N c _ 0 b1 (by rw [mA]; exact q) b2 (by omega) (by omega) (by omega)).mono (fun c1 hc1 => ?_)
        obtain ⟨m2, k1, k2, k3, k4, k5, k6⟩ := hc1
        rw [Int.add_zero] at k1
        exact ⟨m2, 26, k1, k2, k4, by omega, by omega, k5, b3.tr k6 (by omega)⟩
      · rw [q, if_neg (show ¬ (45 : Int) = 63 by omega), if_neg (show ¬ (45 : Int) = 10 by omega), ref83 hN (by rw [mA]; omega)]
        refine wo_ybv (signS (m := xv m 25 i 0) (k := 0) hi h0 b1 b2 (by omega) (by omega)) (fun c1 hc1 => ?_)
        obtain ⟨m1, g1, g2, g3, g4, g5⟩ := hc1
        unfold G_X4_addRead_84 G_X12_laysEdges_122
        rw [if_pos rfl, mA, if_pos q, wr_in (show -2147483648 ≤ i + 1 by omega) (by omega), g1, ybv_s]
        have hK3' := g5.2.2 3 (by omega) (by omega)
        rw [hK3'.1]
        refine wo_yb (voidS hi h0 g5 g2 (by omega) ⟨hK3'.2.1, hK3'.2.2.2 (by omega)⟩) (fun r c2 hc2 => ?_)
        obtain ⟨m2, g1', g2', g3', g4', g5'⟩ := hc2
        dsimp only at g2' g3' g5'
        rw [g1', ybv_s]
        unfold G_X12_laysEdges_164
        rw [if_neg (by rw [g4' _ _ (by omega) (by omega), g4 _ _ (by omega) (by omega), mA]; omega)]
        have q7 := g2.1
        exact wo_some ⟨m2, 0 + 1 + 1, rfl, g5', g2', by omega, by omega, g3.tr g3' (by omega), (b3.tr g4 (by omega)).tr g4' (by omega)⟩
      · rw [q, if_neg (show ¬ (10 : Int) = 63 by omega), if_pos rfl, ref83 hN (by rw [mA]; omega)]
        refine wo_yb (voidS (m := xv m 25 i 0) (k := 0) hi h0 b1 b2 (by omega) (by omega)) (fun r c1 hc1 => ?_)
        obtain ⟨m1, g1, g2, g3, g4, g5⟩ := hc1
        dsimp only at g2 g3 g5
        have hK4' := g5.2.2 4 (by omega) (by omega)
        unfold G_X12_laysEdges_122 G_X12_laysEdges_164
        rw [mA, if_neg (by omega), if_pos q, wr_in (show -2147483648 ≤ i + 1 by omega) (by omega), g1, ybv_s, hK4'.1]
        refine wo_ybv (signS hi h0 g5 g2 (by omega) ⟨hK4'.2.1, hK4'.2.2.2 (by omega)⟩) (fun c2 hc2 => ?_)
        obtain ⟨m2, g1', g2', g3', g4', g5'⟩ := hc2
        unfold G_X4_addRead_84
        rw [if_neg (by omega), g1', ybv_s]
        have q7 := g2.1
        exact wo_some ⟨m2, 0 + 1 + 1, rfl, g5', g2', by omega, by omega, g3.tr g3' (by omega), (b3.tr g4 (by omega)).tr g4' (by omega)⟩
    · obtain ⟨m1, k1, q1, q2, q3, q4, q5, q6, q7⟩ := hc1
      have mB : m1 (2327 + i) 0 = m (2327 + i) 0 := q7 _ 0 (by omega) (by omega)
      rw [(noOthers hN ho hl q6).1, ybv_s, q1]
      refine (shapesS hN hi h0 q2 q3 (by omega) (fun z => absurd (mB ▸ z) hl)).mono (fun c3 hc3 => ?_)
      obtain ⟨m3, p1, k', p2, p3, p4, p5, p6⟩ := hc3
      have q9 := q3.1
      exact ⟨⟨m3, p1, k', by omega, by omega, p4, q6.tr p5 (by omega), q7.tr p6 (by omega)⟩, by have := p4.1; omega⟩
end
