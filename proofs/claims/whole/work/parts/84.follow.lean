theorem NetR.mv {c m m' : IH} {L : Int} (h : NetR c m L) (h0 : m' 0 33 = m 0 33) (h25 : ∀ b, m' 25 b = m 25 b) (h26 : ∀ b, m' 26 b = m 26 b) (hf : ∀ a b, 2423 ≤ a → a < 5303 → m' a b = m a b) : NetR c m' L := by
  obtain ⟨n1, n2, n3, n4, n5⟩ := h
  refine ⟨n1, by rw [h0]; exact n2, fun i i1 i2 => ?_, ?_, fun i i1 i2 => ?_⟩
  · have := n3 i i1 i2
    exact ⟨this.1, this.2.mv (h25 i) (fun a b q1 q2 => hf _ _ (by omega) (by omega))⟩
  · unfold RS at *
    simp only [h26]
    exact n4
  · have a := n3 i i1 i2
    have b := a.2.1
    intro e e1 e2
    rw [h25] at e2
    rw [h26, h26, hf _ _ (by omega) (by omega), hf _ _ (by omega) (by omega)]
    exact n5 i i1 i2 e e1 e2
theorem LXC.mv {c m m' : IH} (h : LXC c m) (h10 : m' 0 10 = m 0 10) (h15 : m' 0 15 = m 0 15) (hf : ∀ a b, 5 ≤ a → a ≤ 12 → m' a b = m a b) (hs : ∀ a b, 52 ≤ a → a < 52 + m 0 10 → m' a b = m a b) : LXC c m' := by
  have m5 : ∀ b, m' 5 b = m 5 b := fun b => hf _ _ (by omega) (by omega)
  have m6 : ∀ b, m' 6 b = m 6 b := fun b => hf _ _ (by omega) (by omega)
  have m7 : ∀ b, m' 7 b = m 7 b := fun b => hf _ _ (by omega) (by omega)
  have m8 : ∀ b, m' 8 b = m 8 b := fun b => hf _ _ (by omega) (by omega)
  have m9 : ∀ b, m' 9 b = m 9 b := fun b => hf _ _ (by omega) (by omega)
  have mt : ∀ b, m' 10 b = m 10 b := fun b => hf _ _ (by omega) (by omega)
  have me : ∀ b, m' 11 b = m 11 b := fun b => hf _ _ (by omega) (by omega)
  have mw : ∀ b, m' 12 b = m 12 b := fun b => hf _ _ (by omega) (by omega)
  unfold LXC TrC at *
  simp only [h15, h10, m5, m6, m7, m8, m9, mt, me, mw]
  obtain ⟨a1, a2, a3, a4⟩ := h
  refine ⟨a1, a2, fun w w1 w2 => ?_, a4⟩
  obtain ⟨b1, b2, b3, b4⟩ := a3 w w1 w2
  refine ⟨b1, b2, b3, fun k k1 k2 => ?_⟩
  rw [hs (52 + w) k (by omega) (by omega)]
  exact b4 k k1 k2
theorem LXM.mv {m m' : IH} (h : LXM m) (h10 : m' 0 10 = m 0 10) (h15 : m' 0 15 = m 0 15) (hf : ∀ a b, 5 ≤ a → a ≤ 12 → m' a b = m a b) : LXM m' := by
  have m5 : ∀ b, m' 5 b = m 5 b := fun b => hf _ _ (by omega) (by omega)
  have m6 : ∀ b, m' 6 b = m 6 b := fun b => hf _ _ (by omega) (by omega)
  have m7 : ∀ b, m' 7 b = m 7 b := fun b => hf _ _ (by omega) (by omega)
  have m8 : ∀ b, m' 8 b = m 8 b := fun b => hf _ _ (by omega) (by omega)
  have m9 : ∀ b, m' 9 b = m 9 b := fun b => hf _ _ (by omega) (by omega)
  have mt : ∀ b, m' 10 b = m 10 b := fun b => hf _ _ (by omega) (by omega)
  have me : ∀ b, m' 11 b = m 11 b := fun b => hf _ _ (by omega) (by omega)
  unfold LXM TrM at *
  simp only [h15, h10, m5, m6, m7, m8, m9, mt, me]
  exact h
theorem DPT.mv {m m' : IH} {L w : Int} {D D' : Int → Int → Int} (h : DPT m L w D) (hM : NM m L) (h5 : m' 5 w = m 5 w) (h25 : ∀ b, m' 25 b = m 25 b) (hf : ∀ a b, 2423 ≤ a → a < 5303 → m' a b = m a b) (hs : ∀ b, m' (52 + w) b = m (52 + w) b) (hD : ∀ i k, 0 ≤ i → i ≤ L → 0 ≤ k → k ≤ m 5 w → D' i k = D i k) : DPT m' L w D' := by
  have hL := hM.1
  have fit : ∀ y k, 2423 ≤ y → y < 5303 → (FIT m' y w k ↔ FIT m y w k) := by
    intro y k a b
    unfold FIT
    rw [hf y 2 a b, h5]
    simp only [hf y _ a b, hs]
  refine ⟨fun k k1 k2 => ?_, fun i k i1 i2 k1 k2 => ?_⟩
  · rw [h5] at k2 ⊢
    rw [hD L k (by omega) (by omega) k1 k2]
    exact h.1 k k1 k2
  · rw [h5] at k2
    obtain ⟨a1, a2, a3⟩ := h.2 i k i1 i2 k1 k2
    rw [hD i k i1 (by omega) k1 k2, h25]
    have nb := (hM.2.2.1 i i1 i2).2.1
    refine ⟨a1, fun e e1 e2 e3 => ?_, ?_⟩
    · have ne := (hM.2.2.1 i i1 i2).2.2 e e1 e2
      have e3' := (fit _ _ (by omega) (by omega)).mp e3
      have e31 := e3'.1
      rw [hf _ 0 (by omega) (by omega), hf _ 1 (by omega) (by omega), hf _ 2 (by omega) (by omega), hD _ _ (by omega) (by omega) (by omega) e31]
      exact a2 e e1 e2 e3'
    · rcases a3 with r | ⟨e, e1, e2, e3, e4⟩
      · exact Or.inl r
      · right
        have ne := (hM.2.2.1 i i1 i2).2.2 e e1 e2
        refine ⟨e, e1, e2, (fit _ _ (by omega) (by omega)).mpr e3, ?_⟩
        rw [hf _ 0 (by omega) (by omega), hf _ 1 (by omega) (by omega), hf _ 2 (by omega) (by omega), hD _ _ (by omega) (by omega) (by omega) e3.1]
        exact e4
theorem leastEx {Q : Int → Prop} : ∀ (f : Nat) (e : Int), 0 ≤ e → e < f → Q e → ∃ e0, 0 ≤ e0 ∧ e0 ≤ e ∧ Q e0 ∧ ∀ e', 0 ≤ e' → e' < e0 → ¬ Q e' := by
  intro f
  induction f with
  | zero => intro e h1 h2; omega
  | succ f ih =>
    intro e h1 h2 h3
    by_cases c : ∃ e', 0 ≤ e' ∧ e' < e ∧ Q e'
    · obtain ⟨e', a, b, d⟩ := c
      obtain ⟨e0, g1, g2, g3, g4⟩ := ih e' a (by omega) d
      exact ⟨e0, g1, by omega, g3, g4⟩
    · exact ⟨e, h1, Int.le_refl _, h3, fun e' a b d => c ⟨e', a, b, d⟩⟩
/-- the way so far, on both sides -/
def WR (c m : IH) (L : Int) : Prop := c 88 2 = m 0 53 ∧ 0 ≤ m 0 53 ∧ m 0 53 ≤ 24 ∧ ∀ t, 0 ≤ t → t < m 0 53 → (0 ≤ m 36 t ∧ m 36 t < L) ∧ (0 ≤ m 37 t ∧ m 37 t < m 25 (m 36 t)) ∧ c 89 t = c 59 (m 36 t) + m 37 t
/-- an edge that is on a best way -/
def GD (m : IH) (w i k e : Int) : Prop := FIT m (2423 + (i * 60 + e)) w k ∧ m (2423 + (i * 60 + e)) 1 + m (5303 + m (2423 + (i * 60 + e)) 0) (k + m (2423 + (i * 60 + e)) 2) = m (5303 + i) k
section
variable {N : Nat} {L w : Int}
theorem bestC0 {c m : IH} {i k e0 : Int} (hN : 20000 ≤ N) (hR : NetR c m L) (hX : LXC c m) (hw : 0 ≤ w ∧ w < m 0 10 ∧ m 0 10 ≤ 60) (h5 : 1 ≤ m 5 w ∧ m 5 w ≤ 12) (hi : 0 ≤ i ∧ i < L) (hk : 0 ≤ k ∧ k ≤ m 5 w) (hT : ∀ j q, 0 ≤ j → j ≤ L → 0 ≤ q → q ≤ m 5 w → c 90 (j * 13 + q) = m (5303 + j) q ∧ 0 ≤ m (5303 + j) q ∧ m (5303 + j) q ≤ 1000000) (hd : m (5303 + i) k < 1000000) (he0 : 0 ≤ e0 ∧ e0 < m 25 i) (hg : GD m w i k e0) : ∀ (f : Nat) (e : Int), 0 ≤ e → e ≤ e0 → (∀ e', e ≤ e' → e' < e0 → ¬ GD m w i k e') → e0 - e < f → G_X10_firstBest_24 N f c w i k (m (5303 + i) k) (c 59 i + e) = some (c 59 i + e0, c) := by
  intro f
  induction f with
  | zero => intro e h1 h2 h3 h4; omega
  | succ f ih =>
    intro e h1 h2 h3 h4
    have hL := hR.1
    have a := hR.2.2.1 i hi.1 hi.2
    have b := a.2.1
    have hM := hR.nm
    have ne := (hM.2.2.1 i hi.1 hi.2).2.2 e h1 (by omega)
    unfold G_X10_firstBest_24 G_X10_firstBest_63
    (try simp (disch := omega) only [xlet_q, xq_in])
    rw [if_neg (by omega), if_neg (by omega)]
    have hB : ∀ j q, i < j → j ≤ L → 0 ≤ q → q ≤ m 5 w → 0 ≤ c 90 (j * 13 + q) ∧ c 90 (j * 13 + q) ≤ 1000000 := fun j q a b cc d => by
      have := hT j q (by omega) b cc d
      omega
    have nb := needByS (e := e) hN hR hX hw h5 hi ⟨h1, by omega⟩ hk hB
    by_cases ce : e = e0
    · subst ce
      rcases nb with ⟨g1, g2⟩ | ⟨g1, g2⟩
      · have t := hT (m (2423 + (i * 60 + e)) 0) (k + m (2423 + (i * 60 + e)) 2) (by omega) (by omega) (by omega) g2.1
        rw [g1, yb_s, if_pos (by rw [t.1, hg.2]; omega)]
      · exact absurd hg.1 g2
    · have ng := h3 e (by omega) (by omega)
      have go : G_X10_needBy N c w (c 59 i + e) k = some (1000000, c) ∨ ∃ v, v ≠ m (5303 + i) k ∧ G_X10_needBy N c w (c 59 i + e) k = some (v, c) := by
        rcases nb with ⟨g1, g2⟩ | ⟨g1, g2⟩
        · right
          have t := hT (m (2423 + (i * 60 + e)) 0) (k + m (2423 + (i * 60 + e)) 2) (by omega) (by omega) (by omega) g2.1
          rw [t.1] at g1
          refine ⟨_, ?_, g1⟩
          intro q
          exact ng ⟨g2, by omega⟩
        · left; exact g1
      have go' : ∃ v, v ≠ m (5303 + i) k ∧ G_X10_needBy N c w (c 59 i + e) k = some (v, c) := by
        rcases go with g | g
        · exact ⟨1000000, by omega, g⟩
        · exact g
      obtain ⟨v, v1, v2⟩ := go'
      rw [v2, yb_s, if_neg v1]
      (try simp (disch := omega) only [xlet_q, xq_in])
      rw [wr_in (show -2147483648 ≤ c 59 i + e + 1 by omega) (by omega), Int.add_assoc]
      exact ih (e + 1) (by omega) (by omega) (fun e' a b => h3 e' (by omega) b) (by omega)
theorem bestM0 {m : IH} {k39 : IH → Int → Int → Option (Int × IH)} {i k e0 : Int} (hN : 20000 ≤ N) (hM : NM m L) (hw : 0 ≤ w ∧ w < 60) (h5 : 1 ≤ m 5 w ∧ m 5 w ≤ 12) (h50 : m 0 50 = w) (hi : 0 ≤ i ∧ i < L) (hk : 0 ≤ k ∧ k ≤ m 5 w) (hT : ∀ j q, 0 ≤ j → j ≤ L → 0 ≤ q → q ≤ m 5 w → 0 ≤ m (5303 + j) q ∧ m (5303 + j) q ≤ 1000000) (he0 : 0 ≤ e0 ∧ e0 < m 25 i) (hg : GD m w i k e0) (h53 : 0 ≤ m 0 53 ∧ m 0 53 < 24) : ∀ (f : Nat) (e : Int), 0 ≤ e → e ≤ e0 → (∀ e', e ≤ e' → e' < e0 → ¬ GD m w i k e') → e0 - e < f → G_X12_laysWay_50 N k39 f m i k e = k39 (xv (xv (xv m 36 (m 0 53) i) 37 (m 0 53) e0) 0 53 (m 0 53 + 1)) (m (2423 + (i * 60 + e0)) 0) (k + m (2423 + (i * 60 + e0)) 2) := by
  intro f
  induction f with
  | zero => intro e h1 h2 h3 h4; omega
  | succ f ih =>
    intro e h1 h2 h3 h4
    have hL := hM.1
    have nb := (hM.2.2.1 i hi.1 hi.2).2.1
    have ne := (hM.2.2.1 i hi.1 hi.2).2.2 e h1 (by omega)
    unfold G_X12_laysWay_50 G_X12_laysWay_124
    rw [h50]
    (try simp (disch := omega) only [xlet_q, xq_in])
    have cont : e ≠ e0 → xlet (wr (e + 1)) (fun v4_124 => G_X12_laysWay_50 N k39 f m i k v4_124) = k39 (xv (xv (xv m 36 (m 0 53) i) 37 (m 0 53) e0) 0 53 (m 0 53 + 1)) (m (2423 + (i * 60 + e0)) 0) (k + m (2423 + (i * 60 + e0)) 2) := by
      intro q
      rw [xlet_q, wr_in (by omega) (by omega)]
      exact ih (e + 1) (by omega) (by omega) (fun e' a b => h3 e' (by omega) b) (by omega)
    rcases fitsM (N := N) (x := 2423 + (i * 60 + e)) (k := k) hN hw h5.2 (by omega) ne.2.2.1 with ⟨g1, g2⟩ | ⟨g1, g2⟩
    · have g21 := g2.1
      have t := hT (m (2423 + (i * 60 + e)) 0) (k + m (2423 + (i * 60 + e)) 2) (by omega) (by omega) (by omega) g2.1
      rw [g1, yb_s, if_neg (by omega)]
      (try simp (disch := omega) only [xlet_q, xq_in])
      rw [wr_in (show -2147483648 ≤ m (2423 + (i * 60 + e)) 1 + m (5303 + m (2423 + (i * 60 + e)) 0) (k + m (2423 + (i * 60 + e)) 2) by omega) (by omega)]
      by_cases ce : e = e0
      · subst ce
        rw [if_pos hg.2]
        simp (disch := omega) only [xlet_q, xq_in, xv_ne]
        rw [wr_in (show -2147483648 ≤ m 0 53 + 1 by omega) (by omega), wr_in (show -2147483648 ≤ k + m (2423 + (i * 60 + e)) 2 by omega) (by omega)]
      · rw [if_neg (fun q => h3 e (by omega) (by omega) ⟨g2, q⟩)]
        exact cont ce
    · rw [g1, yb_s, if_pos rfl]
      have ce : e ≠ e0 := fun q => g2 (by rw [q]; exact hg.1)
      exact cont ce
theorem follow0 (hN : 20000 ≤ N) (hw : 0 ≤ w ∧ w < 60) : ∀ (f : Nat) (c m : IH) (i k : Int), NetR c m L → LXC c m → w < m 0 10 → m 0 10 ≤ 60 → (1 ≤ m 5 w ∧ m 5 w ≤ 12) → m 0 50 = w → (∀ j q, 0 ≤ j → j ≤ L → 0 ≤ q → q ≤ m 5 w → c 90 (j * 13 + q) = m (5303 + j) q ∧ 0 ≤ m (5303 + j) q ∧ m (5303 + j) q ≤ 1000000) → DPT m L w (fun i k => m (5303 + i) k) → 0 ≤ i → i ≤ L → 0 ≤ k → k ≤ m 5 w → m (5303 + i) k < 1000000 → WR c m L → m 0 53 ≤ i → L - i < f → ∃ c' m', G_X10_follow_9 N f c w i k = some c' ∧ G_X12_laysWay_39 N f m i k = some (1, m') ∧ WR c' m' L ∧ (∀ a b, ¬ (a = 88 ∧ b = 2) → a ≠ 89 → c' a b = c a b) ∧ (∀ a b, ¬ (a = 0 ∧ b = 53) → a ≠ 36 → a ≠ 37 → m' a b = m a b) := by
  intro f
  induction f with
  | zero => intro c m i k h1 h2 h3 h3' h4 h5 h6 h7 h8 h9 h10 h11 h12 h13 h14 h15; omega
  | succ f ih =>
    intro c m i k h1 h2 h3 h3' h4 h5 h6 h7 h8 h9 h10 h11 h12 h13 h14 h15
    have hL := h1.1
    have hM := h1.nm
    obtain ⟨w1, w2, w3, w4⟩ := id h13
    unfold G_X10_follow_9 G_X12_laysWay_39
    rw [h1.2.1.1, hM.2.1]
    by_cases ci : L ≤ i
    · rw [if_pos ci, if_pos ci]
      have e : (if 24 ≤ c 88 2 then some c else some c) = some c := by
        by_cases d1 : 24 ≤ c 88 2
        · rw [if_pos d1]
        · rw [if_neg d1]
      exact ⟨c, m, e, rfl, h13, fun _ _ _ _ => rfl, fun _ _ _ _ _ => rfl⟩
    · rw [if_neg (by omega), if_neg ci, if_neg ci]
      obtain ⟨a1, a2, a3⟩ := h7.2 i k h8 (by omega) h10 h11
      have ex : ∃ e, 0 ≤ e ∧ e < m 25 i ∧ GD m w i k e := by
        rcases a3 with a3 | ⟨e, e1, e2, e3, e4⟩
        · have : m (5303 + i) k = 1000000 := a3
          omega
        · exact ⟨e, e1, e2, e3, e4.symm⟩
      obtain ⟨e, e1, e2, e3⟩ := ex
      obtain ⟨e0, g1, g2, g3, g4⟩ := leastEx (Q := fun e => GD m w i k e) (e.toNat + 1) e e1 (by omega) e3
      have ne := (hM.2.2.1 i h8 (by omega)).2.2 e0 g1 (by omega)
      obtain ⟨r, t1, t2, t3, t4, t5, t6, t7, t8, t9⟩ := h1.e (i := i) (e := e0) ⟨h8, by omega⟩ ⟨g1, by omega⟩
      have fb : G_X10_firstBest N c w i k = some (c 59 i + e0, c) := by
        unfold G_X10_firstBest
        (try simp (disch := omega) only [xlet_q, xq_in])
        rw [(h6 i k h8 (by omega) h10 h11).1]
        have := bestC0 (N := N) hN h1 h2 ⟨hw.1, h3, h3'⟩ h4 ⟨h8, by omega⟩ ⟨h10, h11⟩ h6 h12 ⟨g1, by omega⟩ g3 N 0 (by omega) g1 (fun e' a b => g4 e' a b) (by have := (hM.2.2.1 i h8 (by omega)).2.1; omega)
        rw [Int.add_zero] at this
        exact this
      have fm := bestM0 (N := N) (k39 := G_X12_laysWay_39 N f) hN hM hw h4 h5 ⟨h8, by omega⟩ ⟨h10, h11⟩ (fun j q a b cc d => (h6 j q a b cc d).2) ⟨g1, by omega⟩ g3 ⟨w2, by omega⟩ N 0 (by omega) g1 (fun e' a b => g4 e' a b) (by have := (hM.2.2.1 i h8 (by omega)).2.1; omega)
      rw [fb, yb_s, xlet_q, if_neg (by omega)]
      simp (disch := omega) only [xlet_q, xq_in, xv_ne, w1]
      rw [fm, t2, t4, wr_in (show -2147483648 ≤ m 0 53 + 1 by omega) (by omega), wr_in (show -2147483648 ≤ k + m (2423 + (i * 60 + e0)) 2 by have := g3.1.1; omega) (by have := g3.1.1; omega)]
      have cA : ∀ a b, ¬ (a = 88 ∧ b = 2) → a ≠ 89 → xv (xv c 89 (m 0 53) (c 59 i + e0)) 88 2 (m 0 53 + 1) a b = c a b := fun a b q1 q2 => by rw [xv_ne q1, xv_ne (by omega)]
      have mA : ∀ a b, ¬ (a = 0 ∧ b = 53) → a ≠ 36 → a ≠ 37 → xv (xv (xv m 36 (m 0 53) i) 37 (m 0 53) e0) 0 53 (m 0 53 + 1) a b = m a b := fun a b q1 q2 q3 => by rw [xv_ne q1, xv_ne (by omega), xv_ne (by omega)]
      have m53 : xv (xv (xv m 36 (m 0 53) i) 37 (m 0 53) e0) 0 53 (m 0 53 + 1) 0 53 = m 0 53 + 1 := xv_eq rfl rfl
      have hW : WR (xv (xv c 89 (m 0 53) (c 59 i + e0)) 88 2 (m 0 53 + 1)) (xv (xv (xv m 36 (m 0 53) i) 37 (m 0 53) e0) 0 53 (m 0 53 + 1)) L := by
        refine ⟨by rw [m53, xv_eq rfl rfl], by rw [m53]; omega, by rw [m53]; omega, fun t q1 q2 => ?_⟩
        rw [m53] at q2
        by_cases ct : t = m 0 53
        · have e36 : xv (xv (xv m 36 (m 0 53) i) 37 (m 0 53) e0) 0 53 (m 0 53 + 1) 36 t = i := by rw [xv_ne (by omega), xv_ne (by omega), xv_eq rfl ct]
          have e37 : xv (xv (xv m 36 (m 0 53) i) 37 (m 0 53) e0) 0 53 (m 0 53 + 1) 37 t = e0 := by rw [xv_ne (by omega), xv_eq rfl ct]
          rw [e36, e37, mA 25 _ (by omega) (by omega) (by omega), cA 59 _ (by omega) (by omega), xv_ne (by omega), xv_eq rfl ct]
          exact ⟨⟨h8, by omega⟩, ⟨g1, by omega⟩, rfl⟩
        · have e36 : xv (xv (xv m 36 (m 0 53) i) 37 (m 0 53) e0) 0 53 (m 0 53 + 1) 36 t = m 36 t := by rw [xv_ne (by omega), xv_ne (by omega), xv_ne (by omega)]
          have e37 : xv (xv (xv m 36 (m 0 53) i) 37 (m 0 53) e0) 0 53 (m 0 53 + 1) 37 t = m 37 t := by rw [xv_ne (by omega), xv_ne (by omega), xv_ne (by omega)]
          rw [e36, e37, mA 25 _ (by omega) (by omega) (by omega), cA 59 _ (by omega) (by omega), xv_ne (by omega), xv_ne (by omega)]
          exact w4 t q1 (by omega)
      have hdp : DPT (xv (xv (xv m 36 (m 0 53) i) 37 (m 0 53) e0) 0 53 (m 0 53 + 1)) L w (fun i' k' => xv (xv (xv m 36 (m 0 53) i) 37 (m 0 53) e0) 0 53 (m 0 53 + 1) (5303 + i') k') := by
        exact h7.mv hM (mA _ _ (by omega) (by omega) (by omega)) (fun b => mA _ _ (by omega) (by omega) (by omega)) (fun a b q1 q2 => mA _ _ (by omega) (by omega) (by omega)) (fun b => mA _ _ (by omega) (by omega) (by omega)) (fun j q z1 z2 z3 z4 => mA _ _ (by omega) (by omega) (by omega))
      have hNR : NetR (xv (xv c 89 (m 0 53) (c 59 i + e0)) 88 2 (m 0 53 + 1)) (xv (xv (xv m 36 (m 0 53) i) 37 (m 0 53) e0) 0 53 (m 0 53 + 1)) L := (h1.cv (fun a b q => cA a b (by omega) (by omega))).mv (mA _ _ (by omega) (by omega) (by omega)) (fun b => mA _ _ (by omega) (by omega) (by omega)) (fun b => mA _ _ (by omega) (by omega) (by omega)) (fun a b q1 q2 => mA _ _ (by omega) (by omega) (by omega))
      have hLX : LXC (xv (xv c 89 (m 0 53) (c 59 i + e0)) 88 2 (m 0 53 + 1)) (xv (xv (xv m 36 (m 0 53) i) 37 (m 0 53) e0) 0 53 (m 0 53 + 1)) := (h2.cv (fun a b q1 q2 => cA a b (by omega) (by omega))).mv (mA _ _ (by omega) (by omega) (by omega)) (mA _ _ (by omega) (by omega) (by omega)) (fun a b q1 q2 => mA _ _ (by omega) (by omega) (by omega)) (fun a b q1 q2 => mA _ _ (by omega) (by omega) (by omega))
      have g31 := g3.1.1
      have hgt := h6 (m (2423 + (i * 60 + e0)) 0) (k + m (2423 + (i * 60 + e0)) 2) (by omega) (by omega) (by omega) g31
      have g32 := g3.2
      have := ih _ _ (m (2423 + (i * 60 + e0)) 0) (k + m (2423 + (i * 60 + e0)) 2) hNR hLX (by rw [mA _ _ (by omega) (by omega) (by omega)]; exact h3) (by rw [mA _ _ (by omega) (by omega) (by omega)]; exact h3') (by rw [mA _ _ (by omega) (by omega) (by omega)]; exact h4) (by rw [mA _ _ (by omega) (by omega) (by omega)]; exact h5) (fun j q z1 z2 z3 z4 => by
        rw [mA 5 _ (by omega) (by omega) (by omega)] at z4
        rw [mA _ _ (by omega) (by omega) (by omega), cA _ _ (by omega) (by omega)]
        exact h6 j q z1 z2 z3 z4) hdp (by omega) (by omega) (by omega) (by rw [mA _ _ (by omega) (by omega) (by omega)]; exact g31) (by rw [mA _ _ (by omega) (by omega) (by omega)]; omega) hW (by rw [m53]; omega) (by omega)
      obtain ⟨c2, m2, d1, d2, d3, d4, d5⟩ := this
      exact ⟨c2, m2, d1, d2, d3, fun a b q1 q2 => by rw [d4 a b q1 q2, cA a b q1 q2], fun a b q1 q2 q3 => by rw [d5 a b q1 q2 q3, mA a b q1 q2 q3]⟩
end
