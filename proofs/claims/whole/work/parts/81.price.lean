/-- the way of each word through the tree -/
def PATH (m : IH) (P : Int → Int → Int) : Prop := ∀ w, 0 ≤ w → w < m 0 10 → P w 0 = 0 ∧ P w (m 5 w) = m 7 w ∧ ∀ k, 0 ≤ k → k < m 5 w → 1 ≤ P w (k + 1) ∧ P w (k + 1) < m 0 15 ∧ m 8 (P w (k + 1)) = P w k ∧ m 9 (P w (k + 1)) = m (52 + w) k
/-- the signs of edge row y stand in word w from k on -/
def FIT (m : IH) (y w k : Int) : Prop := k + m y 2 ≤ m 5 w ∧ ∀ q, 0 ≤ q → q < m y 2 → m (52 + w) (k + q) = m y (3 + q)
/-- the least costs from a place and a sign on -/
def DPT (m : IH) (L w : Int) (D : Int → Int → Int) : Prop := (∀ k, 0 ≤ k → k ≤ m 5 w → D L k = if k = m 5 w then 0 else 1000000) ∧ ∀ i k, 0 ≤ i → i < L → 0 ≤ k → k ≤ m 5 w → (D i k ≤ 1000000 ∧ 0 ≤ D i k) ∧ (∀ e, 0 ≤ e → e < m 25 i → FIT m (2423 + (i * 60 + e)) w k → D i k ≤ m (2423 + (i * 60 + e)) 1 + D (m (2423 + (i * 60 + e)) 0) (k + m (2423 + (i * 60 + e)) 2)) ∧ (D i k = 1000000 ∨ ∃ e, 0 ≤ e ∧ e < m 25 i ∧ FIT m (2423 + (i * 60 + e)) w k ∧ D i k = m (2423 + (i * 60 + e)) 1 + D (m (2423 + (i * 60 + e)) 0) (k + m (2423 + (i * 60 + e)) 2))
/-- a net of the reference -/
def NM (m : IH) (L : Int) : Prop := (0 ≤ L ∧ L ≤ 24) ∧ m 0 33 = L ∧ (∀ i, 0 ≤ i → i < L → 1 ≤ m 25 i ∧ m 25 i ≤ 26 ∧ ∀ e, 0 ≤ e → e < m 25 i → (i < m (2423 + (i * 60 + e)) 0 ∧ m (2423 + (i * 60 + e)) 0 ≤ L) ∧ (0 ≤ m (2423 + (i * 60 + e)) 1 ∧ m (2423 + (i * 60 + e)) 1 ≤ 99) ∧ (0 ≤ m (2423 + (i * 60 + e)) 2 ∧ m (2423 + (i * 60 + e)) 2 ≤ 3) ∧ m 26 i ≤ m (2423 + (i * 60 + e)) 1 + m 26 (m (2423 + (i * 60 + e)) 0)) ∧ ∀ i, 0 ≤ i → i ≤ L → 0 ≤ m 26 i ∧ m 26 i ≤ (L - i) * 99
theorem NetR.nm {c m : IH} {L : Int} (h : NetR c m L) : NM m L := by
  obtain ⟨h1, h2, h3, h4, h5⟩ := h
  refine ⟨h1, h2.2.1, fun i i1 i2 => ?_, fun i i1 i2 => (h4 i (by omega) i2).2⟩
  have a := h3 i i1 i2
  have b := a.2.1
  refine ⟨by omega, by omega, fun e e1 e2 => ?_⟩
  have c := a.2.2 e e1 (by omega)
  exact ⟨c.2.2.2.2.2.1, c.2.2.2.2.2.2.1, c.2.2.2.2.2.2.2.1, h5 i i1 i2 e e1 e2⟩
section
variable {m : IH} {P : Int → Int → Int} {L w : Int}
theorem PATH.rng (h : PATH m P) (hw : 0 ≤ w ∧ w < m 0 10) (hn : 1 ≤ m 0 15) {k : Int} (hk : 0 ≤ k ∧ k ≤ m 5 w) : 0 ≤ P w k ∧ P w k < m 0 15 ∧ (1 ≤ k → 1 ≤ P w k) ∧ (k = 0 → P w k = 0) := by
  have := h w hw.1 hw.2
  by_cases c : k = 0
  · subst c; rw [this.1]; omega
  · have := this.2.2 (k - 1) (by omega) (by omega)
    rw [show k - 1 + 1 = k by omega] at this
    omega
theorem wk_fwd {y : Int} (hT : TrM m) (h : PATH m P) (hw : 0 ≤ w ∧ w < m 0 10) {k : Int} (hk : 0 ≤ k) (hF : FIT m y w k) : ∀ (r : Nat) (q : Int), 0 ≤ q → q + r ≤ m y 2 → wk m y r q (P w (k + q)) = P w (k + q + r) := by
  intro r
  induction r with
  | zero => intro q h1 h2; simp [wk]
  | succ r ih =>
    intro q h1 h2
    have hr := h.rng hw hT.1.1 (k := k + q) (by have := hF.1; omega)
    have st := (h w hw.1 hw.2).2.2 (k + q) (by omega) (by have := hF.1; omega)
    rw [wk_s (by omega), ← hF.2 q h1 (by omega), ch_uniq hT st.1 st.2.1 st.2.2.1 st.2.2.2, show k + q + 1 = k + (q + 1) by omega, ih (q + 1) (by omega) (by omega)]
    congr 1
    omega
theorem wk_bwd {y : Int} (hT : TrM m) (h : PATH m P) (hw : 0 ≤ w ∧ w < m 0 10) : ∀ (r : Nat) (q x k : Int), 0 ≤ k → k ≤ m 5 w → x ≠ -1 → wk m y r q x = P w k → (r : Int) ≤ k ∧ x = P w (k - r) ∧ ∀ q', q ≤ q' → q' < q + r → m (52 + w) (k - r + (q' - q)) = m y (3 + q') := by
  intro r
  induction r with
  | zero =>
    intro q x k h1 h2 h3 h4
    refine ⟨by omega, ?_, fun q' a b => by omega⟩
    simp only [wk] at h4
    rw [h4]
    congr 1
    omega
  | succ r ih =>
    intro q x k h1 h2 h3 h4
    rw [wk_s h3] at h4
    have hr := h.rng hw hT.1.1 (k := k) ⟨h1, h2⟩
    rcases ch_node (p := x) (s := m y (3 + q)) hT with e | e
    · rw [e, wk_neg] at h4; omega
    · obtain ⟨g1, g2, g3⟩ := ih (q + 1) _ k h1 h2 (by omega) h4
      have hr2 := h.rng hw hT.1.1 (k := k - r) (by omega)
      have k1 : 1 ≤ k - r := by
        by_cases c : k - r = 0
        · have := hr2.2.2.2 c; omega
        · omega
      have st := (h w hw.1 hw.2).2.2 (k - r - 1) (by omega) (by omega)
      rw [show k - r - 1 + 1 = k - (r : Int) by omega, ← g2] at st
      refine ⟨by omega, ?_, fun q' a b => ?_⟩
      · rw [← e.2.2.1, st.2.2.1]
        congr 1
        omega
      · by_cases cq : q' = q
        · subst cq
          rw [show k - ((r + 1 : Nat) : Int) + (q' - q') = k - r - 1 by omega, ← st.2.2.2]
          exact e.2.2.2
        · have := g3 q' (by omega) (by omega)
          rw [← this]
          congr 1
          omega
theorem wt_fwd (hT : TrM m) (h : PATH m P) (hw : 0 ≤ w ∧ w < m 0 10) {i e k : Int} (hk : 0 ≤ k) (hc : 0 ≤ m (2423 + (i * 60 + e)) 2) (hF : FIT m (2423 + (i * 60 + e)) w k) : wt m i e (P w k) = P w (k + m (2423 + (i * 60 + e)) 2) := by
  have := wk_fwd hT h hw hk hF (m (2423 + (i * 60 + e)) 2).toNat 0 (by omega) (by omega)
  rw [Int.add_zero] at this
  unfold wt
  rw [this]
  congr 1
  omega
theorem wt_bwd (hT : TrM m) (h : PATH m P) (hw : 0 ≤ w ∧ w < m 0 10) {i e x k : Int} (hk : 0 ≤ k ∧ k ≤ m 5 w) (hc : 0 ≤ m (2423 + (i * 60 + e)) 2) (hx : x ≠ -1) (he : wt m i e x = P w k) : m (2423 + (i * 60 + e)) 2 ≤ k ∧ x = P w (k - m (2423 + (i * 60 + e)) 2) ∧ FIT m (2423 + (i * 60 + e)) w (k - m (2423 + (i * 60 + e)) 2) := by
  obtain ⟨g1, g2, g3⟩ := wk_bwd hT h hw _ 0 x k hk.1 hk.2 hx he
  have e1 : (((m (2423 + (i * 60 + e)) 2).toNat : Nat) : Int) = m (2423 + (i * 60 + e)) 2 := by omega
  rw [e1] at g1 g2 g3
  refine ⟨g1, g2, by omega, fun q q1 q2 => ?_⟩
  have := g3 q q1 (by omega)
  rw [Int.sub_zero] at this
  exact this
/-- no rest is above what is needed -/
theorem adm {D : Int → Int → Int} (hN : NM m L) (hD : DPT m L w D) : ∀ (f : Nat) (i k : Int), 0 ≤ i → i ≤ L → 0 ≤ k → k ≤ m 5 w → L - i < f → m 26 i ≤ D i k := by
  intro f
  induction f with
  | zero => intro i k h1 h2 h3 h4 h5; omega
  | succ f ih =>
    intro i k h1 h2 h3 h4 h5
    have hr := hN.2.2.2 i h1 h2
    have hL := hN.1
    by_cases ci : i = L
    · subst ci
      rw [hD.1 k h3 h4]
      by_cases ck : k = m 5 w
      · rw [if_pos ck]; omega
      · rw [if_neg ck]; omega
    · obtain ⟨a1, a2, a3⟩ := hD.2 i k h1 (by omega) h3 h4
      rcases a3 with a3 | ⟨e, b1, b2, b3, b4⟩
      · omega
      · have ne := (hN.2.2.1 i h1 (by omega)).2.2 e b1 b2
        have := ih (m (2423 + (i * 60 + e)) 0) (k + m (2423 + (i * 60 + e)) 2) (by omega) (by omega) (by omega) b3.1 (by omega)
        omega
theorem DPT.nn {D : Int → Int → Int} (hN : NM m L) (hD : DPT m L w D) {i k : Int} (h1 : 0 ≤ i) (h2 : i ≤ L) (h3 : 0 ≤ k) (h4 : k ≤ m 5 w) : 0 ≤ D i k := by
  have := adm hN hD ((L - i).toNat + 1) i k h1 h2 h3 h4 (by omega)
  have := hN.2.2.2 i h1 h2
  omega
/-- least is least on the way to a word -/
theorem PATH.least (h : PATH m P) (hX : LXM m) (hw : 0 ≤ w ∧ w < m 0 10) : ∀ (d : Nat) (k : Int), 0 ≤ k → k + d = m 5 w → m 11 (P w k) ≤ m 6 w := by
  intro d
  induction d with
  | zero =>
    intro k h1 h2
    rw [show k = m 5 w by omega, (h w hw.1 hw.2).2.1]
    exact (hX.2.2.1 w hw.1 hw.2).2.2.2.2
  | succ d ih =>
    intro k h1 h2
    have st := (h w hw.1 hw.2).2.2 k h1 (by omega)
    have := ih (k + 1) (by omega) (by omega)
    have e := hX.2.2.2.2.2 (by omega) (P w (k + 1)) st.1 st.2.1
    rw [st.2.2.1] at e
    omega
/-- the table is not above what the search found -/
theorem eqLow {D : Int → Int → Int} {Lb : Int} (hX : LXM m) (hP : PATH m P) (hN : NM m L) (hw : 0 ≤ w ∧ w < m 0 10) (hD : DPT m L w D) (hE : EI m L Lb (-1) 0) : ∀ (f : Nat) (i k : Int), 0 ≤ i → i ≤ L → 0 ≤ k → k ≤ m 5 w → m 30 (i * 721 + P w k) ≠ 0 → i < f → D 0 0 ≤ m 29 (i * 721 + P w k) + D i k := by
  intro f
  induction f with
  | zero => intro i k h1 h2 h3 h4 h5 h6; omega
  | succ f ih =>
    intro i k h1 h2 h3 h4 h5 h6
    have hn := hX.1.1
    have hr := hP.rng hw hn.1 (k := k) ⟨h3, h4⟩
    rcases hE.2.2.2 i (P w k) h1 h2 hr.1 hr.2.1 h5 with ⟨a1, a2, a3⟩ | ⟨j0, x0, e, b1, b2, b3, b4, b5, b6, b7⟩
    · have : k = 0 := by
        by_cases c : k = 0
        · exact c
        · have := hr.2.2.1 (by omega); omega
      subst this
      subst a1
      rw [a3]
      omega
    · have ne := (hN.2.2.1 j0 b1.1 b1.2).2.2 e b3.1 b3.2
      obtain ⟨g1, g2, g3⟩ := wt_bwd hX.1 hP hw (i := j0) (e := e) (x := x0) (k := k) ⟨h3, h4⟩ ne.2.2.1.1 (by omega) b6
      have d2 := (hD.2 j0 (k - m (2423 + (j0 * 60 + e)) 2) b1.1 b1.2 (by omega) (by omega)).2.1 e b3.1 b3.2 g3
      rw [b5, show k - m (2423 + (j0 * 60 + e)) 2 + m (2423 + (j0 * 60 + e)) 2 = k by omega] at d2
      have := ih j0 (k - m (2423 + (j0 * 60 + e)) 2) b1.1 (by omega) (by omega) (by omega) (by rw [← g2, b4]; omega) (by omega)
      rw [← g2] at this
      omega
/-- what the search found is not above the table; or the word's end is taken -/
theorem eqUp {D : Int → Int → Int} {Lb : Int} (hX : LXM m) (hP : PATH m P) (hN : NM m L) (hw : 0 ≤ w ∧ w < m 0 10) (hD : DPT m L w D) (hE : EI m L Lb (-1) 0) (hn3 : ∀ j x, 0 ≤ j → j ≤ L → 0 ≤ x → x < m 0 15 → m 30 (j * 721 + x) = 0 ∨ m 30 (j * 721 + x) = 1 ∨ m 30 (j * 721 + x) = 2) : ∀ (f : Nat) (i k : Int), 0 ≤ i → i ≤ L → 0 ≤ k → k ≤ m 5 w → m 30 (i * 721 + P w k) ≠ 0 → D i k < 1000000 → L - i < f → (∃ j x, (0 ≤ j ∧ j ≤ L) ∧ (0 ≤ x ∧ x < m 0 15) ∧ m 30 (j * 721 + x) = 1 ∧ Lb ≤ m 29 (i * 721 + P w k) + D i k + m 6 w) ∨ (m 30 (L * 721 + m 7 w) = 2 ∧ m 29 (L * 721 + m 7 w) ≤ m 29 (i * 721 + P w k) + D i k) := by
  intro f
  induction f with
  | zero => intro i k h1 h2 h3 h4 h5 h6 h7; omega
  | succ f ih =>
    intro i k h1 h2 h3 h4 h5 h6 h7
    have hn := hX.1.1
    have hL := hN.1
    have hr := hP.rng hw hn.1 (k := k) ⟨h3, h4⟩
    rcases hn3 i (P w k) h1 h2 hr.1 hr.2.1 with q | q | q
    · exact absurd q h5
    · left
      refine ⟨i, P w k, ⟨h1, h2⟩, ⟨hr.1, hr.2.1⟩, q, ?_⟩
      have e1 := (hE.1 i (P w k) h1 h2 hr.1 hr.2.1).2 q
      unfold bnd at e1
      rw [show (i * 721 + P w k) / 721 = i by omega, show (i * 721 + P w k) % 721 = P w k by omega] at e1
      have e2 := adm hN hD ((L - i).toNat + 1) i k h1 h2 h3 h4 (by omega)
      have e3 := hP.least hX hw (m 5 w - k).toNat k h3 (by omega)
      omega
    · by_cases ci : i = L
      · subst ci
        right
        have e1 := hD.1 k h3 h4
        by_cases ck : k = m 5 w
        · rw [ck, (hP w hw.1 hw.2).2.1] at q ⊢
          rw [ck, if_pos rfl] at e1
          rw [e1]
          exact ⟨q, by omega⟩
        · rw [if_neg ck] at e1; omega
      · obtain ⟨a1, a2, a3⟩ := hD.2 i k h1 (by omega) h3 h4
        rcases a3 with a3 | ⟨e, b1, b2, b3, b4⟩
        · omega
        · have ne := (hN.2.2.1 i h1 (by omega)).2.2 e b1 b2
          have fw := wt_fwd hX.1 hP hw h3 ne.2.2.1.1 b3
          have hr2 := hP.rng hw hn.1 (k := k + m (2423 + (i * 60 + e)) 2) (by have := b3.1; omega)
          have go := hE.2.2.1 i (P w k) e h1 (by omega) hr.1 hr.2.1 b1 b2 q (by omega) (by rw [fw]; omega)
          rw [fw] at go
          have := ih (m (2423 + (i * 60 + e)) 0) (k + m (2423 + (i * 60 + e)) 2) (by omega) (by omega) (by omega) b3.1 go.1 (by omega) (by omega)
          rcases this with ⟨j, x, c1, c2, c3, c4⟩ | ⟨c1, c2⟩
          · left; exact ⟨j, x, c1, c2, c3, by omega⟩
          · right; exact ⟨c1, by omega⟩
/-- the price of a word by the search is that by the table -/
theorem priceE {c : IH} {D : Int → Int → Int} (hX : LXM m) (hP : PATH m P) (hN : NM m L) (hw : 0 ≤ w ∧ w < m 0 10) (hD : DPT m L w D) (hF : FIN c m L 60) : (D 0 0 < 1000000 ∧ ∃ j, 0 ≤ j ∧ j < m 0 49 ∧ m 33 j = w ∧ m 34 j = D 0 0 + m 6 w) ∨ (1000000 ≤ D 0 0 ∧ ∀ j, 0 ≤ j → j < m 0 49 → m 33 j ≠ w) := by
  rcases hF with hF | ⟨h0, n, i, Lb, hQ, hE, hA, hn⟩
  · omega
  · have hL := hN.1
    have hlw := hX.2.2.1 w hw.1 hw.2
    have hp0 := (hP w hw.1 hw.2).1
    have hn3 : ∀ j x, 0 ≤ j → j ≤ L → 0 ≤ x → x < m 0 15 → m 30 (j * 721 + x) = 0 ∨ m 30 (j * 721 + x) = 1 ∨ m 30 (j * 721 + x) = 2 := by
      intro j x a1 a2 a3 a4
      rcases hQ.2.2.1 j x a1 a2 a3 a4 with q | q | q
      · exact Or.inl q.1
      · exact Or.inr (Or.inl q.1)
      · exact Or.inr (Or.inr q.1)
    have found : ∀ j, 0 ≤ j → j < m 0 49 → m 33 j = w → D 0 0 < 1000000 ∧ m 34 j = D 0 0 + m 6 w := by
      intro j j1 j2 j3
      obtain ⟨a1, a2, a3, a4⟩ := hA.1 j j1 j2
      rw [j3] at a2 a3
      have lo := eqLow hX hP hN hw hD hE (L.toNat + 1) L (m 5 w) (by omega) (by omega) (by omega) (by omega) (by rw [(hP w hw.1 hw.2).2.1, a2]; omega) (by omega)
      rw [(hP w hw.1 hw.2).2.1, hD.1 (m 5 w) (by omega) (by omega), if_pos rfl] at lo
      have cb := hQ.2.2.2.2.2.2.2.2.1 L (m 7 w) (by omega) (by omega) (by omega) (by omega) (by omega)
      have up := eqUp hX hP hN hw hD hE hn3 (L.toNat + 1) 0 0 (by omega) (by omega) (by omega) (by omega) (by rw [hp0]; exact hA.2.2.2.2.2) (by omega) (by omega)
      have z : m 29 (0 * 721 + P w 0) = 0 := by
        rw [hp0]
        have := hE.2.2.2 0 0 (by omega) (by omega) (by omega) (by have := hX.1.1; omega) hA.2.2.2.2.2
        rcases this with q | ⟨j0, x0, e, b1, b2, b3, b4, b5, b6, b7⟩
        · exact q.2.2
        · have ne := (hN.2.2.1 j0 b1.1 b1.2).2.2 e b3.1 b3.2
          omega
      rw [z] at up
      refine ⟨by omega, ?_⟩
      rcases up with ⟨j', x', _, _, _, u⟩ | ⟨_, u⟩
      · omega
      · omega
    have some_all : (D 0 0 < 1000000 → ∃ j, 0 ≤ j ∧ j < m 0 49 ∧ m 33 j = w) := by
      intro hd
      by_cases c60 : 60 ≤ m 0 49
      · by_cases ex : ∃ j, 0 ≤ j ∧ j < m 0 49 ∧ m 33 j = w
        · exact ex
        · exfalso
          have := pigR (h := m) (r := 33) (n := m 0 49) (M := m 0 10) (t := w) (fun k k1 k2 => (hA.1 k k1 k2).1) (fun k l a b d => (hA.2.1 k l a b d).1) hw (fun k k1 k2 q => ex ⟨k, k1, k2, q⟩)
          have := hX.2.1
          omega
      · have n0 : n = 0 := by omega
        subst n0
        obtain ⟨z1, z2⟩ := hQ.none hL.2
        have up := eqUp hX hP hN hw hD hE hn3 (L.toNat + 1) 0 0 (by omega) (by omega) (by omega) (by omega) (by rw [hp0]; exact hA.2.2.2.2.2) hd (by omega)
        rcases up with ⟨j', x', u1, u2, u3, u⟩ | ⟨u, _⟩
        · exfalso
          have hnn := hX.1.1
          obtain ⟨k, k1, k2, k3⟩ := hQ.2.2.2.2.2.1.2.2.2 (j' * 721 + x') (by omega) (by omega) (by omega) u3
          omega
        · have := z2 w hw.1 hw.2 hX.2.1.2
          rcases hA.2.2.2.1 w hw.1 hw.2 u (by omega) with q | q
          · omega
          · exact q
    by_cases hd : D 0 0 < 1000000
    · left
      obtain ⟨j, j1, j2, j3⟩ := some_all hd
      exact ⟨hd, j, j1, j2, j3, (found j j1 j2 j3).2⟩
    · right
      exact ⟨by omega, fun j j1 j2 j3 => hd (found j j1 j2 j3).1⟩
end
