theorem fits0 {N : Nat} {m : IH} {x w k : Int} (hw : 0 ≤ w ∧ w < 60) (hk : 0 ≤ k ∧ k + m x 2 ≤ 12) (hc : 0 ≤ m x 2 ∧ m x 2 ≤ 3) : ∀ (f : Nat) (q : Int), 0 ≤ q → q ≤ m x 2 → (∀ q', 0 ≤ q' → q' < q → m (52 + w) (k + q') = m x (3 + q')) → m x 2 - q < f → (G_X12_fits_19 N f m x w k q = some (1, m) ∧ ∀ q', 0 ≤ q' → q' < m x 2 → m (52 + w) (k + q') = m x (3 + q')) ∨ (G_X12_fits_19 N f m x w k q = some (0, m) ∧ ¬ ∀ q', 0 ≤ q' → q' < m x 2 → m (52 + w) (k + q') = m x (3 + q')) := by
  intro f
  induction f with
  | zero => intro q h1 h2 h3 h4; omega
  | succ f ih =>
    intro q h1 h2 h3 h4
    unfold G_X12_fits_19
    by_cases c1 : m x 2 ≤ q
    · rw [if_pos c1]
      left
      exact ⟨rfl, fun q' a b => h3 q' a (by omega)⟩
    · rw [if_neg c1]
      (try simp (disch := omega) only [xlet_q, xq_in])
      by_cases c2 : m (52 + w) (k + q) = m x (3 + q)
      · rw [if_pos c2, wr_in (by omega) (by omega)]
        refine ih (q + 1) (by omega) (by omega) (fun q' a b => ?_) (by omega)
        by_cases cq : q' = q
        · rw [cq]; exact c2
        · exact h3 q' a (by omega)
      · rw [if_neg c2]
        right
        exact ⟨rfl, fun h => c2 (h q h1 (by omega))⟩
theorem fitsM {N : Nat} {m : IH} {x w k : Int} (hN : 20000 ≤ N) (hw : 0 ≤ w ∧ w < 60) (h5 : m 5 w ≤ 12) (hk : 0 ≤ k ∧ k ≤ 12) (hc : 0 ≤ m x 2 ∧ m x 2 ≤ 3) : (G_X12_fits N m x w k = some (1, m) ∧ FIT m x w k) ∨ (G_X12_fits N m x w k = some (0, m) ∧ ¬ FIT m x w k) := by
  unfold G_X12_fits FIT
  (try simp (disch := omega) only [xlet_q, xq_in])
  rw [wr_in (by omega) (by omega)]
  by_cases c1 : k + m x 2 ≤ m 5 w
  · rw [if_pos c1]
    rcases fits0 (N := N) (m := m) (x := x) (w := w) (k := k) hw (by omega) hc N 0 (by omega) (by omega) (fun q' a b => by omega) (by omega) with ⟨e1, e2⟩ | ⟨e1, e2⟩
    · left; exact ⟨e1, c1, e2⟩
    · right; exact ⟨e1, fun h => e2 h.2⟩
  · rw [if_neg c1]
    right
    exact ⟨rfl, fun h => c1 h.1⟩
/-- an entry of the reference's table -/
def RW (m : IH) (L w i k : Int) : Prop := (0 ≤ m (5303 + i) k ∧ m (5303 + i) k ≤ 1000000) ∧ (i = L → m (5303 + i) k = if k = m 5 w then 0 else 1000000) ∧ (i < L → (∀ e, 0 ≤ e → e < m 25 i → FIT m (2423 + (i * 60 + e)) w k → m (5303 + i) k ≤ m (2423 + (i * 60 + e)) 1 + m (5303 + m (2423 + (i * 60 + e)) 0) (k + m (2423 + (i * 60 + e)) 2)) ∧ (m (5303 + i) k = 1000000 ∨ ∃ e, 0 ≤ e ∧ e < m 25 i ∧ FIT m (2423 + (i * 60 + e)) w k ∧ m (5303 + i) k = m (2423 + (i * 60 + e)) 1 + m (5303 + m (2423 + (i * 60 + e)) 0) (k + m (2423 + (i * 60 + e)) 2)))
section
variable {N : Nat} {L w : Int}
theorem sp50 {k5 : IH → Int → Int → Option (Int × IH)} {k16 : IH → Int → Int → Int → Option (Int × IH)} {m : IH} {i k : Int} (hN : 20000 ≤ N) (hM : NM m L) (hw : 0 ≤ w ∧ w < 60) (h5 : m 5 w ≤ 12) (hi : 0 ≤ i ∧ i < L) (hk : 0 ≤ k ∧ k ≤ m 5 w) (hR : ∀ j q, i < j → j ≤ L → 0 ≤ q → q ≤ m 5 w → 0 ≤ m (5303 + j) q ∧ m (5303 + j) q ≤ 1000000) : ∀ (f : Nat) (e v : Int), 0 ≤ e → e ≤ m 25 i → 0 ≤ v → v ≤ 1000000 → m 25 i - e < f → ∃ v', G_X12_spells_50 N k5 k16 f m w i k v e = k16 (xv m (5303 + i) k v') w i (k - 1) ∧ (0 ≤ v' ∧ v' ≤ v) ∧ (∀ e', e ≤ e' → e' < m 25 i → FIT m (2423 + (i * 60 + e')) w k → v' ≤ m (2423 + (i * 60 + e')) 1 + m (5303 + m (2423 + (i * 60 + e')) 0) (k + m (2423 + (i * 60 + e')) 2)) ∧ (v' = v ∨ ∃ e', e ≤ e' ∧ e' < m 25 i ∧ FIT m (2423 + (i * 60 + e')) w k ∧ v' = m (2423 + (i * 60 + e')) 1 + m (5303 + m (2423 + (i * 60 + e')) 0) (k + m (2423 + (i * 60 + e')) 2)) := by
  intro f
  induction f with
  | zero => intro e v h1 h2 h3 h4 h6; omega
  | succ f ih =>
    intro e v h1 h2 h3 h4 h6
    have hL := hM.1
    unfold G_X12_spells_50
    rw [hM.2.1, if_neg (by omega)]
    (try simp (disch := omega) only [xlet_q, xq_in])
    by_cases c1 : m 25 i ≤ e
    · rw [if_pos c1]
      unfold G_X12_spells_142
      (try simp (disch := omega) only [xlet_q, xq_in])
      rw [wr_in (by omega) (by omega)]
      exact ⟨v, rfl, ⟨h3, Int.le_refl _⟩, fun e' a b => by omega, Or.inl rfl⟩
    · rw [if_neg c1]
      have hp := hM.2.2.1 i hi.1 hi.2
      have he := hp.2.2 e h1 (by omega)
      (try simp (disch := omega) only [xlet_q, xq_in])
      unfold G_X12_spells_136
      rcases fitsM (N := N) (x := 2423 + (i * 60 + e)) (k := k) hN hw h5 (by omega) he.2.2.1 with ⟨g1, g2⟩ | ⟨g1, g2⟩
      · have g21 := g2.1
        have hr := hR (m (2423 + (i * 60 + e)) 0) (k + m (2423 + (i * 60 + e)) 2) (by omega) (by omega) (by omega) g21
        rw [g1, yb_s, if_neg (by omega)]
        (try simp (disch := omega) only [xlet_q, xq_in])
        rw [gless, yb_s, wr_in (show -2147483648 ≤ m (2423 + (i * 60 + e)) 1 + m (5303 + m (2423 + (i * 60 + e)) 0) (k + m (2423 + (i * 60 + e)) 2) by omega) (by omega), wr_in (show -2147483648 ≤ e + 1 by omega) (by omega)]
        obtain ⟨v', d1, d2, d3, d4⟩ := ih (e + 1) (min v (m (2423 + (i * 60 + e)) 1 + m (5303 + m (2423 + (i * 60 + e)) 0) (k + m (2423 + (i * 60 + e)) 2))) (by omega) (by omega) (by omega) (by omega) (by omega)
        refine ⟨v', d1, by omega, fun e' a b q => ?_, ?_⟩
        · by_cases ce : e' = e
          · subst ce; omega
          · exact d3 e' (by omega) b q
        · rcases d4 with d4 | ⟨e', a, b, q, r⟩
          · by_cases cv : v ≤ m (2423 + (i * 60 + e)) 1 + m (5303 + m (2423 + (i * 60 + e)) 0) (k + m (2423 + (i * 60 + e)) 2)
            · left; omega
            · right; exact ⟨e, by omega, by omega, g2, by omega⟩
          · right; exact ⟨e', by omega, b, q, r⟩
      · rw [g1, yb_s, if_pos rfl]
        (try simp (disch := omega) only [xlet_q, xq_in])
        rw [wr_in (show -2147483648 ≤ e + 1 by omega) (by omega)]
        obtain ⟨v', d1, d2, d3, d4⟩ := ih (e + 1) v (by omega) (by omega) (by omega) (by omega) (by omega)
        refine ⟨v', d1, by omega, fun e' a b q => ?_, ?_⟩
        · by_cases ce : e' = e
          · subst ce; exact absurd q g2
          · exact d3 e' (by omega) b q
        · rcases d4 with d4 | ⟨e', a, b, q, r⟩
          · left; exact d4
          · right; exact ⟨e', by omega, b, q, r⟩
theorem NM.mv {m m' : IH} (h : NM m L) (hf : ∀ a b, a < 5303 → m' a b = m a b) : NM m' L := by
  obtain ⟨h1, h2, h3, h4⟩ := h
  refine ⟨h1, by rw [hf _ _ (by omega)]; exact h2, fun i i1 i2 => ?_, fun i i1 i2 => by rw [hf _ _ (by omega)]; exact h4 i i1 i2⟩
  have := h3 i i1 i2
  rw [hf 25 _ (by omega)]
  refine ⟨this.1, this.2.1, fun e e1 e2 => ?_⟩
  rw [hf _ 0 (by omega), hf _ 1 (by omega), hf _ 2 (by omega), hf 26 _ (by omega), hf 26 _ (by omega)]
  exact this.2.2 e e1 e2
theorem FIT.mv {m m' : IH} {y k : Int} (hf : ∀ a b, a < 5303 → m' a b = m a b) (hy : y < 5303) (hw : w < 60) : FIT m' y w k ↔ FIT m y w k := by
  unfold FIT
  rw [hf y 2 hy, hf 5 w (by omega)]
  simp only [hf y _ hy, hf (52 + w) _ (by omega)]
/-- an entry stays when lower rows are written -/
theorem RW.mv {m m' : IH} {i k : Int} (h : RW m L w i k) (hN : NM m L) (hw : 0 ≤ w ∧ w < 60) (hi : 0 ≤ i ∧ i ≤ L) (hf : ∀ a b, a < 5303 ∨ 5303 + i < a → m' a b = m a b) (he : m' (5303 + i) k = m (5303 + i) k) : RW m' L w i k := by
  have hL := hN.1
  have hf' : ∀ a b, a < 5303 → m' a b = m a b := fun a b q => hf a b (Or.inl q)
  obtain ⟨h1, h2, h3⟩ := h
  unfold RW
  rw [he, hf' 5 w (by omega), hf' 25 i (by omega)]
  refine ⟨h1, h2, fun q => ⟨fun e e1 e2 e3 => ?_, ?_⟩⟩
  · have ne := (hN.2.2.1 i hi.1 q).2.2 e e1 e2
    have nb := (hN.2.2.1 i hi.1 q).2.1
    rw [hf' _ 0 (by omega), hf' _ 1 (by omega), hf' _ 2 (by omega), hf _ _ (Or.inr (by omega))]
    exact (h3 q).1 e e1 e2 ((FIT.mv hf' (by omega) hw.2).mp e3)
  · rcases (h3 q).2 with r | ⟨e, e1, e2, e3, e4⟩
    · exact Or.inl r
    · right
      have ne := (hN.2.2.1 i hi.1 q).2.2 e e1 e2
      have nb := (hN.2.2.1 i hi.1 q).2.1
      refine ⟨e, e1, e2, (FIT.mv hf' (by omega) hw.2).mpr e3, ?_⟩
      rw [hf' _ 0 (by omega), hf' _ 1 (by omega), hf' _ 2 (by omega), hf _ _ (Or.inr (by omega))]
      exact e4
theorem sp16 {k5 : IH → Int → Int → Option (Int × IH)} {i : Int} (hN : 20000 ≤ N) (hw : 0 ≤ w ∧ w < 60) (hi : 0 ≤ i ∧ i ≤ L) : ∀ (f : Nat) (m : IH) (k : Int), NM m L → (0 ≤ m 5 w ∧ m 5 w ≤ 12) → (∀ j q, i < j → j ≤ L → 0 ≤ q → q ≤ m 5 w → RW m L w j q) → (∀ q, k < q → q ≤ m 5 w → RW m L w i q) → -1 ≤ k → k ≤ m 5 w → k + 1 < f → ∃ m', G_X12_spells_16 N k5 f m w i k = k5 m' w (i - 1) ∧ (∀ a b, a ≠ 5303 + i → m' a b = m a b) ∧ ∀ q, 0 ≤ q → q ≤ m 5 w → RW m' L w i q := by
  intro f
  induction f with
  | zero => intro m k h1 h2 h3 h4 h5 h6 h7; omega
  | succ f ih =>
    intro m k h1 h2 h3 h4 h5 h6 h7
    have hL := h1.1
    unfold G_X12_spells_16
    by_cases c1 : k < 0
    · rw [if_pos c1, xlet_q, wr_in (by omega) (by omega)]
      exact ⟨m, rfl, fun _ _ _ => rfl, fun q a b => h4 q (by omega) b⟩
    · rw [if_neg c1, h1.2.1]
      have step : ∀ v', RW (xv m (5303 + i) k v') L w i k → (∃ m', k5 m' w (i - 1) = G_X12_spells_16 N k5 f (xv m (5303 + i) k v') w i (k - 1) ∧ (∀ a b, a ≠ 5303 + i → m' a b = m a b) ∧ ∀ q, 0 ≤ q → q ≤ m 5 w → RW m' L w i q) := by
        intro v' hv
        have xo : ∀ a b, a ≠ 5303 + i → xv m (5303 + i) k v' a b = m a b := fun a b q => xv_ne (by omega)
        have hN' : NM (xv m (5303 + i) k v') L := h1.mv (fun a b q => xo a b (by omega))
        have e5 : xv m (5303 + i) k v' 5 w = m 5 w := xo _ _ (by omega)
        obtain ⟨m', d1, d2, d3⟩ := ih (xv m (5303 + i) k v') (k - 1) hN' (by rw [e5]; exact h2) (fun j q a b c d => by
          rw [e5] at d
          exact (h3 j q a b c d).mv h1 hw (by omega) (fun a' b' z => xo a' b' (by omega)) (xo _ _ (by omega))) (fun q a b => by
          rw [e5] at b
          by_cases cq : q = k
          · rw [cq]; exact hv
          · exact (h4 q (by omega) b).mv h1 hw hi (fun a' b' z => xo a' b' (by omega)) (xv_ne (by omega))) (by omega) (by rw [e5]; omega) (by omega)
        rw [e5] at d3
        exact ⟨m', d1.symm, fun a b q => by rw [d2 a b q, xo a b q], d3⟩
      by_cases ci : i = L
      · have last : ∀ v, G_X12_spells_45 N k5 (G_X12_spells_16 N k5 f) m w i k v = G_X12_spells_16 N k5 f (xv m (5303 + i) k v) w i (k - 1) := by
          intro v
          obtain ⟨N', hN'⟩ : ∃ N', N = N' + 1 := ⟨N - 1, by omega⟩
          have : ∀ K : Nat, ∀ k16 : IH → Int → Int → Int → Option (Int × IH), G_X12_spells_50 K k5 k16 (N' + 1) m w i k v 0 = k16 (xv m (5303 + i) k v) w i (k - 1) := by
            intro K k16
            unfold G_X12_spells_50 G_X12_spells_142
            rw [h1.2.1, if_pos (by omega)]
            (try simp (disch := omega) only [xlet_q, xq_in])
            rw [wr_in (by omega) (by omega)]
            rfl
          have := this N (G_X12_spells_16 N k5 f)
          rw [← hN'] at this
          exact this
        have hrw : ∀ v, v = (if k = m 5 w then 0 else 1000000) → RW (xv m (5303 + i) k v) L w i k := by
          intro v hv
          unfold RW
          rw [xv_eq rfl rfl, xv_ne (show ¬ ((5 : Int) = 5303 + i ∧ w = k) by omega)]
          refine ⟨?_, fun _ => hv, fun q => by omega⟩
          by_cases ck : k = m 5 w
          · rw [if_pos ck] at hv; omega
          · rw [if_neg ck] at hv; omega
        unfold G_X12_spells_42
        rw [if_pos ci]
        (try simp (disch := omega) only [xlet_q, xq_in])
        by_cases ck : k = m 5 w
        · rw [if_pos ck, last]
          obtain ⟨m', d1, d2⟩ := step 0 (hrw 0 (by rw [if_pos ck]))
          exact ⟨m', d1.symm, d2⟩
        · rw [if_neg ck, last]
          obtain ⟨m', d1, d2⟩ := step 1000000 (hrw 1000000 (by rw [if_neg ck]))
          exact ⟨m', d1.symm, d2⟩
      · rw [if_neg ci]
        unfold G_X12_spells_42 G_X12_spells_45
        rw [xlet_q, xlet_q]
        have np := h1.2.2.1 i hi.1 (by omega)
        obtain ⟨v', d1, d2, d3, d4⟩ := sp50 (N := N) (L := L) (w := w) (k5 := k5) (k16 := G_X12_spells_16 N k5 f) (m := m) (i := i) (k := k) hN h1 hw h2.2 (by omega) (by omega) (fun j q a b c d => (h3 j q a b c d).1) N 0 1000000 (by omega) (by omega) (by omega) (by omega) (by omega)
        rw [d1]
        obtain ⟨m', g1, g2⟩ := step v' (by
          have xo : ∀ a b, a ≠ 5303 + i → xv m (5303 + i) k v' a b = m a b := fun a b q => xv_ne (by omega)
          have hf' : ∀ a b, a < 5303 → xv m (5303 + i) k v' a b = m a b := fun a b q => xo a b (by omega)
          unfold RW
          rw [xv_eq rfl rfl, hf' 25 i (by omega)]
          refine ⟨d2, fun q => absurd q ci, fun q => ⟨fun e e1 e2 e3 => ?_, ?_⟩⟩
          · have ne := np.2.2 e e1 e2
            rw [hf' _ 0 (by omega), hf' _ 1 (by omega), hf' _ 2 (by omega), xo _ _ (by omega)]
            exact d3 e e1 e2 ((FIT.mv hf' (by omega) hw.2).mp e3)
          · rcases d4 with r | ⟨e, e1, e2, e3, e4⟩
            · exact Or.inl r
            · right
              have ne := np.2.2 e e1 e2
              refine ⟨e, e1, e2, (FIT.mv hf' (by omega) hw.2).mpr e3, ?_⟩
              rw [hf' _ 0 (by omega), hf' _ 1 (by omega), hf' _ 2 (by omega), xo _ _ (by omega)]
              exact e4)
        exact ⟨m', g1.symm, g2⟩
theorem sp5 (hN : 20000 ≤ N) (hw : 0 ≤ w ∧ w < 60) : ∀ (f : Nat) (m : IH) (i : Int), NM m L → (0 ≤ m 5 w ∧ m 5 w ≤ 12) → (∀ j q, i < j → j ≤ L → 0 ≤ q → q ≤ m 5 w → RW m L w j q) → -1 ≤ i → i ≤ L → i + 1 < f → ∃ m', G_X12_spells_5 N f m w i = some (m' 5303 0, m') ∧ (∀ a b, ¬ (5303 ≤ a ∧ a ≤ 5303 + L) → m' a b = m a b) ∧ ∀ j q, 0 ≤ j → j ≤ L → 0 ≤ q → q ≤ m 5 w → RW m' L w j q := by
  intro f
  induction f with
  | zero => intro m i h1 h2 h3 h4 h5 h6; omega
  | succ f ih =>
    intro m i h1 h2 h3 h4 h5 h6
    have hL := h1.1
    unfold G_X12_spells_5
    by_cases c1 : i < 0
    · rw [if_pos c1, xlet_q, show (5303 : Int) + 0 = 5303 by omega]
      exact ⟨m, rfl, fun _ _ _ => rfl, fun j q a b c d => h3 j q (by omega) b c d⟩
    · rw [if_neg c1]
      (try simp (disch := omega) only [xlet_q, xq_in])
      obtain ⟨m1, d1, d2, d3⟩ := sp16 (N := N) (L := L) (w := w) (k5 := G_X12_spells_5 N f) (i := i) hN hw (by omega) N m (m 5 w) h1 h2 h3 (fun q a b => by omega) (by omega) (by omega) (by omega)
      rw [d1]
      have e5 : m1 5 w = m 5 w := d2 _ _ (by omega)
      obtain ⟨m', g1, g2, g3⟩ := ih m1 (i - 1) (h1.mv (fun a b q => d2 a b (by omega))) (by rw [e5]; exact h2) (fun j q a b c d => by
        rw [e5] at d
        by_cases cj : j = i
        · rw [cj]; exact d3 q c d
        · exact (h3 j q (by omega) b c d).mv h1 hw (by omega) (fun a' b' z => d2 a' b' (by omega)) (d2 _ _ (by omega))) (by omega) (by omega) (by omega)
      rw [e5] at g3
      exact ⟨m', g1, fun a b q => by rw [g2 a b q, d2 a b (by omega)], g3⟩
/-- the reference's table is one of least costs -/
theorem spellsM {m : IH} (hN : 20000 ≤ N) (hM : NM m L) (hw : 0 ≤ w ∧ w < 60) (h5 : 1 ≤ m 5 w ∧ m 5 w ≤ 12) : ∃ m', G_X12_spells N m w = some (m' 5303 0, m') ∧ DPT m L w (fun i k => m' (5303 + i) k) ∧ (∀ a b, ¬ (5303 ≤ a ∧ a < 5352) → m' a b = m a b) := by
  have hL := hM.1
  unfold G_X12_spells
  rw [xlet_q, hM.2.1]
  obtain ⟨m', g1, g2, g3⟩ := sp5 (N := N) (L := L) (w := w) hN hw N m L hM (by omega) (fun j q a b => by omega) (by omega) (by omega) (by omega)
  refine ⟨m', g1, ⟨fun k k1 k2 => ?_, fun i k i1 i2 k1 k2 => ?_⟩, fun a b q => g2 a b (by omega)⟩
  · have := (g3 L k (by omega) (by omega) k1 k2).2.1 rfl
    rw [g2 5 w (by omega)] at this
    exact this
  · have hf' : ∀ a b, a < 5303 → m' a b = m a b := fun a b q => g2 a b (by omega)
    obtain ⟨a1, a2, a3⟩ := g3 i k i1 (by omega) k1 k2
    have nb := (hM.2.2.1 i i1 i2).2.1
    refine ⟨⟨a1.2, a1.1⟩, fun e e1 e2 e3 => ?_, ?_⟩
    · have := (a3 i2).1 e e1 (by rw [hf' 25 i (by omega)]; exact e2) ((FIT.mv hf' (by omega) hw.2).mpr e3)
      rw [hf' _ 0 (by omega), hf' _ 1 (by omega), hf' _ 2 (by omega)] at this
      exact this
    · rcases (a3 i2).2 with r | ⟨e, e1, e2, e3, e4⟩
      · exact Or.inl r
      · right
        rw [hf' 25 i (by omega)] at e2
        rw [hf' _ 0 (by omega), hf' _ 1 (by omega), hf' _ 2 (by omega)] at e4
        exact ⟨e, e1, e2, (FIT.mv hf' (by omega) hw.2).mp e3, e4⟩
/-- there is one table of least costs -/
theorem DPT.uniq {m : IH} {D D' : Int → Int → Int} (hM : NM m L) (h : DPT m L w D) (h' : DPT m L w D') : ∀ (f : Nat) (i k : Int), 0 ≤ i → i ≤ L → 0 ≤ k → k ≤ m 5 w → L - i < f → D i k = D' i k := by
  intro f
  induction f with
  | zero => intro i k h1 h2 h3 h4 h5; omega
  | succ f ih =>
    intro i k h1 h2 h3 h4 h5
    by_cases ci : i = L
    · subst ci
      rw [h.1 k h3 h4, h'.1 k h3 h4]
    · obtain ⟨a1, a2, a3⟩ := h.2 i k h1 (by omega) h3 h4
      obtain ⟨b1, b2, b3⟩ := h'.2 i k h1 (by omega) h3 h4
      have le1 : D i k ≤ D' i k := by
        rcases b3 with b3 | ⟨e, e1, e2, e3, e4⟩
        · omega
        · have ne := (hM.2.2.1 i h1 (by omega)).2.2 e e1 e2
          have := ih (m (2423 + (i * 60 + e)) 0) (k + m (2423 + (i * 60 + e)) 2) (by omega) (by omega) (by omega) e3.1 (by omega)
          have := a2 e e1 e2 e3
          omega
      have le2 : D' i k ≤ D i k := by
        rcases a3 with a3 | ⟨e, e1, e2, e3, e4⟩
        · omega
        · have ne := (hM.2.2.1 i h1 (by omega)).2.2 e e1 e2
          have := ih (m (2423 + (i * 60 + e)) 0) (k + m (2423 + (i * 60 + e)) 2) (by omega) (by omega) (by omega) e3.1 (by omega)
          have := b2 e e1 e2 e3
          omega
      omega
end
