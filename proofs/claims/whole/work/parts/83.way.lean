/-- the class's edges of the net are the reference's -/
theorem NetR.e {c m : IH} {L i e : Int} (h : NetR c m L) (hi : 0 ≤ i ∧ i < L) (he : 0 ≤ e ∧ e < m 25 i) : (0 ≤ c 59 i + e ∧ c 59 i + e < 624 ∧ c 59 i + e < c 59 (i + 1)) ∧ EQ c m L i (c 59 i + e) (2423 + (i * 60 + e)) := by
  have a := h.2.2.1 i hi.1 hi.2
  have b := a.2.1
  exact ⟨by omega, a.2.2 e he.1 (by omega)⟩
section
variable {N : Nat} {c m : IH} {L w : Int}
theorem needBy0 {i e k : Int} (hR : NetR c m L) (hX : LXC c m) (hw : 0 ≤ w ∧ w < m 0 10 ∧ m 0 10 ≤ 60) (h5 : 1 ≤ m 5 w ∧ m 5 w ≤ 12) (hi : 0 ≤ i ∧ i < L) (he : 0 ≤ e ∧ e < m 25 i) (hk : 0 ≤ k ∧ k + m (2423 + (i * 60 + e)) 2 ≤ m 5 w) : ∀ (f : Nat) (q : Int), 0 ≤ q → q ≤ m (2423 + (i * 60 + e)) 2 → (∀ q', 0 ≤ q' → q' < q → m (52 + w) (k + q') = m (2423 + (i * 60 + e)) (3 + q')) → m (2423 + (i * 60 + e)) 2 - q < f → (G_X10_needBy_33 N f c w (c 59 i + e) k (m (2423 + (i * 60 + e)) 2) q = some (min 1000000 (wr (m (2423 + (i * 60 + e)) 1 + c 90 (m (2423 + (i * 60 + e)) 0 * 13 + k + m (2423 + (i * 60 + e)) 2))), c) ∧ ∀ q', 0 ≤ q' → q' < m (2423 + (i * 60 + e)) 2 → m (52 + w) (k + q') = m (2423 + (i * 60 + e)) (3 + q')) ∨ (G_X10_needBy_33 N f c w (c 59 i + e) k (m (2423 + (i * 60 + e)) 2) q = some (1000000, c) ∧ ¬ ∀ q', 0 ≤ q' → q' < m (2423 + (i * 60 + e)) 2 → m (52 + w) (k + q') = m (2423 + (i * 60 + e)) (3 + q')) := by
  obtain ⟨r, t1, t2, t3, t4, t5, t6, t7, t8, t9⟩ := hR.e hi he
  have hL := hR.1
  intro f
  induction f with
  | zero => intro q h1 h2 h3 h4; omega
  | succ f ih =>
    intro q h1 h2 h3 h4
    unfold G_X10_needBy_33 G_X2_signOf
    by_cases c1 : m (2423 + (i * 60 + e)) 2 ≤ q
    · rw [if_pos c1, t2, t3]
      left
      exact ⟨by simp (disch := omega) only [xlet_q, xq_in], fun q' a b => h3 q' a (by omega)⟩
    · rw [if_neg c1, wr_in (show -2147483648 ≤ k + q by omega) (by omega)]
      (try simp (disch := omega) only [xlet_q, xq_in])
      rw [yb_s]
      have s1 := ((hX.2.2.1 w hw.1 hw.2.1).2.2.2 (k + q) (by omega) (by omega)).1
      rw [s1, t9 q h1 (by omega)]
      by_cases c2 : m (52 + w) (k + q) = m (2423 + (i * 60 + e)) (3 + q)
      · rw [if_pos c2, wr_in (by omega) (by omega)]
        refine ih (q + 1) (by omega) (by omega) (fun q' a b => ?_) (by omega)
        by_cases cq : q' = q
        · rw [cq]; exact c2
        · exact h3 q' a (by omega)
      · rw [if_neg c2]
        right
        exact ⟨rfl, fun h => c2 (h q h1 (by omega))⟩
/-- what is needed by an edge -/
theorem needByS {i e k : Int} (hN : 20000 ≤ N) (hR : NetR c m L) (hX : LXC c m) (hw : 0 ≤ w ∧ w < m 0 10 ∧ m 0 10 ≤ 60) (h5 : 1 ≤ m 5 w ∧ m 5 w ≤ 12) (hi : 0 ≤ i ∧ i < L) (he : 0 ≤ e ∧ e < m 25 i) (hk : 0 ≤ k ∧ k ≤ m 5 w) (hB : ∀ j q, i < j → j ≤ L → 0 ≤ q → q ≤ m 5 w → 0 ≤ c 90 (j * 13 + q) ∧ c 90 (j * 13 + q) ≤ 1000000) : (G_X10_needBy N c w (c 59 i + e) k = some (min 1000000 (m (2423 + (i * 60 + e)) 1 + c 90 (m (2423 + (i * 60 + e)) 0 * 13 + (k + m (2423 + (i * 60 + e)) 2))), c) ∧ FIT m (2423 + (i * 60 + e)) w k) ∨ (G_X10_needBy N c w (c 59 i + e) k = some (1000000, c) ∧ ¬ FIT m (2423 + (i * 60 + e)) w k) := by
  obtain ⟨r, t1, t2, t3, t4, t5, t6, t7, t8, t9⟩ := hR.e hi he
  have hL := hR.1
  unfold G_X10_needBy FIT
  rw [t4, (hX.2.2.1 w hw.1 hw.2.1).1]
  (try simp (disch := omega) only [xlet_q, xq_in])
  rw [wr_in (by omega) (by omega)]
  by_cases c1 : k + m (2423 + (i * 60 + e)) 2 ≤ m 5 w
  · rw [if_pos c1]
    rcases needBy0 (N := N) (k := k) hR hX hw h5 hi he (by omega) N 0 (by omega) (by omega) (fun q' a b => by omega) (by omega) with ⟨e1, e2⟩ | ⟨e1, e2⟩
    · left
      have hb := hB (m (2423 + (i * 60 + e)) 0) (k + m (2423 + (i * 60 + e)) 2) (by omega) (by omega) (by omega) c1
      rw [Int.add_assoc (m (2423 + (i * 60 + e)) 0 * 13)] at e1
      rw [wr_in (by omega) (by omega)] at e1
      exact ⟨e1, c1, e2⟩
    · right; exact ⟨e1, fun h => e2 h.2⟩
  · rw [if_neg c1]
    right
    exact ⟨rfl, fun h => c1 h.1⟩
theorem needAt0 {i k : Int} (hN : 20000 ≤ N) (hR : NetR c m L) (hX : LXC c m) (hw : 0 ≤ w ∧ w < m 0 10 ∧ m 0 10 ≤ 60) (h5 : 1 ≤ m 5 w ∧ m 5 w ≤ 12) (hi : 0 ≤ i ∧ i < L) (hk : 0 ≤ k ∧ k ≤ m 5 w) (hB : ∀ j q, i < j → j ≤ L → 0 ≤ q → q ≤ m 5 w → 0 ≤ c 90 (j * 13 + q) ∧ c 90 (j * 13 + q) ≤ 1000000) : ∀ (f : Nat) (e v : Int), 0 ≤ e → e ≤ m 25 i → 0 ≤ v → v ≤ 1000000 → m 25 i - e < f → ∃ v', G_X10_needAt_15 N f c w i k v (c 59 i + e) = some (v', c) ∧ (0 ≤ v' ∧ v' ≤ v) ∧ (∀ e', e ≤ e' → e' < m 25 i → FIT m (2423 + (i * 60 + e')) w k → v' ≤ m (2423 + (i * 60 + e')) 1 + c 90 (m (2423 + (i * 60 + e')) 0 * 13 + (k + m (2423 + (i * 60 + e')) 2))) ∧ (v' = v ∨ ∃ e', e ≤ e' ∧ e' < m 25 i ∧ FIT m (2423 + (i * 60 + e')) w k ∧ v' = m (2423 + (i * 60 + e')) 1 + c 90 (m (2423 + (i * 60 + e')) 0 * 13 + (k + m (2423 + (i * 60 + e')) 2))) := by
  intro f
  induction f with
  | zero => intro e v h1 h2 h3 h4 h6; omega
  | succ f ih =>
    intro e v h1 h2 h3 h4 h6
    have hL := hR.1
    have a := hR.2.2.1 i hi.1 hi.2
    have b := a.2.1
    unfold G_X10_needAt_15
    (try simp (disch := omega) only [xlet_q, xq_in])
    by_cases c1 : m 25 i ≤ e
    · rw [if_pos (by omega)]
      exact ⟨v, rfl, ⟨h3, Int.le_refl _⟩, fun e' a b => by omega, Or.inl rfl⟩
    · rw [if_neg (by omega)]
      have hR2 := hR.nm.2.2.1 i hi.1 hi.2
      have ne := hR2.2.2 e h1 (by omega)
      rcases needByS hN hR hX hw h5 hi ⟨h1, by omega⟩ hk hB with ⟨g1, g2⟩ | ⟨g1, g2⟩
      · have g21 := g2.1
        have hr := hB (m (2423 + (i * 60 + e)) 0) (k + m (2423 + (i * 60 + e)) 2) (by omega) (by omega) (by omega) g21
        rw [g1, yb_s, wr_in (show -2147483648 ≤ c 59 i + e + 1 by omega) (by omega), Int.add_assoc (c 59 i) e 1]
        obtain ⟨v', d1, d2, d3, d4⟩ := ih (e + 1) (min v (min 1000000 (m (2423 + (i * 60 + e)) 1 + c 90 (m (2423 + (i * 60 + e)) 0 * 13 + (k + m (2423 + (i * 60 + e)) 2))))) (by omega) (by omega) (by omega) (by omega) (by omega)
        refine ⟨v', d1, by omega, fun e' a b q => ?_, ?_⟩
        · by_cases ce : e' = e
          · subst ce; omega
          · exact d3 e' (by omega) b q
        · rcases d4 with d4 | ⟨e', a, b, q, r⟩
          · by_cases cv : v ≤ m (2423 + (i * 60 + e)) 1 + c 90 (m (2423 + (i * 60 + e)) 0 * 13 + (k + m (2423 + (i * 60 + e)) 2))
            · left; omega
            · right; exact ⟨e, by omega, by omega, g2, by omega⟩
          · right; exact ⟨e', by omega, b, q, r⟩
      · rw [g1, yb_s, wr_in (show -2147483648 ≤ c 59 i + e + 1 by omega) (by omega), Int.add_assoc (c 59 i) e 1, show min v 1000000 = v by omega]
        obtain ⟨v', d1, d2, d3, d4⟩ := ih (e + 1) v (by omega) (by omega) (by omega) (by omega) (by omega)
        refine ⟨v', d1, by omega, fun e' a b q => ?_, ?_⟩
        · by_cases ce : e' = e
          · subst ce; exact absurd q g2
          · exact d3 e' (by omega) b q
        · rcases d4 with d4 | ⟨e', a, b, q, r⟩
          · left; exact d4
          · right; exact ⟨e', by omega, b, q, r⟩
end
/-- an entry of the class's table -/
def CW (c m : IH) (L w i k : Int) : Prop := (0 ≤ c 90 (i * 13 + k) ∧ c 90 (i * 13 + k) ≤ 1000000) ∧ (i = L → c 90 (i * 13 + k) = if k = m 5 w then 0 else 1000000) ∧ (i < L → (∀ e, 0 ≤ e → e < m 25 i → FIT m (2423 + (i * 60 + e)) w k → c 90 (i * 13 + k) ≤ m (2423 + (i * 60 + e)) 1 + c 90 (m (2423 + (i * 60 + e)) 0 * 13 + (k + m (2423 + (i * 60 + e)) 2))) ∧ (c 90 (i * 13 + k) = 1000000 ∨ ∃ e, 0 ≤ e ∧ e < m 25 i ∧ FIT m (2423 + (i * 60 + e)) w k ∧ c 90 (i * 13 + k) = m (2423 + (i * 60 + e)) 1 + c 90 (m (2423 + (i * 60 + e)) 0 * 13 + (k + m (2423 + (i * 60 + e)) 2))))
theorem CW.cv {c c' m : IH} {L w i k : Int} (h : CW c m L w i k) (hM : NM m L) (h5 : m 5 w ≤ 12) (hi : 0 ≤ i ∧ i ≤ L) (hk : 0 ≤ k ∧ k ≤ m 5 w) (hf : ∀ j q, i < j → j ≤ L → 0 ≤ q → q ≤ m 5 w → c' 90 (j * 13 + q) = c 90 (j * 13 + q)) (he : c' 90 (i * 13 + k) = c 90 (i * 13 + k)) : CW c' m L w i k := by
  obtain ⟨h1, h2, h3⟩ := h
  unfold CW
  rw [he]
  refine ⟨h1, h2, fun q => ⟨fun e e1 e2 e3 => ?_, ?_⟩⟩
  · have ne := (hM.2.2.1 i hi.1 q).2.2 e e1 e2
    rw [hf _ _ (by omega) (by omega) (by omega) e3.1]
    exact (h3 q).1 e e1 e2 e3
  · rcases (h3 q).2 with r | ⟨e, e1, e2, e3, e4⟩
    · exact Or.inl r
    · right
      have ne := (hM.2.2.1 i hi.1 q).2.2 e e1 e2
      refine ⟨e, e1, e2, e3, ?_⟩
      rw [hf _ _ (by omega) (by omega) (by omega) e3.1]
      exact e4
theorem NetR.cv {c c' m : IH} {L : Int} (h : NetR c m L) (hc : ∀ a b, a < 67 → c' a b = c a b) : NetR c' m L := by
  obtain ⟨n1, n2, n3, n4, n5⟩ := h
  refine ⟨n1, ?_, fun i i1 i2 => ?_, fun j j1 j2 => ?_, n5⟩
  · rw [hc 57 4 (by omega), hc 57 5 (by omega), hc 59 _ (by omega), hc 59 _ (by omega), hc 59 0 (by omega)]
    exact n2
  · rw [hc 59 _ (by omega), hc 59 _ (by omega)]
    exact ⟨(n3 i i1 i2).1, (n3 i i1 i2).2.cv (fun a b q1 q2 => hc a b (by omega))⟩
  · rw [hc 66 _ (by omega)]
    exact n4 j j1 j2
theorem LXC.cv {c c' m : IH} (h : LXC c m) (hc : ∀ a b, 4 ≤ a → a ≤ 15 → c' a b = c a b) : LXC c' m := by
  have c4 : ∀ b, c' 4 b = c 4 b := fun b => hc _ _ (by omega) (by omega)
  have c5 : ∀ b, c' 5 b = c 5 b := fun b => hc _ _ (by omega) (by omega)
  have c6 : ∀ b, c' 6 b = c 6 b := fun b => hc _ _ (by omega) (by omega)
  have c7 : ∀ b, c' 7 b = c 7 b := fun b => hc _ _ (by omega) (by omega)
  have c8 : ∀ b, c' 8 b = c 8 b := fun b => hc _ _ (by omega) (by omega)
  have c9 : ∀ b, c' 9 b = c 9 b := fun b => hc _ _ (by omega) (by omega)
  have c10 : ∀ b, c' 10 b = c 10 b := fun b => hc _ _ (by omega) (by omega)
  have c11 : ∀ b, c' 11 b = c 11 b := fun b => hc _ _ (by omega) (by omega)
  have c12 : ∀ b, c' 12 b = c 12 b := fun b => hc _ _ (by omega) (by omega)
  have c13 : ∀ b, c' 13 b = c 13 b := fun b => hc _ _ (by omega) (by omega)
  have c14 : ∀ b, c' 14 b = c 14 b := fun b => hc _ _ (by omega) (by omega)
  have c15 : ∀ b, c' 15 b = c 15 b := fun b => hc _ _ (by omega) (by omega)
  unfold LXC TrC at *
  simp only [c4, c5, c6, c7, c8, c9, c10, c11, c12, c13, c14, c15]
  exact h
section
variable {N : Nat} {m : IH} {L w : Int}
theorem way25 {k18 : IH → Int → Int → Int → Option IH} {i : Int} (hN : 20000 ≤ N) (hM : NM m L) (hw : 0 ≤ w ∧ w < m 0 10 ∧ m 0 10 ≤ 60) (h5 : 1 ≤ m 5 w ∧ m 5 w ≤ 12) (hi : 0 ≤ i ∧ i ≤ L) : ∀ (f : Nat) (c : IH) (k : Int), NetR c m L → LXC c m → (∀ j q, i < j → j ≤ L → 0 ≤ q → q ≤ m 5 w → CW c m L w j q) → (∀ q, 0 ≤ q → q < k → CW c m L w i q) → 0 ≤ k → k ≤ m 5 w + 1 → m 5 w + 1 - k < f → ∃ c', G_X10_spell_25 N k18 f c w (m 5 w) i k = k18 c' w (m 5 w) (i - 1) ∧ (∀ a b, ¬ (a = 90 ∧ i * 13 ≤ b ∧ b ≤ i * 13 + 12) → c' a b = c a b) ∧ ∀ q, 0 ≤ q → q ≤ m 5 w → CW c' m L w i q := by
  intro f
  induction f with
  | zero => intro c k h1 h2 h3 h4 h6 h7 h8; omega
  | succ f ih =>
    intro c k h1 h2 h3 h4 h6 h7 h8
    have hL := hM.1
    unfold G_X10_spell_25
    by_cases c1 : m 5 w < k
    · rw [if_pos c1, xlet_q, wr_in (by omega) (by omega)]
      exact ⟨c, rfl, fun _ _ _ => rfl, fun q a b => h4 q a (by omega)⟩
    · rw [if_neg c1, h1.2.1.1, wr_in (show -2147483648 ≤ i * 13 + k by omega) (by omega)]
      have hB : ∀ j q, i < j → j ≤ L → 0 ≤ q → q ≤ m 5 w → 0 ≤ c 90 (j * 13 + q) ∧ c 90 (j * 13 + q) ≤ 1000000 := fun j q a b cc d => (h3 j q a b cc d).1
      have step : ∀ v, CW (xv c 90 (i * 13 + k) v) m L w i k → ∃ c', k18 c' w (m 5 w) (i - 1) = G_X10_spell_71 N k18 (G_X10_spell_25 N k18 f) c w (m 5 w) i k (i * 13 + k) v ∧ (∀ a b, ¬ (a = 90 ∧ i * 13 ≤ b ∧ b ≤ i * 13 + 12) → c' a b = c a b) ∧ ∀ q, 0 ≤ q → q ≤ m 5 w → CW c' m L w i q := by
        intro v hv
        unfold G_X10_spell_71
        (try simp (disch := omega) only [xlet_q, xq_in])
        rw [wr_in (show -2147483648 ≤ k + 1 by omega) (by omega)]
        have xo : ∀ a b, ¬ (a = 90 ∧ b = i * 13 + k) → xv c 90 (i * 13 + k) v a b = c a b := fun a b q => xv_ne q
        obtain ⟨c', d1, d2, d3⟩ := ih (xv c 90 (i * 13 + k) v) (k + 1) (h1.cv (fun a b q => xo a b (by omega))) (h2.cv (fun a b q1 q2 => xo a b (by omega))) (fun j q a b cc d => (h3 j q a b cc d).cv hM h5.2 (by omega) (by omega) (fun j' q' z1 z2 z3 z4 => xo _ _ (by omega)) (xo _ _ (by omega))) (fun q a b => by
          by_cases cq : q = k
          · rw [cq]; exact hv
          · exact (h4 q a (by omega)).cv hM h5.2 hi (by omega) (fun j' q' z1 z2 z3 z4 => xo _ _ (by omega)) (xo _ _ (by omega))) (by omega) (by omega) (by omega)
        exact ⟨c', d1.symm, fun a b q => by rw [d2 a b q, xo a b (by omega)], d3⟩
      by_cases ci : i = L
      · have hrw : ∀ v, v = (if k = m 5 w then 0 else 1000000) → CW (xv c 90 (i * 13 + k) v) m L w i k := by
          intro v hv
          unfold CW
          rw [xv_eq rfl rfl]
          refine ⟨?_, fun _ => hv, fun q => by omega⟩
          by_cases ck : k = m 5 w
          · rw [if_pos ck] at hv; omega
          · rw [if_neg ck] at hv; omega
        rw [if_pos ci]
        by_cases ck : k = m 5 w
        · rw [if_pos ck]
          obtain ⟨c', d1, d2⟩ := step 0 (hrw 0 (by rw [if_pos ck]))
          exact ⟨c', d1.symm, d2⟩
        · rw [if_neg ck]
          unfold G_X10_spell_63
          have na : G_X10_needAt N c w i k = some (1000000, c) := by
            obtain ⟨N', hN'⟩ : ∃ N', N = N' + 1 := ⟨N - 1, by omega⟩
            have : ∀ K : Nat, G_X10_needAt_15 K (N' + 1) c w i k 1000000 (c 59 i) = some (1000000, c) := by
              intro K
              unfold G_X10_needAt_15
              (try simp (disch := omega) only [xlet_q, xq_in])
              rw [if_pos (by rw [ci, h1.2.1.2.2.2.1]; exact Int.le_refl _)]
            have := this N
            rw [← hN'] at this
            unfold G_X10_needAt
            (try simp (disch := omega) only [xlet_q, xq_in])
            exact this
          rw [na, yb_s]
          obtain ⟨c', d1, d2⟩ := step 1000000 (hrw 1000000 (by rw [if_neg ck]))
          exact ⟨c', d1.symm, d2⟩
      · rw [if_neg ci]
        unfold G_X10_spell_63 G_X10_needAt
        (try simp (disch := omega) only [xlet_q, xq_in])
        have np := hM.2.2.1 i hi.1 (by omega)
        obtain ⟨v', d1, d2, d3, d4⟩ := needAt0 (N := N) (c := c) (m := m) (L := L) (w := w) (i := i) (k := k) hN h1 h2 hw h5 (by omega) (by omega) hB N 0 1000000 (by omega) (by omega) (by omega) (by omega) (by omega)
        rw [Int.add_zero] at d1
        rw [d1, yb_s]
        obtain ⟨c', g1, g2⟩ := step v' (by
          unfold CW
          rw [xv_eq rfl rfl]
          refine ⟨d2, fun q => absurd q ci, fun q => ⟨fun e e1 e2 e3 => ?_, ?_⟩⟩
          · have ne := np.2.2 e e1 e2
            have e31 := e3.1
            rw [xv_ne (by omega)]
            exact d3 e e1 e2 e3
          · rcases d4 with r | ⟨e, e1, e2, e3, e4⟩
            · exact Or.inl r
            · right
              have ne := np.2.2 e e1 e2
              have e31 := e3.1
              refine ⟨e, e1, e2, e3, ?_⟩
              rw [xv_ne (by omega)]
              exact e4)
        exact ⟨c', g1.symm, g2⟩
theorem way18 (hN : 20000 ≤ N) (hM : NM m L) (hw : 0 ≤ w ∧ w < m 0 10 ∧ m 0 10 ≤ 60) (h5 : 1 ≤ m 5 w ∧ m 5 w ≤ 12) : ∀ (f : Nat) (c : IH) (i : Int), NetR c m L → LXC c m → (∀ j q, i < j → j ≤ L → 0 ≤ q → q ≤ m 5 w → CW c m L w j q) → -1 ≤ i → i ≤ L → i + 1 < f → ∃ c', G_X10_spell_18 N f c w (m 5 w) i = ybv (G_X10_follow N (xv c' 88 3 (c' 90 0)) w) (fun a => some a) ∧ (∀ a b, a ≠ 90 → c' a b = c a b) ∧ ∀ j q, 0 ≤ j → j ≤ L → 0 ≤ q → q ≤ m 5 w → CW c' m L w j q := by
  intro f
  induction f with
  | zero => intro c i h1 h2 h3 h4 h6 h7; omega
  | succ f ih =>
    intro c i h1 h2 h3 h4 h6 h7
    have hL := hM.1
    unfold G_X10_spell_18
    by_cases c1 : i < 0
    · rw [if_pos c1, xlet_q]
      exact ⟨c, rfl, fun _ _ _ => rfl, fun j q a b cc d => h3 j q (by omega) b cc d⟩
    · rw [if_neg c1, xlet_q]
      obtain ⟨c1', d1, d2, d3⟩ := way25 (N := N) (m := m) (L := L) (w := w) (k18 := G_X10_spell_18 N f) (i := i) hN hM hw h5 (by omega) N c 0 h1 h2 h3 (fun q a b => by omega) (by omega) (by omega) (by omega)
      rw [d1]
      obtain ⟨c', g1, g2, g3⟩ := ih c1' (i - 1) (h1.cv (fun a b q => d2 a b (by omega))) (h2.cv (fun a b q1 q2 => d2 a b (by omega))) (fun j q a b cc d => by
        by_cases cj : j = i
        · rw [cj]; exact d3 q cc d
        · exact (h3 j q (by omega) b cc d).cv hM h5.2 (by omega) (by omega) (fun j' q' z1 z2 z3 z4 => d2 _ _ (by omega)) (d2 _ _ (by omega))) (by omega) (by omega) (by omega)
      exact ⟨c', g1, fun a b q => by rw [g2 a b q, d2 a b (by omega)], g3⟩
end
