/-- how dear one word is behind another -/
def dr (m : IH) (a b : Int) : Nat → Int
  | 0 => m 3 6
  | k + 1 => if m (2207 + (k : Int)) 0 = a ∧ m (2207 + (k : Int)) 1 = b then m (2207 + (k : Int)) 2 else dr m a b k
theorem dr_rng {c m : IH} {a b : Int} (hK : KR c m) (hF : FO c m) : ∀ k : Nat, (k : Int) ≤ m 22 0 → 0 ≤ dr m a b k ∧ dr m a b k ≤ 99 := by
  intro k
  induction k with
  | zero =>
    intro _
    have := hK 6 (by omega) (by omega)
    simp only [dr]
    omega
  | succ k ih =>
    intro hk
    simp only [dr]
    by_cases c1 : m (2207 + (k : Int)) 0 = a ∧ m (2207 + (k : Int)) 1 = b
    · rw [if_pos c1]
      have := hF.2.2.2 k (by omega) (by omega)
      omega
    · rw [if_neg c1]
      exact ih (by omega)
theorem dearC {N : Nat} {c m : IH} {a b : Int} (hK : KR c m) (hF : FO c m) : ∀ (f : Nat) (k : Nat), (k : Int) ≤ m 22 0 → k < f → G_X1_dearOf_8 N 49 f c a b (m 3 6) ((k : Int) - 1) = some (dr m a b k, c) := by
  intro f
  induction f with
  | zero => intro k h1 h2; omega
  | succ f ih =>
    intro k h1 h2
    have hb := hF.2
    unfold G_X1_dearOf_8 G_X1_dearOf_43
    cases k with
    | zero => rw [if_pos (by omega)]; rfl
    | succ k =>
      rw [if_neg (by omega), show ((k + 1 : Nat) : Int) - 1 = k by omega]
      have e := hF.2.2.2 k (by omega) (by omega)
      (try simp (disch := omega) only [xlet_q, xq_in])
      rw [show (49 : Int) + 1 = 50 by omega, show (49 : Int) + 2 = 51 by omega, show (49 : Int) + 3 = 52 by omega, e.1, e.2.1, e.2.2.1, wr_in (by omega) (by omega)]
      have hi := ih k (by omega) (by omega)
      rw [show (k : Int) + -1 = k - 1 by omega, hi]
      simp only [dr]
      by_cases c1 : m (2207 + (k : Int)) 0 = a
      · rw [if_pos c1]
        by_cases c2 : m (2207 + (k : Int)) 1 = b
        · rw [if_pos c2, if_pos ⟨c1, c2⟩]
        · rw [if_neg c2, if_neg (fun q => c2 q.2)]
      · rw [if_neg c1, if_neg (fun q => c1 q.1)]
theorem dearM {N : Nat} {m : IH} {a b : Int} (h22 : m 22 0 ≤ 60) : ∀ (f : Nat) (k : Nat), (k : Int) ≤ m 22 0 → k < f → G_X12_dearOf_9 N f m a b ((k : Int) - 1) = some (dr m a b k, m) := by
  intro f
  induction f with
  | zero => intro k h1 h2; omega
  | succ f ih =>
    intro k h1 h2
    unfold G_X12_dearOf_9 G_X12_dearOf_52
    cases k with
    | zero => rw [if_pos (by omega)]; rfl
    | succ k =>
      rw [if_neg (by omega), show ((k + 1 : Nat) : Int) - 1 = k by omega]
      (try simp (disch := omega) only [xlet_q, xq_in])
      rw [show (0 : Int) * 60 + (k : Int) = k by omega, wr_in (by omega) (by omega)]
      have hi := ih k (by omega) (by omega)
      rw [show (k : Int) + -1 = k - 1 by omega, hi]
      simp only [dr]
      by_cases c1 : m (2207 + (k : Int)) 0 = a
      · rw [if_pos c1]
        by_cases c2 : m (2207 + (k : Int)) 1 = b
        · rw [if_pos c2, if_pos ⟨c1, c2⟩]
        · rw [if_neg c2, if_neg (fun q => c2 q.2)]
      · rw [if_neg c1, if_neg (fun q => c1 q.1)]
/-- how dear, by all that follows -/
def dr1 (m : IH) (a b : Int) : Int := dr m a b (m 22 0).toNat
theorem dearCS {N : Nat} {c m : IH} {a b : Int} (hN : 20000 ≤ N) (hK : KR c m) (hF : FO c m) : G_X1_dearOf N 49 c a b (c 1 6) = some (dr1 m a b, c) := by
  have hb := hF.2
  unfold G_X1_dearOf dr1
  rw [xlet_q, hF.1, wr_in (by omega) (by omega), (hK 6 (by omega) (by omega)).1]
  have := dearC (N := N) (a := a) (b := b) hK hF N (m 22 0).toNat (by omega) (by omega)
  rw [show (((m 22 0).toNat : Nat) : Int) = m 22 0 by omega] at this
  exact this
theorem dearMS {N : Nat} {c m : IH} {a b : Int} (hN : 20000 ≤ N) (hF : FO c m) : G_X12_dearOf N m a b = some (dr1 m a b, m) := by
  have hb := hF.2
  unfold G_X12_dearOf dr1
  rw [xlet_q, wr_in (by omega) (by omega)]
  have := dearM (N := N) (a := a) (b := b) (m := m) (by omega) N (m 22 0).toNat (by omega) (by omega)
  rw [show (((m 22 0).toNat : Nat) : Int) = m 22 0 by omega] at this
  exact this
theorem dr_mv {m m' : IH} {a b : Int} (h : TM m m') : ∀ k : Nat, k ≤ 60 → dr m' a b k = dr m a b k := by
  intro k
  induction k with
  | zero => intro _; exact h _ _ (by omega) (by omega) (by omega)
  | succ k ih =>
    intro hk
    simp only [dr]
    rw [ih (by omega), h (2207 + (k : Int)) 0 (by omega) (by omega) (by omega), h (2207 + (k : Int)) 1 (by omega) (by omega) (by omega), h (2207 + (k : Int)) 2 (by omega) (by omega) (by omega)]
theorem dr1_mv {c m m' : IH} {a b : Int} (hF : FO c m) (h : TM m m') : dr1 m' a b = dr1 m a b := by
  have hb := hF.2
  unfold dr1
  rw [h 22 0 (by omega) (by omega) (by omega), dr_mv h _ (by omega)]
/-- between two choices -/
def bt2 (m : IH) (a b : Int) : Int := if a = -1 ∨ b = -1 then 0 else dr1 m a b
theorem bt2C {N : Nat} {c m : IH} {a b : Int} (hN : 20000 ≤ N) (hK : KR c m) (hF : FO c m) : G_X7_between N c a b = some (bt2 m a b, c) := by
  unfold G_X7_between G_X7_between_10 bt2
  by_cases c1 : a = -1
  · rw [if_pos c1, if_pos (Or.inl c1)]
  · rw [if_neg c1]
    by_cases c2 : b = -1
    · rw [if_pos c2, if_pos (Or.inr c2)]
    · rw [if_neg c2, if_neg (by omega), dearCS hN hK hF, yb_s]
theorem bt2M {N : Nat} {c m m' : IH} {a b : Int} (hN : 20000 ≤ N) (hF : FO c m) (hm : TM m m') : G_X12_between N m' a b = some (bt2 m a b, m') := by
  unfold G_X12_between G_X12_between_10 bt2
  by_cases c1 : a = -1
  · rw [if_pos c1, if_pos (Or.inl c1)]
  · rw [if_neg c1]
    by_cases c2 : b = -1
    · rw [if_pos c2, if_pos (Or.inr c2)]
    · rw [if_neg c2, if_neg (by omega), dearMS hN (hF.pr TC.rf hm), yb_s, dr1_mv hF hm]
theorem bt2_rng {c m : IH} {a b : Int} (hK : KR c m) (hF : FO c m) : 0 ≤ bt2 m a b ∧ bt2 m a b ≤ 99 := by
  have hb := hF.2
  unfold bt2
  by_cases c1 : a = -1 ∨ b = -1
  · rw [if_pos c1]; omega
  · rw [if_neg c1]
    exact dr_rng hK hF _ (by omega)
/-- how many of the four best are not dearer than outside -/
def pn (m2 : IH) (o : Int) : Int := if 0 < m2 0 49 ∧ m2 34 0 ≤ o then (if 1 < m2 0 49 ∧ m2 34 1 ≤ o then (if 2 < m2 0 49 ∧ m2 34 2 ≤ o then (if 3 < m2 0 49 ∧ m2 34 3 ≤ o then 4 else 3) else 2) else 1) else 0
theorem pn_spec {m m2 : IH} {o : Int} (hB : RB m m2) : (0 ≤ pn m2 o ∧ pn m2 o ≤ 4 ∧ pn m2 o ≤ m2 0 49) ∧ (∀ j, 0 ≤ j → j < pn m2 o → m2 34 j ≤ o) ∧ (∀ j, pn m2 o ≤ j → j < 4 → j < m2 0 49 → o < m2 34 j) := by
  have hb := hB.1
  have m01 : 1 < m2 0 49 → m2 34 0 ≤ m2 34 1 := fun q => (hB.2.2 0 1 (by omega) (by omega) q).2
  have m12 : 2 < m2 0 49 → m2 34 1 ≤ m2 34 2 := fun q => (hB.2.2 1 2 (by omega) (by omega) q).2
  have m23 : 3 < m2 0 49 → m2 34 2 ≤ m2 34 3 := fun q => (hB.2.2 2 3 (by omega) (by omega) q).2
  have cases4 : ∀ j : Int, 0 ≤ j → j < 4 → j = 0 ∨ j = 1 ∨ j = 2 ∨ j = 3 := fun j a b => by omega
  unfold pn
  by_cases c0 : 0 < m2 0 49 ∧ m2 34 0 ≤ o
  · rw [if_pos c0]
    by_cases c1 : 1 < m2 0 49 ∧ m2 34 1 ≤ o
    · rw [if_pos c1]
      by_cases c2 : 2 < m2 0 49 ∧ m2 34 2 ≤ o
      · rw [if_pos c2]
        by_cases c3 : 3 < m2 0 49 ∧ m2 34 3 ≤ o
        · rw [if_pos c3]
          refine ⟨by omega, fun j a b => ?_, fun j a b d => by omega⟩
          rcases cases4 j a b with rfl | rfl | rfl | rfl <;> omega
        · rw [if_neg c3]
          refine ⟨by omega, fun j a b => ?_, fun j a b d => ?_⟩
          · rcases cases4 j a (by omega) with rfl | rfl | rfl | rfl <;> omega
          · rcases cases4 j (by omega) b with rfl | rfl | rfl | rfl <;> omega
      · rw [if_neg c2]
        refine ⟨by omega, fun j a b => ?_, fun j a b d => ?_⟩
        · rcases cases4 j a (by omega) with rfl | rfl | rfl | rfl <;> omega
        · rcases cases4 j (by omega) b with rfl | rfl | rfl | rfl <;> omega
    · rw [if_neg c1]
      refine ⟨by omega, fun j a b => ?_, fun j a b d => ?_⟩
      · rcases cases4 j a (by omega) with rfl | rfl | rfl | rfl <;> omega
      · rcases cases4 j (by omega) b with rfl | rfl | rfl | rfl <;> omega
  · rw [if_neg c0]
    refine ⟨by omega, fun j a b => by omega, fun j a b d => ?_⟩
    rcases cases4 j (by omega) b with rfl | rfl | rfl | rfl <;> omega
theorem wi_pn {m m2 : IH} {o j : Int} (hB : RB m m2) (hj : 0 ≤ j ∧ j < 4) : wi m2 o j = if j < pn m2 o then m2 33 j else -1 := by
  obtain ⟨h1, h2, h3⟩ := pn_spec (o := o) hB
  unfold wi
  by_cases c1 : j < pn m2 o
  · rw [if_pos c1, if_pos ⟨hj.1, by omega, h2 j hj.1 c1⟩]
  · rw [if_neg c1, if_neg]
    intro q
    have := h3 j (by omega) hj.2 q.2.1
    omega
