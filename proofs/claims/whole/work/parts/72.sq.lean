/-- the row of states that wait -/
def WT (m : IH) (L : Int) : Prop := (0 ≤ m 0 42 ∧ m 0 42 ≤ 18025) ∧ (∀ k, 0 ≤ k → k < m 0 42 → 0 ≤ m 31 k ∧ m 31 k / 721 ≤ L ∧ m 31 k % 721 < m 0 15 ∧ m 30 (m 31 k) = 1) ∧ (∀ k l, 0 ≤ k → k < l → l < m 0 42 → m 31 k ≠ m 31 l) ∧ ∀ s, 0 ≤ s → s / 721 ≤ L → s % 721 < m 0 15 → m 30 s = 1 → ∃ k, 0 ≤ k ∧ k < m 0 42 ∧ m 31 k = s
/-- a state on both sides: unseen, waiting, taken -/
def SS (c m : IH) (j x : Int) : Prop := (m 30 (j * 721 + x) = 0 ∧ c 72 (60 + (24 - j) * 721 + x) = 0) ∨ (m 30 (j * 721 + x) = 1 ∧ 0 < c 72 (60 + (24 - j) * 721 + x)) ∨ (m 30 (j * 721 + x) = 2 ∧ c 72 (60 + (24 - j) * 721 + x) = -1)
/-- a word on both sides; u: the word whose end was just opened -/
def SW (c m : IH) (L u w : Int) : Prop := ((m 32 w = -1 ∧ c 72 w ≤ 0) ∨ (0 ≤ m 32 w ∧ 0 < c 72 w)) ∧ (w ≠ u → (c 72 w = 0 ↔ m 30 (L * 721 + m 7 w) ≠ 2)) ∧ (w = u → c 72 w = 0)
/-- costs and answers are small -/
def CB (m : IH) (L : Int) : Prop := (∀ j x, 0 ≤ j → j ≤ L → 0 ≤ x → x < m 0 15 → m 30 (j * 721 + x) ≠ 0 → 0 ≤ m 29 (j * 721 + x) ∧ m 29 (j * 721 + x) ≤ j * 99) ∧ ∀ w, 0 ≤ w → w < m 0 10 → -1 ≤ m 32 w ∧ m 32 w ≤ 2475
/-- the search on both sides -/
def SQ (c m : IH) (L n i u : Int) : Prop := (HPz c (Kf m) n (-1) ∧ c 67 7 = n) ∧ (SEEN c ∧ c 67 10 = n + i ∧ 0 ≤ i) ∧ (∀ j x, 0 ≤ j → j ≤ L → 0 ≤ x → x < m 0 15 → SS c m j x) ∧ ((∀ t, 60 ≤ t → t < 18085 → c 72 t ≠ 0 → 24 - (t - 60) / 721 ≤ L ∧ (t - 60) % 721 < m 0 15) ∧ ∀ w, 0 ≤ w → w < 60 → c 72 w ≠ 0 → w < m 0 10) ∧ (∀ w, 0 ≤ w → w < m 0 10 → SW c m L u w) ∧ WT m L ∧ (c 67 6 = m 0 43 ∧ 0 ≤ m 0 43 ∧ m 0 43 ≤ i) ∧ (c 67 2 = m 0 49 ∧ 0 ≤ m 0 49 ∧ m 0 49 ≤ 60 ∧ ∀ j, 0 ≤ j → j < m 0 49 → c 68 j = m 33 j ∧ c 69 j = m 34 j ∧ c 70 j = m 35 j) ∧ CB m L
/-- slots keep what they say, but for item t -/
def SK (c c' : IH) (t : Int) : Prop := ∀ x, x ≠ t → (c 72 x ≤ 0 → c' 72 x = c 72 x) ∧ (0 < c 72 x → 0 < c' 72 x)
theorem SS.sk {c c' m : IH} {j x t : Int} (h : SS c m j x) (hs : SK c c' t) (hne : 60 + (24 - j) * 721 + x ≠ t) : SS c' m j x := by
  have := hs _ hne
  rcases h with ⟨a, b⟩ | ⟨a, b⟩ | ⟨a, b⟩
  · exact Or.inl ⟨a, by rw [this.1 (by omega)]; exact b⟩
  · exact Or.inr (Or.inl ⟨a, this.2 b⟩)
  · exact Or.inr (Or.inr ⟨a, by rw [this.1 (by omega)]; exact b⟩)
theorem SW.sk {c c' m : IH} {L u w t : Int} (h : SW c m L u w) (hs : SK c c' t) (hne : w ≠ t) : SW c' m L u w := by
  have := hs w hne
  obtain ⟨h1, h2, h3⟩ := h
  have z : c' 72 w = 0 ↔ c 72 w = 0 := by
    constructor
    · intro q
      by_cases cc : c 72 w ≤ 0
      · rw [← this.1 cc]; exact q
      · have := this.2 (by omega); omega
    · intro q
      rw [this.1 (by omega)]; exact q
  refine ⟨?_, fun q => z.trans (h2 q), fun q => z.mpr (h3 q)⟩
  rcases h1 with ⟨a, b⟩ | ⟨a, b⟩
  · exact Or.inl ⟨a, by rw [this.1 b]; exact b⟩
  · exact Or.inr ⟨a, this.2 b⟩
theorem SK.nz {c c' : IH} {t x : Int} (hs : SK c c' t) (hne : x ≠ t) : c' 72 x ≠ 0 ↔ c 72 x ≠ 0 := by
  have := hs x hne
  constructor
  · intro q z
    exact q (by rw [this.1 (by omega)]; exact z)
  · intro q z
    by_cases cc : c 72 x ≤ 0
    · rw [this.1 cc] at z; exact q z
    · have := this.2 (by omega); omega
section
variable {N : Nat} {c m : IH} {L n i u : Int}
/-- there is room for an item that is unseen -/
theorem SQ.room (H : SQ c m L n i u) {t : Int} (ht : 0 ≤ t ∧ t < 18085) (h0 : c 72 t = 0) : c 67 10 < 18085 ∧ n < 18085 := by
  obtain ⟨h1, ⟨⟨s1, s2, s3, s4⟩, h2, h3⟩, h4⟩ := H
  have := pigR (h := c) (r := 73) (n := c 67 10) (M := 18085) (t := t) (fun k a b => ⟨(s2 k a b).1, (s2 k a b).2.1⟩) s3 ht (fun k a b q => by have := (s2 k a b).2.2; rw [q] at this; exact this h0)
  omega
theorem WT.room (H : WT m L) (hL : L ≤ 24) {s : Int} (hs : 0 ≤ s ∧ s < 18025) (h0 : m 30 s ≠ 1) : m 0 42 < 18025 := by
  obtain ⟨a1, a2, a3, a4⟩ := H
  exact pigR (h := m) (r := 31) (n := m 0 42) (M := 18025) (t := s) (fun k p q => by have := a2 k p q; omega) a3 hs (fun k p q e => by have := (a2 k p q).2.2.2; rw [e] at this; exact h0 this)
/-- a state comes to wait, on both sides -/
theorem putS {j x v : Int} (hN : 20000 ≤ N) (H : SQ c m L n i u) (hL : 0 ≤ L ∧ L ≤ 24) (hn : m 0 15 ≤ 721) (hW : m 0 10 ≤ 60) (hj : 0 ≤ j ∧ j ≤ L) (hx : 0 ≤ x ∧ x < m 0 15) (hv : 0 ≤ v ∧ v ≤ j * 99) (hr : 0 ≤ m 26 j ∧ m 26 j ≤ 2400) (hl : 0 ≤ m 11 x ∧ m 11 x ≤ 99) : ∃ c' m' n', G_X6_put N c (60 + (24 - j) * 721 + x) (v + m 26 j + m 11 x) = some c' ∧ G_X12_waitsFor N m (j * 721 + x) v = some m' ∧ SQ c' m' L n' i u ∧ WF m m' (j * 721 + x) v ∧ (∀ a b, a < 67 ∨ 73 < a → c' a b = c a b) := by
  obtain ⟨⟨q1, q2⟩, ⟨q3, q4, q5⟩, q6, ⟨q7, q7'⟩, q8, q9, q10, q11, q12, q13⟩ := id H
  have hS := q6 j x hj.1 hj.2 hx.1 hx.2
  have hK := Kf_s (m := m) (j := j) (x := x) (by omega) (by omega)
  have key : ∀ m', m' 29 (j * 721 + x) = v → (∀ b, b ≠ j * 721 + x → m' 29 b = m 29 b) → (∀ b, m' 26 b = m 26 b) → (∀ b, m' 11 b = m 11 b) → (∀ b, m' 32 b = m 32 b) → ∀ t, 0 ≤ t → t < 18085 → Kf m' t = uk (Kf m) (60 + (24 - j) * 721 + x) ((v + m 26 j + m 11 x) * 32768 + (60 + (24 - j) * 721 + x)) t := by
    intro m' e1 e2 e3 e4 e5 t t1 t2
    by_cases ct : t = 60 + (24 - j) * 721 + x
    · rw [ct, uk_eq, Kf_s (by omega) (by omega), e1, e3, e4]
    · rw [uk_ne ct]
      unfold Kf
      by_cases c6 : t < 60
      · rw [if_pos c6, if_pos c6, e5]
      · rw [if_neg c6, if_neg c6]
        unfold bnd
        rw [e3, e4, e2 _ (by unfold sto; omega)]
  rcases hS with ⟨s1, s2⟩ | ⟨s1, s2⟩ | ⟨s1, s2⟩
  · -- new
    have hroom := H.room (t := 60 + (24 - j) * 721 + x) (by omega) s2
    have hwr := q9.room hL.2 (s := j * 721 + x) (by omega) (by omega)
    have hw1 := q9.1
    obtain ⟨w1, w2, w3, w4⟩ := q9
    obtain ⟨t1, t2, t3, t4⟩ := q3
    obtain ⟨c', e1, e2, e3, e4, e5, e6, e7, e8⟩ := putNew (K := Kf m) (t := 60 + (24 - j) * 721 + x) (b := v + m 26 j + m 11 x) hN q1 q2 hroom.2 (by omega) (by omega) (by omega) s2
    have hm := waitsM2 (N := N) (v := v) (show 0 ≤ j * 721 + x ∧ j * 721 + x < 18025 by omega) s1 (by omega)
    generalize hm' : xv (xv (xv (xv m 31 (m 0 42) (j * 721 + x)) 0 42 (m 0 42 + 1)) 30 (j * 721 + x) 1) 29 (j * 721 + x) v = m' at hm
    have mo : ∀ a b, ¬ (a = 29 ∧ b = j * 721 + x) → ¬ (a = 30 ∧ b = j * 721 + x) → ¬ (a = 31 ∧ b = m 0 42) → ¬ (a = 0 ∧ b = 42) → m' a b = m a b := fun a b z1 z2 z3 z4 => by rw [← hm', xv_ne z1, xv_ne z2, xv_ne z4, xv_ne z3]
    have m29 : m' 29 (j * 721 + x) = v := by rw [← hm', xv_eq rfl rfl]
    have m30 : m' 30 (j * 721 + x) = 1 := by rw [← hm', xv_ne (by omega), xv_eq rfl rfl]
    have m42 : m' 0 42 = m 0 42 + 1 := by rw [← hm', xv_ne (by omega), xv_ne (by omega), xv_eq rfl rfl]
    have m31 : m' 31 (m 0 42) = j * 721 + x := by rw [← hm', xv_ne (by omega), xv_ne (by omega), xv_ne (by omega), xv_eq rfl rfl]
    have m15 : m' 0 15 = m 0 15 := mo _ _ (by omega) (by omega) (by omega) (by omega)
    have m10 : m' 0 10 = m 0 10 := mo _ _ (by omega) (by omega) (by omega) (by omega)
    have m30' : ∀ b, b ≠ j * 721 + x → m' 30 b = m 30 b := fun b z => mo _ _ (by omega) (by omega) (by omega) (by omega)
    have m32 : ∀ b, m' 32 b = m 32 b := fun b => mo _ _ (by omega) (by omega) (by omega) (by omega)
    have m7 : ∀ b, m' 7 b = m 7 b := fun b => mo _ _ (by omega) (by omega) (by omega) (by omega)
    have cA : ∀ a b, a < 67 ∨ 73 < a → c' a b = c a b := fun a b z => e6 a b (by omega) (by omega) (by omega) (by omega)
    have c67 : ∀ b, b ≠ 7 → b ≠ 10 → c' 67 b = c 67 b := fun b z1 z2 => e6 _ _ (by omega) (by omega) (by omega) (by omega)
    refine ⟨c', m', n + 1, e1, hm, ⟨⟨e2.cg (key m' m29 (fun b z => mo _ _ (by omega) (by omega) (by omega) (by omega)) (fun b => mo _ _ (by omega) (by omega) (by omega) (by omega)) (fun b => mo _ _ (by omega) (by omega) (by omega) (by omega)) m32), e3⟩, ⟨⟨by omega, fun k k1 k2 => ?_, fun k l k1 k2 k3 => ?_, fun t z1 z2 z3 => ?_⟩, by omega, q5⟩, fun j' x' z1 z2 z3 z4 => ?_, ⟨fun t z1 z2 z3 => ?_, fun w z1 z2 z3 => ?_⟩, fun w z1 z2 => ?_, ⟨by omega, fun k k1 k2 => ?_, fun k l k1 k2 k3 => ?_, fun s z1 z2 z3 z4 => ?_⟩, ?_, ?_, fun j' x' z1 z2 z3 z4 z5 => ?_, fun w z1 z2 => ?_⟩, Or.inr (Or.inr ⟨Or.inl s1, m30, m29, fun a b z1 z2 z3 z4 => mo a b z1 z2 (by omega) z4⟩), cA⟩
    · by_cases ck : k = c 67 10
      · subst ck
        rw [e5]
        exact ⟨by omega, by omega, by omega⟩
      · have := t2 k k1 (by omega)
        rw [e6 73 k (by omega) (by omega) (by omega) (by omega)]
        have ne : c 73 k ≠ 60 + (24 - j) * 721 + x := fun z => by rw [z] at this; omega
        exact ⟨this.1, this.2.1, (SK.nz (t := 60 + (24 - j) * 721 + x) e8 ne).mpr this.2.2⟩
    · rw [e6 73 k (by omega) (by omega) (by omega) (by omega)]
      by_cases cl : l = c 67 10
      · subst cl
        rw [e5]
        intro z
        have := t2 k k1 (by omega)
        rw [z] at this
        omega
      · rw [e6 73 l (by omega) (by omega) (by omega) (by omega)]
        exact t3 k l k1 k2 (by omega)
    · by_cases ct : t = 60 + (24 - j) * 721 + x
      · exact ⟨c 67 10, by omega, by omega, by rw [e5, ct]⟩
      · obtain ⟨k, k1, k2, k3⟩ := t4 t z1 z2 ((SK.nz e8 ct).mp z3)
        exact ⟨k, k1, by omega, by rw [e6 73 k (by omega) (by omega) (by omega) (by omega)]; exact k3⟩
    · rw [m15] at z4
      by_cases cj : j' * 721 + x' = j * 721 + x
      · have : j' = j := by omega
        subst this
        have : x' = x := by omega
        subst this
        exact Or.inr (Or.inl ⟨m30, e7⟩)
      · have := (q6 j' x' z1 z2 z3 z4).sk (t := 60 + (24 - j) * 721 + x) e8 (by omega)
        unfold SS
        rw [m30' _ cj]
        exact this
    · rw [m15]
      by_cases ct : t = 60 + (24 - j) * 721 + x
      · subst ct; omega
      · exact q7 t z1 z2 ((SK.nz e8 ct).mp z3)
    · rw [m10]
      exact q7' w z1 z2 ((SK.nz e8 (by omega)).mp z3)
    · rw [m10] at z2
      have := (q8 w z1 z2).sk (t := 60 + (24 - j) * 721 + x) e8 (by omega)
      unfold SW at *
      rw [m32, m7]
      refine ⟨this.1, fun z => ?_, this.2.2⟩
      rw [this.2.1 z]
      by_cases cw : L * 721 + m 7 w = j * 721 + x
      · rw [cw, s1, m30]; omega
      · rw [m30' _ cw]
    · rw [m15]
      by_cases ck : k = m 0 42
      · subst ck
        rw [m31, m30]; omega
      · have := w2 k k1 (by omega)
        rw [mo 31 k (by omega) (by omega) (by omega) (by omega), m30' _ (fun z => by rw [z] at this; omega)]
        exact this
    · rw [mo 31 k (by omega) (by omega) (by omega) (by omega)]
      by_cases cl : l = m 0 42
      · subst cl
        rw [m31]
        intro z
        have := w2 k k1 (by omega)
        rw [z] at this
        omega
      · rw [mo 31 l (by omega) (by omega) (by omega) (by omega)]
        exact w3 k l k1 k2 (by omega)
    · rw [m15] at z3
      by_cases cs : s = j * 721 + x
      · exact ⟨m 0 42, by omega, by omega, by rw [m31, cs]⟩
      · rw [m30' _ cs] at z4
        obtain ⟨k, k1, k2, k3⟩ := w4 s z1 z2 z3 z4
        exact ⟨k, k1, by omega, by rw [mo 31 k (by omega) (by omega) (by omega) (by omega)]; exact k3⟩
    · rw [c67 6 (by omega) (by omega), mo 0 43 (by omega) (by omega) (by omega) (by omega)]
      exact q10
    · rw [c67 2 (by omega) (by omega), mo 0 49 (by omega) (by omega) (by omega) (by omega)]
      refine ⟨q11.1, q11.2.1, q11.2.2.1, fun k k1 k2 => ?_⟩
      rw [e6 68 k (by omega) (by omega) (by omega) (by omega), e6 69 k (by omega) (by omega) (by omega) (by omega), e6 70 k (by omega) (by omega) (by omega) (by omega), mo 33 k (by omega) (by omega) (by omega) (by omega), mo 34 k (by omega) (by omega) (by omega) (by omega), mo 35 k (by omega) (by omega) (by omega) (by omega)]
      exact q11.2.2.2 k k1 k2
    · rw [m15] at z4
      by_cases cj : j' * 721 + x' = j * 721 + x
      · rw [cj, m29]
        have : j' = j := by omega
        omega
      · rw [m30' _ cj] at z5
        rw [mo 29 _ (by omega) (by omega) (by omega) (by omega)]
        exact q12 j' x' z1 z2 z3 z4 z5
    · rw [m10] at z2
      rw [m32]
      exact q13 w z1 z2
  · -- waiting
    have hcb := q12 j x hj.1 hj.2 hx.1 hx.2 (by omega)
    rcases putOld (K := Kf m) (t := 60 + (24 - j) * 721 + x) (b := v + m 26 j + m 11 x) hN q1 q2 (by omega) (by omega) s2 with ⟨g1, g2⟩ | ⟨g1, c', e1, e2, e3, e4⟩
    · have hle : m 29 (j * 721 + x) ≤ v := by rw [hK] at g1; omega
      exact ⟨c, m, n, g2, waitsM0 (by omega) (Or.inr ⟨s1, hle⟩), H, Or.inr (Or.inl ⟨s1, hle, rfl⟩), fun _ _ _ => rfl⟩
    · have hlt : v < m 29 (j * 721 + x) := by rw [hK] at g1; omega
      have hm := waitsM1 (N := N) (m := m) (s := j * 721 + x) (v := v) (by omega) ⟨s1, hlt⟩
      generalize hm' : xv (xv m 30 (j * 721 + x) 1) 29 (j * 721 + x) v = m' at hm
      have mo : ∀ a b, ¬ (a = 29 ∧ b = j * 721 + x) → ¬ (a = 30 ∧ b = j * 721 + x) → m' a b = m a b := fun a b z1 z2 => by rw [← hm', xv_ne z1, xv_ne z2]
      have m29 : m' 29 (j * 721 + x) = v := by rw [← hm', xv_eq rfl rfl]
      have m30 : ∀ b, m' 30 b = m 30 b := fun b => by
        rw [← hm', xv_ne (by omega)]
        by_cases cb : b = j * 721 + x
        · rw [cb, xv_eq rfl rfl, s1]
        · rw [xv_ne (by omega)]
      have m15 : m' 0 15 = m 0 15 := mo _ _ (by omega) (by omega)
      have m10 : m' 0 10 = m 0 10 := mo _ _ (by omega) (by omega)
      have m32 : ∀ b, m' 32 b = m 32 b := fun b => mo _ _ (by omega) (by omega)
      have m7 : ∀ b, m' 7 b = m 7 b := fun b => mo _ _ (by omega) (by omega)
      have sk : SK c c' (60 + (24 - j) * 721 + x) := e3.2
      have nz : ∀ t, c' 72 t ≠ 0 ↔ c 72 t ≠ 0 := fun t => by
        by_cases ct : t = 60 + (24 - j) * 721 + x
        · subst ct; omega
        · exact sk.nz ct
      have cA : ∀ a b, a ≠ 71 → a ≠ 72 → c' a b = c a b := e3.1
      refine ⟨c', m', n, e1, hm, ⟨⟨e2.cg (key m' m29 (fun b z => mo _ _ (by omega) (by omega)) (fun b => mo _ _ (by omega) (by omega)) (fun b => mo _ _ (by omega) (by omega)) m32), by rw [cA _ _ (by omega) (by omega)]; exact q2⟩, ⟨?_, by rw [cA _ _ (by omega) (by omega)]; exact q4, q5⟩, fun j' x' z1 z2 z3 z4 => ?_, ⟨fun t z1 z2 z3 => ?_, fun w z1 z2 z3 => ?_⟩, fun w z1 z2 => ?_, ?_, ?_, ?_, fun j' x' z1 z2 z3 z4 z5 => ?_, fun w z1 z2 => ?_⟩, Or.inr (Or.inr ⟨Or.inr ⟨s1, hlt⟩, by rw [m30]; exact s1, m29, fun a b z1 z2 z3 z4 => mo a b z1 z2⟩), fun a b z => cA a b (by omega) (by omega)⟩
      · obtain ⟨t1, t2, t3, t4⟩ := q3
        unfold SEEN
        simp only [cA 67 _ (by omega) (by omega), cA 73 _ (by omega) (by omega), nz]
        exact ⟨t1, t2, t3, t4⟩
      · rw [m15] at z4
        unfold SS
        rw [m30]
        by_cases cj : j' * 721 + x' = j * 721 + x
        · have : j' = j := by omega
          subst this
          have : x' = x := by omega
          subst this
          exact Or.inr (Or.inl ⟨s1, e4⟩)
        · exact (q6 j' x' z1 z2 z3 z4).sk sk (by omega)
      · rw [m15]
        exact q7 t z1 z2 ((nz t).mp z3)
      · rw [m10]
        exact q7' w z1 z2 ((nz w).mp z3)
      · rw [m10] at z2
        have := (q8 w z1 z2).sk sk (by omega)
        unfold SW at *
        rw [m32, m7, m30]
        exact this
      · have m31 : ∀ b, m' 31 b = m 31 b := fun b => mo _ _ (by omega) (by omega)
        unfold WT at *
        simp only [m30, m15, mo 0 42 (by omega) (by omega), m31]
        exact q9
      · rw [cA 67 6 (by omega) (by omega), mo 0 43 (by omega) (by omega)]
        exact q10
      · rw [cA 67 2 (by omega) (by omega), mo 0 49 (by omega) (by omega)]
        refine ⟨q11.1, q11.2.1, q11.2.2.1, fun k k1 k2 => ?_⟩
        rw [cA 68 k (by omega) (by omega), cA 69 k (by omega) (by omega), cA 70 k (by omega) (by omega), mo 33 k (by omega) (by omega), mo 34 k (by omega) (by omega), mo 35 k (by omega) (by omega)]
        exact q11.2.2.2 k k1 k2
      · rw [m15] at z4
        by_cases cj : j' * 721 + x' = j * 721 + x
        · rw [cj, m29]
          have : j' = j := by omega
          omega
        · rw [m30] at z5
          rw [mo 29 _ (by omega) (by omega)]
          exact q12 j' x' z1 z2 z3 z4 z5
      · rw [m10] at z2
        rw [m32]
        exact q13 w z1 z2
  · -- taken
    exact ⟨c, m, n, putGone (by omega) (by omega), waitsM0 (by omega) (Or.inl s1), H, Or.inl ⟨s1, rfl⟩, fun _ _ _ => rfl⟩
end
