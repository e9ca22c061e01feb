/-- a cell: the class's number j, the reference's row x -/
def CL (c m : IH) (j x : Int) : Prop := c 36 j = m x 0 ∧ (isLt (m x 0) ∨ m x 0 = 63 ∨ m x 0 = 45 ∨ m x 0 = 10) ∧ c 37 j = m x 1 ∧ 0 ≤ m x 1 ∧ m x 1 ≤ 3 ∧ (isLt (m x 0) ∨ m x 1 = 0) ∧ ∀ q, 0 ≤ q → q < m x 1 → c 38 (j * 3 + q) = m x (2 + 2 * q) ∧ c 39 (j * 3 + q) = m x (3 + 2 * q) ∧ 0 ≤ m x (3 + 2 * q) ∧ m x (3 + 2 * q) ≤ 99
/-- a token -/
def TK (c m : IH) (t : Int) : Prop := (0 ≤ c 32 t ∧ c 32 (t + 1) = c 32 t + m 197 t ∧ c 32 (t + 1) ≤ 400 ∧ 1 ≤ m 197 t ∧ m 197 t ≤ 24) ∧ c 33 t = m 199 t ∧ (c 34 t = if t + 1 < m 16 0 ∧ m 201 t = 1 then 1 else 0) ∧ (c 35 t = if m 201 t = 0 then 0 else 1) ∧ ∀ k, 0 ≤ k → k < m 197 t → CL c m (c 32 t + k) (285 + (t * 24 + k))
/-- the reading -/
def RD (c m : IH) : Prop := (c 31 0 = m 16 0 ∧ 0 ≤ m 16 0 ∧ m 16 0 ≤ 40) ∧ ((m 0 26 = 0 ∧ c 31 1 = 0) ∨ (m 0 26 = 1 ∧ c 31 1 = m 17 0 + 1 ∧ 0 ≤ m 17 0 ∧ m 17 0 ≤ 400)) ∧ ∀ t, 0 ≤ t → t < m 16 0 → TK c m t
theorem CL.to {c m m1 : IH} {j x i : Int} (h : CL c m j x) (hj : 0 ≤ j ∧ j < 400) (hf : ∀ b, 0 ≤ b → b < 8 → m1 (2327 + i) b = m x b) : c 36 j = m1 (2327 + i) 0 ∧ (isLt (m1 (2327 + i) 0) ∨ m1 (2327 + i) 0 = 63 ∨ m1 (2327 + i) 0 = 45 ∨ m1 (2327 + i) 0 = 10) ∧ OT c m1 j i ∧ (isLt (m1 (2327 + i) 0) ∨ m1 (2327 + i) 1 = 0) := by
  obtain ⟨h1, h2, h3, h4, h5, h6, h7⟩ := h
  unfold OT
  rw [hf 0 (by omega) (by omega), hf 1 (by omega) (by omega)]
  refine ⟨h1, h2, ⟨hj, h3, h4, h5, fun q q1 q2 => ?_⟩, h6⟩
  rw [hf _ (by omega) (by omega), hf _ (by omega) (by omega)]
  exact h7 q q1 q2
theorem lays7e {N : Nat} {m : IH} {t u v : Int} (f : Nat) (hv : (if u = 0 then t else wr (t + 1)) < v) : G_X12_laysToken_7 N (f + 1) m t u v = ybv (G_X12_laysNet N m) (fun a => some a) := by
  unfold G_X12_laysToken_7 G_X12_laysToken_19
  by_cases c1 : u = 0
  · rw [if_pos c1] at hv ⊢
    rw [if_pos hv]
  · rw [if_neg c1] at hv ⊢
    rw [if_pos hv]
theorem lays7s {N : Nat} {m : IH} {t u v : Int} (f : Nat) (hv : ¬ (if u = 0 then t else wr (t + 1)) < v) : G_X12_laysToken_7 N (f + 1) m t u v = G_X12_laysToken_25 N (G_X12_laysToken_7 N f) N m t u v 0 := by
  unfold G_X12_laysToken_7 G_X12_laysToken_19
  by_cases c1 : u = 0
  · rw [if_pos c1] at hv ⊢
    rw [if_neg hv]
    rfl
  · rw [if_neg c1] at hv ⊢
    rw [if_neg hv]
    rfl
/-- one token laid -/
theorem laysOne {N : Nat} {c m : IH} {t : Int} (hN : 20000 ≤ N) (hT : TK c m t) (ht : 0 ≤ t ∧ t < 40) : ∃ m1, G_X12_laysToken N m t 0 = ybv (G_X12_laysNet N m1) (fun a => some a) ∧ m1 0 33 = m 197 t ∧ CP c m1 (c 32 t) (m 197 t) ∧ ∀ a b, ¬ (a = 0 ∧ b = 33) → ¬ (2327 ≤ a ∧ a < 2375) → m1 a b = m a b := by
  obtain ⟨N', hN'⟩ : ∃ N', N = N' + 2 := ⟨N - 2, by omega⟩
  obtain ⟨h1, h2, h3, h4, h5⟩ := hT
  unfold G_X12_laysToken
  rw [xlet_q, xlet_q]
  have e := lays7s (N := N) (m := xv m 0 33 0) (t := t) (u := 0) (v := t) (N' + 1) (by rw [if_pos rfl]; omega)
  rw [show N' + 1 + 1 = N by omega] at e
  rw [e]
  obtain ⟨m1, g1, g2, g3, g4⟩ := copy25 (N := N) (t := t) (u := 0) (e := t) (n := m 197 t) (k7 := G_X12_laysToken_7 N (N' + 1)) hN ht (by omega) N (xv m 0 33 0) 0 (xv_ne (by omega)) (by omega) (by omega) (by rw [xv_eq rfl rfl]; omega) (by rw [xv_eq rfl rfl]; omega) (by omega)
  rw [xv_eq rfl rfl] at g2 g3 g4
  rw [g1, lays7e N' (by rw [if_pos rfl]; omega)]
  refine ⟨m1, rfl, by omega, fun i i1 i2 => ?_, fun a b q1 q2 => by rw [g3 a b q1 (by omega), xv_ne q1]⟩
  refine (h5 i i1 i2).to (by omega) (fun b b1 b2 => ?_)
  rw [g4 i b (by omega) (by omega) b1 b2, xv_ne (by omega)]
  congr 1
  omega
/-- two tokens laid as one -/
theorem laysTwo {N : Nat} {c m : IH} {t : Int} (hN : 20000 ≤ N) (hT : TK c m t) (hT1 : TK c m (t + 1)) (ht : 0 ≤ t ∧ t + 1 < 40) (hs : m 197 t + m 197 (t + 1) ≤ 24) : ∃ m1, G_X12_laysToken N m t 1 = ybv (G_X12_laysNet N m1) (fun a => some a) ∧ m1 0 33 = m 197 t + m 197 (t + 1) ∧ CP c m1 (c 32 t) (m 197 t + m 197 (t + 1)) ∧ ∀ a b, ¬ (a = 0 ∧ b = 33) → ¬ (2327 ≤ a ∧ a < 2375) → m1 a b = m a b := by
  obtain ⟨N', hN'⟩ : ∃ N', N = N' + 3 := ⟨N - 3, by omega⟩
  obtain ⟨h1, h2, h3, h4, h5⟩ := hT
  obtain ⟨k1, k2, k3, k4, k5⟩ := hT1
  have hw : wr (t + 1) = t + 1 := wr_in (by omega) (by omega)
  unfold G_X12_laysToken
  rw [xlet_q, xlet_q]
  have e := lays7s (N := N) (m := xv m 0 33 0) (t := t) (u := 1) (v := t) (N' + 2) (by rw [if_neg (by omega), hw]; omega)
  rw [show N' + 2 + 1 = N by omega] at e
  rw [e]
  obtain ⟨m1, g1, g2, g3, g4⟩ := copy25 (N := N) (t := t) (u := 1) (e := t) (n := m 197 t) (k7 := G_X12_laysToken_7 N (N' + 2)) hN (by omega) (by omega) N (xv m 0 33 0) 0 (xv_ne (by omega)) (by omega) (by omega) (by rw [xv_eq rfl rfl]; omega) (by rw [xv_eq rfl rfl]; omega) (by omega)
  rw [xv_eq rfl rfl] at g2 g3 g4
  have e2 := lays7s (N := N) (m := m1) (t := t) (u := 1) (v := t + 1) (N' + 1) (by rw [if_neg (by omega), hw]; omega)
  rw [g1, e2]
  have mA : ∀ a b, ¬ (a = 0 ∧ b = 33) → ¬ (2327 ≤ a ∧ a < 2375) → m1 a b = m a b := fun a b q1 q2 => by rw [g3 a b q1 (by omega), xv_ne q1]
  obtain ⟨m2, d1, d2, d3, d4⟩ := copy25 (N := N) (t := t) (u := 1) (e := t + 1) (n := m 197 (t + 1)) (k7 := G_X12_laysToken_7 N (N' + 1)) hN (by omega) (by omega) N m1 0 (mA _ _ (by omega) (by omega)) (by omega) (by omega) (by omega) (by omega) (by omega)
  rw [d1, lays7e N' (by rw [if_neg (by omega), hw]; omega)]
  refine ⟨m2, rfl, by omega, fun i i1 i2 => ?_, fun a b q1 q2 => by rw [d3 a b q1 (by omega), mA a b q1 q2]⟩
  by_cases ci : i < m 197 t
  · refine (h5 i i1 ci).to (by omega) (fun b b1 b2 => ?_)
    rw [d3 _ _ (by omega) (by omega), g4 i b (by omega) (by omega) b1 b2, xv_ne (by omega)]
    congr 1
    omega
  · have := (k5 (i - m 197 t) (by omega) (by omega))
    rw [h1.2.1, show c 32 t + m 197 t + (i - m 197 t) = c 32 t + i by omega] at this
    refine this.to (by omega) (fun b b1 b2 => ?_)
    rw [d4 i b (by omega) (by omega) b1 b2, mA _ _ (by omega) (by omega)]
    congr 1
    omega
theorem laysWord0 {N : Nat} {w L : Int} (hw : 0 ≤ w ∧ w < 60) (hL : 0 ≤ L ∧ L ≤ 12) : ∀ (f : Nat) (m : IH) (v : Int), m 0 33 = L → 0 ≤ v → v ≤ L → L - v < f → ∃ m1, G_X12_laysWord_12 N f m w v = ybv (G_X12_laysNet N m1) (fun a => some a) ∧ (∀ a b, ¬ (2327 + v ≤ a ∧ a < 2375) → m1 a b = m a b) ∧ ∀ i, v ≤ i → i < L → m1 (2327 + i) 0 = m (52 + w) i ∧ m1 (2327 + i) 1 = 0 := by
  intro f
  induction f with
  | zero => intro m v h1 h2 h3 h4; omega
  | succ f ih =>
    intro m v h1 h2 h3 h4
    unfold G_X12_laysWord_12
    rw [h1]
    by_cases c1 : L ≤ v
    · rw [if_pos c1]
      exact ⟨m, rfl, fun _ _ _ => rfl, fun i i1 i2 => by omega⟩
    · rw [if_neg c1]
      (try simp (disch := omega) only [xlet_q, xq_in])
      rw [wr_in (by omega) (by omega)]
      obtain ⟨m1, g1, g2, g3⟩ := ih (xv (xv m (2327 + v) 0 (m (52 + w) v)) (2327 + v) 1 0) (v + 1) (by rw [xv_ne (by omega), xv_ne (by omega)]; exact h1) (by omega) (by omega) (by omega)
      refine ⟨m1, g1, fun a b q => by rw [g2 a b (by omega), xv_ne (by omega), xv_ne (by omega)], fun i i1 i2 => ?_⟩
      by_cases ci : i = v
      · subst ci
        rw [g2 _ _ (by omega), g2 _ _ (by omega), xv_ne (by omega), xv_eq rfl rfl, xv_eq rfl rfl]
        exact ⟨rfl, rfl⟩
      · have := g3 i (by omega) i2
        rw [xv_ne (by omega), xv_ne (by omega)] at this
        exact this
/-- the net of a token, on both sides -/
theorem netOne {N : Nat} {c m : IH} {t : Int} (hN : 20000 ≤ N) (hS : SR c m) (hK : KR c m) (hR : RD c m) (ht : 0 ≤ t ∧ t < m 16 0) : ∃ c' m', G_X4_ofCells N c (c 32 t) (m 197 t) = some c' ∧ G_X12_laysToken N m t 0 = some m' ∧ NetR c' m' (m 197 t) ∧ (∀ a b, a < 57 ∨ 66 < a → c' a b = c a b) ∧ (∀ a b, a ≠ 25 → a ≠ 26 → ¬ (a = 0 ∧ b = 33) → ¬ (2327 ≤ a ∧ a < 2375) → ¬ (2423 ≤ a ∧ a < 5303) → m' a b = m a b) := by
  have hT := hR.2.2 t ht.1 ht.2
  have hb := hT.1
  have h40 := hR.1
  obtain ⟨m1, e1, e2, e3, e4⟩ := laysOne hN hT (by omega)
  obtain ⟨c', m', g1, g2, g3, g4, g5⟩ := netCells (c := c) (m := m1) (L := m 197 t) (st := c 32 t) hN (by omega) (by omega) (hS.mv (e4 _ _ (by omega) (by omega)) (fun a b q1 q2 => e4 _ _ (by omega) (by omega)) (fun a b q1 q2 => e4 _ _ (by omega) (by omega))) (hK.mv (fun b => e4 _ _ (by omega) (by omega))) e3 e2
  rw [e1, g2, ybv_s]
  exact ⟨c', m', g1, rfl, g3, g4, fun a b q1 q2 q3 q4 q5 => by rw [g5 a b q1 q2 q5, e4 a b q3 q4]⟩
/-- the net of two tokens that are one, on both sides -/
theorem netTwo {N : Nat} {c m : IH} {t : Int} (hN : 20000 ≤ N) (hS : SR c m) (hK : KR c m) (hR : RD c m) (ht : 0 ≤ t ∧ t + 1 < m 16 0) (hs : m 197 t + m 197 (t + 1) ≤ 24) : ∃ c' m', G_X4_ofCells N c (c 32 t) (m 197 t + m 197 (t + 1)) = some c' ∧ G_X12_laysToken N m t 1 = some m' ∧ NetR c' m' (m 197 t + m 197 (t + 1)) ∧ (∀ a b, a < 57 ∨ 66 < a → c' a b = c a b) ∧ (∀ a b, a ≠ 25 → a ≠ 26 → ¬ (a = 0 ∧ b = 33) → ¬ (2327 ≤ a ∧ a < 2375) → ¬ (2423 ≤ a ∧ a < 5303) → m' a b = m a b) := by
  have hT := hR.2.2 t ht.1 (by omega)
  have hT1 := hR.2.2 (t + 1) (by omega) ht.2
  have hb := hT.1
  have hb1 := hT1.1
  have h40 := hR.1
  obtain ⟨m1, e1, e2, e3, e4⟩ := laysTwo hN hT hT1 (by omega) hs
  obtain ⟨c', m', g1, g2, g3, g4, g5⟩ := netCells (c := c) (m := m1) (L := m 197 t + m 197 (t + 1)) (st := c 32 t) hN (by omega) (by omega) (hS.mv (e4 _ _ (by omega) (by omega)) (fun a b q1 q2 => e4 _ _ (by omega) (by omega)) (fun a b q1 q2 => e4 _ _ (by omega) (by omega))) (hK.mv (fun b => e4 _ _ (by omega) (by omega))) e3 e2
  rw [e1, g2, ybv_s]
  exact ⟨c', m', g1, rfl, g3, g4, fun a b q1 q2 q3 q4 q5 => by rw [g5 a b q1 q2 q5, e4 a b q3 q4]⟩
/-- the net of a word read surely, on both sides -/
theorem netSure {N : Nat} {c m : IH} {w : Int} (hN : 20000 ≤ N) (hS : SR c m) (hK : KR c m) (hw : 0 ≤ w ∧ w < 60) (h5 : c 5 w = m 5 w) (hL : 1 ≤ m 5 w ∧ m 5 w ≤ 12) (hs : ∀ k, 0 ≤ k → k < m 5 w → c 8 (w * 12 + k) = m (52 + w) k ∧ sg (m (52 + w) k)) : ∃ c' m', G_X4_ofWord N c w = some c' ∧ G_X12_laysWord N m w = some m' ∧ NetR c' m' (m 5 w) ∧ (∀ a b, a < 57 ∨ 66 < a → c' a b = c a b) ∧ (∀ a b, a ≠ 25 → a ≠ 26 → ¬ (a = 0 ∧ b = 33) → ¬ (2327 ≤ a ∧ a < 2375) → ¬ (2423 ≤ a ∧ a < 5303) → m' a b = m a b) := by
  obtain ⟨m1, e1, e2, e3⟩ := laysWord0 (N := N) (w := w) (L := m 5 w) hw (by omega) N (xv m 0 33 (m 5 w)) 0 (xv_eq rfl rfl) (by omega) (by omega) (by omega)
  have e4 : ∀ a b, ¬ (a = 0 ∧ b = 33) → ¬ (2327 ≤ a ∧ a < 2375) → m1 a b = m a b := fun a b q1 q2 => by rw [e2 a b (by omega), xv_ne q1]
  obtain ⟨c', m', g1, g2, g3, g4, g5⟩ := netWord (c := c) (m := m1) (L := m 5 w) (w := w) hN hw (by omega) h5 (hS.mv (e4 _ _ (by omega) (by omega)) (fun a b q1 q2 => e4 _ _ (by omega) (by omega)) (fun a b q1 q2 => e4 _ _ (by omega) (by omega))) (hK.mv (fun b => e4 _ _ (by omega) (by omega))) (fun i i1 i2 => by
    have := e3 i i1 i2
    rw [xv_ne (by omega)] at this
    rw [this.1, this.2]
    exact ⟨(hs i i1 i2).1, (hs i i1 i2).2, rfl⟩) (by rw [e2 _ _ (by omega), xv_eq rfl rfl])
  unfold G_X12_laysWord
  (try simp (disch := omega) only [xlet_q, xq_in])
  rw [e1, g2, ybv_s]
  exact ⟨c', m', g1, rfl, g3, g4, fun a b q1 q2 q3 q4 q5 => by rw [g5 a b q1 q2 q5, e4 a b q3 q4]⟩
