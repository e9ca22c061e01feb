/-- the rests of the places behind one -/
def RS (c m : IH) (L v : Int) : Prop := ∀ j, v < j → j ≤ L → c 66 j = m 26 j ∧ 0 ≤ m 26 j ∧ m 26 j ≤ (L - j) * 99
/-- no edge is below the rest of its place -/
def TI (m : IH) (i k : Int) : Prop := ∀ e, 0 ≤ e → e < k → m 26 i ≤ m (2423 + (i * 60 + e)) 1 + m 26 (m (2423 + (i * 60 + e)) 0)
theorem rest0 {N : Nat} {L v e0 k : Int} {k45 k17 : IH → Int → Option IH} (hL : 0 ≤ L ∧ L ≤ 24) (hv : 0 ≤ v ∧ v < L) (h0 : 0 ≤ e0 ∧ e0 + k ≤ 624) (hk : 1 ≤ k ∧ k ≤ 26) : ∀ (f : Nat) (c m : IH) (e : Int), EMg c m L v e0 k → c 59 (v + 1) = e0 + k → RS c m L v → c 66 v = m 26 v → 0 ≤ m 26 v → m 26 v ≤ 1000000 → (0 < e → m 26 v ≤ (L - v) * 99) → TI m v e → 0 ≤ e → e ≤ k → k - e < f → ∃ c' m', G_X4_end_64 N k45 f c v (e0 + e) = k45 c' (v - 1) ∧ G_X12_laysNet_37 N k17 f m v e = k17 m' (v - 1) ∧ (∀ a b, ¬ (a = 66 ∧ b = v) → c' a b = c a b) ∧ (∀ a b, ¬ (a = 26 ∧ b = v) → m' a b = m a b) ∧ c' 66 v = m' 26 v ∧ 0 ≤ m' 26 v ∧ m' 26 v ≤ (L - v) * 99 ∧ TI m' v k := by
  intro f
  induction f with
  | zero => intro c m e h1 h2 h3 h4 h5 h6 h7 h8 h9 h10; omega
  | succ f ih =>
    intro c m e h1 h2 h3 h4 h5 h6 h7 h8 h9 h10 h11
    unfold G_X4_end_64 G_X12_laysNet_37
    have h25 := h1.1
    (try simp (disch := omega) only [xlet_q, xq_in])
    by_cases c1 : k ≤ e
    · rw [if_pos (by omega), if_pos (by omega), wr_in (by omega) (by omega)]
      have : e = k := by omega
      subst this
      exact ⟨c, m, rfl, rfl, fun _ _ _ => rfl, fun _ _ _ => rfl, h4, h5, h7 (by omega), h8⟩
    · rw [if_neg (by omega), if_neg (by omega)]
      obtain ⟨t1, t2, t3, t4, t5, t6, t7, t8, t9⟩ := h1.2 e h9 (by omega)
      have hr := h3 (m (2423 + (v * 60 + e)) 0) (by omega) (by omega)
      rw [t2, t3]
      (try simp (disch := omega) only [xlet_q, xq_in])
      rw [hr.1, h4, gless, yb_s]
      rw [wr_in (show -2147483648 ≤ m (2423 + (v * 60 + e)) 1 + m 26 (m (2423 + (v * 60 + e)) 0) by omega) (by omega), wr_in (show -2147483648 ≤ e0 + e + 1 by omega) (by omega), wr_in (show -2147483648 ≤ e + 1 by omega) (by omega), Int.add_assoc e0 e 1]
      have hb : m 26 (m (2423 + (v * 60 + e)) 0) ≤ (L - (v + 1)) * 99 := by
        have := hr.2.2
        omega
      have hTI : TI (xv m 26 v (min (m 26 v) (m (2423 + (v * 60 + e)) 1 + m 26 (m (2423 + (v * 60 + e)) 0)))) v (e + 1) := by
        intro e' q1 q2
        have ti := h1.2 e' q1 (by omega)
        rw [xv_eq rfl rfl, xv_ne (show ¬ ((2423 + (v * 60 + e') : Int) = 26 ∧ (1 : Int) = v) by omega), xv_ne (show ¬ ((2423 + (v * 60 + e') : Int) = 26 ∧ (0 : Int) = v) by omega), xv_ne (show ¬ ((26 : Int) = 26 ∧ m (2423 + (v * 60 + e')) 0 = v) by have := ti.2.2.2.2.2.1; omega)]
        by_cases ce : e' = e
        · subst ce; omega
        · have := h8 e' q1 (by omega); omega
      obtain ⟨c', m', g1, g2, g3, g4, g5⟩ := ih (xv c 66 v (min (m 26 v) (m (2423 + (v * 60 + e)) 1 + m 26 (m (2423 + (v * 60 + e)) 0)))) (xv m 26 v (min (m 26 v) (m (2423 + (v * 60 + e)) 1 + m 26 (m (2423 + (v * 60 + e)) 0)))) (e + 1) ((h1.cv (fun a b q1 q2 => xv_ne (by omega))).mv (xv_ne (by omega)) (fun a b q1 q2 => xv_ne (by omega))) (by rw [xv_ne (by omega)]; exact h2) (fun j j1 j2 => by rw [xv_ne (by omega), xv_ne (by omega)]; exact h3 j j1 j2) (by rw [xv_eq rfl rfl, xv_eq rfl rfl]) (by rw [xv_eq rfl rfl]; omega) (by rw [xv_eq rfl rfl]; omega) (fun _ => by rw [xv_eq rfl rfl]; omega) hTI (by omega) (by omega) (by omega)
      exact ⟨c', m', g1, g2, fun a b q => by rw [g3 a b q, xv_ne q], fun a b q => by rw [g4 a b q, xv_ne q], g5⟩
/-- a net laid out on both sides -/
def NetR (c m : IH) (L : Int) : Prop := (0 ≤ L ∧ L ≤ 24) ∧ (c 57 4 = L ∧ m 0 33 = L ∧ c 57 5 = c 59 L ∧ c 59 (L + 1) = c 59 L ∧ c 59 0 = 0) ∧ (∀ i, 0 ≤ i → i < L → (0 ≤ c 59 i ∧ c 59 i < c 59 (i + 1) ∧ c 59 (i + 1) ≤ c 59 i + 26 ∧ c 59 (i + 1) ≤ 624) ∧ EMg c m L i (c 59 i) (c 59 (i + 1) - c 59 i)) ∧ RS c m L (-1) ∧ ∀ i, 0 ≤ i → i < L → TI m i (m 25 i)
theorem rests0 {N : Nat} {m0 : IH} {L : Int} (hN : 20000 ≤ N) : ∀ (f : Nat) (c m : IH) (v : Int), PR c m0 L → Mid N c m0 L L → c 59 (L + 1) = c 59 L → SM m0 m → -1 ≤ v → v < L → RS c m L v → (∀ i, v < i → i < L → EMg c m L i (c 59 i) (c 59 (i + 1) - c 59 i) ∧ TI m i (m 25 i)) → v + 1 < f → ∃ c' m', G_X4_end_45 N f c v = some c' ∧ G_X12_laysNet_17 N f m v = some m' ∧ NetR c' m' L ∧ SM m0 m' ∧ (∀ a b, a ≠ 66 → c' a b = c a b) ∧ (∀ a b, a ≠ 25 → a ≠ 26 → ¬ (2423 ≤ a ∧ a < 5303) → m' a b = m a b) := by
  intro f
  induction f with
  | zero => intro c m v h1 h2 h3 h4 h5 h6 h7 h8 h9; omega
  | succ f ih =>
    intro c m v h1 h2 h3 h4 h5 h6 h7 h8 h9
    have hL := h1.1.1
    unfold G_X4_end_45 G_X12_laysNet_17
    by_cases c1 : v < 0
    · rw [if_pos c1, if_pos c1]
      have : v = -1 := by omega
      subst this
      refine ⟨c, m, rfl, rfl, ⟨hL, ⟨h1.1.2.1, ?_, h2.1.symm, h3, h2.2.2.2⟩, fun i i1 i2 => ?_, h7, fun i i1 i2 => (h8 i (by omega) i2).2⟩, h4, fun _ _ _ => rfl, fun _ _ _ _ _ => rfl⟩
      · rw [h4.1]; exact h1.1.2.2.1
      · have a1 := (h2.2.2.1 i i1 i2).1
        have a2 := h2.le (L - (i + 1)).toNat (i + 1) (by omega) (by omega)
        have a3 := h2.2.1
        have a4 := h2.1
        exact ⟨by omega, (h8 i (by omega) i2).1⟩
    · rw [if_neg c1, if_neg c1]
      have hM := h2.2.2.1 v (by omega) h6
      obtain ⟨m1, e1, e2, e3⟩ := hM.2 m h4
      have hle := h2.le (L - (v + 1)).toNat (v + 1) (by omega) (by omega)
      have h57 := h2.2.1
      have h59 := h2.1
      rw [e1, ybv_s]
      (try simp (disch := omega) only [xlet_q, xq_in])
      have x59 : xv c 66 v 1000000 59 v = c 59 v := xv_ne (by omega)
      rw [x59]
      have e2' : EMg (xv c 66 v 1000000) (xv m1 26 v 1000000) L v (c 59 v) (c 59 (v + 1) - c 59 v) := (e2.cv (fun a b q1 q2 => xv_ne (by omega))).mv (xv_ne (by omega)) (fun a b q1 q2 => xv_ne (by omega))
      have mA : ∀ a b, ¬ (a = 25 ∧ b = v) → ¬ (2423 + v * 60 ≤ a ∧ a < 2423 + v * 60 + 60) → m1 a b = m a b := fun a b q1 q2 => e3 a b q1 (by omega)
      obtain ⟨c', m', g1, g2, g3, g4, g5, g6, g7, g8⟩ := rest0 (N := N) (L := L) (v := v) (e0 := c 59 v) (k := c 59 (v + 1) - c 59 v) (k45 := G_X4_end_45 N f) (k17 := G_X12_laysNet_17 N f) hL (by omega) (by omega) (by have := hM.1; omega) N (xv c 66 v 1000000) (xv m1 26 v 1000000) 0 e2' (by rw [xv_ne (by omega)]; omega) (fun j j1 j2 => by rw [xv_ne (by omega), xv_ne (by omega), mA _ _ (by omega) (by omega)]; exact h7 j j1 j2) (by rw [xv_eq rfl rfl, xv_eq rfl rfl]) (by rw [xv_eq rfl rfl]; omega) (by rw [xv_eq rfl rfl]; omega) (by omega) (fun e q1 q2 => by omega) (by omega) (by omega) (by omega)
      rw [Int.add_zero] at g1
      rw [g1, g2]
      have cA : ∀ a b, ¬ (a = 66 ∧ b = v) → c' a b = c a b := fun a b q => by rw [g3 a b q, xv_ne q]
      have mB : ∀ a b, ¬ (a = 26 ∧ b = v) → m' a b = m1 a b := fun a b q => by rw [g4 a b q, xv_ne q]
      have c66 : ∀ a b, a ≠ 66 → c' a b = c a b := fun a b q => cA a b (by omega)
      have hPR : PR c' m0 L := by
        obtain ⟨⟨a1, a2, a3, a4⟩, ⟨b1, b2, b3, b4⟩, a5⟩ := h1
        refine ⟨⟨a1, by rw [c66 _ _ (by omega)]; exact a2, a3, fun j j1 j2 => by rw [c66 _ _ (by omega)]; exact a4 j j1 j2⟩, ⟨by rw [c66 _ _ (by omega)]; exact b1, b2, b3, fun s s1 s2 => ?_⟩, fun j j1 j2 => by rw [c66 _ _ (by omega)]; exact a5 j j1 j2⟩
        have := b4 s s1 s2
        rw [c66 20 _ (by omega), c66 21 _ (by omega), c66 22 _ (by omega)]
        refine ⟨this.1, this.2.1, this.2.2.1, this.2.2.2.1, fun q q1 q2 => ?_, fun q q1 q2 => ?_⟩
        · rw [c66 _ _ (by omega)]
          exact this.2.2.2.2.1 q q1 q2
        · rw [c66 _ _ (by omega)]
          exact this.2.2.2.2.2 q q1 q2
      have hMid : Mid N c' m0 L L := by
        obtain ⟨M1, M2, M3, M4⟩ := h2
        have c59 : ∀ b, c' 59 b = c 59 b := fun b => c66 _ _ (by omega)
        have c57 : c' 57 5 = c 57 5 := c66 _ _ (by omega)
        unfold Mid QL
        simp only [c59, c57]
        refine ⟨M1, M2, fun i i1 i2 => ⟨(M3 i i1 i2).1, fun mm hmm => ?_⟩, M4⟩
        obtain ⟨m2, d1, d2, d3⟩ := (M3 i i1 i2).2 mm hmm
        exact ⟨m2, d1, d2.cv (fun a b q1 q2 => c66 _ _ (by omega)), d3⟩
      have hSM : SM m0 m' := by
        have h4' := h4.fm e3 (by omega) (by omega)
        exact ⟨by rw [mB _ _ (by omega)]; exact h4'.1, by rw [mB _ _ (by omega)]; exact h4'.2.1, fun b => by rw [mB _ _ (by omega)]; exact h4'.2.2.1 b, fun a b q => by rw [mB _ _ (by omega)]; exact h4'.2.2.2 a b q⟩
      have h25 : m1 25 v = c 59 (v + 1) - c 59 v := e2.1
      have hRS : RS c' m' L (v - 1) := by
        intro j j1 j2
        by_cases cj : j = v
        · subst cj; exact ⟨g5, g6, g7⟩
        · rw [cA _ _ (by omega), mB _ _ (by omega), mA _ _ (by omega) (by omega)]
          exact h7 j (by omega) j2
      have hEM : ∀ i, v - 1 < i → i < L → EMg c' m' L i (c' 59 i) (c' 59 (i + 1) - c' 59 i) ∧ TI m' i (m' 25 i) := by
        intro i i1 i2
        rw [c66 _ _ (by omega), c66 _ _ (by omega)]
        by_cases ci : i = v
        · subst ci
          rw [mB 25 i (by omega), h25]
          exact ⟨(e2.cv (fun a b q1 q2 => c66 _ _ (by omega))).mv (mB _ _ (by omega)) (fun a b q1 q2 => mB _ _ (by omega)), g8⟩
        · obtain ⟨o1, o2⟩ := h8 i (by omega) i2
          have hd := (h2.2.2.1 i (by omega) i2).1
          have o3 := o1.1
          have mC : ∀ e, 0 ≤ e → e < 60 → ∀ b, m' (2423 + (i * 60 + e)) b = m (2423 + (i * 60 + e)) b := fun e q1 q2 b => by rw [mB _ _ (by omega), mA _ _ (by omega) (by omega)]
          have m25 : m' 25 i = m 25 i := by rw [mB _ _ (by omega), mA _ _ (by omega) (by omega)]
          refine ⟨(o1.cv (fun a b q1 q2 => c66 _ _ (by omega))).mv m25 (fun a b q1 q2 => by rw [mB _ _ (by omega), mA _ _ (by omega) (by omega)]), fun e q1 q2 => ?_⟩
          rw [m25] at q2
          have t := o2 e q1 q2
          have t6 := (o1.2 e q1 (by omega)).2.2.2.2.2.1
          rw [mC e q1 (by omega), mC e q1 (by omega), mB 26 i (by omega), mB 26 _ (by omega), mA _ _ (by omega) (by omega), mA _ _ (by omega) (by omega)]
          exact t
      obtain ⟨c2, m2, k1, k2, k3, k4, k5, k6⟩ := ih c' m' (v - 1) hPR hMid (by rw [c66 _ _ (by omega), c66 _ _ (by omega)]; exact h3) hSM (by omega) (by omega) hRS hEM (by omega)
      refine ⟨c2, m2, k1, k2, k3, k4, fun a b q => by rw [k5 a b q, c66 a b q], fun a b q1 q2 q3 => ?_⟩
      rw [k6 a b q1 q2 q3, mB a b (by omega), mA a b (by omega) (by omega)]
/-- the class ends its net, the reference lays its own -/
theorem endS2 {N : Nat} {c m : IH} {L : Int} (hN : 20000 ≤ N) (h : PR c m L) (hM : Mid N (xv c 59 L (c 57 5)) m L L) : ∃ c' m', G_X4_end N c = some c' ∧ G_X12_laysNet N m = some m' ∧ NetR c' m' L ∧ (∀ a b, ¬ (a = 59 ∨ a = 66) → c' a b = c a b) ∧ (∀ a b, a ≠ 25 → a ≠ 26 → ¬ (2423 ≤ a ∧ a < 5303) → m' a b = m a b) := by
  have hL := h.1.1
  unfold G_X4_end G_X12_laysNet
  have hc4 := h.1.2.1
  have hm4 := h.1.2.2.1
  simp (disch := omega) only [xlet_q, xq_in, xv_ne, hc4, hm4]
  rw [wr_in (by omega) (by omega)]
  have f1 : FN c (xv c 59 L (c 57 5)) := fun a b q1 q2 => xv_ne (by omega)
  have f2 : FN c (xv (xv c 59 L (c 57 5)) 59 (L + 1) (c 57 5)) := fun a b q1 q2 => by rw [xv_ne (by omega), xv_ne (by omega)]
  have c66 : ∀ a b, a ≠ 59 → a ≠ 66 → xv (xv (xv c 59 L (c 57 5)) 59 (L + 1) (c 57 5)) 66 L 0 a b = c a b := fun a b q1 q2 => by rw [xv_ne (by omega), xv_ne (by omega), xv_ne (by omega)]
  have c59 : ∀ b, b ≠ L + 1 → xv (xv (xv c 59 L (c 57 5)) 59 (L + 1) (c 57 5)) 66 L 0 59 b = xv c 59 L (c 57 5) 59 b := fun b q1 => by rw [xv_ne (by omega), xv_ne (by omega)]
  have hPR : PR (xv (xv (xv c 59 L (c 57 5)) 59 (L + 1) (c 57 5)) 66 L 0) m L := by
    obtain ⟨⟨a1, a2, a3, a4⟩, ⟨b1, b2, b3, b4⟩, a5⟩ := h
    refine ⟨⟨a1, by rw [c66 _ _ (by omega) (by omega)]; exact a2, a3, fun j j1 j2 => by rw [c66 _ _ (by omega) (by omega)]; exact a4 j j1 j2⟩, ⟨by rw [c66 _ _ (by omega) (by omega)]; exact b1, b2, b3, fun s s1 s2 => ?_⟩, fun j j1 j2 => by rw [c66 _ _ (by omega) (by omega)]; exact a5 j j1 j2⟩
    have := b4 s s1 s2
    rw [c66 20 _ (by omega) (by omega), c66 21 _ (by omega) (by omega), c66 22 _ (by omega) (by omega)]
    refine ⟨this.1, this.2.1, this.2.2.1, this.2.2.2.1, fun q q1 q2 => ?_, fun q q1 q2 => ?_⟩
    · rw [c66 _ _ (by omega) (by omega)]
      exact this.2.2.2.2.1 q q1 q2
    · rw [c66 _ _ (by omega) (by omega)]
      exact this.2.2.2.2.2 q q1 q2
  have hMid : Mid N (xv (xv (xv c 59 L (c 57 5)) 59 (L + 1) (c 57 5)) 66 L 0) m L L := by
    obtain ⟨M1, M2, M3, M4⟩ := hM
    refine ⟨by rw [c59 L (by omega), c66 57 5 (by omega) (by omega)]; exact xv_eq rfl rfl, by rw [c66 57 5 (by omega) (by omega)]; rw [xv_ne (by omega)] at M2; exact M2, fun i i1 i2 => ?_, by rw [c59 0 (by omega)]; exact M4⟩
    have o := M3 i i1 i2
    rw [c59 i (by omega), c59 (i + 1) (by omega)]
    refine ⟨o.1, fun mm hmm => ?_⟩
    obtain ⟨m2, d1, d2, d3⟩ := o.2 mm hmm
    rw [c59 i (by omega), c59 (i + 1) (by omega)]
    exact ⟨m2, d1, d2.cv (fun a b q1 q2 => by rw [xv_ne (by omega), xv_ne (by omega)]), d3⟩
  have hRS : RS (xv (xv (xv c 59 L (c 57 5)) 59 (L + 1) (c 57 5)) 66 L 0) (xv m 26 L 0) L (L - 1) := by
    intro j j1 j2
    have : j = L := by omega
    subst this
    rw [xv_eq rfl rfl, xv_eq rfl rfl]
    omega
  have hSM : SM m (xv m 26 L 0) := ⟨xv_ne (by omega), xv_ne (by omega), fun b => xv_ne (by omega), fun a b q => xv_ne (by omega)⟩
  obtain ⟨c', m', g1, g2, g3, g4, g5, g6⟩ := rests0 (N := N) (L := L) hN N _ (xv m 26 L 0) (L - 1) hPR hMid (by rw [c59 L (by omega), xv_eq rfl rfl, xv_ne (by omega), xv_eq rfl rfl]) hSM (by omega) (by omega) hRS (fun i i1 i2 => by omega) (by omega)
  refine ⟨c', m', g1, g2, g3, fun a b q => ?_, fun a b q1 q2 q3 => ?_⟩
  · rw [g5 a b (by omega), c66 a b (by omega) (by omega)]
  · rw [g6 a b q1 q2 q3, xv_ne (by omega)]
