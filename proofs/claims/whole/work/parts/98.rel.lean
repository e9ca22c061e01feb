/-- the two tapes -/
def TA (c m : IH) : Prop := c 2 1 = m 0 2 ∧ 0 ≤ m 0 2 ∧ m 0 2 ≤ 400 ∧ (∀ j, 0 ≤ j → j < 400 → c 3 j = m 2 j ∧ 0 ≤ m 2 j ∧ m 2 j ≤ 255) ∧ c 2 5 = m 0 5
/-- the class's heap and the reference's, between calls -/
def R (N : Nat) (c m : IH) : Prop := TA c m ∧ (c 0 14 = m 1 0 ∧ c 0 15 = m 1 1 ∧ (m 0 10 = 0 → m 11 0 = -1)) ∧ TR c m ∧ SL c ∧ CA N c m ∧ MT N c m ∧ SN N c m
/-- what a call gives: the same, or both refuse -/
def CX (N : Nat) (e1 e2 : Int) (pc : Option YR) (pm : Option (Int × IH)) : Prop := ∃ k r c' r' m', pc = some (k, r, c') ∧ pm = some (r', m') ∧ R N c' m' ∧ ((k = 0 ∧ m' 0 0 = 0 ∧ r = r') ∨ (k = 1 ∧ m' 0 0 = e1 ∧ e1 ≠ 0) ∨ (k = 2 ∧ m' 0 0 = e2 ∧ e2 ≠ 0))
theorem CX.ok {N : Nat} {e1 e2 r : Int} {c m : IH} (h : R N c m) (h0 : m 0 0 = 0) : CX N e1 e2 (some (0, r, c)) (some (r, m)) := ⟨0, r, c, r, m, rfl, rfl, h, Or.inl ⟨rfl, h0, rfl⟩⟩
section
variable {N : Nat} {c m c' m' : IH}
theorem R.mv (hN : 20000 ≤ N) (h : R N c m) (hm : TM m m') (h1 : ∀ b, m' 1 b = m 1 b) : R N c m' := by
  obtain ⟨⟨a1, a2, a3, a4, a5⟩, ⟨b1, b2, b3⟩, t, s, ca, mt, sn⟩ := h
  have e02 : m' 0 2 = m 0 2 := hm _ _ (by omega) (by omega) (by omega)
  have e05 : m' 0 5 = m 0 5 := hm _ _ (by omega) (by omega) (by omega)
  have e10 : m' 0 10 = m 0 10 := hm _ _ (by omega) (by omega) (by omega)
  have e11 : m' 11 0 = m 11 0 := hm _ _ (by omega) (by omega) (by omega)
  have e2 : ∀ j, m' 2 j = m 2 j := fun j => hm _ _ (by omega) (by omega) (by omega)
  refine ⟨⟨by rw [e02]; exact a1, by rw [e02]; exact a2, by rw [e02]; exact a3, fun j j1 j2 => ?_, by rw [e05]; exact a5⟩, ⟨by rw [h1]; exact b1, by rw [h1]; exact b2, by rw [e10, e11]; exact b3⟩, t.pr TC.rf hm, s, CA.mv hN t s ca hm, MT.mv hN t s ca mt hm, SN.mv hN t s ca sn hm⟩
  rw [e2]; exact a4 j j1 j2
theorem TA.cv (h : TA c m) (hc : TC c c') : TA c' m := by
  obtain ⟨a1, a2, a3, a4, a5⟩ := h
  exact ⟨by rw [hc _ _ (by omega)]; exact a1, a2, a3, fun j j1 j2 => by rw [hc _ _ (by omega)]; exact a4 j j1 j2, by rw [hc _ _ (by omega)]; exact a5⟩
theorem R.lk (h : R N c m) (hl : LKg N c m c') : R N c' m := by
  obtain ⟨a, ⟨b1, b2, b3⟩, t, s, ca, mt, sn⟩ := h
  obtain ⟨l1, l2, l3, l4, l5, l6, l7, _⟩ := hl
  exact ⟨a.cv l4, ⟨by rw [l6]; exact b1, by rw [l7]; exact b2, b3⟩, l1, l2, l3, mt.cv (fun x y q1 q2 => l5 x y (by omega)), sn.cv (fun x y q => l5 x y (by omega))⟩
theorem R.lv (h : R N c m) (hl : LV N c m c') (hs : SN N c' m) : R N c' m := by
  obtain ⟨a, ⟨b1, b2, b3⟩, t, s, ca, mt, sn⟩ := h
  obtain ⟨l1, l2, l3, l4, l5, l6, l7⟩ := hl
  exact ⟨a.cv l4, ⟨by rw [l6]; exact b1, by rw [l7]; exact b2, b3⟩, l1, l2, l3, mt.cv (fun x y q1 q2 => l5 x y (by omega) (by omega)), hs⟩
theorem R.l3 (h : R N c m) (hl : LK3 N c m c') (hs : MT N c' m) : R N c' m := by
  obtain ⟨a, ⟨b1, b2, b3⟩, t, s, ca, mt, sn⟩ := h
  obtain ⟨l1, l2, l3, l4, l5, l6, l7⟩ := hl
  exact ⟨a.cv l4, ⟨by rw [l6]; exact b1, by rw [l7]; exact b2, b3⟩, l1, l2, l3, hs, sn.cv (fun x y q => l5 x y (by omega))⟩
/-- other cells of the class: nets, ways -/
theorem R.cn (h : R N c m) (hf : ∀ a b, ¬ (57 ≤ a ∧ a ≤ 66) → ¬ (88 ≤ a) → c' a b = c a b) : R N c' m := by
  obtain ⟨a, ⟨b1, b2, b3⟩, t, s, ca, mt, sn⟩ := h
  exact ⟨a.cv (fun x y q => hf x y (by omega) (by omega)), ⟨by rw [hf _ _ (by omega) (by omega)]; exact b1, by rw [hf _ _ (by omega) (by omega)]; exact b2, b3⟩, t.pr (fun x y q => hf x y (by omega) (by omega)) TM.rf, s.cv (fun x y _ _ => hf x y (by omega) (by omega)), ca.cv (fun x y _ _ => hf x y (by omega) (by omega)), mt.cv (fun x y _ _ => hf x y (by omega) (by omega)), sn.cv (fun x y q => hf x y (by omega) (by omega))⟩
/-- the reference begins -/
theorem R.m0 (hN : 20000 ≤ N) (h : R N c m) : R N c (xv m 0 0 0) := h.mv hN (fun a b z1 z2 z3 => xv_ne (by omega)) (fun b => xv_ne (by omega))
theorem R.bad (hN : 20000 ≤ N) (h : R N c m) {p q : Int} (hp : p ≠ 0) (hq : q = 0 ∨ q = 1) (h0 : m 0 0 = 0) : ∃ m', G_X12_bad N m 1 p q = some (1, m') ∧ m' 0 0 = p ∧ R N (xv c 0 (14 + q) (wr (c 0 (14 + q) + 1))) m' := by
  unfold G_X12_bad G_X12_bad_26
  rw [if_neg (by omega), if_pos h0]
  simp (disch := omega) only [xlet_q, xq_in, xv_ne]
  rw [xv_eq rfl rfl, if_neg hp]
  refine ⟨_, rfl, by rw [xv_ne (by omega), xv_eq rfl rfl], ?_⟩
  have hm : R N c (xv m 0 0 p) := h.mv hN (fun a b z1 z2 z3 => xv_ne (by omega)) (fun b => xv_ne (by omega))
  obtain ⟨a, ⟨b1, b2, b3⟩, t, s, ca, mt, sn⟩ := hm
  have co : ∀ x y, x ≠ 0 → xv c 0 (14 + q) (wr (c 0 (14 + q) + 1)) x y = c x y := fun x y z => xv_ne (by omega)
  have tm : TM (xv m 0 0 p) (xv (xv m 0 0 p) 1 q (wr (m 1 q + 1))) := fun a b z1 z2 z3 => xv_ne (by omega)
  rw [xv_ne (by omega)] at b1 b2
  have t' := t.pr (c' := xv c 0 (14 + q) (wr (c 0 (14 + q) + 1))) (fun x y q => co x y (by omega)) TM.rf
  have s' := s.cv (c' := xv c 0 (14 + q) (wr (c 0 (14 + q) + 1))) (fun x y _ _ => co x y (by omega))
  have ca' := ca.cv (c' := xv c 0 (14 + q) (wr (c 0 (14 + q) + 1))) (fun x y _ _ => co x y (by omega))
  have mt' := mt.cv (c' := xv c 0 (14 + q) (wr (c 0 (14 + q) + 1))) (fun x y _ _ => co x y (by omega))
  have sn' := sn.cv (c' := xv c 0 (14 + q) (wr (c 0 (14 + q) + 1))) (fun x y _ => co x y (by omega))
  refine ⟨?_, ⟨?_, ?_, ?_⟩, t'.pr TC.rf tm, s', CA.mv hN t' s' ca' tm, MT.mv hN t' s' ca' mt' tm, SN.mv hN t' s' ca' sn' tm⟩
  · have a' := a.cv (c' := xv c 0 (14 + q) (wr (c 0 (14 + q) + 1))) (fun x y q => co x y (by omega))
    obtain ⟨a1, a2, a3, a4, a5⟩ := a'
    rw [xv_ne (show ¬ ((0 : Int) = 0 ∧ (2 : Int) = 0) by omega)] at a1 a2 a3
    refine ⟨by rw [xv_ne (by omega), xv_ne (by omega)]; exact a1, by rw [xv_ne (by omega), xv_ne (by omega)]; exact a2, by rw [xv_ne (by omega), xv_ne (by omega)]; exact a3, fun j j1 j2 => ?_, ?_⟩
    · rw [xv_ne (by omega)]
      exact a4 j j1 j2
    · rw [xv_ne (show ¬ ((0 : Int) = 1 ∧ (5 : Int) = q) by omega)]; exact a5
  · rcases hq with e | e
    · subst e; rw [xv_eq rfl (by omega), xv_eq rfl rfl, show (14 : Int) + 0 = 14 by omega, b1]
    · subst e; rw [xv_ne (by omega), xv_ne (by omega), xv_ne (by omega)]; exact b1
  · rcases hq with e | e
    · subst e; rw [xv_ne (by omega), xv_ne (by omega), xv_ne (by omega)]; exact b2
    · subst e; rw [xv_eq rfl (by omega), xv_eq rfl rfl, show (14 : Int) + 1 = 15 by omega, b2]
  · rw [xv_ne (show ¬ ((0 : Int) = 1 ∧ (10 : Int) = q) by omega), xv_ne (show ¬ ((11 : Int) = 1 ∧ (0 : Int) = q) by omega)]; exact b3
theorem bad0 {p q : Int} (h0 : m 0 0 = 0) : G_X12_bad N m 0 p q = some (0, m) := by
  unfold G_X12_bad G_X12_bad_26
  rw [if_pos rfl, if_pos h0]
theorem inM {p a b : Int} : G_X12_in N m p a b = some ((if a ≤ p ∧ p ≤ b then 1 else 0), m) := by
  unfold G_X12_in
  by_cases c1 : p < a
  · rw [if_pos c1, if_neg (by omega)]
  · rw [if_neg c1]
    by_cases c2 : b < p
    · rw [if_pos c2, if_neg (by omega)]
    · rw [if_neg c2, if_pos (by omega)]
theorem needE {p n : Int} : G_X11_needElement N c p n = if 0 ≤ p ∧ p < n then some (0, 0, c) else some (1, 0, xv c 0 14 (wr (c 0 14 + 1))) := by
  unfold G_X11_needElement G_X11_needElement_9
  by_cases c1 : p < 0
  · rw [if_pos c1, if_neg (by omega), xlet_q]
  · rw [if_neg c1]
    by_cases c2 : p < n
    · rw [if_pos c2, if_pos (by omega)]
    · rw [if_neg c2, if_neg (by omega), xlet_q]
theorem needB {p a b : Int} : G_X11_needBetween N c p a b = if a ≤ p ∧ p ≤ b then some (0, 0, c) else some (2, 0, xv c 0 15 (wr (c 0 15 + 1))) := by
  unfold G_X11_needBetween G_X11_needBetween_10
  by_cases c1 : p < a
  · rw [if_pos c1, if_neg (by omega), xlet_q]
  · rw [if_neg c1]
    by_cases c2 : p ≤ b
    · rw [if_pos c2, if_pos (by omega)]
    · rw [if_neg c2, if_neg (by omega), xlet_q]
end
