/-- the tape: as many bytes, the same bytes, the same place of the last fault -/
def RT (c m : AH) : Prop := (∃ T : Nat, T ≤ 400 ∧ c 2 1 = zI T ∧ m 0 2 = zI T) ∧ (∀ j, c 3 j = m 2 j) ∧ (∀ j, ∃ z : Nat, z < 256 ∧ m 2 j = zI z) ∧ c 2 5 = m 0 5
/-- what was refused -/
def RR (c m : AH) : Prop := c 0 14 = m 1 0 ∧ c 0 15 = m 1 1
/-- the seven costs -/
def RK (c m : AH) : Prop := ∀ j, j < 7 → ∃ z : Nat, z ≤ (if j = 0 then 999 else 99) ∧ c 1 j = zI z ∧ m 3 j = zI z
theorem fedB_rng (p1 p2 p3 p4 p5 : Int32) (i : Nat) : ∃ z : Nat, z < 256 ∧ fedB p1 p2 p3 p4 p5 i = zI z := byt_rng _ _
theorem feed_RT {N : Nat} {c m : AH} {p1 p2 p3 p4 p5 : Int32} (hN : 21 ≤ N) (h : RT c m) : ∃ (r : Int32) (c1 m1 : AH), F_X11_feed N c p1 p2 p3 p4 p5 = some (r, c1) ∧ F_X12_feed N m p1 p2 p3 p4 p5 = some (r, m1) ∧ RT c1 m1 := by
  obtain ⟨⟨T, hT, h1, h2⟩, h3, h4, h5⟩ := h
  by_cases h380 : T ≤ 380
  · obtain ⟨⟨r, c1⟩, e1, a1, a2, a3⟩ := feedC (p1 := p1) (p2 := p2) (p3 := p3) (p4 := p4) (p5 := p5) (show 5 ≤ N by omega) (show T + 20 ≤ 400 by omega) h1
    obtain ⟨⟨r', m1⟩, e2, b1, b2, b3⟩ := feedM (p1 := p1) (p2 := p2) (p3 := p3) (p4 := p4) (p5 := p5) hN (show T + 20 ≤ 400 by omega) h2
    dsimp only at a1 a2 a3 b1 b2 b3
    have hr : r' = r := b1.trans a1.symm
    subst hr
    refine ⟨r', c1, m1, e1, e2, ⟨T + 20, by omega, a2, b2⟩, fun j => ?_, fun j => ?_, ?_⟩
    · rw [a3 j, b3 j, h3 j]
    · rw [b3 j]
      by_cases hj : T ≤ j ∧ j < T + 20
      · rw [if_pos hj]; exact fedB_rng ..
      · rw [if_neg hj]; exact h4 j
    · have f1 := (fb_X11_feed (Fr.rf (rg := rgC)) _ e1) 2 5 rfl
      have f2 := (fb_X12_feed (Fr.rf (rg := rgM)) _ e2) 0 5 rfl
      show c1 2 5 = m1 0 5
      exact f1.trans (h5.trans f2.symm)
  · refine ⟨-1, c, xu m 0 0 0, ?_, ?_, ⟨T, hT, h1, by rw [xu_ne (by omega)]; exact h2⟩, fun j => by rw [xu_ne (by omega)]; exact h3 j, fun j => by rw [xu_ne (by omega)]; exact h4 j, by rw [xu_ne (by omega)]; exact h5⟩
    · unfold F_X11_feed
      rw [if_neg (fun q => by rw [h1] at q; simp (disch := (unfold zR; omega)) only [zl0, zl1, zlm1, zl, zI_add, zI_sub, zI_mul, zt_lt, zt_le, zt_eq] at q; omega)]
    · unfold F_X12_feed xlet
      show (if xu m 0 0 0 0 2 + 20 ≤ 400 then _ else some ((-1 : Int32), xu m 0 0 0)) = _
      rw [if_neg (fun q => by rw [xu_ne (by omega), h2] at q; simp (disch := (unfold zR; omega)) only [zl0, zl1, zlm1, zl, zI_add, zI_sub, zI_mul, zt_lt, zt_le, zt_eq] at q; omega)]
theorem fault_RT {N : Nat} {c m : AH} (h : RT c m) : F_X11_fault N c = some (c 2 5, c) ∧ F_X12_fault N m = some (c 2 5, xu m 0 0 0) := by
  refine ⟨rfl, ?_⟩
  show some (xu m 0 0 0 0 5, xu m 0 0 0) = _
  rw [xu_ne (by omega), h.2.2.2]
