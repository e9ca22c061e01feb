theorem fr2_mends {N : Nat} {m m1 : IH} {k : Int} (e : G_X12_mends N m k = some m1) : (∀ a b, 1 ≤ a → ¬ (29 ≤ a ∧ a ≤ 35) → m1 a b = m a b) ∧ m1 0 33 = m 0 33 ∧ m1 0 10 = m 0 10 ∧ m1 0 15 = m 0 15 := by
  have g : Fg rgM lf_X12_mends m m1 := gb_X12_mends (N := N) (Fg.rf (rg := rgM) (L := lf_X12_mends) (a := m)) m1 e
  have el : ∀ x : Nat, ¬ (x ≤ 52) → ¬ (129 ≤ x ∧ x ≤ 135) → List.elem x lf_X12_mends = false := by
    intro x h1 h2
    simp [lf_X12_mends]
    omega
  refine ⟨fun a b h1 h2 => g a b ?_, g 0 33 rfl, g 0 10 rfl, g 0 15 rfl⟩
  by_cases c1 : a < 52
  · have er : rgM a.toNat b.toNat = 100 + a.toNat := by
      unfold rgM
      rw [if_neg (by omega), if_pos (by omega)]
    rw [er]
    exact el _ (by omega) (by omega)
  · have er : 200 ≤ rgM a.toNat b.toNat := by
      unfold rgM
      rw [if_neg (by omega), if_neg (by omega)]
      grind (splits := 40)
    exact el _ (by omega) (by omega)
section
variable {N : Nat} {c m : IH}
/-- the way of a token, both sides -/
theorem wayS {t : Int} (hN : 20000 ≤ N) (h : R N c m) (ht : 0 ≤ t ∧ t < m 16 0) : ∃ c' m', R N c' m' ∧ m' 0 0 = m 0 0 ∧ TM m m' ∧ ((G_X11_findWay N c t = some (0, c') ∧ G_X12_laysWay N m t = some (0, m') ∧ m' 0 53 = 0) ∨ (G_X11_findWay N c t = some (1, c') ∧ G_X12_laysWay N m t = some (1, m') ∧ WR c' m' (m 197 t) ∧ NetR c' m' (m 197 t) ∧ c' 88 3 = m' 5303 0)) := by
  obtain ⟨c1, m2, a1, a2, a3, a4, lk⟩ := aloneS hN h.tr h.2.2.2.1 h.2.2.2.2.1 ht
  have hr := h.lk lk
  have rd := hr.tr.2.2.2.2.2.1
  have h40 := rd.1
  have tk := (rd.2.2 t ht.1 ht.2).1
  have ro := rowAT hN hr.tr hr.2.2.2.1 hr.2.2.2.2.1 ht a4
  obtain ⟨c2, m1, b1, b2, b3, b4, b5, b6, b7, b8, b9⟩ := netR hN hr ht
  obtain ⟨m1', m3, d1, d2, d3, d4, d5, d6, d7, d8, _⟩ := mendT (m' := m) (k := 1) hN hr.tr hr.2.2.2.1 TM.rf ht (by omega)
  have e1 : m1' = m1 := Option.some.inj (d1.symm.trans b2)
  subst e1
  have f1 := fr_laysToken b2
  have f2 := fr_mends d2
  obtain ⟨f3, f4, f5, f6⟩ := fr2_mends d2
  have cl := cellsS (N := N) rd ht
  unfold G_X11_findWay G_X12_laysWay
  rw [a1, ybv_s, mendedWS hr.tr ht ro, yb_s, xlet_q, b2, ybv_s, d2, ybv_s, xlet_q, xv_ne (show ¬ ((0 : Int) = 0 ∧ (50 : Int) = 53) by omega), d3]
  have ea : wi (AT N m t) (op m (m 197 t)) 0 = aw N m t := rfl
  rw [ea]
  generalize hm3 : xv m3 0 53 0 = mx
  have mo : ∀ a b, ¬ (a = 0 ∧ b = 53) → mx a b = m3 a b := fun a b q => by rw [← hm3, xv_ne q]
  have tmx : TM m mx := fun a b z1 z2 z3 => by rw [mo a b (by omega)]; exact d6 a b z1 z2 z3
  have x53 : mx 0 53 = 0 := by rw [← hm3, xv_eq rfl rfl]
  by_cases cw : aw N m t = -1
  · rw [if_pos cw, if_pos cw]
    exact ⟨c1, mx, hr.mv hN tmx (fun b => by rw [mo _ _ (by omega), f2.1, f1.1]), by rw [mo _ _ (by omega), f2.2.1, f1.2.1], tmx, Or.inl ⟨rfl, rfl, x53⟩⟩
  · rw [if_neg cw, if_neg cw]
    generalize hw : aw N m t = w at cw d3 ⊢
    have wn := wi_ne (m2 := AT N m t) (o := op m (m 197 t)) (j := 0) (by rw [ea, hw]; exact cw)
    have rb := AT.rb hN hr.tr hr.2.2.2.1 ht
    have w0 := (rb.2.1 0 wn.1 wn.2.1).1
    have ew : (AT N m t) 33 0 = w := by rw [← wn.2.2.2, ea, hw]
    rw [ew] at w0
    have w60 := hr.tr.1.2.1
    have lw := hr.tr.1.2.2.1 w w0.1 w0.2
    -- the reference's table
    have nx : NetR c2 mx (m 197 t) := b3.mv (by rw [mo _ _ (by omega), f4]) (fun b => by rw [mo _ _ (by omega), f3 _ _ (by omega) (by omega)]) (fun b => by rw [mo _ _ (by omega), f3 _ _ (by omega) (by omega)]) (fun a b q1 q2 => by rw [mo _ _ (by omega), f3 _ _ (by omega) (by omega)])
    have x5 : mx 5 w = m 5 w := tmx _ _ (by omega) (by omega) (by omega)
    have nmx := nx.nm
    obtain ⟨m4, s1, s2, s3⟩ := spellsM (N := N) (w := w) hN nmx (by omega) (by rw [x5]; exact lw.1)
    have tm4 : TM m m4 := fun a b z1 z2 z3 => by rw [s3 a b (by omega)]; exact tmx a b z1 z2 z3
    -- its first entry
    have less : m4 5303 0 < 1000000 := by
      obtain ⟨_, c1', c2', m1'', g1, g2, g3, g4, g5, g6⟩ := gvT hN hr.tr hr.2.2.2.1 ht (AT.gv hN hr.tr hr.2.2.2.1 ht)
      have e2 : m1'' = m1' := Option.some.inj (g1.symm.trans b2)
      subst e2
      obtain ⟨r1, r2, r3, r4, r5⟩ := g6
      have D2 : DPT (AT N m t) (m 197 t) w (fun i k => m4 (5303 + i) k) := s2.mv nmx (by rw [r5 _ _ (by omega) (by omega), mo _ _ (by omega), f3 _ _ (by omega) (by omega)]) (fun b => by rw [r5 _ _ (by omega) (by omega), mo _ _ (by omega), f3 _ _ (by omega) (by omega)]) (fun a b q1 q2 => by rw [r5 _ _ (by omega) (by omega), mo _ _ (by omega), f3 _ _ (by omega) (by omega)]) (fun b => by rw [r5 _ _ (by omega) (by omega), mo _ _ (by omega), f3 _ _ (by omega) (by omega)]) (fun _ _ _ _ _ _ => rfl)
      have t2 : ∀ a b, ¬ ((a = 0 ∧ (b = 0 ∨ 33 ≤ b)) ∨ a = 1) → ¬ (24 ≤ a ∧ a ≤ 51) → a < 2327 → (AT N m t) a b = m a b := fun a b z1 z2 z3 => by rw [r5 a b (by omega) (by omega)]; exact b8 a b z1 z2 z3
      have e10 : (AT N m t) 0 10 = m 0 10 := t2 _ _ (by omega) (by omega) (by omega)
      obtain ⟨P, pp', _⟩ := hr.tr.2.2.1
      have P2 : PATH (AT N m t) P := pp'.mv e10 (t2 _ _ (by omega) (by omega) (by omega)) (fun a b q1 q2 => t2 _ _ (by omega) (by omega) (by omega)) (fun a b q1 q2 => t2 _ _ (by omega) (by omega) (by omega))
      have pe := priceE (m := AT N m t) (w := w) r2.2.1 P2 r2.1.nm (by rw [e10]; exact w0) D2 r4
      have i0 : (5303 : Int) + 0 = 5303 := by omega
      simp only [i0] at pe
      rcases pe with ⟨a, _⟩ | ⟨_, b⟩
      · exact a
      · exact absurd ew (b 0 wn.1 wn.2.1)
    -- the class's
    have n4 : NetR c2 m4 (m 197 t) := nx.mv (s3 _ _ (by omega)) (fun b => s3 _ _ (by omega)) (fun b => s3 _ _ (by omega)) (fun a b q1 q2 => s3 _ _ (by omega))
    have x4 : LXC c2 m4 := (b4.tr.2.1).mv (by rw [tm4 _ _ (by omega) (by omega) (by omega), b8 _ _ (by omega) (by omega) (by omega)]) (by rw [tm4 _ _ (by omega) (by omega) (by omega), b8 _ _ (by omega) (by omega) (by omega)]) (fun a b q1 q2 => by rw [tm4 _ _ (by omega) (by omega) (by omega), b8 _ _ (by omega) (by omega) (by omega)]) (fun a b q1 q2 => by
      have : m1' 0 10 = m 0 10 := b8 _ _ (by omega) (by omega) (by omega)
      rw [tm4 _ _ (by omega) (by omega) (by omega), b8 _ _ (by omega) (by omega) (by omega)])
    have y5 : m4 5 w = m 5 w := tm4 _ _ (by omega) (by omega) (by omega)
    have y10 : m4 0 10 = m 0 10 := tm4 _ _ (by omega) (by omega) (by omega)
    have c5 : c2 5 w = m4 5 w := (x4.2.2.1 w w0.1 (by omega)).1
    have D4 : DPT m4 (m 197 t) w (fun i k => m4 (5303 + i) k) := s2.mv nmx (s3 _ _ (by omega)) (fun b => s3 _ _ (by omega)) (fun a b q1 q2 => s3 _ _ (by omega)) (fun b => s3 _ _ (by omega)) (fun _ _ _ _ _ _ => rfl)
    obtain ⟨c3, w1, w2, w3⟩ := way18 (N := N) (L := m 197 t) (w := w) (m := m4) hN n4.nm (by omega) (by rw [y5]; exact lw.1) N c2 (m 197 t) n4 x4 (fun j q q1 q2 => by omega) (by omega) (by omega) (by omega)
    have D5 : DPT m4 (m 197 t) w (fun i k => c3 90 (i * 13 + k)) := ⟨fun k k1 k2 => (w3 (m 197 t) k (by omega) (by omega) k1 k2).2.1 rfl, fun i k i1 i2 k1 k2 => by
      have q := w3 i k i1 (by omega) k1 k2
      exact ⟨⟨q.1.2, q.1.1⟩, q.2.2 i2⟩⟩
    have tab : ∀ j q, 0 ≤ j → j ≤ m 197 t → 0 ≤ q → q ≤ m4 5 w → c3 90 (j * 13 + q) = m4 (5303 + j) q ∧ 0 ≤ m4 (5303 + j) q ∧ m4 (5303 + j) q ≤ 1000000 := fun j q j1 j2 q1 q2 => by
      have e : c3 90 (j * 13 + q) = m4 (5303 + j) q := DPT.uniq n4.nm D5 D4 ((m 197 t - j).toNat + 1) j q j1 j2 q1 q2 (by omega)
      have r := (w3 j q j1 j2 q1 q2).1
      exact ⟨e, by omega, by omega⟩
    simp (disch := omega) only [xq_in]
    rw [cl, yb_s, b1, ybv_s]
    unfold G_X10_spell
    simp (disch := omega) only [xlet_q, xq_in]
    rw [c5, n4.2.1.1, w1, s1, yb_s]
    unfold G_X10_follow
    simp only [xlet_q]
    generalize hcx : xv (xv c3 88 3 (c3 90 0)) 88 2 0 = cx
    have cxo : ∀ a b, a ≠ 88 → cx a b = c3 a b := fun a b q => by rw [← hcx, xv_ne (by omega), xv_ne (by omega)]
    have cx2 : ∀ a b, a < 88 → cx a b = c2 a b := fun a b q => by rw [cxo a b (by omega), w2 a b (by omega)]
    have c883 : cx 88 3 = m4 5303 0 := by
      have := (tab 0 0 (by omega) (by omega) (by omega) (by omega)).1
      rw [show (0 : Int) * 13 + 0 = 0 by omega, show (5303 : Int) + 0 = 5303 by omega] at this
      rw [← hcx, xv_ne (by omega), xv_eq rfl rfl, this]
    have z53 : m4 0 53 = 0 := by rw [s3 _ _ (by omega)]; exact x53
    have d50 : m4 0 50 = w := by rw [s3 _ _ (by omega), mo _ _ (by omega)]; exact d3
    obtain ⟨c5', m5, v1, v2, v3, v4, v5⟩ := follow0 (N := N) (L := m 197 t) (w := w) hN (by omega) N cx m4 0 0 (n4.cv (fun a b q => cx2 a b (by omega))) (x4.cv (fun a b q1 q2 => cx2 a b (by omega))) (by omega) (by omega) (by rw [y5]; exact lw.1) d50 (fun j q j1 j2 q1 q2 => by rw [cxo _ _ (by omega)]; exact tab j q j1 j2 q1 q2) D4 (by omega) (by omega) (by omega) (by omega) (by rw [show (5303 : Int) + 0 = 5303 by omega]; exact less) ⟨by rw [z53, ← hcx, xv_eq rfl rfl], by omega, by omega, fun t q1 q2 => by omega⟩ (by omega) (by omega)
    rw [v1, v2, ybv_s, ybv_s]
    have tm5 : TM m m5 := fun a b z1 z2 z3 => by rw [v5 a b (by omega) (by omega) (by omega)]; exact tm4 a b z1 z2 z3
    have f7 := fr_spells s1
    have row1 : ∀ b, m5 1 b = m 1 b := fun b => by rw [v5 _ _ (by omega) (by omega) (by omega), f7.1, mo _ _ (by omega), f2.1, f1.1]
    have zz : m5 0 0 = m 0 0 := by rw [v5 _ _ (by omega) (by omega) (by omega), f7.2.1, mo _ _ (by omega), f2.2.1, f1.2.1]
    refine ⟨c5', m5, ?_, zz, tm5, Or.inr ⟨rfl, rfl, v3, ?_, ?_⟩⟩
    · exact (hr.mv hN tm5 row1).cn (fun a b q1 q2 => by rw [v4 a b (by omega) (by omega), cx2 a b (by omega), b7 a b (by omega)])
    · exact (n4.cv (c' := c5') (fun a b q => by rw [v4 a b (by omega) (by omega), cx2 a b (by omega)])).mv (v5 _ _ (by omega) (by omega) (by omega)) (fun b => v5 _ _ (by omega) (by omega) (by omega)) (fun b => v5 _ _ (by omega) (by omega) (by omega)) (fun a b q1 q2 => v5 _ _ (by omega) (by omega) (by omega))
    · rw [v4 _ _ (by omega) (by omega), c883, v5 _ _ (by omega) (by omega) (by omega)]
end
