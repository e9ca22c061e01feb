/-- the words but for what is weighed -/
def PL (c m : IH) (P : Int → Int → Int) : Prop := TW c m P ∧ (∀ x, 0 ≤ x → x < m 0 15 → m 10 x = -1 ∨ (0 ≤ m 10 x ∧ m 10 x < m 0 10 ∧ m 7 (m 10 x) = x)) ∧ (∀ w, 0 ≤ w → w < m 0 10 → m 10 (m 7 w) = w) ∧ TrC c m ∧ (∀ w, 0 ≤ w → w < m 0 10 → c 5 w = m 5 w ∧ ∀ k, 0 ≤ k → k < m 5 w → c 8 (w * 12 + k) = m (52 + w) k ∧ sg (m (52 + w) k)) ∧ ((m 0 15 ≤ 1 + 12 * m 0 10 ∧ m 8 0 = -1 ∧ m 9 0 = 0) ∧ ∀ x, 1 ≤ x → x < m 0 15 → ∃ w k, 0 ≤ w ∧ w < m 0 10 ∧ 0 ≤ k ∧ k ≤ m 5 w ∧ P w k = x) ∧ (∀ x, 0 ≤ x → x < m 0 15 → c 14 x = thr m P x (m 0 10).toNat)
section
variable {N : Nat} {c m : IH} {P : Int → Int → Int}
theorem LL.pl (h : LL c m) : ∃ P, PL c m P := by
  obtain ⟨⟨a1, a2, a3, a4, a5, a6⟩, ⟨b1, b2, b3, b4⟩, P, p1, p2⟩ := h
  refine ⟨P, ⟨a1, a2, fun w q1 q2 => ?_, p1, p2.1.2.1, b1, b2.1, fun x q1 q2 => (b2.2.1 x q1 q2).1⟩, a4, fun w q1 q2 => (a3 w q1 q2).2.2.2.1, b2, fun w q1 q2 => ?_, ⟨p2.1, p2.2.1⟩, fun x q1 q2 => ?_⟩
  · have x := a3 w q1 q2
    have y := b3 w q1 q2
    exact ⟨x.1, x.2.1, x.2.2.1, y.2.1, y.2.2.1⟩
  · have y := b3 w q1 q2
    exact ⟨y.1, y.2.2.2⟩
  · rw [(b4 x q1 q2).2]; exact p2.2.2 x q1 q2
theorem PL.set {w v : Int} (h : PL c m P) (hv : 0 ≤ v ∧ v ≤ 99) : PL (xv c 6 w v) (xv m 6 w v) P := by
  obtain ⟨⟨t1, t2, t3, t4, t5, t6, t7, t8⟩, h2, h3, h4, h5, h6, h7⟩ := h
  have co : ∀ a b, a ≠ 6 → xv c 6 w v a b = c a b := fun a b q => xv_ne (by omega)
  have mo : ∀ a b, a ≠ 6 → xv m 6 w v a b = m a b := fun a b q => xv_ne (by omega)
  have m5 : ∀ b, xv m 6 w v 5 b = m 5 b := fun b => mo _ _ (by omega)
  have tr : TW (xv c 6 w v) (xv m 6 w v) P := by
    unfold TW TrM PATH at *
    simp only [mo 0 _ (by omega), mo 5 _ (by omega), mo 7 _ (by omega), mo 8 _ (by omega), mo 9 _ (by omega), co 7 _ (by omega), co 4 _ (by omega), co 9 _ (by omega)]
    refine ⟨t1, t2, fun u q1 q2 => ?_, fun u q1 q2 => ?_, t5, t6, t7, t8⟩
    · have x := t3 u q1 q2
      refine ⟨x.1, ?_, x.2.2.1, ?_, x.2.2.2.2⟩
      · by_cases cu : u = w
        · rw [xv_eq rfl cu]; exact hv
        · rw [xv_ne (by omega)]; exact x.2.1
      · by_cases cu : u = w
        · rw [xv_eq rfl cu, xv_eq rfl cu]
        · rw [xv_ne (by omega), xv_ne (by omega)]; exact x.2.2.2.1
    · obtain ⟨a, b, d⟩ := t4 u q1 q2
      exact ⟨a, b, fun k k1 k2 => by rw [mo (52 + u) k (by omega)]; exact d k k1 k2⟩
  have trc : TrC (xv c 6 w v) (xv m 6 w v) := by
    unfold TrC at *
    simp only [mo 0 _ (by omega), mo 8 _ (by omega), mo 9 _ (by omega), mo 10 _ (by omega), co 4 _ (by omega), co 9 _ (by omega), co 10 _ (by omega), co 11 _ (by omega), co 12 _ (by omega), co 13 _ (by omega)]
    exact h4
  refine ⟨tr, ?_, ?_, trc, fun u q1 q2 => ?_, ?_, ?_⟩
  · simp only [mo 0 _ (by omega), mo 10 _ (by omega), mo 7 _ (by omega)]; exact h2
  · simp only [mo 0 _ (by omega), mo 10 _ (by omega), mo 7 _ (by omega)]; exact h3
  · rw [mo 0 10 (by omega)] at q2
    rw [co 5 _ (by omega), m5]
    exact ⟨(h5 u q1 q2).1, fun k k1 k2 => by rw [co 8 _ (by omega), mo (52 + u) k (by omega)]; exact (h5 u q1 q2).2 k k1 k2⟩
  · simp only [mo 0 _ (by omega), mo 8 _ (by omega), mo 9 _ (by omega), m5]; exact h6
  · simp only [mo 0 _ (by omega), co 14 _ (by omega), thr_mv m5]; exact h7
theorem PL.fr {c' : IH} (h : PL c m P) (hc : ∀ a b, a ≠ 15 → c' a b = c a b) : PL c' m P := by
  obtain ⟨t, h2, h3, h4, h5, h6, h7⟩ := h
  refine ⟨t.fr hc (fun _ _ _ _ => rfl), h2, h3, ?_, fun u q1 q2 => ?_, h6, fun x q1 q2 => by rw [hc 14 _ (by omega)]; exact h7 x q1 q2⟩
  · unfold TrC at *
    simp only [hc 4 _ (by omega), hc 9 _ (by omega), hc 10 _ (by omega), hc 11 _ (by omega), hc 12 _ (by omega), hc 13 _ (by omega)]
    exact h4
  · rw [hc 5 _ (by omega)]
    exact ⟨(h5 u q1 q2).1, fun k k1 k2 => by rw [hc 8 _ (by omega)]; exact (h5 u q1 q2).2 k k1 k2⟩
theorem PL.wg (hN : 20000 ≤ N) (h : PL c m P) : ∃ c' m', G_X2_findLeast N c = some c' ∧ G_X12_weighs N m = some m' ∧ (∀ a b, a ≠ 15 → c' a b = c a b) ∧ (∀ a b, a ≠ 11 → a ≠ 12 → m' a b = m a b) ∧ LL c' m' ∧ (m' 0 10 = 0 → m' 11 0 = -1) := by
  obtain ⟨c', m', a1, a2, a3, a4, a5⟩ := weighsS hN h.1
  obtain ⟨t, h2, h3, h4, h5, h6, h7⟩ := h
  have := LL.wg t h2 h3 h4 h5 h6 h7 a3 a4 a5
  exact ⟨c', m', a1, a2, a3, a4, this.1, this.2⟩
/-- new words told: the rest stays -/
theorem R.words {c1 c2 m2 : IH} (h : R N c m) (hl : LL c1 m2) (h11 : m2 0 10 = 0 → m2 11 0 = -1) (hc : ∀ a b, ¬ (4 ≤ a ∧ a ≤ 18) → c1 a b = c a b) (hm : ∀ a b, ¬ (a = 0 ∧ (b = 0 ∨ b = 10 ∨ b = 15)) → ¬ (4 ≤ a ∧ a ≤ 12) → ¬ (52 ≤ a ∧ a < 113) → m2 a b = m a b) (h75 : ∀ r, 0 ≤ r → r < 140 → c2 75 r = 0) (h80 : c2 80 3 = 0) (h84 : c2 84 4 = 0) (hf : ∀ a b, a ≠ 75 → ¬ (a = 80 ∧ b = 3) → ¬ (a = 84 ∧ b = 4) → c2 a b = c1 a b) : R N c2 m2 := by
  have t' : TR c1 m2 := TR.mk hl ((h.tr.2.2.2.1.cv (fun a b _ _ => hc a b (by omega))).mv (hm _ _ (by omega) (by omega) (by omega)) (fun a b _ _ => hm a b (by omega) (by omega) (by omega)) (fun a b _ _ => hm a b (by omega) (by omega) (by omega))) ((h.tr.2.2.2.2.1.cv (fun b => hc _ b (by omega))).mv (fun b => hm _ b (by omega) (by omega) (by omega))) (h.tr.2.2.2.2.2.1.fr (fun a b _ _ => hc a b (by omega)) (fun a b q => hm a b (by omega) (by omega) (by omega))) (h.tr.2.2.2.2.2.2.fr (fun a b _ _ => hc a b (by omega)) (fun a b q => hm a b (by omega) (by omega) (by omega)))
  have ta : TA c1 m2 := by
    obtain ⟨b1, b2, b3, b4, b5⟩ := h.1
    unfold TA
    rw [hm 0 2 (by omega) (by omega) (by omega), hm 0 5 (by omega) (by omega) (by omega), hc 2 1 (by omega), hc 2 5 (by omega)]
    exact ⟨b1, b2, b3, fun j j1 j2 => by rw [hm 2 j (by omega) (by omega) (by omega), hc 3 j (by omega)]; exact b4 j j1 j2, b5⟩
  exact R.new ta (by rw [hm _ _ (by omega) (by omega) (by omega), hc _ _ (by omega)]; exact h.2.1.1) (by rw [hm _ _ (by omega) (by omega) (by omega), hc _ _ (by omega)]; exact h.2.1.2.1) h11 t' (h.2.2.2.1.cv (fun a b _ _ => hc a b (by omega))) h75 h80 h84 hf
theorem S_weigh {p q : Int} (hN : 20000 ≤ N) (h : R N c m) : CX N 1 2 (G_X11_weigh N c p q) (G_X12_weigh N m p q) := by
  unfold G_X11_weigh G_X12_weigh G_X12_weigh_19 G_X12_weigh_43
  have h' := h.m0 hN
  have z : xv m 0 0 0 0 0 = 0 := xv_eq rfl rfl
  rw [xlet_q]
  generalize xv m 0 0 0 = m at h' z ⊢
  rw [needW h', isW h', yb_s]
  by_cases c1 : 0 ≤ p ∧ p < m 0 10
  · rw [if_pos c1, if_pos c1, bx0, if_neg i10, bad0 z, yb_s, if_pos rfl, inM, yb_s, needB]
    by_cases c2 : 0 ≤ q ∧ q ≤ 99
    · rw [if_pos c2, if_pos c2, bx0, if_neg i10, bad0 z, yb_s, if_pos rfl]
      have w60 := h'.tr.1.2.1
      unfold G_X2_weighWord
      simp (disch := omega) only [xlet_q, xq_in]
      obtain ⟨P, pl⟩ := h'.tr.ll.pl
      obtain ⟨c3, m3, a1, a2, a3, a4, a5, a6⟩ := PL.wg hN (pl.set (w := p) (v := q) c2)
      obtain ⟨c4, b1, b2, b3, b4, b5⟩ := changedS (N := N) (c := c3) hN
      rw [a1, a2, ybv_s, ybv_s, ybv_s, b1, ybv_s, (h'.tr.2.1.2.2.1 p c1.1 c1.2).2.1]
      have hr : R N c4 m3 := R.words h' a5 a6 (fun a b x => by rw [a3 a b (by omega), xv_ne (by omega)]) (fun a b x1 x2 x3 => by rw [a4 a b (by omega) (by omega), xv_ne (by omega)]) b2 b3 b4 b5
      exact CX.ok hr (by rw [a4 _ _ (by omega) (by omega), xv_ne (by omega)]; exact z)
    · rw [if_neg c2, if_neg c2, bx2, if_pos rfl]
      exact cxB hN h' z (by omega)
  · rw [if_neg c1, if_neg c1, bx1, if_pos rfl]
    exact cxE hN h' z (by omega)
theorem S_learn {p : Int} (hN : 20000 ≤ N) (h : R N c m) : CX N 1 0 (G_X11_learn N c p) (G_X12_learn N m p) := by
  unfold G_X11_learn G_X12_learn G_X12_learn_19
  have h' := h.m0 hN
  have z : xv m 0 0 0 0 0 = 0 := xv_eq rfl rfl
  rw [xlet_q]
  generalize xv m 0 0 0 = m at h' z ⊢
  rw [needT h', isT h', yb_s]
  by_cases c1 : 0 ≤ p ∧ p < m 16 0
  · rw [if_pos c1, if_pos c1, bx0, if_neg i10, bad0 z, yb_s, if_pos rfl]
    have w60 := h'.tr.1.2.1
    obtain ⟨c', m2, a1, a2, a3, a4, lk⟩ := aloneS hN h'.tr h'.2.2.2.1 h'.2.2.2.2.1 c1
    have hr := h'.lk lk
    have h40 := h'.tr.2.2.2.2.2.1.1
    have ro := rowAT hN hr.tr hr.2.2.2.1 hr.2.2.2.2.1 c1 a4
    have rb := AT.rb hN hr.tr hr.2.2.2.1 c1
    obtain ⟨m1, m3, b1, b2, b3, b4, b5, b6, b7, b8, b9, b10⟩ := mendT (m' := m) (k := 2) hN h'.tr h'.2.2.2.1 TM.rf c1 (by omega)
    have f1 := fr_laysToken b1
    have f2 := fr_mends b2
    have fin := hr.mv hN b6 (fun b => by rw [f2.1, f1.1])
    have z' : m3 0 0 = 0 := by rw [f2.2.1, f1.2.1]; exact z
    rw [a1, ybv_s, mendedWS hr.tr c1 ro, yb_s, b1, ybv_s, b2, ybv_s, b3, xlet_q]
    have ea : wi (AT N m p) (op m (m 197 p)) 0 = aw N m p := rfl
    rw [ea]
    by_cases cw : aw N m p = -1
    · rw [if_pos cw, if_pos cw]
      exact CX.ok fin z'
    · rw [if_neg cw, if_neg cw, wordOfS ro (by omega), yb_s, xlet_q]
      have wn := wi_ne (m2 := AT N m p) (o := op m (m 197 p)) (j := 0) (by rw [ea]; exact cw)
      have w0 := (rb.2.1 0 wn.1 wn.2.1).1
      have ew : (AT N m p) 33 0 = aw N m p := by rw [← wn.2.2.2, ea]
      rw [ew] at w0
      generalize aw N m p = w at cw w0 b3 ⊢
      have e10 : m3 0 10 = m 0 10 := b6 _ _ (by omega) (by omega) (by omega)
      have c6 : ∀ u, 0 ≤ u → u < m 0 10 → c' 6 u = m3 6 u ∧ 0 ≤ m3 6 u ∧ m3 6 u ≤ 99 := fun u q1 q2 => ⟨(fin.tr.2.1.2.2.1 u q1 (by omega)).2.1, (fin.tr.1.2.2.1 u q1 (by omega)).2.1.1, (fin.tr.1.2.2.1 u q1 (by omega)).2.1.2⟩
      have x1 := c6 w w0.1 w0.2
      obtain ⟨P, pl⟩ := fin.tr.ll.pl
      have emax : G_X12_more N m3 0 (wr (m3 6 w - 1)) = some (max 0 (m3 6 w - 1), m3) := by
        unfold G_X12_more
        rw [wr_in (by omega) (by omega)]
        by_cases y : 0 ≤ m3 6 w - 1
        · rw [if_pos y, show max 0 (m3 6 w - 1) = m3 6 w - 1 by omega]
        · rw [if_neg y, show max 0 (m3 6 w - 1) = 0 by omega]
      have pl1 := pl.set (w := w) (v := max 0 (m3 6 w - 1)) (by omega)
      obtain ⟨c2, mg, d1, d2, d3, d4, d5, d6⟩ := PL.wg hN pl1
      unfold G_X2_weighWord
      simp (disch := omega) only [xlet_q, xq_in]
      rw [x1.1, wr_in (show -2147483648 ≤ m3 6 w - 1 by omega) (by omega), d1, ybv_s, ybv_s]
      rw [wr_in (show -2147483648 ≤ m3 6 w - 1 by omega) (by omega)] at emax
      rw [emax, yb_s, xv_ne (show ¬ ((0 : Int) = 6 ∧ (49 : Int) = w) by omega), xv_ne (show ¬ ((33 : Int) = 6 ∧ (1 : Int) = w) by omega), b9]
      unfold G_X11_learn_91 G_X12_learn_111
      by_cases c49 : (AT N m p) 0 49 ≤ 1
      · have e3 : pr (AT N m p) 33 1 = -1 := by unfold pr; exact if_neg (by omega)
        rw [e3, if_pos rfl, if_pos (by omega), d2, ybv_s]
        obtain ⟨c4, g1, g2, g3, g4, g5⟩ := changedS (N := N) (c := c2) hN
        rw [g1, ybv_s]
        have hr2 : R N c4 mg := R.words fin d5 d6 (fun a b x => by rw [d3 a b (by omega), xv_ne (by omega)]) (fun a b y1 y2 y3 => by rw [d4 a b (by omega) (by omega), xv_ne (by omega)]) g2 g3 g4 g5
        rw [d4 0 50 (by omega) (by omega), xv_ne (show ¬ ((0 : Int) = 6 ∧ (50 : Int) = w) by omega), b3]
        exact CX.ok hr2 (by rw [d4 _ _ (by omega) (by omega), xv_ne (by omega)]; exact z')
      · have e3 : pr (AT N m p) 33 1 = AT N m p 33 1 := by unfold pr; exact if_pos (by omega)
        have e4 := (b10 1 (by omega) (by omega)).1
        have u0 := (rb.2.1 1 (by omega) (by omega)).1
        rw [e3, e4]
        generalize AT N m p 33 1 = u at u0 ⊢
        rw [if_neg (show ¬ u = -1 by omega), if_neg (by omega)]
        simp (disch := omega) only [xq_in]
        have c2u : c2 6 u = xv m3 6 w (max 0 (m3 6 w - 1)) 6 u ∧ 0 ≤ xv m3 6 w (max 0 (m3 6 w - 1)) 6 u ∧ xv m3 6 w (max 0 (m3 6 w - 1)) 6 u ≤ 99 := by
          rw [d3 6 u (by omega)]
          by_cases cu : u = w
          · rw [xv_eq rfl cu, xv_eq rfl cu]; omega
          · rw [xv_ne (by omega), xv_ne (by omega)]; exact c6 u u0.1 u0.2
        generalize hv : xv m3 6 w (max 0 (m3 6 w - 1)) 6 u = v at c2u ⊢
        have emin : G_X12_less N (xv m3 6 w (max 0 (m3 6 w - 1))) 99 (wr (v + 1)) = some (min 99 (v + 1), xv m3 6 w (max 0 (m3 6 w - 1))) := by
          unfold G_X12_less
          rw [wr_in (by omega) (by omega)]
          by_cases y : v + 1 ≤ 99
          · rw [if_pos y, show min 99 (v + 1) = v + 1 by omega]
          · rw [if_neg y, show min 99 (v + 1) = 99 by omega]
        rw [emin, yb_s, c2u.1, wr_in (by omega) (by omega)]
        obtain ⟨c5, m5, i1, i2, i3, i4, i5, i6⟩ := PL.wg hN ((pl1.fr d3).set (w := u) (v := min 99 (v + 1)) (by omega))
        rw [i1, i2, ybv_s, ybv_s, ybv_s]
        obtain ⟨c4, g1, g2, g3, g4, g5⟩ := changedS (N := N) (c := c5) hN
        rw [g1, ybv_s]
        have hr2 : R N c4 m5 := R.words fin i5 i6 (fun a b x => by rw [i3 a b (by omega), xv_ne (by omega), d3 a b (by omega), xv_ne (by omega)]) (fun a b y1 y2 y3 => by rw [i4 a b (by omega) (by omega), xv_ne (by omega), xv_ne (by omega)]) g2 g3 g4 g5
        rw [i4 0 50 (by omega) (by omega), xv_ne (show ¬ ((0 : Int) = 6 ∧ (50 : Int) = u) by omega), xv_ne (show ¬ ((0 : Int) = 6 ∧ (50 : Int) = w) by omega), b3]
        exact CX.ok hr2 (by rw [i4 _ _ (by omega) (by omega), xv_ne (by omega), xv_ne (by omega)]; exact z')
  · rw [if_neg c1, if_neg c1, bx1, if_pos rfl]
    exact cxE hN h' z (by omega)
end
