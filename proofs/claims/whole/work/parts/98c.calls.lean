theorem fr_laysToken {N : Nat} {m m1 : IH} {t k : Int} (e : G_X12_laysToken N m t k = some m1) : (∀ b, m1 1 b = m 1 b) ∧ m1 0 0 = m 0 0 ∧ ∀ b, m1 43 b = m 43 b := by
  have g : Fg rgM lf_X12_laysToken m m1 := gb_X12_laysToken (N := N) (Fg.rf (rg := rgM) (L := lf_X12_laysToken) (a := m)) m1 e
  exact ⟨fun b => g 1 b rfl, g 0 0 rfl, fun b => g 43 b rfl⟩
theorem fr_searches {N : Nat} {m m1 : IH} {k : Int} (e : G_X12_searches N m k = some m1) : (∀ b, m1 1 b = m 1 b) ∧ m1 0 0 = m 0 0 ∧ ∀ b, m1 43 b = m 43 b := by
  have g : Fg rgM lf_X12_searches m m1 := gb_X12_searches (N := N) (Fg.rf (rg := rgM) (L := lf_X12_searches) (a := m)) m1 e
  exact ⟨fun b => g 1 b rfl, g 0 0 rfl, fun b => g 43 b rfl⟩
theorem fr_mends {N : Nat} {m m1 : IH} {k : Int} (e : G_X12_mends N m k = some m1) : (∀ b, m1 1 b = m 1 b) ∧ m1 0 0 = m 0 0 ∧ ∀ b, m1 43 b = m 43 b := by
  have g : Fg rgM lf_X12_mends m m1 := gb_X12_mends (N := N) (Fg.rf (rg := rgM) (L := lf_X12_mends) (a := m)) m1 e
  exact ⟨fun b => g 1 b rfl, g 0 0 rfl, fun b => g 43 b rfl⟩
theorem fr_says {N : Nat} {m m1 : IH} (e : G_X12_says N m = some m1) : (∀ b, m1 1 b = m 1 b) ∧ m1 0 0 = m 0 0 := by
  have g : Fg rgM lf_X12_says m m1 := gb_X12_says (N := N) (Fg.rf (rg := rgM) (L := lf_X12_says) (a := m)) m1 e
  exact ⟨fun b => g 1 b rfl, g 0 0 rfl⟩
theorem fr_mendsAll {N : Nat} {m m1 : IH} (e : G_X12_mendsAll N m = some m1) : (∀ b, m1 1 b = m 1 b) ∧ m1 0 0 = m 0 0 := by
  have g : Fg rgM lf_X12_mendsAll m m1 := gb_X12_mendsAll (N := N) (Fg.rf (rg := rgM) (L := lf_X12_mendsAll) (a := m)) m1 e
  exact ⟨fun b => g 1 b rfl, g 0 0 rfl⟩
theorem fr_spells {N : Nat} {m m1 : IH} {w r : Int} (e : G_X12_spells N m w = some (r, m1)) : (∀ b, m1 1 b = m 1 b) ∧ m1 0 0 = m 0 0 ∧ ∀ b, m1 43 b = m 43 b := by
  have g : Fg rgM lf_X12_spells m m1 := gb_X12_spells (N := N) (Fg.rf (rg := rgM) (L := lf_X12_spells) (a := m)) (r, m1) e
  exact ⟨fun b => g 1 b rfl, g 0 0 rfl, fun b => g 43 b rfl⟩
theorem fr_laysWord {N : Nat} {m m1 : IH} {w : Int} (e : G_X12_laysWord N m w = some m1) : (∀ b, m1 1 b = m 1 b) ∧ m1 0 0 = m 0 0 ∧ ∀ b, m1 43 b = m 43 b := by
  have g : Fg rgM lf_X12_laysWord m m1 := gb_X12_laysWord (N := N) (Fg.rf (rg := rgM) (L := lf_X12_laysWord) (a := m)) m1 e
  exact ⟨fun b => g 1 b rfl, g 0 0 rfl, fun b => g 43 b rfl⟩
theorem fr_laysWay {N : Nat} {m m1 : IH} {t r : Int} (e : G_X12_laysWay N m t = some (r, m1)) : (∀ b, m1 1 b = m 1 b) ∧ m1 0 0 = m 0 0 := by
  have g : Fg rgM lf_X12_laysWay m m1 := gb_X12_laysWay (N := N) (Fg.rf (rg := rgM) (L := lf_X12_laysWay) (a := m)) (r, m1) e
  exact ⟨fun b => g 1 b rfl, g 0 0 rfl⟩
theorem fr_apartOf {N : Nat} {m m1 : IH} {t w r : Int} (e : G_X12_apartOf N m t w = some (r, m1)) : (∀ b, m1 1 b = m 1 b) ∧ m1 0 0 = m 0 0 := by
  have g : Fg rgM lf_X12_apartOf m m1 := gb_X12_apartOf (N := N) (Fg.rf (rg := rgM) (L := lf_X12_apartOf) (a := m)) (r, m1) e
  exact ⟨fun b => g 1 b rfl, g 0 0 rfl⟩
theorem fr_priceOf {N : Nat} {m m1 : IH} {w r : Int} (e : G_X12_priceOf N m w = some (r, m1)) : (∀ b, m1 1 b = m 1 b) ∧ m1 0 0 = m 0 0 := by
  have g : Fg rgM lf_X12_priceOf m m1 := gb_X12_priceOf (N := N) (Fg.rf (rg := rgM) (L := lf_X12_priceOf) (a := m)) (r, m1) e
  exact ⟨fun b => g 1 b rfl, g 0 0 rfl⟩

section
variable {N : Nat} {c m : IH}
theorem i10 : ¬ ((1 : Int) = 0) := by omega

theorem textR (hN : 20000 ≤ N) (h : R N c m) : ∃ c' m', G_X3_make N c = some c' ∧ G_X12_mendsAll N m = some m' ∧ TXR N c' m' (m 16 0) ∧ c' 80 3 = 1 ∧ R N c' m ∧ TM m m' := by
  have e16 := h.tr.2.2.2.2.2.1.1
  rcases h.2.2.2.2.2.1 with q | ⟨q, m', g, x⟩
  · obtain ⟨c', m', a1, a2, a3, a4, a5, a6⟩ := textS hN h.tr h.2.2.2.1 h.2.2.2.2.1 q
    exact ⟨c', m', a1, a2, a3, a4, h.l3 a5 (Or.inr ⟨a4, m', a2, a3⟩), a6⟩
  · have co : ∀ a b, ¬ (a = 80 ∧ b = 3) → xv c 80 3 0 a b = c a b := fun a b z => xv_ne z
    obtain ⟨c', m1, a1, a2, a3, a4, a5, a6⟩ := textS (c := xv c 80 3 0) hN (h.tr.pr (fun a b z => co a b (by omega)) TM.rf) (h.2.2.2.1.cv (fun a b _ _ => co a b (by omega))) (h.2.2.2.2.1.cv (fun a b _ _ => co a b (by omega))) (xv_eq rfl rfl)
    have e : m1 = m' := Option.some.inj (a2.symm.trans g)
    subst e
    refine ⟨c, m1, ?_, g, x, q, h, a6⟩
    unfold G_X3_make
    rw [if_neg (by omega)]

theorem S_told {p : Int} (hN : 20000 ≤ N) (h : R N c m) : CX N 0 1 (G_X11_told N c p) (G_X12_told N m p) := by
  unfold G_X11_told G_X12_told G_X12_told_21
  have h' := h.m0 hN
  have z : xv m 0 0 0 0 0 = 0 := xv_eq rfl rfl
  rw [xlet_q]
  generalize xv m 0 0 0 = m at h' z ⊢
  rw [needB, inM, yb_s]
  by_cases c1 : 0 ≤ p ∧ p ≤ 12
  · rw [if_pos c1, if_pos c1, bx0, if_neg i10, bad0 z, yb_s, if_pos rfl]
    have k := h'.tr.2.2.2.2.1
    have l := h'.tr.2.1
    have rd := h'.tr.2.2.2.2.2.1
    have sr := h'.tr.2.2.2.1
    have ta := h'.1.1
    have k0 := (k 0 (by omega) (by omega)).1
    have k1 := (k 1 (by omega) (by omega)).1
    have k2 := (k 2 (by omega) (by omega)).1
    have k3 := (k 3 (by omega) (by omega)).1
    have k4 := (k 4 (by omega) (by omega)).1
    have k5 := (k 5 (by omega) (by omega)).1
    have k6 := (k 6 (by omega) (by omega)).1
    have e4 : c 31 1 = if m 0 26 = 0 then 0 else wr (m 17 0 + 1) := by
      rcases rd.2.1 with ⟨a, b⟩ | ⟨a, b, d, e⟩
      · rw [if_pos a, b]
      · rw [if_neg (by omega), b, wr_in (by omega) (by omega)]
    have : p = 0 ∨ p = 1 ∨ p = 2 ∨ p = 3 ∨ p = 4 ∨ p = 5 ∨ p = 6 ∨ p = 7 ∨ p = 8 ∨ p = 9 ∨ p = 10 ∨ p = 11 ∨ p = 12 := by omega
    rcases this with e | e | e | e | e | e | e | e | e | e | e | e | e <;> subst e <;> simp (disch := omega) [xq_in, k0, k1, k2, k3, k4, k5, k6, l.1, l.2.1.1, rd.1.1, sr.1, ta, e4]
    all_goals first
      | exact CX.ok h' z
      | (by_cases cz : m 0 26 = 0
         · rw [if_pos cz, if_pos cz]; exact CX.ok h' z
         · rw [if_neg cz, if_neg cz]; exact CX.ok h' z)
  · rw [if_neg c1, if_neg c1, bx2, if_pos rfl]
    exact cxB hN h' z (by omega)

theorem S_sign {p q : Int} (hN : 20000 ≤ N) (h : R N c m) : CX N 1 0 (G_X11_sign N c p q) (G_X12_sign N m p q) := by
  unfold G_X11_sign G_X12_sign G_X12_sign_19
  have h' := h.m0 hN
  have z : xv m 0 0 0 0 0 = 0 := xv_eq rfl rfl
  rw [xlet_q]
  generalize xv m 0 0 0 = m at h' z ⊢
  rw [needW h', isW h', yb_s]
  by_cases c1 : 0 ≤ p ∧ p < m 0 10
  · rw [if_pos c1, if_pos c1, bx0, if_neg i10, bad0 z, yb_s, if_pos rfl]
    have l := h'.tr.2.1.2.2.1 p c1.1 c1.2
    have lm := h'.tr.1.2.2.1 p c1.1 c1.2
    have ln := h'.tr.1.2.1
    simp (disch := omega) only [xq_in, xlet_q]
    rw [inS (by omega), yb_s, l.1]
    by_cases c2 : q < 0
    · rw [if_pos c2, if_neg (show ¬ (0 ≤ q ∧ q < m 5 p) by omega), if_pos rfl]
      exact CX.ok h' z
    · rw [if_neg c2]
      by_cases c3 : m 5 p ≤ q
      · rw [if_pos c3, if_neg (show ¬ (0 ≤ q ∧ q < m 5 p) by omega), if_pos rfl]
        exact CX.ok h' z
      · rw [if_neg c3, if_pos (show 0 ≤ q ∧ q < m 5 p by omega), if_neg (by omega)]
        unfold G_X2_signOf
        simp (disch := omega) only [xq_in, xlet_q, yb_s]
        rw [(l.2.2.2 q (by omega) (by omega)).1]
        exact CX.ok h' z
  · rw [if_neg c1, if_neg c1, bx1, if_pos rfl]
    exact cxE hN h' z (by omega)

theorem S_node {p q : Int} (hN : 20000 ≤ N) (h : R N c m) : CX N 1 2 (G_X11_node N c p q) (G_X12_node N m p q) := by
  unfold G_X11_node G_X12_node G_X12_node_19 G_X12_node_42
  have h' := h.m0 hN
  have z : xv m 0 0 0 0 0 = 0 := xv_eq rfl rfl
  rw [xlet_q]
  generalize xv m 0 0 0 = m at h' z ⊢
  rw [needN h', isN h', yb_s]
  by_cases c1 : 0 ≤ p ∧ p < m 0 15
  · rw [if_pos c1, if_pos c1, bx0, if_neg i10, bad0 z, yb_s, if_pos rfl, inM, yb_s, needB]
    by_cases c2 : 0 ≤ q ∧ q ≤ 5
    · rw [if_pos c2, if_pos c2, bx0, if_neg i10, bad0 z, yb_s, if_pos rfl]
      have tc := h'.tr.2.1.2.1
      have l := tc.2.1 p c1.1 c1.2
      have l4 := h'.tr.2.1.2.2.2 p c1.1 c1.2
      have nn := h'.tr.1.1.1
      have e10 := h'.tr.2.1.1
      have b3 := h'.2.1.2.2
      have gg := h'.tr.2.2.1
      obtain ⟨v, v1, v2⟩ := cntS (N := N) hN h'.tr.1.1 tc c1
      have e11 : (if m 0 10 = 0 then -1 else m 11 p) = m 11 p := by
        by_cases cz : m 0 10 = 0
        · rw [if_pos cz]
          obtain ⟨P, _, lg⟩ := gg
          have := lg.1.1
          rw [show p = 0 by omega]
          exact (b3 cz).symm
        · rw [if_neg cz]
      have : q = 0 ∨ q = 1 ∨ q = 2 ∨ q = 3 ∨ q = 4 ∨ q = 5 := by omega
      rcases this with e | e | e | e | e | e <;> subst e <;> simp (disch := omega) [xq_in, l.1, l.2.1, l.2.2, l4.1, l4.2, e10, v1, v2, yb_s]
      all_goals first
        | exact CX.ok h' z
        | (by_cases cz : m 0 10 = 0
           · rw [if_pos cz] at e11 ⊢; rw [← e11]; exact CX.ok h' z
           · rw [if_neg cz]; exact CX.ok h' z)
    · rw [if_neg c2, if_neg c2, bx2, if_pos rfl]
      exact cxB hN h' z (by omega)
  · rw [if_neg c1, if_neg c1, bx1, if_pos rfl]
    exact cxE hN h' z (by omega)

theorem S_child {p q : Int} (hN : 20000 ≤ N) (h : R N c m) : CX N 1 0 (G_X11_child N c p q) (G_X12_child N m p q) := by
  unfold G_X11_child G_X12_child G_X12_child_19
  have h' := h.m0 hN
  have z : xv m 0 0 0 0 0 = 0 := xv_eq rfl rfl
  rw [xlet_q]
  generalize xv m 0 0 0 = m at h' z ⊢
  rw [needN h', isN h', yb_s]
  by_cases c1 : 0 ≤ p ∧ p < m 0 15
  · rw [if_pos c1, if_pos c1, bx0, if_neg i10, bad0 z, yb_s, if_pos rfl]
    rw [chC hN h'.tr.1.1 h'.tr.2.1.2.1 c1, chM hN h'.tr.1.1 c1, yb_s, yb_s]
    exact CX.ok h' z
  · rw [if_neg c1, if_neg c1, bx1, if_pos rfl]
    exact cxE hN h' z (by omega)

theorem S_shape {p q : Int} (hN : 20000 ≤ N) (h : R N c m) : CX N 1 2 (G_X11_shape N c p q) (G_X12_shape N m p q) := by
  unfold G_X11_shape G_X12_shape G_X12_shape_27 G_X12_shape_50
  have h' := h.m0 hN
  have z : xv m 0 0 0 0 0 = 0 := xv_eq rfl rfl
  rw [xlet_q]
  generalize xv m 0 0 0 = m at h' z ⊢
  have hsr := h'.tr.2.2.2.1
  have hs13 : 0 ≤ m 13 0 ∧ m 13 0 ≤ 20 := ⟨hsr.2.1, hsr.2.2.1⟩
  rw [needS h', inS (by omega), yb_s]
  by_cases c1 : 0 ≤ p ∧ p < m 13 0
  · rw [if_pos c1, if_pos c1, bx0, if_neg i10, bad0 z, yb_s, if_pos rfl, inM, yb_s, needB]
    by_cases c2 : 0 ≤ q ∧ q ≤ 2
    · rw [if_pos c2, if_pos c2, bx0, if_neg i10, bad0 z, yb_s, if_pos rfl]
      have l := (hsr.2.2.2 p c1.1 c1.2).1
      have e0 : (157 : Int) + (0 * 20 + p) = 157 + p := by omega
      have : q = 0 ∨ q = 1 ∨ q = 2 := by omega
      rcases this with e | e | e <;> subst e <;> simp (disch := omega) only [xq_in, xlet_q, e0] <;> simp [l.1, l.2.1, l.2.2] <;> exact CX.ok h' z
    · rw [if_neg c2, if_neg c2, bx2, if_pos rfl]
      exact cxB hN h' z (by omega)
  · rw [if_neg c1, if_neg c1, bx1, if_pos rfl]
    exact cxE hN h' z (by omega)

theorem S_dear {p q : Int} (hN : 20000 ≤ N) (h : R N c m) : CX N 1 0 (G_X11_dear N c p q) (G_X12_dear N m p q) := by
  unfold G_X11_dear G_X12_dear G_X12_dear_22 G_X12_dear_27
  have h' := h.m0 hN
  have z : xv m 0 0 0 0 0 = 0 := xv_eq rfl rfl
  rw [xlet_q]
  generalize xv m 0 0 0 = m at h' z ⊢
  rw [needW h', isW h', yb_s]
  by_cases c1 : 0 ≤ p ∧ p < m 0 10
  · rw [if_pos c1, if_pos c1, bx0, if_neg i10, needW h', isW h', yb_s]
    by_cases c2 : 0 ≤ q ∧ q < m 0 10
    · rw [if_pos c2, if_pos c2, bx0, if_neg i10, bad0 z, yb_s, if_pos rfl]
      rw [dearCS hN h'.tr.2.2.2.2.1 h'.tr.2.2.2.2.2.2, dearMS hN h'.tr.2.2.2.2.2.2, yb_s, yb_s]
      exact CX.ok h' z
    · rw [if_neg c2, if_neg c2, bx1, if_pos rfl]
      exact cxE hN h' z (by omega)
  · rw [if_neg c1, if_neg c1, bx1, if_pos rfl]
    exact cxE hN h' z (by omega)

theorem S_said {p : Int} (hN : 20000 ≤ N) (h : R N c m) : CX N 1 0 (G_X11_said N c p) (G_X12_said N m p) := by
  unfold G_X11_said G_X12_said G_X12_said_19
  have h' := h.m0 hN
  have z : xv m 0 0 0 0 0 = 0 := xv_eq rfl rfl
  rw [xlet_q]
  generalize xv m 0 0 0 = m at h' z ⊢
  rw [needT h', isT h', yb_s]
  by_cases c1 : 0 ≤ p ∧ p < m 16 0
  · rw [if_pos c1, if_pos c1, bx0, if_neg i10, bad0 z, yb_s, if_pos rfl]
    obtain ⟨c', g, hh, r0, a1, a2, a3, a4, a5⟩ := sentC hN h'.tr h'.2.2.2.1 h'.2.2.2.2.1 h'.2.2.2.2.2.2
    obtain ⟨m2, b1, b2, b3, b4⟩ := sentM (c := c) (m' := m) hN h'.tr h'.2.2.2.1 TM.rf a2
    have rd := h'.tr.2.2.2.2.2.1.1
    have fr := fr_says b1
    rw [a1, b1, ybv_s, ybv_s]
    simp (disch := omega) only [xq_in]
    have ep : ((p.toNat : Nat) : Int) = p := by omega
    have x := a3.2.1 p.toNat (by omega)
    have y := b4 p.toNat (by omega)
    rw [ep] at x y
    rw [x, y]
    have hr := h'.lv a5 (Or.inr ⟨a4, g, hh, r0, a2, a3⟩)
    exact CX.ok (hr.mv hN b2 fr.1) (by rw [fr.2]; exact z)
  · rw [if_neg c1, if_neg c1, bx1, if_pos rfl]
    exact cxE hN h' z (by omega)

theorem S_mended {p q : Int} (hN : 20000 ≤ N) (h : R N c m) : CX N 1 2 (G_X11_mended N c p q) (G_X12_mended N m p q) := by
  unfold G_X11_mended G_X12_mended G_X12_mended_19 G_X12_mended_42
  have h' := h.m0 hN
  have z : xv m 0 0 0 0 0 = 0 := xv_eq rfl rfl
  rw [xlet_q]
  generalize xv m 0 0 0 = m at h' z ⊢
  rw [needT h', isT h', yb_s]
  by_cases c1 : 0 ≤ p ∧ p < m 16 0
  · rw [if_pos c1, if_pos c1, bx0, if_neg i10, bad0 z, yb_s, if_pos rfl, inM, yb_s, needB]
    by_cases c2 : 0 ≤ q ∧ q ≤ 2
    · rw [if_pos c2, if_pos c2, bx0, if_neg i10, bad0 z, yb_s, if_pos rfl]
      obtain ⟨c', m2, a1, a2, a3, a4, lk⟩ := aloneS hN h'.tr h'.2.2.2.1 h'.2.2.2.2.1 c1
      have hr := h'.lk lk
      have ro := rowAT hN hr.tr hr.2.2.2.1 hr.2.2.2.2.1 c1 a4
      have rb := AT.rb hN hr.tr hr.2.2.2.1 c1
      obtain ⟨m1, m3, b1, b2, b3, b4, b5, b6, _⟩ := mendT (m' := m) (k := 2) hN h'.tr h'.2.2.2.1 TM.rf c1 (by omega)
      have f1 := fr_laysToken b1
      have f2 := fr_mends b2
      rw [a1, ybv_s, b1, ybv_s, b2, ybv_s, mendedWS hr.tr c1 ro, mendedPS hr.tr c1 ro, nextS hr.tr c1 ro rb, b3, b4, b5 (by omega)]
      have fin := hr.mv hN b6 (fun b => by rw [f2.1, f1.1])
      have z' : m3 0 0 = 0 := by rw [f2.2.1, f1.2.1]; exact z
      unfold aw aa
      have : q = 0 ∨ q = 1 ∨ q = 2 := by omega
      rcases this with e | e | e <;> subst e <;> simp [yb_s] <;> exact CX.ok fin z'
    · rw [if_neg c2, if_neg c2, bx2, if_pos rfl]
      exact cxB hN h' z (by omega)
  · rw [if_neg c1, if_neg c1, bx1, if_pos rfl]
    exact cxE hN h' z (by omega)

theorem S_text {p : Int} (hN : 20000 ≤ N) (h : R N c m) : CX N 0 1 (G_X11_text N c p) (G_X12_text N m p) := by
  unfold G_X11_text G_X12_text G_X12_text_20
  have h' := h.m0 hN
  have z : xv m 0 0 0 0 0 = 0 := xv_eq rfl rfl
  rw [xlet_q]
  generalize xv m 0 0 0 = m at h' z ⊢
  rw [needB, inM, yb_s]
  by_cases c1 : 0 ≤ p ∧ p ≤ 3
  · rw [if_pos c1, if_pos c1, bx0, if_neg i10, bad0 z, yb_s, if_pos rfl]
    obtain ⟨c', m', a1, a2, a3, a4, a5, a6⟩ := textR hN h'
    have fr := fr_mendsAll a2
    rw [a1, a2, ybv_s, ybv_s]
    have fin := a5.mv hN a6 fr.1
    have z' : m' 0 0 = 0 := by rw [fr.2]; exact z
    obtain ⟨x1, x2, x3, x4, x5, x6, x7, x8⟩ := a3
    have : p = 0 ∨ p = 1 ∨ p = 2 ∨ p = 3 := by omega
    rcases this with e | e | e | e <;> subst e <;> simp [x1, x3, x4, x5] <;> exact CX.ok fin z'
  · rw [if_neg c1, if_neg c1, bx2, if_pos rfl]
    exact cxB hN h' z (by omega)

theorem S_lost {p q : Int} (hN : 20000 ≤ N) (h : R N c m) : CX N 1 2 (G_X11_lost N c p q) (G_X12_lost N m p q) := by
  unfold G_X11_lost G_X12_lost G_X12_lost_19 G_X12_lost_42
  have h' := h.m0 hN
  have z : xv m 0 0 0 0 0 = 0 := xv_eq rfl rfl
  rw [xlet_q]
  generalize xv m 0 0 0 = m at h' z ⊢
  rw [needT h', isT h', yb_s]
  by_cases c1 : 0 ≤ p ∧ p < m 16 0
  · rw [if_pos c1, if_pos c1, bx0, if_neg i10, bad0 z, yb_s, if_pos rfl, inM, yb_s, needB]
    by_cases c2 : 0 ≤ q ∧ q ≤ 1
    · rw [if_pos c2, if_pos c2, bx0, if_neg i10, bad0 z, yb_s, if_pos rfl]
      obtain ⟨c', m', a1, a2, a3, a4, a5, a6⟩ := textR hN h'
      have fr := fr_mendsAll a2
      rw [a1, a2, ybv_s, ybv_s]
      have fin := a5.mv hN a6 fr.1
      have z' : m' 0 0 = 0 := by rw [fr.2]; exact z
      obtain ⟨x1, x2, x3, x4, x5, x6, x7, x8⟩ := a3
      have rd := h'.tr.2.2.2.2.2.1.1
      unfold G_X12_lost_68
      have : q = 0 ∨ q = 1 := by omega
      rcases this with e | e
      · subst e
        rw [if_pos rfl, if_pos rfl]
        obtain ⟨r, r1, r2, r3⟩ := x7 p c1.1 c1.2
        simp (disch := omega) only [xq_in]
        rw [r2, yb_s, r3]
        unfold ybo
        rw [if_pos r1, if_pos r1]
        exact CX.ok fin z'
      · subst e
        rw [if_neg i10, if_neg i10, wr_in (by omega) (by omega)]
        by_cases cp : p ≤ 0
        · rw [if_pos cp, show p - 1 = -1 by omega, x8 (by omega), yb_s]
          unfold ybo
          rw [if_pos (Or.inl rfl)]
          exact CX.ok fin z'
        · rw [if_neg cp]
          obtain ⟨r, r1, r2, r3⟩ := x7 (p - 1) (by omega) (by omega)
          simp (disch := omega) only [xq_in]
          rw [r2, yb_s, r3]
          unfold ybo
          rw [if_pos r1]
          rcases r1 with e | e
          · subst e
            rw [if_pos rfl]
            exact CX.ok fin z'
          · subst e
            rw [if_neg (by omega)]
            exact CX.ok fin z'
    · rw [if_neg c2, if_neg c2, bx2, if_pos rfl]
      exact cxB hN h' z (by omega)
  · rw [if_neg c1, if_neg c1, bx1, if_pos rfl]
    exact cxE hN h' z (by omega)

end
