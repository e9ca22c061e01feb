/-- a cell, in a reading of the class with base k, in a row of the reference -/
def CLk (c m : IH) (k j x : Int) : Prop := c (k + 5) j = m x 0 ∧ (isLt (m x 0) ∨ m x 0 = 63 ∨ m x 0 = 45 ∨ m x 0 = 10) ∧ c (k + 6) j = m x 1 ∧ 0 ≤ m x 1 ∧ m x 1 ≤ 3 ∧ (isLt (m x 0) ∨ m x 1 = 0) ∧ ∀ q, 0 ≤ q → q < m x 1 → c (k + 7) (j * 3 + q) = m x (2 + 2 * q) ∧ c (k + 8) (j * 3 + q) = m x (3 + 2 * q) ∧ 0 ≤ m x (3 + 2 * q) ∧ m x (3 + 2 * q) ≤ 99
/-- both tell the same fault -/
def FL (c m : IH) : Prop := c 2 4 = m 0 6 ∧ c 2 5 = m 0 7 ∧ 1 ≤ m 0 6 ∧ m 0 6 ≤ 5
theorem FL.w2 {c m : IH} {k l : Int} (hk : 1 ≤ k ∧ k ≤ 5) : FL (xv (xv c 2 4 k) 2 5 l) (xv (xv m 0 6 k) 0 7 l) := by
  unfold FL
  rw [xv_ne (by omega), xv_eq rfl rfl, xv_ne (by omega), xv_eq rfl rfl, xv_eq rfl rfl, xv_eq rfl rfl]
  exact ⟨rfl, rfl, hk.1, hk.2⟩
section
variable {N : Nat} {c m : IH}
/-- the class's cells that the others of a cell change, from the v-th on -/
def OFc (c c' : IH) (k C v : Int) : Prop := ∀ a b, ¬ (a = 2 ∧ (b = 3 ∨ b = 4 ∨ b = 5)) → ¬ (a = k + 6 ∧ b = C) → ¬ ((a = k + 7 ∨ a = k + 8) ∧ C * 3 + v ≤ b ∧ b < C * 3 + 3) → c' a b = c a b
def OFm (m m' : IH) (x v : Int) : Prop := ∀ a b, ¬ (a = 0 ∧ (b = 4 ∨ b = 6 ∨ b = 7)) → ¬ (a = x ∧ (b = 1 ∨ 2 + 2 * v ≤ b)) → m' a b = m a b
theorem oth55_0 {n x : Int} {K : IH → Int → Option IH} (h6 : m 0 6 ≠ 0) (h3 : m 0 3 = n) (hn : n ≤ 400) (h4 : 0 ≤ m 0 4) : G_X12_readsOthers_55 N K m x = some m := by
  unfold G_X12_readsOthers_55 G_X12_readsOthers_93
  rw [ghere' h3 hn rfl h4, yb_s, gletM, yb_s, gwrong0 h6, gwrong0 h6, ybv_s, gfine0 h6, yb_s, if_pos rfl]
  by_cases q : isl (bt m n (m 0 4)) = 0
  · rw [if_pos q]
  · rw [if_neg q]
    by_cases q2 : m x 1 = 3
    · rw [if_pos q2]
    · rw [if_neg q2]
theorem oth0 {n k C x : Int} (hN : 20000 ≤ N) (hk : k = 31 ∨ k = 40) (hC : 0 ≤ C ∧ C < 400) (hx : 1245 ≤ x ∧ x < 2205) : ∀ (f f2 : Nat) (c m : IH) (i v : Int), TP c m n i → 0 ≤ v → v ≤ 3 → m x 1 = v → c (k + 6) C = v → 3 - v < f → 3 - v < f2 → ∃ r c' m', G_X5_readOthers_34 N k f c C v = some (r, c') ∧ G_X12_readsOthers_55 N (G_X12_readsOthers_10 N f2) m x = some m' ∧ OFc c c' k C v ∧ OFm m m' x v ∧ ((r = 1 ∧ (∃ j, i < j ∧ TP c' m' n j) ∧ ∃ w, v ≤ w ∧ w ≤ 3 ∧ c' (k + 6) C = w ∧ m' x 1 = w ∧ ∀ q, v ≤ q → q < w → c' (k + 7) (C * 3 + q) = m' x (2 + 2 * q) ∧ c' (k + 8) (C * 3 + q) = m' x (3 + 2 * q) ∧ 0 ≤ m' x (3 + 2 * q) ∧ m' x (3 + 2 * q) ≤ 99) ∨ (r = 0 ∧ FL c' m')) := by
  intro f
  induction f with
  | zero => intro f2 c m i v h h1 h2 h3 h4 h5 h6; omega
  | succ f ih =>
    intro f2 c m i v h h1 h2 h3 h4 h5 h6
    obtain ⟨f2, rfl⟩ : ∃ g, f2 = g + 1 := ⟨f2 - 1, by omega⟩
    have hr := h.rng h.2.1.1
    have hn := h.2.1
    have t6 := h.1.2.2.2.2.2
    unfold G_X5_readOthers_34 G_X12_readsOthers_55
    rw [if_neg (show ¬ 3 < v by omega), gpeek h (by omega), yb_s, Int.add_zero, xlet_q, gletC, yb_s, ghere h, yb_s, gletM, yb_s]
    by_cases hl : 97 ≤ bt m n i ∧ bt m n i ≤ 122
    · rw [isl_1 hl, if_neg i10, if_neg i10, h3]
      by_cases v3 : v = 3
      · rw [if_pos v3, if_pos v3, grefuse, yb_s, ybo0, gwrong t6, ybv_s, h.1.2.2.1, h.1.2.2.2.1]
        unfold G_X12_readsOthers_93
        rw [gfine0 (by rw [xv_ne (by omega), xv_eq rfl rfl]; omega), yb_s, if_pos rfl]
        refine ⟨0, _, _, rfl, rfl, fun a b z1 z2 z3 => ?_, fun a b z1 z2 => ?_, Or.inr ⟨rfl, FL.w2 (by omega)⟩⟩
        · rw [xv_ne (by omega), xv_ne (by omega)]
        · rw [xv_ne (by omega), xv_ne (by omega)]
      · rw [if_neg v3, if_neg v3]
        unfold G_X12_readsOthers_93
        rw [gfine t6, yb_s, if_neg i10, ghere h, yb_s, h3, xq_in (by omega) (by omega), xlet_q, xlet_q, xlet_q, xv_ne (show ¬ ((0 : Int) = x ∧ (4 : Int) = 2 + 2 * v) by omega), h.1.2.2.1, h.1.2.2.2.1, wr_in (show -2147483648 ≤ i + 1 by omega) (by omega)]
        have T1 : TP (xv c 2 3 (i + 1)) (xv (xv m x (2 + 2 * v) (bt m n i)) 0 4 (i + 1)) n (i + 1) := (h.w (by omega)).at (by omega)
        have x1 : xv (xv m x (2 + 2 * v) (bt m n i)) 0 4 (i + 1) x 1 = v := by rw [xv_ne (by omega), xv_ne (by omega)]; exact h3
        rw [x1]
        obtain ⟨p, e1, q, e2, e3, -⟩ := numS (N := N) (lo := 1) hN (by omega) T1
        rw [e1, e2]
        rcases e3 with ⟨u, j, g1, g2, g3, g4, g5, g6⟩ | ⟨k', l, j, j', g1, g2, g3, g4, g5, g6⟩
        · rw [g5, g6, yb_s, yb_s, xq_in (show 0 ≤ 3 + 2 * v by omega) (show 3 + 2 * v < 8 by omega), xlet_q, xlet_q, xlet_q, if_neg (by omega), xq_in (by omega) (by omega), xlet_q, xq_in (by omega) (by omega), xlet_q, xq_in hC.1 hC.2, xlet_q, xv_xv, xv_xv]
          have y1 : xv (xv (xv m x (2 + 2 * v) (bt m n i)) 0 4 j) x (3 + 2 * v) u x 1 = v := by rw [xv_ne (by omega), xv_ne (by omega), xv_ne (by omega)]; exact h3
          rw [y1, wr_in (show -2147483648 ≤ v + 1 by omega) (by omega)]
          generalize hc2 : xv (xv (xv (xv c 2 3 j) (k + 7) (C * 3 + v) (bt m n i)) (k + 8) (C * 3 + v) u) (k + 6) C (v + 1) = c2
          generalize hm2 : xv (xv (xv (xv m x (2 + 2 * v) (bt m n i)) 0 4 j) x (3 + 2 * v) u) x 1 (v + 1) = m2
          have T2 : TP c2 m2 n j := by
            rw [← hc2, ← hm2]
            exact ((((((h.w (k := x) (a := 2 + 2 * v) (v := bt m n i) (by omega)).at (j := j) (by omega)).w (k := x) (a := 3 + 2 * v) (v := u) (by omega)).w (k := x) (a := 1) (v := v + 1) (by omega)).wc (k := k + 7) (a := C * 3 + v) (v := bt m n i) (by omega)).wc (k := k + 8) (a := C * 3 + v) (v := u) (by omega)).wc (k := k + 6) (a := C) (v := v + 1) (by omega)
          have d1 : c2 (k + 6) C = v + 1 := by rw [← hc2]; exact xv_eq rfl rfl
          have d2 : c2 (k + 7) (C * 3 + v) = bt m n i := by rw [← hc2, xv_ne (by omega), xv_ne (by omega), xv_eq rfl rfl]
          have d3 : c2 (k + 8) (C * 3 + v) = u := by rw [← hc2, xv_ne (by omega), xv_eq rfl rfl]
          have d4 : m2 x 1 = v + 1 := by rw [← hm2]; exact xv_eq rfl rfl
          have d5 : m2 x (2 + 2 * v) = bt m n i := by rw [← hm2, xv_ne (by omega), xv_ne (by omega), xv_ne (by omega), xv_eq rfl rfl]
          have d6 : m2 x (3 + 2 * v) = u := by rw [← hm2, xv_ne (by omega), xv_eq rfl rfl]
          have fc : OFc c c2 k C v := fun a b z1 z2 z3 => by rw [← hc2, xv_ne (by omega), xv_ne (by omega), xv_ne (by omega), xv_ne (by omega)]
          have fm : OFm m m2 x v := fun a b z1 z2 => by rw [← hm2, xv_ne (by omega), xv_ne (by omega), xv_ne (by omega), xv_ne (by omega)]
          clear hc2 hm2
          have s6 := T2.1.2.2.2.2.2
          have hr2 := T2.rng T2.2.1.1
          unfold G_X12_readsOthers_10
          rw [gpeek T2 (by omega), yb_s, Int.add_zero, gfine s6, yb_s, if_neg i10, ghere T2, yb_s]
          by_cases c93 : bt m2 n j = 93
          · unfold G_X12_readsOthers_150
            rw [if_pos c93, if_pos c93, xlet_q, xlet_q, T2.1.2.2.1, T2.1.2.2.2.1, wr_in (by omega) (by omega)]
            refine ⟨1, _, _, rfl, rfl, fun a b z1 z2 z3 => ?_, fun a b z1 z2 => ?_, Or.inl ⟨rfl, ⟨j + 1, by omega, T2.at (by omega)⟩, v + 1, by omega, by omega, ?_, ?_, fun q q1 q2 => ?_⟩⟩
            · rw [xv_ne (by omega)]; exact fc a b z1 z2 z3
            · rw [xv_ne (by omega)]; exact fm a b z1 z2
            · rw [xv_ne (by omega)]; exact d1
            · rw [xv_ne (by omega)]; exact d4
            · have : q = v := by omega
              subst this
              rw [xv_ne (by omega), xv_ne (by omega), xv_ne (by omega), xv_ne (by omega), d2, d3, d5, d6]
              exact ⟨rfl, rfl, by omega, by omega⟩
          · rw [if_neg c93, if_neg c93, d4, if_neg (show ¬ v + 1 ≤ 0 by omega), ghere T2, yb_s, gpeek T2 (by omega), yb_s, Int.add_zero]
            by_cases c32 : bt m2 n j = 32
            · unfold G_X12_readsOthers_50
              obtain ⟨j2, y1, y2, y3, y4, y5, T3⟩ := blanksS (N := N) hN T2
              rw [if_pos c32, if_pos c32, y4, y5, ybv_s, yb_s, xlet_q]
              obtain ⟨r, c', m', a1, a2, a3, a4, a5⟩ := ih f2 (xv c2 2 3 j2) (xv m2 0 4 j2) j2 (v + 1) T3 (by omega) (by omega) (by rw [xv_ne (by omega)]; exact d4) (by rw [xv_ne (by omega)]; exact d1) (by omega) (by omega)
              refine ⟨r, c', m', a1, a2, fun a b z1 z2 z3 => ?_, fun a b z1 z2 => ?_, ?_⟩
              · rw [a3 a b z1 z2 (by omega), xv_ne (by omega)]; exact fc a b z1 z2 z3
              · rw [a4 a b z1 (by omega), xv_ne (by omega)]; exact fm a b z1 z2
              · rcases a5 with ⟨b1, ⟨j', b2, b3⟩, w, b4, b5, b6, b7, b8⟩ | b
                · refine Or.inl ⟨b1, ⟨j', by omega, b3⟩, w, by omega, b5, b6, b7, fun q q1 q2 => ?_⟩
                  by_cases eq : q = v
                  · subst eq
                    rw [a3 _ _ (by omega) (by omega) (by omega), a3 _ _ (by omega) (by omega) (by omega), a4 _ _ (by omega) (by omega), a4 _ _ (by omega) (by omega), xv_ne (by omega), xv_ne (by omega), xv_ne (by omega), xv_ne (by omega), d2, d3, d5, d6]
                    exact ⟨rfl, rfl, by omega, by omega⟩
                  · exact b8 q (by omega) q2
                · exact Or.inr b
            · unfold G_X12_readsOthers_50
              rw [if_neg c32, if_neg c32, grefuse, yb_s, ybo0, gwrong s6, ybv_s, T2.1.2.2.1, T2.1.2.2.2.1]
              obtain ⟨F1, F2, F3, F4, F5, F6, F7⟩ := FT.w2 (k := 1) (l := j) T2 (by omega)
              have f4 : xv (xv m2 0 6 1) 0 7 j 0 4 = j := by rw [xv_ne (by omega), xv_ne (by omega)]; exact T2.1.2.2.2.1
              rw [blanks_stay (i := j) hN F5 hn.2.2 f4 (by omega) (by rw [bt_xv (by omega), bt_xv (by omega)]; exact c32), yb_s, oth55_0 (n := n) (by omega) F5 hn.2.2 F6]
              refine ⟨0, _, _, rfl, rfl, fun a b z1 z2 z3 => ?_, fun a b z1 z2 => ?_, Or.inr ⟨rfl, F1, F2, F3, F4⟩⟩
              · rw [xv_ne (by omega), xv_ne (by omega)]; exact fc a b z1 z2 z3
              · rw [xv_ne (by omega), xv_ne (by omega)]; exact fm a b z1 z2
        · rw [g5, g6, yb_s, yb_s, xq_in (show 0 ≤ 3 + 2 * v by omega) (show 3 + 2 * v < 8 by omega), xlet_q, xlet_q, xlet_q, if_pos rfl]
          unfold G_X12_readsOthers_10 G_X12_readsOthers_150 flc flm
          simp only [xlet_q]
          rw [gfine0 (by rw [xv_ne (by omega), xv_ne (by omega), xv_ne (by omega), xv_eq rfl rfl]; omega), yb_s, if_pos rfl]
          refine ⟨0, _, _, rfl, rfl, fun a b z1 z2 z3 => ?_, fun a b z1 z2 => ?_, Or.inr ⟨rfl, ?_, ?_, ?_, ?_⟩⟩
          · rw [xv_ne (by omega), xv_ne (by omega), xv_ne (by omega), xv_ne (by omega)]
          · rw [xv_ne (by omega), xv_ne (by omega), xv_ne (by omega), xv_ne (by omega), xv_ne (by omega), xv_ne (by omega), xv_ne (by omega), xv_ne (by omega)]
          · rw [xv_ne (by omega), xv_eq rfl rfl, xv_ne (by omega), xv_ne (by omega), xv_ne (by omega), xv_ne (by omega), xv_eq rfl rfl]
          · rw [xv_eq rfl rfl, xv_ne (by omega), xv_ne (by omega), xv_ne (by omega), xv_eq rfl rfl]
          · rw [xv_ne (by omega), xv_ne (by omega), xv_ne (by omega), xv_ne (by omega), xv_eq rfl rfl]; exact g1
          · rw [xv_ne (by omega), xv_ne (by omega), xv_ne (by omega), xv_ne (by omega), xv_eq rfl rfl]; exact g2
    · rw [isl_0 hl, if_pos rfl, if_pos rfl, grefuse, yb_s, ybo0, gwrong t6, ybv_s, h.1.2.2.1, h.1.2.2.2.1]
      unfold G_X12_readsOthers_93
      rw [gfine0 (by rw [xv_ne (by omega), xv_eq rfl rfl]; omega), yb_s, if_pos rfl]
      refine ⟨0, _, _, rfl, rfl, fun a b z1 z2 z3 => ?_, fun a b z1 z2 => ?_, Or.inr ⟨rfl, FL.w2 (by omega)⟩⟩
      · rw [xv_ne (by omega), xv_ne (by omega)]
      · rw [xv_ne (by omega), xv_ne (by omega)]
/-- what a letter may be else, both sides -/
theorem othS {n k C x i : Int} (hN : 20000 ≤ N) (hk : k = 31 ∨ k = 40) (hC : 0 ≤ C ∧ C < 400) (hx : 1245 ≤ x ∧ x < 2205) (h : TP c m n i) (hi : i < n) (hm : m x 1 = 0) (hc : c (k + 6) C = 0) : ∃ r c' m', G_X5_readOthers N k c C = some (r, c') ∧ G_X12_readsOthers N m x = some m' ∧ OFc c c' k C 0 ∧ OFm m m' x 0 ∧ ((r = 1 ∧ (∃ j, i < j ∧ TP c' m' n j) ∧ ∃ w, 0 ≤ w ∧ w ≤ 3 ∧ c' (k + 6) C = w ∧ m' x 1 = w ∧ ∀ q, 0 ≤ q → q < w → c' (k + 7) (C * 3 + q) = m' x (2 + 2 * q) ∧ c' (k + 8) (C * 3 + q) = m' x (3 + 2 * q) ∧ 0 ≤ m' x (3 + 2 * q) ∧ m' x (3 + 2 * q) ≤ 99) ∨ (r = 0 ∧ FL c' m')) := by
  have hn := h.2.1
  obtain ⟨N', eN⟩ : ∃ N', N = N' + 1 := ⟨N - 1, by omega⟩
  unfold G_X5_readOthers G_X12_readsOthers
  have e10 : ∀ a y, G_X12_readsOthers_10 N N a y = G_X12_readsOthers_10 N (N' + 1) a y := fun a y => by rw [← eN]
  rw [xlet_q, xlet_q, e10, h.1.2.2.1, h.1.2.2.2.1, wr_in (show -2147483648 ≤ i + 1 by omega) (by omega)]
  have T1 := h.at (j := i + 1) (by omega)
  have hr := T1.rng T1.2.1.1
  have t6 := T1.1.2.2.2.2.2
  unfold G_X12_readsOthers_10
  rw [gpeek T1 (by omega), yb_s, Int.add_zero, gfine t6, yb_s, if_neg i10, ghere T1, yb_s]
  by_cases c93 : bt (xv m 0 4 (i + 1)) n (i + 1) = 93
  · unfold G_X12_readsOthers_150
    rw [if_pos c93, if_pos c93, xlet_q, xlet_q, xv_eq rfl rfl, xv_eq rfl rfl, wr_in (by omega) (by omega), xv_xv, xv_xv]
    refine ⟨1, _, _, rfl, rfl, fun a b z1 z2 z3 => xv_ne (by omega), fun a b z1 z2 => xv_ne (by omega), Or.inl ⟨rfl, ⟨i + 1 + 1, by omega, h.at (by omega)⟩, 0, by omega, by omega, ?_, ?_, fun q q1 q2 => by omega⟩⟩
    · rw [xv_ne (by omega)]; exact hc
    · rw [xv_ne (by omega)]; exact hm
  · have xm : xv m 0 4 (i + 1) x 1 = 0 := by rw [xv_ne (by omega)]; exact hm
    rw [if_neg c93, if_neg c93, xlet_q, xm, if_pos (show (0 : Int) ≤ 0 by omega)]
    obtain ⟨r, c', m', a1, a2, a3, a4, a5⟩ := oth0 (N := N) hN hk hC hx N N' _ _ (i + 1) 0 T1 (by omega) (by omega) xm (by rw [xv_ne (by omega)]; exact hc) (by omega) (by omega)
    refine ⟨r, c', m', a1, a2, fun a b z1 z2 z3 => ?_, fun a b z1 z2 => ?_, ?_⟩
    · rw [a3 a b z1 z2 z3, xv_ne (by omega)]
    · rw [a4 a b z1 z2, xv_ne (by omega)]
    · rcases a5 with ⟨b1, ⟨j', b2, b3⟩, b4⟩ | b
      · exact Or.inl ⟨b1, ⟨j', by omega, b3⟩, b4⟩
      · exact Or.inr b
/-- the signs that begin a cell -/
def cel (b : Int) : Prop := isLt b ∨ b = 63 ∨ b = 45
theorem begC1 {k b : Int} (h : cel b) : G_X5_beginsCell N k c b = some (1, c) := by
  unfold G_X5_beginsCell G_X5_beginsCell_19
  rw [gletC, yb_s]
  by_cases q : 97 ≤ b ∧ b ≤ 122
  · rw [isl_1 q, if_neg i10]
  · rw [isl_0 q, if_pos rfl]
    rcases h with h | h | h
    · exact absurd h q
    · rw [if_pos h]
    · rw [if_neg (by omega), if_pos h]
theorem begC0 {k b : Int} (h : ¬ cel b) : G_X5_beginsCell N k c b = some (0, c) := by
  unfold G_X5_beginsCell
  rw [gletC, yb_s, isl_0 (fun q => h (Or.inl q)), if_pos rfl, if_neg (fun q => h (Or.inr (Or.inl q))), if_neg (fun q => h (Or.inr (Or.inr q)))]
theorem begM1 {b : Int} (h : cel b) : G_X12_isCell N m b = some (1, m) := by
  unfold G_X12_isCell G_X12_isCell_19
  rw [gletM, yb_s]
  by_cases q : 97 ≤ b ∧ b ≤ 122
  · rw [isl_1 q, if_neg i10]
  · rw [isl_0 q, if_pos rfl]
    rcases h with h | h | h
    · exact absurd h q
    · rw [if_pos h]
    · rw [if_neg (by omega), if_pos h]
theorem begM0 {b : Int} (h : ¬ cel b) : G_X12_isCell N m b = some (0, m) := by
  unfold G_X12_isCell
  rw [gletM, yb_s, isl_0 (fun q => h (Or.inl q)), if_pos rfl, if_neg (fun q => h (Or.inr (Or.inl q))), if_neg (fun q => h (Or.inr (Or.inr q)))]
theorem gapC {k b : Int} : G_X5_isGap N k c b = some ((if b = 32 ∨ b = 10 then 1 else 0), c) := by
  unfold G_X5_isGap G_X5_isGap_12
  by_cases q : b = 32
  · rw [if_pos q, if_pos (Or.inl q)]
  · rw [if_neg q]
    by_cases q2 : b = 10
    · rw [if_pos q2, if_pos (Or.inr q2)]
    · rw [if_neg q2, if_neg (by omega)]
def CFc (c c' : IH) (k C : Int) : Prop := ∀ a b, ¬ (a = 2 ∧ (b = 3 ∨ b = 4 ∨ b = 5)) → ¬ (a = k ∧ (b = 1 ∨ b = 2)) → ¬ ((a = k + 5 ∨ a = k + 6) ∧ b = C) → ¬ ((a = k + 7 ∨ a = k + 8) ∧ C * 3 ≤ b ∧ b < C * 3 + 3) → c' a b = c a b
def CFm (m m' : IH) (x : Int) : Prop := ∀ a b, ¬ (a = 0 ∧ (b = 4 ∨ b = 6 ∨ b = 7)) → ¬ (a = 17 ∧ b = 1) → a ≠ x → m' a b = m a b
/-- the lines counted so far -/
def LNS (c m : IH) (k i : Int) : Prop := c k 1 = m 17 1 + 1 ∧ 0 ≤ m 17 1 ∧ m 17 1 ≤ i
theorem byte1 {n i : Int} (h : TP c m n i) : G_X12_byteAt N m (wr (m 0 4 + 1)) = some (bt m n (i + 1), m) := by
  have hn := h.2.1
  rw [h.1.2.2.2.1, wr_in (by omega) (by omega)]
  exact gbyte (c := c) h.1.2.1 hn.2.2 (by omega)
theorem cellS {n k C x i : Int} (hN : 20000 ≤ N) (hk : k = 31 ∨ k = 40) (hC : 0 ≤ C ∧ C ≤ i) (hx : 1245 ≤ x ∧ x < 2205) (h : TP c m n i) (hi : i < n) (hb : cel (bt m n i)) (hc : c k 2 = C) (hL : LNS c m k i) : ∃ r c' m', G_X5_readCell N k c (bt m n i) = some (r, c') ∧ G_X12_readsCell N m x = some m' ∧ CFc c c' k C ∧ CFm m m' x ∧ ((r = 1 ∧ (∃ j, i < j ∧ TP c' m' n j ∧ LNS c' m' k j) ∧ c' k 2 = C + 1 ∧ CLk c' m' k C x) ∨ (r = 0 ∧ FL c' m')) := by
  have hn := h.2.1
  unfold G_X5_readCell G_X12_readsCell
  rw [hc, xlet_q, if_pos (show C < 400 by omega), xlet_q, xlet_q, xq_in (by omega) (by omega), xlet_q, xq_in (by omega) (by omega), xlet_q, xv_ne (show ¬ ((2 : Int) = k ∧ (3 : Int) = 2) by omega), h.1.2.2.1, wr_in (show -2147483648 ≤ C + 1 by omega) (by omega), wr_in (show -2147483648 ≤ i + 1 by omega) (by omega), ghere h, yb_s, xlet_q, xlet_q, xlet_q, xv_ne (show ¬ ((0 : Int) = x ∧ (4 : Int) = 1) by omega), xv_ne (show ¬ ((0 : Int) = x ∧ (4 : Int) = 0) by omega), h.1.2.2.2.1, wr_in (show -2147483648 ≤ i + 1 by omega) (by omega)]
  have T1 : TP (xv (xv (xv (xv c k 2 (C + 1)) 2 3 (i + 1)) (k + 5) C (bt m n i)) (k + 6) C 0) (xv (xv (xv m x 0 (bt m n i)) x 1 0) 0 4 (i + 1)) n (i + 1) := (((((h.wc (k := k) (a := 2) (v := C + 1) (by omega)).w (k := x) (a := 0) (v := bt m n i) (by omega)).w (k := x) (a := 1) (v := 0) (by omega)).at (j := i + 1) (by omega)).wc (k := k + 5) (a := C) (v := bt m n i) (by omega)).wc (k := k + 6) (a := C) (v := 0) (by omega)
  have d1 : (xv (xv (xv (xv c k 2 (C + 1)) 2 3 (i + 1)) (k + 5) C (bt m n i)) (k + 6) C 0) (k + 5) C = bt m n i := by rw [xv_ne (by omega), xv_eq rfl rfl]
  have d2 : (xv (xv (xv (xv c k 2 (C + 1)) 2 3 (i + 1)) (k + 5) C (bt m n i)) (k + 6) C 0) (k + 6) C = 0 := xv_eq rfl rfl
  have d3 : (xv (xv (xv (xv c k 2 (C + 1)) 2 3 (i + 1)) (k + 5) C (bt m n i)) (k + 6) C 0) k 2 = C + 1 := by rw [xv_ne (by omega), xv_ne (by omega), xv_ne (by omega), xv_eq rfl rfl]
  have d4 : (xv (xv (xv (xv c k 2 (C + 1)) 2 3 (i + 1)) (k + 5) C (bt m n i)) (k + 6) C 0) k 1 = c k 1 := by rw [xv_ne (by omega), xv_ne (by omega), xv_ne (by omega), xv_ne (by omega)]
  have d5 : (xv (xv (xv m x 0 (bt m n i)) x 1 0) 0 4 (i + 1)) x 0 = bt m n i := by rw [xv_ne (by omega), xv_ne (by omega), xv_eq rfl rfl]
  have d6 : (xv (xv (xv m x 0 (bt m n i)) x 1 0) 0 4 (i + 1)) x 1 = 0 := by rw [xv_ne (by omega), xv_eq rfl rfl]
  have d7 : (xv (xv (xv m x 0 (bt m n i)) x 1 0) 0 4 (i + 1)) 17 1 = m 17 1 := by rw [xv_ne (by omega), xv_ne (by omega), xv_ne (by omega)]
  have fc : CFc c (xv (xv (xv (xv c k 2 (C + 1)) 2 3 (i + 1)) (k + 5) C (bt m n i)) (k + 6) C 0) k C := fun a b z1 z2 z3 z4 => by rw [xv_ne (by omega), xv_ne (by omega), xv_ne (by omega), xv_ne (by omega)]
  have fm : CFm m (xv (xv (xv m x 0 (bt m n i)) x 1 0) 0 4 (i + 1)) x := fun a b z1 z2 z3 => by rw [xv_ne (by omega), xv_ne (by omega), xv_ne (by omega)]
  generalize xv (xv (xv (xv c k 2 (C + 1)) 2 3 (i + 1)) (k + 5) C (bt m n i)) (k + 6) C 0 = c1 at T1 d1 d2 d3 d4 fc ⊢
  generalize xv (xv (xv m x 0 (bt m n i)) x 1 0) 0 4 (i + 1) = m1 at T1 d5 d6 d7 fm ⊢
  generalize bt m n i = b at hb d1 d5 ⊢
  obtain ⟨L1, L2, L3⟩ := hL
  have t6 := T1.1.2.2.2.2.2
  have lns : LNS c1 m1 k (i + 1) := ⟨by rw [d4, d7]; exact L1, by rw [d7]; exact L2, by rw [d7]; omega⟩
  have plain : ∀ (hq : b = 63 ∨ b = 45 ∨ isLt b), ∃ r c' m', (some (1, c1) : Option (Int × IH)) = some (r, c') ∧ (some m1 : Option IH) = some m' ∧ CFc c c' k C ∧ CFm m m' x ∧ ((r = 1 ∧ (∃ j, i < j ∧ TP c' m' n j ∧ LNS c' m' k j) ∧ c' k 2 = C + 1 ∧ CLk c' m' k C x) ∨ (r = 0 ∧ FL c' m')) := fun hq => by
    refine ⟨1, c1, m1, rfl, rfl, fc, fm, Or.inl ⟨rfl, ⟨i + 1, by omega, T1, lns⟩, d3, by rw [d1, d5], ?_, by rw [d2, d6], by omega, by omega, Or.inr d6, fun q q1 q2 => by omega⟩⟩
    rw [d5]
    rcases hq with h | h | h
    · exact Or.inr (Or.inl h)
    · exact Or.inr (Or.inr (Or.inl h))
    · exact Or.inl h
  unfold G_X5_readCell_90 G_X5_readCell_116 G_X12_readsCell_44
  rw [d5, gletM, yb_s, d5]
  by_cases hl : 97 ≤ b ∧ b ≤ 122
  · rw [isl_1 hl, if_neg i10, if_neg (show ¬ b = 45 by omega), gletC, yb_s, isl_1 hl, if_neg i10, gpeek T1 (by omega), yb_s, Int.add_zero, ghere T1, yb_s]
    by_cases c91 : bt m1 n (i + 1) = 91
    · rw [if_pos c91, if_pos c91]
      clear plain
      have hr := T1.rng T1.2.1.1
      obtain ⟨r, c', m', a1, a2, a3, a4, a5⟩ := othS (N := N) (k := k) (C := C) (x := x) hN hk ⟨hC.1, by omega⟩ hx T1 (by omega) d6 d2
      have x0 : m' x 0 = b := by rw [a4 _ _ (by omega) (by omega)]; exact d5
      rw [a1, a2, yb_s, ybv_s, x0, if_neg (show ¬ b = 45 by omega)]
      have fc' : CFc c c' k C := fun a b z1 z2 z3 z4 => by rw [a3 a b z1 (by omega) (by omega)]; exact fc a b z1 z2 z3 z4
      have fm' : CFm m m' x := fun a b z1 z2 z3 => by rw [a4 a b z1 (by omega)]; exact fm a b z1 z2 z3
      rcases a5 with ⟨b1, ⟨j, b2, b3⟩, w, b4, b5, b6, b7, b8⟩ | ⟨b1, b2⟩
      · rw [b1, if_neg i10]
        refine ⟨1, c', m', rfl, rfl, fc', fm', Or.inl ⟨rfl, ⟨j, by omega, b3, ?_, ?_, ?_⟩, ?_, ?_, ?_, ?_, ?_, ?_, ?_, fun q q1 q2 => ?_⟩⟩
        · rw [a3 _ _ (by omega) (by omega) (by omega), a4 _ _ (by omega) (by omega)]; exact lns.1
        · rw [a4 _ _ (by omega) (by omega)]; exact lns.2.1
        · rw [a4 _ _ (by omega) (by omega)]; have := lns.2.2; omega
        · rw [a3 _ _ (by omega) (by omega) (by omega)]; exact d3
        · rw [a3 _ _ (by omega) (by omega) (by omega), x0]; exact d1
        · rw [x0]; exact Or.inl hl
        · rw [b6, b7]
        · rw [b7]; exact b4
        · rw [b7]; exact b5
        · rw [x0]; exact Or.inl hl
        · rw [b7] at q2; exact b8 q q1 q2
      · rw [b1, if_pos rfl]
        exact ⟨0, c', m', rfl, rfl, fc', fm', Or.inr ⟨rfl, b2⟩⟩
    · rw [if_neg c91, if_neg c91, d5, if_neg (show ¬ b = 45 by omega)]
      exact plain (Or.inr (Or.inr hl))
  · rw [isl_0 hl, if_pos rfl]
    by_cases c45 : b = 45
    · rw [if_pos c45, if_pos c45]
      unfold G_X5_isBreak G_X5_isBreak_31 G_X12_readsCell_92
      rw [gpeek T1 (by omega), yb_s, Int.add_zero, ghere T1, yb_s]
      by_cases c10 : bt m1 n (i + 1) = 10
      · have hr := T1.rng T1.2.1.1
        have hi1 : i + 1 < n := by omega
        rw [if_pos c10, if_pos c10, gpeek T1 (by omega), yb_s, gletC, yb_s, gpeek T1 (by omega), yb_s, byte1 T1, yb_s, gletM, yb_s, byte1 T1, yb_s]
        have brk : ∃ (r : Int) (c' m' : IH), (xq C 400 (xlet (xv c1 (k + 5) C 10) (fun a69 => xlet (xv a69 k 1 (wr ((a69 k 1) + 1))) (fun a77 => xlet (xv a77 2 3 (wr ((a77 2 3) + 1))) (fun a87 => yb (G_X11_isLetter N a87 b) (fun r91 a91 => if r91 = 0 then some (1, a91) else yb (G_X9_peek N a91 0) (fun r99 a99 => if r99 = 91 then yb (G_X5_readOthers N k a99 C) (fun r110 a110 => if r110 = 0 then some (0, a110) else some (1, a110)) else some (1, a99)))))))) = some (r, c') ∧ (xlet (xv m1 x 0 10) (fun a96 => xlet (xv a96 17 1 (wr ((a96 17 1) + 1))) (fun a106 => xlet (xv a106 0 4 (wr ((a106 0 4) + 1))) (fun a114 => some a114)))) = some m' ∧ CFc c c' k C ∧ CFm m m' x ∧ ((r = 1 ∧ (∃ j, i < j ∧ TP c' m' n j ∧ LNS c' m' k j) ∧ c' k 2 = C + 1 ∧ CLk c' m' k C x) ∨ (r = 0 ∧ FL c' m')) := by
          clear plain
          rw [xq_in (by omega) (by omega), xlet_q, xlet_q, xlet_q, xlet_q, xlet_q, xlet_q, gletC, yb_s, isl_0 hl, if_pos rfl, xv_ne (show ¬ (k = k + 5 ∧ (1 : Int) = C) by omega), d4, xv_ne (show ¬ ((2 : Int) = k ∧ (3 : Int) = 1) by omega), xv_ne (show ¬ ((2 : Int) = k + 5 ∧ (3 : Int) = C) by omega), T1.1.2.2.1, xv_ne (show ¬ ((17 : Int) = x ∧ (1 : Int) = 0) by omega), d7, xv_ne (show ¬ ((0 : Int) = 17 ∧ (4 : Int) = 1) by omega), xv_ne (show ¬ ((0 : Int) = x ∧ (4 : Int) = 0) by omega), T1.1.2.2.2.1, wr_in (show -2147483648 ≤ c k 1 + 1 by omega) (by omega), wr_in (show -2147483648 ≤ m 17 1 + 1 by omega) (by omega), wr_in (show -2147483648 ≤ i + 1 + 1 by omega) (by omega)]
          refine ⟨1, _, _, rfl, rfl, fun a b z1 z2 z3 z4 => ?_, fun a b z1 z2 z3 => ?_, Or.inl ⟨rfl, ⟨i + 1 + 1, by omega, ((((T1.wc (k := k + 5) (a := C) (v := 10) (by omega)).wc (k := k) (a := 1) (v := c k 1 + 1) (by omega)).w (k := x) (a := 0) (v := 10) (by omega)).w (k := 17) (a := 1) (v := m 17 1 + 1) (by omega)).at (by omega), ?_, ?_, ?_⟩, ?_, ?_, ?_, ?_, ?_, ?_, ?_, fun q q1 q2 => ?_⟩⟩
          · rw [xv_ne (by omega), xv_ne (by omega), xv_ne (by omega)]; exact fc a b z1 z2 z3 z4
          · rw [xv_ne (by omega), xv_ne (by omega), xv_ne (by omega)]; exact fm a b z1 z2 z3
          · rw [xv_ne (by omega), xv_eq rfl rfl, xv_ne (by omega), xv_eq rfl rfl]; omega
          · rw [xv_ne (by omega), xv_eq rfl rfl]; omega
          · rw [xv_ne (by omega), xv_eq rfl rfl]; omega
          · rw [xv_ne (by omega), xv_ne (by omega), xv_ne (by omega)]; exact d3
          · rw [xv_ne (by omega), xv_ne (by omega), xv_eq rfl rfl, xv_ne (by omega), xv_ne (by omega), xv_eq rfl rfl]
          · rw [xv_ne (by omega), xv_ne (by omega), xv_eq rfl rfl]; exact Or.inr (Or.inr (Or.inr rfl))
          · rw [xv_ne (by omega), xv_ne (by omega), xv_ne (by omega), xv_ne (by omega), xv_ne (by omega), xv_ne (by omega), d2, d6]
          · rw [xv_ne (by omega), xv_ne (by omega), xv_ne (by omega), d6]; omega
          · rw [xv_ne (by omega), xv_ne (by omega), xv_ne (by omega), d6]; omega
          · rw [xv_ne (show ¬ (x = 0 ∧ (1 : Int) = 4) by omega), xv_ne (show ¬ (x = 17 ∧ (1 : Int) = 1) by omega), xv_ne (show ¬ (x = x ∧ (1 : Int) = 0) by omega)]; exact Or.inr d6
          · rw [xv_ne (by omega), xv_ne (by omega), xv_ne (by omega), d6] at q2; omega
        by_cases l2 : 97 ≤ bt m1 n (i + 1 + 1) ∧ bt m1 n (i + 1 + 1) ≤ 122
        · rw [isl_1 l2, if_neg i10, if_neg i10, yb_s, if_neg i10]
          exact brk
        · rw [isl_0 l2, if_pos rfl, if_pos rfl]
          by_cases c63 : bt m1 n (i + 1 + 1) = 63
          · rw [if_pos c63, if_pos c63, yb_s, if_neg i10]
            exact brk
          · rw [if_neg c63, if_neg c63, yb_s, if_pos rfl, gletC, yb_s, isl_0 hl, if_pos rfl]
            exact plain (Or.inr (Or.inl c45))
      · rw [if_neg c10, if_neg c10, yb_s, if_pos rfl, gletC, yb_s, isl_0 hl, if_pos rfl]
        exact plain (Or.inr (Or.inl c45))
    · rw [if_neg c45, if_neg c45, gletC, yb_s, isl_0 hl, if_pos rfl]
      refine plain (Or.inl ?_)
      rcases hb with h | h | h
      · exact absurd h hl
      · exact h
      · exact absurd h c45
end
