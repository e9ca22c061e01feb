section
variable {N : Nat} {c m : IH}
/-- an entry of a shape, both sides -/
theorem entryS {n i k S : Int} (hN : 20000 ≤ N) (hk : k = 19 ∨ k = 25) (hS : 0 ≤ S ∧ S < 20) (h : TP c m n i) (hl : 97 ≤ bt m n i ∧ bt m n i ≤ 122) (hc : c k 0 = S) : ∃ r c' m', G_X8_readEntry N k c = some (r, c') ∧ G_X12_readsShape N m S = some m' ∧ FRc c c' k S ∧ FRm m m' S ∧ ((r = 1 ∧ (∃ j, i < j ∧ TP c' m' n j) ∧ c' k 0 = S + 1 ∧ SHE c' m' k S) ∨ (r = 0 ∧ c' 2 4 = m' 0 6 ∧ c' 2 5 = m' 0 7 ∧ 1 ≤ m' 0 6 ∧ m' 0 6 ≤ 5)) := by
  obtain ⟨c1, m1, f1, f2, q⟩ := entry1 hN hk hS h hl hc
  rcases q with ⟨m2, e1, e2, e3, e4, e5, e6, e7⟩ | ⟨j, L1, j1, j2, T, j3, a1, a2, a3, a4, a5, a6, a7⟩
  · refine ⟨0, c1, m2, e1, e2, f1, fun a b z1 z2 z3 => ?_, Or.inr ⟨rfl, ?_, ?_, ?_, ?_⟩⟩
    · rw [e3, xv_ne (by omega)]; exact f2 a b z1 z2 z3
    · rw [e3, xv_ne (by omega)]; exact e4
    · rw [e3, xv_ne (by omega)]; exact e5
    · rw [e3, xv_ne (by omega)]; exact e6
    · rw [e3, xv_ne (by omega)]; exact e7
  · obtain ⟨r, c', m', b1, b2, b3, b4, b5⟩ := entry2 hN hk hS T j2 a5 a1 a2 a3 a4
    refine ⟨r, c', m', a7.trans b1, a6.trans b2, fun a b z1 z2 z3 z4 => (b3 a b z1 z2 z3 z4).trans (f1 a b z1 z2 z3 z4), fun a b z1 z2 z3 => (b4 a b z1 z2 z3).trans (f2 a b z1 z2 z3), ?_⟩
    rcases b5 with ⟨g1, ⟨j', g2, g3⟩, g4, g5⟩ | g
    · exact Or.inl ⟨g1, ⟨j', by omega, g3⟩, g4, g5⟩
    · exact Or.inr g
theorem SHE.fr {c' m' : IH} {k s : Int} (h : SHE c m k s) (hc : ∀ a b, ((k + 1 ≤ a ∧ a ≤ k + 3) ∧ b = s) ∨ ((a = k + 4 ∨ a = k + 5) ∧ s * 3 ≤ b ∧ b < s * 3 + 3) → c' a b = c a b) (hm : ∀ b, m' (135 + s) b = m (135 + s) b) (hm2 : ∀ b, m' (177 + s) b = m (177 + s) b) : SHE c' m' k s := by
  obtain ⟨⟨a1, a2, a3⟩, ⟨b1, b2, b3⟩, ⟨d1, d2, d3⟩, e1, e2⟩ := h
  unfold SHE
  simp only [hm, hm2]
  rw [hc (k + 1) s (by omega), hc (k + 2) s (by omega), hc (k + 3) s (by omega)]
  exact ⟨⟨a1, a2, a3⟩, ⟨b1, b2, b3⟩, ⟨d1, d2, d3⟩, fun q q1 q2 => by rw [hc _ _ (by omega)]; exact e1 q q1 q2, fun q q1 q2 => by rw [hc _ _ (by omega)]; exact e2 q q1 q2⟩
end
def shK (N : Nat) (k45 : IH → Option IH) (ah : IH) : Option IH := yb (G_X12_fine N ah) (fun r103 a103 => if r103 = 0 then some a103 else ybv (G_X12_readsShape N a103 (a103 13 1)) (fun a119 => xlet (xv a119 13 1 (wr ((a119 13 1) + 1))) (fun a131 => k45 a131)))
/-- the reference's reading of shapes, without what comes behind it -/
def shL (N : Nat) : Nat → IH → Option IH
  | 0, _ => none
  | n + 1, ah => yb (G_X12_fine N ah) (fun r46 a46 => if r46 = 0 then some a46 else yb (G_X12_blanks N a46) (fun r53 a53 => if r53 = (-1) then some a53 else yb (G_X12_here N a53) (fun r61 a61 => yb (G_X12_isSmall N a61 r61) (fun r64 a64 => if r64 = 0 then ybv (G_X12_wrong N a64 1 (a64 0 4)) (fun a76 => shK N (shL N n) a76) else if (a64 13 1) = 20 then ybv (G_X12_wrong N a64 3 (a64 0 4)) (fun a99 => shK N (shL N n) a99) else shK N (shL N n) a64))))
theorem shL_eq {N : Nat} : ∀ (f : Nat) (m : IH), G_X12_shapes_45 N f m = ybv (shL N f m) (fun a => G_X12_shapes_135 N a) := by
  intro f
  induction f with
  | zero => intro m; rfl
  | succ f ih =>
    intro m
    unfold G_X12_shapes_45 shL G_X12_shapes_102 shK
    simp only [yb_ybv, ybv_ybv, ybv_if, ybv_s, xlet_q, ih]
theorem shL_0 {N f : Nat} {m : IH} (hf : 0 < f) (h : m 0 6 ≠ 0) : shL N f m = some m := by
  obtain ⟨g, rfl⟩ : ∃ g, f = g + 1 := ⟨f - 1, by omega⟩
  unfold shL
  rw [gfine0 h, yb_s, if_pos rfl]
theorem shLoop {N : Nat} {n k : Int} (hN : 20000 ≤ N) (hk : k = 19 ∨ k = 25) : ∀ (f : Nat) (c m : IH) (i S : Int), TP c m n i → c k 0 = S → m 13 1 = S → 0 ≤ S → S ≤ 20 → (∀ s, 0 ≤ s → s < S → SHE c m k s) → 20 - S < f → ∃ r c' m', G_X8_readText_7 N k f c S = some (r, c') ∧ shL N f m = some m' ∧ (∀ a b, ¬ (a = 2 ∧ (b = 3 ∨ b = 4 ∨ b = 5)) → ¬ (k ≤ a ∧ a ≤ k + 5) → c' a b = c a b) ∧ (∀ a b, ¬ (a = 0 ∧ (b = 4 ∨ b = 6 ∨ b = 7)) → ¬ (a = 13 ∧ b = 1) → ¬ (135 ≤ a ∧ a < 155) → ¬ (177 ≤ a ∧ a < 197) → m' a b = m a b) ∧ ((r = 1 ∧ (∃ j, TP c' m' n j) ∧ ∃ T, 0 ≤ T ∧ T ≤ 20 ∧ c' k 0 = T ∧ m' 13 1 = T ∧ ∀ s, 0 ≤ s → s < T → SHE c' m' k s) ∨ (r = 0 ∧ c' 2 4 = m' 0 6 ∧ c' 2 5 = m' 0 7 ∧ 1 ≤ m' 0 6 ∧ m' 0 6 ≤ 5)) := by
  intro f
  induction f with
  | zero => intro c m i S h hc hm h1 h2 hs hf; omega
  | succ f ih =>
    intro c m i S h hc hm h1 h2 hs hf
    obtain ⟨j, j1, j2, j3, j4, j5, T⟩ := blanksS (N := N) hN h
    have hr := h.rng (j := j) (by have := h.2.1; omega)
    have t6 := T.1.2.2.2.2.2
    have tk : xv c 2 3 j k 0 = S := by rw [xv_ne (by omega)]; exact hc
    have tm : xv m 0 4 j 13 1 = S := by rw [xv_ne (by omega)]; exact hm
    unfold G_X8_readText_7 shL
    rw [if_neg (show ¬ 20 < S by omega), j4, ybv_s, gfine h.1.2.2.2.2.2, yb_s, if_neg i10, j5, yb_s, gatEnd T, yb_s]
    by_cases hj : j < n
    · rw [if_pos hj, if_pos rfl, if_neg (show ¬ bt m n j = -1 by omega), ghere T, yb_s, gletM, yb_s, bt_xv (by omega)]
      by_cases hl : 97 ≤ bt m n j ∧ bt m n j ≤ 122
      · rw [isl_1 hl, if_neg i10, tm]
        by_cases h20 : S = 20
        · rw [if_pos h20, gwrong t6, ybv_s, T.1.2.2.2.1]
          unfold shK G_X8_readEntry
          rw [gfine0 (by rw [xv_ne (by omega), xv_eq rfl rfl]; omega), yb_s, if_pos rfl, gpeek T (by omega), yb_s, Int.add_zero, gletC, yb_s, bt_xv (by omega), isl_1 hl, if_neg i10, tk, if_neg (show ¬ S < 20 by omega), grefuse, yb_s, ybo0, yb_s, if_pos rfl, T.1.2.2.1]
          refine ⟨0, _, _, rfl, rfl, fun a b z1 z2 => ?_, fun a b z1 z2 z3 z4 => ?_, Or.inr ⟨rfl, ?_, ?_, ?_, ?_⟩⟩
          · rw [xv_ne (by omega), xv_ne (by omega), xv_ne (by omega)]
          · rw [xv_ne (by omega), xv_ne (by omega), xv_ne (by omega)]
          · rw [xv_ne (by omega), xv_eq rfl rfl, xv_ne (by omega), xv_eq rfl rfl]
          · rw [xv_eq rfl rfl, xv_eq rfl rfl]
          · rw [xv_ne (by omega), xv_eq rfl rfl]; omega
          · rw [xv_ne (by omega), xv_eq rfl rfl]; omega
        · rw [if_neg h20]
          unfold shK
          rw [gfine t6, yb_s, if_neg i10, tm]
          obtain ⟨r, c2, m2, e1, e2, e3, e4, e5⟩ := entryS (N := N) (k := k) (S := S) hN hk ⟨h1, by omega⟩ T (by rw [bt_xv (by omega)]; exact hl) tk
          have e13 : m2 13 1 = S := by rw [e4 _ _ (by omega) (by omega) (by omega)]; exact tm
          rw [e1, yb_s, e2, ybv_s, e13, wr_in (show -2147483648 ≤ S + 1 by omega) (by omega)]
          simp only [xlet_q]
          rcases e5 with ⟨r1, ⟨j', g1, g2⟩, g4, g5⟩ | ⟨r0, g1, g2, g3, g4⟩
          · rw [r1, if_neg i10]
            obtain ⟨r', c', m', a1, a2, a3, a4, a5⟩ := ih c2 (xv m2 13 1 (S + 1)) j' (S + 1) (g2.w (by omega)) g4 (xv_eq rfl rfl) (by omega) (by omega) (fun s s1 s2 => by
              by_cases es : s = S
              · subst es
                exact g5.fr (fun _ _ _ => rfl) (fun b => xv_ne (by omega)) (fun b => xv_ne (by omega))
              · exact (hs s s1 (by omega)).fr (fun a b q => by rw [e3 a b (by omega) (by omega) (by omega) (by omega), xv_ne (by omega)]) (fun b => by rw [xv_ne (by omega), e4 _ b (by omega) (by omega) (by omega), xv_ne (by omega)]) (fun b => by rw [xv_ne (by omega), e4 _ b (by omega) (by omega) (by omega), xv_ne (by omega)])) (by omega)
            refine ⟨r', c', m', a1, a2, fun a b z1 z2 => ?_, fun a b z1 z2 z3 z4 => ?_, a5⟩
            · clear a5; rw [a3 a b z1 z2, e3 a b z1 (by omega) (by omega) (by omega), xv_ne (by omega)]
            · clear a5; rw [a4 a b z1 z2 z3 z4, xv_ne (by omega), e4 a b z1 (by omega) (by omega), xv_ne (by omega)]
          · have x6 : xv m2 13 1 (S + 1) 0 6 = m2 0 6 := xv_ne (by omega)
            rw [r0, if_pos rfl, shL_0 (m := xv m2 13 1 (S + 1)) (by omega) (by rw [x6]; omega)]
            refine ⟨0, c2, _, rfl, rfl, fun a b z1 z2 => ?_, fun a b z1 z2 z3 z4 => ?_, Or.inr ⟨rfl, ?_, ?_, ?_, ?_⟩⟩
            · rw [e3 a b z1 (by omega) (by omega) (by omega), xv_ne (by omega)]
            · rw [xv_ne (by omega), e4 a b z1 (by omega) (by omega), xv_ne (by omega)]
            · rw [x6]; exact g1
            · rw [xv_ne (by omega)]; exact g2
            · rw [x6]; exact g3
            · rw [x6]; exact g4
      · rw [isl_0 hl, if_pos rfl, gwrong t6, ybv_s, T.1.2.2.2.1]
        unfold shK G_X8_readEntry
        rw [gfine0 (by rw [xv_ne (by omega), xv_eq rfl rfl]; omega), yb_s, if_pos rfl, gpeek T (by omega), yb_s, Int.add_zero, gletC, yb_s, bt_xv (by omega), isl_0 hl, if_pos rfl, grefuse, yb_s, ybo0, yb_s, if_pos rfl, T.1.2.2.1]
        refine ⟨0, _, _, rfl, rfl, fun a b z1 z2 => ?_, fun a b z1 z2 z3 z4 => ?_, Or.inr ⟨rfl, ?_, ?_, ?_, ?_⟩⟩
        · rw [xv_ne (by omega), xv_ne (by omega), xv_ne (by omega)]
        · rw [xv_ne (by omega), xv_ne (by omega), xv_ne (by omega)]
        · rw [xv_ne (by omega), xv_eq rfl rfl, xv_ne (by omega), xv_eq rfl rfl]
        · rw [xv_eq rfl rfl, xv_eq rfl rfl]
        · rw [xv_ne (by omega), xv_eq rfl rfl]; omega
        · rw [xv_ne (by omega), xv_eq rfl rfl]; omega
    · rw [if_neg hj, if_neg i10, if_pos (show bt m n j = -1 by omega)]
      refine ⟨1, _, _, rfl, rfl, fun a b z1 z2 => xv_ne (by omega), fun a b z1 z2 z3 z4 => xv_ne (by omega), Or.inl ⟨rfl, ⟨j, T⟩, S, h1, h2, tk, tm, fun s s1 s2 => ?_⟩⟩
      exact (hs s s1 s2).fr (fun a b q => xv_ne (by omega)) (fun b => xv_ne (by omega)) (fun b => xv_ne (by omega))
/-- the reference copies a shape's numbers -/
theorem shC208 {N : Nat} {K : IH → Int → Option (Int × IH)} {v : Int} (hv : 0 ≤ v ∧ v < 20) : ∀ (f : Nat) (m : IH) (q : Int), 0 ≤ q → q ≤ 3 → 3 - q < f → ∃ m', G_X12_shapes_208 N K f m v q = K m' (v + 1) ∧ (∀ b, q ≤ b → b < 3 → m' (157 + v) b = m (177 + v) b) ∧ ∀ a b, ¬ (a = 157 + v ∧ q ≤ b ∧ b < 3) → m' a b = m a b := by
  intro f
  induction f with
  | zero => intro m q h1 h2 h3; omega
  | succ f ih =>
    intro m q h1 h2 h3
    unfold G_X12_shapes_208
    by_cases c1 : 3 ≤ q
    · rw [if_pos c1, xlet_q, wr_in (by omega) (by omega)]
      exact ⟨m, rfl, fun b q1 q2 => by omega, fun _ _ _ => rfl⟩
    · rw [if_neg c1]
      simp (disch := omega) only [xlet_q, xq_in]
      rw [wr_in (by omega) (by omega), show (157 : Int) + (0 * 20 + v) = 157 + v by omega, show (157 : Int) + (1 * 20 + v) = 177 + v by omega]
      obtain ⟨m', a1, a2, a3⟩ := ih (xv m (157 + v) q (m (177 + v) q)) (q + 1) (by omega) (by omega) (by omega)
      refine ⟨m', a1, fun b q1 q2 => ?_, fun a b z => ?_⟩
      · by_cases e : b = q
        · subst e; rw [a3 _ _ (by omega), xv_eq rfl rfl]
        · rw [a2 b (by omega) q2, xv_ne (by omega)]
      · rw [a3 a b (by omega), xv_ne (by omega)]
theorem shC174 {N : Nat} {K : IH → Int → Option (Int × IH)} {v : Int} (hN : 20000 ≤ N) (hv : 0 ≤ v ∧ v < 20) : ∀ (f : Nat) (m : IH) (q : Int), 0 ≤ q → q ≤ 6 → 6 - q < f → ∃ m', G_X12_shapes_174 N K f m v q = K m' (v + 1) ∧ (∀ b, q ≤ b → b < 6 → m' (115 + v) b = m (135 + v) b) ∧ (∀ b, 0 ≤ b → b < 3 → m' (157 + v) b = m (177 + v) b) ∧ ∀ a b, ¬ (a = 115 + v ∧ q ≤ b ∧ b < 6) → ¬ (a = 157 + v ∧ 0 ≤ b ∧ b < 3) → m' a b = m a b := by
  intro f
  induction f with
  | zero => intro m q h1 h2 h3; omega
  | succ f ih =>
    intro m q h1 h2 h3
    unfold G_X12_shapes_174
    by_cases c1 : 6 ≤ q
    · rw [if_pos c1, xlet_q]
      obtain ⟨m', a1, a2, a3⟩ := shC208 (N := N) (K := K) hv N m 0 (by omega) (by omega) (by omega)
      exact ⟨m', a1, fun b q1 q2 => by omega, a2, fun a b z1 z2 => a3 a b z2⟩
    · rw [if_neg c1]
      simp (disch := omega) only [xlet_q, xq_in]
      rw [wr_in (by omega) (by omega), show (115 : Int) + (0 * 20 + v) = 115 + v by omega, show (115 : Int) + (1 * 20 + v) = 135 + v by omega]
      obtain ⟨m', a1, a2, a3, a4⟩ := ih (xv m (115 + v) q (m (135 + v) q)) (q + 1) (by omega) (by omega) (by omega)
      refine ⟨m', a1, fun b q1 q2 => ?_, fun b q1 q2 => ?_, fun a b z1 z2 => ?_⟩
      · by_cases e : b = q
        · subst e; rw [a4 _ _ (by omega) (by omega), xv_eq rfl rfl]
        · rw [a2 b (by omega) q2, xv_ne (by omega)]
      · rw [a3 b q1 q2, xv_ne (by omega)]
      · rw [a4 a b (by omega) z2, xv_ne (by omega)]
theorem shC162 {N : Nat} {T : Int} (hN : 20000 ≤ N) (hT : 0 ≤ T ∧ T ≤ 20) : ∀ (f : Nat) (m : IH) (v : Int), m 13 0 = T → 0 ≤ v → v ≤ T → T - v < f → ∃ m', G_X12_shapes_162 N f m v = yb (G_X12_ends N m' T) (fun r a => some (r, a)) ∧ (∀ s, v ≤ s → s < T → (∀ b, 0 ≤ b → b < 6 → m' (115 + s) b = m (135 + s) b) ∧ ∀ b, 0 ≤ b → b < 3 → m' (157 + s) b = m (177 + s) b) ∧ ∀ a b, ¬ (115 + v ≤ a ∧ a < 135) → ¬ (157 + v ≤ a ∧ a < 177) → m' a b = m a b := by
  intro f
  induction f with
  | zero => intro m v h1 h2 h3 h4; omega
  | succ f ih =>
    intro m v h1 h2 h3 h4
    unfold G_X12_shapes_162
    rw [h1]
    by_cases c1 : T ≤ v
    · rw [if_pos c1]
      exact ⟨m, rfl, fun s q1 q2 => by omega, fun _ _ _ _ => rfl⟩
    · rw [if_neg c1, xlet_q]
      obtain ⟨m1, a1, a2, a3, a4⟩ := shC174 (N := N) (K := G_X12_shapes_162 N f) (v := v) hN (by omega) N m 0 (by omega) (by omega) (by omega)
      obtain ⟨m', b1, b2, b3⟩ := ih m1 (v + 1) (by rw [a4 _ _ (by omega) (by omega)]; exact h1) (by omega) (by omega) (by omega)
      refine ⟨m', a1.trans b1, fun s q1 q2 => ?_, fun a b z1 z2 => ?_⟩
      · by_cases e : s = v
        · subst e
          exact ⟨fun b x1 x2 => by rw [b3 _ _ (by omega) (by omega), a2 b x1 x2], fun b x1 x2 => by rw [b3 _ _ (by omega) (by omega), a3 b x1 x2]⟩
        · obtain ⟨u1, u2⟩ := b2 s (by omega) q2
          exact ⟨fun b x1 x2 => by rw [u1 b x1 x2, a4 _ _ (by omega) (by omega)], fun b x1 x2 => by rw [u2 b x1 x2, a4 _ _ (by omega) (by omega)]⟩
      · rw [b3 a b (by omega) (by omega), a4 a b (by omega) (by omega)]
section
variable {N : Nat} {c m : IH}
theorem S_shapes {p : Int} (hN : 20000 ≤ N) (h : R N c m) : CX N 0 1 (G_X11_shapes N c p) (G_X12_shapes N m p) := by
  unfold G_X11_shapes G_X12_shapes
  have h' := h.m0 hN
  have z : xv m 0 0 0 0 0 = 0 := xv_eq rfl rfl
  rw [xlet_q]
  generalize xv m 0 0 0 = m at h' z ⊢
  rw [needB, inM, yb_s, h'.1.1]
  by_cases c1 : 0 ≤ p ∧ p ≤ m 0 2
  · rw [if_pos c1, if_pos c1, bx0, if_neg i10]
    unfold G_X12_shapes_23
    rw [bad0 z, yb_s, if_pos rfl]
    obtain ⟨ca, ma, e1, e2, T0, e3, e4, e5, e6, e7⟩ := beginS (N := N) h'.1 c1
    rw [e1, e2, ybv_s, ybv_s, xlet_q, shL_eq]
    have T1 : TP (xv ca 25 0 0) (xv ma 13 1 0) p 0 := (T0.wc (by omega)).w (by omega)
    obtain ⟨r, cb, mb, g1, g2, g3, g4, g5⟩ := shLoop (N := N) (k := 25) hN (Or.inr rfl) N _ _ 0 0 T1 (xv_eq rfl rfl) (xv_eq rfl rfl) (by omega) (by omega) (fun s q1 q2 => by omega) (by omega)
    have er : G_X8_readText N 25 ca = some (r, cb) := by unfold G_X8_readText; rw [xlet_q, xlet_q]; exact g1
    have fc : ∀ a b, ¬ (a = 2 ∧ 2 ≤ b ∧ b ≤ 5) → ¬ (25 ≤ a ∧ a ≤ 30) → cb a b = c a b := fun a b q1 q2 => by rw [g3 a b (by omega) (by omega), xv_ne (by omega)]; exact e5 a b q1
    have fm : ∀ a b, ¬ (a = 0 ∧ 2 ≤ b ∧ b ≤ 7) → ¬ (a = 13 ∧ b = 1) → ¬ (135 ≤ a ∧ a < 155) → ¬ (177 ≤ a ∧ a < 197) → mb a b = m a b := fun a b q1 q2 q3 q4 => by rw [g4 a b (by omega) q2 q3 q4, xv_ne (by omega)]; exact e6 a b q1
    have f02 : mb 0 2 = 0 := by rw [g4 _ _ (by omega) (by omega) (by omega) (by omega), xv_ne (by omega)]; exact e7
    rw [er, yb_s, g2, ybv_s]
    unfold G_X12_shapes_135
    rcases g5 with ⟨r1, ⟨j, T2⟩, T, s1, s2, s3, s4, s5⟩ | ⟨r0, f1, f2, f3, f4⟩
    · rw [r1, if_neg i10]
      obtain ⟨cc, b1, T3, b2⟩ := begin2 (N := N) (c := cb) T0 (fun j => by rw [g3 _ _ (by omega) (by omega), xv_ne (by omega)])
      have T4 : TP (xv cc 19 0 0) (xv ma 13 1 0) p 0 := (T3.wc (by omega)).w (by omega)
      obtain ⟨r', cd, md, k1, k2, k3, k4, k5⟩ := shLoop (N := N) (k := 19) hN (Or.inl rfl) N _ _ 0 0 T4 (xv_eq rfl rfl) (xv_eq rfl rfl) (by omega) (by omega) (fun s q1 q2 => by omega) (by omega)
      have em : md = mb := Option.some.inj (k2.symm.trans g2)
      subst em
      have er2 : G_X8_readText N 19 cc = some (r', cd) := by unfold G_X8_readText; rw [xlet_q, xlet_q]; exact k1
      rw [b1, ybv_s, er2, yb_s]
      rcases k5 with ⟨r1', ⟨j', T5⟩, T', u1, u2, u3, u4, u5⟩ | ⟨r0, f1, f2, f3, f4⟩
      · obtain ⟨ce, a1, a2, a3, a4, a5⟩ := changedS (N := N) (c := cd) hN
        have fd : ∀ a b, ¬ (a = 2 ∧ 2 ≤ b ∧ b ≤ 5) → ¬ (19 ≤ a ∧ a ≤ 30) → cd a b = c a b := fun a b q1 q2 => by rw [k3 a b (by omega) (by omega), xv_ne (by omega), b2 a b q1]; exact fc a b q1 (by omega)
        have e24 : ce 2 4 = 0 := by rw [a5 _ _ (by omega) (by omega) (by omega)]; exact T5.1.2.2.2.2.1.1
        rw [a1, ybv_s]
        unfold G_X11_shapes_59
        rw [finishC (by omega), yb_s, if_pos e24, a5 _ _ (by omega) (by omega) (by omega), u3, gfine T5.1.2.2.2.2.2, yb_s, if_neg i10, xlet_q, xlet_q, u4]
        obtain ⟨mf, v1, v2, v3⟩ := shC162 (N := N) (T := T') hN ⟨u1, u2⟩ N (xv md 13 0 T') 0 (xv_eq rfl rfl) (by omega) (by omega) (by omega)
        have vf : ∀ a b, ¬ (a = 13 ∧ b = 0) → ¬ (115 ≤ a ∧ a < 135) → ¬ (157 ≤ a ∧ a < 177) → mf a b = md a b := fun a b q1 q2 q3 => by rw [v3 a b (by omega) (by omega), xv_ne q1]
        have x6 : mf 0 6 = 0 := by rw [vf _ _ (by omega) (by omega) (by omega)]; exact T5.1.2.2.2.2.2
        have x13 : mf 13 0 = T' := by rw [v3 _ _ (by omega) (by omega), xv_eq rfl rfl]
        rw [v1, endsM (by omega), yb_s, if_pos x6]
        have fM : ∀ a b, ¬ (a = 0 ∧ 2 ≤ b ∧ b ≤ 7) → ¬ (a = 13) → ¬ (115 ≤ a ∧ a < 155) → ¬ (157 ≤ a ∧ a < 197) → mf a b = m a b := fun a b q1 q2 q3 q4 => by rw [vf a b (by omega) (by omega) (by omega)]; exact fm a b q1 (by omega) (by omega) (by omega)
        have sr : SR cd mf := by
          refine ⟨by rw [x13]; exact u3, by omega, by omega, fun s q1 q2 => ?_⟩
          rw [x13] at q2
          obtain ⟨⟨a1, a2, a3⟩, ⟨b1, b2, b3⟩, ⟨d1, d2, d3⟩, w1, w2⟩ := u5 s q1 q2
          obtain ⟨y1, y2⟩ := v2 s q1 q2
          have o : ∀ b, xv md 13 0 T' (177 + s) b = md (177 + s) b := fun b => xv_ne (by omega)
          have o2 : ∀ b, xv md 13 0 T' (135 + s) b = md (135 + s) b := fun b => xv_ne (by omega)
          rw [y2 0 (by omega) (by omega), y2 1 (by omega) (by omega), y2 2 (by omega) (by omega), o, o, o]
          refine ⟨⟨a1, b1, d1⟩, ⟨a2, a3⟩, ⟨b2, b3⟩, ⟨d2, d3⟩, fun q q1 q2 => ?_, fun q q1 q2 => ?_⟩
          · rw [y1 q q1 (by omega), o2]; exact w1 q q1 q2
          · rw [y1 _ (by omega) (by omega), o2]; exact (w2 q q1 q2).1
        have tr : TR cd mf := TR.mk (h'.tr.ll.fr (fun a b _ _ => fd a b (by omega) (by omega)) (fun a b _ => fM a b (by omega) (by omega) (by omega) (by omega))) sr ((h'.tr.2.2.2.2.1.cv (fun b => fd _ b (by omega) (by omega))).mv (fun b => fM _ b (by omega) (by omega) (by omega) (by omega))) (h'.tr.2.2.2.2.2.1.fr (fun a b _ _ => fd a b (by omega) (by omega)) (fun a b _ => fM a b (by omega) (by omega) (by omega) (by omega))) (h'.tr.2.2.2.2.2.2.fr (fun a b _ _ => fd a b (by omega) (by omega)) (fun a b _ => fM a b (by omega) (by omega) (by omega) (by omega)))
        refine ⟨0, _, _, _, _, rfl, rfl, R.good h' tr ?_ ?_ (fun a b q => fd a b (by omega) (by omega)) (fun a b q => fM a b (by omega) (by omega) (by omega) (by omega)) ?_ a2 a3 a4 a5, Or.inl ⟨rfl, ?_, rfl⟩⟩
        · rw [vf _ _ (by omega) (by omega) (by omega), T5.1.2.2.2.2.1.2.1, T5.1.2.2.2.2.1.2.2]
        · rw [vf _ _ (by omega) (by omega) (by omega)]; exact f02
        · rw [fM _ _ (by omega) (by omega) (by omega) (by omega), fM _ _ (by omega) (by omega) (by omega) (by omega)]; exact h'.2.1.2.2
        · rw [xv_ne (by omega), fM _ _ (by omega) (by omega) (by omega) (by omega)]; exact z
      · have := T2.1.2.2.2.2.2
        omega
    · rw [r0, if_pos rfl]
      unfold G_X11_shapes_59
      rw [finishC (by omega), yb_s, gfine0 (by omega), yb_s, if_pos rfl, endsM (by omega), yb_s, if_neg (show ¬ cb 2 4 = 0 by omega), if_neg (show ¬ mb 0 6 = 0 by omega), f1]
      refine ⟨0, _, _, _, _, rfl, rfl, R.fail hN h' f2 (h'.tr.ll.fr (fun a b _ _ => fc a b (by omega) (by omega)) (fun a b _ => fm a b (by omega) (by omega) (by omega) (by omega))) (fun a b q1 q2 q3 q4 q5 q6 => fc a b q1 q4) (fun a b q => fm a b (by omega) (by omega) (by omega) (by omega)) f02, Or.inl ⟨rfl, ?_, rfl⟩⟩
      rw [xv_ne (by omega), fm _ _ (by omega) (by omega) (by omega) (by omega)]; exact z
  · rw [if_neg c1, if_neg c1, bx2, if_pos rfl]
    unfold G_X12_shapes_23
    exact cxB hN h' z (by omega)
end
