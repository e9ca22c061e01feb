section
variable {N : Nat} {c m : IH}
/-- an entry of a word, both sides -/
theorem entryW {n i W F : Int} (hN : 20000 ≤ N) (hl : LL c m) (h : TP c m n i) (hL : 97 ≤ bt m n i ∧ bt m n i ≤ 122) (hW : m 0 10 = W) (hF : c 4 13 = F) (hF2 : 0 ≤ F ∧ W + F < 60) (hE : ∀ f, 0 ≤ f → f < F → FRE c m W f) : ∃ r c' m', G_X2_readEntry N c = some (r, c') ∧ G_X12_readsWord N m (W + F) = some m' ∧ (∀ a b, ¬ (a = 2 ∧ (b = 3 ∨ b = 4 ∨ b = 5)) → ¬ (a = 4 ∧ b = 13) → ¬ ((16 ≤ a ∧ a ≤ 18) ∧ b = F) → c' a b = c a b) ∧ (∀ a b, ¬ (a = 0 ∧ (b = 4 ∨ b = 6 ∨ b = 7)) → ¬ ((a = 5 ∨ a = 6) ∧ b = W + F) → a ≠ 52 + (W + F) → m' a b = m a b) ∧ ((r = 1 ∧ (∃ j, TP c' m' n j) ∧ c' 4 13 = F + 1 ∧ FRE c' m' W F) ∨ (r = 0 ∧ FL c' m')) := by
  have hn := h.2.1
  have w0 := hl.1.2.1
  have c40 : c 4 0 = W := by rw [hl.2.1.1]; exact hW
  obtain ⟨r, c1, r', m1, a1, a2, a3, a4, a5⟩ := sign0 (N := N) (w := W + F) hn.1 (by omega) N N c m 0 (-1) (by rw [Int.add_zero]; exact h) (by omega) (by omega) (Or.inl ⟨rfl, rfl, hL⟩) (fun q q1 q2 => by omega) (by omega) (by omega)
  have e1 : G_X2_passWord N c = some (r, c1) := by
    unfold G_X2_passWord
    rw [xlet_q, xlet_q]; exact a1
  have e2 : G_X12_readsSigns N m (W + F) = some (r', m1) := by
    unfold G_X12_readsSigns
    rw [xlet_q]; exact a2
  unfold G_X2_readEntry G_X12_readsWord
  rw [h.1.2.2.1, xlet_q, gpeek h (by omega), yb_s, Int.add_zero, gletC, yb_s, isl_1 hL, if_neg i10, c40, hF, wr_in (by omega) (by omega), if_pos hF2.2, h.1.2.2.2.1, xlet_q, e1, e2, yb_s, yb_s]
  rcases a5 with ⟨b1, len, b2, b3, T1, b4, b5⟩ | ⟨b1, b2⟩
  · have t6 := T1.1.2.2.2.2.2
    have tn := T1.2.1
    have hl1 : LL c1 m1 := hl.fr3 (fun a b q => a3 a b (by omega)) (fun a b q => a4 a b (by omega) (by omega) (by omega))
    obtain ⟨l1, l2, P, l3, l4⟩ := hl1
    have m10 : m1 0 10 = W := by rw [a4 _ _ (by omega) (by omega) (by omega)]; exact hW
    have cF : c1 4 13 = F := by rw [a3 _ _ (by omega)]; exact hF
    obtain ⟨v, v1, v2⟩ := lookS (N := N) (s := i) (len := len) hN l1 l2.2.1 l3 (by omega)
    have fb : ∀ f, 0 ≤ f → f < F → 0 ≤ c1 16 f ∧ c1 16 f + c1 17 f ≤ 400 := fun f f1 f2 => by
      rw [a3 _ _ (by omega), a3 _ _ (by omega)]
      exact (hE f f1 f2).1
    obtain ⟨u, u1, u2⟩ := freshS (N := N) (c := c1) (s := i) (len := len) hN cF (by omega) (by omega) fb
    obtain ⟨s, s1, s2⟩ := sameAsS (N := N) (m := m1) (w := W + F) hN (by omega) (fun e x1 x2 => by
      by_cases ew : e < W
      · have := (l1.2.2.1 e x1 (by omega)).1
        omega
      · have q := (hE (e - W) (by omega) (by omega)).2.1
        rw [show W + (e - W) = e by omega] at q
        rw [a4 _ _ (by omega) (by omega) (by omega)]
        omega)
    have row : ∀ q, 0 ≤ q → q < len → m1 (52 + (W + F)) q = c1 3 (i + q) := fun q q1 q2 => by
      rw [(b5 q q1 q2).1]
      unfold bt
      rw [if_pos (by omega)]
      exact (T1.2.2 (i + q) (by omega) (by omega)).1.symm
    have key1 : ∀ e, 0 ≤ e → e < W → (SPW m1 (fun k => m1 (52 + (W + F)) k) (m1 5 (W + F)) e ↔ SPW m1 (fun k => c1 3 (i + k)) len e) := fun e x1 x2 => by
      unfold SPW
      rw [b4]
      constructor
      · intro z
        exact ⟨z.1, fun k k1 k2 => (z.2 k k1 k2).trans (row k k1 k2)⟩
      · intro z
        exact ⟨z.1, fun k k1 k2 => (z.2 k k1 k2).trans (row k k1 k2).symm⟩
    have key2 : ∀ f, 0 ≤ f → f < F → (SPW m1 (fun k => m1 (52 + (W + F)) k) (m1 5 (W + F)) (W + f) ↔ FSM c1 i len f) := fun f x1 x2 => by
      obtain ⟨_, g2, _, g4, _⟩ := hE f x1 x2
      unfold SPW FSM
      rw [b4, a4 5 (W + f) (by omega) (by omega) (by omega), a3 17 f (by omega), a3 16 f (by omega), g2.1]
      have rr : ∀ k, 0 ≤ k → k < c 17 f → m1 (52 + (W + f)) k = c1 3 (c 16 f + k) := fun k k1 k2 => by
        rw [a4 _ _ (by omega) (by omega) (by omega), a3 3 _ (by omega)]
        exact (g4 k k1 k2).1
      constructor
      · intro z
        exact ⟨z.1, fun k k1 k2 => by rw [← rr k k1 (by have := z.1; omega), ← row k k1 k2]; exact z.2 k k1 k2⟩
      · intro z
        refine ⟨z.1, fun k k1 k2 => ?_⟩
        rw [rr k k1 (by have := z.1; omega)]
        exact (z.2 k k1 k2).trans (row k k1 k2).symm
    have again : s ≠ -1 → ∃ r c' m', G_X2_readEntry_88 N c1 i = some (r, c') ∧ (if s = -1 then G_X12_readsWord_33 N m1 (W + F) else ybv (G_X12_wrong N m1 4 i) (fun a30 => G_X12_readsWord_33 N a30 (W + F))) = some m' ∧ (∀ a b, ¬ (a = 2 ∧ (b = 3 ∨ b = 4 ∨ b = 5)) → ¬ (a = 4 ∧ b = 13) → ¬ ((16 ≤ a ∧ a ≤ 18) ∧ b = F) → c' a b = c a b) ∧ (∀ a b, ¬ (a = 0 ∧ (b = 4 ∨ b = 6 ∨ b = 7)) → ¬ ((a = 5 ∨ a = 6) ∧ b = W + F) → a ≠ 52 + (W + F) → m' a b = m a b) ∧ ((r = 1 ∧ (∃ j, TP c' m' n j) ∧ c' 4 13 = F + 1 ∧ FRE c' m' W F) ∨ (r = 0 ∧ FL c' m')) := fun sn => by
      unfold G_X2_readEntry_88
      rw [grefuse, yb_s, ybo0, if_neg sn, gwrong t6, ybv_s, rw33_0 (by omega) (by rw [xv_ne (by omega), xv_eq rfl rfl]; omega)]
      refine ⟨0, _, _, rfl, rfl, fun a b z1 z2 z3 => ?_, fun a b z1 z2 z3 => ?_, Or.inr ⟨rfl, ?_, ?_, ?_, ?_⟩⟩
      · rw [xv_ne (by omega), xv_ne (by omega)]; exact a3 a b z1
      · rw [xv_ne (by omega), xv_ne (by omega), xv_ne (by omega)]; exact a4 a b z1 (by omega) z3
      · rw [xv_ne (by omega), xv_eq rfl rfl, xv_ne (by omega), xv_ne (by omega), xv_eq rfl rfl]
      · rw [xv_eq rfl rfl, xv_ne (by omega), xv_eq rfl rfl]
      · rw [xv_ne (by omega), xv_ne (by omega), xv_eq rfl rfl]; omega
      · rw [xv_ne (by omega), xv_ne (by omega), xv_eq rfl rfl]; omega
    rw [b1, if_neg i10, T1.1.2.2.1, show i + len - i = len by omega, wr_in (show -2147483648 ≤ len by omega) (by omega), xlet_q, v1, yb_s, gfine t6, yb_s, if_neg i10, s1, yb_s]
    rcases v2 with ⟨v2, v3⟩ | ⟨v2, v3, v4, v5⟩
    · rw [if_pos v2, u1, yb_s]
      rcases u2 with ⟨u2, u3⟩ | ⟨u2, f, u3, u4, u5⟩
      · have nos : ∀ e, 0 ≤ e → e < W + F → ¬ SPW m1 (fun k => m1 (52 + (W + F)) k) (m1 5 (W + F)) e := fun e x1 x2 z => by
          by_cases ew : e < W
          · exact v3 e x1 (by omega) ((key1 e x1 ew).1 z)
          · have z' := z
            rw [show e = W + (e - W) by omega] at z'
            exact u3 (e - W) (by omega) (by omega) ((key2 (e - W) (by omega) (by omega)).1 z')
        have es : s = -1 := by
          rcases s2 with q | ⟨_, e, x1, x2, x3⟩
          · exact q.1
          · exact absurd x3 (nos e x1 x2)
        clear again s2
        rw [if_pos u2, if_pos es]
        obtain ⟨p, g1, m', g2, g3⟩ := endW (N := N) (w := W + F) hN T1 (by omega)
        rw [g1, g2]
        rcases g3 with ⟨x, l, y1, y2, y3, y4, y5, y6⟩ | ⟨x1, x2, l, l', x, y1, y2, y3, y4, y5, y6⟩
        · rw [y5, yb_s, xlet_q, if_neg (by omega)]
          have q1 : xv c1 2 3 l 4 13 = F := by rw [xv_ne (by omega)]; exact cF
          have q2 : xv (xv c1 2 3 l) 16 F i 4 13 = F := by rw [xv_ne (by omega)]; exact q1
          have q3 : xv (xv (xv c1 2 3 l) 16 F i) 17 F len 4 13 = F := by rw [xv_ne (by omega)]; exact q2
          have q4 : xv (xv (xv (xv c1 2 3 l) 16 F i) 17 F len) 18 F x 4 13 = F := by rw [xv_ne (by omega)]; exact q3
          rw [q1, xq_in hF2.1 (by omega), xlet_q, q2, xq_in hF2.1 (by omega), xlet_q, q3, xq_in hF2.1 (by omega), xlet_q, q4, xlet_q, wr_in (by omega) (by omega)]
          have T6 := (((((T1.w (k := 6) (a := W + F) (v := x) (by omega)).at (j := l) (by omega)).wc (k := 16) (a := F) (v := i) (by omega)).wc (k := 17) (a := F) (v := len) (by omega)).wc (k := 18) (a := F) (v := x) (by omega)).wc (k := 4) (a := 13) (v := F + 1) (by omega)
          have o16 : xv (xv (xv (xv (xv c1 2 3 l) 16 F i) 17 F len) 18 F x) 4 13 (F + 1) 16 F = i := by rw [xv_ne (by omega), xv_ne (by omega), xv_ne (by omega), xv_eq rfl rfl]
          have o17 : xv (xv (xv (xv (xv c1 2 3 l) 16 F i) 17 F len) 18 F x) 4 13 (F + 1) 17 F = len := by rw [xv_ne (by omega), xv_ne (by omega), xv_eq rfl rfl]
          have o18 : xv (xv (xv (xv (xv c1 2 3 l) 16 F i) 17 F len) 18 F x) 4 13 (F + 1) 18 F = x := by rw [xv_ne (by omega), xv_eq rfl rfl]
          have o3 : ∀ b, xv (xv (xv (xv (xv c1 2 3 l) 16 F i) 17 F len) 18 F x) 4 13 (F + 1) 3 b = c1 3 b := fun b => by rw [xv_ne (by omega), xv_ne (by omega), xv_ne (by omega), xv_ne (by omega), xv_ne (by omega)]
          have om : ∀ a b, ¬ (a = 0 ∧ b = 4) → ¬ (a = 6 ∧ b = W + F) → m' a b = m1 a b := fun a b z1 z2 => by rw [y6, xv_ne z1, xv_ne z2]
          have o6 : m' 6 (W + F) = x := by rw [y6, xv_ne (by omega), xv_eq rfl rfl]
          refine ⟨1, _, _, rfl, rfl, fun a b z1 z2 z3 => ?_, fun a b z1 z2 z3 => ?_, Or.inl ⟨rfl, ⟨l, by rw [y6]; exact T6⟩, xv_eq rfl rfl, ?_⟩⟩
          · rw [xv_ne (by omega), xv_ne (by omega), xv_ne (by omega), xv_ne (by omega), xv_ne (by omega)]; exact a3 a b z1
          · rw [om a b (by omega) (by omega)]; exact a4 a b z1 (by omega) z3
          · unfold FRE
            rw [o16, o17, o18, o6, om 5 _ (by omega) (by omega)]
            refine ⟨by omega, ⟨b4, b2, b3⟩, ⟨rfl, y1, y2⟩, fun k k1 k2 => ?_, fun e x1 x2 z => nos e x1 x2 ?_⟩
            · rw [om _ _ (by omega) (by omega), o3]
              exact ⟨row k k1 k2, (b5 k k1 k2).2⟩
            · obtain ⟨z1, z2⟩ := z
              refine ⟨by rw [← om 5 e (by omega) (by omega)]; exact z1, fun k k1 k2 => ?_⟩
              have z3 : m' (52 + e) k = m' (52 + (W + F)) k := z2 k k1 k2
              rw [om _ _ (by omega) (by omega), om _ _ (by omega) (by omega)] at z3
              exact z3
        · rw [y5, yb_s, xlet_q, if_pos rfl]
          unfold flc
          unfold flm at y6
          refine ⟨0, _, _, rfl, rfl, fun a b z1 z2 z3 => ?_, fun a b z1 z2 z3 => ?_, Or.inr ⟨rfl, ?_, ?_, ?_, ?_⟩⟩
          · rw [xv_ne (by omega), xv_ne (by omega), xv_ne (by omega)]; exact a3 a b z1
          · rw [y6, xv_ne (by omega), xv_ne (by omega), xv_ne (by omega), xv_ne (by omega)]; exact a4 a b z1 (by omega) z3
          · rw [y6, xv_ne (by omega), xv_eq rfl rfl, xv_ne (by omega), xv_eq rfl rfl]
          · rw [y6, xv_eq rfl rfl, xv_eq rfl rfl]
          · rw [y6, xv_ne (by omega), xv_eq rfl rfl]; exact y1
          · rw [y6, xv_ne (by omega), xv_eq rfl rfl]; exact y2
      · rw [if_neg (by omega)]
        refine again (fun es => ?_)
        rcases s2 with q | q
        · exact q.2 (W + f) (by omega) (by omega) ((key2 f u3 u4).2 u5)
        · exact q.1 es
    · rw [if_neg (by omega)]
      refine again (fun es => ?_)
      rcases s2 with q | q
      · exact q.2 v v2 (by omega) ((key1 v v2 (by omega)).2 v4)
      · exact q.1 es
  · rw [b1, if_pos rfl, gfine0 (by have := b2.2.2.1; omega), yb_s, if_pos rfl, rw33_0 (by omega) (by have := b2.2.2.1; omega)]
    refine ⟨0, _, _, rfl, rfl, fun a b z1 z2 z3 => a3 a b z1, fun a b z1 z2 z3 => ?_, Or.inr ⟨rfl, ?_, ?_, ?_, ?_⟩⟩
    · rw [xv_ne (by omega)]; exact a4 a b z1 (by omega) z3
    · rw [xv_ne (by omega)]; exact b2.1
    · rw [xv_ne (by omega)]; exact b2.2.1
    · rw [xv_ne (by omega)]; exact b2.2.2.1
    · rw [xv_ne (by omega)]; exact b2.2.2.2
end
def LFc (c c' : IH) : Prop := ∀ a b, ¬ (a = 2 ∧ (b = 3 ∨ b = 4 ∨ b = 5)) → ¬ (a = 4 ∧ b = 13) → ¬ (16 ≤ a ∧ a ≤ 18) → c' a b = c a b
def LFm (m m' : IH) (W : Int) : Prop := ∀ a b, ¬ (a = 0 ∧ (b = 4 ∨ b = 6 ∨ b = 7)) → ¬ ((a = 5 ∨ a = 6) ∧ W ≤ b) → ¬ (52 + W ≤ a ∧ a < 112) → m' a b = m a b
theorem lx48_0 {N f : Nat} {m : IH} {v2 v3 : Int} (hf : 0 < f) (h : m 0 6 ≠ 0) : G_X12_lexicon_48 N f m v2 v3 = G_X12_lexicon_121 N m v2 v3 := by
  obtain ⟨g, rfl⟩ : ∃ g, f = g + 1 := ⟨f - 1, by omega⟩
  unfold G_X12_lexicon_48
  rw [gfine0 h, yb_s, if_pos rfl]
theorem lxLoop {N : Nat} {n W : Int} (hN : 20000 ≤ N) : ∀ (f : Nat) (c m : IH) (i F : Int), TP c m n i → LL c m → m 0 10 = W → c 4 13 = F → 0 ≤ F → W + F ≤ 60 → (∀ u, 0 ≤ u → u < F → FRE c m W u) → 60 - F < f → ∃ c' m' F', G_X12_lexicon_48 N f m W (W + F) = G_X12_lexicon_121 N m' W (W + F') ∧ LFc c c' ∧ LFm m m' W ∧ LL c' m' ∧ ((G_X2_readText_7 N f c F = ybv (G_X2_addFresh N 3 c') (fun a29 => some (1, a29)) ∧ (∃ j, TP c' m' n j) ∧ c' 4 13 = F' ∧ 0 ≤ F' ∧ W + F' ≤ 60 ∧ ∀ u, 0 ≤ u → u < F' → FRE c' m' W u) ∨ (G_X2_readText_7 N f c F = some (0, c') ∧ FL c' m')) := by
  intro f
  induction f with
  | zero => intro c m i F h hl hW hF h1 h2 hs hf; have := hl.1.2.1; omega
  | succ f ih =>
    intro c m i F h hL hW hF h1 h2 hs hf
    have w0 := hL.1.2.1
    obtain ⟨j, j1, j2, j3, j4, j5, T⟩ := blanksS (N := N) hN h
    have hr := h.rng (j := j) (by have := h.2.1; omega)
    have t6 := T.1.2.2.2.2.2
    have tF : xv c 2 3 j 4 13 = F := by rw [xv_ne (by omega)]; exact hF
    have tW : xv m 0 4 j 0 10 = W := by rw [xv_ne (by omega)]; exact hW
    have tL : LL (xv c 2 3 j) (xv m 0 4 j) := hL.fr3 (fun a b q => xv_ne (by omega)) (fun a b q => xv_ne (by omega))
    have t40 : xv c 2 3 j 4 0 = W := by rw [tL.2.1.1]; exact tW
    have tE : ∀ u, 0 ≤ u → u < F → FRE (xv c 2 3 j) (xv m 0 4 j) W u := fun u u1 u2 => (hs u u1 u2).fr (by omega) (fun a _ _ => xv_ne (by omega)) (fun b => xv_ne (by omega)) (fun e _ _ => xv_ne (by omega)) (xv_ne (by omega)) (fun e b _ _ => xv_ne (by omega))
    unfold G_X2_readText_7 G_X12_lexicon_48
    rw [if_neg (show ¬ 60 < F by omega), j4, ybv_s, gfine h.1.2.2.2.2.2, yb_s, if_neg i10, j5, yb_s, gatEnd T, yb_s]
    by_cases hj : j < n
    · rw [if_pos hj, if_pos rfl, if_neg (show ¬ bt m n j = -1 by omega), ghere T, yb_s, gletM, yb_s, bt_xv (by omega)]
      by_cases hl : 97 ≤ bt m n j ∧ bt m n j ≤ 122
      · rw [isl_1 hl, if_neg i10]
        by_cases h60 : W + F = 60
        · rw [if_pos h60, gwrong t6, ybv_s, T.1.2.2.2.1]
          unfold G_X12_lexicon_100 G_X2_readEntry
          rw [gfine0 (by rw [xv_ne (by omega), xv_eq rfl rfl]; omega), yb_s, if_pos rfl, T.1.2.2.1, xlet_q, gpeek T (by omega), yb_s, Int.add_zero, gletC, yb_s, bt_xv (by omega), isl_1 hl, if_neg i10, t40, tF, wr_in (show -2147483648 ≤ W + F by omega) (by omega), if_neg (show ¬ W + F < 60 by omega), grefuse, yb_s, ybo0, yb_s, if_pos rfl]
          refine ⟨_, _, F, rfl, fun a b z1 z2 z3 => ?_, fun a b z1 z2 z3 => ?_, ?_, Or.inr ⟨rfl, FL.w2 (by omega)⟩⟩
          · rw [xv_ne (by omega), xv_ne (by omega), xv_ne (by omega)]
          · rw [xv_ne (by omega), xv_ne (by omega), xv_ne (by omega)]
          · exact tL.fr3 (fun a b q => by rw [xv_ne (by omega), xv_ne (by omega)]) (fun a b q => by rw [xv_ne (by omega), xv_ne (by omega)])
        · rw [if_neg h60]
          unfold G_X12_lexicon_100
          rw [gfine t6, yb_s, if_neg i10]
          obtain ⟨r, c2, m2, e1, e2, e3, e4, e5⟩ := entryW (N := N) (W := W) (F := F) hN tL T (by rw [bt_xv (by omega)]; exact hl) tW tF ⟨h1, by omega⟩ tE
          have L2 : LL c2 m2 := by
            clear e5
            exact tL.fr3 (fun a b q => e3 a b (by omega) (by omega) (by omega)) (fun a b q => by rw [tW] at q; exact e4 a b (by omega) (by omega) (by omega))
          have f1 : LFc c c2 := by
            clear e5
            exact fun a b z1 z2 z3 => by rw [e3 a b z1 z2 (by omega), xv_ne (by omega)]
          have f2 : LFm m m2 W := by
            clear e5
            exact fun a b z1 z2 z3 => by rw [e4 a b z1 (by omega) (by omega), xv_ne (by omega)]
          rw [e1, yb_s, e2, ybv_s, wr_in (show -2147483648 ≤ W + F + 1 by omega) (by omega), wr_in (show -2147483648 ≤ F + 1 by omega) (by omega)]
          simp only [xlet_q]
          rcases e5 with ⟨r1, ⟨j', g2⟩, g4, g5⟩ | ⟨r0, g1⟩
          · rw [r1, if_neg i10, show W + F + 1 = W + (F + 1) by omega]
            obtain ⟨c', m', F', a1, a2, a3, a4, a5⟩ := ih c2 m2 j' (F + 1) g2 L2 (by rw [f2 _ _ (by omega) (by omega) (by omega)]; exact hW) g4 (by omega) (by omega) (fun u u1 u2 => by
              by_cases es : u = F
              · subst es
                exact g5
              · exact (tE u u1 (by omega)).fr (by omega) (fun a q1 q2 => e3 a u (by omega) (by omega) (by omega)) (fun b => e3 _ b (by omega) (by omega) (by omega)) (fun e q1 q2 => e4 _ e (by omega) (by omega) (by omega)) (e4 _ _ (by omega) (by omega) (by omega)) (fun e b q1 q2 => e4 _ b (by omega) (by omega) (by omega))) (by omega)
            exact ⟨c', m', F', a1, fun a b z1 z2 z3 => by rw [a2 a b z1 z2 z3]; exact f1 a b z1 z2 z3, fun a b z1 z2 z3 => by rw [a3 a b z1 z2 z3]; exact f2 a b z1 z2 z3, a4, a5⟩
          · rw [r0, if_pos rfl, lx48_0 (by omega) (by have := g1.2.2.1; omega), show W + F + 1 = W + (F + 1) by omega]
            exact ⟨c2, m2, F + 1, rfl, f1, f2, L2, Or.inr ⟨rfl, g1⟩⟩
      · rw [isl_0 hl, if_pos rfl, gwrong t6, ybv_s, T.1.2.2.2.1]
        unfold G_X12_lexicon_100 G_X2_readEntry
        rw [gfine0 (by rw [xv_ne (by omega), xv_eq rfl rfl]; omega), yb_s, if_pos rfl, T.1.2.2.1, xlet_q, gpeek T (by omega), yb_s, Int.add_zero, gletC, yb_s, bt_xv (by omega), isl_0 hl, if_pos rfl, grefuse, yb_s, ybo0, yb_s, if_pos rfl]
        refine ⟨_, _, F, rfl, fun a b z1 z2 z3 => ?_, fun a b z1 z2 z3 => ?_, ?_, Or.inr ⟨rfl, FL.w2 (by omega)⟩⟩
        · rw [xv_ne (by omega), xv_ne (by omega), xv_ne (by omega)]
        · rw [xv_ne (by omega), xv_ne (by omega), xv_ne (by omega)]
        · exact tL.fr3 (fun a b q => by rw [xv_ne (by omega), xv_ne (by omega)]) (fun a b q => by rw [xv_ne (by omega), xv_ne (by omega)])
    · rw [if_neg hj, if_neg i10, if_pos (show bt m n j = -1 by omega)]
      exact ⟨_, _, F, rfl, fun a b z1 z2 z3 => xv_ne (by omega), fun a b z1 z2 z3 => xv_ne (by omega), tL, Or.inl ⟨rfl, ⟨j, T⟩, tF, h1, h2, tE⟩⟩
