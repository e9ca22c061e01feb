section
variable {N : Nat} {c m : IH} {P : Int → Int → Int}
/-- all fresh words are added, both sides -/
theorem freshLoop {W F : Int} (hN : 20000 ≤ N) (hW : 0 ≤ W) (hF : 0 ≤ F ∧ W + F ≤ 60) : ∀ (f f2 : Nat) (c m : IH) (P : Int → Int → Int) (v : Int), PLW c m P (W + v) → 0 ≤ v → v ≤ F → c 4 13 = F → m 0 10 = W + F → (∀ u, v ≤ u → u < F → FRE c m W u) → F - v < f → F - v < f2 → ∃ c' m' P', G_X2_addFresh_2 N 3 f c v = G_X2_addFresh_67 N 3 c' ∧ G_X12_lexicon_142 N f2 m (W + v) = ybv (G_X12_weighs N m') (fun a164 => yb (G_X12_ends N a164 (a164 0 10)) (fun r172 a172 => some (r172, a172))) ∧ PLW c' m' P' (W + F) ∧ (∀ a b, ¬ (4 ≤ a ∧ a ≤ 15) → c' a b = c a b) ∧ ∀ a b, ¬ (a = 0 ∧ b = 15) → ¬ (7 ≤ a ∧ a ≤ 10) → m' a b = m a b := by
  intro f
  induction f with
  | zero => intro f2 c m P v h h1 h2 h3 h4 h5 h6 h7; omega
  | succ f ih =>
    intro f2 c m P v h h1 h2 h3 h4 h5 h6 h7
    obtain ⟨f2, rfl⟩ : ∃ g, f2 = g + 1 := ⟨f2 - 1, by omega⟩
    have c40 : c 4 0 = W + v := h.1.2.2.2.2.2.1
    rw [G_X2_addFresh_2, G_X12_lexicon_142, h3, h4, c40]
    by_cases c1 : F ≤ v
    · have e : v = F := by omega
      subst e
      rw [if_pos c1, if_pos (by omega)]
      exact ⟨c, m, P, rfl, rfl, h, fun _ _ _ => rfl, fun _ _ _ _ => rfl⟩
    · obtain ⟨g1, g2, g3, g4, g5⟩ := h5 v (by omega) (by omega)
      obtain ⟨c1', m1, P1, a1, a2, a3, a4, a5, a6⟩ := growS (N := N) (W := W + v) (s := c 16 v) (len := c 17 v) hN h (by omega) g2.1 g2.2 g1 g4 (by rw [g3.1]; exact g3.2) (by rw [g2.1] at g5; exact g5)
      have e18 : c1' 18 v = m 6 (W + v) := by rw [a5 _ _ (by omega) (by omega)]; exact g3.1.symm
      have x40 : xv c1' 6 (W + v) (m 6 (W + v)) 4 0 = W + v := by rw [xv_ne (by omega)]; exact a3
      rw [if_neg c1, if_neg (show ¬ 60 ≤ W + v by omega), if_neg (show ¬ W + F ≤ W + v by omega), xq_in h1 (by omega), xq_in h1 (by omega), a1, ybv_s, a2, ybv_s, xlet_q, wr_in (show -2147483648 ≤ W + v + 1 by omega) (by omega), xq_in h1 (by omega), a3, xq_in (by omega) (by omega), e18, xlet_q, x40, wr_in (show -2147483648 ≤ W + v + 1 by omega) (by omega), xlet_q, wr_in (show -2147483648 ≤ v + 1 by omega) (by omega), xlet_q]
      rw [show W + v + 1 = W + (v + 1) by omega] at a4 ⊢
      have co : ∀ a b, ¬ (a = 4 ∧ b = 5) → ¬ (5 ≤ a ∧ a ≤ 15) → ¬ (a = 4 ∧ b = 0) → xv (xv c1' 6 (W + v) (m 6 (W + v))) 4 0 (W + (v + 1)) a b = c a b := fun a b z1 z2 z3 => by rw [xv_ne z3, xv_ne (by omega)]; exact a5 a b z1 z2
      obtain ⟨c', m', P', b1, b2, b3, b4, b5⟩ := ih f2 _ m1 P1 (v + 1) a4 (by omega) (by omega) (by rw [co _ _ (by omega) (by omega) (by omega)]; exact h3) (by rw [a6 _ _ (by omega) (by omega)]; exact h4) (fun u u1 u2 => (h5 u (by omega) u2).fr (by omega) (fun a _ _ => co _ _ (by omega) (by omega) (by omega)) (fun b => co _ _ (by omega) (by omega) (by omega)) (fun e _ _ => a6 _ _ (by omega) (by omega)) (a6 _ _ (by omega) (by omega)) (fun e b _ _ => a6 _ _ (by omega) (by omega))) (by omega) (by omega)
      exact ⟨c', m', P', b1, b2, b3, fun a b z => by rw [b4 a b z, co a b (by omega) (by omega) (by omega)], fun a b z1 z2 => by rw [b5 a b z1 z2, a6 a b z1 z2]⟩
theorem S_lexicon {p : Int} (hN : 20000 ≤ N) (h : R N c m) : CX N 0 1 (G_X11_lexicon N c p) (G_X12_lexicon N m p) := by
  unfold G_X11_lexicon G_X12_lexicon
  have h' := h.m0 hN
  have z : xv m 0 0 0 0 0 = 0 := xv_eq rfl rfl
  rw [xlet_q]
  generalize xv m 0 0 0 = m at h' z ⊢
  rw [needB, inM, yb_s, h'.1.1]
  by_cases c1 : 0 ≤ p ∧ p ≤ m 0 2
  · rw [if_pos c1, if_pos c1, bx0, if_neg i10]
    unfold G_X12_lexicon_23
    rw [bad0 z, yb_s, if_pos rfl]
    obtain ⟨ca, ma, e1, e2, T0, e3, e4, e5, e6, e7⟩ := beginS (N := N) h'.1 c1
    have W0 := h'.tr.1.2.1
    have mW : ma 0 10 = m 0 10 := e6 _ _ (by omega)
    rw [e1, e2, ybv_s, ybv_s, xlet_q, xlet_q, mW]
    generalize hW : m 0 10 = W at *
    have L0 : LL (xv ca 4 13 0) ma := h'.tr.ll.fr3 (fun a b q => by rw [xv_ne (by omega)]; exact e5 a b (by omega)) (fun a b q => e6 a b (by omega))
    obtain ⟨cb, mb, F, g1, g2, g3, g4, g5⟩ := lxLoop (N := N) (W := W) hN N (xv ca 4 13 0) ma 0 0 (T0.wc (by omega)) L0 mW (xv_eq rfl rfl) (by omega) (by omega) (fun u u1 u2 => by omega) (by omega)
    rw [Int.add_zero] at g1
    rw [g1]
    have et : G_X2_readText N ca = G_X2_readText_7 N N (xv ca 4 13 0) 0 := rfl
    rw [et]
    have fc : ∀ a b, ¬ (a = 2 ∧ 2 ≤ b ∧ b ≤ 5) → ¬ (a = 4 ∧ b = 13) → ¬ (16 ≤ a ∧ a ≤ 18) → cb a b = c a b := fun a b q1 q2 q3 => by rw [g2 a b (by omega) q2 q3, xv_ne q2]; exact e5 a b q1
    have fm : ∀ a b, ¬ (a = 0 ∧ 2 ≤ b ∧ b ≤ 7) → ¬ (5 ≤ a ∧ a ≤ 6) → ¬ (52 ≤ a ∧ a < 112) → mb a b = m a b := fun a b q1 q2 q3 => by rw [g3 a b (by omega) (by omega) (by omega)]; exact e6 a b q1
    have f02 : mb 0 2 = 0 := by rw [g3 _ _ (by omega) (by omega) (by omega)]; exact e7
    unfold G_X12_lexicon_121
    rcases g5 with ⟨k1, ⟨j, T2⟩, k2, k3, k4, k5⟩ | ⟨k1, f1, f2, f3, f4⟩
    · obtain ⟨P, hp⟩ := g4.pl
      have mb10 : mb 0 10 = W := by rw [fm _ _ (by omega) (by omega) (by omega)]; exact hW
      have pw : PLW cb (xv mb 0 10 (W + F)) P (W + 0) := by
        have q := hp.plw mb10
        rw [Int.add_zero]
        have o : ∀ a b, ¬ (a = 0 ∧ b = 10) → xv mb 0 10 (W + F) a b = mb a b := fun a b z => xv_ne z
        have o5 : ∀ b, xv mb 0 10 (W + F) 5 b = mb 5 b := fun b => o _ _ (by omega)
        have o6 : ∀ b, xv mb 0 10 (W + F) 6 b = mb 6 b := fun b => o _ _ (by omega)
        have o7 : ∀ b, xv mb 0 10 (W + F) 7 b = mb 7 b := fun b => o _ _ (by omega)
        have o8 : ∀ b, xv mb 0 10 (W + F) 8 b = mb 8 b := fun b => o _ _ (by omega)
        have o9 : ∀ b, xv mb 0 10 (W + F) 9 b = mb 9 b := fun b => o _ _ (by omega)
        have o10 : ∀ b, xv mb 0 10 (W + F) 10 b = mb 10 b := fun b => o _ _ (by omega)
        have o15 : xv mb 0 10 (W + F) 0 15 = mb 0 15 := o _ _ (by omega)
        obtain ⟨⟨t1, t2, t3, t4, t5, t6, t7, t8⟩, p2, p3, p4, p5, p6, p10⟩ := q
        refine ⟨⟨?_, t2, ?_, ?_, ?_, t6, ?_, ?_⟩, ?_, ?_, ?_, ?_, ?_, ?_⟩
        · unfold TrM at *; simp only [o15, o8, o9]; exact t1
        · simp only [o5, o6, o7, o15]; exact t3
        · unfold PTH at *
          simp only [o5, o7, o15, o8, o9]
          exact fun w w1 w2 => ⟨(t4 w w1 w2).1, (t4 w w1 w2).2.1, fun k k1 k2 => by rw [o (52 + w) k (by omega)]; exact (t4 w w1 w2).2.2 k k1 k2⟩
        · rw [o8]; exact t5
        · rw [o15]; exact t7
        · simp only [o15, o8]; exact t8
        · simp only [o15, o10, o7]; exact p2
        · simp only [o10, o7]; exact p3
        · unfold TrC at *; simp only [o15, o8, o9, o10]; exact p4
        · simp only [o5]
          exact fun w w1 w2 => ⟨(p5 w w1 w2).1, fun k k1 k2 => by rw [o (52 + w) k (by omega)]; exact (p5 w w1 w2).2 k k1 k2⟩
        · simp only [o15, o8, o9, o5]; exact p6
        · simp only [o15, thr_mv o5]; exact p10
      obtain ⟨cc, mc, P', a1, a2, a3, a4, a5⟩ := freshLoop (N := N) (W := W) (F := F) hN W0.1 ⟨k3, k4⟩ N N cb (xv mb 0 10 (W + F)) P 0 pw (by omega) k3 k2 (xv_eq rfl rfl) (fun u u1 u2 => (k5 u u1 u2).fr (by omega) (fun _ _ _ => rfl) (fun _ => rfl) (fun e _ _ => xv_ne (by omega)) (xv_ne (by omega)) (fun e b _ _ => xv_ne (by omega))) (by omega) (by omega)
      rw [Int.add_zero] at a2
      have mc10 : mc 0 10 = W + F := by rw [a5 _ _ (by omega) (by omega)]; exact xv_eq rfl rfl
      obtain ⟨cd, md, b1, b2, b3, b4, b5, b6⟩ := PL.wg (N := N) hN (a3.pl mc10)
      have ef : G_X2_addFresh N 3 cb = some cd := by
        unfold G_X2_addFresh
        rw [xlet_q, a1]
        unfold G_X2_addFresh_67
        rw [b1, ybv_s]
      rw [k1, ef, ybv_s, yb_s, if_neg i10, gfine T2.1.2.2.2.2.2, yb_s, if_neg i10, xlet_q, xlet_q, a2, b2, ybv_s]
      obtain ⟨ce, d1, d2, d3, d4, d5⟩ := changedS (N := N) (c := cd) hN
      have fd : ∀ a b, ¬ (a = 2 ∧ 2 ≤ b ∧ b ≤ 5) → ¬ (4 ≤ a ∧ a ≤ 18) → cd a b = c a b := fun a b q1 q2 => by rw [b3 a b (by omega), a4 a b (by omega)]; exact fc a b q1 (by omega) (by omega)
      have fM : ∀ a b, ¬ (a = 0 ∧ ((2 ≤ b ∧ b ≤ 7) ∨ b = 10 ∨ b = 15)) → ¬ (5 ≤ a ∧ a ≤ 12) → ¬ (52 ≤ a ∧ a < 112) → md a b = m a b := fun a b q1 q2 q3 => by rw [b4 a b (by omega) (by omega), a5 a b (by omega) (by omega), xv_ne (by omega)]; exact fm a b (by omega) (by omega) q3
      have c2 : ∀ b, cd 2 b = cb 2 b := fun b => by rw [b3 _ _ (by omega), a4 _ _ (by omega)]
      have m0 : ∀ b, b ≠ 10 → b ≠ 15 → md 0 b = mb 0 b := fun b q1 q2 => by rw [b4 _ _ (by omega) (by omega), a5 _ _ (by omega) (by omega), xv_ne (by omega)]
      have e24 : ce 2 4 = 0 := by rw [d5 _ _ (by omega) (by omega) (by omega), c2]; exact T2.1.2.2.2.2.1.1
      have x6 : md 0 6 = 0 := by rw [m0 _ (by omega) (by omega)]; exact T2.1.2.2.2.2.2
      rw [d1, ybv_s]
      unfold G_X11_lexicon_39
      rw [finishC (by omega), yb_s, if_pos e24, d5 _ _ (by omega) (by omega) (by omega), b5.2.1.1, endsM (by omega), yb_s, if_pos x6]
      have tr : TR cd md := TR.mk b5 ((h'.tr.2.2.2.1.cv (fun a b _ _ => fd a b (by omega) (by omega))).mv (fM _ _ (by omega) (by omega) (by omega)) (fun a b _ _ => fM a b (by omega) (by omega) (by omega)) (fun a b _ _ => fM a b (by omega) (by omega) (by omega))) ((h'.tr.2.2.2.2.1.cv (fun b => fd _ b (by omega) (by omega))).mv (fun b => fM _ b (by omega) (by omega) (by omega))) (h'.tr.2.2.2.2.2.1.fr (fun a b _ _ => fd a b (by omega) (by omega)) (fun a b _ => fM a b (by omega) (by omega) (by omega))) (h'.tr.2.2.2.2.2.2.fr (fun a b _ _ => fd a b (by omega) (by omega)) (fun a b _ => fM a b (by omega) (by omega) (by omega)))
      refine ⟨0, _, _, _, _, rfl, rfl, R.good h' tr ?_ ?_ (fun a b q => fd a b (by omega) (by omega)) (fun a b q => fM a b (by omega) (by omega) (by omega)) b6 d2 d3 d4 d5, Or.inl ⟨rfl, ?_, rfl⟩⟩
      · rw [c2, m0 _ (by omega) (by omega), T2.1.2.2.2.2.1.2.1, T2.1.2.2.2.2.1.2.2]
      · rw [m0 _ (by omega) (by omega)]; exact f02
      · rw [xv_ne (by omega), fM _ _ (by omega) (by omega) (by omega)]; exact z
    · rw [k1, yb_s, if_pos rfl]
      unfold G_X11_lexicon_39
      rw [finishC (by omega), yb_s, gfine0 (by omega), yb_s, if_pos rfl, endsM (by omega), yb_s, if_neg (show ¬ cb 2 4 = 0 by omega), if_neg (show ¬ mb 0 6 = 0 by omega), f1]
      refine ⟨0, _, _, _, _, rfl, rfl, R.fail hN h' f2 g4 (fun a b q1 q2 q3 q4 q5 q6 => fc a b q1 q2 q3) (fun a b q => fm a b (by omega) (by omega) (by omega)) f02, Or.inl ⟨rfl, ?_, rfl⟩⟩
      rw [xv_ne (by omega), fm _ _ (by omega) (by omega) (by omega)]; exact z
  · rw [if_neg c1, if_neg c1, bx2, if_pos rfl]
    unfold G_X12_lexicon_23
    exact cxB hN h' z (by omega)
end
