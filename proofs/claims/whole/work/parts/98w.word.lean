theorem FT.w2 {c m : IH} {n i k l : Int} (h : TP c m n i) (hk : 1 ≤ k ∧ k ≤ 5) : FT (xv (xv c 2 4 k) 2 5 l) (xv (xv m 0 6 k) 0 7 l) n := by
  have := FT.fl (j := i) (j' := i) (k := k) (l := l) h hk (by have := h.2.1; omega)
  unfold flc flm at this
  rw [xv_id h.1.2.2.1, xv_id h.1.2.2.2.1] at this
  exact this
section
variable {N : Nat} {c m : IH}
/-- the signs of a word are gone over, both sides -/
theorem word0 {n i k : Int} (hi : 0 ≤ i) : ∀ (f : Nat) (c m : IH) (j : Int), TP c m n j → i ≤ j → (∀ q, 0 ≤ q → q < 12 → i + q < j → m 112 q = bt m n (i + q)) → n - j < f → ∃ e m', j ≤ e ∧ e ≤ n ∧ G_X1_readWord_25 N k f c i = G_X1_readWord_66 N k (xv c 2 3 e) i ∧ G_X12_wordHere_35 N f m i (j - i) = G_X12_wordHere_99 N N (xv m' 5 60 (e - i)) i 0 ∧ TP (xv c 2 3 e) m' n e ∧ (∀ q, 0 ≤ q → q < 12 → i + q < e → m' 112 q = bt m' n (i + q)) ∧ ∀ a b, ¬ (a = 0 ∧ b = 4) → a ≠ 112 → m' a b = m a b := by
  intro f
  induction f with
  | zero => intro c m j h h1 h2 h3; have := h.2.1; omega
  | succ f ih =>
    intro c m j h h1 h2 h3
    have hr := h.rng h.2.1.1
    have hb := h.2.1
    have h4 := h.1.2.2.2.1
    have step : j < n → ∃ e m', j ≤ e ∧ e ≤ n ∧ G_X1_readWord_53 N k (G_X1_readWord_25 N k f) c i = G_X1_readWord_66 N k (xv c 2 3 e) i ∧ G_X12_wordHere_54 N (G_X12_wordHere_35 N f) m i (j - i) = G_X12_wordHere_99 N N (xv m' 5 60 (e - i)) i 0 ∧ TP (xv c 2 3 e) m' n e ∧ (∀ q, 0 ≤ q → q < 12 → i + q < e → m' 112 q = bt m' n (i + q)) ∧ ∀ a b, ¬ (a = 0 ∧ b = 4) → a ≠ 112 → m' a b = m a b := fun hj => by
      unfold G_X1_readWord_53 G_X12_wordHere_54 G_X12_wordHere_73
      rw [h.1.2.2.1, wr_in (show -2147483648 ≤ j + 1 by omega) (by omega), xlet_q, wr_in (show -2147483648 ≤ j - i + 1 by omega) (by omega), show (52 : Int) + 60 = 112 by omega, show j - i + 1 = j + 1 - i by omega]
      by_cases c12 : 12 ≤ j - i
      · rw [if_pos c12, h4, wr_in (show -2147483648 ≤ j + 1 by omega) (by omega), xlet_q, xlet_q]
        obtain ⟨e, m', a1, a2, a3, a4, a5, a6, a7⟩ := ih (xv c 2 3 (j + 1)) (xv m 0 4 (j + 1)) (j + 1) (h.at (by omega)) (by omega) (fun q q1 q2 q3 => by rw [xv_ne (by omega), bt_xv (by omega)]; exact h2 q q1 q2 (by omega)) (by omega)
        rw [xv_xv] at a3 a5
        exact ⟨e, m', by omega, a2, a3, a4, a5, a6, fun a b z1 z2 => by rw [a7 a b z1 z2, xv_ne z1]⟩
      · rw [if_neg c12, xlet_q, ghere h, yb_s, xq_in (by omega) (by omega), xlet_q, xlet_q, xlet_q, xv_ne (by omega), h4, wr_in (show -2147483648 ≤ j + 1 by omega) (by omega)]
        obtain ⟨e, m', a1, a2, a3, a4, a5, a6, a7⟩ := ih (xv c 2 3 (j + 1)) (xv (xv m 112 (j - i) (bt m n j)) 0 4 (j + 1)) (j + 1) ((h.w (by omega)).at (by omega)) (by omega) (fun q q1 q2 q3 => by
          rw [xv_ne (by omega), bt_xv (by omega), bt_xv (by omega)]
          by_cases e : q = j - i
          · rw [xv_eq rfl e, e, show i + (j - i) = j by omega]
          · rw [xv_ne (by omega)]; exact h2 q q1 q2 (by omega)) (by omega)
        rw [xv_xv] at a3 a5
        exact ⟨e, m', by omega, a2, a3, a4, a5, a6, fun a b z1 z2 => by rw [a7 a b z1 z2, xv_ne z1, xv_ne (by omega)]⟩
    have stop : ∃ e m', j ≤ e ∧ e ≤ n ∧ G_X1_readWord_66 N k c i = G_X1_readWord_66 N k (xv c 2 3 e) i ∧ G_X12_wordHere_99 N N (xv m 5 60 (j - i)) i 0 = G_X12_wordHere_99 N N (xv m' 5 60 (e - i)) i 0 ∧ TP (xv c 2 3 e) m' n e ∧ (∀ q, 0 ≤ q → q < 12 → i + q < e → m' 112 q = bt m' n (i + q)) ∧ ∀ a b, ¬ (a = 0 ∧ b = 4) → a ≠ 112 → m' a b = m a b := by
      refine ⟨j, m, by omega, by omega, by rw [xv_id h.1.2.2.1], rfl, by rw [xv_id h.1.2.2.1]; exact h, h2, fun _ _ _ _ => rfl⟩
    unfold G_X1_readWord_25 G_X12_wordHere_35
    rw [gatEnd h, yb_s, ghere h, yb_s, gletM, yb_s, ghere h, yb_s]
    by_cases hj : j < n
    · rw [if_pos hj, if_pos rfl, gpeek h (by omega), yb_s, Int.add_zero, gletC, yb_s]
      by_cases hl : 97 ≤ bt m n j ∧ bt m n j ≤ 122
      · rw [isl_1 hl, if_neg i10, if_neg i10]
        exact step hj
      · rw [isl_0 hl, if_pos rfl, if_pos rfl, gpeek h (by omega), yb_s, Int.add_zero]
        by_cases c45 : bt m n j = 45
        · rw [if_pos c45, if_pos c45]
          exact step hj
        · rw [if_neg c45, if_neg c45, xlet_q, xlet_q]
          exact stop
    · rw [if_neg hj, if_neg i10, isl_0 (by omega), if_pos rfl, if_neg (by omega), xlet_q, xlet_q]
      exact stop
/-- a word that the lexicon has, both sides -/
theorem wordHS {n i k : Int} (hN : 20000 ≤ N) (hl : LL c m) (h : TP c m n i) (hb : bt m n i ≠ 32) : ∃ r c' r' m', G_X1_readWord N k c = some (r, c') ∧ G_X12_wordHere N m = some (r', m') ∧ (∀ a b, ¬ (a = 2 ∧ (b = 3 ∨ b = 4 ∨ b = 5)) → c' a b = c a b) ∧ (∀ a b, ¬ (a = 0 ∧ (b = 4 ∨ b = 6 ∨ b = 7)) → ¬ (a = 5 ∧ b = 60) → a ≠ 112 → m' a b = m a b) ∧ ((r = r' ∧ 0 ≤ r ∧ ∃ j, TP c' m' n j) ∨ (r = -1 ∧ FT c' m' n)) := by
  have hn := h.2.1
  have t6 := h.1.2.2.2.2.2
  unfold G_X1_readWord G_X12_wordHere G_X12_wordHere_19
  rw [h.1.2.2.1, xlet_q, gpeek h (by omega), yb_s, Int.add_zero, gletC, yb_s, blanks_stay hN h.1.2.1 hn.2.2 h.1.2.2.2.1 hn.1 hb, yb_s, gletM, yb_s]
  by_cases hL : 97 ≤ bt m n i ∧ bt m n i ≤ 122
  · rw [isl_1 hL, if_neg i10, if_neg i10, gfine t6, yb_s, if_neg i10, xlet_q, xlet_q, h.1.2.2.2.1]
    obtain ⟨e, m', a1, a2, a3, a4, T, a6, a7⟩ := word0 (N := N) (k := k) hn.1 N c m i h (by omega) (fun q q1 q2 q3 => by omega) (by omega)
    rw [Int.sub_self] at a4
    rw [a3, a4]
    generalize hmm : xv m' 5 60 (e - i) = mm
    have T' : TP (xv c 2 3 e) mm n e := by rw [← hmm]; exact T.w (by omega)
    have mo : ∀ a b, ¬ (a = 5 ∧ b = 60) → mm a b = m' a b := fun a b z => by rw [← hmm]; exact xv_ne z
    have m60 : mm 5 60 = e - i := by rw [← hmm]; exact xv_eq rfl rfl
    have hl' : LL (xv c 2 3 e) mm := hl.fr2 (fun a b q => xv_ne (by omega)) (fun a b q => by rw [mo a b (by omega), a7 a b (by omega) (by omega)])
    obtain ⟨l1, l2, P, l3, l4⟩ := hl'
    obtain ⟨v, b1, b2⟩ := lookS (N := N) (s := i) (len := e - i) hN l1 l2.2.1 l3 (by omega)
    obtain ⟨u, d1, d2, d3⟩ := wh99 (N := N) (i0 := i) hN l1 N 0 (by omega) (by have := l1.2.1; omega) (fun u q1 q2 => by omega) (by have := l1.2.1; omega)
    have key : ∀ w, 0 ≤ w → w < mm 0 10 → (SPW mm (fun k => mm (52 + 60) k) (mm 5 60) w ↔ SPW mm (fun k => xv c 2 3 e 3 (i + k)) (e - i) w) := fun w w1 w2 => by
      have w5 := (l1.2.2.1 w w1 w2).1
      have eq : ∀ k, 0 ≤ k → k < e - i → k < 12 → mm (52 + 60) k = xv c 2 3 e 3 (i + k) := fun k k1 k2 k3 => by
        rw [show (52 : Int) + 60 = 112 by omega, mo _ _ (by omega), a6 k k1 k3 (by omega)]
        unfold bt
        rw [if_pos (by omega)]
        exact (T.2.2 (i + k) (by omega) (by omega)).1.symm
      unfold SPW
      rw [m60]
      constructor
      · intro z
        exact ⟨z.1, fun k k1 k2 => (z.2 k k1 k2).trans (eq k k1 k2 (by have := z.1; omega))⟩
      · intro z
        exact ⟨z.1, fun k k1 k2 => (z.2 k k1 k2).trans (eq k k1 k2 (by have := z.1; omega)).symm⟩
    have fr : ∀ a b, ¬ (a = 0 ∧ (b = 4 ∨ b = 6 ∨ b = 7)) → ¬ (a = 5 ∧ b = 60) → a ≠ 112 → mm a b = m a b := fun a b z1 z2 z3 => by rw [mo a b z2, a7 a b (by omega) z3]
    unfold G_X1_readWord_66
    rw [xv_eq rfl rfl, wr_in (by omega) (by omega), b1, yb_s, xlet_q, d1]
    unfold G_X12_wordHere_123
    rcases b2 with ⟨v1, v2⟩ | ⟨v1, v2, v3, v4⟩
    · have hu : u = mm 0 10 := by
        rcases d3 with q | q
        · exact q.1
        · exact absurd ((key u d2 q.1).1 q.2) (v2 u d2 q.1)
      rw [if_pos v1, grefuse, yb_s, if_pos hu, gwrong T'.1.2.2.2.2.2, ybv_s, v1]
      refine ⟨_, _, _, _, rfl, rfl, fun a b z => ?_, fun a b z1 z2 z3 => ?_, Or.inr ⟨rfl, FT.w2 T' (by omega)⟩⟩
      · rw [xv_ne (by omega), xv_ne (by omega), xv_ne (by omega)]
      · rw [xv_ne (by omega), xv_ne (by omega)]; exact fr a b z1 z2 z3
    · have hu : u = v ∧ u < mm 0 10 := by
        rcases d3 with q | q
        · exact absurd ((key v v1 v2).2 v3) (q.2 v v1 v2)
        · exact ⟨v4 u d2 q.1 ((key u d2 q.1).1 q.2), q.1⟩
      rw [if_neg (by omega), if_neg (by omega)]
      exact ⟨_, _, _, _, rfl, rfl, fun a b z => xv_ne (by omega), fr, Or.inl ⟨hu.1.symm, v1, e, T'⟩⟩
  · rw [isl_0 hL, if_pos rfl, if_pos rfl, grefuse, yb_s, gwrong t6, ybv_s, gfine0 (by rw [xv_ne (by omega), xv_eq rfl rfl]; omega), yb_s, if_pos rfl, h.1.2.2.2.1]
    refine ⟨_, _, _, _, rfl, rfl, fun a b z => ?_, fun a b z1 z2 z3 => ?_, Or.inr ⟨rfl, FT.w2 h (by omega)⟩⟩
    · rw [xv_ne (by omega), xv_ne (by omega)]
    · rw [xv_ne (by omega), xv_ne (by omega)]
end
