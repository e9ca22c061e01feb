section
variable {N : Nat} {c m : IH}
theorem entry2 {n i k S L1 : Int} (hN : 20000 ≤ N) (hk : k = 19 ∨ k = 25) (hS : 0 ≤ S ∧ S < 20) (h : TP c m n i) (hi : i < n) (hc : c k 0 = S) (h2 : c (k + 2) S = L1) (hm1 : m (177 + S) 1 = L1) (hL : 1 ≤ L1 ∧ L1 ≤ 3) (ha : ∀ q, 0 ≤ q → q < L1 → c (k + 4) (S * 3 + q) = m (135 + S) q ∧ isLt (m (135 + S) q)) : ∃ r c' m', rstE N k c = some (r, c') ∧ G_X12_readsShape_52 N m (135 + S) (177 + S) = some m' ∧ FRc c c' k S ∧ FRm m m' S ∧ ((r = 1 ∧ (∃ j, i < j ∧ TP c' m' n j) ∧ c' k 0 = S + 1 ∧ SHE c' m' k S) ∨ (r = 0 ∧ c' 2 4 = m' 0 6 ∧ c' 2 5 = m' 0 7 ∧ 1 ≤ m' 0 6 ∧ m' 0 6 ≤ 5)) := by
  have hb := h.2.1
  unfold rstE G_X12_readsShape_52
  rw [h.1.2.2.1, h.1.2.2.2.1, wr_in (by omega) (by omega), xlet_q, xlet_q]
  have T1 := h.at (j := i + 1) (by omega)
  rw [gfine T1.1.2.2.2.2.2, yb_s, if_neg i10]
  obtain ⟨j, j1, j2, j3, j4, j5, T2⟩ := blanksS (N := N) hN T1
  rw [j4, j5, ybv_s, yb_s, T2.1.2.2.1, T2.1.2.2.2.1, xlet_q, xlet_q]
  rw [xv_xv, xv_xv] at T2 ⊢
  have ck : xv c 2 3 j k 0 = S := by rw [xv_ne (by omega)]; exact hc
  rw [bt_xv (by omega)] at j3
  obtain ⟨p, e1, q, e2, P1, P2, P3, P4, P5⟩ := partS (N := N) (w2 := k + 5) (x1 := 135 + S) (fr := 3) hN hS hk (Or.inr rfl) (by omega) (Or.inr rfl) T2 (by rw [bt_xv (by omega)]; exact j3) ck
  obtain ⟨p1, c3⟩ := p
  obtain ⟨q1, m3⟩ := q
  simp only at P1 P2 P3 P4 P5
  rw [e1, e2, yb_s, yb_s, ck, xq_in hS.1 hS.2, xlet_q, xlet_q]
  have c3k : c3 k 0 = S := by rw [P1 _ _ (by omega) (by omega)]; exact ck
  have k3 : xv c3 (k + 3) S p1 k 0 = S := by rw [xv_ne (by omega)]; exact c3k
  rw [k3, xq_in hS.1 hS.2, xv_eq rfl rfl]
  have x1 : m3 (177 + S) 1 = L1 := by rw [P2 _ _ (by omega) (by omega), xv_ne (by omega)]; exact hm1
  rw [xv_ne (show ¬ ((177 : Int) + S = 177 + S ∧ (1 : Int) = 2) by omega), x1, xv_eq rfl rfl]
  have fc : FRc c (xv c3 (k + 3) S p1) k S := fun a b z1 z2 z3 z4 => by rw [xv_ne (by omega), P1 a b z1 (by omega), xv_ne (by omega)]
  have fm : FRm m (xv m3 (177 + S) 2 q1) S := fun a b z1 z2 z3 => by rw [xv_ne (by omega), P2 a b z1 (by omega), xv_ne (by omega)]
  have x1' : xv m3 (177 + S) 2 q1 (177 + S) 1 = L1 := by rw [xv_ne (by omega)]; exact x1
  rcases P5 with ⟨g1, g2, ⟨j', g3, g4⟩, g5⟩ | ⟨g1, g2⟩
  · subst g1
    have T4 := (g4.wc (k := k + 3) (a := S) (v := p1) (by omega)).w (k := 177 + S) (a := 2) (v := p1) (by omega)
    have hA : ∀ a, 0 ≤ a → a < L1 → xv c3 (k + 3) S p1 (k + 4) (S * 3 + a) = xv m3 (177 + S) 2 p1 (135 + S) a := fun a a1 a2 => by
      rw [xv_ne (by omega), xv_ne (by omega), P1 _ _ (by omega) (by omega), P2 _ _ (by omega) (by omega), xv_ne (by omega), xv_ne (by omega)]; exact (ha a a1 a2).1
    have hB : ∀ a, 0 ≤ a → a < p1 → xv c3 (k + 3) S p1 (k + 5) (S * 3 + a) = xv m3 (177 + S) 2 p1 (135 + S) (3 + a) := fun a a1 a2 => by
      rw [xv_ne (by omega), xv_ne (by omega)]; exact (g5 a a1 a2).1
    obtain ⟨v, v0, v1, v2⟩ := alikeS (N := N) (c := xv c3 (k + 3) S p1) (m := xv m3 (177 + S) 2 p1) (k := k) (S := S) (x2 := 135 + S) (x3 := 177 + S) (v4 := j) (L1 := L1) (L2 := p1) hN hS k3 (by rw [xv_ne (by omega), P1 _ _ (by omega) (by omega), xv_ne (by omega)]; exact h2) (xv_eq rfl rfl) x1' hL hA hB
    have er : (if L1 = p1 then G_X12_readsShape_104 N (xv m3 (177 + S) 2 p1) (135 + S) (177 + S) j 1 else G_X12_readsShape_104 N (xv m3 (177 + S) 2 p1) (135 + S) (177 + S) j 0) = G_X12_readsShape_104 N (xv m3 (177 + S) 2 p1) (135 + S) (177 + S) j (if L1 = p1 then 1 else 0) := by
      by_cases q : L1 = p1
      · rw [if_pos q, if_pos q]
      · rw [if_neg q, if_neg q]
    rw [er, v2, if_neg (show ¬ p1 = -1 by omega), v1, yb_s]
    rcases v0 with e | e
    · rw [if_pos e, if_pos e]
      obtain ⟨p, f1, m', f2, f3⟩ := endP (N := N) hN T4 (x := 177 + S) (by omega)
      rw [f1, f2]
      rcases f3 with ⟨w, l, l1, l2, l3, l4, l5, l6⟩ | ⟨u1, u2, l, l', u, l1, l2, l3, l4, l5, l6⟩
      · rw [l5, l6, yb_s, k3, xq_in hS.1 hS.2, xlet_q]
        have c6k : xv (xv (xv c3 (k + 3) S p1) 2 3 l) (k + 1) S w k 0 = S := by rw [xv_ne (by omega), xv_ne (by omega)]; exact k3
        rw [c6k, xq_in hS.1 hS.2, xv_eq rfl rfl, if_neg (by omega), xlet_q, wr_in (by omega) (by omega)]
        have T5 := ((((T4.w (k := 177 + S) (a := 0) (v := w) (by omega)).at (j := l) (by have := T4.2.1; omega)).wc (k := k + 1) (a := S) (v := w) (by omega)).wc (k := k) (a := 0) (v := S + 1) (by omega))
        refine ⟨1, _, _, rfl, rfl, fun a b z1 z2 z3 z4 => ?_, fun a b z1 z2 z3 => ?_, Or.inl ⟨rfl, ⟨l, by omega, T5⟩, xv_eq rfl rfl, ⟨⟨?_, ?_, ?_⟩, ⟨?_, ?_, ?_⟩, ⟨?_, ?_, ?_⟩, fun a a1 a2 => ?_, fun a a1 a2 => ?_⟩⟩⟩
        · rw [xv_ne (by omega), xv_ne (by omega), xv_ne (by omega)]; exact fc a b z1 z2 z3 z4
        · rw [xv_ne (by omega), xv_ne (by omega)]; exact fm a b z1 z2 z3
        · rw [xv_ne (by omega), xv_eq rfl rfl, xv_ne (by omega), xv_eq rfl rfl]
        · rw [xv_ne (by omega), xv_eq rfl rfl]; exact l1
        · rw [xv_ne (by omega), xv_eq rfl rfl]; exact l2
        · rw [xv_ne (by omega), xv_ne (by omega), xv_ne (by omega), xv_ne (by omega), P1 _ _ (by omega) (by omega), xv_ne (by omega), xv_ne (by omega), xv_ne (by omega), x1', h2]
        · rw [xv_ne (by omega), xv_ne (by omega), x1']; exact hL.1
        · rw [xv_ne (by omega), xv_ne (by omega), x1']; exact hL.2
        · rw [xv_ne (by omega), xv_ne (by omega), xv_ne (by omega), xv_eq rfl rfl, xv_ne (by omega), xv_ne (by omega), xv_eq rfl rfl]
        · rw [xv_ne (by omega), xv_ne (by omega), xv_eq rfl rfl]; exact g2
        · rw [xv_ne (by omega), xv_ne (by omega), xv_eq rfl rfl]; exact P4
        · rw [xv_ne (by omega), xv_ne (by omega), x1'] at a2
          rw [xv_ne (by omega), xv_ne (by omega), xv_ne (by omega), xv_ne (show ¬ ((135 : Int) + S = 0 ∧ a = 4) by omega), xv_ne (show ¬ ((135 : Int) + S = 177 + S ∧ a = 0) by omega), hA a a1 a2]
          refine ⟨rfl, ?_⟩
          rw [xv_ne (by omega), P2 _ _ (by omega) (by omega), xv_ne (by omega)]
          exact (ha a a1 a2).2
        · rw [xv_ne (by omega), xv_ne (by omega), xv_eq rfl rfl] at a2
          rw [xv_ne (by omega), xv_ne (by omega), xv_ne (by omega), xv_ne (show ¬ ((135 : Int) + S = 0 ∧ 3 + a = 4) by omega), xv_ne (show ¬ ((135 : Int) + S = 177 + S ∧ 3 + a = 0) by omega), hB a a1 a2]
          refine ⟨rfl, ?_⟩
          rw [xv_ne (by omega)]
          exact (g5 a a1 a2).2
      · rw [l5, l6, yb_s, k3, xq_in hS.1 hS.2, xlet_q]
        unfold flc flm
        have c6k : xv (xv (xv (xv (xv c3 (k + 3) S p1) 2 3 l) 2 4 u1) 2 5 u2) (k + 1) S (-1) k 0 = S := by rw [xv_ne (by omega), xv_ne (by omega), xv_ne (by omega), xv_ne (by omega)]; exact k3
        rw [c6k, xq_in hS.1 hS.2, xv_eq rfl rfl, if_pos rfl]
        refine ⟨0, _, _, rfl, rfl, fun a b z1 z2 z3 z4 => ?_, fun a b z1 z2 z3 => ?_, Or.inr ⟨rfl, ?_, ?_, ?_, ?_⟩⟩
        · rw [xv_ne (by omega), xv_ne (by omega), xv_ne (by omega), xv_ne (by omega)]; exact fc a b z1 z2 z3 z4
        · rw [xv_ne (by omega), xv_ne (by omega), xv_ne (by omega), xv_ne (by omega)]; exact fm a b z1 z2 z3
        · rw [xv_ne (by omega), xv_ne (by omega), xv_eq rfl rfl, xv_ne (by omega), xv_eq rfl rfl]
        · rw [xv_ne (by omega), xv_eq rfl rfl, xv_eq rfl rfl]
        · rw [xv_ne (by omega), xv_eq rfl rfl]; exact l1
        · rw [xv_ne (by omega), xv_eq rfl rfl]; exact l2
    · rw [if_neg (by omega), if_neg (by omega), gwrong T4.1.2.2.2.2.2, ybv_s, sh158_0 (by omega) (by rw [xv_ne (by omega), xv_eq rfl rfl]; omega), grefuse, yb_s]
      refine ⟨0, _, _, rfl, rfl, fun a b z1 z2 z3 z4 => ?_, fun a b z1 z2 z3 => ?_, Or.inr ⟨rfl, ?_, ?_, ?_, ?_⟩⟩
      · rw [xv_ne (by omega), xv_ne (by omega)]; exact fc a b z1 z2 z3 z4
      · rw [xv_ne (by omega), xv_ne (by omega), xv_ne (by omega)]; exact fm a b z1 z2 z3
      · rw [xv_ne (by omega), xv_eq rfl rfl, xv_ne (by omega), xv_ne (by omega), xv_eq rfl rfl]
      · rw [xv_eq rfl rfl, xv_ne (by omega), xv_eq rfl rfl]
      · rw [xv_ne (by omega), xv_ne (by omega), xv_eq rfl rfl]; omega
      · rw [xv_ne (by omega), xv_ne (by omega), xv_eq rfl rfl]; omega
  · have f6 : xv m3 (177 + S) 2 q1 0 6 ≠ 0 := by rw [xv_ne (by omega)]; have := g2.2.2.1; omega
    have er : (if L1 = q1 then G_X12_readsShape_104 N (xv m3 (177 + S) 2 q1) (135 + S) (177 + S) j 1 else G_X12_readsShape_104 N (xv m3 (177 + S) 2 q1) (135 + S) (177 + S) j 0) = some (xv (xv m3 (177 + S) 2 q1) (177 + S) 0 5) := by
      unfold G_X12_readsShape_104
      simp only [xlet_q]
      rw [sh109_0 (by omega) f6 x1' hL.2 N 1 0 (Or.inr rfl) (by omega) (Or.inr rfl) (by omega) (by omega), sh109_0 (by omega) f6 x1' hL.2 N 0 0 (Or.inl rfl) (by omega) (Or.inr rfl) (by omega) (by omega)]
      by_cases q : L1 = q1
      · rw [if_pos q]
      · rw [if_neg q]
    rw [er, if_pos g1]
    refine ⟨0, _, _, rfl, rfl, fc, fun a b z1 z2 z3 => by rw [xv_ne (by omega)]; exact fm a b z1 z2 z3, Or.inr ⟨rfl, ?_, ?_, ?_, ?_⟩⟩
    · rw [xv_ne (by omega), xv_ne (by omega), xv_ne (by omega)]; exact g2.1
    · rw [xv_ne (by omega), xv_ne (by omega), xv_ne (by omega)]; exact g2.2.1
    · rw [xv_ne (by omega), xv_ne (by omega)]; exact g2.2.2.1
    · rw [xv_ne (by omega), xv_ne (by omega)]; exact g2.2.2.2.1
end
