/-- a shape stands on both sides -/
def SHE (c m : IH) (k S : Int) : Prop := (c (k + 1) S = m (177 + S) 0 ∧ 1 ≤ m (177 + S) 0 ∧ m (177 + S) 0 ≤ 99) ∧ (c (k + 2) S = m (177 + S) 1 ∧ 1 ≤ m (177 + S) 1 ∧ m (177 + S) 1 ≤ 3) ∧ (c (k + 3) S = m (177 + S) 2 ∧ 1 ≤ m (177 + S) 2 ∧ m (177 + S) 2 ≤ 3) ∧ (∀ q, 0 ≤ q → q < m (177 + S) 1 → c (k + 4) (S * 3 + q) = m (135 + S) q ∧ isLt (m (135 + S) q)) ∧ ∀ q, 0 ≤ q → q < m (177 + S) 2 → c (k + 5) (S * 3 + q) = m (135 + S) (3 + q) ∧ isLt (m (135 + S) (3 + q))
def FRc (c c' : IH) (k S : Int) : Prop := ∀ a b, ¬ (a = 2 ∧ (b = 3 ∨ b = 4 ∨ b = 5)) → ¬ (a = k ∧ b = 0) → ¬ ((k + 1 ≤ a ∧ a ≤ k + 3) ∧ b = S) → ¬ ((a = k + 4 ∨ a = k + 5) ∧ S * 3 ≤ b ∧ b < S * 3 + 3) → c' a b = c a b
def FRm (m m' : IH) (S : Int) : Prop := ∀ a b, ¬ (a = 0 ∧ (b = 4 ∨ b = 6 ∨ b = 7)) → ¬ (a = 135 + S) → ¬ (a = 177 + S) → m' a b = m a b
/-- the class's rest of an entry, from the sign = on -/
def rstE (N : Nat) (k : Int) (a75 : IH) : Option (Int × IH) := xlet (xv a75 2 3 (wr ((a75 2 3) + 1))) (fun a100 => ybv (G_X9_skipBlanks N a100) (fun a104 => xlet (a104 2 3) (fun v2_111 => yb (G_X8_readPart N k (k + 5) a104) (fun r126 a126 => xq (a104 k 0) 20 (xlet (xv a126 (k + 3) (a104 k 0) r126) (fun a129 => xq (a129 k 0) 20 (if (a129 (k + 3) (a129 k 0)) = (-1) then some (0, a129) else yb (G_X8_partsAlike N k a129) (fun r146 a146 => if r146 = 0 then yb (G_X9_readEnding N a146 5 1) (fun r170 a170 => xq (a146 k 0) 20 (xlet (xv a170 (k + 1) (a146 k 0) r170) (fun a173 => xq (a173 k 0) 20 (if (a173 (k + 1) (a173 k 0)) = (-1) then some (0, a173) else xlet (xv a173 k 0 (wr ((a173 k 0) + 1))) (fun a196 => some (1, a196)))))) else yb (G_X9_refuse N a146 1 v2_111) (fun r155 a155 => ybo r155 (some (r155, a155)))))))))))
section
variable {N : Nat} {c m : IH}
theorem entry1 {n i k S : Int} (hN : 20000 ≤ N) (hk : k = 19 ∨ k = 25) (hS : 0 ≤ S ∧ S < 20) (h : TP c m n i) (hl : 97 ≤ bt m n i ∧ bt m n i ≤ 122) (hc : c k 0 = S) : ∃ c1 m1, FRc c c1 k S ∧ FRm m m1 S ∧ ((∃ m2, G_X8_readEntry N k c = some (0, c1) ∧ G_X12_readsShape N m S = some m2 ∧ m2 = xv m1 0 4 (wr (m1 0 4 + 1)) ∧ c1 2 4 = m1 0 6 ∧ c1 2 5 = m1 0 7 ∧ 1 ≤ m1 0 6 ∧ m1 0 6 ≤ 5) ∨ (∃ j L1, i ≤ j ∧ j < n ∧ TP c1 m1 n j ∧ bt m1 n j = 61 ∧ c1 (k + 2) S = L1 ∧ m1 (177 + S) 1 = L1 ∧ (1 ≤ L1 ∧ L1 ≤ 3) ∧ (∀ q, 0 ≤ q → q < L1 → c1 (k + 4) (S * 3 + q) = m1 (135 + S) q ∧ isLt (m1 (135 + S) q)) ∧ c1 k 0 = S ∧ G_X12_readsShape N m S = G_X12_readsShape_52 N m1 (135 + S) (177 + S) ∧ G_X8_readEntry N k c = rstE N k c1)) := by
  obtain ⟨p, e1, q, e2, P1, P2, P3, P4, P5⟩ := partS (N := N) (w2 := k + 4) (x1 := 135 + S) (fr := 0) hN hS hk (Or.inl rfl) (by omega) (Or.inl rfl) h (by omega) hc
  obtain ⟨p1, c1⟩ := p
  obtain ⟨q1, m1⟩ := q
  simp only at P1 P2 P3 P4 P5
  have x7 : (115 : Int) + (1 * 20 + S) = 135 + S := by omega
  have x16 : (157 : Int) + (1 * 20 + S) = 177 + S := by omega
  have ck : c1 k 0 = S := by rw [P1 _ _ (by omega) (by omega)]; exact hc
  have fc : ∀ v, FRc c (xv c1 (k + 2) S v) k S := fun v a b z1 z2 z3 z4 => by rw [xv_ne (by omega), P1 a b z1 (by omega)]
  have fm : ∀ v, FRm m (xv m1 (177 + S) 1 v) S := fun v a b z1 z2 z3 => by rw [xv_ne (by omega), P2 a b z1 (by omega)]
  rcases P5 with ⟨g1, g2, ⟨j, g3, g4⟩, g5⟩ | ⟨g1, g2⟩
  · have T2 := (g4.wc (k := k + 2) (a := S) (v := q1) (by omega)).w (k := 177 + S) (a := 1) (v := q1) (by omega)
    have hr := T2.rng (j := j) T2.2.1.1
    have l3 : m1 0 6 = 0 := g4.1.2.2.2.2.2
    have t6 : xv m1 (177 + S) 1 q1 0 6 = 0 := by rw [xv_ne (by omega)]; exact l3
    have mid : G_X12_readsShape N m S = if bt (xv m1 (177 + S) 1 q1) n j = 61 then G_X12_readsShape_52 N (xv m1 (177 + S) 1 q1) (135 + S) (177 + S) else ybv (G_X12_wrong N (xv m1 (177 + S) 1 q1) 1 (xv m1 (177 + S) 1 q1 0 4)) (fun a => G_X12_readsShape_52 N a (135 + S) (177 + S)) := by
      unfold G_X12_readsShape
      simp only [x7, x16]
      rw [xq_in hS.1 hS.2, xlet_q, xq_in hS.1 hS.2, xlet_q, e2, yb_s, xlet_q, gfine t6, yb_s, if_neg i10, ghere T2, yb_s]
    by_cases c61 : bt (xv m1 (177 + S) 1 q1) n j = 61
    · rw [if_pos c61] at mid
      refine ⟨xv c1 (k + 2) S q1, xv m1 (177 + S) 1 q1, fc _, fm _, Or.inr ⟨j, q1, g3, by omega, T2, c61, xv_eq rfl rfl, xv_eq rfl rfl, by omega, fun a a1 a2 => ?_, by rw [xv_ne (by omega)]; exact ck, mid, ?_⟩⟩
      · rw [xv_ne (by omega), xv_ne (by omega)]
        have := g5 a a1 a2
        rw [Int.zero_add] at this
        exact this
      · unfold G_X8_readEntry
        rw [gpeek h (by omega), yb_s, Int.add_zero, gletC, yb_s, isl_1 hl, if_neg i10, hc, if_pos hS.2, e1, yb_s, xq_in hS.1 hS.2, xlet_q, xv_ne (show ¬ (k = k + 2 ∧ (0 : Int) = S) by omega), ck, xq_in hS.1 hS.2, g1, xv_eq rfl rfl, if_neg (show ¬ q1 = -1 by omega), gpeek T2 (by omega), yb_s, Int.add_zero, if_pos c61]
        rfl
    · rw [if_neg c61, gwrong t6, ybv_s, T2.1.2.2.2.1] at mid
      refine ⟨xv (xv (xv c1 (k + 2) S q1) 2 4 1) 2 5 j, xv (xv (xv m1 (177 + S) 1 q1) 0 6 1) 0 7 j, fun a b z1 z2 z3 z4 => ?_, fun a b z1 z2 z3 => ?_, Or.inl ⟨_, ?_, ?_, rfl, ?_, ?_, ?_, ?_⟩⟩
      · rw [xv_ne (by omega), xv_ne (by omega)]; exact fc q1 a b z1 z2 z3 z4
      · rw [xv_ne (by omega), xv_ne (by omega)]; exact fm q1 a b z1 z2 z3
      · unfold G_X8_readEntry
        rw [gpeek h (by omega), yb_s, Int.add_zero, gletC, yb_s, isl_1 hl, if_neg i10, hc, if_pos hS.2, e1, yb_s, xq_in hS.1 hS.2, xlet_q, xv_ne (show ¬ (k = k + 2 ∧ (0 : Int) = S) by omega), ck, xq_in hS.1 hS.2, g1, xv_eq rfl rfl, if_neg (show ¬ q1 = -1 by omega), gpeek T2 (by omega), yb_s, Int.add_zero, if_neg c61, grefuse, yb_s, T2.1.2.2.1]
        rfl
      · rw [mid, sh52_0 (by rw [xv_ne (by omega), xv_eq rfl rfl]; omega)]
      · rw [xv_ne (by omega), xv_eq rfl rfl, xv_ne (by omega), xv_eq rfl rfl]
      · rw [xv_eq rfl rfl, xv_eq rfl rfl]
      · rw [xv_ne (by omega), xv_eq rfl rfl]; omega
      · rw [xv_ne (by omega), xv_eq rfl rfl]; omega
  · have t6 : xv m1 (177 + S) 1 q1 0 6 = m1 0 6 := xv_ne (by omega)
    refine ⟨xv c1 (k + 2) S (-1), xv m1 (177 + S) 1 q1, fc _, fm _, Or.inl ⟨_, ?_, ?_, rfl, ?_, ?_, ?_, ?_⟩⟩
    · unfold G_X8_readEntry
      rw [gpeek h (by omega), yb_s, Int.add_zero, gletC, yb_s, isl_1 hl, if_neg i10, hc, if_pos hS.2, e1, yb_s, xq_in hS.1 hS.2, xlet_q, xv_ne (show ¬ (k = k + 2 ∧ (0 : Int) = S) by omega), ck, xq_in hS.1 hS.2, g1, xv_eq rfl rfl, if_pos rfl]
    · unfold G_X12_readsShape
      simp only [x7, x16]
      rw [xq_in hS.1 hS.2, xlet_q, xq_in hS.1 hS.2, xlet_q, e2, yb_s, xlet_q, gfine0 (by rw [t6]; have := g2.2.2.1; omega), yb_s, if_pos rfl, sh52_0 (by rw [t6]; have := g2.2.2.1; omega)]
    · rw [xv_ne (by omega), t6]; exact g2.1
    · rw [xv_ne (by omega), xv_ne (by omega)]; exact g2.2.1
    · rw [t6]; exact g2.2.2.1
    · rw [t6]; exact g2.2.2.2.1
end
