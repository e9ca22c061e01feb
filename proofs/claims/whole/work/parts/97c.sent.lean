/-- the class's number of the r-th choice -/
noncomputable def ph (N : Nat) (m : IH) (t r : Int) : Int := if r < pp N m t then r else 4
noncomputable def gC (N : Nat) (m c : IH) : Int → Int → Int := fun t r => c 86 (t * 5 + ph N m t r)
noncomputable def hC (N : Nat) (m c : IH) : Int → Int → Int := fun t r => if c 87 (t * 5 + ph N m t r) = 4 then pp N m (t + 1) else c 87 (t * 5 + ph N m t r)
/-- a token's choices are weighed -/
def WC (N : Nat) (m c : IH) (t : Int) : Prop := (∀ k, pp N m t ≤ k → k < 4 → c 86 (t * 5 + k) = 1000000) ∧ ∀ r, 0 ≤ r → r ≤ pp N m t → SD N m (m 16 0) (gC N m c) (hC N m c) t r ∧ (t + 1 < m 16 0 → c 87 (t * 5 + ph N m t r) = ph N m (t + 1) (hC N m c t r))
section
variable {N : Nat} {m : IH}
theorem wocS {c : IH} {t k : Int} (hN : 20000 ≤ N) (h : TR c m) (hs : SL c) (hCA : CA N c m) (ht : 0 ≤ t ∧ t < m 16 0) (h1 : c 75 t = 1) (hk : 0 ≤ k ∧ k < 5) : G_X7_wordOfChoice N c t k = some ((if k < pp N m t ∧ k < 4 then (AT N m t) 33 k else -1), c) := by
  unfold G_X7_wordOfChoice
  by_cases c1 : 4 ≤ k
  · rw [if_pos c1, if_neg (by omega)]
  · rw [if_neg c1, insideS h ht (rowAT hN h hs hCA ht h1), yb_s, wi_pn (AT.rb hN h hs ht) (by omega)]
    by_cases c2 : k < pp N m t
    · rw [if_pos (by unfold pp at c2; exact c2), if_pos ⟨c2, by omega⟩]
    · rw [if_neg (by unfold pp at c2; exact c2), if_neg (fun q => c2 q.1)]
theorem cw_eq {t r k : Int} (hp : 0 ≤ pp N m t ∧ pp N m t ≤ 4) (hr : 0 ≤ r ∧ r ≤ pp N m t) (hk : k = ph N m t r) : (if k < pp N m t ∧ k < 4 then (AT N m t) 33 k else -1) = cwd N m t r := by
  unfold ph at hk
  unfold cwd
  by_cases c1 : r < pp N m t
  · rw [if_pos c1] at hk ⊢
    rw [hk, if_pos ⟨c1, by omega⟩]
  · rw [if_neg c1] at hk ⊢
    rw [if_neg (by omega)]
/-- weighed so far: the choices of the next token whose numbers are below n -/
def WI (N : Nat) (m c : IH) (V : Int → Int) (t one x n : Int) : Prop := (n = 0 ∧ c 86 one = 1000000 ∧ c 87 one = 0) ∨ ∃ b, FB V n b ∧ c 86 one = x + V b ∧ c 87 one = ph N m (t + 1) b
theorem weigh94 {t one x wd : Int} {V : Int → Int} (hN : 20000 ≤ N) (ht : 0 ≤ t ∧ t + 1 < m 16 0) (h1' : t * 5 ≤ one ∧ one < t * 5 + 5) (hx : 0 ≤ x ∧ x ≤ 3375) : ∀ (f : Nat) (c : IH) (k : Int), TR c m → SL c → CA N c m → c 75 (t + 1) = 1 → WC N m c (t + 1) → (∀ q, 0 ≤ q → q ≤ pp N m (t + 1) → V q = bt2 m wd (cwd N m (t + 1) q) + gC N m c (t + 1) q) → 0 ≤ k → k ≤ 5 → WI N m c V t one x (if k ≤ pp N m (t + 1) then k else if k ≤ 4 then pp N m (t + 1) else pp N m (t + 1) + 1) → 5 - k < f → ∃ c', G_X7_weighChoice_94 N f c t one wd x k = some c' ∧ WI N m c' V t one x (pp N m (t + 1) + 1) ∧ ∀ a b, ¬ ((a = 86 ∨ a = 87) ∧ b = one) → c' a b = c a b := by
  intro f
  induction f with
  | zero => intro c k h hs hCA h1 h2 h3 h4 h5 h6 h7; omega
  | succ f ih =>
    intro c k h hs hCA h1 h2 h3 h4 h5 h6 h7
    have h40 := h.2.2.2.2.2.1.1
    have hp := pp_rng hN h hs (t := t + 1) (by omega)
    unfold G_X7_weighChoice_94 G_X7_weighChoice_172
    by_cases c1 : 5 ≤ k
    · rw [if_pos c1]
      rw [if_neg (by omega), if_neg (by omega)] at h6
      exact ⟨c, rfl, h6, fun _ _ _ => rfl⟩
    · rw [if_neg c1]
      simp (disch := omega) only [xlet_q, xq_in]
      rw [wr_in (show -2147483648 ≤ t + 1 by omega) (by omega), wocS hN h hs hCA (by omega) h1 (by omega), yb_s, bt2C hN h.2.2.2.2.1 h.2.2.2.2.2.2, yb_s, wr_in (show -2147483648 ≤ k + 1 by omega) (by omega)]
      by_cases cv : k < pp N m (t + 1) ∨ k = 4
      · -- a choice that there is
        obtain ⟨r, r1, r2, r3⟩ : ∃ r, 0 ≤ r ∧ r ≤ pp N m (t + 1) ∧ k = ph N m (t + 1) r := by
          unfold ph
          by_cases c2 : k < pp N m (t + 1)
          · exact ⟨k, h4, by omega, by rw [if_pos c2]⟩
          · exact ⟨pp N m (t + 1), hp.1, by omega, by rw [if_neg (by omega)]; omega⟩
        rw [cw_eq hp ⟨r1, r2⟩ r3]
        have hv := h3 r r1 r2
        have sd := (h2.2 r r1 r2).1.2.2
        have br := bt2_rng (a := wd) (b := cwd N m (t + 1) r) h.2.2.2.2.1 h.2.2.2.2.2.2
        have eg : c 86 ((t + 1) * 5 + k) = gC N m c (t + 1) r := by unfold gC; rw [← r3]
        have n0 : (if k ≤ pp N m (t + 1) then k else if k ≤ 4 then pp N m (t + 1) else pp N m (t + 1) + 1) = r := by
          unfold ph at r3
          by_cases c2 : r < pp N m (t + 1)
          · rw [if_pos c2] at r3; rw [if_pos (by omega)]; exact r3
          · rw [if_neg c2] at r3
            by_cases c3 : k ≤ pp N m (t + 1)
            · rw [if_pos c3]; omega
            · rw [if_neg c3, if_pos (by omega)]; omega
        have n1 : (if k + 1 ≤ pp N m (t + 1) then k + 1 else if k + 1 ≤ 4 then pp N m (t + 1) else pp N m (t + 1) + 1) = r + 1 := by
          unfold ph at r3
          by_cases c2 : r < pp N m (t + 1)
          · rw [if_pos c2] at r3
            by_cases c3 : k + 1 ≤ pp N m (t + 1)
            · rw [if_pos c3]; omega
            · omega
          · rw [if_neg c2] at r3
            rw [if_neg (by omega), if_neg (by omega)]; omega
        rw [n0] at h6
        rw [eg, wr_in (show -2147483648 ≤ x + gC N m c (t + 1) r + bt2 m wd (cwd N m (t + 1) r) by omega) (by omega), if_neg (by omega), show x + gC N m c (t + 1) r + bt2 m wd (cwd N m (t + 1) r) = x + V r by omega]
        have keep : ∀ b, FB V (r + 1) b → c 86 one = x + V b → c 87 one = ph N m (t + 1) b → ∃ c', G_X7_weighChoice_94 N f c t one wd x (k + 1) = some c' ∧ WI N m c' V t one x (pp N m (t + 1) + 1) ∧ ∀ a b, ¬ ((a = 86 ∨ a = 87) ∧ b = one) → c' a b = c a b := by
          intro b p1 p2 p3
          exact ih c (k + 1) h hs hCA h1 h2 h3 (by omega) (by omega) (by rw [n1]; exact Or.inr ⟨b, p1, p2, p3⟩) (by omega)
        have take : FB V (r + 1) r → ∃ c', G_X7_weighChoice_94 N f (xv (xv c 86 one (x + V r)) 87 one k) t one wd x (k + 1) = some c' ∧ WI N m c' V t one x (pp N m (t + 1) + 1) ∧ ∀ a b, ¬ ((a = 86 ∨ a = 87) ∧ b = one) → c' a b = c a b := by
          intro p1
          have co : ∀ a b, ¬ ((a = 86 ∨ a = 87) ∧ b = one) → xv (xv c 86 one (x + V r)) 87 one k a b = c a b := fun a b q => by rw [xv_ne (by omega), xv_ne (by omega)]
          have pb : ∀ s q, 0 ≤ s → s ≤ 39 → 0 ≤ q → 0 ≤ ph N m s q ∧ ph N m s q ≤ 4 ∨ 4 < q := fun s q a b d => by
            unfold ph
            by_cases cc : q < pp N m s
            · rw [if_pos cc]; omega
            · rw [if_neg cc]; omega
          have gS : ∀ s q, t + 1 ≤ s → 0 ≤ q → q ≤ 4 → gC N m (xv (xv c 86 one (x + V r)) 87 one k) s q = gC N m c s q := fun s q a b d => by
            unfold gC
            have : 0 ≤ ph N m s q ∧ ph N m s q ≤ 4 := by
              unfold ph
              by_cases cc : q < pp N m s
              · rw [if_pos cc]; omega
              · rw [if_neg cc]; omega
            exact co _ _ (by omega)
          have c87 : ∀ s q, t + 1 ≤ s → 0 ≤ q → q ≤ 4 → xv (xv c 86 one (x + V r)) 87 one k 87 (s * 5 + ph N m s q) = c 87 (s * 5 + ph N m s q) := fun s q a b d => by
            have : 0 ≤ ph N m s q ∧ ph N m s q ≤ 4 := by
              unfold ph
              by_cases cc : q < pp N m s
              · rw [if_pos cc]; omega
              · rw [if_neg cc]; omega
            exact co _ _ (by omega)
          have hS : ∀ s q, t + 1 ≤ s → 0 ≤ q → q ≤ 4 → hC N m (xv (xv c 86 one (x + V r)) 87 one k) s q = hC N m c s q := fun s q a b d => by
            unfold hC
            rw [c87 s q a b d]
          obtain ⟨c', g1, g2, g3⟩ := ih (xv (xv c 86 one (x + V r)) 87 one k) (k + 1) (h.pr (fun a b q => co a b (by omega)) TM.rf) (hs.cv (fun a b q1 q2 => co a b (by omega))) (hCA.cv (fun a b q1 q2 => co a b (by omega))) (by rw [co _ _ (by omega)]; exact h1) ⟨fun k' q1 q2 => by rw [co _ _ (by omega)]; exact h2.1 k' q1 q2, fun r' q1 q2 => by
              obtain ⟨s1, s2⟩ := h2.2 r' q1 q2
              have hp2 : t + 1 + 1 < m 16 0 → pp N m (t + 1 + 1) ≤ 4 := fun z => (pp_rng hN h hs (t := t + 1 + 1) (by omega)).2
              unfold SD at *
              rw [gS (t + 1) r' (by omega) q1 (by omega), hS (t + 1) r' (by omega) q1 (by omega), c87 (t + 1) r' (by omega) q1 (by omega)]
              refine ⟨⟨s1.1, fun z => ?_, s1.2.2⟩, s2⟩
              have f1 := (s1.2.1 z).1
              have hz := hp2 z
              have vS : ∀ p, 0 ≤ p → p ≤ 4 → VV N m (gC N m (xv (xv c 86 one (x + V r)) 87 one k)) (t + 1) r' p = VV N m (gC N m c) (t + 1) r' p := fun p y1 y2 => by unfold VV; rw [gS (t + 1 + 1) p (by omega) y1 y2]
              exact ⟨f1.cg (fun p y1 y2 => vS p y1 (by omega)), by rw [vS _ f1.1 (by have := f1.2.1; omega)]; exact (s1.2.1 z).2⟩⟩ (fun q q1 q2 => by rw [gS (t + 1) q (by omega) q1 (by omega)]; exact h3 q q1 q2) (by omega) (by omega) (by
              rw [n1]
              exact Or.inr ⟨r, p1, by rw [xv_ne (by omega), xv_eq rfl rfl], by rw [xv_eq rfl rfl]; exact r3⟩) (by omega)
          exact ⟨c', g1, g2, fun a b q => by rw [g3 a b q, co a b q]⟩
        rcases h6 with ⟨z1, z2, z3⟩ | ⟨b, z1, z2, z3⟩
        · rw [z2, if_neg (by omega)]
          exact take ⟨r1, by omega, fun q a b => by omega, fun q a b => by rw [show q = r by omega]; exact Int.le_refl _⟩
        · rw [z2]
          by_cases cz : x + V b ≤ x + V r
          · rw [if_pos cz]
            exact keep b (z1.step.2 (by omega)) z2 z3
          · rw [if_neg cz]
            exact take (z1.step.1 (by omega))
      · -- none such
        rw [h2.1 k (by omega) (by omega), if_pos (Int.le_refl _)]
        refine ih c (k + 1) h hs hCA h1 h2 h3 (by omega) (by omega) ?_ (by omega)
        have e1 : (if k ≤ pp N m (t + 1) then k else if k ≤ 4 then pp N m (t + 1) else pp N m (t + 1) + 1) = pp N m (t + 1) := by
          by_cases c2 : k ≤ pp N m (t + 1)
          · rw [if_pos c2]; omega
          · rw [if_neg c2, if_pos (by omega)]
        have e2 : (if k + 1 ≤ pp N m (t + 1) then k + 1 else if k + 1 ≤ 4 then pp N m (t + 1) else pp N m (t + 1) + 1) = pp N m (t + 1) := by
          rw [if_neg (by omega), if_pos (by omega)]
        rw [e2]
        rw [e1] at h6
        exact h6
end
