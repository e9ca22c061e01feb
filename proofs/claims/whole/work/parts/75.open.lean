theorem EI.skip {m : IH} {L Lb j0 x0 e0 : Int} (h : EI m L Lb (j0 * 721 + x0) e0) (hj : 0 ≤ j0) (hn : m 0 15 ≤ 721) (hx : 0 ≤ x0 ∧ x0 < m 0 15) (hw : wt m j0 e0 x0 = -1) : EI m L Lb (j0 * 721 + x0) (e0 + 1) := by
  obtain ⟨h1, h2, h3, h4⟩ := h
  refine ⟨h1, h2, fun j x e a1 a2 a3 a4 a5 a6 a7 a8 => ?_, h4⟩
  by_cases c1 : j * 721 + x = j0 * 721 + x0 ∧ e = e0
  · obtain ⟨c1, c2⟩ := c1
    have e1 : j = j0 := by omega
    have e2 : x = x0 := by omega
    subst e1; subst e2; subst c2
    exact fun q => absurd hw q
  · exact h3 j x e a1 a2 a3 a4 a5 a6 a7 (fun q => by have := a8 q; omega)
theorem EI.done {m : IH} {L Lb j0 x0 e0 : Int} (h : EI m L Lb (j0 * 721 + x0) e0) (hn : m 0 15 ≤ 721) (hx : 0 ≤ x0 ∧ x0 < m 0 15) (he : j0 < L → m 25 j0 ≤ e0) : EI m L Lb (-1) 0 := by
  obtain ⟨h1, h2, h3, h4⟩ := h
  refine ⟨h1, h2, fun j x e a1 a2 a3 a4 a5 a6 a7 a8 => ?_, h4⟩
  refine h3 j x e a1 a2 a3 a4 a5 a6 a7 (fun q => ?_)
  have e1 : j = j0 := by omega
  subst e1
  have := he a2
  omega
section
variable {N : Nat} {L i Lb j x : Int}
theorem edges0 (hN : 20000 ≤ N) (hj : 0 ≤ j ∧ j ≤ L) : ∀ (f : Nat) (c m : IH) (n e : Int), ST c m L → SQ c m L n i (-1) → EI m L Lb (j * 721 + x) e → EA m L Lb (-1) → m 30 (j * 721 + x) = 2 → Lb = bnd m (j * 721 + x) → 0 < m 0 10 → 0 ≤ x → x < m 0 15 → 0 ≤ e → (j < L → e ≤ m 25 j) → (j = L → e = 0) → 27 - e < f → ∃ c' m' n', G_X6_open_115 N f c j x (m 29 (j * 721 + x)) (c 59 j + e) = some c' ∧ G_X12_opens_115 N f m (j * 721 + x) j x e = some m' ∧ ST c' m' L ∧ SQ c' m' L n' i (-1) ∧ EI m' L Lb (-1) 0 ∧ EA m' L Lb (-1) ∧ DM m m' ∧ (∀ a b, a < 67 ∨ 73 < a → c' a b = c a b) := by
  intro f
  induction f with
  | zero =>
    intro c m n e hS hQ hE hA h1 h2 h0 h3 h4 h5 h6 h7 h8
    exfalso
    by_cases cj : j < L
    · have a := (hS.1.2.2.1 j hj.1 cj).1
      have b := (hS.1.2.2.1 j hj.1 cj).2.1
      have := h6 cj
      omega
    · have := h7 (by omega); omega
  | succ f ih =>
    intro c m n e hS hQ hE hA h1 h2 h0 h3 h4 h5 h6 h7 h8
    have hN1 := hS.1
    have hL := hN1.1
    have hLX := hS.2.1
    have hn := hLX.1.1
    unfold G_X6_open_115 G_X12_opens_115
    rw [hN1.2.1.2.1]
    (try simp (disch := omega) only [xlet_q, xq_in])
    by_cases cj : j < L
    · have hpl := hN1.2.2.1 j hj.1 cj
      have h25 : m 25 j = c 59 (j + 1) - c 59 j := hpl.2.1
      rw [if_neg (show ¬ L ≤ j by omega)]
      by_cases ce : m 25 j ≤ e
      · rw [if_pos (by omega), if_pos ce]
        exact ⟨c, m, n, rfl, rfl, hS, hQ, hE.done hn.2 ⟨h3, h4⟩ (fun _ => ce), hA, DM.rf, fun _ _ _ => rfl⟩
      · rw [if_neg (by omega), if_neg ce]
        obtain ⟨t1, t2, t3, t4, t5, t6, t7, t8, t9⟩ := hpl.2.2 e h5 (by omega)
        have hw0 : G_X6_walk N c x (c 59 j + e) = some (wt m j e x, c) := by
          unfold G_X6_walk
          rw [xlet_q, xlet_q, walkC (y := 2423 + (j * 60 + e)) hN hLX.1 hS.2.2.2.1 (by omega) t4 t8 t9 N 0 x (by omega) (by omega) (Or.inr ⟨h3, h4⟩) (by omega), Int.sub_zero]
          rfl
        rw [hw0, yb_s]
        (try simp (disch := omega) only [xlet_q, xq_in])
        rw [walkM hN hLX.1 t8 N 0 x (by omega) (by omega) (Or.inr ⟨h3, h4⟩) (by omega), Int.sub_zero]
        rw [show wk m (2423 + (j * 60 + e)) (m (2423 + (j * 60 + e)) 2).toNat 0 x = wt m j e x from rfl]
        unfold G_X12_opens_188 G_X6_open_210 G_X12_opens_220
        by_cases cw : wt m j e x = -1
        · rw [if_pos cw, if_pos cw]
          (try simp (disch := omega) only [xlet_q, xq_in])
          rw [wr_in (show -2147483648 ≤ c 59 j + e + 1 by omega) (by omega), wr_in (show -2147483648 ≤ e + 1 by omega) (by omega), Int.add_assoc (c 59 j) e 1]
          exact ih c m n (e + 1) hS hQ (hE.skip hj.1 hn.2 ⟨h3, h4⟩ cw) hA h1 h2 h0 h3 h4 (by omega) (fun _ => by omega) (by omega) (by omega)
        · have hwn := wk_node (y := 2423 + (j * 60 + e)) hLX.1 (m (2423 + (j * 60 + e)) 2).toNat 0 x (Or.inr ⟨h3, h4⟩)
          have hwn' : 0 ≤ wt m j e x ∧ wt m j e x < m 0 15 := by
            rcases hwn with q | q
            · exact absurd q cw
            · exact q
          have hle := wk_least (y := 2423 + (j * 60 + e)) hLX.1 (hLX.2.2.2.2.2 h0) (m (2423 + (j * 60 + e)) 2).toNat 0 x (by omega) cw
          have hcb := hQ.2.2.2.2.2.2.2.2.1 j x hj.1 hj.2 h3 h4 (by omega)
          have hrs := hN1.2.2.2.1 (m (2423 + (j * 60 + e)) 0) (by omega) (by omega)
          have hls := hLX.2.2.2.2.1 h0 (wt m j e x) hwn'.1 hwn'.2
          have hc15 := (hS.2.2.2.2.2 (wt m j e x) hwn'.1 hwn'.2).1
          rw [if_neg cw, if_neg cw]
          (try simp (disch := omega) only [xlet_q, xq_in])
          unfold G_X6_itemOf
          rw [t2, t3, yb_s]
          (try simp (disch := omega) only [xlet_q, xq_in])
          rw [hrs.1, hc15, wr_in (show -2147483648 ≤ m 29 (j * 721 + x) + m (2423 + (j * 60 + e)) 1 by omega) (by omega), wr_in (show -2147483648 ≤ m (2423 + (j * 60 + e)) 0 * 721 + wt m j e x by omega) (by omega), wr_in (show -2147483648 ≤ 60 + (24 - m (2423 + (j * 60 + e)) 0) * 721 + wt m j e x by omega) (by omega), wr_in (show -2147483648 ≤ m 29 (j * 721 + x) + m (2423 + (j * 60 + e)) 1 + m 26 (m (2423 + (j * 60 + e)) 0) + m 11 (wt m j e x) by omega) (by omega)]
          obtain ⟨c1, m1, n1, g1, g2, g3, g4, g5⟩ := putS (N := N) (j := m (2423 + (j * 60 + e)) 0) (x := wt m j e x) (v := m 29 (j * 721 + x) + m (2423 + (j * 60 + e)) 1) hN hQ hL hn.2 hLX.2.1.2 (by omega) hwn' (by omega) (by omega) (by omega)
          rw [g1, g2, ybv_s, ybv_s]
          rw [wr_in (show -2147483648 ≤ c 59 j + e + 1 by omega) (by omega), wr_in (show -2147483648 ≤ e + 1 by omega) (by omega), Int.add_assoc (c 59 j) e 1]
          have hdm := g4.dm
          have hS1 := hS.pr g5 hdm
          have hti := hN1.2.2.2.2 j hj.1 cj e h5 (by omega)
          have hE1 := hE.wf hL.2 hn.2 ⟨hj.1, cj⟩ ⟨h3, h4⟩ ⟨h5, by omega⟩ h1 h2 t6 hwn' hti hle g4
          have hA1 := hA.wf g4
          have ne : j * 721 + x ≠ m (2423 + (j * 60 + e)) 0 * 721 + wt m j e x := by omega
          have m29 : m1 29 (j * 721 + x) = m 29 (j * 721 + x) := by
            rcases g4 with ⟨_, q⟩ | ⟨_, _, q⟩ | ⟨_, _, _, q⟩
            · rw [q]
            · rw [q]
            · exact q _ _ (by omega) (by omega) (by omega) (by omega)
          have m30 : m1 30 (j * 721 + x) = m 30 (j * 721 + x) := by
            rcases g4 with ⟨_, q⟩ | ⟨_, _, q⟩ | ⟨_, _, _, q⟩
            · rw [q]
            · rw [q]
            · exact q _ _ (by omega) (by omega) (by omega) (by omega)
          have m15 : m1 0 15 = m 0 15 := hdm _ _ (by omega) (by omega)
          have m25 : m1 25 j = m 25 j := hdm _ _ (by omega) (by omega)
          have hb : bnd m1 (j * 721 + x) = bnd m (j * 721 + x) := by
            unfold bnd
            rw [m29, hdm 26 _ (by omega) (by omega), hdm 11 _ (by omega) (by omega)]
          have := ih c1 m1 n1 (e + 1) hS1 g3 hE1 hA1 (by omega) (by omega) (by rw [hdm _ _ (by omega) (by omega)]; exact h0) h3 (by omega) (by omega) (fun _ => by omega) (by omega) (by omega)
          rw [m29, g5 59 j (by omega)] at this
          obtain ⟨c2, m2, n2, k1, k2, k3, k4, k5, k6, k7, k8⟩ := this
          exact ⟨c2, m2, n2, k1, k2, k3, k4, k5, k6, hdm.tr k7, fun a b q => by rw [k8 a b q, g5 a b q]⟩
    · have cj' : j = L := by omega
      have he := h7 cj'
      rw [if_pos (show L ≤ j by omega), if_pos (by rw [cj', he]; have := hN1.2.1.2.2.2.1; omega)]
      exact ⟨c, m, n, rfl, rfl, hS, hQ, hE.done hn.2 ⟨h3, h4⟩ (fun q => absurd q cj), hA, DM.rf, fun _ _ _ => rfl⟩
end
