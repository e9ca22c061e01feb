section
variable {N : Nat} {L most : Int}
theorem run0 (hN : 20000 ≤ N) (hm : most ≤ 60) : ∀ (f : Nat) (c m : IH) (n i Lb : Int), ST c m L → SQ c m L n i (-1) → EI m L Lb (-1) 0 → EA m L Lb (-1) → 0 < m 0 10 → 18086 - i < f → ∃ c' m' n' i' Lb', G_X6_run_46 N f c most i = some c' ∧ G_X12_searches_80 N f m most = some m' ∧ ST c' m' L ∧ SQ c' m' L n' i' (-1) ∧ EI m' L Lb' (-1) 0 ∧ EA m' L Lb' (-1) ∧ (n' = 0 ∨ most ≤ m' 0 49) ∧ DM m m' ∧ (∀ a b, a < 67 ∨ 73 < a → c' a b = c a b) := by
  intro f
  induction f with
  | zero =>
    intro c m n i Lb hS hQ hE hA h0 hf
    have := hQ.2.1.2
    have := hQ.2.1.1.1
    have := hQ.1.1.1
    omega
  | succ f ih =>
    intro c m n i Lb hS hQ hE hA h0 hf
    have hL := hS.1.1
    have hn := hS.2.1.1.1
    have hW := hS.2.1.2.1
    have a1 := hQ.2.1.2
    have a2 := hQ.2.1.1.1
    have a3 := hQ.1.1.1
    have a7 := hQ.1.2
    have f2 := hQ.2.2.2.2.2.2.2.1
    unfold G_X6_run_46 G_X12_searches_80
    by_cases c1 : most ≤ m 0 49
    · rw [if_pos c1]
      have e : (if 18085 ≤ i then some c else if c 67 7 ≤ 0 then some c else if most ≤ c 67 2 then some c else yb (G_X6_takeLeast N c) (fun r69 a69 => xlet r69 (fun v3_72 => xlet (yand v3_72 32767) (fun v4_78 => if 60 ≤ v4_78 then ybv (G_X6_open N a69 v4_78 (yshr v3_72 (yand 15 31))) (fun a107 => G_X6_run_110 N (G_X6_run_46 N f) a107 most i) else ybv (G_X6_note N a69 v4_78 (yshr v3_72 (yand 15 31))) (fun a94 => G_X6_run_110 N (G_X6_run_46 N f) a94 most i))))) = some c := by
        by_cases d1 : 18085 ≤ i
        · rw [if_pos d1]
        · rw [if_neg d1]
          by_cases d2 : c 67 7 ≤ 0
          · rw [if_pos d2]
          · rw [if_neg d2, if_pos (by rw [f2.1]; exact c1)]
      exact ⟨c, m, n, i, Lb, e, rfl, hS, hQ, hE, hA, Or.inr c1, DM.rf, fun _ _ _ => rfl⟩
    · rw [if_neg c1]
      obtain ⟨ra, ea, ga⟩ := answerS (N := N) (m := m) hN hW
      obtain ⟨rs, es, gs⟩ := firstS (N := N) (m := m) hN hQ.2.2.2.2.2.1.1 (hQ.okw hS h0)
      rw [ea, yb_s, es]
      simp only [xlet_q, yb_s]
      by_cases c2 : n = 0
      · subst c2
        obtain ⟨z1, z2⟩ := hQ.none hL.2
        have era : ra = -1 := by
          rcases ga with ga | ga
          · exact ga.1
          · have := z2 ra ga.1 ga.2.1 hW.2; omega
        have ers : rs = -1 := by
          rcases gs with gs | gs
          · exact gs.1
          · omega
        rw [if_pos era, if_pos ers]
        have e : (if 18085 ≤ i then some c else if c 67 7 ≤ 0 then some c else if most ≤ c 67 2 then some c else yb (G_X6_takeLeast N c) (fun r69 a69 => if 60 ≤ yand r69 32767 then ybv (G_X6_open N a69 (yand r69 32767) (yshr r69 (yand 15 31))) (fun a107 => G_X6_run_110 N (G_X6_run_46 N f) a107 most i) else ybv (G_X6_note N a69 (yand r69 32767) (yshr r69 (yand 15 31))) (fun a94 => G_X6_run_110 N (G_X6_run_46 N f) a94 most i))) = some c := by
          by_cases d1 : 18085 ≤ i
          · rw [if_pos d1]
          · rw [if_neg d1, if_pos (by omega)]
        exact ⟨c, m, 0, i, Lb, e, rfl, hS, hQ, hE, hA, Or.inl rfl, DM.rf, fun _ _ _ => rfl⟩
      · rw [if_neg (by omega), if_neg (by omega), if_neg (by rw [f2.1]; exact c1)]
        have i1 : i < 18085 := by omega
        have n1 : 1 ≤ n := by omega
        have t60 : m 0 49 < 60 := by omega
        have hroot := hQ.root0 hL.2 hn.2 (by omega)
        have r0 := hQ.1.1.2.1 0 (by omega) (by omega)
        have root := fun p p1 p2 => HPz.root hQ.1.1 18085 p p1 p2 (by omega)
        have hne : ¬ (ra = -1 ∧ rs = -1) := by
          intro q
          rcases hroot with h | ⟨s, h1, h2, h3, h4, h5, h6⟩
          · rcases ga with ga | ga
            · have := ga.2 _ h.1 h.2.1; omega
            · omega
          · obtain ⟨k, k1, k2, k3⟩ := hQ.2.2.2.2.2.1.2.2.2 s h2 h3 h4 h5
            rcases gs with gs | gs <;> omega
        have red : ∀ k : Option IH, (if ra = -1 then if rs = -1 then some m else k else k) = k := by
          intro k
          by_cases d1 : ra = -1
          · rw [if_pos d1, if_neg (fun q => hne ⟨d1, q⟩)]
          · rw [if_neg d1]
        rw [red]
        -- the key of an answer, of a state
        have keyA : 0 ≤ ra → ra < m 0 10 → 0 ≤ m 32 ra → c 71 0 ≤ m 32 ra * 32768 + ra := by
          intro p1 p2 p3
          have sv := (hQ.2.2.2.2.1 ra p1 p2).1
          have b3 := hQ.1.1.2.2.1 ra p1 (by omega) (by omega)
          have b4 := (b3.2.2 (by omega)).1
          rw [Kf_w (by omega)] at b4
          have := root (c 72 ra - 1) (by omega) (by omega)
          omega
        have keyS : 0 ≤ rs → rs < m 0 42 → c 71 0 ≤ ks m (m 31 rs) := by
          intro p1 p2
          have ww := hQ.2.2.2.2.2.1.2.1 rs p1 p2
          have hx := hQ.2.2.1 (m 31 rs / 721) (m 31 rs % 721) (by omega) ww.2.1 (by omega) ww.2.2.1
          unfold SS at hx
          rw [show m 31 rs / 721 * 721 + m 31 rs % 721 = m 31 rs by omega] at hx
          have b3 := hQ.1.1.2.2.1 (its (m 31 rs)) (by unfold its; omega) (by unfold its; omega) (by unfold its; omega)
          have sx : 0 < c 72 (its (m 31 rs)) := by unfold its; omega
          have b4 := (b3.2.2 sx).1
          rw [Kf_its ww.1 (by omega)] at b4
          have := root (c 72 (its (m 31 rs)) - 1) (by omega) (by omega)
          omega
        -- an answer
        have doA : 0 ≤ ra → ra < m 0 10 → 0 ≤ m 32 ra → c 71 0 = m 32 ra * 32768 + ra → ∃ c' m' n' i' Lb', yb (G_X6_takeLeast N c) (fun r69 a69 => if 60 ≤ yand r69 32767 then ybv (G_X6_open N a69 (yand r69 32767) (yshr r69 (yand 15 31))) (fun a107 => G_X6_run_110 N (G_X6_run_46 N f) a107 most i) else ybv (G_X6_note N a69 (yand r69 32767) (yshr r69 (yand 15 31))) (fun a94 => G_X6_run_110 N (G_X6_run_46 N f) a94 most i)) = some c' ∧ G_X12_searches_138 N (G_X12_searches_80 N f) m most ra = some m' ∧ ST c' m' L ∧ SQ c' m' L n' i' (-1) ∧ EI m' L Lb' (-1) 0 ∧ EA m' L Lb' (-1) ∧ (n' = 0 ∨ most ≤ m' 0 49) ∧ DM m m' ∧ (∀ a b, a < 67 ∨ 73 < a → c' a b = c a b) := by
          intro p1 p2 p3 p4
          have q13 := hQ.2.2.2.2.2.2.2.2.2 ra p1 p2
          obtain ⟨c1, c2, m2, g1, g2, g3, g4, g5, g6, g7, g8⟩ := noteS (most := most) hN hQ hS hE hA n1 ⟨p1, p2, hW.2⟩ p3 p4 t60 i1
          rw [g1, yb_s, yand_k (by omega), yshr_k (by omega), show c 71 0 % 32768 = ra by omega, show c 71 0 / 32768 = m 32 ra by omega, if_neg (by omega), g2, ybv_s, g3]
          unfold G_X6_run_110
          rw [xlet_q, wr_in (by omega) (by omega)]
          obtain ⟨c3, m3, n3, i3, Lb3, k1, k2, k3, k4, k5, k6, k7, k8, k9⟩ := ih c2 m2 (n - 1) (i + 1) _ (hS.pr g8 g7) g4 g5 g6 (by rw [g7 _ _ (by omega) (by omega)]; exact h0) (by omega)
          exact ⟨c3, m3, n3, i3, Lb3, k1, k2, k3, k4, k5, k6, k7, g7.tr k8, fun a b q => by rw [k9 a b q, g8 a b q]⟩
        have doS : 0 ≤ rs → rs < m 0 42 → c 71 0 = ks m (m 31 rs) → ∃ c' m' n' i' Lb', yb (G_X6_takeLeast N c) (fun r69 a69 => if 60 ≤ yand r69 32767 then ybv (G_X6_open N a69 (yand r69 32767) (yshr r69 (yand 15 31))) (fun a107 => G_X6_run_110 N (G_X6_run_46 N f) a107 most i) else ybv (G_X6_note N a69 (yand r69 32767) (yshr r69 (yand 15 31))) (fun a94 => G_X6_run_110 N (G_X6_run_46 N f) a94 most i)) = some c' ∧ G_X12_searches_196 N (G_X12_searches_80 N f) m most rs = some m' ∧ ST c' m' L ∧ SQ c' m' L n' i' (-1) ∧ EI m' L Lb' (-1) 0 ∧ EA m' L Lb' (-1) ∧ (n' = 0 ∨ most ≤ m' 0 49) ∧ DM m m' ∧ (∀ a b, a < 67 ∨ 73 < a → c' a b = c a b) := by
          intro p1 p2 p4
          have ww := hQ.2.2.2.2.2.1.2.1 rs p1 p2
          have ok := (hQ.ok hS h0 ww.1 ww.2.1 ww.2.2.1 (by omega)).1
          unfold OK at ok
          obtain ⟨c1, c2, m2, n2, g1, g2, g3, g4, g5, g6, g7, g8, g9⟩ := openS hN hQ hS hE hA h0 n1 ⟨p1, p2⟩ p4 i1
          have e1 : c 71 0 % 32768 = its (m 31 rs) := by rw [p4]; unfold ks its; omega
          have e2 : c 71 0 / 32768 = bnd m (m 31 rs) := by rw [p4]; unfold ks; omega
          rw [g1, yb_s, yand_k (by omega), yshr_k (by omega), e1, e2, if_pos (by unfold its; omega), g2, ybv_s]
          unfold G_X6_run_110 G_X12_searches_196 G_X12_searches_201
          rw [xlet_q, wr_in (by omega) (by omega), g3, ybv_s]
          obtain ⟨c3, m3, n3, i3, Lb3, k1, k2, k3, k4, k5, k6, k7, k8, k9⟩ := ih c2 m2 n2 (i + 1) _ g4 g5 g6 g7 (by rw [g8 _ _ (by omega) (by omega)]; exact h0) (by omega)
          exact ⟨c3, m3, n3, i3, Lb3, k1, k2, k3, k4, k5, k6, k7, g8.tr k8, fun a b q => by rw [k9 a b q, g9 a b q]⟩
        unfold G_X12_searches_109
        by_cases d1 : ra = -1
        · rw [if_pos d1]
          have gs' : 0 ≤ rs ∧ rs < m 0 42 ∧ ∀ k, 0 ≤ k → k < m 0 42 → ks m (m 31 rs) ≤ ks m (m 31 k) := by
            rcases gs with gs | gs
            · exact absurd ⟨d1, gs.1⟩ hne
            · exact gs
          refine doS gs'.1 gs'.2.1 ?_
          have := keyS gs'.1 gs'.2.1
          rcases hroot with h | ⟨s, h1, h2, h3, h4, h5, h6⟩
          · rcases ga with ga | ga
            · have := ga.2 _ h.1 h.2.1; omega
            · omega
          · obtain ⟨k, k1, k2, k3⟩ := hQ.2.2.2.2.2.1.2.2.2 s h2 h3 h4 h5
            have := gs'.2.2 k k1 k2
            rw [k3] at this
            omega
        · rw [if_neg d1]
          have ga' : 0 ≤ ra ∧ ra < m 0 10 ∧ 0 ≤ m 32 ra ∧ ∀ k, 0 ≤ k → k < m 0 10 → 0 ≤ m 32 k → m 32 ra * 32768 + ra ≤ m 32 k * 32768 + k := by
            rcases ga with ga | ga
            · exact absurd ga.1 d1
            · exact ga
          have kA := keyA ga'.1 ga'.2.1 ga'.2.2.1
          by_cases d2 : rs = -1
          · rw [if_pos d2]
            refine doA ga'.1 ga'.2.1 ga'.2.2.1 ?_
            rcases hroot with h | ⟨s, h1, h2, h3, h4, h5, h6⟩
            · have := ga'.2.2.2 _ h.1 h.2.1 h.2.2.2.1
              omega
            · obtain ⟨k, k1, k2, k3⟩ := hQ.2.2.2.2.2.1.2.2.2 s h2 h3 h4 h5
              rcases gs with gs | gs <;> omega
          · rw [if_neg d2]
            have gs' : 0 ≤ rs ∧ rs < m 0 42 ∧ ∀ k, 0 ≤ k → k < m 0 42 → ks m (m 31 rs) ≤ ks m (m 31 k) := by
              rcases gs with gs | gs
              · exact absurd gs.1 d2
              · exact gs
            have ww := hQ.2.2.2.2.2.1.1
            have w3 := hQ.2.2.2.2.2.1.2.1 rs gs'.1 gs'.2.1
            have ok := (hQ.ok hS h0 w3.1 w3.2.1 w3.2.2.1 (by omega)).1
            have kS := keyS gs'.1 gs'.2.1
            (try simp (disch := omega) only [xlet_q, xq_in])
            rw [boundM ok, yb_s]
            by_cases d3 : bnd m (m 31 rs) < m 32 ra
            · rw [if_pos d3]
              refine doS gs'.1 gs'.2.1 ?_
              rcases hroot with h | ⟨s, h1, h2, h3, h4, h5, h6⟩
              · have := ga'.2.2.2 _ h.1 h.2.1 h.2.2.2.1
                unfold OK at ok
                unfold ks at kS ⊢
                omega
              · obtain ⟨k, k1, k2, k3⟩ := hQ.2.2.2.2.2.1.2.2.2 s h2 h3 h4 h5
                have := gs'.2.2 k k1 k2
                rw [k3] at this
                omega
            · rw [if_neg d3]
              refine doA ga'.1 ga'.2.1 ga'.2.2.1 ?_
              rcases hroot with h | ⟨s, h1, h2, h3, h4, h5, h6⟩
              · have := ga'.2.2.2 _ h.1 h.2.1 h.2.2.2.1
                omega
              · obtain ⟨k, k1, k2, k3⟩ := hQ.2.2.2.2.2.1.2.2.2 s h2 h3 h4 h5
                have := gs'.2.2 k k1 k2
                rw [k3, ← h6] at this
                unfold OK at ok
                unfold ks at this
                omega
end
