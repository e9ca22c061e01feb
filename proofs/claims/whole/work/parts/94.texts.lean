theorem WB.cv {c c' m m' : IH} (h : WB c m) (h1 : c' 80 4 = c 80 4) (h2 : ∀ b, c' 81 b = c 81 b) (h3 : m' 0 69 = m 0 69) (h4 : ∀ b, m' 50 b = m 50 b) : WB c' m' := by
  unfold WB at *
  rw [h1, h3]
  simp only [h2, h4]
  exact h
/-- what the writing leaves -/
def WE (N : Nat) (mb : IH) (l : Int → Int) (c c' m m' : IH) : Prop := WB c' m' ∧ m' 0 69 ≤ 1000 ∧ c' 80 6 = m' 0 70 ∧ c' 80 7 = m' 0 71 ∧ (∀ s, 0 ≤ s → s < mb 16 0 → (LT l s ∧ c' 82 s = 1) ∨ (¬ LT l s ∧ c' 82 s = 0)) ∧ TM mb m' ∧ (∀ b, m' 49 b = l b) ∧ (∀ b, m' 48 b = m 48 b) ∧ ∀ a b, ¬ (a = 80 ∧ (b = 4 ∨ b = 6 ∨ b = 7)) → a ≠ 81 → a ≠ 82 → c' a b = c a b
theorem write0 {N : Nat} {mb : IH} {l : Int → Int} (hN : 20000 ≤ N) (hl : ∀ s, 0 ≤ s → s < mb 16 0 → (l s = 1 ∧ bw N mb s ≠ -1) ∨ l s = 0) : ∀ (f : Nat) (c m : IH) (j : Nat), TR c mb → SL c → CA N c mb → (∀ s, 0 ≤ s → s < mb 16 0 → c 75 s = 1 ∧ (jn mb s → c 75 (40 + s) = 1)) → TM mb m → AL N mb m (mb 16 0) → (∀ b, m 49 b = l b) → WB c m → m 0 69 ≤ rea l j * 25 → c 80 6 = m 0 70 → c 80 7 = m 0 71 → (0 ≤ m 0 70 ∧ m 0 70 ≤ rea l j) → (0 ≤ m 0 71 ∧ m 0 71 ≤ rea l j) → rea l j ≤ mb 16 0 → (∀ s, 0 ≤ s → s < rea l j → (LT l s ∧ c 82 s = 1) ∨ (¬ LT l s ∧ c 82 s = 0)) → (∀ s, rea l j ≤ s → s < mb 16 0 → c 82 s = l s) → mb 16 0 - rea l j < f → ∃ c' m', G_X3_write_4 N f c (rea l j) j = some c' ∧ G_X12_mendsAll_170 N f m (mb 16 0) (rea l j) = some m' ∧ WE N mb l c c' m m' := by
  intro f
  induction f with
  | zero => intro c m j h hs hC h1 h2 h3 h4 h5 h6 h7 h8 h9 h10 h11 h12 h13 h14; omega
  | succ f ih =>
    intro c m j h hs hC h1 h2 h3 h4 h5 h6 h7 h8 h9 h10 h11 h12 h13 h14
    have h40 := h.2.2.2.2.2.1.1
    have hge := rea_ge (l := l) j
    have hlt := rea_lt (l := l) j
    have hsuc : rea l (j + 1) = if l (rea l j) = 0 then rea l j + 1 else rea l j + 2 := rfl
    generalize ht : rea l j = t at *
    unfold G_X3_write_4 G_X12_mendsAll_170
    by_cases c1 : mb 16 0 ≤ t
    · have et : t = mb 16 0 := by omega
      rw [h40.1, if_pos c1, if_pos c1]
      have e : (if 40 ≤ (j : Int) then some c else some c) = some c := by
        by_cases d1 : 40 ≤ (j : Int)
        · rw [if_pos d1]
        · rw [if_neg d1]
      exact ⟨c, m, e, rfl, h5, by omega, h7, h8, fun s s1 s2 => h12 s s1 (by omega), h2, h4, fun _ => rfl, fun _ _ _ _ _ => rfl⟩
    · have htr : 0 ≤ t ∧ t < mb 16 0 := by omega
      have hk := h1 t htr.1 htr.2
      have hal := h3 t htr.1 htr.2
      have hTt := h.2.2.2.2.2.1.2.2 t htr.1 htr.2
      have hrow := rowAT hN h hs hC htr hk.1
      have hrb := AT.rb hN h hs htr
      rw [if_neg (by omega), h40.1, if_neg c1, if_neg c1]
      -- how it goes on
      have go : ∀ (c1 m1 : IH) (e : Int), rea l (j + 1) = t + e → (e = 1 ∨ e = 2) → t + e ≤ mb 16 0 → WB c1 m1 → m1 0 69 ≤ t * 25 + 24 → c1 80 6 = m1 0 70 → c1 80 7 = m1 0 71 → (0 ≤ m1 0 70 ∧ m1 0 70 ≤ t + 1) → (0 ≤ m1 0 71 ∧ m1 0 71 ≤ t + 1) → (∀ s, 0 ≤ s → s < t + e → (LT l s ∧ c1 82 s = 1) ∨ (¬ LT l s ∧ c1 82 s = 0)) → (∀ s, t + e ≤ s → s < mb 16 0 → c1 82 s = l s) → TM mb m1 → (∀ b, m1 49 b = l b) → (∀ a b, 44 ≤ a → a ≤ 48 → m1 a b = m a b) → (∀ a b, ¬ (a = 80 ∧ (b = 4 ∨ b = 6 ∨ b = 7)) → a ≠ 81 → a ≠ 82 → c1 a b = c a b) → ∃ c' m', (if mb 16 0 ≤ t + e then G_X3_write_63 N (G_X3_write_4 N f) c1 j (t + e - 1) else if c1 35 (t + e - 1) = 0 then G_X3_write_60 N (G_X3_write_4 N f) c1 j (t + e - 1) 32 else G_X3_write_60 N (G_X3_write_4 N f) c1 j (t + e - 1) 10) = some c' ∧ (if mb 16 0 ≤ t + e then G_X12_mendsAll_300 N (G_X12_mendsAll_170 N f) m1 (mb 16 0) (t + e) else if m1 201 (t + e - 1) = 0 then G_X12_mendsAll_297 N (G_X12_mendsAll_170 N f) m1 (mb 16 0) (t + e) 32 else G_X12_mendsAll_297 N (G_X12_mendsAll_170 N f) m1 (mb 16 0) (t + e) 10) = some m' ∧ WE N mb l c c' m m' := by
        intro c1 m1 e p0 p1 p2 p3 p4 p5 p6 p7 p8 p9 p10 p11 p12 p13 p14
        have tc1 : TC c c1 := fun a b q => p14 a b (by omega) (by omega) (by omega)
        have tr1 := h.pr tc1 TM.rf
        have sl1 := hs.cv (c' := c1) (fun a b q1 q2 => p14 a b (by omega) (by omega) (by omega))
        have ca1 := hC.cv (c' := c1) (fun a b q1 q2 => p14 a b (by omega) (by omega) (by omega))
        have kn : ∀ cc : IH, (∀ b, cc 75 b = c 75 b) → ∀ s, 0 ≤ s → s < mb 16 0 → cc 75 s = 1 ∧ (jn mb s → cc 75 (40 + s) = 1) := fun cc q s s1 s2 => by rw [q, q]; exact h1 s s1 s2
        -- the loop from its next head
        have head : ∀ (c2 m2 : IH), FW c1 c2 m1 m2 → WB c2 m2 → m2 0 69 ≤ (t + e) * 25 → ∃ c' m', G_X3_write_4 N f c2 (t + e) (j + 1 : Nat) = some c' ∧ G_X12_mendsAll_170 N f m2 (mb 16 0) (t + e) = some m' ∧ WE N mb l c c' m m' := by
          intro c2 m2 fw wb ll
          have tc2 : TC c1 c2 := fw.tc
          obtain ⟨c', m', g1, g2, g3⟩ := ih c2 m2 (j + 1) (tr1.pr tc2 TM.rf) (sl1.cv (fun a b q1 q2 => fw.1 a b (by omega) (by omega))) (ca1.cv (fun a b q1 q2 => fw.1 a b (by omega) (by omega))) (kn c2 (fun b => by rw [fw.1 _ _ (by omega) (by omega), p14 _ _ (by omega) (by omega) (by omega)])) (p11.tr fw.tm) (fun s s1 s2 => by
            rw [fw.2 44 s (by omega) (by omega), fw.2 45 s (by omega) (by omega), fw.2 46 s (by omega) (by omega), fw.2 47 s (by omega) (by omega), p13 44 s (by omega) (by omega), p13 45 s (by omega) (by omega), p13 46 s (by omega) (by omega), p13 47 s (by omega) (by omega)]
            exact h3 s s1 s2) (fun b => by rw [fw.2 _ _ (by omega) (by omega)]; exact p12 b) wb (by rw [p0]; exact ll) (by rw [fw.1 _ _ (by omega) (by omega), fw.2 _ _ (by omega) (by omega)]; exact p5) (by rw [fw.1 _ _ (by omega) (by omega), fw.2 _ _ (by omega) (by omega)]; exact p6) (by rw [fw.2 _ _ (by omega) (by omega), p0]; omega) (by rw [fw.2 _ _ (by omega) (by omega), p0]; omega) (by rw [p0]; exact p2) (fun s s1 s2 => by rw [p0] at s2; rw [fw.1 _ _ (by omega) (by omega)]; exact p9 s s1 s2) (fun s s1 s2 => by rw [p0] at s1; rw [fw.1 _ _ (by omega) (by omega)]; exact p10 s s1 s2) (by rw [p0]; omega)
          rw [p0] at g1 g2
          obtain ⟨w1, w2, w3, w4, w5, w6, w7, w8, w9⟩ := g3
          refine ⟨c', m', g1, g2, w1, w2, w3, w4, w5, w6, w7, fun b => by rw [w8, fw.2 _ _ (by omega) (by omega), p13 _ _ (by omega) (by omega)], fun a b q1 q2 q3 => by rw [w9 a b q1 q2 q3, fw.1 a b (by omega) q2, p14 a b q1 q2 q3]⟩
        have next : ∀ (c2 m2 : IH), FW c1 c2 m1 m2 → WB c2 m2 → m2 0 69 ≤ (t + e) * 25 → ∃ c' m', G_X3_write_63 N (G_X3_write_4 N f) c2 j (t + e - 1) = some c' ∧ G_X12_mendsAll_300 N (G_X12_mendsAll_170 N f) m2 (mb 16 0) (t + e) = some m' ∧ WE N mb l c c' m m' := by
          intro c2 m2 fw wb ll
          unfold G_X3_write_63 G_X12_mendsAll_300
          rw [xlet_q, xlet_q, show t + e - 1 + 1 = t + e by omega, wr_in (show -2147483648 ≤ t + e by omega) (by omega), wr_in (show -2147483648 ≤ (j : Int) + 1 by omega) (by omega)]
          exact head c2 m2 fw wb ll
        by_cases ce : mb 16 0 ≤ t + e
        · rw [if_pos ce, if_pos ce]
          exact next c1 m1 FW.rf p3 (by omega)
        · rw [if_neg ce, if_neg ce]
          have e35 := (h.2.2.2.2.2.1.2.2 (t + e - 1) (by omega) (by omega)).2.2.2.1
          rw [p14 35 _ (by omega) (by omega) (by omega), e35, p11 201 _ (by omega) (by omega) (by omega)]
          have byte : ∀ x, ∃ c' m', G_X3_write_60 N (G_X3_write_4 N f) c1 j (t + e - 1) x = some c' ∧ G_X12_mendsAll_297 N (G_X12_mendsAll_170 N f) m1 (mb 16 0) (t + e) x = some m' ∧ WE N mb l c c' m m' := by
            intro x
            obtain ⟨c2, m2, b1, b2, b3, b4, b5⟩ := byteW (N := N) (x := x) p3 (by omega)
            unfold G_X3_write_60 G_X12_mendsAll_297
            rw [b1, b2, ybv_s, ybv_s]
            exact next c2 m2 b5 b3 (by omega)
          by_cases cz : mb 201 (t + e - 1) = 0
          · rw [if_pos cz, if_pos rfl, if_pos cz]
            exact byte 32
          · rw [if_neg cz, if_neg (by omega), if_neg cz]
            exact byte 10
      have e82 : c 82 t = l t := h13 t (Int.le_refl _) htr.2
      unfold G_X3_writeOne
      (try simp (disch := omega) only [xlet_q, xq_in])
      rw [e82, h4 t]
      rcases hl t htr.1 htr.2 with ⟨l1, lb⟩ | l0
      · -- lost
        have hj := bw_jn lb
        have hj1 := hj.1
        have hrj := rowAJ hN h hs hC htr.1 hj (hk.2 hj)
        have hsc : rea l (j + 1) = t + 2 := by rw [hsuc, if_neg (by omega)]
        have ebw : bw N mb t = wi (AJ N mb t) (op mb (mb 197 t + mb 197 (t + 1))) 0 := by unfold bw; rw [if_pos hj]
        have wn := wi_ne (show wi (AJ N mb t) (op mb (mb 197 t + mb 197 (t + 1))) 0 ≠ -1 by rw [← ebw]; exact lb)
        have rbj := AJ.rb hN h hs htr.1 hj
        have wr0 := rbj.2.1 0 (by omega) wn.2.1
        have epw : pr (AJ N mb t) 33 0 = bw N mb t := by unfold pr; rw [if_pos ⟨by omega, wn.2.1⟩, ebw, wn.2.2.2]
        have bwr : 0 ≤ bw N mb t ∧ bw N mb t < mb 0 10 := by rw [ebw, wn.2.2.2]; exact wr0.1
        rw [l1, if_neg (by omega), if_neg (by omega)]
        generalize hc1 : xv c 80 6 (wr (c 80 6 + 1)) = c1
        have co : ∀ a b, ¬ (a = 80 ∧ b = 6) → c1 a b = c a b := fun a b q => by rw [← hc1, xv_ne q]
        have c806 : c1 80 6 = m 0 70 + 1 := by rw [← hc1, xv_eq rfl rfl, h7, wr_in (by omega) (by omega)]
        have tc1 : TC c c1 := fun a b q => co a b (by omega)
        have hrj1 : RWM c1 (40 + t) (AJ N mb t) := hrj.cv (co _ _ (by omega)) (fun a i q1 q2 q3 q4 => co _ _ (by omega))
        rw [wr_in (show -2147483648 ≤ 40 + t by omega) (by omega), wordOfS hrj1 (by omega), yb_s, epw]
        have tr1 := h.pr tc1 h2
        obtain ⟨c2, m2, g1, g2, g3, g4, g5⟩ := wordWS (N := N) (t := t) (w := bw N mb t) hN tr1 (h5.cv (co _ _ (by omega)) (fun b => co _ _ (by omega)) rfl (fun b => rfl)) (by rw [h2 0 10 (by omega) (by omega) (by omega)]; exact bwr) (by omega)
        rw [g1, ybv_s]
        (try simp (disch := omega) only [xlet_q, xq_in])
        unfold G_X12_mendsAll_203
        rw [hal.2.2.1, g2, ybv_s, if_neg (by omega)]
        unfold G_X12_mendsAll_220 G_X12_mendsAll_247 G_X12_mendsAll_248 G_X12_mendsAll_269
        simp (disch := omega) only [xlet_q, xq_in, xv_ne, yb_s, ynar_0, ynar_1]
        rw [if_neg (show ¬ (1 : Int) = 0 by omega), if_neg (show ¬ (1 : Int) = 0 by omega), g5.2 0 70 (by omega) (by omega), g5.2 0 71 (by omega) (by omega), Int.add_zero, wr_in (show -2147483648 ≤ m 0 70 + 1 by omega) (by omega), wr_in (show -2147483648 ≤ m 0 71 by omega) (by omega), wr_in (show -2147483648 ≤ t + 2 by omega) (by omega), wr_in (show -2147483648 ≤ t + 1 by omega) (by omega)]
        generalize hc3 : xv c2 82 (t + 1) 0 = c3
        generalize hm3 : xv (xv (xv m2 0 70 (m 0 70 + 1)) 0 71 (m 0 71)) 51 t 1 = m3
        have co3 : ∀ a b, ¬ (a = 82 ∧ b = t + 1) → c3 a b = c2 a b := fun a b q => by rw [← hc3, xv_ne q]
        have mo3 : ∀ a b, ¬ (a = 0 ∧ (b = 70 ∨ b = 71)) → a ≠ 51 → m3 a b = m2 a b := fun a b q1 q2 => by rw [← hm3, xv_ne (by omega), xv_ne (by omega), xv_ne (by omega)]
        have c3c : ∀ a b, ¬ (a = 80 ∧ (b = 4 ∨ b = 6)) → a ≠ 81 → ¬ (a = 82 ∧ b = t + 1) → c3 a b = c a b := fun a b q1 q2 q3 => by rw [co3 a b q3, g5.1 a b (by omega) q2, co a b (by omega)]
        have hlt82 : LT l t := ⟨⟨j, ht⟩, by omega⟩
        have nlt : ¬ LT l (t + 1) := by
          intro q
          obtain ⟨⟨i, hi⟩, _⟩ := q
          by_cases ci : i ≤ j
          · have := rea_mono (l := l) (i := i) (j - i)
            rw [show i + (j - i) = j by omega, hi, ht] at this
            omega
          · have := rea_mono (l := l) (i := j + 1) (i - (j + 1))
            rw [show j + 1 + (i - (j + 1)) = i by omega, hi, hsc] at this
            omega
        have := go c3 m3 2 hsc (Or.inr rfl) (by omega) (g3.cv (co3 _ _ (by omega)) (fun b => co3 _ _ (by omega)) (mo3 _ _ (by omega) (by omega)) (fun b => mo3 _ _ (by omega) (by omega))) (by rw [mo3 _ _ (by omega) (by omega)]; omega) (by rw [co3 _ _ (by omega), g5.1 _ _ (by omega) (by omega), c806, ← hm3, xv_ne (by omega), xv_ne (by omega), xv_eq rfl rfl]) (by rw [c3c _ _ (by omega) (by omega) (by omega), h8, ← hm3, xv_ne (by omega), xv_eq rfl rfl]) (by rw [← hm3, xv_ne (by omega), xv_ne (by omega), xv_eq rfl rfl]; omega) (by rw [← hm3, xv_ne (by omega), xv_eq rfl rfl]; omega) (fun s s1 s2 => by
          by_cases cs : s = t + 1
          · right
            rw [cs]
            exact ⟨nlt, by rw [← hc3, xv_eq rfl rfl]⟩
          · rw [c3c 82 s (by omega) (by omega) (by omega)]
            by_cases ct : s = t
            · left
              rw [ct, e82]
              exact ⟨hlt82, l1⟩
            · exact h12 s s1 (by omega)) (fun s s1 s2 => by rw [c3c 82 s (by omega) (by omega) (by omega)]; exact h13 s (by omega) s2) (fun a b z1 z2 z3 => by rw [mo3 a b (by omega) (by omega), g5.2 a b (by omega) (by omega)]; exact h2 a b z1 z2 z3) (fun b => by rw [mo3 _ _ (by omega) (by omega), g5.2 _ _ (by omega) (by omega)]; exact h4 b) (fun a b q1 q2 => by rw [mo3 _ _ (by omega) (by omega), g5.2 _ _ (by omega) (by omega)]) (fun a b q1 q2 q3 => c3c a b (by omega) q2 (by omega))
        rw [show t + 2 - 1 = t + 1 by omega] at this
        rw [← co3 31 0 (by omega), ← co3 35 (t + 1) (by omega), c3c 31 0 (by omega) (by omega) (by omega), h40.1, wr_in (show -2147483648 ≤ t + 1 + 1 by omega) (by omega), show t + 1 + 1 = t + 2 by omega, show (201 : Int) + 0 = 201 by omega]
        simp (disch := omega) only [xq_in]
        rw [show t + 2 - 1 = t + 1 by omega]
        have e201 : m2 201 (t + 1) = m3 201 (t + 1) := (mo3 _ _ (by omega) (by omega)).symm
        rw [e201]
        exact this
      · -- alone
        have hsc : rea l (j + 1) = t + 1 := by rw [hsuc, if_pos l0]
        have nlt : ¬ LT l t := fun q => q.2 l0
        rw [l0, if_pos rfl, if_pos rfl, insideS h htr hrow, yb_s, show wi (AT N mb t) (op mb (mb 197 t)) 0 = aw N mb t from rfl, hal.1]
        unfold G_X12_mendsAll_203
        by_cases cw : aw N mb t = -1
        · rw [if_pos cw, cw]
          generalize hc1 : xv c 80 7 (wr (c 80 7 + 1)) = c1
          have co : ∀ a b, ¬ (a = 80 ∧ b = 7) → c1 a b = c a b := fun a b q => by rw [← hc1, xv_ne q]
          have c807 : c1 80 7 = m 0 71 + 1 := by rw [← hc1, xv_eq rfl rfl, h8, wr_in (by omega) (by omega)]
          have tc1 : TC c c1 := fun a b q => co a b (by omega)
          have tr1 := h.pr tc1 h2
          obtain ⟨c2, m2, g1, g2, g3, g4, g5⟩ := cellsWS (N := N) (t := t) hN tr1 (h5.cv (co _ _ (by omega)) (fun b => co _ _ (by omega)) rfl (fun b => rfl)) (by rw [h2 16 0 (by omega) (by omega) (by omega)]; exact htr) (by omega)
          rw [g1, ybv_s, g2, ybv_s, if_pos rfl]
          unfold G_X12_mendsAll_220 G_X12_mendsAll_248 G_X12_mendsAll_269
          have e44 : m2 44 t = -1 := by rw [g5.2 _ _ (by omega) (by omega), hal.1]; exact cw
          simp (disch := omega) only [xlet_q, xq_in, xv_ne, yb_s, ynar_0, ynar_1, if_true, e44]
          rw [g5.2 0 70 (by omega) (by omega), g5.2 0 71 (by omega) (by omega), Int.add_zero, wr_in (show -2147483648 ≤ m 0 70 by omega) (by omega), wr_in (show -2147483648 ≤ m 0 71 + 1 by omega) (by omega), wr_in (show -2147483648 ≤ t + 1 by omega) (by omega)]
          generalize hm3 : xv (xv (xv m2 0 70 (m 0 70)) 0 71 (m 0 71 + 1)) 51 t 0 = m3
          have mo3 : ∀ a b, ¬ (a = 0 ∧ (b = 70 ∨ b = 71)) → a ≠ 51 → m3 a b = m2 a b := fun a b q1 q2 => by rw [← hm3, xv_ne (by omega), xv_ne (by omega), xv_ne (by omega)]
          have c2c : ∀ a b, ¬ (a = 80 ∧ (b = 4 ∨ b = 7)) → a ≠ 81 → c2 a b = c a b := fun a b q1 q2 => by rw [g5.1 a b (by omega) q2, co a b (by omega)]
          have := go c2 m3 1 hsc (Or.inl rfl) (by omega) (g3.cv rfl (fun b => rfl) (mo3 _ _ (by omega) (by omega)) (fun b => mo3 _ _ (by omega) (by omega))) (by rw [mo3 _ _ (by omega) (by omega)]; omega) (by rw [c2c _ _ (by omega) (by omega), h7, ← hm3, xv_ne (by omega), xv_ne (by omega), xv_eq rfl rfl]) (by rw [g5.1 _ _ (by omega) (by omega), c807, ← hm3, xv_ne (by omega), xv_eq rfl rfl]) (by rw [← hm3, xv_ne (by omega), xv_ne (by omega), xv_eq rfl rfl]; omega) (by rw [← hm3, xv_ne (by omega), xv_eq rfl rfl]; omega) (fun s s1 s2 => by
            rw [c2c 82 s (by omega) (by omega)]
            by_cases ct : s = t
            · right
              rw [ct, e82]
              exact ⟨nlt, l0⟩
            · exact h12 s s1 (by omega)) (fun s s1 s2 => by rw [c2c 82 s (by omega) (by omega)]; exact h13 s (by omega) s2) (fun a b z1 z2 z3 => by rw [mo3 a b (by omega) (by omega), g5.2 a b (by omega) (by omega)]; exact h2 a b z1 z2 z3) (fun b => by rw [mo3 _ _ (by omega) (by omega), g5.2 _ _ (by omega) (by omega)]; exact h4 b) (fun a b q1 q2 => by rw [mo3 _ _ (by omega) (by omega), g5.2 _ _ (by omega) (by omega)]) (fun a b q1 q2 q3 => c2c a b (by omega) q2)
          rw [show t + 1 - 1 = t by omega] at this
          rw [c2c 31 0 (by omega) (by omega), h40.1, show (201 : Int) + 0 = 201 by omega]
          simp (disch := omega) only [xq_in]
          rw [show t + 1 - 1 = t by omega]
          have e201 : m2 201 t = m3 201 t := (mo3 _ _ (by omega) (by omega)).symm
          rw [e201]
          exact this
        · have wn := wi_ne (show wi (AT N mb t) (op mb (mb 197 t)) 0 ≠ -1 from cw)
          have wr0 := hrb.2.1 0 (by omega) wn.2.1
          have awr : 0 ≤ aw N mb t ∧ aw N mb t < mb 0 10 := by unfold aw; rw [wn.2.2.2]; exact wr0.1
          rw [if_neg cw]
          have tr1 := h.pr TC.rf h2
          obtain ⟨c2, m2, g1, g2, g3, g4, g5⟩ := wordWS (N := N) (t := t) (w := aw N mb t) hN tr1 h5 (by rw [h2 0 10 (by omega) (by omega) (by omega)]; exact awr) (by omega)
          rw [g1, ybv_s, g2, ybv_s, if_pos rfl]
          unfold G_X12_mendsAll_220 G_X12_mendsAll_247 G_X12_mendsAll_248 G_X12_mendsAll_269
          have e44 : m2 44 t = aw N mb t := by rw [g5.2 _ _ (by omega) (by omega), hal.1]
          simp (disch := omega) only [xlet_q, xq_in, xv_ne, yb_s, ynar_0, ynar_1, if_true, e44]
          rw [if_neg cw, g5.2 0 70 (by omega) (by omega), g5.2 0 71 (by omega) (by omega), Int.add_zero, Int.add_zero, wr_in (show -2147483648 ≤ m 0 70 by omega) (by omega), wr_in (show -2147483648 ≤ m 0 71 by omega) (by omega), wr_in (show -2147483648 ≤ t + 1 by omega) (by omega)]
          generalize hm3 : xv (xv (xv m2 0 70 (m 0 70)) 0 71 (m 0 71)) 51 t 0 = m3
          have mo3 : ∀ a b, ¬ (a = 0 ∧ (b = 70 ∨ b = 71)) → a ≠ 51 → m3 a b = m2 a b := fun a b q1 q2 => by rw [← hm3, xv_ne (by omega), xv_ne (by omega), xv_ne (by omega)]
          have c2c : ∀ a b, ¬ (a = 80 ∧ b = 4) → a ≠ 81 → c2 a b = c a b := fun a b q1 q2 => g5.1 a b q1 q2
          have := go c2 m3 1 hsc (Or.inl rfl) (by omega) (g3.cv rfl (fun b => rfl) (mo3 _ _ (by omega) (by omega)) (fun b => mo3 _ _ (by omega) (by omega))) (by rw [mo3 _ _ (by omega) (by omega)]; omega) (by rw [c2c _ _ (by omega) (by omega), h7, ← hm3, xv_ne (by omega), xv_ne (by omega), xv_eq rfl rfl]) (by rw [c2c _ _ (by omega) (by omega), h8, ← hm3, xv_ne (by omega), xv_eq rfl rfl]) (by rw [← hm3, xv_ne (by omega), xv_ne (by omega), xv_eq rfl rfl]; omega) (by rw [← hm3, xv_ne (by omega), xv_eq rfl rfl]; omega) (fun s s1 s2 => by
            rw [c2c 82 s (by omega) (by omega)]
            by_cases ct : s = t
            · right
              rw [ct, e82]
              exact ⟨nlt, l0⟩
            · exact h12 s s1 (by omega)) (fun s s1 s2 => by rw [c2c 82 s (by omega) (by omega)]; exact h13 s (by omega) s2) (fun a b z1 z2 z3 => by rw [mo3 a b (by omega) (by omega), g5.2 a b (by omega) (by omega)]; exact h2 a b z1 z2 z3) (fun b => by rw [mo3 _ _ (by omega) (by omega), g5.2 _ _ (by omega) (by omega)]; exact h4 b) (fun a b q1 q2 => by rw [mo3 _ _ (by omega) (by omega), g5.2 _ _ (by omega) (by omega)]) (fun a b q1 q2 q3 => c2c a b (by omega) q2)
          rw [show t + 1 - 1 = t by omega] at this
          rw [c2c 31 0 (by omega) (by omega), h40.1, show (201 : Int) + 0 = 201 by omega]
          simp (disch := omega) only [xq_in]
          rw [show t + 1 - 1 = t by omega]
          have e201 : m2 201 t = m3 201 t := (mo3 _ _ (by omega) (by omega)).symm
          rw [e201]
          exact this
