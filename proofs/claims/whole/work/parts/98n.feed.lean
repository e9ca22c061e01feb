/-- a byte of a number -/
def qb (v r : Int) : Int := yand (yushr v (24 - 8 * r)) 255
theorem qb_sh0 {v : Int32} {r : Nat} (hr : r < 4) : (v >>> (zI (24 - 8 * r) &&& 31)) &&& 255 = xushr v (zI (24 - 8 * r)) &&& 255 := by
  unfold xushr
  apply Int32.toBitVec_inj.mp
  have h255 : ∀ i : Nat, i < 32 → (255 : Int32).toBitVec.getLsbD i = decide (i < 8) := by decide
  apply BitVec.eq_of_getLsbD_eq
  intro i hi
  by_cases h8 : i < 8
  · match r, hr with
    | 0, _ => simp only [Int32.toBitVec_and, BitVec.getLsbD_and, h255 i hi]; simp [h8, Int32.toBitVec_shiftRight, BitVec.getLsbD_sshiftRight, zI, show ¬ 32 ≤ i by omega, show 24 + i < 32 by omega]
    | 1, _ => simp only [Int32.toBitVec_and, BitVec.getLsbD_and, h255 i hi]; simp [h8, Int32.toBitVec_shiftRight, BitVec.getLsbD_sshiftRight, zI, show ¬ 32 ≤ i by omega, show 16 + i < 32 by omega]
    | 2, _ => simp only [Int32.toBitVec_and, BitVec.getLsbD_and, h255 i hi]; simp [h8, Int32.toBitVec_shiftRight, BitVec.getLsbD_sshiftRight, zI, show ¬ 32 ≤ i by omega, show 8 + i < 32 by omega]
    | 3, _ => simp only [Int32.toBitVec_and, BitVec.getLsbD_and, h255 i hi]; simp [h8, Int32.toBitVec_shiftRight, BitVec.getLsbD_sshiftRight, zI, show ¬ 32 ≤ i by omega]
  · simp only [Int32.toBitVec_and, BitVec.getLsbD_and, h255 i hi]
    simp [h8]
theorem qb_sh {v : Int} {r : Int} (hr : 0 ≤ r ∧ r < 4) : yand (yshr v (yand (24 - 8 * r) 31)) 255 = qb v r := by
  have e := qb_sh0 (v := zI v) (r := r.toNat) (by omega)
  rw [show ((r.toNat : Nat) : Int) = r by omega] at e
  unfold qb yand yshr yushr
  rw [zI_of, zI_of, zI_of]
  have k1 : zI 31 = 31 := rfl
  have k2 : zI 255 = 255 := rfl
  rw [k1, k2, e]
theorem qb_rng {v r : Int} : 0 ≤ qb v r ∧ qb v r ≤ 255 := by
  unfold qb yand
  generalize zI (yushr v (24 - 8 * r)) = x
  have k2 : zI 255 = 255 := rfl
  rw [k2]
  have h1 : (x &&& 255).toBitVec.toNat ≤ 255 := by
    rw [Int32.toBitVec_and, BitVec.toNat_and]
    exact Nat.le_trans Nat.and_le_right (by decide)
  have h2 : (x &&& 255).toInt = (x &&& 255).toBitVec.toInt := rfl
  rw [h2, BitVec.toInt_eq_toNat_cond, if_pos (by omega)]
  omega
section
variable {N : Nat} {c m : IH}
theorem addS {p T : Int} (hN : 20000 ≤ N) (h : c 2 1 = T) (hT : 0 ≤ T ∧ T ≤ 396) : ∃ c', G_X9_add N c p = some c' ∧ c' 2 1 = T + 4 ∧ (∀ j, 0 ≤ j → j < 4 → c' 3 (T + j) = qb p j) ∧ ∀ a b, ¬ (a = 2 ∧ b = 1) → ¬ (a = 3 ∧ T ≤ b ∧ b < T + 4) → c' a b = c a b := by
  have lp : ∀ (f : Nat) (c : IH) (k : Int), 0 ≤ k → k ≤ 4 → c 2 1 = T + k → 4 - k < f → ∃ c', G_X9_add_3 N f c p (24 - 8 * k) = some c' ∧ c' 2 1 = T + 4 ∧ (∀ j, k ≤ j → j < 4 → c' 3 (T + j) = qb p j) ∧ ∀ a b, ¬ (a = 2 ∧ b = 1) → ¬ (a = 3 ∧ T + k ≤ b ∧ b < T + 4) → c' a b = c a b := by
    intro f
    induction f with
    | zero => intro c k h1 h2 h3 h4; omega
    | succ f ih =>
      intro c k h1 h2 h3 h4
      unfold G_X9_add_3
      by_cases c1 : 24 - 8 * k < 0
      · rw [if_pos c1]
        exact ⟨c, rfl, by omega, fun j j1 j2 => by omega, fun _ _ _ _ => rfl⟩
      · rw [if_neg c1, h3, if_neg (by omega)]
        simp (disch := omega) only [xlet_q, xq_in, xv_ne]
        rw [h3, wr_in (by omega) (by omega), wr_in (by omega) (by omega), show 24 - 8 * k + -8 = 24 - 8 * (k + 1) by omega]
        obtain ⟨c', a1, a2, a3, a4⟩ := ih (xv (xv c 3 (T + k) (yand (yushr p (24 - 8 * k)) 255)) 2 1 (T + k + 1)) (k + 1) (by omega) (by omega) (by rw [xv_eq rfl rfl]; omega) (by omega)
        refine ⟨c', a1, a2, fun j j1 j2 => ?_, fun a b q1 q2 => by rw [a4 a b q1 (by omega), xv_ne q1, xv_ne (by omega)]⟩
        by_cases cj : j = k
        · rw [cj, a4 _ _ (by omega) (by omega), xv_ne (by omega), xv_eq rfl rfl]
          rfl
        · exact a3 j (by omega) j2
  unfold G_X9_add
  rw [xlet_q]
  obtain ⟨c', a1, a2, a3, a4⟩ := lp N c 0 (by omega) (by omega) (by omega) (by omega)
  exact ⟨c', a1, a2, fun j j1 j2 => a3 j j1 j2, fun a b q1 q2 => a4 a b q1 (by omega)⟩
def fdb (p1 p2 p3 p4 p5 k : Int) : Int := qb (if k < 4 then p1 else if k < 8 then p2 else if k < 12 then p3 else if k < 16 then p4 else p5) (k % 4)
theorem feedMg {p1 p2 p3 p4 p5 T : Int} (hT : 0 ≤ T ∧ T ≤ 380) : ∀ (f : Nat) (m : IH) (k : Int), 0 ≤ k → k ≤ 20 → m 0 2 = T + k → 20 - k < f → ∃ m', G_X12_feed_23 N f m p1 p2 p3 p4 p5 k = some (T + 20, m') ∧ m' 0 2 = T + 20 ∧ (∀ j, k ≤ j → j < 20 → m' 2 (T + j) = fdb p1 p2 p3 p4 p5 j) ∧ ∀ a b, ¬ (a = 0 ∧ b = 2) → ¬ (a = 2 ∧ T + k ≤ b ∧ b < T + 20) → m' a b = m a b := by
  intro f
  induction f with
  | zero => intro m k h1 h2 h3 h4; omega
  | succ f ih =>
    intro m k h1 h2 h3 h4
    unfold G_X12_feed_23
    by_cases c1 : 20 ≤ k
    · rw [if_pos c1]
      exact ⟨m, by rw [h3, show T + k = T + 20 by omega], by omega, fun j j1 j2 => by omega, fun _ _ _ _ => rfl⟩
    · rw [if_neg c1]
      have e : (if 4 ≤ k then if 8 ≤ k then if 12 ≤ k then if 16 ≤ k then G_X12_feed_76 N (G_X12_feed_23 N f) m p1 p2 p3 p4 p5 k p5 else G_X12_feed_76 N (G_X12_feed_23 N f) m p1 p2 p3 p4 p5 k p4 else G_X12_feed_76 N (G_X12_feed_23 N f) m p1 p2 p3 p4 p5 k p3 else G_X12_feed_76 N (G_X12_feed_23 N f) m p1 p2 p3 p4 p5 k p2 else G_X12_feed_76 N (G_X12_feed_23 N f) m p1 p2 p3 p4 p5 k p1) = G_X12_feed_76 N (G_X12_feed_23 N f) m p1 p2 p3 p4 p5 k (if k < 4 then p1 else if k < 8 then p2 else if k < 12 then p3 else if k < 16 then p4 else p5) := by
        by_cases x1 : 4 ≤ k
        · rw [if_pos x1, if_neg (show ¬ k < 4 by omega)]
          by_cases x2 : 8 ≤ k
          · rw [if_pos x2, if_neg (show ¬ k < 8 by omega)]
            by_cases x3 : 12 ≤ k
            · rw [if_pos x3, if_neg (show ¬ k < 12 by omega)]
              by_cases x4 : 16 ≤ k
              · rw [if_pos x4, if_neg (show ¬ k < 16 by omega)]
              · rw [if_neg x4, if_pos (show k < 16 by omega)]
            · rw [if_neg x3, if_pos (show k < 12 by omega)]
          · rw [if_neg x2, if_pos (show k < 8 by omega)]
        · rw [if_neg x1, if_pos (show k < 4 by omega)]
      rw [e]
      unfold G_X12_feed_76
      simp (disch := omega) only [xlet_q, xq_in, xv_ne]
      rw [h3, Int.tdiv_eq_ediv_of_nonneg h1, show k - k / 4 * 4 = k % 4 by omega, qb_sh (by omega), wr_in (by omega) (by omega), wr_in (by omega) (by omega)]
      obtain ⟨m', a1, a2, a3, a4⟩ := ih (xv (xv m 2 (T + k) (qb (if k < 4 then p1 else if k < 8 then p2 else if k < 12 then p3 else if k < 16 then p4 else p5) (k % 4))) 0 2 (T + k + 1)) (k + 1) (by omega) (by omega) (by rw [xv_eq rfl rfl]; omega) (by omega)
      refine ⟨m', a1, a2, fun j j1 j2 => ?_, fun a b q1 q2 => by rw [a4 a b q1 (by omega), xv_ne q1, xv_ne (by omega)]⟩
      by_cases cj : j = k
      · rw [cj, a4 _ _ (by omega) (by omega), xv_ne (by omega), xv_eq rfl rfl]
        rfl
      · exact a3 j (by omega) j2
theorem S_feed {p1 p2 p3 p4 p5 : Int} (hN : 20000 ≤ N) (h : R N c m) : CN N (G_X11_feed N c p1 p2 p3 p4 p5) (G_X12_feed N m p1 p2 p3 p4 p5) := by
  unfold G_X11_feed G_X12_feed
  have h' := h.m0 hN
  rw [xlet_q]
  generalize xv m 0 0 0 = m at h' ⊢
  obtain ⟨t1, t2, t3, t4, t5⟩ := h'.1
  rw [t1, wr_in (by omega) (by omega)]
  by_cases c1 : m 0 2 ≤ 380
  · rw [if_pos c1, if_pos (by omega), xlet_q]
    generalize hT : m 0 2 = T at *
    obtain ⟨m', b1, b2, b3, b4⟩ := feedMg (N := N) (p1 := p1) (p2 := p2) (p3 := p3) (p4 := p4) (p5 := p5) (T := T) (by omega) N m 0 (by omega) (by omega) (by omega) (by omega)
    obtain ⟨x1, a1, a2, a3, a4⟩ := addS (N := N) (p := p1) (T := T) hN t1 (by omega)
    obtain ⟨x2, d1, d2, d3, d4⟩ := addS (N := N) (p := p2) (T := T + 4) hN a2 (by omega)
    obtain ⟨x3, e1, e2, e3, e4⟩ := addS (N := N) (p := p3) (T := T + 4 + 4) hN d2 (by omega)
    obtain ⟨x4, f1, f2, f3, f4⟩ := addS (N := N) (p := p4) (T := T + 4 + 4 + 4) hN e2 (by omega)
    obtain ⟨x5, g1, g2, g3, g4⟩ := addS (N := N) (p := p5) (T := T + 4 + 4 + 4 + 4) hN f2 (by omega)
    rw [a1, ybv_s, d1, ybv_s, e1, ybv_s, f1, ybv_s, g1, ybv_s, b1, g2, show T + 4 + 4 + 4 + 4 + 4 = T + 20 by omega]
    refine ⟨_, x5, m', rfl, rfl, ?_⟩
    have co : ∀ a b, ¬ (a = 2 ∧ b = 1) → ¬ (a = 3 ∧ T ≤ b) → x5 a b = c a b := fun a b q1 q2 => by rw [g4 a b q1 (by omega), f4 a b q1 (by omega), e4 a b q1 (by omega), d4 a b q1 (by omega), a4 a b q1 (by omega)]
    have mo : ∀ a b, ¬ (a = 0 ∧ b = 2) → ¬ (a = 2 ∧ T ≤ b) → m' a b = m a b := fun a b q1 q2 => b4 a b q1 (by omega)
    have by_ : ∀ j, 0 ≤ j → j < 20 → x5 3 (T + j) = fdb p1 p2 p3 p4 p5 j := by
      intro j j1 j2
      unfold fdb
      by_cases y1 : j < 4
      · rw [if_pos y1, g4 _ _ (by omega) (by omega), f4 _ _ (by omega) (by omega), e4 _ _ (by omega) (by omega), d4 _ _ (by omega) (by omega), a3 j j1 y1, show j % 4 = j by omega]
      · rw [if_neg y1]
        by_cases y2 : j < 8
        · rw [if_pos y2, g4 _ _ (by omega) (by omega), f4 _ _ (by omega) (by omega), e4 _ _ (by omega) (by omega), show T + j = T + 4 + (j - 4) by omega, d3 (j - 4) (by omega) (by omega), show j % 4 = j - 4 by omega]
        · rw [if_neg y2]
          by_cases y3 : j < 12
          · rw [if_pos y3, g4 _ _ (by omega) (by omega), f4 _ _ (by omega) (by omega), show T + j = T + 4 + 4 + (j - 8) by omega, e3 (j - 8) (by omega) (by omega), show j % 4 = j - 8 by omega]
          · rw [if_neg y3]
            by_cases y4 : j < 16
            · rw [if_pos y4, g4 _ _ (by omega) (by omega), show T + j = T + 4 + 4 + 4 + (j - 12) by omega, f3 (j - 12) (by omega) (by omega), show j % 4 = j - 12 by omega]
            · rw [if_neg y4, show T + j = T + 4 + 4 + 4 + 4 + (j - 16) by omega, g3 (j - 16) (by omega) (by omega), show j % 4 = j - 16 by omega]
    have ta : TA x5 m' := ⟨by omega, by omega, by omega, fun j j1 j2 => by
      by_cases y : j < T ∨ T + 20 ≤ j
      · rw [g4 _ _ (by omega) (by omega), f4 _ _ (by omega) (by omega), e4 _ _ (by omega) (by omega), d4 _ _ (by omega) (by omega), a4 _ _ (by omega) (by omega), b4 _ _ (by omega) (by omega)]
        exact t4 j j1 j2
      · have u := by_ (j - T) (by omega) (by omega)
        have v := b3 (j - T) (by omega) (by omega)
        rw [show T + (j - T) = j by omega] at u v
        rw [u, v]
        exact ⟨rfl, qb_rng⟩, by rw [co _ _ (by omega) (by omega), mo _ _ (by omega) (by omega)]; exact t5⟩
    have t := h'.tr
    have t' : TR c m' := TR.mk (t.ll.fr (fun _ _ _ _ => rfl) (fun a b _ => mo a b (by omega) (by omega))) (t.2.2.2.1.mv (mo _ _ (by omega) (by omega)) (fun a b _ _ => mo a b (by omega) (by omega)) (fun a b _ _ => mo a b (by omega) (by omega))) (t.2.2.2.2.1.mv (fun b => mo _ b (by omega) (by omega))) (t.2.2.2.2.2.1.fr (fun _ _ _ _ => rfl) (fun a b _ => mo a b (by omega) (by omega))) (t.2.2.2.2.2.2.fr (fun _ _ _ _ => rfl) (fun a b _ => mo a b (by omega) (by omega)))
    have ee : EE m m' := ⟨mo _ _ (by omega) (by omega), mo _ _ (by omega) (by omega), fun t => mo _ _ (by omega) (by omega)⟩
    obtain ⟨_, ⟨b1', b2', b3'⟩, t0, s0, ca0, mt0, sn0⟩ := h'
    have ca1 := CA.mv2 hN t0 s0 ca0 t' ee
    have mt1 := MT.mv2 hN t0 s0 ca0 mt0 t' ee
    have sn1 := SN.mv2 hN t0 s0 ca0 sn0 t' ee
    have hf : ∀ a b, ¬ (a = 2 ∨ a = 3) → x5 a b = c a b := fun a b q => co a b (by omega) (by omega)
    have t2 : TR x5 m' := TR.mk (t'.ll.fr (fun a b _ _ => hf a b (by omega)) (fun _ _ _ => rfl)) (t'.2.2.2.1.cv (fun a b _ _ => hf a b (by omega))) (t'.2.2.2.2.1.cv (fun b => hf _ b (by omega))) (t'.2.2.2.2.2.1.fr (fun a b _ _ => hf a b (by omega)) (fun _ _ _ => rfl)) (t'.2.2.2.2.2.2.fr (fun a b _ _ => hf a b (by omega)) (fun _ _ _ => rfl))
    exact ⟨ta, ⟨by rw [hf _ _ (by omega), mo _ _ (by omega) (by omega)]; exact b1', by rw [hf _ _ (by omega), mo _ _ (by omega) (by omega)]; exact b2', by rw [mo _ _ (by omega) (by omega), mo _ _ (by omega) (by omega)]; exact b3'⟩, t2, s0.cv (fun a b _ _ => hf a b (by omega)), ca1.cv (fun a b _ _ => hf a b (by omega)), mt1.cv (fun a b _ _ => hf a b (by omega)), sn1.cv (fun a b _ => hf a b (by omega))⟩
  · rw [if_neg c1, if_neg (by omega)]
    exact ⟨_, _, _, rfl, rfl, h'⟩
end
