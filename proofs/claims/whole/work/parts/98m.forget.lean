section
variable {N : Nat} {c m : IH}
theorem plantS (hN : 20000 ≤ N) (h10 : m 0 10 = 0) : ∃ c' m', G_X2_clear N c = some c' ∧ G_X12_plants N m = some m' ∧ LL c' m' ∧ (m' 0 10 = 0 → m' 11 0 = -1) ∧ (∀ a b, a ≠ 4 → ¬ (9 ≤ a ∧ a ≤ 15) → c' a b = c a b) ∧ ∀ a b, ¬ (a = 0 ∧ b = 15) → ¬ (8 ≤ a ∧ a ≤ 12) → m' a b = m a b := by
  unfold G_X2_clear G_X2_addNode G_X12_plants
  simp (disch := omega) only [xlet_q, xv_ne]
  rw [xv_eq rfl rfl]
  rw [if_pos (show (0 : Int) < 721 by omega), if_pos (show (-1 : Int) < 0 by omega)]
  simp (disch := omega) only [xq_in]
  rw [wr_in (show -2147483648 ≤ (0 : Int) + 1 by omega) (by omega), yb_s]
  generalize hc1 : xv (xv (xv (xv (xv (xv (xv (xv (xv (xv c 4 0 0) 4 5 0) 4 5 (0 + 1)) 9 0 (-1)) 10 0 0) 11 0 (-1)) 12 0 (-1)) 13 0 (-1)) 14 0 0) 15 0 (-1) = c1
  generalize hm1 : xv (xv (xv (xv m 0 15 1) 8 0 (-1)) 9 0 0) 10 0 (-1) = m1
  have k1 : c1 4 0 = 0 := by rw [← hc1]; simp (disch := omega) only [xv_ne]; exact xv_eq rfl rfl
  have k2 : c1 4 5 = 1 := by rw [← hc1]; simp (disch := omega) only [xv_ne]; rw [xv_eq rfl rfl]; omega
  have k3 : c1 9 0 = -1 := by rw [← hc1]; simp (disch := omega) only [xv_ne]; exact xv_eq rfl rfl
  have k4 : c1 10 0 = 0 := by rw [← hc1]; simp (disch := omega) only [xv_ne]; exact xv_eq rfl rfl
  have k5 : c1 11 0 = -1 := by rw [← hc1]; simp (disch := omega) only [xv_ne]; exact xv_eq rfl rfl
  have k6 : c1 12 0 = -1 := by rw [← hc1]; simp (disch := omega) only [xv_ne]; exact xv_eq rfl rfl
  have k7 : c1 14 0 = 0 := by rw [← hc1]; simp (disch := omega) only [xv_ne]; exact xv_eq rfl rfl
  have k8 : c1 15 0 = -1 := by rw [← hc1]; exact xv_eq rfl rfl
  have ko : ∀ a b, a ≠ 4 → ¬ (9 ≤ a ∧ a ≤ 15) → c1 a b = c a b := fun a b q1 q2 => by rw [← hc1]; simp (disch := omega) only [xv_ne]
  have j1 : m1 0 15 = 1 := by rw [← hm1]; simp (disch := omega) only [xv_ne]; exact xv_eq rfl rfl
  have j2 : m1 8 0 = -1 := by rw [← hm1]; simp (disch := omega) only [xv_ne]; exact xv_eq rfl rfl
  have j3 : m1 9 0 = 0 := by rw [← hm1]; simp (disch := omega) only [xv_ne]; exact xv_eq rfl rfl
  have j4 : m1 10 0 = -1 := by rw [← hm1]; exact xv_eq rfl rfl
  have jo : ∀ a b, ¬ (a = 0 ∧ b = 15) → ¬ (8 ≤ a ∧ a ≤ 10) → m1 a b = m a b := fun a b q1 q2 => by rw [← hm1]; simp (disch := omega) only [xv_ne]
  have j5 : m1 0 10 = 0 := by rw [jo _ _ (by omega) (by omega)]; exact h10
  have x0 : ∀ x : Int, 0 ≤ x → x < m1 0 15 → x = 0 := fun x q1 q2 => by omega
  have tw : TW c1 m1 (fun _ _ => 0) := ⟨⟨by omega, fun x q1 q2 => by omega, fun x y q1 q2 q3 => by omega⟩, by omega, fun w q1 q2 => by omega, fun w q1 q2 => by omega, j2, by omega, by omega, fun x q1 q2 => by rw [x0 x q1 q2, k3, j2]⟩
  have tc : TrC c1 m1 := ⟨by omega, fun x q1 q2 => by rw [x0 x q1 q2, k3, k4, k5, j2, j3, j4]; exact ⟨rfl, rfl, rfl⟩, fun x q1 q2 => Or.inl (by rw [x0 x q1 q2]; exact ⟨k6, fun y q3 q4 => by omega⟩), fun x q1 q2 => by omega⟩
  obtain ⟨c2, m2, a1, a2, a3, a4, a5⟩ := weighsS (N := N) hN tw
  have e0 : (m1 0 10).toNat = 0 := by omega
  have ll := LL.wg (c' := c1) (m' := m2) tw (fun x q1 q2 => Or.inl (by rw [x0 x q1 q2]; exact j4)) (fun w q1 q2 => by omega) tc (fun w q1 q2 => by omega) ⟨⟨by omega, j2, j3⟩, fun x q1 q2 => by omega⟩ (fun x q1 q2 => by rw [x0 x q1 q2, e0, k7]; rfl) (fun _ _ _ => rfl) a4 (fun x q1 q2 => by
    have := a5 x q1 q2
    refine ⟨?_, this.2.1, this.2.2⟩
    rw [this.2.1, e0, x0 x q1 q2, k8]
    rfl)
  rw [a2, ybv_s]
  exact ⟨c1, m2, rfl, rfl, ll.1, ll.2, ko, fun a b q1 q2 => by rw [a4 a b (by omega) (by omega), jo a b q1 (by omega)]⟩
theorem S_forget (hN : 20000 ≤ N) (h : R N c m) : CN N (G_X11_forget N c) (G_X12_forget N m) := by
  unfold G_X11_forget G_X12_forget G_X1_clear
  have h' := h.m0 hN
  simp only [xlet_q]
  generalize xv m 0 0 0 = m at h' ⊢
  generalize hm1 : xv (xv m 0 10 0) 22 0 0 = m1
  obtain ⟨c', m', a1, a2, a3, a4, a5, a6⟩ := plantS (N := N) (c := c) (m := m1) hN (by rw [← hm1, xv_ne (by omega), xv_eq rfl rfl])
  rw [a1, a2, ybv_s, ybv_s, ybv_s]
  obtain ⟨c2, g1, g2, g3, g4, g5⟩ := changedS (N := N) (c := xv c' 49 1 0) hN
  rw [g1, ybv_s, h'.tr.2.1.1]
  refine ⟨_, c2, m', rfl, rfl, ?_⟩
  have co : ∀ a b, ¬ (a = 4) → ¬ (9 ≤ a ∧ a ≤ 15) → ¬ (a = 49) → xv c' 49 1 0 a b = c a b := fun a b q1 q2 q3 => by rw [xv_ne (by omega), a5 a b q1 q2]
  have mo : ∀ a b, ¬ (a = 0 ∧ (b = 10 ∨ b = 15)) → ¬ (8 ≤ a ∧ a ≤ 12) → a ≠ 22 → m' a b = m a b := fun a b q1 q2 q3 => by rw [a6 a b (by omega) q2, ← hm1, xv_ne (by omega), xv_ne (by omega)]
  have t' : TR (xv c' 49 1 0) m' := TR.mk (a3.fr (fun a b _ _ => xv_ne (by omega)) (fun _ _ _ => rfl)) ((h'.tr.2.2.2.1.cv (fun a b _ _ => co a b (by omega) (by omega) (by omega))).mv (mo _ _ (by omega) (by omega) (by omega)) (fun a b _ _ => mo a b (by omega) (by omega) (by omega)) (fun a b _ _ => mo a b (by omega) (by omega) (by omega))) ((h'.tr.2.2.2.2.1.cv (fun b => co _ b (by omega) (by omega) (by omega))).mv (fun b => mo _ b (by omega) (by omega) (by omega))) (h'.tr.2.2.2.2.2.1.fr (fun a b _ _ => co a b (by omega) (by omega) (by omega)) (fun a b q => mo a b (by omega) (by omega) (by omega))) (by
    have e22 : m' 22 0 = 0 := by rw [a6 _ _ (by omega) (by omega), ← hm1, xv_eq rfl rfl]
    exact ⟨by rw [xv_eq rfl rfl, e22], by omega, by omega, fun k q1 q2 => by omega⟩)
  have ta : TA (xv c' 49 1 0) m' := by
    obtain ⟨b1, b2, b3, b4, b5⟩ := h'.1
    unfold TA
    rw [mo 0 2 (by omega) (by omega) (by omega), mo 0 5 (by omega) (by omega) (by omega), co 2 1 (by omega) (by omega) (by omega), co 2 5 (by omega) (by omega) (by omega)]
    exact ⟨b1, b2, b3, fun j j1 j2 => by rw [mo 2 j (by omega) (by omega) (by omega), co 3 j (by omega) (by omega) (by omega)]; exact b4 j j1 j2, b5⟩
  exact R.new ta (by rw [mo _ _ (by omega) (by omega) (by omega), co _ _ (by omega) (by omega) (by omega)]; exact h'.2.1.1) (by rw [mo _ _ (by omega) (by omega) (by omega), co _ _ (by omega) (by omega) (by omega)]; exact h'.2.1.2.1) a4 t' (h'.2.2.2.1.cv (fun a b _ _ => co a b (by omega) (by omega) (by omega))) g2 g3 g4 g5
end
