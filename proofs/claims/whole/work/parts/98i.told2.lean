theorem RD.fr {c c' m m' : IH} (h : RD c m) (hc : ∀ a b, 31 ≤ a → a ≤ 39 → c' a b = c a b) (hm : ∀ a b, ((a = 0 ∧ b = 26) ∨ (16 ≤ a ∧ a ≤ 17) ∨ (197 ≤ a ∧ a < 2205)) → m' a b = m a b) : RD c' m' := by
  obtain ⟨h1, h2, h3⟩ := h
  have m16 : m' 16 0 = m 16 0 := hm _ _ (by omega)
  unfold RD
  rw [m16, hm 0 26 (by omega), hm 17 0 (by omega), hc 31 0 (by omega) (by omega), hc 31 1 (by omega) (by omega)]
  refine ⟨h1, h2, fun t t1 t2 => ?_⟩
  obtain ⟨a1, a2, a3, a4, a5⟩ := h3 t t1 t2
  unfold TK
  rw [m16, hc 32 t (by omega) (by omega), hc 32 (t + 1) (by omega) (by omega), hc 33 t (by omega) (by omega), hc 34 t (by omega) (by omega), hc 35 t (by omega) (by omega), hm 197 t (by omega), hm 199 t (by omega), hm 201 t (by omega)]
  exact ⟨a1, a2, a3, a4, fun k k1 k2 => (a5 k k1 k2).mv (fun a b q1 q2 => hc a b (by omega) (by omega)) (fun b => hm _ _ (by omega))⟩
theorem FO.fr {c c' m m' : IH} (h : FO c m) (hc : ∀ a b, 49 ≤ a → a ≤ 52 → c' a b = c a b) (hm : ∀ a b, (a = 22 ∨ (2207 ≤ a ∧ a < 2327)) → m' a b = m a b) : FO c' m' := by
  obtain ⟨h1, h2, h3, h4⟩ := h
  unfold FO
  rw [hm 22 0 (by omega), hc 49 1 (by omega) (by omega)]
  refine ⟨h1, h2, h3, fun k k1 k2 => ?_⟩
  rw [hc 50 k (by omega) (by omega), hc 51 k (by omega) (by omega), hc 52 k (by omega) (by omega), hm _ 0 (by omega), hm _ 1 (by omega), hm _ 2 (by omega)]
  exact h4 k k1 k2
/-- the words, on both sides -/
def LL (c m : IH) : Prop := LXM m ∧ LXC c m ∧ ∃ P, PATH m P ∧ LG m P
theorem LL.fr {c c' m m' : IH} (h : LL c m) (hc : ∀ a b, 4 ≤ a → a ≤ 15 → c' a b = c a b) (hm : ∀ a b, ((a = 0 ∧ (b = 10 ∨ b = 15)) ∨ (5 ≤ a ∧ a ≤ 12) ∨ (52 ≤ a ∧ a < 112)) → m' a b = m a b) : LL c' m' := by
  obtain ⟨h1, h2, P, h3, h4⟩ := h
  have m10 : m' 0 10 = m 0 10 := hm _ _ (by omega)
  have m15 : m' 0 15 = m 0 15 := hm _ _ (by omega)
  have mf : ∀ a b, 5 ≤ a → a ≤ 12 → m' a b = m a b := fun a b q1 q2 => hm _ _ (by omega)
  have hW := h1.2.1
  have ms : ∀ a b, 52 ≤ a → a < 52 + m 0 10 → m' a b = m a b := fun a b q1 q2 => hm _ _ (by omega)
  refine ⟨h1.mv m10 m15 mf, (h2.cv hc).mv m10 m15 mf ms, P, h3.mv m10 m15 mf ms, ?_⟩
  unfold LG at *
  have m5 : ∀ b, m' 5 b = m 5 b := fun b => mf _ _ (by omega) (by omega)
  simp only [m10, m15, mf 8 _ (by omega) (by omega), mf 9 _ (by omega) (by omega), m5, mf 12 _ (by omega) (by omega), thr_mv m5]
  exact h4
section
variable {N : Nat} {c m : IH}
theorem TR.mk (hl : LL c m) (hs : SR c m) (hk : KR c m) (hr : RD c m) (hf : FO c m) : TR c m := ⟨hl.1, hl.2.1, hl.2.2, hs, hk, hr, hf⟩
theorem TR.ll (h : TR c m) : LL c m := ⟨h.1, h.2.1, h.2.2.1⟩
/-- all that was kept is forgotten -/
theorem changedS (hN : 20000 ≤ N) : ∃ c', G_X11_changed N c = some c' ∧ (∀ r, 0 ≤ r → r < 140 → c' 75 r = 0) ∧ c' 80 3 = 0 ∧ c' 84 4 = 0 ∧ ∀ a b, a ≠ 75 → ¬ (a = 80 ∧ b = 3) → ¬ (a = 84 ∧ b = 4) → c' a b = c a b := by
  have lp : ∀ (f : Nat) (c : IH) (k : Int), 0 ≤ k → k ≤ 140 → (∀ r, 0 ≤ r → r < k → c 75 r = 0) → 140 - k < f → ∃ c', G_X0_forgetAll_2 N f c k = some c' ∧ (∀ r, 0 ≤ r → r < 140 → c' 75 r = 0) ∧ ∀ a b, a ≠ 75 → c' a b = c a b := by
    intro f
    induction f with
    | zero => intro c k h1 h2 h3 h4; omega
    | succ f ih =>
      intro c k h1 h2 h3 h4
      unfold G_X0_forgetAll_2
      by_cases c1 : 140 ≤ k
      · rw [if_pos c1]
        exact ⟨c, rfl, fun r a b => h3 r a (by omega), fun _ _ _ => rfl⟩
      · rw [if_neg c1]
        simp (disch := omega) only [xlet_q, xq_in]
        rw [wr_in (by omega) (by omega), ynar_0]
        obtain ⟨c', a1, a2, a3⟩ := ih (xv c 75 k 0) (k + 1) (by omega) (by omega) (fun r a b => by
          by_cases cr : r = k
          · rw [xv_eq rfl cr]
          · rw [xv_ne (by omega)]; exact h3 r a (by omega)) (by omega)
        exact ⟨c', a1, a2, fun a b q => by rw [a3 a b q, xv_ne (by omega)]⟩
  obtain ⟨c1, a1, a2, a3⟩ := lp N c 0 (by omega) (by omega) (fun r a b => by omega) (by omega)
  unfold G_X11_changed G_X0_forgetAll
  rw [xlet_q, a1, ybv_s]
  simp only [xlet_q]
  exact ⟨_, rfl, fun r p q => by rw [xv_ne (by omega), xv_ne (by omega)]; exact a2 r p q, by rw [xv_ne (by omega), xv_eq rfl rfl], xv_eq rfl rfl, fun a b q1 q2 q3 => by rw [xv_ne q3, xv_ne q2, a3 a b q1]⟩
/-- new things told -/
theorem R.new {c c' m' : IH} (ta : TA c m') (h14 : c 0 14 = m' 1 0) (h15 : c 0 15 = m' 1 1) (h11 : m' 0 10 = 0 → m' 11 0 = -1) (t : TR c m') (s : SL c) (h75 : ∀ r, 0 ≤ r → r < 140 → c' 75 r = 0) (h80 : c' 80 3 = 0) (h84 : c' 84 4 = 0) (hf : ∀ a b, a ≠ 75 → ¬ (a = 80 ∧ b = 3) → ¬ (a = 84 ∧ b = 4) → c' a b = c a b) : R N c' m' := by
  have h40 := t.2.2.2.2.2.1.1
  have w60 := t.1.2.1
  exact ⟨ta.cv (fun a b q => hf a b (by omega) (by omega) (by omega)), ⟨by rw [hf _ _ (by omega) (by omega) (by omega)]; exact h14, by rw [hf _ _ (by omega) (by omega) (by omega)]; exact h15, h11⟩, t.pr (fun a b q => hf a b (by omega) (by omega) (by omega)) TM.rf, s.cv (fun a b _ _ => hf a b (by omega) (by omega) (by omega)), ⟨fun t q1 q2 => Or.inl (h75 _ (by omega) (by omega)), fun t q1 q2 _ => Or.inl (h75 _ (by omega) (by omega)), fun w q1 q2 => Or.inl (h75 _ (by omega) (by omega))⟩, Or.inl h80, Or.inl h84⟩
theorem S_set {p q : Int} (hN : 20000 ≤ N) (h : R N c m) : CX N 0 1 (G_X11_set N c p q) (G_X12_set N m p q) := by
  unfold G_X11_set G_X12_set G_X12_set_30 G_X12_set_36
  have h' := h.m0 hN
  have z : xv m 0 0 0 0 0 = 0 := xv_eq rfl rfl
  rw [xlet_q]
  generalize xv m 0 0 0 = m at h' z ⊢
  rw [needB, inM, yb_s]
  by_cases c1 : 0 ≤ p ∧ p ≤ 6
  · rw [if_pos c1, if_pos c1, bx0, if_neg i10]
    simp (disch := omega) only [xq_in]
    rw [needB, inM, inM, yb_s, yb_s]
    have ey : (if p = 0 then (if (if 0 ≤ q ∧ q ≤ 999 then (1 : Int) else 0) = 0 then G_X12_set_41 N m p q 1 else G_X12_set_41 N m p q 0) else (if (if 0 ≤ q ∧ q ≤ 99 then (1 : Int) else 0) = 0 then G_X12_set_41 N m p q 1 else G_X12_set_41 N m p q 0)) = if 0 ≤ q ∧ q ≤ yhcv p then G_X12_set_41 N m p q 0 else G_X12_set_41 N m p q 1 := by
      unfold yhcv
      by_cases x1 : p = 0
      · rw [if_pos x1, if_pos x1]
        by_cases x2 : 0 ≤ q ∧ q ≤ 999
        · rw [if_pos x2, if_pos x2, if_neg i10]
        · rw [if_neg x2, if_neg x2, if_pos rfl]
      · rw [if_neg x1, if_neg x1]
        by_cases x2 : 0 ≤ q ∧ q ≤ 99
        · rw [if_pos x2, if_pos x2, if_neg i10]
        · rw [if_neg x2, if_neg x2, if_pos rfl]
    rw [ey]
    unfold G_X12_set_41
    by_cases c2 : 0 ≤ q ∧ q ≤ yhcv p
    · rw [if_pos c2, if_pos c2, bx0, bad0 z, yb_s, if_pos rfl]
      simp (disch := omega) only [xlet_q, xq_in]
      have hk := h'.tr.2.2.2.2.1
      rw [(hk p c1.1 (by omega)).1]
      obtain ⟨c', a1, a2, a3, a4, a5⟩ := changedS (N := N) (c := xv c 1 p q) hN
      rw [a1, ybv_s]
      have co : ∀ a b, ¬ (a = 1) → xv c 1 p q a b = c a b := fun a b x => xv_ne (by omega)
      have mo : ∀ a b, ¬ (a = 3) → xv m 3 p q a b = m a b := fun a b x => xv_ne (by omega)
      have yh : q ≤ 999 ∧ (p ≠ 0 → q ≤ 99) := by
        unfold yhcv at c2
        by_cases x1 : p = 0
        · rw [if_pos x1] at c2; omega
        · rw [if_neg x1] at c2; omega
      have t' : TR (xv c 1 p q) (xv m 3 p q) := TR.mk (h'.tr.ll.fr (fun a b _ _ => co a b (by omega)) (fun a b _ => mo a b (by omega))) ((h'.tr.2.2.2.1.cv (fun a b _ _ => co a b (by omega))).mv (mo _ _ (by omega)) (fun a b _ _ => mo a b (by omega)) (fun a b _ _ => mo a b (by omega))) (fun j j1 j2 => by
        by_cases x1 : j = p
        · rw [xv_eq rfl x1, xv_eq rfl x1]
          exact ⟨rfl, by omega, by omega, fun x => yh.2 (by omega)⟩
        · rw [xv_ne (by omega), xv_ne (by omega)]
          exact hk j j1 j2) (h'.tr.2.2.2.2.2.1.fr (fun a b _ _ => co a b (by omega)) (fun a b _ => mo a b (by omega))) (h'.tr.2.2.2.2.2.2.fr (fun a b _ _ => co a b (by omega)) (fun a b _ => mo a b (by omega)))
      have ta : TA (xv c 1 p q) (xv m 3 p q) := by
        obtain ⟨b1, b2, b3, b4, b5⟩ := h'.1
        unfold TA
        rw [mo 0 2 (by omega), mo 0 5 (by omega), co 2 1 (by omega), co 2 5 (by omega)]
        exact ⟨b1, b2, b3, fun j j1 j2 => by rw [mo 2 j (by omega), co 3 j (by omega)]; exact b4 j j1 j2, b5⟩
      have hr : R N c' (xv m 3 p q) := R.new ta (by rw [mo _ _ (by omega), co _ _ (by omega)]; exact h'.2.1.1) (by rw [mo _ _ (by omega), co _ _ (by omega)]; exact h'.2.1.2.1) (by rw [mo _ _ (by omega), mo _ _ (by omega)]; exact h'.2.1.2.2) t' (h'.2.2.2.1.cv (fun a b _ _ => co a b (by omega))) a2 a3 a4 a5
      exact CX.ok hr (by rw [mo _ _ (by omega)]; exact z)
    · rw [if_neg c2, if_neg c2, bx2]
      exact cxB hN h' z (by omega)
  · unfold G_X12_set_41
    rw [if_neg c1, if_neg c1, bx2, if_pos rfl]
    exact cxB hN h' z (by omega)
end
