section
variable {N : Nat} {c m : IH}
theorem rowAT {t : Int} (hN : 20000 ≤ N) (h : TR c m) (hs : SL c) (hC : CA N c m) (ht : 0 ≤ t ∧ t < m 16 0) (h1 : c 75 t = 1) : RWM c t (AT N m t) := by
  rcases hC.1 t ht.1 ht.2 with q | ⟨_, m2, g, k⟩
  · omega
  · rw [← g.uq (AT.gv hN h hs ht)]
    exact k
theorem rowAJ {t : Int} (hN : 20000 ≤ N) (h : TR c m) (hs : SL c) (hC : CA N c m) (ht : 0 ≤ t) (hj : jn m t) (h1 : c 75 (40 + t) = 1) : RWM c (40 + t) (AJ N m t) := by
  rcases hC.2.1 t ht hj.1 hj.2.2 with q | ⟨_, m2, g, k⟩
  · omega
  · rw [← g.uq (AJ.gv hN h hs ht hj)]
    exact k
theorem mayJoinS {t : Int} (h : TR c m) (ht : 0 ≤ t ∧ t < m 16 0) : (jn m t ∧ G_X0_mayJoin N c t = some (1, c)) ∨ (¬ jn m t ∧ G_X0_mayJoin N c t = some (0, c)) := by
  have h40 := h.2.2.2.2.2.1.1
  have hT := h.2.2.2.2.2.1.2.2 t ht.1 ht.2
  unfold G_X0_mayJoin G_X0_joinedCells
  rw [wr_in (show -2147483648 ≤ t + 1 by omega) (by omega), h40.1]
  by_cases c1 : m 16 0 ≤ t + 1
  · right
    rw [if_pos c1]
    exact ⟨fun q => by have := q.1; omega, rfl⟩
  · rw [if_neg c1]
    (try simp (disch := omega) only [xlet_q, xq_in])
    by_cases c2 : m 201 t = 1
    · rw [if_neg (by rw [hT.2.2.1, if_pos ⟨by omega, c2⟩]; omega), cellsS h.2.2.2.2.2.1 ht, yb_s, cellsS h.2.2.2.2.2.1 ⟨by omega, by omega⟩, yb_s, yb_s]
      have hT1 := h.2.2.2.2.2.1.2.2 (t + 1) (by omega) (by omega)
      have hb := hT.1
      have hb1 := hT1.1
      rw [wr_in (show -2147483648 ≤ m 197 t + m 197 (t + 1) by omega) (by omega)]
      by_cases c3 : 24 < m 197 t + m 197 (t + 1)
      · right
        rw [if_pos c3]
        exact ⟨fun q => by have := q.2.2; omega, rfl⟩
      · left
        rw [if_neg c3]
        exact ⟨⟨by omega, c2, by omega⟩, rfl⟩
    · right
      rw [if_pos (by rw [hT.2.2.1, if_neg (fun q => c2 q.2)])]
      exact ⟨fun q => c2 q.2.1, rfl⟩
theorem joinedPS {t : Int} (hN : 20000 ≤ N) (h : TR c m) (hs : SL c) (ht : 0 ≤ t ∧ t < m 16 0) (hj : jn m t) (hR : RWM c (40 + t) (AJ N m t)) : G_X0_joinedPrice N c t = some ((if bw N m t = -1 then -1 else ba N m t), c) := by
  have h40 := h.2.2.2.2.2.1.1
  have hT := (h.2.2.2.2.2.1.2.2 t ht.1 ht.2).1
  have hj1 := hj.1
  have hj2 := hj.2.2
  have hT1 := (h.2.2.2.2.2.1.2.2 (t + 1) (by omega) hj.1).1
  have hK := h.2.2.2.2.1
  have o := op_rng (n := m 197 t + m 197 (t + 1)) hK (by omega)
  have k5 := hK 5 (by omega) (by omega)
  have rb := AJ.rb hN h hs ht.1 hj
  unfold G_X0_joinedPrice G_X0_joinedCells G_X0_joinedPrice_40
  rw [wr_in (show -2147483648 ≤ 40 + t by omega) (by omega), priceOfS hR (by omega), yb_s, xlet_q, cellsS h.2.2.2.2.2.1 ht, yb_s, wr_in (show -2147483648 ≤ t + 1 by omega) (by omega), cellsS h.2.2.2.2.2.1 ⟨by omega, by omega⟩, yb_s, yb_s, xlet_q, wr_in (show -2147483648 ≤ m 197 t + m 197 (t + 1) by omega) (by omega), (hK 0 (by omega) (by omega)).1, (hK 1 (by omega) (by omega)).1, k5.1]
  have eo : m 3 0 + m 3 1 * (m 197 t + m 197 (t + 1)) = op m (m 197 t + m 197 (t + 1)) := rfl
  rw [eo, wr_in (show -2147483648 ≤ op m (m 197 t + m 197 (t + 1)) by omega) (by omega)]
  have ebw : bw N m t = wi (AJ N m t) (op m (m 197 t + m 197 (t + 1))) 0 := by unfold bw; rw [if_pos hj]
  have eba : ba N m t = mp (AJ N m t) (op m (m 197 t + m 197 (t + 1))) + m 3 5 := rfl
  unfold pr
  by_cases c1 : 0 ≤ (0 : Int) ∧ 0 < (AJ N m t) 0 49
  · have b := rb.2.1 0 c1.1 c1.2
    rw [if_pos c1, if_neg (by omega)]
    by_cases c2 : (AJ N m t) 34 0 ≤ op m (m 197 t + m 197 (t + 1))
    · have w : bw N m t = (AJ N m t) 33 0 := by rw [ebw]; unfold wi; rw [if_pos ⟨c1.1, c1.2, c2⟩]
      rw [if_pos c2, if_neg (by omega), eba]
      unfold mp
      rw [← ebw, if_neg (by omega), wr_in (by omega) (by omega)]
    · have w : bw N m t = -1 := by rw [ebw]; unfold wi; rw [if_neg (fun q => c2 q.2.2)]
      rw [if_neg c2, if_pos w]
  · have w : bw N m t = -1 := by rw [ebw]; unfold wi; rw [if_neg (fun q => c1 ⟨q.1, q.2.1⟩)]
    rw [if_neg c1, if_pos rfl, if_pos w]
theorem chooseS {t : Int} (hN : 20000 ≤ N) (h : TR c m) (hs : SL c) (ht : 0 ≤ t ∧ t < m 16 0) (hR : RWM c t (AT N m t)) (hJ : jn m t → RWM c (40 + t) (AJ N m t)) (h0 : c 83 (m 16 0) = 0) (hD : ∀ s, t < s → s < m 16 0 → DR N m (m 16 0) (c 83) (c 82) s) : ∃ c', G_X3_choose N c t = some c' ∧ DR N m (m 16 0) (c' 83) (c' 82) t ∧ ∀ a b, ¬ ((a = 82 ∨ a = 83) ∧ b = t) → c' a b = c a b := by
  have h40 := h.2.2.2.2.2.1.1
  have ra := aa_rng hN h hs ht
  have hg1 : 0 ≤ c 83 (t + 1) ∧ c 83 (t + 1) ≤ (m 16 0 - (t + 1)) * 3500 := by
    by_cases ce : t + 1 = m 16 0
    · rw [ce, h0]; omega
    · exact (hD (t + 1) (by omega) (by omega)).2
  unfold G_X3_choose
  rw [mendedPS h ht hR, yb_s]
  simp (disch := omega) only [xlet_q, xq_in]
  rw [show mp (AT N m t) (op m (m 197 t)) = aa N m t from rfl, wr_in (show -2147483648 ≤ aa N m t + c 83 (t + 1) by omega) (by omega), ynar_0]
  generalize hc2 : xv (xv c 83 t (aa N m t + c 83 (t + 1))) 82 t 0 = c2
  have co : ∀ a b, ¬ ((a = 82 ∨ a = 83) ∧ b = t) → c2 a b = c a b := fun a b q => by rw [← hc2, xv_ne (by omega), xv_ne (by omega)]
  have c83 : c2 83 t = aa N m t + c 83 (t + 1) := by rw [← hc2, xv_ne (by omega), xv_eq rfl rfl]
  have c82 : c2 82 t = 0 := by rw [← hc2, xv_eq rfl rfl]
  have tc : TC c c2 := fun a b q => co a b (by omega)
  have h2 := h.pr tc TM.rf
  have hs2 := hs.cv (c' := c2) (fun a b q1 q2 => co a b (by omega))
  have no : ¬ (bw N m t ≠ -1 ∧ ba N m t + c 83 (t + 2) < aa N m t + c 83 (t + 1)) → DR N m (m 16 0) (c2 83) (c2 82) t := by
    intro q
    unfold DR
    rw [c83, c82, co 83 (t + 1) (by omega), co 83 (t + 2) (by omega)]
    exact ⟨Or.inr ⟨rfl, q, rfl⟩, by omega, by omega⟩
  unfold G_X3_choose_53
  rcases mayJoinS (N := N) h2 ht with ⟨hj, e⟩ | ⟨hj, e⟩
  · rw [e, yb_s, if_neg (by omega), joinedPS hN h2 hs2 ht hj ((hJ hj).cv (co _ _ (by omega)) (fun a j q1 q2 q3 q4 => co _ _ (by omega))), yb_s, xlet_q]
    by_cases cb : bw N m t = -1
    · rw [if_pos cb, if_pos rfl]
      exact ⟨c2, rfl, no (fun q => q.1 cb), co⟩
    · have hj1 := hj.1
      have rb := ba_rng hN h hs ht.1 hj
      have hg2 : 0 ≤ c 83 (t + 2) ∧ c 83 (t + 2) ≤ (m 16 0 - (t + 2)) * 3500 := by
        by_cases ce : t + 2 = m 16 0
        · rw [ce, h0]; omega
        · exact (hD (t + 2) (by omega) (by omega)).2
      rw [if_neg cb, if_neg (by omega)]
      simp (disch := omega) only [xlet_q, xq_in]
      rw [c83, co 83 (t + 2) (by omega), wr_in (show -2147483648 ≤ ba N m t + c 83 (t + 2) by omega) (by omega), ynar_1]
      by_cases c3 : aa N m t + c 83 (t + 1) ≤ ba N m t + c 83 (t + 2)
      · rw [if_pos c3]
        exact ⟨c2, rfl, no (fun q => by omega), co⟩
      · rw [if_neg c3]
        refine ⟨_, rfl, ?_, fun a b q => by rw [xv_ne (by omega), xv_ne (by omega), co a b q]⟩
        unfold DR
        rw [xv_eq rfl rfl, xv_ne (show ¬ ((83 : Int) = 82 ∧ t = t) by omega), xv_eq rfl rfl, xv_ne (show ¬ ((83 : Int) = 82 ∧ t + 1 = t) by omega), xv_ne (show ¬ ((83 : Int) = 83 ∧ t + 1 = t) by omega), xv_ne (show ¬ ((83 : Int) = 82 ∧ t + 2 = t) by omega), xv_ne (show ¬ ((83 : Int) = 83 ∧ t + 2 = t) by omega), co 83 (t + 1) (by omega), co 83 (t + 2) (by omega)]
        exact ⟨Or.inl ⟨rfl, cb, by omega, rfl⟩, by omega, by omega⟩
  · rw [e, yb_s, if_pos rfl, xlet_q, if_pos rfl]
    exact ⟨c2, rfl, no (fun q => hj (bw_jn q.1)), co⟩
end
/-- looks with the text's rows being written -/
def LK2 (N : Nat) (c m c' : IH) : Prop := TR c' m ∧ SL c' ∧ CA N c' m ∧ TC c c' ∧ (∀ a b, 83 < a → c' a b = c a b) ∧ c' 0 14 = c 0 14 ∧ c' 0 15 = c 0 15 ∧ (∀ b, c' 80 b = c 80 b) ∧ (∀ b, c' 81 b = c 81 b)
theorem make31 {N : Nat} {m : IH} (hN : 20000 ≤ N) : ∀ (f : Nat) (c : IH) (t : Int), TR c m → SL c → CA N c m → c 83 (m 16 0) = 0 → (∀ s, t < s → s < m 16 0 → DR N m (m 16 0) (c 83) (c 82) s ∧ c 75 s = 1 ∧ (jn m s → c 75 (40 + s) = 1)) → -1 ≤ t → t < m 16 0 → t + 1 < f → ∃ c', G_X3_make_31 N f c t = ybv (G_X3_write N (xv (xv (xv (xv c' 80 5 (c' 83 0)) 80 4 0) 80 6 0) 80 7 0)) (fun a => some (xv a 80 3 1)) ∧ LK2 N c m c' ∧ c' 83 (m 16 0) = 0 ∧ ∀ s, 0 ≤ s → s < m 16 0 → DR N m (m 16 0) (c' 83) (c' 82) s ∧ c' 75 s = 1 ∧ (jn m s → c' 75 (40 + s) = 1) := by
  intro f
  induction f with
  | zero => intro c t h hs hC h3 h4 h5 h6 h7; omega
  | succ f ih =>
    intro c t h hs hC h3 h4 h5 h6 h7
    have h40 := h.2.2.2.2.2.1.1
    unfold G_X3_make_31
    by_cases c1 : t < 0
    · rw [if_pos c1]
      simp only [xlet_q]
      exact ⟨c, rfl, ⟨h, hs, hC, TC.rf, fun _ _ _ => rfl, rfl, rfl, fun _ => rfl, fun _ => rfl⟩, h3, fun s s1 s2 => h4 s (by omega) s2⟩
    · rw [if_neg c1]
      have ht : 0 ≤ t ∧ t < m 16 0 := ⟨by omega, h6⟩
      obtain ⟨c1', m2, e1, e2, e3, e4, e5⟩ := aloneS hN h hs hC ht
      rw [e1, ybv_s]
      obtain ⟨l1, l2, l3, l4, l5, l6, l7, l8⟩ := id e5
      -- what is left when both rows stand
      have fin : ∀ c2, LKg N c m c2 → c2 75 t = 1 → (jn m t → c2 75 (40 + t) = 1) → ∃ c', G_X3_make_62 N (G_X3_make_31 N f) c2 t = ybv (G_X3_write N (xv (xv (xv (xv c' 80 5 (c' 83 0)) 80 4 0) 80 6 0) 80 7 0)) (fun a => some (xv a 80 3 1)) ∧ LK2 N c m c' ∧ c' 83 (m 16 0) = 0 ∧ ∀ s, 0 ≤ s → s < m 16 0 → DR N m (m 16 0) (c' 83) (c' 82) s ∧ c' 75 s = 1 ∧ (jn m s → c' 75 (40 + s) = 1) := by
        intro c2 k k1 k2
        obtain ⟨p1, p2, p3, p4, p5, p6, p7, p8⟩ := id k
        have d83 : ∀ b, c2 83 b = c 83 b := fun b => p5 _ _ (by omega)
        have d82 : ∀ b, c2 82 b = c 82 b := fun b => p5 _ _ (by omega)
        have hD : ∀ s, t < s → s < m 16 0 → DR N m (m 16 0) (c2 83) (c2 82) s := fun s s1 s2 => by
          have := (h4 s s1 s2).1
          unfold DR at *
          rw [d83, d83, d83, d82]
          exact this
        obtain ⟨c3, g1, g2, g3⟩ := chooseS hN p1 p2 ht (rowAT hN p1 p2 p3 ht k1) (fun hj => rowAJ hN p1 p2 p3 ht.1 hj (k2 hj)) (by rw [d83]; exact h3) hD
        unfold G_X3_make_62
        rw [g1, ybv_s, xlet_q, wr_in (by omega) (by omega)]
        have tc3 : TC c2 c3 := fun a b q => g3 a b (by omega)
        obtain ⟨c', i1, i2, i3, i4⟩ := ih c3 (t + -1) (p1.pr tc3 TM.rf) (p2.cv (fun a b q1 q2 => g3 a b (by omega))) (p3.cv (fun a b q1 q2 => g3 a b (by omega))) (by rw [g3 83 _ (by omega), d83]; exact h3) (fun s s1 s2 => by
          by_cases cs : s = t
          · subst cs
            exact ⟨g2, by rw [g3 75 _ (by omega)]; exact k1, fun hj => by rw [g3 75 _ (by omega)]; exact k2 hj⟩
          · have old := h4 s (by omega) s2
            refine ⟨?_, by rw [g3 75 _ (by omega)]; exact p8 _ old.2.1, fun hj => by rw [g3 75 _ (by omega)]; exact p8 _ (old.2.2 hj)⟩
            have := hD s (by omega) s2
            unfold DR at *
            rw [g3 83 s (by omega), g3 83 (s + 1) (by omega), g3 83 (s + 2) (by omega), g3 82 s (by omega)]
            exact this) (by omega) (by omega) (by omega)
        obtain ⟨j1, j2, j3, j4, j5, j6, j7, j8, j9⟩ := i2
        refine ⟨c', i1, ⟨j1, j2, j3, (p4.tr tc3).tr j4, fun a b q => by rw [j5 a b q, g3 a b (by omega), p5 a b (by omega)], by rw [j6, g3 _ _ (by omega)]; exact p6, by rw [j7, g3 _ _ (by omega)]; exact p7, fun b => by rw [j8, g3 _ _ (by omega), p5 _ _ (by omega)], fun b => by rw [j9, g3 _ _ (by omega), p5 _ _ (by omega)]⟩, i3, i4⟩
      rcases mayJoinS (N := N) l1 ht with ⟨hj, e⟩ | ⟨hj, e⟩
      · rw [e, yb_s, if_neg (by omega)]
        obtain ⟨c2, m3, f1, f2, f3, f4, f5⟩ := joinedS hN l1 l2 l3 ⟨ht.1, hj.1⟩ hj.2.2
        rw [f1, ybv_s]
        exact fin c2 (e5.tr f5) (f5.2.2.2.2.2.2.2 t e4) (fun _ => f4)
      · rw [e, yb_s, if_pos rfl]
        exact fin c1' e5 e4 (fun q => absurd q hj)
