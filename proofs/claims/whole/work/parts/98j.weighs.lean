def ud2 (a v : Int) : Int := if a = -1 then v else if a ≤ v then a else v
/-- the least weight of the first words through a node -/
noncomputable def lst (m : IH) (P : Int → Int → Int) (x : Int) : Nat → Int
  | 0 => -1
  | w + 1 => @ite _ (∃ k, 0 ≤ k ∧ k ≤ m 5 w ∧ P w k = x) (Classical.propDecidable _) (ud2 (lst m P x w) (m 6 w)) (lst m P x w)
/-- words and nodes but for what is weighed -/
def TW (c m : IH) (P : Int → Int → Int) : Prop := TrM m ∧ (0 ≤ m 0 10 ∧ m 0 10 ≤ 60) ∧ (∀ w, 0 ≤ w → w < m 0 10 → (1 ≤ m 5 w ∧ m 5 w ≤ 12) ∧ (0 ≤ m 6 w ∧ m 6 w ≤ 99) ∧ (1 ≤ m 7 w ∧ m 7 w < m 0 15) ∧ c 6 w = m 6 w ∧ c 7 w = m 7 w) ∧ PATH m P ∧ m 8 0 = -1 ∧ c 4 0 = m 0 10 ∧ c 4 5 = m 0 15 ∧ ∀ x, 0 ≤ x → x < m 0 15 → c 9 x = m 8 x
section
variable {N : Nat} {c m : IH} {P : Int → Int → Int}
theorem TW.fr {c' m' : IH} (h : TW c m P) (hc : ∀ a b, a ≠ 15 → c' a b = c a b) (hm : ∀ a b, a ≠ 11 → a ≠ 12 → m' a b = m a b) : TW c' m' P := by
  obtain ⟨h1, h2, h3, h4, h5, h6, h7, h8⟩ := h
  have e15 : m' 0 15 = m 0 15 := hm _ _ (by omega) (by omega)
  have e10 : m' 0 10 = m 0 10 := hm _ _ (by omega) (by omega)
  have e5 : ∀ b, m' 5 b = m 5 b := fun b => hm _ _ (by omega) (by omega)
  have e6 : ∀ b, m' 6 b = m 6 b := fun b => hm _ _ (by omega) (by omega)
  have e7 : ∀ b, m' 7 b = m 7 b := fun b => hm _ _ (by omega) (by omega)
  have e8 : ∀ b, m' 8 b = m 8 b := fun b => hm _ _ (by omega) (by omega)
  have e9 : ∀ b, m' 9 b = m 9 b := fun b => hm _ _ (by omega) (by omega)
  have w60 := h2
  unfold TW TrM PATH at *
  simp only [e15, e10, e5, e6, e7, e8, e9, hc 6 _ (by omega), hc 7 _ (by omega), hc 4 _ (by omega), hc 9 _ (by omega)]
  refine ⟨h1, h2, h3, fun w w1 w2 => ?_, h5, h6, h7, h8⟩
  obtain ⟨a, b, d⟩ := h4 w w1 w2
  exact ⟨a, b, fun k k1 k2 => by rw [hm (52 + w) k (by omega) (by omega)]; exact d k k1 k2⟩
theorem TW.path (h : TW c m P) {w k : Int} (hw : 0 ≤ w ∧ w < m 0 10) (hk : 0 ≤ k ∧ k ≤ m 5 w) : 0 ≤ P w k ∧ P w k < m 0 15 := by
  have := h.1.1
  by_cases c1 : k = 0
  · rw [c1, (h.2.2.2.1 w hw.1 hw.2).1]; omega
  · have q := (h.2.2.2.1 w hw.1 hw.2).2.2 (k - 1) (by omega) (by omega)
    rw [show k - 1 + 1 = k by omega] at q
    omega
theorem TW.up (h : TW c m P) {w : Int} (hw : 0 ≤ w ∧ w < m 0 10) : ∀ (n : Nat) (j : Int), 0 ≤ j → j + n + 1 ≤ m 5 w → P w j < P w (j + n + 1) := by
  intro n
  induction n with
  | zero =>
    intro j h1 h2
    have q := (h.2.2.2.1 w hw.1 hw.2).2.2 j h1 (by omega)
    have r := (h.1.2.1 (P w (j + 1)) q.1 q.2.1).2.1
    rw [q.2.2.1] at r
    rw [show j + ((0 : Nat) : Int) + 1 = j + 1 by omega]
    exact r
  | succ n ih =>
    intro j h1 h2
    have a := ih j h1 (by omega)
    have q := (h.2.2.2.1 w hw.1 hw.2).2.2 (j + n + 1) (by omega) (by omega)
    have r := (h.1.2.1 (P w (j + n + 1 + 1)) q.1 q.2.1).2.1
    rw [q.2.2.1] at r
    rw [show j + ((n + 1 : Nat) : Int) + 1 = j + n + 1 + 1 by omega]
    omega
theorem TW.inj (h : TW c m P) {w j k : Int} (hw : 0 ≤ w ∧ w < m 0 10) (hj : 0 ≤ j) (hk : j < k) (h5 : k ≤ m 5 w) : P w j ≠ P w k := by
  have := h.up hw (k - j - 1).toNat j hj (by omega)
  rw [show j + ((k - j - 1).toNat : Int) + 1 = k by omega] at this
  omega
theorem climb {w : Int} {k25 : IH → Int → Option IH} {k32 : IH → Int → Option IH} (hw0 : 0 ≤ w) : ∀ (f : Nat) (c m : IH) (k v3 : Int), TW c m P → w < m 0 10 → 0 ≤ k → k ≤ m 5 w → 0 ≤ v3 → v3 + k ≤ 12 → (∀ x, 0 ≤ x → x < m 0 15 → c 15 x = m 11 x) → (∀ j, 0 ≤ j → j ≤ k → 0 ≤ m 12 (P w j) ∧ m 12 (P w j) ≤ w) → k + 1 < f → ∃ c' m', G_X2_findLeast_42 N k25 f c w (P w k) v3 = k25 c' (w + 1) ∧ G_X12_weighs_47 N k32 f m w (P w k) = k32 m' (w + 1) ∧ (∀ a b, a ≠ 15 → c' a b = c a b) ∧ (∀ a b, a ≠ 11 → a ≠ 12 → m' a b = m a b) ∧ ∀ x, 0 ≤ x → x < m 0 15 → c' 15 x = m' 11 x ∧ ((∃ j, 0 ≤ j ∧ j ≤ k ∧ P w j = x) → m' 11 x = ud2 (m 11 x) (m 6 w) ∧ m' 12 x = m 12 x + 1) ∧ ((¬ ∃ j, 0 ≤ j ∧ j ≤ k ∧ P w j = x) → m' 11 x = m 11 x ∧ m' 12 x = m 12 x) := by
  intro f
  induction f with
  | zero => intro c m k v3 h h1 h2 h3 h4 h5 h6 h8 h7; omega
  | succ f ih =>
    intro c m k v3 h h1 h2 h3 h4 h5 h6 h8 h7
    have hp := h.path ⟨hw0, h1⟩ ⟨h2, h3⟩
    have nn := h.1.1
    have w60 := h.2.1
    have lw := h.2.2.1 w hw0 h1
    have g1 := h6 (P w k) hp.1 hp.2
    have g2 := h8 k h2 (by omega)
    have c9 := h.2.2.2.2.2.2.2 (P w k) hp.1 hp.2
    generalize hx : P w k = x at hp g1 g2 c9 ⊢
    -- one node is weighed
    have one : ∃ c1, G_X2_findLeast_42 N k25 (f + 1) c w x v3 = G_X2_findLeast_42 N k25 f c1 w (m 8 x) (v3 + 1) ∧ c1 15 x = ud2 (m 11 x) (m 6 w) ∧ ∀ a b, ¬ (a = 15 ∧ b = x) → c1 a b = c a b := by
      rw [G_X2_findLeast_42]
      unfold G_X2_findLeast_77 G_X2_findLeast_89
      rw [if_neg (by omega), if_neg (by omega)]
      simp (disch := omega) only [xlet_q, xq_in, xv_ne]
      rw [g1, lw.2.2.2.1, c9, wr_in (by omega) (by omega)]
      unfold ud2
      by_cases x1 : m 11 x = -1
      · rw [if_pos x1, if_pos x1]
        exact ⟨_, rfl, xv_eq rfl rfl, fun a b q => xv_ne q⟩
      · rw [if_neg x1, if_neg x1]
        by_cases x2 : m 11 x ≤ m 6 w
        · rw [if_pos x2, if_pos x2]
          exact ⟨c, rfl, g1, fun a b q => rfl⟩
        · rw [if_neg x2, if_neg x2]
          exact ⟨_, rfl, xv_eq rfl rfl, fun a b q => xv_ne q⟩
    have oneM : G_X12_weighs_47 N k32 (f + 1) m w x = G_X12_weighs_47 N k32 f (xv (xv m 11 x (ud2 (m 11 x) (m 6 w))) 12 x (m 12 x + 1)) w (m 8 x) := by
      rw [G_X12_weighs_47]
      unfold G_X12_weighs_91 G_X12_less
      rw [if_neg (by omega)]
      simp (disch := omega) only [xlet_q, xq_in, xv_ne]
      rw [wr_in (by omega) (by omega)]
      unfold ud2
      by_cases x1 : m 11 x = -1
      · rw [if_pos x1, if_pos x1]
      · rw [if_neg x1, if_neg x1]
        by_cases x2 : m 11 x ≤ m 6 w
        · rw [if_pos x2]
          by_cases x3 : m 6 w ≤ m 11 x
          · rw [if_pos x3, yb_s, wr_in (by omega) (by omega), show m 6 w = m 11 x by omega]
          · rw [if_neg x3, yb_s, wr_in (by omega) (by omega)]
        · rw [if_neg x2, if_pos (by omega), yb_s, wr_in (by omega) (by omega)]
    obtain ⟨c1, o1, o2, o3⟩ := one
    rw [o1, oneM]
    generalize hm1 : xv (xv m 11 x (ud2 (m 11 x) (m 6 w))) 12 x (m 12 x + 1) = m1
    have mo : ∀ a b, a ≠ 11 → a ≠ 12 → m1 a b = m a b := fun a b q1 q2 => by rw [← hm1, xv_ne (by omega), xv_ne (by omega)]
    have mx : ∀ y, y ≠ x → m1 11 y = m 11 y ∧ m1 12 y = m 12 y := fun y q => by rw [← hm1, xv_ne (by omega), xv_ne (by omega), xv_ne (by omega), xv_ne (by omega)]; exact ⟨rfl, rfl⟩
    have m11 : m1 11 x = ud2 (m 11 x) (m 6 w) := by rw [← hm1, xv_ne (by omega), xv_eq rfl rfl]
    have m12 : m1 12 x = m 12 x + 1 := by rw [← hm1, xv_eq rfl rfl]
    have eq1 : ∀ y, 0 ≤ y → y < m 0 15 → c1 15 y = m1 11 y := fun y q1 q2 => by
      by_cases cy : y = x
      · rw [cy, o2, m11]
      · rw [o3 _ _ (by omega), (mx y cy).1]; exact h6 y q1 q2
    by_cases ck : k = 0
    · -- the root
      have x0 : x = 0 := by rw [← hx, ck]; exact (h.2.2.2.1 w hw0 h1).1
      have e8 : m 8 x = -1 := by rw [x0]; exact h.2.2.2.2.1
      rw [e8]
      obtain ⟨f', hf'⟩ : ∃ f', f = f' + 1 := ⟨f - 1, by omega⟩
      subst hf'
      have t1 : G_X2_findLeast_42 N k25 (f' + 1) c1 w (-1) (v3 + 1) = k25 c1 (w + 1) := by
        unfold G_X2_findLeast_42 G_X2_findLeast_102
        rw [xlet_q, wr_in (by omega) (by omega), if_pos (show (-1 : Int) < 0 by omega)]
        by_cases y1 : 12 < v3 + 1
        · rw [if_pos y1]
        · rw [if_neg y1]
      have t2 : G_X12_weighs_47 N k32 (f' + 1) m1 w (-1) = k32 m1 (w + 1) := by
        unfold G_X12_weighs_47
        rw [if_pos rfl, xlet_q, wr_in (by omega) (by omega)]
      rw [t1, t2]
      refine ⟨c1, m1, rfl, rfl, fun a b q => o3 a b (by omega), mo, fun y q1 q2 => ⟨eq1 y q1 q2, fun ⟨j, j1, j2, j3⟩ => ?_, fun q => ?_⟩⟩
      · have : y = x := by rw [← j3, ← hx, show j = k by omega]
        rw [this]; exact ⟨m11, m12⟩
      · exact mx y (fun e => q ⟨k, by omega, by omega, by rw [e]; exact hx⟩)
    · have pq := (h.2.2.2.1 w hw0 h1).2.2 (k - 1) (by omega) (by omega)
      rw [show k - 1 + 1 = k by omega, hx] at pq
      rw [pq.2.2.1]
      have h' : TW c1 m1 P := h.fr (fun a b q => o3 a b (by omega)) mo
      have e15 : m1 0 15 = m 0 15 := mo _ _ (by omega) (by omega)
      have e6 : m1 6 w = m 6 w := mo _ _ (by omega) (by omega)
      have ne : ∀ j, 0 ≤ j → j ≤ k - 1 → P w j ≠ x := fun j j1 j2 => by rw [← hx]; exact h.inj ⟨hw0, h1⟩ j1 (by omega) (by omega)
      obtain ⟨c', m', d1, d2, d3, d4, d5⟩ := ih c1 m1 (k - 1) (v3 + 1) h' (by rw [mo _ _ (by omega) (by omega)]; exact h1) (by omega) (by rw [mo _ _ (by omega) (by omega)]; omega) (by omega) (by omega) (fun y q1 q2 => eq1 y q1 (by omega)) (fun j j1 j2 => by rw [(mx _ (ne j j1 j2)).2]; exact h8 j j1 (by omega)) (by omega)
      refine ⟨c', m', d1, d2, fun a b q => by rw [d3 a b q, o3 a b (by omega)], fun a b q1 q2 => by rw [d4 a b q1 q2, mo a b q1 q2], fun y q1 q2 => ?_⟩
      obtain ⟨r1, r2, r3⟩ := d5 y q1 (by omega)
      refine ⟨r1, fun ⟨j, j1, j2, j3⟩ => ?_, fun q => ?_⟩
      · by_cases cj : j = k
        · have yx : y = x := by rw [← j3, cj]; exact hx
          have := r3 (fun ⟨i, i1, i2, i3⟩ => ne i i1 i2 (by rw [i3]; exact yx))
          rw [this.1, this.2, yx]
          exact ⟨m11, m12⟩
        · have := r2 ⟨j, j1, by omega, j3⟩
          have yx : y ≠ x := by rw [← j3]; exact ne j j1 (by omega)
          rw [this.1, this.2, (mx y yx).1, (mx y yx).2, e6]
          exact ⟨rfl, rfl⟩
      · have yx : y ≠ x := fun e => q ⟨k, h2, by omega, by rw [e]; exact hx⟩
        have := r3 (fun ⟨i, i1, i2, i3⟩ => q ⟨i, i1, by omega, i3⟩)
        rw [this.1, this.2]
        exact mx y yx
end
