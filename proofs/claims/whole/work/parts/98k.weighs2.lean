section
variable {N : Nat} {P : Int → Int → Int}
theorem thr_rng {m : IH} {x : Int} : ∀ w : Nat, 0 ≤ thr m P x w ∧ thr m P x w ≤ w := by
  intro w
  induction w with
  | zero => show (0 : Int) ≤ 0 ∧ (0 : Int) ≤ 0; omega
  | succ w ih =>
    simp only [thr]
    by_cases c1 : ∃ k, 0 ≤ k ∧ k ≤ m 5 w ∧ P w k = x
    · rw [if_pos c1]; omega
    · rw [if_neg c1]; omega
theorem words25 {m0 : IH} : ∀ (f : Nat) (c m : IH) (w : Nat), TW c m P → (∀ b, m 5 b = m0 5 b) → (∀ b, m 6 b = m0 6 b) → (∀ x, 0 ≤ x → x < m 0 15 → c 15 x = m 11 x ∧ m 11 x = lst m0 P x w ∧ m 12 x = thr m0 P x w) → (w : Int) ≤ m 0 10 → m 0 10 - w < f → 20000 ≤ N → ∃ c' m', G_X2_findLeast_25 N f c w = some c' ∧ G_X12_weighs_32 N f m w = some m' ∧ (∀ a b, a ≠ 15 → c' a b = c a b) ∧ (∀ a b, a ≠ 11 → a ≠ 12 → m' a b = m a b) ∧ ∀ x, 0 ≤ x → x < m 0 15 → c' 15 x = m' 11 x ∧ m' 11 x = lst m0 P x (m 0 10).toNat ∧ m' 12 x = thr m0 P x (m 0 10).toNat := by
  intro f
  induction f with
  | zero => intro c m w h1 h2 h3 h4 h5 h6 hN; omega
  | succ f ih =>
    intro c m w h e5 e6 h4 h5 h6 hN
    have w60 := h.2.1
    unfold G_X2_findLeast_25 G_X12_weighs_32
    rw [h.2.2.2.2.2.1]
    by_cases c1 : m 0 10 ≤ (w : Int)
    · rw [if_pos c1, if_pos c1, show (m 0 10).toNat = w by omega]
      exact ⟨c, m, rfl, rfl, fun _ _ _ => rfl, fun _ _ _ _ => rfl, h4⟩
    · rw [if_neg c1, if_neg c1]
      have lw := h.2.2.1 w (by omega) (by omega)
      have pe := (h.2.2.2.1 w (by omega) (by omega)).2.1
      simp (disch := omega) only [xlet_q, xq_in]
      rw [lw.2.2.2.2, ← pe]
      obtain ⟨c1', m1, d1, d2, d3, d4, d5⟩ := climb (N := N) (P := P) (w := (w : Int)) (k25 := G_X2_findLeast_25 N f) (k32 := G_X12_weighs_32 N f) (by omega) N c m (m 5 w) 0 h (by omega) (by omega) (by omega) (by omega) (by omega) (fun x q1 q2 => (h4 x q1 q2).1) (fun j j1 j2 => by
        have pj := h.path (w := (w : Int)) (k := j) ⟨by omega, by omega⟩ ⟨j1, j2⟩
        rw [(h4 _ pj.1 pj.2).2.2]
        exact thr_rng w) (by omega)
      rw [d1, d2]
      have e10 : m1 0 10 = m 0 10 := d4 _ _ (by omega) (by omega)
      have e15 : m1 0 15 = m 0 15 := d4 _ _ (by omega) (by omega)
      obtain ⟨c2, m2, i1, i2, i3, i4, i5⟩ := ih c1' m1 (w + 1) (h.fr d3 d4) (fun b => by rw [d4 _ _ (by omega) (by omega)]; exact e5 b) (fun b => by rw [d4 _ _ (by omega) (by omega)]; exact e6 b) (fun x q1 q2 => by
        rw [e15] at q2
        obtain ⟨r1, r2, r3⟩ := d5 x q1 q2
        obtain ⟨g1, g2, g3⟩ := h4 x q1 q2
        refine ⟨r1, ?_⟩
        simp only [lst, thr]
        by_cases cx : ∃ k, 0 ≤ k ∧ k ≤ m 5 w ∧ P w k = x
        · have := r2 cx
          rw [e5] at cx
          rw [if_pos cx, if_pos cx, this.1, this.2, g2, g3, e6]
          exact ⟨rfl, rfl⟩
        · have := r3 cx
          rw [e5] at cx
          rw [if_neg cx, if_neg cx, this.1, this.2, g2, g3]
          exact ⟨rfl, by omega⟩) (by omega) (by omega) hN
      rw [show ((w + 1 : Nat) : Int) = (w : Int) + 1 by omega] at i1 i2
      refine ⟨c2, m2, i1, i2, fun a b q => by rw [i3 a b q, d3 a b q], fun a b q1 q2 => by rw [i4 a b q1 q2, d4 a b q1 q2], fun x q1 q2 => ?_⟩
      have := i5 x q1 (by omega)
      rw [e10] at this
      exact this
theorem clean2 : ∀ (f : Nat) (c m : IH) (x : Int), c 4 5 = m 0 15 → (1 ≤ m 0 15 ∧ m 0 15 ≤ 721) → 0 ≤ x → x ≤ m 0 15 → (∀ y, 0 ≤ y → y < x → c 15 y = -1 ∧ m 11 y = -1 ∧ m 12 y = 0) → m 0 15 - x < f → ∃ c' m', G_X2_findLeast_2 N f c x = G_X2_findLeast_25 N N c' 0 ∧ G_X12_weighs_2 N f m x = G_X12_weighs_32 N N m' 0 ∧ (∀ a b, a ≠ 15 → c' a b = c a b) ∧ (∀ a b, a ≠ 11 → a ≠ 12 → m' a b = m a b) ∧ ∀ y, 0 ≤ y → y < m 0 15 → c' 15 y = -1 ∧ m' 11 y = -1 ∧ m' 12 y = 0 := by
  intro f
  induction f with
  | zero => intro c m x h1 h2 h3 h4 h5 h6; omega
  | succ f ih =>
    intro c m x h1 h2 h3 h4 h5 h6
    unfold G_X2_findLeast_2 G_X12_weighs_2
    rw [h1]
    by_cases c1 : m 0 15 ≤ x
    · rw [if_pos c1, if_pos c1, xlet_q, xlet_q]
      exact ⟨c, m, rfl, rfl, fun _ _ _ => rfl, fun _ _ _ _ => rfl, fun y q1 q2 => h5 y q1 (by omega)⟩
    · rw [if_neg c1, if_neg c1]
      simp (disch := omega) only [xlet_q, xq_in]
      rw [wr_in (by omega) (by omega)]
      obtain ⟨c', m', d1, d2, d3, d4, d5⟩ := ih (xv c 15 x (-1)) (xv (xv m 11 x (-1)) 12 x 0) (x + 1) (by rw [xv_ne (by omega), xv_ne (by omega), xv_ne (by omega)]; exact h1) (by rw [xv_ne (by omega), xv_ne (by omega)]; exact h2) (by omega) (by rw [xv_ne (by omega), xv_ne (by omega)]; omega) (fun y q1 q2 => by
        by_cases cy : y = x
        · rw [cy, xv_eq rfl rfl, xv_ne (by omega), xv_eq rfl rfl, xv_eq rfl rfl]
          exact ⟨rfl, rfl, rfl⟩
        · rw [xv_ne (by omega), xv_ne (by omega), xv_ne (by omega), xv_ne (by omega), xv_ne (by omega)]
          exact h5 y q1 (by omega)) (by rw [xv_ne (by omega), xv_ne (by omega)]; omega)
      refine ⟨c', m', d1, d2, fun a b q => by rw [d3 a b q, xv_ne (by omega)], fun a b q1 q2 => by rw [d4 a b q1 q2, xv_ne (by omega), xv_ne (by omega)], fun y q1 q2 => d5 y q1 (by rw [xv_ne (by omega), xv_ne (by omega)]; exact q2)⟩
/-- weighing anew, both sides -/
theorem weighsS {c m : IH} (hN : 20000 ≤ N) (h : TW c m P) : ∃ c' m', G_X2_findLeast N c = some c' ∧ G_X12_weighs N m = some m' ∧ (∀ a b, a ≠ 15 → c' a b = c a b) ∧ (∀ a b, a ≠ 11 → a ≠ 12 → m' a b = m a b) ∧ ∀ x, 0 ≤ x → x < m 0 15 → c' 15 x = m' 11 x ∧ m' 11 x = lst m P x (m 0 10).toNat ∧ m' 12 x = thr m P x (m 0 10).toNat := by
  have nn := h.1.1
  have w60 := h.2.1
  unfold G_X2_findLeast G_X12_weighs
  rw [xlet_q, xlet_q]
  obtain ⟨c1, m1, d1, d2, d3, d4, d5⟩ := clean2 (N := N) N c m 0 h.2.2.2.2.2.2.1 nn (by omega) (by omega) (fun y q1 q2 => by omega) (by omega)
  rw [d1, d2]
  have e10 : m1 0 10 = m 0 10 := d4 _ _ (by omega) (by omega)
  have e15 : m1 0 15 = m 0 15 := d4 _ _ (by omega) (by omega)
  obtain ⟨c2, m2, i1, i2, i3, i4, i5⟩ := words25 (N := N) (P := P) (m0 := m) N c1 m1 0 (h.fr d3 d4) (fun b => d4 _ _ (by omega) (by omega)) (fun b => d4 _ _ (by omega) (by omega)) (fun x q1 q2 => by
    have := d5 x q1 (by omega)
    exact ⟨by rw [this.1, this.2.1], this.2.1, this.2.2⟩) (by omega) (by omega) hN
  refine ⟨c2, m2, i1, i2, fun a b q => by rw [i3 a b q, d3 a b q], fun a b q1 q2 => by rw [i4 a b q1 q2, d4 a b q1 q2], fun x q1 q2 => ?_⟩
  have := i5 x q1 (by omega)
  rw [e10] at this
  exact this
/-- facts of the least weight -/
theorem lst_le {m : IH} {x : Int} {W : Int} (hW : ∀ w, 0 ≤ w → w < W → 0 ≤ m 6 w ∧ m 6 w ≤ 99) : ∀ n : Nat, (n : Int) ≤ W → (lst m P x n = -1 ∧ ∀ w : Nat, w < n → ¬ ∃ k, 0 ≤ k ∧ k ≤ m 5 w ∧ P w k = x) ∨ (0 ≤ lst m P x n ∧ lst m P x n ≤ 99 ∧ (∀ w : Nat, w < n → (∃ k, 0 ≤ k ∧ k ≤ m 5 w ∧ P w k = x) → lst m P x n ≤ m 6 w) ∧ ∃ w : Nat, w < n ∧ (∃ k, 0 ≤ k ∧ k ≤ m 5 w ∧ P w k = x) ∧ lst m P x n = m 6 w) := by
  intro n
  induction n with
  | zero => intro _; exact Or.inl ⟨rfl, fun w q => by omega⟩
  | succ n ih =>
    intro h
    have b := hW n (by omega) (by omega)
    have i := ih (by omega)
    simp only [lst]
    by_cases c1 : ∃ k, 0 ≤ k ∧ k ≤ m 5 n ∧ P n k = x
    · rw [if_pos c1]
      right
      unfold ud2
      rcases i with ⟨a1, a2⟩ | ⟨a1, a2, a3, w0, a4, a5, a6⟩
      · rw [if_pos a1]
        refine ⟨b.1, b.2, fun w q e => ?_, n, by omega, c1, rfl⟩
        by_cases cw : w = n
        · rw [cw]; exact Int.le_refl _
        · exact absurd e (a2 w (by omega))
      · rw [if_neg (by omega)]
        by_cases c2 : lst m P x n ≤ m 6 n
        · rw [if_pos c2]
          refine ⟨a1, a2, fun w q e => ?_, w0, by omega, a5, a6⟩
          by_cases cw : w = n
          · rw [cw]; exact c2
          · exact a3 w (by omega) e
        · rw [if_neg c2]
          refine ⟨b.1, b.2, fun w q e => ?_, n, by omega, c1, rfl⟩
          by_cases cw : w = n
          · rw [cw]; exact Int.le_refl _
          · have := a3 w (by omega) e; omega
    · rw [if_neg c1]
      rcases i with ⟨a1, a2⟩ | ⟨a1, a2, a3, w0, a4, a5, a6⟩
      · left
        refine ⟨a1, fun w q => ?_⟩
        by_cases cw : w = n
        · rw [cw]; exact c1
        · exact a2 w (by omega)
      · right
        refine ⟨a1, a2, fun w q e => ?_, w0, by omega, a5, a6⟩
        by_cases cw : w = n
        · rw [cw] at e; exact absurd e c1
        · exact a3 w (by omega) e
/-- the words after they were weighed -/
theorem LL.wg {c m c' m' : IH} (h : TW c m P) (hx : ∀ x, 0 ≤ x → x < m 0 15 → m 10 x = -1 ∨ (0 ≤ m 10 x ∧ m 10 x < m 0 10 ∧ m 7 (m 10 x) = x)) (h10 : ∀ w, 0 ≤ w → w < m 0 10 → m 10 (m 7 w) = w) (hT : TrC c m) (hC : ∀ w, 0 ≤ w → w < m 0 10 → c 5 w = m 5 w ∧ ∀ k, 0 ≤ k → k < m 5 w → c 8 (w * 12 + k) = m (52 + w) k ∧ sg (m (52 + w) k)) (hL : (m 0 15 ≤ 1 + 12 * m 0 10 ∧ m 8 0 = -1 ∧ m 9 0 = 0) ∧ ∀ x, 1 ≤ x → x < m 0 15 → ∃ w k, 0 ≤ w ∧ w < m 0 10 ∧ 0 ≤ k ∧ k ≤ m 5 w ∧ P w k = x) (h14 : ∀ x, 0 ≤ x → x < m 0 15 → c 14 x = thr m P x (m 0 10).toNat) (hc : ∀ a b, a ≠ 15 → c' a b = c a b) (hm : ∀ a b, a ≠ 11 → a ≠ 12 → m' a b = m a b) (hv : ∀ x, 0 ≤ x → x < m 0 15 → c' 15 x = m' 11 x ∧ m' 11 x = lst m P x (m 0 10).toNat ∧ m' 12 x = thr m P x (m 0 10).toNat) : LL c' m' ∧ (m' 0 10 = 0 → m' 11 0 = -1) := by
  have h' := h.fr hc hm
  have w60 := h.2.1
  have nn := h.1.1
  have e15 : m' 0 15 = m 0 15 := hm _ _ (by omega) (by omega)
  have e10 : m' 0 10 = m 0 10 := hm _ _ (by omega) (by omega)
  have e5 : ∀ b, m' 5 b = m 5 b := fun b => hm _ _ (by omega) (by omega)
  have e6 : ∀ b, m' 6 b = m 6 b := fun b => hm _ _ (by omega) (by omega)
  have e7 : ∀ b, m' 7 b = m 7 b := fun b => hm _ _ (by omega) (by omega)
  have e8 : ∀ b, m' 8 b = m 8 b := fun b => hm _ _ (by omega) (by omega)
  have e9 : ∀ b, m' 9 b = m 9 b := fun b => hm _ _ (by omega) (by omega)
  have eX : ∀ b, m' 10 b = m 10 b := fun b => hm _ _ (by omega) (by omega)
  have ll : ∀ x, _ := fun x => lst_le (P := P) (m := m) (x := x) (W := m 0 10) (fun w q1 q2 => (h.2.2.1 w q1 q2).2.1) (m 0 10).toNat (by omega)
  have th : ∀ x, 0 ≤ x → x < m 0 15 → 0 < m 0 10 → ∃ w : Nat, w < (m 0 10).toNat ∧ ∃ k, 0 ≤ k ∧ k ≤ m 5 w ∧ P w k = x := by
    intro x q1 q2 q3
    by_cases cx : x = 0
    · exact ⟨0, by omega, 0, by omega, by have := (h.2.2.1 0 (by omega) q3).1; show (0 : Int) ≤ m 5 0; omega, by rw [cx]; exact (h.2.2.2.1 0 (by omega) q3).1⟩
    · obtain ⟨w, k, a, b, d, e, f⟩ := hL.2 x (by omega) q2
      have ew : ((w.toNat : Nat) : Int) = w := by omega
      exact ⟨w.toNat, by omega, k, d, by rw [ew]; exact e, by rw [ew]; exact f⟩
  refine ⟨⟨⟨h'.1, by rw [e10]; exact w60, fun w q1 q2 => ?_, fun x q1 q2 => ?_, fun q x q1 q2 => ?_, fun q x q1 q2 => ?_⟩, ⟨by rw [hc _ _ (by omega), e10]; exact h.2.2.2.2.2.1, ?_, fun w q1 q2 => ?_, fun x q1 q2 => ?_⟩, P, h'.2.2.2.1, ?_⟩, fun q => ?_⟩
  · rw [e10] at q2
    have a := h.2.2.1 w q1 q2
    rw [e5, e6, e7, e15, eX]
    refine ⟨a.1, a.2.1, a.2.2.1, h10 w q1 q2, ?_⟩
    have v := hv (m 7 w) (by omega) (by omega)
    rw [v.2.1]
    have ew : ((w.toNat : Nat) : Int) = w := by omega
    have on : ∃ k, 0 ≤ k ∧ k ≤ m 5 (w.toNat : Nat) ∧ P (w.toNat : Nat) k = m 7 w := ⟨m 5 w, by omega, by rw [ew]; omega, by rw [ew]; exact (h.2.2.2.1 w q1 q2).2.1⟩
    rcases ll (m 7 w) with ⟨b1, b2⟩ | ⟨b1, b2, b3, b4⟩
    · exact absurd on (b2 w.toNat (by omega))
    · have := b3 w.toNat (by omega) on
      rw [ew] at this
      exact this
  · rw [eX, e10, e7]
    exact hx x q1 (by omega)
  · rw [e10] at q
    rw [e15] at q2
    rw [(hv x q1 q2).2.1]
    obtain ⟨w, a, b⟩ := th x q1 q2 q
    rcases ll x with ⟨b1, b2⟩ | ⟨b1, b2, b3, b4⟩
    · exact absurd b (b2 w a)
    · exact ⟨b1, b2⟩
  · rw [e10] at q
    rw [e15] at q2
    rw [e8]
    have px := h.1.2.1 x q1 q2
    rw [(hv x (by omega) q2).2.1, (hv (m 8 x) px.1 (by omega)).2.1]
    rcases ll x with ⟨b1, b2⟩ | ⟨b1, b2, b3, w, b4, ⟨k, k1, k2, k3⟩, b6⟩
    · obtain ⟨w, a, b⟩ := th x (by omega) q2 q
      exact absurd b (b2 w a)
    · have pw := h.2.2.2.1 w (by omega) (by omega)
      have k0 : k ≠ 0 := fun e => by rw [e, pw.1] at k3; omega
      have st := pw.2.2 (k - 1) (by omega) (by omega)
      rw [show k - 1 + 1 = k by omega, k3] at st
      have on : ∃ k, 0 ≤ k ∧ k ≤ m 5 w ∧ P w k = m 8 x := ⟨k - 1, by omega, by omega, st.2.2.1.symm⟩
      rcases ll (m 8 x) with ⟨d1, d2⟩ | ⟨d1, d2, d3, d4⟩
      · exact absurd on (d2 w b4)
      · rw [b6]; exact d3 w b4 on
  · obtain ⟨t1, t2, t3, t4⟩ := hT
    unfold TrC
    simp only [e15, e8, e9, eX, hc 4 _ (by omega), hc 9 _ (by omega), hc 10 _ (by omega), hc 11 _ (by omega), hc 12 _ (by omega), hc 13 _ (by omega)]
    exact ⟨t1, t2, t3, t4⟩
  · rw [e10] at q2
    have a := hC w q1 q2
    have b := h.2.2.1 w q1 q2
    rw [e5, e6, e7, hc _ _ (by omega), hc _ _ (by omega), hc _ _ (by omega)]
    refine ⟨a.1, b.2.2.2.1, b.2.2.2.2, fun k k1 k2 => ?_⟩
    rw [hc _ _ (by omega), hm (52 + w) k (by omega) (by omega)]
    exact a.2 k k1 k2
  · rw [e15] at q2
    have v := hv x q1 q2
    rw [hc 14 _ (by omega), v.2.2]
    exact ⟨v.1, h14 x q1 q2⟩
  · unfold LG
    simp only [e10, e15, e8, e9, e5, thr_mv e5]
    exact ⟨hL.1, hL.2, fun x q1 q2 => (hv x q1 q2).2.2⟩
  · rw [e10] at q
    rw [(hv 0 (by omega) (by omega)).2.1, q]
    rfl
end
