/-- the node x is what the first d of the signs g spell -/
def SPL (m : IH) (P : Int → Int → Int) (g : Int → Int) (x d : Int) : Prop := (0 ≤ x ∧ x < m 0 15) ∧ (∀ w, 0 ≤ w → w < m 0 10 → d ≤ m 5 w → (∀ k, 0 ≤ k → k < d → m (52 + w) k = g k) → P w d = x) ∧ ∀ w k, 0 ≤ w → w < m 0 10 → 0 ≤ k → k ≤ m 5 w → P w k = x → k = d ∧ ∀ q, 0 ≤ q → q < d → m (52 + w) q = g q
section
variable {N : Nat} {c m : IH} {P : Int → Int → Int} {g : Int → Int}
theorem SPL.root (ht : TrM m) (hp : PATH m P) : SPL m P g 0 0 := by
  have h1 := ht.1
  refine ⟨by omega, fun w w1 w2 _ _ => (hp w w1 w2).1, fun w k w1 w2 k1 k2 e => ⟨?_, fun q q1 q2 => by omega⟩⟩
  by_cases k0 : k = 0
  · exact k0
  · have := ((hp w w1 w2).2.2 (k - 1) (by omega) (by omega)).1
    rw [show k - 1 + 1 = k by omega] at this
    omega
theorem SPL.step {x d : Int} (ht : TrM m) (hp : PATH m P) (h : SPL m P g x d) (hd : 0 ≤ d) : (ch m x (g d) = -1 ∧ ∀ w, 0 ≤ w → w < m 0 10 → d + 1 ≤ m 5 w → ¬ (∀ k, 0 ≤ k → k < d + 1 → m (52 + w) k = g k)) ∨ (1 ≤ ch m x (g d) ∧ SPL m P g (ch m x (g d)) (d + 1)) := by
  rcases ch_cases m x (g d) with q | q
  · refine Or.inl ⟨q.1, fun w w1 w2 w3 e => ?_⟩
    have p := (hp w w1 w2).2.2 d hd (by omega)
    have ex := h.2.1 w w1 w2 (by omega) (fun k k1 k2 => e k k1 (by omega))
    exact q.2 (P w (d + 1)) p.1 p.2.1 (by rw [p.2.2.1]; exact ex) (by rw [p.2.2.2]; exact e d hd (by omega))
  · refine Or.inr ⟨q.1, ⟨⟨by omega, q.2.1⟩, fun w w1 w2 w3 e => ?_, fun w k w1 w2 k1 k2 e => ?_⟩⟩
    · have p := (hp w w1 w2).2.2 d hd (by omega)
      have ex := h.2.1 w w1 w2 (by omega) (fun k k1 k2 => e k k1 (by omega))
      exact (ch_uniq ht p.1 p.2.1 (by rw [p.2.2.1]; exact ex) (by rw [p.2.2.2]; exact e d hd (by omega))).symm
    · have k0 : k ≠ 0 := fun z => by
        rw [z, (hp w w1 w2).1] at e
        omega
      have p := (hp w w1 w2).2.2 (k - 1) (by omega) (by omega)
      rw [show k - 1 + 1 = k by omega, e, q.2.2.1, q.2.2.2] at p
      obtain ⟨y1, y2⟩ := h.2.2 w (k - 1) w1 w2 (by omega) (by omega) p.2.2.1.symm
      refine ⟨by omega, fun u u1 u2 => ?_⟩
      by_cases ud : u = d
      · have pz := p.2.2.2
        rw [y1] at pz
        rw [ud]
        exact pz.symm
      · exact y2 u u1 (by omega)
/-- a word is spelled by the signs g, len of them -/
def SPW (m : IH) (g : Int → Int) (len w : Int) : Prop := m 5 w = len ∧ ∀ k, 0 ≤ k → k < len → m (52 + w) k = g k
/-- what a look finds -/
def LKR (m : IH) (g : Int → Int) (len v : Int) : Prop := (v = -1 ∧ ∀ w, 0 ≤ w → w < m 0 10 → ¬ SPW m g len w) ∨ (0 ≤ v ∧ v < m 0 10 ∧ SPW m g len v ∧ ∀ w, 0 ≤ w → w < m 0 10 → SPW m g len w → w = v)
theorem SPL.fin {x len : Int} (hl : LXM m) (hp : PATH m P) (h : SPL m P g x len) : LKR m g len (m 10 x) := by
  have key : ∀ w, 0 ≤ w → w < m 0 10 → SPW m g len w → w = m 10 x := fun w w1 w2 e => by
    have e1 := h.2.1 w w1 w2 (by have := e.1; omega) e.2
    have e2 := (hp w w1 w2).2.1
    have e3 := (hl.2.2.1 w w1 w2).2.2.2.1
    rw [e.1] at e2
    rw [← e2, e1] at e3
    exact e3.symm
  rcases hl.2.2.2.1 x h.1.1 h.1.2 with q | ⟨q1, q2, q3⟩
  · left
    refine ⟨q, fun w w1 w2 e => ?_⟩
    have := key w w1 w2 e
    omega
  · right
    refine ⟨q1, q2, ?_, key⟩
    have e2 := (hp (m 10 x) q1 q2).2.1
    have e3 := (hl.2.2.1 (m 10 x) q1 q2).1
    obtain ⟨y1, y2⟩ := h.2.2 (m 10 x) (m 5 (m 10 x)) q1 q2 (by omega) (by omega) (by rw [e2]; exact q3)
    exact ⟨y1, y2⟩
theorem look6 {s len : Int} (hN : 20000 ≤ N) (hl : LXM m) (ht : TrC c m) (hp : PATH m P) (hs : 0 ≤ s ∧ 0 ≤ len ∧ s + len ≤ 400) : ∀ (f : Nat) (x i : Int), SPL m P (fun k => c 3 (s + k)) x (i - s) → s ≤ i → i ≤ s + len → s + len - i < f → ∃ v, G_X2_look_6 N 3 f c s len x i = some (v, c) ∧ LKR m (fun k => c 3 (s + k)) len v := by
  have nn := hl.1.1
  intro f
  induction f with
  | zero => intro x i h h1 h2 h3; omega
  | succ f ih =>
    intro x i h h1 h2 h3
    have hx := h.1
    unfold G_X2_look_6
    rw [wr_in (show -2147483648 ≤ s + len by omega) (by omega)]
    by_cases c1 : s + len ≤ i
    · rw [if_pos c1, xq_in (by omega) (by omega), (ht.2.1 x hx.1 hx.2).2.2]
      rw [show i - s = len by omega] at h
      exact ⟨_, rfl, SPL.fin hl hp h⟩
    · rw [if_neg c1, xq_in (by omega) (by omega), chC hN hl.1 ht hx, yb_s, xlet_q]
      have st := SPL.step hl.1 hp h (by omega)
      simp only [show s + (i - s) = i by omega] at st
      rcases st with ⟨q1, q2⟩ | ⟨q1, q2⟩
      · rw [if_pos q1]
        refine ⟨_, rfl, Or.inl ⟨rfl, fun w w1 w2 e => q2 w w1 w2 (by have := e.1; omega) (fun k k1 k2 => e.2 k k1 (by omega))⟩⟩
      · rw [if_neg (by omega), xlet_q, wr_in (by omega) (by omega)]
        rw [show i - s + 1 = i + 1 - s by omega] at q2
        exact ih _ (i + 1) q2 (by omega) (by omega) (by omega)
theorem lookS {s len : Int} (hN : 20000 ≤ N) (hl : LXM m) (ht : TrC c m) (hp : PATH m P) (hs : 0 ≤ s ∧ 0 ≤ len ∧ s + len ≤ 400) : ∃ v, G_X2_look N 3 c s len = some (v, c) ∧ LKR m (fun k => c 3 (s + k)) len v := by
  unfold G_X2_look
  rw [xlet_q, xlet_q]
  exact look6 hN hl ht hp hs N 0 s (by rw [Int.sub_self]; exact SPL.root hl.1 hp) (by omega) (by omega) (by omega)
/-- two words of the reference are the same or not -/
theorem areS {a b : Int} (hN : 20000 ≤ N) (ha : 0 ≤ a ∧ a < 61) (hb : 0 ≤ b ∧ b < 61) (h5 : 0 ≤ m 5 a ∧ m 5 a ≤ 12) : ∃ v, G_X12_areSame N m a b = some (v, m) ∧ ((v = 1 ∧ SPW m (fun k => m (52 + b) k) (m 5 b) a) ∨ (v = 0 ∧ ¬ SPW m (fun k => m (52 + b) k) (m 5 b) a)) := by
  unfold G_X12_areSame
  rw [xq_in ha.1 ha.2, xq_in hb.1 hb.2]
  by_cases c1 : m 5 a = m 5 b
  · rw [if_pos c1, xlet_q]
    have lp : ∀ (f : Nat) (q : Int), 0 ≤ q → q ≤ m 5 a → (∀ k, 0 ≤ k → k < q → m (52 + a) k = m (52 + b) k) → m 5 a - q < f → ∃ v, G_X12_areSame_19 N f m a b q = some (v, m) ∧ ((v = 1 ∧ SPW m (fun k => m (52 + b) k) (m 5 b) a) ∨ (v = 0 ∧ ¬ SPW m (fun k => m (52 + b) k) (m 5 b) a)) := by
      intro f
      induction f with
      | zero => intro q g1 g2 g3 g4; omega
      | succ f ih =>
        intro q g1 g2 g3 g4
        unfold G_X12_areSame_19
        rw [xq_in ha.1 ha.2]
        by_cases c2 : m 5 a ≤ q
        · rw [if_pos c2]
          exact ⟨1, rfl, Or.inl ⟨rfl, c1, fun k k1 k2 => g3 k k1 (by omega)⟩⟩
        · rw [if_neg c2]
          simp (disch := omega) only [xlet_q, xq_in]
          by_cases c3 : m (52 + a) q = m (52 + b) q
          · rw [if_pos c3, wr_in (by omega) (by omega)]
            exact ih (q + 1) (by omega) (by omega) (fun k k1 k2 => by
              by_cases e : k = q
              · subst e; exact c3
              · exact g3 k k1 (by omega)) (by omega)
          · rw [if_neg c3]
            exact ⟨0, rfl, Or.inr ⟨rfl, fun z => c3 (z.2 q g1 (by omega))⟩⟩
    exact lp N 0 (by omega) (by omega) (fun k k1 k2 => by omega) (by omega)
  · rw [if_neg c1]
    exact ⟨0, rfl, Or.inr ⟨rfl, fun z => c1 z.1⟩⟩
theorem wh99 {i0 : Int} (hN : 20000 ≤ N) (hl : LXM m) : ∀ (f : Nat) (w : Int), 0 ≤ w → w ≤ m 0 10 → (∀ u, 0 ≤ u → u < w → ¬ SPW m (fun k => m (52 + 60) k) (m 5 60) u) → m 0 10 - w < f → ∃ u, G_X12_wordHere_99 N f m i0 w = G_X12_wordHere_123 N m i0 u ∧ 0 ≤ u ∧ ((u = m 0 10 ∧ ∀ y, 0 ≤ y → y < m 0 10 → ¬ SPW m (fun k => m (52 + 60) k) (m 5 60) y) ∨ (u < m 0 10 ∧ SPW m (fun k => m (52 + 60) k) (m 5 60) u)) := by
  have nn := hl.2.1
  intro f
  induction f with
  | zero => intro w h1 h2 h3 h4; omega
  | succ f ih =>
    intro w h1 h2 h3 h4
    unfold G_X12_wordHere_99
    by_cases c1 : m 0 10 ≤ w
    · rw [if_pos c1]
      exact ⟨w, rfl, h1, Or.inl ⟨by omega, fun y y1 y2 => h3 y y1 (by omega)⟩⟩
    · rw [if_neg c1]
      have h5 := (hl.2.2.1 w h1 (by omega)).1
      obtain ⟨v, e1, e2⟩ := areS (N := N) (m := m) (a := w) (b := 60) hN (by omega) (by omega) (by omega)
      rw [e1, yb_s]
      rcases e2 with ⟨e2, e3⟩ | ⟨e2, e3⟩
      · rw [if_neg (by omega)]
        exact ⟨w, rfl, h1, Or.inr ⟨by omega, e3⟩⟩
      · rw [if_pos e2, xlet_q, wr_in (by omega) (by omega)]
        exact ih (w + 1) (by omega) (by omega) (fun u u1 u2 => by
          by_cases e : u = w
          · subst e; exact e3
          · exact h3 u u1 (by omega)) (by omega)
end
