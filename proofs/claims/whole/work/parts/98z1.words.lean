/-- the words stay though new ones were written behind them -/
theorem LL.fr3 {c c' m m' : IH} (h : LL c m) (hc : ∀ a b, (a = 4 ∧ (b = 0 ∨ b = 5)) ∨ (5 ≤ a ∧ a ≤ 15) → c' a b = c a b) (hm : ∀ a b, ((a = 0 ∧ (b = 10 ∨ b = 15)) ∨ ((a = 5 ∨ a = 6 ∨ a = 7) ∧ 0 ≤ b ∧ b < m 0 10) ∨ (8 ≤ a ∧ a ≤ 12) ∨ (52 ≤ a ∧ a < 52 + m 0 10)) → m' a b = m a b) : LL c' m' := by
  obtain ⟨⟨a1, a2, a3, a4, a5, a6⟩, ⟨b1, b2, b3, b4⟩, P, p1, p2⟩ := h
  have e10 : m' 0 10 = m 0 10 := hm _ _ (by omega)
  have e15 : m' 0 15 = m 0 15 := hm _ _ (by omega)
  have e5 : ∀ w, 0 ≤ w → w < m 0 10 → m' 5 w = m 5 w := fun w q1 q2 => hm _ _ (by omega)
  have e6 : ∀ w, 0 ≤ w → w < m 0 10 → m' 6 w = m 6 w := fun w q1 q2 => hm _ _ (by omega)
  have e7 : ∀ w, 0 ≤ w → w < m 0 10 → m' 7 w = m 7 w := fun w q1 q2 => hm _ _ (by omega)
  have e8 : ∀ b, m' 8 b = m 8 b := fun b => hm _ _ (by omega)
  have e9 : ∀ b, m' 9 b = m 9 b := fun b => hm _ _ (by omega)
  have eX : ∀ b, m' 10 b = m 10 b := fun b => hm _ _ (by omega)
  have e11 : ∀ b, m' 11 b = m 11 b := fun b => hm _ _ (by omega)
  have e12 : ∀ b, m' 12 b = m 12 b := fun b => hm _ _ (by omega)
  refine ⟨⟨?_, by rw [e10]; exact a2, fun w q1 q2 => ?_, fun x q1 q2 => ?_, fun q x q1 q2 => ?_, fun q x q1 q2 => ?_⟩, ⟨by rw [hc _ _ (by omega), e10]; exact b1, ?_, fun w q1 q2 => ?_, fun x q1 q2 => ?_⟩, P, fun w q1 q2 => ?_, ?_⟩
  · unfold TrM at *
    simp only [e15, e8, e9]
    exact a1
  · rw [e10] at q2
    rw [e5 w q1 q2, e6 w q1 q2, e7 w q1 q2, e15, eX, e11]
    exact a3 w q1 q2
  · rw [e15] at q2
    rw [eX, e10]
    rcases a4 x q1 q2 with r | ⟨r1, r2, r3⟩
    · exact Or.inl r
    · exact Or.inr ⟨r1, r2, by rw [e7 _ r1 r2]; exact r3⟩
  · rw [e11]; exact a5 (by omega) x q1 (by omega)
  · rw [e8, e11, e11]; exact a6 (by omega) x q1 (by omega)
  · have k9 : ∀ b, c' 9 b = c 9 b := fun b => hc _ _ (by omega)
    have k10 : ∀ b, c' 10 b = c 10 b := fun b => hc _ _ (by omega)
    have k11 : ∀ b, c' 11 b = c 11 b := fun b => hc _ _ (by omega)
    have k12 : ∀ b, c' 12 b = c 12 b := fun b => hc _ _ (by omega)
    have k13 : ∀ b, c' 13 b = c 13 b := fun b => hc _ _ (by omega)
    unfold TrC at *
    simp only [e15, e8, e9, eX, hc 4 5 (by omega), k9, k10, k11, k12, k13]
    exact b2
  · rw [e10] at q2
    rw [e5 w q1 q2, e6 w q1 q2, e7 w q1 q2, hc 5 _ (by omega), hc 6 _ (by omega), hc 7 _ (by omega)]
    obtain ⟨r1, r2, r3, r4⟩ := b3 w q1 q2
    exact ⟨r1, r2, r3, fun k k1 k2 => by rw [hc 8 _ (by omega), hm (52 + w) k (by omega)]; exact r4 k k1 k2⟩
  · rw [e15] at q2
    rw [hc 15 _ (by omega), hc 14 _ (by omega), e11, e12]
    exact b4 x q1 q2
  · rw [e10] at q2
    rw [e5 w q1 q2, e7 w q1 q2, e15]
    obtain ⟨r1, r2, r3⟩ := p1 w q1 q2
    exact ⟨r1, r2, fun k k1 k2 => by rw [e8, e9, hm (52 + w) k (by omega)]; exact r3 k k1 k2⟩
  · obtain ⟨g1, g2, g3⟩ := p2
    unfold LG
    rw [e10, e15, e8, e9]
    refine ⟨g1, fun x q1 q2 => ?_, fun x q1 q2 => ?_⟩
    · obtain ⟨w, k, r1, r2, r3, r4, r5⟩ := g2 x q1 q2
      exact ⟨w, k, r1, r2, r3, by rw [e5 w r1 r2]; exact r4, r5⟩
    · rw [e12, thr_mv2 (m := m) (m' := m') (m 0 10).toNat (fun b q3 q4 => e5 b q3 (by omega))]
      exact g3 x q1 q2
/-- a fresh word, read on both sides; W words were there -/
def FRE (c m : IH) (W f : Int) : Prop := (0 ≤ c 16 f ∧ c 16 f + c 17 f ≤ 400) ∧ (m 5 (W + f) = c 17 f ∧ 1 ≤ c 17 f ∧ c 17 f ≤ 12) ∧ (m 6 (W + f) = c 18 f ∧ 0 ≤ c 18 f ∧ c 18 f ≤ 99) ∧ (∀ k, 0 ≤ k → k < c 17 f → m (52 + (W + f)) k = c 3 (c 16 f + k) ∧ sg (m (52 + (W + f)) k)) ∧ ∀ e, 0 ≤ e → e < W + f → ¬ SPW m (fun k => m (52 + (W + f)) k) (m 5 (W + f)) e
theorem FRE.fr {c c' m m' : IH} {W f : Int} (h : FRE c m W f) (hW : 0 ≤ W ∧ 0 ≤ f) (hc : ∀ a, 16 ≤ a → a ≤ 18 → c' a f = c a f) (h3 : ∀ b, c' 3 b = c 3 b) (h5 : ∀ e, 0 ≤ e → e ≤ W + f → m' 5 e = m 5 e) (h6 : m' 6 (W + f) = m 6 (W + f)) (hr : ∀ e b, 0 ≤ e → e ≤ W + f → m' (52 + e) b = m (52 + e) b) : FRE c' m' W f := by
  obtain ⟨a1, a2, a3, a4, a5⟩ := h
  unfold FRE
  rw [hc 16 (by omega) (by omega), hc 17 (by omega) (by omega), hc 18 (by omega) (by omega), h5 _ (by omega) (by omega), h6]
  refine ⟨a1, a2, a3, fun k k1 k2 => ?_, fun e e1 e2 z => a5 e e1 e2 ?_⟩
  · rw [hr _ _ (by omega) (by omega), h3]; exact a4 k k1 k2
  · obtain ⟨z1, z2⟩ := z
    refine ⟨by rw [← h5 e e1 (by omega)]; exact z1, fun k k1 k2 => ?_⟩
    have z3 : m' (52 + e) k = m' (52 + (W + f)) k := z2 k k1 k2
    rw [hr e k e1 (by omega), hr (W + f) k (by omega) (by omega)] at z3
    exact z3
section
variable {N : Nat} {c m : IH}
theorem rw33_0 {w : Int} (hw : 0 ≤ w ∧ w < 61) (h : m 0 6 ≠ 0) : G_X12_readsWord_33 N m w = some (xv m 6 w 0) := by
  unfold G_X12_readsWord_33 G_X12_readsWord_70
  rw [xq_in hw.1 hw.2, xlet_q, gfine0 (by rw [xv_ne (by omega)]; exact h), yb_s, if_pos rfl, closes0 (by rw [xv_ne (by omega)]; exact h), ybv_s]
/-- the signs of a new word, both sides -/
theorem sign0 {n i w : Int} (hi : 0 ≤ i) (hw : 0 ≤ w ∧ w < 60) : ∀ (f f2 : Nat) (c m : IH) (v l : Int), TP c m n (i + v) → 0 ≤ v → v ≤ 12 → (v = 0 ∧ l = -1 ∧ isLt (bt m n i)) ∨ (0 < v ∧ l = m (52 + w) (v - 1)) → (∀ q, 0 ≤ q → q < v → m (52 + w) q = bt m n (i + q) ∧ sg (m (52 + w) q)) → 12 - v < f → 12 - v < f2 → ∃ r c' r' m', G_X2_passWord_4 N f c l v = some (r, c') ∧ G_X12_readsSigns_2 N f2 m w v = some (r', m') ∧ (∀ a b, ¬ (a = 2 ∧ (b = 3 ∨ b = 4 ∨ b = 5)) → c' a b = c a b) ∧ (∀ a b, ¬ (a = 0 ∧ (b = 4 ∨ b = 6 ∨ b = 7)) → ¬ (a = 5 ∧ b = w) → a ≠ 52 + w → m' a b = m a b) ∧ ((r = 1 ∧ ∃ len, 1 ≤ len ∧ len ≤ 12 ∧ TP c' m' n (i + len) ∧ m' 5 w = len ∧ ∀ q, 0 ≤ q → q < len → m' (52 + w) q = bt m' n (i + q) ∧ sg (m' (52 + w) q)) ∨ (r = 0 ∧ FL c' m')) := by
  intro f
  induction f with
  | zero => intro f2 c m v l h h1 h2 h3 h4 h5 h6; omega
  | succ f ih =>
    intro f2 c m v l h h1 h2 h3 h4 h5 h6
    obtain ⟨f2, rfl⟩ : ∃ g, f2 = g + 1 := ⟨f2 - 1, by omega⟩
    have hr := h.rng h.2.1.1
    have hn := h.2.1
    have t6 := h.1.2.2.2.2.2
    have step : sg (bt m n (i + v)) → ∃ r c' r' m', G_X2_passWord_56 N (G_X2_passWord_4 N f) c v (bt m n (i + v)) = some (r, c') ∧ G_X12_readsSigns_32 N (G_X12_readsSigns_2 N f2) m w v = some (r', m') ∧ (∀ a b, ¬ (a = 2 ∧ (b = 3 ∨ b = 4 ∨ b = 5)) → c' a b = c a b) ∧ (∀ a b, ¬ (a = 0 ∧ (b = 4 ∨ b = 6 ∨ b = 7)) → ¬ (a = 5 ∧ b = w) → a ≠ 52 + w → m' a b = m a b) ∧ ((r = 1 ∧ ∃ len, 1 ≤ len ∧ len ≤ 12 ∧ TP c' m' n (i + len) ∧ m' 5 w = len ∧ ∀ q, 0 ≤ q → q < len → m' (52 + w) q = bt m' n (i + q) ∧ sg (m' (52 + w) q)) ∨ (r = 0 ∧ FL c' m')) := fun hs => by
      have hs0 : 0 ≤ bt m n (i + v) := by unfold sg at hs; omega
      unfold G_X2_passWord_56 G_X12_readsSigns_32 G_X12_readsSigns_47
      by_cases v12 : v = 12
      · rw [if_pos v12, if_pos v12, grefuse, yb_s, ybo0, gwrong t6, ybv_s, gfine0 (by rw [xv_ne (by omega), xv_eq rfl rfl]; omega), yb_s, if_pos rfl, h.1.2.2.1, h.1.2.2.2.1]
        refine ⟨0, _, _, _, rfl, rfl, fun a b z => ?_, fun a b z1 z2 z3 => ?_, Or.inr ⟨rfl, FL.w2 (by omega)⟩⟩
        · rw [xv_ne (by omega), xv_ne (by omega)]
        · rw [xv_ne (by omega), xv_ne (by omega)]
      · rw [if_neg v12, if_neg v12, gfine t6, yb_s, if_neg i10, xq_in hw.1 (by omega), ghere h, h.1.2.2.1]
        simp only [xlet_q, yb_s]
        rw [xq_in h1 (by omega), xv_ne (show ¬ ((0 : Int) = 52 + w ∧ (4 : Int) = v) by omega), h.1.2.2.2.1, wr_in (show -2147483648 ≤ i + v + 1 by omega) (by omega), wr_in (show -2147483648 ≤ v + 1 by omega) (by omega)]
        have T1 : TP (xv c 2 3 (i + v + 1)) (xv (xv m (52 + w) v (bt m n (i + v))) 0 4 (i + v + 1)) n (i + (v + 1)) := by
          rw [show i + (v + 1) = i + v + 1 by omega]
          exact (h.w (by omega)).at (by omega)
        have e1 : xv (xv m (52 + w) v (bt m n (i + v))) 0 4 (i + v + 1) (52 + w) v = bt m n (i + v) := by rw [xv_ne (by omega), xv_eq rfl rfl]
        obtain ⟨r, c', r', m', a1, a2, a3, a4, a5⟩ := ih f2 (xv c 2 3 (i + v + 1)) (xv (xv m (52 + w) v (bt m n (i + v))) 0 4 (i + v + 1)) (v + 1) (bt m n (i + v)) T1 (by omega) (by omega) (Or.inr ⟨by omega, by rw [show v + 1 - 1 = v by omega, e1]⟩) (fun q q1 q2 => by
          rw [bt_xv (by omega), bt_xv (by omega)]
          by_cases e : q = v
          · subst e
            rw [e1]
            exact ⟨rfl, hs⟩
          · rw [xv_ne (by omega), xv_ne (by omega)]
            exact h4 q q1 (by omega)) (by omega) (by omega)
        refine ⟨r, c', r', m', a1, a2, fun a b z => ?_, fun a b z1 z2 z3 => ?_, a5⟩
        · clear a5; rw [a3 a b z, xv_ne (by omega)]
        · clear a5; rw [a4 a b z1 z2 z3, xv_ne (by omega), xv_ne (by omega)]
    have stop : 0 < v → ∃ r c' r' m', (if l = 45 then yb (G_X9_refuse N c 1 (c 2 3)) (fun r44 a44 => if r44 = 0 then some (0, a44) else G_X2_passWord_50 N (G_X2_passWord_4 N f) a44) else G_X2_passWord_50 N (G_X2_passWord_4 N f) c) = some (r, c') ∧ G_X12_readsSigns_84 N m w v = some (r', m') ∧ (∀ a b, ¬ (a = 2 ∧ (b = 3 ∨ b = 4 ∨ b = 5)) → c' a b = c a b) ∧ (∀ a b, ¬ (a = 0 ∧ (b = 4 ∨ b = 6 ∨ b = 7)) → ¬ (a = 5 ∧ b = w) → a ≠ 52 + w → m' a b = m a b) ∧ ((r = 1 ∧ ∃ len, 1 ≤ len ∧ len ≤ 12 ∧ TP c' m' n (i + len) ∧ m' 5 w = len ∧ ∀ q, 0 ≤ q → q < len → m' (52 + w) q = bt m' n (i + q) ∧ sg (m' (52 + w) q)) ∨ (r = 0 ∧ FL c' m')) := fun v0 => by
      have el : l = m (52 + w) (v - 1) := by
        rcases h3 with q | q
        · omega
        · exact q.2
      unfold G_X12_readsSigns_84 G_X2_passWord_50
      rw [xq_in hw.1 (by omega), xlet_q, if_neg (show ¬ v ≤ 0 by omega), xq_in hw.1 (by omega), xlet_q, xq_in (by omega) (by omega), xv_ne (show ¬ ((52 : Int) + w = 5 ∧ v - 1 = w) by omega), ← el]
      have T1 : TP c (xv m 5 w v) n (i + v) := h.w (by omega)
      by_cases l45 : l = 45
      · rw [if_pos l45, if_pos l45, grefuse, yb_s, if_pos rfl, gwrong T1.1.2.2.2.2.2, ybv_s, h.1.2.2.1, T1.1.2.2.2.1]
        refine ⟨0, _, _, _, rfl, rfl, fun a b z => ?_, fun a b z1 z2 z3 => ?_, Or.inr ⟨rfl, FL.w2 (by omega)⟩⟩
        · rw [xv_ne (by omega), xv_ne (by omega)]
        · rw [xv_ne (by omega), xv_ne (by omega), xv_ne (by omega)]
      · rw [if_neg l45, if_neg l45]
        refine ⟨1, _, _, _, rfl, rfl, fun a b z => rfl, fun a b z1 z2 z3 => xv_ne (by omega), Or.inl ⟨rfl, v, by omega, h2, T1, xv_eq rfl rfl, fun q q1 q2 => ?_⟩⟩
        rw [xv_ne (by omega), bt_xv (by omega)]
        exact h4 q q1 q2
    unfold G_X2_passWord_4 G_X12_readsSigns_2
    rw [if_neg (show ¬ 12 < v by omega), gpeek h (by omega), yb_s, Int.add_zero, xlet_q, gletC, yb_s, gfine t6, yb_s, if_neg i10, ghere h, yb_s, gletM, yb_s]
    by_cases hl : 97 ≤ bt m n (i + v) ∧ bt m n (i + v) ≤ 122
    · rw [isl_1 hl, if_neg i10, if_neg i10]
      exact step (Or.inr hl)
    · have v0 : 0 < v := by
        rcases h3 with ⟨q1, q2, q3⟩ | q
        · rw [q1, Int.add_zero] at hl
          exact absurd q3 hl
        · exact q.1
      rw [isl_0 hl, if_pos rfl, if_pos rfl, if_neg (show ¬ v ≤ 0 by omega), ghere h, yb_s]
      by_cases c45 : bt m n (i + v) = 45
      · rw [if_pos c45, if_pos c45]
        exact step (Or.inl c45)
      · rw [if_neg c45, if_neg c45]
        exact stop v0
/-- is a word the same as one ahead of it? -/
theorem sameAsS {w : Int} (hN : 20000 ≤ N) (hw : 0 ≤ w ∧ w < 61) (h5 : ∀ e, 0 ≤ e → e < w → 0 ≤ m 5 e ∧ m 5 e ≤ 12) : ∃ v, G_X12_sameAs N m w = some (v, m) ∧ ((v = -1 ∧ ∀ e, 0 ≤ e → e < w → ¬ SPW m (fun k => m (52 + w) k) (m 5 w) e) ∨ (v ≠ -1 ∧ ∃ e, 0 ≤ e ∧ e < w ∧ SPW m (fun k => m (52 + w) k) (m 5 w) e)) := by
  have lp : ∀ (f : Nat) (q : Int), 0 ≤ q → q ≤ w → (∀ e, 0 ≤ e → e < q → ¬ SPW m (fun k => m (52 + w) k) (m 5 w) e) → w - q < f → ∃ v, G_X12_sameAs_2 N f m w q = some (v, m) ∧ ((v = -1 ∧ ∀ e, 0 ≤ e → e < w → ¬ SPW m (fun k => m (52 + w) k) (m 5 w) e) ∨ (v ≠ -1 ∧ ∃ e, 0 ≤ e ∧ e < w ∧ SPW m (fun k => m (52 + w) k) (m 5 w) e)) := by
    intro f
    induction f with
    | zero => intro q g1 g2 g3 g4; omega
    | succ f ih =>
      intro q g1 g2 g3 g4
      unfold G_X12_sameAs_2
      by_cases c1 : w ≤ q
      · rw [if_pos c1]
        exact ⟨-1, rfl, Or.inl ⟨rfl, fun e e1 e2 => g3 e e1 (by omega)⟩⟩
      · rw [if_neg c1]
        obtain ⟨v, e1, e2⟩ := areS (N := N) (m := m) (a := q) (b := w) hN (by omega) hw (h5 q g1 (by omega))
        rw [e1, yb_s]
        rcases e2 with ⟨e2, e3⟩ | ⟨e2, e3⟩
        · rw [if_neg (by omega)]
          exact ⟨q, rfl, Or.inr ⟨by omega, q, g1, by omega, e3⟩⟩
        · rw [if_pos e2, xlet_q, wr_in (by omega) (by omega)]
          exact ih (q + 1) (by omega) (by omega) (fun u u1 u2 => by
            by_cases e : u = q
            · subst e; exact e3
            · exact g3 u u1 (by omega)) (by omega)
  unfold G_X12_sameAs
  rw [xlet_q]
  exact lp N 0 (by omega) (by omega) (fun e e1 e2 => by omega) (by omega)
/-- a fresh word of the class has these bytes -/
def FSM (c : IH) (s len f : Int) : Prop := c 17 f = len ∧ ∀ k, 0 ≤ k → k < len → c 3 (c 16 f + k) = c 3 (s + k)
theorem freshS {s len F : Int} (hN : 20000 ≤ N) (hF : c 4 13 = F) (hF2 : 0 ≤ F ∧ F ≤ 60) (hs : 0 ≤ s ∧ 1 ≤ len ∧ s + len ≤ 400) (hf : ∀ f, 0 ≤ f → f < F → 0 ≤ c 16 f ∧ c 16 f + c 17 f ≤ 400) : ∃ v, G_X2_isFresh N 3 c s len = some (v, c) ∧ ((v = 0 ∧ ∀ f, 0 ≤ f → f < F → ¬ FSM c s len f) ∨ (v = 1 ∧ ∃ f, 0 ≤ f ∧ f < F ∧ FSM c s len f)) := by
  have lp : ∀ (g : Nat) (f : Int), 0 ≤ f → f ≤ F → (∀ e, 0 ≤ e → e < f → ¬ FSM c s len e) → F - f < g → ∃ v, G_X2_isFresh_3 N 3 g c s len f = some (v, c) ∧ ((v = 0 ∧ ∀ f, 0 ≤ f → f < F → ¬ FSM c s len f) ∨ (v = 1 ∧ ∃ f, 0 ≤ f ∧ f < F ∧ FSM c s len f)) := by
    intro g
    induction g with
    | zero => intro f g1 g2 g3 g4; omega
    | succ g ih =>
      intro f g1 g2 g3 g4
      unfold G_X2_isFresh_3
      rw [hF]
      by_cases c1 : F ≤ f
      · rw [if_pos c1]
        exact ⟨0, rfl, Or.inl ⟨rfl, fun e e1 e2 => g3 e e1 (by omega)⟩⟩
      · rw [if_neg c1, xlet_q]
        have hb := hf f g1 (by omega)
        have no : ∀ q, 0 ≤ q → q < len → ¬ FSM c s len f → ∃ v, G_X2_isFresh_59 N 3 (G_X2_isFresh_3 N 3 g) c s len f q = some (v, c) ∧ ((v = 0 ∧ ∀ f, 0 ≤ f → f < F → ¬ FSM c s len f) ∨ (v = 1 ∧ ∃ f, 0 ≤ f ∧ f < F ∧ FSM c s len f)) := fun q q1 q2 nf => by
          unfold G_X2_isFresh_59
          rw [if_neg (by omega), xlet_q, wr_in (by omega) (by omega)]
          exact ih (f + 1) (by omega) (by omega) (fun e e1 e2 => by
            by_cases ee : e = f
            · subst ee; exact nf
            · exact g3 e e1 (by omega)) (by omega)
        have inn : ∀ (h : Nat) (q : Int), 0 ≤ q → q ≤ len → (∀ k, 0 ≤ k → k < q → c 17 f = len ∧ c 3 (c 16 f + k) = c 3 (s + k)) → len - q < h → ∃ v, G_X2_isFresh_15 N 3 (G_X2_isFresh_3 N 3 g) h c s len f q = some (v, c) ∧ ((v = 0 ∧ ∀ f, 0 ≤ f → f < F → ¬ FSM c s len f) ∨ (v = 1 ∧ ∃ f, 0 ≤ f ∧ f < F ∧ FSM c s len f)) := by
          intro h
          induction h with
          | zero => intro q q1 q2 q3 q4; omega
          | succ h ihh =>
            intro q q1 q2 q3 q4
            unfold G_X2_isFresh_15
            rw [xq_in g1 (by omega)]
            by_cases el : c 17 f = len
            · rw [if_pos el]
              by_cases c2 : len ≤ q
              · rw [if_pos c2]
                unfold G_X2_isFresh_59
                rw [if_pos (show q = len by omega)]
                exact ⟨1, rfl, Or.inr ⟨rfl, f, g1, by omega, el, fun k k1 k2 => (q3 k k1 (by omega)).2⟩⟩
              · rw [if_neg c2, xq_in g1 (by omega), xq_in (by omega) (by omega), xq_in (by omega) (by omega)]
                by_cases c3 : c 3 (c 16 f + q) = c 3 (s + q)
                · rw [if_pos c3, xlet_q, wr_in (by omega) (by omega)]
                  exact ihh (q + 1) (by omega) (by omega) (fun k k1 k2 => by
                    by_cases ek : k = q
                    · subst ek; exact ⟨el, c3⟩
                    · exact q3 k k1 (by omega)) (by omega)
                · rw [if_neg c3]
                  exact no q q1 (by omega) (fun z => c3 (z.2 q q1 (by omega)))
            · rw [if_neg el]
              have q0 : q = 0 := by
                by_cases qq : q = 0
                · exact qq
                · exact absurd (q3 0 (by omega) (by omega)).1 el
              exact no q q1 (by omega) (fun z => el z.1)
        exact inn N 0 (by omega) (by omega) (fun k k1 k2 => by omega) (by omega)
  unfold G_X2_isFresh
  rw [xlet_q]
  exact lp N 0 (by omega) (by omega) (fun e e1 e2 => by omega) (by omega)
end
