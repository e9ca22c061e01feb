def CN (N : Nat) (pc pm : Option (Int × IH)) : Prop := ∃ r c' m', pc = some (r, c') ∧ pm = some (r, m') ∧ R N c' m'
/-- which of the words found at or below a price are w -/
def gk (m2 : IH) (lim : Int) : Nat → Nat → Int
  | 0, _ => 0
  | k + 1, w => if m2 33 k = w ∧ m2 34 k ≤ lim then 1 else gk m2 lim k w
theorem gk_no {m2 : IH} {lim : Int} {w : Nat} : ∀ k : Nat, (∀ j : Nat, j < k → m2 33 j ≠ w) → gk m2 lim k w = 0 := by
  intro k
  induction k with
  | zero => intro _; rfl
  | succ k ih =>
    intro h
    show (if m2 33 k = w ∧ m2 34 k ≤ lim then 1 else gk m2 lim k w) = 0
    rw [if_neg (fun q => h k (by omega) q.1)]
    exact ih (fun j q => h j (by omega))
theorem gk_in {m m2 : IH} {lim : Int} {w i : Nat} (hB : RB m m2) (h1 : m2 33 i = w) : ∀ k : Nat, i < k → (k : Int) ≤ m2 0 49 → gk m2 lim k w = if m2 34 i ≤ lim then 1 else 0 := by
  intro k
  induction k with
  | zero => intro h; omega
  | succ k ih =>
    intro h h2
    show (if m2 33 k = w ∧ m2 34 k ≤ lim then 1 else gk m2 lim k w) = _
    by_cases c1 : i = k
    · subst c1
      rw [gk_no i (fun j q e => (hB.2.2 j i (by omega) (by omega) (by omega)).1 (e.trans h1.symm))]
      by_cases c2 : m2 34 i ≤ lim
      · rw [if_pos ⟨h1, c2⟩, if_pos c2]
      · rw [if_neg (fun q => c2 q.2), if_neg c2]
    · rw [if_neg (fun q => (hB.2.2 i k (by omega) (by omega) (by omega)).1 (h1.trans q.1.symm))]
      exact ih (by omega) (by omega)
theorem cq_up {g g' : Nat → Int} {a : Nat} (h0 : g a = 0) (h1 : g' a = 1) (h : ∀ k, k ≠ a → g' k = g k) : ∀ n : Nat, cq g' n = cq g n + if a < n then 1 else 0 := by
  intro n
  induction n with
  | zero => rw [if_neg (by omega)]; rfl
  | succ n ih =>
    show cq g' n + g' n = cq g n + g n + _
    rw [ih]
    by_cases c1 : n = a
    · subst c1
      rw [if_neg (by omega), if_pos (by omega), h0, h1]
    · rw [h n c1]
      by_cases c2 : a < n
      · rw [if_pos c2, if_pos (by omega)]; omega
      · rw [if_neg c2, if_neg (by omega)]; omega
theorem gk_sum {m m2 : IH} {lim : Int} {W : Nat} (hB : RB m m2) (hW : m 0 10 = W) : ∀ k : Nat, (k : Int) ≤ m2 0 49 → cq (gk m2 lim k) W = cq (fun j : Nat => if lim < m2 34 j then 0 else 1) k := by
  intro k
  induction k with
  | zero =>
    intro _
    show cq (fun _ => 0) W = 0
    clear hW
    induction W with
    | zero => rfl
    | succ W ih => show cq (fun _ => 0) W + 0 = 0; rw [ih]; rfl
  | succ k ih =>
    intro h
    show _ = cq (fun j : Nat => if lim < m2 34 j then 0 else 1) k + (if lim < m2 34 k then 0 else 1)
    rw [← ih (by omega)]
    have b := (hB.2.1 k (by omega) (by omega)).1
    have ea : m2 33 k = ((m2 33 k).toNat : Nat) := by omega
    by_cases c1 : lim < m2 34 k
    · rw [if_pos c1, Int.add_zero]
      refine cq_cg W (fun w _ => ?_)
      show (if m2 33 k = w ∧ m2 34 k ≤ lim then 1 else gk m2 lim k w) = _
      rw [if_neg (by omega)]
    · rw [if_neg c1]
      have := cq_up (g := gk m2 lim k) (g' := gk m2 lim (k + 1)) (a := (m2 33 k).toNat) (gk_no k (fun j q e => (hB.2.2 j k (by omega) (by omega) (by omega)).1 (e.trans ea.symm))) (by
        show (if m2 33 k = _ ∧ m2 34 k ≤ lim then 1 else gk m2 lim k _) = 1
        rw [if_pos ⟨ea, by omega⟩]) (fun w q => by
        show (if m2 33 k = w ∧ m2 34 k ≤ lim then 1 else gk m2 lim k w) = _
        rw [if_neg (by omega)]) W
      rw [this, if_pos (by omega)]
section
variable {N : Nat} {c m : IH}
theorem priceOfM {c0 c1 c2 m1 m2 m1' : IH} {L w : Int} (hN : 20000 ≤ N) (h : TR c m) (hm : TM m m1) (h1 : NetR c1 m1 L) (hR : RN N c0 m1 L 60 c2 m2) (hw : 0 ≤ w ∧ w < m 0 10) (hB : RB m m2) (hf : ∀ a b, ¬ (5303 ≤ a ∧ a < 5352) → m1' a b = m1 a b) : ∃ m4, G_X12_priceOf N m1' w = some (pf m2 w, m4) ∧ ∀ a b, ¬ (5303 ≤ a ∧ a < 5352) → m4 a b = m1 a b := by
  have w60 := h.1.2.1
  obtain ⟨m4, d1, d2, d3, d4, _⟩ := spP (m1' := m1') (w := w) hN h hm h1 hR hw hB hf
  have e6 : m4 6 w = m 6 w := by rw [d2 _ _ (by omega)]; exact hm _ _ (by omega) (by omega) (by omega)
  refine ⟨m4, ?_, d2⟩
  unfold G_X12_priceOf
  rw [d1, yb_s]
  simp (disch := omega) only [xlet_q, xq_in]
  rcases d4 with ⟨e1, e2, e3, e4⟩ | ⟨e1, e2⟩
  · rw [if_pos e1, e6, ← e2]
    have := pf_rng (w := w) hB
    rw [wr_in (by omega) (by omega)]
  · rw [if_neg (by omega), e2]
theorem withinC {m2 : IH} {t lim : Int} (hB : RB m m2) (ht : 0 ≤ t ∧ t < 40) (hR : RWM c t m2) : ∀ (f : Nat) (k : Nat), (k : Int) ≤ m2 0 49 → m2 0 49 - k < f → G_X11_within_27 N f c t lim (cq (fun j : Nat => if lim < m2 34 j then 0 else 1) k) k = some (0, cq (fun j : Nat => if lim < m2 34 j then 0 else 1) (m2 0 49).toNat, c) := by
  have hb := hB.1
  intro f
  induction f with
  | zero => intro k h1 h2; omega
  | succ f ih =>
    intro k h1 h2
    unfold G_X11_within_27 G_X11_within_58
    simp (disch := omega) only [xlet_q, xq_in]
    have cr := cq_rng (g := fun j : Nat => if lim < m2 34 j then 0 else 1) (fun n => by
      show 0 ≤ (if lim < m2 34 n then (0 : Int) else 1) ∧ (if lim < m2 34 n then (0 : Int) else 1) ≤ 1
      by_cases c1 : lim < m2 34 n
      · rw [if_pos c1]; omega
      · rw [if_neg c1]; omega) k
    rw [hR.1]
    by_cases c1 : m2 0 49 ≤ (k : Int)
    · rw [if_pos c1, show (m2 0 49).toNat = k by omega]
    · rw [if_neg c1, priceOfS hR (by omega), yb_s]
      have ep : pr m2 34 k = m2 34 k := by unfold pr; rw [if_pos (by omega)]
      rw [ep, wr_in (show -2147483648 ≤ (k : Int) + 1 by omega) (by omega), wr_in (show -2147483648 ≤ cq (fun j : Nat => if lim < m2 34 j then 0 else 1) k + 1 by omega) (by omega)]
      have i := ih (k + 1) (by omega) (by omega)
      have es : cq (fun j : Nat => if lim < m2 34 j then 0 else 1) (k + 1) = cq (fun j : Nat => if lim < m2 34 j then 0 else 1) k + (if lim < m2 34 k then 0 else 1) := rfl
      rw [es, show ((k + 1 : Nat) : Int) = (k : Int) + 1 by omega] at i
      by_cases c2 : lim < m2 34 k
      · rw [if_pos c2, Int.add_zero] at i
        rw [if_pos c2]; exact i
      · rw [if_neg c2] at i
        rw [if_neg c2]; exact i
theorem withinM {c0 c1 c2 m1 m2 : IH} {L lim : Int} (hN : 20000 ≤ N) (h : TR c m) (hm : TM m m1) (h1 : NetR c1 m1 L) (hR : RN N c0 m1 L 60 c2 m2) (hB : RB m m2) : ∀ (f : Nat) (m1' : IH) (k : Nat), (∀ a b, ¬ (5303 ≤ a ∧ a < 5352) → m1' a b = m1 a b) → (k : Int) ≤ m 0 10 → m 0 10 - k < f → ∃ m4, G_X12_within_65 N f m1' lim (cq (gk m2 lim (m2 0 49).toNat) k) k = some (cq (gk m2 lim (m2 0 49).toNat) (m 0 10).toNat, m4) ∧ ∀ a b, ¬ (5303 ≤ a ∧ a < 5352) → m4 a b = m1 a b := by
  have hb := hB.1
  have w60 := h.1.2.1
  intro f
  induction f with
  | zero => intro m1' k h1 h2 h3; omega
  | succ f ih =>
    intro m1' k g1 g2 g3
    have e10 : m1' 0 10 = m 0 10 := by rw [g1 _ _ (by omega)]; exact hm _ _ (by omega) (by omega) (by omega)
    unfold G_X12_within_65 G_X12_within_94
    rw [e10]
    by_cases c1 : m 0 10 ≤ (k : Int)
    · rw [if_pos c1, show (m 0 10).toNat = k by omega]
      exact ⟨m1', rfl, g1⟩
    · rw [if_neg c1]
      obtain ⟨m4, d1, d2⟩ := priceOfM (w := k) hN h hm h1 hR (by omega) hB g1
      rw [d1, yb_s, inM, yb_s]
      have ek : (if 0 ≤ pf m2 k ∧ pf m2 k ≤ lim then (1 : Int) else 0) = gk m2 lim (m2 0 49).toNat k := by
        by_cases hx : ∃ j : Nat, (j : Int) < m2 0 49 ∧ m2 33 j = k
        · obtain ⟨j, j1, j2⟩ := hx
          have b := (hB.2.1 j (by omega) j1).2
          rw [gk_in hB j2 _ (by omega) (by omega), pf_in hB (by omega) j1 j2]
          by_cases c2 : m2 34 j ≤ lim
          · rw [if_pos c2, if_pos (by omega)]
          · rw [if_neg c2, if_neg (by omega)]
        · rw [gk_no _ (fun j q e => hx ⟨j, by omega, e⟩), pf_out (fun j a b e => hx ⟨j.toNat, by omega, by rw [show ((j.toNat : Nat) : Int) = j by omega]; exact e⟩), if_neg (by omega)]
      have gr : ∀ n w, 0 ≤ gk m2 lim n w ∧ gk m2 lim n w ≤ 1 := by
        intro n w
        induction n with
        | zero => show (0 : Int) ≤ 0 ∧ (0 : Int) ≤ 1; omega
        | succ n ih =>
          show 0 ≤ (if m2 33 n = w ∧ m2 34 n ≤ lim then 1 else gk m2 lim n w) ∧ (if m2 33 n = w ∧ m2 34 n ≤ lim then 1 else gk m2 lim n w) ≤ 1
          by_cases c2 : m2 33 n = w ∧ m2 34 n ≤ lim
          · rw [if_pos c2]; omega
          · rw [if_neg c2]; exact ih
      have cr := cq_rng (gr (m2 0 49).toNat) k
      obtain ⟨m5, i1, i2⟩ := ih m4 (k + 1) d2 (by omega) (by omega)
      have es : cq (gk m2 lim (m2 0 49).toNat) (k + 1) = cq (gk m2 lim (m2 0 49).toNat) k + gk m2 lim (m2 0 49).toNat k := rfl
      rw [es, ← ek, show ((k + 1 : Nat) : Int) = (k : Int) + 1 by omega] at i1
      refine ⟨m5, ?_, i2⟩
      simp only [xlet_q]
      rw [wr_in (show -2147483648 ≤ (k : Int) + 1 by omega) (by omega)]
      by_cases c2 : 0 ≤ pf m2 k ∧ pf m2 k ≤ lim
      · rw [if_pos c2] at i1 ⊢
        rw [if_neg i10, wr_in (by omega) (by omega)]
        exact i1
      · rw [if_neg c2] at i1 ⊢
        rw [if_pos rfl, wr_in (by omega) (by omega)]
        exact i1
theorem count47 {g hh : Int → Int → Int} {r0 what : Int} (hN : 20000 ≤ N) (h : TR c m) (hs : SL c) (hw : what = 1 ∨ what = 2) : ∀ (f : Nat) (m' : IH) (t : Nat), TM m m' → (∀ s : Nat, (s : Int) < m 16 0 → m' 43 s = cwd N m s (sr hh r0 s)) → (t : Int) ≤ m 16 0 → m 16 0 - t < f → ∃ m'', G_X12_sentence_47 N f m' what (cq (if what = 1 then w1 N m hh r0 else w2 N m hh r0) t) t = some (cq (if what = 1 then w1 N m hh r0 else w2 N m hh r0) (m 16 0).toNat, m'') ∧ TM m m'' ∧ (∀ b, m'' 1 b = m' 1 b) ∧ m'' 0 0 = m' 0 0 := by
  have h40 := h.2.2.2.2.2.1.1
  intro f
  induction f with
  | zero => intro m' t h1 h2 h3 h4; omega
  | succ f ih =>
    intro m' t h1 h2 h3 h4
    have e16 : m' 16 0 = m 16 0 := h1 _ _ (by omega) (by omega) (by omega)
    unfold G_X12_sentence_47 G_X12_sentence_110
    rw [e16]
    by_cases c1 : m 16 0 ≤ (t : Int)
    · rw [if_pos c1, show (m 16 0).toNat = t by omega]
      exact ⟨m', rfl, h1, fun _ => rfl, rfl⟩
    · rw [if_neg c1]
      obtain ⟨m1, m3, b1, b2, b3, b4, b5, b6, _⟩ := mendT (m' := m') (t := (t : Int)) (k := 1) hN h hs h1 (by omega) (by omega)
      have f1 := fr_laysToken b1
      have f2 := fr_mends b2
      rw [b1, ybv_s, b2, ybv_s]
      have e43 : ∀ b, m3 43 b = m' 43 b := fun b => by rw [f2.2.2, f1.2.2]
      obtain ⟨m5, i1, i2, i3, i4⟩ := ih m3 (t + 1) b6 (fun s q => by rw [e43]; exact h2 s q) (by omega) (by omega)
      have q1 := cq_rng (w1_rng (N := N) (m := m) (h := hh) (r0 := r0)) t
      have q2 := cq_rng (w2_rng (N := N) (m := m) (h := hh) (r0 := r0)) t
      rw [show ((t + 1 : Nat) : Int) = (t : Int) + 1 by omega] at i1
      refine ⟨m5, ?_, i2, fun b => by rw [i3, f2.1, f1.1], by rw [i4, f2.2.1, f1.2.1]⟩
      have x := h2 t (by omega)
      simp (disch := omega) only [xlet_q, xq_in]
      rw [e43, x, b3, wr_in (show -2147483648 ≤ (t : Int) + 1 by omega) (by omega)]
      rcases hw with e | e
      · subst e
        rw [if_pos rfl] at i1 ⊢
        rw [if_pos rfl]
        have es : cq (w1 N m hh r0) (t + 1) = cq (w1 N m hh r0) t + w1 N m hh r0 t := rfl
        have ew : w1 N m hh r0 t = if cwd N m t (sr hh r0 t) = aw N m t then 0 else 1 := rfl
        rw [es, ew] at i1
        by_cases c2 : cwd N m t (sr hh r0 t) = aw N m t
        · rw [if_pos c2] at i1 ⊢
          rw [wr_in (by omega) (by omega)]; exact i1
        · rw [if_neg c2] at i1 ⊢
          rw [wr_in (by omega) (by omega)]; exact i1
      · subst e
        have n21 : ¬ ((2 : Int) = 1) := by omega
        rw [if_neg n21] at i1 ⊢
        rw [if_neg n21]
        have es : cq (w2 N m hh r0) (t + 1) = cq (w2 N m hh r0) t + w2 N m hh r0 t := rfl
        have ew : w2 N m hh r0 t = if cwd N m t (sr hh r0 t) = -1 then 1 else 0 := rfl
        rw [es, ew] at i1
        by_cases c2 : cwd N m t (sr hh r0 t) = -1
        · rw [if_pos c2] at i1 ⊢
          rw [wr_in (by omega) (by omega)]; exact i1
        · rw [if_neg c2] at i1 ⊢
          rw [wr_in (by omega) (by omega)]; exact i1
theorem find37 {p : Int} (hN : 20000 ≤ N) (h : R N c m) (hp : 0 ≤ p ∧ p ≤ m 0 2) : ∀ (f : Nat) (x k : Int), 0 ≤ x → x < m 0 15 → 0 ≤ k → k ≤ p → p - k + 1 < f → ∃ v, G_X2_look_6 N 3 f c 0 p x k = some (v, c) ∧ G_X12_find_37 N f m p x k = some (v, m) := by
  have ta := h.1
  have p4 := ta.2.2.1
  have nn := h.tr.1.1.1
  intro f
  induction f with
  | zero => intro x k h1 h2 h3 h4 h5; omega
  | succ f ih =>
    intro x k h1 h2 h3 h4 h5
    unfold G_X2_look_6 G_X12_find_37 G_X12_find_65
    rw [wr_in (show -2147483648 ≤ 0 + p by omega) (by omega), show 0 + p = p by omega, if_neg (show ¬ x = -1 by omega)]
    simp (disch := omega) only [xlet_q, xq_in]
    have e11 := (h.tr.2.1.2.1.2.1 x h1 h2).2.2
    by_cases c1 : p ≤ k
    · rw [if_pos c1, if_pos c1, e11]
      exact ⟨_, rfl, rfl⟩
    · rw [if_neg c1, if_neg c1, if_neg (by omega)]
      have eb := (ta.2.2.2.1 k h3 (by omega)).1
      rw [chC hN h.tr.1.1 h.tr.2.1.2.1 ⟨h1, h2⟩, chM hN h.tr.1.1 ⟨h1, h2⟩, yb_s, yb_s, eb, wr_in (by omega) (by omega)]
      rcases ch_cases m x (m 2 k) with q | q
      · rw [if_pos q.1, q.1]
        obtain ⟨f', hf'⟩ : ∃ f', f = f' + 1 := ⟨f - 1, by omega⟩
        subst hf'
        unfold G_X12_find_37 G_X12_find_65
        by_cases c3 : p ≤ k + 1
        · rw [if_pos c3, if_pos rfl]; exact ⟨_, rfl, rfl⟩
        · rw [if_neg c3, if_pos rfl, if_pos rfl]; exact ⟨_, rfl, rfl⟩
      · rw [if_neg (by omega)]
        exact ih _ (k + 1) (by omega) (by omega) (by omega) (by omega) (by omega)

theorem S_price {p q : Int} (hN : 20000 ≤ N) (h : R N c m) : CX N 1 0 (G_X11_price N c p q) (G_X12_price N m p q) := by
  unfold G_X11_price G_X12_price G_X12_price_22 G_X12_price_27
  have h' := h.m0 hN
  have z : xv m 0 0 0 0 0 = 0 := xv_eq rfl rfl
  rw [xlet_q]
  generalize xv m 0 0 0 = m at h' z ⊢
  rw [needT h', isT h', yb_s]
  by_cases c1 : 0 ≤ p ∧ p < m 16 0
  · rw [if_pos c1, if_pos c1, bx0, if_neg i10, needW h', isW h', yb_s]
    by_cases c2 : 0 ≤ q ∧ q < m 0 10
    · rw [if_pos c2, if_pos c2, bx0, if_neg i10, bad0 z, yb_s, if_pos rfl]
      obtain ⟨c', m2, a1, a2, a3, a4, lk⟩ := aloneS hN h'.tr h'.2.2.2.1 h'.2.2.2.2.1 c1
      have hr := h'.lk lk
      have rd := h'.tr.2.2.2.2.2.1.1
      obtain ⟨rb, c1', c2', m1, b1, b2, b3, b4, b5, b6⟩ := gvT hN h'.tr h'.2.2.2.1 c1 a2
      obtain ⟨m4, d1, d2⟩ := priceOfM (m1' := m1) (w := q) hN h'.tr b5 b2 b6 c2 rb (fun _ _ _ => rfl)
      have f1 := fr_laysToken b1
      have f2 := fr_priceOf d1
      rw [a1, ybv_s, priceForS hN rb (by omega) a3, yb_s, b1, ybv_s, d1, yb_s]
      have tm : TM m m4 := fun a b z1 z2 z3 => by rw [d2 a b (by omega)]; exact b5 a b z1 z2 z3
      exact CX.ok (hr.mv hN tm (fun b => by rw [f2.1, f1.1])) (by rw [f2.2, f1.2.1]; exact z)
    · rw [if_neg c2, if_neg c2, bx1, if_pos rfl]
      exact cxE hN h' z (by omega)
  · rw [if_neg c1, if_neg c1, bx1, if_pos rfl]
    exact cxE hN h' z (by omega)

theorem S_apart {p q : Int} (hN : 20000 ≤ N) (h : R N c m) : CX N 1 0 (G_X11_apart N c p q) (G_X12_apart N m p q) := by
  unfold G_X11_apart G_X12_apart G_X12_apart_22 G_X12_apart_27
  have h' := h.m0 hN
  have z : xv m 0 0 0 0 0 = 0 := xv_eq rfl rfl
  rw [xlet_q]
  generalize xv m 0 0 0 = m at h' z ⊢
  rw [needW h', isW h', yb_s]
  by_cases c1 : 0 ≤ p ∧ p < m 0 10
  · rw [if_pos c1, if_pos c1, bx0, if_neg i10, needW h', isW h', yb_s]
    by_cases c2 : 0 ≤ q ∧ q < m 0 10
    · rw [if_pos c2, if_pos c2, bx0, if_neg i10, bad0 z, yb_s, if_pos rfl]
      obtain ⟨v, c', m', a1, a2, a3, a4, a5, _⟩ := apartS hN h' c1 c2
      rw [a1, a2, yb_s, yb_s]
      exact CX.ok a3 (by rw [a4]; exact z)
    · rw [if_neg c2, if_neg c2, bx1, if_pos rfl]
      exact cxE hN h' z (by omega)
  · rw [if_neg c1, if_neg c1, bx1, if_pos rfl]
    exact cxE hN h' z (by omega)

theorem S_twin {p q : Int} (hN : 20000 ≤ N) (h : R N c m) : CX N 1 2 (G_X11_twin N c p q) (G_X12_twin N m p q) := by
  unfold G_X11_twin G_X12_twin G_X12_twin_19 G_X12_twin_42
  have h' := h.m0 hN
  have z : xv m 0 0 0 0 0 = 0 := xv_eq rfl rfl
  rw [xlet_q]
  generalize xv m 0 0 0 = m at h' z ⊢
  rw [needW h', isW h', yb_s]
  by_cases c1 : 0 ≤ p ∧ p < m 0 10
  · rw [if_pos c1, if_pos c1, bx0, if_neg i10, bad0 z, yb_s, if_pos rfl, inM, yb_s, needB]
    by_cases c2 : 0 ≤ q ∧ q ≤ 1
    · rw [if_pos c2, if_pos c2, bx0, if_neg i10, bad0 z, yb_s, if_pos rfl]
      simp only [xlet_q]
      have w60 := h'.tr.1.2.1
      exact twin60 hN N c m (-1) (-1) 0 h' z c1 (by omega) (by omega) (by omega)
    · rw [if_neg c2, if_neg c2, bx2, if_pos rfl]
      exact cxB hN h' z (by omega)
  · rw [if_neg c1, if_neg c1, bx1, if_pos rfl]
    exact cxE hN h' z (by omega)

theorem S_twins {p : Int} (hN : 20000 ≤ N) (h : R N c m) : CX N 0 1 (G_X11_twins N c p) (G_X12_twins N m p) := by
  unfold G_X11_twins G_X12_twins G_X12_twins_22
  have h' := h.m0 hN
  have z : xv m 0 0 0 0 0 = 0 := xv_eq rfl rfl
  rw [xlet_q]
  generalize xv m 0 0 0 = m at h' z ⊢
  rw [needB, inM, yb_s]
  by_cases c1 : 0 ≤ p ∧ p ≤ 999
  · rw [if_pos c1, if_pos c1, bx0, if_neg i10, bad0 z, yb_s, if_pos rfl]
    simp only [xlet_q]
    have w60 := h'.tr.1.2.1
    exact twins36 (W := m 0 10) hN w60 N c m 0 0 h' z rfl (by omega) (by omega) (by omega) (by omega) (by omega)
  · rw [if_neg c1, if_neg c1, bx2, if_pos rfl]
    exact cxB hN h' z (by omega)

theorem S_within {p q : Int} (hN : 20000 ≤ N) (h : R N c m) : CX N 1 2 (G_X11_within N c p q) (G_X12_within N m p q) := by
  unfold G_X11_within G_X12_within G_X12_within_19 G_X12_within_44
  have h' := h.m0 hN
  have z : xv m 0 0 0 0 0 = 0 := xv_eq rfl rfl
  rw [xlet_q]
  generalize xv m 0 0 0 = m at h' z ⊢
  rw [needT h', isT h', yb_s]
  by_cases c1 : 0 ≤ p ∧ p < m 16 0
  · rw [if_pos c1, if_pos c1, bx0, if_neg i10, bad0 z, yb_s, if_pos rfl, inM, yb_s, needB]
    by_cases c2 : 0 ≤ q ∧ q ≤ 9999
    · rw [if_pos c2, if_pos c2, bx0, if_neg i10, bad0 z, yb_s, if_pos rfl]
      obtain ⟨c', m2, a1, a2, a3, a4, lk⟩ := aloneS hN h'.tr h'.2.2.2.1 h'.2.2.2.2.1 c1
      have hr := h'.lk lk
      have rd := h'.tr.2.2.2.2.2.1.1
      have w60 := h'.tr.1.2.1
      obtain ⟨rb, c1', c2', m1, b1, b2, b3, b4, b5, b6⟩ := gvT hN h'.tr h'.2.2.2.1 c1 a2
      have hb := rb.1
      obtain ⟨m4, d1, d2⟩ := withinM (lim := q) hN h'.tr b5 b2 b6 rb N m1 0 (fun _ _ _ => rfl) (by omega) (by omega)
      have wc := withinC (N := N) (c := c') (lim := q) rb (by omega) a3 N 0 (by omega) (by omega)
      have gs := gk_sum (lim := q) (W := (m 0 10).toNat) rb (by omega) (m2 0 49).toNat (by omega)
      have f1 := fr_laysToken b1
      have e10 : m1 1 = m 1 := funext f1.1
      have tm : TM m m4 := fun a b z1 z2 z3 => by rw [d2 a b (by omega)]; exact b5 a b z1 z2 z3
      rw [a1, ybv_s, b1, ybv_s]
      simp only [xlet_q]
      have wc' : G_X11_within_27 N N c' p q 0 0 = _ := wc
      have d1' : G_X12_within_65 N N m1 q 0 0 = _ := d1
      rw [wc', d1', gs]
      exact CX.ok (hr.mv hN tm (fun b => by rw [d2 _ _ (by omega), f1.1])) (by rw [d2 _ _ (by omega), f1.2.1]; exact z)
    · rw [if_neg c2, if_neg c2, bx2, if_pos rfl]
      exact cxB hN h' z (by omega)
  · rw [if_neg c1, if_neg c1, bx1, if_pos rfl]
    exact cxE hN h' z (by omega)

theorem S_best {p q s : Int} (hN : 20000 ≤ N) (h : R N c m) : CX N 1 2 (G_X11_best N c p q s) (G_X12_best N m p q s) := by
  unfold G_X11_best G_X12_best G_X12_best_19 G_X12_best_42
  have h' := h.m0 hN
  have z : xv m 0 0 0 0 0 = 0 := xv_eq rfl rfl
  rw [xlet_q]
  generalize xv m 0 0 0 = m at h' z ⊢
  rw [needT h', isT h', yb_s]
  by_cases c1 : 0 ≤ p ∧ p < m 16 0
  · rw [if_pos c1, if_pos c1, bx0, if_neg i10, bad0 z, yb_s, if_pos rfl, inM, yb_s, needB]
    by_cases c2 : 0 ≤ s ∧ s ≤ 2
    · rw [if_pos c2, if_pos c2, bx0, if_neg i10, bad0 z, yb_s, if_pos rfl]
      obtain ⟨c', m2, a1, a2, a3, a4, lk⟩ := aloneS hN h'.tr h'.2.2.2.1 h'.2.2.2.2.1 c1
      have hr := h'.lk lk
      have rd := h'.tr.2.2.2.2.2.1.1
      have ro := rowAT hN hr.tr hr.2.2.2.1 hr.2.2.2.2.1 c1 a4
      have rb := AT.rb hN hr.tr hr.2.2.2.1 c1
      have hb := rb.1
      rw [a1, ybv_s, wordOfS ro (by omega), priceOfS ro (by omega), openedS ro (by omega), inM]
      simp only [yb_s]
      have : s = 0 ∨ s = 1 ∨ s = 2 := by omega
      by_cases c3 : 0 ≤ q ∧ q ≤ 59
      · rw [if_pos c3, if_neg i10]
        obtain ⟨m1, m3, b1, b2, b3, b4, b5, b6, b7⟩ := searchT (m' := m) (t := p) (k := q + 1) hN h'.tr h'.2.2.2.1 TM.rf c1 (by omega)
        have f1 := fr_laysToken b1
        have f2 := fr_searches b2
        rw [b1, ybv_s, wr_in (by omega) (by omega), b2, ybv_s, b5]
        have fin := hr.mv hN b3 (fun b => by rw [f2.1, f1.1])
        have z' : m3 0 0 = 0 := by rw [f2.2.1, f1.2.1]; exact z
        simp (disch := omega) only [xq_in]
        by_cases c4 : q < (AT N m p) 0 49
        · have e := b6 q c3.1 (by omega)
          have ei : q < min (q + 1) ((AT N m p) 0 49) := by omega
          have pa : ∀ a, pr (AT N m p) a q = AT N m p a q := fun a => by unfold pr; exact if_pos ⟨c3.1, c4⟩
          rw [if_pos ei, e.1, e.2.1, e.2.2, pa, pa, pa]
          rcases this with e | e | e <;> subst e <;> simp <;> exact CX.ok fin z'
        · have ei : ¬ q < min (q + 1) ((AT N m p) 0 49) := by omega
          have pa : ∀ a, pr (AT N m p) a q = -1 := fun a => by unfold pr; exact if_neg (by omega)
          rw [if_neg ei, pa, pa, pa]
          rcases this with e | e | e <;> subst e <;> simp <;> exact CX.ok fin z'
      · rw [if_neg c3, if_pos rfl]
        have pa : ∀ a, pr (AT N m p) a q = -1 := fun a => by unfold pr; exact if_neg (by omega)
        rw [pa, pa, pa]
        rcases this with e | e | e <;> subst e <;> simp <;> exact CX.ok hr z
    · rw [if_neg c2, if_neg c2, bx2, if_pos rfl]
      exact cxB hN h' z (by omega)
  · rw [if_neg c1, if_neg c1, bx1, if_pos rfl]
    exact cxE hN h' z (by omega)

theorem S_sentence {p : Int} (hN : 20000 ≤ N) (h : R N c m) : CX N 0 1 (G_X11_sentence N c p) (G_X12_sentence N m p) := by
  unfold G_X11_sentence G_X12_sentence G_X12_sentence_20
  have h' := h.m0 hN
  have z : xv m 0 0 0 0 0 = 0 := xv_eq rfl rfl
  rw [xlet_q]
  generalize xv m 0 0 0 = m at h' z ⊢
  rw [needB, inM, yb_s]
  by_cases c1 : 0 ≤ p ∧ p ≤ 2
  · rw [if_pos c1, if_pos c1, bx0, if_neg i10, bad0 z, yb_s, if_pos rfl]
    obtain ⟨c', g, hh, r0, a1, a2, a3, a4, a5⟩ := sentC hN h'.tr h'.2.2.2.1 h'.2.2.2.2.1 h'.2.2.2.2.2.2
    obtain ⟨m2, b1, b2, b3, b4⟩ := sentM (c := c) (m' := m) hN h'.tr h'.2.2.2.1 TM.rf a2
    have rd := h'.tr.2.2.2.2.2.1.1
    have fr := fr_says b1
    have hr := h'.lv a5 (Or.inr ⟨a4, g, hh, r0, a2, a3⟩)
    obtain ⟨x1, x2, x3, x4⟩ := a3
    rw [a1, b1, ybv_s, ybv_s]
    simp only [xlet_q]
    have : p = 0 ∨ p = 1 ∨ p = 2 := by omega
    rcases this with e | e | e
    · subst e
      rw [if_pos rfl, if_pos rfl, x1, b3]
      exact CX.ok (hr.mv hN b2 fr.1) (by rw [fr.2]; exact z)
    · subst e
      rw [if_neg i10, if_neg i10, if_pos rfl, x3]
      obtain ⟨m5, i1, i2, i3, i4⟩ := count47 (g := g) (hh := hh) (r0 := r0) (what := 1) hN h'.tr h'.2.2.2.1 (Or.inl rfl) N m2 0 b2 b4 (by omega) (by omega)
      have i1' : G_X12_sentence_47 N N m2 1 0 0 = some (cq (w1 N m hh r0) (m 16 0).toNat, m5) := i1
      rw [i1']
      exact CX.ok (hr.mv hN i2 (fun b => by rw [i3, fr.1])) (by rw [i4, fr.2]; exact z)
    · subst e
      rw [if_neg (show ¬ ((2 : Int) = 0) by omega), if_neg (show ¬ ((2 : Int) = 0) by omega), if_neg (show ¬ ((2 : Int) = 1) by omega), x4]
      obtain ⟨m5, i1, i2, i3, i4⟩ := count47 (g := g) (hh := hh) (r0 := r0) (what := 2) hN h'.tr h'.2.2.2.1 (Or.inr rfl) N m2 0 b2 b4 (by omega) (by omega)
      have i1' : G_X12_sentence_47 N N m2 2 0 0 = some (cq (w2 N m hh r0) (m 16 0).toNat, m5) := i1
      rw [i1']
      exact CX.ok (hr.mv hN i2 (fun b => by rw [i3, fr.1])) (by rw [i4, fr.2]; exact z)
  · rw [if_neg c1, if_neg c1, bx2, if_pos rfl]
    exact cxB hN h' z (by omega)

theorem S_find {p : Int} (hN : 20000 ≤ N) (h : R N c m) : CX N 0 1 (G_X11_find N c p) (G_X12_find N m p) := by
  unfold G_X11_find G_X12_find G_X12_find_23
  have h' := h.m0 hN
  have z : xv m 0 0 0 0 0 = 0 := xv_eq rfl rfl
  rw [xlet_q]
  generalize xv m 0 0 0 = m at h' z ⊢
  have nn := h'.tr.1.1.1
  have p4 := h'.1.2.2.1
  rw [h'.1.1, needB, inM, yb_s]
  by_cases c1 : 0 ≤ p ∧ p ≤ m 0 2
  · rw [if_pos c1, if_pos c1, bx0, if_neg i10, bad0 z, yb_s, if_pos rfl]
    unfold G_X2_look
    simp only [xlet_q]
    obtain ⟨v, v1, v2⟩ := find37 hN h' c1 N 0 0 (by omega) (by omega) (by omega) (by omega) (by omega)
    rw [v1, v2, yb_s]
    exact CX.ok h' z
  · rw [if_neg c1, if_neg c1, bx2, if_pos rfl]
    exact cxB hN h' z (by omega)
theorem S_fault (hN : 20000 ≤ N) (h : R N c m) : CN N (G_X11_fault N c) (G_X12_fault N m) := by
  unfold G_X11_fault G_X12_fault
  rw [xlet_q, (h.m0 hN).1.2.2.2.2]
  exact ⟨_, _, _, rfl, rfl, h.m0 hN⟩
theorem S_status {p : Int} (hN : 20000 ≤ N) (h : R N c m) : CN N (G_X11_status N c p) (G_X12_status N m p) := by
  unfold G_X11_status G_X12_status
  have h' := h.m0 hN
  rw [xlet_q]
  generalize xv m 0 0 0 = m at h' ⊢
  rw [inM, yb_s]
  by_cases c0 : p = 0
  · have i : 0 ≤ p ∧ p ≤ 1 := by omega
    rw [if_pos c0, if_pos i, if_neg i10, h'.2.1.1]
    simp (disch := omega) only [xq_in]
    rw [c0]
    exact ⟨_, _, _, rfl, rfl, h'⟩
  · by_cases c1 : p = 1
    · have i : 0 ≤ p ∧ p ≤ 1 := by omega
      rw [if_neg c0, if_pos c1, if_pos i, if_neg i10, h'.2.1.2.1]
      simp (disch := omega) only [xq_in]
      rw [c1]
      exact ⟨_, _, _, rfl, rfl, h'⟩
    · have i : ¬ (0 ≤ p ∧ p ≤ 1) := by omega
      rw [if_neg c0, if_neg c1, if_neg i, if_pos rfl]
      exact ⟨_, _, _, rfl, rfl, h'⟩
theorem S_at {p : Int} (hN : 20000 ≤ N) (h : R N c m) : CN N (G_X11_at N c p) (G_X12_at N m p) := by
  unfold G_X11_at G_X12_at
  have h' := h.m0 hN
  rw [xlet_q]
  generalize xv m 0 0 0 = m at h' ⊢
  obtain ⟨c', m', a1, a2, a3, a4, a5, a6⟩ := textR hN h'
  have fr := fr_mendsAll a2
  have fin := a5.mv hN a6 fr.1
  obtain ⟨x1, x2, x3, x4, x5, x6, x7, x8⟩ := a3
  rw [a1, a2, ybv_s, ybv_s, inS (by omega), yb_s, x1]
  by_cases c1 : p < 0
  · rw [if_pos c1, if_neg (show ¬ (0 ≤ p ∧ p < m' 0 69) by omega), if_pos rfl]
    exact ⟨_, _, _, rfl, rfl, fin⟩
  · rw [if_neg c1]
    by_cases c2 : m' 0 69 ≤ p
    · rw [if_pos c2, if_neg (show ¬ (0 ≤ p ∧ p < m' 0 69) by omega), if_pos rfl]
      exact ⟨_, _, _, rfl, rfl, fin⟩
    · rw [if_neg c2, if_pos (show 0 ≤ p ∧ p < m' 0 69 by omega), if_neg i10]
      simp (disch := omega) only [xq_in]
      rw [x6 p (by omega) (by omega)]
      exact ⟨_, _, _, rfl, rfl, fin⟩

end
