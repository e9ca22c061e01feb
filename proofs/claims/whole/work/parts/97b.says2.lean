section
variable {N : Nat} {c m : IH}
theorem says9 (hN : 20000 ≤ N) (h : TR c m) (hs : SL c) : ∀ (f : Nat) (m' : IH) (t : Int), TM m m' → (∀ s, 0 ≤ s → s < t → CHO N m m' s) → 0 ≤ t → t ≤ m 16 0 → m 16 0 - t < f → ∃ m'', G_X12_says_9 N f m' (m 16 0) t = G_X12_says_29 N N m'' (m 16 0) (m 16 0 - 1) ∧ TM m m'' ∧ ∀ s, 0 ≤ s → s < m 16 0 → CHO N m m'' s := by
  intro f
  induction f with
  | zero => intro m' t h1 h2 h3 h4 h5; omega
  | succ f ih =>
    intro m' t h1 h2 h3 h4 h5
    have h40 := h.2.2.2.2.2.1.1
    unfold G_X12_says_9
    by_cases c1 : m 16 0 ≤ t
    · rw [if_pos c1, xlet_q, wr_in (by omega) (by omega)]
      have : t = m 16 0 := by omega
      subst this
      exact ⟨m', rfl, h1, h2⟩
    · rw [if_neg c1]
      obtain ⟨m1, e1, e2, e3⟩ := choicesS hN h hs h1 ⟨h3, by omega⟩ h2
      rw [e1, ybv_s, xlet_q, wr_in (by omega) (by omega)]
      exact ih m1 (t + 1) e2 e3 (by omega) (by omega) (by omega)
/-- the reference's table of least prices -/
def gM (m' : IH) : Int → Int → Int := fun t r => m' (5432 + t) r
def hM (m' : IH) : Int → Int → Int := fun t r => m' (5473 + t) r
theorem says54 {k29 : IH → Int → Int → Option IH} {k35 : IH → Int → Int → Int → Option IH} {m' : IH} {t r : Int} (hN : 20000 ≤ N) (h : TR c m) (hs : SL c) (hm : TM m m') (hC : ∀ s, 0 ≤ s → s < m 16 0 → CHO N m m' s) (ht : 0 ≤ t ∧ t + 1 < m 16 0) (hr : 0 ≤ r ∧ r ≤ pp N m t) (hg : ∀ q, 0 ≤ q → q ≤ pp N m (t + 1) → 0 ≤ gM m' (t + 1) q ∧ gM m' (t + 1) q ≤ (m 16 0 - (t + 1)) * 3500) : ∀ (f : Nat) (q b v : Int), (q = 0 ∧ b = -1 ∧ v = 0) ∨ (FB (VV N m (gM m') t r) q b ∧ v = VV N m (gM m') t r b) → q ≤ pp N m (t + 1) + 1 → 0 ≤ q → pp N m (t + 1) + 1 - q < f → ∃ b', FB (VV N m (gM m') t r) (pp N m (t + 1) + 1) b' ∧ G_X12_says_54 N k29 k35 f m' (m 16 0) t r b v q = G_X12_says_141 N k29 k35 m' (m 16 0) t r b' (VV N m (gM m') t r b') := by
  have h40 := h.2.2.2.2.2.1.1
  have hp := pp_rng hN h hs (t := t) (by omega)
  have hp1 := pp_rng hN h hs (t := t + 1) (by omega)
  intro f
  induction f with
  | zero => intro q b v h1 h2 h3 h4; omega
  | succ f ih =>
    intro q b v h1 h2 h3 h4
    unfold G_X12_says_54 G_X12_says_127 G_X12_says_135
    rw [wr_in (show -2147483648 ≤ t + 1 by omega) (by omega), if_neg (by omega)]
    simp (disch := omega) only [xlet_q, xq_in]
    have c1' := hC (t + 1) (by omega) (by omega)
    have c0 := hC t ht.1 (by omega)
    rw [c1'.1]
    by_cases cq : pp N m (t + 1) + 1 ≤ q
    · rw [if_pos cq]
      have eq : q = pp N m (t + 1) + 1 := by omega
      rcases h1 with ⟨a, _, _⟩ | ⟨a, a2⟩
      · omega
      · rw [eq] at a
        exact ⟨b, a, by rw [a2]⟩
    · rw [if_neg cq]
      simp (disch := omega) only [xlet_q, xq_in]
      rw [(c0.2 r hr.1 hr.2).1, (c1'.2 q h3 (by omega)).1, bt2M hN h.2.2.2.2.2.2 hm, yb_s]
      have br := bt2_rng (a := cwd N m t r) (b := cwd N m (t + 1) q) h.2.2.2.2.1 h.2.2.2.2.2.2
      have gr := hg q h3 (by omega)
      have ev : bt2 m (cwd N m t r) (cwd N m (t + 1) q) + m' (5432 + (t + 1)) q = VV N m (gM m') t r q := rfl
      unfold gM at gr
      rw [ev, wr_in (show -2147483648 ≤ VV N m (gM m') t r q by rw [← ev]; omega) (by rw [← ev]; omega), wr_in (show -2147483648 ≤ q + 1 by omega) (by omega)]
      rcases h1 with ⟨a, a2, a3⟩ | ⟨a, a2⟩
      · rw [if_pos a2]
        subst a
        exact ih (0 + 1) 0 _ (Or.inr ⟨⟨by omega, by omega, fun x y z => by omega, fun x y z => by rw [show x = 0 by omega]; exact Int.le_refl _⟩, rfl⟩) (by omega) (by omega) (by omega)
      · have st := a.step
        rw [if_neg (by have := a.1; omega)]
        by_cases cv : VV N m (gM m') t r q < v
        · rw [if_pos cv]
          exact ih (q + 1) q _ (Or.inr ⟨st.1 (by omega), rfl⟩) (by omega) (by omega) (by omega)
        · rw [if_neg cv]
          exact ih (q + 1) b v (Or.inr ⟨st.2 (by omega), a2⟩) (by omega) (by omega) (by omega)
theorem says35 {k29 : IH → Int → Int → Option IH} {t : Int} (hN : 20000 ≤ N) (h : TR c m) (hs : SL c) (ht : 0 ≤ t ∧ t < m 16 0) : ∀ (f : Nat) (m' : IH) (r : Int), TM m m' → (∀ s, 0 ≤ s → s < m 16 0 → CHO N m m' s) → (∀ s q, t < s → s < m 16 0 → 0 ≤ q → q ≤ pp N m s → SD N m (m 16 0) (gM m') (hM m') s q) → (∀ q, 0 ≤ q → q < r → SD N m (m 16 0) (gM m') (hM m') t q) → 0 ≤ r → r ≤ pp N m t + 1 → pp N m t + 1 - r < f → ∃ m'', G_X12_says_35 N k29 f m' (m 16 0) t r = k29 m'' (m 16 0) (t - 1) ∧ TM m m'' ∧ (∀ s, 0 ≤ s → s < m 16 0 → CHO N m m'' s) ∧ (∀ q, 0 ≤ q → q ≤ pp N m t → SD N m (m 16 0) (gM m'') (hM m'') t q) ∧ ∀ a b, a ≠ 5432 + t → a ≠ 5473 + t → m'' a b = m' a b := by
  have h40 := h.2.2.2.2.2.1.1
  have hp := pp_rng hN h hs ht
  intro f
  induction f with
  | zero => intro m' r h1 h2 h3 h4 h5 h6 h7; omega
  | succ f ih =>
    intro m' r h1 h2 h3 h4 h5 h6 h7
    unfold G_X12_says_35
    simp (disch := omega) only [xlet_q, xq_in]
    rw [(h2 t ht.1 ht.2).1]
    by_cases c1 : pp N m t + 1 ≤ r
    · rw [if_pos c1, wr_in (by omega) (by omega)]
      exact ⟨m', rfl, h1, h2, fun q a b => h4 q a (by omega), fun _ _ _ _ => rfl⟩
    · rw [if_neg c1]
      have cr := cat_rng hN h hs ht h5
      -- an entry written
      have wrt : ∀ b x : Int, 0 ≤ x → x ≤ (m 16 0 - (t + 1)) * 3500 + 99 → (t + 1 = m 16 0 → x = 0) → (t + 1 < m 16 0 → FB (VV N m (gM m') t r) (pp N m (t + 1) + 1) b ∧ x = VV N m (gM m') t r b) → ∃ m'', G_X12_says_141 N k29 (G_X12_says_35 N k29 f) m' (m 16 0) t r b x = k29 m'' (m 16 0) (t - 1) ∧ TM m m'' ∧ (∀ s, 0 ≤ s → s < m 16 0 → CHO N m m'' s) ∧ (∀ q, 0 ≤ q → q ≤ pp N m t → SD N m (m 16 0) (gM m'') (hM m'') t q) ∧ ∀ a b, a ≠ 5432 + t → a ≠ 5473 + t → m'' a b = m' a b := by
        intro b x x1 x2 x3 x4
        unfold G_X12_says_141
        simp (disch := omega) only [xlet_q, xq_in, xv_ne]
        rw [((h2 t ht.1 ht.2).2 r h5 (by omega)).2, wr_in (show -2147483648 ≤ cat N m t r + x by omega) (by omega), wr_in (show -2147483648 ≤ r + 1 by omega) (by omega)]
        generalize hm1 : xv (xv m' (5432 + t) r (cat N m t r + x)) (5473 + t) r b = m1
        have mo : ∀ a b', ¬ (a = 5432 + t ∧ b' = r) → ¬ (a = 5473 + t ∧ b' = r) → m1 a b' = m' a b' := fun a b' q1 q2 => by rw [← hm1, xv_ne q2, xv_ne q1]
        have g1 : gM m1 t r = cat N m t r + x := by unfold gM; rw [← hm1, xv_ne (by omega), xv_eq rfl rfl]
        have h1' : hM m1 t r = b := by unfold hM; rw [← hm1, xv_eq rfl rfl]
        have gS : ∀ s q, ¬ (s = t ∧ q = r) → 0 ≤ s → s < 41 → gM m1 s q = gM m' s q := fun s q z1 z2 z3 => mo _ _ (by omega) (by omega)
        have hS : ∀ s q, ¬ (s = t ∧ q = r) → 0 ≤ s → s < 40 → hM m1 s q = hM m' s q := fun s q z1 z2 z3 => mo _ _ (by omega) (by omega)
        have vS : ∀ s q p, t ≤ s → s < 40 → VV N m (gM m1) s q p = VV N m (gM m') s q p := fun s q p z1 z2 => by unfold VV; rw [gS (s + 1) p (by omega) (by omega) (by omega)]
        have sdS : ∀ s q, t ≤ s → s < m 16 0 → ¬ (s = t ∧ q = r) → SD N m (m 16 0) (gM m') (hM m') s q → SD N m (m 16 0) (gM m1) (hM m1) s q := by
          intro s q z1 z2 z3 z4
          unfold SD at *
          rw [gS s q z3 (by omega) (by omega), hS s q z3 (by omega) (by omega)]
          refine ⟨z4.1, fun z5 => ⟨(z4.2.1 z5).1.cg (fun p y1 y2 => vS s q p z1 (by omega)), by rw [vS s q _ z1 (by omega)]; exact (z4.2.1 z5).2⟩, z4.2.2⟩
        obtain ⟨m'', d1, d2, d3, d4, d5⟩ := ih m1 (r + 1) (fun a b' z1 z2 z3 => by rw [mo a b' (by omega) (by omega)]; exact h1 a b' z1 z2 z3) (fun s s1 s2 => ⟨by rw [mo _ _ (by omega) (by omega)]; exact (h2 s s1 s2).1, fun q q1 q2 => by rw [mo _ _ (by omega) (by omega), mo _ _ (by omega) (by omega)]; exact (h2 s s1 s2).2 q q1 q2⟩) (fun s q z1 z2 z3 z4 => sdS s q (by omega) z2 (by omega) (h3 s q z1 z2 z3 z4)) (fun q q1 q2 => by
          by_cases cq : q = r
          · subst cq
            unfold SD
            rw [g1, h1']
            refine ⟨fun z => by rw [x3 z]; omega, fun z => ⟨(x4 z).1.cg (fun p y1 y2 => vS t q p (by omega) (by omega)), by rw [vS t q _ (by omega) (by omega), (x4 z).2]⟩, by omega, by omega⟩
          · exact sdS t q (by omega) ht.2 (by omega) (h4 q q1 (by omega))) (by omega) (by omega) (by omega)
        exact ⟨m'', d1, d2, d3, d4, fun a b' z1 z2 => by rw [d5 a b' z1 z2, mo a b' (by omega) (by omega)]⟩
      by_cases ct : t + 1 < m 16 0
      · have hp1 := pp_rng hN h hs (t := t + 1) (by omega)
        have hgr : ∀ q, 0 ≤ q → q ≤ pp N m (t + 1) → 0 ≤ gM m' (t + 1) q ∧ gM m' (t + 1) q ≤ (m 16 0 - (t + 1)) * 3500 := fun q q1 q2 => (h3 (t + 1) q (by omega) (by omega) q1 q2).2.2
        obtain ⟨b', e1, e2⟩ := says54 (N := N) (k29 := k29) (k35 := G_X12_says_35 N k29 f) (m' := m') (t := t) (r := r) hN h hs h1 h2 ⟨ht.1, ct⟩ ⟨h5, by omega⟩ hgr N 0 (-1) 0 (Or.inl ⟨rfl, rfl, rfl⟩) (by omega) (by omega) (by omega)
        rw [e2]
        have br := bt2_rng (a := cwd N m t r) (b := cwd N m (t + 1) b') h.2.2.2.2.1 h.2.2.2.2.2.2
        have gr := hgr b' e1.1 (by have := e1.2.1; omega)
        have ev : VV N m (gM m') t r b' = bt2 m (cwd N m t r) (cwd N m (t + 1) b') + gM m' (t + 1) b' := rfl
        exact wrt b' _ (by omega) (by omega) (by omega) (fun _ => ⟨e1, rfl⟩)
      · have e : G_X12_says_54 N k29 (G_X12_says_35 N k29 f) N m' (m 16 0) t r (-1) 0 0 = G_X12_says_141 N k29 (G_X12_says_35 N k29 f) m' (m 16 0) t r (-1) 0 := by
          obtain ⟨N', hN'⟩ : ∃ N', N = N' + 1 := ⟨N - 1, by omega⟩
          have : ∀ K : Nat, ∀ k35 : IH → Int → Int → Int → Option IH, G_X12_says_54 K k29 k35 (N' + 1) m' (m 16 0) t r (-1) 0 0 = G_X12_says_141 K k29 k35 m' (m 16 0) t r (-1) 0 := by
            intro K k35
            unfold G_X12_says_54
            rw [wr_in (show -2147483648 ≤ t + 1 by omega) (by omega), if_pos (by omega)]
          have := this N (G_X12_says_35 N k29 f)
          rw [← hN'] at this
          exact this
        rw [e]
        exact wrt (-1) 0 (by omega) (by omega) (fun _ => rfl) (fun q => absurd q ct)
theorem says29 (hN : 20000 ≤ N) (h : TR c m) (hs : SL c) : ∀ (f : Nat) (m' : IH) (t : Int), TM m m' → (∀ s, 0 ≤ s → s < m 16 0 → CHO N m m' s) → (∀ s q, t < s → s < m 16 0 → 0 ≤ q → q ≤ pp N m s → SD N m (m 16 0) (gM m') (hM m') s q) → -1 ≤ t → t < m 16 0 → t + 1 < f → ∃ m'', G_X12_says_29 N f m' (m 16 0) t = G_X12_says_186 N N m'' (m 16 0) 0 1 ∧ TM m m'' ∧ (∀ s, 0 ≤ s → s < m 16 0 → CHO N m m'' s) ∧ ∀ s q, 0 ≤ s → s < m 16 0 → 0 ≤ q → q ≤ pp N m s → SD N m (m 16 0) (gM m'') (hM m'') s q := by
  have h40 := h.2.2.2.2.2.1.1
  intro f
  induction f with
  | zero => intro m' t h1 h2 h3 h4 h5 h6; omega
  | succ f ih =>
    intro m' t h1 h2 h3 h4 h5 h6
    unfold G_X12_says_29
    by_cases c1 : t < 0
    · rw [if_pos c1, xlet_q, xlet_q]
      exact ⟨m', rfl, h1, h2, fun s q a b d e => h3 s q (by omega) b d e⟩
    · rw [if_neg c1, xlet_q]
      have hp := pp_rng hN h hs (t := t) (by omega)
      obtain ⟨m1, d1, d2, d3, d4, d5⟩ := says35 (N := N) (k29 := G_X12_says_29 N f) (t := t) hN h hs (by omega) N m' 0 h1 h2 h3 (fun q a b => by omega) (by omega) (by omega) (by omega)
      rw [d1]
      refine ih m1 (t - 1) d2 d3 (fun s q a b d e => ?_) (by omega) (by omega) (by omega)
      by_cases cs : s = t
      · rw [cs] at e ⊢; exact d4 q d e
      · have z4 := h3 s q (by omega) b d e
        have gS : ∀ s' q', t < s' → s' < 41 → gM m1 s' q' = gM m' s' q' := fun s' q' z1 z2 => d5 _ _ (by omega) (by omega)
        have hS : hM m1 s q = hM m' s q := d5 _ _ (by omega) (by omega)
        have vS : ∀ p, VV N m (gM m1) s q p = VV N m (gM m') s q p := fun p => by unfold VV; rw [gS (s + 1) p (by omega) (by omega)]
        unfold SD at *
        rw [gS s q (by omega) (by omega), hS]
        exact ⟨z4.1, fun z5 => ⟨(z4.2.1 z5).1.cg (fun p y1 y2 => vS p), by rw [vS]; exact (z4.2.1 z5).2⟩, z4.2.2⟩
/-- which choice is taken of each token -/
def sr (h : Int → Int → Int) (r0 : Int) : Nat → Int
  | 0 => r0
  | t + 1 => h t (sr h r0 t)
theorem says186 {m' : IH} (hT : 0 < m 16 0) (h38 : m' 38 0 = pp N m 0 + 1) (hp : 0 ≤ pp N m 0 ∧ pp N m 0 ≤ 4) : ∀ (f : Nat) (q b : Int), FB (gM m' 0) q b → 1 ≤ q → q ≤ pp N m 0 + 1 → pp N m 0 + 1 - q < f → ∃ b', FB (gM m' 0) (pp N m 0 + 1) b' ∧ G_X12_says_186 N f m' (m 16 0) b q = G_X12_says_227 N m' (m 16 0) b' := by
  intro f
  induction f with
  | zero => intro q b h1 h2 h3 h4; omega
  | succ f ih =>
    intro q b h1 h2 h3 h4
    unfold G_X12_says_186 G_X12_says_221
    rw [if_neg (by omega), h38]
    by_cases c1 : pp N m 0 + 1 ≤ q
    · rw [if_pos c1]
      have : q = pp N m 0 + 1 := by omega
      subst this
      exact ⟨b, h1, rfl⟩
    · have hb1 := h1.1
      have hb2 := h1.2.1
      rw [if_neg c1]
      simp (disch := omega) only [xlet_q, xq_in]
      rw [wr_in (show -2147483648 ≤ q + 1 by omega) (by omega)]
      have st := h1.step
      unfold gM at st ih ⊢
      by_cases c2 : m' (5432 + 0) b ≤ m' (5432 + 0) q
      · rw [if_pos c2]
        exact ih (q + 1) b (st.2 c2) (by omega) (by omega) (by omega)
      · rw [if_neg c2]
        exact ih (q + 1) q (st.1 (by omega)) (by omega) (by omega) (by omega)
theorem says249 {hh : Int → Int → Int} {r0 : Int} (hN : 20000 ≤ N) (h : TR c m) (hs : SL c) (hr : ∀ t : Nat, (t : Int) < m 16 0 → 0 ≤ sr hh r0 t ∧ sr hh r0 t ≤ pp N m t) : ∀ (f : Nat) (m' : IH) (t : Nat), TM m m' → (∀ s, 0 ≤ s → s < m 16 0 → CHO N m m' s) → (∀ s q, 0 ≤ s → s < m 16 0 → 0 ≤ q → q ≤ pp N m s → hM m' s q = hh s q) → (∀ s : Nat, s < t → m' 43 s = cwd N m s (sr hh r0 s)) → (t : Int) ≤ m 16 0 → m 16 0 - t < f → ∃ m'', G_X12_says_249 N f m' (m 16 0) (sr hh r0 t) t = some m'' ∧ TM m m'' ∧ (∀ s : Nat, (s : Int) < m 16 0 → m'' 43 s = cwd N m s (sr hh r0 s)) ∧ m'' 0 62 = m' 0 62 := by
  have h40 := h.2.2.2.2.2.1.1
  intro f
  induction f with
  | zero => intro m' t h1 h2 h3 h4 h5 h6; omega
  | succ f ih =>
    intro m' t h1 h2 h3 h4 h5 h6
    unfold G_X12_says_249
    by_cases c1 : m 16 0 ≤ (t : Int)
    · rw [if_pos c1]
      exact ⟨m', rfl, h1, fun s q => h4 s (by omega), rfl⟩
    · rw [if_neg c1]
      have r := hr t (by omega)
      have p := pp_rng hN h hs (t := (t : Int)) (by omega)
      have co := (h2 t (by omega) (by omega)).2 (sr hh r0 t) r.1 r.2
      have eh := h3 t (sr hh r0 t) (by omega) (by omega) r.1 r.2
      unfold hM at eh
      simp (disch := omega) only [xlet_q, xq_in, xv_ne]
      rw [co.1, eh, wr_in (by omega) (by omega)]
      have mo : ∀ a b, ¬ (a = 43 ∧ b = (t : Int)) → xv m' 43 t (cwd N m t (sr hh r0 t)) a b = m' a b := fun a b q => xv_ne q
      obtain ⟨m'', d1, d2, d3, d4⟩ := ih (xv m' 43 t (cwd N m t (sr hh r0 t))) (t + 1) (fun a b z1 z2 z3 => by rw [mo a b (by omega)]; exact h1 a b z1 z2 z3) (fun s s1 s2 => ⟨by rw [mo _ _ (by omega)]; exact (h2 s s1 s2).1, fun q q1 q2 => by rw [mo _ _ (by omega), mo _ _ (by omega)]; exact (h2 s s1 s2).2 q q1 q2⟩) (fun s q a b d e => by
        have := h3 s q a b d e
        unfold hM at *
        rw [mo _ _ (by omega)]
        exact this) (fun s q => by
        by_cases cs : s = t
        · rw [cs, xv_eq rfl rfl]
        · rw [mo _ _ (by omega)]; exact h4 s (by omega)) (by omega) (by omega)
      exact ⟨m'', d1, d2, d3, by rw [d4, mo _ _ (by omega)]⟩
end
