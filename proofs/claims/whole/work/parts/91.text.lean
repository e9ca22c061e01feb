/-- least prices from a token on, and which are lost -/
def DR (N : Nat) (m : IH) (T : Int) (g l : Int → Int) (s : Int) : Prop := ((l s = 1 ∧ bw N m s ≠ -1 ∧ ba N m s + g (s + 2) < aa N m s + g (s + 1) ∧ g s = ba N m s + g (s + 2)) ∨ (l s = 0 ∧ ¬ (bw N m s ≠ -1 ∧ ba N m s + g (s + 2) < aa N m s + g (s + 1)) ∧ g s = aa N m s + g (s + 1))) ∧ 0 ≤ g s ∧ g s ≤ (T - s) * 3500
theorem bw_jn {N : Nat} {m : IH} {t : Int} (h : bw N m t ≠ -1) : jn m t := by
  unfold bw at h
  by_cases c : jn m t
  · exact c
  · rw [if_neg c] at h; exact absurd rfl h
theorem DR.uq {N : Nat} {m : IH} {T : Int} {g l g' l' : Int → Int} (hT : T = m 16 0) (h0 : g T = 0) (h0' : g' T = 0) (h : ∀ s, 0 ≤ s → s < T → DR N m T g l s) (h' : ∀ s, 0 ≤ s → s < T → DR N m T g' l' s) : ∀ (f : Nat) (s : Int), 0 ≤ s → s ≤ T → T - s < f → g s = g' s ∧ (s < T → l s = l' s) := by
  intro f
  induction f with
  | zero => intro s h1 h2 h3; omega
  | succ f ih =>
    intro s h1 h2 h3
    by_cases c : s = T
    · subst c
      exact ⟨by rw [h0, h0'], fun q => by omega⟩
    · have a := h s h1 (by omega)
      have b := h' s h1 (by omega)
      have e1 := (ih (s + 1) (by omega) (by omega) (by omega)).1
      have e2 : bw N m s ≠ -1 → g (s + 2) = g' (s + 2) := fun q => by
        have := (bw_jn q).1
        exact (ih (s + 2) (by omega) (by omega) (by omega)).1
      rcases a.1 with ⟨a1, a2, a3, a4⟩ | ⟨a1, a2, a3⟩
      · have e3 := e2 a2
        rcases b.1 with ⟨b1, b2, b3, b4⟩ | ⟨b1, b2, b3⟩
        · exact ⟨by omega, fun _ => by omega⟩
        · exact absurd ⟨a2, by omega⟩ b2
      · rcases b.1 with ⟨b1, b2, b3, b4⟩ | ⟨b1, b2, b3⟩
        · have e3 := e2 b2
          exact absurd ⟨b2, by omega⟩ a2
        · exact ⟨by omega, fun _ => by omega⟩
section
variable {N : Nat} {c m : IH}
theorem aa_rng {t : Int} (hN : 20000 ≤ N) (h : TR c m) (hs : SL c) (ht : 0 ≤ t ∧ t < m 16 0) : 0 ≤ aa N m t ∧ aa N m t ≤ 3375 := by
  have hT := (h.2.2.2.2.2.1.2.2 t ht.1 ht.2).1
  exact mp_rng (AT.rb hN h hs ht) (op_rng h.2.2.2.2.1 (by omega))
theorem ba_rng {t : Int} (hN : 20000 ≤ N) (h : TR c m) (hs : SL c) (ht : 0 ≤ t) (hj : jn m t) : 0 ≤ ba N m t ∧ ba N m t ≤ 3474 := by
  have hT := (h.2.2.2.2.2.1.2.2 t ht (by have := hj.1; omega)).1
  have hT1 := (h.2.2.2.2.2.1.2.2 (t + 1) (by omega) hj.1).1
  have k5 := h.2.2.2.2.1 5 (by omega) (by omega)
  have := mp_rng (AJ.rb hN h hs ht hj) (op_rng (n := m 197 t + m 197 (t + 1)) h.2.2.2.2.1 (by have := hj.2.2; omega))
  unfold ba
  omega
theorem all9 (hN : 20000 ≤ N) (h : TR c m) (hs : SL c) : ∀ (f : Nat) (m' : IH) (t : Int), TM m m' → AL N m m' t → 0 ≤ t → t ≤ m 16 0 → m 16 0 - t < f → ∃ m'', G_X12_mendsAll_9 N f m' (m 16 0) t = G_X12_mendsAll_36 N N (xv m'' 48 (m 16 0) 0) (m 16 0) (m 16 0 - 1) ∧ TM m m'' ∧ AL N m m'' (m 16 0) := by
  intro f
  induction f with
  | zero => intro m' t h1 h2 h3 h4 h5; omega
  | succ f ih =>
    intro m' t h1 h2 h3 h4 h5
    have h40 := h.2.2.2.2.2.1.1
    unfold G_X12_mendsAll_9
    by_cases c1 : m 16 0 ≤ t
    · rw [if_pos c1]
      (try simp (disch := omega) only [xlet_q, xq_in])
      rw [wr_in (by omega) (by omega)]
      have : t = m 16 0 := by omega
      subst this
      exact ⟨m', rfl, h1, h2⟩
    · rw [if_neg c1]
      obtain ⟨m1, e1, e2, e3⟩ := laysAloneS hN h hs h1 ⟨h3, by omega⟩ h2
      rw [e1, ybv_s, xlet_q, wr_in (by omega) (by omega)]
      exact ih m1 (t + 1) e2 e3 (by omega) (by omega) (by omega)
theorem all36 (hN : 20000 ≤ N) (h : TR c m) (hs : SL c) : ∀ (f : Nat) (m' : IH) (t : Int), TM m m' → AL N m m' (m 16 0) → m' 48 (m 16 0) = 0 → (∀ s, t < s → s < m 16 0 → DR N m (m 16 0) (m' 48) (m' 49) s) → -1 ≤ t → t < m 16 0 → t + 1 < f → ∃ m'', G_X12_mendsAll_36 N f m' (m 16 0) t = G_X12_mendsAll_170 N N (xv (xv (xv m'' 0 69 0) 0 70 0) 0 71 0) (m 16 0) 0 ∧ TM m m'' ∧ AL N m m'' (m 16 0) ∧ m'' 48 (m 16 0) = 0 ∧ ∀ s, 0 ≤ s → s < m 16 0 → DR N m (m 16 0) (m'' 48) (m'' 49) s := by
  intro f
  induction f with
  | zero => intro m' t h1 h2 h3 h4 h5 h6 h7; omega
  | succ f ih =>
    intro m' t h1 h2 h3 h4 h5 h6 h7
    have h40 := h.2.2.2.2.2.1.1
    unfold G_X12_mendsAll_36
    by_cases c1 : t < 0
    · rw [if_pos c1]
      simp only [xlet_q]
      exact ⟨m', rfl, h1, h2, h3, fun s s1 s2 => h4 s (by omega) s2⟩
    · rw [if_neg c1]
      obtain ⟨a1, a2, a3, a4⟩ := h2 t (by omega) h6
      have hg1 : 0 ≤ m' 48 (t + 1) ∧ m' 48 (t + 1) ≤ (m 16 0 - (t + 1)) * 3500 := by
        by_cases ce : t + 1 = m 16 0
        · rw [ce, h3]; omega
        · exact (h4 (t + 1) (by omega) (by omega)).2
      have ra := aa_rng hN h hs ⟨by omega, h6⟩ (t := t)
      simp (disch := omega) only [xlet_q, xq_in, xv_ne]
      rw [a2, a3, wr_in (show -2147483648 ≤ aa N m t + m' 48 (t + 1) by omega) (by omega)]
      -- lost or not
      have fin : ∀ (mm : IH), (∀ a b, a ≠ 48 → a ≠ 49 → mm a b = m' a b) → (∀ b, b ≠ t → mm 48 b = m' 48 b ∧ mm 49 b = m' 49 b) → DR N m (m 16 0) (mm 48) (mm 49) t → ∃ m'', G_X12_mendsAll_147 N (G_X12_mendsAll_36 N f) mm (m 16 0) t = G_X12_mendsAll_170 N N (xv (xv (xv m'' 0 69 0) 0 70 0) 0 71 0) (m 16 0) 0 ∧ TM m m'' ∧ AL N m m'' (m 16 0) ∧ m'' 48 (m 16 0) = 0 ∧ ∀ s, 0 ≤ s → s < m 16 0 → DR N m (m 16 0) (m'' 48) (m'' 49) s := by
        intro mm q1 q2 q3
        unfold G_X12_mendsAll_147
        rw [xlet_q, wr_in (by omega) (by omega)]
        refine ih mm (t + -1) (fun a b z1 z2 z3 => by rw [q1 a b (by omega) (by omega)]; exact h1 a b z1 z2 z3) (fun s s1 s2 => ?_) (by rw [(q2 _ (by omega)).1]; exact h3) (fun s s1 s2 => ?_) (by omega) (by omega) (by omega)
        · rw [q1 44 s (by omega) (by omega), q1 45 s (by omega) (by omega), q1 46 s (by omega) (by omega), q1 47 s (by omega) (by omega)]
          exact h2 s s1 s2
        · by_cases cs : s = t
          · rw [cs]; exact q3
          · have := h4 s (by omega) s2
            unfold DR at *
            rw [(q2 s cs).1, (q2 s cs).2, (q2 (s + 1) (by omega)).1, (q2 (s + 2) (by omega)).1]
            exact this
      have no : ¬ (bw N m t ≠ -1 ∧ ba N m t + m' 48 (t + 2) < aa N m t + m' 48 (t + 1)) → ∃ m'', G_X12_mendsAll_115 N (G_X12_mendsAll_36 N f) (xv m' 48 t (aa N m t + m' 48 (t + 1))) (m 16 0) t t = G_X12_mendsAll_170 N N (xv (xv (xv m'' 0 69 0) 0 70 0) 0 71 0) (m 16 0) 0 ∧ TM m m'' ∧ AL N m m'' (m 16 0) ∧ m'' 48 (m 16 0) = 0 ∧ ∀ s, 0 ≤ s → s < m 16 0 → DR N m (m 16 0) (m'' 48) (m'' 49) s := by
        intro q
        unfold G_X12_mendsAll_115 G_X12_mendsAll_116
        (try simp (disch := omega) only [xlet_q, xq_in])
        rw [ynar_0, xv_eq rfl rfl, if_pos rfl]
        refine fin _ (fun a b z1 z2 => by rw [xv_ne (by omega), xv_ne (by omega)]) (fun b z => by rw [xv_ne (by omega), xv_ne (by omega), xv_ne (by omega), xv_ne (by omega)]; exact ⟨rfl, rfl⟩) ?_
        unfold DR
        rw [xv_eq rfl rfl, xv_ne (show ¬ ((48 : Int) = 49 ∧ t = t) by omega), xv_eq rfl rfl, xv_ne (show ¬ ((48 : Int) = 49 ∧ t + 1 = t) by omega), xv_ne (show ¬ ((48 : Int) = 48 ∧ t + 1 = t) by omega), xv_ne (show ¬ ((48 : Int) = 49 ∧ t + 2 = t) by omega), xv_ne (show ¬ ((48 : Int) = 48 ∧ t + 2 = t) by omega)]
        exact ⟨Or.inr ⟨rfl, q, rfl⟩, by omega, by omega⟩
      by_cases cb : bw N m t = -1
      · rw [if_pos cb]
        exact no (fun q => q.1 cb)
      · have hj := bw_jn cb
        have hj1 := hj.1
        have rb := ba_rng hN h hs (by omega) hj (t := t)
        have hg2 : 0 ≤ m' 48 (t + 2) ∧ m' 48 (t + 2) ≤ (m 16 0 - (t + 2)) * 3500 := by
          by_cases ce : t + 2 = m 16 0
          · rw [ce, h3]; omega
          · exact (h4 (t + 2) (by omega) (by omega)).2
        rw [if_neg cb, wr_in (show -2147483648 ≤ t + 2 by omega) (by omega), if_pos (by omega)]
        unfold G_X12_mendsAll_100
        simp (disch := omega) only [xlet_q, xq_in, xv_ne, xv_eq]
        rw [a4 cb, wr_in (show -2147483648 ≤ ba N m t + m' 48 (t + 2) by omega) (by omega)]
        by_cases c3 : aa N m t + m' 48 (t + 1) ≤ ba N m t + m' 48 (t + 2)
        · rw [if_pos c3]
          exact no (fun q => by omega)
        · rw [if_neg c3]
          unfold G_X12_mendsAll_116
          simp (disch := omega) only [xlet_q, xq_in, xv_ne, xv_eq]
          rw [ynar_1, if_neg (by omega), a4 cb, wr_in (show -2147483648 ≤ ba N m t + m' 48 (t + 2) by omega) (by omega)]
          refine fin _ (fun a b z1 z2 => by rw [xv_ne (by omega), xv_ne (by omega), xv_ne (by omega)]) (fun b z => by rw [xv_ne (by omega), xv_ne (by omega), xv_ne (by omega), xv_ne (by omega), xv_ne (by omega), xv_ne (by omega)]; exact ⟨rfl, rfl⟩) ?_
          unfold DR
          rw [xv_ne (show ¬ ((49 : Int) = 48 ∧ t = t) by omega), xv_eq rfl rfl, xv_eq rfl rfl, xv_ne (show ¬ ((48 : Int) = 48 ∧ t + 1 = t) by omega), xv_ne (show ¬ ((48 : Int) = 49 ∧ t + 1 = t) by omega), xv_ne (show ¬ ((48 : Int) = 48 ∧ t + 1 = t) by omega), xv_ne (show ¬ ((48 : Int) = 48 ∧ t + 2 = t) by omega), xv_ne (show ¬ ((48 : Int) = 49 ∧ t + 2 = t) by omega), xv_ne (show ¬ ((48 : Int) = 48 ∧ t + 2 = t) by omega)]
          exact ⟨Or.inl ⟨rfl, cb, by omega, rfl⟩, by omega, by omega⟩
end
