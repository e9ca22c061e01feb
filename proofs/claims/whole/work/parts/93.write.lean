/-- the text so far, on both sides -/
def WB (c m : IH) : Prop := c 80 4 = m 0 69 ∧ 0 ≤ m 0 69 ∧ ∀ k, 0 ≤ k → k < m 0 69 → c 81 k = m 50 k
/-- only the text's cells were written -/
def FW (c c' m m' : IH) : Prop := (∀ a b, ¬ (a = 80 ∧ b = 4) → a ≠ 81 → c' a b = c a b) ∧ ∀ a b, ¬ (a = 0 ∧ b = 69) → a ≠ 50 → m' a b = m a b
theorem FW.rf {c m : IH} : FW c c m m := ⟨fun _ _ _ _ => rfl, fun _ _ _ _ => rfl⟩
theorem FW.tr {c c1 c2 m m1 m2 : IH} (h : FW c c1 m m1) (h1 : FW c1 c2 m1 m2) : FW c c2 m m2 := ⟨fun a b q1 q2 => by rw [h1.1 a b q1 q2, h.1 a b q1 q2], fun a b q1 q2 => by rw [h1.2 a b q1 q2, h.2 a b q1 q2]⟩
theorem FW.tc {c c1 m m1 : IH} (h : FW c c1 m m1) : TC c c1 := fun a b q => h.1 a b (by omega) (by omega)
theorem FW.tm {c c1 m m1 : IH} (h : FW c c1 m m1) : TM m m1 := fun a b q1 q2 q3 => h.2 a b (by omega) (by omega)
section
variable {N : Nat}
theorem byteW {c m : IH} {x : Int} (h : WB c m) (hl : m 0 69 < 1000) : ∃ c' m', G_X3_writeByte N c x = some c' ∧ G_X12_writes N m x = some m' ∧ WB c' m' ∧ m' 0 69 = m 0 69 + 1 ∧ FW c c' m m' := by
  obtain ⟨h1, h2, h7⟩ := h
  unfold G_X3_writeByte G_X12_writes
  rw [h1, if_neg (by omega)]
  simp (disch := omega) only [xlet_q, xq_in, xv_ne]
  rw [h1, wr_in (by omega) (by omega)]
  refine ⟨_, _, rfl, rfl, ⟨?_, ?_, fun k k1 k2 => ?_⟩, xv_eq rfl rfl, fun a b q1 q2 => ?_, fun a b q1 q2 => ?_⟩
  · rw [xv_eq rfl rfl, xv_eq rfl rfl]
  · rw [xv_eq rfl rfl]; omega
  · rw [xv_eq rfl rfl] at k2
    by_cases ck : k = m 0 69
    · rw [xv_ne (show ¬ ((81 : Int) = 80 ∧ k = 4) by omega), xv_eq rfl ck, xv_ne (show ¬ ((50 : Int) = 0 ∧ k = 69) by omega), xv_eq rfl ck]
    · rw [xv_ne (show ¬ ((81 : Int) = 80 ∧ k = 4) by omega), xv_ne (show ¬ ((81 : Int) = 81 ∧ k = m 0 69) by omega), xv_ne (show ¬ ((50 : Int) = 0 ∧ k = 69) by omega), xv_ne (show ¬ ((50 : Int) = 50 ∧ k = m 0 69) by omega)]
      exact h7 k k1 (by omega)
  · rw [xv_ne q1, xv_ne (by omega)]
  · rw [xv_ne q1, xv_ne (by omega)]
theorem wordW {t w : Int} : ∀ (f : Nat) (c m : IH) (k : Int), TR c m → WB c m → 0 ≤ w → w < m 0 10 → 0 ≤ k → k ≤ m 5 w → m 0 69 + (m 5 w - k) ≤ 1000 → m 5 w - k < f → ∃ c' m', G_X3_writeWord_2 N f c w k = some c' ∧ G_X12_writesOne_2 N f m t w k = G_X12_writesOne_35 N m' t w ∧ WB c' m' ∧ m' 0 69 = m 0 69 + (m 5 w - k) ∧ FW c c' m m' := by
  intro f
  induction f with
  | zero => intro c m k h h1 h2 h3 h4 h5 h6 h7; omega
  | succ f ih =>
    intro c m k h h1 h2 h3 h4 h5 h6 h7
    have l1 := h.1.2.2.1 w h2 h3
    have l2 := h.2.1.2.2.1 w h2 h3
    have l3 := h.1.2.1
    unfold G_X3_writeWord_2 G_X12_writesOne_2 G_X2_signOf
    rw [l2.1, if_neg (show ¬ w = -1 by omega)]
    (try simp (disch := omega) only [xlet_q, xq_in])
    by_cases c1 : m 5 w ≤ k
    · rw [if_pos c1, if_pos c1]
      exact ⟨c, m, rfl, rfl, h1, by omega, FW.rf⟩
    · rw [if_neg c1, if_neg c1, yb_s, (l2.2.2.2 k h4 (by omega)).1]
      obtain ⟨c1, m1, e1, e2, e3, e4, e5⟩ := byteW (N := N) (x := m (52 + w) k) h1 (by omega)
      rw [e1, e2, ybv_s, ybv_s, wr_in (by omega) (by omega)]
      have e510 : m1 0 10 = m 0 10 := e5.2 _ _ (by omega) (by omega)
      have e55 : m1 5 w = m 5 w := e5.2 _ _ (by omega) (by omega)
      obtain ⟨c2, m2, g1, g2, g3, g4, g5⟩ := ih c1 m1 (k + 1) (h.pr e5.tc e5.tm) e3 h2 (by omega) (by omega) (by omega) (by omega) (by omega)
      exact ⟨c2, m2, g1, g2, g3, by omega, e5.tr g5⟩
theorem cellsW {t : Int} : ∀ (f : Nat) (c m : IH) (k : Int), TR c m → WB c m → 0 ≤ t → t < m 16 0 → 0 ≤ k → k ≤ m 197 t → m 0 69 + (m 197 t - k) ≤ 1000 → m 197 t - k < f → ∃ c' m', G_X3_writeCells_10 N f c t (c 32 t + k) = some c' ∧ G_X12_writesOne_37 N f m t (-1) k = some m' ∧ WB c' m' ∧ m 0 69 ≤ m' 0 69 ∧ m' 0 69 ≤ m 0 69 + (m 197 t - k) ∧ FW c c' m m' := by
  intro f
  induction f with
  | zero => intro c m k h h1 h2 h3 h4 h5 h6 h7; omega
  | succ f ih =>
    intro c m k h h1 h2 h3 h4 h5 h6 h7
    have h40 := h.2.2.2.2.2.1.1
    have hT := h.2.2.2.2.2.1.2.2 t h2 h3
    have hb := hT.1
    unfold G_X3_writeCells_10 G_X12_writesOne_37 G_X3_writeCells_52 G_X12_writesOne_87
    rw [if_pos rfl]
    (try simp (disch := omega) only [xlet_q, xq_in])
    simp only [show (197 : Int) + 0 = 197 by omega, show (0 * 40 + t) = t by omega]
    by_cases c1 : m 197 t ≤ k
    · rw [if_pos (by omega), if_pos c1]
      exact ⟨c, m, rfl, rfl, h1, by omega, by omega, FW.rf⟩
    · have cl := hT.2.2.2.2 k h4 (by omega)
      rw [if_neg (by omega), if_neg c1]
      (try simp (disch := omega) only [xlet_q, xq_in])
      rw [cl.1, wr_in (show -2147483648 ≤ c 32 t + k + 1 by omega) (by omega), wr_in (show -2147483648 ≤ k + 1 by omega) (by omega), Int.add_assoc (c 32 t) k 1]
      by_cases c2 : m (285 + (t * 24 + k)) 0 = 10
      · rw [if_pos c2, if_pos c2]
        obtain ⟨c2, m2, g1, g2, g3, g4, g5, g6⟩ := ih c m (k + 1) h h1 h2 h3 (by omega) (by omega) (by omega) (by omega)
        exact ⟨c2, m2, g1, g2, g3, g4, by omega, g6⟩
      · rw [if_neg c2, if_neg c2]
        obtain ⟨c1, m1, e1, e2, e3, e4, e5⟩ := byteW (N := N) (x := m (285 + (t * 24 + k)) 0) h1 (by omega)
        rw [e1, e2, ybv_s, ybv_s]
        have e16 : m1 16 0 = m 16 0 := e5.2 _ _ (by omega) (by omega)
        have e197 : m1 197 t = m 197 t := e5.2 _ _ (by omega) (by omega)
        have e32 : c1 32 t = c 32 t := e5.1 _ _ (by omega) (by omega)
        have := ih c1 m1 (k + 1) (h.pr e5.tc e5.tm) e3 h2 (by omega) (by omega) (by omega) (by omega) (by omega)
        rw [e32] at this
        obtain ⟨c2, m2, g1, g2, g3, g4, g5, g6⟩ := this
        exact ⟨c2, m2, g1, g2, g3, by omega, by omega, e5.tr g6⟩
theorem one37 {m : IH} {t w k : Int} (hN : 20000 ≤ N) (hw : w ≠ -1) : G_X12_writesOne_35 N m t w = some m := by
  obtain ⟨N', hN'⟩ : ∃ N', N = N' + 1 := ⟨N - 1, by omega⟩
  have : ∀ K : Nat, G_X12_writesOne_37 K (N' + 1) m t w 0 = some m := by
    intro K
    unfold G_X12_writesOne_37
    rw [if_neg hw]
  have := this N
  rw [← hN'] at this
  exact this
/-- a word written -/
theorem wordWS {c m : IH} {t w : Int} (hN : 20000 ≤ N) (h : TR c m) (h1 : WB c m) (hw : 0 ≤ w ∧ w < m 0 10) (hl : m 0 69 ≤ 980) : ∃ c' m', G_X3_writeWord N c w = some c' ∧ G_X12_writesOne N m t w = some m' ∧ WB c' m' ∧ m' 0 69 ≤ m 0 69 + 12 ∧ FW c c' m m' := by
  have l1 := h.1.2.2.1 w hw.1 hw.2
  obtain ⟨c', m', g1, g2, g3, g4, g5⟩ := wordW (N := N) (t := t) N c m 0 h h1 hw.1 hw.2 (by omega) (by omega) (by omega) (by omega)
  unfold G_X3_writeWord G_X12_writesOne
  rw [xlet_q, xlet_q, g1, g2, one37 (k := 0) hN (by omega)]
  exact ⟨c', m', rfl, rfl, g3, by omega, g5⟩
/-- a token's cells written -/
theorem cellsWS {c m : IH} {t : Int} (hN : 20000 ≤ N) (h : TR c m) (h1 : WB c m) (ht : 0 ≤ t ∧ t < m 16 0) (hl : m 0 69 ≤ 975) : ∃ c' m', G_X3_writeCells N c t = some c' ∧ G_X12_writesOne N m t (-1) = some m' ∧ WB c' m' ∧ m' 0 69 ≤ m 0 69 + 24 ∧ FW c c' m m' := by
  have h40 := h.2.2.2.2.2.1.1
  have hb := (h.2.2.2.2.2.1.2.2 t ht.1 ht.2).1
  obtain ⟨c', m', g1, g2, g3, g4, g5, g6⟩ := cellsW (N := N) N c m 0 h h1 ht.1 ht.2 (by omega) (by omega) (by omega) (by omega)
  rw [Int.add_zero] at g1
  have e : G_X12_writesOne N m t (-1) = G_X12_writesOne_37 N N m t (-1) 0 := by
    obtain ⟨N', hN'⟩ : ∃ N', N = N' + 1 := ⟨N - 1, by omega⟩
    have : ∀ K : Nat, G_X12_writesOne_2 K (N' + 1) m t (-1) 0 = G_X12_writesOne_35 K m t (-1) := by
      intro K
      unfold G_X12_writesOne_2
      rw [if_pos rfl]
    have := this N
    rw [← hN'] at this
    exact this
  unfold G_X3_writeCells
  (try simp (disch := omega) only [xlet_q, xq_in])
  rw [e]
  exact ⟨c', m', g1, g2, g3, by omega, g6⟩
end
/-- the tokens at which a way begins anew -/
def rea (l : Int → Int) : Nat → Int
  | 0 => 0
  | j + 1 => if l (rea l j) = 0 then rea l j + 1 else rea l j + 2
theorem rea_lt {l : Int → Int} (i : Nat) : rea l i < rea l (i + 1) := by
  simp only [rea]
  by_cases c : l (rea l i) = 0
  · rw [if_pos c]; omega
  · rw [if_neg c]; omega
theorem rea_mono {l : Int → Int} {i : Nat} : ∀ d : Nat, rea l i + d ≤ rea l (i + d) := by
  intro d
  induction d with
  | zero => simp
  | succ d ih =>
    have := rea_lt (l := l) (i + d)
    rw [← Nat.add_assoc]
    omega
theorem rea_ge {l : Int → Int} (i : Nat) : (i : Int) ≤ rea l i := by
  have := rea_mono (l := l) (i := 0) i
  simp only [rea, Nat.zero_add] at this
  omega
/-- a token is lost with the next one, in the text as it is taken -/
def LT (l : Int → Int) (s : Int) : Prop := (∃ i, rea l i = s) ∧ l s ≠ 0
theorem lostAt0 {N : Nat} {m : IH} {t : Int} (hT : 0 ≤ m 16 0 ∧ m 16 0 ≤ 40) (ht : t < m 16 0) : ∀ (f : Nat) (i : Nat), (∀ j, j < i → rea (m 49) j ≠ t) → t - rea (m 49) i < f → 1 ≤ f → (LT (m 49) t ∧ 0 ≤ t ∧ G_X12_isLostAt_2 N f m t (rea (m 49) i) = some (1, m)) ∨ (¬ (LT (m 49) t ∧ 0 ≤ t) ∧ G_X12_isLostAt_2 N f m t (rea (m 49) i) = some (0, m)) := by
  intro f
  induction f with
  | zero => intro i h1 h2 h3; omega
  | succ f ih =>
    intro i h1 h2 h3
    have hg := rea_ge (l := m 49) i
    unfold G_X12_isLostAt_2 G_X12_isLostAt_22
    by_cases c1 : t ≤ rea (m 49) i
    · rw [if_pos c1]
      by_cases c2 : rea (m 49) i = t
      · rw [if_pos c2]
        rw [if_neg (by omega), if_neg (by omega)]
        (try simp (disch := omega) only [xlet_q, xq_in])
        by_cases c3 : m 49 t = 0
        · right
          rw [if_pos c3]
          exact ⟨fun q => q.1.2 c3, rfl⟩
        · left
          rw [if_neg c3]
          exact ⟨⟨⟨i, c2⟩, c3⟩, by omega, rfl⟩
      · right
        rw [if_neg c2]
        refine ⟨fun q => ?_, rfl⟩
        obtain ⟨⟨⟨j, hj⟩, _⟩, _⟩ := q
        by_cases cj : j < i
        · exact h1 j cj hj
        · have := rea_mono (l := m 49) (i := i) (j - i)
          rw [show i + (j - i) = j by omega, hj] at this
          omega
    · rw [if_neg c1]
      (try simp (disch := omega) only [xlet_q, xq_in])
      have hs := rea_lt (l := m 49) i
      have hn : ∀ j, j < i + 1 → rea (m 49) j ≠ t := fun j hj => by
        by_cases cj : j < i
        · exact h1 j cj
        · rw [show j = i by omega]; omega
      by_cases c3 : m 49 (rea (m 49) i) = 0
      · have e : rea (m 49) (i + 1) = rea (m 49) i + 1 := by simp only [rea]; rw [if_pos c3]
        rw [if_pos c3, wr_in (by omega) (by omega), ← e]
        exact ih (i + 1) hn (by omega) (by omega)
      · have e : rea (m 49) (i + 1) = rea (m 49) i + 2 := by simp only [rea]; rw [if_neg c3]
        rw [if_neg c3, wr_in (by omega) (by omega), ← e]
        exact ih (i + 1) hn (by omega) (by omega)
theorem lostAtS {N : Nat} {m : IH} {t : Int} (hN : 20000 ≤ N) (hT : 0 ≤ m 16 0 ∧ m 16 0 ≤ 40) (ht : t < m 16 0) : (LT (m 49) t ∧ 0 ≤ t ∧ G_X12_isLostAt N m t = some (1, m)) ∨ (¬ (LT (m 49) t ∧ 0 ≤ t) ∧ G_X12_isLostAt N m t = some (0, m)) :=
  lostAt0 hT ht N 0 (fun j hj => by omega) (by simp only [rea]; omega) (by omega)
