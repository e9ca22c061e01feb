theorem GV.uq {N : Nat} {lay : Option IH} {most : Int} {a b : IH} (h : GV N lay most a) (h' : GV N lay most b) : a = b := by
  obtain ⟨m1, e1, e2⟩ := h
  obtain ⟨m1', f1, f2⟩ := h'
  have : m1 = m1' := Option.some.inj (e1.symm.trans f1)
  subst this
  exact Option.some.inj (e2.symm.trans f2)
theorem wi_sf {m2 m2' : IH} {o j : Int} (h : SF m2 m2') : wi m2 o j = wi m2' o j := by
  unfold wi
  by_cases c : 0 ≤ j ∧ j < m2 0 49
  · have := h.2 j c.1 c.2
    rw [this.1, this.2.1, h.1]
  · rw [if_neg (fun q => c ⟨q.1, q.2.1⟩), if_neg (fun q => c ⟨q.1, by rw [h.1]; exact q.2.1⟩)]
theorem mp_sf {m2 m2' : IH} {o : Int} (h : SF m2 m2') : mp m2 o = mp m2' o := by
  unfold mp
  rw [← wi_sf h]
  by_cases c : wi m2 o 0 = -1
  · rw [if_pos c, if_pos c]
  · have q := wi_ne c
    rw [if_neg c, if_neg c, (h.2 0 q.1 q.2.1).2.1]
theorem SF.sy {m2 m2' : IH} (h : SF m2 m2') : SF m2' m2 := ⟨h.1.symm, fun j a b => by have := h.2 j a (by rw [h.1]; exact b); exact ⟨this.1.symm, this.2.1.symm, this.2.2.symm⟩⟩
/-- what is found of a token; of two that are one -/
noncomputable def AT (N : Nat) (m : IH) (t : Int) : IH := Classical.epsilon (fun m2 => GV N (G_X12_laysToken N m t 0) 60 m2)
noncomputable def AJ (N : Nat) (m : IH) (t : Int) : IH := Classical.epsilon (fun m2 => GV N (G_X12_laysToken N m t 1) 1 m2)
/-- two tokens may be one -/
def jn (m : IH) (t : Int) : Prop := t + 1 < m 16 0 ∧ m 201 t = 1 ∧ m 197 t + m 197 (t + 1) ≤ 24
noncomputable def aw (N : Nat) (m : IH) (t : Int) : Int := wi (AT N m t) (op m (m 197 t)) 0
noncomputable def aa (N : Nat) (m : IH) (t : Int) : Int := mp (AT N m t) (op m (m 197 t))
noncomputable def bw (N : Nat) (m : IH) (t : Int) : Int := @ite _ (jn m t) (Classical.propDecidable _) (wi (AJ N m t) (op m (m 197 t + m 197 (t + 1))) 0) (-1)
noncomputable def ba (N : Nat) (m : IH) (t : Int) : Int := mp (AJ N m t) (op m (m 197 t + m 197 (t + 1))) + m 3 5
theorem jn_mv {m m' : IH} {t : Int} (h : TM m m') : jn m' t ↔ jn m t := by
  unfold jn
  rw [h 16 0 (by omega) (by omega) (by omega), h 201 t (by omega) (by omega) (by omega), h 197 t (by omega) (by omega) (by omega), h 197 (t + 1) (by omega) (by omega) (by omega)]
section
variable {N : Nat} {c m : IH}
theorem AT.gv {t : Int} (hN : 20000 ≤ N) (h : TR c m) (hs : SL c) (ht : 0 ≤ t ∧ t < m 16 0) : GV N (G_X12_laysToken N m t 0) 60 (AT N m t) := by
  obtain ⟨c1, c2, m1, m2, a1, a2, a3, a4, _⟩ := lookT (t := t) (most := 60) hN (by omega) h hs ht
  exact Classical.epsilon_spec (p := fun m2 => GV N (G_X12_laysToken N m t 0) 60 m2) ⟨m2, m1, a3, a4.1⟩
theorem AJ.gv {t : Int} (hN : 20000 ≤ N) (h : TR c m) (hs : SL c) (ht : 0 ≤ t) (hj : jn m t) : GV N (G_X12_laysToken N m t 1) 1 (AJ N m t) := by
  obtain ⟨c1, c2, m1, m2, a1, a2, a3, a4, _⟩ := lookJ (t := t) (most := 1) hN (by omega) h hs ⟨ht, hj.1⟩ hj.2.2
  exact Classical.epsilon_spec (p := fun m2 => GV N (G_X12_laysToken N m t 1) 1 m2) ⟨m2, m1, a3, a4.1⟩
theorem AT.rb {t : Int} (hN : 20000 ≤ N) (h : TR c m) (hs : SL c) (ht : 0 ≤ t ∧ t < m 16 0) : RB m (AT N m t) := (gvT hN h hs ht (AT.gv hN h hs ht)).1
theorem AJ.rb {t : Int} (hN : 20000 ≤ N) (h : TR c m) (hs : SL c) (ht : 0 ≤ t) (hj : jn m t) : RB m (AJ N m t) := (gvJ hN h hs ⟨ht, hj.1⟩ hj.2.2 (AJ.gv hN h hs ht hj)).1
theorem mp_rng {m2 : IH} {o : Int} (hB : RB m m2) (ho : 0 ≤ o ∧ o ≤ 3375) : 0 ≤ mp m2 o ∧ mp m2 o ≤ 3375 := by
  unfold mp
  by_cases c1 : wi m2 o 0 = -1
  · rw [if_pos c1]; exact ho
  · have q := wi_ne c1
    rw [if_neg c1]
    have := hB.2.1 0 q.1 q.2.1
    omega
/-- the results for a net laid from another scratch are the same -/
theorem mendT {m' : IH} {t k : Int} (hN : 20000 ≤ N) (h : TR c m) (hs : SL c) (hm : TM m m') (ht : 0 ≤ t ∧ t < m 16 0) (hk : 1 ≤ k ∧ k ≤ 60) : ∃ m1 m3, G_X12_laysToken N m' t 0 = some m1 ∧ G_X12_mends N m1 k = some m3 ∧ m3 0 50 = aw N m t ∧ m3 0 51 = aa N m t ∧ (2 ≤ k → m3 0 52 = nx (AT N m t) (op m (m 197 t))) ∧ TM m m3 ∧ m1 0 33 = m 197 t ∧ m3 0 33 = m 197 t ∧ m3 0 49 = min k ((AT N m t) 0 49) ∧ (∀ j, 0 ≤ j → j < m3 0 49 → m3 33 j = (AT N m t) 33 j ∧ m3 34 j = (AT N m t) 34 j ∧ m3 35 j = (AT N m t) 35 j) := by
  have h' := h.pr TC.rf hm
  have e16 : m' 16 0 = m 16 0 := hm _ _ (by omega) (by omega) (by omega)
  have e197 : m' 197 t = m 197 t := hm _ _ (by omega) (by omega) (by omega)
  have hT := (h.2.2.2.2.2.1.2.2 t ht.1 ht.2).1
  obtain ⟨c1, c2, m1, m2, a1, a2, a3, a4, a5, a6, a7, a8, a9, a10, a11, a12⟩ := lookT (t := t) (most := 60) hN (by omega) h' hs (by omega)
  obtain ⟨c1', c2', m1', m2', b1, b2, b3, b4, b5, b6, b7, b8, b9, b10, b11, b12⟩ := lookT (t := t) (most := k) hN hk h' hs (by omega)
  have em : m1' = m1 := Option.some.inj (b3.symm.trans a3)
  subst em
  obtain ⟨m2x, g1, g2⟩ := sameT hN h hs hm ht (AT N m t) (AT.gv hN h hs ht)
  have eg : m2x = m2 := g1.uq ⟨m1', a3, a4.1⟩
  subst eg
  have pf := prefixS (by omega) hk.2 a4.1 b4.1
  have rb : RB m m2x := a4.rb (hm.tr a10)
  have e33 : m1' 0 33 = m 197 t := by rw [← e197]; exact a5.2.1.2.1
  obtain ⟨m3, d1, d2, d3, d4, d5⟩ := mendsM (N := N) (c := c) (m := m) (m1 := m1') (m2 := m2x) (m3 := m2') (n := m 197 t) (k := k) h.2.2.2.2.1 (hm.tr a10) (by omega) e33 b4.1 b4.2.2.2.2 rb hk.1 pf
  have w := wi_sf (o := op m (m 197 t)) (j := 0) g2
  have hb := rb.1
  have p49 := pf.1
  refine ⟨m1', m3, a3, d1, by rw [d2]; exact w.symm, by rw [d3]; exact (mp_sf g2).symm, fun k2 => ?_, ?_, e33, ?_, ?_, fun j j1 j2 => ?_⟩
  · rw [d4 k2]
    unfold nx
    rw [← w, ← g2.1]
    by_cases c1 : wi (AT N m t) (op m (m 197 t)) 0 = -1
    · rw [if_pos c1, if_pos c1]
      by_cases c2 : (AT N m t) 0 49 ≤ 0
      · rw [if_pos c2, if_pos c2]
      · rw [if_neg c2, if_neg c2, (g2.2 0 (by omega) (by omega)).2.1]
    · have q := wi_ne c1
      rw [if_neg c1, if_neg c1, (g2.2 0 q.1 q.2.1).2.1]
      by_cases c2 : (AT N m t) 0 49 ≤ 1
      · rw [if_pos c2, if_pos c2]
      · rw [if_neg c2, if_neg c2, (g2.2 1 (by omega) (by omega)).2.1]
  · exact fun a b z1 z2 z3 => by rw [d5 a b (by omega), b4.2.2.2.2 a b (by omega) (by omega), (hm.tr b10) a b z1 z2 z3]
  · rw [d5 0 33 (by omega), b4.2.2.2.2 _ _ (by omega) (by omega)]; exact e33
  · rw [d5 0 49 (by omega), p49, g2.1]
  · rw [d5 0 49 (by omega)] at j2
    rw [d5 33 j (by omega), d5 34 j (by omega), d5 35 j (by omega)]
    have x := pf.2 j j2
    have y := g2.2 j j1 (by rw [g2.1]; omega)
    rw [← x.1, ← x.2.1, ← x.2.2, y.1, y.2.1, y.2.2]
    exact ⟨rfl, rfl, rfl⟩
theorem mendJ {m' : IH} {t : Int} (hN : 20000 ≤ N) (h : TR c m) (hs : SL c) (hm : TM m m') (ht : 0 ≤ t) (hj : jn m t) : ∃ m1 m3, G_X12_laysToken N m' t 1 = some m1 ∧ G_X12_mends N m1 1 = some m3 ∧ m3 0 50 = bw N m t ∧ m3 0 51 + m 3 5 = ba N m t ∧ TM m m3 := by
  have h' := h.pr TC.rf hm
  have e16 : m' 16 0 = m 16 0 := hm _ _ (by omega) (by omega) (by omega)
  have e197 : m' 197 t = m 197 t := hm _ _ (by omega) (by omega) (by omega)
  have e198 : m' 197 (t + 1) = m 197 (t + 1) := hm _ _ (by omega) (by omega) (by omega)
  have hT := (h.2.2.2.2.2.1.2.2 t ht (by have := hj.1; omega)).1
  have hT1 := (h.2.2.2.2.2.1.2.2 (t + 1) (by omega) hj.1).1
  have hj2 := hj.2.2
  obtain ⟨c1, c2, m1, m2, a1, a2, a3, a4, a5, a6, a7, a8, a9, a10, a11, a12⟩ := lookJ (t := t) (most := 1) hN (by omega) h' hs (by have := hj.1; omega) (by omega)
  obtain ⟨m2x, g1, g2⟩ := sameJ hN h hs hm ⟨ht, hj.1⟩ hj.2.2 (AJ N m t) (AJ.gv hN h hs ht hj)
  have eg : m2x = m2 := g1.uq ⟨m1, a3, a4.1⟩
  subst eg
  have pf := prefixS (by omega) (Int.le_refl 1) a4.1 a4.1
  have rb : RB m m2x := a4.rb (hm.tr a10)
  have e33 : m1 0 33 = m 197 t + m 197 (t + 1) := by rw [← e197, ← e198]; exact a5.2.1.2.1
  obtain ⟨m3, d1, d2, d3, d4, d5⟩ := mendsM (N := N) (c := c) (m := m) (m1 := m1) (m2 := m2x) (m3 := m2x) (n := m 197 t + m 197 (t + 1)) (k := 1) h.2.2.2.2.1 (hm.tr a10) (by omega) e33 a4.1 a4.2.2.2.2 rb (by omega) ⟨pf.1, fun j q => ⟨rfl, rfl, rfl⟩⟩
  refine ⟨m1, m3, a3, d1, ?_, ?_, fun a b z1 z2 z3 => by rw [d5 a b (by omega), a4.2.2.2.2 a b (by omega) (by omega), (hm.tr a10) a b z1 z2 z3]⟩
  · unfold bw
    rw [if_pos hj, d2]
    exact (wi_sf g2).symm
  · unfold ba
    rw [d3, mp_sf g2]
/-- what the reference has laid of the tokens below one -/
def AL (N : Nat) (m m' : IH) (t : Int) : Prop := ∀ s, 0 ≤ s → s < t → m' 44 s = aw N m s ∧ m' 45 s = aa N m s ∧ m' 46 s = bw N m s ∧ (bw N m s ≠ -1 → m' 47 s = ba N m s)
theorem laysAloneS {m' : IH} {t : Int} (hN : 20000 ≤ N) (h : TR c m) (hs : SL c) (hm : TM m m') (ht : 0 ≤ t ∧ t < m 16 0) (hA : AL N m m' t) : ∃ m'', G_X12_laysAlone N m' t = some m'' ∧ TM m m'' ∧ AL N m m'' (t + 1) := by
  have h40 := h.2.2.2.2.2.1.1
  have hT := (h.2.2.2.2.2.1.2.2 t ht.1 ht.2).1
  obtain ⟨m1, m3, e1, e2, e3, e4, e5, e6, _, _, _⟩ := mendT (k := 1) hN h hs hm ht (by omega)
  have fr : ∀ a s, 44 ≤ a → a ≤ 47 → m3 a s = m' a s := by
    intro a s q1 q2
    have f1 := gb_X12_laysToken (N := N) (p1 := t) (p2 := 0) (Fg.rf (rg := rgM) (L := lf_X12_laysToken) (a := m')) m1 e1
    have f2 := gb_X12_mends (N := N) (p1 := 1) (Fg.rf (rg := rgM) (L := lf_X12_mends) (a := m1)) m3 e2
    have : a = 44 ∨ a = 45 ∨ a = 46 ∨ a = 47 := by omega
    rcases this with rfl | rfl | rfl | rfl
    · exact (f2 44 s rfl).trans (f1 44 s rfl)
    · exact (f2 45 s rfl).trans (f1 45 s rfl)
    · exact (f2 46 s rfl).trans (f1 46 s rfl)
    · exact (f2 47 s rfl).trans (f1 47 s rfl)
  unfold G_X12_laysAlone
  rw [e1, ybv_s, e2, ybv_s]
  simp (disch := omega) only [xlet_q, xq_in, xv_ne]
  generalize hm4 : xv (xv (xv m3 44 t (m3 0 50)) 45 t (m3 0 51)) 46 t (-1) = m4
  have mo : ∀ a b, ¬ (44 ≤ a ∧ a ≤ 46 ∧ b = t) → m4 a b = m3 a b := fun a b q => by rw [← hm4, xv_ne (by omega), xv_ne (by omega), xv_ne (by omega)]
  have m44 : m4 44 t = aw N m t := by rw [← hm4, xv_ne (by omega), xv_ne (by omega), xv_eq rfl rfl]; exact e3
  have m45 : m4 45 t = aa N m t := by rw [← hm4, xv_ne (by omega), xv_eq rfl rfl]; exact e4
  have m46 : m4 46 t = -1 := by rw [← hm4, xv_eq rfl rfl]
  have tm4 : TM m m4 := fun a b z1 z2 z3 => by rw [mo a b (by omega), e6 a b z1 z2 z3]
  have old : ∀ mm : IH, (∀ a b, 44 ≤ a → a ≤ 47 → b ≠ t → mm a b = m' a b) → AL N m mm t := by
    intro mm q s s1 s2
    rw [q 44 s (by omega) (by omega) (by omega), q 45 s (by omega) (by omega) (by omega), q 46 s (by omega) (by omega) (by omega), q 47 s (by omega) (by omega) (by omega)]
    exact hA s s1 s2
  have noj : ¬ jn m t → AL N m m4 (t + 1) := by
    intro nj s s1 s2
    by_cases cs : s = t
    · subst cs
      have b0 : bw N m s = -1 := by unfold bw; rw [if_neg nj]
      exact ⟨m44, m45, by rw [m46, b0], fun q => absurd b0 q⟩
    · exact old m4 (fun a b q1 q2 q3 => by rw [mo a b (by omega), fr a b q1 q2]) s s1 (by omega)
  have x16 : m3 16 0 = m 16 0 := e6 _ _ (by omega) (by omega) (by omega)
  have x201 : m3 201 t = m 201 t := e6 _ _ (by omega) (by omega) (by omega)
  have x197 : ∀ s, m3 197 s = m 197 s := fun s => e6 _ _ (by omega) (by omega) (by omega)
  simp only [show (201 : Int) + 0 = 201 by omega, show (197 : Int) + 0 = 197 by omega]
  rw [wr_in (show -2147483648 ≤ t + 1 by omega) (by omega), x16, x201, x197, x197]
  by_cases c1 : m 16 0 ≤ t + 1
  · rw [if_pos c1]
    exact ⟨m4, rfl, tm4, noj (fun q => by have := q.1; omega)⟩
  · rw [if_neg c1]
    by_cases c2 : m 201 t = 1
    · have hT1 := (h.2.2.2.2.2.1.2.2 (t + 1) (by omega) (by omega)).1
      (try simp (disch := omega) only [xlet_q, xq_in])
      rw [if_pos c2]
      (try simp (disch := omega) only [xlet_q, xq_in])
      rw [wr_in (show -2147483648 ≤ m 197 t + m 197 (t + 1) by omega) (by omega)]
      by_cases c3 : m 197 t + m 197 (t + 1) ≤ 24
      · rw [if_pos c3]
        have hj : jn m t := ⟨by omega, c2, c3⟩
        obtain ⟨n1, n3, f1, f2, f3, f4, f5⟩ := mendJ hN h hs tm4 ht.1 hj
        have fr2 : ∀ a s, 44 ≤ a → a ≤ 47 → n3 a s = m4 a s := by
          intro a s q1 q2
          have g1 := gb_X12_laysToken (N := N) (p1 := t) (p2 := 1) (Fg.rf (rg := rgM) (L := lf_X12_laysToken) (a := m4)) n1 f1
          have g2 := gb_X12_mends (N := N) (p1 := 1) (Fg.rf (rg := rgM) (L := lf_X12_mends) (a := n1)) n3 f2
          have : a = 44 ∨ a = 45 ∨ a = 46 ∨ a = 47 := by omega
          rcases this with rfl | rfl | rfl | rfl
          · exact (g2 44 s rfl).trans (g1 44 s rfl)
          · exact (g2 45 s rfl).trans (g1 45 s rfl)
          · exact (g2 46 s rfl).trans (g1 46 s rfl)
          · exact (g2 47 s rfl).trans (g1 47 s rfl)
        rw [f1, ybv_s, f2, ybv_s]
        have o := op_rng (n := m 197 t + m 197 (t + 1)) h.2.2.2.2.1 (by omega)
        have mr := mp_rng (AJ.rb hN h hs ht.1 hj) o
        have k5 := h.2.2.2.2.1 5 (by omega) (by omega)
        have n35 : n3 3 5 = m 3 5 := f5 _ _ (by omega) (by omega) (by omega)
        have hba : ba N m t = mp (AJ N m t) (op m (m 197 t + m 197 (t + 1))) + m 3 5 := rfl
        rw [n35, f4, wr_in (by omega) (by omega)]
        refine ⟨_, rfl, fun a b z1 z2 z3 => by rw [xv_ne (by omega), xv_ne (by omega), f5 a b z1 z2 z3], fun s s1 s2 => ?_⟩
        by_cases cs : s = t
        · subst cs
          rw [xv_ne (by omega), xv_ne (by omega), fr2 44 s (by omega) (by omega), m44, xv_ne (by omega), xv_ne (by omega), fr2 45 s (by omega) (by omega), m45, xv_ne (by omega), xv_eq rfl rfl, xv_eq rfl rfl]
          exact ⟨rfl, rfl, f3, fun _ => rfl⟩
        · have := old (xv (xv n3 46 t (n3 0 50)) 47 t (ba N m t)) (fun a b q1 q2 q3 => by rw [xv_ne (by omega), xv_ne (by omega), fr2 a b q1 q2, mo a b (by omega), fr a b q1 q2])
          exact this s s1 (by omega)
      · rw [if_neg c3]
        exact ⟨m4, rfl, tm4, noj (fun q => c3 q.2.2)⟩
    · (try simp (disch := omega) only [xlet_q, xq_in])
      rw [if_neg c2]
      exact ⟨m4, rfl, tm4, noj (fun q => c2 q.2.1)⟩
end
