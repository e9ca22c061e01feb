theorem RD.fr2 {c c' m m' : IH} (h : RD c m) (hc : ∀ a b, 31 ≤ a → a ≤ 39 → c' a b = c a b) (hm : ∀ a b, ((a = 0 ∧ b = 26) ∨ ((a = 16 ∨ a = 17) ∧ b = 0) ∨ a = 197 ∨ a = 199 ∨ a = 201 ∨ (285 ≤ a ∧ a < 1245)) → m' a b = m a b) : RD c' m' := by
  obtain ⟨h1, h2, h3⟩ := h
  have m16 : m' 16 0 = m 16 0 := hm _ _ (by omega)
  unfold RD
  rw [m16, hm 0 26 (by omega), hm 17 0 (by omega), hc 31 0 (by omega) (by omega), hc 31 1 (by omega) (by omega)]
  refine ⟨h1, h2, fun t t1 t2 => ?_⟩
  obtain ⟨a1, a2, a3, a4, a5⟩ := h3 t t1 t2
  unfold TK
  rw [m16, hc 32 t (by omega) (by omega), hc 32 (t + 1) (by omega) (by omega), hc 33 t (by omega) (by omega), hc 34 t (by omega) (by omega), hc 35 t (by omega) (by omega), hm 197 t (by omega), hm 199 t (by omega), hm 201 t (by omega)]
  exact ⟨a1, a2, a3, a4, fun k k1 k2 => (a5 k k1 k2).mv (fun a b q1 q2 => hc a b (by omega) (by omega)) (fun b => hm _ _ (by omega))⟩
theorem FO.fr2 {c c' m m' : IH} (h : FO c m) (hc : ∀ a b, 49 ≤ a → a ≤ 52 → c' a b = c a b) (hm : ∀ a b, ((a = 22 ∧ b = 0) ∨ (2207 ≤ a ∧ a < 2267)) → m' a b = m a b) : FO c' m' := by
  obtain ⟨h1, h2, h3, h4⟩ := h
  unfold FO
  rw [hm 22 0 (by omega), hc 49 1 (by omega) (by omega)]
  refine ⟨h1, h2, h3, fun k k1 k2 => ?_⟩
  rw [hc 50 k (by omega) (by omega), hc 51 k (by omega) (by omega), hc 52 k (by omega) (by omega), hm _ 0 (by omega), hm _ 1 (by omega), hm _ 2 (by omega)]
  exact h4 k k1 k2
theorem thr_mv2 {m m' : IH} {P : Int → Int → Int} {x : Int} : ∀ w : Nat, (∀ b : Int, 0 ≤ b → b < w → m' 5 b = m 5 b) → thr m' P x w = thr m P x w := by
  intro w
  induction w with
  | zero => intro _; rfl
  | succ w ih =>
    intro h
    simp only [thr]
    rw [ih (fun b b1 b2 => h b b1 (by omega)), h w (by omega) (by omega)]
/-- the words stay though the reference's sixty-first word was written -/
theorem LL.fr2 {c c' m m' : IH} (h : LL c m) (hc : ∀ a b, (a = 4 ∧ (b = 0 ∨ b = 5)) ∨ (5 ≤ a ∧ a ≤ 15) → c' a b = c a b) (hm : ∀ a b, ((a = 0 ∧ (b = 10 ∨ b = 15)) ∨ ((a = 5 ∨ a = 6 ∨ a = 7) ∧ 0 ≤ b ∧ b < 60) ∨ (8 ≤ a ∧ a ≤ 12) ∨ (52 ≤ a ∧ a < 112)) → m' a b = m a b) : LL c' m' := by
  obtain ⟨⟨a1, a2, a3, a4, a5, a6⟩, ⟨b1, b2, b3, b4⟩, P, p1, p2⟩ := h
  have e10 : m' 0 10 = m 0 10 := hm _ _ (by omega)
  have e15 : m' 0 15 = m 0 15 := hm _ _ (by omega)
  have e5 : ∀ w, 0 ≤ w → w < m 0 10 → m' 5 w = m 5 w := fun w q1 q2 => hm _ _ (by omega)
  have e6 : ∀ w, 0 ≤ w → w < m 0 10 → m' 6 w = m 6 w := fun w q1 q2 => hm _ _ (by omega)
  have e7 : ∀ w, 0 ≤ w → w < m 0 10 → m' 7 w = m 7 w := fun w q1 q2 => hm _ _ (by omega)
  have e8 : ∀ b, m' 8 b = m 8 b := fun b => hm _ _ (by omega)
  have e9 : ∀ b, m' 9 b = m 9 b := fun b => hm _ _ (by omega)
  have eX : ∀ b, m' 10 b = m 10 b := fun b => hm _ _ (by omega)
  have e11 : ∀ b, m' 11 b = m 11 b := fun b => hm _ _ (by omega)
  have e12 : ∀ b, m' 12 b = m 12 b := fun b => hm _ _ (by omega)
  refine ⟨⟨?_, by rw [e10]; exact a2, fun w q1 q2 => ?_, fun x q1 q2 => ?_, fun q x q1 q2 => ?_, fun q x q1 q2 => ?_⟩, ⟨by rw [hc _ _ (by omega), e10]; exact b1, ?_, fun w q1 q2 => ?_, fun x q1 q2 => ?_⟩, P, fun w q1 q2 => ?_, ?_⟩
  · unfold TrM at *
    simp only [e15, e8, e9]
    exact a1
  · rw [e10] at q2
    rw [e5 w q1 q2, e6 w q1 q2, e7 w q1 q2, e15, eX, e11]
    exact a3 w q1 q2
  · rw [e15] at q2
    rw [eX, e10]
    rcases a4 x q1 q2 with r | ⟨r1, r2, r3⟩
    · exact Or.inl r
    · exact Or.inr ⟨r1, r2, by rw [e7 _ r1 r2]; exact r3⟩
  · rw [e11]; exact a5 (by omega) x q1 (by omega)
  · rw [e8, e11, e11]; exact a6 (by omega) x q1 (by omega)
  · have k9 : ∀ b, c' 9 b = c 9 b := fun b => hc _ _ (by omega)
    have k10 : ∀ b, c' 10 b = c 10 b := fun b => hc _ _ (by omega)
    have k11 : ∀ b, c' 11 b = c 11 b := fun b => hc _ _ (by omega)
    have k12 : ∀ b, c' 12 b = c 12 b := fun b => hc _ _ (by omega)
    have k13 : ∀ b, c' 13 b = c 13 b := fun b => hc _ _ (by omega)
    unfold TrC at *
    simp only [e15, e8, e9, eX, hc 4 5 (by omega), k9, k10, k11, k12, k13]
    exact b2
  · rw [e10] at q2
    rw [e5 w q1 q2, e6 w q1 q2, e7 w q1 q2, hc 5 _ (by omega), hc 6 _ (by omega), hc 7 _ (by omega)]
    obtain ⟨r1, r2, r3, r4⟩ := b3 w q1 q2
    exact ⟨r1, r2, r3, fun k k1 k2 => by rw [hc 8 _ (by omega), hm (52 + w) k (by omega)]; exact r4 k k1 k2⟩
  · rw [e15] at q2
    rw [hc 15 _ (by omega), hc 14 _ (by omega), e11, e12]
    exact b4 x q1 q2
  · rw [e10] at q2
    rw [e5 w q1 q2, e7 w q1 q2, e15]
    obtain ⟨r1, r2, r3⟩ := p1 w q1 q2
    exact ⟨r1, r2, fun k k1 k2 => by rw [e8, e9, hm (52 + w) k (by omega)]; exact r3 k k1 k2⟩
  · obtain ⟨g1, g2, g3⟩ := p2
    unfold LG
    rw [e10, e15, e8, e9]
    refine ⟨g1, fun x q1 q2 => ?_, fun x q1 q2 => ?_⟩
    · obtain ⟨w, k, r1, r2, r3, r4, r5⟩ := g2 x q1 q2
      exact ⟨w, k, r1, r2, r3, by rw [e5 w r1 r2]; exact r4, r5⟩
    · rw [e12, thr_mv2 (m := m) (m' := m') (m 0 10).toNat (fun b q3 q4 => e5 b q3 (by omega))]
      exact g3 x q1 q2
section
variable {N : Nat} {c m : IH}
/-- a reading begins, on both sides -/
theorem beginS {p : Int} (h : TA c m) (hp : 0 ≤ p ∧ p ≤ m 0 2) : ∃ c1 m1, G_X9_begin N c p = some c1 ∧ G_X12_starts N m p = some m1 ∧ TP c1 m1 p 0 ∧ c1 2 5 = -1 ∧ m1 0 7 = -1 ∧ (∀ a b, ¬ (a = 2 ∧ 2 ≤ b ∧ b ≤ 5) → c1 a b = c a b) ∧ (∀ a b, ¬ (a = 0 ∧ 2 ≤ b ∧ b ≤ 7) → m1 a b = m a b) ∧ m1 0 2 = 0 := by
  obtain ⟨t1, t2, t3, t4, t5⟩ := h
  unfold G_X9_begin G_X12_starts
  simp only [xlet_q]
  refine ⟨_, _, rfl, rfl, ⟨⟨?_, ?_, ?_, ?_, ?_, ?_⟩, by omega, fun j j1 j2 => ?_⟩, xv_eq rfl rfl, xv_eq rfl rfl, fun a b q => ?_, fun a b q => ?_, ?_⟩
  · rw [xv_ne (by omega), xv_ne (by omega), xv_ne (by omega), xv_eq rfl rfl]
  · rw [xv_ne (by omega), xv_ne (by omega), xv_ne (by omega), xv_eq rfl rfl]
  · rw [xv_ne (by omega), xv_ne (by omega), xv_eq rfl rfl]
  · rw [xv_ne (by omega), xv_ne (by omega), xv_eq rfl rfl]
  · exact ⟨by rw [xv_ne (by omega), xv_eq rfl rfl], xv_eq rfl rfl, xv_eq rfl rfl⟩
  · rw [xv_ne (by omega), xv_eq rfl rfl]
  · simp (disch := omega) only [xv_ne]
    have := t4 j j1 j2
    omega
  · simp (disch := omega) only [xv_ne]
  · simp (disch := omega) only [xv_ne]
  · simp (disch := omega) only [xv_ne]
    exact xv_eq rfl rfl
/-- and ends -/
theorem finishC {a : Int} (h : 0 ≤ c 2 4 ∧ c 2 4 ≤ 5) : G_X9_finish N c a = some ((if c 2 4 = 0 then a else c 2 4 - 10), xv c 2 1 0) := by
  unfold G_X9_finish
  rw [xlet_q, xv_ne (by omega)]
  by_cases c1 : c 2 4 = 0
  · rw [if_pos c1, if_pos c1]
  · rw [if_neg c1, if_neg c1, wr_in (by omega) (by omega)]
theorem endsM {a : Int} (h : 0 ≤ m 0 6 ∧ m 0 6 ≤ 5) : G_X12_ends N m a = some ((if m 0 6 = 0 then a else m 0 6 - 10), xv m 0 5 (m 0 7)) := by
  unfold G_X12_ends
  rw [xlet_q]
  by_cases c1 : m 0 6 = 0
  · rw [gfine (by rw [xv_ne (by omega)]; exact c1), yb_s, if_neg i10, if_pos c1]
  · rw [gfine0 (by rw [xv_ne (by omega)]; exact c1), yb_s, if_pos rfl, if_neg c1, xv_ne (by omega), wr_in (by omega) (by omega)]
/-- a text that was wrong: nothing of it is kept -/
theorem R.fail {c' m' : IH} (hN : 20000 ≤ N) (h : R N c m) (hF : c' 2 5 = m' 0 7) (hl : LL c' m') (hc : ∀ a b, ¬ (a = 2 ∧ 2 ≤ b ∧ b ≤ 5) → ¬ (a = 4 ∧ b = 13) → ¬ (16 ≤ a ∧ a ≤ 18) → ¬ (25 ≤ a ∧ a ≤ 30) → ¬ (40 ≤ a ∧ a ≤ 48) → ¬ (53 ≤ a ∧ a ≤ 56) → c' a b = c a b) (hm : ∀ a b, (a = 1 ∨ a = 2 ∨ a = 3 ∨ (a = 0 ∧ (b = 10 ∨ b = 26)) ∨ ((a = 13 ∨ a = 16 ∨ a = 17 ∨ a = 22 ∨ a = 11) ∧ b = 0) ∨ (115 ≤ a ∧ a < 135) ∨ (157 ≤ a ∧ a < 177) ∨ a = 197 ∨ a = 199 ∨ a = 201 ∨ (285 ≤ a ∧ a < 1245) ∨ (2207 ≤ a ∧ a < 2267)) → m' a b = m a b) (h02 : m' 0 2 = 0) : R N (xv c' 2 1 0) (xv m' 0 5 (m' 0 7)) := by
  obtain ⟨⟨t1, t2, t3, t4, t5⟩, ⟨b1, b2, b3⟩, t, s, ca, mt, sn⟩ := h
  have co : ∀ a b, ¬ (a = 2) → xv c' 2 1 0 a b = c' a b := fun a b q => xv_ne (by omega)
  have mo : ∀ a b, ¬ (a = 0 ∧ b = 5) → xv m' 0 5 (m' 0 7) a b = m' a b := fun a b q => xv_ne q
  have mm : ∀ a b, (a = 1 ∨ a = 2 ∨ a = 3 ∨ (a = 0 ∧ (b = 10 ∨ b = 26)) ∨ ((a = 13 ∨ a = 16 ∨ a = 17 ∨ a = 22 ∨ a = 11) ∧ b = 0) ∨ (115 ≤ a ∧ a < 135) ∨ (157 ≤ a ∧ a < 177) ∨ a = 197 ∨ a = 199 ∨ a = 201 ∨ (285 ≤ a ∧ a < 1245) ∨ (2207 ≤ a ∧ a < 2267)) → xv m' 0 5 (m' 0 7) a b = m a b := fun a b q => by rw [mo a b (by omega)]; exact hm a b q
  have sr : SR c (xv m' 0 5 (m' 0 7)) := t.2.2.2.1.mv (mm _ _ (by omega)) (fun a b _ _ => mm a b (by omega)) (fun a b _ _ => mm a b (by omega))
  have kr : KR c (xv m' 0 5 (m' 0 7)) := t.2.2.2.2.1.mv (fun b => mm _ b (by omega))
  have rd : RD c (xv m' 0 5 (m' 0 7)) := t.2.2.2.2.2.1.fr2 (fun _ _ _ _ => rfl) (fun a b _ => mm a b (by omega))
  have fo : FO c (xv m' 0 5 (m' 0 7)) := t.2.2.2.2.2.2.fr2 (fun _ _ _ _ => rfl) (fun a b _ => mm a b (by omega))
  have T1 : TR c (xv m' 0 5 (m' 0 7)) := TR.mk (hl.fr2 (fun a b q => (hc a b (by omega) (by omega) (by omega) (by omega) (by omega) (by omega)).symm) (fun a b q => mo a b (by omega))) sr kr rd fo
  have ee : EE m (xv m' 0 5 (m' 0 7)) := ⟨mm _ _ (by omega), mm _ _ (by omega), fun t => mm _ _ (by omega)⟩
  have ca1 := CA.mv2 hN t s ca T1 ee
  have mt1 := MT.mv2 hN t s ca mt T1 ee
  have sn1 := SN.mv2 hN t s ca sn T1 ee
  have cc : ∀ a b, ¬ (a = 2) → ¬ (a = 4 ∧ b = 13) → ¬ (16 ≤ a ∧ a ≤ 18) → ¬ (25 ≤ a ∧ a ≤ 30) → ¬ (40 ≤ a ∧ a ≤ 48) → ¬ (53 ≤ a ∧ a ≤ 56) → xv c' 2 1 0 a b = c a b := fun a b q1 q2 q3 q4 q5 q6 => by rw [co a b q1]; exact hc a b (by omega) q2 q3 q4 q5 q6
  have T2 : TR (xv c' 2 1 0) (xv m' 0 5 (m' 0 7)) := TR.mk (hl.fr2 (fun a b q => co a b (by omega)) (fun a b q => mo a b (by omega))) (sr.cv (fun a b _ _ => cc a b (by omega) (by omega) (by omega) (by omega) (by omega) (by omega))) (kr.cv (fun b => cc _ b (by omega) (by omega) (by omega) (by omega) (by omega) (by omega))) (rd.fr2 (fun a b _ _ => cc a b (by omega) (by omega) (by omega) (by omega) (by omega) (by omega)) (fun _ _ _ => rfl)) (fo.fr2 (fun a b _ _ => cc a b (by omega) (by omega) (by omega) (by omega) (by omega) (by omega)) (fun _ _ _ => rfl))
  refine ⟨⟨?_, ?_, ?_, fun j j1 j2 => ?_, ?_⟩, ⟨?_, ?_, ?_⟩, T2, s.cv (fun a b _ _ => cc a b (by omega) (by omega) (by omega) (by omega) (by omega) (by omega)), ca1.cv (fun a b _ _ => cc a b (by omega) (by omega) (by omega) (by omega) (by omega) (by omega)), mt1.cv (fun a b _ _ => cc a b (by omega) (by omega) (by omega) (by omega) (by omega) (by omega)), sn1.cv (fun a b _ => cc a b (by omega) (by omega) (by omega) (by omega) (by omega) (by omega))⟩
  · rw [xv_eq rfl rfl, mo _ _ (by omega), h02]
  · rw [mo _ _ (by omega), h02]; omega
  · rw [mo _ _ (by omega), h02]; omega
  · rw [cc _ _ (by omega) (by omega) (by omega) (by omega) (by omega) (by omega), mm _ _ (by omega)]
    exact t4 j j1 j2
  · rw [xv_ne (by omega), xv_eq rfl rfl]; exact hF
  · rw [cc _ _ (by omega) (by omega) (by omega) (by omega) (by omega) (by omega), mm _ _ (by omega)]; exact b1
  · rw [cc _ _ (by omega) (by omega) (by omega) (by omega) (by omega) (by omega), mm _ _ (by omega)]; exact b2
  · rw [mm _ _ (by omega), mm _ _ (by omega)]; exact b3
end
