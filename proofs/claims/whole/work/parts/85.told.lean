/-- the class's cells but those of nets, searches, answers and texts -/
def TC (c c' : IH) : Prop := ∀ a b, 0 < a ∧ a < 57 → c' a b = c a b
/-- the reference's cells but those of nets, searches and texts -/
def TM (m m' : IH) : Prop := ∀ a b, ¬ ((a = 0 ∧ (b = 0 ∨ 33 ≤ b)) ∨ a = 1) → ¬ (24 ≤ a ∧ a ≤ 51) → a < 2327 → m' a b = m a b
theorem TC.rf {c : IH} : TC c c := fun _ _ _ => rfl
theorem TC.tr {c c1 c2 : IH} (h : TC c c1) (h1 : TC c1 c2) : TC c c2 := fun a b q => by rw [h1 a b q, h a b q]
theorem TM.rf {m : IH} : TM m m := fun _ _ _ _ _ => rfl
theorem TM.tr {m m1 m2 : IH} (h : TM m m1) (h1 : TM m1 m2) : TM m m2 := fun a b q1 q2 q3 => by rw [h1 a b q1 q2 q3, h a b q1 q2 q3]
theorem TM.sy {m m1 : IH} (h : TM m m1) : TM m1 m := fun a b q1 q2 q3 => (h a b q1 q2 q3).symm
theorem DM.tm {m m' : IH} (h : DM m m') : TM m m' := fun a b q1 q2 q3 => h a b (by omega) (by omega)
/-- how many of the first words go through a node -/
noncomputable def thr (m : IH) (P : Int → Int → Int) (x : Int) : Nat → Int
  | 0 => 0
  | w + 1 => thr m P x w + @ite _ (∃ k, 0 ≤ k ∧ k ≤ m 5 w ∧ P w k = x) (Classical.propDecidable _) 1 0
/-- the tree has grown by its words -/
def LG (m : IH) (P : Int → Int → Int) : Prop := (m 0 15 ≤ 1 + 12 * m 0 10 ∧ m 8 0 = -1 ∧ m 9 0 = 0) ∧ (∀ x, 1 ≤ x → x < m 0 15 → ∃ w k, 0 ≤ w ∧ w < m 0 10 ∧ 0 ≤ k ∧ k ≤ m 5 w ∧ P w k = x) ∧ ∀ x, 0 ≤ x → x < m 0 15 → m 12 x = thr m P x (m 0 10).toNat
/-- what follows what -/
def FO (c m : IH) : Prop := c 49 1 = m 22 0 ∧ 0 ≤ m 22 0 ∧ m 22 0 ≤ 60 ∧ ∀ k, 0 ≤ k → k < m 22 0 → c 50 k = m (2207 + k) 0 ∧ c 51 k = m (2207 + k) 1 ∧ c 52 k = m (2207 + k) 2 ∧ 0 ≤ m (2207 + k) 2 ∧ m (2207 + k) 2 ≤ 99
/-- all that was told, on both sides -/
def TR (c m : IH) : Prop := LXM m ∧ LXC c m ∧ (∃ P, PATH m P ∧ LG m P) ∧ SR c m ∧ KR c m ∧ RD c m ∧ FO c m
theorem thr_mv {m m' : IH} {P : Int → Int → Int} {x : Int} (h : ∀ b, m' 5 b = m 5 b) : ∀ w : Nat, thr m' P x w = thr m P x w := by
  intro w
  induction w with
  | zero => rfl
  | succ w ih =>
    simp only [thr]
    rw [ih, h]
theorem CL.mv {c c' m m' : IH} {j x : Int} (h : CL c m j x) (hc : ∀ a b, 36 ≤ a → a ≤ 39 → c' a b = c a b) (hm : ∀ b, m' x b = m x b) : CL c' m' j x := by
  unfold CL at *
  simp only [hm]
  rw [hc 36 j (by omega) (by omega), hc 37 j (by omega) (by omega)]
  obtain ⟨h1, h2, h3, h4, h5, h6, h7⟩ := h
  refine ⟨h1, h2, h3, h4, h5, h6, fun q q1 q2 => ?_⟩
  rw [hc 38 _ (by omega) (by omega), hc 39 _ (by omega) (by omega)]
  exact h7 q q1 q2
theorem RD.pr {c c' m m' : IH} (h : RD c m) (hc : TC c c') (hm : TM m m') : RD c' m' := by
  obtain ⟨h1, h2, h3⟩ := h
  have m16 : m' 16 0 = m 16 0 := hm _ _ (by omega) (by omega) (by omega)
  unfold RD
  rw [m16, hm 0 26 (by omega) (by omega) (by omega), hm 17 0 (by omega) (by omega) (by omega), hc 31 0 (by omega), hc 31 1 (by omega)]
  refine ⟨h1, h2, fun t t1 t2 => ?_⟩
  obtain ⟨a1, a2, a3, a4, a5⟩ := h3 t t1 t2
  unfold TK
  rw [m16, hc 32 t (by omega), hc 32 (t + 1) (by omega), hc 33 t (by omega), hc 34 t (by omega), hc 35 t (by omega), hm 197 t (by omega) (by omega) (by omega), hm 199 t (by omega) (by omega) (by omega), hm 201 t (by omega) (by omega) (by omega)]
  exact ⟨a1, a2, a3, a4, fun k k1 k2 => (a5 k k1 k2).mv (fun a b q1 q2 => hc a b (by omega)) (fun b => hm _ _ (by omega) (by omega) (by omega))⟩
theorem FO.pr {c c' m m' : IH} (h : FO c m) (hc : TC c c') (hm : TM m m') : FO c' m' := by
  obtain ⟨h1, h2, h3, h4⟩ := h
  unfold FO
  rw [hm 22 0 (by omega) (by omega) (by omega), hc 49 1 (by omega)]
  refine ⟨h1, h2, h3, fun k k1 k2 => ?_⟩
  rw [hc 50 k (by omega), hc 51 k (by omega), hc 52 k (by omega), hm _ 0 (by omega) (by omega) (by omega), hm _ 1 (by omega) (by omega) (by omega), hm _ 2 (by omega) (by omega) (by omega)]
  exact h4 k k1 k2
theorem PATH.mv {m m' : IH} {P : Int → Int → Int} (h : PATH m P) (h10 : m' 0 10 = m 0 10) (h15 : m' 0 15 = m 0 15) (hf : ∀ a b, 5 ≤ a → a ≤ 12 → m' a b = m a b) (hs : ∀ a b, 52 ≤ a → a < 52 + m 0 10 → m' a b = m a b) : PATH m' P := by
  intro w w1 w2
  rw [h10] at w2
  obtain ⟨a1, a2, a3⟩ := h w w1 w2
  rw [hf 5 _ (by omega) (by omega), hf 7 _ (by omega) (by omega), h15]
  refine ⟨a1, a2, fun k k1 k2 => ?_⟩
  rw [hf 8 _ (by omega) (by omega), hf 9 _ (by omega) (by omega), hs _ _ (by omega) (by omega)]
  exact a3 k k1 k2
theorem TR.pr {c c' m m' : IH} (h : TR c m) (hc : TC c c') (hm : TM m m') : TR c' m' := by
  obtain ⟨h1, h2, ⟨P, h3, h4⟩, h5, h6, h7, h8⟩ := h
  have m10 : m' 0 10 = m 0 10 := hm _ _ (by omega) (by omega) (by omega)
  have m15 : m' 0 15 = m 0 15 := hm _ _ (by omega) (by omega) (by omega)
  have mf : ∀ a b, 5 ≤ a → a ≤ 12 → m' a b = m a b := fun a b q1 q2 => hm _ _ (by omega) (by omega) (by omega)
  have hW := h1.2.1
  have ms : ∀ a b, 52 ≤ a → a < 52 + m 0 10 → m' a b = m a b := fun a b q1 q2 => hm _ _ (by omega) (by omega) (by omega)
  refine ⟨h1.mv m10 m15 mf, (h2.cv (fun a b q1 q2 => hc a b (by omega))).mv m10 m15 mf ms, ⟨P, h3.mv m10 m15 mf ms, ?_⟩, (h5.cv (fun a b q1 q2 => hc a b (by omega))).mv (hm _ _ (by omega) (by omega) (by omega)) (fun a b q1 q2 => hm _ _ (by omega) (by omega) (by omega)) (fun a b q1 q2 => hm _ _ (by omega) (by omega) (by omega)), (h6.cv (fun b => hc _ _ (by omega))).mv (fun b => hm _ _ (by omega) (by omega) (by omega)), h7.pr hc hm, h8.pr hc hm⟩
  unfold LG at *
  have m5 : ∀ b, m' 5 b = m 5 b := fun b => mf _ _ (by omega) (by omega)
  simp only [m10, m15, mf 8 _ (by omega) (by omega), mf 9 _ (by omega) (by omega), m5, mf 12 _ (by omega) (by omega), thr_mv m5]
  exact h4
theorem SL.cv {c c' : IH} (h : SL c) (hf : ∀ a b, 67 ≤ a → a ≤ 73 → c' a b = c a b) : SL c' := by
  have e10 : c' 67 10 = c 67 10 := hf _ _ (by omega) (by omega)
  have c73 : ∀ b, c' 73 b = c 73 b := fun b => hf _ _ (by omega) (by omega)
  have c72 : ∀ b, c' 72 b = c 72 b := fun b => hf _ _ (by omega) (by omega)
  unfold SL at *
  simp only [e10, c73, c72]
  exact h
/-- a search of a laid net ended so -/
def RN (N : Nat) (c m1 : IH) (L most : Int) (c2 m2 : IH) : Prop := G_X12_searches N m1 most = some m2 ∧ ST c2 m2 L ∧ RES c2 m2 ∧ FIN c2 m2 L most ∧ DM m1 m2
section
variable {N : Nat} {c m : IH}
/-- a token looked for, on both sides -/
theorem lookT {t most : Int} (hN : 20000 ≤ N) (hm : 1 ≤ most ∧ most ≤ 60) (h : TR c m) (hs : SL c) (ht : 0 ≤ t ∧ t < m 16 0) : ∃ c1 c2 m1 m2, G_X4_ofCells N c (c 32 t) (m 197 t) = some c1 ∧ G_X6_run N c1 most = some c2 ∧ G_X12_laysToken N m t 0 = some m1 ∧ RN N c m1 (m 197 t) most c2 m2 ∧ NetR c1 m1 (m 197 t) ∧ SL c2 ∧ TR c1 m1 ∧ TR c2 m2 ∧ TC c c2 ∧ TM m m1 ∧ TM m m2 ∧ (∀ a b, 73 < a → c2 a b = c a b) ∧ c2 0 14 = c 0 14 ∧ c2 0 15 = c 0 15 := by
  obtain ⟨h1, h2, h3, h5, h6, h7, h8⟩ := id h
  obtain ⟨c1, m1, e1, e2, e3, e4, e5⟩ := netOne hN h5 h6 h7 ht
  have tc1 : TC c c1 := fun a b q => e4 a b (by omega)
  have tm1 : TM m m1 := fun a b q1 q2 q3 => e5 a b (by omega) (by omega) (by omega) (by omega) (by omega)
  have tr1 := h.pr tc1 tm1
  obtain ⟨c2, m2, g1, g2, g3, g4, g5, g6, g7, g8⟩ := runS (most := most) hN hm ⟨e3, tr1.1, tr1.2.1⟩ (hs.cv (fun a b q1 q2 => e4 a b (by omega)))
  have tc2 : TC c1 c2 := fun a b q => g8 a b (by omega)
  exact ⟨c1, c2, m1, m2, e1, g1, e2, ⟨g2, g3, g5, g6, g7⟩, e3, g4, tr1, tr1.pr tc2 g7.tm, tc1.tr tc2, tm1, tm1.tr g7.tm, fun a b q => by rw [g8 a b (by omega), e4 a b (by omega)], by rw [g8 _ _ (by omega), e4 _ _ (by omega)], by rw [g8 _ _ (by omega), e4 _ _ (by omega)]⟩
/-- two tokens looked for as one -/
theorem lookJ {t most : Int} (hN : 20000 ≤ N) (hm : 1 ≤ most ∧ most ≤ 60) (h : TR c m) (hs : SL c) (ht : 0 ≤ t ∧ t + 1 < m 16 0) (h24 : m 197 t + m 197 (t + 1) ≤ 24) : ∃ c1 c2 m1 m2, G_X4_ofCells N c (c 32 t) (m 197 t + m 197 (t + 1)) = some c1 ∧ G_X6_run N c1 most = some c2 ∧ G_X12_laysToken N m t 1 = some m1 ∧ RN N c m1 (m 197 t + m 197 (t + 1)) most c2 m2 ∧ NetR c1 m1 (m 197 t + m 197 (t + 1)) ∧ SL c2 ∧ TR c1 m1 ∧ TR c2 m2 ∧ TC c c2 ∧ TM m m1 ∧ TM m m2 ∧ (∀ a b, 73 < a → c2 a b = c a b) ∧ c2 0 14 = c 0 14 ∧ c2 0 15 = c 0 15 := by
  obtain ⟨h1, h2, h3, h5, h6, h7, h8⟩ := id h
  obtain ⟨c1, m1, e1, e2, e3, e4, e5⟩ := netTwo hN h5 h6 h7 ht h24
  have tc1 : TC c c1 := fun a b q => e4 a b (by omega)
  have tm1 : TM m m1 := fun a b q1 q2 q3 => e5 a b (by omega) (by omega) (by omega) (by omega) (by omega)
  have tr1 := h.pr tc1 tm1
  obtain ⟨c2, m2, g1, g2, g3, g4, g5, g6, g7, g8⟩ := runS (most := most) hN hm ⟨e3, tr1.1, tr1.2.1⟩ (hs.cv (fun a b q1 q2 => e4 a b (by omega)))
  have tc2 : TC c1 c2 := fun a b q => g8 a b (by omega)
  exact ⟨c1, c2, m1, m2, e1, g1, e2, ⟨g2, g3, g5, g6, g7⟩, e3, g4, tr1, tr1.pr tc2 g7.tm, tc1.tr tc2, tm1, tm1.tr g7.tm, fun a b q => by rw [g8 a b (by omega), e4 a b (by omega)], by rw [g8 _ _ (by omega), e4 _ _ (by omega)], by rw [g8 _ _ (by omega), e4 _ _ (by omega)]⟩
/-- a word looked for, read surely -/
theorem lookW {w most : Int} (hN : 20000 ≤ N) (hm : 1 ≤ most ∧ most ≤ 60) (h : TR c m) (hs : SL c) (hw : 0 ≤ w ∧ w < m 0 10) : ∃ c1 c2 m1 m2, G_X4_ofWord N c w = some c1 ∧ G_X6_run N c1 most = some c2 ∧ G_X12_laysWord N m w = some m1 ∧ RN N c m1 (m 5 w) most c2 m2 ∧ NetR c1 m1 (m 5 w) ∧ SL c2 ∧ TR c1 m1 ∧ TR c2 m2 ∧ TC c c2 ∧ TM m m1 ∧ TM m m2 ∧ (∀ a b, 73 < a → c2 a b = c a b) ∧ c2 0 14 = c 0 14 ∧ c2 0 15 = c 0 15 := by
  obtain ⟨h1, h2, h3, h5, h6, h7, h8⟩ := id h
  have l1 := h1.2.2.1 w hw.1 hw.2
  have l2 := h2.2.2.1 w hw.1 hw.2
  have l3 := h1.2.1
  obtain ⟨c1, m1, e1, e2, e3, e4, e5⟩ := netSure (w := w) hN h5 h6 (by omega) l2.1 l1.1 l2.2.2.2
  have tc1 : TC c c1 := fun a b q => e4 a b (by omega)
  have tm1 : TM m m1 := fun a b q1 q2 q3 => e5 a b (by omega) (by omega) (by omega) (by omega) (by omega)
  have tr1 := h.pr tc1 tm1
  obtain ⟨c2, m2, g1, g2, g3, g4, g5, g6, g7, g8⟩ := runS (most := most) hN hm ⟨e3, tr1.1, tr1.2.1⟩ (hs.cv (fun a b q1 q2 => e4 a b (by omega)))
  have tc2 : TC c1 c2 := fun a b q => g8 a b (by omega)
  exact ⟨c1, c2, m1, m2, e1, g1, e2, ⟨g2, g3, g5, g6, g7⟩, e3, g4, tr1, tr1.pr tc2 g7.tm, tc1.tr tc2, tm1, tm1.tr g7.tm, fun a b q => by rw [g8 a b (by omega), e4 a b (by omega)], by rw [g8 _ _ (by omega), e4 _ _ (by omega)], by rw [g8 _ _ (by omega), e4 _ _ (by omega)]⟩
end
