section
variable {N : Nat} {m : IH}
/-- the class's sentence -/
theorem say0 {c : IH} (hN : 20000 ≤ N) (h : TR c m) (hs : SL c) (hCA : CA N c m) (hw : ∀ s, 0 ≤ s → s < m 16 0 → c 75 s = 1 ∧ WC N m c s) (z5 : c 84 5 = 0) (z6 : c 84 6 = 0) (z7 : c 84 7 = 0) : ∃ c' g hh r0, G_X7_say N c = some c' ∧ SE N m g hh r0 ∧ SX N c' m g hh r0 ∧ ∀ a b, ¬ (a = 84 ∧ (b = 5 ∨ b = 6 ∨ b = 7)) → a ≠ 85 → c' a b = c a b := by
  have h40 := h.2.2.2.2.2.1.1
  have e31 : c 31 0 = m 16 0 := by omega
  unfold G_X7_say
  rw [e31]
  by_cases c0 : m 16 0 = 0
  · rw [if_pos c0]
    refine ⟨c, fun _ _ => 0, fun _ _ => 0, 0, rfl, ⟨fun t r a b => by omega, fun q => by omega⟩, ⟨by rw [if_neg (by omega)]; exact z5, fun s q => by omega, ?_, ?_⟩, fun _ _ _ _ => rfl⟩
    · rw [c0]; exact z6
    · rw [c0]; exact z7
  · rw [if_neg c0, xlet_q, xlet_q]
    have hp := pp_rng hN h hs (t := 0) (by omega)
    have w0 := (hw 0 (by omega) (by omega)).2
    have hg : ∀ r, 0 ≤ r → r ≤ pp N m 0 → gC N m c 0 r < 1000000 := fun r a b => by
      have := (w0.2 r a b).1.2.2
      omega
    have n1 : ((if (1 : Int) ≤ pp N m 0 then 1 else if (1 : Int) ≤ 4 then pp N m 0 else pp N m 0 + 1) = 0 ∧ (0 : Int) = 0 ∧ c 86 0 = 1000000) ∨ (∃ b, FB (gC N m c 0) (if (1 : Int) ≤ pp N m 0 then 1 else if (1 : Int) ≤ 4 then pp N m 0 else pp N m 0 + 1) b ∧ 0 = ph N m 0 b) := by
      by_cases cp : (1 : Int) ≤ pp N m 0
      · right
        rw [if_pos cp]
        exact ⟨0, ⟨by omega, by omega, fun q a b => by omega, fun q a b => by rw [show q = 0 by omega]; exact Int.le_refl _⟩, by unfold ph; rw [if_pos (by omega)]⟩
      · left
        rw [if_neg cp, if_pos (by omega)]
        refine ⟨by omega, rfl, ?_⟩
        have := w0.1 0 (by omega) (by omega)
        rw [show (0 : Int) * 5 + 0 = 0 by omega] at this
        exact this
    obtain ⟨b, f1, f2⟩ := say15 (N := N) (m := m) (c := c) w0 hp hg N 0 1 n1 (by omega) (by omega) (by omega)
    have hE : SE N m (gC N m c) (hC N m c) b := ⟨fun t r a d e f => ((hw t a d).2.2 r e f).1, fun _ => f1⟩
    rw [f2]
    have co : ∀ a b', ¬ (a = 84 ∧ b' = 5) → xv c 84 5 (gC N m c 0 b) a b' = c a b' := fun a b' q => xv_ne q
    obtain ⟨c', g1, g2, g3, g4, g5⟩ := say55 (N := N) (m := m) (c0 := c) (r0 := b) hN hE (fun t r a d e f => ((hw t a (by omega)).2.2 r e f).2 d) N (xv c 84 5 (gC N m c 0 b)) 0 (ph N m 0 b) (h.pr (fun a b' q => co a b' (by omega)) TM.rf) (hs.cv (fun a b' _ _ => co a b' (by omega))) (hCA.cv (fun a b' _ _ => co a b' (by omega))) (fun s a d => by rw [co _ _ (by omega)]; exact (hw s a d).1) (fun b' => co _ _ (by omega)) (fun _ => rfl) (by rw [co _ _ (by omega)]; exact z6) (by rw [co _ _ (by omega)]; exact z7) (fun s q => by omega) (by omega) (by omega)
    refine ⟨c', gC N m c, hC N m c, b, g1, hE, ⟨?_, g4, g2, g3⟩, fun a b' q1 q2 => by rw [g5 a b' (by omega) q2, co a b' (by omega)]⟩
    rw [if_pos (by omega), g5 _ _ (by omega) (by omega), xv_eq rfl rfl]
theorem make18 (hN : 20000 ≤ N) : ∀ (f : Nat) (c : IH) (t : Int), TR c m → SL c → CA N c m → (∀ s, t < s → s < m 16 0 → c 75 s = 1 ∧ WC N m c s) → -1 ≤ t → t < m 16 0 → t + 1 < f → ∃ c' g hh r0, G_X7_make_18 N f c t = some c' ∧ SE N m g hh r0 ∧ SX N c' m g hh r0 ∧ c' 84 4 = 1 ∧ LV N c m c' := by
  intro f
  induction f with
  | zero => intro c t h hs hCA hw h1 h2 h3; omega
  | succ f ih =>
    intro c t h hs hCA hw h1 h2 h3
    have h40 := h.2.2.2.2.2.1.1
    unfold G_X7_make_18
    by_cases c1 : t < 0
    · rw [if_pos c1]
      simp only [xlet_q]
      generalize hcx : xv (xv (xv c 84 5 0) 84 6 0) 84 7 0 = cx
      have co : ∀ a b, ¬ (a = 84 ∧ (b = 5 ∨ b = 6 ∨ b = 7)) → cx a b = c a b := fun a b q => by rw [← hcx, xv_ne (by omega), xv_ne (by omega), xv_ne (by omega)]
      have hx := h.pr (c' := cx) (fun a b q => co a b (by omega)) TM.rf
      have sx := hs.cv (c' := cx) (fun a b _ _ => co a b (by omega))
      have Cx := hCA.cv (c' := cx) (fun a b _ _ => co a b (by omega))
      obtain ⟨c', g, hh, r0, g1, g2, g3, g4⟩ := say0 (N := N) (m := m) (c := cx) hN hx sx Cx (fun s a b => ⟨by rw [co _ _ (by omega)]; exact (hw s (by omega) b).1, (hw s (by omega) b).2.cv hN h hs ⟨a, b⟩ (fun x y z1 z2 => co x y (by omega))⟩) (by rw [← hcx, xv_ne (by omega), xv_ne (by omega), xv_eq rfl rfl]) (by rw [← hcx, xv_ne (by omega), xv_eq rfl rfl]) (by rw [← hcx, xv_eq rfl rfl])
      rw [g1, ybv_s]
      have c2 : ∀ a b, ¬ (a = 84 ∧ b = 4) → xv c' 84 4 1 a b = c' a b := fun a b q => xv_ne q
      have c3 : ∀ a b, ¬ (a = 84 ∧ (b = 4 ∨ b = 5 ∨ b = 6 ∨ b = 7)) → a ≠ 85 → xv c' 84 4 1 a b = c a b := fun a b q1 q2 => by rw [c2 a b (by omega), g4 a b (by omega) q2, co a b (by omega)]
      refine ⟨_, g, hh, r0, rfl, g2, ⟨?_, fun s q => ?_, ?_, ?_⟩, xv_eq rfl rfl, h.pr (fun a b q => c3 a b (by omega) (by omega)) TM.rf, hs.cv (fun a b _ _ => c3 a b (by omega) (by omega)), hCA.cv (fun a b _ _ => c3 a b (by omega) (by omega)), fun a b q => c3 a b (by omega) (by omega), fun a b q1 q2 => c3 a b (by omega) (by omega), c3 _ _ (by omega) (by omega), c3 _ _ (by omega) (by omega)⟩
      · rw [c2 _ _ (by omega)]; exact g3.1
      · rw [c2 _ _ (by omega)]; exact g3.2.1 s q
      · rw [c2 _ _ (by omega)]; exact g3.2.2.1
      · rw [c2 _ _ (by omega)]; exact g3.2.2.2
    · rw [if_neg c1]
      obtain ⟨c2, m2, a1, _, _, a4, b1, b2, b3, b4, b5, b6, b7, b8⟩ := aloneS hN h hs hCA (t := t) (by omega)
      rw [a1, ybv_s, xlet_q]
      have hw2 : ∀ s, t < s → s < m 16 0 → c2 75 s = 1 ∧ WC N m c2 s := fun s x y => ⟨b8 s (hw s x y).1, (hw s x y).2.cv hN h hs ⟨by omega, y⟩ (fun p q z1 z2 => b5 p q (by omega))⟩
      have hp := pp_rng hN h hs (t := t) (by omega)
      obtain ⟨c3, d1, d2, d3⟩ := make32 (N := N) (m := m) (k18 := G_X7_make_18 N f) (t := t) hN (by omega) N c2 0 b1 b2 b3 a4 (fun q => hw2 (t + 1) (by omega) q) (fun k' x y => by omega) (by omega) (by omega) (by omega)
      rw [d1]
      have c3o : ∀ a b, ¬ (a = 86 ∨ a = 87) → c3 a b = c2 a b := fun a b q => d3 a b (by omega)
      obtain ⟨c', g, hh, r0, g1, g2, g3, g4, l1, l2, l3, l4, l5, l6, l7⟩ := ih c3 (t - 1) (b1.pr (fun a b q => c3o a b (by omega)) TM.rf) (b2.cv (fun a b _ _ => c3o a b (by omega))) (b3.cv (fun a b _ _ => c3o a b (by omega))) (fun s x y => by
        by_cases cs : s = t
        · rw [cs]; exact ⟨by rw [c3o _ _ (by omega)]; exact a4, d2⟩
        · have := hw2 s (by omega) y
          exact ⟨by rw [c3o _ _ (by omega)]; exact this.1, this.2.cv hN h hs ⟨by omega, y⟩ (fun p q z1 z2 => d3 p q (by omega))⟩) (by omega) (by omega) (by omega)
      exact ⟨c', g, hh, r0, g1, g2, g3, g4, l1, l2, l3, fun a b q => by rw [l4 a b q, c3o a b (by omega), b4 a b q], fun a b q1 q2 => by rw [l5 a b q1 q2, c3o a b (by omega), b5 a b q1], by rw [l6, c3o _ _ (by omega), b6], by rw [l7, c3o _ _ (by omega), b7]⟩
theorem LV.rf {c : IH} (h : TR c m) (hs : SL c) (hCA : CA N c m) : LV N c m c := ⟨h, hs, hCA, TC.rf, fun _ _ _ _ => rfl, rfl, rfl⟩
theorem sentC {c : IH} (hN : 20000 ≤ N) (h : TR c m) (hs : SL c) (hCA : CA N c m) (hS : SN N c m) : ∃ c' g hh r0, G_X7_make N c = some c' ∧ SE N m g hh r0 ∧ SX N c' m g hh r0 ∧ c' 84 4 = 1 ∧ LV N c m c' := by
  have h40 := h.2.2.2.2.2.1.1
  have e31 : c 31 0 = m 16 0 := by omega
  unfold G_X7_make
  rcases hS with z | ⟨z, g, hh, r0, x1, x2⟩
  · rw [if_pos z, e31, xlet_q, wr_in (by omega) (by omega)]
    exact make18 hN N c (m 16 0 - 1) h hs hCA (fun s a b => by omega) (by omega) (by omega) (by omega)
  · rw [if_neg (by omega)]
    exact ⟨c, g, hh, r0, rfl, x1, x2, z, LV.rf h hs hCA⟩
theorem SX.uq {c c' : IH} {g h g' h' : Int → Int → Int} {r0 r0' : Int} (a : SE N m g h r0) (a' : SE N m g' h' r0') (x : SX N c m g h r0) (x' : SX N c' m g' h' r0') : c 84 5 = c' 84 5 ∧ (∀ s : Nat, (s : Int) < m 16 0 → c 85 s = c' 85 s) ∧ c 84 6 = c' 84 6 ∧ c 84 7 = c' 84 7 := by
  obtain ⟨u1, u2⟩ := a.uq a'
  obtain ⟨x1, x2, x3, x4⟩ := x
  obtain ⟨y1, y2, y3, y4⟩ := x'
  refine ⟨?_, fun s q => by rw [x2 s q, y2 s q, u2 s q], ?_, ?_⟩
  · rw [x1, y1]
    by_cases c0 : 0 < m 16 0
    · rw [if_pos c0, if_pos c0, u1 c0]
    · rw [if_neg c0, if_neg c0]
  · rw [x3, y3]; exact cq_cg _ (fun k q => by unfold w1; rw [u2 k (by omega)])
  · rw [x4, y4]; exact cq_cg _ (fun k q => by unfold w2; rw [u2 k (by omega)])
theorem SN.cv {c c' : IH} (h : SN N c m) (hf : ∀ a b, a = 84 ∨ a = 85 → c' a b = c a b) : SN N c' m := by
  have e84 : ∀ b, c' 84 b = c 84 b := fun b => hf _ _ (by omega)
  have e85 : ∀ b, c' 85 b = c 85 b := fun b => hf _ _ (by omega)
  unfold SN SX at *
  simp only [e84, e85]
  exact h
theorem SN.mv {c m' : IH} (hN : 20000 ≤ N) (h : TR c m) (hs : SL c) (hCA : CA N c m) (hS : SN N c m) (hm : TM m m') : SN N c m' := by
  rcases hS with z | ⟨z, g, hh, r0, x1, x2⟩
  · exact Or.inl z
  · right
    refine ⟨z, ?_⟩
    have e16 : m' 16 0 = m 16 0 := hm _ _ (by omega) (by omega) (by omega)
    have co : ∀ a b, ¬ (a = 84 ∧ b = 4) → xv c 84 4 0 a b = c a b := fun a b z => xv_ne z
    have h1 := h.pr (c' := xv c 84 4 0) (fun a b z => co a b (by omega)) TM.rf
    have s1 := hs.cv (c' := xv c 84 4 0) (fun a b q1 q2 => co a b (by omega))
    have C1 := hCA.cv (c' := xv c 84 4 0) (fun a b q1 q2 => co a b (by omega))
    obtain ⟨c2, g2, hh2, r2, a1, a2, a3, _⟩ := sentC hN h1 s1 C1 (Or.inl (xv_eq rfl rfl))
    obtain ⟨c2', g3, hh3, r3, b1, b2, b3, _⟩ := sentC hN (h1.pr TC.rf hm) s1 (CA.mv hN h1 s1 C1 hm) (Or.inl (xv_eq rfl rfl))
    have e1 : c2' = c2 := Option.some.inj (b1.symm.trans a1)
    subst e1
    obtain ⟨u1, u2, u3, u4⟩ := SX.uq x1 a2 x2 a3
    refine ⟨g3, hh3, r3, b2, ?_⟩
    obtain ⟨y1, y2, y3, y4⟩ := b3
    exact ⟨by rw [u1]; exact y1, fun s q => by rw [u2 s (by omega)]; exact y2 s q, by rw [u3]; exact y3, by rw [u4]; exact y4⟩
/-- the reference's sentence -/
theorem sentM {c m' : IH} {g hh : Int → Int → Int} {r0 : Int} (hN : 20000 ≤ N) (h : TR c m) (hs : SL c) (hm : TM m m') (hE : SE N m g hh r0) : ∃ m'', G_X12_says N m' = some m'' ∧ TM m m'' ∧ m'' 0 62 = (if 0 < m 16 0 then g 0 r0 else 0) ∧ ∀ s : Nat, (s : Int) < m 16 0 → m'' 43 s = cwd N m s (sr hh r0 s) := by
  have h40 := h.2.2.2.2.2.1.1
  have e16 : m' 16 0 = m 16 0 := hm _ _ (by omega) (by omega) (by omega)
  unfold G_X12_says
  rw [e16, xlet_q, xlet_q]
  obtain ⟨m1, a1, a2, a3⟩ := says9 (N := N) hN h hs N m' 0 hm (fun s a b => by omega) (by omega) (by omega) (by omega)
  obtain ⟨m2, b1, b2, b3, b4⟩ := says29 (N := N) hN h hs N m1 (m 16 0 - 1) a2 a3 (fun s q a b => by omega) (by omega) (by omega) (by omega)
  rw [a1, b1]
  by_cases c0 : m 16 0 ≤ 0
  · have e0 : m 16 0 = 0 := by omega
    obtain ⟨N', hN'⟩ : ∃ N', N = N' + 1 := ⟨N - 1, by omega⟩
    have : ∀ K : Nat, 0 < K → ∀ f : Nat, G_X12_says_186 K (f + 1) m2 (m 16 0) 0 1 = some (xv m2 0 62 0) := by
      intro K hK f
      unfold G_X12_says_186 G_X12_says_227 G_X12_says_244
      obtain ⟨K', hK'⟩ : ∃ K', K = K' + 1 := ⟨K - 1, by omega⟩
      have t : ∀ L : Nat, G_X12_says_249 L (K' + 1) (xv m2 0 62 0) (m 16 0) 0 0 = some (xv m2 0 62 0) := by
        intro L
        unfold G_X12_says_249
        rw [if_pos (by omega)]
      have t := t K
      rw [← hK'] at t
      rw [if_pos c0, if_pos e0, xlet_q, xlet_q, t]
    have t := this N (by omega) N'
    rw [← hN'] at t
    rw [t]
    exact ⟨_, rfl, fun a b z1 z2 z3 => by rw [xv_ne (by omega)]; exact b2 a b z1 z2 z3, by rw [xv_eq rfl rfl, if_neg (by omega)], fun s q => by omega⟩
  · have hp := pp_rng hN h hs (t := 0) (by omega)
    obtain ⟨b', d1, d2⟩ := says186 (N := N) (m := m) (m' := m2) (by omega) (b3 0 (by omega) (by omega)).1 hp N 1 0 ⟨by omega, by omega, fun q x y => by omega, fun q x y => by rw [show q = 0 by omega]; exact Int.le_refl _⟩ (by omega) (by omega) (by omega)
    rw [d2]
    have d1a := d1.1
    have d1b := d1.2.1
    have hE' : SE N m (gM m2) (hM m2) b' := ⟨b4, fun _ => d1⟩
    obtain ⟨u1, u2⟩ := hE.uq hE'
    unfold G_X12_says_227 G_X12_says_244
    rw [if_neg (by omega)]
    simp (disch := omega) only [xlet_q, xq_in]
    have mo : ∀ a b, ¬ (a = 0 ∧ b = 62) → xv m2 0 62 (m2 (5432 + 0) b') a b = m2 a b := fun a b q => xv_ne q
    obtain ⟨m3, e1, e2, e3, e4⟩ := says249 (N := N) (c := c) (m := m) (hh := hM m2) (r0 := b') hN h hs hE'.rng N (xv m2 0 62 (m2 (5432 + 0) b')) 0 (fun a b z1 z2 z3 => by rw [mo a b (by omega)]; exact b2 a b z1 z2 z3) (fun s s1 s2 => ⟨by rw [mo _ _ (by omega)]; exact (b3 s s1 s2).1, fun q q1 q2 => by rw [mo _ _ (by omega), mo _ _ (by omega)]; exact (b3 s s1 s2).2 q q1 q2⟩) (fun s q a b d e => by unfold hM; rw [mo _ _ (by omega)]) (fun s q => by omega) (by omega) (by omega)
    refine ⟨m3, e1, e2, ?_, fun s q => by rw [e3 s q, u2 s q]⟩
    rw [e4, xv_eq rfl rfl, if_pos (by omega), u1 (by omega)]
    rfl
end
