section
variable {N : Nat} {m : IH}
theorem ph_rng {t r : Int} (hp : 0 ≤ pp N m t ∧ pp N m t ≤ 4) (hr : 0 ≤ r) : 0 ≤ ph N m t r ∧ ph N m t r ≤ 4 := by
  unfold ph
  by_cases c1 : r < pp N m t
  · rw [if_pos c1]; omega
  · rw [if_neg c1]; omega
theorem ph_inj {t r r' : Int} (hp : 0 ≤ pp N m t ∧ pp N m t ≤ 4) (hr : 0 ≤ r ∧ r ≤ pp N m t) (hr' : 0 ≤ r' ∧ r' ≤ pp N m t) (h : ph N m t r = ph N m t r') : r = r' := by
  unfold ph at h
  by_cases c1 : r < pp N m t
  · rw [if_pos c1] at h
    by_cases c2 : r' < pp N m t
    · rw [if_pos c2] at h; exact h
    · rw [if_neg c2] at h; omega
  · rw [if_neg c1] at h
    by_cases c2 : r' < pp N m t
    · rw [if_pos c2] at h; omega
    · omega
/-- one choice of a token is weighed -/
def WO (N : Nat) (m c : IH) (t r : Int) : Prop := SD N m (m 16 0) (gC N m c) (hC N m c) t r ∧ (t + 1 < m 16 0 → c 87 (t * 5 + ph N m t r) = ph N m (t + 1) (hC N m c t r))
theorem WO.cv {c c0 c' : IH} {t r : Int} (hN : 20000 ≤ N) (h : TR c0 m) (hs : SL c0) (ht : 0 ≤ t ∧ t < m 16 0) (hr : 0 ≤ r ∧ r ≤ pp N m t) (hw : WO N m c t r) (hf : ∀ a b, (a = 86 ∨ a = 87) → (b = t * 5 + ph N m t r ∨ (t + 1) * 5 ≤ b) → c' a b = c a b) : WO N m c' t r := by
  obtain ⟨s1, s2⟩ := hw
  have g1 : gC N m c' t r = gC N m c t r := hf _ _ (Or.inl rfl) (Or.inl rfl)
  have e87 : c' 87 (t * 5 + ph N m t r) = c 87 (t * 5 + ph N m t r) := hf _ _ (Or.inr rfl) (Or.inl rfl)
  have h1 : hC N m c' t r = hC N m c t r := by unfold hC; rw [e87]
  unfold WO SD at *
  rw [g1, h1, e87]
  refine ⟨⟨s1.1, fun z => ?_, s1.2.2⟩, s2⟩
  have f1 := (s1.2.1 z).1
  have hp := pp_rng hN h hs (t := t + 1) (by omega)
  have vS : ∀ p, 0 ≤ p → VV N m (gC N m c') t r p = VV N m (gC N m c) t r p := fun p y1 => by
    have := ph_rng hp y1
    unfold VV gC
    rw [hf 86 ((t + 1) * 5 + ph N m (t + 1) p) (Or.inl rfl) (Or.inr (by omega))]
  exact ⟨f1.cg (fun p y1 y2 => vS p y1), by rw [vS _ f1.1]; exact (s1.2.1 z).2⟩
theorem weighS {c : IH} {t k : Int} (hN : 20000 ≤ N) (h : TR c m) (hs : SL c) (hCA : CA N c m) (ht : 0 ≤ t ∧ t < m 16 0) (h1 : c 75 t = 1) (hk : 0 ≤ k ∧ k < 5) (h2 : t + 1 < m 16 0 → c 75 (t + 1) = 1 ∧ WC N m c (t + 1)) : ∃ c', G_X7_weighChoice N c t k = some c' ∧ (∀ a b, ¬ ((a = 86 ∨ a = 87) ∧ b = t * 5 + k) → c' a b = c a b) ∧ (pp N m t ≤ k → k < 4 → c' 86 (t * 5 + k) = 1000000) ∧ ∀ r, 0 ≤ r → r ≤ pp N m t → k = ph N m t r → WO N m c' t r := by
  have h40 := h.2.2.2.2.2.1.1
  have hp := pp_rng hN h hs ht
  have rb := AT.rb hN h hs ht
  have ps := pn_spec (o := op m (m 197 t)) rb
  have epp : pp N m t = pn (AT N m t) (op m (m 197 t)) := rfl
  unfold G_X7_weighChoice
  rw [wr_in (show -2147483648 ≤ t * 5 + k by omega) (by omega), xlet_q, wocS hN h hs hCA ht h1 hk, yb_s]
  simp (disch := omega) only [xlet_q, xq_in]
  generalize hc0 : xv (xv c 86 (t * 5 + k) 1000000) 87 (t * 5 + k) 0 = c0
  have co : ∀ a b, ¬ ((a = 86 ∨ a = 87) ∧ b = t * 5 + k) → c0 a b = c a b := fun a b q => by rw [← hc0, xv_ne (by omega), xv_ne (by omega)]
  have c86 : c0 86 (t * 5 + k) = 1000000 := by rw [← hc0, xv_ne (by omega), xv_eq rfl rfl]
  have c87 : c0 87 (t * 5 + k) = 0 := by rw [← hc0, xv_eq rfl rfl]
  have h0 : TR c0 m := h.pr (fun a b q => co a b (by omega)) TM.rf
  have s0 : SL c0 := hs.cv (fun a b q1 q2 => co a b (by omega))
  have C0 : CA N c0 m := hCA.cv (fun a b q1 q2 => co a b (by omega))
  have r0 := rowAT hN h0 s0 C0 ht (by rw [co _ _ (by omega)]; exact h1)
  -- the price of a choice that there is, then its followers
  have go : ∀ r, 0 ≤ r → r ≤ pp N m t → k = ph N m t r → ∃ c', G_X7_weighChoice_67 N c0 t (t * 5 + k) (cwd N m t r) (cat N m t r) = some c' ∧ (∀ a b, ¬ ((a = 86 ∨ a = 87) ∧ b = t * 5 + k) → c' a b = c a b) ∧ WO N m c' t r := by
    intro r r1 r2 r3
    have cr := cat_rng hN h hs ht r1
    have e31 : c0 31 0 = m 16 0 := by have := h0.2.2.2.2.2.1.1; omega
    unfold G_X7_weighChoice_67
    rw [wr_in (show -2147483648 ≤ t + 1 by omega) (by omega), e31]
    simp (disch := omega) only [xlet_q, xq_in]
    by_cases ct : t + 1 < m 16 0
    · rw [if_pos ct]
      obtain ⟨q1, q2⟩ := h2 ct
      have hp1 := pp_rng hN h hs (t := t + 1) (by omega)
      have eV : ∀ q, 0 ≤ q → VV N m (gC N m c0) t r q = VV N m (gC N m c) t r q := fun q y => by
        have := ph_rng hp1 y
        unfold VV gC
        rw [co _ _ (by omega)]
      have wc0 : WC N m c0 (t + 1) := ⟨fun k' a b => by rw [co _ _ (by omega)]; exact q2.1 k' a b, fun r' a b => WO.cv hN h hs ⟨by omega, ct⟩ ⟨a, b⟩ (q2.2 r' a b) (fun x y z1 z2 => co _ _ (by have := ph_rng hp1 a; omega))⟩
      obtain ⟨c', g1, g2, g3⟩ := weigh94 (N := N) (m := m) (t := t) (one := t * 5 + k) (x := cat N m t r) (wd := cwd N m t r) (V := VV N m (gC N m c0) t r) hN ⟨ht.1, ct⟩ (by omega) cr N c0 0 h0 s0 C0 (by rw [co _ _ (by omega)]; exact q1) wc0 (fun q a b => rfl) (by omega) (by omega) (Or.inl ⟨by rw [if_pos hp1.1], c86, c87⟩) (by omega)
      refine ⟨c', g1, fun a b q => by rw [g3 a b q, co a b q], ?_⟩
      rcases g2 with ⟨z, _⟩ | ⟨b, z1, z2, z3⟩
      · omega
      · have zb := z1.2.1
        have z0 := z1.1
        have eg : gC N m c' t r = cat N m t r + VV N m (gC N m c0) t r b := by unfold gC; rw [← r3]; exact z2
        have eh : hC N m c' t r = b := by
          unfold hC
          rw [← r3, z3]
          unfold ph
          by_cases c2 : b < pp N m (t + 1)
          · rw [if_pos c2, if_neg (by omega)]
          · rw [if_neg c2, if_pos rfl]; omega
        have vS : ∀ p, 0 ≤ p → VV N m (gC N m c') t r p = VV N m (gC N m c0) t r p := fun p y1 => by
          have := ph_rng hp1 y1
          unfold VV gC
          rw [g3 _ _ (by omega)]
        have sd := (q2.2 b z0 (by omega)).1.2.2
        have br := bt2_rng (a := cwd N m t r) (b := cwd N m (t + 1) b) h.2.2.2.2.1 h.2.2.2.2.2.2
        have ev : VV N m (gC N m c0) t r b = bt2 m (cwd N m t r) (cwd N m (t + 1) b) + gC N m c (t + 1) b := eV b z0
        unfold WO SD
        rw [eg, eh, ← r3, z3]
        exact ⟨⟨fun z => by omega, fun z => ⟨z1.cg (fun p y1 y2 => vS p y1), by rw [vS b z0]⟩, by omega, by omega⟩, fun z => rfl⟩
    · rw [if_neg ct]
      refine ⟨_, rfl, fun a b q => by rw [xv_ne (by omega), co a b q], ?_⟩
      have eg : gC N m (xv c0 86 (t * 5 + k) (cat N m t r)) t r = cat N m t r := by unfold gC; rw [← r3]; exact xv_eq rfl rfl
      unfold WO SD
      rw [eg]
      exact ⟨⟨fun z => rfl, fun z => absurd z ct, by omega, by omega⟩, fun z => absurd z ct⟩
  unfold G_X7_weighChoice_41
  by_cases c1 : k < pp N m t
  · have k4 : k < 4 := by omega
    have b1 := (rb.2.1 k hk.1 (by omega)).1
    have ew : (if k < pp N m t ∧ k < 4 then AT N m t 33 k else -1) = AT N m t 33 k := if_pos ⟨c1, k4⟩
    rw [ew, if_neg (by omega), if_neg (by omega), priceOfS r0 (by omega), yb_s]
    have e1 : pr (AT N m t) 34 k = cat N m t k := by unfold pr cat; rw [if_pos c1, if_pos (by omega)]
    have e2 : (AT N m t) 33 k = cwd N m t k := by unfold cwd; rw [if_pos c1]
    have e3 : k = ph N m t k := by unfold ph; rw [if_pos c1]
    rw [e1, e2]
    obtain ⟨c', g1, g2, g3⟩ := go k hk.1 (by omega) e3
    refine ⟨c', g1, g2, fun z => by omega, fun r r1 r2 r3 => ?_⟩
    have := ph_inj hp ⟨hk.1, by omega⟩ ⟨r1, r2⟩ (e3.symm.trans r3)
    rw [← this]; exact g3
  · have ew : (if k < pp N m t ∧ k < 4 then AT N m t 33 k else -1) = -1 := if_neg (fun q => c1 q.1)
    rw [ew, if_pos rfl, if_pos rfl]
    by_cases c4 : 4 ≤ k
    · rw [if_pos c4, outsideS h0 ht, yb_s]
      have e1 : op m (m 197 t) = cat N m t (pp N m t) := by unfold cat; rw [if_neg (by omega)]
      have e2 : (-1 : Int) = cwd N m t (pp N m t) := by unfold cwd; rw [if_neg (by omega)]
      have e3 : k = ph N m t (pp N m t) := by unfold ph; rw [if_neg (by omega)]; omega
      rw [e1, e2]
      obtain ⟨c', g1, g2, g3⟩ := go (pp N m t) hp.1 (by omega) e3
      refine ⟨c', g1, g2, fun z z' => by omega, fun r r1 r2 r3 => ?_⟩
      have := ph_inj hp ⟨hp.1, by omega⟩ ⟨r1, r2⟩ (e3.symm.trans r3)
      rw [← this]; exact g3
    · rw [if_neg c4]
      refine ⟨c0, rfl, co, fun _ _ => c86, fun r r1 r2 r3 => ?_⟩
      unfold ph at r3
      by_cases c5 : r < pp N m t
      · rw [if_pos c5] at r3; omega
      · rw [if_neg c5] at r3; omega
end
