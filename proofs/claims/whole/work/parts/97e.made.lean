/-- how many of the first n -/
def cq (g : Nat → Int) : Nat → Int
  | 0 => 0
  | n + 1 => cq g n + g n
theorem cq_rng {g : Nat → Int} (h : ∀ n, 0 ≤ g n ∧ g n ≤ 1) : ∀ n : Nat, 0 ≤ cq g n ∧ cq g n ≤ n := by
  intro n
  induction n with
  | zero => exact ⟨Int.le_refl _, Int.le_refl _⟩
  | succ n ih => have := h n; show 0 ≤ cq g n + g n ∧ cq g n + g n ≤ _; omega
theorem cq_cg {g g' : Nat → Int} : ∀ n : Nat, (∀ k, k < n → g k = g' k) → cq g n = cq g' n := by
  intro n
  induction n with
  | zero => intro _; rfl
  | succ n ih => intro h; show cq g n + g n = cq g' n + g' n; rw [ih (fun k q => h k (by omega)), h n (by omega)]
/-- the least prices and the choices of a sentence -/
def SE (N : Nat) (m : IH) (g h : Int → Int → Int) (r0 : Int) : Prop := (∀ t r, 0 ≤ t → t < m 16 0 → 0 ≤ r → r ≤ pp N m t → SD N m (m 16 0) g h t r) ∧ (0 < m 16 0 → FB (g 0) (pp N m 0 + 1) r0)
theorem SE.rng {N : Nat} {m : IH} {g h : Int → Int → Int} {r0 : Int} (a : SE N m g h r0) : ∀ t : Nat, (t : Int) < m 16 0 → 0 ≤ sr h r0 t ∧ sr h r0 t ≤ pp N m t := by
  intro t
  induction t with
  | zero => intro q; have := a.2 q; exact ⟨this.1, by have := this.2.1; show r0 ≤ pp N m 0; omega⟩
  | succ t ih =>
    intro q
    have e : ((t + 1 : Nat) : Int) = (t : Int) + 1 := by omega
    rw [e] at q ⊢
    have i := ih (by omega)
    have f := ((a.1 t _ (by omega) (by omega) i.1 i.2).2.1 q).1
    exact ⟨f.1, by have := f.2.1; show h t (sr h r0 t) ≤ _; omega⟩
theorem SE.uq {N : Nat} {m : IH} {g h g' h' : Int → Int → Int} {r0 r0' : Int} (a : SE N m g h r0) (a' : SE N m g' h' r0') : (0 < m 16 0 → g 0 r0 = g' 0 r0') ∧ ∀ t : Nat, (t : Int) < m 16 0 → sr h r0 t = sr h' r0' t := by
  have u : ∀ t r, 0 ≤ t → t < m 16 0 → 0 ≤ r → r ≤ pp N m t → g t r = g' t r ∧ (t + 1 < m 16 0 → h t r = h' t r) := fun t r b d e f => SD.uq a.1 a'.1 ((m 16 0 - t).toNat + 1) t b d (by omega) r e f
  have er : 0 < m 16 0 → r0 = r0' := fun q => (a.2 q).uq ((a'.2 q).cg (fun p p1 p2 => (u 0 p (by omega) q p1 (by omega)).1))
  refine ⟨fun q => ?_, ?_⟩
  · rw [← er q]
    exact (u 0 r0 (by omega) q (a.2 q).1 (by have := (a.2 q).2.1; omega)).1
  · intro t
    induction t with
    | zero => intro q; exact er q
    | succ t ih =>
      intro q
      have e : ((t + 1 : Nat) : Int) = (t : Int) + 1 := by omega
      rw [e] at q
      have i := ih (by omega)
      have r := a.rng t (by omega)
      show h t (sr h r0 t) = h' t (sr h' r0' t)
      rw [← i]
      exact (u t _ (by omega) (by omega) r.1 r.2).2 q
noncomputable def w1 (N : Nat) (m : IH) (h : Int → Int → Int) (r0 : Int) : Nat → Int := fun s => if cwd N m s (sr h r0 s) = aw N m s then 0 else 1
noncomputable def w2 (N : Nat) (m : IH) (h : Int → Int → Int) (r0 : Int) : Nat → Int := fun s => if cwd N m s (sr h r0 s) = -1 then 1 else 0
theorem w1_rng {N : Nat} {m : IH} {h : Int → Int → Int} {r0 : Int} : ∀ n, 0 ≤ w1 N m h r0 n ∧ w1 N m h r0 n ≤ 1 := by
  intro n; unfold w1
  by_cases c : cwd N m n (sr h r0 n) = aw N m n
  · rw [if_pos c]; omega
  · rw [if_neg c]; omega
theorem w2_rng {N : Nat} {m : IH} {h : Int → Int → Int} {r0 : Int} : ∀ n, 0 ≤ w2 N m h r0 n ∧ w2 N m h r0 n ≤ 1 := by
  intro n; unfold w2
  by_cases c : cwd N m n (sr h r0 n) = -1
  · rw [if_pos c]; omega
  · rw [if_neg c]; omega
/-- the sentence as the class keeps it -/
def SX (N : Nat) (c m : IH) (g h : Int → Int → Int) (r0 : Int) : Prop := c 84 5 = (if 0 < m 16 0 then g 0 r0 else 0) ∧ (∀ s : Nat, (s : Int) < m 16 0 → c 85 s = cwd N m s (sr h r0 s)) ∧ c 84 6 = cq (w1 N m h r0) (m 16 0).toNat ∧ c 84 7 = cq (w2 N m h r0) (m 16 0).toNat
def SN (N : Nat) (c m : IH) : Prop := c 84 4 = 0 ∨ (c 84 4 = 1 ∧ ∃ g h r0, SE N m g h r0 ∧ SX N c m g h r0)
/-- kept by a sentence -/
def LV (N : Nat) (c m c' : IH) : Prop := TR c' m ∧ SL c' ∧ CA N c' m ∧ TC c c' ∧ (∀ a b, 79 < a → ¬ (84 ≤ a ∧ a ≤ 87) → c' a b = c a b) ∧ c' 0 14 = c 0 14 ∧ c' 0 15 = c 0 15
section
variable {N : Nat} {m : IH}
theorem WC.cv {c c0 c' : IH} {t : Int} (hN : 20000 ≤ N) (h : TR c0 m) (hs : SL c0) (ht : 0 ≤ t ∧ t < m 16 0) (hw : WC N m c t) (hf : ∀ a b, (a = 86 ∨ a = 87) → t * 5 ≤ b → c' a b = c a b) : WC N m c' t := by
  have hp := pp_rng hN h hs ht
  refine ⟨fun k a b => ?_, fun r a b => ?_⟩
  · rw [hf 86 (t * 5 + k) (Or.inl rfl) (by omega)]; exact hw.1 k a b
  · have pr := ph_rng hp a
    exact WO.cv hN h hs ht ⟨a, b⟩ (hw.2 r a b) (fun x y z1 z2 => hf x y z1 (by omega))
theorem make32 {k18 : IH → Int → Option IH} {t : Int} (hN : 20000 ≤ N) (ht : 0 ≤ t ∧ t < m 16 0) : ∀ (f : Nat) (c : IH) (k : Int), TR c m → SL c → CA N c m → c 75 t = 1 → (t + 1 < m 16 0 → c 75 (t + 1) = 1 ∧ WC N m c (t + 1)) → (∀ k', 0 ≤ k' → k' < k → (pp N m t ≤ k' → k' < 4 → c 86 (t * 5 + k') = 1000000) ∧ ∀ r, 0 ≤ r → r ≤ pp N m t → k' = ph N m t r → WO N m c t r) → 0 ≤ k → k ≤ 5 → 5 - k < f → ∃ c', G_X7_make_32 N k18 f c t k = k18 c' (t - 1) ∧ WC N m c' t ∧ ∀ a b, ¬ ((a = 86 ∨ a = 87) ∧ t * 5 ≤ b ∧ b < t * 5 + 5) → c' a b = c a b := by
  intro f
  induction f with
  | zero => intro c k h hs hCA h1 h2 h3 h4 h5 h6; omega
  | succ f ih =>
    intro c k h hs hCA h1 h2 h3 h4 h5 h6
    have h40 := h.2.2.2.2.2.1.1
    have hp := pp_rng hN h hs ht
    unfold G_X7_make_32
    by_cases c1 : 5 ≤ k
    · rw [if_pos c1, xlet_q, wr_in (by omega) (by omega)]
      refine ⟨c, by rw [show t + -1 = t - 1 by omega], ⟨fun k' a b => (h3 k' (by omega) (by omega)).1 a b, fun r a b => ?_⟩, fun _ _ _ => rfl⟩
      have pr := ph_rng hp a
      exact (h3 (ph N m t r) (by omega) (by omega)).2 r a b rfl
    · rw [if_neg c1]
      obtain ⟨c', g1, g2, g3, g4⟩ := weighS (k := k) hN h hs hCA ht h1 (by omega) h2
      rw [g1, ybv_s, xlet_q, wr_in (by omega) (by omega)]
      obtain ⟨c'', d1, d2, d3⟩ := ih c' (k + 1) (h.pr (fun a b q => g2 a b (by omega)) TM.rf) (hs.cv (fun a b q1 q2 => g2 a b (by omega))) (hCA.cv (fun a b q1 q2 => g2 a b (by omega))) (by rw [g2 _ _ (by omega)]; exact h1) (fun q => ⟨by rw [g2 _ _ (by omega)]; exact (h2 q).1, (h2 q).2.cv hN h hs ⟨by omega, q⟩ (fun a b z1 z2 => g2 a b (by omega))⟩) (fun k' k1 k2 => by
        by_cases ck : k' = k
        · rw [ck]; exact ⟨g3, g4⟩
        · obtain ⟨e1, e2⟩ := h3 k' k1 (by omega)
          exact ⟨fun a b => by rw [g2 _ _ (by omega)]; exact e1 a b, fun r a b d => WO.cv hN h hs ht ⟨a, b⟩ (e2 r a b d) (fun x y z1 z2 => g2 x y (by omega))⟩) (by omega) (by omega) (by omega)
      exact ⟨c'', d1, d2, fun a b q => by rw [d3 a b q, g2 a b (by omega)]⟩
theorem say15 {c : IH} (hw : WC N m c 0) (hp : 0 ≤ pp N m 0 ∧ pp N m 0 ≤ 4) (hg : ∀ r, 0 ≤ r → r ≤ pp N m 0 → gC N m c 0 r < 1000000) : ∀ (f : Nat) (v1 k : Int), ((if k ≤ pp N m 0 then k else if k ≤ 4 then pp N m 0 else pp N m 0 + 1) = 0 ∧ v1 = 0 ∧ c 86 0 = 1000000) ∨ (∃ b, FB (gC N m c 0) (if k ≤ pp N m 0 then k else if k ≤ 4 then pp N m 0 else pp N m 0 + 1) b ∧ v1 = ph N m 0 b) → 1 ≤ k → k ≤ 5 → 5 - k < f → ∃ b, FB (gC N m c 0) (pp N m 0 + 1) b ∧ G_X7_say_15 N f c v1 k = G_X7_say_55 N N (xv c 84 5 (gC N m c 0 b)) (ph N m 0 b) 0 := by
  have eg : ∀ b, gC N m c 0 b = c 86 (ph N m 0 b) := fun b => by unfold gC; rw [show (0 : Int) * 5 + ph N m 0 b = ph N m 0 b by omega]
  have far : ∀ k, pp N m 0 ≤ k → k < 4 → c 86 k = 1000000 := fun k a b => by have := hw.1 k a b; rw [show (0 : Int) * 5 + k = k by omega] at this; exact this
  intro f
  induction f with
  | zero => intro v1 k h1 h2 h3 h4; omega
  | succ f ih =>
    intro v1 k h1 h2 h3 h4
    unfold G_X7_say_15 G_X7_say_37
    by_cases c1 : 5 ≤ k
    · rw [if_pos c1]
      rw [if_neg (by omega), if_neg (by omega)] at h1
      rcases h1 with ⟨a, _⟩ | ⟨b, a1, a2⟩
      · omega
      · have pr := ph_rng hp a1.1
        rw [a2]
        simp (disch := omega) only [xlet_q, xq_in]
        exact ⟨b, a1, by rw [eg b]⟩
    · rw [if_neg c1]
      have v1r : 0 ≤ v1 ∧ v1 ≤ 4 := by
        rcases h1 with ⟨_, a, _⟩ | ⟨b, a1, a2⟩
        · omega
        · rw [a2]; exact ph_rng hp a1.1
      simp (disch := omega) only [xlet_q, xq_in]
      rw [wr_in (show -2147483648 ≤ k + 1 by omega) (by omega)]
      by_cases cv : k < pp N m 0 ∨ k = 4
      · obtain ⟨r, r1, r2, r3⟩ : ∃ r, 0 ≤ r ∧ r ≤ pp N m 0 ∧ k = ph N m 0 r := by
          unfold ph
          by_cases c2 : k < pp N m 0
          · exact ⟨k, by omega, by omega, by rw [if_pos c2]⟩
          · exact ⟨pp N m 0, hp.1, by omega, by rw [if_neg (by omega)]; omega⟩
        have n0 : (if k ≤ pp N m 0 then k else if k ≤ 4 then pp N m 0 else pp N m 0 + 1) = r := by
          unfold ph at r3
          by_cases c2 : r < pp N m 0
          · rw [if_pos c2] at r3; rw [if_pos (by omega)]; exact r3
          · rw [if_neg c2] at r3
            by_cases c3 : k ≤ pp N m 0
            · rw [if_pos c3]; omega
            · rw [if_neg c3, if_pos (by omega)]; omega
        have n1 : (if k + 1 ≤ pp N m 0 then k + 1 else if k + 1 ≤ 4 then pp N m 0 else pp N m 0 + 1) = r + 1 := by
          unfold ph at r3
          by_cases c2 : r < pp N m 0
          · rw [if_pos c2] at r3
            by_cases c3 : k + 1 ≤ pp N m 0
            · rw [if_pos c3]; omega
            · omega
          · rw [if_neg c2] at r3
            rw [if_neg (by omega), if_neg (by omega)]; omega
        rw [n0] at h1
        have ek : c 86 k = gC N m c 0 r := by rw [eg, ← r3]
        have gr := hg r r1 r2
        rw [ek]
        rcases h1 with ⟨a, a2, a3⟩ | ⟨b, a1, a2⟩
        · rw [a2, a3, if_neg (by omega)]
          exact ih k (k + 1) (Or.inr ⟨r, by rw [n1]; exact ⟨r1, by omega, fun q x y => by omega, fun q x y => by rw [show q = r by omega]; exact Int.le_refl _⟩, r3⟩) (by omega) (by omega) (by omega)
        · rw [a2, ← eg b]
          by_cases cz : gC N m c 0 b ≤ gC N m c 0 r
          · rw [if_pos cz]
            exact ih _ (k + 1) (Or.inr ⟨b, by rw [n1]; exact a1.step.2 cz, rfl⟩) (by omega) (by omega) (by omega)
          · rw [if_neg cz]
            exact ih k (k + 1) (Or.inr ⟨r, by rw [n1]; exact a1.step.1 (by omega), r3⟩) (by omega) (by omega) (by omega)
      · have e1 : (if k ≤ pp N m 0 then k else if k ≤ 4 then pp N m 0 else pp N m 0 + 1) = pp N m 0 := by
          by_cases c2 : k ≤ pp N m 0
          · rw [if_pos c2]; omega
          · rw [if_neg c2, if_pos (by omega)]
        have e2 : (if k + 1 ≤ pp N m 0 then k + 1 else if k + 1 ≤ 4 then pp N m 0 else pp N m 0 + 1) = pp N m 0 := by
          rw [if_neg (by omega), if_pos (by omega)]
        have le : c 86 v1 ≤ c 86 k := by
          rw [far k (by omega) (by omega)]
          rcases h1 with ⟨_, a2, a3⟩ | ⟨b, a1, a2⟩
          · rw [a2, a3]; exact Int.le_refl _
          · rw [e1] at a1
            have := hg b a1.1 (by have := a1.2.1; omega)
            rw [a2, ← eg b]; omega
        rw [if_pos le]
        rw [e1] at h1
        exact ih v1 (k + 1) (by rw [e2]; exact h1) (by omega) (by omega) (by omega)
theorem say55 {c0 : IH} {r0 : Int} (hN : 20000 ≤ N) (hE : SE N m (gC N m c0) (hC N m c0) r0) (h87 : ∀ t r, 0 ≤ t → t + 1 < m 16 0 → 0 ≤ r → r ≤ pp N m t → c0 87 (t * 5 + ph N m t r) = ph N m (t + 1) (hC N m c0 t r)) : ∀ (f : Nat) (c : IH) (t : Nat) (v1 : Int), TR c m → SL c → CA N c m → (∀ s, 0 ≤ s → s < m 16 0 → c 75 s = 1) → (∀ b, c 87 b = c0 87 b) → ((t : Int) < m 16 0 → v1 = ph N m t (sr (hC N m c0) r0 t)) → c 84 6 = cq (w1 N m (hC N m c0) r0) t → c 84 7 = cq (w2 N m (hC N m c0) r0) t → (∀ s : Nat, s < t → c 85 s = cwd N m s (sr (hC N m c0) r0 s)) → (t : Int) ≤ m 16 0 → m 16 0 - t < f → ∃ c', G_X7_say_55 N f c v1 t = some c' ∧ c' 84 6 = cq (w1 N m (hC N m c0) r0) (m 16 0).toNat ∧ c' 84 7 = cq (w2 N m (hC N m c0) r0) (m 16 0).toNat ∧ (∀ s : Nat, (s : Int) < m 16 0 → c' 85 s = cwd N m s (sr (hC N m c0) r0 s)) ∧ ∀ a b, ¬ (a = 84 ∧ (b = 6 ∨ b = 7)) → a ≠ 85 → c' a b = c a b := by
  intro f
  induction f with
  | zero => intro c t v1 h hs hCA h1 h2 h3 h4 h5 h6 h7 h8; omega
  | succ f ih =>
    intro c t v1 h hs hCA h1 h2 h3 h4 h5 h6 h7 h8
    have h40 := h.2.2.2.2.2.1.1
    have e31 : c 31 0 = m 16 0 := by omega
    unfold G_X7_say_55
    rw [e31]
    by_cases c1 : m 16 0 ≤ (t : Int)
    · rw [if_pos c1]
      have et : (m 16 0).toNat = t := by omega
      rw [et]
      exact ⟨c, rfl, h4, h5, fun s q => h6 s (by omega), fun _ _ _ _ => rfl⟩
    · rw [if_neg c1]
      have ht : (t : Int) < m 16 0 := by omega
      have hp := pp_rng hN h hs (t := (t : Int)) (by omega)
      have rr := hE.rng t ht
      have ev := h3 ht
      have pr := ph_rng hp rr.1
      have v1r : 0 ≤ v1 ∧ v1 ≤ 4 := by omega
      rw [wocS hN h hs hCA ⟨by omega, ht⟩ (h1 t (by omega) ht) (by omega), yb_s, cw_eq hp rr ev]
      simp (disch := omega) only [xlet_q, xq_in]
      generalize hwv : cwd N m t (sr (hC N m c0) r0 t) = wv
      have q1 := cq_rng (w1_rng (N := N) (m := m) (h := hC N m c0) (r0 := r0)) t
      have q2 := cq_rng (w2_rng (N := N) (m := m) (h := hC N m c0) (r0 := r0)) t
      have e2 : w2 N m (hC N m c0) r0 t = if wv = -1 then 1 else 0 := by unfold w2; rw [hwv]
      have e1 : w1 N m (hC N m c0) r0 t = if wv = aw N m t then 0 else 1 := by unfold w1; rw [hwv]
      -- what comes after the count of those outside
      have go : G_X7_say_95 N (G_X7_say_55 N f) (xv c 85 t wv) v1 t wv (xv c 85 t wv 84 7) (w2 N m (hC N m c0) r0 t) = G_X7_say_55 N f (xv (xv (xv c 85 t wv) 84 7 (cq (w2 N m (hC N m c0) r0) (t + 1))) 84 6 (cq (w1 N m (hC N m c0) r0) (t + 1))) (c 87 (t * 5 + v1)) ((t + 1 : Nat) : Int) := by
        have w2r := w2_rng (N := N) (m := m) (h := hC N m c0) (r0 := r0) t
        have w1r := w1_rng (N := N) (m := m) (h := hC N m c0) (r0 := r0) t
        unfold G_X7_say_95 G_X7_say_121
        rw [xv_ne (by omega), h5, wr_in (by omega) (by omega), xlet_q]
        have cx : ∀ a b, a ≠ 85 → ¬ (a = 84 ∧ b = 7) → xv (xv c 85 t wv) 84 7 (cq (w2 N m (hC N m c0) r0) t + w2 N m (hC N m c0) r0 t) a b = c a b := fun a b z1 z2 => by rw [xv_ne z2, xv_ne (by omega)]
        have hx := h.pr (c' := xv (xv c 85 t wv) 84 7 (cq (w2 N m (hC N m c0) r0) t + w2 N m (hC N m c0) r0 t)) (fun a b q => cx a b (by omega) (by omega)) TM.rf
        have sx := hs.cv (c' := xv (xv c 85 t wv) 84 7 (cq (w2 N m (hC N m c0) r0) t + w2 N m (hC N m c0) r0 t)) (fun a b _ _ => cx a b (by omega) (by omega))
        have Cx := hCA.cv (c' := xv (xv c 85 t wv) 84 7 (cq (w2 N m (hC N m c0) r0) t + w2 N m (hC N m c0) r0 t)) (fun a b _ _ => cx a b (by omega) (by omega))
        rw [mendedWS hx ⟨by omega, ht⟩ (rowAT hN hx sx Cx ⟨by omega, ht⟩ (by rw [cx _ _ (by omega) (by omega)]; exact h1 t (by omega) ht)), yb_s]
        have ea : wi (AT N m t) (op m (m 197 t)) 0 = aw N m t := rfl
        rw [ea, cx 84 6 (by omega) (by omega), h4]
        have en : ((t + 1 : Nat) : Int) = (t : Int) + 1 := by omega
        have s1 : cq (w1 N m (hC N m c0) r0) (t + 1) = cq (w1 N m (hC N m c0) r0) t + w1 N m (hC N m c0) r0 t := rfl
        have s2 : cq (w2 N m (hC N m c0) r0) (t + 1) = cq (w2 N m (hC N m c0) r0) t + w2 N m (hC N m c0) r0 t := rfl
        rw [s1, s2, e1, en]
        by_cases cw : wv = aw N m t
        · rw [if_pos cw, if_pos cw, wr_in (by omega) (by omega)]
          simp (disch := omega) only [xlet_q, xq_in, xv_ne]
          rw [wr_in (by omega) (by omega)]
        · rw [if_neg cw, if_neg cw, wr_in (by omega) (by omega)]
          simp (disch := omega) only [xlet_q, xq_in, xv_ne]
          rw [wr_in (by omega) (by omega)]
      have fin : ∃ c', G_X7_say_55 N f (xv (xv (xv c 85 t wv) 84 7 (cq (w2 N m (hC N m c0) r0) (t + 1))) 84 6 (cq (w1 N m (hC N m c0) r0) (t + 1))) (c 87 (t * 5 + v1)) ((t + 1 : Nat) : Int) = some c' ∧ c' 84 6 = cq (w1 N m (hC N m c0) r0) (m 16 0).toNat ∧ c' 84 7 = cq (w2 N m (hC N m c0) r0) (m 16 0).toNat ∧ (∀ s : Nat, (s : Int) < m 16 0 → c' 85 s = cwd N m s (sr (hC N m c0) r0 s)) ∧ ∀ a b, ¬ (a = 84 ∧ (b = 6 ∨ b = 7)) → a ≠ 85 → c' a b = c a b := by
        generalize hcx : xv (xv (xv c 85 t wv) 84 7 (cq (w2 N m (hC N m c0) r0) (t + 1))) 84 6 (cq (w1 N m (hC N m c0) r0) (t + 1)) = cx
        have cxo : ∀ a b, ¬ (a = 84 ∧ (b = 6 ∨ b = 7)) → ¬ (a = 85 ∧ b = (t : Int)) → cx a b = c a b := fun a b z1 z2 => by rw [← hcx, xv_ne (by omega), xv_ne (by omega), xv_ne z2]
        obtain ⟨c', g1, g2, g3, g4, g5⟩ := ih cx (t + 1) (c 87 (t * 5 + v1)) (h.pr (fun a b q => cxo a b (by omega) (by omega)) TM.rf) (hs.cv (fun a b _ _ => cxo a b (by omega) (by omega))) (hCA.cv (fun a b _ _ => cxo a b (by omega) (by omega))) (fun s a b => by rw [cxo _ _ (by omega) (by omega)]; exact h1 s a b) (fun b => by rw [cxo _ _ (by omega) (by omega)]; exact h2 b) (fun q => by
          have q' : (t : Int) + 1 < m 16 0 := by omega
          rw [h2, ev, h87 t _ (by omega) q' rr.1 rr.2]
          have en : ((t + 1 : Nat) : Int) = (t : Int) + 1 := by omega
          rw [en]
          rfl) (by rw [← hcx, xv_eq rfl rfl]) (by rw [← hcx, xv_ne (by omega), xv_eq rfl rfl]) (fun s q => by
          by_cases cs : s = t
          · rw [cs, ← hcx, xv_ne (by omega), xv_ne (by omega), xv_eq rfl rfl, hwv]
          · rw [cxo _ _ (by omega) (by omega)]; exact h6 s (by omega)) (by omega) (by omega)
        exact ⟨c', g1, g2, g3, g4, fun a b z1 z2 => by rw [g5 a b z1 z2, cxo a b z1 (by omega)]⟩
      rw [e2] at go
      by_cases cw : wv = -1
      · rw [if_pos cw] at go
        rw [if_pos cw, go]
        exact fin
      · rw [if_neg cw] at go
        rw [if_neg cw, go]
        exact fin
end
