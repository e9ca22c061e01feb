noncomputable def pp (N : Nat) (m : IH) (t : Int) : Int := pn (AT N m t) (op m (m 197 t))
/-- the r-th choice of a token: its word, its price -/
noncomputable def cwd (N : Nat) (m : IH) (t r : Int) : Int := if r < pp N m t then (AT N m t) 33 r else -1
noncomputable def cat (N : Nat) (m : IH) (t r : Int) : Int := if r < pp N m t then (AT N m t) 34 r else op m (m 197 t)
/-- what choice q of the next token adds -/
noncomputable def VV (N : Nat) (m : IH) (g : Int → Int → Int) (t r q : Int) : Int := bt2 m (cwd N m t r) (cwd N m (t + 1) q) + g (t + 1) q
/-- the first best of the next token's choices below n -/
def FB (V : Int → Int) (n b : Int) : Prop := 0 ≤ b ∧ b < n ∧ (∀ q, 0 ≤ q → q < b → V b < V q) ∧ ∀ q, b ≤ q → q < n → V b ≤ V q
theorem FB.step {V : Int → Int} {n b : Int} (h : FB V n b) : (V n < V b → FB V (n + 1) n) ∧ (V b ≤ V n → FB V (n + 1) b) := by
  obtain ⟨h1, h2, h3, h4⟩ := h
  refine ⟨fun q => ⟨by omega, by omega, fun x a d => ?_, fun x a d => by rw [show x = n by omega]; exact Int.le_refl _⟩, fun q => ⟨h1, by omega, h3, fun x a d => ?_⟩⟩
  · by_cases c : x < b
    · have := h3 x a c; omega
    · have := h4 x (by omega) d; omega
  · by_cases c : x = n
    · rw [c]; exact q
    · exact h4 x a (by omega)
theorem FB.uq {V : Int → Int} {n b b' : Int} (h : FB V n b) (h' : FB V n b') : b = b' := by
  by_cases c1 : b < b'
  · have a := h'.2.2.1 b h.1 c1
    have d := h.2.2.2 b' (by omega) h'.2.1
    omega
  · by_cases c2 : b' < b
    · have a := h.2.2.1 b' h'.1 c2
      have d := h'.2.2.2 b (by omega) h.2.1
      omega
    · omega
theorem FB.cg {V V' : Int → Int} {n b : Int} (h : FB V n b) (hv : ∀ q, 0 ≤ q → q < n → V' q = V q) : FB V' n b := by
  obtain ⟨h1, h2, h3, h4⟩ := h
  refine ⟨h1, h2, fun q a d => ?_, fun q a d => ?_⟩
  · rw [hv b h1 h2, hv q a (by omega)]; exact h3 q a d
  · rw [hv b h1 h2, hv q (by omega) d]; exact h4 q a d
/-- the least price from a token on, taken so -/
def SD (N : Nat) (m : IH) (T : Int) (g h : Int → Int → Int) (t r : Int) : Prop := (t + 1 = T → g t r = cat N m t r) ∧ (t + 1 < T → FB (VV N m g t r) (pp N m (t + 1) + 1) (h t r) ∧ g t r = cat N m t r + VV N m g t r (h t r)) ∧ 0 ≤ g t r ∧ g t r ≤ (T - t) * 3500
theorem SD.uq {N : Nat} {m : IH} {T : Int} {g h g' h' : Int → Int → Int} (a : ∀ t r, 0 ≤ t → t < T → 0 ≤ r → r ≤ pp N m t → SD N m T g h t r) (a' : ∀ t r, 0 ≤ t → t < T → 0 ≤ r → r ≤ pp N m t → SD N m T g' h' t r) : ∀ (f : Nat) (t : Int), 0 ≤ t → t < T → T - t < f → ∀ r, 0 ≤ r → r ≤ pp N m t → g t r = g' t r ∧ (t + 1 < T → h t r = h' t r) := by
  intro f
  induction f with
  | zero => intro t h1 h2 h3; omega
  | succ f ih =>
    intro t h1 h2 h3 r r1 r2
    obtain ⟨x1, x2, x3⟩ := a t r h1 h2 r1 r2
    obtain ⟨y1, y2, y3⟩ := a' t r h1 h2 r1 r2
    by_cases ct : t + 1 = T
    · exact ⟨by rw [x1 ct, y1 ct], fun q => by omega⟩
    · have ct' : t + 1 < T := by omega
      have e := ih (t + 1) (by omega) ct' (by omega)
      have ev : ∀ q, 0 ≤ q → q < pp N m (t + 1) + 1 → VV N m g' t r q = VV N m g t r q := fun q a b => by
        unfold VV
        rw [(e q a (by omega)).1]
      have eh := (x2 ct').1.uq ((y2 ct').1.cg (fun q a b => (ev q a b).symm))
      refine ⟨?_, fun _ => eh⟩
      rw [(x2 ct').2, (y2 ct').2, ← eh, ev _ (x2 ct').1.1 (x2 ct').1.2.1]
section
variable {N : Nat} {c m : IH}
theorem pp_rng {t : Int} (hN : 20000 ≤ N) (h : TR c m) (hs : SL c) (ht : 0 ≤ t ∧ t < m 16 0) : 0 ≤ pp N m t ∧ pp N m t ≤ 4 := by
  have := (pn_spec (o := op m (m 197 t)) (AT.rb hN h hs ht)).1
  unfold pp
  omega
theorem cat_rng {t r : Int} (hN : 20000 ≤ N) (h : TR c m) (hs : SL c) (ht : 0 ≤ t ∧ t < m 16 0) (hr : 0 ≤ r) : 0 ≤ cat N m t r ∧ cat N m t r ≤ 3375 := by
  have hT := (h.2.2.2.2.2.1.2.2 t ht.1 ht.2).1
  have o := op_rng (n := m 197 t) h.2.2.2.2.1 (by omega)
  have rb := AT.rb hN h hs ht
  have ps := pn_spec (o := op m (m 197 t)) rb
  unfold cat
  by_cases c1 : r < pp N m t
  · rw [if_pos c1]
    unfold pp at c1
    have := rb.2.1 r hr (by omega)
    have := ps.2.1 r hr c1
    omega
  · rw [if_neg c1]; exact o
/-- a search of a token laid from another scratch -/
theorem searchT {m' : IH} {t k : Int} (hN : 20000 ≤ N) (h : TR c m) (hs : SL c) (hm : TM m m') (ht : 0 ≤ t ∧ t < m 16 0) (hk : 1 ≤ k ∧ k ≤ 60) : ∃ m1 m3, G_X12_laysToken N m' t 0 = some m1 ∧ G_X12_searches N m1 k = some m3 ∧ TM m m3 ∧ m3 0 33 = m 197 t ∧ m3 0 49 = min k ((AT N m t) 0 49) ∧ (∀ j, 0 ≤ j → j < m3 0 49 → m3 33 j = (AT N m t) 33 j ∧ m3 34 j = (AT N m t) 34 j ∧ m3 35 j = (AT N m t) 35 j) ∧ TM m m1 := by
  have h' := h.pr TC.rf hm
  have e16 : m' 16 0 = m 16 0 := hm _ _ (by omega) (by omega) (by omega)
  have e197 : m' 197 t = m 197 t := hm _ _ (by omega) (by omega) (by omega)
  obtain ⟨c1, c2, m1, m2, a1, a2, a3, a4, a5, a6, a7, a8, a9, a10, a11, a12⟩ := lookT (t := t) (most := 60) hN (by omega) h' hs (by omega)
  obtain ⟨c1', c2', m1', m2', b1, b2, b3, b4, b5, b6, b7, b8, b9, b10, b11, b12⟩ := lookT (t := t) (most := k) hN hk h' hs (by omega)
  have em : m1' = m1 := Option.some.inj (b3.symm.trans a3)
  subst em
  obtain ⟨m2x, g1, g2⟩ := sameT hN h hs hm ht (AT N m t) (AT.gv hN h hs ht)
  have eg : m2x = m2 := g1.uq ⟨m1', a3, a4.1⟩
  subst eg
  have pf := prefixS (by omega) hk.2 a4.1 b4.1
  have hb := (a4.rb (hm.tr a10)).1
  have e33 : m1' 0 33 = m 197 t := by rw [← e197]; exact a5.2.1.2.1
  refine ⟨m1', m2', a3, b4.1, (hm.tr b11), ?_, ?_, fun j j1 j2 => ?_, hm.tr a10⟩
  · rw [b4.2.2.2.2 _ _ (by omega) (by omega)]; exact e33
  · rw [pf.1, g2.1]
  · have p49 := pf.1
    have x := pf.2 j j2
    have y := g2.2 j j1 (by rw [g2.1]; omega)
    rw [← x.1, ← x.2.1, ← x.2.2, y.1, y.2.1, y.2.2]
    exact ⟨rfl, rfl, rfl⟩
/-- the choices of a token, as the reference has them -/
def CHO (N : Nat) (m m' : IH) (t : Int) : Prop := m' 38 t = pp N m t + 1 ∧ ∀ r, 0 ≤ r → r ≤ pp N m t → m' (5352 + t) r = cwd N m t r ∧ m' (5392 + t) r = cat N m t r
theorem choices15 {m3 : IH} {t : Int} (hN : 20000 ≤ N) (h : TR c m) (hs : SL c) (ht : 0 ≤ t ∧ t < m 16 0) (h49 : m3 0 49 = min 4 ((AT N m t) 0 49)) (hA : ∀ j, 0 ≤ j → j < m3 0 49 → m3 33 j = (AT N m t) 33 j ∧ m3 34 j = (AT N m t) 34 j ∧ m3 35 j = (AT N m t) 35 j) : ∀ (f : Nat) (m' : IH) (j : Int), TM m m' → m' 0 33 = m 197 t → m' 0 49 = m3 0 49 → (∀ b, m' 33 b = m3 33 b) → (∀ b, m' 34 b = m3 34 b) → 0 ≤ j → j ≤ m3 0 49 → (∀ r, 0 ≤ r → r < min j (pp N m t) → m' (5352 + t) r = cwd N m t r ∧ m' (5392 + t) r = cat N m t r) → m3 0 49 - j < f → ∃ m'', G_X12_laysChoices_15 N f m' t (min j (pp N m t)) j = some m'' ∧ TM m m'' ∧ CHO N m m'' t ∧ ∀ a b, ¬ (a = 38 ∧ b = t) → a ≠ 5352 + t → a ≠ 5392 + t → m'' a b = m' a b := by
  have h40 := h.2.2.2.2.2.1.1
  have hT := (h.2.2.2.2.2.1.2.2 t ht.1 ht.2).1
  have rb := AT.rb hN h hs ht
  have ps := pn_spec (o := op m (m 197 t)) rb
  have pr := pp_rng hN h hs ht
  have epp : pp N m t = pn (AT N m t) (op m (m 197 t)) := rfl
  intro f
  induction f with
  | zero => intro m' j h1 h2 h3 h4 h5 h6 h7 h8 h9; omega
  | succ f ih =>
    intro m' j h1 h2 h3 h4 h5 h6 h7 h8 h9
    unfold G_X12_laysChoices_15 G_X12_laysChoices_70
    have ho : ∀ mm, TM m mm → mm 0 33 = m 197 t → G_X12_outside N mm = some (op m (m 197 t), mm) := fun mm q1 q2 => outsideM h.2.2.2.2.1 q1 (by omega) q2
    rw [h3]
    by_cases c1 : m3 0 49 ≤ j
    · rw [if_pos c1]
      have ej : min j (pp N m t) = pp N m t := by omega
      rw [ej]
      simp (disch := omega) only [xlet_q, xq_in]
      have tm1 : TM m (xv m' (5352 + t) (pp N m t) (-1)) := fun a b z1 z2 z3 => by rw [xv_ne (by omega)]; exact h1 a b z1 z2 z3
      rw [ho _ tm1 (by rw [xv_ne (by omega)]; exact h2), yb_s, wr_in (by omega) (by omega)]
      refine ⟨_, rfl, fun a b z1 z2 z3 => by rw [xv_ne (by omega), xv_ne (by omega), xv_ne (by omega)]; exact h1 a b z1 z2 z3, ⟨xv_eq rfl rfl, fun r r1 r2 => ?_⟩, fun a b z1 z2 z3 => by rw [xv_ne z1, xv_ne (by omega), xv_ne (by omega)]⟩
      by_cases cr : r = pp N m t
      · subst cr
        rw [xv_ne (by omega), xv_ne (by omega), xv_eq rfl rfl, xv_ne (by omega), xv_eq rfl rfl]
        unfold cwd cat
        rw [if_neg (by omega), if_neg (by omega)]
        exact ⟨rfl, rfl⟩
      · rw [xv_ne (by omega), xv_ne (by omega), xv_ne (by omega), xv_ne (by omega), xv_ne (by omega), xv_ne (by omega)]
        exact h8 r r1 (by omega)
    · rw [if_neg c1]
      simp (disch := omega) only [xlet_q, xq_in]
      have ea := hA j h6 (by omega)
      rw [ho m' h1 h2, yb_s, h5, ea.2.1, wr_in (show -2147483648 ≤ j + 1 by omega) (by omega)]
      by_cases c2 : j < pp N m t
      · have hp := ps.2.1 j h6 (by omega)
        rw [if_pos hp, show min j (pp N m t) = j by omega]
        simp (disch := omega) only [xlet_q, xq_in, xv_ne]
        rw [h4, h5, ea.1, ea.2.1, wr_in (show -2147483648 ≤ j + 1 by omega) (by omega)]
        have := ih (xv (xv m' (5352 + t) j ((AT N m t) 33 j)) (5392 + t) j ((AT N m t) 34 j)) (j + 1) (fun a b z1 z2 z3 => by rw [xv_ne (by omega), xv_ne (by omega)]; exact h1 a b z1 z2 z3) (by rw [xv_ne (by omega), xv_ne (by omega)]; exact h2) (by rw [xv_ne (by omega), xv_ne (by omega)]; exact h3) (fun b => by rw [xv_ne (by omega), xv_ne (by omega)]; exact h4 b) (fun b => by rw [xv_ne (by omega), xv_ne (by omega)]; exact h5 b) (by omega) (by omega) (fun r r1 r2 => by
          by_cases cr : r = j
          · subst cr
            rw [xv_ne (by omega), xv_eq rfl rfl, xv_eq rfl rfl]
            unfold cwd cat
            rw [if_pos c2, if_pos c2]
            exact ⟨rfl, rfl⟩
          · rw [xv_ne (by omega), xv_ne (by omega), xv_ne (by omega), xv_ne (by omega)]
            exact h8 r r1 (by omega)) (by omega)
        rw [show min (j + 1) (pp N m t) = j + 1 by omega] at this
        obtain ⟨m'', g1, g2, g3, g4⟩ := this
        exact ⟨m'', g1, g2, g3, fun a b z1 z2 z3 => by rw [g4 a b z1 z2 z3, xv_ne (by omega), xv_ne (by omega)]⟩
      · have hp := ps.2.2 j (by omega) (by omega) (by omega)
        rw [if_neg (by omega)]
        have := ih m' (j + 1) h1 h2 h3 h4 h5 (by omega) (by omega) (fun r r1 r2 => h8 r r1 (by omega)) (by omega)
        rw [show min (j + 1) (pp N m t) = min j (pp N m t) by omega] at this
        exact this
theorem choicesS {m' : IH} {t : Int} (hN : 20000 ≤ N) (h : TR c m) (hs : SL c) (hm : TM m m') (ht : 0 ≤ t ∧ t < m 16 0) (hC : ∀ s, 0 ≤ s → s < t → CHO N m m' s) : ∃ m'', G_X12_laysChoices N m' t = some m'' ∧ TM m m'' ∧ ∀ s, 0 ≤ s → s < t + 1 → CHO N m m'' s := by
  have h40 := h.2.2.2.2.2.1.1
  have pr := pp_rng hN h hs ht
  obtain ⟨m1, m3, e1, e2, e3, e4, e5, e6, e7⟩ := searchT (k := 4) hN h hs hm ht (by omega)
  have f1 := gb_X12_laysToken (N := N) (p1 := t) (p2 := 0) (Fg.rf (rg := rgM) (L := lf_X12_laysToken) (a := m')) m1 e1
  have f2 := gb_X12_searches (N := N) (p1 := 4) (Fg.rf (rg := rgM) (L := lf_X12_searches) (a := m1)) m3 e2
  have fr38 : ∀ b, m3 38 b = m' 38 b := fun b => (f2 38 b rfl).trans (f1 38 b rfl)
  have fr52 : ∀ s b, 0 ≤ s → s < 40 → m3 (5352 + s) b = m' (5352 + s) b := fun s b q1 q2 => by
    have r : rgM (5352 + s).toNat b.toNat = 217 := rgM_17 (by omega) (by omega)
    exact (f2 (5352 + s) b (by rw [r]; rfl)).trans (f1 (5352 + s) b (by rw [r]; rfl))
  have fr92 : ∀ s b, 0 ≤ s → s < 40 → m3 (5392 + s) b = m' (5392 + s) b := fun s b q1 q2 => by
    have r : rgM (5392 + s).toNat b.toNat = 218 := rgM_18 (by omega) (by omega)
    exact (f2 (5392 + s) b (by rw [r]; rfl)).trans (f1 (5392 + s) b (by rw [r]; rfl))
  have hb := (AT.rb hN h hs ht).1
  have := choices15 (N := N) (m3 := m3) hN h hs ht e5 e6 N m3 0 e3 e4 rfl (fun _ => rfl) (fun _ => rfl) (by omega) (by omega) (fun r r1 r2 => by omega) (by omega)
  rw [show min 0 (pp N m t) = 0 by omega] at this
  obtain ⟨m'', g1, g2, g3, g4⟩ := this
  unfold G_X12_laysChoices
  rw [e1, ybv_s, e2, ybv_s, xlet_q, xlet_q]
  refine ⟨m'', g1, g2, fun s s1 s2 => ?_⟩
  by_cases cs : s = t
  · rw [cs]; exact g3
  · have old := hC s s1 (by omega)
    refine ⟨by rw [g4 38 s (by omega) (by omega) (by omega), fr38]; exact old.1, fun r r1 r2 => ?_⟩
    rw [g4 _ _ (by omega) (by omega) (by omega), g4 _ _ (by omega) (by omega) (by omega), fr52 s r s1 (by omega), fr92 s r s1 (by omega)]
    exact old.2 r r1 r2
end
