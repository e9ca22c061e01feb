theorem EMg.fc {c c' m : IH} {L i e0 k e : Int} (h : EMg c m L i e0 k) (hf : FC c c' e) (he : e0 + k ≤ e) : EMg c' m L i e0 k := by
  refine ⟨h.1, fun x x1 x2 => ?_⟩
  have := h.2 x x1 x2
  unfold EQ at this ⊢
  have a3 := hf.2.1
  rw [a3 60 _ (by omega) (by omega) (by omega), a3 61 _ (by omega) (by omega) (by omega), a3 62 _ (by omega) (by omega) (by omega), a3 63 _ (by omega) (by omega) (by omega), a3 65 _ (by omega) (by omega) (by omega)]
  obtain ⟨t1, t2, t3, t4, t5, t6, t7, t8, t9⟩ := this
  refine ⟨t1, t2, t3, t4, t5, t6, t7, t8, fun q q1 q2 => ?_⟩
  rw [hf.2.2 _ (by omega)]
  exact t9 q q1 q2
theorem EMg.cv {c c' m : IH} {L i e0 k : Int} (h : EMg c m L i e0 k) (hf : ∀ a b, 60 ≤ a → a ≤ 65 → c' a b = c a b) : EMg c' m L i e0 k := by
  refine ⟨h.1, fun x x1 x2 => ?_⟩
  have := h.2 x x1 x2
  unfold EQ at this ⊢
  simp only [hf 60 _ (by omega) (by omega), hf 61 _ (by omega) (by omega), hf 62 _ (by omega) (by omega), hf 63 _ (by omega) (by omega), hf 64 _ (by omega) (by omega), hf 65 _ (by omega) (by omega)]
  exact this
theorem EMg.mv {c m m' : IH} {L i e0 k : Int} (h : EMg c m L i e0 k) (h25 : m' 25 i = m 25 i) (hf : ∀ a b, 2423 + i * 60 ≤ a → a < 2423 + i * 60 + k → m' a b = m a b) : EMg c m' L i e0 k := by
  refine ⟨by rw [h25]; exact h.1, fun x x1 x2 => ?_⟩
  have := h.2 x x1 x2
  unfold EQ at this ⊢
  have f : ∀ b, m' (2423 + (i * 60 + x)) b = m (2423 + (i * 60 + x)) b := fun b => hf _ b (by omega) (by omega)
  simp only [f]
  exact this
/-- the reference's cells of the net and what is told stay -/
def SM (m0 m : IH) : Prop := m 0 33 = m0 0 33 ∧ m 13 0 = m0 13 0 ∧ (∀ b, m 3 b = m0 3 b) ∧ ∀ a b, (115 ≤ a ∧ a < 177) ∨ (2327 ≤ a ∧ a < 2375) → m a b = m0 a b
theorem SM.rf {m : IH} : SM m m := ⟨rfl, rfl, fun _ => rfl, fun _ _ _ => rfl⟩
theorem SM.fm {m0 m m' : IH} {i k : Int} (h : SM m0 m) (hf : FM m m' i k) (hi : 0 ≤ i) (hk : 0 ≤ k) : SM m0 m' := by
  have f : ∀ a b, a ≠ 25 → a < 2423 → m' a b = m a b := fun a b q1 q2 => hf a b (by omega) (by omega)
  refine ⟨by rw [f _ _ (by omega) (by omega)]; exact h.1, by rw [f _ _ (by omega) (by omega)]; exact h.2.1, fun b => by rw [f _ _ (by omega) (by omega)]; exact h.2.2.1 b, fun a b q => by rw [f _ _ (by omega) (by omega)]; exact h.2.2.2 a b q⟩
theorem PR.sm {c m0 m : IH} {L : Int} (h : PR c m0 L) (hs : SM m0 m) : PR c m L := by
  obtain ⟨h1, h2, h3⟩ := h
  have mA := hs.2.2.2
  refine ⟨?_, ?_, ?_⟩
  · obtain ⟨a1, a2, a3, a4⟩ := h1
    refine ⟨a1, a2, by rw [hs.1]; exact a3, fun j j1 j2 => ?_⟩
    rw [mA _ _ (by omega)]
    exact a4 j j1 j2
  · obtain ⟨a1, a2, a3, a4⟩ := h2
    unfold SR
    rw [hs.2.1]
    refine ⟨a1, a2, a3, fun s s1 s2 => ?_⟩
    have := a4 s s1 s2
    rw [mA (157 + s) 0 (by omega), mA (157 + s) 1 (by omega), mA (157 + s) 2 (by omega)]
    refine ⟨this.1, this.2.1, this.2.2.1, this.2.2.2.1, fun q q1 q2 => ?_, fun q q1 q2 => ?_⟩
    · rw [mA _ _ (by omega)]
      exact this.2.2.2.2.1 q q1 q2
    · rw [mA _ _ (by omega)]
      exact this.2.2.2.2.2 q q1 q2
  · intro j j1 j2
    rw [hs.2.2.1]
    exact h3 j j1 j2
/-- the class's cells that the laying doesn't touch -/
def FN (c c' : IH) : Prop := ∀ a b, ¬ (a = 57 ∧ b = 5) → ¬ (59 ≤ a ∧ a ≤ 65) → c' a b = c a b
theorem FN.rf {c : IH} : FN c c := fun _ _ _ _ => rfl
theorem FN.tr {c c1 c2 : IH} (h : FN c c1) (h1 : FN c1 c2) : FN c c2 := fun a b q1 q2 => by rw [h1 a b q1 q2, h a b q1 q2]
theorem FC.fn {c c' : IH} {e : Int} (h : FC c c' e) : FN c c' := fun a b q1 q2 => h.1 a b q1 (by omega)
theorem PR.fn {c c' m : IH} {L : Int} (h : PR c m L) (hf : FN c c') : PR c' m L := by
  obtain ⟨⟨a1, a2, a3, a4⟩, ⟨b1, b2, b3, b4⟩, h3⟩ := h
  refine ⟨⟨a1, by rw [hf _ _ (by omega) (by omega)]; exact a2, a3, fun j j1 j2 => by rw [hf _ _ (by omega) (by omega)]; exact a4 j j1 j2⟩, ⟨by rw [hf _ _ (by omega) (by omega)]; exact b1, b2, b3, fun s s1 s2 => ?_⟩, fun j j1 j2 => by rw [hf _ _ (by omega) (by omega)]; exact h3 j j1 j2⟩
  have := b4 s s1 s2
  rw [hf 20 _ (by omega) (by omega), hf 21 _ (by omega) (by omega), hf 22 _ (by omega) (by omega)]
  refine ⟨this.1, this.2.1, this.2.2.1, this.2.2.2.1, fun q q1 q2 => ?_, fun q q1 q2 => ?_⟩
  · rw [hf _ _ (by omega) (by omega)]
    exact this.2.2.2.2.1 q q1 q2
  · rw [hf _ _ (by omega) (by omega)]
    exact this.2.2.2.2.2 q q1 q2
theorem OTx.fn {N : Nat} {ot : IH → Option IH} {c c' m : IH} {i : Int} (h : OTx N ot c m i) (hf : FN c c') : OTx N ot c' m i := by
  rcases h with h | ⟨j, h1, ⟨g1, g2, g3, g4, g5⟩, h3⟩
  · exact Or.inl h
  · refine Or.inr ⟨j, h1, ⟨g1, by rw [hf _ _ (by omega) (by omega)]; exact g2, g3, g4, fun q q1 q2 => ?_⟩, h3⟩
    rw [hf _ _ (by omega) (by omega), hf _ _ (by omega) (by omega)]
    exact g5 q q1 q2
theorem OTx.sm {N : Nat} {ot : IH → Option IH} {c m0 m : IH} {i : Int} (h : OTx N ot c m0 i) (hs : SM m0 m) (hi : 0 ≤ i ∧ i < 48) : OTx N ot c m i := by
  have mA : ∀ b, m (2327 + i) b = m0 (2327 + i) b := fun b => hs.2.2.2 _ b (by omega)
  unfold OTx OT at *
  simp only [mA]
  exact h
/-- the class's edges of a place are the reference's, whenever it lays them -/
def QL (N : Nat) (c m0 : IH) (L i : Int) : Prop := ∀ m, SM m0 m → ∃ m1, G_X12_laysEdges N m i = some m1 ∧ EMg c m1 L i (c 59 i) (c 59 (i + 1) - c 59 i) ∧ FM m m1 i 0
/-- so many places are laid -/
def Mid (N : Nat) (c m0 : IH) (L p : Int) : Prop := c 59 p = c 57 5 ∧ (0 ≤ c 57 5 ∧ c 57 5 ≤ p * 26) ∧ (∀ i, 0 ≤ i → i < p → (0 ≤ c 59 i ∧ c 59 i < c 59 (i + 1) ∧ c 59 (i + 1) ≤ c 59 i + 26) ∧ QL N c m0 L i) ∧ c 59 0 = 0
theorem Mid.le {N : Nat} {c m0 : IH} {L p : Int} (h : Mid N c m0 L p) : ∀ (d : Nat) (i : Int), 0 ≤ i → i + d = p → c 59 i ≤ c 59 p := by
  intro d
  induction d with
  | zero => intro i h1 h2; rw [show i = p by omega]; exact Int.le_refl _
  | succ d ih =>
    intro i h1 h2
    have := (h.2.2.1 i h1 (by omega)).1
    have := ih (i + 1) (by omega) (by omega)
    omega
/-- one place more -/
theorem midS {N : Nat} {ot : IH → Option IH} {c m0 : IH} {L p : Int} (hN : 20000 ≤ N) (hp : 0 ≤ p ∧ p < L) (h : PR c m0 L) (ho : OTx N ot c m0 p) (hM : Mid N (xv c 59 p (c 57 5)) m0 L p) : wo (plc N ot (xv c 59 p (c 57 5)) p) (fun c' => Mid N (xv c' 59 (p + 1) (c' 57 5)) m0 L (p + 1) ∧ FN c c' ∧ PR c' m0 L) := by
  have hL := h.1.1
  have f1 : FN c (xv c 59 p (c 57 5)) := fun a b q1 q2 => xv_ne (by omega)
  have h1 := h.fn f1
  have ho1 := ho.fn f1
  obtain ⟨M1, M2, M3, M4⟩ := id hM
  rw [xv_ne (show ¬ ((57 : Int) = 59 ∧ (5 : Int) = p) by omega)] at M2
  have e57 : xv c 59 p (c 57 5) 57 5 = c 57 5 := xv_ne (by omega)
  have e59 : xv c 59 p (c 57 5) 59 p = c 57 5 := xv_eq rfl rfl
  have key : ∀ m, SM m0 m → wo (plc N ot (xv c 59 p (c 57 5)) p) (fun c' => (∃ m', G_X12_laysEdges N m p = some m' ∧ LR (xv c 59 p (c 57 5)) c' m m' L p (c 57 5) 0 26) ∧ c 57 5 < c' 57 5) := by
    intro m hm
    exact placeS hN hp (by omega) (h1.sm hm) e57 (ho1.sm hm (by omega))
  obtain ⟨c', e1, ⟨m1, e2, k', g1, g2, g3, g4, g5⟩, e3⟩ := key m0 SM.rf
  refine ⟨c', e1, ?_, f1.tr g4.fn, h1.fn g4.fn⟩
  rw [e57] at g4
  have c59 : ∀ b, c' 59 b = xv c 59 p (c 57 5) 59 b := fun b => g4.1 59 b (by omega) (by omega)
  have n57 : xv c' 59 (p + 1) (c' 57 5) 57 5 = c' 57 5 := xv_ne (by omega)
  have n59 : ∀ i, i ≤ p → xv c' 59 (p + 1) (c' 57 5) 59 i = xv c 59 p (c 57 5) 59 i := fun i hi => by rw [xv_ne (by omega), c59]
  have n59' : xv c' 59 (p + 1) (c' 57 5) 59 (p + 1) = c' 57 5 := xv_eq rfl rfl
  have g31 := g3.1
  refine ⟨by rw [n57, n59'], by rw [n57]; omega, fun i i1 i2 => ?_, by rw [n59 0 (by omega)]; exact M4⟩
  by_cases ci : i = p
  · subst ci
    rw [n59 i (by omega), n59', e59]
    refine ⟨by omega, fun m hm => ?_⟩
    obtain ⟨c2, d1, ⟨m2, d2, k2, d3, d4, d5, d6, d7⟩, d8⟩ := key m hm
    have ec : c2 = c' := Option.some.inj (d1.symm.trans e1)
    subst ec
    refine ⟨m2, d2, ?_, d7⟩
    rw [n59 i (by omega), n59', e59]
    have := d5.1
    rw [show c2 57 5 - c 57 5 = k2 by omega]
    exact d5.2.cv (fun a b q1 q2 => xv_ne (by omega))
  · have old := M3 i i1 (by omega)
    rw [n59 i (by omega), n59 (i + 1) (by omega)]
    refine ⟨old.1, fun m hm => ?_⟩
    obtain ⟨m2, d1, d2, d3⟩ := old.2 m hm
    refine ⟨m2, d1, ?_, d3⟩
    rw [n59 i (by omega), n59 (i + 1) (by omega)]
    have hle := hM.le (p - (i + 1)).toNat (i + 1) (by omega) (by omega)
    rw [e59] at hle
    exact (d2.fc g4 (by omega)).cv (fun a b q1 q2 => xv_ne (by omega))
theorem wo_plc {α : Type} {N : Nat} {ot : IH → Option IH} {c : IH} {i : Int} {P : IH → Prop} {k : IH → Option α} {Q : α → Prop} (h : wo (plc N ot c i) P) (hk : ∀ c', P c' → wo (k c') Q) : wo (ybv (G_X4_addRead N c i) (fun c1 => ybv (ot c1) (fun c2 => ybv (G_X4_addShapes N c2 i) k))) Q := by
  obtain ⟨c', h1, h2⟩ := h
  unfold plc at h1
  cases e1 : G_X4_addRead N c i with
  | none => rw [e1] at h1; cases h1
  | some c1 =>
    rw [e1, ybv_s] at h1
    rw [ybv_s]
    cases e2 : ot c1 with
    | none => rw [e2] at h1; cases h1
    | some c2 =>
      rw [e2, ybv_s] at h1
      rw [ybv_s, h1, ybv_s]
      exact hk c' h2
/-- the places of cells -/
theorem cells40 {N : Nat} {m0 : IH} {L st : Int} (hN : 20000 ≤ N) (hst : 0 ≤ st ∧ st + L ≤ 400) {Q : IH → Prop} : ∀ (f : Nat) (c : IH) (p : Int), 0 ≤ p → p ≤ L → PR c m0 L → (∀ i, 0 ≤ i → i < L → OT c m0 (st + i) i ∧ (isLt (m0 (2327 + i) 0) ∨ m0 (2327 + i) 1 = 0)) → Mid N (xv c 59 p (c 57 5)) m0 L p → L - p < f → (∀ c', FN c c' → PR c' m0 L → Mid N (xv c' 59 L (c' 57 5)) m0 L L → wo (G_X4_end N c') Q) → wo (G_X4_ofCells_40 N f c st p) Q := by
  intro f
  induction f with
  | zero => intro c p h1 h2 h3 h4 h5 h6; omega
  | succ f ih =>
    intro c p h1 h2 h3 h4 h5 h6 hQ
    have hL := h3.1.1
    unfold G_X4_ofCells_40
    rw [h3.1.2.1]
    by_cases c1 : L ≤ p
    · rw [if_pos c1]
      have : p = L := by omega
      subst this
      refine wo_ybv (hQ c FN.rf h3 h5) (fun a ha => wo_some ha)
    · rw [if_neg c1]
      (try simp (disch := omega) only [xlet_q, xq_in])
      rw [wr_in (show -2147483648 ≤ st + p by omega) (by omega), wr_in (show -2147483648 ≤ p + 1 by omega) (by omega)]
      have hp := h4 p h1 (by omega)
      refine wo_plc (ot := fun x => G_X4_addOthers N x p (st + p)) (midS hN ⟨h1, by omega⟩ h3 (Or.inr ⟨st + p, fun x => rfl, hp.1, hp.2⟩) h5) (fun c' hc' => ?_)
      obtain ⟨g1, g2, g3⟩ := hc'
      refine ih c' (p + 1) (by omega) (by omega) g3 (fun i i1 i2 => ?_) g1 (by omega) (fun c2 k1 k2 k3 => hQ c2 (g2.tr k1) k2 k3)
      obtain ⟨⟨q1, q2, q3, q4, q5⟩, q6⟩ := h4 i i1 i2
      refine ⟨⟨q1, by rw [g2 _ _ (by omega) (by omega)]; exact q2, q3, q4, fun q r1 r2 => ?_⟩, q6⟩
      rw [g2 _ _ (by omega) (by omega), g2 _ _ (by omega) (by omega)]
      exact q5 q r1 r2
/-- the places of a word -/
theorem word46 {N : Nat} {m0 : IH} {L : Int} (hN : 20000 ≤ N) {Q : IH → Prop} : ∀ (f : Nat) (c : IH) (p : Int), 0 ≤ p → p ≤ L → PR c m0 L → (∀ i, 0 ≤ i → i < L → m0 (2327 + i) 1 = 0) → Mid N (xv c 59 p (c 57 5)) m0 L p → L - p < f → (∀ c', FN c c' → PR c' m0 L → Mid N (xv c' 59 L (c' 57 5)) m0 L L → wo (G_X4_end N c') Q) → wo (G_X4_ofWord_46 N f c p) Q := by
  intro f
  induction f with
  | zero => intro c p h1 h2 h3 h4 h5 h6; omega
  | succ f ih =>
    intro c p h1 h2 h3 h4 h5 h6 hQ
    have hL := h3.1.1
    unfold G_X4_ofWord_46
    rw [h3.1.2.1]
    by_cases c1 : L ≤ p
    · rw [if_pos c1]
      have : p = L := by omega
      subst this
      refine wo_ybv (hQ c FN.rf h3 h5) (fun a ha => wo_some ha)
    · rw [if_neg c1]
      (try simp (disch := omega) only [xlet_q, xq_in])
      rw [wr_in (show -2147483648 ≤ p + 1 by omega) (by omega)]
      have hp := h4 p h1 (by omega)
      refine wo_plc (ot := fun x => some x) (midS hN ⟨h1, by omega⟩ h3 (Or.inl ⟨fun x => rfl, hp⟩) h5) (fun c' hc' => ?_)
      obtain ⟨g1, g2, g3⟩ := hc'
      exact ih c' (p + 1) (by omega) (by omega) g3 h4 g1 (by omega) (fun c2 k1 k2 k3 => hQ c2 (g2.tr k1) k2 k3)
