def PTH (m : IH) (P : Int → Int → Int) (W : Int) : Prop := ∀ w, 0 ≤ w → w < W → P w 0 = 0 ∧ P w (m 5 w) = m 7 w ∧ ∀ k, 0 ≤ k → k < m 5 w → 1 ≤ P w (k + 1) ∧ P w (k + 1) < m 0 15 ∧ m 8 (P w (k + 1)) = P w k ∧ m 9 (P w (k + 1)) = m (52 + w) k
def SPG (m : IH) (P : Int → Int → Int) (g : Int → Int) (W x d : Int) : Prop := (0 ≤ x ∧ x < m 0 15) ∧ (∀ w, 0 ≤ w → w < W → d ≤ m 5 w → (∀ k, 0 ≤ k → k < d → m (52 + w) k = g k) → P w d = x) ∧ ∀ w k, 0 ≤ w → w < W → 0 ≤ k → k ≤ m 5 w → P w k = x → k = d ∧ ∀ q, 0 ≤ q → q < d → m (52 + w) q = g q
/-- a node lies on the way so far -/
noncomputable def onq (Q : Int → Int) (d x : Int) : Int := @ite _ (∃ k, 0 ≤ k ∧ k ≤ d ∧ Q k = x) (Classical.propDecidable _) 1 0
section
variable {N : Nat} {c m : IH} {P : Int → Int → Int} {g Q : Int → Int}
theorem SPG.root {W : Int} (ht : TrM m) (hp : PTH m P W) : SPG m P g W 0 0 := by
  have h1 := ht.1
  refine ⟨by omega, fun w w1 w2 _ _ => (hp w w1 w2).1, fun w k w1 w2 k1 k2 e => ⟨?_, fun q q1 q2 => by omega⟩⟩
  by_cases k0 : k = 0
  · exact k0
  · have := ((hp w w1 w2).2.2 (k - 1) (by omega) (by omega)).1
    rw [show k - 1 + 1 = k by omega] at this
    omega
theorem SPG.step {W x d : Int} (ht : TrM m) (hp : PTH m P W) (h : SPG m P g W x d) (hd : 0 ≤ d) : (ch m x (g d) = -1 ∧ ∀ w, 0 ≤ w → w < W → d + 1 ≤ m 5 w → ¬ (∀ k, 0 ≤ k → k < d + 1 → m (52 + w) k = g k)) ∨ (1 ≤ ch m x (g d) ∧ SPG m P g W (ch m x (g d)) (d + 1)) := by
  rcases ch_cases m x (g d) with q | q
  · refine Or.inl ⟨q.1, fun w w1 w2 w3 e => ?_⟩
    have p := (hp w w1 w2).2.2 d hd (by omega)
    have ex := h.2.1 w w1 w2 (by omega) (fun k k1 k2 => e k k1 (by omega))
    exact q.2 (P w (d + 1)) p.1 p.2.1 (by rw [p.2.2.1]; exact ex) (by rw [p.2.2.2]; exact e d hd (by omega))
  · refine Or.inr ⟨q.1, ⟨⟨by omega, q.2.1⟩, fun w w1 w2 w3 e => ?_, fun w k w1 w2 k1 k2 e => ?_⟩⟩
    · have p := (hp w w1 w2).2.2 d hd (by omega)
      have ex := h.2.1 w w1 w2 (by omega) (fun k k1 k2 => e k k1 (by omega))
      exact (ch_uniq ht p.1 p.2.1 (by rw [p.2.2.1]; exact ex) (by rw [p.2.2.2]; exact e d hd (by omega))).symm
    · have k0 : k ≠ 0 := fun z => by
        rw [z, (hp w w1 w2).1] at e
        omega
      have p := (hp w w1 w2).2.2 (k - 1) (by omega) (by omega)
      rw [show k - 1 + 1 = k by omega, e, q.2.2.1, q.2.2.2] at p
      obtain ⟨y1, y2⟩ := h.2.2 w (k - 1) w1 w2 (by omega) (by omega) p.2.2.1.symm
      refine ⟨by omega, fun u u1 u2 => ?_⟩
      by_cases ud : u = d
      · have pz := p.2.2.2
        rw [y1] at pz
        rw [ud]
        exact pz.symm
      · exact y2 u u1 (by omega)
theorem onq_s {Q' : Int → Int} {d y x : Int} (hd : 0 ≤ d) (h1 : ∀ q, 0 ≤ q → q ≤ d → Q' q = Q q) (h2 : Q' (d + 1) = y) (h3 : ∀ q, 0 ≤ q → q ≤ d → Q q ≠ y) : onq Q' (d + 1) x = onq Q d x + (if x = y then 1 else 0) := by
  unfold onq
  by_cases e : x = y
  · rw [if_pos ⟨d + 1, by omega, by omega, h2.trans e.symm⟩, if_neg (fun z => ?_), if_pos e]
    · omega
    · obtain ⟨k, k1, k2, k3⟩ := z
      exact h3 k k1 k2 (k3.trans e)
  · rw [if_neg e]
    by_cases q : ∃ k, 0 ≤ k ∧ k ≤ d ∧ Q k = x
    · obtain ⟨k, k1, k2, k3⟩ := q
      rw [if_pos ⟨k, k1, by omega, (h1 k k1 k2).trans k3⟩, if_pos ⟨k, k1, k2, k3⟩]
      omega
    · rw [if_neg q, if_neg (fun z => ?_)]
      · omega
      · obtain ⟨k, k1, k2, k3⟩ := z
        by_cases ek : k = d + 1
        · rw [ek, h2] at k3
          exact e k3.symm
        · exact q ⟨k, k1, by omega, (h1 k k1 (by omega)).symm.trans k3⟩
theorem thr_cg {m' : IH} {P' : Int → Int → Int} {x : Int} : ∀ w : Nat, (∀ b : Int, 0 ≤ b → b < w → m' 5 b = m 5 b) → (∀ b k : Int, 0 ≤ b → b < w → P' b k = P b k) → thr m' P' x w = thr m P x w := by
  intro w
  induction w with
  | zero => intro _ _; rfl
  | succ w ih =>
    intro h1 h2
    simp only [thr]
    rw [ih (fun b b1 b2 => h1 b b1 (by omega)) (fun b k b1 b2 => h2 b k b1 (by omega)), h1 w (by omega) (by omega)]
    have e : ∀ k, P' w k = P w k := fun k => h2 w k (by omega) (by omega)
    have ee : (∃ k, 0 ≤ k ∧ k ≤ m 5 w ∧ P' w k = x) = (∃ k, 0 ≤ k ∧ k ≤ m 5 w ∧ P w k = x) := by simp only [e]
    rw [ee]
theorem thr_no {x : Int} : ∀ w : Nat, (∀ b k : Int, 0 ≤ b → b < w → 0 ≤ k → k ≤ m 5 b → P b k ≠ x) → thr m P x w = 0 := by
  intro w
  induction w with
  | zero => intro _; rfl
  | succ w ih =>
    intro h
    simp only [thr]
    rw [ih (fun b k b1 b2 => h b k b1 (by omega)), if_neg (fun z => ?_)]
    · omega
    · obtain ⟨k, k1, k2, k3⟩ := z
      exact h w k (by omega) (by omega) k1 k2 k3
/-- a node more, both sides -/
theorem TrM.add {m' : IH} {x s y : Int} (ht : TrM m) (hy : y = m 0 15) (hy2 : y < 721) (hx : 0 ≤ x ∧ x < y) (hs : sg s) (hn : ch m x s = -1) (h015 : m' 0 15 = y + 1) (h8 : m' 8 y = x) (h9 : m' 9 y = s) (o8 : ∀ z, z ≠ y → m' 8 z = m 8 z) (o9 : ∀ z, z ≠ y → m' 9 z = m 9 z) : TrM m' := by
  obtain ⟨t1, t2, t3⟩ := ht
  have nc : ∀ z, 1 ≤ z → z < m 0 15 → m 8 z = x → m 9 z ≠ s := by
    rcases ch_cases m x s with q | q
    · exact q.2
    · omega
  refine ⟨by omega, fun z z1 z2 => ?_, fun a b z1 z2 z3 z4 => ?_⟩
  · by_cases e : z = y
    · rw [e, h8, h9]; exact ⟨by omega, by omega, hs⟩
    · rw [o8 z e, o9 z e]; exact t2 z z1 (by omega)
  · rw [o8 a (by omega)] at z4
    rw [o9 a (by omega)]
    by_cases e : b = y
    · rw [e, h8] at z4
      rw [e, h9]
      exact nc a z1 (by omega) z4
    · rw [o8 b e] at z4
      rw [o9 b e]
      exact t3 a b z1 z2 (by omega) z4
theorem TrC.add {c' m' : IH} {x s y : Int} (ht : TrM m) (hc : TrC c m) (hy : y = m 0 15) (hx : 0 ≤ x ∧ x < y) (h45 : c' 4 5 = y + 1) (h015 : m' 0 15 = y + 1) (h8 : m' 8 y = x) (h9 : m' 9 y = s) (h10 : m' 10 y = -1) (o8 : ∀ z, z ≠ y → m' 8 z = m 8 z) (o9 : ∀ z, z ≠ y → m' 9 z = m 9 z) (o10 : ∀ z, z ≠ y → m' 10 z = m 10 z) (c9 : c' 9 y = x) (c10 : c' 10 y = s) (c11 : c' 11 y = -1) (c12 : c' 12 y = -1) (c12x : c' 12 x = y) (c13 : c' 13 y = c 12 x) (p9 : ∀ z, z ≠ y → c' 9 z = c 9 z) (p10 : ∀ z, z ≠ y → c' 10 z = c 10 z) (p11 : ∀ z, z ≠ y → c' 11 z = c 11 z) (p12 : ∀ z, z ≠ y → z ≠ x → c' 12 z = c 12 z) (p13 : ∀ z, z ≠ y → c' 13 z = c 13 z) : TrC c' m' := by
  obtain ⟨t1, t2, t3⟩ := ht
  obtain ⟨u1, u2, u3, u4⟩ := hc
  have par : ∀ z, 1 ≤ z → z < y → m 8 z < y := fun z z1 z2 => by
    have := t2 z z1 (by omega)
    omega
  refine ⟨by omega, fun z z1 z2 => ?_, fun p p1 p2 => ?_, fun z z1 z2 => ?_⟩
  · by_cases e : z = y
    · rw [e, c9, c10, c11, h8, h9, h10]; exact ⟨rfl, rfl, rfl⟩
    · rw [p9 z e, p10 z e, p11 z e, o8 z e, o9 z e, o10 z e]
      exact u2 z z1 (by omega)
  · by_cases e : p = y
    · left
      refine ⟨by rw [e]; exact c12, fun z z1 z2 => ?_⟩
      by_cases ez : z = y
      · rw [ez, h8]; omega
      · rw [o8 z ez]
        have := par z z1 (by omega)
        omega
    · by_cases ex : p = x
      · right
        rw [ex, c12x]
        exact ⟨by omega, by omega, h8, fun z z1 z2 => by omega⟩
      · rw [p12 p e ex]
        rcases u3 p p1 (by omega) with ⟨q1, q2⟩ | ⟨q1, q2, q3, q4⟩
        · left
          refine ⟨q1, fun z z1 z2 => ?_⟩
          by_cases ez : z = y
          · rw [ez, h8]; exact fun w => ex w.symm
          · rw [o8 z ez]; exact q2 z z1 (by omega)
        · right
          refine ⟨q1, by omega, by rw [o8 _ (by omega)]; exact q3, fun z z1 z2 => ?_⟩
          by_cases ez : z = y
          · rw [ez, h8]; exact fun w => ex w.symm
          · rw [o8 z ez]; exact q4 z z1 (by omega)
  · by_cases e : z = y
    · rw [e, c13, h8]
      rcases u3 x hx.1 (by omega) with ⟨q1, q2⟩ | ⟨q1, q2, q3, q4⟩
      · left
        exact ⟨q1, fun w w1 w2 => by rw [o8 w (by omega)]; exact q2 w w1 (by omega)⟩
      · right
        exact ⟨q1, by omega, by rw [o8 _ (by omega)]; exact q3, fun w w1 w2 => by rw [o8 w (by omega)]; exact q4 w w1 (by omega)⟩
    · rw [p13 z e, o8 z e]
      rcases u4 z z1 (by omega) with ⟨q1, q2⟩ | ⟨q1, q2, q3, q4⟩
      · left
        exact ⟨q1, fun w w1 w2 => by rw [o8 w (by omega)]; exact q2 w w1 w2⟩
      · right
        exact ⟨q1, q2, by rw [o8 _ (by omega)]; exact q3, fun w w1 w2 => by rw [o8 w (by omega)]; exact q4 w w1 w2⟩
/-- a word grows: d of its signs are planted, on the way Q -/
def GW (c m : IH) (P : Int → Int → Int) (Q : Int → Int) (W d : Int) : Prop := (TrM m ∧ TrC c m ∧ PTH m P W) ∧ (Q 0 = 0 ∧ ∀ q, 0 ≤ q → q < d → 1 ≤ Q (q + 1) ∧ Q (q + 1) < m 0 15 ∧ m 8 (Q (q + 1)) = Q q ∧ m 9 (Q (q + 1)) = m (52 + W) q) ∧ SPG m P (fun k => m (52 + W) k) W (Q d) d ∧ ((∀ x, 0 ≤ x → x < m 0 15 → m 10 x = -1 ∨ (0 ≤ m 10 x ∧ m 10 x < W ∧ m 7 (m 10 x) = x)) ∧ ∀ w, 0 ≤ w → w < W → 1 ≤ m 7 w ∧ m 7 w < m 0 15 ∧ m 10 (m 7 w) = w ∧ 1 ≤ m 5 w) ∧ (∀ x, 1 ≤ x → x < m 0 15 → (∃ w k, 0 ≤ w ∧ w < W ∧ 0 ≤ k ∧ k ≤ m 5 w ∧ P w k = x) ∨ ∃ q, 0 ≤ q ∧ q ≤ d ∧ Q q = x) ∧ (m 0 15 ≤ 1 + 12 * W + d ∧ m 8 0 = -1 ∧ m 9 0 = 0) ∧ (∀ x, 0 ≤ x → x < m 0 15 → c 14 x = thr m P x W.toNat + onq Q d x) ∧ ∀ q, 0 ≤ q → q ≤ d → Q q ≤ Q d
theorem PTH.lt {W w k : Int} (ht : TrM m) (hp : PTH m P W) (hw : 0 ≤ w ∧ w < W) (hk : 0 ≤ k ∧ k ≤ m 5 w) : 0 ≤ P w k ∧ P w k < m 0 15 := by
  have h1 := ht.1
  by_cases k0 : k = 0
  · rw [k0, (hp w hw.1 hw.2).1]; omega
  · have := (hp w hw.1 hw.2).2.2 (k - 1) (by omega) (by omega)
    rw [show k - 1 + 1 = k by omega] at this
    omega
theorem GW.next {c' m' : IH} {W d y : Int} (h : GW c m P Q W d) (hd : 0 ≤ d) (hW : 0 ≤ W) (tm : TrM m') (tc : TrC c' m') (y1 : 1 ≤ y) (y2 : y < m' 0 15) (y3 : m' 8 y = Q d) (y4 : m' 9 y = m (52 + W) d) (hg : m 0 15 ≤ m' 0 15) (hg2 : ∀ z, m 0 15 ≤ z → z < m' 0 15 → z = y ∧ m' 10 z = -1) (hg3 : m' 0 15 ≤ m 0 15 + 1) (o8 : ∀ z, z < m 0 15 → m' 8 z = m 8 z) (o9 : ∀ z, z < m 0 15 → m' 9 z = m 9 z) (o10 : ∀ z, z < m 0 15 → m' 10 z = m 10 z) (o5 : ∀ b, m' 5 b = m 5 b) (o7 : ∀ b, m' 7 b = m 7 b) (oR : ∀ e b, 0 ≤ e → e ≤ W → m' (52 + e) b = m (52 + e) b) (o14 : ∀ z, 0 ≤ z → z < m 0 15 → c' 14 z = c 14 z + (if z = y then 1 else 0)) (n14 : m 0 15 ≤ y → c' 14 y = 1) (sp : SPG m' P (fun k => m' (52 + W) k) W y (d + 1)) : GW c' m' P (fun q => if q = d + 1 then y else Q q) W (d + 1) := by
  obtain ⟨⟨a1, a2, a3⟩, ⟨b1, b2⟩, b3, ⟨b4, b5⟩, b6, ⟨b7, b8, b9⟩, b10, b11⟩ := h
  have n1 := a1.1
  have Qd : 0 ≤ Q d ∧ Q d < m 0 15 := b3.1
  have Qy : Q d < y := by
    have := (tm.2.1 y y1 y2).2.1
    omega
  have Qe : ∀ q, 0 ≤ q → q ≤ d → (fun q => if q = d + 1 then y else Q q) q = Q q := fun q q1 q2 => if_neg (by omega)
  have Qs : (fun q => if q = d + 1 then y else Q q) (d + 1) = y := if_pos rfl
  have pth : PTH m' P W := fun w w1 w2 => by
    obtain ⟨p1, p2, p3⟩ := a3 w w1 w2
    rw [o5, o7]
    refine ⟨p1, p2, fun k k1 k2 => ?_⟩
    obtain ⟨r1, r2, r3, r4⟩ := p3 k k1 k2
    rw [o8 _ r2, o9 _ r2, oR w k w1 (by omega)]
    exact ⟨r1, by omega, r3, r4⟩
  refine ⟨⟨tm, tc, pth⟩, ⟨by rw [Qe 0 (by omega) hd]; exact b1, fun q q1 q2 => ?_⟩, by rw [Qs]; exact sp, ⟨fun x x1 x2 => ?_, fun w w1 w2 => ?_⟩, fun x x1 x2 => ?_, ⟨by omega, by rw [o8 _ (by omega)]; exact b8, by rw [o9 _ (by omega)]; exact b9⟩, fun x x1 x2 => ?_, fun q q1 q2 => ?_⟩
  · rw [Qe q q1 (by omega), oR W q hW (by omega)]
    by_cases e : q = d
    · rw [e, Qs]
      exact ⟨y1, y2, y3, y4⟩
    · rw [Qe (q + 1) (by omega) (by omega)]
      obtain ⟨r1, r2, r3, r4⟩ := b2 q q1 (by omega)
      rw [o8 _ r2, o9 _ r2]
      exact ⟨r1, by omega, r3, r4⟩
  · by_cases xn : x < m 0 15
    · rw [o10 x xn, o7]; exact b4 x x1 xn
    · exact Or.inl (hg2 x (by omega) x2).2
  · obtain ⟨r1, r2, r3, r4⟩ := b5 w w1 w2
    rw [o7, o10 _ r2, o5]
    exact ⟨r1, by omega, r3, r4⟩
  · by_cases xn : x < m 0 15
    · rcases b6 x x1 xn with ⟨w, k, r1, r2, r3, r4, r5⟩ | ⟨q, r1, r2, r3⟩
      · exact Or.inl ⟨w, k, r1, r2, r3, by rw [o5]; exact r4, r5⟩
      · exact Or.inr ⟨q, r1, by omega, by rw [Qe q r1 r2]; exact r3⟩
    · exact Or.inr ⟨d + 1, by omega, by omega, by rw [Qs]; exact (hg2 x (by omega) x2).1.symm⟩
  · rw [onq_s (Q := Q) (y := y) hd Qe Qs (fun q q1 q2 => by have := b11 q q1 q2; omega), thr_cg (m := m) (P := P) W.toNat (fun b _ _ => o5 b) (fun _ _ _ _ => rfl)]
    by_cases xn : x < m 0 15
    · rw [o14 x x1 xn, b10 x x1 xn]
      omega
    · have xy := (hg2 x (by omega) x2).1
      rw [xy, n14 (by omega), if_pos rfl, thr_no W.toNat (fun b k q1 q2 q3 q4 => ?_)]
      · unfold onq
        rw [if_neg (fun z => ?_)]
        · omega
        · obtain ⟨q, q1, q2, q3⟩ := z
          have := b11 q q1 q2
          omega
      · have := (PTH.lt a1 a3 (w := b) ⟨q1, by omega⟩ ⟨q3, q4⟩).2
        omega
  · rw [Qs]
    by_cases e : q = d + 1
    · rw [e, Qs]; omega
    · rw [Qe q q1 (by omega)]
      have := b11 q q1 (by omega)
      omega
end
