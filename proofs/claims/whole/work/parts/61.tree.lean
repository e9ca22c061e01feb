/-- a letter or a hyphen -/
def sg (s : Int) : Prop := s = 45 ∨ (97 ≤ s ∧ s ≤ 122)
/-- the reference's tree: parents, signs -/
def TrM (m : IH) : Prop := (1 ≤ m 0 15 ∧ m 0 15 ≤ 721) ∧ (∀ x, 1 ≤ x → x < m 0 15 → 0 ≤ m 8 x ∧ m 8 x < x ∧ sg (m 9 x)) ∧ (∀ x y, 1 ≤ x → x < y → y < m 0 15 → m 8 x = m 8 y → m 9 x ≠ m 9 y)
/-- the child by a sign; -1: none -/
noncomputable def pick (Q : Int → Prop) : Int := @dite _ (∃ x, Q x) (Classical.propDecidable _) (fun h => h.choose) (fun _ => -1)
noncomputable def ch (m : IH) (p s : Int) : Int := pick (fun x => 1 ≤ x ∧ x < m 0 15 ∧ m 8 x = p ∧ m 9 x = s)
theorem ch_cases (m : IH) (p s : Int) : (ch m p s = -1 ∧ ∀ x, 1 ≤ x → x < m 0 15 → m 8 x = p → m 9 x ≠ s) ∨ (1 ≤ ch m p s ∧ ch m p s < m 0 15 ∧ m 8 (ch m p s) = p ∧ m 9 (ch m p s) = s) := by
  unfold ch pick
  by_cases h : ∃ x, 1 ≤ x ∧ x < m 0 15 ∧ m 8 x = p ∧ m 9 x = s
  · right
    rw [dif_pos h]
    exact h.choose_spec
  · left
    rw [dif_neg h]
    exact ⟨rfl, fun x h1 h2 h3 h4 => h ⟨x, h1, h2, h3, h4⟩⟩
theorem ch_uniq {m : IH} {p s x : Int} (h : TrM m) (h1 : 1 ≤ x) (h2 : x < m 0 15) (h3 : m 8 x = p) (h4 : m 9 x = s) : ch m p s = x := by
  rcases ch_cases m p s with ⟨e, q⟩ | ⟨e1, e2, e3, e4⟩
  · exact absurd h4 (q x h1 h2 h3)
  · by_cases c1 : ch m p s < x
    · exact absurd (e4.trans h4.symm) (h.2.2 _ _ e1 c1 h2 (e3.trans h3.symm))
    · by_cases c2 : x < ch m p s
      · exact absurd (h4.trans e4.symm) (h.2.2 _ _ h1 c2 e2 (h3.trans e3.symm))
      · omega
theorem ch_none {m : IH} {p s : Int} (h : ∀ x, 1 ≤ x → x < m 0 15 → m 8 x = p → m 9 x ≠ s) : ch m p s = -1 := by
  rcases ch_cases m p s with ⟨e, q⟩ | ⟨e1, e2, e3, e4⟩
  · exact e
  · exact absurd e4 (h _ e1 e2 e3)
theorem ch_eq {m m' : IH} {p s : Int} (h1 : m' 0 15 = m 0 15) (h2 : ∀ x, m' 8 x = m 8 x) (h3 : ∀ x, m' 9 x = m 9 x) : ch m' p s = ch m p s := by
  have e : (fun x => 1 ≤ x ∧ x < m' 0 15 ∧ m' 8 x = p ∧ m' 9 x = s) = (fun x => 1 ≤ x ∧ x < m 0 15 ∧ m 8 x = p ∧ m 9 x = s) := by
    funext x
    rw [h1, h2, h3]
  unfold ch
  rw [e]
theorem chM0 {N : Nat} {m : IH} {p s : Int} (h : TrM m) : ∀ (f : Nat) (x : Int), 1 ≤ x → x ≤ m 0 15 → (∀ y, 1 ≤ y → y < x → m 8 y = p → m 9 y ≠ s) → m 0 15 - x < f → G_X12_childOf_4 N f m p s x = some (ch m p s, m) := by
  intro f
  induction f with
  | zero =>
    intro x h1 h0 h2 h3
    omega
  | succ f ih =>
    intro x h1 h0 h2 h3
    unfold G_X12_childOf_4 G_X12_childOf_34
    have hn := h.1
    by_cases c1 : m 0 15 ≤ x
    · rw [if_pos c1, ch_none (fun y a b => h2 y a (by omega))]
    · rw [if_neg c1]
      have hi := ih (x + 1) (by omega) (by omega)
      have w1 : wr (x + 1) = x + 1 := wr_in (by omega) (by omega)
      by_cases c2 : m 8 x = p
      · by_cases c3 : m 9 x = s
        · have := ch_uniq h h1 (by omega) c2 c3
          grind [xq, xlet]
        · have := hi (by grind) (by omega)
          grind [xq, xlet]
      · have := hi (by grind) (by omega)
        grind [xq, xlet]
theorem chM {N : Nat} {m : IH} {p s : Int} (hN : 20000 ≤ N) (h : TrM m) (hp : 0 ≤ p ∧ p < m 0 15) : G_X12_childOf N m p s = some (ch m p s, m) := by
  unfold G_X12_childOf xlet
  have hn := h.1
  rw [wr_in (by omega) (by omega)]
  exact chM0 h N (p + 1) (by omega) (by omega) (fun y a b c => by have := h.2.1 y a (by omega); omega) (by omega)
/-- how many children up to a node -/
def cc (m : IH) (p : Int) : Nat → Nat
  | 0 => 0
  | x + 1 => cc m p x + (if m 8 ((x : Int) + 1) = p then 1 else 0)
/-- children up to a node whose sign's code is below a number -/
def cs (m : IH) (p : Int) (b : Int) : Nat → Nat
  | 0 => 0
  | x + 1 => cs m p b x + (if m 8 ((x : Int) + 1) = p ∧ (if m 9 ((x : Int) + 1) = 45 then 0 else m 9 ((x : Int) + 1) - 96) < b then 1 else 0)
theorem cs_one {m : IH} {p b : Int} (h : TrM m) : ∀ x : Nat, (x : Int) < m 0 15 → cs m p (b + 1) x ≤ cs m p b x + 1 ∧ (cs m p (b + 1) x = cs m p b x ∨ ∃ y : Nat, y < x ∧ m 8 ((y : Int) + 1) = p ∧ (if m 9 ((y : Int) + 1) = 45 then 0 else m 9 ((y : Int) + 1) - 96) = b) := by
  intro x
  induction x with
  | zero => intro _; exact ⟨by simp [cs], Or.inl rfl⟩
  | succ x ih =>
    intro hx
    obtain ⟨i1, i2⟩ := ih (by omega)
    have t2 := h.2.1 (x + 1) (by omega) (by omega)
    unfold sg at t2
    simp only [cs]
    by_cases c1 : m 8 ((x : Int) + 1) = p
    · by_cases c2 : (if m 9 ((x : Int) + 1) = 45 then 0 else m 9 ((x : Int) + 1) - 96) < b
      · rw [if_pos ⟨c1, by omega⟩, if_pos ⟨c1, c2⟩]
        refine ⟨by omega, ?_⟩
        rcases i2 with e | ⟨y, e1, e2⟩
        · left; omega
        · right; exact ⟨y, by omega, e2⟩
      · by_cases c3 : (if m 9 ((x : Int) + 1) = 45 then 0 else m 9 ((x : Int) + 1) - 96) < b + 1
        · rw [if_pos ⟨c1, c3⟩, if_neg (fun q => c2 q.2)]
          have c4 : (if m 9 ((x : Int) + 1) = 45 then 0 else m 9 ((x : Int) + 1) - 96) = b := by omega
          refine ⟨?_, Or.inr ⟨x, by omega, c1, c4⟩⟩
          rcases i2 with e | ⟨y, e1, e2, e3⟩
          · omega
          · exfalso
            have t3 := h.2.1 (y + 1) (by omega) (by omega)
            unfold sg at t3
            have := h.2.2 (y + 1) (x + 1) (by omega) (by omega) (by omega) (by rw [e2, c1])
            apply this
            by_cases d1 : m 9 ((x : Int) + 1) = 45 <;> by_cases d2 : m 9 ((y : Int) + 1) = 45 <;> simp only [d1, d2, if_true, if_false] at c4 e3 ⊢ <;> omega
        · rw [if_neg (fun q => c3 q.2), if_neg (fun q => c2 q.2)]
          refine ⟨by omega, ?_⟩
          rcases i2 with e | ⟨y, e1, e2⟩
          · left; omega
          · right; exact ⟨y, by omega, e2⟩
    · rw [if_neg (fun q => c1 q.1), if_neg (fun q => c1 q.1)]
      refine ⟨by omega, ?_⟩
      rcases i2 with e | ⟨y, e1, e2⟩
      · left; omega
      · right; exact ⟨y, by omega, e2⟩
theorem cs_le {m : IH} {p : Int} (h : TrM m) {x : Nat} (hx : (x : Int) < m 0 15) : ∀ b : Nat, cs m p b x ≤ b := by
  intro b
  induction b with
  | zero =>
    have : ∀ x : Nat, (x : Int) < m 0 15 → cs m p (0 : Nat) x = 0 := by
      intro x
      induction x with
      | zero => intro _; rfl
      | succ x ih =>
        intro hx
        have t2 := h.2.1 (x + 1) (by omega) (by omega)
        unfold sg at t2
        simp only [cs]
        rw [ih (by omega), if_neg]
        intro q
        by_cases d1 : m 9 ((x : Int) + 1) = 45 <;> simp only [d1, if_true, if_false] at q <;> omega
    rw [this x hx]
    omega
  | succ b ih =>
    have := (cs_one (p := p) (b := b) h x hx).1
    rw [show ((b + 1 : Nat) : Int) = (b : Int) + 1 by omega]
    omega
theorem cc_cs {m : IH} {p : Int} (h : TrM m) : ∀ x : Nat, (x : Int) < m 0 15 → cc m p x = cs m p 27 x := by
  intro x
  induction x with
  | zero => intro _; rfl
  | succ x ih =>
    intro hx
    have t2 := h.2.1 (x + 1) (by omega) (by omega)
    unfold sg at t2
    simp only [cc, cs]
    rw [ih (by omega)]
    by_cases c1 : m 8 ((x : Int) + 1) = p
    · have : (if m 9 ((x : Int) + 1) = 45 then 0 else m 9 ((x : Int) + 1) - 96) < 27 := by
        by_cases d1 : m 9 ((x : Int) + 1) = 45
        · rw [if_pos d1]; omega
        · rw [if_neg d1]; omega
      rw [if_pos c1, if_pos ⟨c1, this⟩]
    · rw [if_neg c1, if_neg (fun q => c1 q.1)]
/-- a node has 27 children at most -/
theorem cc_le {m : IH} {p : Int} (h : TrM m) {x : Nat} (hx : (x : Int) < m 0 15) : cc m p x ≤ 27 := by
  rw [cc_cs h x hx]
  exact cs_le h hx 27
theorem cc_same {m : IH} {p : Int} : ∀ (d y : Nat), (∀ z : Int, y < z → z ≤ (y + d : Nat) → m 8 z ≠ p) → cc m p (y + d) = cc m p y := by
  intro d
  induction d with
  | zero => intro y _; rfl
  | succ d ih =>
    intro y hy
    rw [← Nat.add_assoc]
    simp only [cc]
    rw [ih y (fun z h1 h2 => hy z h1 (by omega)), if_neg (hy _ (by omega) (by omega))]
    rfl
/-- the class's tree is the reference's, its children's lists -/
def TrC (c m : IH) : Prop := c 4 5 = m 0 15 ∧ (∀ x, 0 ≤ x → x < m 0 15 → c 9 x = m 8 x ∧ c 10 x = m 9 x ∧ c 11 x = m 10 x) ∧ (∀ p, 0 ≤ p → p < m 0 15 → (c 12 p = -1 ∧ ∀ x, 1 ≤ x → x < m 0 15 → m 8 x ≠ p) ∨ (1 ≤ c 12 p ∧ c 12 p < m 0 15 ∧ m 8 (c 12 p) = p ∧ ∀ x, c 12 p < x → x < m 0 15 → m 8 x ≠ p)) ∧ (∀ x, 1 ≤ x → x < m 0 15 → (c 13 x = -1 ∧ ∀ y, 1 ≤ y → y < x → m 8 y ≠ m 8 x) ∨ (1 ≤ c 13 x ∧ c 13 x < x ∧ m 8 (c 13 x) = m 8 x ∧ ∀ y, c 13 x < y → y < x → m 8 y ≠ m 8 x))
theorem cc_sib {c m : IH} {p x : Int} (h : TrM m) (hc : TrC c m) (h1 : 1 ≤ x) (h2 : x < m 0 15) (h3 : m 8 x = p) : (c 13 x = -1 ∧ cc m p x.toNat = 1) ∨ (1 ≤ c 13 x ∧ c 13 x < x ∧ m 8 (c 13 x) = p ∧ cc m p x.toNat = cc m p (c 13 x).toNat + 1) := by
  have hs := hc.2.2.2 x h1 h2
  obtain ⟨k, hk⟩ : ∃ k : Nat, x.toNat = k + 1 := ⟨x.toNat - 1, by omega⟩
  have e1 : cc m p x.toNat = cc m p k + 1 := by
    rw [hk]
    simp only [cc]
    rw [if_pos (by rw [show (k : Int) + 1 = x by omega]; exact h3)]
  rcases hs with ⟨a, b⟩ | ⟨a1, a2, a3, b⟩
  · left
    refine ⟨a, ?_⟩
    have := cc_same (m := m) (p := p) k 0 (fun z q1 q2 => by rw [← h3]; exact b z (by omega) (by omega))
    rw [Nat.zero_add] at this
    rw [e1, this]
    rfl
  · right
    refine ⟨a1, a2, by rw [a3, h3], ?_⟩
    have := cc_same (m := m) (p := p) (k - (c 13 x).toNat) (c 13 x).toNat (fun z q1 q2 => by rw [← h3]; exact b z (by omega) (by omega))
    rw [show (c 13 x).toNat + (k - (c 13 x).toNat) = k by omega] at this
    rw [e1, this]
theorem chC0 {N : Nat} {c m : IH} {p s : Int} (h : TrM m) (hc : TrC c m) : ∀ (f : Nat) (x i : Int), (x = -1 ∧ (∀ y, 1 ≤ y → y < m 0 15 → m 8 y = p → m 9 y ≠ s)) ∨ (1 ≤ x ∧ x < m 0 15 ∧ m 8 x = p ∧ (∀ y, x < y → y < m 0 15 → m 8 y = p → m 9 y ≠ s) ∧ i + cc m p x.toNat ≤ 27) → 0 ≤ i → i ≤ 27 → 27 - i < f → G_X2_childOf_10 N f c s x i = some (ch m p s, c) := by
  intro f
  induction f with
  | zero => intro x i h1 h2 h3 h4; omega
  | succ f ih =>
    intro x i h1 h2 h3 h4
    unfold G_X2_childOf_10
    have hn := h.1
    rcases h1 with ⟨h1, h5⟩ | ⟨h1, h5, h6, h7, h8⟩
    · rw [ch_none h5]
      grind
    · have h9 : 1 ≤ cc m p x.toNat := by
        rcases cc_sib h hc h1 h5 h6 with q | q <;> omega
      rw [if_neg (by omega), if_neg (by omega), (hc.2.1 x (by omega) h5).2.1]
      unfold xq
      rw [if_pos (by omega)]
      by_cases c3 : m 9 x = s
      · rw [if_pos c3, ch_uniq h h1 h5 h6 c3]
      · rw [if_neg c3, if_pos (by omega)]
        unfold xlet
        rw [wr_in (by omega) (by omega)]
        refine ih _ _ ?_ (by omega) (by omega) (by omega)
        have hs := hc.2.2.2 x h1 h5
        rcases cc_sib h hc h1 h5 h6 with ⟨q1, q2⟩ | ⟨q1, q2, q3, q4⟩
        · left
          refine ⟨q1, fun y y1 y2 y3 => ?_⟩
          grind
        · right
          refine ⟨q1, by omega, q3, fun y y1 y2 y3 => ?_, by omega⟩
          grind
theorem chC {N : Nat} {c m : IH} {p s : Int} (hN : 20000 ≤ N) (h : TrM m) (hc : TrC c m) (hp : 0 ≤ p ∧ p < m 0 15) : G_X2_childOf N c p s = some (ch m p s, c) := by
  unfold G_X2_childOf xlet xq
  have hn := h.1
  rw [if_pos (by omega)]
  refine chC0 h hc N _ 0 ?_ (by omega) (by omega) (by omega)
  rcases hc.2.2.1 p hp.1 hp.2 with ⟨q1, q2⟩ | ⟨q1, q2, q3, q4⟩
  · left
    exact ⟨q1, fun y y1 y2 y3 => absurd y3 (q2 y y1 y2)⟩
  · right
    refine ⟨q1, q2, q3, fun y y1 y2 y3 => absurd y3 (q4 y y1 y2), ?_⟩
    have := cc_le (p := p) h (x := (c 12 p).toNat) (by omega)
    omega
theorem cntC0 {N : Nat} {c m : IH} {p : Int} (h : TrM m) (hc : TrC c m) : ∀ (f : Nat) (x i v : Int), x = -1 ∨ (1 ≤ x ∧ x < m 0 15 ∧ m 8 x = p ∧ i + cc m p x.toNat ≤ 27) → 0 ≤ i → i ≤ 27 → 0 ≤ v → v ≤ i → 27 - i < f → G_X2_countChildren_12 N f c v x i = some (v + (if x = -1 then 0 else (cc m p x.toNat : Int)), c) := by
  intro f
  induction f with
  | zero => intro x i v h1 h2 h3 h4; omega
  | succ f ih =>
    intro x i v h1 h2 h3 hv hv2 h4
    unfold G_X2_countChildren_12
    have hn := h.1
    rcases h1 with h1 | ⟨h1, h5, h6, h8⟩
    · grind
    · have h9 := cc_sib h hc h1 h5 h6
      rw [if_neg (by omega), if_neg (by omega)]
      have hi := ih (c 13 x) (i + 1) (v + 1) (by grind) (by omega) (by omega) (by omega) (by omega) (by omega)
      simp only [xlet, xq]
      rw [if_pos (by omega), wr_in (by omega) (by omega), wr_in (by omega) (by omega), hi, if_neg (show ¬ x = -1 by omega)]
      rcases h9 with ⟨q1, q2⟩ | ⟨q1, q2, q3, q4⟩
      · rw [if_pos q1, q2]
        congr 2
        omega
      · rw [if_neg (by omega), q4]
        congr 2
        omega
theorem cntM0 {N : Nat} {m : IH} {p : Int} (h : TrM m) : ∀ (f : Nat) (x v : Int), 1 ≤ x → x ≤ m 0 15 → v = (cc m p (x - 1).toNat : Int) → m 0 15 - x < f → G_X12_children_6 N f m p v x = some ((cc m p (m 0 15 - 1).toNat : Int), m) := by
  intro f
  induction f with
  | zero => intro x v h1 h2 h3 h4; omega
  | succ f ih =>
    intro x v h1 h2 h3 h4
    have hn := h.1
    unfold G_X12_children_6 G_X12_children_30
    by_cases c1 : m 0 15 ≤ x
    · rw [if_pos c1, h3, show x = m 0 15 by omega]
    · rw [if_neg c1]
      have hb := cc_le (p := p) h (x := (x - 1).toNat) (by omega)
      have e : cc m p x.toNat = cc m p (x - 1).toNat + (if m 8 x = p then 1 else 0) := by
        rw [show x.toNat = (x - 1).toNat + 1 by omega]
        simp only [cc]
        rw [show (((x - 1).toNat : Nat) : Int) + 1 = x by omega]
      unfold xlet xq
      rw [if_pos (by omega)]
      by_cases c2 : m 8 x = p
      · rw [if_pos c2] at e ⊢
        rw [wr_in (by omega) (by omega), wr_in (by omega) (by omega)]
        exact ih _ _ (by omega) (by omega) (by rw [show x + 1 - 1 = x by omega]; omega) (by omega)
      · rw [if_neg c2] at e ⊢
        rw [wr_in (by omega) (by omega), wr_in (by omega) (by omega)]
        exact ih _ _ (by omega) (by omega) (by rw [show x + 1 - 1 = x by omega]; omega) (by omega)
/-- children counted, on both sides -/
theorem cntS {N : Nat} {c m : IH} {p : Int} (hN : 20000 ≤ N) (h : TrM m) (hc : TrC c m) (hp : 0 ≤ p ∧ p < m 0 15) : ∃ v, G_X2_countChildren N c p = some (v, c) ∧ G_X12_children N m p = some (v, m) := by
  have hn := h.1
  refine ⟨(cc m p (m 0 15 - 1).toNat : Int), ?_, ?_⟩
  · unfold G_X2_countChildren
    simp only [xlet, xq]
    rw [if_pos (by omega)]
    rcases hc.2.2.1 p hp.1 hp.2 with ⟨q1, q2⟩ | ⟨q1, q2, q3, q4⟩
    · have := cntC0 (N := N) (p := p) h hc N (c 12 p) 0 0 (Or.inl q1) (by omega) (by omega) (by omega) (by omega) (by omega)
      rw [this, if_pos q1]
      have e := cc_same (m := m) (p := p) (m 0 15 - 1).toNat 0 (fun z a b => q2 z (by omega) (by omega))
      rw [Nat.zero_add] at e
      rw [e]
      rfl
    · have hb := cc_le (p := p) h (x := (c 12 p).toNat) (by omega)
      have := cntC0 (N := N) (p := p) h hc N (c 12 p) 0 0 (Or.inr ⟨q1, q2, q3, by omega⟩) (by omega) (by omega) (by omega) (by omega) (by omega)
      rw [this, if_neg (by omega)]
      have e := cc_same (m := m) (p := p) ((m 0 15 - 1).toNat - (c 12 p).toNat) (c 12 p).toNat (fun z a b => q4 z (by omega) (by omega))
      rw [show (c 12 p).toNat + ((m 0 15 - 1).toNat - (c 12 p).toNat) = (m 0 15 - 1).toNat by omega] at e
      rw [e, Int.zero_add]
  · unfold G_X12_children xlet
    rw [wr_in (by omega) (by omega)]
    refine cntM0 h N (p + 1) 0 (by omega) (by omega) ?_ (by omega)
    have e := cc_same (m := m) (p := p) p.toNat 0 (fun z a b => by have := h.2.1 z (by omega) (by omega); omega)
    rw [Nat.zero_add] at e
    rw [show p + 1 - 1 = p by omega, e]
    rfl
