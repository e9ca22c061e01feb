theorem yb_ybv {α : Type} {x : Option (Int × IH)} {f : Int → IH → Option IH} {g : IH → Option α} : ybv (yb x f) g = yb x (fun r a => ybv (f r a) g) := by cases x <;> rfl
theorem ybv_ybv {α : Type} {x : Option IH} {f : IH → Option IH} {g : IH → Option α} : ybv (ybv x f) g = ybv x (fun a => ybv (f a) g) := by cases x <;> rfl
theorem ybv_if {α : Type} {p : Prop} [Decidable p] {A B : Option IH} {g : IH → Option α} : ybv (if p then A else B) g = if p then ybv A g else ybv B g := by
  by_cases h : p
  · rw [if_pos h, if_pos h]
  · rw [if_neg h, if_neg h]
theorem ybv_xq {α : Type} {i n : Int} {A : Option IH} {g : IH → Option α} : ybv (xq i n A) g = xq i n (ybv A g) := by
  unfold xq
  rw [ybv_if]
  rfl
theorem ybo0 {α : Type} {B : Option α} : ybo 0 B = B := if_pos (Or.inl rfl)
theorem ybo1' {α : Type} {B : Option α} : ybo 1 B = B := if_pos (Or.inr rfl)
section
variable {N : Nat} {c m : IH}
theorem gatEnd {n i : Int} (h : TP c m n i) : G_X9_atEnd N c = some ((if i < n then 0 else 1), c) := by
  unfold G_X9_atEnd
  rw [h.1.1, h.1.2.2.1]
  by_cases q : i < n
  · rw [if_pos q, if_pos q]
  · rw [if_neg q, if_neg q]
/-- the class begins once more -/
theorem begin2 {c0 : IH} {p : Int} (h : TP c0 m p 0) (h3 : ∀ j, c 3 j = c0 3 j) : ∃ c1, G_X9_begin N c p = some c1 ∧ TP c1 m p 0 ∧ ∀ a b, ¬ (a = 2 ∧ 2 ≤ b ∧ b ≤ 5) → c1 a b = c a b := by
  obtain ⟨⟨h1, h2, h4, h5, h6, h7⟩, h8, h9⟩ := h
  unfold G_X9_begin
  simp only [xlet_q]
  refine ⟨_, rfl, ⟨⟨?_, h2, ?_, h5, ⟨?_, xv_eq rfl rfl, h6.2.2⟩, h7⟩, h8, fun j j1 j2 => ?_⟩, fun a b q => ?_⟩
  · rw [xv_ne (by omega), xv_ne (by omega), xv_ne (by omega), xv_eq rfl rfl]
  · rw [xv_ne (by omega), xv_ne (by omega), xv_eq rfl rfl]
  · rw [xv_ne (by omega), xv_eq rfl rfl]
  · simp (disch := omega) only [xv_ne]
    rw [h3]
    exact h9 j j1 j2
  · simp (disch := omega) only [xv_ne]
/-- a text that was good: what it told is kept -/
theorem R.good {c2 c3 m2 : IH} (h : R N c m) (tr : TR c2 m2) (h25 : c2 2 5 = m2 0 7) (h02 : m2 0 2 = 0) (hc : ∀ a b, (a = 0 ∨ a = 3 ∨ (67 ≤ a ∧ a ≤ 73)) → c2 a b = c a b) (hm : ∀ a b, (a = 1 ∨ a = 2) → m2 a b = m a b) (h11 : m2 0 10 = 0 → m2 11 0 = -1) (h75 : ∀ r, 0 ≤ r → r < 140 → c3 75 r = 0) (h80 : c3 80 3 = 0) (h84 : c3 84 4 = 0) (hf : ∀ a b, a ≠ 75 → ¬ (a = 80 ∧ b = 3) → ¬ (a = 84 ∧ b = 4) → c3 a b = c2 a b) : R N (xv c3 2 1 0) (xv m2 0 5 (m2 0 7)) := by
  obtain ⟨⟨t1, t2, t3, t4, t5⟩, ⟨b1, b2, b3⟩, t, s, ca, mt, sn⟩ := h
  have co : ∀ a b, ¬ (a = 2) → xv c2 2 1 0 a b = c2 a b := fun a b q => xv_ne (by omega)
  have mo : ∀ a b, ¬ (a = 0 ∧ b = 5) → xv m2 0 5 (m2 0 7) a b = m2 a b := fun a b q => xv_ne q
  have t' : TR (xv c2 2 1 0) (xv m2 0 5 (m2 0 7)) := TR.mk (tr.ll.fr (fun a b _ _ => co a b (by omega)) (fun a b _ => mo a b (by omega))) ((tr.2.2.2.1.cv (fun a b _ _ => co a b (by omega))).mv (mo _ _ (by omega)) (fun a b _ _ => mo a b (by omega)) (fun a b _ _ => mo a b (by omega))) ((tr.2.2.2.2.1.cv (fun b => co _ b (by omega))).mv (fun b => mo _ b (by omega))) (tr.2.2.2.2.2.1.fr (fun a b _ _ => co a b (by omega)) (fun a b _ => mo a b (by omega))) (tr.2.2.2.2.2.2.fr (fun a b _ _ => co a b (by omega)) (fun a b _ => mo a b (by omega)))
  refine R.new (c := xv c2 2 1 0) ⟨?_, ?_, ?_, fun j j1 j2 => ?_, ?_⟩ ?_ ?_ ?_ t' (s.cv (fun a b _ _ => ?_)) (fun r q1 q2 => ?_) ?_ ?_ (fun a b q1 q2 q3 => ?_)
  · rw [xv_eq rfl rfl, mo _ _ (by omega), h02]
  · rw [mo _ _ (by omega), h02]; omega
  · rw [mo _ _ (by omega), h02]; omega
  · rw [co _ _ (by omega), mo _ _ (by omega), hc _ _ (by omega), hm _ _ (by omega)]
    exact t4 j j1 j2
  · rw [xv_ne (by omega), xv_eq rfl rfl]; exact h25
  · rw [co _ _ (by omega), mo _ _ (by omega), hc _ _ (by omega), hm _ _ (by omega)]; exact b1
  · rw [co _ _ (by omega), mo _ _ (by omega), hc _ _ (by omega), hm _ _ (by omega)]; exact b2
  · rw [mo _ _ (by omega), mo _ _ (by omega)]; exact h11
  · rw [co _ _ (by omega), hc a b (by omega)]
  · rw [xv_ne (by omega)]; exact h75 r q1 q2
  · rw [xv_ne (by omega)]; exact h80
  · rw [xv_ne (by omega)]; exact h84
  · by_cases e : a = 2 ∧ b = 1
    · rw [xv_eq e.1 e.2, xv_eq e.1 e.2]
    · rw [xv_ne e, xv_ne e]; exact hf a b q1 q2 q3
end
