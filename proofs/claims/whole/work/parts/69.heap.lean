/-- a heap of n keys; K: the key of each item that waits; of item z nothing is said -/
def HPz (c : IH) (K : Int → Int) (n z : Int) : Prop := (0 ≤ n ∧ n ≤ 18085) ∧ (∀ p, 0 ≤ p → p < n → 0 ≤ c 71 p ∧ c 71 p < 2147483648 ∧ c 71 p % 32768 < 18085 ∧ c 71 p % 32768 ≠ z ∧ c 72 (c 71 p % 32768) = p + 1 ∧ c 71 p = K (c 71 p % 32768)) ∧ (∀ t, 0 ≤ t → t < 18085 → t ≠ z → -1 ≤ c 72 t ∧ c 72 t ≤ n ∧ (0 < c 72 t → c 71 (c 72 t - 1) = K t ∧ K t % 32768 = t)) ∧ ∀ p, 1 ≤ p → p < n → c 71 ((p - 1) / 2) ≤ c 71 p
/-- a heap with a hole h into which key k is to come -/
def HH (c : IH) (K : Int → Int) (n z h k : Int) : Prop := (0 ≤ h ∧ h < n ∧ n ≤ 18085) ∧ (0 ≤ k ∧ k < 2147483648 ∧ k % 32768 < 18085 ∧ k % 32768 ≠ z ∧ K (k % 32768) = k) ∧ (∀ p, 0 ≤ p → p < n → p ≠ h → 0 ≤ c 71 p ∧ c 71 p < 2147483648 ∧ c 71 p % 32768 < 18085 ∧ c 71 p % 32768 ≠ z ∧ c 71 p % 32768 ≠ k % 32768 ∧ c 72 (c 71 p % 32768) = p + 1 ∧ c 71 p = K (c 71 p % 32768)) ∧ (∀ t, 0 ≤ t → t < 18085 → t ≠ z → t ≠ k % 32768 → -1 ≤ c 72 t ∧ c 72 t ≤ n ∧ c 72 t ≠ h + 1 ∧ (0 < c 72 t → c 71 (c 72 t - 1) = K t ∧ K t % 32768 = t)) ∧ (∀ p, 1 ≤ p → p < n → p ≠ h → (p - 1) / 2 ≠ h → c 71 ((p - 1) / 2) ≤ c 71 p) ∧ ∀ p, 1 ≤ p → p < n → (p - 1) / 2 = h → 1 ≤ h → c 71 ((h - 1) / 2) ≤ c 71 p
section
variable {N : Nat} {c : IH} {K : Int → Int} {n z h k : Int}
/-- the key comes into the hole -/
theorem HH.fin (H : HH c K n z h k) (h1 : ∀ p, 1 ≤ p → p < n → (p - 1) / 2 = h → k ≤ c 71 p) (h2 : 1 ≤ h → c 71 ((h - 1) / 2) ≤ k) : HPz (xv (xv c 71 h k) 72 (k % 32768) (h + 1)) K n z := by
  obtain ⟨a1, a2, a3, a4, a5, a6⟩ := H
  have c71 : ∀ p, p ≠ h → xv (xv c 71 h k) 72 (k % 32768) (h + 1) 71 p = c 71 p := fun p q => by rw [xv_ne (by omega), xv_ne (by omega)]
  have c71h : xv (xv c 71 h k) 72 (k % 32768) (h + 1) 71 h = k := by rw [xv_ne (by omega), xv_eq rfl rfl]
  have c72 : ∀ t, t ≠ k % 32768 → xv (xv c 71 h k) 72 (k % 32768) (h + 1) 72 t = c 72 t := fun t q => by rw [xv_ne (by omega), xv_ne (by omega)]
  have c72k : xv (xv c 71 h k) 72 (k % 32768) (h + 1) 72 (k % 32768) = h + 1 := xv_eq rfl rfl
  refine ⟨by omega, fun p p1 p2 => ?_, fun t t1 t2 t3 => ?_, fun p p1 p2 => ?_⟩
  · by_cases cp : p = h
    · subst cp
      rw [c71h, c72k]
      exact ⟨by omega, by omega, by omega, by omega, rfl, a2.2.2.2.2.symm⟩
    · have := a3 p p1 p2 cp
      rw [c71 p cp, c72 _ (by omega)]
      exact ⟨this.1, this.2.1, this.2.2.1, this.2.2.2.1, this.2.2.2.2.2.1, this.2.2.2.2.2.2⟩
  · by_cases ct : t = k % 32768
    · subst ct
      rw [c72k]
      refine ⟨by omega, by omega, fun _ => ?_⟩
      rw [show h + 1 - 1 = h by omega, c71h, a2.2.2.2.2]
      exact ⟨rfl, rfl⟩
    · have := a4 t t1 t2 t3 ct
      rw [c72 t ct]
      refine ⟨this.1, this.2.1, fun q => ?_⟩
      rw [c71 _ (by omega)]
      exact this.2.2.2 q
  · by_cases cp : p = h
    · subst cp
      rw [c71h, c71 _ (by omega)]
      exact h2 p1
    · rw [c71 p cp]
      by_cases cq : (p - 1) / 2 = h
      · rw [cq, c71h]
        exact h1 p p1 p2 cq
      · rw [c71 _ cq]
        exact a5 p p1 p2 cp cq
/-- the hole moves to a neighbour b, whose key comes into it: up -/
theorem HH.up (H : HH c K n z h k) (h0 : 1 ≤ h) (h1 : ∀ p, 1 ≤ p → p < n → (p - 1) / 2 = h → k ≤ c 71 p) (h2 : k ≤ c 71 ((h - 1) / 2)) : HH (xv (xv c 71 h (c 71 ((h - 1) / 2))) 72 (c 71 ((h - 1) / 2) % 32768) (h + 1)) K n z ((h - 1) / 2) k ∧ ∀ p, 1 ≤ p → p < n → (p - 1) / 2 = (h - 1) / 2 → k ≤ xv (xv c 71 h (c 71 ((h - 1) / 2))) 72 (c 71 ((h - 1) / 2) % 32768) (h + 1) 71 p := by
  obtain ⟨a1, a2, a3, a4, a5, a6⟩ := H
  have hb := a3 ((h - 1) / 2) (by omega) (by omega) (by omega)
  have c71 : ∀ p, p ≠ h → xv (xv c 71 h (c 71 ((h - 1) / 2))) 72 (c 71 ((h - 1) / 2) % 32768) (h + 1) 71 p = c 71 p := fun p q => by rw [xv_ne (by omega), xv_ne (by omega)]
  have c71h : xv (xv c 71 h (c 71 ((h - 1) / 2))) 72 (c 71 ((h - 1) / 2) % 32768) (h + 1) 71 h = c 71 ((h - 1) / 2) := by rw [xv_ne (by omega), xv_eq rfl rfl]
  have c72 : ∀ t, t ≠ c 71 ((h - 1) / 2) % 32768 → xv (xv c 71 h (c 71 ((h - 1) / 2))) 72 (c 71 ((h - 1) / 2) % 32768) (h + 1) 72 t = c 72 t := fun t q => by rw [xv_ne (by omega), xv_ne (by omega)]
  have c72k : xv (xv c 71 h (c 71 ((h - 1) / 2))) 72 (c 71 ((h - 1) / 2) % 32768) (h + 1) 72 (c 71 ((h - 1) / 2) % 32768) = h + 1 := xv_eq rfl rfl
  refine ⟨⟨by omega, a2, fun p p1 p2 p3 => ?_, fun t t1 t2 t3 t4 => ?_, fun p p1 p2 p3 p4 => ?_, fun p p1 p2 p3 p4 => ?_⟩, fun p p1 p2 p3 => ?_⟩
  · by_cases cp : p = h
    · subst cp
      rw [c71h, c72k]
      exact ⟨hb.1, hb.2.1, hb.2.2.1, hb.2.2.2.1, hb.2.2.2.2.1, rfl, hb.2.2.2.2.2.2⟩
    · have := a3 p p1 p2 cp
      rw [c71 p cp]
      have hd : c 71 p % 32768 ≠ c 71 ((h - 1) / 2) % 32768 := by
        intro q
        have e1 := this.2.2.2.2.2.1
        rw [q, hb.2.2.2.2.2.1] at e1
        omega
      rw [c72 _ hd]
      exact this
  · by_cases ct : t = c 71 ((h - 1) / 2) % 32768
    · subst ct
      rw [c72k]
      refine ⟨by omega, by omega, by omega, fun _ => ?_⟩
      rw [show h + 1 - 1 = h by omega, c71h]
      exact ⟨hb.2.2.2.2.2.2, by rw [← hb.2.2.2.2.2.2]⟩
    · have := a4 t t1 t2 t3 t4
      rw [c72 t ct]
      refine ⟨this.1, this.2.1, fun q => ?_, fun q => ?_⟩
      · have e := (this.2.2.2 (by omega))
        rw [q, show (h - 1) / 2 + 1 - 1 = (h - 1) / 2 by omega] at e
        exact ct (by rw [e.1]; exact e.2.symm)
      · rw [c71 _ (by omega)]
        exact this.2.2.2 q
  · by_cases cp : p = h
    · omega
    · rw [c71 p cp]
      by_cases cq : (p - 1) / 2 = h
      · rw [cq, c71h]
        exact a6 p p1 p2 cq h0
      · rw [c71 _ cq]
        exact a5 p p1 p2 cp cq
  · by_cases cp : p = h
    · subst cp
      rw [c71h, c71 _ (by omega)]
      exact a5 _ (by omega) (by omega) (by omega) (by omega)
    · rw [c71 p cp, c71 _ (by omega)]
      have e1 := a5 p p1 p2 cp (by omega)
      have e2 := a5 ((h - 1) / 2) (by omega) (by omega) (by omega) (by omega)
      rw [p3] at e1
      omega
  · by_cases cp : p = h
    · subst cp
      rw [c71h]; exact h2
    · rw [c71 p cp]
      have e1 := a5 p p1 p2 cp (by omega)
      rw [p3] at e1
      omega
/-- down to a child b -/
theorem HH.dn {b : Int} (H : HH c K n z h k) (hb0 : 1 ≤ b ∧ b < n ∧ (b - 1) / 2 = h) (h1 : ∀ p, 1 ≤ p → p < n → (p - 1) / 2 = h → c 71 b ≤ c 71 p) (h2 : c 71 b ≤ k) : HH (xv (xv c 71 h (c 71 b)) 72 (c 71 b % 32768) (h + 1)) K n z b k ∧ (1 ≤ b → xv (xv c 71 h (c 71 b)) 72 (c 71 b % 32768) (h + 1) 71 ((b - 1) / 2) ≤ k) := by
  obtain ⟨a1, a2, a3, a4, a5, a6⟩ := H
  have hb := a3 b (by omega) (by omega) (by omega)
  have c71 : ∀ p, p ≠ h → xv (xv c 71 h (c 71 b)) 72 (c 71 b % 32768) (h + 1) 71 p = c 71 p := fun p q => by rw [xv_ne (by omega), xv_ne (by omega)]
  have c71h : xv (xv c 71 h (c 71 b)) 72 (c 71 b % 32768) (h + 1) 71 h = c 71 b := by rw [xv_ne (by omega), xv_eq rfl rfl]
  have c72 : ∀ t, t ≠ c 71 b % 32768 → xv (xv c 71 h (c 71 b)) 72 (c 71 b % 32768) (h + 1) 72 t = c 72 t := fun t q => by rw [xv_ne (by omega), xv_ne (by omega)]
  have c72k : xv (xv c 71 h (c 71 b)) 72 (c 71 b % 32768) (h + 1) 72 (c 71 b % 32768) = h + 1 := xv_eq rfl rfl
  refine ⟨⟨by omega, a2, fun p p1 p2 p3 => ?_, fun t t1 t2 t3 t4 => ?_, fun p p1 p2 p3 p4 => ?_, fun p p1 p2 p3 p4 => ?_⟩, fun _ => ?_⟩
  · by_cases cp : p = h
    · subst cp
      rw [c71h, c72k]
      exact ⟨hb.1, hb.2.1, hb.2.2.1, hb.2.2.2.1, hb.2.2.2.2.1, rfl, hb.2.2.2.2.2.2⟩
    · have := a3 p p1 p2 cp
      rw [c71 p cp]
      have hd : c 71 p % 32768 ≠ c 71 b % 32768 := by
        intro q
        have e1 := this.2.2.2.2.2.1
        rw [q, hb.2.2.2.2.2.1] at e1
        omega
      rw [c72 _ hd]
      exact this
  · by_cases ct : t = c 71 b % 32768
    · subst ct
      rw [c72k]
      refine ⟨by omega, by omega, by omega, fun _ => ?_⟩
      rw [show h + 1 - 1 = h by omega, c71h]
      exact ⟨hb.2.2.2.2.2.2, by rw [← hb.2.2.2.2.2.2]⟩
    · have := a4 t t1 t2 t3 t4
      rw [c72 t ct]
      refine ⟨this.1, this.2.1, fun q => ?_, fun q => ?_⟩
      · have e := (this.2.2.2 (by omega))
        rw [q, show b + 1 - 1 = b by omega] at e
        exact ct (by rw [e.1]; exact e.2.symm)
      · rw [c71 _ (by omega)]
        exact this.2.2.2 q
  · by_cases cp : p = h
    · subst cp
      rw [c71h, c71 _ (by omega)]
      exact a6 b (by omega) (by omega) hb0.2.2 (by omega)
    · rw [c71 p cp]
      by_cases cq : (p - 1) / 2 = h
      · rw [cq, c71h]
        exact h1 p p1 p2 cq
      · rw [c71 _ cq]
        exact a5 p p1 p2 cp cq
  · rw [c71 p (by omega), hb0.2.2, c71h]
    have := a5 p p1 p2 (by omega) (by omega)
    rw [p3] at this
    exact this
  · rw [hb0.2.2, c71h]
    exact h2
end
/-- only keys and slots change; what waits goes on waiting, what doesn't keeps its slot (but for item u) -/
def KS (c c' : IH) (u : Int) : Prop := (∀ a b, a ≠ 71 → a ≠ 72 → c' a b = c a b) ∧ ∀ t, t ≠ u → (c 72 t ≤ 0 → c' 72 t = c 72 t) ∧ (0 < c 72 t → 0 < c' 72 t)
theorem KS.mv {c c' : IH} {u h k q r : Int} (hq : 0 < c 72 q) (hr : 0 < r) (H : KS (xv (xv c 71 h k) 72 q r) c' u) : KS c c' u := by
  refine ⟨fun a b q1 q2 => by rw [H.1 a b q1 q2, xv_ne (by omega), xv_ne (by omega)], fun t ht => ?_⟩
  have := H.2 t ht
  by_cases ct : t = q
  · subst ct
    rw [xv_eq rfl rfl] at this
    exact ⟨fun z => by omega, fun _ => this.2 hr⟩
  · rw [xv_ne (by omega), xv_ne (by omega)] at this
    exact this
section
variable {N : Nat} {K : Int → Int} {n z k : Int}
theorem lift77 {c : IH} {h : Int} (H : HH c K n z h k) (h1 : ∀ p, 1 ≤ p → p < n → (p - 1) / 2 = h → k ≤ c 71 p) (h2 : 1 ≤ h → c 71 ((h - 1) / 2) ≤ k) : ∃ c', G_X6_lift_77 N c k h = some c' ∧ HPz c' K n z ∧ KS c c' (k % 32768) ∧ c' 72 (k % 32768) = h + 1 := by
  have a1 := H.1
  have a2 := H.2.1
  unfold G_X6_lift_77
  rw [yand_k (by omega)]
  (try simp (disch := omega) only [xlet_q, xq_in])
  rw [wr_in (by omega) (by omega)]
  exact ⟨_, rfl, H.fin h1 h2, ⟨fun a b q1 q2 => by rw [xv_ne (by omega), xv_ne (by omega)], fun t ht => by rw [xv_ne (by omega), xv_ne (by omega)]; exact ⟨fun _ => rfl, fun q => q⟩⟩, xv_eq rfl rfl⟩
theorem lift0 : ∀ (f : Nat) (c : IH) (h v : Int), HH c K n z h k → (∀ p, 1 ≤ p → p < n → (p - 1) / 2 = h → k ≤ c 71 p) → 0 ≤ v → (h + 1) * pw v ≤ 32767 → 16 - v < f → ∃ c', G_X6_lift_5 N f c k h v = some c' ∧ HPz c' K n z ∧ KS c c' (k % 32768) ∧ 0 < c' 72 (k % 32768) := by
  intro f
  induction f with
  | zero =>
    intro c h v H h1 h2 h3 h4
    exfalso
    have hh := H.1
    have := pw_16
    have p1 : pw 16 ≤ pw v := by
      unfold pw
      have := Nat.pow_le_pow_right (show 0 < 2 by omega) (show (16 : Int).toNat ≤ v.toNat by omega)
      omega
    have p2 : 1 * pw v ≤ (h + 1) * pw v := Int.mul_le_mul_of_nonneg_right (by omega) (by omega)
    omega
  | succ f ih =>
    intro c h v H h1 h2 h3 h4
    have a1 := H.1
    have a2 := H.2.1
    unfold G_X6_lift_5
    by_cases c1 : 16 ≤ v
    · exfalso
      have := pw_16
      have p1 : pw 16 ≤ pw v := by
        unfold pw
        have := Nat.pow_le_pow_right (show 0 < 2 by omega) (show (16 : Int).toNat ≤ v.toNat by omega)
        omega
      have p2 : 1 * pw v ≤ (h + 1) * pw v := Int.mul_le_mul_of_nonneg_right (by omega) (by omega)
      omega
    · rw [if_neg c1]
      by_cases c2 : h ≤ 0
      · rw [if_pos c2]
        obtain ⟨c', e1, e2, e3, e4⟩ := lift77 (N := N) H h1 (by omega)
        exact ⟨c', e1, e2, e3, by omega⟩
      · rw [if_neg c2, wr_in (by omega) (by omega), Int.tdiv_eq_ediv_of_nonneg (by omega)]
        (try simp (disch := omega) only [xlet_q, xq_in])
        by_cases c3 : k ≤ c 71 ((h - 1) / 2)
        · rw [if_pos c3]
          have hb := H.2.2.1 ((h - 1) / 2) (by omega) (by omega) (by omega)
          rw [xv_eq rfl rfl, yand_k (by omega)]
          (try simp (disch := omega) only [xlet_q, xq_in])
          rw [wr_in (by omega) (by omega), wr_in (by omega) (by omega)]
          obtain ⟨u1, u2⟩ := H.up (by omega) h1 c3
          have hpw := pw_s h2
          have hp1 : ((h - 1) / 2 + 1) * pw (v + 1) ≤ 32767 := by
            rw [hpw, ← Int.mul_assoc]
            have p3 := pw_pos (v := v)
            have : ((h - 1) / 2 + 1) * 2 * pw v ≤ (h + 1) * pw v := Int.mul_le_mul_of_nonneg_right (by omega) (by omega)
            omega
          obtain ⟨c', e1, e2, e3, e4⟩ := ih _ _ (v + 1) u1 u2 (by omega) hp1 (by omega)
          exact ⟨c', e1, e2, e3.mv (by omega) (by omega), e4⟩
        · rw [if_neg c3]
          obtain ⟨c', e1, e2, e3, e4⟩ := lift77 (N := N) H h1 (by omega)
          exact ⟨c', e1, e2, e3, by omega⟩
theorem sink116 {c : IH} {h : Int} (H : HH c K n z h k) (h1 : ∀ p, 1 ≤ p → p < n → (p - 1) / 2 = h → k ≤ c 71 p) (h2 : 1 ≤ h → c 71 ((h - 1) / 2) ≤ k) : ∃ c', G_X6_sink_116 N c k h = some c' ∧ HPz c' K n z ∧ KS c c' (k % 32768) ∧ 0 < c' 72 (k % 32768) := by
  have a1 := H.1
  obtain ⟨c', e1, e2, e3, e4⟩ := lift77 (N := N) H h1 h2
  exact ⟨c', e1, e2, e3, by omega⟩
theorem sink0 : ∀ (f : Nat) (c : IH) (h v : Int), c 67 7 = n → HH c K n z h k → (1 ≤ h → c 71 ((h - 1) / 2) ≤ k) → 0 ≤ v → pw v ≤ h + 1 → 16 - v < f → ∃ c', G_X6_sink_4 N f c k h v = some c' ∧ HPz c' K n z ∧ KS c c' (k % 32768) ∧ 0 < c' 72 (k % 32768) := by
  intro f
  induction f with
  | zero =>
    intro c h v h0 H h1 h2 h3 h4
    exfalso
    have hh := H.1
    have := pw_16
    have p1 : pw 16 ≤ pw v := by
      unfold pw
      have := Nat.pow_le_pow_right (show 0 < 2 by omega) (show (16 : Int).toNat ≤ v.toNat by omega)
      omega
    omega
  | succ f ih =>
    intro c h v h0 H h1 h2 h3 h4
    have a1 := H.1
    have a2 := H.2.1
    unfold G_X6_sink_4
    by_cases c1 : 16 ≤ v
    · exfalso
      have := pw_16
      have p1 : pw 16 ≤ pw v := by
        unfold pw
        have := Nat.pow_le_pow_right (show 0 < 2 by omega) (show (16 : Int).toNat ≤ v.toNat by omega)
        omega
      omega
    · rw [if_neg c1, h0, wr_in (show -2147483648 ≤ 2 * h + 1 by omega) (by omega)]
      by_cases c2 : n ≤ 2 * h + 1
      · rw [if_pos c2]
        exact sink116 H (fun p p1 p2 p3 => by omega) h1
      · rw [if_neg c2, xlet_q, wr_in (show -2147483648 ≤ 2 * h + 1 + 1 by omega) (by omega)]
        have key : ∀ b, 1 ≤ b → b < n → (b - 1) / 2 = h → (∀ p, 1 ≤ p → p < n → (p - 1) / 2 = h → c 71 b ≤ c 71 p) → ∃ c', G_X6_sink_62 N (G_X6_sink_4 N f) c k h v b = some c' ∧ HPz c' K n z ∧ KS c c' (k % 32768) ∧ 0 < c' 72 (k % 32768) := by
          intro b b1 b2 b3 b4
          unfold G_X6_sink_62
          (try simp (disch := omega) only [xlet_q, xq_in])
          by_cases c3 : c 71 b ≤ k
          · rw [if_pos c3]
            have hb := H.2.2.1 b (by omega) (by omega) (by omega)
            rw [xv_eq rfl rfl, yand_k (by omega)]
            (try simp (disch := omega) only [xlet_q, xq_in])
            rw [wr_in (by omega) (by omega), wr_in (by omega) (by omega)]
            obtain ⟨u1, u2⟩ := H.dn ⟨b1, b2, b3⟩ b4 c3
            have hpw := pw_s h2
            obtain ⟨c', e1, e2, e3, e4⟩ := ih _ _ (v + 1) (by rw [xv_ne (by omega), xv_ne (by omega)]; exact h0) u1 u2 (by omega) (by omega) (by omega)
            exact ⟨c', e1, e2, e3.mv (by omega) (by omega), e4⟩
          · rw [if_neg c3]
            exact sink116 H (fun p p1 p2 p3 => by have := b4 p p1 p2 p3; omega) h1
        by_cases c3 : n ≤ 2 * h + 1 + 1
        · rw [if_pos c3]
          refine key _ (by omega) (by omega) (by omega) (fun p p1 p2 p3 => ?_)
          rw [show p = 2 * h + 1 by omega]
          exact Int.le_refl _
        · rw [if_neg c3]
          (try simp (disch := omega) only [xlet_q, xq_in])
          by_cases c4 : c 71 (2 * h + 1) ≤ c 71 (2 * h + 1 + 1)
          · rw [if_pos c4]
            refine key _ (by omega) (by omega) (by omega) (fun p p1 p2 p3 => ?_)
            by_cases cp : p = 2 * h + 1
            · rw [cp]; exact Int.le_refl _
            · rw [show p = 2 * h + 1 + 1 by omega]; exact c4
          · rw [if_neg c4]
            refine key _ (by omega) (by omega) (by omega) (fun p p1 p2 p3 => ?_)
            by_cases cp : p = 2 * h + 1
            · rw [cp]; omega
            · rw [show p = 2 * h + 1 + 1 by omega]; exact Int.le_refl _
end
