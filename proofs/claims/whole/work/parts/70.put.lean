/-- the items that were seen -/
def SEEN (c : IH) : Prop := (0 ≤ c 67 10 ∧ c 67 10 ≤ 18085) ∧ (∀ i, 0 ≤ i → i < c 67 10 → 0 ≤ c 73 i ∧ c 73 i < 18085 ∧ c 72 (c 73 i) ≠ 0) ∧ (∀ i j, 0 ≤ i → i < j → j < c 67 10 → c 73 i ≠ c 73 j) ∧ ∀ t, 0 ≤ t → t < 18085 → c 72 t ≠ 0 → ∃ i, 0 ≤ i ∧ i < c 67 10 ∧ c 73 i = t
/-- a key changed -/
def uk (K : Int → Int) (t k : Int) : Int → Int := fun x => if x = t then k else K x
theorem uk_eq {K : Int → Int} {t k : Int} : uk K t k t = k := if_pos rfl
theorem uk_ne {K : Int → Int} {t k x : Int} (h : x ≠ t) : uk K t k x = K x := if_neg h
section
variable {N : Nat} {c : IH} {K : Int → Int} {n : Int}
/-- the root is the least -/
theorem HPz.root {z : Int} (H : HPz c K n z) : ∀ (f : Nat) (p : Int), 0 ≤ p → p < n → p < f → c 71 0 ≤ c 71 p := by
  intro f
  induction f with
  | zero => intro p h1 h2 h3; omega
  | succ f ih =>
    intro p h1 h2 h3
    by_cases c1 : p = 0
    · rw [c1]; exact Int.le_refl _
    · have := H.2.2.2 p (by omega) h2
      have := ih ((p - 1) / 2) (by omega) (by omega) (by omega)
      omega
theorem takeS (hN : 20000 ≤ N) (H : HPz c K n (-1)) (hn : 1 ≤ n) (h7 : c 67 7 = n) : ∃ c', G_X6_takeLeast N c = some (c 71 0, c') ∧ HPz c' K (n - 1) (-1) ∧ c' 67 7 = n - 1 ∧ (∀ a b, ¬ (a = 67 ∧ b = 7) → a ≠ 71 → a ≠ 72 → c' a b = c a b) ∧ c' 72 (c 71 0 % 32768) = -1 ∧ ∀ t, t ≠ c 71 0 % 32768 → (c 72 t ≤ 0 → c' 72 t = c 72 t) ∧ (0 < c 72 t → 0 < c' 72 t) := by
  obtain ⟨a1, a2, a3, a4⟩ := H
  have r0 := a2 0 (by omega) (by omega)
  have rl := a2 (n - 1) (by omega) (by omega)
  unfold G_X6_takeLeast
  rw [xlet_q, xlet_q, h7, wr_in (by omega) (by omega), xv_eq rfl rfl, xv_ne (by omega), yand_k (by omega)]
  (try simp (disch := omega) only [xlet_q, xq_in])
  unfold G_X6_sink
  rw [xlet_q, xlet_q]
  have x71 : ∀ p, xv c 67 7 (n - 1) 71 p = c 71 p := fun p => xv_ne (by omega)
  have x72 : ∀ p, xv c 67 7 (n - 1) 72 p = c 72 p := fun p => xv_ne (by omega)
  by_cases c1 : n = 1
  · subst c1
    obtain ⟨N', hN'⟩ : ∃ N', N = N' + 1 := ⟨N - 1, by omega⟩
    have e : ∀ M : Nat, G_X6_sink_4 M (N' + 1) (xv c 67 7 (1 - 1)) (c 71 (1 - 1)) 0 0 = some (xv (xv (xv c 67 7 (1 - 1)) 71 0 (c 71 0)) 72 (c 71 0 % 32768) 1) := by
      intro M
      unfold G_X6_sink_4 G_X6_sink_116
      rw [if_neg (by omega), xv_eq rfl rfl, if_pos (by rw [wr_in (by omega) (by omega)]; omega)]
      simp only [show (1 : Int) - 1 = 0 by omega]
      rw [yand_k (by omega)]
      (try simp (disch := omega) only [xlet_q, xq_in])
      rw [wr_in (by omega) (by omega)]
      rfl
    have e' := e N
    rw [← hN'] at e'
    rw [e', ybv_s]
    refine ⟨_, rfl, ?_, ?_, ?_, xv_eq rfl rfl, ?_⟩
    · refine ⟨by omega, fun p p1 p2 => by omega, fun t t1 t2 t3 => ?_, fun p p1 p2 => by omega⟩
      by_cases ct : t = c 71 0 % 32768
      · subst ct
        rw [xv_eq rfl rfl]
        exact ⟨by omega, by omega, by omega⟩
      · rw [xv_ne (by omega), xv_ne (by omega), xv_ne (by omega), xv_ne (by omega)]
        have := a3 t t1 t2 t3
        have nz : ¬ 0 < c 72 t := by
          intro q
          have e1 := this.2.2 q
          rw [show c 72 t - 1 = 0 by omega] at e1
          exact ct (by rw [e1.1]; exact e1.2.symm)
        exact ⟨this.1, by omega, fun q => absurd q nz⟩
    · rw [xv_ne (by omega), xv_ne (by omega), xv_ne (by omega), xv_eq rfl rfl]
    · intro a b q1 q2 q3
      rw [xv_ne (by omega), xv_ne (by omega), xv_ne (by omega), xv_ne (by omega)]
    · intro t ht
      rw [xv_ne (by omega), xv_ne (by omega), xv_ne (by omega), xv_ne (by omega)]
      exact ⟨fun _ => rfl, fun q => q⟩
  · have e71 := x71
    have ul : ∀ p, 0 ≤ p → p < n - 1 → c 71 p % 32768 ≠ c 71 (n - 1) % 32768 := by
      intro p p1 p2 q
      have := (a2 p p1 (by omega)).2.2.2.2.1
      rw [q, rl.2.2.2.2.1] at this
      omega
    have u0 : ∀ p, 1 ≤ p → p < n → c 71 p % 32768 ≠ c 71 0 % 32768 := by
      intro p p1 p2 q
      have := (a2 p (by omega) (by omega)).2.2.2.2.1
      rw [q, r0.2.2.2.2.1] at this
      omega
    have HHs : HH (xv c 67 7 (n - 1)) K (n - 1) (c 71 0 % 32768) 0 (c 71 (n - 1)) := by
      refine ⟨by omega, ⟨rl.1, rl.2.1, rl.2.2.1, u0 (n - 1) (by omega) (by omega), rl.2.2.2.2.2.symm⟩, fun p p1 p2 p3 => ?_, fun t t1 t2 t3 t4 => ?_, fun p p1 p2 p3 p4 => ?_, fun p p1 p2 p3 p4 => by omega⟩
      · rw [x71, x72]
        have := a2 p p1 (by omega)
        exact ⟨this.1, this.2.1, this.2.2.1, u0 p (by omega) (by omega), ul p p1 p2, this.2.2.2.2.1, this.2.2.2.2.2⟩
      · rw [x72]
        have := a3 t t1 t2 (by omega)
        have n1 : c 72 t ≠ n := by
          intro q
          have e1 := this.2.2 (by omega)
          rw [q] at e1
          exact t4 (by rw [e1.1]; exact e1.2.symm)
        have n2 : c 72 t ≠ 1 := by
          intro q
          have e1 := this.2.2 (by omega)
          rw [q, show (1 : Int) - 1 = 0 by omega] at e1
          exact t3 (by rw [e1.1]; exact e1.2.symm)
        refine ⟨this.1, by omega, by omega, fun q => ?_⟩
        rw [x71]
        exact this.2.2 q
      · rw [x71, x71]
        exact a4 p p1 (by omega)
    obtain ⟨c1, e1, e2, e3, e4⟩ := sink0 (N := N) N (xv c 67 7 (n - 1)) 0 0 (xv_eq rfl rfl) HHs (by omega) (by omega) (by rw [pw_0]; omega) (by omega)
    rw [e1, ybv_s]
    obtain ⟨b1, b2, b3, b4⟩ := e2
    refine ⟨_, rfl, ?_, ?_, ?_, xv_eq rfl rfl, ?_⟩
    · refine ⟨b1, fun p p1 p2 => ?_, fun t t1 t2 t3 => ?_, fun p p1 p2 => ?_⟩
      · have := b2 p p1 p2
        rw [xv_ne (by omega), xv_ne (by omega)]
        exact ⟨this.1, this.2.1, this.2.2.1, by omega, this.2.2.2.2.1, this.2.2.2.2.2⟩
      · by_cases ct : t = c 71 0 % 32768
        · subst ct
          rw [xv_eq rfl rfl]
          exact ⟨by omega, by omega, by omega⟩
        · rw [xv_ne (by omega), xv_ne (by omega)]
          exact b3 t t1 t2 ct
      · rw [xv_ne (by omega), xv_ne (by omega)]
        exact b4 p p1 p2
    · rw [xv_ne (by omega), e3.1 _ _ (by omega) (by omega), xv_eq rfl rfl]
    · intro a b q1 q2 q3
      rw [xv_ne (by omega), e3.1 _ _ (by omega) (by omega), xv_ne q1]
    · intro t ht
      rw [xv_ne (by omega)]
      by_cases ct : t = c 71 (n - 1) % 32768
      · subst ct
        have := rl.2.2.2.2.1
        exact ⟨fun q => by omega, fun _ => e4⟩
      · have := e3.2 t ct
        rw [x72] at this
        exact this
/-- a new item comes to wait -/
theorem putNew {t b : Int} (hN : 20000 ≤ N) (H : HPz c K n (-1)) (h7 : c 67 7 = n) (hn : n < 18085) (hs : 0 ≤ c 67 10 ∧ c 67 10 < 18085) (ht : 0 ≤ t ∧ t < 18085) (hb : 0 ≤ b ∧ b < 65536) (h0 : c 72 t = 0) : ∃ c', G_X6_put N c t b = some c' ∧ HPz c' (uk K t (b * 32768 + t)) (n + 1) (-1) ∧ c' 67 7 = n + 1 ∧ c' 67 10 = c 67 10 + 1 ∧ c' 73 (c 67 10) = t ∧ (∀ a b, ¬ (a = 67 ∧ (b = 7 ∨ b = 10)) → ¬ (a = 73 ∧ b = c 67 10) → a ≠ 71 → a ≠ 72 → c' a b = c a b) ∧ 0 < c' 72 t ∧ ∀ x, x ≠ t → (c 72 x ≤ 0 → c' 72 x = c 72 x) ∧ (0 < c 72 x → 0 < c' 72 x) := by
  obtain ⟨a1, a2, a3, a4⟩ := H
  unfold G_X6_put
  rw [ykey hb (by omega)]
  (try simp (disch := omega) only [xlet_q, xq_in])
  rw [h0, if_pos rfl, h7, if_neg (by omega), if_neg (by omega)]
  (try simp (disch := omega) only [xlet_q, xq_in])
  have e1 : xv c 73 (c 67 10) t 67 10 = c 67 10 := xv_ne (by omega)
  rw [e1, wr_in (show -2147483648 ≤ c 67 10 + 1 by omega) (by omega)]
  have e2 : xv (xv c 73 (c 67 10) t) 67 10 (c 67 10 + 1) 67 7 = n := by rw [xv_ne (by omega), xv_ne (by omega)]; exact h7
  rw [e2, wr_in (show -2147483648 ≤ n + 1 by omega) (by omega), xv_eq rfl rfl, wr_in (show -2147483648 ≤ n + 1 - 1 by omega) (by omega), show n + 1 - 1 = n by omega]
  unfold G_X6_lift
  rw [xlet_q, xlet_q]
  have x71 : ∀ p, xv (xv (xv c 73 (c 67 10) t) 67 10 (c 67 10 + 1)) 67 7 (n + 1) 71 p = c 71 p := fun p => by rw [xv_ne (by omega), xv_ne (by omega), xv_ne (by omega)]
  have x72 : ∀ p, xv (xv (xv c 73 (c 67 10) t) 67 10 (c 67 10 + 1)) 67 7 (n + 1) 72 p = c 72 p := fun p => by rw [xv_ne (by omega), xv_ne (by omega), xv_ne (by omega)]
  have kt : (b * 32768 + t) % 32768 = t := by omega
  have HHl : HH (xv (xv (xv c 73 (c 67 10) t) 67 10 (c 67 10 + 1)) 67 7 (n + 1)) (uk K t (b * 32768 + t)) (n + 1) (-1) n (b * 32768 + t) := by
    unfold HH
    rw [kt]
    refine ⟨by omega, ⟨by omega, by omega, by omega, by omega, uk_eq⟩, fun p p1 p2 p3 => ?_, fun x x1 x2 x3 x4 => ?_, fun p p1 p2 p3 p4 => ?_, fun p p1 p2 p3 p4 => by omega⟩
    · rw [x71, x72]
      have := a2 p p1 (by omega)
      have ne : c 71 p % 32768 ≠ t := by
        intro q
        have := this.2.2.2.2.1
        rw [q] at this
        omega
      rw [uk_ne ne]
      exact ⟨this.1, this.2.1, this.2.2.1, this.2.2.2.1, ne, this.2.2.2.2.1, this.2.2.2.2.2⟩
    · rw [x72, uk_ne x4]
      have := a3 x x1 x2 x3
      refine ⟨this.1, by omega, by omega, fun q => ?_⟩
      rw [x71]
      exact this.2.2 q
    · rw [x71, x71]
      exact a4 p p1 (by omega)
  obtain ⟨c', g1, g2, g3, g4⟩ := lift0 (N := N) N _ n 0 HHl (fun p p1 p2 p3 => by omega) (by omega) (by rw [pw_0]; omega) (by omega)
  rw [g1, ybv_s]
  rw [kt] at g3 g4
  refine ⟨c', rfl, g2, ?_, ?_, ?_, ?_, g4, ?_⟩
  · rw [g3.1 _ _ (by omega) (by omega), xv_eq rfl rfl]
  · rw [g3.1 _ _ (by omega) (by omega), xv_ne (by omega), xv_eq rfl rfl]
  · rw [g3.1 _ _ (by omega) (by omega), xv_ne (by omega), xv_ne (by omega), xv_eq rfl rfl]
  · intro a b' q1 q2 q3 q4
    rw [g3.1 _ _ q3 q4, xv_ne (by omega), xv_ne (by omega), xv_ne (by omega)]
  · intro x hx
    have := g3.2 x hx
    rw [x72] at this
    exact this
/-- an item that waits: the lesser key counts -/
theorem putOld {t b : Int} (hN : 20000 ≤ N) (H : HPz c K n (-1)) (h7 : c 67 7 = n) (ht : 0 ≤ t ∧ t < 18085) (hb : 0 ≤ b ∧ b < 65536) (h0 : 0 < c 72 t) : (K t ≤ b * 32768 + t ∧ G_X6_put N c t b = some c) ∨ (b * 32768 + t < K t ∧ ∃ c', G_X6_put N c t b = some c' ∧ HPz c' (uk K t (b * 32768 + t)) n (-1) ∧ KS c c' t ∧ 0 < c' 72 t) := by
  obtain ⟨a1, a2, a3, a4⟩ := H
  have tt := a3 t ht.1 ht.2 (by omega)
  have tk := tt.2.2 h0
  unfold G_X6_put G_X6_put_84
  rw [ykey hb (by omega)]
  (try simp (disch := omega) only [xlet_q, xq_in])
  rw [if_neg (by omega), if_neg (by omega)]
  (try simp (disch := omega) only [xlet_q, xq_in])
  rw [tk.1]
  by_cases c1 : K t ≤ b * 32768 + t
  · left
    rw [if_pos c1]
    exact ⟨c1, rfl⟩
  · right
    rw [if_neg c1, wr_in (by omega) (by omega)]
    unfold G_X6_lift
    rw [xlet_q, xlet_q]
    have kt : (b * 32768 + t) % 32768 = t := by omega
    have HHl : HH c (uk K t (b * 32768 + t)) n (-1) (c 72 t - 1) (b * 32768 + t) := by
      unfold HH
      rw [kt]
      refine ⟨by omega, ⟨by omega, by omega, by omega, by omega, uk_eq⟩, fun p p1 p2 p3 => ?_, fun x x1 x2 x3 x4 => ?_, fun p p1 p2 p3 p4 => ?_, fun p p1 p2 p3 p4 => ?_⟩
      · have := a2 p p1 (by omega)
        have ne : c 71 p % 32768 ≠ t := by
          intro q
          have := this.2.2.2.2.1
          rw [q] at this
          omega
        rw [uk_ne ne]
        exact ⟨this.1, this.2.1, this.2.2.1, this.2.2.2.1, ne, this.2.2.2.2.1, this.2.2.2.2.2⟩
      · rw [uk_ne x4]
        have := a3 x x1 x2 x3
        refine ⟨this.1, by omega, fun q => ?_, fun q => this.2.2 q⟩
        have e := this.2.2 (by omega)
        rw [show c 72 x = c 72 t by omega, tk.1] at e
        have e3 := tk.2
        rw [e.1] at e3
        exact x4 (by rw [← e.2]; exact e3)
      · exact a4 p p1 (by omega)
      · have e1 := a4 p p1 p2
        have e2 := a4 (c 72 t - 1) (by omega) (by omega)
        rw [p3] at e1
        omega
    obtain ⟨c', g1, g2, g3, g4⟩ := lift0 (N := N) N _ (c 72 t - 1) 0 HHl (fun p p1 p2 p3 => by
      have e1 := a4 p p1 p2
      rw [p3, tk.1] at e1
      omega) (by omega) (by rw [pw_0]; omega) (by omega)
    rw [g1, ybv_s]
    rw [kt] at g3 g4
    exact ⟨by omega, c', rfl, g2, g3, g4⟩
/-- an item that was taken does not come again -/
theorem putGone {t b : Int} (ht : 0 ≤ t ∧ t < 18085) (h0 : c 72 t < 0) : G_X6_put N c t b = some c := by
  unfold G_X6_put G_X6_put_84
  (try simp (disch := omega) only [xlet_q, xq_in])
  rw [if_neg (by omega), if_pos (by omega)]
end
