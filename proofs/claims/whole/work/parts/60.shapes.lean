/-- a fault stands told on both sides -/
def FT (c m : IH) (n : Int) : Prop := c 2 4 = m 0 6 ∧ c 2 5 = m 0 7 ∧ 1 ≤ m 0 6 ∧ m 0 6 ≤ 5 ∧ m 0 3 = n ∧ 0 ≤ m 0 4 ∧ m 0 4 ≤ n + 1
theorem FT.fl {c m : IH} {n i j j' k l : Int} (h : TP c m n i) (hk : 1 ≤ k ∧ k ≤ 5) (hj : 0 ≤ j' ∧ j' ≤ n + 1) : FT (flc c j k l) (flm m j' k l) n := by
  unfold FT flc flm
  simp (disch := omega) only [xv_eq, xv_ne, wr_in]
  exact ⟨trivial, trivial, hk.1, hk.2, h.1.2.1, hj.1, hj.2⟩
def isLt (z : Int) : Prop := 97 ≤ z ∧ z ≤ 122
theorem part0 {N : Nat} {n k w2 x1 fr S : Int} (hS : 0 ≤ S ∧ S < 20) (hk : k = 19 ∨ k = 25) (hw : w2 = k + 4 ∨ w2 = k + 5) (hx : 135 ≤ x1 ∧ x1 < 155) (hf : fr = 0 ∨ fr = 3) : ∀ (f : Nat) (c m : IH) (i v : Int), TP c m n i → c k 0 = S → 0 ≤ v → v ≤ 3 → 3 - v < f → (0 < v ∨ isLt (bt m n i)) → wo (G_X8_readPart_2 N k w2 f c v) (fun p => wo (G_X12_readsPart_21 N f m x1 fr v) (fun q => (∀ a b, ¬ (a = 2 ∧ (b = 3 ∨ b = 4 ∨ b = 5)) → ¬ (a = w2 ∧ S * 3 + v ≤ b ∧ b < S * 3 + 3) → p.2 a b = c a b) ∧ (∀ a b, ¬ (a = 0 ∧ (b = 4 ∨ b = 6 ∨ b = 7)) → ¬ (a = x1 ∧ fr + v ≤ b ∧ b < fr + 3) → q.2 a b = m a b) ∧ v ≤ q.1 ∧ q.1 ≤ 3 ∧ ((p.1 = q.1 ∧ 1 ≤ q.1 ∧ (∃ j, i ≤ j ∧ TP p.2 q.2 n j) ∧ ∀ a, v ≤ a → a < q.1 → p.2 w2 (S * 3 + a) = q.2 x1 (fr + a) ∧ isLt (q.2 x1 (fr + a))) ∨ (p.1 = -1 ∧ FT p.2 q.2 n)))) := by
  intro f
  induction f with
  | zero => intro c m i v _ _ _ _ h; omega
  | succ f ih =>
    intro c m i v h hc hv hv3 hf' hl
    have hh := h
    have hr := h.rng h.2.1.1
    obtain ⟨⟨h1, h2, h3, h4, h5, h6⟩, ⟨h7, h8, h9⟩, h10⟩ := h
    unfold G_X8_readPart_2 G_X12_readsPart_21
    rw [if_neg (show ¬ 3 < v by omega), gpeek hh (by omega), yb_s, Int.add_zero, gletC, yb_s, gfine h6, yb_s, if_neg (show ¬ (1 : Int) = 0 by omega), ghere hh, yb_s, gletM, yb_s]
    by_cases hb : 97 ≤ bt m n i ∧ bt m n i ≤ 122
    · rw [isl_1 hb, if_neg (show ¬ (1 : Int) = 0 by omega), if_neg (show ¬ (1 : Int) = 0 by omega)]
      by_cases c3 : v = 3
      · unfold G_X12_readsPart_52
        rw [if_pos c3, if_pos c3, grefuse, yb_s, gwrong h6, ybv_s, gfine0 (by rw [xv_ne (by omega), xv_eq rfl rfl]; omega), yb_s, if_pos rfl, h3, h4]
        refine wo_some (wo_some ⟨fun a b n1 n2 => ?_, fun a b n1 n2 => ?_, by omega, by omega, Or.inr ⟨rfl, ?_⟩⟩)
        · show xv _ _ _ _ a b = _
          rw [xv_ne (by omega), xv_ne (by omega)]
        · show xv _ _ _ _ a b = _
          rw [xv_ne (by omega), xv_ne (by omega)]
        · have := FT.fl (j := i) (j' := i) (k := 3) (l := i) hh (by omega) (by omega)
          unfold flc flm at this
          rw [xv_id h3, xv_id h4] at this
          exact this
      · unfold G_X12_readsPart_52 xq
        rw [if_neg c3, if_neg c3, gpeek hh (by omega), yb_s, Int.add_zero, gfine h6, yb_s, if_neg (show ¬ (1 : Int) = 0 by omega), ghere hh, yb_s, hc, if_pos (show 0 ≤ S * 3 + v ∧ S * 3 + v < 60 by omega), if_pos (show 0 ≤ fr + v ∧ fr + v < 6 by omega), xlet_q, xlet_q, xlet_q, xlet_q, xlet_q, xlet_q, wr_in (show -2147483648 ≤ v + 1 by omega) (by omega), xv_ne (show ¬ ((2 : Int) = w2 ∧ (3 : Int) = S * 3 + v) by omega), xv_ne (show ¬ ((0 : Int) = x1 ∧ (4 : Int) = fr + v) by omega), h3, h4, wr_in (show -2147483648 ≤ i + 1 by omega) (by omega)]
        have hT := ((hh.wc (k := w2) (a := S * 3 + v) (v := bt m n i) (by omega)).w (k := x1) (a := fr + v) (v := bt m n i) (by omega)).at (j := i + 1) (by omega)
        refine (ih _ _ (i + 1) (v + 1) hT (by rw [xv_ne (by omega), xv_ne (by omega)]; exact hc) (by omega) (by omega) (by omega) (Or.inl (by omega))).mono (fun p hp => hp.mono (fun q hq => ?_))
        obtain ⟨q1, q2, q3, q4, q5⟩ := hq
        refine ⟨fun a b n1 n2 => ?_, fun a b n1 n2 => ?_, by omega, q4, ?_⟩
        · rw [q1 a b n1 (by omega), xv_ne (by omega), xv_ne (by omega)]
        · rw [q2 a b n1 (by omega), xv_ne (by omega), xv_ne (by omega)]
        · rcases q5 with ⟨g1, g2, ⟨j, g3, g4⟩, g5⟩ | g
          · refine Or.inl ⟨g1, g2, ⟨j, by omega, g4⟩, fun a a1 a2 => ?_⟩
            by_cases ca : a = v
            · subst ca
              rw [q1 w2 (S * 3 + a) (by omega) (by omega), q2 x1 (fr + a) (by omega) (by omega), xv_ne (by omega), xv_eq rfl rfl, xv_ne (by omega), xv_eq rfl rfl]
              exact ⟨rfl, hb⟩
            · exact g5 a (by omega) a2
          · exact Or.inr g
    · rw [isl_0 hb, if_pos rfl, if_pos rfl, if_neg (show ¬ v ≤ 0 by rcases hl with q | q; omega; exact absurd q hb)]
      refine wo_some (wo_some ⟨fun a b _ _ => rfl, fun a b _ _ => rfl, Int.le_refl _, hv3, Or.inl ⟨rfl, by rcases hl with q | q; omega; exact absurd q hb, ⟨i, Int.le_refl _, hh⟩, fun a a1 a2 => ?_⟩⟩)
      have a2' : a < v := a2
      omega
/-- a fault told: a part reads nothing more -/
theorem part21_0 {N : Nat} {m : IH} {x1 fr v : Int} (hN : 20000 ≤ N) (h : m 0 6 ≠ 0) : G_X12_readsPart_21 N N m x1 fr v = some (v, m) := by
  obtain ⟨N', rfl⟩ : ∃ N', N = N' + 1 := ⟨N - 1, by omega⟩
  unfold G_X12_readsPart_21
  rw [gfine0 h, yb_s, if_pos rfl]
def PartR (c m : IH) (n k w2 x1 fr S i : Int) (p q : Int × IH) : Prop := (∀ a b, ¬ (a = 2 ∧ (b = 3 ∨ b = 4 ∨ b = 5)) → ¬ (a = w2 ∧ S * 3 ≤ b ∧ b < S * 3 + 3) → p.2 a b = c a b) ∧ (∀ a b, ¬ (a = 0 ∧ (b = 4 ∨ b = 6 ∨ b = 7)) → ¬ (a = x1 ∧ fr ≤ b ∧ b < fr + 3) → q.2 a b = m a b) ∧ 0 ≤ q.1 ∧ q.1 ≤ 3 ∧ ((p.1 = q.1 ∧ 1 ≤ q.1 ∧ (∃ j, i ≤ j ∧ TP p.2 q.2 n j) ∧ ∀ a, 0 ≤ a → a < q.1 → p.2 w2 (S * 3 + a) = q.2 x1 (fr + a) ∧ isLt (q.2 x1 (fr + a))) ∨ (p.1 = -1 ∧ FT p.2 q.2 n))
/-- a part, behind blanks that are gone -/
theorem partS {N : Nat} {c m : IH} {n i k w2 x1 fr S : Int} (hN : 20000 ≤ N) (hS : 0 ≤ S ∧ S < 20) (hk : k = 19 ∨ k = 25) (hw : w2 = k + 4 ∨ w2 = k + 5) (hx : 135 ≤ x1 ∧ x1 < 155) (hf : fr = 0 ∨ fr = 3) (h : TP c m n i) (hb : bt m n i ≠ 32) (hc : c k 0 = S) : wo (G_X8_readPart N k w2 c) (fun p => wo (G_X12_readsPart N m x1 fr) (fun q => PartR c m n k w2 x1 fr S i p q)) := by
  have hh := h
  obtain ⟨⟨h1, h2, h3, h4, h5, h6⟩, ⟨h7, h8, h9⟩, h10⟩ := h
  unfold G_X8_readPart G_X12_readsPart
  rw [xlet_q, xlet_q, blanks_stay hN h2 h9 h4 h7 hb, yb_s, gletM, yb_s]
  by_cases hl : 97 ≤ bt m n i ∧ bt m n i ≤ 122
  · rw [isl_1 hl, if_neg (show ¬ (1 : Int) = 0 by omega)]
    refine (part0 hS hk hw hx hf N c m i 0 hh hc (by omega) (by omega) (by omega) (Or.inr hl)).mono (fun p hp => hp.mono (fun q hq => ?_))
    rw [Int.add_zero, Int.add_zero] at hq
    exact hq
  · rw [isl_0 hl, if_pos rfl, gwrong h6, ybv_s, part21_0 hN (by rw [xv_ne (by omega), xv_eq rfl rfl]; omega)]
    obtain ⟨N', rfl⟩ : ∃ N', N = N' + 1 := ⟨N - 1, by omega⟩
    unfold G_X8_readPart_2
    rw [if_neg (show ¬ (3 : Int) < 0 by omega), gpeek hh (by omega), yb_s, Int.add_zero, gletC, yb_s, isl_0 hl, if_pos rfl, if_pos (show (0 : Int) ≤ 0 by omega), grefuse, yb_s, h3, h4]
    refine wo_some (wo_some ⟨fun a b n1 n2 => ?_, fun a b n1 n2 => ?_, Int.le_refl _, by show (0 : Int) ≤ 3; omega, Or.inr ⟨rfl, ?_⟩⟩)
    · show xv _ _ _ _ a b = _
      rw [xv_ne (by omega), xv_ne (by omega)]
    · show xv _ _ _ _ a b = _
      rw [xv_ne (by omega), xv_ne (by omega)]
    · have := FT.fl (j := i) (j' := i) (k := 1) (l := i) hh (by omega) (by omega)
      unfold flc flm at this
      rw [xv_id h3, xv_id h4] at this
      exact this
