theorem xv_xv {h : IH} {k i v w : Int} : xv (xv h k i v) k i w = xv h k i w := by
  funext a b
  rw [xv_at, xv_at, xv_at]
  by_cases c : a = k ∧ b = i
  · rw [if_pos c, if_pos c]
  · rw [if_neg c, if_neg c, if_neg c]
theorem xv_id {h : IH} {k i v : Int} (e : h k i = v) : xv h k i v = h := by
  funext a b
  rw [xv_at]
  by_cases c : a = k ∧ b = i
  · rw [if_pos c, c.1, c.2, e]
  · rw [if_neg c]
theorem bt_xv {m : IH} {k a v n j : Int} (h : k ≠ 2) : bt (xv m k a v) n j = bt m n j := by
  unfold bt
  rw [xv_ne (by omega)]
theorem TP.at {c m : IH} {n i : Int} (h : TP c m n i) {j : Int} (hj : 0 ≤ j ∧ j ≤ n) : TP (xv c 2 3 j) (xv m 0 4 j) n j := by
  obtain ⟨⟨h1, h2, h3, h4, h5, h6⟩, ⟨h7, h8, h9⟩, h10⟩ := h
  refine ⟨⟨?_, ?_, xv_eq rfl rfl, xv_eq rfl rfl, ?_, ?_⟩, ⟨by omega, by omega, by omega⟩, fun q hq1 hq2 => ?_⟩
  · rw [xv_ne (by omega)]; exact h1
  · rw [xv_ne (by omega)]; exact h2
  · rw [xv_ne (by omega), xv_ne (by omega), xv_ne (by omega)]; exact h5
  · rw [xv_ne (by omega)]; exact h6
  · rw [xv_ne (by omega), xv_ne (by omega)]; exact h10 q hq1 hq2
/-- cells other than the tape's change nothing -/
theorem TP.w {c m : IH} {n i : Int} (h : TP c m n i) {k a v : Int} (hk : k ≠ 0 ∧ k ≠ 2) : TP c (xv m k a v) n i := by
  obtain ⟨⟨h1, h2, h3, h4, h5, h6⟩, h7, h10⟩ := h
  refine ⟨⟨h1, by rw [xv_ne (by omega)]; exact h2, h3, by rw [xv_ne (by omega)]; exact h4, ⟨h5.1, h5.2.1, by rw [xv_ne (by omega)]; exact h5.2.2⟩, by rw [xv_ne (by omega)]; exact h6⟩, h7, fun q hq1 hq2 => ?_⟩
  rw [xv_ne (by omega)]; exact h10 q hq1 hq2
theorem TP.wc {c m : IH} {n i : Int} (h : TP c m n i) {k a v : Int} (hk : k ≠ 2 ∧ k ≠ 3) : TP (xv c k a v) m n i := by
  obtain ⟨⟨h1, h2, h3, h4, h5, h6⟩, h7, h10⟩ := h
  refine ⟨⟨by rw [xv_ne (by omega)]; exact h1, h2, by rw [xv_ne (by omega)]; exact h3, h4, ⟨by rw [xv_ne (by omega)]; exact h5.1, by rw [xv_ne (by omega)]; exact h5.2.1, h5.2.2⟩, h6⟩, h7, fun q hq1 hq2 => ?_⟩
  rw [xv_ne (by omega)]; exact h10 q hq1 hq2
theorem blanks0 {N : Nat} {n : Int} : ∀ (f : Nat) (c m : IH) (i : Int), TP c m n i → n - i < f → wo (G_X9_skipBlanks_0 N f c) (fun c' => wo (G_X12_blanks_0 N f m) (fun q => ∃ j, i ≤ j ∧ j ≤ n ∧ c' = xv c 2 3 j ∧ q = (bt m n j, xv m 0 4 j) ∧ bt m n j ≠ 32)) := by
  intro f
  induction f with
  | zero => intro c m i h hf; have := h.2.1; omega
  | succ f ih =>
    intro c m i h hf
    have hr := h.rng h.2.1.1
    have hh := h
    obtain ⟨⟨h1, h2, h3, h4, h5, h6⟩, ⟨h7, h8, h9⟩, h10⟩ := h
    unfold G_X9_skipBlanks_0 G_X12_blanks_0
    rw [ghere hh, yb_s]
    by_cases hb : bt m n i = 32
    · have hi : i < n := by omega
      have h3i : c 3 i = 32 := by rw [(h10 i h7 (by omega)).1]; unfold bt at hb; rw [if_pos hi] at hb; exact hb
      rw [h1, h3, h4, if_neg (by omega), if_pos hb, h3i]
      unfold xq
      rw [if_pos (by omega), if_pos rfl, wr_in (by omega) (by omega)]
      refine (ih _ _ (i + 1) (hh.at (by omega)) (by omega)).mono (fun c' hc => hc.mono (fun q hq => ?_))
      obtain ⟨j, e1, e2, e3, e4, e5⟩ := hq
      rw [xv_xv] at e3
      rw [bt_xv (by omega), xv_xv] at e4
      rw [bt_xv (by omega)] at e5
      exact ⟨j, by omega, e2, e3, e4, e5⟩
    · rw [if_neg hb, ghere hh, yb_s, h1, h3]
      by_cases hi : i < n
      · have h3i : c 3 i ≠ 32 := by rw [(h10 i h7 (by omega)).1]; unfold bt at hb; rw [if_pos hi] at hb; exact hb
        rw [if_neg (by omega)]
        unfold xq
        rw [if_pos (by omega), if_neg h3i]
        exact wo_some (wo_some ⟨i, by omega, by omega, (xv_id h3).symm, by rw [xv_id h4], hb⟩)
      · rw [if_pos (by omega)]
        exact wo_some (wo_some ⟨i, by omega, by omega, (xv_id h3).symm, by rw [xv_id h4], hb⟩)
theorem blanksS {N : Nat} {c m : IH} {n i : Int} (hN : 20000 ≤ N) (h : TP c m n i) : ∃ j, i ≤ j ∧ j ≤ n ∧ bt m n j ≠ 32 ∧ G_X9_skipBlanks N c = some (xv c 2 3 j) ∧ G_X12_blanks N m = some (bt m n j, xv m 0 4 j) ∧ TP (xv c 2 3 j) (xv m 0 4 j) n j := by
  obtain ⟨c', e1, q, e2, j, e3, e4, e5, e6, e7⟩ := blanks0 (N := N) N c m i h (by have := h.2.1; omega)
  subst e5; subst e6
  exact ⟨j, e3, e4, e7, e1, e2, h.at ⟨by have := h.2.1; omega, e4⟩⟩
/-- a fault told by the class, by the reference -/
def flc (c : IH) (j k p : Int) : IH := xv (xv (xv c 2 3 j) 2 4 k) 2 5 p
def flm (m : IH) (j k p : Int) : IH := xv (xv (xv m 0 4 j) 0 6 k) 0 7 p
/-- two numbers read, or two faults -/
def NumR (c m : IH) (n i lo : Int) (p q : Int × IH) : Prop := (∃ v j, lo ≤ v ∧ v ≤ 99 ∧ i < j ∧ j ≤ n ∧ p = (v, xv c 2 3 j) ∧ q = (v, xv m 0 4 j)) ∨ (∃ k l j j', 1 ≤ k ∧ k ≤ 5 ∧ 0 ≤ j' ∧ j' ≤ n ∧ p = (-1, flc c j k l) ∧ q = (lo, flm m j' k l))
theorem gin {N : Nat} {m : IH} {v lo hi : Int} : G_X12_in N m v lo hi = some ((if lo ≤ v ∧ v ≤ hi then 1 else 0), m) := by
  unfold G_X12_in
  by_cases c1 : v < lo
  · rw [if_pos c1, if_neg (by omega)]
  · rw [if_neg c1]
    by_cases c2 : hi < v
    · rw [if_pos c2, if_neg (by omega)]
    · rw [if_neg c2, if_pos (by omega)]
theorem gless {N : Nat} {m : IH} {a b : Int} : G_X12_less N m a b = some (min a b, m) := by
  unfold G_X12_less
  by_cases c : b ≤ a
  · rw [if_pos c, Int.min_eq_right c]
  · rw [if_neg c, Int.min_eq_left (by omega)]
theorem gmore {N : Nat} {m : IH} {a b : Int} : G_X12_more N m a b = some (max a b, m) := by
  unfold G_X12_more
  by_cases c : a ≤ b
  · rw [if_pos c, Int.max_eq_right c]
  · rw [if_neg c, Int.max_eq_left (by omega)]
theorem flm_6 {m : IH} {j k p : Int} : flm m j k p 0 6 = k := by unfold flm; rw [xv_ne (by omega), xv_eq rfl rfl]
theorem num0 {N : Nat} {n lo s : Int} (hlo : 0 ≤ lo ∧ lo ≤ 99) : ∀ (f : Nat) (c m : IH) (i x : Int), TP c m n i → n - i < f → 0 ≤ x → s < i ∨ isd (bt m n i) = 1 ∧ s = i → wo (G_X9_readNumber_27 N f c lo s (min x 100)) (fun p => wo (G_X12_number_36 N f m lo 99 s (min x 100000)) (fun q => (∃ v j, lo ≤ v ∧ v ≤ 99 ∧ s < j ∧ j ≤ n ∧ p = (v, xv c 2 3 j) ∧ q = (v, xv m 0 4 j)) ∨ (∃ k l j j', 1 ≤ k ∧ k ≤ 5 ∧ 0 ≤ j' ∧ j' ≤ n ∧ p = (-1, flc c j k l) ∧ q = (lo, flm m j' k l)))) := by
  intro f
  induction f with
  | zero => intro c m i x h hf; have := h.2.1; omega
  | succ f ih =>
    intro c m i x h hf hx hs
    have hr := h.rng h.2.1.1
    have hh := h
    obtain ⟨⟨h1, h2, h3, h4, h5, h6⟩, ⟨h7, h8, h9⟩, h10⟩ := h
    unfold G_X9_readNumber_27 G_X12_number_36
    rw [ghere hh, yb_s, gdigM, yb_s]
    by_cases hb : 48 ≤ bt m n i ∧ bt m n i ≤ 57
    · have hi : i < n := by omega
      have h3i : c 3 i = bt m n i := by rw [(h10 i h7 (by omega)).1]; unfold bt; rw [if_pos hi]
      rw [isd_1 hb, if_neg (show ¬ (1 : Int) = 0 by omega), ghere hh, yb_s, gless, yb_s, h1, h3, if_neg (show ¬ n ≤ i by omega), h3i]
      unfold xq
      rw [if_pos (show 0 ≤ i ∧ i < 400 by omega), gdigC, yb_s, isd_1 hb, if_neg (show ¬ (1 : Int) = 0 by omega), h3, if_pos (show 0 ≤ i ∧ i < 400 by omega), h3i, h4, xlet_q, xlet_q, xlet_q, xlet_q, wr_in (show -2147483648 ≤ i + 1 by omega) (by omega), wr_in (show -2147483648 ≤ min x 100 * 10 + bt m n i - 48 by omega) (by omega), wr_in (show -2147483648 ≤ 10 * min x 100000 + bt m n i - 48 by omega) (by omega)]
      rw [show min (min x 100 * 10 + bt m n i - 48) 100 = min (x * 10 + bt m n i - 48) 100 by omega, show min 100000 (10 * min x 100000 + bt m n i - 48) = min (x * 10 + bt m n i - 48) 100000 by omega]
      refine (ih _ _ (i + 1) _ (hh.at (by omega)) (by omega) (by omega) (Or.inl (by omega))).mono (fun c' hc => hc.mono (fun q hq => ?_))
      unfold flc flm at hq ⊢
      simp only [xv_xv] at hq
      exact hq
    · have hs' : s < i := by
        rcases hs with hs | hs
        · exact hs
        · rw [isd_0 hb] at hs; omega
      have hC : (if n ≤ i then G_X9_readNumber_89 N c lo s (min x 100) else xq i 400 (yb (G_X11_isDigit N c (c 3 i)) (fun r47 a47 => if r47 = 0 then G_X9_readNumber_89 N a47 lo s (min x 100) else xq (a47 2 3) 400 (xlet (min (wr (((min x 100 * 10) + (a47 3 (a47 2 3))) - 48)) 100) (fun v3_75 => xlet (xv a47 2 3 (wr ((a47 2 3) + 1))) (fun a83 => G_X9_readNumber_27 N f a83 lo s v3_75)))))) = G_X9_readNumber_89 N c lo s (min x 100) := by
        by_cases hi : i < n
        · have h3i : c 3 i = bt m n i := by rw [(h10 i h7 (by omega)).1]; unfold bt; rw [if_pos hi]
          rw [if_neg (by omega), h3i]
          unfold xq
          rw [if_pos (by omega), gdigC, yb_s, isd_0 hb, if_pos rfl]
        · rw [if_pos (by omega)]
      rw [h1, h3, hC, isd_0 hb, if_pos rfl, gin, yb_s]
      unfold G_X9_readNumber_89 G_X9_readNumber_100 G_X12_number_95
      rw [grefuse, yb_s]
      by_cases hv : lo ≤ x ∧ x ≤ 99
      · rw [if_neg (show ¬ min x 100 < lo by omega), if_pos (show min x 100 ≤ 99 by omega), if_pos (show lo ≤ min x 100000 ∧ min x 100000 ≤ 99 by omega), if_neg (show ¬ (1 : Int) = 0 by omega), gfine h6, yb_s, if_neg (show ¬ (1 : Int) = 0 by omega)]
        exact wo_some (wo_some (Or.inl ⟨x, i, hv.1, hv.2, hs', h8, by rw [xv_id h3, Int.min_eq_left (by omega)], by rw [xv_id h4, Int.min_eq_left (by omega)]⟩))
      · have e1 : (if min x 100 < lo then some ((-1 : Int), xv (xv c 2 4 2) 2 5 s) else if min x 100 ≤ 99 then some (min x 100, c) else some (-1, xv (xv c 2 4 2) 2 5 s)) = some (-1, xv (xv c 2 4 2) 2 5 s) := by
          by_cases q : min x 100 < lo
          · rw [if_pos q]
          · rw [if_neg q, if_neg (by omega)]
        rw [e1, if_neg (show ¬ (lo ≤ min x 100000 ∧ min x 100000 ≤ 99) by omega), if_pos rfl, gwrong h6, ybv_s, gfine0 (by rw [xv_ne (by omega), xv_eq rfl rfl]; omega), yb_s, if_pos rfl]
        exact wo_some (wo_some (Or.inr ⟨2, s, i, i, by omega, by omega, h7, h8, by unfold flc; rw [xv_id h3], by unfold flm; rw [xv_id h4]⟩))
theorem numS {N : Nat} {c m : IH} {n i lo : Int} (hN : 20000 ≤ N) (hlo : 0 ≤ lo ∧ lo ≤ 99) (h : TP c m n i) : wo (G_X9_readNumber N c lo) (fun p => wo (G_X12_number N m lo 99) (fun q => NumR c m n i lo p q ∧ (¬ (48 ≤ bt m n i ∧ bt m n i ≤ 57) → p = (-1, flc c i 1 i) ∧ q = (lo, flm m i 1 i)))) := by
  have hh := h
  obtain ⟨⟨h1, h2, h3, h4, h5, h6⟩, ⟨h7, h8, h9⟩, h10⟩ := h
  unfold G_X9_readNumber G_X12_number G_X12_number_28
  rw [gfine h6, yb_s, if_neg (show ¬ (1 : Int) = 0 by omega), ghere hh, yb_s, gdigM, yb_s, xlet_q, gpeek hh (by omega), yb_s, gdigC, yb_s, Int.add_zero, h3, h4]
  by_cases hb : 48 ≤ bt m n i ∧ bt m n i ≤ 57
  · rw [isd_1 hb, if_neg (show ¬ (1 : Int) = 0 by omega), if_neg (show ¬ (1 : Int) = 0 by omega), xlet_q, xlet_q, xlet_q]
    have := num0 (N := N) (n := n) (s := i) hlo N c m i 0 hh (by omega) (by omega) (Or.inr ⟨isd_1 hb, rfl⟩)
    rw [show min (0 : Int) 100 = 0 by omega, show min (0 : Int) 100000 = 0 by omega] at this
    exact this.mono (fun p hp => hp.mono (fun q hq => ⟨hq, fun z => absurd hb z⟩))
  · rw [isd_0 hb, if_pos rfl, if_pos rfl, grefuse, yb_s, gwrong h6, ybv_s]
    have hf : xv (xv m 0 6 1) 0 7 i 0 6 ≠ 0 := by rw [xv_ne (by omega), xv_eq rfl rfl]; omega
    have hat : xv (xv m 0 6 1) 0 7 i 0 4 = i := by rw [xv_ne (by omega), xv_ne (by omega)]; exact h4
    have hsz : xv (xv m 0 6 1) 0 7 i 0 3 = n := by rw [xv_ne (by omega), xv_ne (by omega)]; exact h2
    obtain ⟨N', rfl⟩ : ∃ N', N = N' + 1 := ⟨N - 1, by omega⟩
    unfold G_X12_number_36 G_X12_number_95
    rw [hat, xlet_q, xlet_q, ghere' hsz h9 hat h7, yb_s, bt_xv (by omega), bt_xv (by omega), gdigM, yb_s, isd_0 hb, if_pos rfl, gin, yb_s, gwrong0 hf, ybv_s, gfine0 hf, yb_s, if_pos rfl]
    have e : (if (if lo ≤ 0 ∧ 0 ≤ (99 : Int) then (1 : Int) else 0) = 0 then some (lo, xv (xv m 0 6 1) 0 7 i) else some (lo, xv (xv m 0 6 1) 0 7 i)) = some (lo, xv (xv m 0 6 1) 0 7 i) := by
      by_cases q : (if lo ≤ 0 ∧ 0 ≤ (99 : Int) then (1 : Int) else 0) = 0
      · rw [if_pos q]
      · rw [if_neg q]
    rw [e]
    refine wo_some (wo_some ⟨Or.inr ⟨1, i, i, i, by omega, by omega, h7, h8, ?_, ?_⟩, fun _ => ⟨?_, ?_⟩⟩)
    · unfold flc; rw [xv_id h3]
    · unfold flm; rw [xv_id h4]
    · unfold flc; rw [xv_id h3]
    · unfold flm; rw [xv_id h4]
