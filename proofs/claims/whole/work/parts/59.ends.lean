theorem xv_cm {h : IH} {k i v k' i' v' : Int} (n : ¬ (k = k' ∧ i = i')) : xv (xv h k i v) k' i' v' = xv (xv h k' i' v') k i v := by
  funext a b
  rw [xv_at, xv_at, xv_at, xv_at]
  by_cases c : a = k ∧ b = i
  · rw [if_pos c, if_neg (by omega), if_pos c]
  · rw [if_neg c, if_neg c]
theorem blanks_stay {N : Nat} {m : IH} {n i : Int} (hN : 20000 ≤ N) (h : m 0 3 = n) (hn : n ≤ 400) (h4 : m 0 4 = i) (hi : 0 ≤ i) (hb : bt m n i ≠ 32) : G_X12_blanks N m = some (bt m n i, m) := by
  obtain ⟨N', rfl⟩ : ∃ N', N = N' + 1 := ⟨N - 1, by omega⟩
  unfold G_X12_blanks G_X12_blanks_0
  rw [ghere' h hn h4 hi, yb_s, if_neg hb, ghere' h hn h4 hi, yb_s]
/-- blanks end, wherever they begin (a fault be told or not) -/
theorem blanksX {N : Nat} {m : IH} {n : Int} (hn : n ≤ 400) : ∀ (f : Nat) (m : IH) (i : Int), m 0 3 = n → m 0 4 = i → 0 ≤ i → i ≤ n + 1 → n + 1 - i < f → ∃ j, i ≤ j ∧ j ≤ n + 1 ∧ G_X12_blanks_0 N f m = some (bt m n j, xv m 0 4 j) := by
  intro f
  induction f with
  | zero => intro m i _ _ h1 h2 h; omega
  | succ f ih =>
    intro m i h3 h4 h1 h2 hf
    unfold G_X12_blanks_0
    rw [ghere' h3 hn h4 h1, yb_s]
    by_cases hb : bt m n i = 32
    · have hi : i < n := by
        unfold bt at hb
        by_cases c : i < n
        · exact c
        · rw [if_neg c] at hb; omega
      rw [if_pos hb, h4, xlet_q, wr_in (by omega) (by omega)]
      obtain ⟨j, e1, e2, e3⟩ := ih (xv m 0 4 (i + 1)) (i + 1) (by rw [xv_ne (by omega)]; exact h3) (xv_eq rfl rfl) (by omega) (by omega) (by omega)
      rw [bt_xv (by omega), xv_xv] at e3
      exact ⟨j, by omega, e2, e3⟩
    · rw [if_neg hb, ghere' h3 hn h4 h1, yb_s]
      exact ⟨i, by omega, h2, by rw [xv_id h4]⟩
theorem closes0 {N : Nat} {m : IH} (h : m 0 6 ≠ 0) : G_X12_closes N m = some m := by
  unfold G_X12_closes
  rw [gfine0 h, yb_s, if_pos rfl]
theorem number0 {N : Nat} {m : IH} {lo hi : Int} (h : m 0 6 ≠ 0) : G_X12_number N m lo hi = some (lo, m) := by
  unfold G_X12_number
  rw [gfine0 h, yb_s, if_pos rfl]
section
variable {N : Nat} {c m : IH} {n i : Int}
theorem close39 (hN : 20000 ≤ N) (h : TP c m n i) (hb : bt m n i ≠ 32) (v : Int) : (i < n ∧ G_X9_readEnding_39 N c v = some (v, xv c 2 3 (i + 1)) ∧ G_X12_closes N m = some (xv m 0 4 (i + 1))) ∨ (G_X9_readEnding_39 N c v = some (-1, flc c i 1 i) ∧ G_X12_closes N m = some (flm m i 1 i)) := by
  have hh := h
  have hr := h.rng h.2.1.1
  obtain ⟨⟨h1, h2, h3, h4, h5, h6⟩, ⟨h7, h8, h9⟩, h10⟩ := h
  unfold G_X9_readEnding_39 G_X12_closes
  rw [gpeek hh (by omega), yb_s, Int.add_zero, gfine h6, yb_s, if_neg (show ¬ (1 : Int) = 0 by omega), blanks_stay hN h2 h9 h4 h7 hb, yb_s, h3, h4]
  by_cases c1 : bt m n i = 59
  · left
    rw [if_pos c1, if_pos c1, xlet_q, xlet_q, wr_in (by omega) (by omega)]
    exact ⟨by omega, rfl, rfl⟩
  · right
    rw [if_neg c1, if_neg c1, grefuse, yb_s, gwrong h6, ybv_s]
    unfold flc flm
    rw [xv_id h3, xv_id h4]
    exact ⟨rfl, rfl⟩
theorem closesB (hN : 20000 ≤ N) (h : TP c m n i) {j : Int} (hj : 0 ≤ j) (hb : bt m n j ≠ 32) (e : G_X12_blanks N m = some (bt m n j, xv m 0 4 j)) : G_X12_closes N m = G_X12_closes N (xv m 0 4 j) := by
  unfold G_X12_closes
  rw [gfine h.1.2.2.2.2.2, yb_s, gfine (m := xv m 0 4 j) (by rw [xv_ne (by omega)]; exact h.1.2.2.2.2.2), yb_s, e, blanks_stay (i := j) hN (by rw [xv_ne (by omega)]; exact h.1.2.1) h.2.1.2.2 (xv_eq rfl rfl) hj (by rw [bt_xv (by omega)]; exact hb), bt_xv (by omega), if_neg (show ¬ (1 : Int) = 0 by omega), if_neg (show ¬ (1 : Int) = 0 by omega)]
/-- skipBlanks and then the semicolon -/
theorem closeS (hN : 20000 ≤ N) (h : TP c m n i) (v : Int) : ∃ j, i ≤ j ∧ j ≤ n ∧ ((j < n ∧ ybv (G_X9_skipBlanks N c) (fun a => G_X9_readEnding_39 N a v) = some (v, xv c 2 3 (j + 1)) ∧ G_X12_closes N m = some (xv m 0 4 (j + 1))) ∨ (ybv (G_X9_skipBlanks N c) (fun a => G_X9_readEnding_39 N a v) = some (-1, flc c j 1 j) ∧ G_X12_closes N m = some (flm m j 1 j))) := by
  obtain ⟨j, e1, e2, e3, e4, e5, e6⟩ := blanksS hN h
  refine ⟨j, e1, e2, ?_⟩
  rw [closesB hN h (by have := h.2.1; omega) e3 e5, e4, ybv_s]
  have := close39 hN e6 (by rw [bt_xv (by omega)]; exact e3) v
  unfold flc flm at *
  rw [xv_xv, xv_xv, xv_xv, xv_xv] at this
  exact this
/-- how an entry ends: both go on with one number, or both with one fault; the reference keeps the number in the cell (K, A) -/
def EndR (c m : IH) (n i lo : Int) (K A : Int) (p : Int × IH) (m' : IH) : Prop := (∃ v j, lo ≤ v ∧ v ≤ 99 ∧ i < j ∧ j ≤ n ∧ p = (v, xv c 2 3 j) ∧ m' = xv (xv m K A v) 0 4 j) ∨ (∃ k l j j' u, 1 ≤ k ∧ k ≤ 5 ∧ 0 ≤ j' ∧ j' ≤ n ∧ p = (-1, flc c j k l) ∧ m' = flm (xv m K A u) j' k l)
/-- behind the number: it is kept, and the semicolon comes -/
theorem endN (hN : 20000 ≤ N) (h : TP c m n i) {lo : Int} (hlo : 0 ≤ lo ∧ lo ≤ 99) {K A : Int} (hK : K ≠ 0 ∧ K ≠ 2) : wo (G_X9_readEnding_22 N c lo) (fun p => wo (yb (G_X12_number N m lo 99) (fun r a => ybv (G_X12_closes N (xv a K A r)) (fun b => some b))) (fun m' => EndR c m n i lo K A p m')) := by
  obtain ⟨p, e1, q, e2, e3, -⟩ := (numS (N := N) hN hlo h)
  unfold G_X9_readEnding_22
  rw [e1, e2]
  have b := h.2.1
  rcases e3 with ⟨v, j, g1, g2, g3, g4, g5, g6⟩ | ⟨k, l, j, j', g1, g2, g3, g4, g5, g6⟩
  · subst g5; subst g6
    rw [yb_s, yb_s, xlet_q, if_neg (by omega)]
    have hT := (h.at (j := j) (by omega)).w (k := K) (a := A) (v := v) hK
    obtain ⟨j2, f1, f2, f3⟩ := closeS hN hT v
    rcases f3 with ⟨f4, f5, f6⟩ | ⟨f5, f6⟩
    · rw [f5, f6, ybv_s]
      refine wo_some (wo_some (Or.inl ⟨v, j2 + 1, g1, g2, by omega, by omega, by rw [xv_xv], ?_⟩))
      rw [xv_cm (k := 0) (k' := K) (by omega), xv_xv]
    · rw [f5, f6, ybv_s]
      refine wo_some (wo_some (Or.inr ⟨1, j2, j2, j2, v, by omega, by omega, by omega, by omega, ?_, ?_⟩))
      · unfold flc; rw [xv_xv]
      · unfold flm; rw [xv_cm (k := 0) (k' := K) (by omega), xv_xv]
  · subst g5; subst g6
    rw [yb_s, yb_s, xlet_q, if_pos rfl, closes0 (by rw [xv_ne (by omega), flm_6]; omega), ybv_s]
    refine wo_some (wo_some (Or.inr ⟨k, l, j, j', lo, g1, g2, g3, g4, rfl, ?_⟩))
    unfold flm
    rw [xv_cm (k := 0) (k' := K) (by omega), xv_cm (k := 0) (k' := K) (by omega), xv_cm (k := 0) (k' := K) (by omega)]
/-- no number: what counts without one is kept -/
theorem end0 (hN : 20000 ≤ N) (h : TP c m n i) (hb : bt m n i ≠ 32) {v lo : Int} (hv : lo ≤ v ∧ v ≤ 99) {K A : Int} (hK : K ≠ 0 ∧ K ≠ 2) : wo (G_X9_readEnding_39 N c v) (fun p => wo (ybv (G_X12_closes N (xv m K A v)) (fun b => some b)) (fun m' => EndR c m n i lo K A p m')) := by
  have b := h.2.1
  have := close39 hN (h.w (k := K) (a := A) (v := v) hK) (by rw [bt_xv (by omega)]; exact hb) v
  rcases this with ⟨f4, f5, f6⟩ | ⟨f5, f6⟩
  · rw [f5, f6, ybv_s]
    exact wo_some (wo_some (Or.inl ⟨v, i + 1, hv.1, hv.2, by omega, by omega, rfl, rfl⟩))
  · rw [f5, f6, ybv_s]
    exact wo_some (wo_some (Or.inr ⟨1, i, i, i, v, by omega, by omega, by omega, by omega, rfl, rfl⟩))
theorem EndR.at {lo K A j : Int} {p : Int × IH} {m' : IH} (hK : K ≠ 0 ∧ K ≠ 2) (hj : i ≤ j) (h : EndR (xv c 2 3 j) (xv m 0 4 j) n j lo K A p m') : EndR c m n i lo K A p m' := by
  rcases h with ⟨v, j2, g1, g2, g3, g4, g5, g6⟩ | ⟨k, l, j2, j', u, g1, g2, g3, g4, g5, g6⟩
  · refine Or.inl ⟨v, j2, g1, g2, by omega, g4, by rw [g5, xv_xv], ?_⟩
    rw [g6, xv_cm (k := 0) (k' := K) (by omega), xv_xv]
  · refine Or.inr ⟨k, l, j2, j', u, g1, g2, g3, g4, ?_, ?_⟩
    · rw [g5]; unfold flc; rw [xv_xv]
    · rw [g6]; unfold flm; rw [xv_cm (k := 0) (k' := K) (by omega), xv_xv]
theorem endS (hN : 20000 ≤ N) (h : TP c m n i) {w lo : Int} (hw : lo ≤ w ∧ w ≤ 99) (hlo : 0 ≤ lo) {K A : Int} (hK : K ≠ 0 ∧ K ≠ 2) : wo (G_X9_readEnding N c w lo) (fun p => wo (yb (G_X12_blanks N m) (fun r a => yb (G_X12_isDigit N a r) (fun r a => if r = 0 then ybv (G_X12_closes N (xv a K A w)) (fun b => some b) else yb (G_X12_number N a lo 99) (fun r a => ybv (G_X12_closes N (xv a K A r)) (fun b => some b))))) (fun m' => EndR c m n i lo K A p m')) := by
  obtain ⟨j, e1, e2, e3, e4, e5, e6⟩ := blanksS hN h
  unfold G_X9_readEnding
  rw [e4, ybv_s, xlet_q, if_neg (by omega), gpeek e6 (by omega), yb_s, gdigC, yb_s, e5, yb_s, gdigM, yb_s, Int.add_zero, bt_xv (by omega)]
  by_cases hb : 48 ≤ bt m n j ∧ bt m n j ≤ 57
  · rw [isd_1 hb, if_neg (show ¬ (1 : Int) = 0 by omega), if_neg (show ¬ (1 : Int) = 0 by omega)]
    exact (endN hN e6 (by omega) hK).mono (fun p hp => hp.mono (fun m' hm => hm.at hK e1))
  · rw [isd_0 hb, if_pos rfl, if_pos rfl]
    exact (end0 hN e6 (by rw [bt_xv (by omega)]; exact e3) hw hK).mono (fun p hp => hp.mono (fun m' hm => hm.at hK e1))
/-- a word's ending -/
theorem endW (hN : 20000 ≤ N) (h : TP c m n i) {w : Int} (hw : 0 ≤ w ∧ w < 61) : wo (G_X9_readEnding N c 0 0) (fun p => wo (G_X12_readsWord_33 N m w) (fun m' => EndR c m n i 0 6 w p m')) := by
  have hT := h.w (k := 6) (a := w) (v := 0) (by omega)
  have := endS hN hT (w := 0) (lo := 0) (by omega) (by omega) (K := 6) (A := w) (by omega)
  unfold G_X12_readsWord_33 G_X12_readsWord_70 xq
  rw [if_pos hw, xlet_q, gfine hT.1.2.2.2.2.2, yb_s, if_neg (show ¬ (1 : Int) = 0 by omega)]
  obtain ⟨p, e1, m', e2, e3⟩ := this
  refine ⟨p, e1, ?_⟩
  obtain ⟨j, f1, f2, f3, f4, f5, f6⟩ := blanksS hN hT
  rw [f5, yb_s, gdigM, yb_s] at e2 ⊢
  have k2 : EndR c m n i 0 6 w p m' := by
    rcases e3 with ⟨v, j2, g1, g2, g3, g4, g5, g6⟩ | ⟨k, l, j2, j', u, g1, g2, g3, g4, g5, g6⟩
    · exact Or.inl ⟨v, j2, g1, g2, g3, g4, g5, by rw [g6, xv_xv]⟩
    · exact Or.inr ⟨k, l, j2, j', u, g1, g2, g3, g4, g5, by rw [g6, xv_xv]⟩
  refine ⟨m', ?_, k2⟩
  by_cases hb : 48 ≤ bt (xv m 6 w 0) n j ∧ bt (xv m 6 w 0) n j ≤ 57
  · rw [isd_1 hb, if_neg (show ¬ (1 : Int) = 0 by omega)] at e2 ⊢
    rw [← e2]
    cases hq : G_X12_number N (xv (xv m 6 w 0) 0 4 j) 0 99 with
    | none => rfl
    | some q => show (if 0 ≤ w ∧ w < 61 then _ else _) = _; rw [if_pos hw]; rfl
  · rw [isd_0 hb, if_pos rfl] at e2 ⊢
    rw [← e2, xv_id (h := xv (xv m 6 w 0) 0 4 j) (k := 6) (i := w) (v := 0) (by rw [xv_ne (by omega), xv_eq rfl rfl])]
/-- a shape's ending -/
theorem endP (hN : 20000 ≤ N) (h : TP c m n i) {x : Int} (hx : x ≠ 0 ∧ x ≠ 2) : wo (G_X9_readEnding N c 5 1) (fun p => wo (G_X12_readsShape_158 N m x) (fun m' => EndR c m n i 1 x 0 p m')) := by
  have := endS hN h (w := 5) (lo := 1) (by omega) (by omega) (K := x) (A := 0) (by omega)
  unfold G_X12_readsShape_158 G_X12_readsShape_187 G_X12_readsShape_188
  rw [gfine h.1.2.2.2.2.2, yb_s, if_neg (show ¬ (1 : Int) = 0 by omega)]
  exact this
/-- the ending of what follows -/
theorem endF (hN : 20000 ≤ N) (h : TP c m n i) {x : Int} (hx : x ≠ 0 ∧ x ≠ 2) : wo (G_X9_readEnding N c (-1) 0) (fun p => wo (yb (G_X12_blanks N m) (fun r a => yb (G_X12_number N a 0 99) (fun r a => ybv (G_X12_closes N (xv a x 2 r)) (fun b => some b)))) (fun m' => EndR c m n i 0 x 2 p m')) := by
  obtain ⟨j, e1, e2, e3, e4, e5, e6⟩ := blanksS hN h
  unfold G_X9_readEnding
  rw [e4, ybv_s, xlet_q, if_pos rfl, e5, yb_s]
  exact (endN hN e6 (by omega) hx).mono (fun p hp => hp.mono (fun m' hm => hm.at hx e1))
end
