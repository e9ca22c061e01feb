theorem TrC.cv {c c' m : IH} (h : TrC c m) (h4 : c' 4 5 = c 4 5) (hc : ∀ a b, 9 ≤ a → a ≤ 13 → c' a b = c a b) : TrC c' m := by
  have k9 : ∀ b, c' 9 b = c 9 b := fun b => hc _ _ (by omega) (by omega)
  have k10 : ∀ b, c' 10 b = c 10 b := fun b => hc _ _ (by omega) (by omega)
  have k11 : ∀ b, c' 11 b = c 11 b := fun b => hc _ _ (by omega) (by omega)
  have k12 : ∀ b, c' 12 b = c 12 b := fun b => hc _ _ (by omega) (by omega)
  have k13 : ∀ b, c' 13 b = c 13 b := fun b => hc _ _ (by omega) (by omega)
  unfold TrC at *
  simp only [h4, k9, k10, k11, k12, k13]
  exact h
def PLW (c m : IH) (P : Int → Int → Int) (W : Int) : Prop := (TrM m ∧ (0 ≤ W ∧ W ≤ 60) ∧ (∀ w, 0 ≤ w → w < W → (1 ≤ m 5 w ∧ m 5 w ≤ 12) ∧ (0 ≤ m 6 w ∧ m 6 w ≤ 99) ∧ (1 ≤ m 7 w ∧ m 7 w < m 0 15) ∧ c 6 w = m 6 w ∧ c 7 w = m 7 w) ∧ PTH m P W ∧ m 8 0 = -1 ∧ c 4 0 = W ∧ c 4 5 = m 0 15 ∧ ∀ x, 0 ≤ x → x < m 0 15 → c 9 x = m 8 x) ∧ (∀ x, 0 ≤ x → x < m 0 15 → m 10 x = -1 ∨ (0 ≤ m 10 x ∧ m 10 x < W ∧ m 7 (m 10 x) = x)) ∧ (∀ w, 0 ≤ w → w < W → m 10 (m 7 w) = w) ∧ TrC c m ∧ (∀ w, 0 ≤ w → w < W → c 5 w = m 5 w ∧ ∀ k, 0 ≤ k → k < m 5 w → c 8 (w * 12 + k) = m (52 + w) k ∧ sg (m (52 + w) k)) ∧ ((m 0 15 ≤ 1 + 12 * W ∧ m 8 0 = -1 ∧ m 9 0 = 0) ∧ ∀ x, 1 ≤ x → x < m 0 15 → ∃ w k, 0 ≤ w ∧ w < W ∧ 0 ≤ k ∧ k ≤ m 5 w ∧ P w k = x) ∧ (∀ x, 0 ≤ x → x < m 0 15 → c 14 x = thr m P x W.toNat)
theorem PLW.pl {c m : IH} {P : Int → Int → Int} {W : Int} (h : PLW c m P W) (e : m 0 10 = W) : PL c m P := by
  subst e
  exact h
theorem PL.plw {c m : IH} {P : Int → Int → Int} {W : Int} (h : PL c m P) (e : m 0 10 = W) : PLW c m P W := by
  subst e
  exact h
section
variable {N : Nat} {c m : IH} {P : Int → Int → Int} {Q : Int → Int}
theorem addN {x s y : Int} (hy : c 4 5 = y) (hy2 : 0 ≤ y ∧ y < 721) (hx : 0 ≤ x ∧ x < y) : ∃ c', G_X2_addNode N c x s = some (y, c') ∧ c' 4 5 = y + 1 ∧ c' 9 y = x ∧ c' 10 y = s ∧ c' 11 y = -1 ∧ c' 12 y = -1 ∧ c' 12 x = y ∧ c' 13 y = c 12 x ∧ c' 14 y = 0 ∧ ∀ a b, ¬ (a = 4 ∧ b = 5) → ¬ ((9 ≤ a ∧ a ≤ 15) ∧ b = y) → ¬ (a = 12 ∧ b = x) → c' a b = c a b := by
  unfold G_X2_addNode
  rw [hy, xlet_q, if_pos hy2.2, wr_in (by omega) (by omega)]
  simp (disch := omega) only [xlet_q, xq_in]
  rw [if_neg (show ¬ x < 0 by omega)]
  refine ⟨_, rfl, ?_, ?_, ?_, ?_, ?_, ?_, ?_, ?_, fun a b z1 z2 z3 => ?_⟩
  · simp (disch := omega) only [xv_ne]; exact xv_eq rfl rfl
  · simp (disch := omega) only [xv_ne]; exact xv_eq rfl rfl
  · simp (disch := omega) only [xv_ne]; exact xv_eq rfl rfl
  · simp (disch := omega) only [xv_ne]; exact xv_eq rfl rfl
  · rw [xv_ne (by omega), xv_ne (by omega), xv_ne (by omega), xv_ne (by omega), xv_ne (by omega)]; exact xv_eq rfl rfl
  · exact xv_eq rfl rfl
  · rw [xv_ne (by omega), xv_eq rfl rfl]
    simp (disch := omega) only [xv_ne]
  · rw [xv_ne (by omega), xv_ne (by omega), xv_ne (by omega)]; exact xv_eq rfl rfl
  · simp (disch := omega) only [xv_ne]
def WFc (c c' : IH) (W : Int) : Prop := ∀ a b, ¬ (a = 4 ∧ b = 5) → ¬ (a = 8 ∧ W * 12 ≤ b ∧ b < W * 12 + 12) → ¬ (9 ≤ a ∧ a ≤ 15) → c' a b = c a b
def WFm (m m' : IH) : Prop := ∀ a b, ¬ (a = 0 ∧ b = 15) → ¬ (8 ≤ a ∧ a ≤ 10) → m' a b = m a b
theorem growStep {W d s len : Int} {f f2 : Nat} (hN : 20000 ≤ N) (h : GW c m P Q W d) (hd : 0 ≤ d ∧ d < len) (hlen : len ≤ 12) (hW : 0 ≤ W ∧ W < 60) (h40 : c 4 0 = W) (h5 : m 5 W = len) (hs : 0 ≤ s ∧ s + len ≤ 400) (h3 : c 3 (s + d) = m (52 + W) d) (hsg : sg (m (52 + W) d)) : ∃ c' m' Q', G_X2_addWord_16 N 3 (f + 1) c s len (Q d) d = G_X2_addWord_16 N 3 f c' s len (Q' (d + 1)) (d + 1) ∧ G_X12_grows_4 N (f2 + 1) m W (Q d) d = G_X12_grows_4 N f2 m' W (Q' (d + 1)) (d + 1) ∧ GW c' m' P Q' W (d + 1) ∧ c' 8 (W * 12 + d) = m (52 + W) d ∧ (∀ q, 0 ≤ q → q < d → c' 8 (W * 12 + q) = c 8 (W * 12 + q)) ∧ WFc c c' W ∧ WFm m m' := by
  have hh := h
  obtain ⟨⟨a1, a2, a3⟩, ⟨b1, b2⟩, b3, ⟨b4, b5⟩, b6, ⟨b7, b8, b9⟩, b10, b11⟩ := h
  have n1 := a1.1
  have Qd := b3.1
  have tc1 : ∀ v, TrC (xv c 8 (W * 12 + d) v) m := fun v => a2.cv (xv_ne (by omega)) (fun a b _ _ => xv_ne (by omega))
  rw [G_X2_addWord_16, G_X12_grows_4]
  rw [if_neg (show ¬ len ≤ d by omega), if_neg (show ¬ 12 ≤ d by omega), xq_in (show 0 ≤ s + d by omega) (by omega), xlet_q, h3, h40, xq_in (show 0 ≤ W * 12 + d by omega) (by omega), xlet_q, chC hN a1 (tc1 _) Qd, yb_s, xlet_q, xq_in hW.1 (show W < 61 by omega), h5, if_neg (show ¬ len ≤ d by omega), xq_in hW.1 (show W < 61 by omega), xlet_q, xq_in hd.1 (show d < 12 by omega), chM hN a1 Qd, yb_s, xlet_q]
  rcases SPG.step a1 a3 b3 hd.1 with ⟨q1, q2⟩ | ⟨q1, q2⟩
  · have q1' : ch m (Q d) (m (52 + W) d) = -1 := q1
    rw [if_pos q1', if_pos q1', xlet_q]
    have y721 : m 0 15 < 721 := by omega
    obtain ⟨c1, d1, d2, d3, d4, d5, d6, d7, d8, d9, d10⟩ := addN (N := N) (c := xv c 8 (W * 12 + d) (m (52 + W) d)) (x := Q d) (s := m (52 + W) d) (y := m 0 15) (by rw [xv_ne (by omega)]; exact a2.1) (by omega) Qd
    rw [d1, yb_s, xlet_q, xq_in (show 0 ≤ m 0 15 by omega) y721, xlet_q, xq_in hW.1 (show W < 61 by omega), xlet_q, xq_in hd.1 (show d < 12 by omega), xq_in (show 0 ≤ m 0 15 by omega) y721, xlet_q, xq_in (show 0 ≤ m 0 15 by omega) y721, xlet_q, xlet_q, xv_ne (show ¬ ((52 : Int) + W = 8 ∧ d = m 0 15) by omega), xv_ne (show ¬ ((0 : Int) = 10 ∧ (15 : Int) = m 0 15) by omega), xv_ne (show ¬ ((0 : Int) = 9 ∧ (15 : Int) = m 0 15) by omega), xv_ne (show ¬ ((0 : Int) = 8 ∧ (15 : Int) = m 0 15) by omega), wr_in (show -2147483648 ≤ m 0 15 + 1 by omega) (by omega)]
    unfold G_X2_addWord_80 G_X12_grows_82
    rw [if_neg (show ¬ m 0 15 = -1 by omega), xlet_q, xq_in (show 0 ≤ m 0 15 by omega) y721, xq_in (show 0 ≤ m 0 15 by omega) y721, xlet_q, xlet_q, xlet_q, xlet_q, d9, wr_in (show -2147483648 ≤ d + 1 by omega) (by omega), wr_in (show -2147483648 ≤ (0 : Int) + 1 by omega) (by omega)]
    generalize hy : m 0 15 = y at *
    generalize hm1 : xv (xv (xv (xv m 8 y (Q d)) 9 y (m (52 + W) d)) 10 y (-1)) 0 15 (y + 1) = m1
    have o : ∀ a b, ¬ (a = 0 ∧ b = 15) → ¬ ((8 ≤ a ∧ a ≤ 10) ∧ b = y) → m1 a b = m a b := fun a b z1 z2 => by rw [← hm1, xv_ne z1, xv_ne (by omega), xv_ne (by omega), xv_ne (by omega)]
    have e15 : m1 0 15 = y + 1 := by rw [← hm1]; exact xv_eq rfl rfl
    have e8 : m1 8 y = Q d := by rw [← hm1, xv_ne (by omega), xv_ne (by omega), xv_ne (by omega), xv_eq rfl rfl]
    have e9 : m1 9 y = m (52 + W) d := by rw [← hm1, xv_ne (by omega), xv_ne (by omega), xv_eq rfl rfl]
    have e10 : m1 10 y = -1 := by rw [← hm1, xv_ne (by omega), xv_eq rfl rfl]
    clear hm1
    have tm : TrM m1 := TrM.add (x := Q d) (s := m (52 + W) d) (y := y) a1 hy.symm y721 Qd hsg q1' e15 e8 e9 (fun z zz => o _ _ (by omega) (by omega)) (fun z zz => o _ _ (by omega) (by omega))
    have co : ∀ a b, ¬ (a = 4 ∧ b = 5) → ¬ (a = 8 ∧ b = W * 12 + d) → ¬ ((9 ≤ a ∧ a ≤ 15) ∧ b = y) → ¬ (a = 12 ∧ b = Q d) → xv c1 14 y (0 + 1) a b = c a b := fun a b z1 z2 z3 z4 => by rw [xv_ne (by omega), d10 a b z1 (by omega) z4, xv_ne (by omega)]
    have x12 : xv c 8 (W * 12 + d) (m (52 + W) d) 12 (Q d) = c 12 (Q d) := xv_ne (by omega)
    have tc : TrC (xv c1 14 y (0 + 1)) m1 := TrC.add (x := Q d) (s := m (52 + W) d) (y := y) a1 a2 hy.symm Qd (by rw [xv_ne (by omega)]; exact d2) e15 e8 e9 e10 (fun z zz => o _ _ (by omega) (by omega)) (fun z zz => o _ _ (by omega) (by omega)) (fun z zz => o _ _ (by omega) (by omega)) (by rw [xv_ne (by omega)]; exact d3) (by rw [xv_ne (by omega)]; exact d4) (by rw [xv_ne (by omega)]; exact d5) (by rw [xv_ne (by omega)]; exact d6) (by rw [xv_ne (by omega)]; exact d7) (by rw [xv_ne (by omega), d8]; exact x12) (fun z zz => co _ _ (by omega) (by omega) (by omega) (by omega)) (fun z zz => co _ _ (by omega) (by omega) (by omega) (by omega)) (fun z zz => co _ _ (by omega) (by omega) (by omega) (by omega)) (fun z z1 z2 => co _ _ (by omega) (by omega) (by omega) (by omega)) (fun z zz => co _ _ (by omega) (by omega) (by omega) (by omega))
    have gw := GW.next (c' := xv c1 14 y (0 + 1)) (m' := m1) (y := y) hh hd.1 hW.1 tm tc (by omega) (by omega) e8 e9 (by omega) (fun z z1 z2 => by
      have : z = y := by omega
      rw [this]
      exact ⟨rfl, e10⟩) (by omega) (fun z zz => o _ _ (by omega) (by omega)) (fun z zz => o _ _ (by omega) (by omega)) (fun z zz => o _ _ (by omega) (by omega)) (fun b => o _ _ (by omega) (by omega)) (fun b => o _ _ (by omega) (by omega)) (fun e b x1 x2 => o _ _ (by omega) (by omega)) (fun z z1 z2 => by
      rw [co _ _ (by omega) (by omega) (by omega) (by omega), if_neg (show ¬ z = y by omega)]
      omega) (fun _ => by rw [xv_eq rfl rfl]; omega) (by
      refine ⟨by omega, fun w w1 w2 w3 e => ?_, fun w k w1 w2 k1 k2 e => ?_⟩
      · rw [o 5 w (by omega) (by omega)] at w3
        refine absurd (fun k k1 k2 => ?_) (q2 w w1 w2 w3)
        have e' : m1 (52 + w) k = m1 (52 + W) k := e k k1 k2
        rw [o _ _ (by omega) (by omega), o _ _ (by omega) (by omega)] at e'
        exact e'
      · rw [o 5 w (by omega) (by omega)] at k2
        have := (PTH.lt a1 a3 (w := w) ⟨w1, w2⟩ ⟨k1, k2⟩).2
        omega)
    refine ⟨_, m1, _, ?_, ?_, gw, ?_, fun q x1 x2 => ?_, fun a b z1 z2 z3 => ?_, fun a b z1 z2 => o a b z1 (by omega)⟩
    · rw [if_pos rfl]
    · rw [if_pos rfl]
    · rw [xv_ne (by omega), d10 _ _ (by omega) (by omega) (by omega), xv_eq rfl rfl]
    · exact co _ _ (by omega) (by omega) (by omega) (by omega)
    · exact co a b z1 (by omega) (by omega) (by omega)
  · have q1' : 1 ≤ ch m (Q d) (m (52 + W) d) := q1
    have yy : ch m (Q d) (m (52 + W) d) < m 0 15 ∧ m 8 (ch m (Q d) (m (52 + W) d)) = Q d ∧ m 9 (ch m (Q d) (m (52 + W) d)) = m (52 + W) d := by
      rcases ch_cases m (Q d) (m (52 + W) d) with z | z
      · omega
      · exact z.2
    rw [if_neg (show ¬ ch m (Q d) (m (52 + W) d) = -1 by omega), if_neg (show ¬ ch m (Q d) (m (52 + W) d) = -1 by omega)]
    unfold G_X2_addWord_80 G_X12_grows_82
    have q2' : SPG m P (fun k => m (52 + W) k) W (ch m (Q d) (m (52 + W) d)) (d + 1) := q2
    generalize ch m (Q d) (m (52 + W) d) = y at q1' yy q2' ⊢
    have b14 := b10 y (by omega) yy.1
    have tr := thr_rng (P := P) (m := m) (x := y) W.toNat
    have onr : 0 ≤ onq Q d y ∧ onq Q d y ≤ 1 := by
      unfold onq
      by_cases e : ∃ k, 0 ≤ k ∧ k ≤ d ∧ Q k = y
      · rw [if_pos e]; omega
      · rw [if_neg e]; omega
    have e14 : xv c 8 (W * 12 + d) (m (52 + W) d) 14 y = c 14 y := xv_ne (by omega)
    rw [if_neg (show ¬ y = -1 by omega), xlet_q, xq_in (show 0 ≤ y by omega) (by omega), xq_in (show 0 ≤ y by omega) (by omega), xlet_q, xlet_q, xlet_q, xlet_q, e14, wr_in (show -2147483648 ≤ d + 1 by omega) (by omega), wr_in (show -2147483648 ≤ c 14 y + 1 by omega) (by omega)]
    have gw := GW.next (c' := xv (xv c 8 (W * 12 + d) (m (52 + W) d)) 14 y (c 14 y + 1)) (m' := m) (y := y) hh hd.1 hW.1 a1 ((tc1 _).cv (xv_ne (by omega)) (fun a b _ _ => xv_ne (by omega))) q1' yy.1 yy.2.1 yy.2.2 (by omega) (fun z z1 z2 => by omega) (by omega) (fun _ _ => rfl) (fun _ _ => rfl) (fun _ _ => rfl) (fun _ => rfl) (fun _ => rfl) (fun _ _ _ _ => rfl) (fun z z1 z2 => by
      by_cases e : z = y
      · rw [if_pos e, e, xv_eq rfl rfl]
      · rw [if_neg e, xv_ne (by omega), xv_ne (by omega)]; omega) (fun z => by omega) q2'
    refine ⟨_, m, _, ?_, ?_, gw, ?_, fun q x1 x2 => ?_, fun a b z1 z2 z3 => ?_, fun a b z1 z2 => rfl⟩
    · rw [if_pos rfl]
    · rw [if_pos rfl]
    · rw [xv_ne (by omega), xv_eq rfl rfl]
    · rw [xv_ne (by omega), xv_ne (by omega)]
    · rw [xv_ne (by omega), xv_ne (by omega)]
theorem grow0 {W s len : Int} (hN : 20000 ≤ N) (hlen : len ≤ 12) (hW : 0 ≤ W ∧ W < 60) (hs : 0 ≤ s ∧ s + len ≤ 400) : ∀ (f f2 : Nat) (c m : IH) (Q : Int → Int) (d : Int), GW c m P Q W d → 0 ≤ d → d ≤ len → c 4 0 = W → m 5 W = len → (∀ q, 0 ≤ q → q < len → c 3 (s + q) = m (52 + W) q ∧ sg (m (52 + W) q)) → (∀ q, 0 ≤ q → q < d → c 8 (W * 12 + q) = m (52 + W) q) → len - d < f → len - d < f2 → ∃ c' m' Q', G_X2_addWord_16 N 3 f c s len (Q d) d = some (xv (xv (xv c' 5 W len) 7 W (Q' len)) 11 (Q' len) W) ∧ G_X12_grows_4 N f2 m W (Q d) d = some (xv (xv m' 10 (Q' len) W) 7 W (Q' len)) ∧ GW c' m' P Q' W len ∧ (∀ q, 0 ≤ q → q < len → c' 8 (W * 12 + q) = m' (52 + W) q) ∧ WFc c c' W ∧ WFm m m' := by
  intro f
  induction f with
  | zero => intro f2 c m Q d h h1 h2 h3 h4 h5 h6 h7 h8; omega
  | succ f ih =>
    intro f2 c m Q d h h1 h2 h3 h4 h5 h6 h7 h8
    obtain ⟨f2, rfl⟩ : ∃ g, f2 = g + 1 := ⟨f2 - 1, by omega⟩
    by_cases c1 : len ≤ d
    · have e : d = len := by omega
      subst e
      have Qd := h.2.2.1.1
      have n1 := h.1.1.1
      unfold G_X2_addWord_16 G_X12_grows_4 G_X2_addWord_108
      have x1 : xv c 5 W d 4 0 = W := by rw [xv_ne (by omega)]; exact h3
      have x2 : xv (xv c 5 W d) 7 W (Q d) 4 0 = W := by rw [xv_ne (by omega)]; exact x1
      rw [if_pos c1, xq_in hW.1 (show W < 61 by omega), h4, if_pos c1, h3, xq_in hW.1 hW.2, xlet_q, x1, xq_in hW.1 hW.2, xlet_q, xq_in Qd.1 (by omega), xlet_q, x2, xq_in Qd.1 (by omega), xlet_q, xq_in hW.1 (show W < 61 by omega), xlet_q]
      exact ⟨c, m, Q, rfl, rfl, h, h6, fun _ _ _ _ _ => rfl, fun _ _ _ _ => rfl⟩
    · obtain ⟨c', m', Q', a1, a2, a3, a4, a5, a6, a7⟩ := growStep (N := N) (f := f) (f2 := f2) hN h ⟨h1, by omega⟩ hlen hW h3 h4 hs (h5 d h1 (by omega)).1 (h5 d h1 (by omega)).2
      have rW : ∀ q, m' (52 + W) q = m (52 + W) q := fun q => a7 _ _ (by omega) (by omega)
      obtain ⟨c'', m'', Q'', b1, b2, b3, b4, b5, b6⟩ := ih f2 c' m' Q' (d + 1) a3 (by omega) (by omega) (by rw [a6 _ _ (by omega) (by omega) (by omega)]; exact h3) (by rw [a7 _ _ (by omega) (by omega)]; exact h4) (fun q q1 q2 => by rw [a6 _ _ (by omega) (by omega) (by omega), rW]; exact h5 q q1 q2) (fun q q1 q2 => by
        rw [rW]
        by_cases e : q = d
        · rw [e]; exact a4
        · rw [a5 q q1 (by omega)]; exact h6 q q1 (by omega)) (by omega) (by omega)
      exact ⟨c'', m'', Q'', a1.trans b1, a2.trans b2, b3, b4, fun a b z1 z2 z3 => by rw [b5 a b z1 z2 z3, a6 a b z1 z2 z3], fun a b z1 z2 => by rw [b6 a b z1 z2, a7 a b z1 z2]⟩
/-- a word is added, both sides -/
theorem growS {W s len : Int} (hN : 20000 ≤ N) (h : PLW c m P W) (hW : W < 60) (h5 : m 5 W = len) (hlen : 1 ≤ len ∧ len ≤ 12) (hs : 0 ≤ s ∧ s + len ≤ 400) (hb : ∀ q, 0 ≤ q → q < len → m (52 + W) q = c 3 (s + q) ∧ sg (m (52 + W) q)) (h6 : 0 ≤ m 6 W ∧ m 6 W ≤ 99) (hno : ∀ e, 0 ≤ e → e < W → ¬ SPW m (fun k => m (52 + W) k) len e) : ∃ c' m' P', G_X2_addWord N 3 c s len = some c' ∧ G_X12_grows N m W = some m' ∧ c' 4 0 = W ∧ PLW (xv (xv c' 6 W (m 6 W)) 4 0 (W + 1)) m' P' (W + 1) ∧ (∀ a b, ¬ (a = 4 ∧ b = 5) → ¬ (5 ≤ a ∧ a ≤ 15) → c' a b = c a b) ∧ ∀ a b, ¬ (a = 0 ∧ b = 15) → ¬ (7 ≤ a ∧ a ≤ 10) → m' a b = m a b := by
  obtain ⟨⟨t1, t2, t3, t4, t5, t6, t7, t8⟩, p2, p3, p4, p5, ⟨⟨p6, p7, p8⟩, p9⟩, p10⟩ := h
  have n1 := t1.1
  have th0 := thr_rng (P := P) (m := m) (x := 0) W.toNat
  have c140 := p10 0 (by omega) (by omega)
  have g0 : GW (xv c 14 0 (c 14 0 + 1)) m P (fun _ => 0) W 0 := by
    refine ⟨⟨t1, p4.cv (xv_ne (by omega)) (fun a b _ _ => xv_ne (by omega)), t4⟩, ⟨rfl, fun q q1 q2 => by omega⟩, SPG.root t1 t4, ⟨p2, fun w w1 w2 => ⟨(t3 w w1 w2).2.2.1.1, (t3 w w1 w2).2.2.1.2, p3 w w1 w2, (t3 w w1 w2).1.1⟩⟩, fun x x1 x2 => Or.inl (p9 x x1 x2), ⟨by omega, p7, p8⟩, fun x x1 x2 => ?_, fun q q1 q2 => Int.le_refl _⟩
    unfold onq
    by_cases e : x = 0
    · rw [e, xv_eq rfl rfl, if_pos ⟨0, by omega, by omega, rfl⟩, c140]
    · rw [xv_ne (by omega), if_neg (fun z => ?_), p10 x x1 x2]
      · omega
      · obtain ⟨k, _, _, k3⟩ := z
        exact e k3.symm
  obtain ⟨c1, m1, Q, a1, a2, a3, a4, a5, a6⟩ := grow0 (N := N) (P := P) hN hlen.2 ⟨t2.1, hW⟩ hs N N _ m _ 0 g0 (by omega) (by omega) (by rw [xv_ne (by omega)]; exact t6) h5 (fun q q1 q2 => by rw [xv_ne (by omega)]; exact ⟨(hb q q1 q2).1.symm, (hb q q1 q2).2⟩) (fun q q1 q2 => by omega) (by omega) (by omega)
  unfold G_X2_addWord G_X12_grows
  rw [xlet_q, xlet_q, xlet_q, xlet_q, xlet_q, wr_in (show -2147483648 ≤ c 14 0 + 1 by omega) (by omega), a1, a2]
  obtain ⟨⟨g1, g2, g3⟩, ⟨g4, g5⟩, g6, ⟨g7, g8⟩, g9, ⟨g10, g11, g12⟩, g13, g14⟩ := a3
  have cc : ∀ a b, ¬ (a = 4 ∧ b = 5) → ¬ (a = 8 ∧ W * 12 ≤ b ∧ b < W * 12 + 12) → ¬ (9 ≤ a ∧ a ≤ 15) → c1 a b = c a b := fun a b z1 z2 z3 => by rw [a5 a b z1 z2 z3, xv_ne (by omega)]
  have m15 : m1 5 W = len := by rw [a6 _ _ (by omega) (by omega)]; exact h5
  have rw1 : ∀ e k, 0 ≤ e → e ≤ W → m1 (52 + e) k = m (52 + e) k := fun e k e1 e2 => a6 _ _ (by omega) (by omega)
  have Qx := g6.1
  have free : m1 10 (Q len) = -1 := by
    rcases g7 (Q len) Qx.1 Qx.2 with z | ⟨z1, z2, z3⟩
    · exact z
    · refine absurd ?_ (hno (m1 10 (Q len)) z1 z2)
      have e2 := (g3 (m1 10 (Q len)) z1 z2).2.1
      obtain ⟨y1, y2⟩ := g6.2.2 (m1 10 (Q len)) (m1 5 (m1 10 (Q len))) z1 z2 (by have := (g8 (m1 10 (Q len)) z1 z2).2.2.2; omega) (by omega) (by rw [e2]; exact z3)
      refine ⟨by rw [← a6 5 _ (by omega) (by omega)]; exact y1, fun k k1 k2 => ?_⟩
      have := y2 k k1 k2
      have this' : m1 (52 + m1 10 (Q len)) k = m1 (52 + W) k := this
      rw [rw1 _ k z1 (by omega), rw1 W k t2.1 (by omega)] at this'
      exact this'
  have Q1 : 1 ≤ Q len := by
    have := (g5 (len - 1) (by omega) (by omega)).1
    rw [show len - 1 + 1 = len by omega] at this
    exact this
  have ne : ∀ w, 0 ≤ w → w < W → m1 7 w ≠ Q len := fun w w1 w2 z => by
    have := (g8 w w1 w2).2.2.1
    rw [z, free] at this
    omega
  generalize hx : Q len = x at *
  have mo : ∀ a b, ¬ (a = 10 ∧ b = x) → ¬ (a = 7 ∧ b = W) → xv (xv m1 10 x W) 7 W x a b = m1 a b := fun a b z1 z2 => by rw [xv_ne z2, xv_ne z1]
  have co : ∀ a b, ¬ ((a = 5 ∨ a = 6 ∨ a = 7) ∧ b = W) → ¬ (a = 11 ∧ b = x) → ¬ (a = 4 ∧ b = 0) → xv (xv (xv (xv (xv c1 5 W len) 7 W x) 11 x W) 6 W (m 6 W)) 4 0 (W + 1) a b = c1 a b := fun a b z1 z2 z3 => by rw [xv_ne z3, xv_ne (by omega), xv_ne z2, xv_ne (by omega), xv_ne (by omega)]
  have m7 : xv (xv m1 10 x W) 7 W x 7 W = x := xv_eq rfl rfl
  have m10 : xv (xv m1 10 x W) 7 W x 10 x = W := by rw [xv_ne (by omega), xv_eq rfl rfl]
  have k5 : xv (xv (xv (xv (xv c1 5 W len) 7 W x) 11 x W) 6 W (m 6 W)) 4 0 (W + 1) 5 W = len := by rw [xv_ne (by omega), xv_ne (by omega), xv_ne (by omega), xv_ne (by omega), xv_eq rfl rfl]
  have k7 : xv (xv (xv (xv (xv c1 5 W len) 7 W x) 11 x W) 6 W (m 6 W)) 4 0 (W + 1) 7 W = x := by rw [xv_ne (by omega), xv_ne (by omega), xv_ne (by omega), xv_eq rfl rfl]
  have k6 : xv (xv (xv (xv (xv c1 5 W len) 7 W x) 11 x W) 6 W (m 6 W)) 4 0 (W + 1) 6 W = m 6 W := by rw [xv_ne (by omega), xv_eq rfl rfl]
  have k11 : xv (xv (xv (xv (xv c1 5 W len) 7 W x) 11 x W) 6 W (m 6 W)) 4 0 (W + 1) 11 x = W := by rw [xv_ne (by omega), xv_ne (by omega), xv_eq rfl rfl]
  have k4 : xv (xv (xv (xv (xv c1 5 W len) 7 W x) 11 x W) 6 W (m 6 W)) 4 0 (W + 1) 4 0 = W + 1 := xv_eq rfl rfl
  refine ⟨_, _, fun w k => if w = W then Q k else P w k, rfl, rfl, ?_, ?_, fun a b z1 z2 => ?_, fun a b z1 z2 => ?_⟩
  · rw [xv_ne (by omega), xv_ne (by omega), xv_ne (by omega), cc _ _ (by omega) (by omega) (by omega)]; exact t6
  · generalize xv (xv (xv (xv (xv c1 5 W len) 7 W x) 11 x W) 6 W (m 6 W)) 4 0 (W + 1) = c2 at co k4 k5 k6 k7 k11 ⊢
    generalize xv (xv m1 10 x W) 7 W x = m2 at mo m7 m10 ⊢
    have m215 : m2 0 15 = m1 0 15 := mo _ _ (by omega) (by omega)
    have m28 : ∀ b, m2 8 b = m1 8 b := fun b => mo _ _ (by omega) (by omega)
    have m29 : ∀ b, m2 9 b = m1 9 b := fun b => mo _ _ (by omega) (by omega)
    have m25 : ∀ b, m2 5 b = m1 5 b := fun b => mo _ _ (by omega) (by omega)
    have m2r : ∀ e b, 0 ≤ e → e ≤ W → m2 (52 + e) b = m1 (52 + e) b := fun e b _ _ => mo _ _ (by omega) (by omega)
    have PW : ∀ w k, 0 ≤ w → w < W → (fun w k => if w = W then Q k else P w k) w k = P w k := fun w k _ _ => by
      show (if w = W then Q k else P w k) = _
      rw [if_neg (by omega)]
    have PX : ∀ k, (fun w k => if w = W then Q k else P w k) W k = Q k := fun k => by
      show (if W = W then Q k else P W k) = _
      rw [if_pos rfl]
    have tm : TrM m2 := by
      unfold TrM at *
      simp only [m215, m28, m29]
      exact g1
    have tc : TrC c2 m2 := by
      obtain ⟨u1, u2, u3, u4⟩ := g2
      have k12 : ∀ b, c2 12 b = c1 12 b := fun b => co _ _ (by omega) (by omega) (by omega)
      have k13 : ∀ b, c2 13 b = c1 13 b := fun b => co _ _ (by omega) (by omega) (by omega)
      unfold TrC
      simp only [m215, m28, m29, k12, k13]
      refine ⟨by rw [co _ _ (by omega) (by omega) (by omega)]; exact u1, fun z z1 z2 => ?_, u3, u4⟩
      obtain ⟨v1, v2, v3⟩ := u2 z z1 z2
      refine ⟨by rw [co _ _ (by omega) (by omega) (by omega)]; exact v1, by rw [co _ _ (by omega) (by omega) (by omega)]; exact v2, ?_⟩
      by_cases e : z = x
      · rw [e, k11, m10]
      · rw [co _ _ (by omega) (by omega) (by omega), mo _ _ (by omega) (by omega)]; exact v3
    refine ⟨⟨tm, by omega, fun w w1 w2 => ?_, fun w w1 w2 => ?_, by rw [m28]; exact g11, k4, by rw [m215]; exact tc.1.trans m215, fun z z1 z2 => (tc.2.1 z z1 z2).1⟩, fun z z1 z2 => ?_, fun w w1 w2 => ?_, tc, fun w w1 w2 => ?_, ⟨⟨by omega, by rw [m28]; exact g11, by rw [m29]; exact g12⟩, fun z z1 z2 => ?_⟩, fun z z1 z2 => ?_⟩
    · by_cases e : w = W
      · rw [e, m25, m15, mo 6 W (by omega) (by omega), a6 6 W (by omega) (by omega), m7, m215, k6, k7]
        exact ⟨hlen, h6, ⟨Q1, Qx.2⟩, rfl, rfl⟩
      · obtain ⟨v1, v2, v3, v4, v5⟩ := t3 w w1 (by omega)
        have v6 := g8 w w1 (by omega)
        rw [m25, a6 5 w (by omega) (by omega), mo 6 w (by omega) (by omega), a6 6 w (by omega) (by omega), mo 7 w (by omega) (by omega), m215, co 6 w (by omega) (by omega) (by omega), co 7 w (by omega) (by omega) (by omega), cc 6 w (by omega) (by omega) (by omega), cc 7 w (by omega) (by omega) (by omega), a6 7 w (by omega) (by omega)]
        rw [a6 7 w (by omega) (by omega)] at v6
        exact ⟨v1, v2, ⟨v6.1, v6.2.1⟩, v4, v5⟩
    · by_cases e : w = W
      · rw [e, PX, m25, m15, PX, m7]
        refine ⟨g4, hx, fun k k1 k2 => ?_⟩
        rw [PX, PX, m215, m28, m29, m2r W k t2.1 (by omega)]
        exact g5 k k1 k2
      · obtain ⟨v1, v2, v3⟩ := g3 w w1 (by omega)
        rw [PW w 0 w1 (by omega), m25, PW w _ w1 (by omega), mo 7 w (by omega) (by omega)]
        refine ⟨v1, v2, fun k k1 k2 => ?_⟩
        rw [PW w _ w1 (by omega), PW w _ w1 (by omega), m215, m28, m29, m2r w k w1 (by omega)]
        exact v3 k k1 k2
    · rw [m215] at z2
      by_cases e : z = x
      · rw [e, m10]
        exact Or.inr ⟨t2.1, by omega, m7⟩
      · rw [mo 10 z (by omega) (by omega)]
        rcases g7 z z1 z2 with q | ⟨q1, q2, q3⟩
        · exact Or.inl q
        · exact Or.inr ⟨q1, by omega, by rw [mo 7 _ (by omega) (by omega)]; exact q3⟩
    · by_cases e : w = W
      · rw [e, m7, m10]
      · have v6 := g8 w w1 (by omega)
        have v7 := ne w w1 (by omega)
        rw [mo 7 w (by omega) (by omega), mo 10 _ (by omega) (by omega)]
        exact v6.2.2.1
    · by_cases e : w = W
      · rw [e, k5, m25, m15]
        refine ⟨rfl, fun k k1 k2 => ?_⟩
        rw [co 8 _ (by omega) (by omega) (by omega), m2r W k t2.1 (by omega), rw1 W k t2.1 (by omega)]
        exact ⟨(a4 k k1 k2).trans (rw1 W k t2.1 (by omega)), (hb k k1 k2).2⟩
      · obtain ⟨v1, v2⟩ := p5 w w1 (by omega)
        rw [co 5 w (by omega) (by omega) (by omega), cc 5 w (by omega) (by omega) (by omega), m25, a6 5 w (by omega) (by omega)]
        refine ⟨v1, fun k k1 k2 => ?_⟩
        have w12 := (t3 w w1 (by omega)).1
        rw [co 8 _ (by omega) (by omega) (by omega), cc 8 _ (by omega) (by omega) (by omega), m2r w k w1 (by omega), rw1 w k w1 (by omega)]
        exact v2 k k1 k2
    · rw [m215] at z2
      rcases g9 z z1 z2 with ⟨w, k, r1, r2, r3, r4, r5⟩ | ⟨q, r1, r2, r3⟩
      · exact ⟨w, k, r1, by omega, r3, by rw [m25]; exact r4, by rw [PW w k r1 r2]; exact r5⟩
      · exact ⟨W, q, t2.1, by omega, r1, by rw [m25, m15]; exact r2, by rw [PX]; exact r3⟩
    · rw [m215] at z2
      have eW : (W + 1).toNat = W.toNat + 1 := by omega
      have eW2 : ((W.toNat : Nat) : Int) = W := by omega
      rw [co 14 z (by omega) (by omega) (by omega), g13 z z1 z2, eW]
      simp only [thr]
      rw [thr_cg (m := m1) (P := P) W.toNat (fun b _ _ => m25 b) (fun b k b1 b2 => PW b k b1 (by omega)), eW2, m25, m15]
      unfold onq
      have ee : ∀ k, (if W = W then Q k else P W k) = Q k := fun k => if_pos rfl
      have e3 : (∃ k, 0 ≤ k ∧ k ≤ len ∧ (if W = W then Q k else P W k) = z) = (∃ k, 0 ≤ k ∧ k ≤ len ∧ Q k = z) := propext ⟨fun ⟨k, a, b, d⟩ => ⟨k, a, b, (ee k).symm.trans d⟩, fun ⟨k, a, b, d⟩ => ⟨k, a, b, (ee k).trans d⟩⟩
      rw [e3]
  · rw [xv_ne (by omega), xv_ne (by omega), xv_ne (by omega), cc a b z1 (by omega) (by omega)]
  · rw [mo a b (by omega) (by omega), a6 a b z1 (by omega)]
end
