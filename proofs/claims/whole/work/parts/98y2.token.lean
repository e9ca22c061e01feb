section
variable {N : Nat} {c m : IH}
theorem CLk.fr {c' m' : IH} {k j x : Int} (h : CLk c m k j x) (hc : ∀ a b, ((a = k + 5 ∨ a = k + 6) ∧ b = j) ∨ ((a = k + 7 ∨ a = k + 8) ∧ j * 3 ≤ b ∧ b < j * 3 + 3) → c' a b = c a b) (hm : ∀ b, m' x b = m x b) : CLk c' m' k j x := by
  obtain ⟨h1, h2, h3, h4, h5, h6, h7⟩ := h
  unfold CLk
  simp only [hm]
  rw [hc (k + 5) j (by omega), hc (k + 6) j (by omega)]
  exact ⟨h1, h2, h3, h4, h5, h6, fun q q1 q2 => by rw [hc (k + 7) _ (by omega), hc (k + 8) _ (by omega)]; exact h7 q q1 q2⟩
/-- what a token changes, its cells from C on, its number being S -/
def TFc (c c' : IH) (k C S : Int) : Prop := ∀ a b, ¬ (a = 2 ∧ (b = 3 ∨ b = 4 ∨ b = 5)) → ¬ (a = k ∧ (b = 1 ∨ b = 2)) → ¬ (a = k + 1 ∧ b = S + 1) → ¬ ((a = k + 5 ∨ a = k + 6) ∧ C ≤ b) → ¬ ((a = k + 7 ∨ a = k + 8) ∧ C * 3 ≤ b) → c' a b = c a b
def TFm (m m' : IH) (S v : Int) : Prop := ∀ a b, ¬ (a = 0 ∧ (b = 4 ∨ b = 6 ∨ b = 7)) → ¬ (a = 17 ∧ b = 1) → ¬ (a = 198 ∧ b = S) → ¬ (1245 + (S * 24 + v) ≤ a ∧ a < 1245 + (S * 24 + 24)) → m' a b = m a b
theorem tok0 {n k C S : Int} (hN : 20000 ≤ N) (hk : k = 31 ∨ k = 40) (hS : 0 ≤ S ∧ S < 40) (hC : 0 ≤ C) : ∀ (f f2 : Nat) (c m : IH) (i v : Int), TP c m n i → 0 ≤ v → v ≤ 24 → c k 0 = S + 1 → c k 2 = C + v → C + v ≤ i → LNS c m k i → (0 < v ∨ cel (bt m n i)) → (∀ q, 0 ≤ q → q < v → CLk c m k (C + q) (1245 + (S * 24 + q))) → 24 - v < f → 24 - v < f2 → ∃ r c' m', G_X5_readToken_81 N k f c v = some (r, c') ∧ G_X12_readsToken_16 N f2 m S v = some m' ∧ TFc c c' k (C + v) S ∧ TFm m m' S v ∧ ((r = 1 ∧ ∃ j w, i ≤ j ∧ TP c' m' n j ∧ 1 ≤ w ∧ w ≤ 24 ∧ m' 198 S = w ∧ c' k 2 = C + w ∧ C + w ≤ j ∧ c' (k + 1) (S + 1) = C + w ∧ LNS c' m' k j ∧ (∀ q, 0 ≤ q → q < w → CLk c' m' k (C + q) (1245 + (S * 24 + q))) ∧ (bt m' n j = -1 ∨ bt m' n j = 32 ∨ bt m' n j = 10)) ∨ (r = 0 ∧ FL c' m') ∨ (r = 0 ∧ ∃ c2 j, TP c2 m' n j ∧ c' 2 4 = 1 ∧ c' 2 5 = j ∧ bt m' n j ≠ -1 ∧ bt m' n j ≠ 32 ∧ bt m' n j ≠ 10 ∧ 0 ≤ m' 17 1 ∧ m' 17 1 ≤ 400)) := by
  intro f
  induction f with
  | zero => intro f2 c m i v h h1 h2 h3 h4 h5 h6 h7 h8 h9 h10; omega
  | succ f ih =>
    intro f2 c m i v h h1 h2 h3 h4 h5 h6 h7 h8 h9 h10
    obtain ⟨f2, rfl⟩ : ∃ g, f2 = g + 1 := ⟨f2 - 1, by omega⟩
    have hr := h.rng h.2.1.1
    have hn := h.2.1
    have t6 := h.1.2.2.2.2.2
    unfold G_X5_readToken_81 G_X12_readsToken_16
    rw [if_neg (show ¬ 24 < v by omega), gpeek h (by omega), yb_s, Int.add_zero, xlet_q, gapC, yb_s, gfine t6, yb_s, if_neg i10, ghere h, yb_s]
    by_cases hb : cel (bt m n i)
    · have nb : bt m n i ≠ -1 ∧ ¬ (bt m n i = 32 ∨ bt m n i = 10) := by
        unfold cel isLt at hb
        omega
      rw [if_neg nb.1, if_neg nb.2, if_pos rfl, begC1 hb, yb_s, if_neg i10, begM1 hb, yb_s, if_neg i10]
      by_cases v24 : v = 24
      · rw [if_pos v24, if_pos v24, grefuse, yb_s, ybo0, gwrong t6, ybv_s, h.1.2.2.1, h.1.2.2.2.1]
        unfold G_X12_readsToken_48
        rw [gfine0 (by rw [xv_ne (by omega), xv_eq rfl rfl]; omega), yb_s, if_pos rfl]
        refine ⟨0, _, _, rfl, rfl, fun a b z1 z2 z3 z4 z5 => ?_, fun a b z1 z2 z3 z4 => ?_, Or.inr (Or.inl ⟨rfl, FL.w2 (by omega)⟩)⟩
        · rw [xv_ne (by omega), xv_ne (by omega)]
        · rw [xv_ne (by omega), xv_ne (by omega)]
      · rw [if_neg v24, if_neg v24]
        unfold G_X12_readsToken_48
        rw [gfine t6, yb_s, if_neg i10, xq_in hS.1 hS.2, xq_in h1 (by omega), xlet_q, show (285 : Int) + ((1 * 40 + S) * 24 + v) = 1245 + (S * 24 + v) by omega]
        obtain ⟨r, c1, m1, a1, a2, a3, a4, a5⟩ := cellS (N := N) (k := k) (C := C + v) (x := 1245 + (S * 24 + v)) hN hk ⟨by omega, h5⟩ (by omega) h (by omega) hb h4 h6
        rw [a1, a2, yb_s, ybv_s, wr_in (show -2147483648 ≤ v + 1 by omega) (by omega)]
        simp only [xlet_q]
        have fc : TFc c c1 k (C + v) S := by
          clear a5
          exact fun a b z1 z2 z3 z4 z5 => a3 a b z1 z2 (by omega) (by omega)
        have fm : TFm m m1 S v := by
          clear a5
          exact fun a b z1 z2 z3 z4 => a4 a b z1 z2 (by omega)
        rcases a5 with ⟨b1, ⟨j, b2, b3, b4⟩, b5, b6⟩ | ⟨b1, b2⟩
        · rw [b1, if_neg i10]
          obtain ⟨r', c', m', d1, d2, d3, d4, d5⟩ := ih f2 c1 m1 j (v + 1) b3 (by omega) (by omega) (by rw [a3 _ _ (by omega) (by omega) (by omega) (by omega)]; exact h3) (by omega) (by omega) b4 (Or.inl (by omega)) (fun q q1 q2 => by
            by_cases eq : q = v
            · subst eq; exact b6
            · exact (h8 q q1 (by omega)).fr (fun a b z => a3 a b (by omega) (by omega) (by omega) (by omega)) (fun b => a4 _ b (by omega) (by omega) (by omega))) (by omega) (by omega)
          refine ⟨r', c', m', d1, d2, fun a b z1 z2 z3 z4 z5 => ?_, fun a b z1 z2 z3 z4 => ?_, ?_⟩
          · rw [d3 a b z1 z2 z3 (by omega) (by omega)]; exact fc a b z1 z2 z3 z4 z5
          · rw [d4 a b z1 z2 z3 (by omega)]; exact fm a b z1 z2 z3 z4
          · rcases d5 with ⟨e1, j', w, e2, e3⟩ | e
            · exact Or.inl ⟨e1, j', w, by omega, e3⟩
            · exact Or.inr e
        · obtain ⟨f2', e2⟩ : ∃ g, f2 = g + 1 := ⟨f2 - 1, by omega⟩
          subst e2
          rw [b1, if_pos rfl]
          unfold G_X12_readsToken_16 G_X12_readsToken_76
          rw [gfine0 (by have := b2.2.2.1; omega), yb_s, if_pos rfl, xlet_q, xq_in hS.1 hS.2, xlet_q, show (197 : Int) + 1 = 198 by omega]
          refine ⟨0, _, _, rfl, rfl, fc, fun a b z1 z2 z3 z4 => ?_, Or.inr (Or.inl ⟨rfl, ?_, ?_, ?_, ?_⟩)⟩
          · rw [xv_ne (by omega)]; exact fm a b z1 z2 z3 z4
          · rw [xv_ne (by omega)]; exact b2.1
          · rw [xv_ne (by omega)]; exact b2.2.1
          · rw [xv_ne (by omega)]; exact b2.2.2.1
          · rw [xv_ne (by omega)]; exact b2.2.2.2
    · have v0 : 0 < v := by
        rcases h7 with q | q
        · exact q
        · exact absurd q hb
      unfold G_X12_readsToken_76
      rw [begM0 hb, yb_s, if_pos rfl, xlet_q, xq_in hS.1 hS.2, xlet_q, show (197 : Int) + 1 = 198 by omega]
      have fm : TFm m (xv m 198 S v) S v := fun a b z1 z2 z3 z4 => xv_ne (by omega)
      have T2 : TP c (xv m 198 S v) n i := h.w (by omega)
      have good : ∃ r c' m', G_X5_readToken_106 N k (G_X5_readToken_81 N k f) c = some (r, c') ∧ some (xv m 198 S v) = some m' ∧ TFc c c' k (C + v) S ∧ TFm m m' S v ∧ (r = 1 ∧ ∃ j w, i ≤ j ∧ TP c' m' n j ∧ 1 ≤ w ∧ w ≤ 24 ∧ m' 198 S = w ∧ c' k 2 = C + w ∧ C + w ≤ j ∧ c' (k + 1) (S + 1) = C + w ∧ LNS c' m' k j ∧ (∀ q, 0 ≤ q → q < w → CLk c' m' k (C + q) (1245 + (S * 24 + q))) ∧ bt m' n j = bt m n i) := by
        unfold G_X5_readToken_106
        rw [h3, h4, xq_in (by omega) (by omega), xlet_q]
        refine ⟨1, _, _, rfl, rfl, fun a b z1 z2 z3 z4 z5 => xv_ne (by omega), fm, rfl, i, v, by omega, T2.wc (by omega), by omega, h2, xv_eq rfl rfl, ?_, h5, xv_eq rfl rfl, ?_, fun q q1 q2 => ?_, bt_xv (by omega)⟩
        · rw [xv_ne (by omega)]; exact h4
        · unfold LNS
          rw [xv_ne (by omega), xv_ne (by omega)]
          exact h6
        · exact (h8 q q1 q2).fr (fun a b z => xv_ne (by omega)) (fun b => xv_ne (by omega))
      by_cases n1 : bt m n i = -1
      · rw [if_pos n1]
        obtain ⟨r, c', m', a1, a2, a3, a4, a5, j, w, a6⟩ := good
        exact ⟨r, c', m', a1, a2, a3, a4, Or.inl ⟨a5, j, w, a6.1, a6.2.1, a6.2.2.1, a6.2.2.2.1, a6.2.2.2.2.1, a6.2.2.2.2.2.1, a6.2.2.2.2.2.2.1, a6.2.2.2.2.2.2.2.1, a6.2.2.2.2.2.2.2.2.1, a6.2.2.2.2.2.2.2.2.2.1, Or.inl (a6.2.2.2.2.2.2.2.2.2.2.trans n1)⟩⟩
      · rw [if_neg n1]
        by_cases g : bt m n i = 32 ∨ bt m n i = 10
        · rw [if_pos g, if_neg i10]
          obtain ⟨r, c', m', a1, a2, a3, a4, a5, j, w, a6⟩ := good
          refine ⟨r, c', m', a1, a2, a3, a4, Or.inl ⟨a5, j, w, a6.1, a6.2.1, a6.2.2.1, a6.2.2.2.1, a6.2.2.2.2.1, a6.2.2.2.2.2.1, a6.2.2.2.2.2.2.1, a6.2.2.2.2.2.2.2.1, a6.2.2.2.2.2.2.2.2.1, a6.2.2.2.2.2.2.2.2.2.1, ?_⟩⟩
          rw [a6.2.2.2.2.2.2.2.2.2.2]
          exact Or.inr g
        · rw [if_neg g, if_pos rfl, begC0 hb, yb_s, if_pos rfl, grefuse, yb_s, ybo0]
          refine ⟨0, _, _, rfl, rfl, fun a b z1 z2 z3 z4 z5 => ?_, fm, Or.inr (Or.inr ⟨rfl, c, i, T2, ?_, ?_, ?_, ?_, ?_, ?_, ?_⟩)⟩
          · rw [xv_ne (by omega), xv_ne (by omega)]
          · rw [xv_ne (by omega), xv_eq rfl rfl]
          · rw [xv_eq rfl rfl]; exact h.1.2.2.1
          · rw [bt_xv (by omega)]; exact n1
          · rw [bt_xv (by omega)]; exact fun q => g (Or.inl q)
          · rw [bt_xv (by omega)]; exact fun q => g (Or.inr q)
          · rw [xv_ne (by omega)]; exact h6.2.1
          · rw [xv_ne (by omega)]; have := h6.2.2; omega
/-- what stands between two tokens -/
def btw (a b : Int) : Int := if a = 0 then 0 else if a = 1 ∧ b = 0 then 1 else 2
theorem gap0 {n k : Int} : ∀ (f : Nat) (c m : IH) (i x y : Int), TP c m n i → 0 ≤ x → 0 ≤ y → x + y ≤ i → n - i < f → (0 ≤ m 17 1 ∧ m 17 1 ≤ 400) → ∃ j x' y', i ≤ j ∧ j ≤ n ∧ x ≤ x' ∧ y ≤ y' ∧ x' + y' = x + y + (j - i) ∧ G_X5_readGap_4 N k f c x y = G_X5_readGap_55 N k (xv c 2 3 j) x' y' ∧ G_X12_standsBetween_4 N f m x y = some (btw x' y', xv (xv m 0 4 j) 17 1 (m 17 1 + x')) ∧ bt m n j ≠ 32 ∧ bt m n j ≠ 10 ∧ TP (xv c 2 3 j) (xv m 0 4 j) n j := by
  intro f
  induction f with
  | zero => intro c m i x y h h1 h2 h3 h4; have := h.2.1; omega
  | succ f ih =>
    intro c m i x y h h1 h2 h3 h4 h5
    have hr := h.rng h.2.1.1
    have hn := h.2.1
    unfold G_X5_readGap_4 G_X12_standsBetween_4
    rw [gatEnd h, yb_s, ghere h, yb_s, ghere h, yb_s]
    have stop : bt m n i ≠ 32 → bt m n i ≠ 10 → ∃ j x' y', i ≤ j ∧ j ≤ n ∧ x ≤ x' ∧ y ≤ y' ∧ x' + y' = x + y + (j - i) ∧ G_X5_readGap_55 N k c x y = G_X5_readGap_55 N k (xv c 2 3 j) x' y' ∧ (xlet (xv m 17 1 (wr ((m 17 1) + x))) (fun a78 => if x = 0 then some (0, a78) else if x = 1 then if y = 0 then some (1, a78) else some (2, a78) else some (2, a78))) = some (btw x' y', xv (xv m 0 4 j) 17 1 (m 17 1 + x')) ∧ bt m n j ≠ 32 ∧ bt m n j ≠ 10 ∧ TP (xv c 2 3 j) (xv m 0 4 j) n j := fun z1 z2 => by
      refine ⟨i, x, y, by omega, by omega, by omega, by omega, by omega, by rw [xv_id h.1.2.2.1], ?_, z1, z2, by rw [xv_id h.1.2.2.1, xv_id h.1.2.2.2.1]; exact h⟩
      rw [xlet_q, wr_in (by omega) (by omega), xv_id h.1.2.2.2.1]
      unfold btw
      by_cases q1 : x = 0
      · rw [if_pos q1, if_pos q1]
      · rw [if_neg q1, if_neg q1]
        by_cases q2 : x = 1
        · rw [if_pos q2]
          by_cases q3 : y = 0
          · rw [if_pos q3, if_pos ⟨q2, q3⟩]
          · rw [if_neg q3, if_neg (fun z => q3 z.2)]
        · rw [if_neg q2, if_neg (fun z => q2 z.1)]
    by_cases hi : i < n
    · rw [if_pos hi, if_pos rfl, gpeek h (by omega), yb_s, Int.add_zero, gapC, yb_s, gpeek h (by omega), yb_s, Int.add_zero]
      by_cases g : bt m n i = 32 ∨ bt m n i = 10
      · rw [if_pos g, if_neg i10]
        unfold G_X12_standsBetween_22 G_X12_standsBetween_37 G_X12_standsBetween_54 G_X5_readGap_42
        have T1 := h.at (j := i + 1) (by omega)
        have m17 : xv m 0 4 (i + 1) 17 1 = m 17 1 := xv_ne (by omega)
        by_cases b10 : bt m n i = 10
        · rw [if_neg (show ¬ bt m n i = 32 by omega), if_pos b10, if_pos b10]
          simp only [xlet_q]
          rw [ghere h, yb_s, if_pos b10, ghere h, yb_s, if_pos b10, h.1.2.2.1, h.1.2.2.2.1, wr_in (show -2147483648 ≤ i + 1 by omega) (by omega), wr_in (show -2147483648 ≤ x + 1 by omega) (by omega), wr_in (show -2147483648 ≤ y + 0 by omega) (by omega), Int.add_zero]
          obtain ⟨j, x', y', a1, a2, a3, a4, a5, a6, a7, a8, a9, a10⟩ := ih _ _ (i + 1) (x + 1) y T1 (by omega) (by omega) (by omega) (by omega) (by rw [m17]; exact h5)
          rw [xv_xv] at a6 a7 a10
          rw [m17] at a7
          rw [xv_xv] at a10
          rw [bt_xv (by omega)] at a8 a9
          exact ⟨j, x', y', by omega, a2, by omega, by omega, by omega, a6, a7, a8, a9, a10⟩
        · have b32 : bt m n i = 32 := by omega
          rw [if_pos b32, if_neg b10]
          simp only [xlet_q]
          rw [ghere h, yb_s, if_neg b10, ghere h, yb_s, if_neg b10, h.1.2.2.1, h.1.2.2.2.1, wr_in (show -2147483648 ≤ i + 1 by omega) (by omega), wr_in (show -2147483648 ≤ x + 0 by omega) (by omega), wr_in (show -2147483648 ≤ y + 1 by omega) (by omega), Int.add_zero]
          obtain ⟨j, x', y', a1, a2, a3, a4, a5, a6, a7, a8, a9, a10⟩ := ih _ _ (i + 1) x (y + 1) T1 (by omega) (by omega) (by omega) (by omega) (by rw [m17]; exact h5)
          rw [xv_xv] at a6 a7 a10
          rw [m17] at a7
          rw [xv_xv] at a10
          rw [bt_xv (by omega)] at a8 a9
          exact ⟨j, x', y', by omega, a2, by omega, by omega, by omega, a6, a7, a8, a9, a10⟩
      · rw [if_neg g, if_pos rfl, if_neg (fun z => g (Or.inl z)), if_neg (fun z => g (Or.inr z))]
        exact stop (fun z => g (Or.inl z)) (fun z => g (Or.inr z))
    · have b1 : bt m n i = -1 := hr.2.2.1 (by omega)
      rw [if_neg hi, if_neg i10, if_neg (by omega), if_neg (by omega)]
      exact stop (by omega) (by omega)
/-- what the class keeps of a gap -/
def gpc (c : IH) (k S x y n i : Int) : IH := if S ≤ 0 then xv c k 1 (c k 1 + x) else xv (xv (xv c k 1 (c k 1 + x)) (k + 4) (S - 1) (if x ≤ 0 then 0 else 1)) (k + 3) (S - 1) (if (x = 1 ∧ y = 0) ∧ i < n then 1 else 0)
theorem gpc_fr {k S x y n i a b : Int} (h1 : ¬ (a = k ∧ b = 1)) (h2 : ¬ ((a = k + 3 ∨ a = k + 4) ∧ b = S - 1)) : gpc c k S x y n i a b = c a b := by
  unfold gpc
  by_cases s0 : S ≤ 0
  · rw [if_pos s0, xv_ne h1]
  · rw [if_neg s0, xv_ne (by omega), xv_ne (by omega), xv_ne h1]
theorem gpc_1 {k S x y n i : Int} : gpc c k S x y n i k 1 = c k 1 + x := by
  unfold gpc
  by_cases s0 : S ≤ 0
  · rw [if_pos s0, xv_eq rfl rfl]
  · rw [if_neg s0, xv_ne (by omega), xv_ne (by omega), xv_eq rfl rfl]
theorem gpc_4 {k S x y n i : Int} (s0 : 0 < S) : gpc c k S x y n i (k + 4) (S - 1) = if x ≤ 0 then 0 else 1 := by
  unfold gpc
  rw [if_neg (by omega), xv_ne (by omega), xv_eq rfl rfl]
theorem gpc_3 {k S x y n i : Int} (s0 : 0 < S) : gpc c k S x y n i (k + 3) (S - 1) = if (x = 1 ∧ y = 0) ∧ i < n then 1 else 0 := by
  unfold gpc
  rw [if_neg (by omega), xv_eq rfl rfl]
theorem g123 {k s v : Int} (hs : 0 ≤ s ∧ s < 40) : G_X5_readGap_123 N k c s v = some (xv c (k + 3) s (ynar v)) := by
  unfold G_X5_readGap_123
  rw [xq_in hs.1 hs.2, xlet_q]
theorem g91 {n k i S x y v : Int} (hk : k = 31 ∨ k = 40) (h : TP c m n i) (hS : c k 0 = S) (hS2 : 1 ≤ S ∧ S ≤ 40) : G_X5_readGap_91 N k c x y (S - 1) v = some (xv (xv c (k + 4) (S - 1) (ynar v)) (k + 3) (S - 1) (if (x = 1 ∧ y = 0) ∧ i < n then 1 else 0)) := by
  unfold G_X5_readGap_91 G_X5_readGap_122
  have e1 : xv c (k + 4) (S - 1) (ynar v) k 0 = S := by rw [xv_ne (by omega)]; exact hS
  rw [xq_in (by omega) (by omega), xlet_q, e1, wr_in (show -2147483648 ≤ S - 1 by omega) (by omega)]
  have T1 : TP (xv c (k + 4) (S - 1) (ynar v)) m n i := h.wc (by omega)
  rw [gatEnd T1, yb_s, g123 (by omega), g123 (by omega), ynar_0, ynar_1]
  by_cases x1 : x = 1
  · rw [if_pos x1]
    by_cases y0 : y = 0
    · rw [if_pos y0]
      by_cases q : i < n
      · rw [if_pos q, if_pos rfl, if_pos ⟨⟨x1, y0⟩, q⟩]
      · rw [if_neg q, if_neg i10, if_neg (fun z => q z.2)]
    · rw [if_neg y0, if_neg (fun z => y0 z.1.2)]
  · rw [if_neg x1, if_neg (fun z => x1 z.1.1)]
theorem gap55 {n k i S x y : Int} (hk : k = 31 ∨ k = 40) (h : TP c m n i) (hS : c k 0 = S) (hS2 : 0 ≤ S ∧ S ≤ 40) (hx : 0 ≤ x ∧ x ≤ 400) (hl : 0 ≤ c k 1 ∧ c k 1 ≤ 500) : G_X5_readGap_55 N k c x y = some (gpc c k S x y n i) := by
  unfold G_X5_readGap_55 gpc
  have e0 : xv c k 1 (c k 1 + x) k 0 = S := by rw [xv_ne (by omega)]; exact hS
  rw [wr_in (show -2147483648 ≤ c k 1 + x by omega) (by omega), xlet_q, e0]
  by_cases s0 : S ≤ 0
  · rw [if_pos s0, if_pos s0]
  · have T1 : TP (xv c k 1 (c k 1 + x)) m n i := h.wc (by omega)
    rw [if_neg s0, if_neg s0, wr_in (show -2147483648 ≤ S - 1 by omega) (by omega)]
    by_cases x0 : x ≤ 0
    · rw [if_pos x0, if_pos x0, g91 hk T1 e0 (by omega), ynar_0]
    · rw [if_neg x0, if_neg x0, g91 hk T1 e0 (by omega), ynar_1]
/-- a gap, both sides -/
theorem gapS {n k i S : Int} (hN : 20000 ≤ N) (hk : k = 31 ∨ k = 40) (h : TP c m n i) (hS : c k 0 = S) (hS2 : 0 ≤ S ∧ S ≤ 40) (hL : LNS c m k i) : ∃ j x y, i ≤ j ∧ j ≤ n ∧ 0 ≤ x ∧ 0 ≤ y ∧ x + y = j - i ∧ G_X5_readGap N k c = some (gpc (xv c 2 3 j) k S x y n j) ∧ G_X12_standsBetween N m = some (btw x y, xv (xv m 0 4 j) 17 1 (m 17 1 + x)) ∧ bt m n j ≠ 32 ∧ bt m n j ≠ 10 ∧ TP (gpc (xv c 2 3 j) k S x y n j) (xv (xv m 0 4 j) 17 1 (m 17 1 + x)) n j ∧ LNS (gpc (xv c 2 3 j) k S x y n j) (xv (xv m 0 4 j) 17 1 (m 17 1 + x)) k j := by
  have hn := h.2.1
  obtain ⟨L1, L2, L3⟩ := hL
  obtain ⟨j, x, y, a1, a2, a3, a4, a5, a6, a7, a8, a9, a10⟩ := gap0 (N := N) (k := k) N c m i 0 0 h (by omega) (by omega) (by omega) (by omega) (by omega)
  have e1 : xv c 2 3 j k 1 = c k 1 := xv_ne (by omega)
  have g := gap55 (N := N) (S := S) (x := x) (y := y) hk a10 (by rw [xv_ne (by omega)]; exact hS) hS2 (by omega) (by rw [e1]; omega)
  refine ⟨j, x, y, a1, a2, a3, a4, by omega, ?_, ?_, a8, a9, ?_, ?_, ?_, ?_⟩
  · unfold G_X5_readGap
    rw [xlet_q, xlet_q, a6, g]
  · unfold G_X12_standsBetween
    rw [xlet_q, xlet_q, a7]
  · have T := a10.w (k := 17) (a := 1) (v := m 17 1 + x) (by omega)
    obtain ⟨⟨h1, h2, h3, h4, h5, h6⟩, h7, h10⟩ := T
    exact ⟨⟨by rw [gpc_fr (by omega) (by omega)]; exact h1, h2, by rw [gpc_fr (by omega) (by omega)]; exact h3, h4, ⟨by rw [gpc_fr (by omega) (by omega)]; exact h5.1, by rw [gpc_fr (by omega) (by omega)]; exact h5.2.1, h5.2.2⟩, h6⟩, h7, fun q q1 q2 => by rw [gpc_fr (by omega) (by omega)]; exact h10 q q1 q2⟩
  · rw [gpc_1, e1, xv_eq rfl rfl]; omega
  · rw [xv_eq rfl rfl]; omega
  · rw [xv_eq rfl rfl]; omega
end
