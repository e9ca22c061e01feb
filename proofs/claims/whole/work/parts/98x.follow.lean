/-- what follows what stands on both sides -/
def FOE (c m : IH) (k s : Int) : Prop := c (k + 1) s = m (2267 + s) 0 ∧ c (k + 2) s = m (2267 + s) 1 ∧ c (k + 3) s = m (2267 + s) 2 ∧ 0 ≤ m (2267 + s) 2 ∧ m (2267 + s) 2 ≤ 99
def FFc (c c' : IH) (k S : Int) : Prop := ∀ a b, ¬ (a = 2 ∧ (b = 3 ∨ b = 4 ∨ b = 5)) → ¬ (a = k ∧ b = 1) → ¬ ((k + 1 ≤ a ∧ a ≤ k + 3) ∧ b = S) → c' a b = c a b
def FFm (m m' : IH) (S : Int) : Prop := ∀ a b, ¬ (a = 0 ∧ (b = 4 ∨ b = 6 ∨ b = 7)) → ¬ (a = 5 ∧ b = 60) → a ≠ 112 → a ≠ 2267 + S → m' a b = m a b
section
variable {N : Nat} {c m : IH}
theorem rf49_0 {n x v : Int} (hN : 20000 ≤ N) (hx : x ≠ 0 ∧ x ≠ 2) (h6 : m 0 6 ≠ 0) (h3 : m 0 3 = n) (hn : n ≤ 400) (h4 : 0 ≤ m 0 4 ∧ m 0 4 ≤ n + 1) : ∃ m', G_X12_readsFollow_49 N m x x 1 v = some m' ∧ ∀ a b, ¬ (a = 0 ∧ b = 4) → a ≠ x → m' a b = m a b := by
  unfold G_X12_readsFollow_49 G_X12_blanks
  rw [xq_in (by omega) (by omega), xlet_q]
  obtain ⟨j, j1, j2, j3⟩ := blanksX (N := N) (m := m) (n := n) hn N (xv m x 1 v) (m 0 4) (by rw [xv_ne (by omega)]; exact h3) (xv_ne (by omega)) h4.1 h4.2 (by omega)
  rw [j3, yb_s, number0 (by rw [xv_ne (by omega), xv_ne (by omega)]; exact h6), yb_s, xlet_q, closes0 (by rw [xv_ne (by omega), xv_ne (by omega), xv_ne (by omega)]; exact h6), ybv_s]
  exact ⟨_, rfl, fun a b z1 z2 => by rw [xv_ne (by omega), xv_ne (by omega), xv_ne (by omega)]⟩
theorem whB {n i j : Int} (hN : 20000 ≤ N) (h : TP c m n i) (hj : 0 ≤ j) (hb : bt m n j ≠ 32) (e : G_X12_blanks N m = some (bt m n j, xv m 0 4 j)) : G_X12_wordHere N m = G_X12_wordHere N (xv m 0 4 j) := by
  unfold G_X12_wordHere
  rw [e, blanks_stay (i := j) hN (by rw [xv_ne (by omega)]; exact h.1.2.1) h.2.1.2.2 (xv_eq rfl rfl) hj (by rw [bt_xv (by omega)]; exact hb), bt_xv (by omega)]
/-- an entry of what follows, both sides -/
theorem entryF {n i k S : Int} (hN : 20000 ≤ N) (hk : k = 49 ∨ k = 53) (hS : 0 ≤ S ∧ S < 60) (hl : LL c m) (h : TP c m n i) (hb : bt m n i ≠ 32) (hc : c k 1 = S) : ∃ r c' m', G_X1_readEntry_30 N k c = some (r, c') ∧ G_X12_readsFollow N m (2267 + S) = some m' ∧ FFc c c' k S ∧ FFm m m' S ∧ ((r = 1 ∧ (∃ j, TP c' m' n j) ∧ c' k 1 = S + 1 ∧ FOE c' m' k S) ∨ (r = 0 ∧ c' 2 4 = m' 0 6 ∧ c' 2 5 = m' 0 7 ∧ 1 ≤ m' 0 6 ∧ m' 0 6 ≤ 5)) := by
  have hn := h.2.1
  obtain ⟨r1, c1, r1', m1, a1, a2, a3, a4, a5⟩ := wordHS (N := N) (k := k) hN hl h hb
  unfold G_X1_readEntry_30 G_X12_readsFollow
  rw [a1, a2, yb_s, yb_s, xlet_q, xlet_q]
  have ck : c1 k 1 = S := by rw [a3 _ _ (by omega)]; exact hc
  have f1 : FFm m (xv m1 (2267 + S) 0 r1') S := fun a b z1 z2 z3 z4 => by rw [xv_ne (by omega)]; exact a4 a b z1 z2 z3
  have hl1 : LL c1 (xv m1 (2267 + S) 0 r1') := hl.fr2 (fun a b q => a3 a b (by omega)) (fun a b q => f1 a b (by omega) (by omega) (by omega) (by omega))
  rcases a5 with ⟨e, r0, j, T1⟩ | ⟨e, F1⟩
  · have T2 : TP c1 (xv m1 (2267 + S) 0 r1') n j := T1.w (by omega)
    have x0 : xv m1 (2267 + S) 0 r1' (2267 + S) 0 = r1 := by rw [xv_eq rfl rfl, e]
    generalize xv m1 (2267 + S) 0 r1' = m2 at f1 hl1 T2 x0 ⊢
    have t6 := T2.1.2.2.2.2.2
    rw [if_neg (by omega), gpeek T2 (by omega), yb_s, Int.add_zero, gfine t6, yb_s, if_neg i10, ghere T2, yb_s]
    by_cases h32 : bt m2 n j = 32
    · rw [if_pos h32, if_pos h32]
      unfold G_X12_readsFollow_32
      rw [gfine t6, yb_s, if_neg i10]
      obtain ⟨j2, y1, y2, y3, y4, y5, T3⟩ := blanksS (N := N) hN T2
      have hj2 : 0 ≤ j2 := by have := T2.2.1; omega
      rw [y4, ybv_s, whB hN T2 hj2 y3 y5]
      obtain ⟨r2, c2, r2', m3, b1, b2, b3, b4, b5⟩ := wordHS (N := N) (k := k) hN (hl1.fr2 (c' := xv c1 2 3 j2) (m' := xv m2 0 4 j2) (fun a b q => xv_ne (by omega)) (fun a b q => xv_ne (by omega))) T3 (by rw [bt_xv (by omega)]; exact y3)
      rw [b1, b2, yb_s, yb_s, xlet_q]
      have ck2 : c2 k 1 = S := by rw [b3 _ _ (by omega), xv_ne (by omega)]; exact ck
      have x02 : m3 (2267 + S) 0 = r1 := by rw [b4 _ _ (by omega) (by omega) (by omega), xv_ne (by omega)]; exact x0
      have fc2 : ∀ a b, ¬ (a = 2 ∧ (b = 3 ∨ b = 4 ∨ b = 5)) → c2 a b = c a b := fun a b z => by rw [b3 a b z, xv_ne (by omega)]; exact a3 a b z
      have fm2 : FFm m m3 S := fun a b z1 z2 z3 z4 => by rw [b4 a b z1 z2 z3, xv_ne (by omega)]; exact f1 a b z1 z2 z3 z4
      rcases b5 with ⟨e', r0', j', T4⟩ | ⟨e', F2⟩
      · rw [if_neg (by omega)]
        have T5 : TP c2 (xv m3 (2267 + S) 1 r2') n j' := T4.w (by omega)
        obtain ⟨p, g1, m', g2, g3⟩ := endF (N := N) (x := 2267 + S) hN T5 (by omega)
        have e49 : G_X12_readsFollow_49 N m3 (2267 + S) (2267 + S) 1 r2' = some m' := by
          unfold G_X12_readsFollow_49
          rw [xq_in (by omega) (by omega), xlet_q]
          exact g2
        rw [e49, g1]
        rcases g3 with ⟨v, l, l1, l2, l3, l4, l5, l6⟩ | ⟨u1, u2, l, l', u, l1, l2, l3, l4, l5, l6⟩
        · rw [l5, yb_s, xlet_q, if_neg (by omega)]
          have q1 : xv c2 2 3 l k 1 = S := by rw [xv_ne (by omega)]; exact ck2
          have q2 : xv (xv c2 2 3 l) (k + 1) S r1 k 1 = S := by rw [xv_ne (by omega)]; exact q1
          have q3 : xv (xv (xv c2 2 3 l) (k + 1) S r1) (k + 2) S r2 k 1 = S := by rw [xv_ne (by omega)]; exact q2
          have q4 : xv (xv (xv (xv c2 2 3 l) (k + 1) S r1) (k + 2) S r2) (k + 3) S v k 1 = S := by rw [xv_ne (by omega)]; exact q3
          rw [q1, xq_in hS.1 hS.2, xlet_q, q2, xq_in hS.1 hS.2, xlet_q, q3, xq_in hS.1 hS.2, xlet_q, q4, xlet_q, wr_in (by omega) (by omega)]
          have T6 := (((((T5.w (k := 2267 + S) (a := 2) (v := v) (by omega)).at (j := l) (by have := T5.2.1; omega)).wc (k := k + 1) (a := S) (v := r1) (by omega)).wc (k := k + 2) (a := S) (v := r2) (by omega)).wc (k := k + 3) (a := S) (v := v) (by omega)).wc (k := k) (a := 1) (v := S + 1) (by omega)
          refine ⟨1, _, _, rfl, rfl, fun a b z1 z2 z3 => ?_, fun a b z1 z2 z3 z4 => ?_, Or.inl ⟨rfl, ⟨l, by rw [l6]; exact T6⟩, xv_eq rfl rfl, ?_, ?_, ?_, ?_, ?_⟩⟩
          · rw [xv_ne (by omega), xv_ne (by omega), xv_ne (by omega), xv_ne (by omega), xv_ne (by omega)]; exact fc2 a b z1
          · rw [l6, xv_ne (by omega), xv_ne (by omega), xv_ne (by omega)]; exact fm2 a b z1 z2 z3 z4
          · rw [l6, xv_ne (by omega), xv_ne (by omega), xv_ne (by omega), xv_eq rfl rfl, xv_ne (by omega), xv_ne (by omega), xv_ne (by omega), x02]
          · rw [l6, xv_ne (by omega), xv_ne (by omega), xv_eq rfl rfl, xv_ne (by omega), xv_ne (by omega), xv_eq rfl rfl, e']
          · rw [l6, xv_ne (by omega), xv_eq rfl rfl, xv_ne (by omega), xv_eq rfl rfl]
          · rw [l6, xv_ne (by omega), xv_eq rfl rfl]; exact l1
          · rw [l6, xv_ne (by omega), xv_eq rfl rfl]; exact l2
        · rw [l5, yb_s, xlet_q, if_pos rfl]
          unfold flc
          unfold flm at l6
          refine ⟨0, _, _, rfl, rfl, fun a b z1 z2 z3 => ?_, fun a b z1 z2 z3 z4 => ?_, Or.inr ⟨rfl, ?_, ?_, ?_, ?_⟩⟩
          · rw [xv_ne (by omega), xv_ne (by omega), xv_ne (by omega)]; exact fc2 a b z1
          · rw [l6, xv_ne (by omega), xv_ne (by omega), xv_ne (by omega), xv_ne (by omega), xv_ne (by omega)]; exact fm2 a b z1 z2 z3 z4
          · rw [l6, xv_ne (by omega), xv_eq rfl rfl, xv_ne (by omega), xv_eq rfl rfl]
          · rw [l6, xv_eq rfl rfl, xv_eq rfl rfl]
          · rw [l6, xv_ne (by omega), xv_eq rfl rfl]; exact l1
          · rw [l6, xv_ne (by omega), xv_eq rfl rfl]; exact l2
      · rw [if_pos e']
        obtain ⟨F21, F22, F23, F24, F25, F26, F27⟩ := F2
        obtain ⟨m', g1, g2⟩ := rf49_0 (N := N) (m := m3) (n := n) (x := 2267 + S) (v := r2') hN (by omega) (by omega) F25 hn.2.2 ⟨F26, F27⟩
        rw [g1]
        refine ⟨0, _, _, rfl, rfl, fun a b z1 z2 z3 => fc2 a b z1, fun a b z1 z2 z3 z4 => ?_, Or.inr ⟨rfl, ?_, ?_, ?_, ?_⟩⟩
        · rw [g2 a b (by omega) z4]; exact fm2 a b z1 z2 z3 z4
        · rw [g2 _ _ (by omega) (by omega)]; exact F21
        · rw [g2 _ _ (by omega) (by omega)]; exact F22
        · rw [g2 _ _ (by omega) (by omega)]; exact F23
        · rw [g2 _ _ (by omega) (by omega)]; exact F24
    · rw [if_neg h32, if_neg h32, grefuse, yb_s, ybo0, gwrong t6, ybv_s, T2.1.2.2.1, T2.1.2.2.2.1]
      unfold G_X12_readsFollow_32
      obtain ⟨F21, F22, F23, F24, F25, F26, F27⟩ := FT.w2 (k := 1) (l := j) T2 (by omega)
      rw [gfine0 (by omega), yb_s, if_pos rfl]
      obtain ⟨m', g1, g2⟩ := rf49_0 (N := N) (n := n) (x := 2267 + S) (v := -1) hN (by omega) (by omega) F25 hn.2.2 ⟨F26, F27⟩
      rw [g1]
      refine ⟨0, _, _, rfl, rfl, fun a b z1 z2 z3 => ?_, fun a b z1 z2 z3 z4 => ?_, Or.inr ⟨rfl, ?_, ?_, ?_, ?_⟩⟩
      · rw [xv_ne (by omega), xv_ne (by omega)]; exact a3 a b z1
      · rw [g2 a b (by omega) z4, xv_ne (by omega), xv_ne (by omega)]; exact f1 a b z1 z2 z3 z4
      · rw [g2 _ _ (by omega) (by omega)]; exact F21
      · rw [g2 _ _ (by omega) (by omega)]; exact F22
      · rw [g2 _ _ (by omega) (by omega)]; exact F23
      · rw [g2 _ _ (by omega) (by omega)]; exact F24
  · rw [if_pos e]
    obtain ⟨F21, F22, F23, F24, F25, F26, F27⟩ := F1
    have o : ∀ b, xv m1 (2267 + S) 0 r1' 0 b = m1 0 b := fun b => xv_ne (by omega)
    unfold G_X12_readsFollow_32
    rw [gfine0 (by rw [o]; omega), yb_s, if_pos rfl, gfine0 (by rw [o]; omega), yb_s, if_pos rfl]
    obtain ⟨m', g1, g2⟩ := rf49_0 (N := N) (m := xv m1 (2267 + S) 0 r1') (n := n) (x := 2267 + S) (v := -1) hN (by omega) (by rw [o]; omega) (by rw [o]; exact F25) hn.2.2 (by rw [o]; exact ⟨F26, F27⟩)
    rw [g1]
    refine ⟨0, _, _, rfl, rfl, fun a b z1 z2 z3 => a3 a b z1, fun a b z1 z2 z3 z4 => ?_, Or.inr ⟨rfl, ?_, ?_, ?_, ?_⟩⟩
    · rw [g2 a b (by omega) z4]; exact f1 a b z1 z2 z3 z4
    · rw [g2 _ _ (by omega) (by omega), o]; exact F21
    · rw [g2 _ _ (by omega) (by omega), o]; exact F22
    · rw [g2 _ _ (by omega) (by omega), o]; exact F23
    · rw [g2 _ _ (by omega) (by omega), o]; exact F24
theorem FOE.fr {c' m' : IH} {k s : Int} (h : FOE c m k s) (hc : ∀ a, k + 1 ≤ a → a ≤ k + 3 → c' a s = c a s) (hm : ∀ b, m' (2267 + s) b = m (2267 + s) b) : FOE c' m' k s := by
  unfold FOE
  simp only [hm]
  rw [hc (k + 1) (by omega) (by omega), hc (k + 2) (by omega) (by omega), hc (k + 3) (by omega) (by omega)]
  exact h
end
def foK (N : Nat) (k45 : IH → Option IH) (ah : IH) : Option IH := yb (G_X12_fine N ah) (fun r103 a103 => if r103 = 0 then some a103 else xq (a103 22 1) 60 (xlet (2207 + ((1 * 60) + (a103 22 1))) (fun x125 => ybv (G_X12_readsFollow N a103 x125) (fun a126 => xlet (xv a126 22 1 (wr ((a126 22 1) + 1))) (fun a138 => k45 a138)))))
/-- the reference's reading of what follows, without what comes behind it -/
def foL (N : Nat) : Nat → IH → Option IH
  | 0, _ => none
  | n + 1, ah => yb (G_X12_fine N ah) (fun r46 a46 => if r46 = 0 then some a46 else yb (G_X12_blanks N a46) (fun r53 a53 => if r53 = (-1) then some a53 else yb (G_X12_here N a53) (fun r61 a61 => yb (G_X12_isSmall N a61 r61) (fun r64 a64 => if r64 = 0 then ybv (G_X12_wrong N a64 1 (a64 0 4)) (fun a76 => foK N (foL N n) a76) else if (a64 22 1) = 60 then ybv (G_X12_wrong N a64 3 (a64 0 4)) (fun a99 => foK N (foL N n) a99) else foK N (foL N n) a64))))
theorem foL_eq {N : Nat} : ∀ (f : Nat) (m : IH), G_X12_follows_45 N f m = ybv (foL N f m) (fun a => G_X12_follows_142 N a) := by
  intro f
  induction f with
  | zero => intro m; rfl
  | succ f ih =>
    intro m
    unfold G_X12_follows_45 foL G_X12_follows_102 foK
    simp only [yb_ybv, ybv_ybv, ybv_if, ybv_xq, ybv_s, xlet_q, ih]
theorem foL_0 {N f : Nat} {m : IH} (hf : 0 < f) (h : m 0 6 ≠ 0) : foL N f m = some m := by
  obtain ⟨g, rfl⟩ : ∃ g, f = g + 1 := ⟨f - 1, by omega⟩
  unfold foL
  rw [gfine0 h, yb_s, if_pos rfl]
theorem foLoop {N : Nat} {n k : Int} (hN : 20000 ≤ N) (hk : k = 49 ∨ k = 53) : ∀ (f : Nat) (c m : IH) (i S : Int), TP c m n i → LL c m → c k 1 = S → m 22 1 = S → 0 ≤ S → S ≤ 60 → (∀ s, 0 ≤ s → s < S → FOE c m k s) → 60 - S < f → ∃ r c' m', G_X1_readText_7 N k f c S = some (r, c') ∧ foL N f m = some m' ∧ (∀ a b, ¬ (a = 2 ∧ (b = 3 ∨ b = 4 ∨ b = 5)) → ¬ (k ≤ a ∧ a ≤ k + 3) → c' a b = c a b) ∧ (∀ a b, ¬ (a = 0 ∧ (b = 4 ∨ b = 6 ∨ b = 7)) → ¬ (a = 22 ∧ b = 1) → ¬ (a = 5 ∧ b = 60) → a ≠ 112 → ¬ (2267 ≤ a ∧ a < 2327) → m' a b = m a b) ∧ ((r = 1 ∧ (∃ j, TP c' m' n j) ∧ ∃ T, 0 ≤ T ∧ T ≤ 60 ∧ c' k 1 = T ∧ m' 22 1 = T ∧ ∀ s, 0 ≤ s → s < T → FOE c' m' k s) ∨ (r = 0 ∧ c' 2 4 = m' 0 6 ∧ c' 2 5 = m' 0 7 ∧ 1 ≤ m' 0 6 ∧ m' 0 6 ≤ 5)) := by
  intro f
  induction f with
  | zero => intro c m i S h hl hc hm h1 h2 hs hf; omega
  | succ f ih =>
    intro c m i S h hL hc hm h1 h2 hs hf
    obtain ⟨j, j1, j2, j3, j4, j5, T⟩ := blanksS (N := N) hN h
    have hr := h.rng (j := j) (by have := h.2.1; omega)
    have t6 := T.1.2.2.2.2.2
    have tk : xv c 2 3 j k 1 = S := by rw [xv_ne (by omega)]; exact hc
    have tm : xv m 0 4 j 22 1 = S := by rw [xv_ne (by omega)]; exact hm
    have tL : LL (xv c 2 3 j) (xv m 0 4 j) := hL.fr2 (fun a b q => xv_ne (by omega)) (fun a b q => xv_ne (by omega))
    unfold G_X1_readText_7 foL
    rw [if_neg (show ¬ 60 < S by omega), j4, ybv_s, gfine h.1.2.2.2.2.2, yb_s, if_neg i10, j5, yb_s, gatEnd T, yb_s]
    by_cases hj : j < n
    · rw [if_pos hj, if_pos rfl, if_neg (show ¬ bt m n j = -1 by omega), ghere T, yb_s, gletM, yb_s, bt_xv (by omega)]
      unfold G_X1_readEntry
      rw [gpeek T (by omega), yb_s, Int.add_zero, gletC, yb_s, bt_xv (by omega), tk]
      by_cases hl : 97 ≤ bt m n j ∧ bt m n j ≤ 122
      · rw [isl_1 hl, if_neg i10, if_neg i10, tm]
        by_cases h20 : S = 60
        · rw [if_pos h20, gwrong t6, ybv_s, T.1.2.2.2.1]
          unfold foK
          rw [gfine0 (by rw [xv_ne (by omega), xv_eq rfl rfl]; omega), yb_s, if_pos rfl, if_neg (show ¬ S < 60 by omega), grefuse, yb_s, ybo0, yb_s, if_pos rfl, T.1.2.2.1]
          refine ⟨0, _, _, rfl, rfl, fun a b z1 z2 => ?_, fun a b z1 z2 z3 z4 z5 => ?_, Or.inr ⟨rfl, ?_, ?_, ?_, ?_⟩⟩
          · rw [xv_ne (by omega), xv_ne (by omega), xv_ne (by omega)]
          · rw [xv_ne (by omega), xv_ne (by omega), xv_ne (by omega)]
          · rw [xv_ne (by omega), xv_eq rfl rfl, xv_ne (by omega), xv_eq rfl rfl]
          · rw [xv_eq rfl rfl, xv_eq rfl rfl]
          · rw [xv_ne (by omega), xv_eq rfl rfl]; omega
          · rw [xv_ne (by omega), xv_eq rfl rfl]; omega
        · rw [if_neg h20, if_pos (show S < 60 by omega)]
          unfold foK
          rw [gfine t6, yb_s, if_neg i10, tm, xq_in h1 (by omega), xlet_q, show (2207 : Int) + (1 * 60 + S) = 2267 + S by omega]
          obtain ⟨r, c2, m2, e1, e2, e3, e4, e5⟩ := entryF (N := N) (k := k) (S := S) hN hk ⟨h1, by omega⟩ tL T (by rw [bt_xv (by omega)]; exact j3) tk
          have e13 : m2 22 1 = S := by rw [e4 _ _ (by omega) (by omega) (by omega) (by omega)]; exact tm
          rw [e1, yb_s, e2, ybv_s, e13, wr_in (show -2147483648 ≤ S + 1 by omega) (by omega)]
          simp only [xlet_q]
          rcases e5 with ⟨r1, ⟨j', g2⟩, g4, g5⟩ | ⟨r0, g1, g2, g3, g4⟩
          · rw [r1, if_neg i10]
            obtain ⟨r', c', m', a1, a2, a3, a4, a5⟩ := ih c2 (xv m2 22 1 (S + 1)) j' (S + 1) (g2.w (by omega)) (tL.fr2 (fun a b q => e3 a b (by omega) (by omega) (by omega)) (fun a b q => by rw [xv_ne (by omega), e4 a b (by omega) (by omega) (by omega) (by omega)])) g4 (xv_eq rfl rfl) (by omega) (by omega) (fun s s1 s2 => by
              by_cases es : s = S
              · subst es
                exact g5.fr (fun _ _ _ => rfl) (fun b => xv_ne (by omega))
              · exact (hs s s1 (by omega)).fr (fun a q1 q2 => by rw [e3 a s (by omega) (by omega) (by omega), xv_ne (by omega)]) (fun b => by rw [xv_ne (by omega), e4 _ b (by omega) (by omega) (by omega) (by omega), xv_ne (by omega)])) (by omega)
            refine ⟨r', c', m', a1, a2, fun a b z1 z2 => ?_, fun a b z1 z2 z3 z4 z5 => ?_, a5⟩
            · clear a5; rw [a3 a b z1 z2, e3 a b z1 (by omega) (by omega), xv_ne (by omega)]
            · clear a5; rw [a4 a b z1 z2 z3 z4 z5, xv_ne (by omega), e4 a b z1 z3 z4 (by omega), xv_ne (by omega)]
          · have x6 : xv m2 22 1 (S + 1) 0 6 = m2 0 6 := xv_ne (by omega)
            rw [r0, if_pos rfl, foL_0 (m := xv m2 22 1 (S + 1)) (by omega) (by rw [x6]; omega)]
            refine ⟨0, c2, _, rfl, rfl, fun a b z1 z2 => ?_, fun a b z1 z2 z3 z4 z5 => ?_, Or.inr ⟨rfl, ?_, ?_, ?_, ?_⟩⟩
            · rw [e3 a b z1 (by omega) (by omega), xv_ne (by omega)]
            · rw [xv_ne (by omega), e4 a b z1 z3 z4 (by omega), xv_ne (by omega)]
            · rw [x6]; exact g1
            · rw [xv_ne (by omega)]; exact g2
            · rw [x6]; exact g3
            · rw [x6]; exact g4
      · rw [isl_0 hl, if_pos rfl, if_pos rfl, gwrong t6, ybv_s, T.1.2.2.2.1]
        unfold foK G_X1_readEntry_30 G_X1_readWord
        rw [gfine0 (by rw [xv_ne (by omega), xv_eq rfl rfl]; omega), yb_s, if_pos rfl, xlet_q, gpeek T (by omega), yb_s, Int.add_zero, gletC, yb_s, bt_xv (by omega), isl_0 hl, if_pos rfl, grefuse, yb_s, yb_s, xlet_q, if_pos rfl, yb_s, if_pos rfl, T.1.2.2.1]
        refine ⟨0, _, _, rfl, rfl, fun a b z1 z2 => ?_, fun a b z1 z2 z3 z4 z5 => ?_, Or.inr ⟨rfl, ?_, ?_, ?_, ?_⟩⟩
        · rw [xv_ne (by omega), xv_ne (by omega), xv_ne (by omega)]
        · rw [xv_ne (by omega), xv_ne (by omega), xv_ne (by omega)]
        · rw [xv_ne (by omega), xv_eq rfl rfl, xv_ne (by omega), xv_eq rfl rfl]
        · rw [xv_eq rfl rfl, xv_eq rfl rfl]
        · rw [xv_ne (by omega), xv_eq rfl rfl]; omega
        · rw [xv_ne (by omega), xv_eq rfl rfl]; omega
    · rw [if_neg hj, if_neg i10, if_pos (show bt m n j = -1 by omega)]
      refine ⟨1, _, _, rfl, rfl, fun a b z1 z2 => xv_ne (by omega), fun a b z1 z2 z3 z4 z5 => xv_ne (by omega), Or.inl ⟨rfl, ⟨j, T⟩, S, h1, h2, tk, tm, fun s s1 s2 => ?_⟩⟩
      exact (hs s s1 s2).fr (fun a q1 q2 => xv_ne (by omega)) (fun b => xv_ne (by omega))
theorem foC181 {N : Nat} {K : IH → Int → Option (Int × IH)} {v : Int} (hv : 0 ≤ v ∧ v < 60) : ∀ (f : Nat) (m : IH) (q : Int), 0 ≤ q → q ≤ 3 → 3 - q < f → ∃ m', G_X12_follows_181 N K f m v q = K m' (v + 1) ∧ (∀ b, q ≤ b → b < 3 → m' (2207 + v) b = m (2267 + v) b) ∧ ∀ a b, ¬ (a = 2207 + v ∧ q ≤ b ∧ b < 3) → m' a b = m a b := by
  intro f
  induction f with
  | zero => intro m q h1 h2 h3; omega
  | succ f ih =>
    intro m q h1 h2 h3
    unfold G_X12_follows_181
    by_cases c1 : 3 ≤ q
    · rw [if_pos c1, xlet_q, wr_in (by omega) (by omega)]
      exact ⟨m, rfl, fun b q1 q2 => by omega, fun _ _ _ => rfl⟩
    · rw [if_neg c1]
      simp (disch := omega) only [xlet_q, xq_in]
      rw [wr_in (by omega) (by omega), show (2207 : Int) + (0 * 60 + v) = 2207 + v by omega, show (2207 : Int) + (1 * 60 + v) = 2267 + v by omega]
      obtain ⟨m', a1, a2, a3⟩ := ih (xv m (2207 + v) q (m (2267 + v) q)) (q + 1) (by omega) (by omega) (by omega)
      refine ⟨m', a1, fun b q1 q2 => ?_, fun a b z => ?_⟩
      · by_cases e : b = q
        · subst e; rw [a3 _ _ (by omega), xv_eq rfl rfl]
        · rw [a2 b (by omega) q2, xv_ne (by omega)]
      · rw [a3 a b (by omega), xv_ne (by omega)]
theorem foC169 {N : Nat} {T : Int} (hN : 20000 ≤ N) (hT : 0 ≤ T ∧ T ≤ 60) : ∀ (f : Nat) (m : IH) (v : Int), m 22 0 = T → 0 ≤ v → v ≤ T → T - v < f → ∃ m', G_X12_follows_169 N f m v = yb (G_X12_ends N m' T) (fun r a => some (r, a)) ∧ (∀ s, v ≤ s → s < T → ∀ b, 0 ≤ b → b < 3 → m' (2207 + s) b = m (2267 + s) b) ∧ ∀ a b, ¬ (2207 + v ≤ a ∧ a < 2267) → m' a b = m a b := by
  intro f
  induction f with
  | zero => intro m v h1 h2 h3 h4; omega
  | succ f ih =>
    intro m v h1 h2 h3 h4
    unfold G_X12_follows_169
    rw [h1]
    by_cases c1 : T ≤ v
    · rw [if_pos c1]
      exact ⟨m, rfl, fun s q1 q2 => by omega, fun _ _ _ => rfl⟩
    · rw [if_neg c1, xlet_q]
      obtain ⟨m1, a1, a2, a3⟩ := foC181 (N := N) (K := G_X12_follows_169 N f) (v := v) (by omega) N m 0 (by omega) (by omega) (by omega)
      obtain ⟨m', b1, b2, b3⟩ := ih m1 (v + 1) (by rw [a3 _ _ (by omega)]; exact h1) (by omega) (by omega) (by omega)
      refine ⟨m', a1.trans b1, fun s q1 q2 b x1 x2 => ?_, fun a b z1 => ?_⟩
      · by_cases e : s = v
        · subst e
          rw [b3 _ _ (by omega), a2 b x1 x2]
        · rw [b2 s (by omega) q2 b x1 x2, a3 _ _ (by omega)]
      · rw [b3 a b (by omega), a3 a b (by omega)]
section
variable {N : Nat} {c m : IH}
theorem S_follows {p : Int} (hN : 20000 ≤ N) (h : R N c m) : CX N 0 1 (G_X11_follows N c p) (G_X12_follows N m p) := by
  unfold G_X11_follows G_X12_follows
  have h' := h.m0 hN
  have z : xv m 0 0 0 0 0 = 0 := xv_eq rfl rfl
  rw [xlet_q]
  generalize xv m 0 0 0 = m at h' z ⊢
  rw [needB, inM, yb_s, h'.1.1]
  by_cases c1 : 0 ≤ p ∧ p ≤ m 0 2
  · rw [if_pos c1, if_pos c1, bx0, if_neg i10]
    unfold G_X12_follows_23
    rw [bad0 z, yb_s, if_pos rfl]
    obtain ⟨ca, ma, e1, e2, T0, e3, e4, e5, e6, e7⟩ := beginS (N := N) h'.1 c1
    rw [e1, e2, ybv_s, ybv_s, xlet_q, foL_eq]
    have L0 : LL ca ma := h'.tr.ll.fr2 (fun a b q => e5 a b (by omega)) (fun a b q => e6 a b (by omega))
    have T1 : TP (xv ca 53 1 0) (xv ma 22 1 0) p 0 := (T0.wc (by omega)).w (by omega)
    obtain ⟨r, cb, mb, g1, g2, g3, g4, g5⟩ := foLoop (N := N) (k := 53) hN (Or.inr rfl) N _ _ 0 0 T1 (L0.fr2 (fun a b q => xv_ne (by omega)) (fun a b q => xv_ne (by omega))) (xv_eq rfl rfl) (xv_eq rfl rfl) (by omega) (by omega) (fun s q1 q2 => by omega) (by omega)
    have er : G_X1_readText N 53 ca = some (r, cb) := by unfold G_X1_readText; rw [xlet_q, xlet_q]; exact g1
    have fc : ∀ a b, ¬ (a = 2 ∧ 2 ≤ b ∧ b ≤ 5) → ¬ (53 ≤ a ∧ a ≤ 56) → cb a b = c a b := fun a b q1 q2 => by rw [g3 a b (by omega) (by omega), xv_ne (by omega)]; exact e5 a b q1
    have fm : ∀ a b, ¬ (a = 0 ∧ 2 ≤ b ∧ b ≤ 7) → ¬ (a = 22 ∧ b = 1) → ¬ (a = 5 ∧ b = 60) → a ≠ 112 → ¬ (2267 ≤ a ∧ a < 2327) → mb a b = m a b := fun a b q1 q2 q3 q4 q5 => by rw [g4 a b (by omega) q2 q3 q4 q5, xv_ne (by omega)]; exact e6 a b q1
    have f02 : mb 0 2 = 0 := by rw [g4 _ _ (by omega) (by omega) (by omega) (by omega) (by omega), xv_ne (by omega)]; exact e7
    rw [er, yb_s, g2, ybv_s]
    unfold G_X12_follows_142
    rcases g5 with ⟨r1, ⟨j, T2⟩, T, s1, s2, s3, s4, s5⟩ | ⟨r0, f1, f2, f3, f4⟩
    · rw [r1, if_neg i10]
      obtain ⟨cc, b1, T3, b2⟩ := begin2 (N := N) (c := cb) T0 (fun j => by rw [g3 _ _ (by omega) (by omega), xv_ne (by omega)])
      have L1 : LL cc ma := L0.fr2 (fun a b q => by rw [b2 a b (by omega), g3 a b (by omega) (by omega), xv_ne (by omega)]) (fun _ _ _ => rfl)
      have T4 : TP (xv cc 49 1 0) (xv ma 22 1 0) p 0 := (T3.wc (by omega)).w (by omega)
      obtain ⟨r', cd, md, k1, k2, k3, k4, k5⟩ := foLoop (N := N) (k := 49) hN (Or.inl rfl) N _ _ 0 0 T4 (L1.fr2 (fun a b q => xv_ne (by omega)) (fun a b q => xv_ne (by omega))) (xv_eq rfl rfl) (xv_eq rfl rfl) (by omega) (by omega) (fun s q1 q2 => by omega) (by omega)
      have em : md = mb := Option.some.inj (k2.symm.trans g2)
      subst em
      have er2 : G_X1_readText N 49 cc = some (r', cd) := by unfold G_X1_readText; rw [xlet_q, xlet_q]; exact k1
      rw [b1, ybv_s, er2, yb_s]
      rcases k5 with ⟨r1', ⟨j', T5⟩, T', u1, u2, u3, u4, u5⟩ | ⟨r0, f1, f2, f3, f4⟩
      · obtain ⟨ce, a1, a2, a3, a4, a5⟩ := changedS (N := N) (c := cd) hN
        have fd : ∀ a b, ¬ (a = 2 ∧ 2 ≤ b ∧ b ≤ 5) → ¬ (49 ≤ a ∧ a ≤ 56) → cd a b = c a b := fun a b q1 q2 => by rw [k3 a b (by omega) (by omega), xv_ne (by omega), b2 a b q1]; exact fc a b q1 (by omega)
        have e24 : ce 2 4 = 0 := by rw [a5 _ _ (by omega) (by omega) (by omega)]; exact T5.1.2.2.2.2.1.1
        rw [a1, ybv_s]
        unfold G_X11_follows_59
        rw [finishC (by omega), yb_s, if_pos e24, a5 _ _ (by omega) (by omega) (by omega), u3, gfine T5.1.2.2.2.2.2, yb_s, if_neg i10, xlet_q, xlet_q, u4]
        obtain ⟨mf, v1, v2, v3⟩ := foC169 (N := N) (T := T') hN ⟨u1, u2⟩ N (xv md 22 0 T') 0 (xv_eq rfl rfl) (by omega) (by omega) (by omega)
        have vf : ∀ a b, ¬ (a = 22 ∧ b = 0) → ¬ (2207 ≤ a ∧ a < 2267) → mf a b = md a b := fun a b q1 q2 => by rw [v3 a b (by omega), xv_ne q1]
        have x6 : mf 0 6 = 0 := by rw [vf _ _ (by omega) (by omega)]; exact T5.1.2.2.2.2.2
        have x13 : mf 22 0 = T' := by rw [v3 _ _ (by omega), xv_eq rfl rfl]
        rw [v1, endsM (by omega), yb_s, if_pos x6]
        have fM : ∀ a b, ¬ (a = 0 ∧ 2 ≤ b ∧ b ≤ 7) → ¬ (a = 22) → ¬ (a = 5 ∧ b = 60) → a ≠ 112 → ¬ (2207 ≤ a ∧ a < 2327) → mf a b = m a b := fun a b q1 q2 q3 q4 q5 => by rw [vf a b (by omega) (by omega)]; exact fm a b q1 (by omega) q3 q4 (by omega)
        have fo : FO cd mf := by
          refine ⟨by rw [x13]; exact u3, by omega, by omega, fun s q1 q2 => ?_⟩
          rw [x13] at q2
          have w := u5 s q1 q2
          have o : ∀ b, xv md 22 0 T' (2267 + s) b = md (2267 + s) b := fun b => xv_ne (by omega)
          rw [v2 s q1 q2 0 (by omega) (by omega), v2 s q1 q2 1 (by omega) (by omega), v2 s q1 q2 2 (by omega) (by omega), o, o, o]
          exact w
        have tr : TR cd mf := TR.mk (h'.tr.ll.fr2 (fun a b q => fd a b (by omega) (by omega)) (fun a b q => fM a b (by omega) (by omega) (by omega) (by omega) (by omega))) ((h'.tr.2.2.2.1.cv (fun a b _ _ => fd a b (by omega) (by omega))).mv (fM _ _ (by omega) (by omega) (by omega) (by omega) (by omega)) (fun a b _ _ => fM a b (by omega) (by omega) (by omega) (by omega) (by omega)) (fun a b _ _ => fM a b (by omega) (by omega) (by omega) (by omega) (by omega))) ((h'.tr.2.2.2.2.1.cv (fun b => fd _ b (by omega) (by omega))).mv (fun b => fM _ b (by omega) (by omega) (by omega) (by omega) (by omega))) (h'.tr.2.2.2.2.2.1.fr (fun a b _ _ => fd a b (by omega) (by omega)) (fun a b _ => fM a b (by omega) (by omega) (by omega) (by omega) (by omega))) fo
        refine ⟨0, _, _, _, _, rfl, rfl, R.good h' tr ?_ ?_ (fun a b q => fd a b (by omega) (by omega)) (fun a b q => fM a b (by omega) (by omega) (by omega) (by omega) (by omega)) ?_ a2 a3 a4 a5, Or.inl ⟨rfl, ?_, rfl⟩⟩
        · rw [vf _ _ (by omega) (by omega), T5.1.2.2.2.2.1.2.1, T5.1.2.2.2.2.1.2.2]
        · rw [vf _ _ (by omega) (by omega)]; exact f02
        · rw [fM _ _ (by omega) (by omega) (by omega) (by omega) (by omega), fM _ _ (by omega) (by omega) (by omega) (by omega) (by omega)]; exact h'.2.1.2.2
        · rw [xv_ne (by omega), fM _ _ (by omega) (by omega) (by omega) (by omega) (by omega)]; exact z
      · have := T2.1.2.2.2.2.2
        omega
    · rw [r0, if_pos rfl]
      unfold G_X11_follows_59
      rw [finishC (by omega), yb_s, gfine0 (by omega), yb_s, if_pos rfl, endsM (by omega), yb_s, if_neg (show ¬ cb 2 4 = 0 by omega), if_neg (show ¬ mb 0 6 = 0 by omega), f1]
      refine ⟨0, _, _, _, _, rfl, rfl, R.fail hN h' f2 (h'.tr.ll.fr2 (fun a b q => fc a b (by omega) (by omega)) (fun a b q => fm a b (by omega) (by omega) (by omega) (by omega) (by omega))) (fun a b q1 q2 q3 q4 q5 q6 => fc a b q1 q6) (fun a b q => fm a b (by omega) (by omega) (by omega) (by omega) (by omega)) f02, Or.inl ⟨rfl, ?_, rfl⟩⟩
      rw [xv_ne (by omega), fm _ _ (by omega) (by omega) (by omega) (by omega) (by omega)]; exact z
  · rw [if_neg c1, if_neg c1, bx2, if_pos rfl]
    unfold G_X12_follows_23
    exact cxB hN h' z (by omega)
end
