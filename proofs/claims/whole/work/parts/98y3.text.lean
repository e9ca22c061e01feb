/-- a token read on trial, both sides -/
def TKt (c m : IH) (k t : Int) : Prop := (0 ≤ c (k + 1) t ∧ c (k + 1) (t + 1) = c (k + 1) t + m 198 t ∧ c (k + 1) (t + 1) ≤ c k 2 ∧ 1 ≤ m 198 t ∧ m 198 t ≤ 24) ∧ c (k + 2) t = m 200 t ∧ (c (k + 4) t = if m 202 t = 0 then 0 else 1) ∧ ∀ q, 0 ≤ q → q < m 198 t → CLk c m k (c (k + 1) t + q) (1245 + (t * 24 + q))
def NNt (c m : IH) (k t : Int) (P : Prop) : Prop := (m 202 t = 1 ∧ P → c (k + 3) t = 1) ∧ (¬ (m 202 t = 1 ∧ P) → c (k + 3) t = 0)
/-- the text so far -/
def GI (c m : IH) (k n i S : Int) : Prop := (c k 0 = S ∧ m 16 1 = S ∧ 0 ≤ S ∧ S ≤ 40) ∧ LNS c m k i ∧ (0 ≤ c k 2 ∧ c k 2 ≤ i ∧ (0 < S → c (k + 1) S = c k 2)) ∧ ∀ t, 0 ≤ t → t < S → TKt c m k t ∧ NNt c m k t (t + 1 < S ∨ i < n)
def reC (N : Nat) (k : Int) (f : Nat) (S : Int) (a25 : IH) : Option (Int × IH) := yb (G_X9_atEnd N a25) (fun r29 a29 => if r29 = 0 then yb (G_X5_readToken N k a29) (fun r39 a39 => if r39 = 0 then some (0, a39) else xlet (wr (S + 1)) (fun v2_47 => G_X5_readText_17 N k f a39 v2_47)) else some (1, a29))
def re195 (N : Nat) (k57 : IH → Option IH) (ah : IH) : Option IH := xlet (xv ah 16 1 (wr ((ah 16 1) + 1))) (fun a204 => k57 a204)
def re163 (N : Nat) (k57 : IH → Option IH) (ah : IH) (v2 : Int) : Option IH := yb (G_X12_fine N ah) (fun r164 a164 => if r164 = 0 then re195 N k57 a164 else yb (G_X12_here N a164) (fun r171 a171 => if r171 = (-1) then re195 N k57 a171 else if (a171 0 4) = v2 then ybv (G_X12_wrong N a171 1 (a171 0 4)) (fun a192 => re195 N k57 a192) else re195 N k57 a171))
def re114 (N : Nat) (k57 : IH → Option IH) (ah : IH) : Option IH := yb (G_X12_fine N ah) (fun r115 a115 => if r115 = 0 then some a115 else ybv (G_X12_readsToken N a115 (a115 16 1)) (fun a131 => xlet (a131 0 4) (fun v2_138 => yb (G_X12_fine N a131) (fun r140 a140 => if r140 = 0 then re163 N k57 a140 v2_138 else xlet (201 + 1) (fun x151 => yb (G_X12_standsBetween N a140) (fun r159 a159 => xq (a140 16 1) 40 (xlet (xv a159 x151 (a140 16 1) r159) (fun a162 => re163 N k57 a162 v2_138))))))))
/-- the reference's reading, without what comes behind it -/
def reL (N : Nat) : Nat → IH → Option IH
  | 0, _ => none
  | n + 1, ah => yb (G_X12_fine N ah) (fun r58 a58 => if r58 = 0 then some a58 else yb (G_X12_here N a58) (fun r65 a65 => if r65 = (-1) then some a65 else yb (G_X12_here N a65) (fun r73 a73 => yb (G_X12_isCell N a73 r73) (fun r76 a76 => if r76 = 0 then ybv (G_X12_wrong N a76 1 (a76 0 4)) (fun a88 => re114 N (reL N n) a88) else if (a76 16 1) = 40 then ybv (G_X12_wrong N a76 3 (a76 0 4)) (fun a111 => re114 N (reL N n) a111) else re114 N (reL N n) a76))))
theorem reL_eq {N : Nat} : ∀ (f : Nat) (m : IH), G_X12_reading_57 N f m = ybv (reL N f m) (fun a => G_X12_reading_208 N a) := by
  intro f
  induction f with
  | zero => intro m; rfl
  | succ f ih =>
    intro m
    unfold G_X12_reading_57 reL G_X12_reading_114 re114 G_X12_reading_163 re163 G_X12_reading_195 re195
    simp only [yb_ybv, ybv_ybv, ybv_if, ybv_xq, ybv_s, xlet_q, ih]
theorem reL_0 {N f : Nat} {m : IH} (hf : 0 < f) (h : m 0 6 ≠ 0) : reL N f m = some m := by
  obtain ⟨g, rfl⟩ : ∃ g, f = g + 1 := ⟨f - 1, by omega⟩
  unfold reL
  rw [gfine0 h, yb_s, if_pos rfl]
/-- behind a fault the token is counted, and all ends -/
theorem re163_0 {N f : Nat} {m : IH} {v : Int} (hf : 0 < f) (h : m 0 6 ≠ 0) (h16 : 0 ≤ m 16 1 ∧ m 16 1 ≤ 40) : re163 N (reL N f) m v = some (xv m 16 1 (m 16 1 + 1)) := by
  unfold re163 re195
  rw [gfine0 h, yb_s, if_pos rfl, xlet_q, wr_in (by omega) (by omega), reL_0 hf (by rw [xv_ne (by omega)]; exact h)]
def GFc (c c' : IH) (k : Int) : Prop := ∀ a b, ¬ (a = 2 ∧ (b = 3 ∨ b = 4 ∨ b = 5)) → ¬ (k ≤ a ∧ a ≤ k + 8) → c' a b = c a b
def GFm (m m' : IH) : Prop := ∀ a b, ¬ (a = 0 ∧ (b = 4 ∨ b = 6 ∨ b = 7)) → ¬ ((a = 16 ∨ a = 17) ∧ b = 1) → ¬ (a = 198 ∨ a = 200 ∨ a = 202) → ¬ (1245 ≤ a ∧ a < 2205) → m' a b = m a b
section
variable {N : Nat} {c m : IH}
theorem TKt.fr {c' m' : IH} {k t C : Int} (h : TKt c m k t) (ht : 0 ≤ t ∧ t < 40) (hC : c k 2 = C) (h2 : C ≤ c' k 2) (hc : ∀ a b, (a = k + 1 ∧ (b = t ∨ b = t + 1)) ∨ ((a = k + 2 ∨ a = k + 4) ∧ b = t) ∨ ((a = k + 5 ∨ a = k + 6) ∧ b < C) ∨ ((a = k + 7 ∨ a = k + 8) ∧ b < C * 3) → c' a b = c a b) (hm : ∀ a b, ((a = 198 ∨ a = 200 ∨ a = 202) ∧ b = t) ∨ (1245 + t * 24 ≤ a ∧ a < 1245 + (t * 24 + 24)) → m' a b = m a b) : TKt c' m' k t := by
  obtain ⟨⟨a1, a2, a3, a4, a5⟩, a6, a7, a8⟩ := h
  unfold TKt
  rw [hc (k + 1) t (by omega), hc (k + 1) (t + 1) (by omega), hc (k + 2) t (by omega), hc (k + 4) t (by omega), hm 198 t (by omega), hm 200 t (by omega), hm 202 t (by omega)]
  refine ⟨⟨a1, a2, by omega, a4, a5⟩, a6, a7, fun q q1 q2 => ?_⟩
  exact (a8 q q1 q2).fr (fun a b z => hc a b (by omega)) (fun b => hm _ b (by omega))
theorem sb_stay {n i : Int} (hN : 20000 ≤ N) (h : TP c m n i) (h1 : bt m n i ≠ 32) (h2 : bt m n i ≠ 10) (h3 : 0 ≤ m 17 1 ∧ m 17 1 ≤ 400) : G_X12_standsBetween N m = some (0, m) := by
  obtain ⟨N', rfl⟩ : ∃ N', N = N' + 1 := ⟨N - 1, by omega⟩
  unfold G_X12_standsBetween
  rw [xlet_q, xlet_q]
  unfold G_X12_standsBetween_4
  rw [ghere h, yb_s, if_neg h1, ghere h, yb_s, if_neg h2, xlet_q, Int.add_zero, wr_in (by omega) (by omega), if_pos rfl, xv_id rfl]
theorem GI.next {c4 m5 : IH} {n k C S i j2 w x y : Int} (hk : k = 31 ∨ k = 40) (hS : 0 ≤ S ∧ S < 40) (hi : i < n) (hC : c k 2 = C) (k1 : 0 ≤ C) (k3 : 0 < S → c (k + 1) S = C) (hT : ∀ t, 0 ≤ t → t < S → TKt c m k t ∧ NNt c m k t (t + 1 < S ∨ i < n)) (cc : ∀ a b, ¬ (a = 2 ∧ (b = 3 ∨ b = 4 ∨ b = 5)) → ¬ (a = k ∧ (b = 0 ∨ b = 1 ∨ b = 2)) → ¬ (a = k + 1 ∧ (b = S ∨ b = S + 1)) → ¬ ((a = k + 2 ∨ a = k + 3 ∨ a = k + 4) ∧ b = S) → ¬ ((a = k + 5 ∨ a = k + 6) ∧ C ≤ b) → ¬ ((a = k + 7 ∨ a = k + 8) ∧ C * 3 ≤ b) → c4 a b = c a b) (mm : ∀ a b, ((a = 198 ∨ a = 200 ∨ a = 202) ∧ b ≠ S) ∨ (1245 ≤ a ∧ ¬ (1245 + S * 24 ≤ a ∧ a < 1245 + (S * 24 + 24))) → a < 2205 → m5 a b = m a b) (e1 : c4 (k + 1) S = C) (e2 : c4 (k + 1) (S + 1) = C + w) (e3 : m5 198 S = w) (e4 : c4 k 2 = C + w) (e5 : m5 202 S = btw x y) (d4 : c4 (k + 4) S = if x ≤ 0 then 0 else 1) (d3 : c4 (k + 3) S = if (x = 1 ∧ y = 0) ∧ j2 < n then 1 else 0) (d2 : c4 (k + 2) S = m5 200 S) (hx : 0 ≤ x) (b3 : 1 ≤ w) (b4 : w ≤ 24) (b7 : C + w ≤ j2) (b10 : ∀ q, 0 ≤ q → q < w → CLk c4 m5 k (C + q) (1245 + (S * 24 + q))) (ln : LNS c4 m5 k j2) (c0 : c4 k 0 = S + 1) (m1 : m5 16 1 = S + 1) : GI c4 m5 k n j2 (S + 1) := by
  refine ⟨⟨c0, m1, by omega, by omega⟩, ln, ⟨by omega, by omega, fun _ => by rw [e2, e4]⟩, fun t t1 t2 => ?_⟩
  by_cases eS : t = S
  · subst eS
    clear cc mm hT
    unfold TKt NNt
    rw [e1, e2, e3, e4, e5, d4, d3]
    refine ⟨⟨⟨k1, rfl, by omega, b3, b4⟩, d2, ?_, b10⟩, ?_, ?_⟩
    · unfold btw
      by_cases x0 : x = 0
      · rw [if_pos (show x ≤ 0 by omega), if_pos x0, if_pos rfl]
      · rw [if_neg (show ¬ x ≤ 0 by omega), if_neg x0]
        by_cases x1 : x = 1 ∧ y = 0
        · rw [if_pos x1, if_neg i10]
        · rw [if_neg x1, if_neg (show ¬ (2 : Int) = 0 by omega)]
    · intro z
      have zx : x = 1 ∧ y = 0 := by
        have z1 := z.1
        unfold btw at z1
        by_cases x0 : x = 0
        · rw [if_pos x0] at z1; omega
        · rw [if_neg x0] at z1
          by_cases x1 : x = 1 ∧ y = 0
          · exact x1
          · rw [if_neg x1] at z1; omega
      have z2 : j2 < n := by
        rcases z.2 with q | q
        · omega
        · exact q
      rw [if_pos ⟨zx, z2⟩]
    · intro z
      by_cases q : (x = 1 ∧ y = 0) ∧ j2 < n
      · refine absurd ⟨?_, Or.inr q.2⟩ z
        unfold btw
        rw [if_neg (show ¬ x = 0 by omega), if_pos q.1]
      · rw [if_neg q]
  · obtain ⟨p1, p2⟩ := hT t t1 (by omega)
    clear hT b10
    have mt : ∀ a b, ((a = 198 ∨ a = 200 ∨ a = 202) ∧ b = t) ∨ (1245 + t * 24 ≤ a ∧ a < 1245 + (t * 24 + 24)) → m5 a b = m a b := fun a b z => mm a b (by omega) (by omega)
    have ct : ∀ a b, (a = k + 1 ∧ (b = t ∨ b = t + 1)) ∨ ((a = k + 2 ∨ a = k + 4) ∧ b = t) ∨ ((a = k + 5 ∨ a = k + 6) ∧ b < C) ∨ ((a = k + 7 ∨ a = k + 8) ∧ b < C * 3) → c4 a b = c a b := fun a b z => by
      by_cases zz : a = k + 1 ∧ b = S
      · rw [zz.1, zz.2, e1, k3 (by omega)]
      · exact cc a b (by omega) (by omega) (by omega) (by omega) (by omega) (by omega)
    have c3 : c4 (k + 3) t = c (k + 3) t := cc _ _ (by omega) (by omega) (by omega) (by omega) (by omega) (by omega)
    refine ⟨p1.fr ⟨t1, by omega⟩ hC (by omega) ct mt, ?_⟩
    unfold NNt at *
    rw [mt 202 t (by omega), c3]
    exact ⟨fun z => p2.1 ⟨z.1, Or.inr hi⟩, fun z => p2.2 (fun y => z ⟨y.1, Or.inl (by omega)⟩)⟩
/-- a token read: the gap behind it, both sides -/
theorem reStep {c2 m2 : IH} {n k C S i j w : Int} (hN : 20000 ≤ N) (hk : k = 31 ∨ k = 40) (hS : 0 ≤ S ∧ S < 40) (hi : i < n) (hC : c k 2 = C) (k1 : 0 ≤ C) (k3 : 0 < S → c (k + 1) S = C) (hT : ∀ t, 0 ≤ t → t < S → TKt c m k t ∧ NNt c m k t (t + 1 < S ∨ i < n)) (fc2 : ∀ a b, ¬ (a = 2 ∧ (b = 3 ∨ b = 4 ∨ b = 5)) → ¬ (a = k ∧ (b = 0 ∨ b = 1 ∨ b = 2)) → ¬ (a = k + 1 ∧ (b = S ∨ b = S + 1)) → ¬ (a = k + 2 ∧ b = S) → ¬ ((a = k + 5 ∨ a = k + 6) ∧ C ≤ b) → ¬ ((a = k + 7 ∨ a = k + 8) ∧ C * 3 ≤ b) → c2 a b = c a b) (fm2 : ∀ a b, ¬ (a = 0 ∧ (b = 4 ∨ b = 6 ∨ b = 7)) → ¬ (a = 17 ∧ b = 1) → ¬ ((a = 198 ∨ a = 200) ∧ b = S) → ¬ (1245 + S * 24 ≤ a ∧ a < 1245 + (S * 24 + 24)) → m2 a b = m a b) (c20 : c2 k 0 = S + 1) (m16 : m2 16 1 = S) (d1 : c2 (k + 1) S = C) (d2 : c2 (k + 2) S = m2 200 S) (T2 : TP c2 m2 n j) (b3 : 1 ≤ w) (b4 : w ≤ 24) (b5 : m2 198 S = w) (b6 : c2 k 2 = C + w) (b7 : C + w ≤ j) (b8 : c2 (k + 1) (S + 1) = C + w) (b9 : LNS c2 m2 k j) (b10 : ∀ q, 0 ≤ q → q < w → CLk c2 m2 k (C + q) (1245 + (S * 24 + q))) (b11 : bt m2 n j = -1 ∨ bt m2 n j = 32 ∨ bt m2 n j = 10) : ∃ j2 c4 m5, G_X5_readGap N k c2 = some c4 ∧ (∀ F : Nat, yb (G_X12_standsBetween N m2) (fun r159 a159 => xq S 40 (re163 N (reL N F) (xv a159 202 S r159) j)) = reL N F m5) ∧ TP c4 m5 n j2 ∧ bt m5 n j2 ≠ 32 ∧ bt m5 n j2 ≠ 10 ∧ GI c4 m5 k n j2 (S + 1) ∧ GFc c2 c4 k ∧ GFm m2 m5 := by
  obtain ⟨j2, x, y, g1, g2, g3, g4, g5, g6, g7, g8, g9, T4, g11⟩ := gapS (N := N) (S := S + 1) hN hk T2 c20 (by omega) b9
  have fm4 : ∀ a b, ¬ (a = 0 ∧ b = 4) → ¬ (a = 17 ∧ b = 1) → ¬ (a = 202 ∧ b = S) → ¬ (a = 16 ∧ b = 1) → (xv (xv (xv (xv m2 0 4 j2) 17 1 (m2 17 1 + x)) 202 S (btw x y)) 16 1 (S + 1)) a b = m2 a b := fun a b z1 z2 z3 z4 => by rw [xv_ne z4, xv_ne z3, xv_ne z2, xv_ne z1]
  have bb : bt (xv (xv (xv (xv m2 0 4 j2) 17 1 (m2 17 1 + x)) 202 S (btw x y)) 16 1 (S + 1)) n j2 = bt m2 n j2 := by rw [bt_xv (by omega), bt_xv (by omega), bt_xv (by omega), bt_xv (by omega)]
  have fc4 : ∀ a b, ¬ (a = 2 ∧ b = 3) → ¬ (a = k ∧ b = 1) → ¬ ((a = k + 3 ∨ a = k + 4) ∧ b = S) → gpc (xv c2 2 3 j2) k (S + 1) x y n j2 a b = c2 a b := fun a b z1 z2 z3 => by rw [gpc_fr z2 (by omega), xv_ne z1]
  have d4 : gpc (xv c2 2 3 j2) k (S + 1) x y n j2 (k + 4) S = if x ≤ 0 then 0 else 1 := by
    have := gpc_4 (c := xv c2 2 3 j2) (k := k) (S := S + 1) (x := x) (y := y) (n := n) (i := j2) (by omega)
    rw [show S + 1 - 1 = S by omega] at this
    exact this
  have d3 : gpc (xv c2 2 3 j2) k (S + 1) x y n j2 (k + 3) S = if (x = 1 ∧ y = 0) ∧ j2 < n then 1 else 0 := by
    have := gpc_3 (c := xv c2 2 3 j2) (k := k) (S := S + 1) (x := x) (y := y) (n := n) (i := j2) (by omega)
    rw [show S + 1 - 1 = S by omega] at this
    exact this
  have T5 : TP (gpc (xv c2 2 3 j2) k (S + 1) x y n j2) (xv (xv (xv m2 0 4 j2) 17 1 (m2 17 1 + x)) 202 S (btw x y)) n j2 := T4.w (by omega)
  have T6 : TP (gpc (xv c2 2 3 j2) k (S + 1) x y n j2) (xv (xv (xv (xv m2 0 4 j2) 17 1 (m2 17 1 + x)) 202 S (btw x y)) 16 1 (S + 1)) n j2 := T5.w (by omega)
  refine ⟨j2, _, _, g6, fun F => ?_, T6, by rw [bb]; exact g8, by rw [bb]; exact g9, ?_, ?_, ?_⟩
  · have e16 : xv (xv (xv m2 0 4 j2) 17 1 (m2 17 1 + x)) 202 S (btw x y) 16 1 = S := by rw [xv_ne (by omega), xv_ne (by omega), xv_ne (by omega)]; exact m16
    unfold re163 re195
    rw [g7, yb_s, xq_in hS.1 hS.2, gfine T5.1.2.2.2.2.2, yb_s, if_neg i10, ghere T5, yb_s, T5.1.2.2.2.1, xlet_q, e16, wr_in (by omega) (by omega)]
    have b5' : bt (xv (xv (xv m2 0 4 j2) 17 1 (m2 17 1 + x)) 202 S (btw x y)) n j2 = bt m2 n j2 := by rw [bt_xv (by omega), bt_xv (by omega), bt_xv (by omega)]
    rw [b5']
    by_cases q : bt m2 n j2 = -1
    · rw [if_pos q]
    · have jj : ¬ j2 = j := fun z => by
        rw [z] at q g8 g9
        rcases b11 with u | u | u
        · exact q u
        · exact g8 u
        · exact g9 u
      rw [if_neg q, if_neg jj]
  · refine GI.next (c := c) (m := m) (C := C) (w := w) (x := x) (y := y) hk hS hi hC k1 k3 hT (fun a b z1 z2 z3 z4 z5 z6 => ?_) (fun a b z1 z2 => ?_) ?_ ?_ ?_ ?_ ?_ d4 d3 ?_ g3 b3 b4 (by omega) (fun q q1 q2 => ?_) ?_ ?_ (xv_eq rfl rfl)
    · rw [fc4 a b (by omega) (by omega) (by omega), fc2 a b z1 z2 z3 (by omega) z5 z6]
    · rw [fm4 a b (by omega) (by omega) (by omega) (by omega), fm2 a b (by omega) (by omega) (by omega) (by omega)]
    · rw [fc4 _ _ (by omega) (by omega) (by omega)]; exact d1
    · rw [fc4 _ _ (by omega) (by omega) (by omega)]; exact b8
    · rw [fm4 _ _ (by omega) (by omega) (by omega) (by omega)]; exact b5
    · rw [fc4 _ _ (by omega) (by omega) (by omega)]; exact b6
    · rw [xv_ne (by omega), xv_eq rfl rfl]
    · rw [fc4 _ _ (by omega) (by omega) (by omega), fm4 _ _ (by omega) (by omega) (by omega) (by omega)]; exact d2
    · exact (b10 q q1 q2).fr (fun a b z => fc4 a b (by omega) (by omega) (by omega)) (fun b => fm4 _ b (by omega) (by omega) (by omega) (by omega))
    · obtain ⟨l1, l2, l3⟩ := g11
      have e17 : xv (xv (xv (xv m2 0 4 j2) 17 1 (m2 17 1 + x)) 202 S (btw x y)) 16 1 (S + 1) 17 1 = xv (xv m2 0 4 j2) 17 1 (m2 17 1 + x) 17 1 := by rw [xv_ne (by omega), xv_ne (by omega)]
      unfold LNS
      rw [e17]
      exact ⟨l1, l2, l3⟩
    · rw [fc4 _ _ (by omega) (by omega) (by omega)]; exact c20
  · exact fun a b z1 z2 => fc4 a b (by omega) (by omega) (by omega)
  · exact fun a b z1 z2 z3 z4 => fm4 a b (by omega) (by omega) (by omega) (by omega)
theorem reLoop {n k : Int} (hN : 20000 ≤ N) (hk : k = 31 ∨ k = 40) : ∀ (f f2 : Nat) (c m : IH) (i S : Int), TP c m n i → bt m n i ≠ 32 → bt m n i ≠ 10 → GI c m k n i S → 40 - S < f → 40 - S < f2 → ∃ r c' m', reC N k f S c = some (r, c') ∧ reL N f2 m = some m' ∧ GFc c c' k ∧ GFm m m' ∧ ((r = 1 ∧ ∃ T, TP c' m' n n ∧ GI c' m' k n n T) ∨ (r = 0 ∧ FL c' m')) := by
  intro f
  induction f with
  | zero => intro f2 c m i S h h1 h2 hg h3 h4; have := hg.1; omega
  | succ f ih =>
    intro f2 c m i S h h1 h2 hg h3 h4
    obtain ⟨f2, rfl⟩ : ∃ g, f2 = g + 1 := ⟨f2 - 1, by have := hg.1; omega⟩
    have hr := h.rng h.2.1.1
    have hn := h.2.1
    have t6 := h.1.2.2.2.2.2
    obtain ⟨⟨s1, s2, s3, s4⟩, hL, ⟨k1, k2, k3⟩, hT⟩ := hg
    unfold reC reL
    rw [gatEnd h, yb_s, gfine t6, yb_s, if_neg i10, ghere h, yb_s]
    by_cases hi : i < n
    · rw [if_pos hi, if_pos rfl, if_neg (show ¬ bt m n i = -1 by omega), ghere h, yb_s]
      unfold G_X5_readToken
      rw [gpeek h (by omega), yb_s, Int.add_zero]
      by_cases hb : cel (bt m n i)
      · rw [begC1 hb, yb_s, if_neg i10, begM1 hb, yb_s, if_neg i10, s1, s2]
        by_cases s40 : S = 40
        · rw [if_neg (show ¬ S < 40 by omega), if_pos s40, grefuse, yb_s, ybo0, yb_s, if_pos rfl, gwrong t6, ybv_s, h.1.2.2.1, h.1.2.2.2.1]
          unfold re114
          rw [gfine0 (by rw [xv_ne (by omega), xv_eq rfl rfl]; omega), yb_s, if_pos rfl]
          refine ⟨0, _, _, rfl, rfl, fun a b z1 z2 => ?_, fun a b z1 z2 z3 z4 => ?_, Or.inr ⟨rfl, FL.w2 (by omega)⟩⟩
          · rw [xv_ne (by omega), xv_ne (by omega)]
          · rw [xv_ne (by omega), xv_ne (by omega)]
        · have e1 : xv c (k + 1) S (c k 2) k 0 = S := by rw [xv_ne (by omega)]; exact s1
          have e2 : xv c (k + 1) S (c k 2) k 1 = c k 1 := xv_ne (by omega)
          have L := hL
          obtain ⟨L1, L2, L3⟩ := L
          have e3 : xv (xv c (k + 1) S (c k 2)) (k + 2) S (c k 1 - 1) k 0 = S := by rw [xv_ne (by omega)]; exact e1
          rw [if_pos (show S < 40 by omega), if_neg s40, xq_in s3 (by omega), xlet_q, e1, xq_in s3 (by omega), xlet_q, e2, wr_in (show -2147483648 ≤ c k 1 - 1 by omega) (by omega), e3, wr_in (show -2147483648 ≤ S + 1 by omega) (by omega), xlet_q, xlet_q]
          unfold re114
          rw [gfine t6, yb_s, if_neg i10, s2]
          generalize hc1 : xv (xv (xv c (k + 1) S (c k 2)) (k + 2) S (c k 1 - 1)) k 0 (S + 1) = c1
          have T1 : TP c1 (xv m 200 S (m 17 1)) n i := by
            rw [← hc1]
            exact (((h.wc (by omega)).wc (by omega)).wc (by omega)).w (by omega)
          have fc1 : ∀ a b, ¬ (a = k + 1 ∧ b = S) → ¬ (a = k + 2 ∧ b = S) → ¬ (a = k ∧ b = 0) → c1 a b = c a b := fun a b z1 z2 z3 => by rw [← hc1, xv_ne z3, xv_ne z2, xv_ne z1]
          have d0 : c1 k 0 = S + 1 := by rw [← hc1]; exact xv_eq rfl rfl
          have d1 : c1 (k + 1) S = c k 2 := by rw [← hc1, xv_ne (by omega), xv_ne (by omega), xv_eq rfl rfl]
          have d2 : c1 (k + 2) S = m 17 1 := by rw [← hc1, xv_ne (by omega), xv_eq rfl rfl]; omega
          clear hc1
          have et : ∀ m', G_X12_readsToken_16 N N (xv m 200 S (m 17 1)) S 0 = some m' → G_X12_readsToken N m S = some m' := fun m' z => by
            unfold G_X12_readsToken
            rw [xlet_q, xq_in s3 (by omega), xlet_q, xlet_q]
            exact z
          obtain ⟨r, c2, m2, a1, a2, a3, a4, a5⟩ := tok0 (N := N) (k := k) (C := c k 2) (S := S) hN hk ⟨s3, by omega⟩ k1 N N c1 (xv m 200 S (m 17 1)) i 0 T1 (by omega) (by omega) d0 (by rw [fc1 _ _ (by omega) (by omega) (by omega)]; omega) (by omega) (by
            refine ⟨?_, ?_, ?_⟩
            · rw [fc1 _ _ (by omega) (by omega) (by omega), xv_ne (by omega)]; exact L1
            · rw [xv_ne (by omega)]; exact L2
            · rw [xv_ne (by omega)]; exact L3) (Or.inr (by rw [bt_xv (by omega)]; exact hb)) (fun q q1 q2 => by omega) (by omega) (by omega)
          rw [a1, yb_s, et m2 a2, ybv_s]
          simp only [xlet_q]
          have fm2 : ∀ a b, ¬ (a = 0 ∧ (b = 4 ∨ b = 6 ∨ b = 7)) → ¬ (a = 17 ∧ b = 1) → ¬ ((a = 198 ∨ a = 200) ∧ b = S) → ¬ (1245 + S * 24 ≤ a ∧ a < 1245 + (S * 24 + 24)) → m2 a b = m a b := by
            clear a5 hT hr hL
            exact fun a b z1 z2 z3 z4 => by rw [a4 a b z1 z2 (by omega) (by omega), xv_ne (by omega)]
          have fc2 : ∀ a b, ¬ (a = 2 ∧ (b = 3 ∨ b = 4 ∨ b = 5)) → ¬ (a = k ∧ (b = 0 ∨ b = 1 ∨ b = 2)) → ¬ (a = k + 1 ∧ (b = S ∨ b = S + 1)) → ¬ (a = k + 2 ∧ b = S) → ¬ ((a = k + 5 ∨ a = k + 6) ∧ c k 2 ≤ b) → ¬ ((a = k + 7 ∨ a = k + 8) ∧ c k 2 * 3 ≤ b) → c2 a b = c a b := by
            clear a5 hT hr hL
            exact fun a b z1 z2 z3 z4 z5 z6 => by rw [a3 a b z1 (by omega) (by omega) (by omega) (by omega), fc1 a b (by omega) (by omega) (by omega)]
          have gfc : GFc c c2 k := by
            clear a5 hT hr hL
            exact fun a b z1 z2 => fc2 a b z1 (by omega) (by omega) (by omega) (by omega) (by omega)
          have gfm : GFm m m2 := by
            clear a5 hT hr hL
            exact fun a b z1 z2 z3 z4 => fm2 a b z1 (by omega) (by omega) (by omega)
          have m16 : m2 16 1 = S := by
            clear a5 hT hr hL
            rw [fm2 _ _ (by omega) (by omega) (by omega) (by omega)]; exact s2
          have c20 : c2 k 0 = S + 1 := by
            clear a5 hT hr hL
            rw [a3 _ _ (by omega) (by omega) (by omega) (by omega) (by omega)]; exact d0
          have d1' : c2 (k + 1) S = c k 2 := by
            clear a5 hT hr hL
            rw [a3 _ _ (by omega) (by omega) (by omega) (by omega) (by omega)]; exact d1
          have d2' : c2 (k + 2) S = m2 200 S := by
            clear a5 hT hr hL
            rw [a3 _ _ (by omega) (by omega) (by omega) (by omega) (by omega), d2, a4 _ _ (by omega) (by omega) (by omega) (by omega), xv_eq rfl rfl]
          rcases a5 with ⟨b1, j, w, b2, T2, b3, b4, b5, b6, b7, b8, b9, b10, b11⟩ | ⟨b1, b2⟩ | ⟨b1, c3, j, T3, b2, b3, b4, b5, b6, b7⟩
          · obtain ⟨j2, c4, m5, q1, q2, T6, q3, q4, gi, q5, q6⟩ := reStep (N := N) (c := c) (m := m) hN hk ⟨s3, by omega⟩ hi rfl k1 k3 hT fc2 fm2 c20 m16 d1' d2' T2 b3 b4 b5 b6 b7 b8 b9 b10 b11
            clear hT b10
            have u6 := T2.1.2.2.2.2.2
            rw [b1, if_neg i10, gfine u6, yb_s, if_neg i10, T2.1.2.2.2.1, m16]
            try rw [show (201 : Int) + 1 = 202 by omega]
            rw [q2]
            unfold G_X5_readText_17
            rw [if_neg (show ¬ 40 < S + 1 by omega), q1, ybv_s]
            obtain ⟨r', c', m', p1, p2, p3, p4, p5⟩ := ih f2 c4 m5 j2 (S + 1) T6 q3 q4 gi (by omega) (by omega)
            exact ⟨r', c', m', p1, p2, fun a b z1 z2 => by rw [p3 a b z1 z2, q5 a b z1 z2]; exact gfc a b z1 z2, fun a b z1 z2 z3 z4 => by rw [p4 a b z1 z2 z3 z4, q6 a b z1 z2 z3 z4]; exact gfm a b z1 z2 z3 z4, p5⟩
          · have u6 : m2 0 6 ≠ 0 := by have := b2.2.2.1; omega
            rw [b1, if_pos rfl, gfine0 u6, yb_s, if_pos rfl, re163_0 (by omega) u6 (by omega)]
            refine ⟨0, _, _, rfl, rfl, gfc, fun a b z1 z2 z3 z4 => ?_, Or.inr ⟨rfl, ?_, ?_, ?_, ?_⟩⟩
            · rw [xv_ne (by omega)]; exact gfm a b z1 z2 z3 z4
            · rw [xv_ne (by omega)]; exact b2.1
            · rw [xv_ne (by omega)]; exact b2.2.1
            · rw [xv_ne (by omega)]; exact b2.2.2.1
            · rw [xv_ne (by omega)]; exact b2.2.2.2
          · have u6 := T3.1.2.2.2.2.2
            rw [b1, if_pos rfl, gfine u6, yb_s, if_neg i10, T3.1.2.2.2.1, sb_stay hN T3 b5 b6 b7, yb_s, m16, xq_in s3 (by omega)]
            try rw [show (201 : Int) + 1 = 202 by omega]
            have T4 : TP c3 (xv m2 202 S 0) n j := T3.w (by omega)
            unfold re163 re195
            rw [gfine T4.1.2.2.2.2.2, yb_s, if_neg i10, ghere T4, yb_s, bt_xv (by omega), if_neg b4, T4.1.2.2.2.1, if_pos rfl, gwrong T4.1.2.2.2.2.2, ybv_s, xlet_q]
            have e16 : xv (xv (xv m2 202 S 0) 0 6 1) 0 7 j 16 1 = S := by rw [xv_ne (by omega), xv_ne (by omega), xv_ne (by omega)]; exact m16
            rw [e16, wr_in (by omega) (by omega), reL_0 (by omega) (by rw [xv_ne (by omega), xv_ne (by omega), xv_eq rfl rfl]; omega)]
            refine ⟨0, _, _, rfl, rfl, gfc, fun a b z1 z2 z3 z4 => ?_, Or.inr ⟨rfl, ?_, ?_, ?_, ?_⟩⟩
            · rw [xv_ne (by omega), xv_ne (by omega), xv_ne (by omega), xv_ne (by omega)]; exact gfm a b z1 z2 z3 z4
            · rw [xv_ne (by omega), xv_ne (by omega), xv_eq rfl rfl]; exact b2
            · rw [xv_ne (by omega), xv_eq rfl rfl]; exact b3
            · rw [xv_ne (by omega), xv_ne (by omega), xv_eq rfl rfl]; omega
            · rw [xv_ne (by omega), xv_ne (by omega), xv_eq rfl rfl]; omega
      · rw [begC0 hb, yb_s, if_pos rfl, grefuse, yb_s, ybo0, yb_s, if_pos rfl, begM0 hb, yb_s, if_pos rfl, gwrong t6, ybv_s, h.1.2.2.1, h.1.2.2.2.1]
        unfold re114
        rw [gfine0 (by rw [xv_ne (by omega), xv_eq rfl rfl]; omega), yb_s, if_pos rfl]
        refine ⟨0, _, _, rfl, rfl, fun a b z1 z2 => ?_, fun a b z1 z2 z3 z4 => ?_, Or.inr ⟨rfl, FL.w2 (by omega)⟩⟩
        · rw [xv_ne (by omega), xv_ne (by omega)]
        · rw [xv_ne (by omega), xv_ne (by omega)]
    · rw [if_neg hi, if_neg i10, if_pos (show bt m n i = -1 by omega)]
      have ei : i = n := by omega
      subst ei
      exact ⟨1, c, m, rfl, rfl, fun _ _ _ _ => rfl, fun _ _ _ _ _ _ => rfl, Or.inl ⟨rfl, S, h, ⟨s1, s2, s3, s4⟩, hL, ⟨k1, k2, k3⟩, hT⟩⟩
theorem reText {n k : Int} (hN : 20000 ≤ N) (hk : k = 31 ∨ k = 40) (h : TP c m n 0) : ∃ r c' m', G_X5_readText N k c = some (r, c') ∧ yb (G_X12_standsBetween N (xv (xv m 16 1 0) 17 1 0)) (fun _ a => reL N N a) = some m' ∧ GFc c c' k ∧ GFm m m' ∧ ((r = 1 ∧ ∃ T, TP c' m' n n ∧ GI c' m' k n n T) ∨ (r = 0 ∧ FL c' m')) := by
  have T1 : TP (xv (xv (xv c k 0 0) k 2 0) k 1 1) (xv (xv m 16 1 0) 17 1 0) n 0 := ((((h.wc (by omega)).wc (by omega)).wc (by omega)).w (by omega)).w (by omega)
  have e0 : xv (xv (xv c k 0 0) k 2 0) k 1 1 k 0 = 0 := by rw [xv_ne (by omega), xv_ne (by omega), xv_eq rfl rfl]
  have e2 : xv (xv (xv c k 0 0) k 2 0) k 1 1 k 2 = 0 := by rw [xv_ne (by omega), xv_eq rfl rfl]
  have e16 : xv (xv m 16 1 0) 17 1 0 16 1 = 0 := by rw [xv_ne (by omega), xv_eq rfl rfl]
  have ln : LNS (xv (xv (xv c k 0 0) k 2 0) k 1 1) (xv (xv m 16 1 0) 17 1 0) k 0 := by
    unfold LNS
    rw [xv_eq rfl rfl, xv_eq rfl rfl]
    omega
  have fc1 : GFc c (xv (xv (xv c k 0 0) k 2 0) k 1 1) k := fun a b z1 z2 => by rw [xv_ne (by omega), xv_ne (by omega), xv_ne (by omega)]
  have fm1 : GFm m (xv (xv m 16 1 0) 17 1 0) := fun a b z1 z2 z3 z4 => by rw [xv_ne (by omega), xv_ne (by omega)]
  have ec : G_X5_readText N k c = G_X5_readText_17 N k N (xv (xv (xv c k 0 0) k 2 0) k 1 1) 0 := rfl
  rw [ec]
  generalize xv (xv (xv c k 0 0) k 2 0) k 1 1 = c1 at T1 e0 e2 ln fc1 ⊢
  generalize xv (xv m 16 1 0) 17 1 0 = m1 at T1 e16 ln fm1 ⊢
  obtain ⟨N', eN⟩ : ∃ N', N = N' + 1 := ⟨N - 1, by omega⟩
  obtain ⟨j, x, y, g1, g2, g3, g4, g5, g6, g7, g8, g9, T4, g11⟩ := gapS (N := N) (S := 0) hN hk T1 e0 (by omega) ln
  have eq : ∀ a v, G_X5_readText_17 N k N a v = G_X5_readText_17 N k (N' + 1) a v := fun a v => by rw [← eN]
  rw [eq, g7, yb_s]
  unfold G_X5_readText_17
  rw [if_neg (show ¬ (40 : Int) < 0 by omega), g6, ybv_s]
  have bb : bt (xv (xv m1 0 4 j) 17 1 (m1 17 1 + x)) n j = bt m1 n j := by rw [bt_xv (by omega), bt_xv (by omega)]
  have gi : GI (gpc (xv c1 2 3 j) k 0 x y n j) (xv (xv m1 0 4 j) 17 1 (m1 17 1 + x)) k n j 0 := by
    refine ⟨⟨?_, ?_, by omega, by omega⟩, g11, ⟨?_, ?_, fun z => by omega⟩, fun t t1 t2 => by omega⟩
    · rw [gpc_fr (by omega) (by omega), xv_ne (by omega)]; exact e0
    · rw [xv_ne (by omega), xv_ne (by omega)]; exact e16
    · rw [gpc_fr (by omega) (by omega), xv_ne (by omega), e2]; omega
    · rw [gpc_fr (by omega) (by omega), xv_ne (by omega), e2]; omega
  obtain ⟨r, c', m', q1, q2, q3, q4, q5⟩ := reLoop (N := N) hN hk N' N _ _ j 0 T4 (by rw [bb]; exact g8) (by rw [bb]; exact g9) gi (by omega) (by omega)
  refine ⟨r, c', m', q1, q2, fun a b z1 z2 => ?_, fun a b z1 z2 z3 z4 => ?_, q5⟩
  · rw [q3 a b z1 z2, gpc_fr (by omega) (by omega), xv_ne (by omega)]; exact fc1 a b z1 z2
  · rw [q4 a b z1 z2 z3 z4, xv_ne (by omega), xv_ne (by omega)]; exact fm1 a b z1 z2 z3 z4
end
