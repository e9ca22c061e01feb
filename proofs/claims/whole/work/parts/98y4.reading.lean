theorem reC327 {N : Nat} {K1 : IH → Int → Option (Int × IH)} {K : IH → Int → Int → Option (Int × IH)} {t u : Int} (ht : 0 ≤ t ∧ t < 40) (hu : 0 ≤ u ∧ u < 24) : ∀ (f : Nat) (m : IH) (q : Int), 0 ≤ q → q ≤ 8 → 8 - q < f → ∃ m', G_X12_reading_327 N K1 K f m t u q = K m' t (u + 1) ∧ (∀ b, q ≤ b → b < 8 → m' (285 + (t * 24 + u)) b = m (1245 + (t * 24 + u)) b) ∧ ∀ a b, ¬ (a = 285 + (t * 24 + u) ∧ q ≤ b ∧ b < 8) → m' a b = m a b := by
  intro f
  induction f with
  | zero => intro m q h1 h2 h3; omega
  | succ f ih =>
    intro m q h1 h2 h3
    unfold G_X12_reading_327
    by_cases c1 : 8 ≤ q
    · rw [if_pos c1, xlet_q, wr_in (by omega) (by omega)]
      exact ⟨m, rfl, fun b q1 q2 => by omega, fun _ _ _ => rfl⟩
    · rw [if_neg c1, xq_in ht.1 ht.2, xq_in hu.1 hu.2, xlet_q, xq_in ht.1 ht.2, xq_in hu.1 hu.2, xlet_q, xq_in h1 (by omega), xq_in h1 (by omega), xlet_q, xlet_q, wr_in (by omega) (by omega), show (285 : Int) + ((0 * 40 + t) * 24 + u) = 285 + (t * 24 + u) by omega, show (285 : Int) + ((1 * 40 + t) * 24 + u) = 1245 + (t * 24 + u) by omega]
      obtain ⟨m', a1, a2, a3⟩ := ih (xv m (285 + (t * 24 + u)) q (m (1245 + (t * 24 + u)) q)) (q + 1) (by omega) (by omega) (by omega)
      refine ⟨m', a1, fun b q1 q2 => ?_, fun a b z => ?_⟩
      · by_cases e : b = q
        · subst e; rw [a3 _ _ (by omega), xv_eq rfl rfl]
        · rw [a2 b (by omega) q2, xv_ne (by omega)]
      · rw [a3 a b (by omega), xv_ne (by omega)]
theorem reC312 {N : Nat} {K : IH → Int → Option (Int × IH)} {t W : Int} (hN : 20000 ≤ N) (ht : 0 ≤ t ∧ t < 40) (hW : 0 ≤ W ∧ W ≤ 24) : ∀ (f : Nat) (m : IH) (u : Int), m 197 t = W → 0 ≤ u → u ≤ W → W - u < f → ∃ m', G_X12_reading_312 N K f m t u = K m' (t + 1) ∧ (∀ v, u ≤ v → v < W → ∀ b, 0 ≤ b → b < 8 → m' (285 + (t * 24 + v)) b = m (1245 + (t * 24 + v)) b) ∧ ∀ a b, ¬ (285 + (t * 24 + u) ≤ a ∧ a < 285 + (t * 24 + 24)) → m' a b = m a b := by
  intro f
  induction f with
  | zero => intro m u h1 h2 h3 h4; omega
  | succ f ih =>
    intro m u h1 h2 h3 h4
    unfold G_X12_reading_312
    rw [xlet_q, xq_in ht.1 ht.2, Int.add_zero, h1]
    by_cases c1 : W ≤ u
    · rw [if_pos c1, xlet_q, wr_in (by omega) (by omega)]
      exact ⟨m, rfl, fun v q1 q2 => by omega, fun _ _ _ => rfl⟩
    · rw [if_neg c1, xlet_q]
      obtain ⟨m1, a1, a2, a3⟩ := reC327 (N := N) (K1 := K) (K := G_X12_reading_312 N K f) (t := t) (u := u) ht (by omega) N m 0 (by omega) (by omega) (by omega)
      obtain ⟨m', b1, b2, b3⟩ := ih m1 (u + 1) (by rw [a3 _ _ (by omega)]; exact h1) (by omega) (by omega) (by omega)
      refine ⟨m', a1.trans b1, fun v q1 q2 b x1 x2 => ?_, fun a b z => ?_⟩
      · by_cases e : v = u
        · subst e
          rw [b3 _ _ (by omega), a2 b x1 x2]
        · rw [b2 v (by omega) q2 b x1 x2, a3 _ _ (by omega)]
      · rw [b3 a b (by omega), a3 a b (by omega)]
theorem reC252 {N : Nat} {T : Int} (hN : 20000 ≤ N) (hT : 0 ≤ T ∧ T ≤ 40) : ∀ (f : Nat) (m : IH) (t : Int), m 16 0 = T → 0 ≤ t → t ≤ T → (∀ s, t ≤ s → s < T → 0 ≤ m 198 s ∧ m 198 s ≤ 24) → T - t < f → ∃ m', G_X12_reading_252 N f m t = yb (G_X12_ends N m' T) (fun r a => some (r, a)) ∧ (∀ s, t ≤ s → s < T → m' 197 s = m 198 s ∧ m' 199 s = m 200 s ∧ m' 201 s = m 202 s ∧ ∀ u, 0 ≤ u → u < m 198 s → ∀ b, 0 ≤ b → b < 8 → m' (285 + (s * 24 + u)) b = m (1245 + (s * 24 + u)) b) ∧ ∀ a b, ¬ ((a = 197 ∨ a = 199 ∨ a = 201) ∧ t ≤ b) → ¬ (285 + t * 24 ≤ a ∧ a < 1245) → m' a b = m a b := by
  intro f
  induction f with
  | zero => intro m t h1 h2 h3 h4 h5; omega
  | succ f ih =>
    intro m t h1 h2 h3 h4 h5
    unfold G_X12_reading_252
    rw [h1]
    by_cases c1 : T ≤ t
    · rw [if_pos c1]
      exact ⟨m, rfl, fun s q1 q2 => by omega, fun _ _ _ _ => rfl⟩
    · have W := h4 t (by omega) (by omega)
      rw [if_neg c1, xlet_q, xlet_q, xq_in h2 (by omega), xq_in h2 (by omega), xlet_q, xlet_q, xlet_q, xq_in h2 (by omega), xq_in h2 (by omega), xlet_q, xlet_q, xlet_q, xq_in h2 (by omega), xq_in h2 (by omega), xlet_q, xlet_q, show (197 : Int) + 0 = 197 by omega, show (197 : Int) + 1 = 198 by omega, show (199 : Int) + 0 = 199 by omega, show (199 : Int) + 1 = 200 by omega, show (201 : Int) + 0 = 201 by omega, show (201 : Int) + 1 = 202 by omega, xv_ne (show ¬ ((200 : Int) = 197 ∧ t = t) by omega), xv_ne (show ¬ ((202 : Int) = 199 ∧ t = t) by omega), xv_ne (show ¬ ((202 : Int) = 197 ∧ t = t) by omega)]
      generalize hm1 : xv (xv (xv m 197 t (m 198 t)) 199 t (m 200 t)) 201 t (m 202 t) = m1
      have o : ∀ a b, ¬ ((a = 197 ∨ a = 199 ∨ a = 201) ∧ b = t) → m1 a b = m a b := fun a b z => by rw [← hm1, xv_ne (by omega), xv_ne (by omega), xv_ne (by omega)]
      have o1 : m1 197 t = m 198 t := by rw [← hm1, xv_ne (by omega), xv_ne (by omega), xv_eq rfl rfl]
      have o2 : m1 199 t = m 200 t := by rw [← hm1, xv_ne (by omega), xv_eq rfl rfl]
      have o3 : m1 201 t = m 202 t := by rw [← hm1, xv_eq rfl rfl]
      clear hm1
      obtain ⟨m2, a1, a2, a3⟩ := reC312 (N := N) (K := G_X12_reading_252 N f) (t := t) (W := m 198 t) hN ⟨h2, by omega⟩ W N m1 0 o1 (by omega) W.1 (by omega)
      have o4 : ∀ a b, ¬ ((a = 197 ∨ a = 199 ∨ a = 201) ∧ b = t) → ¬ (285 + t * 24 ≤ a ∧ a < 285 + (t * 24 + 24)) → m2 a b = m a b := fun a b z1 z2 => by rw [a3 a b (by omega), o a b z1]
      obtain ⟨m', b1, b2, b3⟩ := ih m2 (t + 1) (by rw [o4 _ _ (by omega) (by omega)]; exact h1) (by omega) (by omega) (fun s q1 q2 => by rw [o4 _ _ (by omega) (by omega)]; exact h4 s (by omega) q2) (by omega)
      refine ⟨m', a1.trans b1, fun s q1 q2 => ?_, fun a b z1 z2 => ?_⟩
      · by_cases e : s = t
        · subst e
          refine ⟨?_, ?_, ?_, fun u u1 u2 b x1 x2 => ?_⟩
          · rw [b3 _ _ (by omega) (by omega), a3 _ _ (by omega), o1]
          · rw [b3 _ _ (by omega) (by omega), a3 _ _ (by omega), o2]
          · rw [b3 _ _ (by omega) (by omega), a3 _ _ (by omega), o3]
          · rw [b3 _ _ (by omega) (by omega), a2 u u1 u2 b x1 x2, o _ _ (by omega)]
        · obtain ⟨y1, y2, y3, y4⟩ := b2 s (by omega) q2
          have e198 : m2 198 s = m 198 s := o4 _ _ (by omega) (by omega)
          rw [e198] at y4
          have W' := h4 s (by omega) q2
          refine ⟨by rw [y1, e198], by rw [y2, o4 _ _ (by omega) (by omega)], by rw [y3, o4 _ _ (by omega) (by omega)], fun u u1 u2 b x1 x2 => ?_⟩
          rw [y4 u u1 u2 b x1 x2, o4 _ _ (by omega) (by omega)]
      · rw [b3 a b (by omega) (by omega), o4 a b (by omega) (by omega)]
section
variable {N : Nat} {c m : IH}
theorem S_reading {p : Int} (hN : 20000 ≤ N) (h : R N c m) : CX N 0 1 (G_X11_reading N c p) (G_X12_reading N m p) := by
  unfold G_X11_reading G_X12_reading
  have h' := h.m0 hN
  have z : xv m 0 0 0 0 0 = 0 := xv_eq rfl rfl
  rw [xlet_q]
  generalize xv m 0 0 0 = m at h' z ⊢
  rw [needB, inM, yb_s, h'.1.1]
  by_cases c1 : 0 ≤ p ∧ p ≤ m 0 2
  · rw [if_pos c1, if_pos c1, bx0, if_neg i10]
    unfold G_X12_reading_23
    rw [bad0 z, yb_s, if_pos rfl]
    obtain ⟨ca, ma, e1, e2, T0, e3, e4, e5, e6, e7⟩ := beginS (N := N) h'.1 c1
    have eL : ∀ x : IH, yb (G_X12_standsBetween N x) (fun _ a53 => G_X12_reading_57 N N a53) = ybv (yb (G_X12_standsBetween N x) (fun _ a => reL N N a)) (fun a => G_X12_reading_208 N a) := fun x => by simp only [yb_ybv, reL_eq]
    rw [e1, e2, ybv_s, ybv_s, xlet_q, xlet_q, eL]
    obtain ⟨r, cb, mb, g1, g2, g3, g4, g5⟩ := reText (N := N) (k := 40) hN (Or.inr rfl) T0
    have fc : ∀ a b, ¬ (a = 2 ∧ 2 ≤ b ∧ b ≤ 5) → ¬ (40 ≤ a ∧ a ≤ 48) → cb a b = c a b := fun a b q1 q2 => by rw [g3 a b (by omega) (by omega)]; exact e5 a b q1
    have fm : ∀ a b, ¬ (a = 0 ∧ 2 ≤ b ∧ b ≤ 7) → ¬ ((a = 16 ∨ a = 17) ∧ b = 1) → ¬ (a = 198 ∨ a = 200 ∨ a = 202) → ¬ (1245 ≤ a ∧ a < 2205) → mb a b = m a b := fun a b q1 q2 q3 q4 => by rw [g4 a b (by omega) q2 q3 q4]; exact e6 a b q1
    have f02 : mb 0 2 = 0 := by rw [g4 _ _ (by omega) (by omega) (by omega) (by omega)]; exact e7
    rw [g1, yb_s, g2, ybv_s]
    unfold G_X12_reading_208
    rcases g5 with ⟨r1, T, T2, gi⟩ | ⟨r0, f1, f2, f3, f4⟩
    · rw [r1, if_neg i10]
      obtain ⟨cc, b1, T3, b2⟩ := begin2 (N := N) (c := cb) T0 (fun j => by rw [g3 _ _ (by omega) (by omega)])
      obtain ⟨r', cd, md, k1, k2, k3, k4, k5⟩ := reText (N := N) (k := 31) hN (Or.inl rfl) T3
      have em : md = mb := Option.some.inj (k2.symm.trans g2)
      subst em
      rw [b1, ybv_s, k1, yb_s]
      rcases k5 with ⟨r1', T', T5, ⟨u1, u2, u3, u4⟩, ⟨l1, l2, l3⟩, ⟨w1, w2, w3⟩, uT⟩ | ⟨r0, f1, f2, f3, f4⟩
      · obtain ⟨ce, a1, a2, a3, a4, a5⟩ := changedS (N := N) (c := cd) hN
        have fd : ∀ a b, ¬ (a = 2 ∧ 2 ≤ b ∧ b ≤ 5) → ¬ (31 ≤ a ∧ a ≤ 48) → cd a b = c a b := fun a b q1 q2 => by rw [k3 a b (by omega) (by omega), b2 a b q1]; exact fc a b q1 (by omega)
        have e24 : ce 2 4 = 0 := by rw [a5 _ _ (by omega) (by omega) (by omega)]; exact T5.1.2.2.2.2.1.1
        have p4 := T5.2.1
        rw [a1, ybv_s]
        unfold G_X11_reading_59
        rw [finishC (by omega), yb_s, if_pos e24, a5 _ _ (by omega) (by omega) (by omega), u1, gfine T5.1.2.2.2.2.2, yb_s, if_neg i10, xlet_q, xlet_q, xlet_q, xlet_q, xv_ne (show ¬ ((16 : Int) = 0 ∧ (1 : Int) = 26) by omega), u2, xv_ne (show ¬ ((17 : Int) = 16 ∧ (1 : Int) = 0) by omega), xv_ne (show ¬ ((17 : Int) = 0 ∧ (1 : Int) = 26) by omega)]
        generalize hme : xv (xv (xv md 0 26 1) 16 0 T') 17 0 (md 17 1) = me
        have o : ∀ a b, ¬ (a = 0 ∧ b = 26) → ¬ ((a = 16 ∨ a = 17) ∧ b = 0) → me a b = md a b := fun a b z1 z2 => by rw [← hme, xv_ne (by omega), xv_ne (by omega), xv_ne (by omega)]
        have o26 : me 0 26 = 1 := by rw [← hme, xv_ne (by omega), xv_ne (by omega), xv_eq rfl rfl]
        have o16 : me 16 0 = T' := by rw [← hme, xv_ne (by omega), xv_eq rfl rfl]
        have o17 : me 17 0 = md 17 1 := by rw [← hme, xv_eq rfl rfl]
        clear hme
        obtain ⟨mf, v1, v2, v3⟩ := reC252 (N := N) (T := T') hN ⟨u3, u4⟩ N me 0 o16 (by omega) (by omega) (fun s q1 q2 => by
          rw [o _ _ (by omega) (by omega)]
          have := (uT s q1 q2).1.1
          omega) (by omega)
        have vf : ∀ a b, ¬ (a = 0 ∧ b = 26) → ¬ ((a = 16 ∨ a = 17) ∧ b = 0) → ¬ (a = 197 ∨ a = 199 ∨ a = 201) → ¬ (285 ≤ a ∧ a < 1245) → mf a b = md a b := fun a b q1 q2 q3 q4 => by rw [v3 a b (by omega) (by omega), o a b q1 q2]
        have x6 : mf 0 6 = 0 := by rw [vf _ _ (by omega) (by omega) (by omega) (by omega)]; exact T5.1.2.2.2.2.2
        have x16 : mf 16 0 = T' := by rw [v3 _ _ (by omega) (by omega)]; exact o16
        have x17 : mf 17 0 = md 17 1 := by rw [v3 _ _ (by omega) (by omega)]; exact o17
        have x26 : mf 0 26 = 1 := by rw [v3 _ _ (by omega) (by omega)]; exact o26
        rw [v1, endsM (by omega), yb_s, if_pos x6]
        have fM : ∀ a b, ¬ (a = 0 ∧ ((2 ≤ b ∧ b ≤ 7) ∨ b = 26)) → ¬ (a = 16 ∨ a = 17) → ¬ (197 ≤ a ∧ a < 2205) → mf a b = m a b := fun a b q1 q2 q3 => by rw [vf a b (by omega) (by omega) (by omega) (by omega)]; exact fm a b (by omega) (by omega) (by omega) (by omega)
        have rd : RD cd mf := by
          refine ⟨⟨by rw [x16]; exact u1, by omega, by omega⟩, Or.inr ⟨x26, by rw [x17]; exact l1, by rw [x17]; exact l2, by rw [x17]; omega⟩, fun s q1 q2 => ?_⟩
          rw [x16] at q2
          obtain ⟨⟨⟨t1, t2, t3, t4, t5⟩, t6, t7, t8⟩, n1, n2⟩ := uT s q1 q2
          obtain ⟨y1, y2, y3, y4⟩ := v2 s q1 q2
          rw [o 198 s (by omega) (by omega)] at y1 y4
          rw [o 200 s (by omega) (by omega)] at y2
          rw [o 202 s (by omega) (by omega)] at y3
          unfold TK
          rw [y1, y2, y3, x16]
          refine ⟨⟨t1, t2, by have : cd 32 (s + 1) ≤ cd 31 2 := t3; omega, t4, t5⟩, t6, ?_, t7, fun q q1 q2 => ?_⟩
          · have n1' : md 202 s = 1 ∧ (s + 1 < T' ∨ p < p) → cd 34 s = 1 := n1
            have n2' : ¬ (md 202 s = 1 ∧ (s + 1 < T' ∨ p < p)) → cd 34 s = 0 := n2
            by_cases e : s + 1 < T' ∧ md 202 s = 1
            · rw [if_pos e]; exact n1' ⟨e.2, Or.inl e.1⟩
            · rw [if_neg e]; exact n2' (fun zz => e ⟨by omega, zz.1⟩)
          · obtain ⟨z1, z2, z3, z4, z5, z6, z7⟩ := t8 q q1 q2
            have yy : ∀ b, 0 ≤ b → b < 8 → mf (285 + (s * 24 + q)) b = md (1245 + (s * 24 + q)) b := fun b x1 x2 => by rw [y4 q q1 q2 b x1 x2, o _ _ (by omega) (by omega)]
            unfold CL
            rw [yy 0 (by omega) (by omega), yy 1 (by omega) (by omega)]
            refine ⟨z1, z2, z3, z4, z5, z6, fun q' x1 x2 => ?_⟩
            rw [yy _ (by omega) (by omega), yy _ (by omega) (by omega)]
            exact z7 q' x1 x2
        have tr : TR cd mf := TR.mk (h'.tr.ll.fr (fun a b _ _ => fd a b (by omega) (by omega)) (fun a b _ => fM a b (by omega) (by omega) (by omega))) ((h'.tr.2.2.2.1.cv (fun a b _ _ => fd a b (by omega) (by omega))).mv (fM _ _ (by omega) (by omega) (by omega)) (fun a b _ _ => fM a b (by omega) (by omega) (by omega)) (fun a b _ _ => fM a b (by omega) (by omega) (by omega))) ((h'.tr.2.2.2.2.1.cv (fun b => fd _ b (by omega) (by omega))).mv (fun b => fM _ b (by omega) (by omega) (by omega))) rd (h'.tr.2.2.2.2.2.2.fr (fun a b _ _ => fd a b (by omega) (by omega)) (fun a b _ => fM a b (by omega) (by omega) (by omega)))
        refine ⟨0, _, _, _, _, rfl, rfl, R.good h' tr ?_ ?_ (fun a b q => fd a b (by omega) (by omega)) (fun a b q => fM a b (by omega) (by omega) (by omega)) ?_ a2 a3 a4 a5, Or.inl ⟨rfl, ?_, rfl⟩⟩
        · rw [vf _ _ (by omega) (by omega) (by omega) (by omega), T5.1.2.2.2.2.1.2.1, T5.1.2.2.2.2.1.2.2]
        · rw [vf _ _ (by omega) (by omega) (by omega) (by omega)]; exact f02
        · rw [fM _ _ (by omega) (by omega) (by omega), fM _ _ (by omega) (by omega) (by omega)]; exact h'.2.1.2.2
        · rw [xv_ne (by omega), fM _ _ (by omega) (by omega) (by omega)]; exact z
      · have := T2.1.2.2.2.2.2
        omega
    · rw [r0, if_pos rfl]
      unfold G_X11_reading_59
      rw [finishC (by omega), yb_s, gfine0 (by omega), yb_s, if_pos rfl, endsM (by omega), yb_s, if_neg (show ¬ cb 2 4 = 0 by omega), if_neg (show ¬ mb 0 6 = 0 by omega), f1]
      refine ⟨0, _, _, _, _, rfl, rfl, R.fail hN h' f2 (h'.tr.ll.fr (fun a b _ _ => fc a b (by omega) (by omega)) (fun a b _ => fm a b (by omega) (by omega) (by omega) (by omega))) (fun a b q1 q2 q3 q4 q5 q6 => fc a b q1 q5) (fun a b q => fm a b (by omega) (by omega) (by omega) (by omega)) f02, Or.inl ⟨rfl, ?_, rfl⟩⟩
      rw [xv_ne (by omega), fm _ _ (by omega) (by omega) (by omega) (by omega)]; exact z
  · rw [if_neg c1, if_neg c1, bx2, if_pos rfl]
    unfold G_X12_reading_23
    exact cxB hN h' z (by omega)
end
