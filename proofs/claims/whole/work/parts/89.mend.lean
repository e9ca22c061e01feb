/-- what was found is small and of words -/
def RB (m m2 : IH) : Prop := (0 ≤ m2 0 49 ∧ m2 0 49 ≤ 60) ∧ (∀ j, 0 ≤ j → j < m2 0 49 → (0 ≤ m2 33 j ∧ m2 33 j < m 0 10) ∧ 0 ≤ m2 34 j ∧ m2 34 j ≤ 2475) ∧ ∀ i j, 0 ≤ i → i < j → j < m2 0 49 → m2 33 i ≠ m2 33 j ∧ m2 34 i ≤ m2 34 j
theorem RN.rb {N : Nat} {c m m1 c2 m2 : IH} {L most : Int} (h : RN N c m1 L most c2 m2) (hm : TM m m1) : RB m m2 := by
  obtain ⟨h1, h2, h3, h4, h5⟩ := h
  have e10 : m2 0 10 = m 0 10 := by rw [h5 _ _ (by omega) (by omega), hm _ _ (by omega) (by omega) (by omega)]
  refine ⟨⟨h3.2.1, h3.2.2.1⟩, fun j j1 j2 => ?_, fun i j i1 i2 i3 => ?_⟩
  · rcases h4 with q | ⟨q, n, i, Lb, hQ, hE, hA, _⟩
    · omega
    · obtain ⟨a1, a2, a3, a4⟩ := hA.1 j j1 j2
      have lw := h2.2.1.2.2.1 (m2 33 j) a1.1 a1.2
      have hL := h2.1.1
      have cb := hQ.2.2.2.2.2.2.2.2.1 L (m2 7 (m2 33 j)) (by omega) (by omega) (by omega) (by omega) (by omega)
      omega
  · rcases h4 with q | ⟨q, n, k, Lb, hQ, hE, hA, _⟩
    · omega
    · exact hA.2.1 i j i1 i2 i3
section
variable {N : Nat} {c m : IH}
theorem gvT {t : Int} {m2 : IH} (hN : 20000 ≤ N) (h : TR c m) (hs : SL c) (ht : 0 ≤ t ∧ t < m 16 0) (hg : GV N (G_X12_laysToken N m t 0) 60 m2) : RB m m2 ∧ ∃ c1 c2 m1, G_X12_laysToken N m t 0 = some m1 ∧ NetR c1 m1 (m 197 t) ∧ G_X4_ofCells N c (c 32 t) (m 197 t) = some c1 ∧ TR c1 m1 ∧ TM m m1 ∧ RN N c m1 (m 197 t) 60 c2 m2 := by
  obtain ⟨m1, g1, g2⟩ := hg
  obtain ⟨c1, c2, n1, n2, a1, a2, a3, a4, a5, a6, a7, a8, a9, a10, a11, a12, a13⟩ := lookT (t := t) (most := 60) hN (by omega) h hs ht
  have e3 : n1 = m1 := Option.some.inj (a3.symm.trans g1)
  subst e3
  have e4 : n2 = m2 := Option.some.inj (a4.1.symm.trans g2)
  subst e4
  exact ⟨a4.rb a10, c1, c2, n1, a3, a5, a1, a7, a10, a4⟩
theorem gvJ {t : Int} {m2 : IH} (hN : 20000 ≤ N) (h : TR c m) (hs : SL c) (ht : 0 ≤ t ∧ t + 1 < m 16 0) (h24 : m 197 t + m 197 (t + 1) ≤ 24) (hg : GV N (G_X12_laysToken N m t 1) 1 m2) : RB m m2 ∧ ∃ c1 c2 m1, G_X12_laysToken N m t 1 = some m1 ∧ NetR c1 m1 (m 197 t + m 197 (t + 1)) ∧ TM m m1 ∧ RN N c m1 (m 197 t + m 197 (t + 1)) 1 c2 m2 := by
  obtain ⟨m1, g1, g2⟩ := hg
  obtain ⟨c1, c2, n1, n2, a1, a2, a3, a4, a5, a6, a7, a8, a9, a10, a11, a12, a13⟩ := lookJ (t := t) (most := 1) hN (by omega) h hs ht h24
  have e3 : n1 = m1 := Option.some.inj (a3.symm.trans g1)
  subst e3
  have e4 : n2 = m2 := Option.some.inj (a4.1.symm.trans g2)
  subst e4
  exact ⟨a4.rb a10, c1, c2, n1, a3, a5, a10, a4⟩
theorem gvW {w : Int} {m2 : IH} (hN : 20000 ≤ N) (h : TR c m) (hs : SL c) (hw : 0 ≤ w ∧ w < m 0 10) (hg : GV N (G_X12_laysWord N m w) 60 m2) : RB m m2 ∧ ∃ c1 c2 m1, G_X12_laysWord N m w = some m1 ∧ NetR c1 m1 (m 5 w) ∧ TR c1 m1 ∧ TM m m1 ∧ RN N c m1 (m 5 w) 60 c2 m2 := by
  obtain ⟨m1, g1, g2⟩ := hg
  obtain ⟨c1, c2, n1, n2, a1, a2, a3, a4, a5, a6, a7, a8, a9, a10, a11, a12, a13⟩ := lookW (w := w) (most := 60) hN (by omega) h hs hw
  have e3 : n1 = m1 := Option.some.inj (a3.symm.trans g1)
  subst e3
  have e4 : n2 = m2 := Option.some.inj (a4.1.symm.trans g2)
  subst e4
  exact ⟨a4.rb a10, c1, c2, n1, a3, a5, a7, a10, a4⟩
/-- the j-th price, word, number opened -/
def pr (m2 : IH) (a j : Int) : Int := if 0 ≤ j ∧ j < m2 0 49 then m2 a j else -1
theorem priceOfS {r j : Int} {m2 : IH} (h : RWM c r m2) (hr : 0 ≤ r ∧ r < 140) : G_X0_priceOf N c r j = some (pr m2 34 j, c) := by
  obtain ⟨h1, h2, h3, h4⟩ := h
  unfold G_X0_priceOf pr
  by_cases c1 : j < 0
  · rw [if_pos c1, if_neg (by omega)]
  · rw [if_neg c1]
    (try simp (disch := omega) only [xlet_q, xq_in])
    by_cases c2 : m2 0 49 ≤ j
    · rw [if_pos (by omega), if_neg (by omega)]
    · rw [if_neg (by omega), if_pos (by omega)]
      (try simp (disch := omega) only [xlet_q, xq_in])
      rw [(h4 j (by omega) (by omega)).2.1]
theorem wordOfS {r j : Int} {m2 : IH} (h : RWM c r m2) (hr : 0 ≤ r ∧ r < 140) : G_X0_wordOf N c r j = some (pr m2 33 j, c) := by
  obtain ⟨h1, h2, h3, h4⟩ := h
  unfold G_X0_wordOf pr
  by_cases c1 : j < 0
  · rw [if_pos c1, if_neg (by omega)]
  · rw [if_neg c1]
    (try simp (disch := omega) only [xlet_q, xq_in])
    by_cases c2 : m2 0 49 ≤ j
    · rw [if_pos (by omega), if_neg (by omega)]
    · rw [if_neg (by omega), if_pos (by omega)]
      (try simp (disch := omega) only [xlet_q, xq_in])
      rw [(h4 j (by omega) (by omega)).1]
theorem openedS {r j : Int} {m2 : IH} (h : RWM c r m2) (hr : 0 ≤ r ∧ r < 140) : G_X0_openedFor N c r j = some (pr m2 35 j, c) := by
  obtain ⟨h1, h2, h3, h4⟩ := h
  unfold G_X0_openedFor pr
  by_cases c1 : j < 0
  · rw [if_pos c1, if_neg (by omega)]
  · rw [if_neg c1]
    (try simp (disch := omega) only [xlet_q, xq_in])
    by_cases c2 : m2 0 49 ≤ j
    · rw [if_pos (by omega), if_neg (by omega)]
    · rw [if_neg (by omega), if_pos (by omega)]
      (try simp (disch := omega) only [xlet_q, xq_in])
      rw [(h4 j (by omega) (by omega)).2.2]
/-- the price of n cells outside -/
def op (m : IH) (n : Int) : Int := m 3 0 + m 3 1 * n
theorem op_rng {n : Int} (h : KR c m) (hn : 0 ≤ n ∧ n ≤ 24) : 0 ≤ op m n ∧ op m n ≤ 3375 := by
  have h0 := h 0 (by omega) (by omega)
  have h1 := h 1 (by omega) (by omega)
  have h99 := h1.2.2.2 (by omega)
  unfold op
  have a : m 3 1 * n ≤ 99 * 24 := Int.mul_le_mul h99 hn.2 hn.1 (by omega)
  have b : 0 ≤ m 3 1 * n := Int.mul_nonneg h1.2.1 hn.1
  omega
theorem outsideS {t : Int} (h : TR c m) (ht : 0 ≤ t ∧ t < m 16 0) : G_X0_outsidePrice N c t = some (op m (m 197 t), c) := by
  have hK := h.2.2.2.2.1
  have hT := (h.2.2.2.2.2.1.2.2 t ht.1 ht.2).1
  have o := op_rng (n := m 197 t) hK (by omega)
  unfold G_X0_outsidePrice
  rw [cellsS h.2.2.2.2.2.1 ht, yb_s, (hK 0 (by omega) (by omega)).1, (hK 1 (by omega) (by omega)).1]
  unfold op at *
  rw [wr_in (by omega) (by omega)]
theorem outsideM {m1 : IH} {n : Int} (h : KR c m) (hm : TM m m1) (hn : 0 ≤ n ∧ n ≤ 24) (h33 : m1 0 33 = n) : G_X12_outside N m1 = some (op m n, m1) := by
  have o := op_rng (n := n) h hn
  unfold G_X12_outside
  rw [h33, hm 3 0 (by omega) (by omega) (by omega), hm 3 1 (by omega) (by omega) (by omega)]
  unfold op at *
  rw [wr_in (by omega) (by omega)]
/-- the j-th word, if it isn't dearer than outside -/
def wi (m2 : IH) (o j : Int) : Int := if 0 ≤ j ∧ j < m2 0 49 ∧ m2 34 j ≤ o then m2 33 j else -1
theorem insideS {t j : Int} {m2 : IH} (h : TR c m) (ht : 0 ≤ t ∧ t < m 16 0) (hR : RWM c t m2) : G_X0_wordInside N c t j = some (wi m2 (op m (m 197 t)) j, c) := by
  have h40 := h.2.2.2.2.2.1.1
  have hT := (h.2.2.2.2.2.1.2.2 t ht.1 ht.2).1
  have o := op_rng (n := m 197 t) h.2.2.2.2.1 (by omega)
  unfold G_X0_wordInside
  rw [priceOfS hR (by omega), yb_s, outsideS h ht, yb_s, wordOfS hR (by omega), yb_s]
  unfold pr wi
  by_cases c1 : 0 ≤ j ∧ j < m2 0 49
  · rw [if_pos c1, if_pos c1]
    by_cases c2 : m2 34 j ≤ op m (m 197 t)
    · rw [if_neg (by omega), if_pos ⟨c1.1, c1.2, c2⟩]
    · rw [if_pos (by omega), if_neg (fun q => c2 q.2.2)]
  · rw [if_neg c1, if_neg c1, if_neg (by omega), if_neg (fun q => c1 ⟨q.1, q.2.1⟩)]
theorem mendedWS {t : Int} {m2 : IH} (h : TR c m) (ht : 0 ≤ t ∧ t < m 16 0) (hR : RWM c t m2) : G_X0_mendedWord N c t = some (wi m2 (op m (m 197 t)) 0, c) := by
  unfold G_X0_mendedWord
  rw [insideS h ht hR, yb_s]
/-- the price of what is mended -/
def mp (m2 : IH) (o : Int) : Int := if wi m2 o 0 = -1 then o else m2 34 0
theorem wi_ne {m2 : IH} {o j : Int} (h : wi m2 o j ≠ -1) : 0 ≤ j ∧ j < m2 0 49 ∧ m2 34 j ≤ o ∧ wi m2 o j = m2 33 j := by
  unfold wi at *
  by_cases c1 : 0 ≤ j ∧ j < m2 0 49 ∧ m2 34 j ≤ o
  · rw [if_pos c1]
    exact ⟨c1.1, c1.2.1, c1.2.2, rfl⟩
  · rw [if_neg c1] at h
    exact absurd rfl h
theorem mendedPS {t : Int} {m2 : IH} (h : TR c m) (ht : 0 ≤ t ∧ t < m 16 0) (hR : RWM c t m2) : G_X0_mendedPrice N c t = some (mp m2 (op m (m 197 t)), c) := by
  have h40 := h.2.2.2.2.2.1.1
  unfold G_X0_mendedPrice mp
  rw [mendedWS h ht hR, yb_s]
  by_cases c1 : wi m2 (op m (m 197 t)) 0 = -1
  · rw [if_pos c1, if_pos c1, outsideS h ht, yb_s]
  · have q := wi_ne c1
    rw [if_neg c1, if_neg c1, priceOfS hR (by omega), yb_s]
    unfold pr
    rw [if_pos ⟨q.1, q.2.1⟩]
/-- how much more the next one costs -/
def nx (m2 : IH) (o : Int) : Int := if wi m2 o 0 = -1 then (if m2 0 49 ≤ 0 then -1 else m2 34 0 - o) else (if m2 0 49 ≤ 1 then o else min o (m2 34 1)) - m2 34 0
theorem nextS {t : Int} {m2 : IH} (h : TR c m) (ht : 0 ≤ t ∧ t < m 16 0) (hR : RWM c t m2) (hB : RB m m2) : G_X0_nextCostsMore N c t = some (nx m2 (op m (m 197 t)), c) := by
  have h40 := h.2.2.2.2.2.1.1
  have hT := (h.2.2.2.2.2.1.2.2 t ht.1 ht.2).1
  have o := op_rng (n := m 197 t) h.2.2.2.2.1 (by omega)
  have hb := hB.1
  unfold G_X0_nextCostsMore G_X0_nextCostsMore_61 nx
  rw [outsideS h ht, yb_s, xlet_q, mendedWS h ht hR, yb_s]
  by_cases c1 : wi m2 (op m (m 197 t)) 0 = -1
  · rw [if_pos c1, if_pos c1]
    (try simp (disch := omega) only [xlet_q, xq_in])
    rw [hR.1]
    by_cases c2 : m2 0 49 = 0
    · rw [if_pos c2, if_pos (by omega)]
    · have b := hB.2.1 0 (by omega) (by omega)
      rw [if_neg c2, if_neg (by omega), priceOfS hR (by omega), yb_s]
      unfold pr
      rw [if_pos (by omega), wr_in (by omega) (by omega)]
  · have q := wi_ne c1
    have b := hB.2.1 0 (by omega) (by omega)
    rw [if_neg c1, if_neg c1]
    (try simp (disch := omega) only [xlet_q, xq_in])
    rw [hR.1]
    by_cases c2 : m2 0 49 ≤ 1
    · rw [if_neg (by omega), if_pos c2, priceOfS hR (by omega), yb_s]
      unfold pr
      rw [if_pos (by omega), wr_in (by omega) (by omega)]
    · have b1 := hB.2.1 1 (by omega) (by omega)
      rw [if_pos (by omega), if_neg c2, priceOfS hR (by omega), yb_s, priceOfS hR (by omega), yb_s]
      unfold pr
      rw [if_pos (by omega), if_pos (by omega), wr_in (by omega) (by omega)]
/-- the reference mends a net that is laid -/
theorem mendsM {m1 m2 m3 : IH} {n k : Int} (hK : KR c m) (hm : TM m m1) (hn : 0 ≤ n ∧ n ≤ 24) (h33 : m1 0 33 = n) (h3 : G_X12_searches N m1 k = some m3) (hd : DM m1 m3) (hB : RB m m2) (hk : 1 ≤ k) (hp : m3 0 49 = min k (m2 0 49) ∧ ∀ j, j < m3 0 49 → m2 33 j = m3 33 j ∧ m2 34 j = m3 34 j ∧ m2 35 j = m3 35 j) : ∃ m', G_X12_mends N m1 k = some m' ∧ m' 0 50 = wi m2 (op m n) 0 ∧ m' 0 51 = mp m2 (op m n) ∧ (2 ≤ k → m' 0 52 = nx m2 (op m n)) ∧ (∀ a b, ¬ (a = 0 ∧ (b = 50 ∨ b = 51 ∨ b = 52)) → m' a b = m3 a b) := by
  have o := op_rng (n := n) hK hn
  have ho : G_X12_outside N m3 = some (op m n, m3) := outsideM hK (hm.tr hd.tm) hn (by rw [hd _ _ (by omega) (by omega)]; exact h33)
  have hb := hB.1
  unfold G_X12_mends G_X12_mends_37 G_X12_mends_38 G_X12_mends_60 G_X12_mends_91 G_X12_mends_120
  rw [h3, ybv_s, ho, yb_s, xlet_q]
  by_cases c0 : m2 0 49 ≤ 0
  · have w0 : wi m2 (op m n) 0 = -1 := by unfold wi; rw [if_neg (by omega)]
    rw [if_pos (by omega)]
    simp only [xlet_q]
    rw [if_pos (xv_eq rfl rfl), if_pos (by rw [xv_ne (by omega)]; exact xv_eq rfl rfl), if_pos (by rw [xv_ne (by omega), xv_ne (by omega)]; omega)]
    refine ⟨_, rfl, ?_, ?_, fun _ => ?_, fun a b q => ?_⟩
    · rw [xv_ne (by omega), xv_ne (by omega), xv_eq rfl rfl, w0]
    · unfold mp
      rw [if_pos w0, xv_ne (by omega), xv_eq rfl rfl]
    · unfold nx
      rw [if_pos w0, if_pos c0, xv_eq rfl rfl]
    · rw [xv_ne (by omega), xv_ne (by omega), xv_ne (by omega)]
  · have p0 := hp.2 0 (by omega)
    have b0 := hB.2.1 0 (by omega) (by omega)
    rw [if_neg (by omega), ← p0.2.1, ← p0.1]
    by_cases c1 : op m n < m2 34 0
    · have w0 : wi m2 (op m n) 0 = -1 := by unfold wi; rw [if_neg (by omega)]
      rw [if_pos c1]
      simp only [xlet_q]
      rw [if_pos (xv_eq rfl rfl), if_pos (by rw [xv_ne (by omega)]; exact xv_eq rfl rfl), if_neg (by rw [xv_ne (by omega), xv_ne (by omega)]; omega), xv_ne (show ¬ ((34 : Int) = 0 ∧ (0 : Int) = 51) by omega), xv_ne (show ¬ ((34 : Int) = 0 ∧ (0 : Int) = 50) by omega), ← p0.2.1, wr_in (by omega) (by omega)]
      refine ⟨_, rfl, ?_, ?_, fun _ => ?_, fun a b q => ?_⟩
      · rw [xv_ne (by omega), xv_ne (by omega), xv_eq rfl rfl, w0]
      · unfold mp
        rw [if_pos w0, xv_ne (by omega), xv_eq rfl rfl]
      · unfold nx
        rw [if_pos w0, if_neg c0, xv_eq rfl rfl]
      · rw [xv_ne (by omega), xv_ne (by omega), xv_ne (by omega)]
    · have w0 : wi m2 (op m n) 0 = m2 33 0 := by unfold wi; rw [if_pos (by omega)]
      rw [if_neg c1]
      simp only [xlet_q]
      have e50 : xv m3 0 50 (m2 33 0) 0 50 = m2 33 0 := xv_eq rfl rfl
      have e34 : ∀ j, xv m3 0 50 (m2 33 0) 34 j = m3 34 j := fun j => xv_ne (by omega)
      rw [e50, if_neg (by omega), e34, ← p0.2.1]
      have f50 : xv (xv m3 0 50 (m2 33 0)) 0 51 (m2 34 0) 0 50 = m2 33 0 := by rw [xv_ne (by omega)]; exact e50
      have f49 : xv (xv m3 0 50 (m2 33 0)) 0 51 (m2 34 0) 0 49 = m3 0 49 := by rw [xv_ne (by omega), xv_ne (by omega)]
      have f34 : ∀ j, xv (xv m3 0 50 (m2 33 0)) 0 51 (m2 34 0) 34 j = m3 34 j := fun j => by rw [xv_ne (by omega), xv_ne (by omega)]
      rw [f50, if_neg (by omega), f49, f34, f34, gless, yb_s, f34, ← p0.2.1]
      by_cases c2 : m3 0 49 ≤ 1
      · rw [if_pos c2, wr_in (by omega) (by omega)]
        refine ⟨_, rfl, ?_, ?_, fun k2 => ?_, fun a b q => ?_⟩
        · rw [xv_ne (by omega), f50, w0]
        · unfold mp
          rw [w0, if_neg (by omega), xv_ne (by omega), xv_eq rfl rfl]
        · unfold nx
          rw [w0, if_neg (by omega), if_pos (by omega), xv_eq rfl rfl]
        · rw [xv_ne (by omega), xv_ne (by omega), xv_ne (by omega)]
      · have p1 := hp.2 1 (by omega)
        have b1 := hB.2.1 1 (by omega) (by omega)
        rw [if_neg c2, ← p1.2.1, wr_in (by omega) (by omega)]
        refine ⟨_, rfl, ?_, ?_, fun k2 => ?_, fun a b q => ?_⟩
        · rw [xv_ne (by omega), f50, w0]
        · unfold mp
          rw [w0, if_neg (by omega), xv_ne (by omega), xv_eq rfl rfl]
        · unfold nx
          rw [w0, if_neg (by omega), if_neg (by omega), xv_eq rfl rfl, Int.min_comm]
        · rw [xv_ne (by omega), xv_ne (by omega), xv_ne (by omega)]
end
