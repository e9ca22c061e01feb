/-- the relation of the two machines' heaps -/
def RelN (N : Nat) (aC aM : AH) : Prop := ∃ c m : IH, aC = zh c ∧ aM = zh m ∧ HR c ∧ HR m ∧ R N c m
theorem zh_xv {h : IH} {e : Int} (k i : Nat) : xu (zh h) k i (zI e) = zh (xv h k i e) := by
  funext a b
  unfold xu zh xv
  by_cases q : a = k ∧ b = i
  · rw [if_pos q, if_pos (by omega)]
  · rw [if_neg q, if_neg (by omega)]
theorem zI0 : zI 0 = 0 := by decide
theorem zI1 : zI 1 = 1 := by decide
theorem zI2 : zI 2 = 2 := by decide
theorem cx_sim {N : Nat} {e1 e2 : Int} {g1 g2 : AH → Option (Int32 × AH)} {pc : Option YR} {fc : Option XR} {pm : Option (Int × IH)} {fm : Option (Int32 × AH)} (lc : LfX pc fc) (lm : LfI pm fm) (h : CX N e1 e2 pc pm) (k1 : e1 ≠ 0 → ∀ a, g1 a = some (zI e1, a)) (k2 : e2 ≠ 0 → ∀ a, g2 a = some (zI e2, a)) (n1 : e1 ≠ 0 → zI e1 ≠ 0) (n2 : e2 ≠ 0 → zI e2 ≠ 0) : ∃ (k r : Int32) (aC1 aM1 : AH), xbh fc (fun r a => xlet (xu a 91 0 r) (fun a1 => some (0, a1))) g1 g2 = some (k, aC1) ∧ fm = some (r, aM1) ∧ aM1 0 0 = k ∧ (k = 0 → aC1 91 0 = r) ∧ RelN N aC1 aM1 := by
  obtain ⟨k, r, c', r', m', hc, hm, hR, q⟩ := h
  obtain ⟨qc, hfc, x1, x2, x3⟩ := lc _ hc
  obtain ⟨qm, hfm, y1, y2, y3⟩ := lm _ hm
  subst x1
  subst y1
  rw [hfc, hfm]
  have m00 : zh m' 0 0 = zI (m' 0 0) := rfl
  rcases q with ⟨e, z, er⟩ | ⟨e, z, ez⟩ | ⟨e, z, ez⟩
  · subst e
    refine ⟨0, zI r', zh (xv c' 91 0 r), zh m', ?_, rfl, ?_, fun _ => ?_, xv c' 91 0 r, m', rfl, rfl, x3.wv x2, y3, hR.cn (fun a b z1 z2 => xv_ne (by omega))⟩
    · show xlet (xu (zh c') 91 0 (zI r)) (fun a1 => some ((0 : Int32), a1)) = _
      rw [zh_xv]
      rfl
    · rw [m00, z, zI0]
    · show zI (xv c' 91 0 r 91 0) = zI r'
      rw [xv_eq rfl rfl, er]
  · subst e
    refine ⟨zI e1, zI r', zh c', zh m', k1 ez _, rfl, by rw [m00, z], fun hz => absurd hz (n1 ez), c', m', rfl, rfl, x3, y3, hR⟩
  · subst e
    refine ⟨zI e2, zI r', zh c', zh m', k2 ez _, rfl, by rw [m00, z], fun hz => absurd hz (n2 ez), c', m', rfl, rfl, x3, y3, hR⟩
theorem cx_simL {N : Nat} {e1 e2 : Int} {g1 g2 : AH → Option (Int32 × AH)} {pc : Option YR} {fc : Option XR} {pm : Option (Int × IH)} {fm : Option (Int32 × AH)} (lc : LfX pc fc) (lm : LfI pm fm) (h : CX N e1 e2 pc pm) (k1 : e1 ≠ 0 → ∀ a, g1 a = some (zI e1, a)) (k2 : e2 ≠ 0 → ∀ a, g2 a = some (zI e2, a)) (n1 : e1 ≠ 0 → zI e1 ≠ 0) (n2 : e2 ≠ 0 → zI e2 ≠ 0) : ∃ (k r : Int32) (aC1 aM1 : AH), xbh fc (fun r a => if r = 0 then xlet (xu a 91 0 0) (fun a1 => some (0, a1)) else xlet (xu a 91 0 1) (fun a1 => some (0, a1))) g1 g2 = some (k, aC1) ∧ fm = some (r, aM1) ∧ aM1 0 0 = k ∧ (k = 0 → aC1 91 0 = if r = 0 then 0 else 1) ∧ RelN N aC1 aM1 := by
  obtain ⟨k, r, c', r', m', hc, hm, hR, q⟩ := h
  obtain ⟨qc, hfc, x1, x2, x3⟩ := lc _ hc
  obtain ⟨qm, hfm, y1, y2, y3⟩ := lm _ hm
  subst x1
  subst y1
  rw [hfc, hfm]
  have m00 : zh m' 0 0 = zI (m' 0 0) := rfl
  rcases q with ⟨e, z, er⟩ | ⟨e, z, ez⟩ | ⟨e, z, ez⟩
  · subst e
    subst er
    by_cases r0 : zI r = 0
    · refine ⟨0, zI r, zh (xv c' 91 0 0), zh m', ?_, rfl, ?_, fun _ => ?_, xv c' 91 0 0, m', rfl, rfl, x3.wv (by unfold zR; omega), y3, hR.cn (fun a b z1 z2 => xv_ne (by omega))⟩
      · show (if zI r = 0 then xlet (xu (zh c') 91 0 0) (fun a1 => some ((0 : Int32), a1)) else xlet (xu (zh c') 91 0 1) (fun a1 => some ((0 : Int32), a1))) = _
        rw [if_pos r0, ← zI0, zh_xv]
        rfl
      · rw [m00, z, zI0]
      · show zI (xv c' 91 0 0 91 0) = if zI r = 0 then 0 else 1
        rw [xv_eq rfl rfl, if_pos r0, zI0]
    · refine ⟨0, zI r, zh (xv c' 91 0 1), zh m', ?_, rfl, ?_, fun _ => ?_, xv c' 91 0 1, m', rfl, rfl, x3.wv (by unfold zR; omega), y3, hR.cn (fun a b z1 z2 => xv_ne (by omega))⟩
      · show (if zI r = 0 then xlet (xu (zh c') 91 0 0) (fun a1 => some ((0 : Int32), a1)) else xlet (xu (zh c') 91 0 1) (fun a1 => some ((0 : Int32), a1))) = _
        rw [if_neg r0, ← zI1, zh_xv]
        rfl
      · rw [m00, z, zI0]
      · show zI (xv c' 91 0 1 91 0) = if zI r = 0 then 0 else 1
        rw [xv_eq rfl rfl, if_neg r0, zI1]
  · subst e
    refine ⟨zI e1, zI r', zh c', zh m', k1 ez _, rfl, by rw [m00, z], fun hz => absurd hz (n1 ez), c', m', rfl, rfl, x3, y3, hR⟩
  · subst e
    refine ⟨zI e2, zI r', zh c', zh m', k2 ez _, rfl, by rw [m00, z], fun hz => absurd hz (n2 ez), c', m', rfl, rfl, x3, y3, hR⟩
theorem cn_sim {N : Nat} {pc pm : Option (Int × IH)} {fc fm : Option (Int32 × AH)} (lc : LfI pc fc) (lm : LfI pm fm) (h : CN N pc pm) : ∃ (r : Int32) (aC1 aM1 : AH), fc = some (r, aC1) ∧ fm = some (r, aM1) ∧ RelN N aC1 aM1 := by
  obtain ⟨r, c', m', hc, hm, hR⟩ := h
  obtain ⟨qc, hfc, x1, x2, x3⟩ := lc _ hc
  obtain ⟨qm, hfm, y1, y2, y3⟩ := lm _ hm
  subst x1
  subst y1
  exact ⟨zI r, zh c', zh m', hfc, hfm, c', m', rfl, rfl, x3, y3, hR⟩
theorem nz0 : (0 : Int) ≠ 0 → zI 0 ≠ 0 := fun h => absurd rfl h
theorem nz1 : (1 : Int) ≠ 0 → zI 1 ≠ 0 := fun _ => by decide
theorem nz2 : (2 : Int) ≠ 0 → zI 2 ≠ 0 := fun _ => by decide
theorem kz0 {g : AH → Option (Int32 × AH)} : (0 : Int) ≠ 0 → ∀ a, g a = some (zI 0, a) := fun h => absurd rfl h
theorem kz1 : (1 : Int) ≠ 0 → ∀ a : AH, (fun a => some ((1 : Int32), a)) a = some (zI 1, a) := fun _ a => by rw [zI1]
theorem kz2 : (2 : Int) ≠ 0 → ∀ a : AH, (fun a => some ((2 : Int32), a)) a = some (zI 2, a) := fun _ a => by rw [zI2]
section
variable {N : Nat}
theorem sim_feed (hN : 20000 ≤ N) : Sim_feed N (RelN N) := by
  intro aC aM ⟨c, m, e1, e2, h1, h2, h⟩ p1 p2 p3 p4 p5
  subst e1
  subst e2
  have l1 := l_X11_feed (N := N) h1 (zR_of p1) (zR_of p2) (zR_of p3) (zR_of p4) (zR_of p5)
  have l2 := l_X12_feed (N := N) h2 (zR_of p1) (zR_of p2) (zR_of p3) (zR_of p4) (zR_of p5)
  rw [zI_of, zI_of, zI_of, zI_of, zI_of] at l1 l2
  exact cn_sim l1 l2 (S_feed hN h)
theorem sim_lexicon (hN : 20000 ≤ N) : Sim_lexicon N (RelN N) := by
  intro aC aM ⟨c, m, e1, e2, h1, h2, h⟩ p1
  subst e1
  subst e2
  have l1 := l_X11_lexicon (N := N) h1 (zR_of p1)
  have l2 := l_X12_lexicon (N := N) h2 (zR_of p1)
  rw [zI_of] at l1 l2
  exact cx_sim l1 l2 (S_lexicon hN h) kz0 kz1 nz0 nz1
theorem sim_shapes (hN : 20000 ≤ N) : Sim_shapes N (RelN N) := by
  intro aC aM ⟨c, m, e1, e2, h1, h2, h⟩ p1
  subst e1
  subst e2
  have l1 := l_X11_shapes (N := N) h1 (zR_of p1)
  have l2 := l_X12_shapes (N := N) h2 (zR_of p1)
  rw [zI_of] at l1 l2
  exact cx_sim l1 l2 (S_shapes hN h) kz0 kz1 nz0 nz1
theorem sim_reading (hN : 20000 ≤ N) : Sim_reading N (RelN N) := by
  intro aC aM ⟨c, m, e1, e2, h1, h2, h⟩ p1
  subst e1
  subst e2
  have l1 := l_X11_reading (N := N) h1 (zR_of p1)
  have l2 := l_X12_reading (N := N) h2 (zR_of p1)
  rw [zI_of] at l1 l2
  exact cx_sim l1 l2 (S_reading hN h) kz0 kz1 nz0 nz1
theorem sim_fault (hN : 20000 ≤ N) : Sim_fault N (RelN N) := by
  intro aC aM ⟨c, m, e1, e2, h1, h2, h⟩
  subst e1
  subst e2
  have l1 := l_X11_fault (N := N) h1 
  have l2 := l_X12_fault (N := N) h2 
  exact cn_sim l1 l2 (S_fault hN h)
theorem sim_follows (hN : 20000 ≤ N) : Sim_follows N (RelN N) := by
  intro aC aM ⟨c, m, e1, e2, h1, h2, h⟩ p1
  subst e1
  subst e2
  have l1 := l_X11_follows (N := N) h1 (zR_of p1)
  have l2 := l_X12_follows (N := N) h2 (zR_of p1)
  rw [zI_of] at l1 l2
  exact cx_sim l1 l2 (S_follows hN h) kz0 kz1 nz0 nz1
theorem sim_forget (hN : 20000 ≤ N) : Sim_forget N (RelN N) := by
  intro aC aM ⟨c, m, e1, e2, h1, h2, h⟩
  subst e1
  subst e2
  have l1 := l_X11_forget (N := N) h1 
  have l2 := l_X12_forget (N := N) h2 
  exact cn_sim l1 l2 (S_forget hN h)
theorem sim_set (hN : 20000 ≤ N) : Sim_set N (RelN N) := by
  intro aC aM ⟨c, m, e1, e2, h1, h2, h⟩ p1 p2
  subst e1
  subst e2
  have l1 := l_X11_set (N := N) h1 (zR_of p1) (zR_of p2)
  have l2 := l_X12_set (N := N) h2 (zR_of p1) (zR_of p2)
  rw [zI_of, zI_of] at l1 l2
  exact cx_sim l1 l2 (S_set hN h) kz0 kz1 nz0 nz1
theorem sim_weigh (hN : 20000 ≤ N) : Sim_weigh N (RelN N) := by
  intro aC aM ⟨c, m, e1, e2, h1, h2, h⟩ p1 p2
  subst e1
  subst e2
  have l1 := l_X11_weigh (N := N) h1 (zR_of p1) (zR_of p2)
  have l2 := l_X12_weigh (N := N) h2 (zR_of p1) (zR_of p2)
  rw [zI_of, zI_of] at l1 l2
  exact cx_sim l1 l2 (S_weigh hN h) kz1 kz2 nz1 nz2
theorem sim_learn (hN : 20000 ≤ N) : Sim_learn N (RelN N) := by
  intro aC aM ⟨c, m, e1, e2, h1, h2, h⟩ p1
  subst e1
  subst e2
  have l1 := l_X11_learn (N := N) h1 (zR_of p1)
  have l2 := l_X12_learn (N := N) h2 (zR_of p1)
  rw [zI_of] at l1 l2
  exact cx_sim l1 l2 (S_learn hN h) kz1 kz0 nz1 nz0
theorem sim_told (hN : 20000 ≤ N) : Sim_told N (RelN N) := by
  intro aC aM ⟨c, m, e1, e2, h1, h2, h⟩ p1
  subst e1
  subst e2
  have l1 := l_X11_told (N := N) h1 (zR_of p1)
  have l2 := l_X12_told (N := N) h2 (zR_of p1)
  rw [zI_of] at l1 l2
  exact cx_sim l1 l2 (S_told hN h) kz0 kz1 nz0 nz1
theorem sim_word (hN : 20000 ≤ N) : Sim_word N (RelN N) := by
  intro aC aM ⟨c, m, e1, e2, h1, h2, h⟩ p1 p2
  subst e1
  subst e2
  have l1 := l_X11_word (N := N) h1 (zR_of p1) (zR_of p2)
  have l2 := l_X12_word (N := N) h2 (zR_of p1) (zR_of p2)
  rw [zI_of, zI_of] at l1 l2
  exact cx_sim l1 l2 (S_word hN h) kz1 kz2 nz1 nz2
theorem sim_sign (hN : 20000 ≤ N) : Sim_sign N (RelN N) := by
  intro aC aM ⟨c, m, e1, e2, h1, h2, h⟩ p1 p2
  subst e1
  subst e2
  have l1 := l_X11_sign (N := N) h1 (zR_of p1) (zR_of p2)
  have l2 := l_X12_sign (N := N) h2 (zR_of p1) (zR_of p2)
  rw [zI_of, zI_of] at l1 l2
  exact cx_sim l1 l2 (S_sign hN h) kz1 kz0 nz1 nz0
theorem sim_find (hN : 20000 ≤ N) : Sim_find N (RelN N) := by
  intro aC aM ⟨c, m, e1, e2, h1, h2, h⟩ p1
  subst e1
  subst e2
  have l1 := l_X11_find (N := N) h1 (zR_of p1)
  have l2 := l_X12_find (N := N) h2 (zR_of p1)
  rw [zI_of] at l1 l2
  exact cx_sim l1 l2 (S_find hN h) kz0 kz1 nz0 nz1
theorem sim_node (hN : 20000 ≤ N) : Sim_node N (RelN N) := by
  intro aC aM ⟨c, m, e1, e2, h1, h2, h⟩ p1 p2
  subst e1
  subst e2
  have l1 := l_X11_node (N := N) h1 (zR_of p1) (zR_of p2)
  have l2 := l_X12_node (N := N) h2 (zR_of p1) (zR_of p2)
  rw [zI_of, zI_of] at l1 l2
  exact cx_sim l1 l2 (S_node hN h) kz1 kz2 nz1 nz2
theorem sim_child (hN : 20000 ≤ N) : Sim_child N (RelN N) := by
  intro aC aM ⟨c, m, e1, e2, h1, h2, h⟩ p1 p2
  subst e1
  subst e2
  have l1 := l_X11_child (N := N) h1 (zR_of p1) (zR_of p2)
  have l2 := l_X12_child (N := N) h2 (zR_of p1) (zR_of p2)
  rw [zI_of, zI_of] at l1 l2
  exact cx_sim l1 l2 (S_child hN h) kz1 kz0 nz1 nz0
theorem sim_shape (hN : 20000 ≤ N) : Sim_shape N (RelN N) := by
  intro aC aM ⟨c, m, e1, e2, h1, h2, h⟩ p1 p2
  subst e1
  subst e2
  have l1 := l_X11_shape (N := N) h1 (zR_of p1) (zR_of p2)
  have l2 := l_X12_shape (N := N) h2 (zR_of p1) (zR_of p2)
  rw [zI_of, zI_of] at l1 l2
  exact cx_sim l1 l2 (S_shape hN h) kz1 kz2 nz1 nz2
theorem sim_token (hN : 20000 ≤ N) : Sim_token N (RelN N) := by
  intro aC aM ⟨c, m, e1, e2, h1, h2, h⟩ p1 p2
  subst e1
  subst e2
  have l1 := l_X11_token (N := N) h1 (zR_of p1) (zR_of p2)
  have l2 := l_X12_token (N := N) h2 (zR_of p1) (zR_of p2)
  rw [zI_of, zI_of] at l1 l2
  exact cx_sim l1 l2 (S_token hN h) kz1 kz2 nz1 nz2
theorem sim_cell (hN : 20000 ≤ N) : Sim_cell N (RelN N) := by
  intro aC aM ⟨c, m, e1, e2, h1, h2, h⟩ p1 p2 p3
  subst e1
  subst e2
  have l1 := l_X11_cell (N := N) h1 (zR_of p1) (zR_of p2) (zR_of p3)
  have l2 := l_X12_cell (N := N) h2 (zR_of p1) (zR_of p2) (zR_of p3)
  rw [zI_of, zI_of, zI_of] at l1 l2
  exact cx_sim l1 l2 (S_cell hN h) kz1 kz2 nz1 nz2
theorem sim_rest (hN : 20000 ≤ N) : Sim_rest N (RelN N) := by
  intro aC aM ⟨c, m, e1, e2, h1, h2, h⟩ p1 p2
  subst e1
  subst e2
  have l1 := l_X11_rest (N := N) h1 (zR_of p1) (zR_of p2)
  have l2 := l_X12_rest (N := N) h2 (zR_of p1) (zR_of p2)
  rw [zI_of, zI_of] at l1 l2
  exact cx_sim l1 l2 (S_rest hN h) kz1 kz0 nz1 nz0
theorem sim_best (hN : 20000 ≤ N) : Sim_best N (RelN N) := by
  intro aC aM ⟨c, m, e1, e2, h1, h2, h⟩ p1 p2 p3
  subst e1
  subst e2
  have l1 := l_X11_best (N := N) h1 (zR_of p1) (zR_of p2) (zR_of p3)
  have l2 := l_X12_best (N := N) h2 (zR_of p1) (zR_of p2) (zR_of p3)
  rw [zI_of, zI_of, zI_of] at l1 l2
  exact cx_sim l1 l2 (S_best hN h) kz1 kz2 nz1 nz2
theorem sim_price (hN : 20000 ≤ N) : Sim_price N (RelN N) := by
  intro aC aM ⟨c, m, e1, e2, h1, h2, h⟩ p1 p2
  subst e1
  subst e2
  have l1 := l_X11_price (N := N) h1 (zR_of p1) (zR_of p2)
  have l2 := l_X12_price (N := N) h2 (zR_of p1) (zR_of p2)
  rw [zI_of, zI_of] at l1 l2
  exact cx_sim l1 l2 (S_price hN h) kz1 kz0 nz1 nz0
theorem sim_within (hN : 20000 ≤ N) : Sim_within N (RelN N) := by
  intro aC aM ⟨c, m, e1, e2, h1, h2, h⟩ p1 p2
  subst e1
  subst e2
  have l1 := l_X11_within (N := N) h1 (zR_of p1) (zR_of p2)
  have l2 := l_X12_within (N := N) h2 (zR_of p1) (zR_of p2)
  rw [zI_of, zI_of] at l1 l2
  exact cx_sim l1 l2 (S_within hN h) kz1 kz2 nz1 nz2
theorem sim_mended (hN : 20000 ≤ N) : Sim_mended N (RelN N) := by
  intro aC aM ⟨c, m, e1, e2, h1, h2, h⟩ p1 p2
  subst e1
  subst e2
  have l1 := l_X11_mended (N := N) h1 (zR_of p1) (zR_of p2)
  have l2 := l_X12_mended (N := N) h2 (zR_of p1) (zR_of p2)
  rw [zI_of, zI_of] at l1 l2
  exact cx_sim l1 l2 (S_mended hN h) kz1 kz2 nz1 nz2
theorem sim_text (hN : 20000 ≤ N) : Sim_text N (RelN N) := by
  intro aC aM ⟨c, m, e1, e2, h1, h2, h⟩ p1
  subst e1
  subst e2
  have l1 := l_X11_text (N := N) h1 (zR_of p1)
  have l2 := l_X12_text (N := N) h2 (zR_of p1)
  rw [zI_of] at l1 l2
  exact cx_sim l1 l2 (S_text hN h) kz0 kz1 nz0 nz1
theorem sim_at (hN : 20000 ≤ N) : Sim_at N (RelN N) := by
  intro aC aM ⟨c, m, e1, e2, h1, h2, h⟩ p1
  subst e1
  subst e2
  have l1 := l_X11_at (N := N) h1 (zR_of p1)
  have l2 := l_X12_at (N := N) h2 (zR_of p1)
  rw [zI_of] at l1 l2
  exact cn_sim l1 l2 (S_at hN h)
theorem sim_lost (hN : 20000 ≤ N) : Sim_lost N (RelN N) := by
  intro aC aM ⟨c, m, e1, e2, h1, h2, h⟩ p1 p2
  subst e1
  subst e2
  have l1 := l_X11_lost (N := N) h1 (zR_of p1) (zR_of p2)
  have l2 := l_X12_lost (N := N) h2 (zR_of p1) (zR_of p2)
  rw [zI_of, zI_of] at l1 l2
  exact cx_simL l1 l2 (S_lost hN h) kz1 kz2 nz1 nz2
theorem sim_way (hN : 20000 ≤ N) : Sim_way N (RelN N) := by
  intro aC aM ⟨c, m, e1, e2, h1, h2, h⟩ p1 p2
  subst e1
  subst e2
  have l1 := l_X11_way (N := N) h1 (zR_of p1) (zR_of p2)
  have l2 := l_X12_way (N := N) h2 (zR_of p1) (zR_of p2)
  rw [zI_of, zI_of] at l1 l2
  exact cx_sim l1 l2 (S_way hN h) kz1 kz2 nz1 nz2
theorem sim_edge (hN : 20000 ≤ N) : Sim_edge N (RelN N) := by
  intro aC aM ⟨c, m, e1, e2, h1, h2, h⟩ p1 p2 p3
  subst e1
  subst e2
  have l1 := l_X11_edge (N := N) h1 (zR_of p1) (zR_of p2) (zR_of p3)
  have l2 := l_X12_edge_ (N := N) h2 (zR_of p1) (zR_of p2) (zR_of p3)
  rw [zI_of, zI_of, zI_of] at l1 l2
  exact cx_sim l1 l2 (S_edge hN h) kz1 kz2 nz1 nz2
theorem sim_used (hN : 20000 ≤ N) : Sim_used N (RelN N) := by
  intro aC aM ⟨c, m, e1, e2, h1, h2, h⟩ p1
  subst e1
  subst e2
  have l1 := l_X11_used (N := N) h1 (zR_of p1)
  have l2 := l_X12_used (N := N) h2 (zR_of p1)
  rw [zI_of] at l1 l2
  exact cx_sim l1 l2 (S_used hN h) kz1 kz0 nz1 nz0
theorem sim_dear (hN : 20000 ≤ N) : Sim_dear N (RelN N) := by
  intro aC aM ⟨c, m, e1, e2, h1, h2, h⟩ p1 p2
  subst e1
  subst e2
  have l1 := l_X11_dear (N := N) h1 (zR_of p1) (zR_of p2)
  have l2 := l_X12_dear (N := N) h2 (zR_of p1) (zR_of p2)
  rw [zI_of, zI_of] at l1 l2
  exact cx_sim l1 l2 (S_dear hN h) kz1 kz0 nz1 nz0
theorem sim_sentence (hN : 20000 ≤ N) : Sim_sentence N (RelN N) := by
  intro aC aM ⟨c, m, e1, e2, h1, h2, h⟩ p1
  subst e1
  subst e2
  have l1 := l_X11_sentence (N := N) h1 (zR_of p1)
  have l2 := l_X12_sentence (N := N) h2 (zR_of p1)
  rw [zI_of] at l1 l2
  exact cx_sim l1 l2 (S_sentence hN h) kz0 kz1 nz0 nz1
theorem sim_said (hN : 20000 ≤ N) : Sim_said N (RelN N) := by
  intro aC aM ⟨c, m, e1, e2, h1, h2, h⟩ p1
  subst e1
  subst e2
  have l1 := l_X11_said (N := N) h1 (zR_of p1)
  have l2 := l_X12_said (N := N) h2 (zR_of p1)
  rw [zI_of] at l1 l2
  exact cx_sim l1 l2 (S_said hN h) kz1 kz0 nz1 nz0
theorem sim_apart (hN : 20000 ≤ N) : Sim_apart N (RelN N) := by
  intro aC aM ⟨c, m, e1, e2, h1, h2, h⟩ p1 p2
  subst e1
  subst e2
  have l1 := l_X11_apart (N := N) h1 (zR_of p1) (zR_of p2)
  have l2 := l_X12_apart (N := N) h2 (zR_of p1) (zR_of p2)
  rw [zI_of, zI_of] at l1 l2
  exact cx_sim l1 l2 (S_apart hN h) kz1 kz0 nz1 nz0
theorem sim_twin (hN : 20000 ≤ N) : Sim_twin N (RelN N) := by
  intro aC aM ⟨c, m, e1, e2, h1, h2, h⟩ p1 p2
  subst e1
  subst e2
  have l1 := l_X11_twin (N := N) h1 (zR_of p1) (zR_of p2)
  have l2 := l_X12_twin (N := N) h2 (zR_of p1) (zR_of p2)
  rw [zI_of, zI_of] at l1 l2
  exact cx_sim l1 l2 (S_twin hN h) kz1 kz2 nz1 nz2
theorem sim_twins (hN : 20000 ≤ N) : Sim_twins N (RelN N) := by
  intro aC aM ⟨c, m, e1, e2, h1, h2, h⟩ p1
  subst e1
  subst e2
  have l1 := l_X11_twins (N := N) h1 (zR_of p1)
  have l2 := l_X12_twins (N := N) h2 (zR_of p1)
  rw [zI_of] at l1 l2
  exact cx_sim l1 l2 (S_twins hN h) kz0 kz1 nz0 nz1
theorem sim_status (hN : 20000 ≤ N) : Sim_status N (RelN N) := by
  intro aC aM ⟨c, m, e1, e2, h1, h2, h⟩ p1
  subst e1
  subst e2
  have l1 := l_X11_status (N := N) h1 (zR_of p1)
  have l2 := l_X12_status (N := N) h2 (zR_of p1)
  rw [zI_of] at l1 l2
  exact cn_sim l1 l2 (S_status hN h)
theorem sim_all (hN : 20000 ≤ N) : SimAll N (RelN N) := ⟨sim_feed hN, sim_lexicon hN, sim_shapes hN, sim_reading hN, sim_fault hN, sim_follows hN, sim_forget hN, sim_set hN, sim_weigh hN, sim_learn hN, sim_told hN, sim_word hN, sim_sign hN, sim_find hN, sim_node hN, sim_child hN, sim_shape hN, sim_token hN, sim_cell hN, sim_rest hN, sim_best hN, sim_price hN, sim_within hN, sim_mended hN, sim_text hN, sim_at hN, sim_lost hN, sim_way hN, sim_edge hN, sim_used hN, sim_dear hN, sim_sentence hN, sim_said hN, sim_apart hN, sim_twin hN, sim_twins hN, sim_status hN⟩
end
