theorem byt_sh {v : Int32} {r : Nat} (hr : r < 4) : (v >>> (zI (24 - 8 * r) &&& 31)) &&& 255 = byt v r := by
  unfold byt xushr
  apply Int32.toBitVec_inj.mp
  have h255 : ∀ i : Nat, i < 32 → (255 : Int32).toBitVec.getLsbD i = decide (i < 8) := by decide
  apply BitVec.eq_of_getLsbD_eq
  intro i hi
  by_cases h8 : i < 8
  · match r, hr with
    | 0, _ => simp only [Int32.toBitVec_and, BitVec.getLsbD_and, h255 i hi]; simp [h8, Int32.toBitVec_shiftRight, BitVec.getLsbD_sshiftRight, zI, show ¬ 32 ≤ i by omega, show 24 + i < 32 by omega]
    | 1, _ => simp only [Int32.toBitVec_and, BitVec.getLsbD_and, h255 i hi]; simp [h8, Int32.toBitVec_shiftRight, BitVec.getLsbD_sshiftRight, zI, show ¬ 32 ≤ i by omega, show 16 + i < 32 by omega]
    | 2, _ => simp only [Int32.toBitVec_and, BitVec.getLsbD_and, h255 i hi]; simp [h8, Int32.toBitVec_shiftRight, BitVec.getLsbD_sshiftRight, zI, show ¬ 32 ≤ i by omega, show 8 + i < 32 by omega]
    | 3, _ => simp only [Int32.toBitVec_and, BitVec.getLsbD_and, h255 i hi]; simp [h8, Int32.toBitVec_shiftRight, BitVec.getLsbD_sshiftRight, zI, show ¬ 32 ≤ i by omega]
  · simp only [Int32.toBitVec_and, BitVec.getLsbD_and, h255 i hi]
    simp [h8]
/-- a byte lies between 0 and 255 -/
theorem byt_rng (v : Int32) (r : Nat) : ∃ z : Nat, z < 256 ∧ byt v r = zI z := by
  unfold byt
  generalize xushr v (zI (24 - 8 * r)) = x
  refine ⟨(x &&& 255).toBitVec.toNat, ?_, ?_⟩
  · rw [Int32.toBitVec_and, BitVec.toNat_and]
    exact Nat.lt_of_le_of_lt Nat.and_le_right (by decide)
  · apply Int32.toBitVec_inj.mp
    unfold zI
    rw [Int32.toBitVec_ofInt]
    simp
def fedB (p1 p2 p3 p4 p5 : Int32) (i : Nat) : Int32 := byt (if i < 4 then p1 else if i < 8 then p2 else if i < 12 then p3 else if i < 16 then p4 else p5) (i % 4)
theorem feedC {N T : Nat} {ah : AH} {p1 p2 p3 p4 p5 : Int32} (hN : 5 ≤ N) (hT : T + 20 ≤ 400) (h1 : ah 2 1 = zI T) : wo (F_X11_feed N ah p1 p2 p3 p4 p5) (fun q => q.1 = zI (T + 20 : Nat) ∧ q.2 2 1 = zI (T + 20 : Nat) ∧ ∀ j, q.2 3 j = if T ≤ j ∧ j < T + 20 then fedB p1 p2 p3 p4 p5 (j - T) else ah 3 j) := by
  unfold F_X11_feed
  rw [if_pos ((z_le h1 (show (380 : Int32) = zI 380 from rfl) (by unfold zR; omega) (by unfold zR; omega)).mpr (by omega))]
  refine wo_bv (add_spec (T := T) hN (by omega) h1) (fun a1 h2 => ?_)
  refine wo_bv (add_spec (T := T + 4) hN (by omega) h2.1) (fun a2 h3 => ?_)
  refine wo_bv (add_spec (T := T + 4 + 4) hN (by omega) h3.1) (fun a3 h4 => ?_)
  refine wo_bv (add_spec (T := T + 4 + 4 + 4) hN (by omega) h4.1) (fun a4 h5 => ?_)
  refine wo_bv (add_spec (T := T + 4 + 4 + 4 + 4) hN (by omega) h5.1) (fun a5 h6 => ?_)
  refine wo_some ⟨h6.1, h6.1, fun j => ?_⟩
  show a5 3 j = _
  rw [h6.2 j, h5.2 j, h4.2 j, h3.2 j, h2.2 j]
  unfold fedB
  by_cases c0 : T ≤ j ∧ j < T + 20
  · rw [if_pos c0]
    by_cases c5 : T + 16 ≤ j
    · rw [if_pos (by omega), if_neg (by omega), if_neg (by omega), if_neg (by omega), if_neg (by omega)]
      congr 1; omega
    · rw [if_neg (by omega)]
      by_cases c4 : T + 12 ≤ j
      · rw [if_pos (by omega), if_neg (by omega), if_neg (by omega), if_neg (by omega), if_pos (by omega)]
        congr 1; omega
      · rw [if_neg (by omega)]
        by_cases c3 : T + 8 ≤ j
        · rw [if_pos (by omega), if_neg (by omega), if_neg (by omega), if_pos (by omega)]
          congr 1; omega
        · rw [if_neg (by omega)]
          by_cases c2 : T + 4 ≤ j
          · rw [if_pos (by omega), if_neg (by omega), if_pos (by omega)]
            congr 1; omega
          · rw [if_neg (by omega), if_pos (by omega), if_pos (by omega)]
            congr 1; omega
  · rw [if_neg c0, if_neg (by omega), if_neg (by omega), if_neg (by omega), if_neg (by omega), if_neg (by omega)]
theorem feed_shift {k : Nat} (hk : k < 20) : (24 - 8 * (zI k - zI k / 4 * 4) : Int32) = zI (24 - 8 * (k % 4 : Nat)) := by
  rw [show (4 : Int32) = zI 4 from rfl, zI_div (by unfold zR; omega) (by unfold zR; omega) (by omega) (by omega), zI_mul, zI_sub, show (8 : Int32) = zI 8 from rfl, zI_mul, show (24 : Int32) = zI 24 from rfl, zI_sub]
  congr 1
  omega
theorem feed23 {N : Nat} {p1 p2 p3 p4 p5 : Int32} : ∀ (n k T : Nat) (ah : AH), k ≤ 20 → 20 - k < n → T + 20 ≤ 400 → ah 0 2 = zI (T + k : Nat) → wo (F_X12_feed_23 N n ah p1 p2 p3 p4 p5 (zI k)) (fun q => q.1 = zI (T + 20 : Nat) ∧ q.2 0 2 = zI (T + 20 : Nat) ∧ ∀ j, q.2 2 j = if T + k ≤ j ∧ j < T + 20 then fedB p1 p2 p3 p4 p5 (j - T) else ah 2 j) := by
  intro n
  induction n with
  | zero => intro k T ah _ h; omega
  | succ n ih =>
    intro k T ah hk hn hT h1
    have key : ∀ v : Int32, k < 20 → v = (if k < 4 then p1 else if k < 8 then p2 else if k < 12 then p3 else if k < 16 then p4 else p5) → wo (F_X12_feed_76 N (F_X12_feed_23 N n) ah p1 p2 p3 p4 p5 (zI k) v) (fun q => q.1 = zI (T + 20 : Nat) ∧ q.2 0 2 = zI (T + 20 : Nat) ∧ ∀ j, q.2 2 j = if T + k ≤ j ∧ j < T + 20 then fedB p1 p2 p3 p4 p5 (j - T) else ah 2 j) := by
      intro v hk2 hv
      unfold F_X12_feed_76
      refine wo_let (wo_z (by decide) ?_)
      refine wo_gx h1 (by omega) (by omega) (by omega) ?_
      rw [z_nat h1 (by unfold zR; omega)]
      refine wo_let (wo_let (wo_let ?_))
      rw [show zI (k : Nat) + 1 = zI ((k + 1 : Nat) : Int) by rw [show (1 : Int32) = zI 1 from rfl, zI_add]; congr 1]
      refine (ih (k + 1) T _ (by omega) (by omega) hT ?_).mono (fun q hq => ⟨hq.1, hq.2.1, fun j => ?_⟩)
      · show xu ah 2 _ _ 0 2 + 1 = _
        rw [xu_ne (by omega), h1, show (1 : Int32) = zI 1 from rfl, zI_add]
        congr 1
      · rw [hq.2.2 j]
        by_cases hj : T + (k + 1) ≤ j ∧ j < T + 20
        · rw [if_pos hj, if_pos (by omega)]
        · rw [if_neg hj, xu_at, if_neg (by omega), xu_at]
          by_cases hj2 : j = T + k
          · subst hj2
            rw [if_pos (by omega), if_pos (by omega), feed_shift hk2, byt_sh (Nat.mod_lt _ (by omega)), hv]
            unfold fedB
            rw [show T + k - T = k by omega]
          · rw [if_neg (by omega), if_neg (by omega)]
    unfold F_X12_feed_23
    by_cases h20 : k = 20
    · subst h20
      rw [if_pos (by decide)]
      refine wo_some ⟨h1, h1, fun j => ?_⟩
      rw [if_neg (by omega)]
    · have L : ∀ c : Nat, c < 100 → ((zI c ≤ zI k) ↔ c ≤ k) := fun c hc => by rw [zI_le (by unfold zR; omega) (by unfold zR; omega)]; omega
      rw [if_neg (fun h => by have := (L 20 (by omega)).mp h; omega)]
      by_cases c4 : k < 4
      · rw [if_neg (fun h => by have := (L 4 (by omega)).mp h; omega)]
        exact key _ (by omega) (by rw [if_pos c4])
      · rw [if_pos (show (4 : Int32) ≤ zI k from (L 4 (by omega)).mpr (by omega))]
        by_cases c8 : k < 8
        · rw [if_neg (fun h => by have := (L 8 (by omega)).mp h; omega)]
          exact key _ (by omega) (by rw [if_neg c4, if_pos c8])
        · rw [if_pos (show (8 : Int32) ≤ zI k from (L 8 (by omega)).mpr (by omega))]
          by_cases c12 : k < 12
          · rw [if_neg (fun h => by have := (L 12 (by omega)).mp h; omega)]
            exact key _ (by omega) (by rw [if_neg c4, if_neg c8, if_pos c12])
          · rw [if_pos (show (12 : Int32) ≤ zI k from (L 12 (by omega)).mpr (by omega))]
            by_cases c16 : k < 16
            · rw [if_neg (fun h => by have := (L 16 (by omega)).mp h; omega)]
              exact key _ (by omega) (by rw [if_neg c4, if_neg c8, if_neg c12, if_pos c16])
            · rw [if_pos (show (16 : Int32) ≤ zI k from (L 16 (by omega)).mpr (by omega))]
              exact key _ (by omega) (by rw [if_neg c4, if_neg c8, if_neg c12, if_neg c16])
theorem feedM {N T : Nat} {ah : AH} {p1 p2 p3 p4 p5 : Int32} (hN : 21 ≤ N) (hT : T + 20 ≤ 400) (h1 : ah 0 2 = zI T) : wo (F_X12_feed N ah p1 p2 p3 p4 p5) (fun q => q.1 = zI (T + 20 : Nat) ∧ q.2 0 2 = zI (T + 20 : Nat) ∧ ∀ j, q.2 2 j = if T ≤ j ∧ j < T + 20 then fedB p1 p2 p3 p4 p5 (j - T) else ah 2 j) := by
  unfold F_X12_feed
  refine wo_let ?_
  have h2 : xu ah 0 0 0 0 2 = zI T := by rw [xu_ne (by omega)]; exact h1
  rw [h2, show (20 : Int32) = zI 20 from rfl, zI_add, if_pos ((z_le rfl (show (400 : Int32) = zI 400 from rfl) (by unfold zR; omega) (by unfold zR; omega)).mpr (by omega))]
  exact wo_let (feed23 N 0 T _ (by omega) (by omega) hT h2)
