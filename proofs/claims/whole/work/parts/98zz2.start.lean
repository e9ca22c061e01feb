/-- a heap of the machine as whole numbers -/
def uz (a : AH) : IH := fun k i => if 0 ≤ k ∧ 0 ≤ i then (a k.toNat i.toNat).toInt else 0
theorem zh_uz (a : AH) : zh (uz a) = a := by
  funext k i
  unfold zh uz
  rw [if_pos (by omega), Int.toNat_natCast, Int.toNat_natCast]
  exact zI_of _
theorem HR_uz (a : AH) : HR (uz a) := by
  intro k i
  unfold uz
  by_cases q : 0 ≤ k ∧ 0 ≤ i
  · rw [if_pos q]; exact zR_of _
  · rw [if_neg q]; unfold zR; omega
theorem uz_at (a : AH) {k i : Int} (hk : 0 ≤ k) (hi : 0 ≤ i) : uz a k i = (a k.toNat i.toNat).toInt := if_pos ⟨hk, hi⟩
theorem clearX0 (N : Nat) : ∃ aX : AH, FX_X2_clear N kah = some aX ∧ aX 0 0 = 0 ∧ aX 0 5 = 1 ∧ aX 5 0 = -1 ∧ aX 6 0 = 0 ∧ aX 7 0 = -1 ∧ aX 8 0 = -1 ∧ aX 9 0 = -1 ∧ aX 10 0 = 0 ∧ aX 11 0 = -1 := ⟨_, rfl, by decide, by decide, by decide, by decide, by decide, by decide, by decide, by decide, by decide⟩
theorem fcv_rng : ∀ j : Nat, j < 7 → 0 ≤ (fcv j).toInt ∧ (fcv j).toInt ≤ 999 ∧ (j ≠ 0 → (fcv j).toInt ≤ 99) := by decide
theorem aC0_z (aX : AH) {k : Nat} (h : 19 ≤ k) (j : Nat) : aC0 aX k j = 0 := by
  unfold aC0
  split <;> first | omega | rfl
theorem uzC (aX : AH) {k : Int} (h : 19 ≤ k ∨ k = 0 ∨ k = 3) (i : Int) : uz (aC0 aX) k i = 0 := by
  unfold uz
  by_cases q : 0 ≤ k ∧ 0 ≤ i
  · rw [if_pos q]
    rcases h with h | h | h
    · rw [aC0_z aX (by omega)]; rfl
    · subst h; rfl
    · subst h; rfl
  · rw [if_neg q]
theorem uzM {k : Int} (h : k ≠ 0 ∧ k ≠ 3) (i : Int) : uz aMb k i = 0 := by
  unfold uz
  by_cases q : 0 ≤ k ∧ 0 ≤ i
  · rw [if_pos q]
    unfold aMb
    rw [if_neg (by omega), if_neg (by omega)]; rfl
  · rw [if_neg q]
theorem pure_end : ∃ (N : Nat) (Rel : AH → AH → Prop) (aX aM1 : AH), SimAll N Rel ∧ FX_X2_clear N kah = some aX ∧ F_X12_plants N aMb = some aM1 ∧ Rel (aC0 aX) aM1 := by
  have hN : 20000 ≤ 20000 := Nat.le_refl _
  obtain ⟨aX, x1, x2, x3, x4, x5, x6, x7, x8, x9, x10⟩ := clearX0 20000
  have i10' : uz aMb 0 10 = 0 := by decide
  obtain ⟨c1, m1, a1, a2, a3, a4, a5, a6⟩ := plantS (N := 20000) (c := uz (aC0 aX)) (m := uz aMb) hN i10'
  have e40 : uz (aC0 aX) 4 0 = 0 := by show (aX 0 0).toInt = 0; rw [x2]; rfl
  have e45 : uz (aC0 aX) 4 5 = 1 := by show (aX 0 5).toInt = 1; rw [x3]; rfl
  have e9 : uz (aC0 aX) 9 0 = -1 := by show (aX 5 0).toInt = -1; rw [x4]; rfl
  have e10 : uz (aC0 aX) 10 0 = 0 := by show (aX 6 0).toInt = 0; rw [x5]; rfl
  have e11 : uz (aC0 aX) 11 0 = -1 := by show (aX 7 0).toInt = -1; rw [x6]; rfl
  have e12 : uz (aC0 aX) 12 0 = -1 := by show (aX 8 0).toInt = -1; rw [x7]; rfl
  have e13 : uz (aC0 aX) 13 0 = -1 := by show (aX 9 0).toInt = -1; rw [x8]; rfl
  have e14 : uz (aC0 aX) 14 0 = 0 := by show (aX 10 0).toInt = 0; rw [x9]; rfl
  have e15 : uz (aC0 aX) 15 0 = -1 := by show (aX 11 0).toInt = -1; rw [x10]; rfl
  have k21 : uz (aC0 aX) 2 1 = 0 := rfl
  have k25 : uz (aC0 aX) 2 5 = -1 := rfl
  have k1 : ∀ j, 0 ≤ j → uz (aC0 aX) 1 j = (fcv j.toNat).toInt := fun j q => uz_at (aC0 aX) (by omega) q
  have n3 : ∀ j, 0 ≤ j → uz aMb 3 j = (fcv j.toNat).toInt := fun j q => uz_at aMb (by omega) q
  have n02 : uz aMb 0 2 = 0 := by decide
  have n05 : uz aMb 0 5 = -1 := by decide
  have n026 : uz aMb 0 26 = 0 := by decide
  have ec : c1 = uz (aC0 aX) := by
    unfold G_X2_clear G_X2_addNode at a1
    generalize uz (aC0 aX) = cc at a1 e40 e45 e9 e10 e11 e12 e13 e14 e15
    rw [xlet_q, xlet_q, xv_id e40, xv_eq rfl rfl, xlet_q, if_pos (show (0 : Int) < 721 by omega), wr_in (show -2147483648 ≤ (0 : Int) + 1 by omega) (by omega), xv_xv, show (0 : Int) + 1 = 1 by omega, xv_id e45, xlet_q] at a1
    simp (disch := omega) only [xlet_q, xq_in] at a1
    rw [xv_id e9, xv_id e10, xv_id e11, xv_id e12, xv_id e13, xv_id e14, xv_id e15, if_pos (show (-1 : Int) < 0 by omega), yb_s] at a1
    exact (Option.some.inj a1).symm
  subst ec
  have l2 := l_X12_plants (N := 20000) (HR_uz aMb)
  rw [zh_uz] at l2
  obtain ⟨aM1, y1, y2, y3⟩ := l2 _ a2
  have mz : ∀ a b, ¬ (a = 0) → ¬ (a = 3) → ¬ (8 ≤ a ∧ a ≤ 12) → m1 a b = 0 := fun a b q1 q2 q3 => by rw [a6 a b (by omega) q3]; exact uzM ⟨q1, q2⟩ b
  have m0 : ∀ b, b ≠ 15 → m1 0 b = uz aMb 0 b := fun b q => a6 _ _ (by omega) (by omega)
  have cz : ∀ a b, (19 ≤ a ∨ a = 0 ∨ a = 3) → uz (aC0 aX) a b = 0 := fun a b q => uzC aX q b
  have sr : SR (uz (aC0 aX)) m1 := by
    have : m1 13 0 = 0 := mz _ _ (by omega) (by omega) (by omega)
    exact ⟨by rw [this]; exact cz _ _ (by omega), by omega, by omega, fun s q1 q2 => by omega⟩
  have kr : KR (uz (aC0 aX)) m1 := fun j j1 j2 => by
    have q := fcv_rng j.toNat (by omega)
    rw [k1 j j1, a6 _ _ (by omega) (by omega), n3 j j1]
    exact ⟨rfl, q.1, q.2.1, fun z => q.2.2 (by omega)⟩
  have rd : RD (uz (aC0 aX)) m1 := by
    have : m1 16 0 = 0 := mz _ _ (by omega) (by omega) (by omega)
    exact ⟨⟨by rw [this]; exact cz _ _ (by omega), by omega, by omega⟩, Or.inl ⟨by rw [m0 _ (by omega)]; exact n026, cz _ _ (by omega)⟩, fun t q1 q2 => by omega⟩
  have fo : FO (uz (aC0 aX)) m1 := by
    have : m1 22 0 = 0 := mz _ _ (by omega) (by omega) (by omega)
    exact ⟨by rw [this]; exact cz _ _ (by omega), by omega, by omega, fun s q1 q2 => by omega⟩
  have sl : SL (uz (aC0 aX)) := by
    have : uz (aC0 aX) 67 10 = 0 := cz _ _ (by omega)
    exact ⟨by omega, fun i q1 q2 => by omega, fun t q1 q2 q3 => absurd (cz _ _ (by omega)) q3⟩
  have ta : TA (uz (aC0 aX)) m1 := by
    refine ⟨by rw [k21, m0 _ (by omega), n02], by rw [m0 _ (by omega), n02]; omega, by rw [m0 _ (by omega), n02]; omega, fun j j1 j2 => ?_, by rw [k25, m0 _ (by omega), n05]⟩
    rw [cz _ _ (by omega), mz _ _ (by omega) (by omega) (by omega)]
    omega
  have hr : R 20000 (uz (aC0 aX)) m1 := R.new ta (by rw [cz _ _ (by omega), mz _ _ (by omega) (by omega) (by omega)]) (by rw [cz _ _ (by omega), mz _ _ (by omega) (by omega) (by omega)]) a4 (TR.mk a3 sr kr rd fo) sl (fun r _ _ => cz _ _ (by omega)) (cz _ _ (by omega)) (cz _ _ (by omega)) (fun _ _ _ _ _ => rfl)
  exact ⟨20000, RelN 20000, aX, aM1, sim_all hN, x1, y1, uz (aC0 aX), m1, (zh_uz _).symm, y2, HR_uz _, y3, hr⟩
