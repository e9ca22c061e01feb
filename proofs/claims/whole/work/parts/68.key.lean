theorem zbv {k : Int} (h : 0 ≤ k ∧ k < 2147483648) : (zI k).toBitVec.toNat = k.toNat := by
  unfold zI
  rw [Int32.toBitVec_ofInt, BitVec.toNat_ofInt]
  have : ((2 ^ 32 : Nat) : Int) = 4294967296 := by decide
  rw [this]
  omega
theorem zbi {x : Int32} {n : Nat} (h : x.toBitVec.toNat = n) (hn : n < 2147483648) : x.toInt = (n : Int) := by
  rw [← Int32.toInt_toBitVec, BitVec.toInt_eq_toNat_of_lt (by rw [h]; omega), h]
theorem yand_k {k : Int} (h : 0 ≤ k ∧ k < 2147483648) : yand k 32767 = k % 32768 := by
  unfold yand
  have e : (zI k &&& zI 32767).toBitVec.toNat = k.toNat % 32768 := by
    rw [Int32.toBitVec_and, BitVec.toNat_and, zbv h, zbv (by omega)]
    exact Nat.and_two_pow_sub_one_eq_mod k.toNat 15
  rw [zbi e (by omega)]
  omega
theorem y15 : yand 15 31 = 15 := by decide
theorem yshl_k {b : Int} (h : 0 ≤ b ∧ b < 65536) : yshl b 15 = b * 32768 := by
  unfold yshl
  have es : (zI 15).toBitVec.smod 32 = 15#32 := by decide
  have e : (zI b <<< zI 15).toBitVec.toNat = b.toNat * 32768 := by
    rw [Int32.toBitVec_shiftLeft, es, BitVec.shiftLeft_eq', BitVec.toNat_shiftLeft, zbv (by omega)]
    rw [show (15#32).toNat = 15 by decide, Nat.shiftLeft_eq]
    omega
  rw [zbi e (by omega)]
  omega
theorem yor_k {b t : Int} (hb : 0 ≤ b ∧ b < 65536) (ht : 0 ≤ t ∧ t < 32768) : yor (b * 32768) t = b * 32768 + t := by
  unfold yor
  have e : (zI (b * 32768) ||| zI t).toBitVec.toNat = b.toNat * 32768 + t.toNat := by
    rw [Int32.toBitVec_or, BitVec.toNat_or, zbv (by omega), zbv (by omega)]
    have := Nat.shiftLeft_add_eq_or_of_lt (i := 15) (b := t.toNat) (by omega) b.toNat
    rw [Nat.shiftLeft_eq] at this
    rw [show (b * 32768).toNat = b.toNat * 2 ^ 15 by omega, ← this]
  rw [zbi e (by omega)]
  omega
/-- a key -/
theorem ykey {b t : Int} (hb : 0 ≤ b ∧ b < 65536) (ht : 0 ≤ t ∧ t < 32768) : yor (yshl b (yand 15 31)) t = b * 32768 + t := by
  rw [y15, yshl_k hb, yor_k hb ht]
theorem yshr_k {k : Int} (h : 0 ≤ k ∧ k < 2147483648) : yshr k (yand 15 31) = k / 32768 := by
  rw [y15]
  unfold yshr
  have es : (zI 15).toBitVec.smod 32 = 15#32 := by decide
  rw [← Int32.toInt_toBitVec, Int32.toBitVec_shiftRight, es, BitVec.toInt_sshiftRight', Int32.toInt_toBitVec, zI_toInt (by unfold zR; omega), show (15#32).toNat = 15 by decide, Int.shiftRight_eq_div_pow]
  rfl
theorem pig : ∀ (M n : Nat) (f : Nat → Nat), (∀ i, i < n → f i < M) → (∀ i j, i < j → j < n → f i ≠ f j) → n ≤ M := by
  intro M
  induction M with
  | zero =>
    intro n f h1 _
    by_cases c : n = 0
    · omega
    · have := h1 0 (by omega); omega
  | succ M ih =>
    intro n f h1 h2
    by_cases h : ∃ i, i < n ∧ f i = M
    · obtain ⟨i, hi, e⟩ := h
      have hne : ∀ j, j < n → j ≠ i → f j < M := by
        intro j hj hji
        have a := h1 j hj
        have : f j ≠ M := by
          intro q
          by_cases c : j < i
          · exact h2 j i c hi (q.trans e.symm)
          · exact h2 i j (by omega) hj (e.trans q.symm)
        omega
      have := ih (n - 1) (fun j => if j = i then f (n - 1) else f j) (fun j hj => by
        show (if j = i then f (n - 1) else f j) < M
        by_cases c : j = i
        · rw [if_pos c]; exact hne _ (by omega) (by omega)
        · rw [if_neg c]; exact hne j (by omega) c) (fun a b hab hb => by
        show (if a = i then f (n - 1) else f a) ≠ (if b = i then f (n - 1) else f b)
        by_cases ca : a = i
        · rw [if_pos ca, if_neg (by omega)]
          exact fun q => h2 b (n - 1) (by omega) (by omega) q.symm
        · rw [if_neg ca]
          by_cases cb : b = i
          · rw [if_pos cb]; exact h2 a (n - 1) (by omega) (by omega)
          · rw [if_neg cb]; exact h2 a b hab (by omega))
      omega
    · have := ih n f (fun i hi => by
        have a := h1 i hi
        have b : f i ≠ M := fun e => h ⟨i, hi, e⟩
        omega) h2
      omega
/-- a row of different numbers below M, one of which is not among them, isn't full -/
theorem pigR {h : IH} {r n M t : Int} (h1 : ∀ i, 0 ≤ i → i < n → 0 ≤ h r i ∧ h r i < M) (h2 : ∀ i j, 0 ≤ i → i < j → j < n → h r i ≠ h r j) (ht : 0 ≤ t ∧ t < M) (h3 : ∀ i, 0 ≤ i → i < n → h r i ≠ t) : n < M := by
  by_cases c : n < 0
  · omega
  · have := pig M.toNat (n.toNat + 1) (fun i => if i < n.toNat then (h r i).toNat else t.toNat) (fun i hi => by
      show (if i < n.toNat then (h r i).toNat else t.toNat) < M.toNat
      by_cases ci : i < n.toNat
      · rw [if_pos ci]
        have := h1 i (by omega) (by omega)
        omega
      · rw [if_neg ci]; omega) (fun i j hij hj => by
      show (if i < n.toNat then (h r i).toNat else t.toNat) ≠ (if j < n.toNat then (h r j).toNat else t.toNat)
      rw [if_pos (show i < n.toNat by omega)]
      have a := h1 i (by omega) (by omega)
      by_cases cj : j < n.toNat
      · rw [if_pos cj]
        have b := h1 j (by omega) (by omega)
        have := h2 i j (by omega) (by omega) (by omega)
        omega
      · rw [if_neg cj]
        have := h3 i (by omega) (by omega)
        omega)
    omega
/-- two to the power of a level -/
def pw (v : Int) : Int := ((2 ^ v.toNat : Nat) : Int)
theorem pw_s {v : Int} (h : 0 ≤ v) : pw (v + 1) = 2 * pw v := by
  unfold pw
  rw [show (v + 1).toNat = v.toNat + 1 by omega, Nat.pow_succ]
  omega
theorem pw_pos {v : Int} : 1 ≤ pw v := by
  unfold pw
  have := Nat.pow_pos (n := v.toNat) (show 0 < 2 by omega)
  omega
theorem pw_0 : pw 0 = 1 := rfl
theorem pw_16 : pw 16 = 65536 := by decide
