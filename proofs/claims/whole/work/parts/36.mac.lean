theorem zt_lt {a b : Int} (ha : zR a) (hb : zR b) : (zI a < zI b) = (a < b) := propext (zI_lt ha hb)
theorem zt_le {a b : Int} (ha : zR a) (hb : zR b) : (zI a ≤ zI b) = (a ≤ b) := propext (zI_le ha hb)
theorem zt_eq {a b : Int} (ha : zR a) (hb : zR b) : (zI a = zI b) = (a = b) := propext (zI_eq ha hb)
theorem zl0 : (0 : Int32) = zI 0 := rfl
theorem zl1 : (1 : Int32) = zI 1 := rfl
theorem zlm1 : (-1 : Int32) = zI (-1) := rfl
theorem zl (n : Nat) : (OfNat.ofNat n : Int32) = zI (n : Int) := by
  show Int32.ofNat n = Int32.ofInt n
  apply Int32.toBitVec_inj.mp
  rw [Int32.toBitVec_ofInt]
  show BitVec.ofNat 32 n = _
  simp
theorem zl_try (k : Nat) (h : k < 20) (h2 : (4 : Int32) ≤ zI k) (h3 : zI (k + 1) < 0) : 4 ≤ k ∧ k + 1 < 0 := by
  simp (disch := (unfold zR; omega)) only [zl0, zl1, zlm1, zl, zI_add, zI_sub, zI_mul, zt_lt, zt_le, zt_eq] at h2 h3
  omega
