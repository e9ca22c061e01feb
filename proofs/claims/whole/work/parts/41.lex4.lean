/-- the reference's tape amid a text, be a fault told or not -/
def TX (a : AH) (B : Nat → Int) (n i : Nat) : Prop := a 0 3 = zI n ∧ a 0 4 = zI i ∧ (∀ j, j < n → a 2 j = zI (B j))
theorem TM.x {a : AH} {B : Nat → Int} {n i : Nat} (h : TM a B n i) : TX a B n i := ⟨h.1, h.2.1, h.2.2.2⟩
theorem TX.fl {a : AH} {B : Nat → Int} {n i : Nat} {k p : Int} (h : TX a B n i) : TX (flM a k p) B n i := by
  unfold flM
  exact ⟨by rw [xu_ne (by omega), xu_ne (by omega)]; exact h.1, by rw [xu_ne (by omega), xu_ne (by omega)]; exact h.2.1, fun j hj => by rw [xu_ne (by omega), xu_ne (by omega)]; exact h.2.2 j hj⟩
theorem byteX {N : Nat} {a : AH} {B : Nat → Int} {n i k : Nat} (hB : Txt B n) (h : TX a B n i) (hk : k ≤ 2000) {x : Int32} (hx : x = zI k) : F_X12_byteAt N a x = some (zI (B k), a) := by
  obtain ⟨h1, h2, h4⟩ := h
  have hn := hB.1
  subst hx
  unfold F_X12_byteAt
  rw [h1]
  by_cases hlt : k < n
  · have e2 : zI (k : Int) < zI (n : Int) := by simp (disch := (unfold zR; omega)) only [zl0, zl1, zlm1, zl, zI_add, zI_sub, zI_mul, zt_lt, zt_le, zt_eq]; omega
    rw [if_pos e2]
    unfold xg
    rw [zI_nat (by unfold zR; omega), if_neg (by intro q; rcases q with q | q; (simp (disch := (unfold zR; omega)) only [zl0, zl1, zlm1, zl, zI_add, zI_sub, zI_mul, zt_lt, zt_le, zt_eq] at q; omega); omega), show (k : Int).toNat = k by omega, h4 _ hlt]
  · have e2 : ¬ zI (k : Int) < zI (n : Int) := fun q => by simp (disch := (unfold zR; omega)) only [zl0, zl1, zlm1, zl, zI_add, zI_sub, zI_mul, zt_lt, zt_le, zt_eq] at q; omega
    rw [if_neg e2, hB.2.2 _ (by omega)]
    rfl
theorem hereX {N : Nat} {a : AH} {B : Nat → Int} {n i : Nat} (hB : Txt B n) (h : TX a B n i) (hi : i ≤ 2000) : F_X12_here N a = some (zI (B i), a) := by
  unfold F_X12_here
  rw [byteX hB h hi h.2.1, xb_s]
theorem inM {N : Nat} {a : AH} {v lo hi : Int} (h1 : zR v) (h2 : zR lo) (h3 : zR hi) : F_X12_in N a (zI v) (zI lo) (zI hi) = some (b1 (decide (lo ≤ v ∧ v ≤ hi)), a) := by
  unfold F_X12_in b1
  simp only [zt_lt h1 h2, zt_lt h3 h1]
  by_cases c1 : v < lo
  · have e : ¬ (lo ≤ v ∧ v ≤ hi) := by omega
    simp [c1, e]
  · by_cases c2 : hi < v
    · have e : ¬ (lo ≤ v ∧ v ≤ hi) := by omega
      simp [c1, c2, e]
    · have e : lo ≤ v ∧ v ≤ hi := by omega
      simp [c1, c2, e]
theorem lessM {N : Nat} {a : AH} {x y : Int} (h1 : zR x) (h2 : zR y) : F_X12_less N a (zI x) (zI y) = some (zI (min x y), a) := by
  unfold F_X12_less
  simp only [zt_le h2 h1]
  by_cases c : y ≤ x
  · rw [if_pos c, Int.min_eq_right c]
  · rw [if_neg c, Int.min_eq_left (by omega)]
theorem moreM {N : Nat} {a : AH} {x y : Int} (h1 : zR x) (h2 : zR y) : F_X12_more N a (zI x) (zI y) = some (zI (max x y), a) := by
  unfold F_X12_more
  simp only [zt_le h1 h2]
  by_cases c : x ≤ y
  · rw [if_pos c, Int.max_eq_right c]
  · rw [if_neg c, Int.max_eq_left (by omega)]
theorem b1t : ¬ b1 true = 0 := by decide
theorem b1f : b1 false = 0 := by decide
theorem flM_fault {a : AH} {k p : Int} (hk : 1 ≤ k ∧ k ≤ 9) : flM a k p 0 6 ≠ 0 := by
  unfold flM
  rw [xu_ne (by omega), xu_eq]
  intro q
  simp (disch := (unfold zR; omega)) only [zl0, zl1, zlm1, zl, zI_add, zI_sub, zI_mul, zt_lt, zt_le, zt_eq] at q
  omega
/-- a number read by the reference -/
def numM (B : Nat → Int) (N : Nat) (a : AH) (low high : Int) (i : Nat) : Int32 × AH :=
  if isD (B i) = true then (let q := pn B N i 0; if low ≤ q.2 ∧ q.2 ≤ high then (zI q.2, xu a 0 4 (zI q.1)) else (zI low, flM (xu a 0 4 (zI q.1)) 2 i)) else (zI low, flM a 1 i)
theorem numM36 {N : Nat} {B : Nat → Int} {n : Nat} (hB : Txt B n) {low high : Int} (h0 : 0 ≤ low ∧ low ≤ 99 ∧ 0 ≤ high ∧ high ≤ 9999) {s : Nat} : ∀ (f : Nat) (a : AH) (i : Nat) (v : Int), TM a B n i → i ≤ n → n - i < f → 0 ≤ v → F_X12_number_36 N f a (zI low) (zI high) (zI s) (zI (min v 100000)) = some (let q := pn B f i v; if low ≤ q.2 ∧ q.2 ≤ high then (zI q.2, xu a 0 4 (zI q.1)) else (zI low, flM (xu a 0 4 (zI q.1)) 2 s)) := by
  intro f
  induction f with
  | zero => intro a i v _ _ h; omega
  | succ f ih =>
    intro a i v h hi hf hv
    have hn := hB.1
    have hr := hB.rng i
    unfold F_X12_number_36 pn
    rw [hereX hB h.x (by omega), xb_s, digM (by unfold zR; omega), xb_s]
    by_cases hb : isD (B i) = true
    · have hd := isD_iff.mp hb
      have hlt : i < n := hB.lt (by omega)
      rw [hb, if_neg b1t, if_pos rfl, hereX hB h.x (by omega), xb_s, show (10 : Int32) = zI 10 from rfl, show (48 : Int32) = zI 48 from rfl, show (100000 : Int32) = zI 100000 from rfl, zI_mul, zI_add, zI_sub, lessM (by unfold zR; omega) (by unfold zR; omega), xb_s, xlet_s, xlet_s, h.2.1, show zI (i : Int) + 1 = zI ((i + 1 : Nat) : Int) by rw [zl1, zI_add]; rfl, show min 100000 (10 * min v 100000 + B i - 48) = min (v * 10 + B i - 48) 100000 by omega]
      rw [ih _ (i + 1) _ (h.at (i + 1)) (by omega) (by omega) (by omega)]
      simp only [xu_xu]
    · have hb' : isD (B i) = false := by simpa using hb
      rw [hb', if_pos b1f, if_neg (show ¬ (false = true) by decide), inM (by unfold zR; omega) (by unfold zR; omega) (by unfold zR; omega), xb_s]
      show _ = some (if low ≤ v ∧ v ≤ high then (zI v, xu a 0 4 (zI i)) else (zI low, flM (xu a 0 4 (zI i)) 2 s))
      rw [xu_id h.2.1]
      unfold F_X12_number_95
      by_cases c : low ≤ v ∧ v ≤ high
      · rw [if_pos c, show decide (low ≤ min v 100000 ∧ min v 100000 ≤ high) = true by simp; omega, if_neg b1t, fineM h.2.2.1, xb_s, if_neg (by decide), Int.min_eq_left (by omega)]
      · rw [if_neg c, show decide (low ≤ min v 100000 ∧ min v 100000 ≤ high) = false by simp; omega, if_pos b1f, show (2 : Int32) = zI 2 from rfl, wrongM h.2.2.1, xbv_s, fineM2 (flM_fault (by omega)), xb_s, if_pos rfl]
theorem numberM {N : Nat} {B : Nat → Int} {n i : Nat} {a : AH} (hB : Txt B n) (hN : 400 < N) {low high : Int} (h0 : 0 ≤ low ∧ low ≤ 99 ∧ 0 ≤ high ∧ high ≤ 9999) (h : TM a B n i) (hi : i ≤ n) : F_X12_number N a (zI low) (zI high) = some (numM B N a low high i) := by
  have hn := hB.1
  have hr := hB.rng i
  unfold F_X12_number
  rw [fineM h.2.2.1, xb_s, if_neg (by decide), hereX hB h.x (by omega), xb_s, digM (by unfold zR; omega), xb_s]
  unfold numM F_X12_number_28
  by_cases hb : isD (B i) = true
  · rw [hb, if_neg b1t, if_pos rfl, xlet_s, xlet_s, h.2.1]
    exact numM36 (N := N) hB h0 (s := i) N a i 0 h hi (by omega) (by omega)
  · have hb' : isD (B i) = false := by simpa using hb
    rw [hb', if_pos b1f, if_neg (show ¬ (false = true) by decide), h.2.1, show (1 : Int32) = zI 1 from rfl, wrongM h.2.2.1, xbv_s, xlet_s, xlet_s]
    obtain ⟨N', rfl⟩ : ∃ N', N = N' + 1 := ⟨N - 1, by omega⟩
    unfold F_X12_number_36
    rw [hereX hB h.x.fl (by omega), xb_s, digM (by unfold zR; omega), xb_s, hb', if_pos b1f, show (0 : Int32) = zI 0 from rfl, inM (by unfold zR; omega) (by unfold zR; omega) (by unfold zR; omega), xb_s]
    unfold F_X12_number_95
    have hf := flM_fault (a := a) (k := 1) (p := i) (by omega)
    by_cases c : b1 (decide (low ≤ 0 ∧ 0 ≤ high)) = zI 0
    · rw [if_pos c, wrongM2 hf, xbv_s, fineM2 hf, xb_s, if_pos rfl]
    · rw [if_neg c, fineM2 hf, xb_s, if_pos rfl]
