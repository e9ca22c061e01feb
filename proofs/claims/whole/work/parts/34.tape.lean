theorem z_lt {a b : Int} {x y : Int32} (hx : x = zI a) (hy : y = zI b) (ha : zR a) (hb : zR b) : (x < y) ↔ a < b := by subst hx; subst hy; exact zI_lt ha hb
theorem z_le {a b : Int} {x y : Int32} (hx : x = zI a) (hy : y = zI b) (ha : zR a) (hb : zR b) : (x ≤ y) ↔ a ≤ b := by subst hx; subst hy; exact zI_le ha hb
theorem z_eq {a b : Int} {x y : Int32} (hx : x = zI a) (hy : y = zI b) (ha : zR a) (hb : zR b) : (x = y) ↔ a = b := by subst hx; subst hy; exact zI_eq ha hb
theorem z_nat {a : Int} {x : Int32} (hx : x = zI a) (ha : zR a) : x.toNatClampNeg = a.toNat := by subst hx; exact zI_nat ha
theorem wo_gx {α : Type} {Q : α → Prop} {a : Int} {x : Int32} {n : Nat} {B : Option α} (hx : x = zI a) (h1 : 0 ≤ a) (h2 : a < n) (hn : n < 2147483648) (h : wo B Q) : wo (xg x n B) Q := by subst hx; exact wo_gz h1 h2 hn h
/-- a byte of a number, from the highest on -/
def byt (v : Int32) (k : Nat) : Int32 := xushr v (zI (24 - 8 * k)) &&& 255
theorem add3 {N : Nat} {v : Int32} : ∀ (n m T : Nat) (ah : AH), m ≤ 4 → m < n → T + m ≤ 400 → ah 2 1 = zI T → wo (F_X9_add_3 N n ah v (zI (8 * m - 8))) (fun a => a 2 1 = zI (T + m : Nat) ∧ ∀ j, a 3 j = if T ≤ j ∧ j < T + m then byt v (4 - m + (j - T)) else ah 3 j) := by
  intro n
  induction n with
  | zero => intro m T ah _ h; omega
  | succ n ih =>
    intro m T ah hm hn hT h1
    unfold F_X9_add_3
    cases m with
    | zero =>
      rw [if_pos ((z_lt rfl (show (0 : Int32) = zI 0 from rfl) (by unfold zR; omega) (by unfold zR; omega)).mpr (by omega))]
      refine wo_some ⟨h1, fun j => ?_⟩
      rw [if_neg (by omega)]
    | succ m =>
      rw [if_neg (fun h => by have := (z_lt rfl (show (0 : Int32) = zI 0 from rfl) (by unfold zR; omega) (by unfold zR; omega)).mp h; omega)]
      rw [if_neg (fun h => by have := (z_le (show (400 : Int32) = zI 400 from rfl) h1 (by unfold zR; omega) (by unfold zR; omega)).mp h; omega)]
      refine wo_gx h1 (by omega) (by omega) (by omega) ?_
      rw [z_nat h1 (by unfold zR; omega)]
      refine wo_let (wo_let (wo_let ?_))
      rw [show zI (8 * ((m + 1 : Nat) : Int) - 8) + (-8) = zI (8 * m - 8) by rw [show (-8 : Int32) = zI (-8) from rfl, zI_add]; congr 1; omega]
      refine (ih m (T + 1) _ (by omega) (by omega) (by omega) ?_).mono (fun a ha => ⟨?_, fun j => ?_⟩)
      · show xu ah 3 _ _ 2 1 + 1 = _
        rw [xu_ne (by omega), h1, show (1 : Int32) = zI 1 from rfl, zI_add]
        congr 1
      · rw [ha.1]; congr 1; omega
      · rw [ha.2 j]
        by_cases hj : T + 1 ≤ j ∧ j < T + 1 + m
        · rw [if_pos hj, if_pos (by omega)]
          congr 1; omega
        · rw [if_neg hj, xu_at, if_neg (by omega), xu_at]
          by_cases hj2 : j = T
          · subst hj2
            rw [if_pos (by omega), if_pos (by omega)]
            unfold byt
            congr 2
            congr 1
            omega
          · rw [if_neg (by omega), if_neg (by omega)]
theorem add_spec {N T : Nat} {v : Int32} {ah : AH} (hN : 5 ≤ N) (hT : T + 4 ≤ 400) (h1 : ah 2 1 = zI T) : wo (F_X9_add N ah v) (fun a => a 2 1 = zI (T + 4 : Nat) ∧ ∀ j, a 3 j = if T ≤ j ∧ j < T + 4 then byt v (j - T) else ah 3 j) := by
  unfold F_X9_add
  refine wo_let ?_
  refine (add3 (v := v) N 4 T ah (by omega) (by omega) (by omega) h1).mono (fun a ha => ⟨ha.1, fun j => ?_⟩)
  rw [ha.2 j]
  simp
