section
variable {s : State} {b : Nat}
theorem st_good (hts : ∀ w ∈ lw_tbl, w.before #[Value.ref b] s = true) : ∀ w ∈ xWs, w.before #[Value.ref b] s = true := fun w hw => hts w (xWs_tbl hw)
theorem st_D (hg : ∀ w ∈ xWs, w.before #[Value.ref b] s = true) : ∃ D : va_G, ∀ (k : Nat) (q : vw_C), vwCl[k]? = some q → u_Kn s q.1 q.2.1 q.2.2 (D.1 k) (D.2 k) := by
  obtain ⟨c0, i0, h0⟩ := u_known (C := RX0) (T := TX0) (N := 8) (n := 8) hg inX0 (hg _ wmb_X0)
  obtain ⟨c1, i1, h1⟩ := u_known (C := RX1) (T := TX1) (N := 5) (n := 5) hg inX1 (hg _ wmb_X1)
  obtain ⟨c2, i2, h2⟩ := u_known (C := RX2) (T := TX2) (N := 17) (n := 17) hg inX2 (hg _ wmb_X2)
  obtain ⟨c3, i3, h3⟩ := u_known (C := RX3) (T := TX3) (N := 11) (n := 11) hg inX3 (hg _ wmb_X3)
  obtain ⟨c4, i4, h4⟩ := u_known (C := RX4) (T := TX4) (N := 15) (n := 15) hg inX4 (hg _ wmb_X4)
  obtain ⟨c5, i5, h5⟩ := u_known (C := RX5) (T := TX5) (N := 11) (n := 11) hg inX5 (hg _ wmb_X5)
  obtain ⟨c6, i6, h6⟩ := u_known (C := RX6) (T := TX6) (N := 12) (n := 12) hg inX6 (hg _ wmb_X6)
  obtain ⟨c7, i7, h7⟩ := u_known (C := RX7) (T := TX7) (N := 11) (n := 11) hg inX7 (hg _ wmb_X7)
  obtain ⟨c8, i8, h8⟩ := u_known (C := RX8) (T := TX8) (N := 6) (n := 6) hg inX8 (hg _ wmb_X8)
  obtain ⟨c9, i9, h9⟩ := u_known (C := RX9) (T := TX9) (N := 6) (n := 6) hg inX9 (hg _ wmb_X9)
  obtain ⟨c10, i10, h10⟩ := u_known (C := RX10) (T := TX10) (N := 6) (n := 6) hg inX10 (hg _ wmb_X10)
  obtain ⟨c11, i11, h11⟩ := u_known (C := RX11) (T := TX11) (N := 16) (n := 16) hg inX11 (hg _ wmb_X11)
  obtain ⟨c12, i12, h12⟩ := u_known (C := RX12) (T := TX12) (N := 74) (n := 74) hg inX12 (hg _ wmb_X12)
  refine ⟨⟨fun k => if k = 0 then c0 else if k = 1 then c1 else if k = 2 then c2 else if k = 3 then c3 else if k = 4 then c4 else if k = 5 then c5 else if k = 6 then c6 else if k = 7 then c7 else if k = 8 then c8 else if k = 9 then c9 else if k = 10 then c10 else if k = 11 then c11 else c12, fun k => if k = 0 then i0 else if k = 1 then i1 else if k = 2 then i2 else if k = 3 then i3 else if k = 4 then i4 else if k = 5 then i5 else if k = 6 then i6 else if k = 7 then i7 else if k = 8 then i8 else if k = 9 then i9 else if k = 10 then i10 else if k = 11 then i11 else i12⟩, fun k q hq => ?_⟩
  match k, hq with
  | 0, hq => cases hq; exact h0
  | 1, hq => cases hq; exact h1
  | 2, hq => cases hq; exact h2
  | 3, hq => cases hq; exact h3
  | 4, hq => cases hq; exact h4
  | 5, hq => cases hq; exact h5
  | 6, hq => cases hq; exact h6
  | 7, hq => cases hq; exact h7
  | 8, hq => cases hq; exact h8
  | 9, hq => cases hq; exact h9
  | 10, hq => cases hq; exact h10
  | 11, hq => cases hq; exact h11
  | 12, hq => cases hq; exact h12
  | k + 13, hq => simp at hq
theorem st_ca {D : va_G} (hts : ∀ w ∈ lw_tbl, w.before #[Value.ref b] s = true) (hD : ∀ (k : Nat) (q : vw_C), vwCl[k]? = some q → u_Kn s q.1 q.2.1 q.2.2 (D.1 k) (D.2 k)) : ∃ caC caM : Nat → ClassId, va_K D vwCl (tysC caC) s ∧ va_K D vwCl (tysM caM) s ∧ xMA caM s.vm := by
  have hg := st_good hts
  obtain ⟨cI, kI, pI, I1, I2, I3⟩ := Cond.arrayClass_spec (hg _ wma_int)
  obtain ⟨cZ, kZ, pZ, Z1, Z2, Z3⟩ := Cond.arrayClass_spec (hg _ wma_boolean)
  obtain ⟨cJ, kJ, pJ, J1, J2, J3⟩ := Cond.arrayClass_spec (hg _ wma_long)
  obtain ⟨p2, c2, k2, a1, -, a2, a3, a4⟩ := arrayOver_specB (hts (.arrayOver (.array .int)) (by decide +kernel))
  obtain ⟨p3, c3, k3, b1, -, b2, b3, b4⟩ := arrayOver_specB (hts (.arrayOver (.array (.array .int))) (by decide +kernel))
  obtain ⟨p4, c4, k4, d1, -, d2, d3, d4⟩ := arrayOver_specB (hts (.arrayOver (.array (.array (.array .int)))) (by decide +kernel))
  have e2 : p2 = cI := Option.some.inj (a1.symm.trans I1)
  have e3 : p3 = c2 := Option.some.inj (b1.symm.trans a4)
  have e4 : p4 = c3 := Option.some.inj (d1.symm.trans b4)
  subst e2
  subst e3
  subst e4
  refine ⟨fun k => if k = 0 then p2 else if k = 1 then cZ else cJ, fun k => if k = 0 then p2 else if k = 1 then cZ else if k = 2 then p3 else if k = 3 then p4 else c4, ⟨hD, fun k q hq => ?_⟩, ⟨hD, fun k q hq => ?_⟩, ⟨k4, d2, d3⟩, ⟨k3, b2, b3⟩, ⟨k2, a2, a3⟩, ⟨kI, pI, I2, I3⟩⟩
  · match k, hq with
    | 0, hq => cases hq; exact ⟨fun n z => ⟨fun k h => (by cases h), kI, I2, pI, I3⟩, I1⟩
    | 1, hq => cases hq; exact ⟨fun n z => ⟨fun k h => (by cases h), kZ, Z2, pZ, Z3⟩, Z1⟩
    | 2, hq => cases hq; exact ⟨fun n z => ⟨fun k h => (by cases h), kJ, J2, pJ, J3⟩, J1⟩
    | k + 3, hq => simp at hq
  · match k, hq with
    | 0, hq => cases hq; exact ⟨fun n z => ⟨fun k h => (by cases h), kI, I2, pI, I3⟩, I1⟩
    | 1, hq => cases hq; exact ⟨fun n z => ⟨fun k h => (by cases h), kZ, Z2, pZ, Z3⟩, Z1⟩
    | 2, hq => cases hq; exact ⟨fun n z => ⟨fun k h => (by cases h), k2, a2, _, a3⟩, a4⟩
    | 3, hq => cases hq; exact ⟨fun n z => ⟨fun k h => (by cases h), k3, b2, _, b3⟩, b4⟩
    | 4, hq => cases hq; exact ⟨fun n z => ⟨fun k h => (by cases h), k4, d2, _, d3⟩, d4⟩
    | k + 5, hq => simp at hq
def nestIn : Bool := xNl.all fun q => lw_tbl.any fun w => w == Cond.methodLinkNest q.1 q.2.1 q.2.2.1 q.2.2.2
theorem st_nest (hts : ∀ w ∈ lw_tbl, w.before #[Value.ref b] s = true) : xNest s := by
  intro q hq
  refine va_Nw.of rfl (A := #[Value.ref b]) (hts _ ?_)
  revert q
  decide +kernel
theorem st_flags {l : Launch} (h : l.flags = flags0) : l.stackTraces = false := by
  unfold Launch.stackTraces
  rw [h]
  decide +kernel
theorem st_thr (hts : ∀ w ∈ lw_tbl, w.before #[Value.ref b] s = true) (hgv : (Jvm.Cond.and given_1 narrow_1).before #[Value.ref b] s = true) : xThr (fun q : Nat => s.heap.size ≤ q) s := by
  have hs := flat_of_before _ hgv
  have hA : ∀ a : Nat, a < s.heap.size → ¬ (fun q : Nat => s.heap.size ≤ q) a := fun a h => Nat.not_le.mpr h
  obtain ⟨x1, -, -, -, hx1, -⟩ := Cond.exactly_spec (hs (Cond.exactly (.string "MendedLetters" 399) "java/lang/String") (by decide +kernel))
  obtain ⟨x2, -, -, -, hx2, -⟩ := Cond.exactly_spec (hs (Cond.exactly (.string "MendedLetters" 406) "java/lang/String") (by decide +kernel))
  obtain ⟨t, ht, hT⟩ := va_Tof (tm := .static "MendedLetters" "HIGHEST_COSTS" "[I") (ty := .int) (N := 7) (f := fun j => .int (hcv j)) (by decide) (hs _ (by decide +kernel)) (va_eqt (hs (Cond.eq (.length (.static "MendedLetters" "HIGHEST_COSTS" "[I")) (.int 7)) (by decide +kernel))) (fun j hj => by
    match j, hj with
    | 0, _ => exact va_eqt (hs (Cond.eq (.elem (.static "MendedLetters" "HIGHEST_COSTS" "[I") (.int 0)) (.int 999)) (by decide +kernel))
    | 1, _ => exact va_eqt (hs (Cond.eq (.elem (.static "MendedLetters" "HIGHEST_COSTS" "[I") (.int 1)) (.int 99)) (by decide +kernel))
    | 2, _ => exact va_eqt (hs (Cond.eq (.elem (.static "MendedLetters" "HIGHEST_COSTS" "[I") (.int 2)) (.int 99)) (by decide +kernel))
    | 3, _ => exact va_eqt (hs (Cond.eq (.elem (.static "MendedLetters" "HIGHEST_COSTS" "[I") (.int 3)) (.int 99)) (by decide +kernel))
    | 4, _ => exact va_eqt (hs (Cond.eq (.elem (.static "MendedLetters" "HIGHEST_COSTS" "[I") (.int 4)) (.int 99)) (by decide +kernel))
    | 5, _ => exact va_eqt (hs (Cond.eq (.elem (.static "MendedLetters" "HIGHEST_COSTS" "[I") (.int 5)) (.int 99)) (by decide +kernel))
    | 6, _ => exact va_eqt (hs (Cond.eq (.elem (.static "MendedLetters" "HIGHEST_COSTS" "[I") (.int 6)) (.int 99)) (by decide +kernel))
    | j + 7, h => exact absurd h (by omega)) hA
  refine ⟨vx_Zqof (hts _ (by decide +kernel)) (hts _ (by decide +kernel)) (hs _ (by decide +kernel)) hA, vx_Zqof (hts _ (by decide +kernel)) (hts _ (by decide +kernel)) (hs _ (by decide +kernel)) hA, ⟨x1, vk_R.of (hts _ (by decide +kernel)) hx1⟩, ⟨x2, vk_R.of (hts _ (by decide +kernel)) hx2⟩, ⟨va_Nw.of rfl (hts _ (by decide +kernel)), va_Nw.of rfl (hts _ (by decide +kernel)), va_Nw.of rfl (hts _ (by decide +kernel)), va_Nw.of rfl (hts _ (by decide +kernel)), va_Nw.of rfl (hts _ (by decide +kernel))⟩, va_Nc.of (hs _ (by decide +kernel)), t, va_Zref (hts _ (by decide +kernel)) (hts _ (by decide +kernel)) ht hA, hT⟩
theorem len_small {tm : Term} {args : Array Value} {t : Nat} {cell : Cell} {v : Value} (ht : tm.eval args s none [] s = some (.ref t)) (h2 : s.arrayAt? t = some cell) (hv : (Term.length tm).eval args s none [] s = some v) : cell.slots.size < 2 ^ 31 := by
  simp only [Term.eval, ht, h2, Option.bind_eq_bind, Option.bind_some] at hv
  by_cases hlt : cell.slots.size < 2147483648
  · exact hlt
  · simp [hlt] at hv
theorem st_fc {c0 : ClassId} (h0 : s.vm.findClass "[I" = some c0) (hts : ∀ w ∈ lw_tbl, w.before #[Value.ref b] s = true) (hgv : (Jvm.Cond.and given_1 narrow_1).before #[Value.ref b] s = true) : xFC (fun q : Nat => s.heap.size ≤ q) c0 s := by
  have hs := flat_of_before _ hgv
  have hA : ∀ a : Nat, a < s.heap.size → ¬ (fun q : Nat => s.heap.size ≤ q) a := fun a h => Nat.not_le.mpr h
  obtain ⟨t, ht, cell, h1, h2, h3, h4, h5, h6, h7⟩ := va_Tof (tm := .static "MendedLetters" "FIRST_COSTS" "[I") (ty := .int) (N := 7) (f := fun j => .int (fcv j)) (by decide) (hs _ (by decide +kernel)) (va_eqt (hs (Cond.eq (.length (.static "MendedLetters" "FIRST_COSTS" "[I")) (.int 7)) (by decide +kernel))) (fun j hj => by
    match j, hj with
    | 0, _ => exact va_eqt (hs (Cond.eq (.elem (.static "MendedLetters" "FIRST_COSTS" "[I") (.int 0)) (.int 20)) (by decide +kernel))
    | 1, _ => exact va_eqt (hs (Cond.eq (.elem (.static "MendedLetters" "FIRST_COSTS" "[I") (.int 1)) (.int 2)) (by decide +kernel))
    | 2, _ => exact va_eqt (hs (Cond.eq (.elem (.static "MendedLetters" "FIRST_COSTS" "[I") (.int 2)) (.int 4)) (by decide +kernel))
    | 3, _ => exact va_eqt (hs (Cond.eq (.elem (.static "MendedLetters" "FIRST_COSTS" "[I") (.int 3)) (.int 3)) (by decide +kernel))
    | 4, _ => exact va_eqt (hs (Cond.eq (.elem (.static "MendedLetters" "FIRST_COSTS" "[I") (.int 4)) (.int 1)) (by decide +kernel))
    | 5, _ => exact va_eqt (hs (Cond.eq (.elem (.static "MendedLetters" "FIRST_COSTS" "[I") (.int 5)) (.int 8)) (by decide +kernel))
    | 6, _ => exact va_eqt (hs (Cond.eq (.elem (.static "MendedLetters" "FIRST_COSTS" "[I") (.int 6)) (.int 0)) (by decide +kernel))
    | j + 7, h => exact absurd h (by omega)) hA
  refine ⟨⟨t, cell, va_Zref (hts _ (by decide +kernel)) (hts _ (by decide +kernel)) ht hA, h1, ?_, h2.1, h3, ?_, h6, h7⟩, va_Nw.of rfl (hts _ (by decide +kernel))⟩
  · obtain ⟨a, c', cell', k', q1, q2, q3, q4, q5, q6, -⟩ := Cond.exactly_spec (hs (Cond.exactly (.static "MendedLetters" "FIRST_COSTS" "[I") "[I") (by decide +kernel))
    cases ht.symm.trans q1
    cases h1.symm.trans q3
    cases h0.symm.trans q2
    exact q6
  · have hv := va_eqt (hs (Cond.eq (.length (.static "MendedLetters" "FIRST_COSTS" "[I")) (.int 7)) (by decide +kernel))
    obtain ⟨a, cell', q1, q2, q3⟩ := Term.length_spec hv
    cases ht.symm.trans q1
    have hsz : cell'.slots.size < 2 ^ 31 := len_small ht q2 hv
    cases h1.symm.trans (State.arrayAt?_spec q2).1
    have e1 : Int32.ofNat 7 = cell.slots.size.toInt32 := Value.int.inj q3
    have e2 := congrArg Int32.toInt e1
    have e3 : (Int32.ofNat cell.slots.size).toInt = cell.slots.size := Int32.toInt_ofNat_of_lt hsz
    have e4 : cell.slots.size.toInt32 = Int32.ofNat cell.slots.size := rfl
    rw [e4, e3] at e2
    have e5 : (Int32.ofNat 7).toInt = 7 := by decide
    omega
end
