section
variable {p : Program} {l : Launch} {e : Env} {s : State} {m : MethodId} {b : Nat} {below : List Frame} {meth : Method} {c : Code} {D : va_G} {adC : Nat → Nat} {caC : Nat → ClassId} {adM : Nat → Nat} {caM : Nat → ClassId} {N : Nat} {L : Nat} {xs : Nat → Int32} {Rel : AH → AH → Prop}
theorem l_in6 {i L : Nat} (h : i + 6 ≤ L) (hL : L ≤ 3072) : ∀ j : Int32, 0 ≤ j ∧ j ≤ 5 → vp_in (nI i + j) L := by
  intro j hj
  obtain ⟨k, hk, rfl⟩ := nI_of2 (M := 5) (n := 5) (by decide) (fun q => absurd hj.1 (by simpa using q)) hj.2
  rw [nI_add]
  exact vp_in_nI (by omega) (by omega)
theorem l_gt {i L : Nat} (hi : i ≤ L) (hL : L ≤ 3072) : (Int32.ofNat L - 6 < nI i) ↔ ¬ i + 6 ≤ L := by
  have e6 : (6 : Int32) = nI 6 := by decide
  have eL : Int32.ofNat L = nI L := rfl
  rw [eL, e6, Int32.lt_iff_toInt_lt, pk_sub_toInt (by omega) (by omega), nI_toInt (by omega)]
  omega
theorem law_loop (X : LX p l s m b meth c D adC caC adM caM) (hX : va_X b L xs s s.heap) (hbl : b < s.heap.size) (hlocks : meth.locks = false) (hret : meth.sig.returnType = ret) (hL : L ≤ 3072) (hs : SimAll N Rel) : ∀ (n i cs sl : Nat) (aC aM : AH), i ≤ L → L ≤ i + n → cs + (L - i) + 3 ≤ 601024 → sl + 3 * (L - i) + 18 ≤ 7293034 → Rel aC aM → LK p l e s m b below meth c D adC caC adM caM cs sl aC aM (nI i) 23 := by
  have hbA : ¬ (fun q : Nat => s.heap.size ≤ q) b := Nat.not_le.mpr hbl
  have hx := X.1
  have hb := X.2.1
  intro n
  induction n with
  | zero =>
    intro i cs sl aC aM hi hn h1 h2 hrel H locs ls hC hM hS hl
    refine lv_iload hx hb dL_law_23 (lv_at hl 4 rfl) ?_
    refine lv_aload_n hx hb dL_law_25 rfl (lv_at hl 0 rfl) ?_
    refine va_slen hx hb hX hbl hbA hS dL_law_26 ?_
    refine lv_bipush (v := 6) hx hb dL_law_27 (by decide) ?_
    refine lv_isub hx hb dL_law_29 ?_
    refine lv_icmp_gt (tgt := 2434) hx hb dL_law_30 (by decide) (fun _ => ?_) (fun ne => absurd ((l_gt hi hL).mpr (by omega)) ne)
    refine lv_iconst (v := 1) hx hb dL_law_2434 (by decide) ?_
    refine va_forget (fun q hq => hS.2.2 q hq) ?_
    refine W.widen (k := 601024) (n := 7293034) (by omega) (by omega) ?_
    exact lw_ret hx hb hret hlocks dL_law_2435
  | succ n ih =>
    intro i cs sl aC aM hi hn h1 h2 hrel H locs ls hC hM hS hl
    refine lv_iload hx hb dL_law_23 (lv_at hl 4 rfl) ?_
    refine lv_aload_n hx hb dL_law_25 rfl (lv_at hl 0 rfl) ?_
    refine va_slen hx hb hX hbl hbA hS dL_law_26 ?_
    refine lv_bipush (v := 6) hx hb dL_law_27 (by decide) ?_
    refine lv_isub hx hb dL_law_29 ?_
    refine lv_icmp_gt (tgt := 2434) hx hb dL_law_30 (by decide) (fun _ => ?_) (fun ne => ?_)
    · refine lv_iconst (v := 1) hx hb dL_law_2434 (by decide) ?_
      refine va_forget (fun q hq => hS.2.2 q hq) ?_
      refine W.widen (k := 601024) (n := 7293034) (by omega) (by omega) ?_
      exact lw_ret hx hb hret hlocks dL_law_2435
    · have h6 : i + 6 ≤ L := by
        by_cases q : i + 6 ≤ L
        · exact q
        · exact absurd ((l_gt hi hL).mpr q) ne
      have hin := l_in6 h6 hL
      have K : ∀ aC1 aM1, Rel aC1 aM1 → LK p l e s m b below meth c D adC caC adM caM (cs + 3) (sl + 18) aC1 aM1 (nI i) 2428 := by
        intro aC1 aM1 hr H locs ls hC hM hS hl
        refine lv_iinc (v := nI (i + 6)) (lv' := [(4, .int (nI (i + 6))), (0, .ref b), (1, .ref (adC 0)), (2, .ref (adM 0)), (3, .ref (adC 91))]) hx hb dL_law_2428 hl (k := 4) rfl (by rw [show Int32.ofInt 6 = nI 6 from by decide, nI_add]) (by decide) rfl (fun ls hl => ?_)
        refine lv_goto (tgt := 23) hx hb dL_law_2431 (by decide) ?_
        exact ih (i + 6) (cs + 3) (sl + 18) aC1 aM1 h6 (by omega) (by omega) (by omega) hr H locs ls hC hM hS (lv_sub hl [1, 2, 3, 4, 0] rfl)
      have hcs : cs + 3 ≤ 601024 ∧ sl + 18 ≤ 7293034 := ⟨by omega, by omega⟩
      refine lv_aload_n hx hb dL_law_33 rfl (lv_at hl 0 rfl) ?_
      refine lv_iload hx hb dL_law_34 (lv_at hl 4 rfl) ?_
      refine va_sld hx hb hX hbl hbA hS (vp_in_nI (by omega) (by omega)) dL_law_36 ?_
      refine lv_bipush (v := 63) hx hb dL_law_37 (by decide) ?_
      refine lv_iand hx hb dL_law_39 ?_
      refine lv_topi (fun y _ => ?_)
      by_cases y0 : y < 0
      · exact lv_tableOut (tgt := 2428) hx hb dL_law_40 (Or.inl (by have := Int32.lt_iff_toInt_lt.mp y0; simpa using this)) (by decide) (W.widen (k := cs + 3) (n := sl + 18) (by omega) (by omega) (K aC aM hrel H locs ls hC hM hS hl))
      by_cases y1 : 36 < y
      · exact lv_tableOut (tgt := 2428) hx hb dL_law_40 (Or.inr (by have := Int32.lt_iff_toInt_lt.mp y1; simpa using this)) (by decide) (W.widen (k := cs + 3) (n := sl + 18) (by omega) (by omega) (K aC aM hrel H locs ls hC hM hS hl))
      obtain ⟨j, hj, rfl⟩ := nI_of2 (M := 36) (n := 36) (by decide) y0 (Int32.not_lt.mp y1)
      match j, hj with
      | 0, _ => exact lv_tableIn (tgt := 204) hx hb dL_law_40 (by decide) (by decide) (off := 164) (by decide) (by decide) (law_feed X hX hbl hbA hin hcs hs.1 hrel K H locs ls hC hM hS hl)
      | 1, _ => exact lv_tableIn (tgt := 277) hx hb dL_law_40 (by decide) (by decide) (off := 237) (by decide) (by decide) (law_lexicon X hX hbl hbA hin hcs hs.2.1 hrel K H locs ls hC hM hS hl)
      | 2, _ => exact lv_tableIn (tgt := 333) hx hb dL_law_40 (by decide) (by decide) (off := 293) (by decide) (by decide) (law_shapes X hX hbl hbA hin hcs hs.2.2.1 hrel K H locs ls hC hM hS hl)
      | 3, _ => exact lv_tableIn (tgt := 389) hx hb dL_law_40 (by decide) (by decide) (off := 349) (by decide) (by decide) (law_reading X hX hbl hbA hin hcs hs.2.2.2.1 hrel K H locs ls hC hM hS hl)
      | 4, _ => exact lv_tableIn (tgt := 445) hx hb dL_law_40 (by decide) (by decide) (off := 405) (by decide) (by decide) (law_fault X hX hbl hbA hin hcs hs.2.2.2.2.1 hrel K H locs ls hC hM hS hl)
      | 5, _ => exact lv_tableIn (tgt := 458) hx hb dL_law_40 (by decide) (by decide) (off := 418) (by decide) (by decide) (law_follows X hX hbl hbA hin hcs hs.2.2.2.2.2.1 hrel K H locs ls hC hM hS hl)
      | 6, _ => exact lv_tableIn (tgt := 514) hx hb dL_law_40 (by decide) (by decide) (off := 474) (by decide) (by decide) (law_forget X hX hbl hbA hin hcs hs.2.2.2.2.2.2.1 hrel K H locs ls hC hM hS hl)
      | 7, _ => exact lv_tableIn (tgt := 527) hx hb dL_law_40 (by decide) (by decide) (off := 487) (by decide) (by decide) (law_set X hX hbl hbA hin hcs hs.2.2.2.2.2.2.2.1 hrel K H locs ls hC hM hS hl)
      | 8, _ => exact lv_tableIn (tgt := 595) hx hb dL_law_40 (by decide) (by decide) (off := 555) (by decide) (by decide) (law_weigh X hX hbl hbA hin hcs hs.2.2.2.2.2.2.2.2.1 hrel K H locs ls hC hM hS hl)
      | 9, _ => exact lv_tableIn (tgt := 663) hx hb dL_law_40 (by decide) (by decide) (off := 623) (by decide) (by decide) (law_learn X hX hbl hbA hin hcs hs.2.2.2.2.2.2.2.2.2.1 hrel K H locs ls hC hM hS hl)
      | 10, _ => exact lv_tableIn (tgt := 719) hx hb dL_law_40 (by decide) (by decide) (off := 679) (by decide) (by decide) (law_told X hX hbl hbA hin hcs hs.2.2.2.2.2.2.2.2.2.2.1 hrel K H locs ls hC hM hS hl)
      | 11, _ => exact lv_tableIn (tgt := 775) hx hb dL_law_40 (by decide) (by decide) (off := 735) (by decide) (by decide) (law_word X hX hbl hbA hin hcs hs.2.2.2.2.2.2.2.2.2.2.2.1 hrel K H locs ls hC hM hS hl)
      | 12, _ => exact lv_tableIn (tgt := 843) hx hb dL_law_40 (by decide) (by decide) (off := 803) (by decide) (by decide) (law_sign X hX hbl hbA hin hcs hs.2.2.2.2.2.2.2.2.2.2.2.2.1 hrel K H locs ls hC hM hS hl)
      | 13, _ => exact lv_tableIn (tgt := 911) hx hb dL_law_40 (by decide) (by decide) (off := 871) (by decide) (by decide) (law_find X hX hbl hbA hin hcs hs.2.2.2.2.2.2.2.2.2.2.2.2.2.1 hrel K H locs ls hC hM hS hl)
      | 14, _ => exact lv_tableIn (tgt := 967) hx hb dL_law_40 (by decide) (by decide) (off := 927) (by decide) (by decide) (law_node X hX hbl hbA hin hcs hs.2.2.2.2.2.2.2.2.2.2.2.2.2.2.1 hrel K H locs ls hC hM hS hl)
      | 15, _ => exact lv_tableIn (tgt := 1035) hx hb dL_law_40 (by decide) (by decide) (off := 995) (by decide) (by decide) (law_child X hX hbl hbA hin hcs hs.2.2.2.2.2.2.2.2.2.2.2.2.2.2.2.1 hrel K H locs ls hC hM hS hl)
      | 16, _ => exact lv_tableIn (tgt := 1103) hx hb dL_law_40 (by decide) (by decide) (off := 1063) (by decide) (by decide) (law_shape X hX hbl hbA hin hcs hs.2.2.2.2.2.2.2.2.2.2.2.2.2.2.2.2.1 hrel K H locs ls hC hM hS hl)
      | 17, _ => exact lv_tableIn (tgt := 1171) hx hb dL_law_40 (by decide) (by decide) (off := 1131) (by decide) (by decide) (law_token X hX hbl hbA hin hcs hs.2.2.2.2.2.2.2.2.2.2.2.2.2.2.2.2.2.1 hrel K H locs ls hC hM hS hl)
      | 18, _ => exact lv_tableIn (tgt := 1239) hx hb dL_law_40 (by decide) (by decide) (off := 1199) (by decide) (by decide) (law_cell X hX hbl hbA hin hcs hs.2.2.2.2.2.2.2.2.2.2.2.2.2.2.2.2.2.2.1 hrel K H locs ls hC hM hS hl)
      | 19, _ => exact lv_tableIn (tgt := 1319) hx hb dL_law_40 (by decide) (by decide) (off := 1279) (by decide) (by decide) (law_rest X hX hbl hbA hin hcs hs.2.2.2.2.2.2.2.2.2.2.2.2.2.2.2.2.2.2.2.1 hrel K H locs ls hC hM hS hl)
      | 20, _ => exact lv_tableIn (tgt := 1387) hx hb dL_law_40 (by decide) (by decide) (off := 1347) (by decide) (by decide) (law_best X hX hbl hbA hin hcs hs.2.2.2.2.2.2.2.2.2.2.2.2.2.2.2.2.2.2.2.2.1 hrel K H locs ls hC hM hS hl)
      | 21, _ => exact lv_tableIn (tgt := 1467) hx hb dL_law_40 (by decide) (by decide) (off := 1427) (by decide) (by decide) (law_price X hX hbl hbA hin hcs hs.2.2.2.2.2.2.2.2.2.2.2.2.2.2.2.2.2.2.2.2.2.1 hrel K H locs ls hC hM hS hl)
      | 22, _ => exact lv_tableIn (tgt := 1535) hx hb dL_law_40 (by decide) (by decide) (off := 1495) (by decide) (by decide) (law_within X hX hbl hbA hin hcs hs.2.2.2.2.2.2.2.2.2.2.2.2.2.2.2.2.2.2.2.2.2.2.1 hrel K H locs ls hC hM hS hl)
      | 23, _ => exact lv_tableIn (tgt := 1603) hx hb dL_law_40 (by decide) (by decide) (off := 1563) (by decide) (by decide) (law_mended X hX hbl hbA hin hcs hs.2.2.2.2.2.2.2.2.2.2.2.2.2.2.2.2.2.2.2.2.2.2.2.1 hrel K H locs ls hC hM hS hl)
      | 24, _ => exact lv_tableIn (tgt := 1671) hx hb dL_law_40 (by decide) (by decide) (off := 1631) (by decide) (by decide) (law_text X hX hbl hbA hin hcs hs.2.2.2.2.2.2.2.2.2.2.2.2.2.2.2.2.2.2.2.2.2.2.2.2.1 hrel K H locs ls hC hM hS hl)
      | 25, _ => exact lv_tableIn (tgt := 1727) hx hb dL_law_40 (by decide) (by decide) (off := 1687) (by decide) (by decide) (law_at X hX hbl hbA hin hcs hs.2.2.2.2.2.2.2.2.2.2.2.2.2.2.2.2.2.2.2.2.2.2.2.2.2.1 hrel K H locs ls hC hM hS hl)
      | 26, _ => exact lv_tableIn (tgt := 1752) hx hb dL_law_40 (by decide) (by decide) (off := 1712) (by decide) (by decide) (law_lost X hX hbl hbA hin hcs hs.2.2.2.2.2.2.2.2.2.2.2.2.2.2.2.2.2.2.2.2.2.2.2.2.2.2.1 hrel K H locs ls hC hM hS hl)
      | 27, _ => exact lv_tableIn (tgt := 1827) hx hb dL_law_40 (by decide) (by decide) (off := 1787) (by decide) (by decide) (law_way X hX hbl hbA hin hcs hs.2.2.2.2.2.2.2.2.2.2.2.2.2.2.2.2.2.2.2.2.2.2.2.2.2.2.2.1 hrel K H locs ls hC hM hS hl)
      | 28, _ => exact lv_tableIn (tgt := 1895) hx hb dL_law_40 (by decide) (by decide) (off := 1855) (by decide) (by decide) (law_edge X hX hbl hbA hin hcs hs.2.2.2.2.2.2.2.2.2.2.2.2.2.2.2.2.2.2.2.2.2.2.2.2.2.2.2.2.1 hrel K H locs ls hC hM hS hl)
      | 29, _ => exact lv_tableIn (tgt := 1975) hx hb dL_law_40 (by decide) (by decide) (off := 1935) (by decide) (by decide) (law_used X hX hbl hbA hin hcs hs.2.2.2.2.2.2.2.2.2.2.2.2.2.2.2.2.2.2.2.2.2.2.2.2.2.2.2.2.2.1 hrel K H locs ls hC hM hS hl)
      | 30, _ => exact lv_tableIn (tgt := 2031) hx hb dL_law_40 (by decide) (by decide) (off := 1991) (by decide) (by decide) (law_dear X hX hbl hbA hin hcs hs.2.2.2.2.2.2.2.2.2.2.2.2.2.2.2.2.2.2.2.2.2.2.2.2.2.2.2.2.2.2.1 hrel K H locs ls hC hM hS hl)
      | 31, _ => exact lv_tableIn (tgt := 2099) hx hb dL_law_40 (by decide) (by decide) (off := 2059) (by decide) (by decide) (law_sentence X hX hbl hbA hin hcs hs.2.2.2.2.2.2.2.2.2.2.2.2.2.2.2.2.2.2.2.2.2.2.2.2.2.2.2.2.2.2.2.1 hrel K H locs ls hC hM hS hl)
      | 32, _ => exact lv_tableIn (tgt := 2155) hx hb dL_law_40 (by decide) (by decide) (off := 2115) (by decide) (by decide) (law_said X hX hbl hbA hin hcs hs.2.2.2.2.2.2.2.2.2.2.2.2.2.2.2.2.2.2.2.2.2.2.2.2.2.2.2.2.2.2.2.2.1 hrel K H locs ls hC hM hS hl)
      | 33, _ => exact lv_tableIn (tgt := 2211) hx hb dL_law_40 (by decide) (by decide) (off := 2171) (by decide) (by decide) (law_apart X hX hbl hbA hin hcs hs.2.2.2.2.2.2.2.2.2.2.2.2.2.2.2.2.2.2.2.2.2.2.2.2.2.2.2.2.2.2.2.2.2.1 hrel K H locs ls hC hM hS hl)
      | 34, _ => exact lv_tableIn (tgt := 2279) hx hb dL_law_40 (by decide) (by decide) (off := 2239) (by decide) (by decide) (law_twin X hX hbl hbA hin hcs hs.2.2.2.2.2.2.2.2.2.2.2.2.2.2.2.2.2.2.2.2.2.2.2.2.2.2.2.2.2.2.2.2.2.2.1 hrel K H locs ls hC hM hS hl)
      | 35, _ => exact lv_tableIn (tgt := 2347) hx hb dL_law_40 (by decide) (by decide) (off := 2307) (by decide) (by decide) (law_twins X hX hbl hbA hin hcs hs.2.2.2.2.2.2.2.2.2.2.2.2.2.2.2.2.2.2.2.2.2.2.2.2.2.2.2.2.2.2.2.2.2.2.2.1 hrel K H locs ls hC hM hS hl)
      | 36, _ => exact lv_tableIn (tgt := 2403) hx hb dL_law_40 (by decide) (by decide) (off := 2363) (by decide) (by decide) (law_status X hX hbl hbA hin hcs hs.2.2.2.2.2.2.2.2.2.2.2.2.2.2.2.2.2.2.2.2.2.2.2.2.2.2.2.2.2.2.2.2.2.2.2.2 hrel K H locs ls hC hM hS hl)
      | j + 37, hj => exact absurd hj (by omega)
end
