def ofC (k : Nat) : Nat := match k with
  | 1 => 55
  | 2 => 0
  | 3 => 1
  | 4 => 2
  | 5 => 3
  | 6 => 4
  | 7 => 5
  | 8 => 6
  | 9 => 7
  | 10 => 8
  | 11 => 9
  | 12 => 10
  | 13 => 11
  | 14 => 12
  | 15 => 13
  | 16 => 14
  | 17 => 15
  | 18 => 16
  | 19 => 17
  | 20 => 18
  | 21 => 19
  | 22 => 20
  | 23 => 21
  | 24 => 22
  | 25 => 23
  | 26 => 24
  | 27 => 25
  | 28 => 26
  | 29 => 27
  | 30 => 28
  | 31 => 29
  | 32 => 30
  | 33 => 31
  | 34 => 32
  | 35 => 33
  | 36 => 34
  | 37 => 35
  | 38 => 36
  | 39 => 37
  | 40 => 38
  | 41 => 39
  | 42 => 40
  | 43 => 41
  | 44 => 42
  | 45 => 43
  | 46 => 44
  | 47 => 45
  | 48 => 46
  | 49 => 47
  | 50 => 48
  | 51 => 49
  | 52 => 50
  | 53 => 51
  | 54 => 52
  | 55 => 53
  | 56 => 54
  | 57 => 56
  | 58 => 57
  | 59 => 58
  | 60 => 59
  | 61 => 60
  | 62 => 61
  | 63 => 62
  | 64 => 63
  | 65 => 64
  | 66 => 65
  | 67 => 67
  | 68 => 68
  | 69 => 69
  | 70 => 70
  | 71 => 71
  | 72 => 72
  | 73 => 73
  | 74 => 66
  | 75 => 74
  | 76 => 75
  | 77 => 76
  | 78 => 77
  | 79 => 78
  | 80 => 79
  | 81 => 80
  | 82 => 81
  | 83 => 82
  | 84 => 83
  | 85 => 84
  | 86 => 85
  | 87 => 86
  | 88 => 87
  | 89 => 88
  | 90 => 89
  | _ => 0
def adC (o sz z : Nat) : Nat → Nat := fun k => if k = 0 then o else if k < 91 then sz + ofC k else z
def aC0 (aX : AH) : AH := fun k => match k with
  | 1 => fcv
  | 2 => fun j => if j = 5 then (-1) else 0
  | 4 => aX 0
  | 5 => aX 1
  | 6 => aX 2
  | 7 => aX 3
  | 8 => aX 4
  | 9 => aX 5
  | 10 => aX 6
  | 11 => aX 7
  | 12 => aX 8
  | 13 => aX 9
  | 14 => aX 10
  | 15 => aX 11
  | 16 => aX 12
  | 17 => aX 13
  | 18 => aX 14
  | _ => fun _ => 0
theorem ofC_inj : ∀ i, i < 91 → ∀ j, j < 91 → i ≠ 0 → j ≠ 0 → ofC i = ofC j → i = j := by decide +kernel
theorem ofC_lt : ∀ i, i < 91 → ofC i < 90 := by decide +kernel
theorem adC_inj {o sz z : Nat} (h1 : o < sz) (h2 : sz + 90 ≤ z) : xInj (adC o sz z) NCC := by
  intro i j hi hj e
  have hi' : i < 92 := hi
  have hj' : j < 92 := hj
  unfold adC at e
  by_cases a : i = 0
  · by_cases b : j = 0
    · omega
    · rw [if_pos a, if_neg b] at e
      by_cases c : j < 91
      · rw [if_pos c] at e; omega
      · rw [if_neg c] at e; omega
  · by_cases b : j = 0
    · rw [if_neg a, if_pos b] at e
      by_cases c : i < 91
      · rw [if_pos c] at e; omega
      · rw [if_neg c] at e; omega
    · rw [if_neg a, if_neg b] at e
      by_cases c : i < 91
      · by_cases d : j < 91
        · rw [if_pos c, if_pos d] at e
          exact ofC_inj i c j d a b (by omega)
        · rw [if_pos c, if_neg d] at e
          have := ofC_lt i c
          omega
      · by_cases d : j < 91
        · rw [if_neg c, if_pos d] at e
          have := ofC_lt j d
          omega
        · omega
theorem adC_in {o sz z k : Nat} (hk : k < NCC) : adC o sz z k = o ∨ (sz ≤ adC o sz z k ∧ adC o sz z k < sz + 90) ∨ adC o sz z k = z := by
  unfold adC
  by_cases a : k = 0
  · rw [if_pos a]; exact Or.inl rfl
  · rw [if_neg a]
    by_cases c : k < 91
    · rw [if_pos c]
      have := ofC_lt k c
      exact Or.inr (Or.inl ⟨by omega, by omega⟩)
    · rw [if_neg c]; exact Or.inr (Or.inr rfl)
theorem ofM_lt {k : Nat} (h : k < 5513) : ofM k < 5512 := by
  have hc : chk (fun k => Nat.ble 5513 k || Nat.blt (ofM k) 5512) 13 0 = true := by decide +kernel
  have := chk_ok 13 0 hc k (Nat.zero_le _) (by omega)
  simpa [Nat.ble_eq, Nat.blt_eq, show ¬ 5513 ≤ k by omega] using this
theorem adM_in {o sz k : Nat} (hk : k < NCM) : adM o sz k = o ∨ (sz ≤ adM o sz k ∧ adM o sz k < sz + 5512) := by
  unfold adM
  by_cases a : k = 0
  · rw [if_pos a]; exact Or.inl rfl
  · rw [if_neg a]
    have := ofM_lt hk
    exact Or.inr ⟨by omega, by omega⟩
theorem wC_all {D : va_G} {ca : Nat → ClassId} {o sz z : Nat} {aX : AH} {H : Heap} (hP : va_P D vwCl (KW o (.inr (11, [.ref (sz + 0), .ref (sz + 2), .ref (sz + 17), .ref (sz + 23), .ref (sz + 29), .ref (sz + 38), .ref (sz + 47), .ref (sz + 51), .ref (sz + 55), .ref (sz + 56), .ref (sz + 66), .ref (sz + 79), .ref (sz + 83), .ref (sz + 87), .int 0, .int 0])) sz (esL_237 ca sz aX)) H) (h91 : H[z]? = some (vp_cell (ca 2) (1, .inr (.inl (fun j => (aC0 aX 91 j).toInt64))))) : va_P D vwCl (xw (EC (adC o sz z) ca) NCC (adC o sz z) (aC0 aX)) H := by
  intro k q hq
  obtain ⟨hk, rfl⟩ := xw_some hq
  have hk' : k < 92 := hk
  clear hq hk
  match k, hk' with
  | 0, _ => exact hP 0 _ rfl
  | 1, _ => exact KW_at hP (i := 55) rfl
  | 2, _ => exact KW_at hP (i := 0) rfl
  | 3, _ => exact KW_at hP (i := 1) rfl
  | 4, _ => exact KW_at hP (i := 2) rfl
  | 5, _ => exact KW_at hP (i := 3) rfl
  | 6, _ => exact KW_at hP (i := 4) rfl
  | 7, _ => exact KW_at hP (i := 5) rfl
  | 8, _ => exact KW_at hP (i := 6) rfl
  | 9, _ => exact KW_at hP (i := 7) rfl
  | 10, _ => exact KW_at hP (i := 8) rfl
  | 11, _ => exact KW_at hP (i := 9) rfl
  | 12, _ => exact KW_at hP (i := 10) rfl
  | 13, _ => exact KW_at hP (i := 11) rfl
  | 14, _ => exact KW_at hP (i := 12) rfl
  | 15, _ => exact KW_at hP (i := 13) rfl
  | 16, _ => exact KW_at hP (i := 14) rfl
  | 17, _ => exact KW_at hP (i := 15) rfl
  | 18, _ => exact KW_at hP (i := 16) rfl
  | 19, _ => exact KW_at hP (i := 17) rfl
  | 20, _ => exact KW_at hP (i := 18) rfl
  | 21, _ => exact KW_at hP (i := 19) rfl
  | 22, _ => exact KW_at hP (i := 20) rfl
  | 23, _ => exact KW_at hP (i := 21) rfl
  | 24, _ => exact KW_at hP (i := 22) rfl
  | 25, _ => exact KW_at hP (i := 23) rfl
  | 26, _ => exact KW_at hP (i := 24) rfl
  | 27, _ => exact KW_at hP (i := 25) rfl
  | 28, _ => exact KW_at hP (i := 26) rfl
  | 29, _ => exact KW_at hP (i := 27) rfl
  | 30, _ => exact KW_at hP (i := 28) rfl
  | 31, _ => exact KW_at hP (i := 29) rfl
  | 32, _ => exact KW_at hP (i := 30) rfl
  | 33, _ => exact KW_at hP (i := 31) rfl
  | 34, _ => exact KW_at hP (i := 32) rfl
  | 35, _ => exact KW_at hP (i := 33) rfl
  | 36, _ => exact KW_at hP (i := 34) rfl
  | 37, _ => exact KW_at hP (i := 35) rfl
  | 38, _ => exact KW_at hP (i := 36) rfl
  | 39, _ => exact KW_at hP (i := 37) rfl
  | 40, _ => exact KW_at hP (i := 38) rfl
  | 41, _ => exact KW_at hP (i := 39) rfl
  | 42, _ => exact KW_at hP (i := 40) rfl
  | 43, _ => exact KW_at hP (i := 41) rfl
  | 44, _ => exact KW_at hP (i := 42) rfl
  | 45, _ => exact KW_at hP (i := 43) rfl
  | 46, _ => exact KW_at hP (i := 44) rfl
  | 47, _ => exact KW_at hP (i := 45) rfl
  | 48, _ => exact KW_at hP (i := 46) rfl
  | 49, _ => exact KW_at hP (i := 47) rfl
  | 50, _ => exact KW_at hP (i := 48) rfl
  | 51, _ => exact KW_at hP (i := 49) rfl
  | 52, _ => exact KW_at hP (i := 50) rfl
  | 53, _ => exact KW_at hP (i := 51) rfl
  | 54, _ => exact KW_at hP (i := 52) rfl
  | 55, _ => exact KW_at hP (i := 53) rfl
  | 56, _ => exact KW_at hP (i := 54) rfl
  | 57, _ => exact KW_at hP (i := 56) rfl
  | 58, _ => exact KW_at hP (i := 57) rfl
  | 59, _ => exact KW_at hP (i := 58) rfl
  | 60, _ => exact KW_at hP (i := 59) rfl
  | 61, _ => exact KW_at hP (i := 60) rfl
  | 62, _ => exact KW_at hP (i := 61) rfl
  | 63, _ => exact KW_at hP (i := 62) rfl
  | 64, _ => exact KW_at hP (i := 63) rfl
  | 65, _ => exact KW_at hP (i := 64) rfl
  | 66, _ => exact KW_at hP (i := 65) rfl
  | 67, _ => exact KW_at hP (i := 67) rfl
  | 68, _ => exact KW_at hP (i := 68) rfl
  | 69, _ => exact KW_at hP (i := 69) rfl
  | 70, _ => exact KW_at hP (i := 70) rfl
  | 71, _ => exact KW_at hP (i := 71) rfl
  | 72, _ => exact KW_at hP (i := 72) rfl
  | 73, _ => exact KW_at hP (i := 73) rfl
  | 74, _ => exact KW_at hP (i := 66) rfl
  | 75, _ => exact KW_at hP (i := 74) rfl
  | 76, _ => exact KW_at hP (i := 75) rfl
  | 77, _ => exact KW_at hP (i := 76) rfl
  | 78, _ => exact KW_at hP (i := 77) rfl
  | 79, _ => exact KW_at hP (i := 78) rfl
  | 80, _ => exact KW_at hP (i := 79) rfl
  | 81, _ => exact KW_at hP (i := 80) rfl
  | 82, _ => exact KW_at hP (i := 81) rfl
  | 83, _ => exact KW_at hP (i := 82) rfl
  | 84, _ => exact KW_at hP (i := 83) rfl
  | 85, _ => exact KW_at hP (i := 84) rfl
  | 86, _ => exact KW_at hP (i := 85) rfl
  | 87, _ => exact KW_at hP (i := 86) rfl
  | 88, _ => exact KW_at hP (i := 87) rfl
  | 89, _ => exact KW_at hP (i := 88) rfl
  | 90, _ => exact KW_at hP (i := 89) rfl
  | 91, _ => exact h91
  | k + 92, h => exact absurd h (by omega)
section
variable {p : Program} {l : Launch} {e : Env} {s : State} {m : MethodId} {b : Nat} {below : List Frame} {meth : Method} {c : Code} {D : va_G} {Q : State → Prop}
theorem s_new {tys : List (ClassId × FieldType)} (hx : p.tables.exec = Jvm.exec) (hb : c.code = code) (hown : s.vm.findClass RL = some m.cls) (hg : ∀ w ∈ xWs, w.before #[Value.ref b] s = true) (hK : va_K D vwCl tys s) {C0 : String} {T : u_T} {N ci ix : Nat} (ty : Nat → FieldType) (hin : ∀ w ∈ u_ws C0 T N, w ∈ xWs) (hty : ∀ k, k < N → parseFieldDescriptor (T k).2.2.1 = some (ty k)) (hcl : Cond.classLink RL ix C0 ∈ xWs) (hinst : Cond.instantiable C0 N ∈ xWs) (hini : Cond.initialized C0 ∈ xWs) (hc : vwCl[ci]? = some (C0, T, N)) (fs : List Value) (hfs : ∀ j, j < N → defaultValue (ty j) = vp_V fs j) {H : Heap} {locs : List Loc} {ls : Array Slot} {st : List Value} {cs sl pc : Nat} (hR : cs + 1 ≤ room_1.cells ∧ sl + N ≤ room_1.slots) (hd : decode code pc = .ok (.new ix, 3)) (h : Nat) (hh : H.size = h)
    (kk : ∀ H1 : Heap, H1.size = h + 1 → va_at D vwCl (h, .inr (ci, fs)) H1 → (∀ q : Nat, q < h → H1[q]? = H[q]?) → W p l e room_1 s m #[Value.ref b] below meth c H1 locs (cs + 1) (sl + N) Q (F0 m (pc + 3) ls (.ref h :: st))) : W p l e room_1 s m #[Value.ref b] below meth c H locs cs sl Q (F0 m pc ls st) := by
  have hKn := hK.1 ci _ hc
  refine W.newcK hx hb hown (hg _ hcl) (hg _ hinst) (hg _ hini) rfl hd hR.1 hR.2 hKn.2.1 hh fun H1 kC hkC e1 z1 o1 => ?_
  exact kk H1 z1 ⟨_, hc, (u_born ty hg hin hKn hkC e1 hty).to hfs⟩ o1
theorem kPF_blind {cl : List vw_C} {tys : List (ClassId × FieldType)} {o : Nat} {e0 : va_E} {sz : Nat} {avs : List Value} {A : Nat → Prop} {c0 : ClassId} : FrameBlind (va_Pc avs (fun U => kPre D cl tys o e0 sz U ∧ xFC A c0 U)) := by
  intro a U g mk q
  obtain ⟨q0, ⟨q1, q2, q3, qK, qN⟩, qF⟩ := q
  exact ⟨q0, ⟨q1, q2, q3, va_K.moved (u := U) (U := U.calling g mk a) (Vm.Alike.refl U.vm) qK, fun w hw => va_Nw.same rfl rfl (qN w hw)⟩, xFC.same (U := U.calling g mk a) qF rfl rfl⟩
theorem kPM_blind {cl : List vw_C} {tys : List (ClassId × FieldType)} {o : Nat} {e0 : va_E} {sz : Nat} {avs : List Value} {ca : Nat → ClassId} : FrameBlind (va_Pc avs (fun U => kPre D cl tys o e0 sz U ∧ xMA ca U.vm)) := by
  intro a U g mk q
  obtain ⟨q0, ⟨q1, q2, q3, qK, qN⟩, qF⟩ := q
  exact ⟨q0, ⟨q1, q2, q3, va_K.moved (u := U) (U := U.calling g mk a) (Vm.Alike.refl U.vm) qK, fun w hw => va_Nw.same rfl rfl (qN w hw)⟩, qF⟩
theorem one_P {q : Nat × va_E} {H : Heap} (h : va_at D vwCl q H) : va_P D vwCl [q] H := fun k x hx => by
  have hk1 : k < 1 := (List.getElem?_eq_some_iff.mp hx).1
  rw [show k = 0 by omega] at hx
  cases hx
  exact h
theorem law_start {N : Nat} {Rel : AH → AH → Prop} (hs : SimAll N Rel) {aX aM1 : AH} (hX2 : FX_X2_clear N kah = some aX) (hM2 : F_X12_plants N aMb = some aM1) (hrel : Rel (aC0 aX) aM1) (hflags : l.flags = flags0) {L : Nat} {xs : Nat → Int32} (hL : L ≤ 3072) (C0 : lw_At p s m meth c b L xs) : W p l e room_1 s m #[Value.ref b] below meth c s.heap [] 0 0 (lw_Z below #[Value.ref b] s) (entryFrame m ([Value.ref b] : List Value).toArray 7) := by
  obtain ⟨hx, hb, hr, hml, hown, hts, hXs, hbl, hlocks, hgv⟩ := id C0
  have hg := st_good hts
  obtain ⟨D, hD⟩ := st_D hg
  obtain ⟨caC, caM, hKC, hKM, hMA⟩ := st_ca hts hD
  have hN := st_nest hts
  have hT := st_thr hts hgv
  have hF := st_fc (c0 := caC 0) ((hKC.2 0 _ rfl).2) hts hgv
  have hl := lv_entry ([.ref b]) (n := 7) (Nat.le_of_ble_eq_true rfl)
  rw [lg_entry_eq]
  generalize (lg_sl ([.ref b]) ++ List.replicate (7 - (lg_sl ([.ref b])).length) Slot.unset).toArray = ls at hl ⊢
  have hl : lv_has ls 7 [(0, .ref b)] := hl
  generalize hz : s.heap.size = o at *
  have hS : va_S (fun q : Nat => s.heap.size ≤ q) s.heap s.heap [] := va_S.rf
  refine s_new (ci := 11) hx hb hown hg hKC tyX11 inX11 tyX11_ok wmd_L_8 wmb_X11 wmn_X11 rfl [.null, .null, .null, .null, .null, .null, .null, .null, .null, .null, .null, .null, .null, .null, .int 0, .int 0] (fun j hj => by match j, hj with | 0, _ => rfl | 1, _ => rfl | 2, _ => rfl | 3, _ => rfl | 4, _ => rfl | 5, _ => rfl | 6, _ => rfl | 7, _ => rfl | 8, _ => rfl | 9, _ => rfl | 10, _ => rfl | 11, _ => rfl | 12, _ => rfl | 13, _ => rfl | 14, _ => rfl | 15, _ => rfl | j + 16, hj => exact absurd hj (by omega)) ⟨by decide, by decide⟩ dL_law_0 o hz (fun H1 z1 a1 o1 => ?_)
  have hS1 : va_S (fun q : Nat => s.heap.size ≤ q) s.heap H1 [] := ⟨by omega, fun q h1 h2 => o1 q (by omega), fun l h => by cases h⟩
  refine lv_dup hx hb dL_law_3 rfl ?_
  have cb := callB_of (R := room_1) (own := RL) (index := 113) (ws := Cond.code yX11_init cX11_init 1 none :: xWs) (ws' := xWs) (rm := rm_X11_init) (mc := 90) (ms := 100959) 0 hg (xGood yX11_init cX11_init 1 none wmc_X11_init) rfl rfl rfl (hg _ wmn_X11) (hg _ wml_L_113) (by decide +kernel) ⟨by decide, by decide⟩
  refine va_callv (va_runI (As := []) (rest := [.ref o]) ⟨hx, hb, hml, hown, hg⟩ (k_X11 (D := D) (ca := caC) (o := o) (sz := o + 1) hX2) ⟨cb, rfl, hg _ wmi_X11_init⟩ ⟨kPF_blind, fun U hU hW => ⟨rfl, ⟨by rw [hU]; exact one_P a1, by rw [hU]; exact z1, by omega, va_K.moved hW.alike hKC, hN.warm hW⟩, hF.go hW (fun q h1 h2 => by rw [hU]; exact o1 q (by omega)) (fun q h => by rcases h with rfl | h <;> omega)⟩⟩ rfl rfl hl.1 rfl (lv_room (Nat.le_of_ble_eq_true rfl)) dL_law_4 ⟨by decide, by decide⟩) hS1 (fun q _ h => by show s.heap.size ≤ q; rcases h with rfl | h <;> omega) (fun q h => by show s.heap.size ≤ q; rcases h with rfl | h <;> omega) (fun u t H2 locs2 ht hvm _ hB _ hk2 hS2 => ?_)
  obtain ⟨hP2, z2, -⟩ := hB
  rw [ht] at hP2 z2
  have z2 : H2.size = o + 91 := z2
  refine lv_astore_n (lv' := [(1, .ref o), (0, .ref b)]) hx hb dL_law_7 rfl hl (by decide) rfl (fun ls hl => ?_)
  refine s_new (ci := 12) hx hb hown hg hKM tyX12 inX12 tyX12_ok wmd_L_114 wmb_X12 wmn_X12 rfl [.int 0, .null, .int 0, .int 0, .int 0, .int 0, .int 0, .int 0, .null, .null, .int 0, .null, .null, .null, .null, .int 0, .null, .null, .null, .null, .null, .null, .null, .null, .null, .null, .int 0, .null, .null, .null, .null, .null, .null, .int 0, .null, .null, .null, .null, .null, .null, .null, .null, .int 0, .int 0, .int 0, .null, .null, .null, .null, .int 0, .int 0, .int 0, .int 0, .int 0, .null, .null, .null, .null, .null, .null, .null, .null, .int 0, .null, .null, .null, .null, .null, .null, .int 0, .int 0, .int 0, .null, .null] (fun j hj => by match j, hj with | 0, _ => rfl | 1, _ => rfl | 2, _ => rfl | 3, _ => rfl | 4, _ => rfl | 5, _ => rfl | 6, _ => rfl | 7, _ => rfl | 8, _ => rfl | 9, _ => rfl | 10, _ => rfl | 11, _ => rfl | 12, _ => rfl | 13, _ => rfl | 14, _ => rfl | 15, _ => rfl | 16, _ => rfl | 17, _ => rfl | 18, _ => rfl | 19, _ => rfl | 20, _ => rfl | 21, _ => rfl | 22, _ => rfl | 23, _ => rfl | 24, _ => rfl | 25, _ => rfl | 26, _ => rfl | 27, _ => rfl | 28, _ => rfl | 29, _ => rfl | 30, _ => rfl | 31, _ => rfl | 32, _ => rfl | 33, _ => rfl | 34, _ => rfl | 35, _ => rfl | 36, _ => rfl | 37, _ => rfl | 38, _ => rfl | 39, _ => rfl | 40, _ => rfl | 41, _ => rfl | 42, _ => rfl | 43, _ => rfl | 44, _ => rfl | 45, _ => rfl | 46, _ => rfl | 47, _ => rfl | 48, _ => rfl | 49, _ => rfl | 50, _ => rfl | 51, _ => rfl | 52, _ => rfl | 53, _ => rfl | 54, _ => rfl | 55, _ => rfl | 56, _ => rfl | 57, _ => rfl | 58, _ => rfl | 59, _ => rfl | 60, _ => rfl | 61, _ => rfl | 62, _ => rfl | 63, _ => rfl | 64, _ => rfl | 65, _ => rfl | 66, _ => rfl | 67, _ => rfl | 68, _ => rfl | 69, _ => rfl | 70, _ => rfl | 71, _ => rfl | 72, _ => rfl | 73, _ => rfl | j + 74, hj => exact absurd hj (by omega)) ⟨by decide, by decide⟩ dL_law_8 (o + 91) z2 (fun H3 z3 a3 o3 => ?_)
  have hS3 : va_S (fun q : Nat => s.heap.size ≤ q) s.heap H3 locs2 := ⟨by omega, fun q h1 h2 => (o3 q (by omega)).trans (hS2.2.1 q h1 h2), hS2.2.2⟩
  have hP3 := hP2.kept (H1 := H3) (fun k x hx => o3 x.1 (by have := (hP2 k x hx).lt; omega))
  refine lv_dup hx hb dL_law_11 rfl ?_
  have cb := callB_of (R := room_1) (own := RL) (index := 116) (ws := Cond.code yX12_init cX12_init 1 none :: xWs) (ws' := xWs) (rm := rm_X12_init) (mc := 5512) (ms := 105527) 0 hg (xGood yX12_init cX12_init 1 none wmc_X12_init) rfl rfl rfl (hg _ wmn_X12) (hg _ wml_L_116) (by decide +kernel) ⟨by decide, by decide⟩
  refine va_callv (va_runI (As := []) (rest := [.ref (o + 91)]) ⟨hx, hb, hml, hown, hg⟩ (k_X12 (D := D) (ca := caM) (o := o + 91) (sz := o + 92) hM2) ⟨cb, rfl, hg _ wmi_X12_init⟩ ⟨kPM_blind, fun U hU hW => ⟨rfl, ⟨by rw [hU]; exact one_P a3, by rw [hU]; exact z3, by omega, va_K.moved hW.alike hKM, hN.warm hW⟩, hMA.alike hW.alike⟩⟩ rfl rfl hl.1 rfl (lv_room (Nat.le_of_ble_eq_true rfl)) dL_law_12 ⟨by decide, by decide⟩) hS3 (fun q _ h => by show s.heap.size ≤ q; rcases h with rfl | h <;> omega) (fun q h => by show s.heap.size ≤ q; rcases h with rfl | h <;> omega) (fun u t H4 locs4 ht hvm _ hB _ hk4 hS4 => ?_)
  obtain ⟨⟨hP4, -⟩, z4⟩ := hB
  rw [ht] at hP4 z4
  have z4 : H4.size = o + 5604 := z4
  have hC4 := hP3.kept (H1 := H4) (fun k x hx => hk4 x.1 ((hP3 k x hx).lt) (fun h => by
    have h9 := (hP2 k x hx).lt
    rcases h with h | h <;> omega))
  refine lv_astore_n (lv' := [(2, .ref (o + 91)), (1, .ref o), (0, .ref b)]) hx hb dL_law_15 rfl hl (by decide) rfl (fun ls hl => ?_)
  refine lv_iconst (v := 1) hx hb dL_law_16 (by decide) ?_
  refine va_newaK (atype := .long) hx hb (hg _ wma_long) rfl dL_law_17 rfl (by decide) (N := 1) (by decide) (Nat.le_of_ble_eq_true rfl) (Nat.le_of_ble_eq_true rfl) (Nat.le_of_ble_eq_true rfl) z4 (fun H5 cA e5 z5 o5 hAr hNm => ?_)
  have hcA : cA = caC 2 := Option.some.inj (hNm.symm.trans ((hKC.2 2 _ rfl).2))
  subst hcA
  have hC5 := wC_all (z := o + 5604) (hC4.kept (H1 := H5) (fun k x hx => o5 x.1 (by have := (hC4 k x hx).lt; omega))) e5
  have hM5 := hP4.kept (H1 := H5) (fun k x hx => o5 x.1 (by have := (hP4 k x hx).lt; omega))
  have hS5 : va_S (fun q : Nat => s.heap.size ≤ q) s.heap H5 locs4 := ⟨by omega, fun q h1 h2 => (o5 q (by omega)).trans (hS4.2.1 q h1 h2), hS4.2.2⟩
  refine lv_astore_n (lv' := [(3, .ref (o + 5604)), (2, .ref (o + 91)), (1, .ref o), (0, .ref b)]) hx hb dL_law_19 rfl hl (by decide) rfl (fun ls hl => ?_)
  refine lv_iconst (v := 0) hx hb dL_law_20 (by decide) ?_
  refine lv_istore (lv' := [(4, .int 0), (3, .ref (o + 5604)), (2, .ref (o + 91)), (1, .ref o), (0, .ref b)]) hx hb dL_law_21 hl (by decide) rfl (fun ls hl => ?_)
  have X : LX p l s m b meth c D (adC o (o + 1) (o + 5604)) caC (adM (o + 91) (o + 92)) caM := by
    refine ⟨hx, hb, hml, hown, hg, hKC, hKM, hN, ?_, st_flags hflags, adC_inj (by omega) (by omega), adM_inj (by omega), fun k hk => ?_, fun k hk => ?_, fun i j hi hj => ?_⟩
    · rw [hz]; exact hT
    · rw [hz]; rcases adC_in (o := o) (sz := o + 1) (z := o + 5604) hk with h | h | h <;> omega
    · rw [hz]; rcases adM_in (o := o + 91) (sz := o + 92) hk with h | h <;> omega
    · rcases adC_in (o := o) (sz := o + 1) (z := o + 5604) hi with h | h | h <;> rcases adM_in (o := o + 91) (sz := o + 92) hj with h' | h' <;> omega
  have hl2 := lv_sub hl [4, 3, 2, 1, 0] rfl
  exact law_loop X hXs (by omega) hlocks hr hL hs (L + 1) 0 _ _ _ _ (Nat.zero_le L) (by omega) (by omega) (by omega) hrel H5 locs4 ls hC5 hM5 hS5 hl2
end
