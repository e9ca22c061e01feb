abbrev lf_X12_thrown : List Nat := []
theorem fb_X12_thrown {a0 : AH} {N : Nat} {ah : AH}  (hah : Fr rgM lf_X12_thrown a0 ah) : Sf hpI rgM lf_X12_thrown a0 (F_X12_thrown N ah) := by
  unfold F_X12_thrown
  exact Sf.ret hah
abbrev lf_X12_bad : List Nat := [0, 101]
theorem fb_X12_bad_26 {a0 : AH} {N : Nat} {ah : AH}  (hah : Fr rgM lf_X12_bad a0 ah) : Sf hpI rgM lf_X12_bad a0 (F_X12_bad_26 N ah) := by
  unfold F_X12_bad_26
  refine Sf.ite ?_ ?_
  · exact Sf.ret hah
  · exact Sf.ret hah
theorem fb_X12_bad {a0 : AH} {N : Nat} {ah : AH} {p1 : Int32} {p2 : Int32} {p3 : Int32}  (hah : Fr rgM lf_X12_bad a0 ah) : Sf hpI rgM lf_X12_bad a0 (F_X12_bad N ah p1 p2 p3) := by
  unfold F_X12_bad
  refine Sf.ite ?_ ?_
  · exact fb_X12_bad_26 hah
  · refine Sf.ite ?_ ?_
    · refine Sf.let_xu hah rfl (fun a13 ha13 => ?_)
      refine Sf.g (fun _ => ?_)
      refine Sf.g (fun _ => ?_)
      refine Sf.let_xu ha13 rfl (fun a25 ha25 => ?_)
      exact fb_X12_bad_26 ha25
    · exact fb_X12_bad_26 hah
abbrev lf_X12_in : List Nat := []
theorem fb_X12_in {a0 : AH} {N : Nat} {ah : AH} {p0 : Int32} {p1 : Int32} {p2 : Int32}  (hah : Fr rgM lf_X12_in a0 ah) : Sf hpI rgM lf_X12_in a0 (F_X12_in N ah p0 p1 p2) := by
  unfold F_X12_in
  refine Sf.ite ?_ ?_
  · exact Sf.ret hah
  · refine Sf.ite ?_ ?_
    · exact Sf.ret hah
    · exact Sf.ret hah
abbrev lf_X12_less : List Nat := []
theorem fb_X12_less {a0 : AH} {N : Nat} {ah : AH} {p0 : Int32} {p1 : Int32}  (hah : Fr rgM lf_X12_less a0 ah) : Sf hpI rgM lf_X12_less a0 (F_X12_less N ah p0 p1) := by
  unfold F_X12_less
  refine Sf.ite ?_ ?_
  · exact Sf.ret hah
  · exact Sf.ret hah
abbrev lf_X12_more : List Nat := []
theorem fb_X12_more {a0 : AH} {N : Nat} {ah : AH} {p0 : Int32} {p1 : Int32}  (hah : Fr rgM lf_X12_more a0 ah) : Sf hpI rgM lf_X12_more a0 (F_X12_more N ah p0 p1) := by
  unfold F_X12_more
  refine Sf.ite ?_ ?_
  · exact Sf.ret hah
  · exact Sf.ret hah
abbrev lf_X12_feed : List Nat := [0, 2, 102]
theorem fb_X12_feed_76 {a0 : AH} {N : Nat} {k23 : AH → Int32 → Int32 → Int32 → Int32 → Int32 → Int32 → Option (Int32 × AH)} {ah : AH} {v1 : Int32} {v2 : Int32} {v3 : Int32} {v4 : Int32} {v5 : Int32} {v6 : Int32} {s0 : Int32} (hk23 : ∀ {z0 : AH} {z1 : Int32} {z2 : Int32} {z3 : Int32} {z4 : Int32} {z5 : Int32} {z6 : Int32}, Fr rgM lf_X12_feed a0 z0 → Sf hpI rgM lf_X12_feed a0 (k23 z0 z1 z2 z3 z4 z5 z6)) (hah : Fr rgM lf_X12_feed a0 ah) : Sf hpI rgM lf_X12_feed a0 (F_X12_feed_76 N k23 ah v1 v2 v3 v4 v5 v6 s0) := by
  unfold F_X12_feed_76
  refine Sf.let_v (fun v7_76 => ?_)
  refine Sf.z ?_
  refine Sf.g (fun _ => ?_)
  refine Sf.let_xu hah rfl (fun a103 ha103 => ?_)
  refine Sf.let_xu ha103 rfl (fun a111 ha111 => ?_)
  refine Sf.let_v (fun v6_114 => ?_)
  exact hk23 ha111
theorem fb_X12_feed_23 {a0 : AH} {N : Nat}  : ∀ (n : Nat) {ah : AH} {v1 : Int32} {v2 : Int32} {v3 : Int32} {v4 : Int32} {v5 : Int32} {v6 : Int32}  (hah : Fr rgM lf_X12_feed a0 ah), Sf hpI rgM lf_X12_feed a0 (F_X12_feed_23 N n ah v1 v2 v3 v4 v5 v6) := by
  intro n
  induction n with
  | zero => intros; exact Sf.none
  | succ n ih =>
    intro ah v1 v2 v3 v4 v5 v6  hah
    unfold F_X12_feed_23
    refine Sf.ite ?_ ?_
    · exact Sf.ret hah
    · refine Sf.ite ?_ ?_
      · refine Sf.ite ?_ ?_
        · refine Sf.ite ?_ ?_
          · refine Sf.ite ?_ ?_
            · exact fb_X12_feed_76 (fun h => ih h) hah
            · exact fb_X12_feed_76 (fun h => ih h) hah
          · exact fb_X12_feed_76 (fun h => ih h) hah
        · exact fb_X12_feed_76 (fun h => ih h) hah
      · exact fb_X12_feed_76 (fun h => ih h) hah
theorem fb_X12_feed {a0 : AH} {N : Nat} {ah : AH} {p1 : Int32} {p2 : Int32} {p3 : Int32} {p4 : Int32} {p5 : Int32}  (hah : Fr rgM lf_X12_feed a0 ah) : Sf hpI rgM lf_X12_feed a0 (F_X12_feed N ah p1 p2 p3 p4 p5) := by
  unfold F_X12_feed
  refine Sf.let_xu hah rfl (fun a2 ha2 => ?_)
  refine Sf.ite ?_ ?_
  · refine Sf.let_v (fun v6_21 => ?_)
    exact fb_X12_feed_23 _ ha2
  · exact Sf.ret ha2
abbrev lf_X12_byteAt : List Nat := []
theorem fb_X12_byteAt {a0 : AH} {N : Nat} {ah : AH} {p1 : Int32}  (hah : Fr rgM lf_X12_byteAt a0 ah) : Sf hpI rgM lf_X12_byteAt a0 (F_X12_byteAt N ah p1) := by
  unfold F_X12_byteAt
  refine Sf.ite ?_ ?_
  · refine Sf.g (fun _ => ?_)
    exact Sf.ret hah
  · exact Sf.ret hah
abbrev lf_X12_here : List Nat := []
theorem fb_X12_here {a0 : AH} {N : Nat} {ah : AH}  (hah : Fr rgM lf_X12_here a0 ah) : Sf hpI rgM lf_X12_here a0 (F_X12_here N ah) := by
  unfold F_X12_here
  refine Sf.b (fb_X12_byteAt Fr.rf) hah rfl (fun r5 a5 ha5 => ?_)
  exact Sf.ret ha5
abbrev lf_X12_blanks : List Nat := [4]
theorem fb_X12_blanks_0 {a0 : AH} {N : Nat}  : ∀ (n : Nat) {ah : AH}  (hah : Fr rgM lf_X12_blanks a0 ah), Sf hpI rgM lf_X12_blanks a0 (F_X12_blanks_0 N n ah) := by
  intro n
  induction n with
  | zero => intros; exact Sf.none
  | succ n ih =>
    intro ah  hah
    unfold F_X12_blanks_0
    refine Sf.b (fb_X12_here Fr.rf) hah rfl (fun r1 a1 ha1 => ?_)
    refine Sf.ite ?_ ?_
    · refine Sf.let_xu ha1 rfl (fun a16 ha16 => ?_)
      exact ih ha16
    · refine Sf.b (fb_X12_here Fr.rf) ha1 rfl (fun r23 a23 ha23 => ?_)
      exact Sf.ret ha23
theorem fb_X12_blanks {a0 : AH} {N : Nat} {ah : AH}  (hah : Fr rgM lf_X12_blanks a0 ah) : Sf hpI rgM lf_X12_blanks a0 (F_X12_blanks N ah) := by
  unfold F_X12_blanks
  exact fb_X12_blanks_0 _ hah
abbrev lf_X12_fine : List Nat := []
theorem fb_X12_fine {a0 : AH} {N : Nat} {ah : AH}  (hah : Fr rgM lf_X12_fine a0 ah) : Sf hpI rgM lf_X12_fine a0 (F_X12_fine N ah) := by
  unfold F_X12_fine
  refine Sf.ite ?_ ?_
  · exact Sf.ret hah
  · exact Sf.ret hah
abbrev lf_X12_wrong : List Nat := [6, 7]
theorem fb_X12_wrong {a0 : AH} {N : Nat} {ah : AH} {p1 : Int32} {p2 : Int32}  (hah : Fr rgM lf_X12_wrong a0 ah) : Sf hpV rgM lf_X12_wrong a0 (F_X12_wrong N ah p1 p2) := by
  unfold F_X12_wrong
  refine Sf.ite ?_ ?_
  · refine Sf.let_xu hah rfl (fun a9 ha9 => ?_)
    refine Sf.let_xu ha9 rfl (fun a14 ha14 => ?_)
    exact Sf.ret ha14
  · exact Sf.ret hah
abbrev lf_X12_starts : List Nat := [2, 3, 4, 6, 7]
theorem fb_X12_starts {a0 : AH} {N : Nat} {ah : AH} {p1 : Int32}  (hah : Fr rgM lf_X12_starts a0 ah) : Sf hpV rgM lf_X12_starts a0 (F_X12_starts N ah p1) := by
  unfold F_X12_starts
  refine Sf.let_xu hah rfl (fun a2 ha2 => ?_)
  refine Sf.let_xu ha2 rfl (fun a7 ha7 => ?_)
  refine Sf.let_xu ha7 rfl (fun a12 ha12 => ?_)
  refine Sf.let_xu ha12 rfl (fun a17 ha17 => ?_)
  refine Sf.let_xu ha17 rfl (fun a22 ha22 => ?_)
  exact Sf.ret ha22
abbrev lf_X12_ends : List Nat := [5]
theorem fb_X12_ends {a0 : AH} {N : Nat} {ah : AH} {p1 : Int32}  (hah : Fr rgM lf_X12_ends a0 ah) : Sf hpI rgM lf_X12_ends a0 (F_X12_ends N ah p1) := by
  unfold F_X12_ends
  refine Sf.let_xu hah rfl (fun a5 ha5 => ?_)
  refine Sf.b (fb_X12_fine Fr.rf) ha5 rfl (fun r9 a9 ha9 => ?_)
  refine Sf.ite ?_ ?_
  · exact Sf.ret ha9
  · exact Sf.ret ha9
abbrev lf_X12_isDigit : List Nat := []
theorem fb_X12_isDigit {a0 : AH} {N : Nat} {ah : AH} {p0 : Int32}  (hah : Fr rgM lf_X12_isDigit a0 ah) : Sf hpI rgM lf_X12_isDigit a0 (F_X12_isDigit N ah p0) := by
  unfold F_X12_isDigit
  refine Sf.ite ?_ ?_
  · exact Sf.ret hah
  · refine Sf.ite ?_ ?_
    · exact Sf.ret hah
    · exact Sf.ret hah
abbrev lf_X12_isSmall : List Nat := []
theorem fb_X12_isSmall {a0 : AH} {N : Nat} {ah : AH} {p0 : Int32}  (hah : Fr rgM lf_X12_isSmall a0 ah) : Sf hpI rgM lf_X12_isSmall a0 (F_X12_isSmall N ah p0) := by
  unfold F_X12_isSmall
  refine Sf.ite ?_ ?_
  · exact Sf.ret hah
  · refine Sf.ite ?_ ?_
    · exact Sf.ret hah
    · exact Sf.ret hah
abbrev lf_X12_number : List Nat := [4, 6, 7]
theorem fb_X12_number_95 {a0 : AH} {N : Nat} {ah : AH} {v1 : Int32} {v4 : Int32}  (hah : Fr rgM lf_X12_number a0 ah) : Sf hpI rgM lf_X12_number a0 (F_X12_number_95 N ah v1 v4) := by
  unfold F_X12_number_95
  refine Sf.b (fb_X12_fine Fr.rf) hah rfl (fun r96 a96 ha96 => ?_)
  refine Sf.ite ?_ ?_
  · exact Sf.ret ha96
  · exact Sf.ret ha96
theorem fb_X12_number_36 {a0 : AH} {N : Nat}  : ∀ (n : Nat) {ah : AH} {v1 : Int32} {v2 : Int32} {v3 : Int32} {v4 : Int32}  (hah : Fr rgM lf_X12_number a0 ah), Sf hpI rgM lf_X12_number a0 (F_X12_number_36 N n ah v1 v2 v3 v4) := by
  intro n
  induction n with
  | zero => intros; exact Sf.none
  | succ n ih =>
    intro ah v1 v2 v3 v4  hah
    unfold F_X12_number_36
    refine Sf.b (fb_X12_here Fr.rf) hah rfl (fun r37 a37 ha37 => ?_)
    refine Sf.b (fb_X12_isDigit Fr.rf) ha37 rfl (fun r40 a40 ha40 => ?_)
    refine Sf.ite ?_ ?_
    · refine Sf.b (fb_X12_in Fr.rf) ha40 rfl (fun r83 a83 ha83 => ?_)
      refine Sf.ite ?_ ?_
      · refine Sf.bv (fb_X12_wrong Fr.rf) ha83 rfl (fun a92 ha92 => ?_)
        exact fb_X12_number_95 ha92
      · exact fb_X12_number_95 ha83
    · refine Sf.b (fb_X12_here Fr.rf) ha40 rfl (fun r54 a54 ha54 => ?_)
      refine Sf.b (fb_X12_less Fr.rf) ha54 rfl (fun r61 a61 ha61 => ?_)
      refine Sf.let_v (fun v4_64 => ?_)
      refine Sf.let_xu ha61 rfl (fun a73 ha73 => ?_)
      exact ih ha73
theorem fb_X12_number_28 {a0 : AH} {N : Nat} {ah : AH} {v1 : Int32} {v2 : Int32}  (hah : Fr rgM lf_X12_number a0 ah) : Sf hpI rgM lf_X12_number a0 (F_X12_number_28 N ah v1 v2) := by
  unfold F_X12_number_28
  refine Sf.let_v (fun v3_32 => ?_)
  refine Sf.let_v (fun v4_34 => ?_)
  exact fb_X12_number_36 _ hah
theorem fb_X12_number {a0 : AH} {N : Nat} {ah : AH} {p1 : Int32} {p2 : Int32}  (hah : Fr rgM lf_X12_number a0 ah) : Sf hpI rgM lf_X12_number a0 (F_X12_number N ah p1 p2) := by
  unfold F_X12_number
  refine Sf.b (fb_X12_fine Fr.rf) hah rfl (fun r1 a1 ha1 => ?_)
  refine Sf.ite ?_ ?_
  · exact Sf.ret ha1
  · refine Sf.b (fb_X12_here Fr.rf) ha1 rfl (fun r10 a10 ha10 => ?_)
    refine Sf.b (fb_X12_isDigit Fr.rf) ha10 rfl (fun r13 a13 ha13 => ?_)
    refine Sf.ite ?_ ?_
    · refine Sf.bv (fb_X12_wrong Fr.rf) ha13 rfl (fun a25 ha25 => ?_)
      exact fb_X12_number_28 ha25
    · exact fb_X12_number_28 ha13
abbrev lf_X12_closes : List Nat := [4, 6, 7]
theorem fb_X12_closes {a0 : AH} {N : Nat} {ah : AH}  (hah : Fr rgM lf_X12_closes a0 ah) : Sf hpV rgM lf_X12_closes a0 (F_X12_closes N ah) := by
  unfold F_X12_closes
  refine Sf.b (fb_X12_fine Fr.rf) hah rfl (fun r1 a1 ha1 => ?_)
  refine Sf.ite ?_ ?_
  · exact Sf.ret ha1
  · refine Sf.b (fb_X12_blanks Fr.rf) ha1 rfl (fun r9 a9 ha9 => ?_)
    refine Sf.ite ?_ ?_
    · refine Sf.let_xu ha9 rfl (fun a24 ha24 => ?_)
      exact Sf.ret ha24
    · refine Sf.bv (fb_X12_wrong Fr.rf) ha9 rfl (fun a36 ha36 => ?_)
      exact Sf.ret ha36
abbrev lf_X12_readsSigns : List Nat := [4, 6, 7, 105, 200]
theorem fb_X12_readsSigns_47 {a0 : AH} {N : Nat} {k2 : AH → Int32 → Int32 → Option (Int32 × AH)} {ah : AH} {v1 : Int32} {v2 : Int32} (hk2 : ∀ {z0 : AH} {z1 : Int32} {z2 : Int32}, Fr rgM lf_X12_readsSigns a0 z0 → Sf hpI rgM lf_X12_readsSigns a0 (k2 z0 z1 z2)) (hah : Fr rgM lf_X12_readsSigns a0 ah) : Sf hpI rgM lf_X12_readsSigns a0 (F_X12_readsSigns_47 N k2 ah v1 v2) := by
  unfold F_X12_readsSigns_47
  refine Sf.b (fb_X12_fine Fr.rf) hah rfl (fun r48 a48 ha48 => ?_)
  refine Sf.ite ?_ ?_
  · exact Sf.ret ha48
  · refine Sf.g (fun _ => ?_)
    refine Sf.let_c ?_
    refine Sf.b (fb_X12_here Fr.rf) ha48 rfl (fun r64 a64 ha64 => ?_)
    refine Sf.g (fun _ => ?_)
    refine Sf.let_xu ha64 (by rw [rgM_0 (by omega) (by omega)]; rfl) (fun a67 ha67 => ?_)
    refine Sf.let_v (fun v2_68 => ?_)
    refine Sf.let_xu ha67 rfl (fun a78 ha78 => ?_)
    exact hk2 ha78
theorem fb_X12_readsSigns_32 {a0 : AH} {N : Nat} {k2 : AH → Int32 → Int32 → Option (Int32 × AH)} {ah : AH} {v1 : Int32} {v2 : Int32} (hk2 : ∀ {z0 : AH} {z1 : Int32} {z2 : Int32}, Fr rgM lf_X12_readsSigns a0 z0 → Sf hpI rgM lf_X12_readsSigns a0 (k2 z0 z1 z2)) (hah : Fr rgM lf_X12_readsSigns a0 ah) : Sf hpI rgM lf_X12_readsSigns a0 (F_X12_readsSigns_32 N k2 ah v1 v2) := by
  unfold F_X12_readsSigns_32
  refine Sf.ite ?_ ?_
  · refine Sf.bv (fb_X12_wrong Fr.rf) hah rfl (fun a44 ha44 => ?_)
    exact fb_X12_readsSigns_47 hk2 ha44
  · exact fb_X12_readsSigns_47 hk2 hah
theorem fb_X12_readsSigns_84 {a0 : AH} {N : Nat} {ah : AH} {v1 : Int32} {v2 : Int32}  (hah : Fr rgM lf_X12_readsSigns a0 ah) : Sf hpI rgM lf_X12_readsSigns a0 (F_X12_readsSigns_84 N ah v1 v2) := by
  unfold F_X12_readsSigns_84
  refine Sf.g (fun _ => ?_)
  refine Sf.let_xu hah rfl (fun a90 ha90 => ?_)
  refine Sf.ite ?_ ?_
  · exact Sf.ret ha90
  · refine Sf.g (fun _ => ?_)
    refine Sf.let_c ?_
    refine Sf.g (fun _ => ?_)
    refine Sf.ite ?_ ?_
    · refine Sf.bv (fb_X12_wrong Fr.rf) ha90 rfl (fun a116 ha116 => ?_)
      exact Sf.ret ha116
    · exact Sf.ret ha90
theorem fb_X12_readsSigns_2 {a0 : AH} {N : Nat}  : ∀ (n : Nat) {ah : AH} {v1 : Int32} {v2 : Int32}  (hah : Fr rgM lf_X12_readsSigns a0 ah), Sf hpI rgM lf_X12_readsSigns a0 (F_X12_readsSigns_2 N n ah v1 v2) := by
  intro n
  induction n with
  | zero => intros; exact Sf.none
  | succ n ih =>
    intro ah v1 v2  hah
    unfold F_X12_readsSigns_2
    refine Sf.b (fb_X12_fine Fr.rf) hah rfl (fun r3 a3 ha3 => ?_)
    refine Sf.ite ?_ ?_
    · exact fb_X12_readsSigns_84 ha3
    · refine Sf.b (fb_X12_here Fr.rf) ha3 rfl (fun r10 a10 ha10 => ?_)
      refine Sf.b (fb_X12_isSmall Fr.rf) ha10 rfl (fun r13 a13 ha13 => ?_)
      refine Sf.ite ?_ ?_
      · refine Sf.ite ?_ ?_
        · exact fb_X12_readsSigns_84 ha13
        · refine Sf.b (fb_X12_here Fr.rf) ha13 rfl (fun r24 a24 ha24 => ?_)
          refine Sf.ite ?_ ?_
          · exact fb_X12_readsSigns_32 (fun h => ih h) ha24
          · exact fb_X12_readsSigns_84 ha24
      · exact fb_X12_readsSigns_32 (fun h => ih h) ha13
theorem fb_X12_readsSigns {a0 : AH} {N : Nat} {ah : AH} {p1 : Int32}  (hah : Fr rgM lf_X12_readsSigns a0 ah) : Sf hpI rgM lf_X12_readsSigns a0 (F_X12_readsSigns N ah p1) := by
  unfold F_X12_readsSigns
  refine Sf.let_v (fun v2_1 => ?_)
  exact fb_X12_readsSigns_2 _ hah
abbrev lf_X12_areSame : List Nat := []
theorem fb_X12_areSame_19 {a0 : AH} {N : Nat}  : ∀ (n : Nat) {ah : AH} {v1 : Int32} {v2 : Int32} {v3 : Int32}  (hah : Fr rgM lf_X12_areSame a0 ah), Sf hpI rgM lf_X12_areSame a0 (F_X12_areSame_19 N n ah v1 v2 v3) := by
  intro n
  induction n with
  | zero => intros; exact Sf.none
  | succ n ih =>
    intro ah v1 v2 v3  hah
    unfold F_X12_areSame_19
    refine Sf.g (fun _ => ?_)
    refine Sf.ite ?_ ?_
    · exact Sf.ret hah
    · refine Sf.g (fun _ => ?_)
      refine Sf.let_c ?_
      refine Sf.g (fun _ => ?_)
      refine Sf.g (fun _ => ?_)
      refine Sf.let_c ?_
      refine Sf.g (fun _ => ?_)
      refine Sf.ite ?_ ?_
      · refine Sf.let_v (fun v3_50 => ?_)
        exact ih hah
      · exact Sf.ret hah
theorem fb_X12_areSame {a0 : AH} {N : Nat} {ah : AH} {p1 : Int32} {p2 : Int32}  (hah : Fr rgM lf_X12_areSame a0 ah) : Sf hpI rgM lf_X12_areSame a0 (F_X12_areSame N ah p1 p2) := by
  unfold F_X12_areSame
  refine Sf.g (fun _ => ?_)
  refine Sf.g (fun _ => ?_)
  refine Sf.ite ?_ ?_
  · refine Sf.let_v (fun v3_18 => ?_)
    exact fb_X12_areSame_19 _ hah
  · exact Sf.ret hah
abbrev lf_X12_sameAs : List Nat := []
theorem fb_X12_sameAs_2 {a0 : AH} {N : Nat}  : ∀ (n : Nat) {ah : AH} {v1 : Int32} {v2 : Int32}  (hah : Fr rgM lf_X12_sameAs a0 ah), Sf hpI rgM lf_X12_sameAs a0 (F_X12_sameAs_2 N n ah v1 v2) := by
  intro n
  induction n with
  | zero => intros; exact Sf.none
  | succ n ih =>
    intro ah v1 v2  hah
    unfold F_X12_sameAs_2
    refine Sf.ite ?_ ?_
    · exact Sf.ret hah
    · refine Sf.b (fb_X12_areSame Fr.rf) hah rfl (fun r10 a10 ha10 => ?_)
      refine Sf.ite ?_ ?_
      · refine Sf.let_v (fun v2_18 => ?_)
        exact ih ha10
      · exact Sf.ret ha10
theorem fb_X12_sameAs {a0 : AH} {N : Nat} {ah : AH} {p1 : Int32}  (hah : Fr rgM lf_X12_sameAs a0 ah) : Sf hpI rgM lf_X12_sameAs a0 (F_X12_sameAs N ah p1) := by
  unfold F_X12_sameAs
  refine Sf.let_v (fun v2_1 => ?_)
  exact fb_X12_sameAs_2 _ hah
abbrev lf_X12_readsWord : List Nat := [4, 6, 7, 105, 106, 200]
theorem fb_X12_readsWord_70 {a0 : AH} {N : Nat} {ah : AH}  (hah : Fr rgM lf_X12_readsWord a0 ah) : Sf hpV rgM lf_X12_readsWord a0 (F_X12_readsWord_70 N ah) := by
  unfold F_X12_readsWord_70
  refine Sf.bv (fb_X12_closes Fr.rf) hah rfl (fun a71 ha71 => ?_)
  exact Sf.ret ha71
theorem fb_X12_readsWord_33 {a0 : AH} {N : Nat} {ah : AH} {v1 : Int32}  (hah : Fr rgM lf_X12_readsWord a0 ah) : Sf hpV rgM lf_X12_readsWord a0 (F_X12_readsWord_33 N ah v1) := by
  unfold F_X12_readsWord_33
  refine Sf.g (fun _ => ?_)
  refine Sf.let_xu hah rfl (fun a39 ha39 => ?_)
  refine Sf.b (fb_X12_fine Fr.rf) ha39 rfl (fun r41 a41 ha41 => ?_)
  refine Sf.ite ?_ ?_
  · exact fb_X12_readsWord_70 ha41
  · refine Sf.b (fb_X12_blanks Fr.rf) ha41 rfl (fun r48 a48 ha48 => ?_)
    refine Sf.b (fb_X12_isDigit Fr.rf) ha48 rfl (fun r51 a51 ha51 => ?_)
    refine Sf.ite ?_ ?_
    · exact fb_X12_readsWord_70 ha51
    · refine Sf.b (fb_X12_number Fr.rf) ha51 rfl (fun r66 a66 ha66 => ?_)
      refine Sf.g (fun _ => ?_)
      refine Sf.let_xu ha66 rfl (fun a69 ha69 => ?_)
      exact fb_X12_readsWord_70 ha69
theorem fb_X12_readsWord {a0 : AH} {N : Nat} {ah : AH} {p1 : Int32}  (hah : Fr rgM lf_X12_readsWord a0 ah) : Sf hpV rgM lf_X12_readsWord a0 (F_X12_readsWord N ah p1) := by
  unfold F_X12_readsWord
  refine Sf.let_v (fun v2_4 => ?_)
  refine Sf.b (fb_X12_readsSigns Fr.rf) hah rfl (fun r7 a7 ha7 => ?_)
  refine Sf.b (fb_X12_fine Fr.rf) ha7 rfl (fun r12 a12 ha12 => ?_)
  refine Sf.ite ?_ ?_
  · exact fb_X12_readsWord_33 ha12
  · refine Sf.b (fb_X12_sameAs Fr.rf) ha12 rfl (fun r20 a20 ha20 => ?_)
    refine Sf.ite ?_ ?_
    · exact fb_X12_readsWord_33 ha20
    · refine Sf.bv (fb_X12_wrong Fr.rf) ha20 rfl (fun a30 ha30 => ?_)
      exact fb_X12_readsWord_33 ha30
abbrev lf_X12_weighs : List Nat := [111, 112]
theorem fb_X12_weighs_91 {a0 : AH} {N : Nat} {k32 : AH → Int32 → Option AH} {k47 : AH → Int32 → Int32 → Option AH} {ah : AH} {v1 : Int32} {v2 : Int32} {s1 : Int32} {s2 : Int32} (hk32 : ∀ {z0 : AH} {z1 : Int32}, Fr rgM lf_X12_weighs a0 z0 → Sf hpV rgM lf_X12_weighs a0 (k32 z0 z1)) (hk47 : ∀ {z0 : AH} {z1 : Int32} {z2 : Int32}, Fr rgM lf_X12_weighs a0 z0 → Sf hpV rgM lf_X12_weighs a0 (k47 z0 z1 z2)) (hah : Fr rgM lf_X12_weighs a0 ah) : Sf hpV rgM lf_X12_weighs a0 (F_X12_weighs_91 N k32 k47 ah v1 v2 s1 s2) := by
  unfold F_X12_weighs_91
  refine Sf.g (fun _ => ?_)
  refine Sf.let_xu hah rfl (fun a91 ha91 => ?_)
  refine Sf.g (fun _ => ?_)
  refine Sf.g (fun _ => ?_)
  refine Sf.let_xu ha91 rfl (fun a101 ha101 => ?_)
  refine Sf.g (fun _ => ?_)
  refine Sf.let_v (fun v2_108 => ?_)
  exact hk47 ha101
theorem fb_X12_weighs_47 {a0 : AH} {N : Nat} {k32 : AH → Int32 → Option AH} (hk32 : ∀ {z0 : AH} {z1 : Int32}, Fr rgM lf_X12_weighs a0 z0 → Sf hpV rgM lf_X12_weighs a0 (k32 z0 z1)) : ∀ (n : Nat) {ah : AH} {v1 : Int32} {v2 : Int32}  (hah : Fr rgM lf_X12_weighs a0 ah), Sf hpV rgM lf_X12_weighs a0 (F_X12_weighs_47 N k32 n ah v1 v2) := by
  intro n
  induction n with
  | zero => intros; exact Sf.none
  | succ n ih =>
    intro ah v1 v2  hah
    unfold F_X12_weighs_47
    refine Sf.ite ?_ ?_
    · refine Sf.let_v (fun v1_112 => ?_)
      exact hk32 hah
    · refine Sf.g (fun _ => ?_)
      refine Sf.ite ?_ ?_
      · refine Sf.g (fun _ => ?_)
        exact fb_X12_weighs_91 hk32 (fun h => ih h) hah
      · refine Sf.g (fun _ => ?_)
        refine Sf.g (fun _ => ?_)
        refine Sf.b (fb_X12_less Fr.rf) hah rfl (fun r88 a88 ha88 => ?_)
        exact fb_X12_weighs_91 hk32 (fun h => ih h) ha88
theorem fb_X12_weighs_32 {a0 : AH} {N : Nat}  : ∀ (n : Nat) {ah : AH} {v1 : Int32}  (hah : Fr rgM lf_X12_weighs a0 ah), Sf hpV rgM lf_X12_weighs a0 (F_X12_weighs_32 N n ah v1) := by
  intro n
  induction n with
  | zero => intros; exact Sf.none
  | succ n ih =>
    intro ah v1  hah
    unfold F_X12_weighs_32
    refine Sf.ite ?_ ?_
    · exact Sf.ret hah
    · refine Sf.g (fun _ => ?_)
      refine Sf.let_v (fun v2_46 => ?_)
      exact fb_X12_weighs_47 (fun h => ih h) _ hah
theorem fb_X12_weighs_2 {a0 : AH} {N : Nat}  : ∀ (n : Nat) {ah : AH} {v1 : Int32}  (hah : Fr rgM lf_X12_weighs a0 ah), Sf hpV rgM lf_X12_weighs a0 (F_X12_weighs_2 N n ah v1) := by
  intro n
  induction n with
  | zero => intros; exact Sf.none
  | succ n ih =>
    intro ah v1  hah
    unfold F_X12_weighs_2
    refine Sf.ite ?_ ?_
    · refine Sf.let_v (fun v1_31 => ?_)
      exact fb_X12_weighs_32 _ hah
    · refine Sf.g (fun _ => ?_)
      refine Sf.let_xu hah rfl (fun a16 ha16 => ?_)
      refine Sf.g (fun _ => ?_)
      refine Sf.let_xu ha16 rfl (fun a23 ha23 => ?_)
      refine Sf.let_v (fun v1_24 => ?_)
      exact ih ha23
theorem fb_X12_weighs {a0 : AH} {N : Nat} {ah : AH}  (hah : Fr rgM lf_X12_weighs a0 ah) : Sf hpV rgM lf_X12_weighs a0 (F_X12_weighs N ah) := by
  unfold F_X12_weighs
  refine Sf.let_v (fun v1_1 => ?_)
  exact fb_X12_weighs_2 _ hah
abbrev lf_X12_childOf : List Nat := []
theorem fb_X12_childOf_34 {a0 : AH} {N : Nat} {k4 : AH → Int32 → Int32 → Int32 → Option (Int32 × AH)} {ah : AH} {v1 : Int32} {v2 : Int32} {v3 : Int32} (hk4 : ∀ {z0 : AH} {z1 : Int32} {z2 : Int32} {z3 : Int32}, Fr rgM lf_X12_childOf a0 z0 → Sf hpI rgM lf_X12_childOf a0 (k4 z0 z1 z2 z3)) (hah : Fr rgM lf_X12_childOf a0 ah) : Sf hpI rgM lf_X12_childOf a0 (F_X12_childOf_34 N k4 ah v1 v2 v3) := by
  unfold F_X12_childOf_34
  refine Sf.let_v (fun v3_34 => ?_)
  exact hk4 hah
theorem fb_X12_childOf_4 {a0 : AH} {N : Nat}  : ∀ (n : Nat) {ah : AH} {v1 : Int32} {v2 : Int32} {v3 : Int32}  (hah : Fr rgM lf_X12_childOf a0 ah), Sf hpI rgM lf_X12_childOf a0 (F_X12_childOf_4 N n ah v1 v2 v3) := by
  intro n
  induction n with
  | zero => intros; exact Sf.none
  | succ n ih =>
    intro ah v1 v2 v3  hah
    unfold F_X12_childOf_4
    refine Sf.ite ?_ ?_
    · exact Sf.ret hah
    · refine Sf.g (fun _ => ?_)
      refine Sf.ite ?_ ?_
      · refine Sf.g (fun _ => ?_)
        refine Sf.ite ?_ ?_
        · exact Sf.ret hah
        · exact fb_X12_childOf_34 (fun h => ih h) hah
      · exact fb_X12_childOf_34 (fun h => ih h) hah
theorem fb_X12_childOf {a0 : AH} {N : Nat} {ah : AH} {p1 : Int32} {p2 : Int32}  (hah : Fr rgM lf_X12_childOf a0 ah) : Sf hpI rgM lf_X12_childOf a0 (F_X12_childOf N ah p1 p2) := by
  unfold F_X12_childOf
  refine Sf.let_v (fun v3_3 => ?_)
  exact fb_X12_childOf_4 _ hah
abbrev lf_X12_grows : List Nat := [15, 107, 108, 109, 110]
theorem fb_X12_grows_82 {a0 : AH} {N : Nat} {k4 : AH → Int32 → Int32 → Int32 → Option AH} {ah : AH} {v1 : Int32} {v3 : Int32} {v4 : Int32} (hk4 : ∀ {z0 : AH} {z1 : Int32} {z2 : Int32} {z3 : Int32}, Fr rgM lf_X12_grows a0 z0 → Sf hpV rgM lf_X12_grows a0 (k4 z0 z1 z2 z3)) (hah : Fr rgM lf_X12_grows a0 ah) : Sf hpV rgM lf_X12_grows a0 (F_X12_grows_82 N k4 ah v1 v3 v4) := by
  unfold F_X12_grows_82
  refine Sf.let_v (fun v2_84 => ?_)
  refine Sf.let_v (fun v3_85 => ?_)
  exact hk4 hah
theorem fb_X12_grows_4 {a0 : AH} {N : Nat}  : ∀ (n : Nat) {ah : AH} {v1 : Int32} {v2 : Int32} {v3 : Int32}  (hah : Fr rgM lf_X12_grows a0 ah), Sf hpV rgM lf_X12_grows a0 (F_X12_grows_4 N n ah v1 v2 v3) := by
  intro n
  induction n with
  | zero => intros; exact Sf.none
  | succ n ih =>
    intro ah v1 v2 v3  hah
    unfold F_X12_grows_4
    refine Sf.g (fun _ => ?_)
    refine Sf.ite ?_ ?_
    · refine Sf.g (fun _ => ?_)
      refine Sf.let_xu hah rfl (fun a97 ha97 => ?_)
      refine Sf.g (fun _ => ?_)
      refine Sf.let_xu ha97 rfl (fun a104 ha104 => ?_)
      exact Sf.ret ha104
    · refine Sf.g (fun _ => ?_)
      refine Sf.let_c ?_
      refine Sf.g (fun _ => ?_)
      refine Sf.b (fb_X12_childOf Fr.rf) hah rfl (fun r24 a24 ha24 => ?_)
      refine Sf.let_v (fun v4_27 => ?_)
      refine Sf.ite ?_ ?_
      · refine Sf.let_v (fun v4_39 => ?_)
        refine Sf.g (fun _ => ?_)
        refine Sf.let_xu ha24 rfl (fun a48 ha48 => ?_)
        refine Sf.g (fun _ => ?_)
        refine Sf.let_c ?_
        refine Sf.g (fun _ => ?_)
        refine Sf.g (fun _ => ?_)
        refine Sf.let_xu ha48 rfl (fun a63 ha63 => ?_)
        refine Sf.g (fun _ => ?_)
        refine Sf.let_xu ha63 rfl (fun a71 ha71 => ?_)
        refine Sf.let_xu ha71 rfl (fun a79 ha79 => ?_)
        exact fb_X12_grows_82 (fun h => ih h) ha79
      · exact fb_X12_grows_82 (fun h => ih h) ha24
theorem fb_X12_grows {a0 : AH} {N : Nat} {ah : AH} {p1 : Int32}  (hah : Fr rgM lf_X12_grows a0 ah) : Sf hpV rgM lf_X12_grows a0 (F_X12_grows N ah p1) := by
  unfold F_X12_grows
  refine Sf.let_v (fun v2_1 => ?_)
  refine Sf.let_v (fun v3_3 => ?_)
  exact fb_X12_grows_4 _ hah
abbrev lf_X12_lexicon : List Nat := [0, 2, 3, 4, 5, 6, 7, 10, 15, 101, 105, 106, 107, 108, 109, 110, 111, 112, 200]
theorem fb_X12_lexicon_142 {a0 : AH} {N : Nat}  : ∀ (n : Nat) {ah : AH} {v4 : Int32}  (hah : Fr rgM lf_X12_lexicon a0 ah), Sf hpI rgM lf_X12_lexicon a0 (F_X12_lexicon_142 N n ah v4) := by
  intro n
  induction n with
  | zero => intros; exact Sf.none
  | succ n ih =>
    intro ah v4  hah
    unfold F_X12_lexicon_142
    refine Sf.ite ?_ ?_
    · refine Sf.bv (fb_X12_weighs Fr.rf) hah rfl (fun a164 ha164 => ?_)
      refine Sf.b (fb_X12_ends Fr.rf) ha164 rfl (fun r172 a172 ha172 => ?_)
      exact Sf.ret ha172
    · refine Sf.bv (fb_X12_grows Fr.rf) hah rfl (fun a154 ha154 => ?_)
      refine Sf.let_v (fun v4_157 => ?_)
      exact ih ha154
theorem fb_X12_lexicon_121 {a0 : AH} {N : Nat} {ah : AH} {v2 : Int32} {v3 : Int32}  (hah : Fr rgM lf_X12_lexicon a0 ah) : Sf hpI rgM lf_X12_lexicon a0 (F_X12_lexicon_121 N ah v2 v3) := by
  unfold F_X12_lexicon_121
  refine Sf.b (fb_X12_fine Fr.rf) hah rfl (fun r122 a122 ha122 => ?_)
  refine Sf.ite ?_ ?_
  · refine Sf.b (fb_X12_ends Fr.rf) ha122 rfl (fun r130 a130 ha130 => ?_)
    exact Sf.ret ha130
  · refine Sf.let_xu ha122 rfl (fun a136 ha136 => ?_)
    refine Sf.let_v (fun v4_140 => ?_)
    exact fb_X12_lexicon_142 _ ha136
theorem fb_X12_lexicon_100 {a0 : AH} {N : Nat} {k48 : AH → Int32 → Int32 → Option (Int32 × AH)} {ah : AH} {v2 : Int32} {v3 : Int32} (hk48 : ∀ {z0 : AH} {z1 : Int32} {z2 : Int32}, Fr rgM lf_X12_lexicon a0 z0 → Sf hpI rgM lf_X12_lexicon a0 (k48 z0 z1 z2)) (hah : Fr rgM lf_X12_lexicon a0 ah) : Sf hpI rgM lf_X12_lexicon a0 (F_X12_lexicon_100 N k48 ah v2 v3) := by
  unfold F_X12_lexicon_100
  refine Sf.b (fb_X12_fine Fr.rf) hah rfl (fun r101 a101 ha101 => ?_)
  refine Sf.ite ?_ ?_
  · exact fb_X12_lexicon_121 ha101
  · refine Sf.bv (fb_X12_readsWord Fr.rf) ha101 rfl (fun a112 ha112 => ?_)
    refine Sf.let_v (fun v3_115 => ?_)
    exact hk48 ha112
theorem fb_X12_lexicon_48 {a0 : AH} {N : Nat}  : ∀ (n : Nat) {ah : AH} {v2 : Int32} {v3 : Int32}  (hah : Fr rgM lf_X12_lexicon a0 ah), Sf hpI rgM lf_X12_lexicon a0 (F_X12_lexicon_48 N n ah v2 v3) := by
  intro n
  induction n with
  | zero => intros; exact Sf.none
  | succ n ih =>
    intro ah v2 v3  hah
    unfold F_X12_lexicon_48
    refine Sf.b (fb_X12_fine Fr.rf) hah rfl (fun r49 a49 ha49 => ?_)
    refine Sf.ite ?_ ?_
    · exact fb_X12_lexicon_121 ha49
    · refine Sf.b (fb_X12_blanks Fr.rf) ha49 rfl (fun r56 a56 ha56 => ?_)
      refine Sf.ite ?_ ?_
      · exact fb_X12_lexicon_121 ha56
      · refine Sf.b (fb_X12_here Fr.rf) ha56 rfl (fun r64 a64 ha64 => ?_)
        refine Sf.b (fb_X12_isSmall Fr.rf) ha64 rfl (fun r67 a67 ha67 => ?_)
        refine Sf.ite ?_ ?_
        · refine Sf.bv (fb_X12_wrong Fr.rf) ha67 rfl (fun a79 ha79 => ?_)
          exact fb_X12_lexicon_100 (fun h => ih h) ha79
        · refine Sf.ite ?_ ?_
          · refine Sf.bv (fb_X12_wrong Fr.rf) ha67 rfl (fun a97 ha97 => ?_)
            exact fb_X12_lexicon_100 (fun h => ih h) ha97
          · exact fb_X12_lexicon_100 (fun h => ih h) ha67
theorem fb_X12_lexicon_23 {a0 : AH} {N : Nat} {ah : AH} {v1 : Int32} {s1 : Int32}  (hah : Fr rgM lf_X12_lexicon a0 ah) : Sf hpI rgM lf_X12_lexicon a0 (F_X12_lexicon_23 N ah v1 s1) := by
  unfold F_X12_lexicon_23
  refine Sf.b (fb_X12_bad Fr.rf) hah rfl (fun r25 a25 ha25 => ?_)
  refine Sf.ite ?_ ?_
  · refine Sf.bv (fb_X12_starts Fr.rf) ha25 rfl (fun a35 ha35 => ?_)
    refine Sf.let_v (fun v2_42 => ?_)
    refine Sf.let_v (fun v3_47 => ?_)
    exact fb_X12_lexicon_48 _ ha35
  · exact Sf.ret ha25
theorem fb_X12_lexicon {a0 : AH} {N : Nat} {ah : AH} {p1 : Int32}  (hah : Fr rgM lf_X12_lexicon a0 ah) : Sf hpI rgM lf_X12_lexicon a0 (F_X12_lexicon N ah p1) := by
  unfold F_X12_lexicon
  refine Sf.let_xu hah rfl (fun a2 ha2 => ?_)
  refine Sf.b (fb_X12_in Fr.rf) ha2 rfl (fun r12 a12 ha12 => ?_)
  refine Sf.ite ?_ ?_
  · exact fb_X12_lexicon_23 ha12
  · exact fb_X12_lexicon_23 ha12
abbrev lf_X12_plants : List Nat := [15, 108, 109, 110, 111, 112]
theorem fb_X12_plants {a0 : AH} {N : Nat} {ah : AH}  (hah : Fr rgM lf_X12_plants a0 ah) : Sf hpV rgM lf_X12_plants a0 (F_X12_plants N ah) := by
  unfold F_X12_plants
  refine Sf.let_xu hah rfl (fun a2 ha2 => ?_)
  refine Sf.let_xu ha2 rfl (fun a11 ha11 => ?_)
  refine Sf.let_xu ha11 rfl (fun a18 ha18 => ?_)
  refine Sf.let_xu ha18 rfl (fun a25 ha25 => ?_)
  refine Sf.bv (fb_X12_weighs Fr.rf) ha25 rfl (fun a27 ha27 => ?_)
  exact Sf.ret ha27
abbrev lf_X12_forget : List Nat := [0, 10, 15, 108, 109, 110, 111, 112, 122]
theorem fb_X12_forget {a0 : AH} {N : Nat} {ah : AH}  (hah : Fr rgM lf_X12_forget a0 ah) : Sf hpI rgM lf_X12_forget a0 (F_X12_forget N ah) := by
  unfold F_X12_forget
  refine Sf.let_xu hah rfl (fun a2 ha2 => ?_)
  refine Sf.let_v (fun v1_9 => ?_)
  refine Sf.let_xu ha2 rfl (fun a12 ha12 => ?_)
  refine Sf.let_xu ha12 rfl (fun a21 ha21 => ?_)
  refine Sf.bv (fb_X12_plants Fr.rf) ha21 rfl (fun a23 ha23 => ?_)
  exact Sf.ret ha23
abbrev lf_X12_wordHere : List Nat := [4, 6, 7, 105, 200]
theorem fb_X12_wordHere_73 {a0 : AH} {N : Nat} {k35 : AH → Int32 → Int32 → Option (Int32 × AH)} {ah : AH} {v1 : Int32} {v2 : Int32} (hk35 : ∀ {z0 : AH} {z1 : Int32} {z2 : Int32}, Fr rgM lf_X12_wordHere a0 z0 → Sf hpI rgM lf_X12_wordHere a0 (k35 z0 z1 z2)) (hah : Fr rgM lf_X12_wordHere a0 ah) : Sf hpI rgM lf_X12_wordHere a0 (F_X12_wordHere_73 N k35 ah v1 v2) := by
  unfold F_X12_wordHere_73
  refine Sf.let_v (fun v2_73 => ?_)
  refine Sf.let_xu hah rfl (fun a83 ha83 => ?_)
  exact hk35 ha83
theorem fb_X12_wordHere_54 {a0 : AH} {N : Nat} {k35 : AH → Int32 → Int32 → Option (Int32 × AH)} {ah : AH} {v1 : Int32} {v2 : Int32} (hk35 : ∀ {z0 : AH} {z1 : Int32} {z2 : Int32}, Fr rgM lf_X12_wordHere a0 z0 → Sf hpI rgM lf_X12_wordHere a0 (k35 z0 z1 z2)) (hah : Fr rgM lf_X12_wordHere a0 ah) : Sf hpI rgM lf_X12_wordHere a0 (F_X12_wordHere_54 N k35 ah v1 v2) := by
  unfold F_X12_wordHere_54
  refine Sf.ite ?_ ?_
  · exact fb_X12_wordHere_73 hk35 hah
  · refine Sf.let_c ?_
    refine Sf.b (fb_X12_here Fr.rf) hah rfl (fun r69 a69 ha69 => ?_)
    refine Sf.g (fun _ => ?_)
    refine Sf.let_xu ha69 (by rw [rgM_0 (by omega) (by omega)]; rfl) (fun a72 ha72 => ?_)
    exact fb_X12_wordHere_73 hk35 ha72
theorem fb_X12_wordHere_123 {a0 : AH} {N : Nat} {ah : AH} {v1 : Int32} {v3 : Int32}  (hah : Fr rgM lf_X12_wordHere a0 ah) : Sf hpI rgM lf_X12_wordHere a0 (F_X12_wordHere_123 N ah v1 v3) := by
  unfold F_X12_wordHere_123
  refine Sf.ite ?_ ?_
  · refine Sf.bv (fb_X12_wrong Fr.rf) hah rfl (fun a134 ha134 => ?_)
    exact Sf.ret ha134
  · exact Sf.ret hah
theorem fb_X12_wordHere_99 {a0 : AH} {N : Nat}  : ∀ (n : Nat) {ah : AH} {v1 : Int32} {v3 : Int32}  (hah : Fr rgM lf_X12_wordHere a0 ah), Sf hpI rgM lf_X12_wordHere a0 (F_X12_wordHere_99 N n ah v1 v3) := by
  intro n
  induction n with
  | zero => intros; exact Sf.none
  | succ n ih =>
    intro ah v1 v3  hah
    unfold F_X12_wordHere_99
    refine Sf.ite ?_ ?_
    · exact fb_X12_wordHere_123 hah
    · refine Sf.b (fb_X12_areSame Fr.rf) hah rfl (fun r111 a111 ha111 => ?_)
      refine Sf.ite ?_ ?_
      · refine Sf.let_v (fun v3_117 => ?_)
        exact ih ha111
      · exact fb_X12_wordHere_123 ha111
theorem fb_X12_wordHere_35 {a0 : AH} {N : Nat}  : ∀ (n : Nat) {ah : AH} {v1 : Int32} {v2 : Int32}  (hah : Fr rgM lf_X12_wordHere a0 ah), Sf hpI rgM lf_X12_wordHere a0 (F_X12_wordHere_35 N n ah v1 v2) := by
  intro n
  induction n with
  | zero => intros; exact Sf.none
  | succ n ih =>
    intro ah v1 v2  hah
    unfold F_X12_wordHere_35
    refine Sf.b (fb_X12_here Fr.rf) hah rfl (fun r36 a36 ha36 => ?_)
    refine Sf.b (fb_X12_isSmall Fr.rf) ha36 rfl (fun r39 a39 ha39 => ?_)
    refine Sf.ite ?_ ?_
    · refine Sf.b (fb_X12_here Fr.rf) ha39 rfl (fun r46 a46 ha46 => ?_)
      refine Sf.ite ?_ ?_
      · exact fb_X12_wordHere_54 (fun h => ih h) ha46
      · refine Sf.let_xu ha46 rfl (fun a96 ha96 => ?_)
        refine Sf.let_v (fun v3_98 => ?_)
        exact fb_X12_wordHere_99 _ ha96
    · exact fb_X12_wordHere_54 (fun h => ih h) ha39
theorem fb_X12_wordHere_19 {a0 : AH} {N : Nat} {ah : AH}  (hah : Fr rgM lf_X12_wordHere a0 ah) : Sf hpI rgM lf_X12_wordHere a0 (F_X12_wordHere_19 N ah) := by
  unfold F_X12_wordHere_19
  refine Sf.b (fb_X12_fine Fr.rf) hah rfl (fun r20 a20 ha20 => ?_)
  refine Sf.ite ?_ ?_
  · exact Sf.ret ha20
  · refine Sf.let_v (fun v1_32 => ?_)
    refine Sf.let_v (fun v2_34 => ?_)
    exact fb_X12_wordHere_35 _ ha20
theorem fb_X12_wordHere {a0 : AH} {N : Nat} {ah : AH}  (hah : Fr rgM lf_X12_wordHere a0 ah) : Sf hpI rgM lf_X12_wordHere a0 (F_X12_wordHere N ah) := by
  unfold F_X12_wordHere
  refine Sf.b (fb_X12_blanks Fr.rf) hah rfl (fun r1 a1 ha1 => ?_)
  refine Sf.b (fb_X12_isSmall Fr.rf) ha1 rfl (fun r4 a4 ha4 => ?_)
  refine Sf.ite ?_ ?_
  · refine Sf.bv (fb_X12_wrong Fr.rf) ha4 rfl (fun a16 ha16 => ?_)
    exact fb_X12_wordHere_19 ha16
  · exact fb_X12_wordHere_19 ha4
abbrev lf_X12_follows : List Nat := [0, 2, 3, 4, 5, 6, 7, 101, 105, 122, 200, 212]
theorem fb_X12_follows_181 {a0 : AH} {N : Nat} {k169 : AH → Int32 → Option (Int32 × AH)} (hk169 : ∀ {z0 : AH} {z1 : Int32}, Fr rgM lf_X12_follows a0 z0 → Sf hpI rgM lf_X12_follows a0 (k169 z0 z1)) : ∀ (n : Nat) {ah : AH} {v2 : Int32} {v3 : Int32}  (hah : Fr rgM lf_X12_follows a0 ah), Sf hpI rgM lf_X12_follows a0 (F_X12_follows_181 N k169 n ah v2 v3) := by
  intro n
  induction n with
  | zero => intros; exact Sf.none
  | succ n ih =>
    intro ah v2 v3  hah
    unfold F_X12_follows_181
    refine Sf.ite ?_ ?_
    · refine Sf.let_v (fun v2_212 => ?_)
      exact hk169 hah
    · refine Sf.g (fun _ => ?_)
      refine Sf.let_c ?_
      refine Sf.g (fun _ => ?_)
      refine Sf.let_c ?_
      refine Sf.g (fun _ => ?_)
      refine Sf.g (fun _ => ?_)
      refine Sf.let_xu hah (by rw [rgM_12 (by omega) (by omega)]; rfl) (fun a205 ha205 => ?_)
      refine Sf.let_v (fun v3_206 => ?_)
      exact ih ha205
theorem fb_X12_follows_169 {a0 : AH} {N : Nat}  : ∀ (n : Nat) {ah : AH} {v2 : Int32}  (hah : Fr rgM lf_X12_follows a0 ah), Sf hpI rgM lf_X12_follows a0 (F_X12_follows_169 N n ah v2) := by
  intro n
  induction n with
  | zero => intros; exact Sf.none
  | succ n ih =>
    intro ah v2  hah
    unfold F_X12_follows_169
    refine Sf.ite ?_ ?_
    · refine Sf.b (fb_X12_ends Fr.rf) hah rfl (fun r225 a225 ha225 => ?_)
      exact Sf.ret ha225
    · refine Sf.let_v (fun v3_180 => ?_)
      exact fb_X12_follows_181 (fun h => ih h) _ hah
theorem fb_X12_follows_142 {a0 : AH} {N : Nat} {ah : AH}  (hah : Fr rgM lf_X12_follows a0 ah) : Sf hpI rgM lf_X12_follows a0 (F_X12_follows_142 N ah) := by
  unfold F_X12_follows_142
  refine Sf.b (fb_X12_fine Fr.rf) hah rfl (fun r143 a143 ha143 => ?_)
  refine Sf.ite ?_ ?_
  · refine Sf.b (fb_X12_ends Fr.rf) ha143 rfl (fun r151 a151 ha151 => ?_)
    exact Sf.ret ha151
  · refine Sf.let_xu ha143 rfl (fun a166 ha166 => ?_)
    refine Sf.let_v (fun v2_168 => ?_)
    exact fb_X12_follows_169 _ ha166
abbrev lf_X12_readsFollow_f12 : List Nat := [4, 6, 7, 105, 200, 212]
theorem fb_X12_readsFollow_49_f12_f12 {a0 : AH} {N : Nat} {ah : AH} {x1 : Nat} {y0 : Nat} {s1 : Int32} {s2 : Int32} (hx1 : 2207 ≤ x1 ∧ x1 < 2327) (hy0 : 2207 ≤ y0 ∧ y0 < 2327) (hah : Fr rgM lf_X12_readsFollow_f12 a0 ah) : Sf hpV rgM lf_X12_readsFollow_f12 a0 (F_X12_readsFollow_49 N ah x1 y0 s1 s2) := by
  unfold F_X12_readsFollow_49
  refine Sf.g (fun _ => ?_)
  refine Sf.let_xu hah (by rw [rgM_12 (by omega) (by omega)]; rfl) (fun a49 ha49 => ?_)
  refine Sf.b (fb_X12_blanks Fr.rf) ha49 rfl (fun r51 a51 ha51 => ?_)
  refine Sf.b (fb_X12_number Fr.rf) ha51 rfl (fun r61 a61 ha61 => ?_)
  refine Sf.let_xu ha61 (by rw [rgM_12 (by omega) (by omega)]; rfl) (fun a64 ha64 => ?_)
  refine Sf.bv (fb_X12_closes Fr.rf) ha64 rfl (fun a66 ha66 => ?_)
  exact Sf.ret ha66
theorem fb_X12_readsFollow_32_f12 {a0 : AH} {N : Nat} {ah : AH} {x1 : Nat} (hx1 : 2207 ≤ x1 ∧ x1 < 2327) (hah : Fr rgM lf_X12_readsFollow_f12 a0 ah) : Sf hpV rgM lf_X12_readsFollow_f12 a0 (F_X12_readsFollow_32 N ah x1) := by
  unfold F_X12_readsFollow_32
  refine Sf.b (fb_X12_fine Fr.rf) hah rfl (fun r35 a35 ha35 => ?_)
  refine Sf.ite ?_ ?_
  · exact fb_X12_readsFollow_49_f12_f12 ⟨by omega, by omega⟩ ⟨by omega, by omega⟩ ha35
  · refine Sf.b (fb_X12_wordHere Fr.rf) ha35 rfl (fun r42 a42 ha42 => ?_)
    exact fb_X12_readsFollow_49_f12_f12 ⟨by omega, by omega⟩ ⟨by omega, by omega⟩ ha42
theorem fb_X12_readsFollow_f12 {a0 : AH} {N : Nat} {ah : AH} {x1 : Nat} (hx1 : 2207 ≤ x1 ∧ x1 < 2327) (hah : Fr rgM lf_X12_readsFollow_f12 a0 ah) : Sf hpV rgM lf_X12_readsFollow_f12 a0 (F_X12_readsFollow N ah x1) := by
  unfold F_X12_readsFollow
  refine Sf.b (fb_X12_wordHere Fr.rf) hah rfl (fun r3 a3 ha3 => ?_)
  refine Sf.let_xu ha3 (by rw [rgM_12 (by omega) (by omega)]; rfl) (fun a6 ha6 => ?_)
  refine Sf.b (fb_X12_fine Fr.rf) ha6 rfl (fun r8 a8 ha8 => ?_)
  refine Sf.ite ?_ ?_
  · exact fb_X12_readsFollow_32_f12 ⟨by omega, by omega⟩ ha8
  · refine Sf.b (fb_X12_here Fr.rf) ha8 rfl (fun r15 a15 ha15 => ?_)
    refine Sf.ite ?_ ?_
    · exact fb_X12_readsFollow_32_f12 ⟨by omega, by omega⟩ ha15
    · refine Sf.bv (fb_X12_wrong Fr.rf) ha15 rfl (fun a29 ha29 => ?_)
      exact fb_X12_readsFollow_32_f12 ⟨by omega, by omega⟩ ha29
theorem fb_X12_follows_102 {a0 : AH} {N : Nat} {k45 : AH → Option (Int32 × AH)} {ah : AH} (hk45 : ∀ {z0 : AH}, Fr rgM lf_X12_follows a0 z0 → Sf hpI rgM lf_X12_follows a0 (k45 z0)) (hah : Fr rgM lf_X12_follows a0 ah) : Sf hpI rgM lf_X12_follows a0 (F_X12_follows_102 N k45 ah) := by
  unfold F_X12_follows_102
  refine Sf.b (fb_X12_fine Fr.rf) hah rfl (fun r103 a103 ha103 => ?_)
  refine Sf.ite ?_ ?_
  · exact fb_X12_follows_142 ha103
  · refine Sf.g (fun _ => ?_)
    refine Sf.let_c ?_
    refine Sf.bv (fb_X12_readsFollow_f12 ⟨by omega, by omega⟩ Fr.rf) ha103 rfl (fun a126 ha126 => ?_)
    refine Sf.let_xu ha126 rfl (fun a138 ha138 => ?_)
    exact hk45 ha138
theorem fb_X12_follows_45 {a0 : AH} {N : Nat}  : ∀ (n : Nat) {ah : AH}  (hah : Fr rgM lf_X12_follows a0 ah), Sf hpI rgM lf_X12_follows a0 (F_X12_follows_45 N n ah) := by
  intro n
  induction n with
  | zero => intros; exact Sf.none
  | succ n ih =>
    intro ah  hah
    unfold F_X12_follows_45
    refine Sf.b (fb_X12_fine Fr.rf) hah rfl (fun r46 a46 ha46 => ?_)
    refine Sf.ite ?_ ?_
    · exact fb_X12_follows_142 ha46
    · refine Sf.b (fb_X12_blanks Fr.rf) ha46 rfl (fun r53 a53 ha53 => ?_)
      refine Sf.ite ?_ ?_
      · exact fb_X12_follows_142 ha53
      · refine Sf.b (fb_X12_here Fr.rf) ha53 rfl (fun r61 a61 ha61 => ?_)
        refine Sf.b (fb_X12_isSmall Fr.rf) ha61 rfl (fun r64 a64 ha64 => ?_)
        refine Sf.ite ?_ ?_
        · refine Sf.bv (fb_X12_wrong Fr.rf) ha64 rfl (fun a76 ha76 => ?_)
          exact fb_X12_follows_102 (fun h => ih h) ha76
        · refine Sf.ite ?_ ?_
          · refine Sf.bv (fb_X12_wrong Fr.rf) ha64 rfl (fun a99 ha99 => ?_)
            exact fb_X12_follows_102 (fun h => ih h) ha99
          · exact fb_X12_follows_102 (fun h => ih h) ha64
theorem fb_X12_follows_23 {a0 : AH} {N : Nat} {ah : AH} {v1 : Int32} {s1 : Int32}  (hah : Fr rgM lf_X12_follows a0 ah) : Sf hpI rgM lf_X12_follows a0 (F_X12_follows_23 N ah v1 s1) := by
  unfold F_X12_follows_23
  refine Sf.b (fb_X12_bad Fr.rf) hah rfl (fun r25 a25 ha25 => ?_)
  refine Sf.ite ?_ ?_
  · refine Sf.bv (fb_X12_starts Fr.rf) ha25 rfl (fun a35 ha35 => ?_)
    refine Sf.let_xu ha35 rfl (fun a44 ha44 => ?_)
    exact fb_X12_follows_45 _ ha44
  · exact Sf.ret ha25
theorem fb_X12_follows {a0 : AH} {N : Nat} {ah : AH} {p1 : Int32}  (hah : Fr rgM lf_X12_follows a0 ah) : Sf hpI rgM lf_X12_follows a0 (F_X12_follows N ah p1) := by
  unfold F_X12_follows
  refine Sf.let_xu hah rfl (fun a2 ha2 => ?_)
  refine Sf.b (fb_X12_in Fr.rf) ha2 rfl (fun r12 a12 ha12 => ?_)
  refine Sf.ite ?_ ?_
  · exact fb_X12_follows_23 ha12
  · exact fb_X12_follows_23 ha12
abbrev lf_X12_dearOf : List Nat := []
theorem fb_X12_dearOf_52 {a0 : AH} {N : Nat} {k9 : AH → Int32 → Int32 → Int32 → Option (Int32 × AH)} {ah : AH} {v1 : Int32} {v2 : Int32} {v3 : Int32} (hk9 : ∀ {z0 : AH} {z1 : Int32} {z2 : Int32} {z3 : Int32}, Fr rgM lf_X12_dearOf a0 z0 → Sf hpI rgM lf_X12_dearOf a0 (k9 z0 z1 z2 z3)) (hah : Fr rgM lf_X12_dearOf a0 ah) : Sf hpI rgM lf_X12_dearOf a0 (F_X12_dearOf_52 N k9 ah v1 v2 v3) := by
  unfold F_X12_dearOf_52
  refine Sf.let_v (fun v3_52 => ?_)
  exact hk9 hah
theorem fb_X12_dearOf_9 {a0 : AH} {N : Nat}  : ∀ (n : Nat) {ah : AH} {v1 : Int32} {v2 : Int32} {v3 : Int32}  (hah : Fr rgM lf_X12_dearOf a0 ah), Sf hpI rgM lf_X12_dearOf a0 (F_X12_dearOf_9 N n ah v1 v2 v3) := by
  intro n
  induction n with
  | zero => intros; exact Sf.none
  | succ n ih =>
    intro ah v1 v2 v3  hah
    unfold F_X12_dearOf_9
    refine Sf.ite ?_ ?_
    · exact Sf.ret hah
    · refine Sf.g (fun _ => ?_)
      refine Sf.let_c ?_
      refine Sf.ite ?_ ?_
      · refine Sf.g (fun _ => ?_)
        refine Sf.let_c ?_
        refine Sf.ite ?_ ?_
        · refine Sf.g (fun _ => ?_)
          refine Sf.let_c ?_
          exact Sf.ret hah
        · exact fb_X12_dearOf_52 (fun h => ih h) hah
      · exact fb_X12_dearOf_52 (fun h => ih h) hah
theorem fb_X12_dearOf {a0 : AH} {N : Nat} {ah : AH} {p1 : Int32} {p2 : Int32}  (hah : Fr rgM lf_X12_dearOf a0 ah) : Sf hpI rgM lf_X12_dearOf a0 (F_X12_dearOf N ah p1 p2) := by
  unfold F_X12_dearOf
  refine Sf.let_v (fun v3_8 => ?_)
  exact fb_X12_dearOf_9 _ hah
abbrev lf_X12_isWord : List Nat := []
theorem fb_X12_isWord {a0 : AH} {N : Nat} {ah : AH} {p1 : Int32}  (hah : Fr rgM lf_X12_isWord a0 ah) : Sf hpI rgM lf_X12_isWord a0 (F_X12_isWord N ah p1) := by
  unfold F_X12_isWord
  refine Sf.b (fb_X12_in Fr.rf) hah rfl (fun r8 a8 ha8 => ?_)
  refine Sf.bo ?_
  exact Sf.ret ha8
abbrev lf_X12_dear : List Nat := [0, 101]
theorem fb_X12_dear_27 {a0 : AH} {N : Nat} {ah : AH} {v1 : Int32} {v2 : Int32} {s1 : Int32}  (hah : Fr rgM lf_X12_dear a0 ah) : Sf hpI rgM lf_X12_dear a0 (F_X12_dear_27 N ah v1 v2 s1) := by
  unfold F_X12_dear_27
  refine Sf.b (fb_X12_bad Fr.rf) hah rfl (fun r29 a29 ha29 => ?_)
  refine Sf.ite ?_ ?_
  · refine Sf.b (fb_X12_dearOf Fr.rf) ha29 rfl (fun r40 a40 ha40 => ?_)
    exact Sf.ret ha40
  · exact Sf.ret ha29
theorem fb_X12_dear_22 {a0 : AH} {N : Nat} {ah : AH} {v1 : Int32} {v2 : Int32}  (hah : Fr rgM lf_X12_dear a0 ah) : Sf hpI rgM lf_X12_dear a0 (F_X12_dear_22 N ah v1 v2) := by
  unfold F_X12_dear_22
  exact fb_X12_dear_27 hah
theorem fb_X12_dear {a0 : AH} {N : Nat} {ah : AH} {p1 : Int32} {p2 : Int32}  (hah : Fr rgM lf_X12_dear a0 ah) : Sf hpI rgM lf_X12_dear a0 (F_X12_dear N ah p1 p2) := by
  unfold F_X12_dear
  refine Sf.let_xu hah rfl (fun a2 ha2 => ?_)
  refine Sf.b (fb_X12_isWord Fr.rf) ha2 rfl (fun r8 a8 ha8 => ?_)
  refine Sf.ite ?_ ?_
  · exact fb_X12_dear_22 ha8
  · refine Sf.b (fb_X12_isWord Fr.rf) ha8 rfl (fun r16 a16 ha16 => ?_)
    refine Sf.ite ?_ ?_
    · exact fb_X12_dear_22 ha16
    · exact fb_X12_dear_27 ha16
abbrev lf_X12_readsPart_f2 : List Nat := [4, 6, 7, 202]
theorem fb_X12_readsPart_52_f2 {a0 : AH} {N : Nat} {k21 : AH → Nat → Int32 → Int32 → Option (Int32 × AH)} {ah : AH} {x1 : Nat} {v2 : Int32} {v3 : Int32} (hk21 : ∀ {z0 : AH} {z1 : Nat} {z2 : Int32} {z3 : Int32}, 115 ≤ z1 ∧ z1 < 155 → Fr rgM lf_X12_readsPart_f2 a0 z0 → Sf hpI rgM lf_X12_readsPart_f2 a0 (k21 z0 z1 z2 z3)) (hx1 : 115 ≤ x1 ∧ x1 < 155) (hah : Fr rgM lf_X12_readsPart_f2 a0 ah) : Sf hpI rgM lf_X12_readsPart_f2 a0 (F_X12_readsPart_52 N k21 ah x1 v2 v3) := by
  unfold F_X12_readsPart_52
  refine Sf.b (fb_X12_fine Fr.rf) hah rfl (fun r53 a53 ha53 => ?_)
  refine Sf.ite ?_ ?_
  · exact Sf.ret ha53
  · refine Sf.b (fb_X12_here Fr.rf) ha53 rfl (fun r66 a66 ha66 => ?_)
    refine Sf.g (fun _ => ?_)
    refine Sf.let_xu ha66 (by rw [rgM_2 (by omega) (by omega)]; rfl) (fun a69 ha69 => ?_)
    refine Sf.let_v (fun v3_70 => ?_)
    refine Sf.let_xu ha69 rfl (fun a80 ha80 => ?_)
    exact hk21 ⟨by omega, by omega⟩ ha80
theorem fb_X12_readsPart_21_f2 {a0 : AH} {N : Nat}  : ∀ (n : Nat) {ah : AH} {x1 : Nat} {v2 : Int32} {v3 : Int32} (hx1 : 115 ≤ x1 ∧ x1 < 155) (hah : Fr rgM lf_X12_readsPart_f2 a0 ah), Sf hpI rgM lf_X12_readsPart_f2 a0 (F_X12_readsPart_21 N n ah x1 v2 v3) := by
  intro n
  induction n with
  | zero => intros; exact Sf.none
  | succ n ih =>
    intro ah x1 v2 v3 hx1 hah
    unfold F_X12_readsPart_21
    refine Sf.b (fb_X12_fine Fr.rf) hah rfl (fun r22 a22 ha22 => ?_)
    refine Sf.ite ?_ ?_
    · exact Sf.ret ha22
    · refine Sf.b (fb_X12_here Fr.rf) ha22 rfl (fun r29 a29 ha29 => ?_)
      refine Sf.b (fb_X12_isSmall Fr.rf) ha29 rfl (fun r32 a32 ha32 => ?_)
      refine Sf.ite ?_ ?_
      · exact Sf.ret ha32
      · refine Sf.ite ?_ ?_
        · refine Sf.bv (fb_X12_wrong Fr.rf) ha32 rfl (fun a49 ha49 => ?_)
          exact fb_X12_readsPart_52_f2 (fun x0 h => ih x0 h) ⟨by omega, by omega⟩ ha49
        · exact fb_X12_readsPart_52_f2 (fun x0 h => ih x0 h) ⟨by omega, by omega⟩ ha32
theorem fb_X12_readsPart_f2 {a0 : AH} {N : Nat} {ah : AH} {x1 : Nat} {p2 : Int32} (hx1 : 115 ≤ x1 ∧ x1 < 155) (hah : Fr rgM lf_X12_readsPart_f2 a0 ah) : Sf hpI rgM lf_X12_readsPart_f2 a0 (F_X12_readsPart N ah x1 p2) := by
  unfold F_X12_readsPart
  refine Sf.let_v (fun v3_1 => ?_)
  refine Sf.b (fb_X12_blanks Fr.rf) hah rfl (fun r3 a3 ha3 => ?_)
  refine Sf.b (fb_X12_isSmall Fr.rf) ha3 rfl (fun r6 a6 ha6 => ?_)
  refine Sf.ite ?_ ?_
  · refine Sf.bv (fb_X12_wrong Fr.rf) ha6 rfl (fun a18 ha18 => ?_)
    exact fb_X12_readsPart_21_f2 _ ⟨by omega, by omega⟩ ha18
  · exact fb_X12_readsPart_21_f2 _ ⟨by omega, by omega⟩ ha6
abbrev lf_X12_readsShape : List Nat := [4, 6, 7, 202, 204]
theorem fb_X12_readsShape_137_f2_f4 {a0 : AH} {N : Nat} {k109 : AH → Nat → Nat → Int32 → Int32 → Int32 → Option AH} {ah : AH} {x2 : Nat} {x3 : Nat} {v4 : Int32} {v6 : Int32} {s0 : Int32} {s1 : Int32} (hk109 : ∀ {z0 : AH} {z1 : Nat} {z2 : Nat} {z3 : Int32} {z4 : Int32} {z5 : Int32}, 115 ≤ z1 ∧ z1 < 155 → 157 ≤ z2 ∧ z2 < 197 → Fr rgM lf_X12_readsShape a0 z0 → Sf hpV rgM lf_X12_readsShape a0 (k109 z0 z1 z2 z3 z4 z5)) (hx2 : 115 ≤ x2 ∧ x2 < 155) (hx3 : 157 ≤ x3 ∧ x3 < 197) (hah : Fr rgM lf_X12_readsShape a0 ah) : Sf hpV rgM lf_X12_readsShape a0 (F_X12_readsShape_137 N k109 ah x2 x3 v4 v6 s0 s1) := by
  unfold F_X12_readsShape_137
  refine Sf.let_v (fun v5_138 => ?_)
  refine Sf.let_v (fun v6_140 => ?_)
  exact hk109 ⟨by omega, by omega⟩ ⟨by omega, by omega⟩ hah
theorem fb_X12_readsShape_188_f4 {a0 : AH} {N : Nat} {ah : AH} {y0 : Nat} {s1 : Int32} {s2 : Int32} (hy0 : 157 ≤ y0 ∧ y0 < 197) (hah : Fr rgM lf_X12_readsShape a0 ah) : Sf hpV rgM lf_X12_readsShape a0 (F_X12_readsShape_188 N ah y0 s1 s2) := by
  unfold F_X12_readsShape_188
  refine Sf.g (fun _ => ?_)
  refine Sf.let_xu hah (by rw [rgM_4 (by omega) (by omega)]; rfl) (fun a188 ha188 => ?_)
  refine Sf.bv (fb_X12_closes Fr.rf) ha188 rfl (fun a190 ha190 => ?_)
  exact Sf.ret ha190
theorem fb_X12_readsShape_187_f4 {a0 : AH} {N : Nat} {ah : AH} {y0 : Nat} {s1 : Int32} (hy0 : 157 ≤ y0 ∧ y0 < 197) (hah : Fr rgM lf_X12_readsShape a0 ah) : Sf hpV rgM lf_X12_readsShape a0 (F_X12_readsShape_187 N ah y0 s1) := by
  unfold F_X12_readsShape_187
  exact fb_X12_readsShape_188_f4 ⟨by omega, by omega⟩ hah
theorem fb_X12_readsShape_158_f4 {a0 : AH} {N : Nat} {ah : AH} {x3 : Nat} (hx3 : 157 ≤ x3 ∧ x3 < 197) (hah : Fr rgM lf_X12_readsShape a0 ah) : Sf hpV rgM lf_X12_readsShape a0 (F_X12_readsShape_158 N ah x3) := by
  unfold F_X12_readsShape_158
  refine Sf.b (fb_X12_fine Fr.rf) hah rfl (fun r161 a161 ha161 => ?_)
  refine Sf.ite ?_ ?_
  · exact fb_X12_readsShape_187_f4 ⟨by omega, by omega⟩ ha161
  · refine Sf.b (fb_X12_blanks Fr.rf) ha161 rfl (fun r168 a168 ha168 => ?_)
    refine Sf.b (fb_X12_isDigit Fr.rf) ha168 rfl (fun r171 a171 ha171 => ?_)
    refine Sf.ite ?_ ?_
    · exact fb_X12_readsShape_187_f4 ⟨by omega, by omega⟩ ha171
    · refine Sf.b (fb_X12_number Fr.rf) ha171 rfl (fun r181 a181 ha181 => ?_)
      exact fb_X12_readsShape_188_f4 ⟨by omega, by omega⟩ ha181
theorem fb_X12_readsShape_109_f2_f4 {a0 : AH} {N : Nat}  : ∀ (n : Nat) {ah : AH} {x2 : Nat} {x3 : Nat} {v4 : Int32} {v5 : Int32} {v6 : Int32} (hx2 : 115 ≤ x2 ∧ x2 < 155) (hx3 : 157 ≤ x3 ∧ x3 < 197) (hah : Fr rgM lf_X12_readsShape a0 ah), Sf hpV rgM lf_X12_readsShape a0 (F_X12_readsShape_109 N n ah x2 x3 v4 v5 v6) := by
  intro n
  induction n with
  | zero => intros; exact Sf.none
  | succ n ih =>
    intro ah x2 x3 v4 v5 v6 hx2 hx3 hah
    unfold F_X12_readsShape_109
    refine Sf.ite ?_ ?_
    · refine Sf.ite ?_ ?_
      · exact fb_X12_readsShape_158_f4 ⟨by omega, by omega⟩ hah
      · refine Sf.bv (fb_X12_wrong Fr.rf) hah rfl (fun a155 ha155 => ?_)
        exact fb_X12_readsShape_158_f4 ⟨by omega, by omega⟩ ha155
    · refine Sf.g (fun _ => ?_)
      refine Sf.g (fun _ => ?_)
      refine Sf.ite ?_ ?_
      · exact fb_X12_readsShape_137_f2_f4 (fun x0 x1 h => ih x0 x1 h) ⟨by omega, by omega⟩ ⟨by omega, by omega⟩ hah
      · exact fb_X12_readsShape_137_f2_f4 (fun x0 x1 h => ih x0 x1 h) ⟨by omega, by omega⟩ ⟨by omega, by omega⟩ hah
theorem fb_X12_readsShape_104_f2_f4 {a0 : AH} {N : Nat} {ah : AH} {x2 : Nat} {x3 : Nat} {v4 : Int32} {s0 : Int32} (hx2 : 115 ≤ x2 ∧ x2 < 155) (hx3 : 157 ≤ x3 ∧ x3 < 197) (hah : Fr rgM lf_X12_readsShape a0 ah) : Sf hpV rgM lf_X12_readsShape a0 (F_X12_readsShape_104 N ah x2 x3 v4 s0) := by
  unfold F_X12_readsShape_104
  refine Sf.let_v (fun v5_104 => ?_)
  refine Sf.let_v (fun v6_107 => ?_)
  exact fb_X12_readsShape_109_f2_f4 _ ⟨by omega, by omega⟩ ⟨by omega, by omega⟩ hah
theorem fb_X12_readsShape_52_f2_f4 {a0 : AH} {N : Nat} {ah : AH} {x2 : Nat} {x3 : Nat} (hx2 : 115 ≤ x2 ∧ x2 < 155) (hx3 : 157 ≤ x3 ∧ x3 < 197) (hah : Fr rgM lf_X12_readsShape a0 ah) : Sf hpV rgM lf_X12_readsShape a0 (F_X12_readsShape_52 N ah x2 x3) := by
  unfold F_X12_readsShape_52
  refine Sf.let_xu hah rfl (fun a59 ha59 => ?_)
  refine Sf.b (fb_X12_fine Fr.rf) ha59 rfl (fun r63 a63 ha63 => ?_)
  refine Sf.ite ?_ ?_
  · exact Sf.ret ha63
  · refine Sf.b (fb_X12_blanks Fr.rf) ha63 rfl (fun r71 a71 ha71 => ?_)
    refine Sf.let_v (fun v4_79 => ?_)
    refine Sf.b (fb_X12_readsPart_f2 ⟨by omega, by omega⟩ Fr.rf) ha71 rfl (fun r86 a86 ha86 => ?_)
    refine Sf.let_xu ha86 (by rw [rgM_4 (by omega) (by omega)]; rfl) (fun a89 ha89 => ?_)
    refine Sf.ite ?_ ?_
    · exact fb_X12_readsShape_104_f2_f4 ⟨by omega, by omega⟩ ⟨by omega, by omega⟩ ha89
    · exact fb_X12_readsShape_104_f2_f4 ⟨by omega, by omega⟩ ⟨by omega, by omega⟩ ha89
theorem fb_X12_readsShape {a0 : AH} {N : Nat} {ah : AH} {p1 : Int32}  (hah : Fr rgM lf_X12_readsShape a0 ah) : Sf hpV rgM lf_X12_readsShape a0 (F_X12_readsShape N ah p1) := by
  unfold F_X12_readsShape
  refine Sf.g (fun _ => ?_)
  refine Sf.let_c ?_
  refine Sf.g (fun _ => ?_)
  refine Sf.let_c ?_
  refine Sf.b (fb_X12_readsPart_f2 ⟨by omega, by omega⟩ Fr.rf) hah rfl (fun r23 a23 ha23 => ?_)
  refine Sf.let_xu ha23 (by rw [rgM_4 (by omega) (by omega)]; rfl) (fun a26 ha26 => ?_)
  refine Sf.b (fb_X12_fine Fr.rf) ha26 rfl (fun r28 a28 ha28 => ?_)
  refine Sf.ite ?_ ?_
  · exact fb_X12_readsShape_52_f2_f4 ⟨by omega, by omega⟩ ⟨by omega, by omega⟩ ha28
  · refine Sf.b (fb_X12_here Fr.rf) ha28 rfl (fun r35 a35 ha35 => ?_)
    refine Sf.ite ?_ ?_
    · exact fb_X12_readsShape_52_f2_f4 ⟨by omega, by omega⟩ ⟨by omega, by omega⟩ ha35
    · refine Sf.bv (fb_X12_wrong Fr.rf) ha35 rfl (fun a49 ha49 => ?_)
      exact fb_X12_readsShape_52_f2_f4 ⟨by omega, by omega⟩ ⟨by omega, by omega⟩ ha49
abbrev lf_X12_shapes : List Nat := [0, 2, 3, 4, 5, 6, 7, 101, 113, 202, 204]
theorem fb_X12_shapes_208 {a0 : AH} {N : Nat} {k162 : AH → Int32 → Option (Int32 × AH)} (hk162 : ∀ {z0 : AH} {z1 : Int32}, Fr rgM lf_X12_shapes a0 z0 → Sf hpI rgM lf_X12_shapes a0 (k162 z0 z1)) : ∀ (n : Nat) {ah : AH} {v2 : Int32} {v3 : Int32}  (hah : Fr rgM lf_X12_shapes a0 ah), Sf hpI rgM lf_X12_shapes a0 (F_X12_shapes_208 N k162 n ah v2 v3) := by
  intro n
  induction n with
  | zero => intros; exact Sf.none
  | succ n ih =>
    intro ah v2 v3  hah
    unfold F_X12_shapes_208
    refine Sf.ite ?_ ?_
    · refine Sf.let_v (fun v2_239 => ?_)
      exact hk162 hah
    · refine Sf.g (fun _ => ?_)
      refine Sf.let_c ?_
      refine Sf.g (fun _ => ?_)
      refine Sf.let_c ?_
      refine Sf.g (fun _ => ?_)
      refine Sf.g (fun _ => ?_)
      refine Sf.let_xu hah (by rw [rgM_4 (by omega) (by omega)]; rfl) (fun a232 ha232 => ?_)
      refine Sf.let_v (fun v3_233 => ?_)
      exact ih ha232
theorem fb_X12_shapes_174 {a0 : AH} {N : Nat} {k162 : AH → Int32 → Option (Int32 × AH)} (hk162 : ∀ {z0 : AH} {z1 : Int32}, Fr rgM lf_X12_shapes a0 z0 → Sf hpI rgM lf_X12_shapes a0 (k162 z0 z1)) : ∀ (n : Nat) {ah : AH} {v2 : Int32} {v3 : Int32}  (hah : Fr rgM lf_X12_shapes a0 ah), Sf hpI rgM lf_X12_shapes a0 (F_X12_shapes_174 N k162 n ah v2 v3) := by
  intro n
  induction n with
  | zero => intros; exact Sf.none
  | succ n ih =>
    intro ah v2 v3  hah
    unfold F_X12_shapes_174
    refine Sf.ite ?_ ?_
    · refine Sf.let_v (fun v3_207 => ?_)
      exact fb_X12_shapes_208 hk162 _ hah
    · refine Sf.g (fun _ => ?_)
      refine Sf.let_c ?_
      refine Sf.g (fun _ => ?_)
      refine Sf.let_c ?_
      refine Sf.g (fun _ => ?_)
      refine Sf.g (fun _ => ?_)
      refine Sf.let_xu hah (by rw [rgM_2 (by omega) (by omega)]; rfl) (fun a199 ha199 => ?_)
      refine Sf.let_v (fun v3_200 => ?_)
      exact ih ha199
theorem fb_X12_shapes_162 {a0 : AH} {N : Nat}  : ∀ (n : Nat) {ah : AH} {v2 : Int32}  (hah : Fr rgM lf_X12_shapes a0 ah), Sf hpI rgM lf_X12_shapes a0 (F_X12_shapes_162 N n ah v2) := by
  intro n
  induction n with
  | zero => intros; exact Sf.none
  | succ n ih =>
    intro ah v2  hah
    unfold F_X12_shapes_162
    refine Sf.ite ?_ ?_
    · refine Sf.b (fb_X12_ends Fr.rf) hah rfl (fun r252 a252 ha252 => ?_)
      exact Sf.ret ha252
    · refine Sf.let_v (fun v3_173 => ?_)
      exact fb_X12_shapes_174 (fun h => ih h) _ hah
theorem fb_X12_shapes_135 {a0 : AH} {N : Nat} {ah : AH}  (hah : Fr rgM lf_X12_shapes a0 ah) : Sf hpI rgM lf_X12_shapes a0 (F_X12_shapes_135 N ah) := by
  unfold F_X12_shapes_135
  refine Sf.b (fb_X12_fine Fr.rf) hah rfl (fun r136 a136 ha136 => ?_)
  refine Sf.ite ?_ ?_
  · refine Sf.b (fb_X12_ends Fr.rf) ha136 rfl (fun r144 a144 ha144 => ?_)
    exact Sf.ret ha144
  · refine Sf.let_xu ha136 rfl (fun a159 ha159 => ?_)
    refine Sf.let_v (fun v2_161 => ?_)
    exact fb_X12_shapes_162 _ ha159
theorem fb_X12_shapes_102 {a0 : AH} {N : Nat} {k45 : AH → Option (Int32 × AH)} {ah : AH} (hk45 : ∀ {z0 : AH}, Fr rgM lf_X12_shapes a0 z0 → Sf hpI rgM lf_X12_shapes a0 (k45 z0)) (hah : Fr rgM lf_X12_shapes a0 ah) : Sf hpI rgM lf_X12_shapes a0 (F_X12_shapes_102 N k45 ah) := by
  unfold F_X12_shapes_102
  refine Sf.b (fb_X12_fine Fr.rf) hah rfl (fun r103 a103 ha103 => ?_)
  refine Sf.ite ?_ ?_
  · exact fb_X12_shapes_135 ha103
  · refine Sf.bv (fb_X12_readsShape Fr.rf) ha103 rfl (fun a119 ha119 => ?_)
    refine Sf.let_xu ha119 rfl (fun a131 ha131 => ?_)
    exact hk45 ha131
theorem fb_X12_shapes_45 {a0 : AH} {N : Nat}  : ∀ (n : Nat) {ah : AH}  (hah : Fr rgM lf_X12_shapes a0 ah), Sf hpI rgM lf_X12_shapes a0 (F_X12_shapes_45 N n ah) := by
  intro n
  induction n with
  | zero => intros; exact Sf.none
  | succ n ih =>
    intro ah  hah
    unfold F_X12_shapes_45
    refine Sf.b (fb_X12_fine Fr.rf) hah rfl (fun r46 a46 ha46 => ?_)
    refine Sf.ite ?_ ?_
    · exact fb_X12_shapes_135 ha46
    · refine Sf.b (fb_X12_blanks Fr.rf) ha46 rfl (fun r53 a53 ha53 => ?_)
      refine Sf.ite ?_ ?_
      · exact fb_X12_shapes_135 ha53
      · refine Sf.b (fb_X12_here Fr.rf) ha53 rfl (fun r61 a61 ha61 => ?_)
        refine Sf.b (fb_X12_isSmall Fr.rf) ha61 rfl (fun r64 a64 ha64 => ?_)
        refine Sf.ite ?_ ?_
        · refine Sf.bv (fb_X12_wrong Fr.rf) ha64 rfl (fun a76 ha76 => ?_)
          exact fb_X12_shapes_102 (fun h => ih h) ha76
        · refine Sf.ite ?_ ?_
          · refine Sf.bv (fb_X12_wrong Fr.rf) ha64 rfl (fun a99 ha99 => ?_)
            exact fb_X12_shapes_102 (fun h => ih h) ha99
          · exact fb_X12_shapes_102 (fun h => ih h) ha64
theorem fb_X12_shapes_23 {a0 : AH} {N : Nat} {ah : AH} {v1 : Int32} {s1 : Int32}  (hah : Fr rgM lf_X12_shapes a0 ah) : Sf hpI rgM lf_X12_shapes a0 (F_X12_shapes_23 N ah v1 s1) := by
  unfold F_X12_shapes_23
  refine Sf.b (fb_X12_bad Fr.rf) hah rfl (fun r25 a25 ha25 => ?_)
  refine Sf.ite ?_ ?_
  · refine Sf.bv (fb_X12_starts Fr.rf) ha25 rfl (fun a35 ha35 => ?_)
    refine Sf.let_xu ha35 rfl (fun a44 ha44 => ?_)
    exact fb_X12_shapes_45 _ ha44
  · exact Sf.ret ha25
theorem fb_X12_shapes {a0 : AH} {N : Nat} {ah : AH} {p1 : Int32}  (hah : Fr rgM lf_X12_shapes a0 ah) : Sf hpI rgM lf_X12_shapes a0 (F_X12_shapes N ah p1) := by
  unfold F_X12_shapes
  refine Sf.let_xu hah rfl (fun a2 ha2 => ?_)
  refine Sf.b (fb_X12_in Fr.rf) ha2 rfl (fun r12 a12 ha12 => ?_)
  refine Sf.ite ?_ ?_
  · exact fb_X12_shapes_23 ha12
  · exact fb_X12_shapes_23 ha12
abbrev lf_X12_isCell : List Nat := []
theorem fb_X12_isCell_19 {a0 : AH} {N : Nat} {ah : AH}  (hah : Fr rgM lf_X12_isCell a0 ah) : Sf hpI rgM lf_X12_isCell a0 (F_X12_isCell_19 N ah) := by
  unfold F_X12_isCell_19
  exact Sf.ret hah
theorem fb_X12_isCell {a0 : AH} {N : Nat} {ah : AH} {p0 : Int32}  (hah : Fr rgM lf_X12_isCell a0 ah) : Sf hpI rgM lf_X12_isCell a0 (F_X12_isCell N ah p0) := by
  unfold F_X12_isCell
  refine Sf.b (fb_X12_isSmall Fr.rf) hah rfl (fun r1 a1 ha1 => ?_)
  refine Sf.ite ?_ ?_
  · refine Sf.ite ?_ ?_
    · exact fb_X12_isCell_19 ha1
    · refine Sf.ite ?_ ?_
      · exact fb_X12_isCell_19 ha1
      · exact Sf.ret ha1
  · exact fb_X12_isCell_19 ha1
abbrev lf_X12_readsCell_f10 : List Nat := [4, 6, 7, 117, 210]
theorem fb_X12_readsCell_92_f10 {a0 : AH} {N : Nat} {ah : AH} {x1 : Nat} (hx1 : 285 ≤ x1 ∧ x1 < 2205) (hah : Fr rgM lf_X12_readsCell_f10 a0 ah) : Sf hpV rgM lf_X12_readsCell_f10 a0 (F_X12_readsCell_92 N ah x1) := by
  unfold F_X12_readsCell_92
  refine Sf.let_xu hah (by rw [rgM_10 (by omega) (by omega)]; rfl) (fun a96 ha96 => ?_)
  refine Sf.let_xu ha96 rfl (fun a106 ha106 => ?_)
  refine Sf.let_xu ha106 rfl (fun a114 ha114 => ?_)
  exact Sf.ret ha114
theorem fb_X12_readsCell_44_f10 {a0 : AH} {N : Nat} {ah : AH} {x1 : Nat} (hx1 : 285 ≤ x1 ∧ x1 < 2205) (hah : Fr rgM lf_X12_readsCell_f10 a0 ah) : Sf hpV rgM lf_X12_readsCell_f10 a0 (F_X12_readsCell_44 N ah x1) := by
  unfold F_X12_readsCell_44
  refine Sf.ite ?_ ?_
  · refine Sf.b (fb_X12_here Fr.rf) hah rfl (fun r53 a53 ha53 => ?_)
    refine Sf.ite ?_ ?_
    · refine Sf.b (fb_X12_byteAt Fr.rf) ha53 rfl (fun r68 a68 ha68 => ?_)
      refine Sf.b (fb_X12_isSmall Fr.rf) ha68 rfl (fun r71 a71 ha71 => ?_)
      refine Sf.ite ?_ ?_
      · refine Sf.b (fb_X12_byteAt Fr.rf) ha71 rfl (fun r84 a84 ha84 => ?_)
        refine Sf.ite ?_ ?_
        · exact fb_X12_readsCell_92_f10 ⟨by omega, by omega⟩ ha84
        · exact Sf.ret ha84
      · exact fb_X12_readsCell_92_f10 ⟨by omega, by omega⟩ ha71
    · exact Sf.ret ha53
  · exact Sf.ret hah
abbrev lf_X12_readsOthers_f10 : List Nat := [4, 6, 7, 210]
theorem fb_X12_readsOthers_150 {a0 : AH} {N : Nat} {ah : AH}  (hah : Fr rgM lf_X12_readsOthers_f10 a0 ah) : Sf hpV rgM lf_X12_readsOthers_f10 a0 (F_X12_readsOthers_150 N ah) := by
  unfold F_X12_readsOthers_150
  refine Sf.let_xu hah rfl (fun a157 ha157 => ?_)
  exact Sf.ret ha157
theorem fb_X12_readsOthers_93_f10 {a0 : AH} {N : Nat} {k10 : AH → Nat → Option AH} {ah : AH} {x1 : Nat} (hk10 : ∀ {z0 : AH} {z1 : Nat}, 285 ≤ z1 ∧ z1 < 2205 → Fr rgM lf_X12_readsOthers_f10 a0 z0 → Sf hpV rgM lf_X12_readsOthers_f10 a0 (k10 z0 z1)) (hx1 : 285 ≤ x1 ∧ x1 < 2205) (hah : Fr rgM lf_X12_readsOthers_f10 a0 ah) : Sf hpV rgM lf_X12_readsOthers_f10 a0 (F_X12_readsOthers_93 N k10 ah x1) := by
  unfold F_X12_readsOthers_93
  refine Sf.b (fb_X12_fine Fr.rf) hah rfl (fun r94 a94 ha94 => ?_)
  refine Sf.ite ?_ ?_
  · exact Sf.ret ha94
  · refine Sf.b (fb_X12_here Fr.rf) ha94 rfl (fun r110 a110 ha110 => ?_)
    refine Sf.g (fun _ => ?_)
    refine Sf.let_xu ha110 (by rw [rgM_10 (by omega) (by omega)]; rfl) (fun a113 ha113 => ?_)
    refine Sf.let_xu ha113 rfl (fun a121 ha121 => ?_)
    refine Sf.b (fb_X12_number Fr.rf) ha121 rfl (fun r136 a136 ha136 => ?_)
    refine Sf.g (fun _ => ?_)
    refine Sf.let_xu ha136 (by rw [rgM_10 (by omega) (by omega)]; rfl) (fun a139 ha139 => ?_)
    refine Sf.let_xu ha139 (by rw [rgM_10 (by omega) (by omega)]; rfl) (fun a146 ha146 => ?_)
    exact hk10 ⟨by omega, by omega⟩ ha146
theorem fb_X12_readsOthers_55_f10 {a0 : AH} {N : Nat} {k10 : AH → Nat → Option AH} {ah : AH} {x1 : Nat} (hk10 : ∀ {z0 : AH} {z1 : Nat}, 285 ≤ z1 ∧ z1 < 2205 → Fr rgM lf_X12_readsOthers_f10 a0 z0 → Sf hpV rgM lf_X12_readsOthers_f10 a0 (k10 z0 z1)) (hx1 : 285 ≤ x1 ∧ x1 < 2205) (hah : Fr rgM lf_X12_readsOthers_f10 a0 ah) : Sf hpV rgM lf_X12_readsOthers_f10 a0 (F_X12_readsOthers_55 N k10 ah x1) := by
  unfold F_X12_readsOthers_55
  refine Sf.b (fb_X12_here Fr.rf) hah rfl (fun r56 a56 ha56 => ?_)
  refine Sf.b (fb_X12_isSmall Fr.rf) ha56 rfl (fun r59 a59 ha59 => ?_)
  refine Sf.ite ?_ ?_
  · refine Sf.bv (fb_X12_wrong Fr.rf) ha59 rfl (fun a71 ha71 => ?_)
    exact fb_X12_readsOthers_93_f10 hk10 ⟨by omega, by omega⟩ ha71
  · refine Sf.ite ?_ ?_
    · refine Sf.bv (fb_X12_wrong Fr.rf) ha59 rfl (fun a90 ha90 => ?_)
      exact fb_X12_readsOthers_93_f10 hk10 ⟨by omega, by omega⟩ ha90
    · exact fb_X12_readsOthers_93_f10 hk10 ⟨by omega, by omega⟩ ha59
theorem fb_X12_readsOthers_50_f10 {a0 : AH} {N : Nat} {k10 : AH → Nat → Option AH} {ah : AH} {x1 : Nat} (hk10 : ∀ {z0 : AH} {z1 : Nat}, 285 ≤ z1 ∧ z1 < 2205 → Fr rgM lf_X12_readsOthers_f10 a0 z0 → Sf hpV rgM lf_X12_readsOthers_f10 a0 (k10 z0 z1)) (hx1 : 285 ≤ x1 ∧ x1 < 2205) (hah : Fr rgM lf_X12_readsOthers_f10 a0 ah) : Sf hpV rgM lf_X12_readsOthers_f10 a0 (F_X12_readsOthers_50 N k10 ah x1) := by
  unfold F_X12_readsOthers_50
  refine Sf.b (fb_X12_blanks Fr.rf) hah rfl (fun r51 a51 ha51 => ?_)
  exact fb_X12_readsOthers_55_f10 hk10 ⟨by omega, by omega⟩ ha51
theorem fb_X12_readsOthers_10_f10 {a0 : AH} {N : Nat}  : ∀ (n : Nat) {ah : AH} {x1 : Nat} (hx1 : 285 ≤ x1 ∧ x1 < 2205) (hah : Fr rgM lf_X12_readsOthers_f10 a0 ah), Sf hpV rgM lf_X12_readsOthers_f10 a0 (F_X12_readsOthers_10 N n ah x1) := by
  intro n
  induction n with
  | zero => intros; exact Sf.none
  | succ n ih =>
    intro ah x1 hx1 hah
    unfold F_X12_readsOthers_10
    refine Sf.b (fb_X12_fine Fr.rf) hah rfl (fun r11 a11 ha11 => ?_)
    refine Sf.ite ?_ ?_
    · exact fb_X12_readsOthers_150 ha11
    · refine Sf.b (fb_X12_here Fr.rf) ha11 rfl (fun r18 a18 ha18 => ?_)
      refine Sf.ite ?_ ?_
      · exact fb_X12_readsOthers_150 ha18
      · refine Sf.ite ?_ ?_
        · exact fb_X12_readsOthers_55_f10 (fun x0 h => ih x0 h) ⟨by omega, by omega⟩ ha18
        · refine Sf.b (fb_X12_here Fr.rf) ha18 rfl (fun r33 a33 ha33 => ?_)
          refine Sf.ite ?_ ?_
          · exact fb_X12_readsOthers_50_f10 (fun x0 h => ih x0 h) ⟨by omega, by omega⟩ ha33
          · refine Sf.bv (fb_X12_wrong Fr.rf) ha33 rfl (fun a47 ha47 => ?_)
            exact fb_X12_readsOthers_50_f10 (fun x0 h => ih x0 h) ⟨by omega, by omega⟩ ha47
theorem fb_X12_readsOthers_f10 {a0 : AH} {N : Nat} {ah : AH} {x1 : Nat} (hx1 : 285 ≤ x1 ∧ x1 < 2205) (hah : Fr rgM lf_X12_readsOthers_f10 a0 ah) : Sf hpV rgM lf_X12_readsOthers_f10 a0 (F_X12_readsOthers N ah x1) := by
  unfold F_X12_readsOthers
  refine Sf.let_xu hah rfl (fun a7 ha7 => ?_)
  exact fb_X12_readsOthers_10_f10 _ ⟨by omega, by omega⟩ ha7
theorem fb_X12_readsCell_f10 {a0 : AH} {N : Nat} {ah : AH} {x1 : Nat} (hx1 : 285 ≤ x1 ∧ x1 < 2205) (hah : Fr rgM lf_X12_readsCell_f10 a0 ah) : Sf hpV rgM lf_X12_readsCell_f10 a0 (F_X12_readsCell N ah x1) := by
  unfold F_X12_readsCell
  refine Sf.b (fb_X12_here Fr.rf) hah rfl (fun r3 a3 ha3 => ?_)
  refine Sf.let_xu ha3 (by rw [rgM_10 (by omega) (by omega)]; rfl) (fun a6 ha6 => ?_)
  refine Sf.let_xu ha6 (by rw [rgM_10 (by omega) (by omega)]; rfl) (fun a10 ha10 => ?_)
  refine Sf.let_xu ha10 rfl (fun a18 ha18 => ?_)
  refine Sf.b (fb_X12_isSmall Fr.rf) ha18 rfl (fun r24 a24 ha24 => ?_)
  refine Sf.ite ?_ ?_
  · exact fb_X12_readsCell_44_f10 ⟨by omega, by omega⟩ ha24
  · refine Sf.b (fb_X12_here Fr.rf) ha24 rfl (fun r31 a31 ha31 => ?_)
    refine Sf.ite ?_ ?_
    · refine Sf.bv (fb_X12_readsOthers_f10 ⟨by omega, by omega⟩ Fr.rf) ha31 rfl (fun a41 ha41 => ?_)
      exact fb_X12_readsCell_44_f10 ⟨by omega, by omega⟩ ha41
    · exact fb_X12_readsCell_44_f10 ⟨by omega, by omega⟩ ha31
abbrev lf_X12_readsToken : List Nat := [4, 6, 7, 117, 205, 206, 210]
theorem fb_X12_readsToken_48 {a0 : AH} {N : Nat} {k16 : AH → Int32 → Int32 → Option AH} {ah : AH} {v1 : Int32} {v2 : Int32} (hk16 : ∀ {z0 : AH} {z1 : Int32} {z2 : Int32}, Fr rgM lf_X12_readsToken a0 z0 → Sf hpV rgM lf_X12_readsToken a0 (k16 z0 z1 z2)) (hah : Fr rgM lf_X12_readsToken a0 ah) : Sf hpV rgM lf_X12_readsToken a0 (F_X12_readsToken_48 N k16 ah v1 v2) := by
  unfold F_X12_readsToken_48
  refine Sf.b (fb_X12_fine Fr.rf) hah rfl (fun r49 a49 ha49 => ?_)
  refine Sf.ite ?_ ?_
  · exact Sf.ret ha49
  · refine Sf.g (fun _ => ?_)
    refine Sf.g (fun _ => ?_)
    refine Sf.let_c ?_
    refine Sf.bv (fb_X12_readsCell_f10 ⟨by omega, by omega⟩ Fr.rf) ha49 rfl (fun a67 ha67 => ?_)
    refine Sf.let_v (fun v2_70 => ?_)
    exact hk16 ha67
theorem fb_X12_readsToken_76 {a0 : AH} {N : Nat} {ah : AH} {v1 : Int32} {v2 : Int32}  (hah : Fr rgM lf_X12_readsToken a0 ah) : Sf hpV rgM lf_X12_readsToken a0 (F_X12_readsToken_76 N ah v1 v2) := by
  unfold F_X12_readsToken_76
  refine Sf.let_c ?_
  refine Sf.g (fun _ => ?_)
  refine Sf.let_xu hah (by rw [rgM_5 (by omega) (by omega)]; rfl) (fun a84 ha84 => ?_)
  exact Sf.ret ha84
theorem fb_X12_readsToken_16 {a0 : AH} {N : Nat}  : ∀ (n : Nat) {ah : AH} {v1 : Int32} {v2 : Int32}  (hah : Fr rgM lf_X12_readsToken a0 ah), Sf hpV rgM lf_X12_readsToken a0 (F_X12_readsToken_16 N n ah v1 v2) := by
  intro n
  induction n with
  | zero => intros; exact Sf.none
  | succ n ih =>
    intro ah v1 v2  hah
    unfold F_X12_readsToken_16
    refine Sf.b (fb_X12_fine Fr.rf) hah rfl (fun r17 a17 ha17 => ?_)
    refine Sf.ite ?_ ?_
    · exact fb_X12_readsToken_76 ha17
    · refine Sf.b (fb_X12_here Fr.rf) ha17 rfl (fun r24 a24 ha24 => ?_)
      refine Sf.b (fb_X12_isCell Fr.rf) ha24 rfl (fun r27 a27 ha27 => ?_)
      refine Sf.ite ?_ ?_
      · exact fb_X12_readsToken_76 ha27
      · refine Sf.ite ?_ ?_
        · refine Sf.bv (fb_X12_wrong Fr.rf) ha27 rfl (fun a45 ha45 => ?_)
          exact fb_X12_readsToken_48 (fun h => ih h) ha45
        · exact fb_X12_readsToken_48 (fun h => ih h) ha27
theorem fb_X12_readsToken {a0 : AH} {N : Nat} {ah : AH} {p1 : Int32}  (hah : Fr rgM lf_X12_readsToken a0 ah) : Sf hpV rgM lf_X12_readsToken a0 (F_X12_readsToken N ah p1) := by
  unfold F_X12_readsToken
  refine Sf.let_c ?_
  refine Sf.g (fun _ => ?_)
  refine Sf.let_xu hah (by rw [rgM_6 (by omega) (by omega)]; rfl) (fun a13 ha13 => ?_)
  refine Sf.let_v (fun v2_15 => ?_)
  exact fb_X12_readsToken_16 _ ha13
abbrev lf_X12_standsBetween : List Nat := [4, 117]
theorem fb_X12_standsBetween_54 {a0 : AH} {N : Nat} {k4 : AH → Int32 → Int32 → Option (Int32 × AH)} {ah : AH} {v1 : Int32} {s0 : Int32} {s1 : Int32} (hk4 : ∀ {z0 : AH} {z1 : Int32} {z2 : Int32}, Fr rgM lf_X12_standsBetween a0 z0 → Sf hpI rgM lf_X12_standsBetween a0 (k4 z0 z1 z2)) (hah : Fr rgM lf_X12_standsBetween a0 ah) : Sf hpI rgM lf_X12_standsBetween a0 (F_X12_standsBetween_54 N k4 ah v1 s0 s1) := by
  unfold F_X12_standsBetween_54
  refine Sf.let_v (fun v2_55 => ?_)
  refine Sf.let_xu hah rfl (fun a63 ha63 => ?_)
  exact hk4 ha63
theorem fb_X12_standsBetween_37 {a0 : AH} {N : Nat} {k4 : AH → Int32 → Int32 → Option (Int32 × AH)} {ah : AH} {v2 : Int32} {s0 : Int32} {s1 : Int32} (hk4 : ∀ {z0 : AH} {z1 : Int32} {z2 : Int32}, Fr rgM lf_X12_standsBetween a0 z0 → Sf hpI rgM lf_X12_standsBetween a0 (k4 z0 z1 z2)) (hah : Fr rgM lf_X12_standsBetween a0 ah) : Sf hpI rgM lf_X12_standsBetween a0 (F_X12_standsBetween_37 N k4 ah v2 s0 s1) := by
  unfold F_X12_standsBetween_37
  refine Sf.let_v (fun v1_38 => ?_)
  refine Sf.b (fb_X12_here Fr.rf) hah rfl (fun r41 a41 ha41 => ?_)
  refine Sf.ite ?_ ?_
  · exact fb_X12_standsBetween_54 hk4 ha41
  · exact fb_X12_standsBetween_54 hk4 ha41
theorem fb_X12_standsBetween_22 {a0 : AH} {N : Nat} {k4 : AH → Int32 → Int32 → Option (Int32 × AH)} {ah : AH} {v1 : Int32} {v2 : Int32} (hk4 : ∀ {z0 : AH} {z1 : Int32} {z2 : Int32}, Fr rgM lf_X12_standsBetween a0 z0 → Sf hpI rgM lf_X12_standsBetween a0 (k4 z0 z1 z2)) (hah : Fr rgM lf_X12_standsBetween a0 ah) : Sf hpI rgM lf_X12_standsBetween a0 (F_X12_standsBetween_22 N k4 ah v1 v2) := by
  unfold F_X12_standsBetween_22
  refine Sf.b (fb_X12_here Fr.rf) hah rfl (fun r24 a24 ha24 => ?_)
  refine Sf.ite ?_ ?_
  · exact fb_X12_standsBetween_37 hk4 ha24
  · exact fb_X12_standsBetween_37 hk4 ha24
theorem fb_X12_standsBetween_4 {a0 : AH} {N : Nat}  : ∀ (n : Nat) {ah : AH} {v1 : Int32} {v2 : Int32}  (hah : Fr rgM lf_X12_standsBetween a0 ah), Sf hpI rgM lf_X12_standsBetween a0 (F_X12_standsBetween_4 N n ah v1 v2) := by
  intro n
  induction n with
  | zero => intros; exact Sf.none
  | succ n ih =>
    intro ah v1 v2  hah
    unfold F_X12_standsBetween_4
    refine Sf.b (fb_X12_here Fr.rf) hah rfl (fun r5 a5 ha5 => ?_)
    refine Sf.ite ?_ ?_
    · exact fb_X12_standsBetween_22 (fun h => ih h) ha5
    · refine Sf.b (fb_X12_here Fr.rf) ha5 rfl (fun r14 a14 ha14 => ?_)
      refine Sf.ite ?_ ?_
      · exact fb_X12_standsBetween_22 (fun h => ih h) ha14
      · refine Sf.let_xu ha14 rfl (fun a78 ha78 => ?_)
        refine Sf.ite ?_ ?_
        · exact Sf.ret ha78
        · refine Sf.ite ?_ ?_
          · refine Sf.ite ?_ ?_
            · exact Sf.ret ha78
            · exact Sf.ret ha78
          · exact Sf.ret ha78
theorem fb_X12_standsBetween {a0 : AH} {N : Nat} {ah : AH}  (hah : Fr rgM lf_X12_standsBetween a0 ah) : Sf hpI rgM lf_X12_standsBetween a0 (F_X12_standsBetween N ah) := by
  unfold F_X12_standsBetween
  refine Sf.let_v (fun v1_1 => ?_)
  refine Sf.let_v (fun v2_3 => ?_)
  exact fb_X12_standsBetween_4 _ hah
abbrev lf_X12_reading : List Nat := [0, 2, 3, 4, 5, 6, 7, 26, 101, 116, 117, 205, 206, 207, 210]
theorem fb_X12_reading_195 {a0 : AH} {N : Nat} {k57 : AH → Option (Int32 × AH)} {ah : AH} (hk57 : ∀ {z0 : AH}, Fr rgM lf_X12_reading a0 z0 → Sf hpI rgM lf_X12_reading a0 (k57 z0)) (hah : Fr rgM lf_X12_reading a0 ah) : Sf hpI rgM lf_X12_reading a0 (F_X12_reading_195 N k57 ah) := by
  unfold F_X12_reading_195
  refine Sf.let_xu hah rfl (fun a204 ha204 => ?_)
  exact hk57 ha204
theorem fb_X12_reading_163 {a0 : AH} {N : Nat} {k57 : AH → Option (Int32 × AH)} {ah : AH} {v2 : Int32} (hk57 : ∀ {z0 : AH}, Fr rgM lf_X12_reading a0 z0 → Sf hpI rgM lf_X12_reading a0 (k57 z0)) (hah : Fr rgM lf_X12_reading a0 ah) : Sf hpI rgM lf_X12_reading a0 (F_X12_reading_163 N k57 ah v2) := by
  unfold F_X12_reading_163
  refine Sf.b (fb_X12_fine Fr.rf) hah rfl (fun r164 a164 ha164 => ?_)
  refine Sf.ite ?_ ?_
  · exact fb_X12_reading_195 hk57 ha164
  · refine Sf.b (fb_X12_here Fr.rf) ha164 rfl (fun r171 a171 ha171 => ?_)
    refine Sf.ite ?_ ?_
    · exact fb_X12_reading_195 hk57 ha171
    · refine Sf.ite ?_ ?_
      · refine Sf.bv (fb_X12_wrong Fr.rf) ha171 rfl (fun a192 ha192 => ?_)
        exact fb_X12_reading_195 hk57 ha192
      · exact fb_X12_reading_195 hk57 ha171
theorem fb_X12_reading_327 {a0 : AH} {N : Nat} {k252 : AH → Int32 → Option (Int32 × AH)} {k312 : AH → Int32 → Int32 → Option (Int32 × AH)} (hk252 : ∀ {z0 : AH} {z1 : Int32}, Fr rgM lf_X12_reading a0 z0 → Sf hpI rgM lf_X12_reading a0 (k252 z0 z1)) (hk312 : ∀ {z0 : AH} {z1 : Int32} {z2 : Int32}, Fr rgM lf_X12_reading a0 z0 → Sf hpI rgM lf_X12_reading a0 (k312 z0 z1 z2)) : ∀ (n : Nat) {ah : AH} {v2 : Int32} {v3 : Int32} {v4 : Int32}  (hah : Fr rgM lf_X12_reading a0 ah), Sf hpI rgM lf_X12_reading a0 (F_X12_reading_327 N k252 k312 n ah v2 v3 v4) := by
  intro n
  induction n with
  | zero => intros; exact Sf.none
  | succ n ih =>
    intro ah v2 v3 v4  hah
    unfold F_X12_reading_327
    refine Sf.ite ?_ ?_
    · refine Sf.let_v (fun v3_366 => ?_)
      exact hk312 hah
    · refine Sf.g (fun _ => ?_)
      refine Sf.g (fun _ => ?_)
      refine Sf.let_c ?_
      refine Sf.g (fun _ => ?_)
      refine Sf.g (fun _ => ?_)
      refine Sf.let_c ?_
      refine Sf.g (fun _ => ?_)
      refine Sf.g (fun _ => ?_)
      refine Sf.let_xu hah (by rw [rgM_10 (by omega) (by omega)]; rfl) (fun a359 ha359 => ?_)
      refine Sf.let_v (fun v4_360 => ?_)
      exact ih ha359
theorem fb_X12_reading_312 {a0 : AH} {N : Nat} {k252 : AH → Int32 → Option (Int32 × AH)} (hk252 : ∀ {z0 : AH} {z1 : Int32}, Fr rgM lf_X12_reading a0 z0 → Sf hpI rgM lf_X12_reading a0 (k252 z0 z1)) : ∀ (n : Nat) {ah : AH} {v2 : Int32} {v3 : Int32}  (hah : Fr rgM lf_X12_reading a0 ah), Sf hpI rgM lf_X12_reading a0 (F_X12_reading_312 N k252 n ah v2 v3) := by
  intro n
  induction n with
  | zero => intros; exact Sf.none
  | succ n ih =>
    intro ah v2 v3  hah
    unfold F_X12_reading_312
    refine Sf.let_c ?_
    refine Sf.g (fun _ => ?_)
    refine Sf.ite ?_ ?_
    · refine Sf.let_v (fun v2_372 => ?_)
      exact hk252 hah
    · refine Sf.let_v (fun v4_325 => ?_)
      exact fb_X12_reading_327 hk252 (fun h => ih h) _ hah
theorem fb_X12_reading_252 {a0 : AH} {N : Nat}  : ∀ (n : Nat) {ah : AH} {v2 : Int32}  (hah : Fr rgM lf_X12_reading a0 ah), Sf hpI rgM lf_X12_reading a0 (F_X12_reading_252 N n ah v2) := by
  intro n
  induction n with
  | zero => intros; exact Sf.none
  | succ n ih =>
    intro ah v2  hah
    unfold F_X12_reading_252
    refine Sf.ite ?_ ?_
    · refine Sf.b (fb_X12_ends Fr.rf) hah rfl (fun r385 a385 ha385 => ?_)
      exact Sf.ret ha385
    · refine Sf.let_c ?_
      refine Sf.let_c ?_
      refine Sf.g (fun _ => ?_)
      refine Sf.g (fun _ => ?_)
      refine Sf.let_xu hah (by rw [rgM_5 (by omega) (by omega)]; rfl) (fun a277 ha277 => ?_)
      refine Sf.let_c ?_
      refine Sf.let_c ?_
      refine Sf.g (fun _ => ?_)
      refine Sf.g (fun _ => ?_)
      refine Sf.let_xu ha277 (by rw [rgM_6 (by omega) (by omega)]; rfl) (fun a293 ha293 => ?_)
      refine Sf.let_c ?_
      refine Sf.let_c ?_
      refine Sf.g (fun _ => ?_)
      refine Sf.g (fun _ => ?_)
      refine Sf.let_xu ha293 (by rw [rgM_7 (by omega) (by omega)]; rfl) (fun a309 ha309 => ?_)
      refine Sf.let_v (fun v3_311 => ?_)
      exact fb_X12_reading_312 (fun h => ih h) _ ha309
theorem fb_X12_reading_208 {a0 : AH} {N : Nat} {ah : AH}  (hah : Fr rgM lf_X12_reading a0 ah) : Sf hpI rgM lf_X12_reading a0 (F_X12_reading_208 N ah) := by
  unfold F_X12_reading_208
  refine Sf.b (fb_X12_fine Fr.rf) hah rfl (fun r209 a209 ha209 => ?_)
  refine Sf.ite ?_ ?_
  · refine Sf.b (fb_X12_ends Fr.rf) ha209 rfl (fun r217 a217 ha217 => ?_)
    exact Sf.ret ha217
  · refine Sf.let_xu ha209 rfl (fun a223 ha223 => ?_)
    refine Sf.let_xu ha223 rfl (fun a237 ha237 => ?_)
    refine Sf.let_xu ha237 rfl (fun a249 ha249 => ?_)
    refine Sf.let_v (fun v2_251 => ?_)
    exact fb_X12_reading_252 _ ha249
theorem fb_X12_reading_114 {a0 : AH} {N : Nat} {k57 : AH → Option (Int32 × AH)} {ah : AH} (hk57 : ∀ {z0 : AH}, Fr rgM lf_X12_reading a0 z0 → Sf hpI rgM lf_X12_reading a0 (k57 z0)) (hah : Fr rgM lf_X12_reading a0 ah) : Sf hpI rgM lf_X12_reading a0 (F_X12_reading_114 N k57 ah) := by
  unfold F_X12_reading_114
  refine Sf.b (fb_X12_fine Fr.rf) hah rfl (fun r115 a115 ha115 => ?_)
  refine Sf.ite ?_ ?_
  · exact fb_X12_reading_208 ha115
  · refine Sf.bv (fb_X12_readsToken Fr.rf) ha115 rfl (fun a131 ha131 => ?_)
    refine Sf.let_v (fun v2_138 => ?_)
    refine Sf.b (fb_X12_fine Fr.rf) ha131 rfl (fun r140 a140 ha140 => ?_)
    refine Sf.ite ?_ ?_
    · exact fb_X12_reading_163 hk57 ha140
    · refine Sf.let_c ?_
      refine Sf.b (fb_X12_standsBetween Fr.rf) ha140 rfl (fun r159 a159 ha159 => ?_)
      refine Sf.g (fun _ => ?_)
      refine Sf.let_xu ha159 (by rw [rgM_7 (by omega) (by omega)]; rfl) (fun a162 ha162 => ?_)
      exact fb_X12_reading_163 hk57 ha162
theorem fb_X12_reading_57 {a0 : AH} {N : Nat}  : ∀ (n : Nat) {ah : AH}  (hah : Fr rgM lf_X12_reading a0 ah), Sf hpI rgM lf_X12_reading a0 (F_X12_reading_57 N n ah) := by
  intro n
  induction n with
  | zero => intros; exact Sf.none
  | succ n ih =>
    intro ah  hah
    unfold F_X12_reading_57
    refine Sf.b (fb_X12_fine Fr.rf) hah rfl (fun r58 a58 ha58 => ?_)
    refine Sf.ite ?_ ?_
    · exact fb_X12_reading_208 ha58
    · refine Sf.b (fb_X12_here Fr.rf) ha58 rfl (fun r65 a65 ha65 => ?_)
      refine Sf.ite ?_ ?_
      · exact fb_X12_reading_208 ha65
      · refine Sf.b (fb_X12_here Fr.rf) ha65 rfl (fun r73 a73 ha73 => ?_)
        refine Sf.b (fb_X12_isCell Fr.rf) ha73 rfl (fun r76 a76 ha76 => ?_)
        refine Sf.ite ?_ ?_
        · refine Sf.bv (fb_X12_wrong Fr.rf) ha76 rfl (fun a88 ha88 => ?_)
          exact fb_X12_reading_114 (fun h => ih h) ha88
        · refine Sf.ite ?_ ?_
          · refine Sf.bv (fb_X12_wrong Fr.rf) ha76 rfl (fun a111 ha111 => ?_)
            exact fb_X12_reading_114 (fun h => ih h) ha111
          · exact fb_X12_reading_114 (fun h => ih h) ha76
theorem fb_X12_reading_23 {a0 : AH} {N : Nat} {ah : AH} {v1 : Int32} {s1 : Int32}  (hah : Fr rgM lf_X12_reading a0 ah) : Sf hpI rgM lf_X12_reading a0 (F_X12_reading_23 N ah v1 s1) := by
  unfold F_X12_reading_23
  refine Sf.b (fb_X12_bad Fr.rf) hah rfl (fun r25 a25 ha25 => ?_)
  refine Sf.ite ?_ ?_
  · refine Sf.bv (fb_X12_starts Fr.rf) ha25 rfl (fun a35 ha35 => ?_)
    refine Sf.let_xu ha35 rfl (fun a44 ha44 => ?_)
    refine Sf.let_xu ha44 rfl (fun a51 ha51 => ?_)
    refine Sf.b (fb_X12_standsBetween Fr.rf) ha51 rfl (fun r53 a53 ha53 => ?_)
    exact fb_X12_reading_57 _ ha53
  · exact Sf.ret ha25
theorem fb_X12_reading {a0 : AH} {N : Nat} {ah : AH} {p1 : Int32}  (hah : Fr rgM lf_X12_reading a0 ah) : Sf hpI rgM lf_X12_reading a0 (F_X12_reading N ah p1) := by
  unfold F_X12_reading
  refine Sf.let_xu hah rfl (fun a2 ha2 => ?_)
  refine Sf.b (fb_X12_in Fr.rf) ha2 rfl (fun r12 a12 ha12 => ?_)
  refine Sf.ite ?_ ?_
  · exact fb_X12_reading_23 ha12
  · exact fb_X12_reading_23 ha12
abbrev lf_X12_fault : List Nat := [0]
theorem fb_X12_fault {a0 : AH} {N : Nat} {ah : AH}  (hah : Fr rgM lf_X12_fault a0 ah) : Sf hpI rgM lf_X12_fault a0 (F_X12_fault N ah) := by
  unfold F_X12_fault
  refine Sf.let_xu hah rfl (fun a2 ha2 => ?_)
  exact Sf.ret ha2
abbrev lf_X12_set : List Nat := [0, 101, 103]
theorem fb_X12_set_41 {a0 : AH} {N : Nat} {ah : AH} {v1 : Int32} {v2 : Int32} {s1 : Int32}  (hah : Fr rgM lf_X12_set a0 ah) : Sf hpI rgM lf_X12_set a0 (F_X12_set_41 N ah v1 v2 s1) := by
  unfold F_X12_set_41
  refine Sf.b (fb_X12_bad Fr.rf) hah rfl (fun r43 a43 ha43 => ?_)
  refine Sf.ite ?_ ?_
  · refine Sf.g (fun _ => ?_)
    refine Sf.let_v (fun v3_57 => ?_)
    refine Sf.g (fun _ => ?_)
    refine Sf.let_xu ha43 rfl (fun a64 ha64 => ?_)
    exact Sf.ret ha64
  · exact Sf.ret ha43
theorem fb_X12_set_36 {a0 : AH} {N : Nat} {ah : AH} {v1 : Int32} {v2 : Int32}  (hah : Fr rgM lf_X12_set a0 ah) : Sf hpI rgM lf_X12_set a0 (F_X12_set_36 N ah v1 v2) := by
  unfold F_X12_set_36
  exact fb_X12_set_41 hah
theorem fb_X12_set_30 {a0 : AH} {N : Nat} {ah : AH} {v1 : Int32} {v2 : Int32} {s1 : Int32} {s2 : Int32} {s3 : Int32}  (hah : Fr rgM lf_X12_set a0 ah) : Sf hpI rgM lf_X12_set a0 (F_X12_set_30 N ah v1 v2 s1 s2 s3) := by
  unfold F_X12_set_30
  refine Sf.b (fb_X12_in Fr.rf) hah rfl (fun r30 a30 ha30 => ?_)
  refine Sf.ite ?_ ?_
  · exact fb_X12_set_36 ha30
  · exact fb_X12_set_41 ha30
theorem fb_X12_set {a0 : AH} {N : Nat} {ah : AH} {p1 : Int32} {p2 : Int32}  (hah : Fr rgM lf_X12_set a0 ah) : Sf hpI rgM lf_X12_set a0 (F_X12_set N ah p1 p2) := by
  unfold F_X12_set
  refine Sf.let_xu hah rfl (fun a2 ha2 => ?_)
  refine Sf.b (fb_X12_in Fr.rf) ha2 rfl (fun r10 a10 ha10 => ?_)
  refine Sf.ite ?_ ?_
  · exact fb_X12_set_36 ha10
  · refine Sf.ite ?_ ?_
    · exact fb_X12_set_30 ha10
    · exact fb_X12_set_30 ha10
abbrev lf_X12_weigh : List Nat := [0, 101, 106, 111, 112]
theorem fb_X12_weigh_43 {a0 : AH} {N : Nat} {ah : AH} {v1 : Int32} {v2 : Int32} {s1 : Int32}  (hah : Fr rgM lf_X12_weigh a0 ah) : Sf hpI rgM lf_X12_weigh a0 (F_X12_weigh_43 N ah v1 v2 s1) := by
  unfold F_X12_weigh_43
  refine Sf.b (fb_X12_bad Fr.rf) hah rfl (fun r45 a45 ha45 => ?_)
  refine Sf.ite ?_ ?_
  · refine Sf.g (fun _ => ?_)
    refine Sf.let_v (fun v3_59 => ?_)
    refine Sf.g (fun _ => ?_)
    refine Sf.let_xu ha45 rfl (fun a66 ha66 => ?_)
    refine Sf.bv (fb_X12_weighs Fr.rf) ha66 rfl (fun a68 ha68 => ?_)
    exact Sf.ret ha68
  · exact Sf.ret ha45
theorem fb_X12_weigh_19 {a0 : AH} {N : Nat} {ah : AH} {v1 : Int32} {v2 : Int32} {s1 : Int32}  (hah : Fr rgM lf_X12_weigh a0 ah) : Sf hpI rgM lf_X12_weigh a0 (F_X12_weigh_19 N ah v1 v2 s1) := by
  unfold F_X12_weigh_19
  refine Sf.b (fb_X12_bad Fr.rf) hah rfl (fun r21 a21 ha21 => ?_)
  refine Sf.ite ?_ ?_
  · refine Sf.b (fb_X12_in Fr.rf) ha21 rfl (fun r32 a32 ha32 => ?_)
    refine Sf.ite ?_ ?_
    · exact fb_X12_weigh_43 ha32
    · exact fb_X12_weigh_43 ha32
  · exact Sf.ret ha21
theorem fb_X12_weigh {a0 : AH} {N : Nat} {ah : AH} {p1 : Int32} {p2 : Int32}  (hah : Fr rgM lf_X12_weigh a0 ah) : Sf hpI rgM lf_X12_weigh a0 (F_X12_weigh N ah p1 p2) := by
  unfold F_X12_weigh
  refine Sf.let_xu hah rfl (fun a2 ha2 => ?_)
  refine Sf.b (fb_X12_isWord Fr.rf) ha2 rfl (fun r8 a8 ha8 => ?_)
  refine Sf.ite ?_ ?_
  · exact fb_X12_weigh_19 ha8
  · exact fb_X12_weigh_19 ha8
abbrev lf_X12_edge : List Nat := [125, 215]
theorem fb_X12_edge {a0 : AH} {N : Nat} {ah : AH} {p1 : Int32} {p2 : Int32} {p3 : Int32} {p4 : Int32} {p5 : Int32} {p6 : Int32} {p7 : Int32} {p8 : Int32}  (hah : Fr rgM lf_X12_edge a0 ah) : Sf hpV rgM lf_X12_edge a0 (F_X12_edge N ah p1 p2 p3 p4 p5 p6 p7 p8) := by
  unfold F_X12_edge
  refine Sf.g (fun _ => ?_)
  refine Sf.g (fun _ => ?_)
  refine Sf.g (fun _ => ?_)
  refine Sf.let_c ?_
  refine Sf.let_xu hah (by rw [rgM_15 (by omega) (by omega)]; rfl) (fun a19 ha19 => ?_)
  refine Sf.let_xu ha19 (by rw [rgM_15 (by omega) (by omega)]; rfl) (fun a24 ha24 => ?_)
  refine Sf.let_xu ha24 (by rw [rgM_15 (by omega) (by omega)]; rfl) (fun a30 ha30 => ?_)
  refine Sf.let_xu ha30 (by rw [rgM_15 (by omega) (by omega)]; rfl) (fun a36 ha36 => ?_)
  refine Sf.let_xu ha36 (by rw [rgM_15 (by omega) (by omega)]; rfl) (fun a42 ha42 => ?_)
  refine Sf.let_xu ha42 (by rw [rgM_15 (by omega) (by omega)]; rfl) (fun a48 ha48 => ?_)
  refine Sf.let_xu ha48 (by rw [rgM_15 (by omega) (by omega)]; rfl) (fun a55 ha55 => ?_)
  refine Sf.g (fun _ => ?_)
  refine Sf.g (fun _ => ?_)
  refine Sf.let_xu ha55 rfl (fun a65 ha65 => ?_)
  exact Sf.ret ha65
abbrev lf_X12_isShapeAt : List Nat := []
theorem fb_X12_isShapeAt_26 {a0 : AH} {N : Nat}  : ∀ (n : Nat) {ah : AH} {v1 : Int32} {v2 : Int32} {v3 : Int32} {v4 : Int32}  (hah : Fr rgM lf_X12_isShapeAt a0 ah), Sf hpI rgM lf_X12_isShapeAt a0 (F_X12_isShapeAt_26 N n ah v1 v2 v3 v4) := by
  intro n
  induction n with
  | zero => intros; exact Sf.none
  | succ n ih =>
    intro ah v1 v2 v3 v4  hah
    unfold F_X12_isShapeAt_26
    refine Sf.ite ?_ ?_
    · exact Sf.ret hah
    · refine Sf.g (fun _ => ?_)
      refine Sf.let_c ?_
      refine Sf.g (fun _ => ?_)
      refine Sf.let_c ?_
      refine Sf.g (fun _ => ?_)
      refine Sf.ite ?_ ?_
      · refine Sf.let_v (fun v4_59 => ?_)
        exact ih hah
      · exact Sf.ret hah
theorem fb_X12_isShapeAt {a0 : AH} {N : Nat} {ah : AH} {p1 : Int32} {p2 : Int32}  (hah : Fr rgM lf_X12_isShapeAt a0 ah) : Sf hpI rgM lf_X12_isShapeAt a0 (F_X12_isShapeAt N ah p1 p2) := by
  unfold F_X12_isShapeAt
  refine Sf.g (fun _ => ?_)
  refine Sf.let_c ?_
  refine Sf.let_v (fun v3_10 => ?_)
  refine Sf.ite ?_ ?_
  · refine Sf.let_v (fun v4_24 => ?_)
    exact fb_X12_isShapeAt_26 _ hah
  · exact Sf.ret hah
abbrev lf_X12_laysEdges : List Nat := [125, 215]
theorem fb_X12_laysEdges_295 {a0 : AH} {N : Nat} {k208 : AH → Int32 → Int32 → Option AH} {ah : AH} {v1 : Int32} {v3 : Int32} (hk208 : ∀ {z0 : AH} {z1 : Int32} {z2 : Int32}, Fr rgM lf_X12_laysEdges a0 z0 → Sf hpV rgM lf_X12_laysEdges a0 (k208 z0 z1 z2)) (hah : Fr rgM lf_X12_laysEdges a0 ah) : Sf hpV rgM lf_X12_laysEdges a0 (F_X12_laysEdges_295 N k208 ah v1 v3) := by
  unfold F_X12_laysEdges_295
  refine Sf.let_v (fun v3_295 => ?_)
  exact hk208 hah
theorem fb_X12_laysEdges_208 {a0 : AH} {N : Nat}  : ∀ (n : Nat) {ah : AH} {v1 : Int32} {v3 : Int32}  (hah : Fr rgM lf_X12_laysEdges a0 ah), Sf hpV rgM lf_X12_laysEdges a0 (F_X12_laysEdges_208 N n ah v1 v3) := by
  intro n
  induction n with
  | zero => intros; exact Sf.none
  | succ n ih =>
    intro ah v1 v3  hah
    unfold F_X12_laysEdges_208
    refine Sf.ite ?_ ?_
    · exact Sf.ret hah
    · refine Sf.b (fb_X12_isShapeAt Fr.rf) hah rfl (fun r221 a221 ha221 => ?_)
      refine Sf.ite ?_ ?_
      · exact fb_X12_laysEdges_295 (fun h => ih h) ha221
      · refine Sf.g (fun _ => ?_)
        refine Sf.let_c ?_
        refine Sf.g (fun _ => ?_)
        refine Sf.let_c ?_
        refine Sf.g (fun _ => ?_)
        refine Sf.let_c ?_
        refine Sf.g (fun _ => ?_)
        refine Sf.let_c ?_
        refine Sf.g (fun _ => ?_)
        refine Sf.let_c ?_
        refine Sf.g (fun _ => ?_)
        refine Sf.let_c ?_
        refine Sf.bv (fb_X12_edge Fr.rf) ha221 rfl (fun a292 ha292 => ?_)
        exact fb_X12_laysEdges_295 (fun h => ih h) ha292
theorem fb_X12_laysEdges_206 {a0 : AH} {N : Nat} {ah : AH} {v1 : Int32}  (hah : Fr rgM lf_X12_laysEdges a0 ah) : Sf hpV rgM lf_X12_laysEdges a0 (F_X12_laysEdges_206 N ah v1) := by
  unfold F_X12_laysEdges_206
  refine Sf.let_v (fun v3_207 => ?_)
  exact fb_X12_laysEdges_208 _ hah
theorem fb_X12_laysEdges_164_f13 {a0 : AH} {N : Nat} {ah : AH} {v1 : Int32} {x2 : Nat} (hx2 : 2327 ≤ x2 ∧ x2 < 2375) (hah : Fr rgM lf_X12_laysEdges a0 ah) : Sf hpV rgM lf_X12_laysEdges a0 (F_X12_laysEdges_164 N ah v1 x2) := by
  unfold F_X12_laysEdges_164
  refine Sf.ite ?_ ?_
  · refine Sf.bv (fb_X12_edge Fr.rf) hah rfl (fun a183 ha183 => ?_)
    refine Sf.bv (fb_X12_edge Fr.rf) ha183 rfl (fun a203 ha203 => ?_)
    exact fb_X12_laysEdges_206 ha203
  · exact fb_X12_laysEdges_206 hah
theorem fb_X12_laysEdges_122_f13 {a0 : AH} {N : Nat} {ah : AH} {v1 : Int32} {x2 : Nat} (hx2 : 2327 ≤ x2 ∧ x2 < 2375) (hah : Fr rgM lf_X12_laysEdges a0 ah) : Sf hpV rgM lf_X12_laysEdges a0 (F_X12_laysEdges_122 N ah v1 x2) := by
  unfold F_X12_laysEdges_122
  refine Sf.ite ?_ ?_
  · refine Sf.bv (fb_X12_edge Fr.rf) hah rfl (fun a142 ha142 => ?_)
    refine Sf.bv (fb_X12_edge Fr.rf) ha142 rfl (fun a161 ha161 => ?_)
    exact fb_X12_laysEdges_164_f13 ⟨by omega, by omega⟩ ha161
  · exact fb_X12_laysEdges_164_f13 ⟨by omega, by omega⟩ hah
theorem fb_X12_laysEdges_83_f13 {a0 : AH} {N : Nat}  : ∀ (n : Nat) {ah : AH} {v1 : Int32} {x2 : Nat} {v3 : Int32} (hx2 : 2327 ≤ x2 ∧ x2 < 2375) (hah : Fr rgM lf_X12_laysEdges a0 ah), Sf hpV rgM lf_X12_laysEdges a0 (F_X12_laysEdges_83 N n ah v1 x2 v3) := by
  intro n
  induction n with
  | zero => intros; exact Sf.none
  | succ n ih =>
    intro ah v1 x2 v3 hx2 hah
    unfold F_X12_laysEdges_83
    refine Sf.ite ?_ ?_
    · exact fb_X12_laysEdges_122_f13 ⟨by omega, by omega⟩ hah
    · refine Sf.ite ?_ ?_
      · refine Sf.bv (fb_X12_edge Fr.rf) hah rfl (fun a113 ha113 => ?_)
        refine Sf.let_v (fun v3_116 => ?_)
        exact ih ⟨by omega, by omega⟩ ha113
      · exact fb_X12_laysEdges_122_f13 ⟨by omega, by omega⟩ hah
theorem fb_X12_laysEdges_41_f13 {a0 : AH} {N : Nat}  : ∀ (n : Nat) {ah : AH} {v1 : Int32} {x2 : Nat} {v3 : Int32} (hx2 : 2327 ≤ x2 ∧ x2 < 2375) (hah : Fr rgM lf_X12_laysEdges a0 ah), Sf hpV rgM lf_X12_laysEdges a0 (F_X12_laysEdges_41 N n ah v1 x2 v3) := by
  intro n
  induction n with
  | zero => intros; exact Sf.none
  | succ n ih =>
    intro ah v1 x2 v3 hx2 hah
    unfold F_X12_laysEdges_41
    refine Sf.ite ?_ ?_
    · refine Sf.let_v (fun v3_82 => ?_)
      exact fb_X12_laysEdges_83_f13 _ ⟨by omega, by omega⟩ hah
    · refine Sf.g (fun _ => ?_)
      refine Sf.g (fun _ => ?_)
      refine Sf.bv (fb_X12_edge Fr.rf) hah rfl (fun a71 ha71 => ?_)
      refine Sf.let_v (fun v3_74 => ?_)
      exact ih ⟨by omega, by omega⟩ ha71
theorem fb_X12_laysEdges_39_f13 {a0 : AH} {N : Nat} {ah : AH} {v1 : Int32} {x2 : Nat} (hx2 : 2327 ≤ x2 ∧ x2 < 2375) (hah : Fr rgM lf_X12_laysEdges a0 ah) : Sf hpV rgM lf_X12_laysEdges a0 (F_X12_laysEdges_39 N ah v1 x2) := by
  unfold F_X12_laysEdges_39
  refine Sf.let_v (fun v3_40 => ?_)
  exact fb_X12_laysEdges_41_f13 _ ⟨by omega, by omega⟩ hah
theorem fb_X12_laysEdges {a0 : AH} {N : Nat} {ah : AH} {p1 : Int32}  (hah : Fr rgM lf_X12_laysEdges a0 ah) : Sf hpV rgM lf_X12_laysEdges a0 (F_X12_laysEdges N ah p1) := by
  unfold F_X12_laysEdges
  refine Sf.g (fun _ => ?_)
  refine Sf.let_c ?_
  refine Sf.g (fun _ => ?_)
  refine Sf.let_xu hah rfl (fun a13 ha13 => ?_)
  refine Sf.b (fb_X12_isSmall Fr.rf) ha13 rfl (fun r17 a17 ha17 => ?_)
  refine Sf.ite ?_ ?_
  · exact fb_X12_laysEdges_39_f13 ⟨by omega, by omega⟩ ha17
  · refine Sf.bv (fb_X12_edge Fr.rf) ha17 rfl (fun a36 ha36 => ?_)
    exact fb_X12_laysEdges_39_f13 ⟨by omega, by omega⟩ ha36
abbrev lf_X12_laysNet : List Nat := [125, 126, 215]
theorem fb_X12_laysNet_37 {a0 : AH} {N : Nat} {k17 : AH → Int32 → Option AH} (hk17 : ∀ {z0 : AH} {z1 : Int32}, Fr rgM lf_X12_laysNet a0 z0 → Sf hpV rgM lf_X12_laysNet a0 (k17 z0 z1)) : ∀ (n : Nat) {ah : AH} {v1 : Int32} {v2 : Int32}  (hah : Fr rgM lf_X12_laysNet a0 ah), Sf hpV rgM lf_X12_laysNet a0 (F_X12_laysNet_37 N k17 n ah v1 v2) := by
  intro n
  induction n with
  | zero => intros; exact Sf.none
  | succ n ih =>
    intro ah v1 v2  hah
    unfold F_X12_laysNet_37
    refine Sf.g (fun _ => ?_)
    refine Sf.ite ?_ ?_
    · refine Sf.let_v (fun v1_94 => ?_)
      exact hk17 hah
    · refine Sf.g (fun _ => ?_)
      refine Sf.g (fun _ => ?_)
      refine Sf.g (fun _ => ?_)
      refine Sf.let_c ?_
      refine Sf.g (fun _ => ?_)
      refine Sf.g (fun _ => ?_)
      refine Sf.let_c ?_
      refine Sf.g (fun _ => ?_)
      refine Sf.b (fb_X12_less Fr.rf) hah rfl (fun r84 a84 ha84 => ?_)
      refine Sf.g (fun _ => ?_)
      refine Sf.let_xu ha84 rfl (fun a87 ha87 => ?_)
      refine Sf.let_v (fun v2_88 => ?_)
      exact ih ha87
theorem fb_X12_laysNet_17 {a0 : AH} {N : Nat}  : ∀ (n : Nat) {ah : AH} {v1 : Int32}  (hah : Fr rgM lf_X12_laysNet a0 ah), Sf hpV rgM lf_X12_laysNet a0 (F_X12_laysNet_17 N n ah v1) := by
  intro n
  induction n with
  | zero => intros; exact Sf.none
  | succ n ih =>
    intro ah v1  hah
    unfold F_X12_laysNet_17
    refine Sf.ite ?_ ?_
    · exact Sf.ret hah
    · refine Sf.bv (fb_X12_laysEdges Fr.rf) hah rfl (fun a23 ha23 => ?_)
      refine Sf.g (fun _ => ?_)
      refine Sf.let_xu ha23 rfl (fun a34 ha34 => ?_)
      refine Sf.let_v (fun v2_36 => ?_)
      exact fb_X12_laysNet_37 (fun h => ih h) _ ha34
theorem fb_X12_laysNet {a0 : AH} {N : Nat} {ah : AH}  (hah : Fr rgM lf_X12_laysNet a0 ah) : Sf hpV rgM lf_X12_laysNet a0 (F_X12_laysNet N ah) := by
  unfold F_X12_laysNet
  refine Sf.g (fun _ => ?_)
  refine Sf.let_xu hah rfl (fun a9 ha9 => ?_)
  refine Sf.let_v (fun v1_16 => ?_)
  exact fb_X12_laysNet_17 _ ha9
abbrev lf_X12_copiesCell_f10_f13 : List Nat := [213]
theorem fb_X12_copiesCell_2_f10_f13 {a0 : AH} {N : Nat}  : ∀ (n : Nat) {ah : AH} {x1 : Nat} {x2 : Nat} {v3 : Int32} (hx1 : 285 ≤ x1 ∧ x1 < 2205) (hx2 : 2327 ≤ x2 ∧ x2 < 2375) (hah : Fr rgM lf_X12_copiesCell_f10_f13 a0 ah), Sf hpV rgM lf_X12_copiesCell_f10_f13 a0 (F_X12_copiesCell_2 N n ah x1 x2 v3) := by
  intro n
  induction n with
  | zero => intros; exact Sf.none
  | succ n ih =>
    intro ah x1 x2 v3 hx1 hx2 hah
    unfold F_X12_copiesCell_2
    refine Sf.ite ?_ ?_
    · exact Sf.ret hah
    · refine Sf.g (fun _ => ?_)
      refine Sf.g (fun _ => ?_)
      refine Sf.let_xu hah (by rw [rgM_13 (by omega) (by omega)]; rfl) (fun a13 ha13 => ?_)
      refine Sf.let_v (fun v3_14 => ?_)
      exact ih ⟨by omega, by omega⟩ ⟨by omega, by omega⟩ ha13
theorem fb_X12_copiesCell_f10_f13 {a0 : AH} {N : Nat} {ah : AH} {x1 : Nat} {x2 : Nat} (hx1 : 285 ≤ x1 ∧ x1 < 2205) (hx2 : 2327 ≤ x2 ∧ x2 < 2375) (hah : Fr rgM lf_X12_copiesCell_f10_f13 a0 ah) : Sf hpV rgM lf_X12_copiesCell_f10_f13 a0 (F_X12_copiesCell N ah x1 x2) := by
  unfold F_X12_copiesCell
  refine Sf.let_v (fun v3_1 => ?_)
  exact fb_X12_copiesCell_2_f10_f13 _ ⟨by omega, by omega⟩ ⟨by omega, by omega⟩ hah
abbrev lf_X12_laysToken : List Nat := [33, 125, 126, 213, 215]
theorem fb_X12_laysToken_25 {a0 : AH} {N : Nat} {k7 : AH → Int32 → Int32 → Int32 → Option AH} (hk7 : ∀ {z0 : AH} {z1 : Int32} {z2 : Int32} {z3 : Int32}, Fr rgM lf_X12_laysToken a0 z0 → Sf hpV rgM lf_X12_laysToken a0 (k7 z0 z1 z2 z3)) : ∀ (n : Nat) {ah : AH} {v1 : Int32} {v2 : Int32} {v3 : Int32} {v4 : Int32}  (hah : Fr rgM lf_X12_laysToken a0 ah), Sf hpV rgM lf_X12_laysToken a0 (F_X12_laysToken_25 N k7 n ah v1 v2 v3 v4) := by
  intro n
  induction n with
  | zero => intros; exact Sf.none
  | succ n ih =>
    intro ah v1 v2 v3 v4  hah
    unfold F_X12_laysToken_25
    refine Sf.let_c ?_
    refine Sf.g (fun _ => ?_)
    refine Sf.ite ?_ ?_
    · refine Sf.let_v (fun v3_78 => ?_)
      exact hk7 hah
    · refine Sf.g (fun _ => ?_)
      refine Sf.g (fun _ => ?_)
      refine Sf.let_c ?_
      refine Sf.g (fun _ => ?_)
      refine Sf.let_c ?_
      refine Sf.bv (fb_X12_copiesCell_f10_f13 ⟨by omega, by omega⟩ ⟨by omega, by omega⟩ Fr.rf) hah rfl (fun a59 ha59 => ?_)
      refine Sf.let_xu ha59 rfl (fun a69 ha69 => ?_)
      refine Sf.let_v (fun v4_72 => ?_)
      exact ih ha69
theorem fb_X12_laysToken_19 {a0 : AH} {N : Nat} {k7 : AH → Int32 → Int32 → Int32 → Option AH} {ah : AH} {v1 : Int32} {v2 : Int32} {v3 : Int32} {s0 : Int32} {s1 : Int32} (hk7 : ∀ {z0 : AH} {z1 : Int32} {z2 : Int32} {z3 : Int32}, Fr rgM lf_X12_laysToken a0 z0 → Sf hpV rgM lf_X12_laysToken a0 (k7 z0 z1 z2 z3)) (hah : Fr rgM lf_X12_laysToken a0 ah) : Sf hpV rgM lf_X12_laysToken a0 (F_X12_laysToken_19 N k7 ah v1 v2 v3 s0 s1) := by
  unfold F_X12_laysToken_19
  refine Sf.ite ?_ ?_
  · refine Sf.bv (fb_X12_laysNet Fr.rf) hah rfl (fun a85 ha85 => ?_)
    exact Sf.ret ha85
  · refine Sf.let_v (fun v4_23 => ?_)
    exact fb_X12_laysToken_25 hk7 _ hah
theorem fb_X12_laysToken_7 {a0 : AH} {N : Nat}  : ∀ (n : Nat) {ah : AH} {v1 : Int32} {v2 : Int32} {v3 : Int32}  (hah : Fr rgM lf_X12_laysToken a0 ah), Sf hpV rgM lf_X12_laysToken a0 (F_X12_laysToken_7 N n ah v1 v2 v3) := by
  intro n
  induction n with
  | zero => intros; exact Sf.none
  | succ n ih =>
    intro ah v1 v2 v3  hah
    unfold F_X12_laysToken_7
    refine Sf.ite ?_ ?_
    · exact fb_X12_laysToken_19 (fun h => ih h) hah
    · exact fb_X12_laysToken_19 (fun h => ih h) hah
theorem fb_X12_laysToken {a0 : AH} {N : Nat} {ah : AH} {p1 : Int32} {p2 : Int32}  (hah : Fr rgM lf_X12_laysToken a0 ah) : Sf hpV rgM lf_X12_laysToken a0 (F_X12_laysToken N ah p1 p2) := by
  unfold F_X12_laysToken
  refine Sf.let_xu hah rfl (fun a2 ha2 => ?_)
  refine Sf.let_v (fun v3_6 => ?_)
  exact fb_X12_laysToken_7 _ ha2
abbrev lf_X12_laysWord : List Nat := [33, 125, 126, 213, 215]
theorem fb_X12_laysWord_12 {a0 : AH} {N : Nat}  : ∀ (n : Nat) {ah : AH} {v1 : Int32} {v2 : Int32}  (hah : Fr rgM lf_X12_laysWord a0 ah), Sf hpV rgM lf_X12_laysWord a0 (F_X12_laysWord_12 N n ah v1 v2) := by
  intro n
  induction n with
  | zero => intros; exact Sf.none
  | succ n ih =>
    intro ah v1 v2  hah
    unfold F_X12_laysWord_12
    refine Sf.ite ?_ ?_
    · refine Sf.bv (fb_X12_laysNet Fr.rf) hah rfl (fun a52 ha52 => ?_)
      exact Sf.ret ha52
    · refine Sf.g (fun _ => ?_)
      refine Sf.let_c ?_
      refine Sf.g (fun _ => ?_)
      refine Sf.let_c ?_
      refine Sf.g (fun _ => ?_)
      refine Sf.let_xu hah (by rw [rgM_13 (by omega) (by omega)]; rfl) (fun a35 ha35 => ?_)
      refine Sf.g (fun _ => ?_)
      refine Sf.let_c ?_
      refine Sf.let_xu ha35 (by rw [rgM_13 (by omega) (by omega)]; rfl) (fun a44 ha44 => ?_)
      refine Sf.let_v (fun v2_45 => ?_)
      exact ih ha44
theorem fb_X12_laysWord {a0 : AH} {N : Nat} {ah : AH} {p1 : Int32}  (hah : Fr rgM lf_X12_laysWord a0 ah) : Sf hpV rgM lf_X12_laysWord a0 (F_X12_laysWord N ah p1) := by
  unfold F_X12_laysWord
  refine Sf.g (fun _ => ?_)
  refine Sf.let_xu hah rfl (fun a7 ha7 => ?_)
  refine Sf.let_v (fun v2_11 => ?_)
  exact fb_X12_laysWord_12 _ ha7
abbrev lf_X12_fits_f15 : List Nat := []
theorem fb_X12_fits_19_f15 {a0 : AH} {N : Nat}  : ∀ (n : Nat) {ah : AH} {x1 : Nat} {v2 : Int32} {v3 : Int32} {v4 : Int32} (hx1 : 2423 ≤ x1 ∧ x1 < 5303) (hah : Fr rgM lf_X12_fits_f15 a0 ah), Sf hpI rgM lf_X12_fits_f15 a0 (F_X12_fits_19 N n ah x1 v2 v3 v4) := by
  intro n
  induction n with
  | zero => intros; exact Sf.none
  | succ n ih =>
    intro ah x1 v2 v3 v4 hx1 hah
    unfold F_X12_fits_19
    refine Sf.ite ?_ ?_
    · exact Sf.ret hah
    · refine Sf.g (fun _ => ?_)
      refine Sf.let_c ?_
      refine Sf.g (fun _ => ?_)
      refine Sf.g (fun _ => ?_)
      refine Sf.ite ?_ ?_
      · refine Sf.let_v (fun v4_49 => ?_)
        exact ih ⟨by omega, by omega⟩ hah
      · exact Sf.ret hah
theorem fb_X12_fits_f15 {a0 : AH} {N : Nat} {ah : AH} {x1 : Nat} {p2 : Int32} {p3 : Int32} (hx1 : 2423 ≤ x1 ∧ x1 < 5303) (hah : Fr rgM lf_X12_fits_f15 a0 ah) : Sf hpI rgM lf_X12_fits_f15 a0 (F_X12_fits N ah x1 p2 p3) := by
  unfold F_X12_fits
  refine Sf.g (fun _ => ?_)
  refine Sf.ite ?_ ?_
  · refine Sf.let_v (fun v4_17 => ?_)
    exact fb_X12_fits_19_f15 _ ⟨by omega, by omega⟩ hah
  · exact Sf.ret hah
abbrev lf_X12_spells : List Nat := [216]
theorem fb_X12_spells_136 {a0 : AH} {N : Nat} {k5 : AH → Int32 → Int32 → Option (Int32 × AH)} {k16 : AH → Int32 → Int32 → Int32 → Option (Int32 × AH)} {k50 : AH → Int32 → Int32 → Int32 → Int32 → Int32 → Option (Int32 × AH)} {ah : AH} {v1 : Int32} {v2 : Int32} {v3 : Int32} {v4 : Int32} {v5 : Int32} (hk5 : ∀ {z0 : AH} {z1 : Int32} {z2 : Int32}, Fr rgM lf_X12_spells a0 z0 → Sf hpI rgM lf_X12_spells a0 (k5 z0 z1 z2)) (hk16 : ∀ {z0 : AH} {z1 : Int32} {z2 : Int32} {z3 : Int32}, Fr rgM lf_X12_spells a0 z0 → Sf hpI rgM lf_X12_spells a0 (k16 z0 z1 z2 z3)) (hk50 : ∀ {z0 : AH} {z1 : Int32} {z2 : Int32} {z3 : Int32} {z4 : Int32} {z5 : Int32}, Fr rgM lf_X12_spells a0 z0 → Sf hpI rgM lf_X12_spells a0 (k50 z0 z1 z2 z3 z4 z5)) (hah : Fr rgM lf_X12_spells a0 ah) : Sf hpI rgM lf_X12_spells a0 (F_X12_spells_136 N k5 k16 k50 ah v1 v2 v3 v4 v5) := by
  unfold F_X12_spells_136
  refine Sf.let_v (fun v5_136 => ?_)
  exact hk50 hah
theorem fb_X12_spells_142 {a0 : AH} {N : Nat} {k5 : AH → Int32 → Int32 → Option (Int32 × AH)} {k16 : AH → Int32 → Int32 → Int32 → Option (Int32 × AH)} {ah : AH} {v1 : Int32} {v2 : Int32} {v3 : Int32} {v4 : Int32} (hk5 : ∀ {z0 : AH} {z1 : Int32} {z2 : Int32}, Fr rgM lf_X12_spells a0 z0 → Sf hpI rgM lf_X12_spells a0 (k5 z0 z1 z2)) (hk16 : ∀ {z0 : AH} {z1 : Int32} {z2 : Int32} {z3 : Int32}, Fr rgM lf_X12_spells a0 z0 → Sf hpI rgM lf_X12_spells a0 (k16 z0 z1 z2 z3)) (hah : Fr rgM lf_X12_spells a0 ah) : Sf hpI rgM lf_X12_spells a0 (F_X12_spells_142 N k5 k16 ah v1 v2 v3 v4) := by
  unfold F_X12_spells_142
  refine Sf.g (fun _ => ?_)
  refine Sf.let_c ?_
  refine Sf.g (fun _ => ?_)
  refine Sf.let_xu hah (by rw [rgM_16 (by omega) (by omega)]; rfl) (fun a151 ha151 => ?_)
  refine Sf.let_v (fun v3_152 => ?_)
  exact hk16 ha151
theorem fb_X12_spells_50 {a0 : AH} {N : Nat} {k5 : AH → Int32 → Int32 → Option (Int32 × AH)} {k16 : AH → Int32 → Int32 → Int32 → Option (Int32 × AH)} (hk5 : ∀ {z0 : AH} {z1 : Int32} {z2 : Int32}, Fr rgM lf_X12_spells a0 z0 → Sf hpI rgM lf_X12_spells a0 (k5 z0 z1 z2)) (hk16 : ∀ {z0 : AH} {z1 : Int32} {z2 : Int32} {z3 : Int32}, Fr rgM lf_X12_spells a0 z0 → Sf hpI rgM lf_X12_spells a0 (k16 z0 z1 z2 z3)) : ∀ (n : Nat) {ah : AH} {v1 : Int32} {v2 : Int32} {v3 : Int32} {v4 : Int32} {v5 : Int32}  (hah : Fr rgM lf_X12_spells a0 ah), Sf hpI rgM lf_X12_spells a0 (F_X12_spells_50 N k5 k16 n ah v1 v2 v3 v4 v5) := by
  intro n
  induction n with
  | zero => intros; exact Sf.none
  | succ n ih =>
    intro ah v1 v2 v3 v4 v5  hah
    unfold F_X12_spells_50
    refine Sf.ite ?_ ?_
    · exact fb_X12_spells_142 hk5 hk16 hah
    · refine Sf.g (fun _ => ?_)
      refine Sf.ite ?_ ?_
      · exact fb_X12_spells_142 hk5 hk16 hah
      · refine Sf.g (fun _ => ?_)
        refine Sf.g (fun _ => ?_)
        refine Sf.let_c ?_
        refine Sf.b (fb_X12_fits_f15 ⟨by omega, by omega⟩ Fr.rf) hah rfl (fun r81 a81 ha81 => ?_)
        refine Sf.ite ?_ ?_
        · exact fb_X12_spells_136 hk5 hk16 (fun h => ih h) ha81
        · refine Sf.g (fun _ => ?_)
          refine Sf.g (fun _ => ?_)
          refine Sf.let_c ?_
          refine Sf.g (fun _ => ?_)
          refine Sf.g (fun _ => ?_)
          refine Sf.let_c ?_
          refine Sf.g (fun _ => ?_)
          refine Sf.let_c ?_
          refine Sf.g (fun _ => ?_)
          refine Sf.g (fun _ => ?_)
          refine Sf.let_c ?_
          refine Sf.g (fun _ => ?_)
          refine Sf.b (fb_X12_less Fr.rf) ha81 rfl (fun r131 a131 ha131 => ?_)
          refine Sf.let_v (fun v4_134 => ?_)
          exact fb_X12_spells_136 hk5 hk16 (fun h => ih h) ha131
theorem fb_X12_spells_45 {a0 : AH} {N : Nat} {k5 : AH → Int32 → Int32 → Option (Int32 × AH)} {k16 : AH → Int32 → Int32 → Int32 → Option (Int32 × AH)} {ah : AH} {v1 : Int32} {v2 : Int32} {v3 : Int32} {s0 : Int32} (hk5 : ∀ {z0 : AH} {z1 : Int32} {z2 : Int32}, Fr rgM lf_X12_spells a0 z0 → Sf hpI rgM lf_X12_spells a0 (k5 z0 z1 z2)) (hk16 : ∀ {z0 : AH} {z1 : Int32} {z2 : Int32} {z3 : Int32}, Fr rgM lf_X12_spells a0 z0 → Sf hpI rgM lf_X12_spells a0 (k16 z0 z1 z2 z3)) (hah : Fr rgM lf_X12_spells a0 ah) : Sf hpI rgM lf_X12_spells a0 (F_X12_spells_45 N k5 k16 ah v1 v2 v3 s0) := by
  unfold F_X12_spells_45
  refine Sf.let_v (fun v4_45 => ?_)
  refine Sf.let_v (fun v5_48 => ?_)
  exact fb_X12_spells_50 hk5 hk16 _ hah
theorem fb_X12_spells_42 {a0 : AH} {N : Nat} {k5 : AH → Int32 → Int32 → Option (Int32 × AH)} {k16 : AH → Int32 → Int32 → Int32 → Option (Int32 × AH)} {ah : AH} {v1 : Int32} {v2 : Int32} {v3 : Int32} (hk5 : ∀ {z0 : AH} {z1 : Int32} {z2 : Int32}, Fr rgM lf_X12_spells a0 z0 → Sf hpI rgM lf_X12_spells a0 (k5 z0 z1 z2)) (hk16 : ∀ {z0 : AH} {z1 : Int32} {z2 : Int32} {z3 : Int32}, Fr rgM lf_X12_spells a0 z0 → Sf hpI rgM lf_X12_spells a0 (k16 z0 z1 z2 z3)) (hah : Fr rgM lf_X12_spells a0 ah) : Sf hpI rgM lf_X12_spells a0 (F_X12_spells_42 N k5 k16 ah v1 v2 v3) := by
  unfold F_X12_spells_42
  exact fb_X12_spells_45 hk5 hk16 hah
theorem fb_X12_spells_16 {a0 : AH} {N : Nat} {k5 : AH → Int32 → Int32 → Option (Int32 × AH)} (hk5 : ∀ {z0 : AH} {z1 : Int32} {z2 : Int32}, Fr rgM lf_X12_spells a0 z0 → Sf hpI rgM lf_X12_spells a0 (k5 z0 z1 z2)) : ∀ (n : Nat) {ah : AH} {v1 : Int32} {v2 : Int32} {v3 : Int32}  (hah : Fr rgM lf_X12_spells a0 ah), Sf hpI rgM lf_X12_spells a0 (F_X12_spells_16 N k5 n ah v1 v2 v3) := by
  intro n
  induction n with
  | zero => intros; exact Sf.none
  | succ n ih =>
    intro ah v1 v2 v3  hah
    unfold F_X12_spells_16
    refine Sf.ite ?_ ?_
    · refine Sf.let_v (fun v2_158 => ?_)
      exact hk5 hah
    · refine Sf.ite ?_ ?_
      · refine Sf.g (fun _ => ?_)
        refine Sf.ite ?_ ?_
        · exact fb_X12_spells_45 hk5 (fun h => ih h) hah
        · exact fb_X12_spells_42 hk5 (fun h => ih h) hah
      · exact fb_X12_spells_42 hk5 (fun h => ih h) hah
theorem fb_X12_spells_5 {a0 : AH} {N : Nat}  : ∀ (n : Nat) {ah : AH} {v1 : Int32} {v2 : Int32}  (hah : Fr rgM lf_X12_spells a0 ah), Sf hpI rgM lf_X12_spells a0 (F_X12_spells_5 N n ah v1 v2) := by
  intro n
  induction n with
  | zero => intros; exact Sf.none
  | succ n ih =>
    intro ah v1 v2  hah
    unfold F_X12_spells_5
    refine Sf.ite ?_ ?_
    · refine Sf.let_c ?_
      exact Sf.ret hah
    · refine Sf.g (fun _ => ?_)
      refine Sf.let_v (fun v3_15 => ?_)
      exact fb_X12_spells_16 (fun h => ih h) _ hah
theorem fb_X12_spells {a0 : AH} {N : Nat} {ah : AH} {p1 : Int32}  (hah : Fr rgM lf_X12_spells a0 ah) : Sf hpI rgM lf_X12_spells a0 (F_X12_spells N ah p1) := by
  unfold F_X12_spells
  refine Sf.let_v (fun v2_4 => ?_)
  exact fb_X12_spells_5 _ hah
abbrev lf_X12_boundOf : List Nat := []
theorem fb_X12_boundOf {a0 : AH} {N : Nat} {ah : AH} {p1 : Int32}  (hah : Fr rgM lf_X12_boundOf a0 ah) : Sf hpI rgM lf_X12_boundOf a0 (F_X12_boundOf N ah p1) := by
  unfold F_X12_boundOf
  refine Sf.g (fun _ => ?_)
  refine Sf.z ?_
  refine Sf.g (fun _ => ?_)
  refine Sf.z ?_
  refine Sf.g (fun _ => ?_)
  exact Sf.ret hah
abbrev lf_X12_waitsFor : List Nat := [42, 129, 130, 131]
theorem fb_X12_waitsFor_60 {a0 : AH} {N : Nat} {ah : AH} {v1 : Int32} {v2 : Int32}  (hah : Fr rgM lf_X12_waitsFor a0 ah) : Sf hpV rgM lf_X12_waitsFor a0 (F_X12_waitsFor_60 N ah v1 v2) := by
  unfold F_X12_waitsFor_60
  refine Sf.g (fun _ => ?_)
  refine Sf.let_xu hah rfl (fun a66 ha66 => ?_)
  refine Sf.g (fun _ => ?_)
  refine Sf.let_xu ha66 rfl (fun a73 ha73 => ?_)
  exact Sf.ret ha73
theorem fb_X12_waitsFor_31 {a0 : AH} {N : Nat} {ah : AH} {v1 : Int32} {v2 : Int32}  (hah : Fr rgM lf_X12_waitsFor a0 ah) : Sf hpV rgM lf_X12_waitsFor a0 (F_X12_waitsFor_31 N ah v1 v2) := by
  unfold F_X12_waitsFor_31
  refine Sf.g (fun _ => ?_)
  refine Sf.ite ?_ ?_
  · refine Sf.g (fun _ => ?_)
    refine Sf.let_xu hah rfl (fun a49 ha49 => ?_)
    refine Sf.let_xu ha49 rfl (fun a57 ha57 => ?_)
    exact fb_X12_waitsFor_60 ha57
  · exact fb_X12_waitsFor_60 hah
theorem fb_X12_waitsFor {a0 : AH} {N : Nat} {ah : AH} {p1 : Int32} {p2 : Int32}  (hah : Fr rgM lf_X12_waitsFor a0 ah) : Sf hpV rgM lf_X12_waitsFor a0 (F_X12_waitsFor N ah p1 p2) := by
  unfold F_X12_waitsFor
  refine Sf.g (fun _ => ?_)
  refine Sf.ite ?_ ?_
  · exact Sf.ret hah
  · refine Sf.g (fun _ => ?_)
    refine Sf.ite ?_ ?_
    · refine Sf.g (fun _ => ?_)
      refine Sf.ite ?_ ?_
      · exact fb_X12_waitsFor_31 hah
      · exact Sf.ret hah
    · exact fb_X12_waitsFor_31 hah
abbrev lf_X12_firstState : List Nat := []
theorem fb_X12_firstState_112 {a0 : AH} {N : Nat} {k4 : AH → Int32 → Int32 → Option (Int32 × AH)} {ah : AH} {v1 : Int32} {v2 : Int32} (hk4 : ∀ {z0 : AH} {z1 : Int32} {z2 : Int32}, Fr rgM lf_X12_firstState a0 z0 → Sf hpI rgM lf_X12_firstState a0 (k4 z0 z1 z2)) (hah : Fr rgM lf_X12_firstState a0 ah) : Sf hpI rgM lf_X12_firstState a0 (F_X12_firstState_112 N k4 ah v1 v2) := by
  unfold F_X12_firstState_112
  refine Sf.let_v (fun v2_112 => ?_)
  exact hk4 hah
theorem fb_X12_firstState_110 {a0 : AH} {N : Nat} {k4 : AH → Int32 → Int32 → Option (Int32 × AH)} {ah : AH} {v2 : Int32} (hk4 : ∀ {z0 : AH} {z1 : Int32} {z2 : Int32}, Fr rgM lf_X12_firstState a0 z0 → Sf hpI rgM lf_X12_firstState a0 (k4 z0 z1 z2)) (hah : Fr rgM lf_X12_firstState a0 ah) : Sf hpI rgM lf_X12_firstState a0 (F_X12_firstState_110 N k4 ah v2) := by
  unfold F_X12_firstState_110
  refine Sf.let_v (fun v1_111 => ?_)
  exact fb_X12_firstState_112 hk4 hah
theorem fb_X12_firstState_4 {a0 : AH} {N : Nat}  : ∀ (n : Nat) {ah : AH} {v1 : Int32} {v2 : Int32}  (hah : Fr rgM lf_X12_firstState a0 ah), Sf hpI rgM lf_X12_firstState a0 (F_X12_firstState_4 N n ah v1 v2) := by
  intro n
  induction n with
  | zero => intros; exact Sf.none
  | succ n ih =>
    intro ah v1 v2  hah
    unfold F_X12_firstState_4
    refine Sf.ite ?_ ?_
    · exact Sf.ret hah
    · refine Sf.ite ?_ ?_
      · refine Sf.let_v (fun v1_18 => ?_)
        exact fb_X12_firstState_112 (fun h => ih h) hah
      · refine Sf.g (fun _ => ?_)
        refine Sf.b (fb_X12_boundOf Fr.rf) hah rfl (fun r29 a29 ha29 => ?_)
        refine Sf.let_v (fun v3_32 => ?_)
        refine Sf.g (fun _ => ?_)
        refine Sf.b (fb_X12_boundOf Fr.rf) ha29 rfl (fun r40 a40 ha40 => ?_)
        refine Sf.let_v (fun v4_43 => ?_)
        refine Sf.g (fun _ => ?_)
        refine Sf.z ?_
        refine Sf.let_v (fun v5_55 => ?_)
        refine Sf.g (fun _ => ?_)
        refine Sf.z ?_
        refine Sf.let_v (fun v6_67 => ?_)
        refine Sf.ite ?_ ?_
        · exact fb_X12_firstState_110 (fun h => ih h) ha40
        · refine Sf.ite ?_ ?_
          · refine Sf.ite ?_ ?_
            · exact fb_X12_firstState_110 (fun h => ih h) ha40
            · refine Sf.ite ?_ ?_
              · refine Sf.g (fun _ => ?_)
                refine Sf.g (fun _ => ?_)
                refine Sf.ite ?_ ?_
                · exact fb_X12_firstState_112 (fun h => ih h) ha40
                · exact fb_X12_firstState_110 (fun h => ih h) ha40
              · exact fb_X12_firstState_112 (fun h => ih h) ha40
          · exact fb_X12_firstState_112 (fun h => ih h) ha40
theorem fb_X12_firstState {a0 : AH} {N : Nat} {ah : AH}  (hah : Fr rgM lf_X12_firstState a0 ah) : Sf hpI rgM lf_X12_firstState a0 (F_X12_firstState N ah) := by
  unfold F_X12_firstState
  refine Sf.let_v (fun v1_1 => ?_)
  refine Sf.let_v (fun v2_3 => ?_)
  exact fb_X12_firstState_4 _ hah
abbrev lf_X12_firstAnswer : List Nat := []
theorem fb_X12_firstAnswer_43 {a0 : AH} {N : Nat} {k4 : AH → Int32 → Int32 → Option (Int32 × AH)} {ah : AH} {v1 : Int32} {v2 : Int32} (hk4 : ∀ {z0 : AH} {z1 : Int32} {z2 : Int32}, Fr rgM lf_X12_firstAnswer a0 z0 → Sf hpI rgM lf_X12_firstAnswer a0 (k4 z0 z1 z2)) (hah : Fr rgM lf_X12_firstAnswer a0 ah) : Sf hpI rgM lf_X12_firstAnswer a0 (F_X12_firstAnswer_43 N k4 ah v1 v2) := by
  unfold F_X12_firstAnswer_43
  refine Sf.let_v (fun v2_43 => ?_)
  exact hk4 hah
theorem fb_X12_firstAnswer_41 {a0 : AH} {N : Nat} {k4 : AH → Int32 → Int32 → Option (Int32 × AH)} {ah : AH} {v2 : Int32} (hk4 : ∀ {z0 : AH} {z1 : Int32} {z2 : Int32}, Fr rgM lf_X12_firstAnswer a0 z0 → Sf hpI rgM lf_X12_firstAnswer a0 (k4 z0 z1 z2)) (hah : Fr rgM lf_X12_firstAnswer a0 ah) : Sf hpI rgM lf_X12_firstAnswer a0 (F_X12_firstAnswer_41 N k4 ah v2) := by
  unfold F_X12_firstAnswer_41
  refine Sf.let_v (fun v1_42 => ?_)
  exact fb_X12_firstAnswer_43 hk4 hah
theorem fb_X12_firstAnswer_4 {a0 : AH} {N : Nat}  : ∀ (n : Nat) {ah : AH} {v1 : Int32} {v2 : Int32}  (hah : Fr rgM lf_X12_firstAnswer a0 ah), Sf hpI rgM lf_X12_firstAnswer a0 (F_X12_firstAnswer_4 N n ah v1 v2) := by
  intro n
  induction n with
  | zero => intros; exact Sf.none
  | succ n ih =>
    intro ah v1 v2  hah
    unfold F_X12_firstAnswer_4
    refine Sf.ite ?_ ?_
    · exact Sf.ret hah
    · refine Sf.g (fun _ => ?_)
      refine Sf.ite ?_ ?_
      · exact fb_X12_firstAnswer_43 (fun h => ih h) hah
      · refine Sf.ite ?_ ?_
        · exact fb_X12_firstAnswer_41 (fun h => ih h) hah
        · refine Sf.g (fun _ => ?_)
          refine Sf.g (fun _ => ?_)
          refine Sf.ite ?_ ?_
          · exact fb_X12_firstAnswer_43 (fun h => ih h) hah
          · exact fb_X12_firstAnswer_41 (fun h => ih h) hah
theorem fb_X12_firstAnswer {a0 : AH} {N : Nat} {ah : AH}  (hah : Fr rgM lf_X12_firstAnswer a0 ah) : Sf hpI rgM lf_X12_firstAnswer a0 (F_X12_firstAnswer N ah) := by
  unfold F_X12_firstAnswer
  refine Sf.let_v (fun v1_1 => ?_)
  refine Sf.let_v (fun v2_3 => ?_)
  exact fb_X12_firstAnswer_4 _ hah
abbrev lf_X12_opens : List Nat := [42, 43, 129, 130, 131, 132]
theorem fb_X12_opens_220 {a0 : AH} {N : Nat} {k115 : AH → Int32 → Int32 → Int32 → Int32 → Option AH} {ah : AH} {v2 : Int32} {v3 : Int32} {v4 : Int32} {v5 : Int32} (hk115 : ∀ {z0 : AH} {z1 : Int32} {z2 : Int32} {z3 : Int32} {z4 : Int32}, Fr rgM lf_X12_opens a0 z0 → Sf hpV rgM lf_X12_opens a0 (k115 z0 z1 z2 z3 z4)) (hah : Fr rgM lf_X12_opens a0 ah) : Sf hpV rgM lf_X12_opens a0 (F_X12_opens_220 N k115 ah v2 v3 v4 v5) := by
  unfold F_X12_opens_220
  refine Sf.let_v (fun v5_220 => ?_)
  exact hk115 hah
theorem fb_X12_opens_188_f15 {a0 : AH} {N : Nat} {k115 : AH → Int32 → Int32 → Int32 → Int32 → Option AH} {ah : AH} {v2 : Int32} {v3 : Int32} {v4 : Int32} {v5 : Int32} {x6 : Nat} {v7 : Int32} (hk115 : ∀ {z0 : AH} {z1 : Int32} {z2 : Int32} {z3 : Int32} {z4 : Int32}, Fr rgM lf_X12_opens a0 z0 → Sf hpV rgM lf_X12_opens a0 (k115 z0 z1 z2 z3 z4)) (hx6 : 2423 ≤ x6 ∧ x6 < 5303) (hah : Fr rgM lf_X12_opens a0 ah) : Sf hpV rgM lf_X12_opens a0 (F_X12_opens_188 N k115 ah v2 v3 v4 v5 x6 v7) := by
  unfold F_X12_opens_188
  refine Sf.ite ?_ ?_
  · exact fb_X12_opens_220 hk115 hah
  · refine Sf.g (fun _ => ?_)
    refine Sf.bv (fb_X12_waitsFor Fr.rf) hah rfl (fun a217 ha217 => ?_)
    exact fb_X12_opens_220 hk115 ha217
theorem fb_X12_opens_152_f15 {a0 : AH} {N : Nat} {k115 : AH → Int32 → Int32 → Int32 → Int32 → Option AH} (hk115 : ∀ {z0 : AH} {z1 : Int32} {z2 : Int32} {z3 : Int32} {z4 : Int32}, Fr rgM lf_X12_opens a0 z0 → Sf hpV rgM lf_X12_opens a0 (k115 z0 z1 z2 z3 z4)) : ∀ (n : Nat) {ah : AH} {v2 : Int32} {v3 : Int32} {v4 : Int32} {v5 : Int32} {x6 : Nat} {v7 : Int32} {v8 : Int32} (hx6 : 2423 ≤ x6 ∧ x6 < 5303) (hah : Fr rgM lf_X12_opens a0 ah), Sf hpV rgM lf_X12_opens a0 (F_X12_opens_152 N k115 n ah v2 v3 v4 v5 x6 v7 v8) := by
  intro n
  induction n with
  | zero => intros; exact Sf.none
  | succ n ih =>
    intro ah v2 v3 v4 v5 x6 v7 v8 hx6 hah
    unfold F_X12_opens_152
    refine Sf.ite ?_ ?_
    · exact fb_X12_opens_188_f15 hk115 ⟨by omega, by omega⟩ hah
    · refine Sf.ite ?_ ?_
      · exact fb_X12_opens_188_f15 hk115 ⟨by omega, by omega⟩ hah
      · refine Sf.g (fun _ => ?_)
        refine Sf.b (fb_X12_childOf Fr.rf) hah rfl (fun r177 a177 ha177 => ?_)
        refine Sf.let_v (fun v7_180 => ?_)
        refine Sf.let_v (fun v8_182 => ?_)
        exact ih ⟨by omega, by omega⟩ ha177
theorem fb_X12_opens_115 {a0 : AH} {N : Nat}  : ∀ (n : Nat) {ah : AH} {v2 : Int32} {v3 : Int32} {v4 : Int32} {v5 : Int32}  (hah : Fr rgM lf_X12_opens a0 ah), Sf hpV rgM lf_X12_opens a0 (F_X12_opens_115 N n ah v2 v3 v4 v5) := by
  intro n
  induction n with
  | zero => intros; exact Sf.none
  | succ n ih =>
    intro ah v2 v3 v4 v5  hah
    unfold F_X12_opens_115
    refine Sf.ite ?_ ?_
    · exact Sf.ret hah
    · refine Sf.g (fun _ => ?_)
      refine Sf.ite ?_ ?_
      · exact Sf.ret hah
      · refine Sf.g (fun _ => ?_)
        refine Sf.g (fun _ => ?_)
        refine Sf.let_c ?_
        refine Sf.let_v (fun v7_147 => ?_)
        refine Sf.let_v (fun v8_150 => ?_)
        exact fb_X12_opens_152_f15 (fun h => ih h) _ ⟨by omega, by omega⟩ hah
theorem fb_X12_opens_112 {a0 : AH} {N : Nat} {ah : AH} {v2 : Int32} {v3 : Int32} {v4 : Int32}  (hah : Fr rgM lf_X12_opens a0 ah) : Sf hpV rgM lf_X12_opens a0 (F_X12_opens_112 N ah v2 v3 v4) := by
  unfold F_X12_opens_112
  refine Sf.let_v (fun v5_113 => ?_)
  exact fb_X12_opens_115 _ hah
theorem fb_X12_opens {a0 : AH} {N : Nat} {ah : AH} {p1 : Int32}  (hah : Fr rgM lf_X12_opens a0 ah) : Sf hpV rgM lf_X12_opens a0 (F_X12_opens N ah p1) := by
  unfold F_X12_opens
  refine Sf.g (fun _ => ?_)
  refine Sf.let_v (fun v2_6 => ?_)
  refine Sf.z ?_
  refine Sf.let_v (fun v3_12 => ?_)
  refine Sf.z ?_
  refine Sf.let_v (fun v4_18 => ?_)
  refine Sf.let_xu hah rfl (fun a27 ha27 => ?_)
  refine Sf.g (fun _ => ?_)
  refine Sf.g (fun _ => ?_)
  refine Sf.let_xu ha27 rfl (fun a44 ha44 => ?_)
  refine Sf.g (fun _ => ?_)
  refine Sf.let_xu ha44 rfl (fun a51 ha51 => ?_)
  refine Sf.let_xu ha51 rfl (fun a59 ha59 => ?_)
  refine Sf.ite ?_ ?_
  · refine Sf.g (fun _ => ?_)
    refine Sf.ite ?_ ?_
    · exact fb_X12_opens_112 ha59
    · refine Sf.g (fun _ => ?_)
      refine Sf.g (fun _ => ?_)
      refine Sf.g (fun _ => ?_)
      refine Sf.g (fun _ => ?_)
      refine Sf.g (fun _ => ?_)
      refine Sf.let_xu ha59 rfl (fun a111 ha111 => ?_)
      exact fb_X12_opens_112 ha111
  · exact fb_X12_opens_112 ha59
abbrev lf_X12_searches : List Nat := [42, 43, 49, 129, 130, 131, 132, 133, 134, 135]
theorem fb_X12_searches_201 {a0 : AH} {N : Nat} {k80 : AH → Int32 → Option AH} {ah : AH} {v1 : Int32} (hk80 : ∀ {z0 : AH} {z1 : Int32}, Fr rgM lf_X12_searches a0 z0 → Sf hpV rgM lf_X12_searches a0 (k80 z0 z1)) (hah : Fr rgM lf_X12_searches a0 ah) : Sf hpV rgM lf_X12_searches a0 (F_X12_searches_201 N k80 ah v1) := by
  unfold F_X12_searches_201
  exact hk80 hah
theorem fb_X12_searches_138 {a0 : AH} {N : Nat} {k80 : AH → Int32 → Option AH} {ah : AH} {v1 : Int32} {v2 : Int32} (hk80 : ∀ {z0 : AH} {z1 : Int32}, Fr rgM lf_X12_searches a0 z0 → Sf hpV rgM lf_X12_searches a0 (k80 z0 z1)) (hah : Fr rgM lf_X12_searches a0 ah) : Sf hpV rgM lf_X12_searches a0 (F_X12_searches_138 N k80 ah v1 v2) := by
  unfold F_X12_searches_138
  refine Sf.g (fun _ => ?_)
  refine Sf.let_xu hah rfl (fun a147 ha147 => ?_)
  refine Sf.g (fun _ => ?_)
  refine Sf.g (fun _ => ?_)
  refine Sf.let_xu ha147 rfl (fun a162 ha162 => ?_)
  refine Sf.g (fun _ => ?_)
  refine Sf.let_xu ha162 rfl (fun a175 ha175 => ?_)
  refine Sf.let_xu ha175 rfl (fun a183 ha183 => ?_)
  refine Sf.g (fun _ => ?_)
  refine Sf.let_xu ha183 rfl (fun a192 ha192 => ?_)
  exact fb_X12_searches_201 hk80 ha192
theorem fb_X12_searches_196 {a0 : AH} {N : Nat} {k80 : AH → Int32 → Option AH} {ah : AH} {v1 : Int32} {v3 : Int32} (hk80 : ∀ {z0 : AH} {z1 : Int32}, Fr rgM lf_X12_searches a0 z0 → Sf hpV rgM lf_X12_searches a0 (k80 z0 z1)) (hah : Fr rgM lf_X12_searches a0 ah) : Sf hpV rgM lf_X12_searches a0 (F_X12_searches_196 N k80 ah v1 v3) := by
  unfold F_X12_searches_196
  refine Sf.bv (fb_X12_opens Fr.rf) hah rfl (fun a198 ha198 => ?_)
  exact fb_X12_searches_201 hk80 ha198
theorem fb_X12_searches_109 {a0 : AH} {N : Nat} {k80 : AH → Int32 → Option AH} {ah : AH} {v1 : Int32} {v2 : Int32} {v3 : Int32} (hk80 : ∀ {z0 : AH} {z1 : Int32}, Fr rgM lf_X12_searches a0 z0 → Sf hpV rgM lf_X12_searches a0 (k80 z0 z1)) (hah : Fr rgM lf_X12_searches a0 ah) : Sf hpV rgM lf_X12_searches a0 (F_X12_searches_109 N k80 ah v1 v2 v3) := by
  unfold F_X12_searches_109
  refine Sf.ite ?_ ?_
  · exact fb_X12_searches_196 hk80 hah
  · refine Sf.ite ?_ ?_
    · exact fb_X12_searches_138 hk80 hah
    · refine Sf.g (fun _ => ?_)
      refine Sf.g (fun _ => ?_)
      refine Sf.b (fb_X12_boundOf Fr.rf) hah rfl (fun r132 a132 ha132 => ?_)
      refine Sf.ite ?_ ?_
      · exact fb_X12_searches_196 hk80 ha132
      · exact fb_X12_searches_138 hk80 ha132
theorem fb_X12_searches_80 {a0 : AH} {N : Nat}  : ∀ (n : Nat) {ah : AH} {v1 : Int32}  (hah : Fr rgM lf_X12_searches a0 ah), Sf hpV rgM lf_X12_searches a0 (F_X12_searches_80 N n ah v1) := by
  intro n
  induction n with
  | zero => intros; exact Sf.none
  | succ n ih =>
    intro ah v1  hah
    unfold F_X12_searches_80
    refine Sf.ite ?_ ?_
    · exact Sf.ret hah
    · refine Sf.b (fb_X12_firstAnswer Fr.rf) hah rfl (fun r89 a89 ha89 => ?_)
      refine Sf.let_v (fun v2_92 => ?_)
      refine Sf.b (fb_X12_firstState Fr.rf) ha89 rfl (fun r94 a94 ha94 => ?_)
      refine Sf.let_v (fun v3_97 => ?_)
      refine Sf.ite ?_ ?_
      · refine Sf.ite ?_ ?_
        · exact Sf.ret ha94
        · exact fb_X12_searches_109 (fun h => ih h) ha94
      · exact fb_X12_searches_109 (fun h => ih h) ha94
theorem fb_X12_searches_46 {a0 : AH} {N : Nat}  : ∀ (n : Nat) {ah : AH} {v1 : Int32} {v2 : Int32}  (hah : Fr rgM lf_X12_searches a0 ah), Sf hpV rgM lf_X12_searches a0 (F_X12_searches_46 N n ah v1 v2) := by
  intro n
  induction n with
  | zero => intros; exact Sf.none
  | succ n ih =>
    intro ah v1 v2  hah
    unfold F_X12_searches_46
    refine Sf.ite ?_ ?_
    · refine Sf.ite ?_ ?_
      · exact fb_X12_searches_80 _ hah
      · refine Sf.bv (fb_X12_waitsFor Fr.rf) hah rfl (fun a77 ha77 => ?_)
        exact fb_X12_searches_80 _ ha77
    · refine Sf.g (fun _ => ?_)
      refine Sf.let_xu hah rfl (fun a60 ha60 => ?_)
      refine Sf.let_v (fun v2_61 => ?_)
      exact ih ha60
theorem fb_X12_searches_17 {a0 : AH} {N : Nat}  : ∀ (n : Nat) {ah : AH} {v1 : Int32} {v2 : Int32}  (hah : Fr rgM lf_X12_searches a0 ah), Sf hpV rgM lf_X12_searches a0 (F_X12_searches_17 N n ah v1 v2) := by
  intro n
  induction n with
  | zero => intros; exact Sf.none
  | succ n ih =>
    intro ah v1 v2  hah
    unfold F_X12_searches_17
    refine Sf.ite ?_ ?_
    · refine Sf.let_v (fun v2_45 => ?_)
      exact fb_X12_searches_46 _ hah
    · refine Sf.g (fun _ => ?_)
      refine Sf.let_xu hah rfl (fun a37 ha37 => ?_)
      refine Sf.let_v (fun v2_38 => ?_)
      exact ih ha37
theorem fb_X12_searches {a0 : AH} {N : Nat} {ah : AH} {p1 : Int32}  (hah : Fr rgM lf_X12_searches a0 ah) : Sf hpV rgM lf_X12_searches a0 (F_X12_searches N ah p1) := by
  unfold F_X12_searches
  refine Sf.let_xu hah rfl (fun a2 ha2 => ?_)
  refine Sf.let_xu ha2 rfl (fun a7 ha7 => ?_)
  refine Sf.let_xu ha7 rfl (fun a12 ha12 => ?_)
  refine Sf.let_v (fun v2_16 => ?_)
  exact fb_X12_searches_17 _ ha12
abbrev lf_X12_outside : List Nat := []
theorem fb_X12_outside {a0 : AH} {N : Nat} {ah : AH}  (hah : Fr rgM lf_X12_outside a0 ah) : Sf hpI rgM lf_X12_outside a0 (F_X12_outside N ah) := by
  unfold F_X12_outside
  exact Sf.ret hah
abbrev lf_X12_told : List Nat := [0, 101]
theorem fb_X12_told_21 {a0 : AH} {N : Nat} {ah : AH} {v1 : Int32} {s1 : Int32}  (hah : Fr rgM lf_X12_told a0 ah) : Sf hpI rgM lf_X12_told a0 (F_X12_told_21 N ah v1 s1) := by
  unfold F_X12_told_21
  refine Sf.b (fb_X12_bad Fr.rf) hah rfl (fun r23 a23 ha23 => ?_)
  refine Sf.ite ?_ ?_
  · refine Sf.ite ?_ ?_
    · refine Sf.g (fun _ => ?_)
      exact Sf.ret ha23
    · refine Sf.ite ?_ ?_
      · refine Sf.g (fun _ => ?_)
        exact Sf.ret ha23
      · refine Sf.ite ?_ ?_
        · exact Sf.ret ha23
        · refine Sf.ite ?_ ?_
          · exact Sf.ret ha23
          · refine Sf.ite ?_ ?_
            · exact Sf.ret ha23
            · refine Sf.ite ?_ ?_
              · exact Sf.ret ha23
              · refine Sf.ite ?_ ?_
                · refine Sf.ite ?_ ?_
                  · exact Sf.ret ha23
                  · exact Sf.ret ha23
                · refine Sf.ite ?_ ?_
                  · refine Sf.g (fun _ => ?_)
                    exact Sf.ret ha23
                  · refine Sf.ite ?_ ?_
                    · refine Sf.g (fun _ => ?_)
                      exact Sf.ret ha23
                    · refine Sf.ite ?_ ?_
                      · refine Sf.g (fun _ => ?_)
                        exact Sf.ret ha23
                      · refine Sf.ite ?_ ?_
                        · refine Sf.g (fun _ => ?_)
                          exact Sf.ret ha23
                        · refine Sf.ite ?_ ?_
                          · refine Sf.g (fun _ => ?_)
                            exact Sf.ret ha23
                          · refine Sf.ite ?_ ?_
                            · refine Sf.g (fun _ => ?_)
                              exact Sf.ret ha23
                            · refine Sf.ite ?_ ?_
                              · exact Sf.ret ha23
                              · refine Sf.ite ?_ ?_
                                · exact Sf.ret ha23
                                · exact Sf.none
  · exact Sf.ret ha23
theorem fb_X12_told {a0 : AH} {N : Nat} {ah : AH} {p1 : Int32}  (hah : Fr rgM lf_X12_told a0 ah) : Sf hpI rgM lf_X12_told a0 (F_X12_told N ah p1) := by
  unfold F_X12_told
  refine Sf.let_xu hah rfl (fun a2 ha2 => ?_)
  refine Sf.b (fb_X12_in Fr.rf) ha2 rfl (fun r10 a10 ha10 => ?_)
  refine Sf.ite ?_ ?_
  · exact fb_X12_told_21 ha10
  · exact fb_X12_told_21 ha10
abbrev lf_X12_word : List Nat := [0, 101]
theorem fb_X12_word_42 {a0 : AH} {N : Nat} {ah : AH} {v1 : Int32} {v2 : Int32} {s1 : Int32}  (hah : Fr rgM lf_X12_word a0 ah) : Sf hpI rgM lf_X12_word a0 (F_X12_word_42 N ah v1 v2 s1) := by
  unfold F_X12_word_42
  refine Sf.b (fb_X12_bad Fr.rf) hah rfl (fun r44 a44 ha44 => ?_)
  refine Sf.ite ?_ ?_
  · refine Sf.ite ?_ ?_
    · refine Sf.g (fun _ => ?_)
      exact Sf.ret ha44
    · refine Sf.ite ?_ ?_
      · refine Sf.g (fun _ => ?_)
        exact Sf.ret ha44
      · refine Sf.ite ?_ ?_
        · refine Sf.g (fun _ => ?_)
          exact Sf.ret ha44
        · refine Sf.g (fun _ => ?_)
          refine Sf.g (fun _ => ?_)
          exact Sf.ret ha44
  · exact Sf.ret ha44
theorem fb_X12_word_19 {a0 : AH} {N : Nat} {ah : AH} {v1 : Int32} {v2 : Int32} {s1 : Int32}  (hah : Fr rgM lf_X12_word a0 ah) : Sf hpI rgM lf_X12_word a0 (F_X12_word_19 N ah v1 v2 s1) := by
  unfold F_X12_word_19
  refine Sf.b (fb_X12_bad Fr.rf) hah rfl (fun r21 a21 ha21 => ?_)
  refine Sf.ite ?_ ?_
  · refine Sf.b (fb_X12_in Fr.rf) ha21 rfl (fun r31 a31 ha31 => ?_)
    refine Sf.ite ?_ ?_
    · exact fb_X12_word_42 ha31
    · exact fb_X12_word_42 ha31
  · exact Sf.ret ha21
theorem fb_X12_word {a0 : AH} {N : Nat} {ah : AH} {p1 : Int32} {p2 : Int32}  (hah : Fr rgM lf_X12_word a0 ah) : Sf hpI rgM lf_X12_word a0 (F_X12_word N ah p1 p2) := by
  unfold F_X12_word
  refine Sf.let_xu hah rfl (fun a2 ha2 => ?_)
  refine Sf.b (fb_X12_isWord Fr.rf) ha2 rfl (fun r8 a8 ha8 => ?_)
  refine Sf.ite ?_ ?_
  · exact fb_X12_word_19 ha8
  · exact fb_X12_word_19 ha8
abbrev lf_X12_sign : List Nat := [0, 101]
theorem fb_X12_sign_19 {a0 : AH} {N : Nat} {ah : AH} {v1 : Int32} {v2 : Int32} {s1 : Int32}  (hah : Fr rgM lf_X12_sign a0 ah) : Sf hpI rgM lf_X12_sign a0 (F_X12_sign_19 N ah v1 v2 s1) := by
  unfold F_X12_sign_19
  refine Sf.b (fb_X12_bad Fr.rf) hah rfl (fun r21 a21 ha21 => ?_)
  refine Sf.ite ?_ ?_
  · refine Sf.g (fun _ => ?_)
    refine Sf.b (fb_X12_in Fr.rf) ha21 rfl (fun r39 a39 ha39 => ?_)
    refine Sf.ite ?_ ?_
    · exact Sf.ret ha39
    · refine Sf.g (fun _ => ?_)
      refine Sf.let_c ?_
      refine Sf.g (fun _ => ?_)
      exact Sf.ret ha39
  · exact Sf.ret ha21
theorem fb_X12_sign {a0 : AH} {N : Nat} {ah : AH} {p1 : Int32} {p2 : Int32}  (hah : Fr rgM lf_X12_sign a0 ah) : Sf hpI rgM lf_X12_sign a0 (F_X12_sign N ah p1 p2) := by
  unfold F_X12_sign
  refine Sf.let_xu hah rfl (fun a2 ha2 => ?_)
  refine Sf.b (fb_X12_isWord Fr.rf) ha2 rfl (fun r8 a8 ha8 => ?_)
  refine Sf.ite ?_ ?_
  · exact fb_X12_sign_19 ha8
  · exact fb_X12_sign_19 ha8
abbrev lf_X12_find : List Nat := [0, 101]
theorem fb_X12_find_65 {a0 : AH} {N : Nat} {ah : AH} {v2 : Int32}  (hah : Fr rgM lf_X12_find a0 ah) : Sf hpI rgM lf_X12_find a0 (F_X12_find_65 N ah v2) := by
  unfold F_X12_find_65
  refine Sf.ite ?_ ?_
  · exact Sf.ret hah
  · refine Sf.g (fun _ => ?_)
    exact Sf.ret hah
theorem fb_X12_find_37 {a0 : AH} {N : Nat}  : ∀ (n : Nat) {ah : AH} {v1 : Int32} {v2 : Int32} {v3 : Int32}  (hah : Fr rgM lf_X12_find a0 ah), Sf hpI rgM lf_X12_find a0 (F_X12_find_37 N n ah v1 v2 v3) := by
  intro n
  induction n with
  | zero => intros; exact Sf.none
  | succ n ih =>
    intro ah v1 v2 v3  hah
    unfold F_X12_find_37
    refine Sf.ite ?_ ?_
    · exact fb_X12_find_65 hah
    · refine Sf.ite ?_ ?_
      · exact fb_X12_find_65 hah
      · refine Sf.g (fun _ => ?_)
        refine Sf.b (fb_X12_childOf Fr.rf) hah rfl (fun r55 a55 ha55 => ?_)
        refine Sf.let_v (fun v2_58 => ?_)
        refine Sf.let_v (fun v3_59 => ?_)
        exact ih ha55
theorem fb_X12_find_23 {a0 : AH} {N : Nat} {ah : AH} {v1 : Int32} {s1 : Int32}  (hah : Fr rgM lf_X12_find a0 ah) : Sf hpI rgM lf_X12_find a0 (F_X12_find_23 N ah v1 s1) := by
  unfold F_X12_find_23
  refine Sf.b (fb_X12_bad Fr.rf) hah rfl (fun r25 a25 ha25 => ?_)
  refine Sf.ite ?_ ?_
  · refine Sf.let_v (fun v2_34 => ?_)
    refine Sf.let_v (fun v3_36 => ?_)
    exact fb_X12_find_37 _ ha25
  · exact Sf.ret ha25
theorem fb_X12_find {a0 : AH} {N : Nat} {ah : AH} {p1 : Int32}  (hah : Fr rgM lf_X12_find a0 ah) : Sf hpI rgM lf_X12_find a0 (F_X12_find N ah p1) := by
  unfold F_X12_find
  refine Sf.let_xu hah rfl (fun a2 ha2 => ?_)
  refine Sf.b (fb_X12_in Fr.rf) ha2 rfl (fun r12 a12 ha12 => ?_)
  refine Sf.ite ?_ ?_
  · exact fb_X12_find_23 ha12
  · exact fb_X12_find_23 ha12
abbrev lf_X12_isNode : List Nat := []
theorem fb_X12_isNode {a0 : AH} {N : Nat} {ah : AH} {p1 : Int32}  (hah : Fr rgM lf_X12_isNode a0 ah) : Sf hpI rgM lf_X12_isNode a0 (F_X12_isNode N ah p1) := by
  unfold F_X12_isNode
  refine Sf.b (fb_X12_in Fr.rf) hah rfl (fun r8 a8 ha8 => ?_)
  refine Sf.bo ?_
  exact Sf.ret ha8
abbrev lf_X12_children : List Nat := []
theorem fb_X12_children_30 {a0 : AH} {N : Nat} {k6 : AH → Int32 → Int32 → Int32 → Option (Int32 × AH)} {ah : AH} {v1 : Int32} {v3 : Int32} {s0 : Int32} {s1 : Int32} (hk6 : ∀ {z0 : AH} {z1 : Int32} {z2 : Int32} {z3 : Int32}, Fr rgM lf_X12_children a0 z0 → Sf hpI rgM lf_X12_children a0 (k6 z0 z1 z2 z3)) (hah : Fr rgM lf_X12_children a0 ah) : Sf hpI rgM lf_X12_children a0 (F_X12_children_30 N k6 ah v1 v3 s0 s1) := by
  unfold F_X12_children_30
  refine Sf.let_v (fun v2_31 => ?_)
  refine Sf.let_v (fun v3_32 => ?_)
  exact hk6 hah
theorem fb_X12_children_6 {a0 : AH} {N : Nat}  : ∀ (n : Nat) {ah : AH} {v1 : Int32} {v2 : Int32} {v3 : Int32}  (hah : Fr rgM lf_X12_children a0 ah), Sf hpI rgM lf_X12_children a0 (F_X12_children_6 N n ah v1 v2 v3) := by
  intro n
  induction n with
  | zero => intros; exact Sf.none
  | succ n ih =>
    intro ah v1 v2 v3  hah
    unfold F_X12_children_6
    refine Sf.ite ?_ ?_
    · exact Sf.ret hah
    · refine Sf.g (fun _ => ?_)
      refine Sf.ite ?_ ?_
      · exact fb_X12_children_30 (fun h => ih h) hah
      · exact fb_X12_children_30 (fun h => ih h) hah
theorem fb_X12_children {a0 : AH} {N : Nat} {ah : AH} {p1 : Int32}  (hah : Fr rgM lf_X12_children a0 ah) : Sf hpI rgM lf_X12_children a0 (F_X12_children N ah p1) := by
  unfold F_X12_children
  refine Sf.let_v (fun v2_1 => ?_)
  refine Sf.let_v (fun v3_5 => ?_)
  exact fb_X12_children_6 _ hah
abbrev lf_X12_node : List Nat := [0, 101]
theorem fb_X12_node_42 {a0 : AH} {N : Nat} {ah : AH} {v1 : Int32} {v2 : Int32} {s1 : Int32}  (hah : Fr rgM lf_X12_node a0 ah) : Sf hpI rgM lf_X12_node a0 (F_X12_node_42 N ah v1 v2 s1) := by
  unfold F_X12_node_42
  refine Sf.b (fb_X12_bad Fr.rf) hah rfl (fun r44 a44 ha44 => ?_)
  refine Sf.ite ?_ ?_
  · refine Sf.ite ?_ ?_
    · refine Sf.g (fun _ => ?_)
      exact Sf.ret ha44
    · refine Sf.ite ?_ ?_
      · refine Sf.g (fun _ => ?_)
        exact Sf.ret ha44
      · refine Sf.ite ?_ ?_
        · refine Sf.g (fun _ => ?_)
          exact Sf.ret ha44
        · refine Sf.ite ?_ ?_
          · refine Sf.g (fun _ => ?_)
            exact Sf.ret ha44
          · refine Sf.ite ?_ ?_
            · refine Sf.g (fun _ => ?_)
              exact Sf.ret ha44
            · refine Sf.ite ?_ ?_
              · refine Sf.g (fun _ => ?_)
                exact Sf.ret ha44
              · refine Sf.ite ?_ ?_
                · refine Sf.b (fb_X12_children Fr.rf) ha44 rfl (fun r118 a118 ha118 => ?_)
                  exact Sf.ret ha118
                · exact Sf.none
  · exact Sf.ret ha44
theorem fb_X12_node_19 {a0 : AH} {N : Nat} {ah : AH} {v1 : Int32} {v2 : Int32} {s1 : Int32}  (hah : Fr rgM lf_X12_node a0 ah) : Sf hpI rgM lf_X12_node a0 (F_X12_node_19 N ah v1 v2 s1) := by
  unfold F_X12_node_19
  refine Sf.b (fb_X12_bad Fr.rf) hah rfl (fun r21 a21 ha21 => ?_)
  refine Sf.ite ?_ ?_
  · refine Sf.b (fb_X12_in Fr.rf) ha21 rfl (fun r31 a31 ha31 => ?_)
    refine Sf.ite ?_ ?_
    · exact fb_X12_node_42 ha31
    · exact fb_X12_node_42 ha31
  · exact Sf.ret ha21
theorem fb_X12_node {a0 : AH} {N : Nat} {ah : AH} {p1 : Int32} {p2 : Int32}  (hah : Fr rgM lf_X12_node a0 ah) : Sf hpI rgM lf_X12_node a0 (F_X12_node N ah p1 p2) := by
  unfold F_X12_node
  refine Sf.let_xu hah rfl (fun a2 ha2 => ?_)
  refine Sf.b (fb_X12_isNode Fr.rf) ha2 rfl (fun r8 a8 ha8 => ?_)
  refine Sf.ite ?_ ?_
  · exact fb_X12_node_19 ha8
  · exact fb_X12_node_19 ha8
abbrev lf_X12_child : List Nat := [0, 101]
theorem fb_X12_child_19 {a0 : AH} {N : Nat} {ah : AH} {v1 : Int32} {v2 : Int32} {s1 : Int32}  (hah : Fr rgM lf_X12_child a0 ah) : Sf hpI rgM lf_X12_child a0 (F_X12_child_19 N ah v1 v2 s1) := by
  unfold F_X12_child_19
  refine Sf.b (fb_X12_bad Fr.rf) hah rfl (fun r21 a21 ha21 => ?_)
  refine Sf.ite ?_ ?_
  · refine Sf.b (fb_X12_childOf Fr.rf) ha21 rfl (fun r32 a32 ha32 => ?_)
    exact Sf.ret ha32
  · exact Sf.ret ha21
theorem fb_X12_child {a0 : AH} {N : Nat} {ah : AH} {p1 : Int32} {p2 : Int32}  (hah : Fr rgM lf_X12_child a0 ah) : Sf hpI rgM lf_X12_child a0 (F_X12_child N ah p1 p2) := by
  unfold F_X12_child
  refine Sf.let_xu hah rfl (fun a2 ha2 => ?_)
  refine Sf.b (fb_X12_isNode Fr.rf) ha2 rfl (fun r8 a8 ha8 => ?_)
  refine Sf.ite ?_ ?_
  · exact fb_X12_child_19 ha8
  · exact fb_X12_child_19 ha8
abbrev lf_X12_shape : List Nat := [0, 101]
theorem fb_X12_shape_50 {a0 : AH} {N : Nat} {ah : AH} {v1 : Int32} {v2 : Int32} {s1 : Int32}  (hah : Fr rgM lf_X12_shape a0 ah) : Sf hpI rgM lf_X12_shape a0 (F_X12_shape_50 N ah v1 v2 s1) := by
  unfold F_X12_shape_50
  refine Sf.b (fb_X12_bad Fr.rf) hah rfl (fun r52 a52 ha52 => ?_)
  refine Sf.ite ?_ ?_
  · refine Sf.g (fun _ => ?_)
    refine Sf.let_c ?_
    refine Sf.g (fun _ => ?_)
    exact Sf.ret ha52
  · exact Sf.ret ha52
theorem fb_X12_shape_27 {a0 : AH} {N : Nat} {ah : AH} {v1 : Int32} {v2 : Int32} {s1 : Int32}  (hah : Fr rgM lf_X12_shape a0 ah) : Sf hpI rgM lf_X12_shape a0 (F_X12_shape_27 N ah v1 v2 s1) := by
  unfold F_X12_shape_27
  refine Sf.b (fb_X12_bad Fr.rf) hah rfl (fun r29 a29 ha29 => ?_)
  refine Sf.ite ?_ ?_
  · refine Sf.b (fb_X12_in Fr.rf) ha29 rfl (fun r39 a39 ha39 => ?_)
    refine Sf.ite ?_ ?_
    · exact fb_X12_shape_50 ha39
    · exact fb_X12_shape_50 ha39
  · exact Sf.ret ha29
theorem fb_X12_shape {a0 : AH} {N : Nat} {ah : AH} {p1 : Int32} {p2 : Int32}  (hah : Fr rgM lf_X12_shape a0 ah) : Sf hpI rgM lf_X12_shape a0 (F_X12_shape N ah p1 p2) := by
  unfold F_X12_shape
  refine Sf.let_xu hah rfl (fun a2 ha2 => ?_)
  refine Sf.b (fb_X12_in Fr.rf) ha2 rfl (fun r16 a16 ha16 => ?_)
  refine Sf.ite ?_ ?_
  · exact fb_X12_shape_27 ha16
  · exact fb_X12_shape_27 ha16
abbrev lf_X12_isToken : List Nat := []
theorem fb_X12_isToken {a0 : AH} {N : Nat} {ah : AH} {p1 : Int32}  (hah : Fr rgM lf_X12_isToken a0 ah) : Sf hpI rgM lf_X12_isToken a0 (F_X12_isToken N ah p1) := by
  unfold F_X12_isToken
  refine Sf.b (fb_X12_in Fr.rf) hah rfl (fun r10 a10 ha10 => ?_)
  refine Sf.bo ?_
  exact Sf.ret ha10
abbrev lf_X12_edgesOfAll : List Nat := []
theorem fb_X12_edgesOfAll_4 {a0 : AH} {N : Nat}  : ∀ (n : Nat) {ah : AH} {v1 : Int32} {v2 : Int32}  (hah : Fr rgM lf_X12_edgesOfAll a0 ah), Sf hpI rgM lf_X12_edgesOfAll a0 (F_X12_edgesOfAll_4 N n ah v1 v2) := by
  intro n
  induction n with
  | zero => intros; exact Sf.none
  | succ n ih =>
    intro ah v1 v2  hah
    unfold F_X12_edgesOfAll_4
    refine Sf.ite ?_ ?_
    · exact Sf.ret hah
    · refine Sf.g (fun _ => ?_)
      refine Sf.let_v (fun v1_20 => ?_)
      refine Sf.let_v (fun v2_21 => ?_)
      exact ih hah
theorem fb_X12_edgesOfAll {a0 : AH} {N : Nat} {ah : AH}  (hah : Fr rgM lf_X12_edgesOfAll a0 ah) : Sf hpI rgM lf_X12_edgesOfAll a0 (F_X12_edgesOfAll N ah) := by
  unfold F_X12_edgesOfAll
  refine Sf.let_v (fun v1_1 => ?_)
  refine Sf.let_v (fun v2_3 => ?_)
  exact fb_X12_edgesOfAll_4 _ hah
abbrev lf_X12_breaks : List Nat := []
theorem fb_X12_breaks_39 {a0 : AH} {N : Nat} {k4 : AH → Int32 → Int32 → Int32 → Option (Int32 × AH)} {ah : AH} {v1 : Int32} {v3 : Int32} {s0 : Int32} {s1 : Int32} (hk4 : ∀ {z0 : AH} {z1 : Int32} {z2 : Int32} {z3 : Int32}, Fr rgM lf_X12_breaks a0 z0 → Sf hpI rgM lf_X12_breaks a0 (k4 z0 z1 z2 z3)) (hah : Fr rgM lf_X12_breaks a0 ah) : Sf hpI rgM lf_X12_breaks a0 (F_X12_breaks_39 N k4 ah v1 v3 s0 s1) := by
  unfold F_X12_breaks_39
  refine Sf.let_v (fun v2_40 => ?_)
  refine Sf.let_v (fun v3_41 => ?_)
  exact hk4 hah
theorem fb_X12_breaks_4 {a0 : AH} {N : Nat}  : ∀ (n : Nat) {ah : AH} {v1 : Int32} {v2 : Int32} {v3 : Int32}  (hah : Fr rgM lf_X12_breaks a0 ah), Sf hpI rgM lf_X12_breaks a0 (F_X12_breaks_4 N n ah v1 v2 v3) := by
  intro n
  induction n with
  | zero => intros; exact Sf.none
  | succ n ih =>
    intro ah v1 v2 v3  hah
    unfold F_X12_breaks_4
    refine Sf.let_c ?_
    refine Sf.g (fun _ => ?_)
    refine Sf.ite ?_ ?_
    · exact Sf.ret hah
    · refine Sf.g (fun _ => ?_)
      refine Sf.g (fun _ => ?_)
      refine Sf.let_c ?_
      refine Sf.ite ?_ ?_
      · exact fb_X12_breaks_39 (fun h => ih h) hah
      · exact fb_X12_breaks_39 (fun h => ih h) hah
theorem fb_X12_breaks {a0 : AH} {N : Nat} {ah : AH} {p1 : Int32}  (hah : Fr rgM lf_X12_breaks a0 ah) : Sf hpI rgM lf_X12_breaks a0 (F_X12_breaks N ah p1) := by
  unfold F_X12_breaks
  refine Sf.let_v (fun v2_1 => ?_)
  refine Sf.let_v (fun v3_3 => ?_)
  exact fb_X12_breaks_4 _ hah
abbrev lf_X12_readAs : List Nat := []
theorem fb_X12_readAs_44 {a0 : AH} {N : Nat} {k4 : AH → Int32 → Int32 → Option (Int32 × AH)} {ah : AH} {v1 : Int32} {v2 : Int32} (hk4 : ∀ {z0 : AH} {z1 : Int32} {z2 : Int32}, Fr rgM lf_X12_readAs a0 z0 → Sf hpI rgM lf_X12_readAs a0 (k4 z0 z1 z2)) (hah : Fr rgM lf_X12_readAs a0 ah) : Sf hpI rgM lf_X12_readAs a0 (F_X12_readAs_44 N k4 ah v1 v2) := by
  unfold F_X12_readAs_44
  refine Sf.let_v (fun v2_44 => ?_)
  exact hk4 hah
theorem fb_X12_readAs_50 {a0 : AH} {N : Nat} {ah : AH} {v1 : Int32}  (hah : Fr rgM lf_X12_readAs a0 ah) : Sf hpI rgM lf_X12_readAs a0 (F_X12_readAs_50 N ah v1) := by
  unfold F_X12_readAs_50
  refine Sf.ite ?_ ?_
  · exact Sf.ret hah
  · refine Sf.g (fun _ => ?_)
    exact Sf.ret hah
theorem fb_X12_readAs_4 {a0 : AH} {N : Nat}  : ∀ (n : Nat) {ah : AH} {v1 : Int32} {v2 : Int32}  (hah : Fr rgM lf_X12_readAs a0 ah), Sf hpI rgM lf_X12_readAs a0 (F_X12_readAs_4 N n ah v1 v2) := by
  intro n
  induction n with
  | zero => intros; exact Sf.none
  | succ n ih =>
    intro ah v1 v2  hah
    unfold F_X12_readAs_4
    refine Sf.ite ?_ ?_
    · exact fb_X12_readAs_50 hah
    · refine Sf.ite ?_ ?_
      · exact fb_X12_readAs_50 hah
      · refine Sf.g (fun _ => ?_)
        refine Sf.let_c ?_
        refine Sf.ite ?_ ?_
        · exact fb_X12_readAs_44 (fun h => ih h) hah
        · refine Sf.g (fun _ => ?_)
          refine Sf.let_c ?_
          refine Sf.b (fb_X12_childOf Fr.rf) hah rfl (fun r40 a40 ha40 => ?_)
          refine Sf.let_v (fun v1_43 => ?_)
          exact fb_X12_readAs_44 (fun h => ih h) ha40
theorem fb_X12_readAs {a0 : AH} {N : Nat} {ah : AH}  (hah : Fr rgM lf_X12_readAs a0 ah) : Sf hpI rgM lf_X12_readAs a0 (F_X12_readAs N ah) := by
  unfold F_X12_readAs
  refine Sf.let_v (fun v1_1 => ?_)
  refine Sf.let_v (fun v2_3 => ?_)
  exact fb_X12_readAs_4 _ hah
abbrev lf_X12_token : List Nat := [0, 33, 101, 125, 126, 213, 215]
theorem fb_X12_token_43 {a0 : AH} {N : Nat} {ah : AH} {v1 : Int32} {v2 : Int32} {s1 : Int32}  (hah : Fr rgM lf_X12_token a0 ah) : Sf hpI rgM lf_X12_token a0 (F_X12_token_43 N ah v1 v2 s1) := by
  unfold F_X12_token_43
  refine Sf.b (fb_X12_bad Fr.rf) hah rfl (fun r45 a45 ha45 => ?_)
  refine Sf.ite ?_ ?_
  · refine Sf.bv (fb_X12_laysToken Fr.rf) ha45 rfl (fun a56 ha56 => ?_)
    refine Sf.ite ?_ ?_
    · refine Sf.b (fb_X12_readAs Fr.rf) ha56 rfl (fun r161 a161 ha161 => ?_)
      refine Sf.ite ?_ ?_
      · exact Sf.ret ha161
      · exact Sf.ret ha161
    · refine Sf.ite ?_ ?_
      · refine Sf.b (fb_X12_readAs Fr.rf) ha56 rfl (fun r161 a161 ha161 => ?_)
        refine Sf.ite ?_ ?_
        · exact Sf.ret ha161
        · exact Sf.ret ha161
      · refine Sf.ite ?_ ?_
        · exact Sf.ret ha56
        · refine Sf.ite ?_ ?_
          · refine Sf.let_c ?_
            refine Sf.g (fun _ => ?_)
            exact Sf.ret ha56
          · refine Sf.ite ?_ ?_
            · refine Sf.b (fb_X12_breaks Fr.rf) ha56 rfl (fun r116 a116 ha116 => ?_)
              exact Sf.ret ha116
            · refine Sf.ite ?_ ?_
              · refine Sf.b (fb_X12_edgesOfAll Fr.rf) ha56 rfl (fun r121 a121 ha121 => ?_)
                exact Sf.ret ha121
              · refine Sf.ite ?_ ?_
                · refine Sf.b (fb_X12_outside Fr.rf) ha56 rfl (fun r126 a126 ha126 => ?_)
                  exact Sf.ret ha126
                · refine Sf.ite ?_ ?_
                  · refine Sf.ite ?_ ?_
                    · exact Sf.ret ha56
                    · refine Sf.let_c ?_
                      refine Sf.g (fun _ => ?_)
                      refine Sf.ite ?_ ?_
                      · exact Sf.ret ha56
                      · exact Sf.ret ha56
                  · exact Sf.none
  · exact Sf.ret ha45
theorem fb_X12_token_19 {a0 : AH} {N : Nat} {ah : AH} {v1 : Int32} {v2 : Int32} {s1 : Int32}  (hah : Fr rgM lf_X12_token a0 ah) : Sf hpI rgM lf_X12_token a0 (F_X12_token_19 N ah v1 v2 s1) := by
  unfold F_X12_token_19
  refine Sf.b (fb_X12_bad Fr.rf) hah rfl (fun r21 a21 ha21 => ?_)
  refine Sf.ite ?_ ?_
  · refine Sf.b (fb_X12_in Fr.rf) ha21 rfl (fun r32 a32 ha32 => ?_)
    refine Sf.ite ?_ ?_
    · exact fb_X12_token_43 ha32
    · exact fb_X12_token_43 ha32
  · exact Sf.ret ha21
theorem fb_X12_token {a0 : AH} {N : Nat} {ah : AH} {p1 : Int32} {p2 : Int32}  (hah : Fr rgM lf_X12_token a0 ah) : Sf hpI rgM lf_X12_token a0 (F_X12_token N ah p1 p2) := by
  unfold F_X12_token
  refine Sf.let_xu hah rfl (fun a2 ha2 => ?_)
  refine Sf.b (fb_X12_isToken Fr.rf) ha2 rfl (fun r8 a8 ha8 => ?_)
  refine Sf.ite ?_ ?_
  · exact fb_X12_token_19 ha8
  · exact fb_X12_token_19 ha8
abbrev lf_X12_cell : List Nat := [0, 101]
theorem fb_X12_cell_151_f10 {a0 : AH} {N : Nat} {k110 : AH → Nat → Int32 → Int32 → Option (Int32 × AH)} {ah : AH} {x5 : Nat} {v7 : Int32} {s0 : Int32} (hk110 : ∀ {z0 : AH} {z1 : Nat} {z2 : Int32} {z3 : Int32}, 285 ≤ z1 ∧ z1 < 2205 → Fr rgM lf_X12_cell a0 z0 → Sf hpI rgM lf_X12_cell a0 (k110 z0 z1 z2 z3)) (hx5 : 285 ≤ x5 ∧ x5 < 2205) (hah : Fr rgM lf_X12_cell a0 ah) : Sf hpI rgM lf_X12_cell a0 (F_X12_cell_151 N k110 ah x5 v7 s0) := by
  unfold F_X12_cell_151
  refine Sf.let_v (fun v6_151 => ?_)
  refine Sf.let_v (fun v7_153 => ?_)
  exact hk110 ⟨by omega, by omega⟩ hah
theorem fb_X12_cell_110_f10 {a0 : AH} {N : Nat}  : ∀ (n : Nat) {ah : AH} {x5 : Nat} {v6 : Int32} {v7 : Int32} (hx5 : 285 ≤ x5 ∧ x5 < 2205) (hah : Fr rgM lf_X12_cell a0 ah), Sf hpI rgM lf_X12_cell a0 (F_X12_cell_110 N n ah x5 v6 v7) := by
  intro n
  induction n with
  | zero => intros; exact Sf.none
  | succ n ih =>
    intro ah x5 v6 v7 hx5 hah
    unfold F_X12_cell_110
    refine Sf.ite ?_ ?_
    · exact Sf.ret hah
    · refine Sf.ite ?_ ?_
      · refine Sf.g (fun _ => ?_)
        exact fb_X12_cell_151_f10 (fun x0 h => ih x0 h) ⟨by omega, by omega⟩ hah
      · refine Sf.g (fun _ => ?_)
        refine Sf.b (fb_X12_less Fr.rf) hah rfl (fun r148 a148 ha148 => ?_)
        exact fb_X12_cell_151_f10 (fun x0 h => ih x0 h) ⟨by omega, by omega⟩ ha148
theorem fb_X12_cell_72 {a0 : AH} {N : Nat} {ah : AH} {v1 : Int32} {v2 : Int32} {v3 : Int32} {s1 : Int32}  (hah : Fr rgM lf_X12_cell a0 ah) : Sf hpI rgM lf_X12_cell a0 (F_X12_cell_72 N ah v1 v2 v3 s1) := by
  unfold F_X12_cell_72
  refine Sf.b (fb_X12_bad Fr.rf) hah rfl (fun r74 a74 ha74 => ?_)
  refine Sf.ite ?_ ?_
  · refine Sf.g (fun _ => ?_)
    refine Sf.g (fun _ => ?_)
    refine Sf.let_c ?_
    refine Sf.ite ?_ ?_
    · refine Sf.let_v (fun v6_105 => ?_)
      refine Sf.let_v (fun v7_108 => ?_)
      exact fb_X12_cell_110_f10 _ ⟨by omega, by omega⟩ ha74
    · refine Sf.g (fun _ => ?_)
      exact Sf.ret ha74
  · exact Sf.ret ha74
theorem fb_X12_cell_49 {a0 : AH} {N : Nat} {ah : AH} {v1 : Int32} {v2 : Int32} {v3 : Int32} {s1 : Int32}  (hah : Fr rgM lf_X12_cell a0 ah) : Sf hpI rgM lf_X12_cell a0 (F_X12_cell_49 N ah v1 v2 v3 s1) := by
  unfold F_X12_cell_49
  refine Sf.b (fb_X12_bad Fr.rf) hah rfl (fun r51 a51 ha51 => ?_)
  refine Sf.ite ?_ ?_
  · refine Sf.b (fb_X12_in Fr.rf) ha51 rfl (fun r61 a61 ha61 => ?_)
    refine Sf.ite ?_ ?_
    · exact fb_X12_cell_72 ha61
    · exact fb_X12_cell_72 ha61
  · exact Sf.ret ha51
theorem fb_X12_cell_36 {a0 : AH} {N : Nat} {ah : AH} {v1 : Int32} {v2 : Int32} {v3 : Int32} {s0 : Int32}  (hah : Fr rgM lf_X12_cell a0 ah) : Sf hpI rgM lf_X12_cell a0 (F_X12_cell_36 N ah v1 v2 v3 s0) := by
  unfold F_X12_cell_36
  refine Sf.let_v (fun v4_36 => ?_)
  refine Sf.ite ?_ ?_
  · exact fb_X12_cell_49 hah
  · exact fb_X12_cell_49 hah
theorem fb_X12_cell_35 {a0 : AH} {N : Nat} {ah : AH} {v1 : Int32} {v2 : Int32} {v3 : Int32}  (hah : Fr rgM lf_X12_cell a0 ah) : Sf hpI rgM lf_X12_cell a0 (F_X12_cell_35 N ah v1 v2 v3) := by
  unfold F_X12_cell_35
  exact fb_X12_cell_36 hah
theorem fb_X12_cell {a0 : AH} {N : Nat} {ah : AH} {p1 : Int32} {p2 : Int32} {p3 : Int32}  (hah : Fr rgM lf_X12_cell a0 ah) : Sf hpI rgM lf_X12_cell a0 (F_X12_cell N ah p1 p2 p3) := by
  unfold F_X12_cell
  refine Sf.let_xu hah rfl (fun a2 ha2 => ?_)
  refine Sf.b (fb_X12_isToken Fr.rf) ha2 rfl (fun r7 a7 ha7 => ?_)
  refine Sf.ite ?_ ?_
  · exact fb_X12_cell_35 ha7
  · refine Sf.let_c ?_
    refine Sf.g (fun _ => ?_)
    refine Sf.b (fb_X12_in Fr.rf) ha7 rfl (fun r25 a25 ha25 => ?_)
    refine Sf.ite ?_ ?_
    · exact fb_X12_cell_35 ha25
    · exact fb_X12_cell_36 ha25
abbrev lf_X12_rest : List Nat := [0, 33, 101, 125, 126, 213, 215]
theorem fb_X12_rest_45 {a0 : AH} {N : Nat} {ah : AH} {v1 : Int32} {v2 : Int32} {s1 : Int32}  (hah : Fr rgM lf_X12_rest a0 ah) : Sf hpI rgM lf_X12_rest a0 (F_X12_rest_45 N ah v1 v2 s1) := by
  unfold F_X12_rest_45
  refine Sf.b (fb_X12_bad Fr.rf) hah rfl (fun r47 a47 ha47 => ?_)
  refine Sf.ite ?_ ?_
  · refine Sf.bv (fb_X12_laysToken Fr.rf) ha47 rfl (fun a58 ha58 => ?_)
    refine Sf.g (fun _ => ?_)
    exact Sf.ret ha58
  · exact Sf.ret ha47
theorem fb_X12_rest_34 {a0 : AH} {N : Nat} {ah : AH} {v1 : Int32} {v2 : Int32} {s0 : Int32}  (hah : Fr rgM lf_X12_rest a0 ah) : Sf hpI rgM lf_X12_rest a0 (F_X12_rest_34 N ah v1 v2 s0) := by
  unfold F_X12_rest_34
  refine Sf.let_v (fun v3_34 => ?_)
  refine Sf.ite ?_ ?_
  · exact fb_X12_rest_45 hah
  · exact fb_X12_rest_45 hah
theorem fb_X12_rest_33 {a0 : AH} {N : Nat} {ah : AH} {v1 : Int32} {v2 : Int32}  (hah : Fr rgM lf_X12_rest a0 ah) : Sf hpI rgM lf_X12_rest a0 (F_X12_rest_33 N ah v1 v2) := by
  unfold F_X12_rest_33
  exact fb_X12_rest_34 hah
theorem fb_X12_rest {a0 : AH} {N : Nat} {ah : AH} {p1 : Int32} {p2 : Int32}  (hah : Fr rgM lf_X12_rest a0 ah) : Sf hpI rgM lf_X12_rest a0 (F_X12_rest N ah p1 p2) := by
  unfold F_X12_rest
  refine Sf.let_xu hah rfl (fun a2 ha2 => ?_)
  refine Sf.b (fb_X12_isToken Fr.rf) ha2 rfl (fun r7 a7 ha7 => ?_)
  refine Sf.ite ?_ ?_
  · exact fb_X12_rest_33 ha7
  · refine Sf.let_c ?_
    refine Sf.g (fun _ => ?_)
    refine Sf.b (fb_X12_in Fr.rf) ha7 rfl (fun r23 a23 ha23 => ?_)
    refine Sf.ite ?_ ?_
    · exact fb_X12_rest_33 ha23
    · exact fb_X12_rest_34 ha23
abbrev lf_X12_best : List Nat := [0, 33, 42, 43, 49, 101, 125, 126, 129, 130, 131, 132, 133, 134, 135, 213, 215]
theorem fb_X12_best_42 {a0 : AH} {N : Nat} {ah : AH} {v1 : Int32} {v2 : Int32} {v3 : Int32} {s1 : Int32}  (hah : Fr rgM lf_X12_best a0 ah) : Sf hpI rgM lf_X12_best a0 (F_X12_best_42 N ah v1 v2 v3 s1) := by
  unfold F_X12_best_42
  refine Sf.b (fb_X12_bad Fr.rf) hah rfl (fun r44 a44 ha44 => ?_)
  refine Sf.ite ?_ ?_
  · refine Sf.b (fb_X12_in Fr.rf) ha44 rfl (fun r56 a56 ha56 => ?_)
    refine Sf.ite ?_ ?_
    · exact Sf.ret ha56
    · refine Sf.bv (fb_X12_laysToken Fr.rf) ha56 rfl (fun a67 ha67 => ?_)
      refine Sf.bv (fb_X12_searches Fr.rf) ha67 rfl (fun a74 ha74 => ?_)
      refine Sf.ite ?_ ?_
      · refine Sf.ite ?_ ?_
        · refine Sf.g (fun _ => ?_)
          exact Sf.ret ha74
        · refine Sf.ite ?_ ?_
          · refine Sf.g (fun _ => ?_)
            exact Sf.ret ha74
          · refine Sf.g (fun _ => ?_)
            exact Sf.ret ha74
      · exact Sf.ret ha74
  · exact Sf.ret ha44
theorem fb_X12_best_19 {a0 : AH} {N : Nat} {ah : AH} {v1 : Int32} {v2 : Int32} {v3 : Int32} {s1 : Int32}  (hah : Fr rgM lf_X12_best a0 ah) : Sf hpI rgM lf_X12_best a0 (F_X12_best_19 N ah v1 v2 v3 s1) := by
  unfold F_X12_best_19
  refine Sf.b (fb_X12_bad Fr.rf) hah rfl (fun r21 a21 ha21 => ?_)
  refine Sf.ite ?_ ?_
  · refine Sf.b (fb_X12_in Fr.rf) ha21 rfl (fun r31 a31 ha31 => ?_)
    refine Sf.ite ?_ ?_
    · exact fb_X12_best_42 ha31
    · exact fb_X12_best_42 ha31
  · exact Sf.ret ha21
theorem fb_X12_best {a0 : AH} {N : Nat} {ah : AH} {p1 : Int32} {p2 : Int32} {p3 : Int32}  (hah : Fr rgM lf_X12_best a0 ah) : Sf hpI rgM lf_X12_best a0 (F_X12_best N ah p1 p2 p3) := by
  unfold F_X12_best
  refine Sf.let_xu hah rfl (fun a2 ha2 => ?_)
  refine Sf.b (fb_X12_isToken Fr.rf) ha2 rfl (fun r8 a8 ha8 => ?_)
  refine Sf.ite ?_ ?_
  · exact fb_X12_best_19 ha8
  · exact fb_X12_best_19 ha8
abbrev lf_X12_priceOf : List Nat := [216]
theorem fb_X12_priceOf {a0 : AH} {N : Nat} {ah : AH} {p1 : Int32}  (hah : Fr rgM lf_X12_priceOf a0 ah) : Sf hpI rgM lf_X12_priceOf a0 (F_X12_priceOf N ah p1) := by
  unfold F_X12_priceOf
  refine Sf.b (fb_X12_spells Fr.rf) hah rfl (fun r2 a2 ha2 => ?_)
  refine Sf.let_v (fun v2_5 => ?_)
  refine Sf.ite ?_ ?_
  · refine Sf.g (fun _ => ?_)
    exact Sf.ret ha2
  · exact Sf.ret ha2
abbrev lf_X12_price : List Nat := [0, 33, 101, 125, 126, 213, 215, 216]
theorem fb_X12_price_27 {a0 : AH} {N : Nat} {ah : AH} {v1 : Int32} {v2 : Int32} {s1 : Int32}  (hah : Fr rgM lf_X12_price a0 ah) : Sf hpI rgM lf_X12_price a0 (F_X12_price_27 N ah v1 v2 s1) := by
  unfold F_X12_price_27
  refine Sf.b (fb_X12_bad Fr.rf) hah rfl (fun r29 a29 ha29 => ?_)
  refine Sf.ite ?_ ?_
  · refine Sf.bv (fb_X12_laysToken Fr.rf) ha29 rfl (fun a40 ha40 => ?_)
    refine Sf.b (fb_X12_priceOf Fr.rf) ha40 rfl (fun r45 a45 ha45 => ?_)
    exact Sf.ret ha45
  · exact Sf.ret ha29
theorem fb_X12_price_22 {a0 : AH} {N : Nat} {ah : AH} {v1 : Int32} {v2 : Int32}  (hah : Fr rgM lf_X12_price a0 ah) : Sf hpI rgM lf_X12_price a0 (F_X12_price_22 N ah v1 v2) := by
  unfold F_X12_price_22
  exact fb_X12_price_27 hah
theorem fb_X12_price {a0 : AH} {N : Nat} {ah : AH} {p1 : Int32} {p2 : Int32}  (hah : Fr rgM lf_X12_price a0 ah) : Sf hpI rgM lf_X12_price a0 (F_X12_price N ah p1 p2) := by
  unfold F_X12_price
  refine Sf.let_xu hah rfl (fun a2 ha2 => ?_)
  refine Sf.b (fb_X12_isToken Fr.rf) ha2 rfl (fun r8 a8 ha8 => ?_)
  refine Sf.ite ?_ ?_
  · exact fb_X12_price_22 ha8
  · refine Sf.b (fb_X12_isWord Fr.rf) ha8 rfl (fun r16 a16 ha16 => ?_)
    refine Sf.ite ?_ ?_
    · exact fb_X12_price_22 ha16
    · exact fb_X12_price_27 ha16
abbrev lf_X12_within : List Nat := [0, 33, 101, 125, 126, 213, 215, 216]
theorem fb_X12_within_94 {a0 : AH} {N : Nat} {k65 : AH → Int32 → Int32 → Int32 → Option (Int32 × AH)} {ah : AH} {v2 : Int32} {v4 : Int32} {s0 : Int32} {s1 : Int32} (hk65 : ∀ {z0 : AH} {z1 : Int32} {z2 : Int32} {z3 : Int32}, Fr rgM lf_X12_within a0 z0 → Sf hpI rgM lf_X12_within a0 (k65 z0 z1 z2 z3)) (hah : Fr rgM lf_X12_within a0 ah) : Sf hpI rgM lf_X12_within a0 (F_X12_within_94 N k65 ah v2 v4 s0 s1) := by
  unfold F_X12_within_94
  refine Sf.let_v (fun v3_95 => ?_)
  refine Sf.let_v (fun v4_96 => ?_)
  exact hk65 hah
theorem fb_X12_within_65 {a0 : AH} {N : Nat}  : ∀ (n : Nat) {ah : AH} {v2 : Int32} {v3 : Int32} {v4 : Int32}  (hah : Fr rgM lf_X12_within a0 ah), Sf hpI rgM lf_X12_within a0 (F_X12_within_65 N n ah v2 v3 v4) := by
  intro n
  induction n with
  | zero => intros; exact Sf.none
  | succ n ih =>
    intro ah v2 v3 v4  hah
    unfold F_X12_within_65
    refine Sf.ite ?_ ?_
    · exact Sf.ret hah
    · refine Sf.b (fb_X12_priceOf Fr.rf) hah rfl (fun r78 a78 ha78 => ?_)
      refine Sf.b (fb_X12_in Fr.rf) ha78 rfl (fun r83 a83 ha83 => ?_)
      refine Sf.ite ?_ ?_
      · exact fb_X12_within_94 (fun h => ih h) ha83
      · exact fb_X12_within_94 (fun h => ih h) ha83
theorem fb_X12_within_44 {a0 : AH} {N : Nat} {ah : AH} {v1 : Int32} {v2 : Int32} {s1 : Int32}  (hah : Fr rgM lf_X12_within a0 ah) : Sf hpI rgM lf_X12_within a0 (F_X12_within_44 N ah v1 v2 s1) := by
  unfold F_X12_within_44
  refine Sf.b (fb_X12_bad Fr.rf) hah rfl (fun r46 a46 ha46 => ?_)
  refine Sf.ite ?_ ?_
  · refine Sf.bv (fb_X12_laysToken Fr.rf) ha46 rfl (fun a57 ha57 => ?_)
    refine Sf.let_v (fun v3_61 => ?_)
    refine Sf.let_v (fun v4_63 => ?_)
    exact fb_X12_within_65 _ ha57
  · exact Sf.ret ha46
theorem fb_X12_within_19 {a0 : AH} {N : Nat} {ah : AH} {v1 : Int32} {v2 : Int32} {s1 : Int32}  (hah : Fr rgM lf_X12_within a0 ah) : Sf hpI rgM lf_X12_within a0 (F_X12_within_19 N ah v1 v2 s1) := by
  unfold F_X12_within_19
  refine Sf.b (fb_X12_bad Fr.rf) hah rfl (fun r21 a21 ha21 => ?_)
  refine Sf.ite ?_ ?_
  · refine Sf.b (fb_X12_in Fr.rf) ha21 rfl (fun r33 a33 ha33 => ?_)
    refine Sf.ite ?_ ?_
    · exact fb_X12_within_44 ha33
    · exact fb_X12_within_44 ha33
  · exact Sf.ret ha21
theorem fb_X12_within {a0 : AH} {N : Nat} {ah : AH} {p1 : Int32} {p2 : Int32}  (hah : Fr rgM lf_X12_within a0 ah) : Sf hpI rgM lf_X12_within a0 (F_X12_within N ah p1 p2) := by
  unfold F_X12_within
  refine Sf.let_xu hah rfl (fun a2 ha2 => ?_)
  refine Sf.b (fb_X12_isToken Fr.rf) ha2 rfl (fun r8 a8 ha8 => ?_)
  refine Sf.ite ?_ ?_
  · exact fb_X12_within_19 ha8
  · exact fb_X12_within_19 ha8
abbrev lf_X12_mends : List Nat := [42, 43, 49, 50, 51, 52, 129, 130, 131, 132, 133, 134, 135]
theorem fb_X12_mends_120 {a0 : AH} {N : Nat} {ah : AH} {s1 : Int32}  (hah : Fr rgM lf_X12_mends a0 ah) : Sf hpV rgM lf_X12_mends a0 (F_X12_mends_120 N ah s1) := by
  unfold F_X12_mends_120
  refine Sf.let_xu hah rfl (fun a127 ha127 => ?_)
  exact Sf.ret ha127
theorem fb_X12_mends_91 {a0 : AH} {N : Nat} {ah : AH} {s1 : Int32}  (hah : Fr rgM lf_X12_mends a0 ah) : Sf hpV rgM lf_X12_mends a0 (F_X12_mends_91 N ah s1) := by
  unfold F_X12_mends_91
  refine Sf.let_xu hah rfl (fun a91 ha91 => ?_)
  exact Sf.ret ha91
theorem fb_X12_mends_60 {a0 : AH} {N : Nat} {ah : AH} {v2 : Int32} {s1 : Int32}  (hah : Fr rgM lf_X12_mends a0 ah) : Sf hpV rgM lf_X12_mends a0 (F_X12_mends_60 N ah v2 s1) := by
  unfold F_X12_mends_60
  refine Sf.let_xu hah rfl (fun a60 ha60 => ?_)
  refine Sf.ite ?_ ?_
  · refine Sf.ite ?_ ?_
    · exact fb_X12_mends_91 ha60
    · exact fb_X12_mends_91 ha60
  · refine Sf.ite ?_ ?_
    · exact fb_X12_mends_120 ha60
    · refine Sf.b (fb_X12_less Fr.rf) ha60 rfl (fun r113 a113 ha113 => ?_)
      exact fb_X12_mends_120 ha113
theorem fb_X12_mends_38 {a0 : AH} {N : Nat} {ah : AH} {v2 : Int32} {s1 : Int32}  (hah : Fr rgM lf_X12_mends a0 ah) : Sf hpV rgM lf_X12_mends a0 (F_X12_mends_38 N ah v2 s1) := by
  unfold F_X12_mends_38
  refine Sf.let_xu hah rfl (fun a38 ha38 => ?_)
  refine Sf.ite ?_ ?_
  · exact fb_X12_mends_60 ha38
  · exact fb_X12_mends_60 ha38
theorem fb_X12_mends_37 {a0 : AH} {N : Nat} {ah : AH} {v2 : Int32}  (hah : Fr rgM lf_X12_mends a0 ah) : Sf hpV rgM lf_X12_mends a0 (F_X12_mends_37 N ah v2) := by
  unfold F_X12_mends_37
  exact fb_X12_mends_38 hah
theorem fb_X12_mends {a0 : AH} {N : Nat} {ah : AH} {p1 : Int32}  (hah : Fr rgM lf_X12_mends a0 ah) : Sf hpV rgM lf_X12_mends a0 (F_X12_mends N ah p1) := by
  unfold F_X12_mends
  refine Sf.bv (fb_X12_searches Fr.rf) hah rfl (fun a2 ha2 => ?_)
  refine Sf.b (fb_X12_outside Fr.rf) ha2 rfl (fun r6 a6 ha6 => ?_)
  refine Sf.let_v (fun v2_9 => ?_)
  refine Sf.ite ?_ ?_
  · exact fb_X12_mends_37 ha6
  · refine Sf.ite ?_ ?_
    · exact fb_X12_mends_37 ha6
    · exact fb_X12_mends_38 ha6
abbrev lf_X12_mended : List Nat := [0, 33, 42, 43, 49, 50, 51, 52, 101, 125, 126, 129, 130, 131, 132, 133, 134, 135, 213, 215]
theorem fb_X12_mended_42 {a0 : AH} {N : Nat} {ah : AH} {v1 : Int32} {v2 : Int32} {s1 : Int32}  (hah : Fr rgM lf_X12_mended a0 ah) : Sf hpI rgM lf_X12_mended a0 (F_X12_mended_42 N ah v1 v2 s1) := by
  unfold F_X12_mended_42
  refine Sf.b (fb_X12_bad Fr.rf) hah rfl (fun r44 a44 ha44 => ?_)
  refine Sf.ite ?_ ?_
  · refine Sf.bv (fb_X12_laysToken Fr.rf) ha44 rfl (fun a55 ha55 => ?_)
    refine Sf.bv (fb_X12_mends Fr.rf) ha55 rfl (fun a60 ha60 => ?_)
    refine Sf.ite ?_ ?_
    · exact Sf.ret ha60
    · refine Sf.ite ?_ ?_
      · exact Sf.ret ha60
      · exact Sf.ret ha60
  · exact Sf.ret ha44
theorem fb_X12_mended_19 {a0 : AH} {N : Nat} {ah : AH} {v1 : Int32} {v2 : Int32} {s1 : Int32}  (hah : Fr rgM lf_X12_mended a0 ah) : Sf hpI rgM lf_X12_mended a0 (F_X12_mended_19 N ah v1 v2 s1) := by
  unfold F_X12_mended_19
  refine Sf.b (fb_X12_bad Fr.rf) hah rfl (fun r21 a21 ha21 => ?_)
  refine Sf.ite ?_ ?_
  · refine Sf.b (fb_X12_in Fr.rf) ha21 rfl (fun r31 a31 ha31 => ?_)
    refine Sf.ite ?_ ?_
    · exact fb_X12_mended_42 ha31
    · exact fb_X12_mended_42 ha31
  · exact Sf.ret ha21
theorem fb_X12_mended {a0 : AH} {N : Nat} {ah : AH} {p1 : Int32} {p2 : Int32}  (hah : Fr rgM lf_X12_mended a0 ah) : Sf hpI rgM lf_X12_mended a0 (F_X12_mended N ah p1 p2) := by
  unfold F_X12_mended
  refine Sf.let_xu hah rfl (fun a2 ha2 => ?_)
  refine Sf.b (fb_X12_isToken Fr.rf) ha2 rfl (fun r8 a8 ha8 => ?_)
  refine Sf.ite ?_ ?_
  · exact fb_X12_mended_19 ha8
  · exact fb_X12_mended_19 ha8
abbrev lf_X12_laysWay : List Nat := [33, 42, 43, 49, 50, 51, 52, 53, 125, 126, 129, 130, 131, 132, 133, 134, 135, 136, 137, 213, 215, 216]
theorem fb_X12_laysWay_124 {a0 : AH} {N : Nat} {k39 : AH → Int32 → Int32 → Option (Int32 × AH)} {k50 : AH → Int32 → Int32 → Int32 → Option (Int32 × AH)} {ah : AH} {v2 : Int32} {v3 : Int32} {v4 : Int32} (hk39 : ∀ {z0 : AH} {z1 : Int32} {z2 : Int32}, Fr rgM lf_X12_laysWay a0 z0 → Sf hpI rgM lf_X12_laysWay a0 (k39 z0 z1 z2)) (hk50 : ∀ {z0 : AH} {z1 : Int32} {z2 : Int32} {z3 : Int32}, Fr rgM lf_X12_laysWay a0 z0 → Sf hpI rgM lf_X12_laysWay a0 (k50 z0 z1 z2 z3)) (hah : Fr rgM lf_X12_laysWay a0 ah) : Sf hpI rgM lf_X12_laysWay a0 (F_X12_laysWay_124 N k39 k50 ah v2 v3 v4) := by
  unfold F_X12_laysWay_124
  refine Sf.let_v (fun v4_124 => ?_)
  exact hk50 hah
theorem fb_X12_laysWay_50 {a0 : AH} {N : Nat} {k39 : AH → Int32 → Int32 → Option (Int32 × AH)} (hk39 : ∀ {z0 : AH} {z1 : Int32} {z2 : Int32}, Fr rgM lf_X12_laysWay a0 z0 → Sf hpI rgM lf_X12_laysWay a0 (k39 z0 z1 z2)) : ∀ (n : Nat) {ah : AH} {v2 : Int32} {v3 : Int32} {v4 : Int32}  (hah : Fr rgM lf_X12_laysWay a0 ah), Sf hpI rgM lf_X12_laysWay a0 (F_X12_laysWay_50 N k39 n ah v2 v3 v4) := by
  intro n
  induction n with
  | zero => intros; exact Sf.none
  | succ n ih =>
    intro ah v2 v3 v4  hah
    unfold F_X12_laysWay_50
    refine Sf.g (fun _ => ?_)
    refine Sf.g (fun _ => ?_)
    refine Sf.let_c ?_
    refine Sf.b (fb_X12_fits_f15 ⟨by omega, by omega⟩ Fr.rf) hah rfl (fun r65 a65 ha65 => ?_)
    refine Sf.ite ?_ ?_
    · exact fb_X12_laysWay_124 hk39 (fun h => ih h) ha65
    · refine Sf.g (fun _ => ?_)
      refine Sf.g (fun _ => ?_)
      refine Sf.let_c ?_
      refine Sf.g (fun _ => ?_)
      refine Sf.g (fun _ => ?_)
      refine Sf.let_c ?_
      refine Sf.g (fun _ => ?_)
      refine Sf.let_c ?_
      refine Sf.g (fun _ => ?_)
      refine Sf.g (fun _ => ?_)
      refine Sf.let_c ?_
      refine Sf.g (fun _ => ?_)
      refine Sf.g (fun _ => ?_)
      refine Sf.let_c ?_
      refine Sf.g (fun _ => ?_)
      refine Sf.ite ?_ ?_
      · refine Sf.g (fun _ => ?_)
        refine Sf.let_xu ha65 rfl (fun a139 ha139 => ?_)
        refine Sf.g (fun _ => ?_)
        refine Sf.let_xu ha139 rfl (fun a150 ha150 => ?_)
        refine Sf.let_xu ha150 rfl (fun a158 ha158 => ?_)
        refine Sf.g (fun _ => ?_)
        refine Sf.g (fun _ => ?_)
        refine Sf.let_c ?_
        refine Sf.let_v (fun v2_176 => ?_)
        refine Sf.let_v (fun v3_183 => ?_)
        exact hk39 ha158
      · exact fb_X12_laysWay_124 hk39 (fun h => ih h) ha65
theorem fb_X12_laysWay_39 {a0 : AH} {N : Nat}  : ∀ (n : Nat) {ah : AH} {v2 : Int32} {v3 : Int32}  (hah : Fr rgM lf_X12_laysWay a0 ah), Sf hpI rgM lf_X12_laysWay a0 (F_X12_laysWay_39 N n ah v2 v3) := by
  intro n
  induction n with
  | zero => intros; exact Sf.none
  | succ n ih =>
    intro ah v2 v3  hah
    unfold F_X12_laysWay_39
    refine Sf.ite ?_ ?_
    · exact Sf.ret hah
    · refine Sf.let_v (fun v4_48 => ?_)
      exact fb_X12_laysWay_50 (fun h => ih h) _ hah
theorem fb_X12_laysWay {a0 : AH} {N : Nat} {ah : AH} {p1 : Int32}  (hah : Fr rgM lf_X12_laysWay a0 ah) : Sf hpI rgM lf_X12_laysWay a0 (F_X12_laysWay N ah p1) := by
  unfold F_X12_laysWay
  refine Sf.bv (fb_X12_laysToken Fr.rf) hah rfl (fun a3 ha3 => ?_)
  refine Sf.bv (fb_X12_mends Fr.rf) ha3 rfl (fun a8 ha8 => ?_)
  refine Sf.let_xu ha8 rfl (fun a13 ha13 => ?_)
  refine Sf.ite ?_ ?_
  · exact Sf.ret ha13
  · refine Sf.b (fb_X12_spells Fr.rf) ha13 rfl (fun r31 a31 ha31 => ?_)
    refine Sf.let_v (fun v2_36 => ?_)
    refine Sf.let_v (fun v3_38 => ?_)
    exact fb_X12_laysWay_39 _ ha31
abbrev lf_X12_way : List Nat := [0, 33, 42, 43, 49, 50, 51, 52, 53, 101, 125, 126, 129, 130, 131, 132, 133, 134, 135, 136, 137, 213, 215, 216]
theorem fb_X12_way_42 {a0 : AH} {N : Nat} {ah : AH} {v1 : Int32} {v2 : Int32} {s1 : Int32}  (hah : Fr rgM lf_X12_way a0 ah) : Sf hpI rgM lf_X12_way a0 (F_X12_way_42 N ah v1 v2 s1) := by
  unfold F_X12_way_42
  refine Sf.b (fb_X12_bad Fr.rf) hah rfl (fun r44 a44 ha44 => ?_)
  refine Sf.ite ?_ ?_
  · refine Sf.b (fb_X12_laysWay Fr.rf) ha44 rfl (fun r54 a54 ha54 => ?_)
    refine Sf.ite ?_ ?_
    · exact Sf.ret ha54
    · refine Sf.ite ?_ ?_
      · exact Sf.ret ha54
      · refine Sf.let_c ?_
        exact Sf.ret ha54
  · exact Sf.ret ha44
theorem fb_X12_way_19 {a0 : AH} {N : Nat} {ah : AH} {v1 : Int32} {v2 : Int32} {s1 : Int32}  (hah : Fr rgM lf_X12_way a0 ah) : Sf hpI rgM lf_X12_way a0 (F_X12_way_19 N ah v1 v2 s1) := by
  unfold F_X12_way_19
  refine Sf.b (fb_X12_bad Fr.rf) hah rfl (fun r21 a21 ha21 => ?_)
  refine Sf.ite ?_ ?_
  · refine Sf.b (fb_X12_in Fr.rf) ha21 rfl (fun r31 a31 ha31 => ?_)
    refine Sf.ite ?_ ?_
    · exact fb_X12_way_42 ha31
    · exact fb_X12_way_42 ha31
  · exact Sf.ret ha21
theorem fb_X12_way {a0 : AH} {N : Nat} {ah : AH} {p1 : Int32} {p2 : Int32}  (hah : Fr rgM lf_X12_way a0 ah) : Sf hpI rgM lf_X12_way a0 (F_X12_way N ah p1 p2) := by
  unfold F_X12_way
  refine Sf.let_xu hah rfl (fun a2 ha2 => ?_)
  refine Sf.b (fb_X12_isToken Fr.rf) ha2 rfl (fun r8 a8 ha8 => ?_)
  refine Sf.ite ?_ ?_
  · exact fb_X12_way_19 ha8
  · exact fb_X12_way_19 ha8
abbrev lf_X12_edge_ : List Nat := [0, 33, 42, 43, 49, 50, 51, 52, 53, 101, 125, 126, 129, 130, 131, 132, 133, 134, 135, 136, 137, 213, 215, 216]
theorem fb_X12_edge__71 {a0 : AH} {N : Nat} {ah : AH} {v2 : Int32} {v3 : Int32} {s1 : Int32}  (hah : Fr rgM lf_X12_edge_ a0 ah) : Sf hpI rgM lf_X12_edge_ a0 (F_X12_edge__71 N ah v2 v3 s1) := by
  unfold F_X12_edge__71
  refine Sf.b (fb_X12_bad Fr.rf) hah rfl (fun r73 a73 ha73 => ?_)
  refine Sf.ite ?_ ?_
  · refine Sf.g (fun _ => ?_)
    refine Sf.g (fun _ => ?_)
    refine Sf.g (fun _ => ?_)
    refine Sf.g (fun _ => ?_)
    refine Sf.let_c ?_
    refine Sf.ite ?_ ?_
    · refine Sf.g (fun _ => ?_)
      exact Sf.ret ha73
    · refine Sf.ite ?_ ?_
      · exact Sf.ret ha73
      · refine Sf.ite ?_ ?_
        · exact Sf.ret ha73
        · refine Sf.ite ?_ ?_
          · exact Sf.ret ha73
          · exact Sf.ret ha73
  · exact Sf.ret ha73
theorem fb_X12_edge__48 {a0 : AH} {N : Nat} {ah : AH} {v2 : Int32} {v3 : Int32} {s1 : Int32}  (hah : Fr rgM lf_X12_edge_ a0 ah) : Sf hpI rgM lf_X12_edge_ a0 (F_X12_edge__48 N ah v2 v3 s1) := by
  unfold F_X12_edge__48
  refine Sf.b (fb_X12_bad Fr.rf) hah rfl (fun r50 a50 ha50 => ?_)
  refine Sf.ite ?_ ?_
  · refine Sf.b (fb_X12_in Fr.rf) ha50 rfl (fun r60 a60 ha60 => ?_)
    refine Sf.ite ?_ ?_
    · exact fb_X12_edge__71 ha60
    · exact fb_X12_edge__71 ha60
  · exact Sf.ret ha50
theorem fb_X12_edge__43 {a0 : AH} {N : Nat} {ah : AH} {v2 : Int32} {v3 : Int32}  (hah : Fr rgM lf_X12_edge_ a0 ah) : Sf hpI rgM lf_X12_edge_ a0 (F_X12_edge__43 N ah v2 v3) := by
  unfold F_X12_edge__43
  exact fb_X12_edge__48 hah
theorem fb_X12_edge__23 {a0 : AH} {N : Nat} {ah : AH} {v2 : Int32} {v3 : Int32} {v4 : Int32}  (hah : Fr rgM lf_X12_edge_ a0 ah) : Sf hpI rgM lf_X12_edge_ a0 (F_X12_edge__23 N ah v2 v3 v4) := by
  unfold F_X12_edge__23
  refine Sf.ite ?_ ?_
  · exact fb_X12_edge__43 hah
  · refine Sf.b (fb_X12_in Fr.rf) hah rfl (fun r37 a37 ha37 => ?_)
    refine Sf.ite ?_ ?_
    · exact fb_X12_edge__43 ha37
    · exact fb_X12_edge__48 ha37
theorem fb_X12_edge_ {a0 : AH} {N : Nat} {ah : AH} {p1 : Int32} {p2 : Int32} {p3 : Int32}  (hah : Fr rgM lf_X12_edge_ a0 ah) : Sf hpI rgM lf_X12_edge_ a0 (F_X12_edge_ N ah p1 p2 p3) := by
  unfold F_X12_edge_
  refine Sf.let_xu hah rfl (fun a2 ha2 => ?_)
  refine Sf.b (fb_X12_isToken Fr.rf) ha2 rfl (fun r7 a7 ha7 => ?_)
  refine Sf.let_v (fun v4_10 => ?_)
  refine Sf.ite ?_ ?_
  · exact fb_X12_edge__23 ha7
  · refine Sf.b (fb_X12_laysWay Fr.rf) ha7 rfl (fun r19 a19 ha19 => ?_)
    exact fb_X12_edge__23 ha19
abbrev lf_X12_used : List Nat := [0, 33, 42, 43, 49, 50, 51, 52, 53, 101, 125, 126, 129, 130, 131, 132, 133, 134, 135, 136, 137, 213, 215, 216]
theorem fb_X12_used_102 {a0 : AH} {N : Nat} {k41 : AH → Int32 → Int32 → Int32 → Option (Int32 × AH)} {k60 : AH → Int32 → Int32 → Int32 → Int32 → Option (Int32 × AH)} {ah : AH} {v1 : Int32} {v3 : Int32} {v4 : Int32} {s0 : Int32} {s1 : Int32} (hk41 : ∀ {z0 : AH} {z1 : Int32} {z2 : Int32} {z3 : Int32}, Fr rgM lf_X12_used a0 z0 → Sf hpI rgM lf_X12_used a0 (k41 z0 z1 z2 z3)) (hk60 : ∀ {z0 : AH} {z1 : Int32} {z2 : Int32} {z3 : Int32} {z4 : Int32}, Fr rgM lf_X12_used a0 z0 → Sf hpI rgM lf_X12_used a0 (k60 z0 z1 z2 z3 z4)) (hah : Fr rgM lf_X12_used a0 ah) : Sf hpI rgM lf_X12_used a0 (F_X12_used_102 N k41 k60 ah v1 v3 v4 s0 s1) := by
  unfold F_X12_used_102
  refine Sf.let_v (fun v2_103 => ?_)
  refine Sf.let_v (fun v4_104 => ?_)
  exact hk60 hah
theorem fb_X12_used_60 {a0 : AH} {N : Nat} {k41 : AH → Int32 → Int32 → Int32 → Option (Int32 × AH)} (hk41 : ∀ {z0 : AH} {z1 : Int32} {z2 : Int32} {z3 : Int32}, Fr rgM lf_X12_used a0 z0 → Sf hpI rgM lf_X12_used a0 (k41 z0 z1 z2 z3)) : ∀ (n : Nat) {ah : AH} {v1 : Int32} {v2 : Int32} {v3 : Int32} {v4 : Int32}  (hah : Fr rgM lf_X12_used a0 ah), Sf hpI rgM lf_X12_used a0 (F_X12_used_60 N k41 n ah v1 v2 v3 v4) := by
  intro n
  induction n with
  | zero => intros; exact Sf.none
  | succ n ih =>
    intro ah v1 v2 v3 v4  hah
    unfold F_X12_used_60
    refine Sf.ite ?_ ?_
    · refine Sf.let_v (fun v3_110 => ?_)
      exact hk41 hah
    · refine Sf.g (fun _ => ?_)
      refine Sf.g (fun _ => ?_)
      refine Sf.g (fun _ => ?_)
      refine Sf.g (fun _ => ?_)
      refine Sf.let_c ?_
      refine Sf.ite ?_ ?_
      · exact fb_X12_used_102 hk41 (fun h => ih h) hah
      · exact fb_X12_used_102 hk41 (fun h => ih h) hah
theorem fb_X12_used_41 {a0 : AH} {N : Nat}  : ∀ (n : Nat) {ah : AH} {v1 : Int32} {v2 : Int32} {v3 : Int32}  (hah : Fr rgM lf_X12_used a0 ah), Sf hpI rgM lf_X12_used a0 (F_X12_used_41 N n ah v1 v2 v3) := by
  intro n
  induction n with
  | zero => intros; exact Sf.none
  | succ n ih =>
    intro ah v1 v2 v3  hah
    unfold F_X12_used_41
    refine Sf.ite ?_ ?_
    · exact Sf.ret hah
    · refine Sf.b (fb_X12_laysWay Fr.rf) hah rfl (fun r53 a53 ha53 => ?_)
      refine Sf.let_v (fun v4_58 => ?_)
      exact fb_X12_used_60 (fun h => ih h) _ ha53
theorem fb_X12_used_27 {a0 : AH} {N : Nat} {ah : AH} {v1 : Int32} {s1 : Int32}  (hah : Fr rgM lf_X12_used a0 ah) : Sf hpI rgM lf_X12_used a0 (F_X12_used_27 N ah v1 s1) := by
  unfold F_X12_used_27
  refine Sf.b (fb_X12_bad Fr.rf) hah rfl (fun r29 a29 ha29 => ?_)
  refine Sf.ite ?_ ?_
  · refine Sf.let_v (fun v2_38 => ?_)
    refine Sf.let_v (fun v3_40 => ?_)
    exact fb_X12_used_41 _ ha29
  · exact Sf.ret ha29
theorem fb_X12_used {a0 : AH} {N : Nat} {ah : AH} {p1 : Int32}  (hah : Fr rgM lf_X12_used a0 ah) : Sf hpI rgM lf_X12_used a0 (F_X12_used N ah p1) := by
  unfold F_X12_used
  refine Sf.let_xu hah rfl (fun a2 ha2 => ?_)
  refine Sf.b (fb_X12_in Fr.rf) ha2 rfl (fun r16 a16 ha16 => ?_)
  refine Sf.ite ?_ ?_
  · exact fb_X12_used_27 ha16
  · exact fb_X12_used_27 ha16
abbrev lf_X12_laysChoices : List Nat := [33, 42, 43, 49, 125, 126, 129, 130, 131, 132, 133, 134, 135, 138, 213, 215, 217, 218]
theorem fb_X12_laysChoices_70 {a0 : AH} {N : Nat} {k15 : AH → Int32 → Int32 → Int32 → Option AH} {ah : AH} {v1 : Int32} {v2 : Int32} {v3 : Int32} (hk15 : ∀ {z0 : AH} {z1 : Int32} {z2 : Int32} {z3 : Int32}, Fr rgM lf_X12_laysChoices a0 z0 → Sf hpV rgM lf_X12_laysChoices a0 (k15 z0 z1 z2 z3)) (hah : Fr rgM lf_X12_laysChoices a0 ah) : Sf hpV rgM lf_X12_laysChoices a0 (F_X12_laysChoices_70 N k15 ah v1 v2 v3) := by
  unfold F_X12_laysChoices_70
  refine Sf.let_v (fun v3_70 => ?_)
  exact hk15 hah
theorem fb_X12_laysChoices_15 {a0 : AH} {N : Nat}  : ∀ (n : Nat) {ah : AH} {v1 : Int32} {v2 : Int32} {v3 : Int32}  (hah : Fr rgM lf_X12_laysChoices a0 ah), Sf hpV rgM lf_X12_laysChoices a0 (F_X12_laysChoices_15 N n ah v1 v2 v3) := by
  intro n
  induction n with
  | zero => intros; exact Sf.none
  | succ n ih =>
    intro ah v1 v2 v3  hah
    unfold F_X12_laysChoices_15
    refine Sf.ite ?_ ?_
    · refine Sf.g (fun _ => ?_)
      refine Sf.let_c ?_
      refine Sf.g (fun _ => ?_)
      refine Sf.let_xu hah (by rw [rgM_17 (by omega) (by omega)]; rfl) (fun a84 ha84 => ?_)
      refine Sf.g (fun _ => ?_)
      refine Sf.let_c ?_
      refine Sf.b (fb_X12_outside Fr.rf) ha84 rfl (fun r93 a93 ha93 => ?_)
      refine Sf.g (fun _ => ?_)
      refine Sf.let_xu ha93 (by rw [rgM_18 (by omega) (by omega)]; rfl) (fun a96 ha96 => ?_)
      refine Sf.g (fun _ => ?_)
      refine Sf.let_xu ha96 rfl (fun a105 ha105 => ?_)
      exact Sf.ret ha105
    · refine Sf.g (fun _ => ?_)
      refine Sf.b (fb_X12_outside Fr.rf) hah rfl (fun r30 a30 ha30 => ?_)
      refine Sf.ite ?_ ?_
      · refine Sf.g (fun _ => ?_)
        refine Sf.let_c ?_
        refine Sf.g (fun _ => ?_)
        refine Sf.g (fun _ => ?_)
        refine Sf.let_xu ha30 (by rw [rgM_17 (by omega) (by omega)]; rfl) (fun a52 ha52 => ?_)
        refine Sf.g (fun _ => ?_)
        refine Sf.let_c ?_
        refine Sf.g (fun _ => ?_)
        refine Sf.g (fun _ => ?_)
        refine Sf.let_xu ha52 (by rw [rgM_18 (by omega) (by omega)]; rfl) (fun a66 ha66 => ?_)
        refine Sf.let_v (fun v2_67 => ?_)
        exact fb_X12_laysChoices_70 (fun h => ih h) ha66
      · exact fb_X12_laysChoices_70 (fun h => ih h) ha30
theorem fb_X12_laysChoices {a0 : AH} {N : Nat} {ah : AH} {p1 : Int32}  (hah : Fr rgM lf_X12_laysChoices a0 ah) : Sf hpV rgM lf_X12_laysChoices a0 (F_X12_laysChoices N ah p1) := by
  unfold F_X12_laysChoices
  refine Sf.bv (fb_X12_laysToken Fr.rf) hah rfl (fun a3 ha3 => ?_)
  refine Sf.bv (fb_X12_searches Fr.rf) ha3 rfl (fun a8 ha8 => ?_)
  refine Sf.let_v (fun v2_12 => ?_)
  refine Sf.let_v (fun v3_14 => ?_)
  exact fb_X12_laysChoices_15 _ ha8
abbrev lf_X12_between : List Nat := []
theorem fb_X12_between_10 {a0 : AH} {N : Nat} {ah : AH}  (hah : Fr rgM lf_X12_between a0 ah) : Sf hpI rgM lf_X12_between a0 (F_X12_between_10 N ah) := by
  unfold F_X12_between_10
  exact Sf.ret hah
theorem fb_X12_between {a0 : AH} {N : Nat} {ah : AH} {p1 : Int32} {p2 : Int32}  (hah : Fr rgM lf_X12_between a0 ah) : Sf hpI rgM lf_X12_between a0 (F_X12_between N ah p1 p2) := by
  unfold F_X12_between
  refine Sf.ite ?_ ?_
  · exact fb_X12_between_10 hah
  · refine Sf.ite ?_ ?_
    · exact fb_X12_between_10 hah
    · refine Sf.b (fb_X12_dearOf Fr.rf) hah rfl (fun r17 a17 ha17 => ?_)
      exact Sf.ret ha17
abbrev lf_X12_says : List Nat := [33, 42, 43, 49, 62, 125, 126, 129, 130, 131, 132, 133, 134, 135, 138, 143, 213, 215, 217, 218, 219, 220]
theorem fb_X12_says_221 {a0 : AH} {N : Nat} {k186 : AH → Int32 → Int32 → Int32 → Option AH} {ah : AH} {v1 : Int32} {v2 : Int32} {v3 : Int32} (hk186 : ∀ {z0 : AH} {z1 : Int32} {z2 : Int32} {z3 : Int32}, Fr rgM lf_X12_says a0 z0 → Sf hpV rgM lf_X12_says a0 (k186 z0 z1 z2 z3)) (hah : Fr rgM lf_X12_says a0 ah) : Sf hpV rgM lf_X12_says a0 (F_X12_says_221 N k186 ah v1 v2 v3) := by
  unfold F_X12_says_221
  refine Sf.let_v (fun v3_221 => ?_)
  exact hk186 hah
theorem fb_X12_says_249 {a0 : AH} {N : Nat}  : ∀ (n : Nat) {ah : AH} {v1 : Int32} {v2 : Int32} {v3 : Int32}  (hah : Fr rgM lf_X12_says a0 ah), Sf hpV rgM lf_X12_says a0 (F_X12_says_249 N n ah v1 v2 v3) := by
  intro n
  induction n with
  | zero => intros; exact Sf.none
  | succ n ih =>
    intro ah v1 v2 v3  hah
    unfold F_X12_says_249
    refine Sf.ite ?_ ?_
    · exact Sf.ret hah
    · refine Sf.g (fun _ => ?_)
      refine Sf.let_c ?_
      refine Sf.g (fun _ => ?_)
      refine Sf.g (fun _ => ?_)
      refine Sf.let_xu hah rfl (fun a267 ha267 => ?_)
      refine Sf.g (fun _ => ?_)
      refine Sf.let_c ?_
      refine Sf.g (fun _ => ?_)
      refine Sf.let_v (fun v2_276 => ?_)
      refine Sf.let_v (fun v3_277 => ?_)
      exact ih ha267
theorem fb_X12_says_244 {a0 : AH} {N : Nat} {ah : AH} {v1 : Int32} {v2 : Int32} {s1 : Int32}  (hah : Fr rgM lf_X12_says a0 ah) : Sf hpV rgM lf_X12_says a0 (F_X12_says_244 N ah v1 v2 s1) := by
  unfold F_X12_says_244
  refine Sf.let_xu hah rfl (fun a244 ha244 => ?_)
  refine Sf.let_v (fun v3_248 => ?_)
  exact fb_X12_says_249 _ ha244
theorem fb_X12_says_227 {a0 : AH} {N : Nat} {ah : AH} {v1 : Int32} {v2 : Int32}  (hah : Fr rgM lf_X12_says a0 ah) : Sf hpV rgM lf_X12_says a0 (F_X12_says_227 N ah v1 v2) := by
  unfold F_X12_says_227
  refine Sf.ite ?_ ?_
  · exact fb_X12_says_244 hah
  · refine Sf.let_c ?_
    refine Sf.g (fun _ => ?_)
    exact fb_X12_says_244 hah
theorem fb_X12_says_186 {a0 : AH} {N : Nat}  : ∀ (n : Nat) {ah : AH} {v1 : Int32} {v2 : Int32} {v3 : Int32}  (hah : Fr rgM lf_X12_says a0 ah), Sf hpV rgM lf_X12_says a0 (F_X12_says_186 N n ah v1 v2 v3) := by
  intro n
  induction n with
  | zero => intros; exact Sf.none
  | succ n ih =>
    intro ah v1 v2 v3  hah
    unfold F_X12_says_186
    refine Sf.ite ?_ ?_
    · exact fb_X12_says_227 hah
    · refine Sf.ite ?_ ?_
      · exact fb_X12_says_227 hah
      · refine Sf.let_c ?_
        refine Sf.g (fun _ => ?_)
        refine Sf.let_c ?_
        refine Sf.g (fun _ => ?_)
        refine Sf.ite ?_ ?_
        · exact fb_X12_says_221 (fun h => ih h) hah
        · refine Sf.let_v (fun v2_220 => ?_)
          exact fb_X12_says_221 (fun h => ih h) hah
theorem fb_X12_says_135 {a0 : AH} {N : Nat} {k29 : AH → Int32 → Int32 → Option AH} {k35 : AH → Int32 → Int32 → Int32 → Option AH} {k54 : AH → Int32 → Int32 → Int32 → Int32 → Int32 → Int32 → Option AH} {ah : AH} {v1 : Int32} {v2 : Int32} {v3 : Int32} {v4 : Int32} {v5 : Int32} {v6 : Int32} (hk29 : ∀ {z0 : AH} {z1 : Int32} {z2 : Int32}, Fr rgM lf_X12_says a0 z0 → Sf hpV rgM lf_X12_says a0 (k29 z0 z1 z2)) (hk35 : ∀ {z0 : AH} {z1 : Int32} {z2 : Int32} {z3 : Int32}, Fr rgM lf_X12_says a0 z0 → Sf hpV rgM lf_X12_says a0 (k35 z0 z1 z2 z3)) (hk54 : ∀ {z0 : AH} {z1 : Int32} {z2 : Int32} {z3 : Int32} {z4 : Int32} {z5 : Int32} {z6 : Int32}, Fr rgM lf_X12_says a0 z0 → Sf hpV rgM lf_X12_says a0 (k54 z0 z1 z2 z3 z4 z5 z6)) (hah : Fr rgM lf_X12_says a0 ah) : Sf hpV rgM lf_X12_says a0 (F_X12_says_135 N k29 k35 k54 ah v1 v2 v3 v4 v5 v6) := by
  unfold F_X12_says_135
  refine Sf.let_v (fun v6_135 => ?_)
  exact hk54 hah
theorem fb_X12_says_127 {a0 : AH} {N : Nat} {k29 : AH → Int32 → Int32 → Option AH} {k35 : AH → Int32 → Int32 → Int32 → Option AH} {k54 : AH → Int32 → Int32 → Int32 → Int32 → Int32 → Int32 → Option AH} {ah : AH} {v1 : Int32} {v2 : Int32} {v3 : Int32} {v6 : Int32} {v7 : Int32} (hk29 : ∀ {z0 : AH} {z1 : Int32} {z2 : Int32}, Fr rgM lf_X12_says a0 z0 → Sf hpV rgM lf_X12_says a0 (k29 z0 z1 z2)) (hk35 : ∀ {z0 : AH} {z1 : Int32} {z2 : Int32} {z3 : Int32}, Fr rgM lf_X12_says a0 z0 → Sf hpV rgM lf_X12_says a0 (k35 z0 z1 z2 z3)) (hk54 : ∀ {z0 : AH} {z1 : Int32} {z2 : Int32} {z3 : Int32} {z4 : Int32} {z5 : Int32} {z6 : Int32}, Fr rgM lf_X12_says a0 z0 → Sf hpV rgM lf_X12_says a0 (k54 z0 z1 z2 z3 z4 z5 z6)) (hah : Fr rgM lf_X12_says a0 ah) : Sf hpV rgM lf_X12_says a0 (F_X12_says_127 N k29 k35 k54 ah v1 v2 v3 v6 v7) := by
  unfold F_X12_says_127
  refine Sf.let_v (fun v4_129 => ?_)
  refine Sf.let_v (fun v5_133 => ?_)
  exact fb_X12_says_135 hk29 hk35 hk54 hah
theorem fb_X12_says_141 {a0 : AH} {N : Nat} {k29 : AH → Int32 → Int32 → Option AH} {k35 : AH → Int32 → Int32 → Int32 → Option AH} {ah : AH} {v1 : Int32} {v2 : Int32} {v3 : Int32} {v4 : Int32} {v5 : Int32} (hk29 : ∀ {z0 : AH} {z1 : Int32} {z2 : Int32}, Fr rgM lf_X12_says a0 z0 → Sf hpV rgM lf_X12_says a0 (k29 z0 z1 z2)) (hk35 : ∀ {z0 : AH} {z1 : Int32} {z2 : Int32} {z3 : Int32}, Fr rgM lf_X12_says a0 z0 → Sf hpV rgM lf_X12_says a0 (k35 z0 z1 z2 z3)) (hah : Fr rgM lf_X12_says a0 ah) : Sf hpV rgM lf_X12_says a0 (F_X12_says_141 N k29 k35 ah v1 v2 v3 v4 v5) := by
  unfold F_X12_says_141
  refine Sf.g (fun _ => ?_)
  refine Sf.let_c ?_
  refine Sf.g (fun _ => ?_)
  refine Sf.let_c ?_
  refine Sf.g (fun _ => ?_)
  refine Sf.g (fun _ => ?_)
  refine Sf.let_xu hah (by rw [rgM_19 (by omega) (by omega)]; rfl) (fun a159 ha159 => ?_)
  refine Sf.g (fun _ => ?_)
  refine Sf.let_c ?_
  refine Sf.g (fun _ => ?_)
  refine Sf.let_xu ha159 (by rw [rgM_20 (by omega) (by omega)]; rfl) (fun a169 ha169 => ?_)
  refine Sf.let_v (fun v3_170 => ?_)
  exact hk35 ha169
theorem fb_X12_says_54 {a0 : AH} {N : Nat} {k29 : AH → Int32 → Int32 → Option AH} {k35 : AH → Int32 → Int32 → Int32 → Option AH} (hk29 : ∀ {z0 : AH} {z1 : Int32} {z2 : Int32}, Fr rgM lf_X12_says a0 z0 → Sf hpV rgM lf_X12_says a0 (k29 z0 z1 z2)) (hk35 : ∀ {z0 : AH} {z1 : Int32} {z2 : Int32} {z3 : Int32}, Fr rgM lf_X12_says a0 z0 → Sf hpV rgM lf_X12_says a0 (k35 z0 z1 z2 z3)) : ∀ (n : Nat) {ah : AH} {v1 : Int32} {v2 : Int32} {v3 : Int32} {v4 : Int32} {v5 : Int32} {v6 : Int32}  (hah : Fr rgM lf_X12_says a0 ah), Sf hpV rgM lf_X12_says a0 (F_X12_says_54 N k29 k35 n ah v1 v2 v3 v4 v5 v6) := by
  intro n
  induction n with
  | zero => intros; exact Sf.none
  | succ n ih =>
    intro ah v1 v2 v3 v4 v5 v6  hah
    unfold F_X12_says_54
    refine Sf.ite ?_ ?_
    · exact fb_X12_says_141 hk29 hk35 hah
    · refine Sf.g (fun _ => ?_)
      refine Sf.ite ?_ ?_
      · exact fb_X12_says_141 hk29 hk35 hah
      · refine Sf.g (fun _ => ?_)
        refine Sf.let_c ?_
        refine Sf.g (fun _ => ?_)
        refine Sf.g (fun _ => ?_)
        refine Sf.let_c ?_
        refine Sf.g (fun _ => ?_)
        refine Sf.b (fb_X12_between Fr.rf) hah rfl (fun r94 a94 ha94 => ?_)
        refine Sf.g (fun _ => ?_)
        refine Sf.let_c ?_
        refine Sf.g (fun _ => ?_)
        refine Sf.let_v (fun v7_109 => ?_)
        refine Sf.ite ?_ ?_
        · exact fb_X12_says_127 hk29 hk35 (fun h => ih h) ha94
        · refine Sf.ite ?_ ?_
          · exact fb_X12_says_127 hk29 hk35 (fun h => ih h) ha94
          · exact fb_X12_says_135 hk29 hk35 (fun h => ih h) ha94
theorem fb_X12_says_35 {a0 : AH} {N : Nat} {k29 : AH → Int32 → Int32 → Option AH} (hk29 : ∀ {z0 : AH} {z1 : Int32} {z2 : Int32}, Fr rgM lf_X12_says a0 z0 → Sf hpV rgM lf_X12_says a0 (k29 z0 z1 z2)) : ∀ (n : Nat) {ah : AH} {v1 : Int32} {v2 : Int32} {v3 : Int32}  (hah : Fr rgM lf_X12_says a0 ah), Sf hpV rgM lf_X12_says a0 (F_X12_says_35 N k29 n ah v1 v2 v3) := by
  intro n
  induction n with
  | zero => intros; exact Sf.none
  | succ n ih =>
    intro ah v1 v2 v3  hah
    unfold F_X12_says_35
    refine Sf.g (fun _ => ?_)
    refine Sf.ite ?_ ?_
    · refine Sf.let_v (fun v2_176 => ?_)
      exact hk29 hah
    · refine Sf.let_v (fun v4_46 => ?_)
      refine Sf.let_v (fun v5_49 => ?_)
      refine Sf.let_v (fun v6_52 => ?_)
      exact fb_X12_says_54 hk29 (fun h => ih h) _ hah
theorem fb_X12_says_29 {a0 : AH} {N : Nat}  : ∀ (n : Nat) {ah : AH} {v1 : Int32} {v2 : Int32}  (hah : Fr rgM lf_X12_says a0 ah), Sf hpV rgM lf_X12_says a0 (F_X12_says_29 N n ah v1 v2) := by
  intro n
  induction n with
  | zero => intros; exact Sf.none
  | succ n ih =>
    intro ah v1 v2  hah
    unfold F_X12_says_29
    refine Sf.ite ?_ ?_
    · refine Sf.let_v (fun v2_183 => ?_)
      refine Sf.let_v (fun v3_185 => ?_)
      exact fb_X12_says_186 _ hah
    · refine Sf.let_v (fun v3_34 => ?_)
      exact fb_X12_says_35 (fun h => ih h) _ hah
theorem fb_X12_says_9 {a0 : AH} {N : Nat}  : ∀ (n : Nat) {ah : AH} {v1 : Int32} {v2 : Int32}  (hah : Fr rgM lf_X12_says a0 ah), Sf hpV rgM lf_X12_says a0 (F_X12_says_9 N n ah v1 v2) := by
  intro n
  induction n with
  | zero => intros; exact Sf.none
  | succ n ih =>
    intro ah v1 v2  hah
    unfold F_X12_says_9
    refine Sf.ite ?_ ?_
    · refine Sf.let_v (fun v2_28 => ?_)
      exact fb_X12_says_29 _ hah
    · refine Sf.bv (fb_X12_laysChoices Fr.rf) hah rfl (fun a16 ha16 => ?_)
      refine Sf.let_v (fun v2_19 => ?_)
      exact ih ha16
theorem fb_X12_says {a0 : AH} {N : Nat} {ah : AH}  (hah : Fr rgM lf_X12_says a0 ah) : Sf hpV rgM lf_X12_says a0 (F_X12_says N ah) := by
  unfold F_X12_says
  refine Sf.let_v (fun v1_6 => ?_)
  refine Sf.let_v (fun v2_8 => ?_)
  exact fb_X12_says_9 _ hah
abbrev lf_X12_sentence : List Nat := [0, 33, 42, 43, 49, 50, 51, 52, 62, 101, 125, 126, 129, 130, 131, 132, 133, 134, 135, 138, 143, 213, 215, 217, 218, 219, 220]
theorem fb_X12_sentence_110 {a0 : AH} {N : Nat} {k47 : AH → Int32 → Int32 → Int32 → Option (Int32 × AH)} {ah : AH} {v1 : Int32} {v3 : Int32} {s0 : Int32} {s1 : Int32} (hk47 : ∀ {z0 : AH} {z1 : Int32} {z2 : Int32} {z3 : Int32}, Fr rgM lf_X12_sentence a0 z0 → Sf hpI rgM lf_X12_sentence a0 (k47 z0 z1 z2 z3)) (hah : Fr rgM lf_X12_sentence a0 ah) : Sf hpI rgM lf_X12_sentence a0 (F_X12_sentence_110 N k47 ah v1 v3 s0 s1) := by
  unfold F_X12_sentence_110
  refine Sf.let_v (fun v2_111 => ?_)
  refine Sf.let_v (fun v3_112 => ?_)
  exact hk47 hah
theorem fb_X12_sentence_47 {a0 : AH} {N : Nat}  : ∀ (n : Nat) {ah : AH} {v1 : Int32} {v2 : Int32} {v3 : Int32}  (hah : Fr rgM lf_X12_sentence a0 ah), Sf hpI rgM lf_X12_sentence a0 (F_X12_sentence_47 N n ah v1 v2 v3) := by
  intro n
  induction n with
  | zero => intros; exact Sf.none
  | succ n ih =>
    intro ah v1 v2 v3  hah
    unfold F_X12_sentence_47
    refine Sf.ite ?_ ?_
    · exact Sf.ret hah
    · refine Sf.bv (fb_X12_laysToken Fr.rf) hah rfl (fun a60 ha60 => ?_)
      refine Sf.bv (fb_X12_mends Fr.rf) ha60 rfl (fun a65 ha65 => ?_)
      refine Sf.ite ?_ ?_
      · refine Sf.g (fun _ => ?_)
        refine Sf.ite ?_ ?_
        · exact fb_X12_sentence_110 (fun h => ih h) ha65
        · exact fb_X12_sentence_110 (fun h => ih h) ha65
      · refine Sf.g (fun _ => ?_)
        refine Sf.ite ?_ ?_
        · exact fb_X12_sentence_110 (fun h => ih h) ha65
        · exact fb_X12_sentence_110 (fun h => ih h) ha65
theorem fb_X12_sentence_20 {a0 : AH} {N : Nat} {ah : AH} {v1 : Int32} {s1 : Int32}  (hah : Fr rgM lf_X12_sentence a0 ah) : Sf hpI rgM lf_X12_sentence a0 (F_X12_sentence_20 N ah v1 s1) := by
  unfold F_X12_sentence_20
  refine Sf.b (fb_X12_bad Fr.rf) hah rfl (fun r22 a22 ha22 => ?_)
  refine Sf.ite ?_ ?_
  · refine Sf.bv (fb_X12_says Fr.rf) ha22 rfl (fun a31 ha31 => ?_)
    refine Sf.ite ?_ ?_
    · exact Sf.ret ha31
    · refine Sf.let_v (fun v2_44 => ?_)
      refine Sf.let_v (fun v3_46 => ?_)
      exact fb_X12_sentence_47 _ ha31
  · exact Sf.ret ha22
theorem fb_X12_sentence {a0 : AH} {N : Nat} {ah : AH} {p1 : Int32}  (hah : Fr rgM lf_X12_sentence a0 ah) : Sf hpI rgM lf_X12_sentence a0 (F_X12_sentence N ah p1) := by
  unfold F_X12_sentence
  refine Sf.let_xu hah rfl (fun a2 ha2 => ?_)
  refine Sf.b (fb_X12_in Fr.rf) ha2 rfl (fun r9 a9 ha9 => ?_)
  refine Sf.ite ?_ ?_
  · exact fb_X12_sentence_20 ha9
  · exact fb_X12_sentence_20 ha9
abbrev lf_X12_said : List Nat := [0, 33, 42, 43, 49, 62, 101, 125, 126, 129, 130, 131, 132, 133, 134, 135, 138, 143, 213, 215, 217, 218, 219, 220]
theorem fb_X12_said_19 {a0 : AH} {N : Nat} {ah : AH} {v1 : Int32} {s1 : Int32}  (hah : Fr rgM lf_X12_said a0 ah) : Sf hpI rgM lf_X12_said a0 (F_X12_said_19 N ah v1 s1) := by
  unfold F_X12_said_19
  refine Sf.b (fb_X12_bad Fr.rf) hah rfl (fun r21 a21 ha21 => ?_)
  refine Sf.ite ?_ ?_
  · refine Sf.bv (fb_X12_says Fr.rf) ha21 rfl (fun a30 ha30 => ?_)
    refine Sf.g (fun _ => ?_)
    exact Sf.ret ha30
  · exact Sf.ret ha21
theorem fb_X12_said {a0 : AH} {N : Nat} {ah : AH} {p1 : Int32}  (hah : Fr rgM lf_X12_said a0 ah) : Sf hpI rgM lf_X12_said a0 (F_X12_said N ah p1) := by
  unfold F_X12_said
  refine Sf.let_xu hah rfl (fun a2 ha2 => ?_)
  refine Sf.b (fb_X12_isToken Fr.rf) ha2 rfl (fun r8 a8 ha8 => ?_)
  refine Sf.ite ?_ ?_
  · exact fb_X12_said_19 ha8
  · exact fb_X12_said_19 ha8
abbrev lf_X12_learn : List Nat := [0, 33, 42, 43, 49, 50, 51, 52, 101, 106, 111, 112, 125, 126, 129, 130, 131, 132, 133, 134, 135, 213, 215]
theorem fb_X12_learn_111 {a0 : AH} {N : Nat} {ah : AH}  (hah : Fr rgM lf_X12_learn a0 ah) : Sf hpI rgM lf_X12_learn a0 (F_X12_learn_111 N ah) := by
  unfold F_X12_learn_111
  refine Sf.bv (fb_X12_weighs Fr.rf) hah rfl (fun a112 ha112 => ?_)
  exact Sf.ret ha112
theorem fb_X12_learn_19 {a0 : AH} {N : Nat} {ah : AH} {v1 : Int32} {s1 : Int32}  (hah : Fr rgM lf_X12_learn a0 ah) : Sf hpI rgM lf_X12_learn a0 (F_X12_learn_19 N ah v1 s1) := by
  unfold F_X12_learn_19
  refine Sf.b (fb_X12_bad Fr.rf) hah rfl (fun r21 a21 ha21 => ?_)
  refine Sf.ite ?_ ?_
  · refine Sf.bv (fb_X12_laysToken Fr.rf) ha21 rfl (fun a32 ha32 => ?_)
    refine Sf.bv (fb_X12_mends Fr.rf) ha32 rfl (fun a37 ha37 => ?_)
    refine Sf.ite ?_ ?_
    · exact Sf.ret ha37
    · refine Sf.g (fun _ => ?_)
      refine Sf.b (fb_X12_more Fr.rf) ha37 rfl (fun r70 a70 ha70 => ?_)
      refine Sf.g (fun _ => ?_)
      refine Sf.let_xu ha70 rfl (fun a73 ha73 => ?_)
      refine Sf.ite ?_ ?_
      · exact fb_X12_learn_111 ha73
      · refine Sf.g (fun _ => ?_)
        refine Sf.b (fb_X12_less Fr.rf) ha73 rfl (fun r107 a107 ha107 => ?_)
        refine Sf.g (fun _ => ?_)
        refine Sf.let_xu ha107 rfl (fun a110 ha110 => ?_)
        exact fb_X12_learn_111 ha110
  · exact Sf.ret ha21
theorem fb_X12_learn {a0 : AH} {N : Nat} {ah : AH} {p1 : Int32}  (hah : Fr rgM lf_X12_learn a0 ah) : Sf hpI rgM lf_X12_learn a0 (F_X12_learn N ah p1) := by
  unfold F_X12_learn
  refine Sf.let_xu hah rfl (fun a2 ha2 => ?_)
  refine Sf.b (fb_X12_isToken Fr.rf) ha2 rfl (fun r8 a8 ha8 => ?_)
  refine Sf.ite ?_ ?_
  · exact fb_X12_learn_19 ha8
  · exact fb_X12_learn_19 ha8
abbrev lf_X12_laysAlone : List Nat := [33, 42, 43, 49, 50, 51, 52, 125, 126, 129, 130, 131, 132, 133, 134, 135, 144, 145, 146, 147, 213, 215]
theorem fb_X12_laysAlone {a0 : AH} {N : Nat} {ah : AH} {p1 : Int32}  (hah : Fr rgM lf_X12_laysAlone a0 ah) : Sf hpV rgM lf_X12_laysAlone a0 (F_X12_laysAlone N ah p1) := by
  unfold F_X12_laysAlone
  refine Sf.bv (fb_X12_laysToken Fr.rf) hah rfl (fun a3 ha3 => ?_)
  refine Sf.bv (fb_X12_mends Fr.rf) ha3 rfl (fun a8 ha8 => ?_)
  refine Sf.g (fun _ => ?_)
  refine Sf.let_xu ha8 rfl (fun a20 ha20 => ?_)
  refine Sf.g (fun _ => ?_)
  refine Sf.let_xu ha20 rfl (fun a30 ha30 => ?_)
  refine Sf.g (fun _ => ?_)
  refine Sf.let_xu ha30 rfl (fun a37 ha37 => ?_)
  refine Sf.ite ?_ ?_
  · exact Sf.ret ha37
  · refine Sf.let_c ?_
    refine Sf.g (fun _ => ?_)
    refine Sf.ite ?_ ?_
    · refine Sf.let_c ?_
      refine Sf.g (fun _ => ?_)
      refine Sf.let_c ?_
      refine Sf.g (fun _ => ?_)
      refine Sf.ite ?_ ?_
      · refine Sf.bv (fb_X12_laysToken Fr.rf) ha37 rfl (fun a90 ha90 => ?_)
        refine Sf.bv (fb_X12_mends Fr.rf) ha90 rfl (fun a95 ha95 => ?_)
        refine Sf.g (fun _ => ?_)
        refine Sf.let_xu ha95 rfl (fun a107 ha107 => ?_)
        refine Sf.g (fun _ => ?_)
        refine Sf.let_xu ha107 rfl (fun a124 ha124 => ?_)
        exact Sf.ret ha124
      · exact Sf.ret ha37
    · exact Sf.ret ha37
abbrev lf_X12_writes : List Nat := [69, 150]
theorem fb_X12_writes {a0 : AH} {N : Nat} {ah : AH} {p1 : Int32}  (hah : Fr rgM lf_X12_writes a0 ah) : Sf hpV rgM lf_X12_writes a0 (F_X12_writes N ah p1) := by
  unfold F_X12_writes
  refine Sf.g (fun _ => ?_)
  refine Sf.let_xu hah rfl (fun a9 ha9 => ?_)
  refine Sf.let_xu ha9 rfl (fun a17 ha17 => ?_)
  exact Sf.ret ha17
abbrev lf_X12_writesOne : List Nat := [69, 150]
theorem fb_X12_writesOne_87 {a0 : AH} {N : Nat} {k37 : AH → Int32 → Int32 → Int32 → Option AH} {ah : AH} {v1 : Int32} {v2 : Int32} {v3 : Int32} (hk37 : ∀ {z0 : AH} {z1 : Int32} {z2 : Int32} {z3 : Int32}, Fr rgM lf_X12_writesOne a0 z0 → Sf hpV rgM lf_X12_writesOne a0 (k37 z0 z1 z2 z3)) (hah : Fr rgM lf_X12_writesOne a0 ah) : Sf hpV rgM lf_X12_writesOne a0 (F_X12_writesOne_87 N k37 ah v1 v2 v3) := by
  unfold F_X12_writesOne_87
  refine Sf.let_v (fun v3_87 => ?_)
  exact hk37 hah
theorem fb_X12_writesOne_37 {a0 : AH} {N : Nat}  : ∀ (n : Nat) {ah : AH} {v1 : Int32} {v2 : Int32} {v3 : Int32}  (hah : Fr rgM lf_X12_writesOne a0 ah), Sf hpV rgM lf_X12_writesOne a0 (F_X12_writesOne_37 N n ah v1 v2 v3) := by
  intro n
  induction n with
  | zero => intros; exact Sf.none
  | succ n ih =>
    intro ah v1 v2 v3  hah
    unfold F_X12_writesOne_37
    refine Sf.ite ?_ ?_
    · refine Sf.let_c ?_
      refine Sf.g (fun _ => ?_)
      refine Sf.ite ?_ ?_
      · exact Sf.ret hah
      · refine Sf.g (fun _ => ?_)
        refine Sf.g (fun _ => ?_)
        refine Sf.let_c ?_
        refine Sf.ite ?_ ?_
        · exact fb_X12_writesOne_87 (fun h => ih h) hah
        · refine Sf.g (fun _ => ?_)
          refine Sf.g (fun _ => ?_)
          refine Sf.let_c ?_
          refine Sf.bv (fb_X12_writes Fr.rf) hah rfl (fun a84 ha84 => ?_)
          exact fb_X12_writesOne_87 (fun h => ih h) ha84
    · exact Sf.ret hah
theorem fb_X12_writesOne_35 {a0 : AH} {N : Nat} {ah : AH} {v1 : Int32} {v2 : Int32}  (hah : Fr rgM lf_X12_writesOne a0 ah) : Sf hpV rgM lf_X12_writesOne a0 (F_X12_writesOne_35 N ah v1 v2) := by
  unfold F_X12_writesOne_35
  refine Sf.let_v (fun v3_36 => ?_)
  exact fb_X12_writesOne_37 _ hah
theorem fb_X12_writesOne_2 {a0 : AH} {N : Nat}  : ∀ (n : Nat) {ah : AH} {v1 : Int32} {v2 : Int32} {v3 : Int32}  (hah : Fr rgM lf_X12_writesOne a0 ah), Sf hpV rgM lf_X12_writesOne a0 (F_X12_writesOne_2 N n ah v1 v2 v3) := by
  intro n
  induction n with
  | zero => intros; exact Sf.none
  | succ n ih =>
    intro ah v1 v2 v3  hah
    unfold F_X12_writesOne_2
    refine Sf.ite ?_ ?_
    · exact fb_X12_writesOne_35 hah
    · refine Sf.g (fun _ => ?_)
      refine Sf.ite ?_ ?_
      · exact fb_X12_writesOne_35 hah
      · refine Sf.g (fun _ => ?_)
        refine Sf.let_c ?_
        refine Sf.g (fun _ => ?_)
        refine Sf.bv (fb_X12_writes Fr.rf) hah rfl (fun a26 ha26 => ?_)
        refine Sf.let_v (fun v3_29 => ?_)
        exact ih ha26
theorem fb_X12_writesOne {a0 : AH} {N : Nat} {ah : AH} {p1 : Int32} {p2 : Int32}  (hah : Fr rgM lf_X12_writesOne a0 ah) : Sf hpV rgM lf_X12_writesOne a0 (F_X12_writesOne N ah p1 p2) := by
  unfold F_X12_writesOne
  refine Sf.let_v (fun v3_1 => ?_)
  exact fb_X12_writesOne_2 _ hah
abbrev lf_X12_mendsAll : List Nat := [33, 42, 43, 49, 50, 51, 52, 69, 70, 71, 125, 126, 129, 130, 131, 132, 133, 134, 135, 144, 145, 146, 147, 148, 149, 150, 151, 213, 215]
theorem fb_X12_mendsAll_147 {a0 : AH} {N : Nat} {k36 : AH → Int32 → Int32 → Option AH} {ah : AH} {v1 : Int32} {v2 : Int32} (hk36 : ∀ {z0 : AH} {z1 : Int32} {z2 : Int32}, Fr rgM lf_X12_mendsAll a0 z0 → Sf hpV rgM lf_X12_mendsAll a0 (k36 z0 z1 z2)) (hah : Fr rgM lf_X12_mendsAll a0 ah) : Sf hpV rgM lf_X12_mendsAll a0 (F_X12_mendsAll_147 N k36 ah v1 v2) := by
  unfold F_X12_mendsAll_147
  refine Sf.let_v (fun v2_147 => ?_)
  exact hk36 hah
theorem fb_X12_mendsAll_116 {a0 : AH} {N : Nat} {k36 : AH → Int32 → Int32 → Option AH} {ah : AH} {v1 : Int32} {v2 : Int32} {s1 : Int32} {s2 : Int32} (hk36 : ∀ {z0 : AH} {z1 : Int32} {z2 : Int32}, Fr rgM lf_X12_mendsAll a0 z0 → Sf hpV rgM lf_X12_mendsAll a0 (k36 z0 z1 z2)) (hah : Fr rgM lf_X12_mendsAll a0 ah) : Sf hpV rgM lf_X12_mendsAll a0 (F_X12_mendsAll_116 N k36 ah v1 v2 s1 s2) := by
  unfold F_X12_mendsAll_116
  refine Sf.g (fun _ => ?_)
  refine Sf.let_xu hah rfl (fun a116 ha116 => ?_)
  refine Sf.g (fun _ => ?_)
  refine Sf.ite ?_ ?_
  · exact fb_X12_mendsAll_147 hk36 ha116
  · refine Sf.g (fun _ => ?_)
    refine Sf.g (fun _ => ?_)
    refine Sf.g (fun _ => ?_)
    refine Sf.let_xu ha116 rfl (fun a146 ha146 => ?_)
    exact fb_X12_mendsAll_147 hk36 ha146
theorem fb_X12_mendsAll_115 {a0 : AH} {N : Nat} {k36 : AH → Int32 → Int32 → Option AH} {ah : AH} {v1 : Int32} {v2 : Int32} {s1 : Int32} (hk36 : ∀ {z0 : AH} {z1 : Int32} {z2 : Int32}, Fr rgM lf_X12_mendsAll a0 z0 → Sf hpV rgM lf_X12_mendsAll a0 (k36 z0 z1 z2)) (hah : Fr rgM lf_X12_mendsAll a0 ah) : Sf hpV rgM lf_X12_mendsAll a0 (F_X12_mendsAll_115 N k36 ah v1 v2 s1) := by
  unfold F_X12_mendsAll_115
  exact fb_X12_mendsAll_116 hk36 hah
theorem fb_X12_mendsAll_100 {a0 : AH} {N : Nat} {k36 : AH → Int32 → Int32 → Option AH} {ah : AH} {v1 : Int32} {v2 : Int32} {s1 : Int32} {s2 : Int32} {s4 : Int32} (hk36 : ∀ {z0 : AH} {z1 : Int32} {z2 : Int32}, Fr rgM lf_X12_mendsAll a0 z0 → Sf hpV rgM lf_X12_mendsAll a0 (k36 z0 z1 z2)) (hah : Fr rgM lf_X12_mendsAll a0 ah) : Sf hpV rgM lf_X12_mendsAll a0 (F_X12_mendsAll_100 N k36 ah v1 v2 s1 s2 s4) := by
  unfold F_X12_mendsAll_100
  refine Sf.g (fun _ => ?_)
  refine Sf.g (fun _ => ?_)
  refine Sf.ite ?_ ?_
  · exact fb_X12_mendsAll_115 hk36 hah
  · exact fb_X12_mendsAll_116 hk36 hah
theorem fb_X12_mendsAll_300 {a0 : AH} {N : Nat} {k170 : AH → Int32 → Int32 → Option AH} {ah : AH} {v1 : Int32} {v2 : Int32} (hk170 : ∀ {z0 : AH} {z1 : Int32} {z2 : Int32}, Fr rgM lf_X12_mendsAll a0 z0 → Sf hpV rgM lf_X12_mendsAll a0 (k170 z0 z1 z2)) (hah : Fr rgM lf_X12_mendsAll a0 ah) : Sf hpV rgM lf_X12_mendsAll a0 (F_X12_mendsAll_300 N k170 ah v1 v2) := by
  unfold F_X12_mendsAll_300
  exact hk170 hah
theorem fb_X12_mendsAll_297 {a0 : AH} {N : Nat} {k170 : AH → Int32 → Int32 → Option AH} {ah : AH} {v1 : Int32} {v2 : Int32} {s1 : Int32} (hk170 : ∀ {z0 : AH} {z1 : Int32} {z2 : Int32}, Fr rgM lf_X12_mendsAll a0 z0 → Sf hpV rgM lf_X12_mendsAll a0 (k170 z0 z1 z2)) (hah : Fr rgM lf_X12_mendsAll a0 ah) : Sf hpV rgM lf_X12_mendsAll a0 (F_X12_mendsAll_297 N k170 ah v1 v2 s1) := by
  unfold F_X12_mendsAll_297
  refine Sf.bv (fb_X12_writes Fr.rf) hah rfl (fun a297 ha297 => ?_)
  exact fb_X12_mendsAll_300 hk170 ha297
theorem fb_X12_mendsAll_269 {a0 : AH} {N : Nat} {k170 : AH → Int32 → Int32 → Option AH} {ah : AH} {v1 : Int32} {s0 : Int32} {s1 : Int32} (hk170 : ∀ {z0 : AH} {z1 : Int32} {z2 : Int32}, Fr rgM lf_X12_mendsAll a0 z0 → Sf hpV rgM lf_X12_mendsAll a0 (k170 z0 z1 z2)) (hah : Fr rgM lf_X12_mendsAll a0 ah) : Sf hpV rgM lf_X12_mendsAll a0 (F_X12_mendsAll_269 N k170 ah v1 s0 s1) := by
  unfold F_X12_mendsAll_269
  refine Sf.let_v (fun v2_270 => ?_)
  refine Sf.ite ?_ ?_
  · exact fb_X12_mendsAll_300 hk170 hah
  · refine Sf.let_c ?_
    refine Sf.g (fun _ => ?_)
    refine Sf.ite ?_ ?_
    · exact fb_X12_mendsAll_297 hk170 hah
    · exact fb_X12_mendsAll_297 hk170 hah
theorem fb_X12_mendsAll_248 {a0 : AH} {N : Nat} {k170 : AH → Int32 → Int32 → Option AH} {ah : AH} {v1 : Int32} {v2 : Int32} {v3 : Int32} {s1 : Int32} {s2 : Int32} (hk170 : ∀ {z0 : AH} {z1 : Int32} {z2 : Int32}, Fr rgM lf_X12_mendsAll a0 z0 → Sf hpV rgM lf_X12_mendsAll a0 (k170 z0 z1 z2)) (hah : Fr rgM lf_X12_mendsAll a0 ah) : Sf hpV rgM lf_X12_mendsAll a0 (F_X12_mendsAll_248 N k170 ah v1 v2 v3 s1 s2) := by
  unfold F_X12_mendsAll_248
  refine Sf.let_xu hah rfl (fun a249 ha249 => ?_)
  refine Sf.g (fun _ => ?_)
  refine Sf.let_xu ha249 rfl (fun a258 ha258 => ?_)
  refine Sf.ite ?_ ?_
  · exact fb_X12_mendsAll_269 hk170 ha258
  · exact fb_X12_mendsAll_269 hk170 ha258
theorem fb_X12_mendsAll_247 {a0 : AH} {N : Nat} {k170 : AH → Int32 → Int32 → Option AH} {ah : AH} {v1 : Int32} {v2 : Int32} {v3 : Int32} {s1 : Int32} (hk170 : ∀ {z0 : AH} {z1 : Int32} {z2 : Int32}, Fr rgM lf_X12_mendsAll a0 z0 → Sf hpV rgM lf_X12_mendsAll a0 (k170 z0 z1 z2)) (hah : Fr rgM lf_X12_mendsAll a0 ah) : Sf hpV rgM lf_X12_mendsAll a0 (F_X12_mendsAll_247 N k170 ah v1 v2 v3 s1) := by
  unfold F_X12_mendsAll_247
  exact fb_X12_mendsAll_248 hk170 hah
theorem fb_X12_mendsAll_220 {a0 : AH} {N : Nat} {k170 : AH → Int32 → Int32 → Option AH} {ah : AH} {v1 : Int32} {v2 : Int32} {v3 : Int32} {s1 : Int32} {s2 : Int32} (hk170 : ∀ {z0 : AH} {z1 : Int32} {z2 : Int32}, Fr rgM lf_X12_mendsAll a0 z0 → Sf hpV rgM lf_X12_mendsAll a0 (k170 z0 z1 z2)) (hah : Fr rgM lf_X12_mendsAll a0 ah) : Sf hpV rgM lf_X12_mendsAll a0 (F_X12_mendsAll_220 N k170 ah v1 v2 v3 s1 s2) := by
  unfold F_X12_mendsAll_220
  refine Sf.let_xu hah rfl (fun a221 ha221 => ?_)
  refine Sf.ite ?_ ?_
  · refine Sf.g (fun _ => ?_)
    refine Sf.ite ?_ ?_
    · exact fb_X12_mendsAll_248 hk170 ha221
    · exact fb_X12_mendsAll_247 hk170 ha221
  · exact fb_X12_mendsAll_247 hk170 ha221
theorem fb_X12_mendsAll_203 {a0 : AH} {N : Nat} {k170 : AH → Int32 → Int32 → Option AH} {ah : AH} {v1 : Int32} {v2 : Int32} {v3 : Int32} {s1 : Int32} {s2 : Int32} (hk170 : ∀ {z0 : AH} {z1 : Int32} {z2 : Int32}, Fr rgM lf_X12_mendsAll a0 z0 → Sf hpV rgM lf_X12_mendsAll a0 (k170 z0 z1 z2)) (hah : Fr rgM lf_X12_mendsAll a0 ah) : Sf hpV rgM lf_X12_mendsAll a0 (F_X12_mendsAll_203 N k170 ah v1 v2 v3 s1 s2) := by
  unfold F_X12_mendsAll_203
  refine Sf.bv (fb_X12_writesOne Fr.rf) hah rfl (fun a203 ha203 => ?_)
  refine Sf.ite ?_ ?_
  · exact fb_X12_mendsAll_220 hk170 ha203
  · exact fb_X12_mendsAll_220 hk170 ha203
theorem fb_X12_mendsAll_170 {a0 : AH} {N : Nat}  : ∀ (n : Nat) {ah : AH} {v1 : Int32} {v2 : Int32}  (hah : Fr rgM lf_X12_mendsAll a0 ah), Sf hpV rgM lf_X12_mendsAll a0 (F_X12_mendsAll_170 N n ah v1 v2) := by
  intro n
  induction n with
  | zero => intros; exact Sf.none
  | succ n ih =>
    intro ah v1 v2  hah
    unfold F_X12_mendsAll_170
    refine Sf.ite ?_ ?_
    · exact Sf.ret hah
    · refine Sf.g (fun _ => ?_)
      refine Sf.let_v (fun v3_181 => ?_)
      refine Sf.ite ?_ ?_
      · refine Sf.g (fun _ => ?_)
        exact fb_X12_mendsAll_203 (fun h => ih h) hah
      · refine Sf.g (fun _ => ?_)
        exact fb_X12_mendsAll_203 (fun h => ih h) hah
theorem fb_X12_mendsAll_36 {a0 : AH} {N : Nat}  : ∀ (n : Nat) {ah : AH} {v1 : Int32} {v2 : Int32}  (hah : Fr rgM lf_X12_mendsAll a0 ah), Sf hpV rgM lf_X12_mendsAll a0 (F_X12_mendsAll_36 N n ah v1 v2) := by
  intro n
  induction n with
  | zero => intros; exact Sf.none
  | succ n ih =>
    intro ah v1 v2  hah
    unfold F_X12_mendsAll_36
    refine Sf.ite ?_ ?_
    · refine Sf.let_xu hah rfl (fun a155 ha155 => ?_)
      refine Sf.let_xu ha155 rfl (fun a160 ha160 => ?_)
      refine Sf.let_xu ha160 rfl (fun a165 ha165 => ?_)
      refine Sf.let_v (fun v2_169 => ?_)
      exact fb_X12_mendsAll_170 _ ha165
    · refine Sf.g (fun _ => ?_)
      refine Sf.g (fun _ => ?_)
      refine Sf.g (fun _ => ?_)
      refine Sf.let_xu hah rfl (fun a60 ha60 => ?_)
      refine Sf.g (fun _ => ?_)
      refine Sf.ite ?_ ?_
      · exact fb_X12_mendsAll_115 (fun h => ih h) ha60
      · refine Sf.g (fun _ => ?_)
        refine Sf.ite ?_ ?_
        · exact fb_X12_mendsAll_100 (fun h => ih h) ha60
        · exact fb_X12_mendsAll_100 (fun h => ih h) ha60
theorem fb_X12_mendsAll_9 {a0 : AH} {N : Nat}  : ∀ (n : Nat) {ah : AH} {v1 : Int32} {v2 : Int32}  (hah : Fr rgM lf_X12_mendsAll a0 ah), Sf hpV rgM lf_X12_mendsAll a0 (F_X12_mendsAll_9 N n ah v1 v2) := by
  intro n
  induction n with
  | zero => intros; exact Sf.none
  | succ n ih =>
    intro ah v1 v2  hah
    unfold F_X12_mendsAll_9
    refine Sf.ite ?_ ?_
    · refine Sf.g (fun _ => ?_)
      refine Sf.let_xu hah rfl (fun a31 ha31 => ?_)
      refine Sf.let_v (fun v2_35 => ?_)
      exact fb_X12_mendsAll_36 _ ha31
    · refine Sf.bv (fb_X12_laysAlone Fr.rf) hah rfl (fun a16 ha16 => ?_)
      refine Sf.let_v (fun v2_19 => ?_)
      exact ih ha16
theorem fb_X12_mendsAll {a0 : AH} {N : Nat} {ah : AH}  (hah : Fr rgM lf_X12_mendsAll a0 ah) : Sf hpV rgM lf_X12_mendsAll a0 (F_X12_mendsAll N ah) := by
  unfold F_X12_mendsAll
  refine Sf.let_v (fun v1_6 => ?_)
  refine Sf.let_v (fun v2_8 => ?_)
  exact fb_X12_mendsAll_9 _ hah
abbrev lf_X12_text : List Nat := [0, 33, 42, 43, 49, 50, 51, 52, 69, 70, 71, 101, 125, 126, 129, 130, 131, 132, 133, 134, 135, 144, 145, 146, 147, 148, 149, 150, 151, 213, 215]
theorem fb_X12_text_20 {a0 : AH} {N : Nat} {ah : AH} {v1 : Int32} {s1 : Int32}  (hah : Fr rgM lf_X12_text a0 ah) : Sf hpI rgM lf_X12_text a0 (F_X12_text_20 N ah v1 s1) := by
  unfold F_X12_text_20
  refine Sf.b (fb_X12_bad Fr.rf) hah rfl (fun r22 a22 ha22 => ?_)
  refine Sf.ite ?_ ?_
  · refine Sf.bv (fb_X12_mendsAll Fr.rf) ha22 rfl (fun a31 ha31 => ?_)
    refine Sf.ite ?_ ?_
    · exact Sf.ret ha31
    · refine Sf.ite ?_ ?_
      · exact Sf.ret ha31
      · refine Sf.ite ?_ ?_
        · exact Sf.ret ha31
        · exact Sf.ret ha31
  · exact Sf.ret ha22
theorem fb_X12_text {a0 : AH} {N : Nat} {ah : AH} {p1 : Int32}  (hah : Fr rgM lf_X12_text a0 ah) : Sf hpI rgM lf_X12_text a0 (F_X12_text N ah p1) := by
  unfold F_X12_text
  refine Sf.let_xu hah rfl (fun a2 ha2 => ?_)
  refine Sf.b (fb_X12_in Fr.rf) ha2 rfl (fun r9 a9 ha9 => ?_)
  refine Sf.ite ?_ ?_
  · exact fb_X12_text_20 ha9
  · exact fb_X12_text_20 ha9
abbrev lf_X12_at : List Nat := [0, 33, 42, 43, 49, 50, 51, 52, 69, 70, 71, 125, 126, 129, 130, 131, 132, 133, 134, 135, 144, 145, 146, 147, 148, 149, 150, 151, 213, 215]
theorem fb_X12_at {a0 : AH} {N : Nat} {ah : AH} {p1 : Int32}  (hah : Fr rgM lf_X12_at a0 ah) : Sf hpI rgM lf_X12_at a0 (F_X12_at N ah p1) := by
  unfold F_X12_at
  refine Sf.let_xu hah rfl (fun a2 ha2 => ?_)
  refine Sf.bv (fb_X12_mendsAll Fr.rf) ha2 rfl (fun a6 ha6 => ?_)
  refine Sf.b (fb_X12_in Fr.rf) ha6 rfl (fun r17 a17 ha17 => ?_)
  refine Sf.ite ?_ ?_
  · exact Sf.ret ha17
  · refine Sf.g (fun _ => ?_)
    exact Sf.ret ha17
abbrev lf_X12_isLostAt : List Nat := []
theorem fb_X12_isLostAt_22 {a0 : AH} {N : Nat} {k2 : AH → Int32 → Int32 → Option (Int32 × AH)} {ah : AH} {v1 : Int32} {s0 : Int32} {s1 : Int32} (hk2 : ∀ {z0 : AH} {z1 : Int32} {z2 : Int32}, Fr rgM lf_X12_isLostAt a0 z0 → Sf hpI rgM lf_X12_isLostAt a0 (k2 z0 z1 z2)) (hah : Fr rgM lf_X12_isLostAt a0 ah) : Sf hpI rgM lf_X12_isLostAt a0 (F_X12_isLostAt_22 N k2 ah v1 s0 s1) := by
  unfold F_X12_isLostAt_22
  refine Sf.let_v (fun v2_23 => ?_)
  exact hk2 hah
theorem fb_X12_isLostAt_2 {a0 : AH} {N : Nat}  : ∀ (n : Nat) {ah : AH} {v1 : Int32} {v2 : Int32}  (hah : Fr rgM lf_X12_isLostAt a0 ah), Sf hpI rgM lf_X12_isLostAt a0 (F_X12_isLostAt_2 N n ah v1 v2) := by
  intro n
  induction n with
  | zero => intros; exact Sf.none
  | succ n ih =>
    intro ah v1 v2  hah
    unfold F_X12_isLostAt_2
    refine Sf.ite ?_ ?_
    · refine Sf.ite ?_ ?_
      · refine Sf.ite ?_ ?_
        · exact Sf.ret hah
        · refine Sf.ite ?_ ?_
          · exact Sf.ret hah
          · refine Sf.g (fun _ => ?_)
            refine Sf.ite ?_ ?_
            · exact Sf.ret hah
            · exact Sf.ret hah
      · exact Sf.ret hah
    · refine Sf.g (fun _ => ?_)
      refine Sf.ite ?_ ?_
      · exact fb_X12_isLostAt_22 (fun h => ih h) hah
      · exact fb_X12_isLostAt_22 (fun h => ih h) hah
theorem fb_X12_isLostAt {a0 : AH} {N : Nat} {ah : AH} {p1 : Int32}  (hah : Fr rgM lf_X12_isLostAt a0 ah) : Sf hpI rgM lf_X12_isLostAt a0 (F_X12_isLostAt N ah p1) := by
  unfold F_X12_isLostAt
  refine Sf.let_v (fun v2_1 => ?_)
  exact fb_X12_isLostAt_2 _ hah
abbrev lf_X12_lost : List Nat := [0, 33, 42, 43, 49, 50, 51, 52, 69, 70, 71, 101, 125, 126, 129, 130, 131, 132, 133, 134, 135, 144, 145, 146, 147, 148, 149, 150, 151, 213, 215]
theorem fb_X12_lost_68 {a0 : AH} {N : Nat} {ah : AH} {s1 : Int32}  (hah : Fr rgM lf_X12_lost a0 ah) : Sf hpI rgM lf_X12_lost a0 (F_X12_lost_68 N ah s1) := by
  unfold F_X12_lost_68
  refine Sf.b (fb_X12_isLostAt Fr.rf) hah rfl (fun r68 a68 ha68 => ?_)
  refine Sf.bo ?_
  exact Sf.ret ha68
theorem fb_X12_lost_42 {a0 : AH} {N : Nat} {ah : AH} {v1 : Int32} {v2 : Int32} {s1 : Int32}  (hah : Fr rgM lf_X12_lost a0 ah) : Sf hpI rgM lf_X12_lost a0 (F_X12_lost_42 N ah v1 v2 s1) := by
  unfold F_X12_lost_42
  refine Sf.b (fb_X12_bad Fr.rf) hah rfl (fun r44 a44 ha44 => ?_)
  refine Sf.ite ?_ ?_
  · refine Sf.bv (fb_X12_mendsAll Fr.rf) ha44 rfl (fun a53 ha53 => ?_)
    refine Sf.ite ?_ ?_
    · exact fb_X12_lost_68 ha53
    · exact fb_X12_lost_68 ha53
  · exact Sf.ret ha44
theorem fb_X12_lost_19 {a0 : AH} {N : Nat} {ah : AH} {v1 : Int32} {v2 : Int32} {s1 : Int32}  (hah : Fr rgM lf_X12_lost a0 ah) : Sf hpI rgM lf_X12_lost a0 (F_X12_lost_19 N ah v1 v2 s1) := by
  unfold F_X12_lost_19
  refine Sf.b (fb_X12_bad Fr.rf) hah rfl (fun r21 a21 ha21 => ?_)
  refine Sf.ite ?_ ?_
  · refine Sf.b (fb_X12_in Fr.rf) ha21 rfl (fun r31 a31 ha31 => ?_)
    refine Sf.ite ?_ ?_
    · exact fb_X12_lost_42 ha31
    · exact fb_X12_lost_42 ha31
  · exact Sf.ret ha21
theorem fb_X12_lost {a0 : AH} {N : Nat} {ah : AH} {p1 : Int32} {p2 : Int32}  (hah : Fr rgM lf_X12_lost a0 ah) : Sf hpI rgM lf_X12_lost a0 (F_X12_lost N ah p1 p2) := by
  unfold F_X12_lost
  refine Sf.let_xu hah rfl (fun a2 ha2 => ?_)
  refine Sf.b (fb_X12_isToken Fr.rf) ha2 rfl (fun r8 a8 ha8 => ?_)
  refine Sf.ite ?_ ?_
  · exact fb_X12_lost_19 ha8
  · exact fb_X12_lost_19 ha8
abbrev lf_X12_apartOf : List Nat := [33, 125, 126, 213, 215, 216]
theorem fb_X12_apartOf {a0 : AH} {N : Nat} {ah : AH} {p1 : Int32} {p2 : Int32}  (hah : Fr rgM lf_X12_apartOf a0 ah) : Sf hpI rgM lf_X12_apartOf a0 (F_X12_apartOf N ah p1 p2) := by
  unfold F_X12_apartOf
  refine Sf.bv (fb_X12_laysWord Fr.rf) hah rfl (fun a2 ha2 => ?_)
  refine Sf.b (fb_X12_spells Fr.rf) ha2 rfl (fun r7 a7 ha7 => ?_)
  refine Sf.let_v (fun v3_10 => ?_)
  refine Sf.ite ?_ ?_
  · exact Sf.ret ha7
  · exact Sf.ret ha7
abbrev lf_X12_apart : List Nat := [0, 33, 101, 125, 126, 213, 215, 216]
theorem fb_X12_apart_27 {a0 : AH} {N : Nat} {ah : AH} {v1 : Int32} {v2 : Int32} {s1 : Int32}  (hah : Fr rgM lf_X12_apart a0 ah) : Sf hpI rgM lf_X12_apart a0 (F_X12_apart_27 N ah v1 v2 s1) := by
  unfold F_X12_apart_27
  refine Sf.b (fb_X12_bad Fr.rf) hah rfl (fun r29 a29 ha29 => ?_)
  refine Sf.ite ?_ ?_
  · refine Sf.b (fb_X12_apartOf Fr.rf) ha29 rfl (fun r40 a40 ha40 => ?_)
    exact Sf.ret ha40
  · exact Sf.ret ha29
theorem fb_X12_apart_22 {a0 : AH} {N : Nat} {ah : AH} {v1 : Int32} {v2 : Int32}  (hah : Fr rgM lf_X12_apart a0 ah) : Sf hpI rgM lf_X12_apart a0 (F_X12_apart_22 N ah v1 v2) := by
  unfold F_X12_apart_22
  exact fb_X12_apart_27 hah
theorem fb_X12_apart {a0 : AH} {N : Nat} {ah : AH} {p1 : Int32} {p2 : Int32}  (hah : Fr rgM lf_X12_apart a0 ah) : Sf hpI rgM lf_X12_apart a0 (F_X12_apart N ah p1 p2) := by
  unfold F_X12_apart
  refine Sf.let_xu hah rfl (fun a2 ha2 => ?_)
  refine Sf.b (fb_X12_isWord Fr.rf) ha2 rfl (fun r8 a8 ha8 => ?_)
  refine Sf.ite ?_ ?_
  · exact fb_X12_apart_22 ha8
  · refine Sf.b (fb_X12_isWord Fr.rf) ha8 rfl (fun r16 a16 ha16 => ?_)
    refine Sf.ite ?_ ?_
    · exact fb_X12_apart_22 ha16
    · exact fb_X12_apart_27 ha16
abbrev lf_X12_twin : List Nat := [0, 33, 101, 125, 126, 213, 215, 216]
theorem fb_X12_twin_117 {a0 : AH} {N : Nat} {k60 : AH → Int32 → Int32 → Int32 → Int32 → Int32 → Option (Int32 × AH)} {ah : AH} {v1 : Int32} {v2 : Int32} {v3 : Int32} {v4 : Int32} {v5 : Int32} (hk60 : ∀ {z0 : AH} {z1 : Int32} {z2 : Int32} {z3 : Int32} {z4 : Int32} {z5 : Int32}, Fr rgM lf_X12_twin a0 z0 → Sf hpI rgM lf_X12_twin a0 (k60 z0 z1 z2 z3 z4 z5)) (hah : Fr rgM lf_X12_twin a0 ah) : Sf hpI rgM lf_X12_twin a0 (F_X12_twin_117 N k60 ah v1 v2 v3 v4 v5) := by
  unfold F_X12_twin_117
  refine Sf.let_v (fun v5_117 => ?_)
  exact hk60 hah
theorem fb_X12_twin_110 {a0 : AH} {N : Nat} {k60 : AH → Int32 → Int32 → Int32 → Int32 → Int32 → Option (Int32 × AH)} {ah : AH} {v1 : Int32} {v2 : Int32} {v5 : Int32} {v6 : Int32} (hk60 : ∀ {z0 : AH} {z1 : Int32} {z2 : Int32} {z3 : Int32} {z4 : Int32} {z5 : Int32}, Fr rgM lf_X12_twin a0 z0 → Sf hpI rgM lf_X12_twin a0 (k60 z0 z1 z2 z3 z4 z5)) (hah : Fr rgM lf_X12_twin a0 ah) : Sf hpI rgM lf_X12_twin a0 (F_X12_twin_110 N k60 ah v1 v2 v5 v6) := by
  unfold F_X12_twin_110
  refine Sf.let_v (fun v3_112 => ?_)
  refine Sf.let_v (fun v4_115 => ?_)
  exact fb_X12_twin_117 hk60 hah
theorem fb_X12_twin_86 {a0 : AH} {N : Nat} {k60 : AH → Int32 → Int32 → Int32 → Int32 → Int32 → Option (Int32 × AH)} {ah : AH} {v1 : Int32} {v2 : Int32} {v3 : Int32} {v4 : Int32} {v5 : Int32} {s0 : Int32} (hk60 : ∀ {z0 : AH} {z1 : Int32} {z2 : Int32} {z3 : Int32} {z4 : Int32} {z5 : Int32}, Fr rgM lf_X12_twin a0 z0 → Sf hpI rgM lf_X12_twin a0 (k60 z0 z1 z2 z3 z4 z5)) (hah : Fr rgM lf_X12_twin a0 ah) : Sf hpI rgM lf_X12_twin a0 (F_X12_twin_86 N k60 ah v1 v2 v3 v4 v5 s0) := by
  unfold F_X12_twin_86
  refine Sf.let_v (fun v6_86 => ?_)
  refine Sf.ite ?_ ?_
  · exact fb_X12_twin_117 hk60 hah
  · refine Sf.ite ?_ ?_
    · exact fb_X12_twin_110 hk60 hah
    · refine Sf.ite ?_ ?_
      · exact fb_X12_twin_110 hk60 hah
      · exact fb_X12_twin_117 hk60 hah
theorem fb_X12_twin_60 {a0 : AH} {N : Nat}  : ∀ (n : Nat) {ah : AH} {v1 : Int32} {v2 : Int32} {v3 : Int32} {v4 : Int32} {v5 : Int32}  (hah : Fr rgM lf_X12_twin a0 ah), Sf hpI rgM lf_X12_twin a0 (F_X12_twin_60 N n ah v1 v2 v3 v4 v5) := by
  intro n
  induction n with
  | zero => intros; exact Sf.none
  | succ n ih =>
    intro ah v1 v2 v3 v4 v5  hah
    unfold F_X12_twin_60
    refine Sf.ite ?_ ?_
    · refine Sf.ite ?_ ?_
      · exact Sf.ret hah
      · exact Sf.ret hah
    · refine Sf.ite ?_ ?_
      · exact fb_X12_twin_86 (fun h => ih h) hah
      · refine Sf.b (fb_X12_apartOf Fr.rf) hah rfl (fun r83 a83 ha83 => ?_)
        exact fb_X12_twin_86 (fun h => ih h) ha83
theorem fb_X12_twin_42 {a0 : AH} {N : Nat} {ah : AH} {v1 : Int32} {v2 : Int32} {s1 : Int32}  (hah : Fr rgM lf_X12_twin a0 ah) : Sf hpI rgM lf_X12_twin a0 (F_X12_twin_42 N ah v1 v2 s1) := by
  unfold F_X12_twin_42
  refine Sf.b (fb_X12_bad Fr.rf) hah rfl (fun r44 a44 ha44 => ?_)
  refine Sf.ite ?_ ?_
  · refine Sf.let_v (fun v3_53 => ?_)
    refine Sf.let_v (fun v4_55 => ?_)
    refine Sf.let_v (fun v5_58 => ?_)
    exact fb_X12_twin_60 _ ha44
  · exact Sf.ret ha44
theorem fb_X12_twin_19 {a0 : AH} {N : Nat} {ah : AH} {v1 : Int32} {v2 : Int32} {s1 : Int32}  (hah : Fr rgM lf_X12_twin a0 ah) : Sf hpI rgM lf_X12_twin a0 (F_X12_twin_19 N ah v1 v2 s1) := by
  unfold F_X12_twin_19
  refine Sf.b (fb_X12_bad Fr.rf) hah rfl (fun r21 a21 ha21 => ?_)
  refine Sf.ite ?_ ?_
  · refine Sf.b (fb_X12_in Fr.rf) ha21 rfl (fun r31 a31 ha31 => ?_)
    refine Sf.ite ?_ ?_
    · exact fb_X12_twin_42 ha31
    · exact fb_X12_twin_42 ha31
  · exact Sf.ret ha21
theorem fb_X12_twin {a0 : AH} {N : Nat} {ah : AH} {p1 : Int32} {p2 : Int32}  (hah : Fr rgM lf_X12_twin a0 ah) : Sf hpI rgM lf_X12_twin a0 (F_X12_twin N ah p1 p2) := by
  unfold F_X12_twin
  refine Sf.let_xu hah rfl (fun a2 ha2 => ?_)
  refine Sf.b (fb_X12_isWord Fr.rf) ha2 rfl (fun r8 a8 ha8 => ?_)
  refine Sf.ite ?_ ?_
  · exact fb_X12_twin_19 ha8
  · exact fb_X12_twin_19 ha8
abbrev lf_X12_twins : List Nat := [0, 33, 101, 125, 126, 213, 215, 216]
theorem fb_X12_twins_83 {a0 : AH} {N : Nat} {k36 : AH → Int32 → Int32 → Int32 → Option (Int32 × AH)} {k47 : AH → Int32 → Int32 → Int32 → Int32 → Option (Int32 × AH)} {ah : AH} {v1 : Int32} {v3 : Int32} {v4 : Int32} {s0 : Int32} {s1 : Int32} (hk36 : ∀ {z0 : AH} {z1 : Int32} {z2 : Int32} {z3 : Int32}, Fr rgM lf_X12_twins a0 z0 → Sf hpI rgM lf_X12_twins a0 (k36 z0 z1 z2 z3)) (hk47 : ∀ {z0 : AH} {z1 : Int32} {z2 : Int32} {z3 : Int32} {z4 : Int32}, Fr rgM lf_X12_twins a0 z0 → Sf hpI rgM lf_X12_twins a0 (k47 z0 z1 z2 z3 z4)) (hah : Fr rgM lf_X12_twins a0 ah) : Sf hpI rgM lf_X12_twins a0 (F_X12_twins_83 N k36 k47 ah v1 v3 v4 s0 s1) := by
  unfold F_X12_twins_83
  refine Sf.let_v (fun v2_84 => ?_)
  refine Sf.let_v (fun v4_85 => ?_)
  exact hk47 hah
theorem fb_X12_twins_82 {a0 : AH} {N : Nat} {k36 : AH → Int32 → Int32 → Int32 → Option (Int32 × AH)} {k47 : AH → Int32 → Int32 → Int32 → Int32 → Option (Int32 × AH)} {ah : AH} {v1 : Int32} {v3 : Int32} {v4 : Int32} {s0 : Int32} (hk36 : ∀ {z0 : AH} {z1 : Int32} {z2 : Int32} {z3 : Int32}, Fr rgM lf_X12_twins a0 z0 → Sf hpI rgM lf_X12_twins a0 (k36 z0 z1 z2 z3)) (hk47 : ∀ {z0 : AH} {z1 : Int32} {z2 : Int32} {z3 : Int32} {z4 : Int32}, Fr rgM lf_X12_twins a0 z0 → Sf hpI rgM lf_X12_twins a0 (k47 z0 z1 z2 z3 z4)) (hah : Fr rgM lf_X12_twins a0 ah) : Sf hpI rgM lf_X12_twins a0 (F_X12_twins_82 N k36 k47 ah v1 v3 v4 s0) := by
  unfold F_X12_twins_82
  exact fb_X12_twins_83 hk36 hk47 hah
theorem fb_X12_twins_47 {a0 : AH} {N : Nat} {k36 : AH → Int32 → Int32 → Int32 → Option (Int32 × AH)} (hk36 : ∀ {z0 : AH} {z1 : Int32} {z2 : Int32} {z3 : Int32}, Fr rgM lf_X12_twins a0 z0 → Sf hpI rgM lf_X12_twins a0 (k36 z0 z1 z2 z3)) : ∀ (n : Nat) {ah : AH} {v1 : Int32} {v2 : Int32} {v3 : Int32} {v4 : Int32}  (hah : Fr rgM lf_X12_twins a0 ah), Sf hpI rgM lf_X12_twins a0 (F_X12_twins_47 N k36 n ah v1 v2 v3 v4) := by
  intro n
  induction n with
  | zero => intros; exact Sf.none
  | succ n ih =>
    intro ah v1 v2 v3 v4  hah
    unfold F_X12_twins_47
    refine Sf.ite ?_ ?_
    · refine Sf.let_v (fun v3_91 => ?_)
      exact hk36 hah
    · refine Sf.ite ?_ ?_
      · exact fb_X12_twins_82 hk36 (fun h => ih h) hah
      · refine Sf.b (fb_X12_apartOf Fr.rf) hah rfl (fun r67 a67 ha67 => ?_)
        refine Sf.b (fb_X12_in Fr.rf) ha67 rfl (fun r72 a72 ha72 => ?_)
        refine Sf.ite ?_ ?_
        · exact fb_X12_twins_82 hk36 (fun h => ih h) ha72
        · exact fb_X12_twins_83 hk36 (fun h => ih h) ha72
theorem fb_X12_twins_36 {a0 : AH} {N : Nat}  : ∀ (n : Nat) {ah : AH} {v1 : Int32} {v2 : Int32} {v3 : Int32}  (hah : Fr rgM lf_X12_twins a0 ah), Sf hpI rgM lf_X12_twins a0 (F_X12_twins_36 N n ah v1 v2 v3) := by
  intro n
  induction n with
  | zero => intros; exact Sf.none
  | succ n ih =>
    intro ah v1 v2 v3  hah
    unfold F_X12_twins_36
    refine Sf.ite ?_ ?_
    · exact Sf.ret hah
    · refine Sf.let_v (fun v4_45 => ?_)
      exact fb_X12_twins_47 (fun h => ih h) _ hah
theorem fb_X12_twins_22 {a0 : AH} {N : Nat} {ah : AH} {v1 : Int32} {s1 : Int32}  (hah : Fr rgM lf_X12_twins a0 ah) : Sf hpI rgM lf_X12_twins a0 (F_X12_twins_22 N ah v1 s1) := by
  unfold F_X12_twins_22
  refine Sf.b (fb_X12_bad Fr.rf) hah rfl (fun r24 a24 ha24 => ?_)
  refine Sf.ite ?_ ?_
  · refine Sf.let_v (fun v2_33 => ?_)
    refine Sf.let_v (fun v3_35 => ?_)
    exact fb_X12_twins_36 _ ha24
  · exact Sf.ret ha24
theorem fb_X12_twins {a0 : AH} {N : Nat} {ah : AH} {p1 : Int32}  (hah : Fr rgM lf_X12_twins a0 ah) : Sf hpI rgM lf_X12_twins a0 (F_X12_twins N ah p1) := by
  unfold F_X12_twins
  refine Sf.let_xu hah rfl (fun a2 ha2 => ?_)
  refine Sf.b (fb_X12_in Fr.rf) ha2 rfl (fun r11 a11 ha11 => ?_)
  refine Sf.ite ?_ ?_
  · exact fb_X12_twins_22 ha11
  · exact fb_X12_twins_22 ha11
abbrev lf_X12_status : List Nat := [0]
theorem fb_X12_status {a0 : AH} {N : Nat} {ah : AH} {p1 : Int32}  (hah : Fr rgM lf_X12_status a0 ah) : Sf hpI rgM lf_X12_status a0 (F_X12_status N ah p1) := by
  unfold F_X12_status
  refine Sf.let_xu hah rfl (fun a2 ha2 => ?_)
  refine Sf.b (fb_X12_in Fr.rf) ha2 rfl (fun r8 a8 ha8 => ?_)
  refine Sf.ite ?_ ?_
  · exact Sf.ret ha8
  · refine Sf.g (fun _ => ?_)
    exact Sf.ret ha8
