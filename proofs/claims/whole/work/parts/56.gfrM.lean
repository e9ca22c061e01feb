theorem gb_X12_thrown {a0 : IH} {N : Nat} {ah : IH}  (hah : Fg rgM lf_X12_thrown a0 ah) : Sg gpI rgM lf_X12_thrown a0 (G_X12_thrown N ah) := by
  unfold G_X12_thrown
  exact Sg.ret hah
theorem gb_X12_bad_26 {a0 : IH} {N : Nat} {ah : IH}  (hah : Fg rgM lf_X12_bad a0 ah) : Sg gpI rgM lf_X12_bad a0 (G_X12_bad_26 N ah) := by
  unfold G_X12_bad_26
  refine Sg.ite ?_ ?_
  · exact Sg.ret hah
  · exact Sg.ret hah
theorem gb_X12_bad {a0 : IH} {N : Nat} {ah : IH} {p1 : Int} {p2 : Int} {p3 : Int}  (hah : Fg rgM lf_X12_bad a0 ah) : Sg gpI rgM lf_X12_bad a0 (G_X12_bad N ah p1 p2 p3) := by
  unfold G_X12_bad
  refine Sg.ite ?_ ?_
  · exact gb_X12_bad_26 hah
  · refine Sg.ite ?_ ?_
    · refine Sg.let_xu hah rfl (fun a13 ha13 => ?_)
      refine Sg.g (fun _ => ?_)
      refine Sg.g (fun _ => ?_)
      refine Sg.let_xu ha13 rfl (fun a25 ha25 => ?_)
      exact gb_X12_bad_26 ha25
    · exact gb_X12_bad_26 hah
theorem gb_X12_in {a0 : IH} {N : Nat} {ah : IH} {p0 : Int} {p1 : Int} {p2 : Int}  (hah : Fg rgM lf_X12_in a0 ah) : Sg gpI rgM lf_X12_in a0 (G_X12_in N ah p0 p1 p2) := by
  unfold G_X12_in
  refine Sg.ite ?_ ?_
  · exact Sg.ret hah
  · refine Sg.ite ?_ ?_
    · exact Sg.ret hah
    · exact Sg.ret hah
theorem gb_X12_less {a0 : IH} {N : Nat} {ah : IH} {p0 : Int} {p1 : Int}  (hah : Fg rgM lf_X12_less a0 ah) : Sg gpI rgM lf_X12_less a0 (G_X12_less N ah p0 p1) := by
  unfold G_X12_less
  refine Sg.ite ?_ ?_
  · exact Sg.ret hah
  · exact Sg.ret hah
theorem gb_X12_more {a0 : IH} {N : Nat} {ah : IH} {p0 : Int} {p1 : Int}  (hah : Fg rgM lf_X12_more a0 ah) : Sg gpI rgM lf_X12_more a0 (G_X12_more N ah p0 p1) := by
  unfold G_X12_more
  refine Sg.ite ?_ ?_
  · exact Sg.ret hah
  · exact Sg.ret hah
theorem gb_X12_feed_76 {a0 : IH} {N : Nat} {k23 : IH → Int → Int → Int → Int → Int → Int → Option (Int × IH)} {ah : IH} {v1 : Int} {v2 : Int} {v3 : Int} {v4 : Int} {v5 : Int} {v6 : Int} {s0 : Int} (hk23 : ∀ {z0 : IH} {z1 : Int} {z2 : Int} {z3 : Int} {z4 : Int} {z5 : Int} {z6 : Int}, Fg rgM lf_X12_feed a0 z0 → Sg gpI rgM lf_X12_feed a0 (k23 z0 z1 z2 z3 z4 z5 z6)) (hah : Fg rgM lf_X12_feed a0 ah) : Sg gpI rgM lf_X12_feed a0 (G_X12_feed_76 N k23 ah v1 v2 v3 v4 v5 v6 s0) := by
  unfold G_X12_feed_76
  refine Sg.let_v (fun v7_76 => ?_)
  refine Sg.g (fun _ => ?_)
  refine Sg.let_xu hah rfl (fun a103 ha103 => ?_)
  refine Sg.let_xu ha103 rfl (fun a111 ha111 => ?_)
  refine Sg.let_v (fun v6_114 => ?_)
  exact hk23 ha111
theorem gb_X12_feed_23 {a0 : IH} {N : Nat}  : ∀ (n : Nat) {ah : IH} {v1 : Int} {v2 : Int} {v3 : Int} {v4 : Int} {v5 : Int} {v6 : Int}  (hah : Fg rgM lf_X12_feed a0 ah), Sg gpI rgM lf_X12_feed a0 (G_X12_feed_23 N n ah v1 v2 v3 v4 v5 v6) := by
  intro n
  induction n with
  | zero => intros; exact Sg.none
  | succ n ih =>
    intro ah v1 v2 v3 v4 v5 v6  hah
    unfold G_X12_feed_23
    refine Sg.ite ?_ ?_
    · exact Sg.ret hah
    · refine Sg.ite ?_ ?_
      · refine Sg.ite ?_ ?_
        · refine Sg.ite ?_ ?_
          · refine Sg.ite ?_ ?_
            · exact gb_X12_feed_76 (fun h => ih h) hah
            · exact gb_X12_feed_76 (fun h => ih h) hah
          · exact gb_X12_feed_76 (fun h => ih h) hah
        · exact gb_X12_feed_76 (fun h => ih h) hah
      · exact gb_X12_feed_76 (fun h => ih h) hah
theorem gb_X12_feed {a0 : IH} {N : Nat} {ah : IH} {p1 : Int} {p2 : Int} {p3 : Int} {p4 : Int} {p5 : Int}  (hah : Fg rgM lf_X12_feed a0 ah) : Sg gpI rgM lf_X12_feed a0 (G_X12_feed N ah p1 p2 p3 p4 p5) := by
  unfold G_X12_feed
  refine Sg.let_xu hah rfl (fun a2 ha2 => ?_)
  refine Sg.ite ?_ ?_
  · refine Sg.let_v (fun v6_21 => ?_)
    exact gb_X12_feed_23 _ ha2
  · exact Sg.ret ha2
theorem gb_X12_byteAt {a0 : IH} {N : Nat} {ah : IH} {p1 : Int}  (hah : Fg rgM lf_X12_byteAt a0 ah) : Sg gpI rgM lf_X12_byteAt a0 (G_X12_byteAt N ah p1) := by
  unfold G_X12_byteAt
  refine Sg.ite ?_ ?_
  · refine Sg.g (fun _ => ?_)
    exact Sg.ret hah
  · exact Sg.ret hah
theorem gb_X12_here {a0 : IH} {N : Nat} {ah : IH}  (hah : Fg rgM lf_X12_here a0 ah) : Sg gpI rgM lf_X12_here a0 (G_X12_here N ah) := by
  unfold G_X12_here
  refine Sg.b (gb_X12_byteAt Fg.rf) hah rfl (fun r5 a5 ha5 => ?_)
  exact Sg.ret ha5
theorem gb_X12_blanks_0 {a0 : IH} {N : Nat}  : ∀ (n : Nat) {ah : IH}  (hah : Fg rgM lf_X12_blanks a0 ah), Sg gpI rgM lf_X12_blanks a0 (G_X12_blanks_0 N n ah) := by
  intro n
  induction n with
  | zero => intros; exact Sg.none
  | succ n ih =>
    intro ah  hah
    unfold G_X12_blanks_0
    refine Sg.b (gb_X12_here Fg.rf) hah rfl (fun r1 a1 ha1 => ?_)
    refine Sg.ite ?_ ?_
    · refine Sg.let_xu ha1 rfl (fun a16 ha16 => ?_)
      exact ih ha16
    · refine Sg.b (gb_X12_here Fg.rf) ha1 rfl (fun r23 a23 ha23 => ?_)
      exact Sg.ret ha23
theorem gb_X12_blanks {a0 : IH} {N : Nat} {ah : IH}  (hah : Fg rgM lf_X12_blanks a0 ah) : Sg gpI rgM lf_X12_blanks a0 (G_X12_blanks N ah) := by
  unfold G_X12_blanks
  exact gb_X12_blanks_0 _ hah
theorem gb_X12_fine {a0 : IH} {N : Nat} {ah : IH}  (hah : Fg rgM lf_X12_fine a0 ah) : Sg gpI rgM lf_X12_fine a0 (G_X12_fine N ah) := by
  unfold G_X12_fine
  refine Sg.ite ?_ ?_
  · exact Sg.ret hah
  · exact Sg.ret hah
theorem gb_X12_wrong {a0 : IH} {N : Nat} {ah : IH} {p1 : Int} {p2 : Int}  (hah : Fg rgM lf_X12_wrong a0 ah) : Sg gpV rgM lf_X12_wrong a0 (G_X12_wrong N ah p1 p2) := by
  unfold G_X12_wrong
  refine Sg.ite ?_ ?_
  · refine Sg.let_xu hah rfl (fun a9 ha9 => ?_)
    refine Sg.let_xu ha9 rfl (fun a14 ha14 => ?_)
    exact Sg.ret ha14
  · exact Sg.ret hah
theorem gb_X12_starts {a0 : IH} {N : Nat} {ah : IH} {p1 : Int}  (hah : Fg rgM lf_X12_starts a0 ah) : Sg gpV rgM lf_X12_starts a0 (G_X12_starts N ah p1) := by
  unfold G_X12_starts
  refine Sg.let_xu hah rfl (fun a2 ha2 => ?_)
  refine Sg.let_xu ha2 rfl (fun a7 ha7 => ?_)
  refine Sg.let_xu ha7 rfl (fun a12 ha12 => ?_)
  refine Sg.let_xu ha12 rfl (fun a17 ha17 => ?_)
  refine Sg.let_xu ha17 rfl (fun a22 ha22 => ?_)
  exact Sg.ret ha22
theorem gb_X12_ends {a0 : IH} {N : Nat} {ah : IH} {p1 : Int}  (hah : Fg rgM lf_X12_ends a0 ah) : Sg gpI rgM lf_X12_ends a0 (G_X12_ends N ah p1) := by
  unfold G_X12_ends
  refine Sg.let_xu hah rfl (fun a5 ha5 => ?_)
  refine Sg.b (gb_X12_fine Fg.rf) ha5 rfl (fun r9 a9 ha9 => ?_)
  refine Sg.ite ?_ ?_
  · exact Sg.ret ha9
  · exact Sg.ret ha9
theorem gb_X12_isDigit {a0 : IH} {N : Nat} {ah : IH} {p0 : Int}  (hah : Fg rgM lf_X12_isDigit a0 ah) : Sg gpI rgM lf_X12_isDigit a0 (G_X12_isDigit N ah p0) := by
  unfold G_X12_isDigit
  refine Sg.ite ?_ ?_
  · exact Sg.ret hah
  · refine Sg.ite ?_ ?_
    · exact Sg.ret hah
    · exact Sg.ret hah
theorem gb_X12_isSmall {a0 : IH} {N : Nat} {ah : IH} {p0 : Int}  (hah : Fg rgM lf_X12_isSmall a0 ah) : Sg gpI rgM lf_X12_isSmall a0 (G_X12_isSmall N ah p0) := by
  unfold G_X12_isSmall
  refine Sg.ite ?_ ?_
  · exact Sg.ret hah
  · refine Sg.ite ?_ ?_
    · exact Sg.ret hah
    · exact Sg.ret hah
theorem gb_X12_number_95 {a0 : IH} {N : Nat} {ah : IH} {v1 : Int} {v4 : Int}  (hah : Fg rgM lf_X12_number a0 ah) : Sg gpI rgM lf_X12_number a0 (G_X12_number_95 N ah v1 v4) := by
  unfold G_X12_number_95
  refine Sg.b (gb_X12_fine Fg.rf) hah rfl (fun r96 a96 ha96 => ?_)
  refine Sg.ite ?_ ?_
  · exact Sg.ret ha96
  · exact Sg.ret ha96
theorem gb_X12_number_36 {a0 : IH} {N : Nat}  : ∀ (n : Nat) {ah : IH} {v1 : Int} {v2 : Int} {v3 : Int} {v4 : Int}  (hah : Fg rgM lf_X12_number a0 ah), Sg gpI rgM lf_X12_number a0 (G_X12_number_36 N n ah v1 v2 v3 v4) := by
  intro n
  induction n with
  | zero => intros; exact Sg.none
  | succ n ih =>
    intro ah v1 v2 v3 v4  hah
    unfold G_X12_number_36
    refine Sg.b (gb_X12_here Fg.rf) hah rfl (fun r37 a37 ha37 => ?_)
    refine Sg.b (gb_X12_isDigit Fg.rf) ha37 rfl (fun r40 a40 ha40 => ?_)
    refine Sg.ite ?_ ?_
    · refine Sg.b (gb_X12_in Fg.rf) ha40 rfl (fun r83 a83 ha83 => ?_)
      refine Sg.ite ?_ ?_
      · refine Sg.bv (gb_X12_wrong Fg.rf) ha83 rfl (fun a92 ha92 => ?_)
        exact gb_X12_number_95 ha92
      · exact gb_X12_number_95 ha83
    · refine Sg.b (gb_X12_here Fg.rf) ha40 rfl (fun r54 a54 ha54 => ?_)
      refine Sg.b (gb_X12_less Fg.rf) ha54 rfl (fun r61 a61 ha61 => ?_)
      refine Sg.let_v (fun v4_64 => ?_)
      refine Sg.let_xu ha61 rfl (fun a73 ha73 => ?_)
      exact ih ha73
theorem gb_X12_number_28 {a0 : IH} {N : Nat} {ah : IH} {v1 : Int} {v2 : Int}  (hah : Fg rgM lf_X12_number a0 ah) : Sg gpI rgM lf_X12_number a0 (G_X12_number_28 N ah v1 v2) := by
  unfold G_X12_number_28
  refine Sg.let_v (fun v3_32 => ?_)
  refine Sg.let_v (fun v4_34 => ?_)
  exact gb_X12_number_36 _ hah
theorem gb_X12_number {a0 : IH} {N : Nat} {ah : IH} {p1 : Int} {p2 : Int}  (hah : Fg rgM lf_X12_number a0 ah) : Sg gpI rgM lf_X12_number a0 (G_X12_number N ah p1 p2) := by
  unfold G_X12_number
  refine Sg.b (gb_X12_fine Fg.rf) hah rfl (fun r1 a1 ha1 => ?_)
  refine Sg.ite ?_ ?_
  · exact Sg.ret ha1
  · refine Sg.b (gb_X12_here Fg.rf) ha1 rfl (fun r10 a10 ha10 => ?_)
    refine Sg.b (gb_X12_isDigit Fg.rf) ha10 rfl (fun r13 a13 ha13 => ?_)
    refine Sg.ite ?_ ?_
    · refine Sg.bv (gb_X12_wrong Fg.rf) ha13 rfl (fun a25 ha25 => ?_)
      exact gb_X12_number_28 ha25
    · exact gb_X12_number_28 ha13
theorem gb_X12_closes {a0 : IH} {N : Nat} {ah : IH}  (hah : Fg rgM lf_X12_closes a0 ah) : Sg gpV rgM lf_X12_closes a0 (G_X12_closes N ah) := by
  unfold G_X12_closes
  refine Sg.b (gb_X12_fine Fg.rf) hah rfl (fun r1 a1 ha1 => ?_)
  refine Sg.ite ?_ ?_
  · exact Sg.ret ha1
  · refine Sg.b (gb_X12_blanks Fg.rf) ha1 rfl (fun r9 a9 ha9 => ?_)
    refine Sg.ite ?_ ?_
    · refine Sg.let_xu ha9 rfl (fun a24 ha24 => ?_)
      exact Sg.ret ha24
    · refine Sg.bv (gb_X12_wrong Fg.rf) ha9 rfl (fun a36 ha36 => ?_)
      exact Sg.ret ha36
theorem gb_X12_readsSigns_47 {a0 : IH} {N : Nat} {k2 : IH → Int → Int → Option (Int × IH)} {ah : IH} {v1 : Int} {v2 : Int} (hk2 : ∀ {z0 : IH} {z1 : Int} {z2 : Int}, Fg rgM lf_X12_readsSigns a0 z0 → Sg gpI rgM lf_X12_readsSigns a0 (k2 z0 z1 z2)) (hah : Fg rgM lf_X12_readsSigns a0 ah) : Sg gpI rgM lf_X12_readsSigns a0 (G_X12_readsSigns_47 N k2 ah v1 v2) := by
  unfold G_X12_readsSigns_47
  refine Sg.b (gb_X12_fine Fg.rf) hah rfl (fun r48 a48 ha48 => ?_)
  refine Sg.ite ?_ ?_
  · exact Sg.ret ha48
  · refine Sg.g (fun _ => ?_)
    refine Sg.let_c ?_
    refine Sg.b (gb_X12_here Fg.rf) ha48 rfl (fun r64 a64 ha64 => ?_)
    refine Sg.g (fun _ => ?_)
    refine Sg.let_xu ha64 (by rw [rgM_0 (by omega) (by omega)]; rfl) (fun a67 ha67 => ?_)
    refine Sg.let_v (fun v2_68 => ?_)
    refine Sg.let_xu ha67 rfl (fun a78 ha78 => ?_)
    exact hk2 ha78
theorem gb_X12_readsSigns_32 {a0 : IH} {N : Nat} {k2 : IH → Int → Int → Option (Int × IH)} {ah : IH} {v1 : Int} {v2 : Int} (hk2 : ∀ {z0 : IH} {z1 : Int} {z2 : Int}, Fg rgM lf_X12_readsSigns a0 z0 → Sg gpI rgM lf_X12_readsSigns a0 (k2 z0 z1 z2)) (hah : Fg rgM lf_X12_readsSigns a0 ah) : Sg gpI rgM lf_X12_readsSigns a0 (G_X12_readsSigns_32 N k2 ah v1 v2) := by
  unfold G_X12_readsSigns_32
  refine Sg.ite ?_ ?_
  · refine Sg.bv (gb_X12_wrong Fg.rf) hah rfl (fun a44 ha44 => ?_)
    exact gb_X12_readsSigns_47 hk2 ha44
  · exact gb_X12_readsSigns_47 hk2 hah
theorem gb_X12_readsSigns_84 {a0 : IH} {N : Nat} {ah : IH} {v1 : Int} {v2 : Int}  (hah : Fg rgM lf_X12_readsSigns a0 ah) : Sg gpI rgM lf_X12_readsSigns a0 (G_X12_readsSigns_84 N ah v1 v2) := by
  unfold G_X12_readsSigns_84
  refine Sg.g (fun _ => ?_)
  refine Sg.let_xu hah rfl (fun a90 ha90 => ?_)
  refine Sg.ite ?_ ?_
  · exact Sg.ret ha90
  · refine Sg.g (fun _ => ?_)
    refine Sg.let_c ?_
    refine Sg.g (fun _ => ?_)
    refine Sg.ite ?_ ?_
    · refine Sg.bv (gb_X12_wrong Fg.rf) ha90 rfl (fun a116 ha116 => ?_)
      exact Sg.ret ha116
    · exact Sg.ret ha90
theorem gb_X12_readsSigns_2 {a0 : IH} {N : Nat}  : ∀ (n : Nat) {ah : IH} {v1 : Int} {v2 : Int}  (hah : Fg rgM lf_X12_readsSigns a0 ah), Sg gpI rgM lf_X12_readsSigns a0 (G_X12_readsSigns_2 N n ah v1 v2) := by
  intro n
  induction n with
  | zero => intros; exact Sg.none
  | succ n ih =>
    intro ah v1 v2  hah
    unfold G_X12_readsSigns_2
    refine Sg.b (gb_X12_fine Fg.rf) hah rfl (fun r3 a3 ha3 => ?_)
    refine Sg.ite ?_ ?_
    · exact gb_X12_readsSigns_84 ha3
    · refine Sg.b (gb_X12_here Fg.rf) ha3 rfl (fun r10 a10 ha10 => ?_)
      refine Sg.b (gb_X12_isSmall Fg.rf) ha10 rfl (fun r13 a13 ha13 => ?_)
      refine Sg.ite ?_ ?_
      · refine Sg.ite ?_ ?_
        · exact gb_X12_readsSigns_84 ha13
        · refine Sg.b (gb_X12_here Fg.rf) ha13 rfl (fun r24 a24 ha24 => ?_)
          refine Sg.ite ?_ ?_
          · exact gb_X12_readsSigns_32 (fun h => ih h) ha24
          · exact gb_X12_readsSigns_84 ha24
      · exact gb_X12_readsSigns_32 (fun h => ih h) ha13
theorem gb_X12_readsSigns {a0 : IH} {N : Nat} {ah : IH} {p1 : Int}  (hah : Fg rgM lf_X12_readsSigns a0 ah) : Sg gpI rgM lf_X12_readsSigns a0 (G_X12_readsSigns N ah p1) := by
  unfold G_X12_readsSigns
  refine Sg.let_v (fun v2_1 => ?_)
  exact gb_X12_readsSigns_2 _ hah
theorem gb_X12_areSame_19 {a0 : IH} {N : Nat}  : ∀ (n : Nat) {ah : IH} {v1 : Int} {v2 : Int} {v3 : Int}  (hah : Fg rgM lf_X12_areSame a0 ah), Sg gpI rgM lf_X12_areSame a0 (G_X12_areSame_19 N n ah v1 v2 v3) := by
  intro n
  induction n with
  | zero => intros; exact Sg.none
  | succ n ih =>
    intro ah v1 v2 v3  hah
    unfold G_X12_areSame_19
    refine Sg.g (fun _ => ?_)
    refine Sg.ite ?_ ?_
    · exact Sg.ret hah
    · refine Sg.g (fun _ => ?_)
      refine Sg.let_c ?_
      refine Sg.g (fun _ => ?_)
      refine Sg.g (fun _ => ?_)
      refine Sg.let_c ?_
      refine Sg.g (fun _ => ?_)
      refine Sg.ite ?_ ?_
      · refine Sg.let_v (fun v3_50 => ?_)
        exact ih hah
      · exact Sg.ret hah
theorem gb_X12_areSame {a0 : IH} {N : Nat} {ah : IH} {p1 : Int} {p2 : Int}  (hah : Fg rgM lf_X12_areSame a0 ah) : Sg gpI rgM lf_X12_areSame a0 (G_X12_areSame N ah p1 p2) := by
  unfold G_X12_areSame
  refine Sg.g (fun _ => ?_)
  refine Sg.g (fun _ => ?_)
  refine Sg.ite ?_ ?_
  · refine Sg.let_v (fun v3_18 => ?_)
    exact gb_X12_areSame_19 _ hah
  · exact Sg.ret hah
theorem gb_X12_sameAs_2 {a0 : IH} {N : Nat}  : ∀ (n : Nat) {ah : IH} {v1 : Int} {v2 : Int}  (hah : Fg rgM lf_X12_sameAs a0 ah), Sg gpI rgM lf_X12_sameAs a0 (G_X12_sameAs_2 N n ah v1 v2) := by
  intro n
  induction n with
  | zero => intros; exact Sg.none
  | succ n ih =>
    intro ah v1 v2  hah
    unfold G_X12_sameAs_2
    refine Sg.ite ?_ ?_
    · exact Sg.ret hah
    · refine Sg.b (gb_X12_areSame Fg.rf) hah rfl (fun r10 a10 ha10 => ?_)
      refine Sg.ite ?_ ?_
      · refine Sg.let_v (fun v2_18 => ?_)
        exact ih ha10
      · exact Sg.ret ha10
theorem gb_X12_sameAs {a0 : IH} {N : Nat} {ah : IH} {p1 : Int}  (hah : Fg rgM lf_X12_sameAs a0 ah) : Sg gpI rgM lf_X12_sameAs a0 (G_X12_sameAs N ah p1) := by
  unfold G_X12_sameAs
  refine Sg.let_v (fun v2_1 => ?_)
  exact gb_X12_sameAs_2 _ hah
theorem gb_X12_readsWord_70 {a0 : IH} {N : Nat} {ah : IH}  (hah : Fg rgM lf_X12_readsWord a0 ah) : Sg gpV rgM lf_X12_readsWord a0 (G_X12_readsWord_70 N ah) := by
  unfold G_X12_readsWord_70
  refine Sg.bv (gb_X12_closes Fg.rf) hah rfl (fun a71 ha71 => ?_)
  exact Sg.ret ha71
theorem gb_X12_readsWord_33 {a0 : IH} {N : Nat} {ah : IH} {v1 : Int}  (hah : Fg rgM lf_X12_readsWord a0 ah) : Sg gpV rgM lf_X12_readsWord a0 (G_X12_readsWord_33 N ah v1) := by
  unfold G_X12_readsWord_33
  refine Sg.g (fun _ => ?_)
  refine Sg.let_xu hah rfl (fun a39 ha39 => ?_)
  refine Sg.b (gb_X12_fine Fg.rf) ha39 rfl (fun r41 a41 ha41 => ?_)
  refine Sg.ite ?_ ?_
  · exact gb_X12_readsWord_70 ha41
  · refine Sg.b (gb_X12_blanks Fg.rf) ha41 rfl (fun r48 a48 ha48 => ?_)
    refine Sg.b (gb_X12_isDigit Fg.rf) ha48 rfl (fun r51 a51 ha51 => ?_)
    refine Sg.ite ?_ ?_
    · exact gb_X12_readsWord_70 ha51
    · refine Sg.b (gb_X12_number Fg.rf) ha51 rfl (fun r66 a66 ha66 => ?_)
      refine Sg.g (fun _ => ?_)
      refine Sg.let_xu ha66 rfl (fun a69 ha69 => ?_)
      exact gb_X12_readsWord_70 ha69
theorem gb_X12_readsWord {a0 : IH} {N : Nat} {ah : IH} {p1 : Int}  (hah : Fg rgM lf_X12_readsWord a0 ah) : Sg gpV rgM lf_X12_readsWord a0 (G_X12_readsWord N ah p1) := by
  unfold G_X12_readsWord
  refine Sg.let_v (fun v2_4 => ?_)
  refine Sg.b (gb_X12_readsSigns Fg.rf) hah rfl (fun r7 a7 ha7 => ?_)
  refine Sg.b (gb_X12_fine Fg.rf) ha7 rfl (fun r12 a12 ha12 => ?_)
  refine Sg.ite ?_ ?_
  · exact gb_X12_readsWord_33 ha12
  · refine Sg.b (gb_X12_sameAs Fg.rf) ha12 rfl (fun r20 a20 ha20 => ?_)
    refine Sg.ite ?_ ?_
    · exact gb_X12_readsWord_33 ha20
    · refine Sg.bv (gb_X12_wrong Fg.rf) ha20 rfl (fun a30 ha30 => ?_)
      exact gb_X12_readsWord_33 ha30
theorem gb_X12_weighs_91 {a0 : IH} {N : Nat} {k32 : IH → Int → Option IH} {k47 : IH → Int → Int → Option IH} {ah : IH} {v1 : Int} {v2 : Int} {s1 : Int} {s2 : Int} (hk32 : ∀ {z0 : IH} {z1 : Int}, Fg rgM lf_X12_weighs a0 z0 → Sg gpV rgM lf_X12_weighs a0 (k32 z0 z1)) (hk47 : ∀ {z0 : IH} {z1 : Int} {z2 : Int}, Fg rgM lf_X12_weighs a0 z0 → Sg gpV rgM lf_X12_weighs a0 (k47 z0 z1 z2)) (hah : Fg rgM lf_X12_weighs a0 ah) : Sg gpV rgM lf_X12_weighs a0 (G_X12_weighs_91 N k32 k47 ah v1 v2 s1 s2) := by
  unfold G_X12_weighs_91
  refine Sg.g (fun _ => ?_)
  refine Sg.let_xu hah rfl (fun a91 ha91 => ?_)
  refine Sg.g (fun _ => ?_)
  refine Sg.g (fun _ => ?_)
  refine Sg.let_xu ha91 rfl (fun a101 ha101 => ?_)
  refine Sg.g (fun _ => ?_)
  refine Sg.let_v (fun v2_108 => ?_)
  exact hk47 ha101
theorem gb_X12_weighs_47 {a0 : IH} {N : Nat} {k32 : IH → Int → Option IH} (hk32 : ∀ {z0 : IH} {z1 : Int}, Fg rgM lf_X12_weighs a0 z0 → Sg gpV rgM lf_X12_weighs a0 (k32 z0 z1)) : ∀ (n : Nat) {ah : IH} {v1 : Int} {v2 : Int}  (hah : Fg rgM lf_X12_weighs a0 ah), Sg gpV rgM lf_X12_weighs a0 (G_X12_weighs_47 N k32 n ah v1 v2) := by
  intro n
  induction n with
  | zero => intros; exact Sg.none
  | succ n ih =>
    intro ah v1 v2  hah
    unfold G_X12_weighs_47
    refine Sg.ite ?_ ?_
    · refine Sg.let_v (fun v1_112 => ?_)
      exact hk32 hah
    · refine Sg.g (fun _ => ?_)
      refine Sg.ite ?_ ?_
      · refine Sg.g (fun _ => ?_)
        exact gb_X12_weighs_91 hk32 (fun h => ih h) hah
      · refine Sg.g (fun _ => ?_)
        refine Sg.g (fun _ => ?_)
        refine Sg.b (gb_X12_less Fg.rf) hah rfl (fun r88 a88 ha88 => ?_)
        exact gb_X12_weighs_91 hk32 (fun h => ih h) ha88
theorem gb_X12_weighs_32 {a0 : IH} {N : Nat}  : ∀ (n : Nat) {ah : IH} {v1 : Int}  (hah : Fg rgM lf_X12_weighs a0 ah), Sg gpV rgM lf_X12_weighs a0 (G_X12_weighs_32 N n ah v1) := by
  intro n
  induction n with
  | zero => intros; exact Sg.none
  | succ n ih =>
    intro ah v1  hah
    unfold G_X12_weighs_32
    refine Sg.ite ?_ ?_
    · exact Sg.ret hah
    · refine Sg.g (fun _ => ?_)
      refine Sg.let_v (fun v2_46 => ?_)
      exact gb_X12_weighs_47 (fun h => ih h) _ hah
theorem gb_X12_weighs_2 {a0 : IH} {N : Nat}  : ∀ (n : Nat) {ah : IH} {v1 : Int}  (hah : Fg rgM lf_X12_weighs a0 ah), Sg gpV rgM lf_X12_weighs a0 (G_X12_weighs_2 N n ah v1) := by
  intro n
  induction n with
  | zero => intros; exact Sg.none
  | succ n ih =>
    intro ah v1  hah
    unfold G_X12_weighs_2
    refine Sg.ite ?_ ?_
    · refine Sg.let_v (fun v1_31 => ?_)
      exact gb_X12_weighs_32 _ hah
    · refine Sg.g (fun _ => ?_)
      refine Sg.let_xu hah rfl (fun a16 ha16 => ?_)
      refine Sg.g (fun _ => ?_)
      refine Sg.let_xu ha16 rfl (fun a23 ha23 => ?_)
      refine Sg.let_v (fun v1_24 => ?_)
      exact ih ha23
theorem gb_X12_weighs {a0 : IH} {N : Nat} {ah : IH}  (hah : Fg rgM lf_X12_weighs a0 ah) : Sg gpV rgM lf_X12_weighs a0 (G_X12_weighs N ah) := by
  unfold G_X12_weighs
  refine Sg.let_v (fun v1_1 => ?_)
  exact gb_X12_weighs_2 _ hah
theorem gb_X12_childOf_34 {a0 : IH} {N : Nat} {k4 : IH → Int → Int → Int → Option (Int × IH)} {ah : IH} {v1 : Int} {v2 : Int} {v3 : Int} (hk4 : ∀ {z0 : IH} {z1 : Int} {z2 : Int} {z3 : Int}, Fg rgM lf_X12_childOf a0 z0 → Sg gpI rgM lf_X12_childOf a0 (k4 z0 z1 z2 z3)) (hah : Fg rgM lf_X12_childOf a0 ah) : Sg gpI rgM lf_X12_childOf a0 (G_X12_childOf_34 N k4 ah v1 v2 v3) := by
  unfold G_X12_childOf_34
  refine Sg.let_v (fun v3_34 => ?_)
  exact hk4 hah
theorem gb_X12_childOf_4 {a0 : IH} {N : Nat}  : ∀ (n : Nat) {ah : IH} {v1 : Int} {v2 : Int} {v3 : Int}  (hah : Fg rgM lf_X12_childOf a0 ah), Sg gpI rgM lf_X12_childOf a0 (G_X12_childOf_4 N n ah v1 v2 v3) := by
  intro n
  induction n with
  | zero => intros; exact Sg.none
  | succ n ih =>
    intro ah v1 v2 v3  hah
    unfold G_X12_childOf_4
    refine Sg.ite ?_ ?_
    · exact Sg.ret hah
    · refine Sg.g (fun _ => ?_)
      refine Sg.ite ?_ ?_
      · refine Sg.g (fun _ => ?_)
        refine Sg.ite ?_ ?_
        · exact Sg.ret hah
        · exact gb_X12_childOf_34 (fun h => ih h) hah
      · exact gb_X12_childOf_34 (fun h => ih h) hah
theorem gb_X12_childOf {a0 : IH} {N : Nat} {ah : IH} {p1 : Int} {p2 : Int}  (hah : Fg rgM lf_X12_childOf a0 ah) : Sg gpI rgM lf_X12_childOf a0 (G_X12_childOf N ah p1 p2) := by
  unfold G_X12_childOf
  refine Sg.let_v (fun v3_3 => ?_)
  exact gb_X12_childOf_4 _ hah
theorem gb_X12_grows_82 {a0 : IH} {N : Nat} {k4 : IH → Int → Int → Int → Option IH} {ah : IH} {v1 : Int} {v3 : Int} {v4 : Int} (hk4 : ∀ {z0 : IH} {z1 : Int} {z2 : Int} {z3 : Int}, Fg rgM lf_X12_grows a0 z0 → Sg gpV rgM lf_X12_grows a0 (k4 z0 z1 z2 z3)) (hah : Fg rgM lf_X12_grows a0 ah) : Sg gpV rgM lf_X12_grows a0 (G_X12_grows_82 N k4 ah v1 v3 v4) := by
  unfold G_X12_grows_82
  refine Sg.let_v (fun v2_84 => ?_)
  refine Sg.let_v (fun v3_85 => ?_)
  exact hk4 hah
theorem gb_X12_grows_4 {a0 : IH} {N : Nat}  : ∀ (n : Nat) {ah : IH} {v1 : Int} {v2 : Int} {v3 : Int}  (hah : Fg rgM lf_X12_grows a0 ah), Sg gpV rgM lf_X12_grows a0 (G_X12_grows_4 N n ah v1 v2 v3) := by
  intro n
  induction n with
  | zero => intros; exact Sg.none
  | succ n ih =>
    intro ah v1 v2 v3  hah
    unfold G_X12_grows_4
    refine Sg.g (fun _ => ?_)
    refine Sg.ite ?_ ?_
    · refine Sg.g (fun _ => ?_)
      refine Sg.let_xu hah rfl (fun a97 ha97 => ?_)
      refine Sg.g (fun _ => ?_)
      refine Sg.let_xu ha97 rfl (fun a104 ha104 => ?_)
      exact Sg.ret ha104
    · refine Sg.g (fun _ => ?_)
      refine Sg.let_c ?_
      refine Sg.g (fun _ => ?_)
      refine Sg.b (gb_X12_childOf Fg.rf) hah rfl (fun r24 a24 ha24 => ?_)
      refine Sg.let_v (fun v4_27 => ?_)
      refine Sg.ite ?_ ?_
      · refine Sg.let_v (fun v4_39 => ?_)
        refine Sg.g (fun _ => ?_)
        refine Sg.let_xu ha24 rfl (fun a48 ha48 => ?_)
        refine Sg.g (fun _ => ?_)
        refine Sg.let_c ?_
        refine Sg.g (fun _ => ?_)
        refine Sg.g (fun _ => ?_)
        refine Sg.let_xu ha48 rfl (fun a63 ha63 => ?_)
        refine Sg.g (fun _ => ?_)
        refine Sg.let_xu ha63 rfl (fun a71 ha71 => ?_)
        refine Sg.let_xu ha71 rfl (fun a79 ha79 => ?_)
        exact gb_X12_grows_82 (fun h => ih h) ha79
      · exact gb_X12_grows_82 (fun h => ih h) ha24
theorem gb_X12_grows {a0 : IH} {N : Nat} {ah : IH} {p1 : Int}  (hah : Fg rgM lf_X12_grows a0 ah) : Sg gpV rgM lf_X12_grows a0 (G_X12_grows N ah p1) := by
  unfold G_X12_grows
  refine Sg.let_v (fun v2_1 => ?_)
  refine Sg.let_v (fun v3_3 => ?_)
  exact gb_X12_grows_4 _ hah
theorem gb_X12_lexicon_142 {a0 : IH} {N : Nat}  : ∀ (n : Nat) {ah : IH} {v4 : Int}  (hah : Fg rgM lf_X12_lexicon a0 ah), Sg gpI rgM lf_X12_lexicon a0 (G_X12_lexicon_142 N n ah v4) := by
  intro n
  induction n with
  | zero => intros; exact Sg.none
  | succ n ih =>
    intro ah v4  hah
    unfold G_X12_lexicon_142
    refine Sg.ite ?_ ?_
    · refine Sg.bv (gb_X12_weighs Fg.rf) hah rfl (fun a164 ha164 => ?_)
      refine Sg.b (gb_X12_ends Fg.rf) ha164 rfl (fun r172 a172 ha172 => ?_)
      exact Sg.ret ha172
    · refine Sg.bv (gb_X12_grows Fg.rf) hah rfl (fun a154 ha154 => ?_)
      refine Sg.let_v (fun v4_157 => ?_)
      exact ih ha154
theorem gb_X12_lexicon_121 {a0 : IH} {N : Nat} {ah : IH} {v2 : Int} {v3 : Int}  (hah : Fg rgM lf_X12_lexicon a0 ah) : Sg gpI rgM lf_X12_lexicon a0 (G_X12_lexicon_121 N ah v2 v3) := by
  unfold G_X12_lexicon_121
  refine Sg.b (gb_X12_fine Fg.rf) hah rfl (fun r122 a122 ha122 => ?_)
  refine Sg.ite ?_ ?_
  · refine Sg.b (gb_X12_ends Fg.rf) ha122 rfl (fun r130 a130 ha130 => ?_)
    exact Sg.ret ha130
  · refine Sg.let_xu ha122 rfl (fun a136 ha136 => ?_)
    refine Sg.let_v (fun v4_140 => ?_)
    exact gb_X12_lexicon_142 _ ha136
theorem gb_X12_lexicon_100 {a0 : IH} {N : Nat} {k48 : IH → Int → Int → Option (Int × IH)} {ah : IH} {v2 : Int} {v3 : Int} (hk48 : ∀ {z0 : IH} {z1 : Int} {z2 : Int}, Fg rgM lf_X12_lexicon a0 z0 → Sg gpI rgM lf_X12_lexicon a0 (k48 z0 z1 z2)) (hah : Fg rgM lf_X12_lexicon a0 ah) : Sg gpI rgM lf_X12_lexicon a0 (G_X12_lexicon_100 N k48 ah v2 v3) := by
  unfold G_X12_lexicon_100
  refine Sg.b (gb_X12_fine Fg.rf) hah rfl (fun r101 a101 ha101 => ?_)
  refine Sg.ite ?_ ?_
  · exact gb_X12_lexicon_121 ha101
  · refine Sg.bv (gb_X12_readsWord Fg.rf) ha101 rfl (fun a112 ha112 => ?_)
    refine Sg.let_v (fun v3_115 => ?_)
    exact hk48 ha112
theorem gb_X12_lexicon_48 {a0 : IH} {N : Nat}  : ∀ (n : Nat) {ah : IH} {v2 : Int} {v3 : Int}  (hah : Fg rgM lf_X12_lexicon a0 ah), Sg gpI rgM lf_X12_lexicon a0 (G_X12_lexicon_48 N n ah v2 v3) := by
  intro n
  induction n with
  | zero => intros; exact Sg.none
  | succ n ih =>
    intro ah v2 v3  hah
    unfold G_X12_lexicon_48
    refine Sg.b (gb_X12_fine Fg.rf) hah rfl (fun r49 a49 ha49 => ?_)
    refine Sg.ite ?_ ?_
    · exact gb_X12_lexicon_121 ha49
    · refine Sg.b (gb_X12_blanks Fg.rf) ha49 rfl (fun r56 a56 ha56 => ?_)
      refine Sg.ite ?_ ?_
      · exact gb_X12_lexicon_121 ha56
      · refine Sg.b (gb_X12_here Fg.rf) ha56 rfl (fun r64 a64 ha64 => ?_)
        refine Sg.b (gb_X12_isSmall Fg.rf) ha64 rfl (fun r67 a67 ha67 => ?_)
        refine Sg.ite ?_ ?_
        · refine Sg.bv (gb_X12_wrong Fg.rf) ha67 rfl (fun a79 ha79 => ?_)
          exact gb_X12_lexicon_100 (fun h => ih h) ha79
        · refine Sg.ite ?_ ?_
          · refine Sg.bv (gb_X12_wrong Fg.rf) ha67 rfl (fun a97 ha97 => ?_)
            exact gb_X12_lexicon_100 (fun h => ih h) ha97
          · exact gb_X12_lexicon_100 (fun h => ih h) ha67
theorem gb_X12_lexicon_23 {a0 : IH} {N : Nat} {ah : IH} {v1 : Int} {s1 : Int}  (hah : Fg rgM lf_X12_lexicon a0 ah) : Sg gpI rgM lf_X12_lexicon a0 (G_X12_lexicon_23 N ah v1 s1) := by
  unfold G_X12_lexicon_23
  refine Sg.b (gb_X12_bad Fg.rf) hah rfl (fun r25 a25 ha25 => ?_)
  refine Sg.ite ?_ ?_
  · refine Sg.bv (gb_X12_starts Fg.rf) ha25 rfl (fun a35 ha35 => ?_)
    refine Sg.let_v (fun v2_42 => ?_)
    refine Sg.let_v (fun v3_47 => ?_)
    exact gb_X12_lexicon_48 _ ha35
  · exact Sg.ret ha25
theorem gb_X12_lexicon {a0 : IH} {N : Nat} {ah : IH} {p1 : Int}  (hah : Fg rgM lf_X12_lexicon a0 ah) : Sg gpI rgM lf_X12_lexicon a0 (G_X12_lexicon N ah p1) := by
  unfold G_X12_lexicon
  refine Sg.let_xu hah rfl (fun a2 ha2 => ?_)
  refine Sg.b (gb_X12_in Fg.rf) ha2 rfl (fun r12 a12 ha12 => ?_)
  refine Sg.ite ?_ ?_
  · exact gb_X12_lexicon_23 ha12
  · exact gb_X12_lexicon_23 ha12
theorem gb_X12_plants {a0 : IH} {N : Nat} {ah : IH}  (hah : Fg rgM lf_X12_plants a0 ah) : Sg gpV rgM lf_X12_plants a0 (G_X12_plants N ah) := by
  unfold G_X12_plants
  refine Sg.let_xu hah rfl (fun a2 ha2 => ?_)
  refine Sg.let_xu ha2 rfl (fun a11 ha11 => ?_)
  refine Sg.let_xu ha11 rfl (fun a18 ha18 => ?_)
  refine Sg.let_xu ha18 rfl (fun a25 ha25 => ?_)
  refine Sg.bv (gb_X12_weighs Fg.rf) ha25 rfl (fun a27 ha27 => ?_)
  exact Sg.ret ha27
theorem gb_X12_forget {a0 : IH} {N : Nat} {ah : IH}  (hah : Fg rgM lf_X12_forget a0 ah) : Sg gpI rgM lf_X12_forget a0 (G_X12_forget N ah) := by
  unfold G_X12_forget
  refine Sg.let_xu hah rfl (fun a2 ha2 => ?_)
  refine Sg.let_v (fun v1_9 => ?_)
  refine Sg.let_xu ha2 rfl (fun a12 ha12 => ?_)
  refine Sg.let_xu ha12 rfl (fun a21 ha21 => ?_)
  refine Sg.bv (gb_X12_plants Fg.rf) ha21 rfl (fun a23 ha23 => ?_)
  exact Sg.ret ha23
theorem gb_X12_wordHere_73 {a0 : IH} {N : Nat} {k35 : IH → Int → Int → Option (Int × IH)} {ah : IH} {v1 : Int} {v2 : Int} (hk35 : ∀ {z0 : IH} {z1 : Int} {z2 : Int}, Fg rgM lf_X12_wordHere a0 z0 → Sg gpI rgM lf_X12_wordHere a0 (k35 z0 z1 z2)) (hah : Fg rgM lf_X12_wordHere a0 ah) : Sg gpI rgM lf_X12_wordHere a0 (G_X12_wordHere_73 N k35 ah v1 v2) := by
  unfold G_X12_wordHere_73
  refine Sg.let_v (fun v2_73 => ?_)
  refine Sg.let_xu hah rfl (fun a83 ha83 => ?_)
  exact hk35 ha83
theorem gb_X12_wordHere_54 {a0 : IH} {N : Nat} {k35 : IH → Int → Int → Option (Int × IH)} {ah : IH} {v1 : Int} {v2 : Int} (hk35 : ∀ {z0 : IH} {z1 : Int} {z2 : Int}, Fg rgM lf_X12_wordHere a0 z0 → Sg gpI rgM lf_X12_wordHere a0 (k35 z0 z1 z2)) (hah : Fg rgM lf_X12_wordHere a0 ah) : Sg gpI rgM lf_X12_wordHere a0 (G_X12_wordHere_54 N k35 ah v1 v2) := by
  unfold G_X12_wordHere_54
  refine Sg.ite ?_ ?_
  · exact gb_X12_wordHere_73 hk35 hah
  · refine Sg.let_c ?_
    refine Sg.b (gb_X12_here Fg.rf) hah rfl (fun r69 a69 ha69 => ?_)
    refine Sg.g (fun _ => ?_)
    refine Sg.let_xu ha69 (by rw [rgM_0 (by omega) (by omega)]; rfl) (fun a72 ha72 => ?_)
    exact gb_X12_wordHere_73 hk35 ha72
theorem gb_X12_wordHere_123 {a0 : IH} {N : Nat} {ah : IH} {v1 : Int} {v3 : Int}  (hah : Fg rgM lf_X12_wordHere a0 ah) : Sg gpI rgM lf_X12_wordHere a0 (G_X12_wordHere_123 N ah v1 v3) := by
  unfold G_X12_wordHere_123
  refine Sg.ite ?_ ?_
  · refine Sg.bv (gb_X12_wrong Fg.rf) hah rfl (fun a134 ha134 => ?_)
    exact Sg.ret ha134
  · exact Sg.ret hah
theorem gb_X12_wordHere_99 {a0 : IH} {N : Nat}  : ∀ (n : Nat) {ah : IH} {v1 : Int} {v3 : Int}  (hah : Fg rgM lf_X12_wordHere a0 ah), Sg gpI rgM lf_X12_wordHere a0 (G_X12_wordHere_99 N n ah v1 v3) := by
  intro n
  induction n with
  | zero => intros; exact Sg.none
  | succ n ih =>
    intro ah v1 v3  hah
    unfold G_X12_wordHere_99
    refine Sg.ite ?_ ?_
    · exact gb_X12_wordHere_123 hah
    · refine Sg.b (gb_X12_areSame Fg.rf) hah rfl (fun r111 a111 ha111 => ?_)
      refine Sg.ite ?_ ?_
      · refine Sg.let_v (fun v3_117 => ?_)
        exact ih ha111
      · exact gb_X12_wordHere_123 ha111
theorem gb_X12_wordHere_35 {a0 : IH} {N : Nat}  : ∀ (n : Nat) {ah : IH} {v1 : Int} {v2 : Int}  (hah : Fg rgM lf_X12_wordHere a0 ah), Sg gpI rgM lf_X12_wordHere a0 (G_X12_wordHere_35 N n ah v1 v2) := by
  intro n
  induction n with
  | zero => intros; exact Sg.none
  | succ n ih =>
    intro ah v1 v2  hah
    unfold G_X12_wordHere_35
    refine Sg.b (gb_X12_here Fg.rf) hah rfl (fun r36 a36 ha36 => ?_)
    refine Sg.b (gb_X12_isSmall Fg.rf) ha36 rfl (fun r39 a39 ha39 => ?_)
    refine Sg.ite ?_ ?_
    · refine Sg.b (gb_X12_here Fg.rf) ha39 rfl (fun r46 a46 ha46 => ?_)
      refine Sg.ite ?_ ?_
      · exact gb_X12_wordHere_54 (fun h => ih h) ha46
      · refine Sg.let_xu ha46 rfl (fun a96 ha96 => ?_)
        refine Sg.let_v (fun v3_98 => ?_)
        exact gb_X12_wordHere_99 _ ha96
    · exact gb_X12_wordHere_54 (fun h => ih h) ha39
theorem gb_X12_wordHere_19 {a0 : IH} {N : Nat} {ah : IH}  (hah : Fg rgM lf_X12_wordHere a0 ah) : Sg gpI rgM lf_X12_wordHere a0 (G_X12_wordHere_19 N ah) := by
  unfold G_X12_wordHere_19
  refine Sg.b (gb_X12_fine Fg.rf) hah rfl (fun r20 a20 ha20 => ?_)
  refine Sg.ite ?_ ?_
  · exact Sg.ret ha20
  · refine Sg.let_v (fun v1_32 => ?_)
    refine Sg.let_v (fun v2_34 => ?_)
    exact gb_X12_wordHere_35 _ ha20
theorem gb_X12_wordHere {a0 : IH} {N : Nat} {ah : IH}  (hah : Fg rgM lf_X12_wordHere a0 ah) : Sg gpI rgM lf_X12_wordHere a0 (G_X12_wordHere N ah) := by
  unfold G_X12_wordHere
  refine Sg.b (gb_X12_blanks Fg.rf) hah rfl (fun r1 a1 ha1 => ?_)
  refine Sg.b (gb_X12_isSmall Fg.rf) ha1 rfl (fun r4 a4 ha4 => ?_)
  refine Sg.ite ?_ ?_
  · refine Sg.bv (gb_X12_wrong Fg.rf) ha4 rfl (fun a16 ha16 => ?_)
    exact gb_X12_wordHere_19 ha16
  · exact gb_X12_wordHere_19 ha4
theorem gb_X12_follows_181 {a0 : IH} {N : Nat} {k169 : IH → Int → Option (Int × IH)} (hk169 : ∀ {z0 : IH} {z1 : Int}, Fg rgM lf_X12_follows a0 z0 → Sg gpI rgM lf_X12_follows a0 (k169 z0 z1)) : ∀ (n : Nat) {ah : IH} {v2 : Int} {v3 : Int}  (hah : Fg rgM lf_X12_follows a0 ah), Sg gpI rgM lf_X12_follows a0 (G_X12_follows_181 N k169 n ah v2 v3) := by
  intro n
  induction n with
  | zero => intros; exact Sg.none
  | succ n ih =>
    intro ah v2 v3  hah
    unfold G_X12_follows_181
    refine Sg.ite ?_ ?_
    · refine Sg.let_v (fun v2_212 => ?_)
      exact hk169 hah
    · refine Sg.g (fun _ => ?_)
      refine Sg.let_c ?_
      refine Sg.g (fun _ => ?_)
      refine Sg.let_c ?_
      refine Sg.g (fun _ => ?_)
      refine Sg.g (fun _ => ?_)
      refine Sg.let_xu hah (by rw [rgM_12 (by omega) (by omega)]; rfl) (fun a205 ha205 => ?_)
      refine Sg.let_v (fun v3_206 => ?_)
      exact ih ha205
theorem gb_X12_follows_169 {a0 : IH} {N : Nat}  : ∀ (n : Nat) {ah : IH} {v2 : Int}  (hah : Fg rgM lf_X12_follows a0 ah), Sg gpI rgM lf_X12_follows a0 (G_X12_follows_169 N n ah v2) := by
  intro n
  induction n with
  | zero => intros; exact Sg.none
  | succ n ih =>
    intro ah v2  hah
    unfold G_X12_follows_169
    refine Sg.ite ?_ ?_
    · refine Sg.b (gb_X12_ends Fg.rf) hah rfl (fun r225 a225 ha225 => ?_)
      exact Sg.ret ha225
    · refine Sg.let_v (fun v3_180 => ?_)
      exact gb_X12_follows_181 (fun h => ih h) _ hah
theorem gb_X12_follows_142 {a0 : IH} {N : Nat} {ah : IH}  (hah : Fg rgM lf_X12_follows a0 ah) : Sg gpI rgM lf_X12_follows a0 (G_X12_follows_142 N ah) := by
  unfold G_X12_follows_142
  refine Sg.b (gb_X12_fine Fg.rf) hah rfl (fun r143 a143 ha143 => ?_)
  refine Sg.ite ?_ ?_
  · refine Sg.b (gb_X12_ends Fg.rf) ha143 rfl (fun r151 a151 ha151 => ?_)
    exact Sg.ret ha151
  · refine Sg.let_xu ha143 rfl (fun a166 ha166 => ?_)
    refine Sg.let_v (fun v2_168 => ?_)
    exact gb_X12_follows_169 _ ha166
theorem gb_X12_readsFollow_49_f12_f12 {a0 : IH} {N : Nat} {ah : IH} {x1 : Int} {y0 : Int} {s1 : Int} {s2 : Int} (hx1 : 2207 ≤ x1 ∧ x1 < 2327) (hy0 : 2207 ≤ y0 ∧ y0 < 2327) (hah : Fg rgM lf_X12_readsFollow_f12 a0 ah) : Sg gpV rgM lf_X12_readsFollow_f12 a0 (G_X12_readsFollow_49 N ah x1 y0 s1 s2) := by
  unfold G_X12_readsFollow_49
  refine Sg.g (fun _ => ?_)
  refine Sg.let_xu hah (by rw [rgM_12 (by omega) (by omega)]; rfl) (fun a49 ha49 => ?_)
  refine Sg.b (gb_X12_blanks Fg.rf) ha49 rfl (fun r51 a51 ha51 => ?_)
  refine Sg.b (gb_X12_number Fg.rf) ha51 rfl (fun r61 a61 ha61 => ?_)
  refine Sg.let_xu ha61 (by rw [rgM_12 (by omega) (by omega)]; rfl) (fun a64 ha64 => ?_)
  refine Sg.bv (gb_X12_closes Fg.rf) ha64 rfl (fun a66 ha66 => ?_)
  exact Sg.ret ha66
theorem gb_X12_readsFollow_32_f12 {a0 : IH} {N : Nat} {ah : IH} {x1 : Int} (hx1 : 2207 ≤ x1 ∧ x1 < 2327) (hah : Fg rgM lf_X12_readsFollow_f12 a0 ah) : Sg gpV rgM lf_X12_readsFollow_f12 a0 (G_X12_readsFollow_32 N ah x1) := by
  unfold G_X12_readsFollow_32
  refine Sg.b (gb_X12_fine Fg.rf) hah rfl (fun r35 a35 ha35 => ?_)
  refine Sg.ite ?_ ?_
  · exact gb_X12_readsFollow_49_f12_f12 ⟨by omega, by omega⟩ ⟨by omega, by omega⟩ ha35
  · refine Sg.b (gb_X12_wordHere Fg.rf) ha35 rfl (fun r42 a42 ha42 => ?_)
    exact gb_X12_readsFollow_49_f12_f12 ⟨by omega, by omega⟩ ⟨by omega, by omega⟩ ha42
theorem gb_X12_readsFollow_f12 {a0 : IH} {N : Nat} {ah : IH} {x1 : Int} (hx1 : 2207 ≤ x1 ∧ x1 < 2327) (hah : Fg rgM lf_X12_readsFollow_f12 a0 ah) : Sg gpV rgM lf_X12_readsFollow_f12 a0 (G_X12_readsFollow N ah x1) := by
  unfold G_X12_readsFollow
  refine Sg.b (gb_X12_wordHere Fg.rf) hah rfl (fun r3 a3 ha3 => ?_)
  refine Sg.let_xu ha3 (by rw [rgM_12 (by omega) (by omega)]; rfl) (fun a6 ha6 => ?_)
  refine Sg.b (gb_X12_fine Fg.rf) ha6 rfl (fun r8 a8 ha8 => ?_)
  refine Sg.ite ?_ ?_
  · exact gb_X12_readsFollow_32_f12 ⟨by omega, by omega⟩ ha8
  · refine Sg.b (gb_X12_here Fg.rf) ha8 rfl (fun r15 a15 ha15 => ?_)
    refine Sg.ite ?_ ?_
    · exact gb_X12_readsFollow_32_f12 ⟨by omega, by omega⟩ ha15
    · refine Sg.bv (gb_X12_wrong Fg.rf) ha15 rfl (fun a29 ha29 => ?_)
      exact gb_X12_readsFollow_32_f12 ⟨by omega, by omega⟩ ha29
theorem gb_X12_follows_102 {a0 : IH} {N : Nat} {k45 : IH → Option (Int × IH)} {ah : IH} (hk45 : ∀ {z0 : IH}, Fg rgM lf_X12_follows a0 z0 → Sg gpI rgM lf_X12_follows a0 (k45 z0)) (hah : Fg rgM lf_X12_follows a0 ah) : Sg gpI rgM lf_X12_follows a0 (G_X12_follows_102 N k45 ah) := by
  unfold G_X12_follows_102
  refine Sg.b (gb_X12_fine Fg.rf) hah rfl (fun r103 a103 ha103 => ?_)
  refine Sg.ite ?_ ?_
  · exact gb_X12_follows_142 ha103
  · refine Sg.g (fun _ => ?_)
    refine Sg.let_c ?_
    refine Sg.bv (gb_X12_readsFollow_f12 ⟨by omega, by omega⟩ Fg.rf) ha103 rfl (fun a126 ha126 => ?_)
    refine Sg.let_xu ha126 rfl (fun a138 ha138 => ?_)
    exact hk45 ha138
theorem gb_X12_follows_45 {a0 : IH} {N : Nat}  : ∀ (n : Nat) {ah : IH}  (hah : Fg rgM lf_X12_follows a0 ah), Sg gpI rgM lf_X12_follows a0 (G_X12_follows_45 N n ah) := by
  intro n
  induction n with
  | zero => intros; exact Sg.none
  | succ n ih =>
    intro ah  hah
    unfold G_X12_follows_45
    refine Sg.b (gb_X12_fine Fg.rf) hah rfl (fun r46 a46 ha46 => ?_)
    refine Sg.ite ?_ ?_
    · exact gb_X12_follows_142 ha46
    · refine Sg.b (gb_X12_blanks Fg.rf) ha46 rfl (fun r53 a53 ha53 => ?_)
      refine Sg.ite ?_ ?_
      · exact gb_X12_follows_142 ha53
      · refine Sg.b (gb_X12_here Fg.rf) ha53 rfl (fun r61 a61 ha61 => ?_)
        refine Sg.b (gb_X12_isSmall Fg.rf) ha61 rfl (fun r64 a64 ha64 => ?_)
        refine Sg.ite ?_ ?_
        · refine Sg.bv (gb_X12_wrong Fg.rf) ha64 rfl (fun a76 ha76 => ?_)
          exact gb_X12_follows_102 (fun h => ih h) ha76
        · refine Sg.ite ?_ ?_
          · refine Sg.bv (gb_X12_wrong Fg.rf) ha64 rfl (fun a99 ha99 => ?_)
            exact gb_X12_follows_102 (fun h => ih h) ha99
          · exact gb_X12_follows_102 (fun h => ih h) ha64
theorem gb_X12_follows_23 {a0 : IH} {N : Nat} {ah : IH} {v1 : Int} {s1 : Int}  (hah : Fg rgM lf_X12_follows a0 ah) : Sg gpI rgM lf_X12_follows a0 (G_X12_follows_23 N ah v1 s1) := by
  unfold G_X12_follows_23
  refine Sg.b (gb_X12_bad Fg.rf) hah rfl (fun r25 a25 ha25 => ?_)
  refine Sg.ite ?_ ?_
  · refine Sg.bv (gb_X12_starts Fg.rf) ha25 rfl (fun a35 ha35 => ?_)
    refine Sg.let_xu ha35 rfl (fun a44 ha44 => ?_)
    exact gb_X12_follows_45 _ ha44
  · exact Sg.ret ha25
theorem gb_X12_follows {a0 : IH} {N : Nat} {ah : IH} {p1 : Int}  (hah : Fg rgM lf_X12_follows a0 ah) : Sg gpI rgM lf_X12_follows a0 (G_X12_follows N ah p1) := by
  unfold G_X12_follows
  refine Sg.let_xu hah rfl (fun a2 ha2 => ?_)
  refine Sg.b (gb_X12_in Fg.rf) ha2 rfl (fun r12 a12 ha12 => ?_)
  refine Sg.ite ?_ ?_
  · exact gb_X12_follows_23 ha12
  · exact gb_X12_follows_23 ha12
theorem gb_X12_dearOf_52 {a0 : IH} {N : Nat} {k9 : IH → Int → Int → Int → Option (Int × IH)} {ah : IH} {v1 : Int} {v2 : Int} {v3 : Int} (hk9 : ∀ {z0 : IH} {z1 : Int} {z2 : Int} {z3 : Int}, Fg rgM lf_X12_dearOf a0 z0 → Sg gpI rgM lf_X12_dearOf a0 (k9 z0 z1 z2 z3)) (hah : Fg rgM lf_X12_dearOf a0 ah) : Sg gpI rgM lf_X12_dearOf a0 (G_X12_dearOf_52 N k9 ah v1 v2 v3) := by
  unfold G_X12_dearOf_52
  refine Sg.let_v (fun v3_52 => ?_)
  exact hk9 hah
theorem gb_X12_dearOf_9 {a0 : IH} {N : Nat}  : ∀ (n : Nat) {ah : IH} {v1 : Int} {v2 : Int} {v3 : Int}  (hah : Fg rgM lf_X12_dearOf a0 ah), Sg gpI rgM lf_X12_dearOf a0 (G_X12_dearOf_9 N n ah v1 v2 v3) := by
  intro n
  induction n with
  | zero => intros; exact Sg.none
  | succ n ih =>
    intro ah v1 v2 v3  hah
    unfold G_X12_dearOf_9
    refine Sg.ite ?_ ?_
    · exact Sg.ret hah
    · refine Sg.g (fun _ => ?_)
      refine Sg.let_c ?_
      refine Sg.ite ?_ ?_
      · refine Sg.g (fun _ => ?_)
        refine Sg.let_c ?_
        refine Sg.ite ?_ ?_
        · refine Sg.g (fun _ => ?_)
          refine Sg.let_c ?_
          exact Sg.ret hah
        · exact gb_X12_dearOf_52 (fun h => ih h) hah
      · exact gb_X12_dearOf_52 (fun h => ih h) hah
theorem gb_X12_dearOf {a0 : IH} {N : Nat} {ah : IH} {p1 : Int} {p2 : Int}  (hah : Fg rgM lf_X12_dearOf a0 ah) : Sg gpI rgM lf_X12_dearOf a0 (G_X12_dearOf N ah p1 p2) := by
  unfold G_X12_dearOf
  refine Sg.let_v (fun v3_8 => ?_)
  exact gb_X12_dearOf_9 _ hah
theorem gb_X12_isWord {a0 : IH} {N : Nat} {ah : IH} {p1 : Int}  (hah : Fg rgM lf_X12_isWord a0 ah) : Sg gpI rgM lf_X12_isWord a0 (G_X12_isWord N ah p1) := by
  unfold G_X12_isWord
  refine Sg.b (gb_X12_in Fg.rf) hah rfl (fun r8 a8 ha8 => ?_)
  refine Sg.bo ?_
  exact Sg.ret ha8
theorem gb_X12_dear_27 {a0 : IH} {N : Nat} {ah : IH} {v1 : Int} {v2 : Int} {s1 : Int}  (hah : Fg rgM lf_X12_dear a0 ah) : Sg gpI rgM lf_X12_dear a0 (G_X12_dear_27 N ah v1 v2 s1) := by
  unfold G_X12_dear_27
  refine Sg.b (gb_X12_bad Fg.rf) hah rfl (fun r29 a29 ha29 => ?_)
  refine Sg.ite ?_ ?_
  · refine Sg.b (gb_X12_dearOf Fg.rf) ha29 rfl (fun r40 a40 ha40 => ?_)
    exact Sg.ret ha40
  · exact Sg.ret ha29
theorem gb_X12_dear_22 {a0 : IH} {N : Nat} {ah : IH} {v1 : Int} {v2 : Int}  (hah : Fg rgM lf_X12_dear a0 ah) : Sg gpI rgM lf_X12_dear a0 (G_X12_dear_22 N ah v1 v2) := by
  unfold G_X12_dear_22
  exact gb_X12_dear_27 hah
theorem gb_X12_dear {a0 : IH} {N : Nat} {ah : IH} {p1 : Int} {p2 : Int}  (hah : Fg rgM lf_X12_dear a0 ah) : Sg gpI rgM lf_X12_dear a0 (G_X12_dear N ah p1 p2) := by
  unfold G_X12_dear
  refine Sg.let_xu hah rfl (fun a2 ha2 => ?_)
  refine Sg.b (gb_X12_isWord Fg.rf) ha2 rfl (fun r8 a8 ha8 => ?_)
  refine Sg.ite ?_ ?_
  · exact gb_X12_dear_22 ha8
  · refine Sg.b (gb_X12_isWord Fg.rf) ha8 rfl (fun r16 a16 ha16 => ?_)
    refine Sg.ite ?_ ?_
    · exact gb_X12_dear_22 ha16
    · exact gb_X12_dear_27 ha16
theorem gb_X12_readsPart_52_f2 {a0 : IH} {N : Nat} {k21 : IH → Int → Int → Int → Option (Int × IH)} {ah : IH} {x1 : Int} {v2 : Int} {v3 : Int} (hk21 : ∀ {z0 : IH} {z1 : Int} {z2 : Int} {z3 : Int}, 115 ≤ z1 ∧ z1 < 155 → Fg rgM lf_X12_readsPart_f2 a0 z0 → Sg gpI rgM lf_X12_readsPart_f2 a0 (k21 z0 z1 z2 z3)) (hx1 : 115 ≤ x1 ∧ x1 < 155) (hah : Fg rgM lf_X12_readsPart_f2 a0 ah) : Sg gpI rgM lf_X12_readsPart_f2 a0 (G_X12_readsPart_52 N k21 ah x1 v2 v3) := by
  unfold G_X12_readsPart_52
  refine Sg.b (gb_X12_fine Fg.rf) hah rfl (fun r53 a53 ha53 => ?_)
  refine Sg.ite ?_ ?_
  · exact Sg.ret ha53
  · refine Sg.b (gb_X12_here Fg.rf) ha53 rfl (fun r66 a66 ha66 => ?_)
    refine Sg.g (fun _ => ?_)
    refine Sg.let_xu ha66 (by rw [rgM_2 (by omega) (by omega)]; rfl) (fun a69 ha69 => ?_)
    refine Sg.let_v (fun v3_70 => ?_)
    refine Sg.let_xu ha69 rfl (fun a80 ha80 => ?_)
    exact hk21 ⟨by omega, by omega⟩ ha80
theorem gb_X12_readsPart_21_f2 {a0 : IH} {N : Nat}  : ∀ (n : Nat) {ah : IH} {x1 : Int} {v2 : Int} {v3 : Int} (hx1 : 115 ≤ x1 ∧ x1 < 155) (hah : Fg rgM lf_X12_readsPart_f2 a0 ah), Sg gpI rgM lf_X12_readsPart_f2 a0 (G_X12_readsPart_21 N n ah x1 v2 v3) := by
  intro n
  induction n with
  | zero => intros; exact Sg.none
  | succ n ih =>
    intro ah x1 v2 v3 hx1 hah
    unfold G_X12_readsPart_21
    refine Sg.b (gb_X12_fine Fg.rf) hah rfl (fun r22 a22 ha22 => ?_)
    refine Sg.ite ?_ ?_
    · exact Sg.ret ha22
    · refine Sg.b (gb_X12_here Fg.rf) ha22 rfl (fun r29 a29 ha29 => ?_)
      refine Sg.b (gb_X12_isSmall Fg.rf) ha29 rfl (fun r32 a32 ha32 => ?_)
      refine Sg.ite ?_ ?_
      · exact Sg.ret ha32
      · refine Sg.ite ?_ ?_
        · refine Sg.bv (gb_X12_wrong Fg.rf) ha32 rfl (fun a49 ha49 => ?_)
          exact gb_X12_readsPart_52_f2 (fun x0 h => ih x0 h) ⟨by omega, by omega⟩ ha49
        · exact gb_X12_readsPart_52_f2 (fun x0 h => ih x0 h) ⟨by omega, by omega⟩ ha32
theorem gb_X12_readsPart_f2 {a0 : IH} {N : Nat} {ah : IH} {x1 : Int} {p2 : Int} (hx1 : 115 ≤ x1 ∧ x1 < 155) (hah : Fg rgM lf_X12_readsPart_f2 a0 ah) : Sg gpI rgM lf_X12_readsPart_f2 a0 (G_X12_readsPart N ah x1 p2) := by
  unfold G_X12_readsPart
  refine Sg.let_v (fun v3_1 => ?_)
  refine Sg.b (gb_X12_blanks Fg.rf) hah rfl (fun r3 a3 ha3 => ?_)
  refine Sg.b (gb_X12_isSmall Fg.rf) ha3 rfl (fun r6 a6 ha6 => ?_)
  refine Sg.ite ?_ ?_
  · refine Sg.bv (gb_X12_wrong Fg.rf) ha6 rfl (fun a18 ha18 => ?_)
    exact gb_X12_readsPart_21_f2 _ ⟨by omega, by omega⟩ ha18
  · exact gb_X12_readsPart_21_f2 _ ⟨by omega, by omega⟩ ha6
theorem gb_X12_readsShape_137_f2_f4 {a0 : IH} {N : Nat} {k109 : IH → Int → Int → Int → Int → Int → Option IH} {ah : IH} {x2 : Int} {x3 : Int} {v4 : Int} {v6 : Int} {s0 : Int} {s1 : Int} (hk109 : ∀ {z0 : IH} {z1 : Int} {z2 : Int} {z3 : Int} {z4 : Int} {z5 : Int}, 115 ≤ z1 ∧ z1 < 155 → 157 ≤ z2 ∧ z2 < 197 → Fg rgM lf_X12_readsShape a0 z0 → Sg gpV rgM lf_X12_readsShape a0 (k109 z0 z1 z2 z3 z4 z5)) (hx2 : 115 ≤ x2 ∧ x2 < 155) (hx3 : 157 ≤ x3 ∧ x3 < 197) (hah : Fg rgM lf_X12_readsShape a0 ah) : Sg gpV rgM lf_X12_readsShape a0 (G_X12_readsShape_137 N k109 ah x2 x3 v4 v6 s0 s1) := by
  unfold G_X12_readsShape_137
  refine Sg.let_v (fun v5_138 => ?_)
  refine Sg.let_v (fun v6_140 => ?_)
  exact hk109 ⟨by omega, by omega⟩ ⟨by omega, by omega⟩ hah
theorem gb_X12_readsShape_188_f4 {a0 : IH} {N : Nat} {ah : IH} {y0 : Int} {s1 : Int} {s2 : Int} (hy0 : 157 ≤ y0 ∧ y0 < 197) (hah : Fg rgM lf_X12_readsShape a0 ah) : Sg gpV rgM lf_X12_readsShape a0 (G_X12_readsShape_188 N ah y0 s1 s2) := by
  unfold G_X12_readsShape_188
  refine Sg.g (fun _ => ?_)
  refine Sg.let_xu hah (by rw [rgM_4 (by omega) (by omega)]; rfl) (fun a188 ha188 => ?_)
  refine Sg.bv (gb_X12_closes Fg.rf) ha188 rfl (fun a190 ha190 => ?_)
  exact Sg.ret ha190
theorem gb_X12_readsShape_187_f4 {a0 : IH} {N : Nat} {ah : IH} {y0 : Int} {s1 : Int} (hy0 : 157 ≤ y0 ∧ y0 < 197) (hah : Fg rgM lf_X12_readsShape a0 ah) : Sg gpV rgM lf_X12_readsShape a0 (G_X12_readsShape_187 N ah y0 s1) := by
  unfold G_X12_readsShape_187
  exact gb_X12_readsShape_188_f4 ⟨by omega, by omega⟩ hah
theorem gb_X12_readsShape_158_f4 {a0 : IH} {N : Nat} {ah : IH} {x3 : Int} (hx3 : 157 ≤ x3 ∧ x3 < 197) (hah : Fg rgM lf_X12_readsShape a0 ah) : Sg gpV rgM lf_X12_readsShape a0 (G_X12_readsShape_158 N ah x3) := by
  unfold G_X12_readsShape_158
  refine Sg.b (gb_X12_fine Fg.rf) hah rfl (fun r161 a161 ha161 => ?_)
  refine Sg.ite ?_ ?_
  · exact gb_X12_readsShape_187_f4 ⟨by omega, by omega⟩ ha161
  · refine Sg.b (gb_X12_blanks Fg.rf) ha161 rfl (fun r168 a168 ha168 => ?_)
    refine Sg.b (gb_X12_isDigit Fg.rf) ha168 rfl (fun r171 a171 ha171 => ?_)
    refine Sg.ite ?_ ?_
    · exact gb_X12_readsShape_187_f4 ⟨by omega, by omega⟩ ha171
    · refine Sg.b (gb_X12_number Fg.rf) ha171 rfl (fun r181 a181 ha181 => ?_)
      exact gb_X12_readsShape_188_f4 ⟨by omega, by omega⟩ ha181
theorem gb_X12_readsShape_109_f2_f4 {a0 : IH} {N : Nat}  : ∀ (n : Nat) {ah : IH} {x2 : Int} {x3 : Int} {v4 : Int} {v5 : Int} {v6 : Int} (hx2 : 115 ≤ x2 ∧ x2 < 155) (hx3 : 157 ≤ x3 ∧ x3 < 197) (hah : Fg rgM lf_X12_readsShape a0 ah), Sg gpV rgM lf_X12_readsShape a0 (G_X12_readsShape_109 N n ah x2 x3 v4 v5 v6) := by
  intro n
  induction n with
  | zero => intros; exact Sg.none
  | succ n ih =>
    intro ah x2 x3 v4 v5 v6 hx2 hx3 hah
    unfold G_X12_readsShape_109
    refine Sg.ite ?_ ?_
    · refine Sg.ite ?_ ?_
      · exact gb_X12_readsShape_158_f4 ⟨by omega, by omega⟩ hah
      · refine Sg.bv (gb_X12_wrong Fg.rf) hah rfl (fun a155 ha155 => ?_)
        exact gb_X12_readsShape_158_f4 ⟨by omega, by omega⟩ ha155
    · refine Sg.g (fun _ => ?_)
      refine Sg.g (fun _ => ?_)
      refine Sg.ite ?_ ?_
      · exact gb_X12_readsShape_137_f2_f4 (fun x0 x1 h => ih x0 x1 h) ⟨by omega, by omega⟩ ⟨by omega, by omega⟩ hah
      · exact gb_X12_readsShape_137_f2_f4 (fun x0 x1 h => ih x0 x1 h) ⟨by omega, by omega⟩ ⟨by omega, by omega⟩ hah
theorem gb_X12_readsShape_104_f2_f4 {a0 : IH} {N : Nat} {ah : IH} {x2 : Int} {x3 : Int} {v4 : Int} {s0 : Int} (hx2 : 115 ≤ x2 ∧ x2 < 155) (hx3 : 157 ≤ x3 ∧ x3 < 197) (hah : Fg rgM lf_X12_readsShape a0 ah) : Sg gpV rgM lf_X12_readsShape a0 (G_X12_readsShape_104 N ah x2 x3 v4 s0) := by
  unfold G_X12_readsShape_104
  refine Sg.let_v (fun v5_104 => ?_)
  refine Sg.let_v (fun v6_107 => ?_)
  exact gb_X12_readsShape_109_f2_f4 _ ⟨by omega, by omega⟩ ⟨by omega, by omega⟩ hah
theorem gb_X12_readsShape_52_f2_f4 {a0 : IH} {N : Nat} {ah : IH} {x2 : Int} {x3 : Int} (hx2 : 115 ≤ x2 ∧ x2 < 155) (hx3 : 157 ≤ x3 ∧ x3 < 197) (hah : Fg rgM lf_X12_readsShape a0 ah) : Sg gpV rgM lf_X12_readsShape a0 (G_X12_readsShape_52 N ah x2 x3) := by
  unfold G_X12_readsShape_52
  refine Sg.let_xu hah rfl (fun a59 ha59 => ?_)
  refine Sg.b (gb_X12_fine Fg.rf) ha59 rfl (fun r63 a63 ha63 => ?_)
  refine Sg.ite ?_ ?_
  · exact Sg.ret ha63
  · refine Sg.b (gb_X12_blanks Fg.rf) ha63 rfl (fun r71 a71 ha71 => ?_)
    refine Sg.let_v (fun v4_79 => ?_)
    refine Sg.b (gb_X12_readsPart_f2 ⟨by omega, by omega⟩ Fg.rf) ha71 rfl (fun r86 a86 ha86 => ?_)
    refine Sg.let_xu ha86 (by rw [rgM_4 (by omega) (by omega)]; rfl) (fun a89 ha89 => ?_)
    refine Sg.ite ?_ ?_
    · exact gb_X12_readsShape_104_f2_f4 ⟨by omega, by omega⟩ ⟨by omega, by omega⟩ ha89
    · exact gb_X12_readsShape_104_f2_f4 ⟨by omega, by omega⟩ ⟨by omega, by omega⟩ ha89
theorem gb_X12_readsShape {a0 : IH} {N : Nat} {ah : IH} {p1 : Int}  (hah : Fg rgM lf_X12_readsShape a0 ah) : Sg gpV rgM lf_X12_readsShape a0 (G_X12_readsShape N ah p1) := by
  unfold G_X12_readsShape
  refine Sg.g (fun _ => ?_)
  refine Sg.let_c ?_
  refine Sg.g (fun _ => ?_)
  refine Sg.let_c ?_
  refine Sg.b (gb_X12_readsPart_f2 ⟨by omega, by omega⟩ Fg.rf) hah rfl (fun r23 a23 ha23 => ?_)
  refine Sg.let_xu ha23 (by rw [rgM_4 (by omega) (by omega)]; rfl) (fun a26 ha26 => ?_)
  refine Sg.b (gb_X12_fine Fg.rf) ha26 rfl (fun r28 a28 ha28 => ?_)
  refine Sg.ite ?_ ?_
  · exact gb_X12_readsShape_52_f2_f4 ⟨by omega, by omega⟩ ⟨by omega, by omega⟩ ha28
  · refine Sg.b (gb_X12_here Fg.rf) ha28 rfl (fun r35 a35 ha35 => ?_)
    refine Sg.ite ?_ ?_
    · exact gb_X12_readsShape_52_f2_f4 ⟨by omega, by omega⟩ ⟨by omega, by omega⟩ ha35
    · refine Sg.bv (gb_X12_wrong Fg.rf) ha35 rfl (fun a49 ha49 => ?_)
      exact gb_X12_readsShape_52_f2_f4 ⟨by omega, by omega⟩ ⟨by omega, by omega⟩ ha49
theorem gb_X12_shapes_208 {a0 : IH} {N : Nat} {k162 : IH → Int → Option (Int × IH)} (hk162 : ∀ {z0 : IH} {z1 : Int}, Fg rgM lf_X12_shapes a0 z0 → Sg gpI rgM lf_X12_shapes a0 (k162 z0 z1)) : ∀ (n : Nat) {ah : IH} {v2 : Int} {v3 : Int}  (hah : Fg rgM lf_X12_shapes a0 ah), Sg gpI rgM lf_X12_shapes a0 (G_X12_shapes_208 N k162 n ah v2 v3) := by
  intro n
  induction n with
  | zero => intros; exact Sg.none
  | succ n ih =>
    intro ah v2 v3  hah
    unfold G_X12_shapes_208
    refine Sg.ite ?_ ?_
    · refine Sg.let_v (fun v2_239 => ?_)
      exact hk162 hah
    · refine Sg.g (fun _ => ?_)
      refine Sg.let_c ?_
      refine Sg.g (fun _ => ?_)
      refine Sg.let_c ?_
      refine Sg.g (fun _ => ?_)
      refine Sg.g (fun _ => ?_)
      refine Sg.let_xu hah (by rw [rgM_4 (by omega) (by omega)]; rfl) (fun a232 ha232 => ?_)
      refine Sg.let_v (fun v3_233 => ?_)
      exact ih ha232
theorem gb_X12_shapes_174 {a0 : IH} {N : Nat} {k162 : IH → Int → Option (Int × IH)} (hk162 : ∀ {z0 : IH} {z1 : Int}, Fg rgM lf_X12_shapes a0 z0 → Sg gpI rgM lf_X12_shapes a0 (k162 z0 z1)) : ∀ (n : Nat) {ah : IH} {v2 : Int} {v3 : Int}  (hah : Fg rgM lf_X12_shapes a0 ah), Sg gpI rgM lf_X12_shapes a0 (G_X12_shapes_174 N k162 n ah v2 v3) := by
  intro n
  induction n with
  | zero => intros; exact Sg.none
  | succ n ih =>
    intro ah v2 v3  hah
    unfold G_X12_shapes_174
    refine Sg.ite ?_ ?_
    · refine Sg.let_v (fun v3_207 => ?_)
      exact gb_X12_shapes_208 hk162 _ hah
    · refine Sg.g (fun _ => ?_)
      refine Sg.let_c ?_
      refine Sg.g (fun _ => ?_)
      refine Sg.let_c ?_
      refine Sg.g (fun _ => ?_)
      refine Sg.g (fun _ => ?_)
      refine Sg.let_xu hah (by rw [rgM_2 (by omega) (by omega)]; rfl) (fun a199 ha199 => ?_)
      refine Sg.let_v (fun v3_200 => ?_)
      exact ih ha199
theorem gb_X12_shapes_162 {a0 : IH} {N : Nat}  : ∀ (n : Nat) {ah : IH} {v2 : Int}  (hah : Fg rgM lf_X12_shapes a0 ah), Sg gpI rgM lf_X12_shapes a0 (G_X12_shapes_162 N n ah v2) := by
  intro n
  induction n with
  | zero => intros; exact Sg.none
  | succ n ih =>
    intro ah v2  hah
    unfold G_X12_shapes_162
    refine Sg.ite ?_ ?_
    · refine Sg.b (gb_X12_ends Fg.rf) hah rfl (fun r252 a252 ha252 => ?_)
      exact Sg.ret ha252
    · refine Sg.let_v (fun v3_173 => ?_)
      exact gb_X12_shapes_174 (fun h => ih h) _ hah
theorem gb_X12_shapes_135 {a0 : IH} {N : Nat} {ah : IH}  (hah : Fg rgM lf_X12_shapes a0 ah) : Sg gpI rgM lf_X12_shapes a0 (G_X12_shapes_135 N ah) := by
  unfold G_X12_shapes_135
  refine Sg.b (gb_X12_fine Fg.rf) hah rfl (fun r136 a136 ha136 => ?_)
  refine Sg.ite ?_ ?_
  · refine Sg.b (gb_X12_ends Fg.rf) ha136 rfl (fun r144 a144 ha144 => ?_)
    exact Sg.ret ha144
  · refine Sg.let_xu ha136 rfl (fun a159 ha159 => ?_)
    refine Sg.let_v (fun v2_161 => ?_)
    exact gb_X12_shapes_162 _ ha159
theorem gb_X12_shapes_102 {a0 : IH} {N : Nat} {k45 : IH → Option (Int × IH)} {ah : IH} (hk45 : ∀ {z0 : IH}, Fg rgM lf_X12_shapes a0 z0 → Sg gpI rgM lf_X12_shapes a0 (k45 z0)) (hah : Fg rgM lf_X12_shapes a0 ah) : Sg gpI rgM lf_X12_shapes a0 (G_X12_shapes_102 N k45 ah) := by
  unfold G_X12_shapes_102
  refine Sg.b (gb_X12_fine Fg.rf) hah rfl (fun r103 a103 ha103 => ?_)
  refine Sg.ite ?_ ?_
  · exact gb_X12_shapes_135 ha103
  · refine Sg.bv (gb_X12_readsShape Fg.rf) ha103 rfl (fun a119 ha119 => ?_)
    refine Sg.let_xu ha119 rfl (fun a131 ha131 => ?_)
    exact hk45 ha131
theorem gb_X12_shapes_45 {a0 : IH} {N : Nat}  : ∀ (n : Nat) {ah : IH}  (hah : Fg rgM lf_X12_shapes a0 ah), Sg gpI rgM lf_X12_shapes a0 (G_X12_shapes_45 N n ah) := by
  intro n
  induction n with
  | zero => intros; exact Sg.none
  | succ n ih =>
    intro ah  hah
    unfold G_X12_shapes_45
    refine Sg.b (gb_X12_fine Fg.rf) hah rfl (fun r46 a46 ha46 => ?_)
    refine Sg.ite ?_ ?_
    · exact gb_X12_shapes_135 ha46
    · refine Sg.b (gb_X12_blanks Fg.rf) ha46 rfl (fun r53 a53 ha53 => ?_)
      refine Sg.ite ?_ ?_
      · exact gb_X12_shapes_135 ha53
      · refine Sg.b (gb_X12_here Fg.rf) ha53 rfl (fun r61 a61 ha61 => ?_)
        refine Sg.b (gb_X12_isSmall Fg.rf) ha61 rfl (fun r64 a64 ha64 => ?_)
        refine Sg.ite ?_ ?_
        · refine Sg.bv (gb_X12_wrong Fg.rf) ha64 rfl (fun a76 ha76 => ?_)
          exact gb_X12_shapes_102 (fun h => ih h) ha76
        · refine Sg.ite ?_ ?_
          · refine Sg.bv (gb_X12_wrong Fg.rf) ha64 rfl (fun a99 ha99 => ?_)
            exact gb_X12_shapes_102 (fun h => ih h) ha99
          · exact gb_X12_shapes_102 (fun h => ih h) ha64
theorem gb_X12_shapes_23 {a0 : IH} {N : Nat} {ah : IH} {v1 : Int} {s1 : Int}  (hah : Fg rgM lf_X12_shapes a0 ah) : Sg gpI rgM lf_X12_shapes a0 (G_X12_shapes_23 N ah v1 s1) := by
  unfold G_X12_shapes_23
  refine Sg.b (gb_X12_bad Fg.rf) hah rfl (fun r25 a25 ha25 => ?_)
  refine Sg.ite ?_ ?_
  · refine Sg.bv (gb_X12_starts Fg.rf) ha25 rfl (fun a35 ha35 => ?_)
    refine Sg.let_xu ha35 rfl (fun a44 ha44 => ?_)
    exact gb_X12_shapes_45 _ ha44
  · exact Sg.ret ha25
theorem gb_X12_shapes {a0 : IH} {N : Nat} {ah : IH} {p1 : Int}  (hah : Fg rgM lf_X12_shapes a0 ah) : Sg gpI rgM lf_X12_shapes a0 (G_X12_shapes N ah p1) := by
  unfold G_X12_shapes
  refine Sg.let_xu hah rfl (fun a2 ha2 => ?_)
  refine Sg.b (gb_X12_in Fg.rf) ha2 rfl (fun r12 a12 ha12 => ?_)
  refine Sg.ite ?_ ?_
  · exact gb_X12_shapes_23 ha12
  · exact gb_X12_shapes_23 ha12
theorem gb_X12_isCell_19 {a0 : IH} {N : Nat} {ah : IH}  (hah : Fg rgM lf_X12_isCell a0 ah) : Sg gpI rgM lf_X12_isCell a0 (G_X12_isCell_19 N ah) := by
  unfold G_X12_isCell_19
  exact Sg.ret hah
theorem gb_X12_isCell {a0 : IH} {N : Nat} {ah : IH} {p0 : Int}  (hah : Fg rgM lf_X12_isCell a0 ah) : Sg gpI rgM lf_X12_isCell a0 (G_X12_isCell N ah p0) := by
  unfold G_X12_isCell
  refine Sg.b (gb_X12_isSmall Fg.rf) hah rfl (fun r1 a1 ha1 => ?_)
  refine Sg.ite ?_ ?_
  · refine Sg.ite ?_ ?_
    · exact gb_X12_isCell_19 ha1
    · refine Sg.ite ?_ ?_
      · exact gb_X12_isCell_19 ha1
      · exact Sg.ret ha1
  · exact gb_X12_isCell_19 ha1
theorem gb_X12_readsCell_92_f10 {a0 : IH} {N : Nat} {ah : IH} {x1 : Int} (hx1 : 285 ≤ x1 ∧ x1 < 2205) (hah : Fg rgM lf_X12_readsCell_f10 a0 ah) : Sg gpV rgM lf_X12_readsCell_f10 a0 (G_X12_readsCell_92 N ah x1) := by
  unfold G_X12_readsCell_92
  refine Sg.let_xu hah (by rw [rgM_10 (by omega) (by omega)]; rfl) (fun a96 ha96 => ?_)
  refine Sg.let_xu ha96 rfl (fun a106 ha106 => ?_)
  refine Sg.let_xu ha106 rfl (fun a114 ha114 => ?_)
  exact Sg.ret ha114
theorem gb_X12_readsCell_44_f10 {a0 : IH} {N : Nat} {ah : IH} {x1 : Int} (hx1 : 285 ≤ x1 ∧ x1 < 2205) (hah : Fg rgM lf_X12_readsCell_f10 a0 ah) : Sg gpV rgM lf_X12_readsCell_f10 a0 (G_X12_readsCell_44 N ah x1) := by
  unfold G_X12_readsCell_44
  refine Sg.ite ?_ ?_
  · refine Sg.b (gb_X12_here Fg.rf) hah rfl (fun r53 a53 ha53 => ?_)
    refine Sg.ite ?_ ?_
    · refine Sg.b (gb_X12_byteAt Fg.rf) ha53 rfl (fun r68 a68 ha68 => ?_)
      refine Sg.b (gb_X12_isSmall Fg.rf) ha68 rfl (fun r71 a71 ha71 => ?_)
      refine Sg.ite ?_ ?_
      · refine Sg.b (gb_X12_byteAt Fg.rf) ha71 rfl (fun r84 a84 ha84 => ?_)
        refine Sg.ite ?_ ?_
        · exact gb_X12_readsCell_92_f10 ⟨by omega, by omega⟩ ha84
        · exact Sg.ret ha84
      · exact gb_X12_readsCell_92_f10 ⟨by omega, by omega⟩ ha71
    · exact Sg.ret ha53
  · exact Sg.ret hah
theorem gb_X12_readsOthers_150 {a0 : IH} {N : Nat} {ah : IH}  (hah : Fg rgM lf_X12_readsOthers_f10 a0 ah) : Sg gpV rgM lf_X12_readsOthers_f10 a0 (G_X12_readsOthers_150 N ah) := by
  unfold G_X12_readsOthers_150
  refine Sg.let_xu hah rfl (fun a157 ha157 => ?_)
  exact Sg.ret ha157
theorem gb_X12_readsOthers_93_f10 {a0 : IH} {N : Nat} {k10 : IH → Int → Option IH} {ah : IH} {x1 : Int} (hk10 : ∀ {z0 : IH} {z1 : Int}, 285 ≤ z1 ∧ z1 < 2205 → Fg rgM lf_X12_readsOthers_f10 a0 z0 → Sg gpV rgM lf_X12_readsOthers_f10 a0 (k10 z0 z1)) (hx1 : 285 ≤ x1 ∧ x1 < 2205) (hah : Fg rgM lf_X12_readsOthers_f10 a0 ah) : Sg gpV rgM lf_X12_readsOthers_f10 a0 (G_X12_readsOthers_93 N k10 ah x1) := by
  unfold G_X12_readsOthers_93
  refine Sg.b (gb_X12_fine Fg.rf) hah rfl (fun r94 a94 ha94 => ?_)
  refine Sg.ite ?_ ?_
  · exact Sg.ret ha94
  · refine Sg.b (gb_X12_here Fg.rf) ha94 rfl (fun r110 a110 ha110 => ?_)
    refine Sg.g (fun _ => ?_)
    refine Sg.let_xu ha110 (by rw [rgM_10 (by omega) (by omega)]; rfl) (fun a113 ha113 => ?_)
    refine Sg.let_xu ha113 rfl (fun a121 ha121 => ?_)
    refine Sg.b (gb_X12_number Fg.rf) ha121 rfl (fun r136 a136 ha136 => ?_)
    refine Sg.g (fun _ => ?_)
    refine Sg.let_xu ha136 (by rw [rgM_10 (by omega) (by omega)]; rfl) (fun a139 ha139 => ?_)
    refine Sg.let_xu ha139 (by rw [rgM_10 (by omega) (by omega)]; rfl) (fun a146 ha146 => ?_)
    exact hk10 ⟨by omega, by omega⟩ ha146
theorem gb_X12_readsOthers_55_f10 {a0 : IH} {N : Nat} {k10 : IH → Int → Option IH} {ah : IH} {x1 : Int} (hk10 : ∀ {z0 : IH} {z1 : Int}, 285 ≤ z1 ∧ z1 < 2205 → Fg rgM lf_X12_readsOthers_f10 a0 z0 → Sg gpV rgM lf_X12_readsOthers_f10 a0 (k10 z0 z1)) (hx1 : 285 ≤ x1 ∧ x1 < 2205) (hah : Fg rgM lf_X12_readsOthers_f10 a0 ah) : Sg gpV rgM lf_X12_readsOthers_f10 a0 (G_X12_readsOthers_55 N k10 ah x1) := by
  unfold G_X12_readsOthers_55
  refine Sg.b (gb_X12_here Fg.rf) hah rfl (fun r56 a56 ha56 => ?_)
  refine Sg.b (gb_X12_isSmall Fg.rf) ha56 rfl (fun r59 a59 ha59 => ?_)
  refine Sg.ite ?_ ?_
  · refine Sg.bv (gb_X12_wrong Fg.rf) ha59 rfl (fun a71 ha71 => ?_)
    exact gb_X12_readsOthers_93_f10 hk10 ⟨by omega, by omega⟩ ha71
  · refine Sg.ite ?_ ?_
    · refine Sg.bv (gb_X12_wrong Fg.rf) ha59 rfl (fun a90 ha90 => ?_)
      exact gb_X12_readsOthers_93_f10 hk10 ⟨by omega, by omega⟩ ha90
    · exact gb_X12_readsOthers_93_f10 hk10 ⟨by omega, by omega⟩ ha59
theorem gb_X12_readsOthers_50_f10 {a0 : IH} {N : Nat} {k10 : IH → Int → Option IH} {ah : IH} {x1 : Int} (hk10 : ∀ {z0 : IH} {z1 : Int}, 285 ≤ z1 ∧ z1 < 2205 → Fg rgM lf_X12_readsOthers_f10 a0 z0 → Sg gpV rgM lf_X12_readsOthers_f10 a0 (k10 z0 z1)) (hx1 : 285 ≤ x1 ∧ x1 < 2205) (hah : Fg rgM lf_X12_readsOthers_f10 a0 ah) : Sg gpV rgM lf_X12_readsOthers_f10 a0 (G_X12_readsOthers_50 N k10 ah x1) := by
  unfold G_X12_readsOthers_50
  refine Sg.b (gb_X12_blanks Fg.rf) hah rfl (fun r51 a51 ha51 => ?_)
  exact gb_X12_readsOthers_55_f10 hk10 ⟨by omega, by omega⟩ ha51
theorem gb_X12_readsOthers_10_f10 {a0 : IH} {N : Nat}  : ∀ (n : Nat) {ah : IH} {x1 : Int} (hx1 : 285 ≤ x1 ∧ x1 < 2205) (hah : Fg rgM lf_X12_readsOthers_f10 a0 ah), Sg gpV rgM lf_X12_readsOthers_f10 a0 (G_X12_readsOthers_10 N n ah x1) := by
  intro n
  induction n with
  | zero => intros; exact Sg.none
  | succ n ih =>
    intro ah x1 hx1 hah
    unfold G_X12_readsOthers_10
    refine Sg.b (gb_X12_fine Fg.rf) hah rfl (fun r11 a11 ha11 => ?_)
    refine Sg.ite ?_ ?_
    · exact gb_X12_readsOthers_150 ha11
    · refine Sg.b (gb_X12_here Fg.rf) ha11 rfl (fun r18 a18 ha18 => ?_)
      refine Sg.ite ?_ ?_
      · exact gb_X12_readsOthers_150 ha18
      · refine Sg.ite ?_ ?_
        · exact gb_X12_readsOthers_55_f10 (fun x0 h => ih x0 h) ⟨by omega, by omega⟩ ha18
        · refine Sg.b (gb_X12_here Fg.rf) ha18 rfl (fun r33 a33 ha33 => ?_)
          refine Sg.ite ?_ ?_
          · exact gb_X12_readsOthers_50_f10 (fun x0 h => ih x0 h) ⟨by omega, by omega⟩ ha33
          · refine Sg.bv (gb_X12_wrong Fg.rf) ha33 rfl (fun a47 ha47 => ?_)
            exact gb_X12_readsOthers_50_f10 (fun x0 h => ih x0 h) ⟨by omega, by omega⟩ ha47
theorem gb_X12_readsOthers_f10 {a0 : IH} {N : Nat} {ah : IH} {x1 : Int} (hx1 : 285 ≤ x1 ∧ x1 < 2205) (hah : Fg rgM lf_X12_readsOthers_f10 a0 ah) : Sg gpV rgM lf_X12_readsOthers_f10 a0 (G_X12_readsOthers N ah x1) := by
  unfold G_X12_readsOthers
  refine Sg.let_xu hah rfl (fun a7 ha7 => ?_)
  exact gb_X12_readsOthers_10_f10 _ ⟨by omega, by omega⟩ ha7
theorem gb_X12_readsCell_f10 {a0 : IH} {N : Nat} {ah : IH} {x1 : Int} (hx1 : 285 ≤ x1 ∧ x1 < 2205) (hah : Fg rgM lf_X12_readsCell_f10 a0 ah) : Sg gpV rgM lf_X12_readsCell_f10 a0 (G_X12_readsCell N ah x1) := by
  unfold G_X12_readsCell
  refine Sg.b (gb_X12_here Fg.rf) hah rfl (fun r3 a3 ha3 => ?_)
  refine Sg.let_xu ha3 (by rw [rgM_10 (by omega) (by omega)]; rfl) (fun a6 ha6 => ?_)
  refine Sg.let_xu ha6 (by rw [rgM_10 (by omega) (by omega)]; rfl) (fun a10 ha10 => ?_)
  refine Sg.let_xu ha10 rfl (fun a18 ha18 => ?_)
  refine Sg.b (gb_X12_isSmall Fg.rf) ha18 rfl (fun r24 a24 ha24 => ?_)
  refine Sg.ite ?_ ?_
  · exact gb_X12_readsCell_44_f10 ⟨by omega, by omega⟩ ha24
  · refine Sg.b (gb_X12_here Fg.rf) ha24 rfl (fun r31 a31 ha31 => ?_)
    refine Sg.ite ?_ ?_
    · refine Sg.bv (gb_X12_readsOthers_f10 ⟨by omega, by omega⟩ Fg.rf) ha31 rfl (fun a41 ha41 => ?_)
      exact gb_X12_readsCell_44_f10 ⟨by omega, by omega⟩ ha41
    · exact gb_X12_readsCell_44_f10 ⟨by omega, by omega⟩ ha31
theorem gb_X12_readsToken_48 {a0 : IH} {N : Nat} {k16 : IH → Int → Int → Option IH} {ah : IH} {v1 : Int} {v2 : Int} (hk16 : ∀ {z0 : IH} {z1 : Int} {z2 : Int}, Fg rgM lf_X12_readsToken a0 z0 → Sg gpV rgM lf_X12_readsToken a0 (k16 z0 z1 z2)) (hah : Fg rgM lf_X12_readsToken a0 ah) : Sg gpV rgM lf_X12_readsToken a0 (G_X12_readsToken_48 N k16 ah v1 v2) := by
  unfold G_X12_readsToken_48
  refine Sg.b (gb_X12_fine Fg.rf) hah rfl (fun r49 a49 ha49 => ?_)
  refine Sg.ite ?_ ?_
  · exact Sg.ret ha49
  · refine Sg.g (fun _ => ?_)
    refine Sg.g (fun _ => ?_)
    refine Sg.let_c ?_
    refine Sg.bv (gb_X12_readsCell_f10 ⟨by omega, by omega⟩ Fg.rf) ha49 rfl (fun a67 ha67 => ?_)
    refine Sg.let_v (fun v2_70 => ?_)
    exact hk16 ha67
theorem gb_X12_readsToken_76 {a0 : IH} {N : Nat} {ah : IH} {v1 : Int} {v2 : Int}  (hah : Fg rgM lf_X12_readsToken a0 ah) : Sg gpV rgM lf_X12_readsToken a0 (G_X12_readsToken_76 N ah v1 v2) := by
  unfold G_X12_readsToken_76
  refine Sg.let_c ?_
  refine Sg.g (fun _ => ?_)
  refine Sg.let_xu hah (by rw [rgM_5 (by omega) (by omega)]; rfl) (fun a84 ha84 => ?_)
  exact Sg.ret ha84
theorem gb_X12_readsToken_16 {a0 : IH} {N : Nat}  : ∀ (n : Nat) {ah : IH} {v1 : Int} {v2 : Int}  (hah : Fg rgM lf_X12_readsToken a0 ah), Sg gpV rgM lf_X12_readsToken a0 (G_X12_readsToken_16 N n ah v1 v2) := by
  intro n
  induction n with
  | zero => intros; exact Sg.none
  | succ n ih =>
    intro ah v1 v2  hah
    unfold G_X12_readsToken_16
    refine Sg.b (gb_X12_fine Fg.rf) hah rfl (fun r17 a17 ha17 => ?_)
    refine Sg.ite ?_ ?_
    · exact gb_X12_readsToken_76 ha17
    · refine Sg.b (gb_X12_here Fg.rf) ha17 rfl (fun r24 a24 ha24 => ?_)
      refine Sg.b (gb_X12_isCell Fg.rf) ha24 rfl (fun r27 a27 ha27 => ?_)
      refine Sg.ite ?_ ?_
      · exact gb_X12_readsToken_76 ha27
      · refine Sg.ite ?_ ?_
        · refine Sg.bv (gb_X12_wrong Fg.rf) ha27 rfl (fun a45 ha45 => ?_)
          exact gb_X12_readsToken_48 (fun h => ih h) ha45
        · exact gb_X12_readsToken_48 (fun h => ih h) ha27
theorem gb_X12_readsToken {a0 : IH} {N : Nat} {ah : IH} {p1 : Int}  (hah : Fg rgM lf_X12_readsToken a0 ah) : Sg gpV rgM lf_X12_readsToken a0 (G_X12_readsToken N ah p1) := by
  unfold G_X12_readsToken
  refine Sg.let_c ?_
  refine Sg.g (fun _ => ?_)
  refine Sg.let_xu hah (by rw [rgM_6 (by omega) (by omega)]; rfl) (fun a13 ha13 => ?_)
  refine Sg.let_v (fun v2_15 => ?_)
  exact gb_X12_readsToken_16 _ ha13
theorem gb_X12_standsBetween_54 {a0 : IH} {N : Nat} {k4 : IH → Int → Int → Option (Int × IH)} {ah : IH} {v1 : Int} {s0 : Int} {s1 : Int} (hk4 : ∀ {z0 : IH} {z1 : Int} {z2 : Int}, Fg rgM lf_X12_standsBetween a0 z0 → Sg gpI rgM lf_X12_standsBetween a0 (k4 z0 z1 z2)) (hah : Fg rgM lf_X12_standsBetween a0 ah) : Sg gpI rgM lf_X12_standsBetween a0 (G_X12_standsBetween_54 N k4 ah v1 s0 s1) := by
  unfold G_X12_standsBetween_54
  refine Sg.let_v (fun v2_55 => ?_)
  refine Sg.let_xu hah rfl (fun a63 ha63 => ?_)
  exact hk4 ha63
theorem gb_X12_standsBetween_37 {a0 : IH} {N : Nat} {k4 : IH → Int → Int → Option (Int × IH)} {ah : IH} {v2 : Int} {s0 : Int} {s1 : Int} (hk4 : ∀ {z0 : IH} {z1 : Int} {z2 : Int}, Fg rgM lf_X12_standsBetween a0 z0 → Sg gpI rgM lf_X12_standsBetween a0 (k4 z0 z1 z2)) (hah : Fg rgM lf_X12_standsBetween a0 ah) : Sg gpI rgM lf_X12_standsBetween a0 (G_X12_standsBetween_37 N k4 ah v2 s0 s1) := by
  unfold G_X12_standsBetween_37
  refine Sg.let_v (fun v1_38 => ?_)
  refine Sg.b (gb_X12_here Fg.rf) hah rfl (fun r41 a41 ha41 => ?_)
  refine Sg.ite ?_ ?_
  · exact gb_X12_standsBetween_54 hk4 ha41
  · exact gb_X12_standsBetween_54 hk4 ha41
theorem gb_X12_standsBetween_22 {a0 : IH} {N : Nat} {k4 : IH → Int → Int → Option (Int × IH)} {ah : IH} {v1 : Int} {v2 : Int} (hk4 : ∀ {z0 : IH} {z1 : Int} {z2 : Int}, Fg rgM lf_X12_standsBetween a0 z0 → Sg gpI rgM lf_X12_standsBetween a0 (k4 z0 z1 z2)) (hah : Fg rgM lf_X12_standsBetween a0 ah) : Sg gpI rgM lf_X12_standsBetween a0 (G_X12_standsBetween_22 N k4 ah v1 v2) := by
  unfold G_X12_standsBetween_22
  refine Sg.b (gb_X12_here Fg.rf) hah rfl (fun r24 a24 ha24 => ?_)
  refine Sg.ite ?_ ?_
  · exact gb_X12_standsBetween_37 hk4 ha24
  · exact gb_X12_standsBetween_37 hk4 ha24
theorem gb_X12_standsBetween_4 {a0 : IH} {N : Nat}  : ∀ (n : Nat) {ah : IH} {v1 : Int} {v2 : Int}  (hah : Fg rgM lf_X12_standsBetween a0 ah), Sg gpI rgM lf_X12_standsBetween a0 (G_X12_standsBetween_4 N n ah v1 v2) := by
  intro n
  induction n with
  | zero => intros; exact Sg.none
  | succ n ih =>
    intro ah v1 v2  hah
    unfold G_X12_standsBetween_4
    refine Sg.b (gb_X12_here Fg.rf) hah rfl (fun r5 a5 ha5 => ?_)
    refine Sg.ite ?_ ?_
    · exact gb_X12_standsBetween_22 (fun h => ih h) ha5
    · refine Sg.b (gb_X12_here Fg.rf) ha5 rfl (fun r14 a14 ha14 => ?_)
      refine Sg.ite ?_ ?_
      · exact gb_X12_standsBetween_22 (fun h => ih h) ha14
      · refine Sg.let_xu ha14 rfl (fun a78 ha78 => ?_)
        refine Sg.ite ?_ ?_
        · exact Sg.ret ha78
        · refine Sg.ite ?_ ?_
          · refine Sg.ite ?_ ?_
            · exact Sg.ret ha78
            · exact Sg.ret ha78
          · exact Sg.ret ha78
theorem gb_X12_standsBetween {a0 : IH} {N : Nat} {ah : IH}  (hah : Fg rgM lf_X12_standsBetween a0 ah) : Sg gpI rgM lf_X12_standsBetween a0 (G_X12_standsBetween N ah) := by
  unfold G_X12_standsBetween
  refine Sg.let_v (fun v1_1 => ?_)
  refine Sg.let_v (fun v2_3 => ?_)
  exact gb_X12_standsBetween_4 _ hah
theorem gb_X12_reading_195 {a0 : IH} {N : Nat} {k57 : IH → Option (Int × IH)} {ah : IH} (hk57 : ∀ {z0 : IH}, Fg rgM lf_X12_reading a0 z0 → Sg gpI rgM lf_X12_reading a0 (k57 z0)) (hah : Fg rgM lf_X12_reading a0 ah) : Sg gpI rgM lf_X12_reading a0 (G_X12_reading_195 N k57 ah) := by
  unfold G_X12_reading_195
  refine Sg.let_xu hah rfl (fun a204 ha204 => ?_)
  exact hk57 ha204
theorem gb_X12_reading_163 {a0 : IH} {N : Nat} {k57 : IH → Option (Int × IH)} {ah : IH} {v2 : Int} (hk57 : ∀ {z0 : IH}, Fg rgM lf_X12_reading a0 z0 → Sg gpI rgM lf_X12_reading a0 (k57 z0)) (hah : Fg rgM lf_X12_reading a0 ah) : Sg gpI rgM lf_X12_reading a0 (G_X12_reading_163 N k57 ah v2) := by
  unfold G_X12_reading_163
  refine Sg.b (gb_X12_fine Fg.rf) hah rfl (fun r164 a164 ha164 => ?_)
  refine Sg.ite ?_ ?_
  · exact gb_X12_reading_195 hk57 ha164
  · refine Sg.b (gb_X12_here Fg.rf) ha164 rfl (fun r171 a171 ha171 => ?_)
    refine Sg.ite ?_ ?_
    · exact gb_X12_reading_195 hk57 ha171
    · refine Sg.ite ?_ ?_
      · refine Sg.bv (gb_X12_wrong Fg.rf) ha171 rfl (fun a192 ha192 => ?_)
        exact gb_X12_reading_195 hk57 ha192
      · exact gb_X12_reading_195 hk57 ha171
theorem gb_X12_reading_327 {a0 : IH} {N : Nat} {k252 : IH → Int → Option (Int × IH)} {k312 : IH → Int → Int → Option (Int × IH)} (hk252 : ∀ {z0 : IH} {z1 : Int}, Fg rgM lf_X12_reading a0 z0 → Sg gpI rgM lf_X12_reading a0 (k252 z0 z1)) (hk312 : ∀ {z0 : IH} {z1 : Int} {z2 : Int}, Fg rgM lf_X12_reading a0 z0 → Sg gpI rgM lf_X12_reading a0 (k312 z0 z1 z2)) : ∀ (n : Nat) {ah : IH} {v2 : Int} {v3 : Int} {v4 : Int}  (hah : Fg rgM lf_X12_reading a0 ah), Sg gpI rgM lf_X12_reading a0 (G_X12_reading_327 N k252 k312 n ah v2 v3 v4) := by
  intro n
  induction n with
  | zero => intros; exact Sg.none
  | succ n ih =>
    intro ah v2 v3 v4  hah
    unfold G_X12_reading_327
    refine Sg.ite ?_ ?_
    · refine Sg.let_v (fun v3_366 => ?_)
      exact hk312 hah
    · refine Sg.g (fun _ => ?_)
      refine Sg.g (fun _ => ?_)
      refine Sg.let_c ?_
      refine Sg.g (fun _ => ?_)
      refine Sg.g (fun _ => ?_)
      refine Sg.let_c ?_
      refine Sg.g (fun _ => ?_)
      refine Sg.g (fun _ => ?_)
      refine Sg.let_xu hah (by rw [rgM_10 (by omega) (by omega)]; rfl) (fun a359 ha359 => ?_)
      refine Sg.let_v (fun v4_360 => ?_)
      exact ih ha359
theorem gb_X12_reading_312 {a0 : IH} {N : Nat} {k252 : IH → Int → Option (Int × IH)} (hk252 : ∀ {z0 : IH} {z1 : Int}, Fg rgM lf_X12_reading a0 z0 → Sg gpI rgM lf_X12_reading a0 (k252 z0 z1)) : ∀ (n : Nat) {ah : IH} {v2 : Int} {v3 : Int}  (hah : Fg rgM lf_X12_reading a0 ah), Sg gpI rgM lf_X12_reading a0 (G_X12_reading_312 N k252 n ah v2 v3) := by
  intro n
  induction n with
  | zero => intros; exact Sg.none
  | succ n ih =>
    intro ah v2 v3  hah
    unfold G_X12_reading_312
    refine Sg.let_c ?_
    refine Sg.g (fun _ => ?_)
    refine Sg.ite ?_ ?_
    · refine Sg.let_v (fun v2_372 => ?_)
      exact hk252 hah
    · refine Sg.let_v (fun v4_325 => ?_)
      exact gb_X12_reading_327 hk252 (fun h => ih h) _ hah
theorem gb_X12_reading_252 {a0 : IH} {N : Nat}  : ∀ (n : Nat) {ah : IH} {v2 : Int}  (hah : Fg rgM lf_X12_reading a0 ah), Sg gpI rgM lf_X12_reading a0 (G_X12_reading_252 N n ah v2) := by
  intro n
  induction n with
  | zero => intros; exact Sg.none
  | succ n ih =>
    intro ah v2  hah
    unfold G_X12_reading_252
    refine Sg.ite ?_ ?_
    · refine Sg.b (gb_X12_ends Fg.rf) hah rfl (fun r385 a385 ha385 => ?_)
      exact Sg.ret ha385
    · refine Sg.let_c ?_
      refine Sg.let_c ?_
      refine Sg.g (fun _ => ?_)
      refine Sg.g (fun _ => ?_)
      refine Sg.let_xu hah (by rw [rgM_5 (by omega) (by omega)]; rfl) (fun a277 ha277 => ?_)
      refine Sg.let_c ?_
      refine Sg.let_c ?_
      refine Sg.g (fun _ => ?_)
      refine Sg.g (fun _ => ?_)
      refine Sg.let_xu ha277 (by rw [rgM_6 (by omega) (by omega)]; rfl) (fun a293 ha293 => ?_)
      refine Sg.let_c ?_
      refine Sg.let_c ?_
      refine Sg.g (fun _ => ?_)
      refine Sg.g (fun _ => ?_)
      refine Sg.let_xu ha293 (by rw [rgM_7 (by omega) (by omega)]; rfl) (fun a309 ha309 => ?_)
      refine Sg.let_v (fun v3_311 => ?_)
      exact gb_X12_reading_312 (fun h => ih h) _ ha309
theorem gb_X12_reading_208 {a0 : IH} {N : Nat} {ah : IH}  (hah : Fg rgM lf_X12_reading a0 ah) : Sg gpI rgM lf_X12_reading a0 (G_X12_reading_208 N ah) := by
  unfold G_X12_reading_208
  refine Sg.b (gb_X12_fine Fg.rf) hah rfl (fun r209 a209 ha209 => ?_)
  refine Sg.ite ?_ ?_
  · refine Sg.b (gb_X12_ends Fg.rf) ha209 rfl (fun r217 a217 ha217 => ?_)
    exact Sg.ret ha217
  · refine Sg.let_xu ha209 rfl (fun a223 ha223 => ?_)
    refine Sg.let_xu ha223 rfl (fun a237 ha237 => ?_)
    refine Sg.let_xu ha237 rfl (fun a249 ha249 => ?_)
    refine Sg.let_v (fun v2_251 => ?_)
    exact gb_X12_reading_252 _ ha249
theorem gb_X12_reading_114 {a0 : IH} {N : Nat} {k57 : IH → Option (Int × IH)} {ah : IH} (hk57 : ∀ {z0 : IH}, Fg rgM lf_X12_reading a0 z0 → Sg gpI rgM lf_X12_reading a0 (k57 z0)) (hah : Fg rgM lf_X12_reading a0 ah) : Sg gpI rgM lf_X12_reading a0 (G_X12_reading_114 N k57 ah) := by
  unfold G_X12_reading_114
  refine Sg.b (gb_X12_fine Fg.rf) hah rfl (fun r115 a115 ha115 => ?_)
  refine Sg.ite ?_ ?_
  · exact gb_X12_reading_208 ha115
  · refine Sg.bv (gb_X12_readsToken Fg.rf) ha115 rfl (fun a131 ha131 => ?_)
    refine Sg.let_v (fun v2_138 => ?_)
    refine Sg.b (gb_X12_fine Fg.rf) ha131 rfl (fun r140 a140 ha140 => ?_)
    refine Sg.ite ?_ ?_
    · exact gb_X12_reading_163 hk57 ha140
    · refine Sg.let_c ?_
      refine Sg.b (gb_X12_standsBetween Fg.rf) ha140 rfl (fun r159 a159 ha159 => ?_)
      refine Sg.g (fun _ => ?_)
      refine Sg.let_xu ha159 (by rw [rgM_7 (by omega) (by omega)]; rfl) (fun a162 ha162 => ?_)
      exact gb_X12_reading_163 hk57 ha162
theorem gb_X12_reading_57 {a0 : IH} {N : Nat}  : ∀ (n : Nat) {ah : IH}  (hah : Fg rgM lf_X12_reading a0 ah), Sg gpI rgM lf_X12_reading a0 (G_X12_reading_57 N n ah) := by
  intro n
  induction n with
  | zero => intros; exact Sg.none
  | succ n ih =>
    intro ah  hah
    unfold G_X12_reading_57
    refine Sg.b (gb_X12_fine Fg.rf) hah rfl (fun r58 a58 ha58 => ?_)
    refine Sg.ite ?_ ?_
    · exact gb_X12_reading_208 ha58
    · refine Sg.b (gb_X12_here Fg.rf) ha58 rfl (fun r65 a65 ha65 => ?_)
      refine Sg.ite ?_ ?_
      · exact gb_X12_reading_208 ha65
      · refine Sg.b (gb_X12_here Fg.rf) ha65 rfl (fun r73 a73 ha73 => ?_)
        refine Sg.b (gb_X12_isCell Fg.rf) ha73 rfl (fun r76 a76 ha76 => ?_)
        refine Sg.ite ?_ ?_
        · refine Sg.bv (gb_X12_wrong Fg.rf) ha76 rfl (fun a88 ha88 => ?_)
          exact gb_X12_reading_114 (fun h => ih h) ha88
        · refine Sg.ite ?_ ?_
          · refine Sg.bv (gb_X12_wrong Fg.rf) ha76 rfl (fun a111 ha111 => ?_)
            exact gb_X12_reading_114 (fun h => ih h) ha111
          · exact gb_X12_reading_114 (fun h => ih h) ha76
theorem gb_X12_reading_23 {a0 : IH} {N : Nat} {ah : IH} {v1 : Int} {s1 : Int}  (hah : Fg rgM lf_X12_reading a0 ah) : Sg gpI rgM lf_X12_reading a0 (G_X12_reading_23 N ah v1 s1) := by
  unfold G_X12_reading_23
  refine Sg.b (gb_X12_bad Fg.rf) hah rfl (fun r25 a25 ha25 => ?_)
  refine Sg.ite ?_ ?_
  · refine Sg.bv (gb_X12_starts Fg.rf) ha25 rfl (fun a35 ha35 => ?_)
    refine Sg.let_xu ha35 rfl (fun a44 ha44 => ?_)
    refine Sg.let_xu ha44 rfl (fun a51 ha51 => ?_)
    refine Sg.b (gb_X12_standsBetween Fg.rf) ha51 rfl (fun r53 a53 ha53 => ?_)
    exact gb_X12_reading_57 _ ha53
  · exact Sg.ret ha25
theorem gb_X12_reading {a0 : IH} {N : Nat} {ah : IH} {p1 : Int}  (hah : Fg rgM lf_X12_reading a0 ah) : Sg gpI rgM lf_X12_reading a0 (G_X12_reading N ah p1) := by
  unfold G_X12_reading
  refine Sg.let_xu hah rfl (fun a2 ha2 => ?_)
  refine Sg.b (gb_X12_in Fg.rf) ha2 rfl (fun r12 a12 ha12 => ?_)
  refine Sg.ite ?_ ?_
  · exact gb_X12_reading_23 ha12
  · exact gb_X12_reading_23 ha12
theorem gb_X12_fault {a0 : IH} {N : Nat} {ah : IH}  (hah : Fg rgM lf_X12_fault a0 ah) : Sg gpI rgM lf_X12_fault a0 (G_X12_fault N ah) := by
  unfold G_X12_fault
  refine Sg.let_xu hah rfl (fun a2 ha2 => ?_)
  exact Sg.ret ha2
theorem gb_X12_set_41 {a0 : IH} {N : Nat} {ah : IH} {v1 : Int} {v2 : Int} {s1 : Int}  (hah : Fg rgM lf_X12_set a0 ah) : Sg gpI rgM lf_X12_set a0 (G_X12_set_41 N ah v1 v2 s1) := by
  unfold G_X12_set_41
  refine Sg.b (gb_X12_bad Fg.rf) hah rfl (fun r43 a43 ha43 => ?_)
  refine Sg.ite ?_ ?_
  · refine Sg.g (fun _ => ?_)
    refine Sg.let_v (fun v3_57 => ?_)
    refine Sg.g (fun _ => ?_)
    refine Sg.let_xu ha43 rfl (fun a64 ha64 => ?_)
    exact Sg.ret ha64
  · exact Sg.ret ha43
theorem gb_X12_set_36 {a0 : IH} {N : Nat} {ah : IH} {v1 : Int} {v2 : Int}  (hah : Fg rgM lf_X12_set a0 ah) : Sg gpI rgM lf_X12_set a0 (G_X12_set_36 N ah v1 v2) := by
  unfold G_X12_set_36
  exact gb_X12_set_41 hah
theorem gb_X12_set_30 {a0 : IH} {N : Nat} {ah : IH} {v1 : Int} {v2 : Int} {s1 : Int} {s2 : Int} {s3 : Int}  (hah : Fg rgM lf_X12_set a0 ah) : Sg gpI rgM lf_X12_set a0 (G_X12_set_30 N ah v1 v2 s1 s2 s3) := by
  unfold G_X12_set_30
  refine Sg.b (gb_X12_in Fg.rf) hah rfl (fun r30 a30 ha30 => ?_)
  refine Sg.ite ?_ ?_
  · exact gb_X12_set_36 ha30
  · exact gb_X12_set_41 ha30
theorem gb_X12_set {a0 : IH} {N : Nat} {ah : IH} {p1 : Int} {p2 : Int}  (hah : Fg rgM lf_X12_set a0 ah) : Sg gpI rgM lf_X12_set a0 (G_X12_set N ah p1 p2) := by
  unfold G_X12_set
  refine Sg.let_xu hah rfl (fun a2 ha2 => ?_)
  refine Sg.b (gb_X12_in Fg.rf) ha2 rfl (fun r10 a10 ha10 => ?_)
  refine Sg.ite ?_ ?_
  · exact gb_X12_set_36 ha10
  · refine Sg.ite ?_ ?_
    · exact gb_X12_set_30 ha10
    · exact gb_X12_set_30 ha10
theorem gb_X12_weigh_43 {a0 : IH} {N : Nat} {ah : IH} {v1 : Int} {v2 : Int} {s1 : Int}  (hah : Fg rgM lf_X12_weigh a0 ah) : Sg gpI rgM lf_X12_weigh a0 (G_X12_weigh_43 N ah v1 v2 s1) := by
  unfold G_X12_weigh_43
  refine Sg.b (gb_X12_bad Fg.rf) hah rfl (fun r45 a45 ha45 => ?_)
  refine Sg.ite ?_ ?_
  · refine Sg.g (fun _ => ?_)
    refine Sg.let_v (fun v3_59 => ?_)
    refine Sg.g (fun _ => ?_)
    refine Sg.let_xu ha45 rfl (fun a66 ha66 => ?_)
    refine Sg.bv (gb_X12_weighs Fg.rf) ha66 rfl (fun a68 ha68 => ?_)
    exact Sg.ret ha68
  · exact Sg.ret ha45
theorem gb_X12_weigh_19 {a0 : IH} {N : Nat} {ah : IH} {v1 : Int} {v2 : Int} {s1 : Int}  (hah : Fg rgM lf_X12_weigh a0 ah) : Sg gpI rgM lf_X12_weigh a0 (G_X12_weigh_19 N ah v1 v2 s1) := by
  unfold G_X12_weigh_19
  refine Sg.b (gb_X12_bad Fg.rf) hah rfl (fun r21 a21 ha21 => ?_)
  refine Sg.ite ?_ ?_
  · refine Sg.b (gb_X12_in Fg.rf) ha21 rfl (fun r32 a32 ha32 => ?_)
    refine Sg.ite ?_ ?_
    · exact gb_X12_weigh_43 ha32
    · exact gb_X12_weigh_43 ha32
  · exact Sg.ret ha21
theorem gb_X12_weigh {a0 : IH} {N : Nat} {ah : IH} {p1 : Int} {p2 : Int}  (hah : Fg rgM lf_X12_weigh a0 ah) : Sg gpI rgM lf_X12_weigh a0 (G_X12_weigh N ah p1 p2) := by
  unfold G_X12_weigh
  refine Sg.let_xu hah rfl (fun a2 ha2 => ?_)
  refine Sg.b (gb_X12_isWord Fg.rf) ha2 rfl (fun r8 a8 ha8 => ?_)
  refine Sg.ite ?_ ?_
  · exact gb_X12_weigh_19 ha8
  · exact gb_X12_weigh_19 ha8
theorem gb_X12_edge {a0 : IH} {N : Nat} {ah : IH} {p1 : Int} {p2 : Int} {p3 : Int} {p4 : Int} {p5 : Int} {p6 : Int} {p7 : Int} {p8 : Int}  (hah : Fg rgM lf_X12_edge a0 ah) : Sg gpV rgM lf_X12_edge a0 (G_X12_edge N ah p1 p2 p3 p4 p5 p6 p7 p8) := by
  unfold G_X12_edge
  refine Sg.g (fun _ => ?_)
  refine Sg.g (fun _ => ?_)
  refine Sg.g (fun _ => ?_)
  refine Sg.let_c ?_
  refine Sg.let_xu hah (by rw [rgM_15 (by omega) (by omega)]; rfl) (fun a19 ha19 => ?_)
  refine Sg.let_xu ha19 (by rw [rgM_15 (by omega) (by omega)]; rfl) (fun a24 ha24 => ?_)
  refine Sg.let_xu ha24 (by rw [rgM_15 (by omega) (by omega)]; rfl) (fun a30 ha30 => ?_)
  refine Sg.let_xu ha30 (by rw [rgM_15 (by omega) (by omega)]; rfl) (fun a36 ha36 => ?_)
  refine Sg.let_xu ha36 (by rw [rgM_15 (by omega) (by omega)]; rfl) (fun a42 ha42 => ?_)
  refine Sg.let_xu ha42 (by rw [rgM_15 (by omega) (by omega)]; rfl) (fun a48 ha48 => ?_)
  refine Sg.let_xu ha48 (by rw [rgM_15 (by omega) (by omega)]; rfl) (fun a55 ha55 => ?_)
  refine Sg.g (fun _ => ?_)
  refine Sg.g (fun _ => ?_)
  refine Sg.let_xu ha55 rfl (fun a65 ha65 => ?_)
  exact Sg.ret ha65
theorem gb_X12_isShapeAt_26 {a0 : IH} {N : Nat}  : ∀ (n : Nat) {ah : IH} {v1 : Int} {v2 : Int} {v3 : Int} {v4 : Int}  (hah : Fg rgM lf_X12_isShapeAt a0 ah), Sg gpI rgM lf_X12_isShapeAt a0 (G_X12_isShapeAt_26 N n ah v1 v2 v3 v4) := by
  intro n
  induction n with
  | zero => intros; exact Sg.none
  | succ n ih =>
    intro ah v1 v2 v3 v4  hah
    unfold G_X12_isShapeAt_26
    refine Sg.ite ?_ ?_
    · exact Sg.ret hah
    · refine Sg.g (fun _ => ?_)
      refine Sg.let_c ?_
      refine Sg.g (fun _ => ?_)
      refine Sg.let_c ?_
      refine Sg.g (fun _ => ?_)
      refine Sg.ite ?_ ?_
      · refine Sg.let_v (fun v4_59 => ?_)
        exact ih hah
      · exact Sg.ret hah
theorem gb_X12_isShapeAt {a0 : IH} {N : Nat} {ah : IH} {p1 : Int} {p2 : Int}  (hah : Fg rgM lf_X12_isShapeAt a0 ah) : Sg gpI rgM lf_X12_isShapeAt a0 (G_X12_isShapeAt N ah p1 p2) := by
  unfold G_X12_isShapeAt
  refine Sg.g (fun _ => ?_)
  refine Sg.let_c ?_
  refine Sg.let_v (fun v3_10 => ?_)
  refine Sg.ite ?_ ?_
  · refine Sg.let_v (fun v4_24 => ?_)
    exact gb_X12_isShapeAt_26 _ hah
  · exact Sg.ret hah
theorem gb_X12_laysEdges_295 {a0 : IH} {N : Nat} {k208 : IH → Int → Int → Option IH} {ah : IH} {v1 : Int} {v3 : Int} (hk208 : ∀ {z0 : IH} {z1 : Int} {z2 : Int}, Fg rgM lf_X12_laysEdges a0 z0 → Sg gpV rgM lf_X12_laysEdges a0 (k208 z0 z1 z2)) (hah : Fg rgM lf_X12_laysEdges a0 ah) : Sg gpV rgM lf_X12_laysEdges a0 (G_X12_laysEdges_295 N k208 ah v1 v3) := by
  unfold G_X12_laysEdges_295
  refine Sg.let_v (fun v3_295 => ?_)
  exact hk208 hah
theorem gb_X12_laysEdges_208 {a0 : IH} {N : Nat}  : ∀ (n : Nat) {ah : IH} {v1 : Int} {v3 : Int}  (hah : Fg rgM lf_X12_laysEdges a0 ah), Sg gpV rgM lf_X12_laysEdges a0 (G_X12_laysEdges_208 N n ah v1 v3) := by
  intro n
  induction n with
  | zero => intros; exact Sg.none
  | succ n ih =>
    intro ah v1 v3  hah
    unfold G_X12_laysEdges_208
    refine Sg.ite ?_ ?_
    · exact Sg.ret hah
    · refine Sg.b (gb_X12_isShapeAt Fg.rf) hah rfl (fun r221 a221 ha221 => ?_)
      refine Sg.ite ?_ ?_
      · exact gb_X12_laysEdges_295 (fun h => ih h) ha221
      · refine Sg.g (fun _ => ?_)
        refine Sg.let_c ?_
        refine Sg.g (fun _ => ?_)
        refine Sg.let_c ?_
        refine Sg.g (fun _ => ?_)
        refine Sg.let_c ?_
        refine Sg.g (fun _ => ?_)
        refine Sg.let_c ?_
        refine Sg.g (fun _ => ?_)
        refine Sg.let_c ?_
        refine Sg.g (fun _ => ?_)
        refine Sg.let_c ?_
        refine Sg.bv (gb_X12_edge Fg.rf) ha221 rfl (fun a292 ha292 => ?_)
        exact gb_X12_laysEdges_295 (fun h => ih h) ha292
theorem gb_X12_laysEdges_206 {a0 : IH} {N : Nat} {ah : IH} {v1 : Int}  (hah : Fg rgM lf_X12_laysEdges a0 ah) : Sg gpV rgM lf_X12_laysEdges a0 (G_X12_laysEdges_206 N ah v1) := by
  unfold G_X12_laysEdges_206
  refine Sg.let_v (fun v3_207 => ?_)
  exact gb_X12_laysEdges_208 _ hah
theorem gb_X12_laysEdges_164_f13 {a0 : IH} {N : Nat} {ah : IH} {v1 : Int} {x2 : Int} (hx2 : 2327 ≤ x2 ∧ x2 < 2375) (hah : Fg rgM lf_X12_laysEdges a0 ah) : Sg gpV rgM lf_X12_laysEdges a0 (G_X12_laysEdges_164 N ah v1 x2) := by
  unfold G_X12_laysEdges_164
  refine Sg.ite ?_ ?_
  · refine Sg.bv (gb_X12_edge Fg.rf) hah rfl (fun a183 ha183 => ?_)
    refine Sg.bv (gb_X12_edge Fg.rf) ha183 rfl (fun a203 ha203 => ?_)
    exact gb_X12_laysEdges_206 ha203
  · exact gb_X12_laysEdges_206 hah
theorem gb_X12_laysEdges_122_f13 {a0 : IH} {N : Nat} {ah : IH} {v1 : Int} {x2 : Int} (hx2 : 2327 ≤ x2 ∧ x2 < 2375) (hah : Fg rgM lf_X12_laysEdges a0 ah) : Sg gpV rgM lf_X12_laysEdges a0 (G_X12_laysEdges_122 N ah v1 x2) := by
  unfold G_X12_laysEdges_122
  refine Sg.ite ?_ ?_
  · refine Sg.bv (gb_X12_edge Fg.rf) hah rfl (fun a142 ha142 => ?_)
    refine Sg.bv (gb_X12_edge Fg.rf) ha142 rfl (fun a161 ha161 => ?_)
    exact gb_X12_laysEdges_164_f13 ⟨by omega, by omega⟩ ha161
  · exact gb_X12_laysEdges_164_f13 ⟨by omega, by omega⟩ hah
theorem gb_X12_laysEdges_83_f13 {a0 : IH} {N : Nat}  : ∀ (n : Nat) {ah : IH} {v1 : Int} {x2 : Int} {v3 : Int} (hx2 : 2327 ≤ x2 ∧ x2 < 2375) (hah : Fg rgM lf_X12_laysEdges a0 ah), Sg gpV rgM lf_X12_laysEdges a0 (G_X12_laysEdges_83 N n ah v1 x2 v3) := by
  intro n
  induction n with
  | zero => intros; exact Sg.none
  | succ n ih =>
    intro ah v1 x2 v3 hx2 hah
    unfold G_X12_laysEdges_83
    refine Sg.ite ?_ ?_
    · exact gb_X12_laysEdges_122_f13 ⟨by omega, by omega⟩ hah
    · refine Sg.ite ?_ ?_
      · refine Sg.bv (gb_X12_edge Fg.rf) hah rfl (fun a113 ha113 => ?_)
        refine Sg.let_v (fun v3_116 => ?_)
        exact ih ⟨by omega, by omega⟩ ha113
      · exact gb_X12_laysEdges_122_f13 ⟨by omega, by omega⟩ hah
theorem gb_X12_laysEdges_41_f13 {a0 : IH} {N : Nat}  : ∀ (n : Nat) {ah : IH} {v1 : Int} {x2 : Int} {v3 : Int} (hx2 : 2327 ≤ x2 ∧ x2 < 2375) (hah : Fg rgM lf_X12_laysEdges a0 ah), Sg gpV rgM lf_X12_laysEdges a0 (G_X12_laysEdges_41 N n ah v1 x2 v3) := by
  intro n
  induction n with
  | zero => intros; exact Sg.none
  | succ n ih =>
    intro ah v1 x2 v3 hx2 hah
    unfold G_X12_laysEdges_41
    refine Sg.ite ?_ ?_
    · refine Sg.let_v (fun v3_82 => ?_)
      exact gb_X12_laysEdges_83_f13 _ ⟨by omega, by omega⟩ hah
    · refine Sg.g (fun _ => ?_)
      refine Sg.g (fun _ => ?_)
      refine Sg.bv (gb_X12_edge Fg.rf) hah rfl (fun a71 ha71 => ?_)
      refine Sg.let_v (fun v3_74 => ?_)
      exact ih ⟨by omega, by omega⟩ ha71
theorem gb_X12_laysEdges_39_f13 {a0 : IH} {N : Nat} {ah : IH} {v1 : Int} {x2 : Int} (hx2 : 2327 ≤ x2 ∧ x2 < 2375) (hah : Fg rgM lf_X12_laysEdges a0 ah) : Sg gpV rgM lf_X12_laysEdges a0 (G_X12_laysEdges_39 N ah v1 x2) := by
  unfold G_X12_laysEdges_39
  refine Sg.let_v (fun v3_40 => ?_)
  exact gb_X12_laysEdges_41_f13 _ ⟨by omega, by omega⟩ hah
theorem gb_X12_laysEdges {a0 : IH} {N : Nat} {ah : IH} {p1 : Int}  (hah : Fg rgM lf_X12_laysEdges a0 ah) : Sg gpV rgM lf_X12_laysEdges a0 (G_X12_laysEdges N ah p1) := by
  unfold G_X12_laysEdges
  refine Sg.g (fun _ => ?_)
  refine Sg.let_c ?_
  refine Sg.g (fun _ => ?_)
  refine Sg.let_xu hah rfl (fun a13 ha13 => ?_)
  refine Sg.b (gb_X12_isSmall Fg.rf) ha13 rfl (fun r17 a17 ha17 => ?_)
  refine Sg.ite ?_ ?_
  · exact gb_X12_laysEdges_39_f13 ⟨by omega, by omega⟩ ha17
  · refine Sg.bv (gb_X12_edge Fg.rf) ha17 rfl (fun a36 ha36 => ?_)
    exact gb_X12_laysEdges_39_f13 ⟨by omega, by omega⟩ ha36
theorem gb_X12_laysNet_37 {a0 : IH} {N : Nat} {k17 : IH → Int → Option IH} (hk17 : ∀ {z0 : IH} {z1 : Int}, Fg rgM lf_X12_laysNet a0 z0 → Sg gpV rgM lf_X12_laysNet a0 (k17 z0 z1)) : ∀ (n : Nat) {ah : IH} {v1 : Int} {v2 : Int}  (hah : Fg rgM lf_X12_laysNet a0 ah), Sg gpV rgM lf_X12_laysNet a0 (G_X12_laysNet_37 N k17 n ah v1 v2) := by
  intro n
  induction n with
  | zero => intros; exact Sg.none
  | succ n ih =>
    intro ah v1 v2  hah
    unfold G_X12_laysNet_37
    refine Sg.g (fun _ => ?_)
    refine Sg.ite ?_ ?_
    · refine Sg.let_v (fun v1_94 => ?_)
      exact hk17 hah
    · refine Sg.g (fun _ => ?_)
      refine Sg.g (fun _ => ?_)
      refine Sg.g (fun _ => ?_)
      refine Sg.let_c ?_
      refine Sg.g (fun _ => ?_)
      refine Sg.g (fun _ => ?_)
      refine Sg.let_c ?_
      refine Sg.g (fun _ => ?_)
      refine Sg.b (gb_X12_less Fg.rf) hah rfl (fun r84 a84 ha84 => ?_)
      refine Sg.g (fun _ => ?_)
      refine Sg.let_xu ha84 rfl (fun a87 ha87 => ?_)
      refine Sg.let_v (fun v2_88 => ?_)
      exact ih ha87
theorem gb_X12_laysNet_17 {a0 : IH} {N : Nat}  : ∀ (n : Nat) {ah : IH} {v1 : Int}  (hah : Fg rgM lf_X12_laysNet a0 ah), Sg gpV rgM lf_X12_laysNet a0 (G_X12_laysNet_17 N n ah v1) := by
  intro n
  induction n with
  | zero => intros; exact Sg.none
  | succ n ih =>
    intro ah v1  hah
    unfold G_X12_laysNet_17
    refine Sg.ite ?_ ?_
    · exact Sg.ret hah
    · refine Sg.bv (gb_X12_laysEdges Fg.rf) hah rfl (fun a23 ha23 => ?_)
      refine Sg.g (fun _ => ?_)
      refine Sg.let_xu ha23 rfl (fun a34 ha34 => ?_)
      refine Sg.let_v (fun v2_36 => ?_)
      exact gb_X12_laysNet_37 (fun h => ih h) _ ha34
theorem gb_X12_laysNet {a0 : IH} {N : Nat} {ah : IH}  (hah : Fg rgM lf_X12_laysNet a0 ah) : Sg gpV rgM lf_X12_laysNet a0 (G_X12_laysNet N ah) := by
  unfold G_X12_laysNet
  refine Sg.g (fun _ => ?_)
  refine Sg.let_xu hah rfl (fun a9 ha9 => ?_)
  refine Sg.let_v (fun v1_16 => ?_)
  exact gb_X12_laysNet_17 _ ha9
theorem gb_X12_copiesCell_2_f10_f13 {a0 : IH} {N : Nat}  : ∀ (n : Nat) {ah : IH} {x1 : Int} {x2 : Int} {v3 : Int} (hx1 : 285 ≤ x1 ∧ x1 < 2205) (hx2 : 2327 ≤ x2 ∧ x2 < 2375) (hah : Fg rgM lf_X12_copiesCell_f10_f13 a0 ah), Sg gpV rgM lf_X12_copiesCell_f10_f13 a0 (G_X12_copiesCell_2 N n ah x1 x2 v3) := by
  intro n
  induction n with
  | zero => intros; exact Sg.none
  | succ n ih =>
    intro ah x1 x2 v3 hx1 hx2 hah
    unfold G_X12_copiesCell_2
    refine Sg.ite ?_ ?_
    · exact Sg.ret hah
    · refine Sg.g (fun _ => ?_)
      refine Sg.g (fun _ => ?_)
      refine Sg.let_xu hah (by rw [rgM_13 (by omega) (by omega)]; rfl) (fun a13 ha13 => ?_)
      refine Sg.let_v (fun v3_14 => ?_)
      exact ih ⟨by omega, by omega⟩ ⟨by omega, by omega⟩ ha13
theorem gb_X12_copiesCell_f10_f13 {a0 : IH} {N : Nat} {ah : IH} {x1 : Int} {x2 : Int} (hx1 : 285 ≤ x1 ∧ x1 < 2205) (hx2 : 2327 ≤ x2 ∧ x2 < 2375) (hah : Fg rgM lf_X12_copiesCell_f10_f13 a0 ah) : Sg gpV rgM lf_X12_copiesCell_f10_f13 a0 (G_X12_copiesCell N ah x1 x2) := by
  unfold G_X12_copiesCell
  refine Sg.let_v (fun v3_1 => ?_)
  exact gb_X12_copiesCell_2_f10_f13 _ ⟨by omega, by omega⟩ ⟨by omega, by omega⟩ hah
theorem gb_X12_laysToken_25 {a0 : IH} {N : Nat} {k7 : IH → Int → Int → Int → Option IH} (hk7 : ∀ {z0 : IH} {z1 : Int} {z2 : Int} {z3 : Int}, Fg rgM lf_X12_laysToken a0 z0 → Sg gpV rgM lf_X12_laysToken a0 (k7 z0 z1 z2 z3)) : ∀ (n : Nat) {ah : IH} {v1 : Int} {v2 : Int} {v3 : Int} {v4 : Int}  (hah : Fg rgM lf_X12_laysToken a0 ah), Sg gpV rgM lf_X12_laysToken a0 (G_X12_laysToken_25 N k7 n ah v1 v2 v3 v4) := by
  intro n
  induction n with
  | zero => intros; exact Sg.none
  | succ n ih =>
    intro ah v1 v2 v3 v4  hah
    unfold G_X12_laysToken_25
    refine Sg.let_c ?_
    refine Sg.g (fun _ => ?_)
    refine Sg.ite ?_ ?_
    · refine Sg.let_v (fun v3_78 => ?_)
      exact hk7 hah
    · refine Sg.g (fun _ => ?_)
      refine Sg.g (fun _ => ?_)
      refine Sg.let_c ?_
      refine Sg.g (fun _ => ?_)
      refine Sg.let_c ?_
      refine Sg.bv (gb_X12_copiesCell_f10_f13 ⟨by omega, by omega⟩ ⟨by omega, by omega⟩ Fg.rf) hah rfl (fun a59 ha59 => ?_)
      refine Sg.let_xu ha59 rfl (fun a69 ha69 => ?_)
      refine Sg.let_v (fun v4_72 => ?_)
      exact ih ha69
theorem gb_X12_laysToken_19 {a0 : IH} {N : Nat} {k7 : IH → Int → Int → Int → Option IH} {ah : IH} {v1 : Int} {v2 : Int} {v3 : Int} {s0 : Int} {s1 : Int} (hk7 : ∀ {z0 : IH} {z1 : Int} {z2 : Int} {z3 : Int}, Fg rgM lf_X12_laysToken a0 z0 → Sg gpV rgM lf_X12_laysToken a0 (k7 z0 z1 z2 z3)) (hah : Fg rgM lf_X12_laysToken a0 ah) : Sg gpV rgM lf_X12_laysToken a0 (G_X12_laysToken_19 N k7 ah v1 v2 v3 s0 s1) := by
  unfold G_X12_laysToken_19
  refine Sg.ite ?_ ?_
  · refine Sg.bv (gb_X12_laysNet Fg.rf) hah rfl (fun a85 ha85 => ?_)
    exact Sg.ret ha85
  · refine Sg.let_v (fun v4_23 => ?_)
    exact gb_X12_laysToken_25 hk7 _ hah
theorem gb_X12_laysToken_7 {a0 : IH} {N : Nat}  : ∀ (n : Nat) {ah : IH} {v1 : Int} {v2 : Int} {v3 : Int}  (hah : Fg rgM lf_X12_laysToken a0 ah), Sg gpV rgM lf_X12_laysToken a0 (G_X12_laysToken_7 N n ah v1 v2 v3) := by
  intro n
  induction n with
  | zero => intros; exact Sg.none
  | succ n ih =>
    intro ah v1 v2 v3  hah
    unfold G_X12_laysToken_7
    refine Sg.ite ?_ ?_
    · exact gb_X12_laysToken_19 (fun h => ih h) hah
    · exact gb_X12_laysToken_19 (fun h => ih h) hah
theorem gb_X12_laysToken {a0 : IH} {N : Nat} {ah : IH} {p1 : Int} {p2 : Int}  (hah : Fg rgM lf_X12_laysToken a0 ah) : Sg gpV rgM lf_X12_laysToken a0 (G_X12_laysToken N ah p1 p2) := by
  unfold G_X12_laysToken
  refine Sg.let_xu hah rfl (fun a2 ha2 => ?_)
  refine Sg.let_v (fun v3_6 => ?_)
  exact gb_X12_laysToken_7 _ ha2
theorem gb_X12_laysWord_12 {a0 : IH} {N : Nat}  : ∀ (n : Nat) {ah : IH} {v1 : Int} {v2 : Int}  (hah : Fg rgM lf_X12_laysWord a0 ah), Sg gpV rgM lf_X12_laysWord a0 (G_X12_laysWord_12 N n ah v1 v2) := by
  intro n
  induction n with
  | zero => intros; exact Sg.none
  | succ n ih =>
    intro ah v1 v2  hah
    unfold G_X12_laysWord_12
    refine Sg.ite ?_ ?_
    · refine Sg.bv (gb_X12_laysNet Fg.rf) hah rfl (fun a52 ha52 => ?_)
      exact Sg.ret ha52
    · refine Sg.g (fun _ => ?_)
      refine Sg.let_c ?_
      refine Sg.g (fun _ => ?_)
      refine Sg.let_c ?_
      refine Sg.g (fun _ => ?_)
      refine Sg.let_xu hah (by rw [rgM_13 (by omega) (by omega)]; rfl) (fun a35 ha35 => ?_)
      refine Sg.g (fun _ => ?_)
      refine Sg.let_c ?_
      refine Sg.let_xu ha35 (by rw [rgM_13 (by omega) (by omega)]; rfl) (fun a44 ha44 => ?_)
      refine Sg.let_v (fun v2_45 => ?_)
      exact ih ha44
theorem gb_X12_laysWord {a0 : IH} {N : Nat} {ah : IH} {p1 : Int}  (hah : Fg rgM lf_X12_laysWord a0 ah) : Sg gpV rgM lf_X12_laysWord a0 (G_X12_laysWord N ah p1) := by
  unfold G_X12_laysWord
  refine Sg.g (fun _ => ?_)
  refine Sg.let_xu hah rfl (fun a7 ha7 => ?_)
  refine Sg.let_v (fun v2_11 => ?_)
  exact gb_X12_laysWord_12 _ ha7
theorem gb_X12_fits_19_f15 {a0 : IH} {N : Nat}  : ∀ (n : Nat) {ah : IH} {x1 : Int} {v2 : Int} {v3 : Int} {v4 : Int} (hx1 : 2423 ≤ x1 ∧ x1 < 5303) (hah : Fg rgM lf_X12_fits_f15 a0 ah), Sg gpI rgM lf_X12_fits_f15 a0 (G_X12_fits_19 N n ah x1 v2 v3 v4) := by
  intro n
  induction n with
  | zero => intros; exact Sg.none
  | succ n ih =>
    intro ah x1 v2 v3 v4 hx1 hah
    unfold G_X12_fits_19
    refine Sg.ite ?_ ?_
    · exact Sg.ret hah
    · refine Sg.g (fun _ => ?_)
      refine Sg.let_c ?_
      refine Sg.g (fun _ => ?_)
      refine Sg.g (fun _ => ?_)
      refine Sg.ite ?_ ?_
      · refine Sg.let_v (fun v4_49 => ?_)
        exact ih ⟨by omega, by omega⟩ hah
      · exact Sg.ret hah
theorem gb_X12_fits_f15 {a0 : IH} {N : Nat} {ah : IH} {x1 : Int} {p2 : Int} {p3 : Int} (hx1 : 2423 ≤ x1 ∧ x1 < 5303) (hah : Fg rgM lf_X12_fits_f15 a0 ah) : Sg gpI rgM lf_X12_fits_f15 a0 (G_X12_fits N ah x1 p2 p3) := by
  unfold G_X12_fits
  refine Sg.g (fun _ => ?_)
  refine Sg.ite ?_ ?_
  · refine Sg.let_v (fun v4_17 => ?_)
    exact gb_X12_fits_19_f15 _ ⟨by omega, by omega⟩ hah
  · exact Sg.ret hah
theorem gb_X12_spells_136 {a0 : IH} {N : Nat} {k5 : IH → Int → Int → Option (Int × IH)} {k16 : IH → Int → Int → Int → Option (Int × IH)} {k50 : IH → Int → Int → Int → Int → Int → Option (Int × IH)} {ah : IH} {v1 : Int} {v2 : Int} {v3 : Int} {v4 : Int} {v5 : Int} (hk5 : ∀ {z0 : IH} {z1 : Int} {z2 : Int}, Fg rgM lf_X12_spells a0 z0 → Sg gpI rgM lf_X12_spells a0 (k5 z0 z1 z2)) (hk16 : ∀ {z0 : IH} {z1 : Int} {z2 : Int} {z3 : Int}, Fg rgM lf_X12_spells a0 z0 → Sg gpI rgM lf_X12_spells a0 (k16 z0 z1 z2 z3)) (hk50 : ∀ {z0 : IH} {z1 : Int} {z2 : Int} {z3 : Int} {z4 : Int} {z5 : Int}, Fg rgM lf_X12_spells a0 z0 → Sg gpI rgM lf_X12_spells a0 (k50 z0 z1 z2 z3 z4 z5)) (hah : Fg rgM lf_X12_spells a0 ah) : Sg gpI rgM lf_X12_spells a0 (G_X12_spells_136 N k5 k16 k50 ah v1 v2 v3 v4 v5) := by
  unfold G_X12_spells_136
  refine Sg.let_v (fun v5_136 => ?_)
  exact hk50 hah
theorem gb_X12_spells_142 {a0 : IH} {N : Nat} {k5 : IH → Int → Int → Option (Int × IH)} {k16 : IH → Int → Int → Int → Option (Int × IH)} {ah : IH} {v1 : Int} {v2 : Int} {v3 : Int} {v4 : Int} (hk5 : ∀ {z0 : IH} {z1 : Int} {z2 : Int}, Fg rgM lf_X12_spells a0 z0 → Sg gpI rgM lf_X12_spells a0 (k5 z0 z1 z2)) (hk16 : ∀ {z0 : IH} {z1 : Int} {z2 : Int} {z3 : Int}, Fg rgM lf_X12_spells a0 z0 → Sg gpI rgM lf_X12_spells a0 (k16 z0 z1 z2 z3)) (hah : Fg rgM lf_X12_spells a0 ah) : Sg gpI rgM lf_X12_spells a0 (G_X12_spells_142 N k5 k16 ah v1 v2 v3 v4) := by
  unfold G_X12_spells_142
  refine Sg.g (fun _ => ?_)
  refine Sg.let_c ?_
  refine Sg.g (fun _ => ?_)
  refine Sg.let_xu hah (by rw [rgM_16 (by omega) (by omega)]; rfl) (fun a151 ha151 => ?_)
  refine Sg.let_v (fun v3_152 => ?_)
  exact hk16 ha151
theorem gb_X12_spells_50 {a0 : IH} {N : Nat} {k5 : IH → Int → Int → Option (Int × IH)} {k16 : IH → Int → Int → Int → Option (Int × IH)} (hk5 : ∀ {z0 : IH} {z1 : Int} {z2 : Int}, Fg rgM lf_X12_spells a0 z0 → Sg gpI rgM lf_X12_spells a0 (k5 z0 z1 z2)) (hk16 : ∀ {z0 : IH} {z1 : Int} {z2 : Int} {z3 : Int}, Fg rgM lf_X12_spells a0 z0 → Sg gpI rgM lf_X12_spells a0 (k16 z0 z1 z2 z3)) : ∀ (n : Nat) {ah : IH} {v1 : Int} {v2 : Int} {v3 : Int} {v4 : Int} {v5 : Int}  (hah : Fg rgM lf_X12_spells a0 ah), Sg gpI rgM lf_X12_spells a0 (G_X12_spells_50 N k5 k16 n ah v1 v2 v3 v4 v5) := by
  intro n
  induction n with
  | zero => intros; exact Sg.none
  | succ n ih =>
    intro ah v1 v2 v3 v4 v5  hah
    unfold G_X12_spells_50
    refine Sg.ite ?_ ?_
    · exact gb_X12_spells_142 hk5 hk16 hah
    · refine Sg.g (fun _ => ?_)
      refine Sg.ite ?_ ?_
      · exact gb_X12_spells_142 hk5 hk16 hah
      · refine Sg.g (fun _ => ?_)
        refine Sg.g (fun _ => ?_)
        refine Sg.let_c ?_
        refine Sg.b (gb_X12_fits_f15 ⟨by omega, by omega⟩ Fg.rf) hah rfl (fun r81 a81 ha81 => ?_)
        refine Sg.ite ?_ ?_
        · exact gb_X12_spells_136 hk5 hk16 (fun h => ih h) ha81
        · refine Sg.g (fun _ => ?_)
          refine Sg.g (fun _ => ?_)
          refine Sg.let_c ?_
          refine Sg.g (fun _ => ?_)
          refine Sg.g (fun _ => ?_)
          refine Sg.let_c ?_
          refine Sg.g (fun _ => ?_)
          refine Sg.let_c ?_
          refine Sg.g (fun _ => ?_)
          refine Sg.g (fun _ => ?_)
          refine Sg.let_c ?_
          refine Sg.g (fun _ => ?_)
          refine Sg.b (gb_X12_less Fg.rf) ha81 rfl (fun r131 a131 ha131 => ?_)
          refine Sg.let_v (fun v4_134 => ?_)
          exact gb_X12_spells_136 hk5 hk16 (fun h => ih h) ha131
theorem gb_X12_spells_45 {a0 : IH} {N : Nat} {k5 : IH → Int → Int → Option (Int × IH)} {k16 : IH → Int → Int → Int → Option (Int × IH)} {ah : IH} {v1 : Int} {v2 : Int} {v3 : Int} {s0 : Int} (hk5 : ∀ {z0 : IH} {z1 : Int} {z2 : Int}, Fg rgM lf_X12_spells a0 z0 → Sg gpI rgM lf_X12_spells a0 (k5 z0 z1 z2)) (hk16 : ∀ {z0 : IH} {z1 : Int} {z2 : Int} {z3 : Int}, Fg rgM lf_X12_spells a0 z0 → Sg gpI rgM lf_X12_spells a0 (k16 z0 z1 z2 z3)) (hah : Fg rgM lf_X12_spells a0 ah) : Sg gpI rgM lf_X12_spells a0 (G_X12_spells_45 N k5 k16 ah v1 v2 v3 s0) := by
  unfold G_X12_spells_45
  refine Sg.let_v (fun v4_45 => ?_)
  refine Sg.let_v (fun v5_48 => ?_)
  exact gb_X12_spells_50 hk5 hk16 _ hah
theorem gb_X12_spells_42 {a0 : IH} {N : Nat} {k5 : IH → Int → Int → Option (Int × IH)} {k16 : IH → Int → Int → Int → Option (Int × IH)} {ah : IH} {v1 : Int} {v2 : Int} {v3 : Int} (hk5 : ∀ {z0 : IH} {z1 : Int} {z2 : Int}, Fg rgM lf_X12_spells a0 z0 → Sg gpI rgM lf_X12_spells a0 (k5 z0 z1 z2)) (hk16 : ∀ {z0 : IH} {z1 : Int} {z2 : Int} {z3 : Int}, Fg rgM lf_X12_spells a0 z0 → Sg gpI rgM lf_X12_spells a0 (k16 z0 z1 z2 z3)) (hah : Fg rgM lf_X12_spells a0 ah) : Sg gpI rgM lf_X12_spells a0 (G_X12_spells_42 N k5 k16 ah v1 v2 v3) := by
  unfold G_X12_spells_42
  exact gb_X12_spells_45 hk5 hk16 hah
theorem gb_X12_spells_16 {a0 : IH} {N : Nat} {k5 : IH → Int → Int → Option (Int × IH)} (hk5 : ∀ {z0 : IH} {z1 : Int} {z2 : Int}, Fg rgM lf_X12_spells a0 z0 → Sg gpI rgM lf_X12_spells a0 (k5 z0 z1 z2)) : ∀ (n : Nat) {ah : IH} {v1 : Int} {v2 : Int} {v3 : Int}  (hah : Fg rgM lf_X12_spells a0 ah), Sg gpI rgM lf_X12_spells a0 (G_X12_spells_16 N k5 n ah v1 v2 v3) := by
  intro n
  induction n with
  | zero => intros; exact Sg.none
  | succ n ih =>
    intro ah v1 v2 v3  hah
    unfold G_X12_spells_16
    refine Sg.ite ?_ ?_
    · refine Sg.let_v (fun v2_158 => ?_)
      exact hk5 hah
    · refine Sg.ite ?_ ?_
      · refine Sg.g (fun _ => ?_)
        refine Sg.ite ?_ ?_
        · exact gb_X12_spells_45 hk5 (fun h => ih h) hah
        · exact gb_X12_spells_42 hk5 (fun h => ih h) hah
      · exact gb_X12_spells_42 hk5 (fun h => ih h) hah
theorem gb_X12_spells_5 {a0 : IH} {N : Nat}  : ∀ (n : Nat) {ah : IH} {v1 : Int} {v2 : Int}  (hah : Fg rgM lf_X12_spells a0 ah), Sg gpI rgM lf_X12_spells a0 (G_X12_spells_5 N n ah v1 v2) := by
  intro n
  induction n with
  | zero => intros; exact Sg.none
  | succ n ih =>
    intro ah v1 v2  hah
    unfold G_X12_spells_5
    refine Sg.ite ?_ ?_
    · refine Sg.let_c ?_
      exact Sg.ret hah
    · refine Sg.g (fun _ => ?_)
      refine Sg.let_v (fun v3_15 => ?_)
      exact gb_X12_spells_16 (fun h => ih h) _ hah
theorem gb_X12_spells {a0 : IH} {N : Nat} {ah : IH} {p1 : Int}  (hah : Fg rgM lf_X12_spells a0 ah) : Sg gpI rgM lf_X12_spells a0 (G_X12_spells N ah p1) := by
  unfold G_X12_spells
  refine Sg.let_v (fun v2_4 => ?_)
  exact gb_X12_spells_5 _ hah
theorem gb_X12_boundOf {a0 : IH} {N : Nat} {ah : IH} {p1 : Int}  (hah : Fg rgM lf_X12_boundOf a0 ah) : Sg gpI rgM lf_X12_boundOf a0 (G_X12_boundOf N ah p1) := by
  unfold G_X12_boundOf
  refine Sg.g (fun _ => ?_)
  refine Sg.g (fun _ => ?_)
  refine Sg.g (fun _ => ?_)
  exact Sg.ret hah
theorem gb_X12_waitsFor_60 {a0 : IH} {N : Nat} {ah : IH} {v1 : Int} {v2 : Int}  (hah : Fg rgM lf_X12_waitsFor a0 ah) : Sg gpV rgM lf_X12_waitsFor a0 (G_X12_waitsFor_60 N ah v1 v2) := by
  unfold G_X12_waitsFor_60
  refine Sg.g (fun _ => ?_)
  refine Sg.let_xu hah rfl (fun a66 ha66 => ?_)
  refine Sg.g (fun _ => ?_)
  refine Sg.let_xu ha66 rfl (fun a73 ha73 => ?_)
  exact Sg.ret ha73
theorem gb_X12_waitsFor_31 {a0 : IH} {N : Nat} {ah : IH} {v1 : Int} {v2 : Int}  (hah : Fg rgM lf_X12_waitsFor a0 ah) : Sg gpV rgM lf_X12_waitsFor a0 (G_X12_waitsFor_31 N ah v1 v2) := by
  unfold G_X12_waitsFor_31
  refine Sg.g (fun _ => ?_)
  refine Sg.ite ?_ ?_
  · refine Sg.g (fun _ => ?_)
    refine Sg.let_xu hah rfl (fun a49 ha49 => ?_)
    refine Sg.let_xu ha49 rfl (fun a57 ha57 => ?_)
    exact gb_X12_waitsFor_60 ha57
  · exact gb_X12_waitsFor_60 hah
theorem gb_X12_waitsFor {a0 : IH} {N : Nat} {ah : IH} {p1 : Int} {p2 : Int}  (hah : Fg rgM lf_X12_waitsFor a0 ah) : Sg gpV rgM lf_X12_waitsFor a0 (G_X12_waitsFor N ah p1 p2) := by
  unfold G_X12_waitsFor
  refine Sg.g (fun _ => ?_)
  refine Sg.ite ?_ ?_
  · exact Sg.ret hah
  · refine Sg.g (fun _ => ?_)
    refine Sg.ite ?_ ?_
    · refine Sg.g (fun _ => ?_)
      refine Sg.ite ?_ ?_
      · exact gb_X12_waitsFor_31 hah
      · exact Sg.ret hah
    · exact gb_X12_waitsFor_31 hah
theorem gb_X12_firstState_112 {a0 : IH} {N : Nat} {k4 : IH → Int → Int → Option (Int × IH)} {ah : IH} {v1 : Int} {v2 : Int} (hk4 : ∀ {z0 : IH} {z1 : Int} {z2 : Int}, Fg rgM lf_X12_firstState a0 z0 → Sg gpI rgM lf_X12_firstState a0 (k4 z0 z1 z2)) (hah : Fg rgM lf_X12_firstState a0 ah) : Sg gpI rgM lf_X12_firstState a0 (G_X12_firstState_112 N k4 ah v1 v2) := by
  unfold G_X12_firstState_112
  refine Sg.let_v (fun v2_112 => ?_)
  exact hk4 hah
theorem gb_X12_firstState_110 {a0 : IH} {N : Nat} {k4 : IH → Int → Int → Option (Int × IH)} {ah : IH} {v2 : Int} (hk4 : ∀ {z0 : IH} {z1 : Int} {z2 : Int}, Fg rgM lf_X12_firstState a0 z0 → Sg gpI rgM lf_X12_firstState a0 (k4 z0 z1 z2)) (hah : Fg rgM lf_X12_firstState a0 ah) : Sg gpI rgM lf_X12_firstState a0 (G_X12_firstState_110 N k4 ah v2) := by
  unfold G_X12_firstState_110
  refine Sg.let_v (fun v1_111 => ?_)
  exact gb_X12_firstState_112 hk4 hah
theorem gb_X12_firstState_4 {a0 : IH} {N : Nat}  : ∀ (n : Nat) {ah : IH} {v1 : Int} {v2 : Int}  (hah : Fg rgM lf_X12_firstState a0 ah), Sg gpI rgM lf_X12_firstState a0 (G_X12_firstState_4 N n ah v1 v2) := by
  intro n
  induction n with
  | zero => intros; exact Sg.none
  | succ n ih =>
    intro ah v1 v2  hah
    unfold G_X12_firstState_4
    refine Sg.ite ?_ ?_
    · exact Sg.ret hah
    · refine Sg.ite ?_ ?_
      · refine Sg.let_v (fun v1_18 => ?_)
        exact gb_X12_firstState_112 (fun h => ih h) hah
      · refine Sg.g (fun _ => ?_)
        refine Sg.b (gb_X12_boundOf Fg.rf) hah rfl (fun r29 a29 ha29 => ?_)
        refine Sg.let_v (fun v3_32 => ?_)
        refine Sg.g (fun _ => ?_)
        refine Sg.b (gb_X12_boundOf Fg.rf) ha29 rfl (fun r40 a40 ha40 => ?_)
        refine Sg.let_v (fun v4_43 => ?_)
        refine Sg.g (fun _ => ?_)
        refine Sg.let_v (fun v5_55 => ?_)
        refine Sg.g (fun _ => ?_)
        refine Sg.let_v (fun v6_67 => ?_)
        refine Sg.ite ?_ ?_
        · exact gb_X12_firstState_110 (fun h => ih h) ha40
        · refine Sg.ite ?_ ?_
          · refine Sg.ite ?_ ?_
            · exact gb_X12_firstState_110 (fun h => ih h) ha40
            · refine Sg.ite ?_ ?_
              · refine Sg.g (fun _ => ?_)
                refine Sg.g (fun _ => ?_)
                refine Sg.ite ?_ ?_
                · exact gb_X12_firstState_112 (fun h => ih h) ha40
                · exact gb_X12_firstState_110 (fun h => ih h) ha40
              · exact gb_X12_firstState_112 (fun h => ih h) ha40
          · exact gb_X12_firstState_112 (fun h => ih h) ha40
theorem gb_X12_firstState {a0 : IH} {N : Nat} {ah : IH}  (hah : Fg rgM lf_X12_firstState a0 ah) : Sg gpI rgM lf_X12_firstState a0 (G_X12_firstState N ah) := by
  unfold G_X12_firstState
  refine Sg.let_v (fun v1_1 => ?_)
  refine Sg.let_v (fun v2_3 => ?_)
  exact gb_X12_firstState_4 _ hah
theorem gb_X12_firstAnswer_43 {a0 : IH} {N : Nat} {k4 : IH → Int → Int → Option (Int × IH)} {ah : IH} {v1 : Int} {v2 : Int} (hk4 : ∀ {z0 : IH} {z1 : Int} {z2 : Int}, Fg rgM lf_X12_firstAnswer a0 z0 → Sg gpI rgM lf_X12_firstAnswer a0 (k4 z0 z1 z2)) (hah : Fg rgM lf_X12_firstAnswer a0 ah) : Sg gpI rgM lf_X12_firstAnswer a0 (G_X12_firstAnswer_43 N k4 ah v1 v2) := by
  unfold G_X12_firstAnswer_43
  refine Sg.let_v (fun v2_43 => ?_)
  exact hk4 hah
theorem gb_X12_firstAnswer_41 {a0 : IH} {N : Nat} {k4 : IH → Int → Int → Option (Int × IH)} {ah : IH} {v2 : Int} (hk4 : ∀ {z0 : IH} {z1 : Int} {z2 : Int}, Fg rgM lf_X12_firstAnswer a0 z0 → Sg gpI rgM lf_X12_firstAnswer a0 (k4 z0 z1 z2)) (hah : Fg rgM lf_X12_firstAnswer a0 ah) : Sg gpI rgM lf_X12_firstAnswer a0 (G_X12_firstAnswer_41 N k4 ah v2) := by
  unfold G_X12_firstAnswer_41
  refine Sg.let_v (fun v1_42 => ?_)
  exact gb_X12_firstAnswer_43 hk4 hah
theorem gb_X12_firstAnswer_4 {a0 : IH} {N : Nat}  : ∀ (n : Nat) {ah : IH} {v1 : Int} {v2 : Int}  (hah : Fg rgM lf_X12_firstAnswer a0 ah), Sg gpI rgM lf_X12_firstAnswer a0 (G_X12_firstAnswer_4 N n ah v1 v2) := by
  intro n
  induction n with
  | zero => intros; exact Sg.none
  | succ n ih =>
    intro ah v1 v2  hah
    unfold G_X12_firstAnswer_4
    refine Sg.ite ?_ ?_
    · exact Sg.ret hah
    · refine Sg.g (fun _ => ?_)
      refine Sg.ite ?_ ?_
      · exact gb_X12_firstAnswer_43 (fun h => ih h) hah
      · refine Sg.ite ?_ ?_
        · exact gb_X12_firstAnswer_41 (fun h => ih h) hah
        · refine Sg.g (fun _ => ?_)
          refine Sg.g (fun _ => ?_)
          refine Sg.ite ?_ ?_
          · exact gb_X12_firstAnswer_43 (fun h => ih h) hah
          · exact gb_X12_firstAnswer_41 (fun h => ih h) hah
theorem gb_X12_firstAnswer {a0 : IH} {N : Nat} {ah : IH}  (hah : Fg rgM lf_X12_firstAnswer a0 ah) : Sg gpI rgM lf_X12_firstAnswer a0 (G_X12_firstAnswer N ah) := by
  unfold G_X12_firstAnswer
  refine Sg.let_v (fun v1_1 => ?_)
  refine Sg.let_v (fun v2_3 => ?_)
  exact gb_X12_firstAnswer_4 _ hah
theorem gb_X12_opens_220 {a0 : IH} {N : Nat} {k115 : IH → Int → Int → Int → Int → Option IH} {ah : IH} {v2 : Int} {v3 : Int} {v4 : Int} {v5 : Int} (hk115 : ∀ {z0 : IH} {z1 : Int} {z2 : Int} {z3 : Int} {z4 : Int}, Fg rgM lf_X12_opens a0 z0 → Sg gpV rgM lf_X12_opens a0 (k115 z0 z1 z2 z3 z4)) (hah : Fg rgM lf_X12_opens a0 ah) : Sg gpV rgM lf_X12_opens a0 (G_X12_opens_220 N k115 ah v2 v3 v4 v5) := by
  unfold G_X12_opens_220
  refine Sg.let_v (fun v5_220 => ?_)
  exact hk115 hah
theorem gb_X12_opens_188_f15 {a0 : IH} {N : Nat} {k115 : IH → Int → Int → Int → Int → Option IH} {ah : IH} {v2 : Int} {v3 : Int} {v4 : Int} {v5 : Int} {x6 : Int} {v7 : Int} (hk115 : ∀ {z0 : IH} {z1 : Int} {z2 : Int} {z3 : Int} {z4 : Int}, Fg rgM lf_X12_opens a0 z0 → Sg gpV rgM lf_X12_opens a0 (k115 z0 z1 z2 z3 z4)) (hx6 : 2423 ≤ x6 ∧ x6 < 5303) (hah : Fg rgM lf_X12_opens a0 ah) : Sg gpV rgM lf_X12_opens a0 (G_X12_opens_188 N k115 ah v2 v3 v4 v5 x6 v7) := by
  unfold G_X12_opens_188
  refine Sg.ite ?_ ?_
  · exact gb_X12_opens_220 hk115 hah
  · refine Sg.g (fun _ => ?_)
    refine Sg.bv (gb_X12_waitsFor Fg.rf) hah rfl (fun a217 ha217 => ?_)
    exact gb_X12_opens_220 hk115 ha217
theorem gb_X12_opens_152_f15 {a0 : IH} {N : Nat} {k115 : IH → Int → Int → Int → Int → Option IH} (hk115 : ∀ {z0 : IH} {z1 : Int} {z2 : Int} {z3 : Int} {z4 : Int}, Fg rgM lf_X12_opens a0 z0 → Sg gpV rgM lf_X12_opens a0 (k115 z0 z1 z2 z3 z4)) : ∀ (n : Nat) {ah : IH} {v2 : Int} {v3 : Int} {v4 : Int} {v5 : Int} {x6 : Int} {v7 : Int} {v8 : Int} (hx6 : 2423 ≤ x6 ∧ x6 < 5303) (hah : Fg rgM lf_X12_opens a0 ah), Sg gpV rgM lf_X12_opens a0 (G_X12_opens_152 N k115 n ah v2 v3 v4 v5 x6 v7 v8) := by
  intro n
  induction n with
  | zero => intros; exact Sg.none
  | succ n ih =>
    intro ah v2 v3 v4 v5 x6 v7 v8 hx6 hah
    unfold G_X12_opens_152
    refine Sg.ite ?_ ?_
    · exact gb_X12_opens_188_f15 hk115 ⟨by omega, by omega⟩ hah
    · refine Sg.ite ?_ ?_
      · exact gb_X12_opens_188_f15 hk115 ⟨by omega, by omega⟩ hah
      · refine Sg.g (fun _ => ?_)
        refine Sg.b (gb_X12_childOf Fg.rf) hah rfl (fun r177 a177 ha177 => ?_)
        refine Sg.let_v (fun v7_180 => ?_)
        refine Sg.let_v (fun v8_182 => ?_)
        exact ih ⟨by omega, by omega⟩ ha177
theorem gb_X12_opens_115 {a0 : IH} {N : Nat}  : ∀ (n : Nat) {ah : IH} {v2 : Int} {v3 : Int} {v4 : Int} {v5 : Int}  (hah : Fg rgM lf_X12_opens a0 ah), Sg gpV rgM lf_X12_opens a0 (G_X12_opens_115 N n ah v2 v3 v4 v5) := by
  intro n
  induction n with
  | zero => intros; exact Sg.none
  | succ n ih =>
    intro ah v2 v3 v4 v5  hah
    unfold G_X12_opens_115
    refine Sg.ite ?_ ?_
    · exact Sg.ret hah
    · refine Sg.g (fun _ => ?_)
      refine Sg.ite ?_ ?_
      · exact Sg.ret hah
      · refine Sg.g (fun _ => ?_)
        refine Sg.g (fun _ => ?_)
        refine Sg.let_c ?_
        refine Sg.let_v (fun v7_147 => ?_)
        refine Sg.let_v (fun v8_150 => ?_)
        exact gb_X12_opens_152_f15 (fun h => ih h) _ ⟨by omega, by omega⟩ hah
theorem gb_X12_opens_112 {a0 : IH} {N : Nat} {ah : IH} {v2 : Int} {v3 : Int} {v4 : Int}  (hah : Fg rgM lf_X12_opens a0 ah) : Sg gpV rgM lf_X12_opens a0 (G_X12_opens_112 N ah v2 v3 v4) := by
  unfold G_X12_opens_112
  refine Sg.let_v (fun v5_113 => ?_)
  exact gb_X12_opens_115 _ hah
theorem gb_X12_opens {a0 : IH} {N : Nat} {ah : IH} {p1 : Int}  (hah : Fg rgM lf_X12_opens a0 ah) : Sg gpV rgM lf_X12_opens a0 (G_X12_opens N ah p1) := by
  unfold G_X12_opens
  refine Sg.g (fun _ => ?_)
  refine Sg.let_v (fun v2_6 => ?_)
  refine Sg.let_v (fun v3_12 => ?_)
  refine Sg.let_v (fun v4_18 => ?_)
  refine Sg.let_xu hah rfl (fun a27 ha27 => ?_)
  refine Sg.g (fun _ => ?_)
  refine Sg.g (fun _ => ?_)
  refine Sg.let_xu ha27 rfl (fun a44 ha44 => ?_)
  refine Sg.g (fun _ => ?_)
  refine Sg.let_xu ha44 rfl (fun a51 ha51 => ?_)
  refine Sg.let_xu ha51 rfl (fun a59 ha59 => ?_)
  refine Sg.ite ?_ ?_
  · refine Sg.g (fun _ => ?_)
    refine Sg.ite ?_ ?_
    · exact gb_X12_opens_112 ha59
    · refine Sg.g (fun _ => ?_)
      refine Sg.g (fun _ => ?_)
      refine Sg.g (fun _ => ?_)
      refine Sg.g (fun _ => ?_)
      refine Sg.g (fun _ => ?_)
      refine Sg.let_xu ha59 rfl (fun a111 ha111 => ?_)
      exact gb_X12_opens_112 ha111
  · exact gb_X12_opens_112 ha59
theorem gb_X12_searches_201 {a0 : IH} {N : Nat} {k80 : IH → Int → Option IH} {ah : IH} {v1 : Int} (hk80 : ∀ {z0 : IH} {z1 : Int}, Fg rgM lf_X12_searches a0 z0 → Sg gpV rgM lf_X12_searches a0 (k80 z0 z1)) (hah : Fg rgM lf_X12_searches a0 ah) : Sg gpV rgM lf_X12_searches a0 (G_X12_searches_201 N k80 ah v1) := by
  unfold G_X12_searches_201
  exact hk80 hah
theorem gb_X12_searches_138 {a0 : IH} {N : Nat} {k80 : IH → Int → Option IH} {ah : IH} {v1 : Int} {v2 : Int} (hk80 : ∀ {z0 : IH} {z1 : Int}, Fg rgM lf_X12_searches a0 z0 → Sg gpV rgM lf_X12_searches a0 (k80 z0 z1)) (hah : Fg rgM lf_X12_searches a0 ah) : Sg gpV rgM lf_X12_searches a0 (G_X12_searches_138 N k80 ah v1 v2) := by
  unfold G_X12_searches_138
  refine Sg.g (fun _ => ?_)
  refine Sg.let_xu hah rfl (fun a147 ha147 => ?_)
  refine Sg.g (fun _ => ?_)
  refine Sg.g (fun _ => ?_)
  refine Sg.let_xu ha147 rfl (fun a162 ha162 => ?_)
  refine Sg.g (fun _ => ?_)
  refine Sg.let_xu ha162 rfl (fun a175 ha175 => ?_)
  refine Sg.let_xu ha175 rfl (fun a183 ha183 => ?_)
  refine Sg.g (fun _ => ?_)
  refine Sg.let_xu ha183 rfl (fun a192 ha192 => ?_)
  exact gb_X12_searches_201 hk80 ha192
theorem gb_X12_searches_196 {a0 : IH} {N : Nat} {k80 : IH → Int → Option IH} {ah : IH} {v1 : Int} {v3 : Int} (hk80 : ∀ {z0 : IH} {z1 : Int}, Fg rgM lf_X12_searches a0 z0 → Sg gpV rgM lf_X12_searches a0 (k80 z0 z1)) (hah : Fg rgM lf_X12_searches a0 ah) : Sg gpV rgM lf_X12_searches a0 (G_X12_searches_196 N k80 ah v1 v3) := by
  unfold G_X12_searches_196
  refine Sg.bv (gb_X12_opens Fg.rf) hah rfl (fun a198 ha198 => ?_)
  exact gb_X12_searches_201 hk80 ha198
theorem gb_X12_searches_109 {a0 : IH} {N : Nat} {k80 : IH → Int → Option IH} {ah : IH} {v1 : Int} {v2 : Int} {v3 : Int} (hk80 : ∀ {z0 : IH} {z1 : Int}, Fg rgM lf_X12_searches a0 z0 → Sg gpV rgM lf_X12_searches a0 (k80 z0 z1)) (hah : Fg rgM lf_X12_searches a0 ah) : Sg gpV rgM lf_X12_searches a0 (G_X12_searches_109 N k80 ah v1 v2 v3) := by
  unfold G_X12_searches_109
  refine Sg.ite ?_ ?_
  · exact gb_X12_searches_196 hk80 hah
  · refine Sg.ite ?_ ?_
    · exact gb_X12_searches_138 hk80 hah
    · refine Sg.g (fun _ => ?_)
      refine Sg.g (fun _ => ?_)
      refine Sg.b (gb_X12_boundOf Fg.rf) hah rfl (fun r132 a132 ha132 => ?_)
      refine Sg.ite ?_ ?_
      · exact gb_X12_searches_196 hk80 ha132
      · exact gb_X12_searches_138 hk80 ha132
theorem gb_X12_searches_80 {a0 : IH} {N : Nat}  : ∀ (n : Nat) {ah : IH} {v1 : Int}  (hah : Fg rgM lf_X12_searches a0 ah), Sg gpV rgM lf_X12_searches a0 (G_X12_searches_80 N n ah v1) := by
  intro n
  induction n with
  | zero => intros; exact Sg.none
  | succ n ih =>
    intro ah v1  hah
    unfold G_X12_searches_80
    refine Sg.ite ?_ ?_
    · exact Sg.ret hah
    · refine Sg.b (gb_X12_firstAnswer Fg.rf) hah rfl (fun r89 a89 ha89 => ?_)
      refine Sg.let_v (fun v2_92 => ?_)
      refine Sg.b (gb_X12_firstState Fg.rf) ha89 rfl (fun r94 a94 ha94 => ?_)
      refine Sg.let_v (fun v3_97 => ?_)
      refine Sg.ite ?_ ?_
      · refine Sg.ite ?_ ?_
        · exact Sg.ret ha94
        · exact gb_X12_searches_109 (fun h => ih h) ha94
      · exact gb_X12_searches_109 (fun h => ih h) ha94
theorem gb_X12_searches_46 {a0 : IH} {N : Nat}  : ∀ (n : Nat) {ah : IH} {v1 : Int} {v2 : Int}  (hah : Fg rgM lf_X12_searches a0 ah), Sg gpV rgM lf_X12_searches a0 (G_X12_searches_46 N n ah v1 v2) := by
  intro n
  induction n with
  | zero => intros; exact Sg.none
  | succ n ih =>
    intro ah v1 v2  hah
    unfold G_X12_searches_46
    refine Sg.ite ?_ ?_
    · refine Sg.ite ?_ ?_
      · exact gb_X12_searches_80 _ hah
      · refine Sg.bv (gb_X12_waitsFor Fg.rf) hah rfl (fun a77 ha77 => ?_)
        exact gb_X12_searches_80 _ ha77
    · refine Sg.g (fun _ => ?_)
      refine Sg.let_xu hah rfl (fun a60 ha60 => ?_)
      refine Sg.let_v (fun v2_61 => ?_)
      exact ih ha60
theorem gb_X12_searches_17 {a0 : IH} {N : Nat}  : ∀ (n : Nat) {ah : IH} {v1 : Int} {v2 : Int}  (hah : Fg rgM lf_X12_searches a0 ah), Sg gpV rgM lf_X12_searches a0 (G_X12_searches_17 N n ah v1 v2) := by
  intro n
  induction n with
  | zero => intros; exact Sg.none
  | succ n ih =>
    intro ah v1 v2  hah
    unfold G_X12_searches_17
    refine Sg.ite ?_ ?_
    · refine Sg.let_v (fun v2_45 => ?_)
      exact gb_X12_searches_46 _ hah
    · refine Sg.g (fun _ => ?_)
      refine Sg.let_xu hah rfl (fun a37 ha37 => ?_)
      refine Sg.let_v (fun v2_38 => ?_)
      exact ih ha37
theorem gb_X12_searches {a0 : IH} {N : Nat} {ah : IH} {p1 : Int}  (hah : Fg rgM lf_X12_searches a0 ah) : Sg gpV rgM lf_X12_searches a0 (G_X12_searches N ah p1) := by
  unfold G_X12_searches
  refine Sg.let_xu hah rfl (fun a2 ha2 => ?_)
  refine Sg.let_xu ha2 rfl (fun a7 ha7 => ?_)
  refine Sg.let_xu ha7 rfl (fun a12 ha12 => ?_)
  refine Sg.let_v (fun v2_16 => ?_)
  exact gb_X12_searches_17 _ ha12
theorem gb_X12_outside {a0 : IH} {N : Nat} {ah : IH}  (hah : Fg rgM lf_X12_outside a0 ah) : Sg gpI rgM lf_X12_outside a0 (G_X12_outside N ah) := by
  unfold G_X12_outside
  exact Sg.ret hah
theorem gb_X12_told_21 {a0 : IH} {N : Nat} {ah : IH} {v1 : Int} {s1 : Int}  (hah : Fg rgM lf_X12_told a0 ah) : Sg gpI rgM lf_X12_told a0 (G_X12_told_21 N ah v1 s1) := by
  unfold G_X12_told_21
  refine Sg.b (gb_X12_bad Fg.rf) hah rfl (fun r23 a23 ha23 => ?_)
  refine Sg.ite ?_ ?_
  · refine Sg.ite ?_ ?_
    · refine Sg.g (fun _ => ?_)
      exact Sg.ret ha23
    · refine Sg.ite ?_ ?_
      · refine Sg.g (fun _ => ?_)
        exact Sg.ret ha23
      · refine Sg.ite ?_ ?_
        · exact Sg.ret ha23
        · refine Sg.ite ?_ ?_
          · exact Sg.ret ha23
          · refine Sg.ite ?_ ?_
            · exact Sg.ret ha23
            · refine Sg.ite ?_ ?_
              · exact Sg.ret ha23
              · refine Sg.ite ?_ ?_
                · refine Sg.ite ?_ ?_
                  · exact Sg.ret ha23
                  · exact Sg.ret ha23
                · refine Sg.ite ?_ ?_
                  · refine Sg.g (fun _ => ?_)
                    exact Sg.ret ha23
                  · refine Sg.ite ?_ ?_
                    · refine Sg.g (fun _ => ?_)
                      exact Sg.ret ha23
                    · refine Sg.ite ?_ ?_
                      · refine Sg.g (fun _ => ?_)
                        exact Sg.ret ha23
                      · refine Sg.ite ?_ ?_
                        · refine Sg.g (fun _ => ?_)
                          exact Sg.ret ha23
                        · refine Sg.ite ?_ ?_
                          · refine Sg.g (fun _ => ?_)
                            exact Sg.ret ha23
                          · refine Sg.ite ?_ ?_
                            · refine Sg.g (fun _ => ?_)
                              exact Sg.ret ha23
                            · refine Sg.ite ?_ ?_
                              · exact Sg.ret ha23
                              · refine Sg.ite ?_ ?_
                                · exact Sg.ret ha23
                                · exact Sg.none
  · exact Sg.ret ha23
theorem gb_X12_told {a0 : IH} {N : Nat} {ah : IH} {p1 : Int}  (hah : Fg rgM lf_X12_told a0 ah) : Sg gpI rgM lf_X12_told a0 (G_X12_told N ah p1) := by
  unfold G_X12_told
  refine Sg.let_xu hah rfl (fun a2 ha2 => ?_)
  refine Sg.b (gb_X12_in Fg.rf) ha2 rfl (fun r10 a10 ha10 => ?_)
  refine Sg.ite ?_ ?_
  · exact gb_X12_told_21 ha10
  · exact gb_X12_told_21 ha10
theorem gb_X12_word_42 {a0 : IH} {N : Nat} {ah : IH} {v1 : Int} {v2 : Int} {s1 : Int}  (hah : Fg rgM lf_X12_word a0 ah) : Sg gpI rgM lf_X12_word a0 (G_X12_word_42 N ah v1 v2 s1) := by
  unfold G_X12_word_42
  refine Sg.b (gb_X12_bad Fg.rf) hah rfl (fun r44 a44 ha44 => ?_)
  refine Sg.ite ?_ ?_
  · refine Sg.ite ?_ ?_
    · refine Sg.g (fun _ => ?_)
      exact Sg.ret ha44
    · refine Sg.ite ?_ ?_
      · refine Sg.g (fun _ => ?_)
        exact Sg.ret ha44
      · refine Sg.ite ?_ ?_
        · refine Sg.g (fun _ => ?_)
          exact Sg.ret ha44
        · refine Sg.g (fun _ => ?_)
          refine Sg.g (fun _ => ?_)
          exact Sg.ret ha44
  · exact Sg.ret ha44
theorem gb_X12_word_19 {a0 : IH} {N : Nat} {ah : IH} {v1 : Int} {v2 : Int} {s1 : Int}  (hah : Fg rgM lf_X12_word a0 ah) : Sg gpI rgM lf_X12_word a0 (G_X12_word_19 N ah v1 v2 s1) := by
  unfold G_X12_word_19
  refine Sg.b (gb_X12_bad Fg.rf) hah rfl (fun r21 a21 ha21 => ?_)
  refine Sg.ite ?_ ?_
  · refine Sg.b (gb_X12_in Fg.rf) ha21 rfl (fun r31 a31 ha31 => ?_)
    refine Sg.ite ?_ ?_
    · exact gb_X12_word_42 ha31
    · exact gb_X12_word_42 ha31
  · exact Sg.ret ha21
theorem gb_X12_word {a0 : IH} {N : Nat} {ah : IH} {p1 : Int} {p2 : Int}  (hah : Fg rgM lf_X12_word a0 ah) : Sg gpI rgM lf_X12_word a0 (G_X12_word N ah p1 p2) := by
  unfold G_X12_word
  refine Sg.let_xu hah rfl (fun a2 ha2 => ?_)
  refine Sg.b (gb_X12_isWord Fg.rf) ha2 rfl (fun r8 a8 ha8 => ?_)
  refine Sg.ite ?_ ?_
  · exact gb_X12_word_19 ha8
  · exact gb_X12_word_19 ha8
theorem gb_X12_sign_19 {a0 : IH} {N : Nat} {ah : IH} {v1 : Int} {v2 : Int} {s1 : Int}  (hah : Fg rgM lf_X12_sign a0 ah) : Sg gpI rgM lf_X12_sign a0 (G_X12_sign_19 N ah v1 v2 s1) := by
  unfold G_X12_sign_19
  refine Sg.b (gb_X12_bad Fg.rf) hah rfl (fun r21 a21 ha21 => ?_)
  refine Sg.ite ?_ ?_
  · refine Sg.g (fun _ => ?_)
    refine Sg.b (gb_X12_in Fg.rf) ha21 rfl (fun r39 a39 ha39 => ?_)
    refine Sg.ite ?_ ?_
    · exact Sg.ret ha39
    · refine Sg.g (fun _ => ?_)
      refine Sg.let_c ?_
      refine Sg.g (fun _ => ?_)
      exact Sg.ret ha39
  · exact Sg.ret ha21
theorem gb_X12_sign {a0 : IH} {N : Nat} {ah : IH} {p1 : Int} {p2 : Int}  (hah : Fg rgM lf_X12_sign a0 ah) : Sg gpI rgM lf_X12_sign a0 (G_X12_sign N ah p1 p2) := by
  unfold G_X12_sign
  refine Sg.let_xu hah rfl (fun a2 ha2 => ?_)
  refine Sg.b (gb_X12_isWord Fg.rf) ha2 rfl (fun r8 a8 ha8 => ?_)
  refine Sg.ite ?_ ?_
  · exact gb_X12_sign_19 ha8
  · exact gb_X12_sign_19 ha8
theorem gb_X12_find_65 {a0 : IH} {N : Nat} {ah : IH} {v2 : Int}  (hah : Fg rgM lf_X12_find a0 ah) : Sg gpI rgM lf_X12_find a0 (G_X12_find_65 N ah v2) := by
  unfold G_X12_find_65
  refine Sg.ite ?_ ?_
  · exact Sg.ret hah
  · refine Sg.g (fun _ => ?_)
    exact Sg.ret hah
theorem gb_X12_find_37 {a0 : IH} {N : Nat}  : ∀ (n : Nat) {ah : IH} {v1 : Int} {v2 : Int} {v3 : Int}  (hah : Fg rgM lf_X12_find a0 ah), Sg gpI rgM lf_X12_find a0 (G_X12_find_37 N n ah v1 v2 v3) := by
  intro n
  induction n with
  | zero => intros; exact Sg.none
  | succ n ih =>
    intro ah v1 v2 v3  hah
    unfold G_X12_find_37
    refine Sg.ite ?_ ?_
    · exact gb_X12_find_65 hah
    · refine Sg.ite ?_ ?_
      · exact gb_X12_find_65 hah
      · refine Sg.g (fun _ => ?_)
        refine Sg.b (gb_X12_childOf Fg.rf) hah rfl (fun r55 a55 ha55 => ?_)
        refine Sg.let_v (fun v2_58 => ?_)
        refine Sg.let_v (fun v3_59 => ?_)
        exact ih ha55
theorem gb_X12_find_23 {a0 : IH} {N : Nat} {ah : IH} {v1 : Int} {s1 : Int}  (hah : Fg rgM lf_X12_find a0 ah) : Sg gpI rgM lf_X12_find a0 (G_X12_find_23 N ah v1 s1) := by
  unfold G_X12_find_23
  refine Sg.b (gb_X12_bad Fg.rf) hah rfl (fun r25 a25 ha25 => ?_)
  refine Sg.ite ?_ ?_
  · refine Sg.let_v (fun v2_34 => ?_)
    refine Sg.let_v (fun v3_36 => ?_)
    exact gb_X12_find_37 _ ha25
  · exact Sg.ret ha25
theorem gb_X12_find {a0 : IH} {N : Nat} {ah : IH} {p1 : Int}  (hah : Fg rgM lf_X12_find a0 ah) : Sg gpI rgM lf_X12_find a0 (G_X12_find N ah p1) := by
  unfold G_X12_find
  refine Sg.let_xu hah rfl (fun a2 ha2 => ?_)
  refine Sg.b (gb_X12_in Fg.rf) ha2 rfl (fun r12 a12 ha12 => ?_)
  refine Sg.ite ?_ ?_
  · exact gb_X12_find_23 ha12
  · exact gb_X12_find_23 ha12
theorem gb_X12_isNode {a0 : IH} {N : Nat} {ah : IH} {p1 : Int}  (hah : Fg rgM lf_X12_isNode a0 ah) : Sg gpI rgM lf_X12_isNode a0 (G_X12_isNode N ah p1) := by
  unfold G_X12_isNode
  refine Sg.b (gb_X12_in Fg.rf) hah rfl (fun r8 a8 ha8 => ?_)
  refine Sg.bo ?_
  exact Sg.ret ha8
theorem gb_X12_children_30 {a0 : IH} {N : Nat} {k6 : IH → Int → Int → Int → Option (Int × IH)} {ah : IH} {v1 : Int} {v3 : Int} {s0 : Int} {s1 : Int} (hk6 : ∀ {z0 : IH} {z1 : Int} {z2 : Int} {z3 : Int}, Fg rgM lf_X12_children a0 z0 → Sg gpI rgM lf_X12_children a0 (k6 z0 z1 z2 z3)) (hah : Fg rgM lf_X12_children a0 ah) : Sg gpI rgM lf_X12_children a0 (G_X12_children_30 N k6 ah v1 v3 s0 s1) := by
  unfold G_X12_children_30
  refine Sg.let_v (fun v2_31 => ?_)
  refine Sg.let_v (fun v3_32 => ?_)
  exact hk6 hah
theorem gb_X12_children_6 {a0 : IH} {N : Nat}  : ∀ (n : Nat) {ah : IH} {v1 : Int} {v2 : Int} {v3 : Int}  (hah : Fg rgM lf_X12_children a0 ah), Sg gpI rgM lf_X12_children a0 (G_X12_children_6 N n ah v1 v2 v3) := by
  intro n
  induction n with
  | zero => intros; exact Sg.none
  | succ n ih =>
    intro ah v1 v2 v3  hah
    unfold G_X12_children_6
    refine Sg.ite ?_ ?_
    · exact Sg.ret hah
    · refine Sg.g (fun _ => ?_)
      refine Sg.ite ?_ ?_
      · exact gb_X12_children_30 (fun h => ih h) hah
      · exact gb_X12_children_30 (fun h => ih h) hah
theorem gb_X12_children {a0 : IH} {N : Nat} {ah : IH} {p1 : Int}  (hah : Fg rgM lf_X12_children a0 ah) : Sg gpI rgM lf_X12_children a0 (G_X12_children N ah p1) := by
  unfold G_X12_children
  refine Sg.let_v (fun v2_1 => ?_)
  refine Sg.let_v (fun v3_5 => ?_)
  exact gb_X12_children_6 _ hah
theorem gb_X12_node_42 {a0 : IH} {N : Nat} {ah : IH} {v1 : Int} {v2 : Int} {s1 : Int}  (hah : Fg rgM lf_X12_node a0 ah) : Sg gpI rgM lf_X12_node a0 (G_X12_node_42 N ah v1 v2 s1) := by
  unfold G_X12_node_42
  refine Sg.b (gb_X12_bad Fg.rf) hah rfl (fun r44 a44 ha44 => ?_)
  refine Sg.ite ?_ ?_
  · refine Sg.ite ?_ ?_
    · refine Sg.g (fun _ => ?_)
      exact Sg.ret ha44
    · refine Sg.ite ?_ ?_
      · refine Sg.g (fun _ => ?_)
        exact Sg.ret ha44
      · refine Sg.ite ?_ ?_
        · refine Sg.g (fun _ => ?_)
          exact Sg.ret ha44
        · refine Sg.ite ?_ ?_
          · refine Sg.g (fun _ => ?_)
            exact Sg.ret ha44
          · refine Sg.ite ?_ ?_
            · refine Sg.g (fun _ => ?_)
              exact Sg.ret ha44
            · refine Sg.ite ?_ ?_
              · refine Sg.g (fun _ => ?_)
                exact Sg.ret ha44
              · refine Sg.ite ?_ ?_
                · refine Sg.b (gb_X12_children Fg.rf) ha44 rfl (fun r118 a118 ha118 => ?_)
                  exact Sg.ret ha118
                · exact Sg.none
  · exact Sg.ret ha44
theorem gb_X12_node_19 {a0 : IH} {N : Nat} {ah : IH} {v1 : Int} {v2 : Int} {s1 : Int}  (hah : Fg rgM lf_X12_node a0 ah) : Sg gpI rgM lf_X12_node a0 (G_X12_node_19 N ah v1 v2 s1) := by
  unfold G_X12_node_19
  refine Sg.b (gb_X12_bad Fg.rf) hah rfl (fun r21 a21 ha21 => ?_)
  refine Sg.ite ?_ ?_
  · refine Sg.b (gb_X12_in Fg.rf) ha21 rfl (fun r31 a31 ha31 => ?_)
    refine Sg.ite ?_ ?_
    · exact gb_X12_node_42 ha31
    · exact gb_X12_node_42 ha31
  · exact Sg.ret ha21
theorem gb_X12_node {a0 : IH} {N : Nat} {ah : IH} {p1 : Int} {p2 : Int}  (hah : Fg rgM lf_X12_node a0 ah) : Sg gpI rgM lf_X12_node a0 (G_X12_node N ah p1 p2) := by
  unfold G_X12_node
  refine Sg.let_xu hah rfl (fun a2 ha2 => ?_)
  refine Sg.b (gb_X12_isNode Fg.rf) ha2 rfl (fun r8 a8 ha8 => ?_)
  refine Sg.ite ?_ ?_
  · exact gb_X12_node_19 ha8
  · exact gb_X12_node_19 ha8
theorem gb_X12_child_19 {a0 : IH} {N : Nat} {ah : IH} {v1 : Int} {v2 : Int} {s1 : Int}  (hah : Fg rgM lf_X12_child a0 ah) : Sg gpI rgM lf_X12_child a0 (G_X12_child_19 N ah v1 v2 s1) := by
  unfold G_X12_child_19
  refine Sg.b (gb_X12_bad Fg.rf) hah rfl (fun r21 a21 ha21 => ?_)
  refine Sg.ite ?_ ?_
  · refine Sg.b (gb_X12_childOf Fg.rf) ha21 rfl (fun r32 a32 ha32 => ?_)
    exact Sg.ret ha32
  · exact Sg.ret ha21
theorem gb_X12_child {a0 : IH} {N : Nat} {ah : IH} {p1 : Int} {p2 : Int}  (hah : Fg rgM lf_X12_child a0 ah) : Sg gpI rgM lf_X12_child a0 (G_X12_child N ah p1 p2) := by
  unfold G_X12_child
  refine Sg.let_xu hah rfl (fun a2 ha2 => ?_)
  refine Sg.b (gb_X12_isNode Fg.rf) ha2 rfl (fun r8 a8 ha8 => ?_)
  refine Sg.ite ?_ ?_
  · exact gb_X12_child_19 ha8
  · exact gb_X12_child_19 ha8
theorem gb_X12_shape_50 {a0 : IH} {N : Nat} {ah : IH} {v1 : Int} {v2 : Int} {s1 : Int}  (hah : Fg rgM lf_X12_shape a0 ah) : Sg gpI rgM lf_X12_shape a0 (G_X12_shape_50 N ah v1 v2 s1) := by
  unfold G_X12_shape_50
  refine Sg.b (gb_X12_bad Fg.rf) hah rfl (fun r52 a52 ha52 => ?_)
  refine Sg.ite ?_ ?_
  · refine Sg.g (fun _ => ?_)
    refine Sg.let_c ?_
    refine Sg.g (fun _ => ?_)
    exact Sg.ret ha52
  · exact Sg.ret ha52
theorem gb_X12_shape_27 {a0 : IH} {N : Nat} {ah : IH} {v1 : Int} {v2 : Int} {s1 : Int}  (hah : Fg rgM lf_X12_shape a0 ah) : Sg gpI rgM lf_X12_shape a0 (G_X12_shape_27 N ah v1 v2 s1) := by
  unfold G_X12_shape_27
  refine Sg.b (gb_X12_bad Fg.rf) hah rfl (fun r29 a29 ha29 => ?_)
  refine Sg.ite ?_ ?_
  · refine Sg.b (gb_X12_in Fg.rf) ha29 rfl (fun r39 a39 ha39 => ?_)
    refine Sg.ite ?_ ?_
    · exact gb_X12_shape_50 ha39
    · exact gb_X12_shape_50 ha39
  · exact Sg.ret ha29
theorem gb_X12_shape {a0 : IH} {N : Nat} {ah : IH} {p1 : Int} {p2 : Int}  (hah : Fg rgM lf_X12_shape a0 ah) : Sg gpI rgM lf_X12_shape a0 (G_X12_shape N ah p1 p2) := by
  unfold G_X12_shape
  refine Sg.let_xu hah rfl (fun a2 ha2 => ?_)
  refine Sg.b (gb_X12_in Fg.rf) ha2 rfl (fun r16 a16 ha16 => ?_)
  refine Sg.ite ?_ ?_
  · exact gb_X12_shape_27 ha16
  · exact gb_X12_shape_27 ha16
theorem gb_X12_isToken {a0 : IH} {N : Nat} {ah : IH} {p1 : Int}  (hah : Fg rgM lf_X12_isToken a0 ah) : Sg gpI rgM lf_X12_isToken a0 (G_X12_isToken N ah p1) := by
  unfold G_X12_isToken
  refine Sg.b (gb_X12_in Fg.rf) hah rfl (fun r10 a10 ha10 => ?_)
  refine Sg.bo ?_
  exact Sg.ret ha10
theorem gb_X12_edgesOfAll_4 {a0 : IH} {N : Nat}  : ∀ (n : Nat) {ah : IH} {v1 : Int} {v2 : Int}  (hah : Fg rgM lf_X12_edgesOfAll a0 ah), Sg gpI rgM lf_X12_edgesOfAll a0 (G_X12_edgesOfAll_4 N n ah v1 v2) := by
  intro n
  induction n with
  | zero => intros; exact Sg.none
  | succ n ih =>
    intro ah v1 v2  hah
    unfold G_X12_edgesOfAll_4
    refine Sg.ite ?_ ?_
    · exact Sg.ret hah
    · refine Sg.g (fun _ => ?_)
      refine Sg.let_v (fun v1_20 => ?_)
      refine Sg.let_v (fun v2_21 => ?_)
      exact ih hah
theorem gb_X12_edgesOfAll {a0 : IH} {N : Nat} {ah : IH}  (hah : Fg rgM lf_X12_edgesOfAll a0 ah) : Sg gpI rgM lf_X12_edgesOfAll a0 (G_X12_edgesOfAll N ah) := by
  unfold G_X12_edgesOfAll
  refine Sg.let_v (fun v1_1 => ?_)
  refine Sg.let_v (fun v2_3 => ?_)
  exact gb_X12_edgesOfAll_4 _ hah
theorem gb_X12_breaks_39 {a0 : IH} {N : Nat} {k4 : IH → Int → Int → Int → Option (Int × IH)} {ah : IH} {v1 : Int} {v3 : Int} {s0 : Int} {s1 : Int} (hk4 : ∀ {z0 : IH} {z1 : Int} {z2 : Int} {z3 : Int}, Fg rgM lf_X12_breaks a0 z0 → Sg gpI rgM lf_X12_breaks a0 (k4 z0 z1 z2 z3)) (hah : Fg rgM lf_X12_breaks a0 ah) : Sg gpI rgM lf_X12_breaks a0 (G_X12_breaks_39 N k4 ah v1 v3 s0 s1) := by
  unfold G_X12_breaks_39
  refine Sg.let_v (fun v2_40 => ?_)
  refine Sg.let_v (fun v3_41 => ?_)
  exact hk4 hah
theorem gb_X12_breaks_4 {a0 : IH} {N : Nat}  : ∀ (n : Nat) {ah : IH} {v1 : Int} {v2 : Int} {v3 : Int}  (hah : Fg rgM lf_X12_breaks a0 ah), Sg gpI rgM lf_X12_breaks a0 (G_X12_breaks_4 N n ah v1 v2 v3) := by
  intro n
  induction n with
  | zero => intros; exact Sg.none
  | succ n ih =>
    intro ah v1 v2 v3  hah
    unfold G_X12_breaks_4
    refine Sg.let_c ?_
    refine Sg.g (fun _ => ?_)
    refine Sg.ite ?_ ?_
    · exact Sg.ret hah
    · refine Sg.g (fun _ => ?_)
      refine Sg.g (fun _ => ?_)
      refine Sg.let_c ?_
      refine Sg.ite ?_ ?_
      · exact gb_X12_breaks_39 (fun h => ih h) hah
      · exact gb_X12_breaks_39 (fun h => ih h) hah
theorem gb_X12_breaks {a0 : IH} {N : Nat} {ah : IH} {p1 : Int}  (hah : Fg rgM lf_X12_breaks a0 ah) : Sg gpI rgM lf_X12_breaks a0 (G_X12_breaks N ah p1) := by
  unfold G_X12_breaks
  refine Sg.let_v (fun v2_1 => ?_)
  refine Sg.let_v (fun v3_3 => ?_)
  exact gb_X12_breaks_4 _ hah
theorem gb_X12_readAs_44 {a0 : IH} {N : Nat} {k4 : IH → Int → Int → Option (Int × IH)} {ah : IH} {v1 : Int} {v2 : Int} (hk4 : ∀ {z0 : IH} {z1 : Int} {z2 : Int}, Fg rgM lf_X12_readAs a0 z0 → Sg gpI rgM lf_X12_readAs a0 (k4 z0 z1 z2)) (hah : Fg rgM lf_X12_readAs a0 ah) : Sg gpI rgM lf_X12_readAs a0 (G_X12_readAs_44 N k4 ah v1 v2) := by
  unfold G_X12_readAs_44
  refine Sg.let_v (fun v2_44 => ?_)
  exact hk4 hah
theorem gb_X12_readAs_50 {a0 : IH} {N : Nat} {ah : IH} {v1 : Int}  (hah : Fg rgM lf_X12_readAs a0 ah) : Sg gpI rgM lf_X12_readAs a0 (G_X12_readAs_50 N ah v1) := by
  unfold G_X12_readAs_50
  refine Sg.ite ?_ ?_
  · exact Sg.ret hah
  · refine Sg.g (fun _ => ?_)
    exact Sg.ret hah
theorem gb_X12_readAs_4 {a0 : IH} {N : Nat}  : ∀ (n : Nat) {ah : IH} {v1 : Int} {v2 : Int}  (hah : Fg rgM lf_X12_readAs a0 ah), Sg gpI rgM lf_X12_readAs a0 (G_X12_readAs_4 N n ah v1 v2) := by
  intro n
  induction n with
  | zero => intros; exact Sg.none
  | succ n ih =>
    intro ah v1 v2  hah
    unfold G_X12_readAs_4
    refine Sg.ite ?_ ?_
    · exact gb_X12_readAs_50 hah
    · refine Sg.ite ?_ ?_
      · exact gb_X12_readAs_50 hah
      · refine Sg.g (fun _ => ?_)
        refine Sg.let_c ?_
        refine Sg.ite ?_ ?_
        · exact gb_X12_readAs_44 (fun h => ih h) hah
        · refine Sg.g (fun _ => ?_)
          refine Sg.let_c ?_
          refine Sg.b (gb_X12_childOf Fg.rf) hah rfl (fun r40 a40 ha40 => ?_)
          refine Sg.let_v (fun v1_43 => ?_)
          exact gb_X12_readAs_44 (fun h => ih h) ha40
theorem gb_X12_readAs {a0 : IH} {N : Nat} {ah : IH}  (hah : Fg rgM lf_X12_readAs a0 ah) : Sg gpI rgM lf_X12_readAs a0 (G_X12_readAs N ah) := by
  unfold G_X12_readAs
  refine Sg.let_v (fun v1_1 => ?_)
  refine Sg.let_v (fun v2_3 => ?_)
  exact gb_X12_readAs_4 _ hah
theorem gb_X12_token_43 {a0 : IH} {N : Nat} {ah : IH} {v1 : Int} {v2 : Int} {s1 : Int}  (hah : Fg rgM lf_X12_token a0 ah) : Sg gpI rgM lf_X12_token a0 (G_X12_token_43 N ah v1 v2 s1) := by
  unfold G_X12_token_43
  refine Sg.b (gb_X12_bad Fg.rf) hah rfl (fun r45 a45 ha45 => ?_)
  refine Sg.ite ?_ ?_
  · refine Sg.bv (gb_X12_laysToken Fg.rf) ha45 rfl (fun a56 ha56 => ?_)
    refine Sg.ite ?_ ?_
    · refine Sg.b (gb_X12_readAs Fg.rf) ha56 rfl (fun r161 a161 ha161 => ?_)
      refine Sg.ite ?_ ?_
      · exact Sg.ret ha161
      · exact Sg.ret ha161
    · refine Sg.ite ?_ ?_
      · refine Sg.b (gb_X12_readAs Fg.rf) ha56 rfl (fun r161 a161 ha161 => ?_)
        refine Sg.ite ?_ ?_
        · exact Sg.ret ha161
        · exact Sg.ret ha161
      · refine Sg.ite ?_ ?_
        · exact Sg.ret ha56
        · refine Sg.ite ?_ ?_
          · refine Sg.let_c ?_
            refine Sg.g (fun _ => ?_)
            exact Sg.ret ha56
          · refine Sg.ite ?_ ?_
            · refine Sg.b (gb_X12_breaks Fg.rf) ha56 rfl (fun r116 a116 ha116 => ?_)
              exact Sg.ret ha116
            · refine Sg.ite ?_ ?_
              · refine Sg.b (gb_X12_edgesOfAll Fg.rf) ha56 rfl (fun r121 a121 ha121 => ?_)
                exact Sg.ret ha121
              · refine Sg.ite ?_ ?_
                · refine Sg.b (gb_X12_outside Fg.rf) ha56 rfl (fun r126 a126 ha126 => ?_)
                  exact Sg.ret ha126
                · refine Sg.ite ?_ ?_
                  · refine Sg.ite ?_ ?_
                    · exact Sg.ret ha56
                    · refine Sg.let_c ?_
                      refine Sg.g (fun _ => ?_)
                      refine Sg.ite ?_ ?_
                      · exact Sg.ret ha56
                      · exact Sg.ret ha56
                  · exact Sg.none
  · exact Sg.ret ha45
theorem gb_X12_token_19 {a0 : IH} {N : Nat} {ah : IH} {v1 : Int} {v2 : Int} {s1 : Int}  (hah : Fg rgM lf_X12_token a0 ah) : Sg gpI rgM lf_X12_token a0 (G_X12_token_19 N ah v1 v2 s1) := by
  unfold G_X12_token_19
  refine Sg.b (gb_X12_bad Fg.rf) hah rfl (fun r21 a21 ha21 => ?_)
  refine Sg.ite ?_ ?_
  · refine Sg.b (gb_X12_in Fg.rf) ha21 rfl (fun r32 a32 ha32 => ?_)
    refine Sg.ite ?_ ?_
    · exact gb_X12_token_43 ha32
    · exact gb_X12_token_43 ha32
  · exact Sg.ret ha21
theorem gb_X12_token {a0 : IH} {N : Nat} {ah : IH} {p1 : Int} {p2 : Int}  (hah : Fg rgM lf_X12_token a0 ah) : Sg gpI rgM lf_X12_token a0 (G_X12_token N ah p1 p2) := by
  unfold G_X12_token
  refine Sg.let_xu hah rfl (fun a2 ha2 => ?_)
  refine Sg.b (gb_X12_isToken Fg.rf) ha2 rfl (fun r8 a8 ha8 => ?_)
  refine Sg.ite ?_ ?_
  · exact gb_X12_token_19 ha8
  · exact gb_X12_token_19 ha8
theorem gb_X12_cell_151_f10 {a0 : IH} {N : Nat} {k110 : IH → Int → Int → Int → Option (Int × IH)} {ah : IH} {x5 : Int} {v7 : Int} {s0 : Int} (hk110 : ∀ {z0 : IH} {z1 : Int} {z2 : Int} {z3 : Int}, 285 ≤ z1 ∧ z1 < 2205 → Fg rgM lf_X12_cell a0 z0 → Sg gpI rgM lf_X12_cell a0 (k110 z0 z1 z2 z3)) (hx5 : 285 ≤ x5 ∧ x5 < 2205) (hah : Fg rgM lf_X12_cell a0 ah) : Sg gpI rgM lf_X12_cell a0 (G_X12_cell_151 N k110 ah x5 v7 s0) := by
  unfold G_X12_cell_151
  refine Sg.let_v (fun v6_151 => ?_)
  refine Sg.let_v (fun v7_153 => ?_)
  exact hk110 ⟨by omega, by omega⟩ hah
theorem gb_X12_cell_110_f10 {a0 : IH} {N : Nat}  : ∀ (n : Nat) {ah : IH} {x5 : Int} {v6 : Int} {v7 : Int} (hx5 : 285 ≤ x5 ∧ x5 < 2205) (hah : Fg rgM lf_X12_cell a0 ah), Sg gpI rgM lf_X12_cell a0 (G_X12_cell_110 N n ah x5 v6 v7) := by
  intro n
  induction n with
  | zero => intros; exact Sg.none
  | succ n ih =>
    intro ah x5 v6 v7 hx5 hah
    unfold G_X12_cell_110
    refine Sg.ite ?_ ?_
    · exact Sg.ret hah
    · refine Sg.ite ?_ ?_
      · refine Sg.g (fun _ => ?_)
        exact gb_X12_cell_151_f10 (fun x0 h => ih x0 h) ⟨by omega, by omega⟩ hah
      · refine Sg.g (fun _ => ?_)
        refine Sg.b (gb_X12_less Fg.rf) hah rfl (fun r148 a148 ha148 => ?_)
        exact gb_X12_cell_151_f10 (fun x0 h => ih x0 h) ⟨by omega, by omega⟩ ha148
theorem gb_X12_cell_72 {a0 : IH} {N : Nat} {ah : IH} {v1 : Int} {v2 : Int} {v3 : Int} {s1 : Int}  (hah : Fg rgM lf_X12_cell a0 ah) : Sg gpI rgM lf_X12_cell a0 (G_X12_cell_72 N ah v1 v2 v3 s1) := by
  unfold G_X12_cell_72
  refine Sg.b (gb_X12_bad Fg.rf) hah rfl (fun r74 a74 ha74 => ?_)
  refine Sg.ite ?_ ?_
  · refine Sg.g (fun _ => ?_)
    refine Sg.g (fun _ => ?_)
    refine Sg.let_c ?_
    refine Sg.ite ?_ ?_
    · refine Sg.let_v (fun v6_105 => ?_)
      refine Sg.let_v (fun v7_108 => ?_)
      exact gb_X12_cell_110_f10 _ ⟨by omega, by omega⟩ ha74
    · refine Sg.g (fun _ => ?_)
      exact Sg.ret ha74
  · exact Sg.ret ha74
theorem gb_X12_cell_49 {a0 : IH} {N : Nat} {ah : IH} {v1 : Int} {v2 : Int} {v3 : Int} {s1 : Int}  (hah : Fg rgM lf_X12_cell a0 ah) : Sg gpI rgM lf_X12_cell a0 (G_X12_cell_49 N ah v1 v2 v3 s1) := by
  unfold G_X12_cell_49
  refine Sg.b (gb_X12_bad Fg.rf) hah rfl (fun r51 a51 ha51 => ?_)
  refine Sg.ite ?_ ?_
  · refine Sg.b (gb_X12_in Fg.rf) ha51 rfl (fun r61 a61 ha61 => ?_)
    refine Sg.ite ?_ ?_
    · exact gb_X12_cell_72 ha61
    · exact gb_X12_cell_72 ha61
  · exact Sg.ret ha51
theorem gb_X12_cell_36 {a0 : IH} {N : Nat} {ah : IH} {v1 : Int} {v2 : Int} {v3 : Int} {s0 : Int}  (hah : Fg rgM lf_X12_cell a0 ah) : Sg gpI rgM lf_X12_cell a0 (G_X12_cell_36 N ah v1 v2 v3 s0) := by
  unfold G_X12_cell_36
  refine Sg.let_v (fun v4_36 => ?_)
  refine Sg.ite ?_ ?_
  · exact gb_X12_cell_49 hah
  · exact gb_X12_cell_49 hah
theorem gb_X12_cell_35 {a0 : IH} {N : Nat} {ah : IH} {v1 : Int} {v2 : Int} {v3 : Int}  (hah : Fg rgM lf_X12_cell a0 ah) : Sg gpI rgM lf_X12_cell a0 (G_X12_cell_35 N ah v1 v2 v3) := by
  unfold G_X12_cell_35
  exact gb_X12_cell_36 hah
theorem gb_X12_cell {a0 : IH} {N : Nat} {ah : IH} {p1 : Int} {p2 : Int} {p3 : Int}  (hah : Fg rgM lf_X12_cell a0 ah) : Sg gpI rgM lf_X12_cell a0 (G_X12_cell N ah p1 p2 p3) := by
  unfold G_X12_cell
  refine Sg.let_xu hah rfl (fun a2 ha2 => ?_)
  refine Sg.b (gb_X12_isToken Fg.rf) ha2 rfl (fun r7 a7 ha7 => ?_)
  refine Sg.ite ?_ ?_
  · exact gb_X12_cell_35 ha7
  · refine Sg.let_c ?_
    refine Sg.g (fun _ => ?_)
    refine Sg.b (gb_X12_in Fg.rf) ha7 rfl (fun r25 a25 ha25 => ?_)
    refine Sg.ite ?_ ?_
    · exact gb_X12_cell_35 ha25
    · exact gb_X12_cell_36 ha25
theorem gb_X12_rest_45 {a0 : IH} {N : Nat} {ah : IH} {v1 : Int} {v2 : Int} {s1 : Int}  (hah : Fg rgM lf_X12_rest a0 ah) : Sg gpI rgM lf_X12_rest a0 (G_X12_rest_45 N ah v1 v2 s1) := by
  unfold G_X12_rest_45
  refine Sg.b (gb_X12_bad Fg.rf) hah rfl (fun r47 a47 ha47 => ?_)
  refine Sg.ite ?_ ?_
  · refine Sg.bv (gb_X12_laysToken Fg.rf) ha47 rfl (fun a58 ha58 => ?_)
    refine Sg.g (fun _ => ?_)
    exact Sg.ret ha58
  · exact Sg.ret ha47
theorem gb_X12_rest_34 {a0 : IH} {N : Nat} {ah : IH} {v1 : Int} {v2 : Int} {s0 : Int}  (hah : Fg rgM lf_X12_rest a0 ah) : Sg gpI rgM lf_X12_rest a0 (G_X12_rest_34 N ah v1 v2 s0) := by
  unfold G_X12_rest_34
  refine Sg.let_v (fun v3_34 => ?_)
  refine Sg.ite ?_ ?_
  · exact gb_X12_rest_45 hah
  · exact gb_X12_rest_45 hah
theorem gb_X12_rest_33 {a0 : IH} {N : Nat} {ah : IH} {v1 : Int} {v2 : Int}  (hah : Fg rgM lf_X12_rest a0 ah) : Sg gpI rgM lf_X12_rest a0 (G_X12_rest_33 N ah v1 v2) := by
  unfold G_X12_rest_33
  exact gb_X12_rest_34 hah
theorem gb_X12_rest {a0 : IH} {N : Nat} {ah : IH} {p1 : Int} {p2 : Int}  (hah : Fg rgM lf_X12_rest a0 ah) : Sg gpI rgM lf_X12_rest a0 (G_X12_rest N ah p1 p2) := by
  unfold G_X12_rest
  refine Sg.let_xu hah rfl (fun a2 ha2 => ?_)
  refine Sg.b (gb_X12_isToken Fg.rf) ha2 rfl (fun r7 a7 ha7 => ?_)
  refine Sg.ite ?_ ?_
  · exact gb_X12_rest_33 ha7
  · refine Sg.let_c ?_
    refine Sg.g (fun _ => ?_)
    refine Sg.b (gb_X12_in Fg.rf) ha7 rfl (fun r23 a23 ha23 => ?_)
    refine Sg.ite ?_ ?_
    · exact gb_X12_rest_33 ha23
    · exact gb_X12_rest_34 ha23
theorem gb_X12_best_42 {a0 : IH} {N : Nat} {ah : IH} {v1 : Int} {v2 : Int} {v3 : Int} {s1 : Int}  (hah : Fg rgM lf_X12_best a0 ah) : Sg gpI rgM lf_X12_best a0 (G_X12_best_42 N ah v1 v2 v3 s1) := by
  unfold G_X12_best_42
  refine Sg.b (gb_X12_bad Fg.rf) hah rfl (fun r44 a44 ha44 => ?_)
  refine Sg.ite ?_ ?_
  · refine Sg.b (gb_X12_in Fg.rf) ha44 rfl (fun r56 a56 ha56 => ?_)
    refine Sg.ite ?_ ?_
    · exact Sg.ret ha56
    · refine Sg.bv (gb_X12_laysToken Fg.rf) ha56 rfl (fun a67 ha67 => ?_)
      refine Sg.bv (gb_X12_searches Fg.rf) ha67 rfl (fun a74 ha74 => ?_)
      refine Sg.ite ?_ ?_
      · refine Sg.ite ?_ ?_
        · refine Sg.g (fun _ => ?_)
          exact Sg.ret ha74
        · refine Sg.ite ?_ ?_
          · refine Sg.g (fun _ => ?_)
            exact Sg.ret ha74
          · refine Sg.g (fun _ => ?_)
            exact Sg.ret ha74
      · exact Sg.ret ha74
  · exact Sg.ret ha44
theorem gb_X12_best_19 {a0 : IH} {N : Nat} {ah : IH} {v1 : Int} {v2 : Int} {v3 : Int} {s1 : Int}  (hah : Fg rgM lf_X12_best a0 ah) : Sg gpI rgM lf_X12_best a0 (G_X12_best_19 N ah v1 v2 v3 s1) := by
  unfold G_X12_best_19
  refine Sg.b (gb_X12_bad Fg.rf) hah rfl (fun r21 a21 ha21 => ?_)
  refine Sg.ite ?_ ?_
  · refine Sg.b (gb_X12_in Fg.rf) ha21 rfl (fun r31 a31 ha31 => ?_)
    refine Sg.ite ?_ ?_
    · exact gb_X12_best_42 ha31
    · exact gb_X12_best_42 ha31
  · exact Sg.ret ha21
theorem gb_X12_best {a0 : IH} {N : Nat} {ah : IH} {p1 : Int} {p2 : Int} {p3 : Int}  (hah : Fg rgM lf_X12_best a0 ah) : Sg gpI rgM lf_X12_best a0 (G_X12_best N ah p1 p2 p3) := by
  unfold G_X12_best
  refine Sg.let_xu hah rfl (fun a2 ha2 => ?_)
  refine Sg.b (gb_X12_isToken Fg.rf) ha2 rfl (fun r8 a8 ha8 => ?_)
  refine Sg.ite ?_ ?_
  · exact gb_X12_best_19 ha8
  · exact gb_X12_best_19 ha8
theorem gb_X12_priceOf {a0 : IH} {N : Nat} {ah : IH} {p1 : Int}  (hah : Fg rgM lf_X12_priceOf a0 ah) : Sg gpI rgM lf_X12_priceOf a0 (G_X12_priceOf N ah p1) := by
  unfold G_X12_priceOf
  refine Sg.b (gb_X12_spells Fg.rf) hah rfl (fun r2 a2 ha2 => ?_)
  refine Sg.let_v (fun v2_5 => ?_)
  refine Sg.ite ?_ ?_
  · refine Sg.g (fun _ => ?_)
    exact Sg.ret ha2
  · exact Sg.ret ha2
theorem gb_X12_price_27 {a0 : IH} {N : Nat} {ah : IH} {v1 : Int} {v2 : Int} {s1 : Int}  (hah : Fg rgM lf_X12_price a0 ah) : Sg gpI rgM lf_X12_price a0 (G_X12_price_27 N ah v1 v2 s1) := by
  unfold G_X12_price_27
  refine Sg.b (gb_X12_bad Fg.rf) hah rfl (fun r29 a29 ha29 => ?_)
  refine Sg.ite ?_ ?_
  · refine Sg.bv (gb_X12_laysToken Fg.rf) ha29 rfl (fun a40 ha40 => ?_)
    refine Sg.b (gb_X12_priceOf Fg.rf) ha40 rfl (fun r45 a45 ha45 => ?_)
    exact Sg.ret ha45
  · exact Sg.ret ha29
theorem gb_X12_price_22 {a0 : IH} {N : Nat} {ah : IH} {v1 : Int} {v2 : Int}  (hah : Fg rgM lf_X12_price a0 ah) : Sg gpI rgM lf_X12_price a0 (G_X12_price_22 N ah v1 v2) := by
  unfold G_X12_price_22
  exact gb_X12_price_27 hah
theorem gb_X12_price {a0 : IH} {N : Nat} {ah : IH} {p1 : Int} {p2 : Int}  (hah : Fg rgM lf_X12_price a0 ah) : Sg gpI rgM lf_X12_price a0 (G_X12_price N ah p1 p2) := by
  unfold G_X12_price
  refine Sg.let_xu hah rfl (fun a2 ha2 => ?_)
  refine Sg.b (gb_X12_isToken Fg.rf) ha2 rfl (fun r8 a8 ha8 => ?_)
  refine Sg.ite ?_ ?_
  · exact gb_X12_price_22 ha8
  · refine Sg.b (gb_X12_isWord Fg.rf) ha8 rfl (fun r16 a16 ha16 => ?_)
    refine Sg.ite ?_ ?_
    · exact gb_X12_price_22 ha16
    · exact gb_X12_price_27 ha16
theorem gb_X12_within_94 {a0 : IH} {N : Nat} {k65 : IH → Int → Int → Int → Option (Int × IH)} {ah : IH} {v2 : Int} {v4 : Int} {s0 : Int} {s1 : Int} (hk65 : ∀ {z0 : IH} {z1 : Int} {z2 : Int} {z3 : Int}, Fg rgM lf_X12_within a0 z0 → Sg gpI rgM lf_X12_within a0 (k65 z0 z1 z2 z3)) (hah : Fg rgM lf_X12_within a0 ah) : Sg gpI rgM lf_X12_within a0 (G_X12_within_94 N k65 ah v2 v4 s0 s1) := by
  unfold G_X12_within_94
  refine Sg.let_v (fun v3_95 => ?_)
  refine Sg.let_v (fun v4_96 => ?_)
  exact hk65 hah
theorem gb_X12_within_65 {a0 : IH} {N : Nat}  : ∀ (n : Nat) {ah : IH} {v2 : Int} {v3 : Int} {v4 : Int}  (hah : Fg rgM lf_X12_within a0 ah), Sg gpI rgM lf_X12_within a0 (G_X12_within_65 N n ah v2 v3 v4) := by
  intro n
  induction n with
  | zero => intros; exact Sg.none
  | succ n ih =>
    intro ah v2 v3 v4  hah
    unfold G_X12_within_65
    refine Sg.ite ?_ ?_
    · exact Sg.ret hah
    · refine Sg.b (gb_X12_priceOf Fg.rf) hah rfl (fun r78 a78 ha78 => ?_)
      refine Sg.b (gb_X12_in Fg.rf) ha78 rfl (fun r83 a83 ha83 => ?_)
      refine Sg.ite ?_ ?_
      · exact gb_X12_within_94 (fun h => ih h) ha83
      · exact gb_X12_within_94 (fun h => ih h) ha83
theorem gb_X12_within_44 {a0 : IH} {N : Nat} {ah : IH} {v1 : Int} {v2 : Int} {s1 : Int}  (hah : Fg rgM lf_X12_within a0 ah) : Sg gpI rgM lf_X12_within a0 (G_X12_within_44 N ah v1 v2 s1) := by
  unfold G_X12_within_44
  refine Sg.b (gb_X12_bad Fg.rf) hah rfl (fun r46 a46 ha46 => ?_)
  refine Sg.ite ?_ ?_
  · refine Sg.bv (gb_X12_laysToken Fg.rf) ha46 rfl (fun a57 ha57 => ?_)
    refine Sg.let_v (fun v3_61 => ?_)
    refine Sg.let_v (fun v4_63 => ?_)
    exact gb_X12_within_65 _ ha57
  · exact Sg.ret ha46
theorem gb_X12_within_19 {a0 : IH} {N : Nat} {ah : IH} {v1 : Int} {v2 : Int} {s1 : Int}  (hah : Fg rgM lf_X12_within a0 ah) : Sg gpI rgM lf_X12_within a0 (G_X12_within_19 N ah v1 v2 s1) := by
  unfold G_X12_within_19
  refine Sg.b (gb_X12_bad Fg.rf) hah rfl (fun r21 a21 ha21 => ?_)
  refine Sg.ite ?_ ?_
  · refine Sg.b (gb_X12_in Fg.rf) ha21 rfl (fun r33 a33 ha33 => ?_)
    refine Sg.ite ?_ ?_
    · exact gb_X12_within_44 ha33
    · exact gb_X12_within_44 ha33
  · exact Sg.ret ha21
theorem gb_X12_within {a0 : IH} {N : Nat} {ah : IH} {p1 : Int} {p2 : Int}  (hah : Fg rgM lf_X12_within a0 ah) : Sg gpI rgM lf_X12_within a0 (G_X12_within N ah p1 p2) := by
  unfold G_X12_within
  refine Sg.let_xu hah rfl (fun a2 ha2 => ?_)
  refine Sg.b (gb_X12_isToken Fg.rf) ha2 rfl (fun r8 a8 ha8 => ?_)
  refine Sg.ite ?_ ?_
  · exact gb_X12_within_19 ha8
  · exact gb_X12_within_19 ha8
theorem gb_X12_mends_120 {a0 : IH} {N : Nat} {ah : IH} {s1 : Int}  (hah : Fg rgM lf_X12_mends a0 ah) : Sg gpV rgM lf_X12_mends a0 (G_X12_mends_120 N ah s1) := by
  unfold G_X12_mends_120
  refine Sg.let_xu hah rfl (fun a127 ha127 => ?_)
  exact Sg.ret ha127
theorem gb_X12_mends_91 {a0 : IH} {N : Nat} {ah : IH} {s1 : Int}  (hah : Fg rgM lf_X12_mends a0 ah) : Sg gpV rgM lf_X12_mends a0 (G_X12_mends_91 N ah s1) := by
  unfold G_X12_mends_91
  refine Sg.let_xu hah rfl (fun a91 ha91 => ?_)
  exact Sg.ret ha91
theorem gb_X12_mends_60 {a0 : IH} {N : Nat} {ah : IH} {v2 : Int} {s1 : Int}  (hah : Fg rgM lf_X12_mends a0 ah) : Sg gpV rgM lf_X12_mends a0 (G_X12_mends_60 N ah v2 s1) := by
  unfold G_X12_mends_60
  refine Sg.let_xu hah rfl (fun a60 ha60 => ?_)
  refine Sg.ite ?_ ?_
  · refine Sg.ite ?_ ?_
    · exact gb_X12_mends_91 ha60
    · exact gb_X12_mends_91 ha60
  · refine Sg.ite ?_ ?_
    · exact gb_X12_mends_120 ha60
    · refine Sg.b (gb_X12_less Fg.rf) ha60 rfl (fun r113 a113 ha113 => ?_)
      exact gb_X12_mends_120 ha113
theorem gb_X12_mends_38 {a0 : IH} {N : Nat} {ah : IH} {v2 : Int} {s1 : Int}  (hah : Fg rgM lf_X12_mends a0 ah) : Sg gpV rgM lf_X12_mends a0 (G_X12_mends_38 N ah v2 s1) := by
  unfold G_X12_mends_38
  refine Sg.let_xu hah rfl (fun a38 ha38 => ?_)
  refine Sg.ite ?_ ?_
  · exact gb_X12_mends_60 ha38
  · exact gb_X12_mends_60 ha38
theorem gb_X12_mends_37 {a0 : IH} {N : Nat} {ah : IH} {v2 : Int}  (hah : Fg rgM lf_X12_mends a0 ah) : Sg gpV rgM lf_X12_mends a0 (G_X12_mends_37 N ah v2) := by
  unfold G_X12_mends_37
  exact gb_X12_mends_38 hah
theorem gb_X12_mends {a0 : IH} {N : Nat} {ah : IH} {p1 : Int}  (hah : Fg rgM lf_X12_mends a0 ah) : Sg gpV rgM lf_X12_mends a0 (G_X12_mends N ah p1) := by
  unfold G_X12_mends
  refine Sg.bv (gb_X12_searches Fg.rf) hah rfl (fun a2 ha2 => ?_)
  refine Sg.b (gb_X12_outside Fg.rf) ha2 rfl (fun r6 a6 ha6 => ?_)
  refine Sg.let_v (fun v2_9 => ?_)
  refine Sg.ite ?_ ?_
  · exact gb_X12_mends_37 ha6
  · refine Sg.ite ?_ ?_
    · exact gb_X12_mends_37 ha6
    · exact gb_X12_mends_38 ha6
theorem gb_X12_mended_42 {a0 : IH} {N : Nat} {ah : IH} {v1 : Int} {v2 : Int} {s1 : Int}  (hah : Fg rgM lf_X12_mended a0 ah) : Sg gpI rgM lf_X12_mended a0 (G_X12_mended_42 N ah v1 v2 s1) := by
  unfold G_X12_mended_42
  refine Sg.b (gb_X12_bad Fg.rf) hah rfl (fun r44 a44 ha44 => ?_)
  refine Sg.ite ?_ ?_
  · refine Sg.bv (gb_X12_laysToken Fg.rf) ha44 rfl (fun a55 ha55 => ?_)
    refine Sg.bv (gb_X12_mends Fg.rf) ha55 rfl (fun a60 ha60 => ?_)
    refine Sg.ite ?_ ?_
    · exact Sg.ret ha60
    · refine Sg.ite ?_ ?_
      · exact Sg.ret ha60
      · exact Sg.ret ha60
  · exact Sg.ret ha44
theorem gb_X12_mended_19 {a0 : IH} {N : Nat} {ah : IH} {v1 : Int} {v2 : Int} {s1 : Int}  (hah : Fg rgM lf_X12_mended a0 ah) : Sg gpI rgM lf_X12_mended a0 (G_X12_mended_19 N ah v1 v2 s1) := by
  unfold G_X12_mended_19
  refine Sg.b (gb_X12_bad Fg.rf) hah rfl (fun r21 a21 ha21 => ?_)
  refine Sg.ite ?_ ?_
  · refine Sg.b (gb_X12_in Fg.rf) ha21 rfl (fun r31 a31 ha31 => ?_)
    refine Sg.ite ?_ ?_
    · exact gb_X12_mended_42 ha31
    · exact gb_X12_mended_42 ha31
  · exact Sg.ret ha21
theorem gb_X12_mended {a0 : IH} {N : Nat} {ah : IH} {p1 : Int} {p2 : Int}  (hah : Fg rgM lf_X12_mended a0 ah) : Sg gpI rgM lf_X12_mended a0 (G_X12_mended N ah p1 p2) := by
  unfold G_X12_mended
  refine Sg.let_xu hah rfl (fun a2 ha2 => ?_)
  refine Sg.b (gb_X12_isToken Fg.rf) ha2 rfl (fun r8 a8 ha8 => ?_)
  refine Sg.ite ?_ ?_
  · exact gb_X12_mended_19 ha8
  · exact gb_X12_mended_19 ha8
theorem gb_X12_laysWay_124 {a0 : IH} {N : Nat} {k39 : IH → Int → Int → Option (Int × IH)} {k50 : IH → Int → Int → Int → Option (Int × IH)} {ah : IH} {v2 : Int} {v3 : Int} {v4 : Int} (hk39 : ∀ {z0 : IH} {z1 : Int} {z2 : Int}, Fg rgM lf_X12_laysWay a0 z0 → Sg gpI rgM lf_X12_laysWay a0 (k39 z0 z1 z2)) (hk50 : ∀ {z0 : IH} {z1 : Int} {z2 : Int} {z3 : Int}, Fg rgM lf_X12_laysWay a0 z0 → Sg gpI rgM lf_X12_laysWay a0 (k50 z0 z1 z2 z3)) (hah : Fg rgM lf_X12_laysWay a0 ah) : Sg gpI rgM lf_X12_laysWay a0 (G_X12_laysWay_124 N k39 k50 ah v2 v3 v4) := by
  unfold G_X12_laysWay_124
  refine Sg.let_v (fun v4_124 => ?_)
  exact hk50 hah
theorem gb_X12_laysWay_50 {a0 : IH} {N : Nat} {k39 : IH → Int → Int → Option (Int × IH)} (hk39 : ∀ {z0 : IH} {z1 : Int} {z2 : Int}, Fg rgM lf_X12_laysWay a0 z0 → Sg gpI rgM lf_X12_laysWay a0 (k39 z0 z1 z2)) : ∀ (n : Nat) {ah : IH} {v2 : Int} {v3 : Int} {v4 : Int}  (hah : Fg rgM lf_X12_laysWay a0 ah), Sg gpI rgM lf_X12_laysWay a0 (G_X12_laysWay_50 N k39 n ah v2 v3 v4) := by
  intro n
  induction n with
  | zero => intros; exact Sg.none
  | succ n ih =>
    intro ah v2 v3 v4  hah
    unfold G_X12_laysWay_50
    refine Sg.g (fun _ => ?_)
    refine Sg.g (fun _ => ?_)
    refine Sg.let_c ?_
    refine Sg.b (gb_X12_fits_f15 ⟨by omega, by omega⟩ Fg.rf) hah rfl (fun r65 a65 ha65 => ?_)
    refine Sg.ite ?_ ?_
    · exact gb_X12_laysWay_124 hk39 (fun h => ih h) ha65
    · refine Sg.g (fun _ => ?_)
      refine Sg.g (fun _ => ?_)
      refine Sg.let_c ?_
      refine Sg.g (fun _ => ?_)
      refine Sg.g (fun _ => ?_)
      refine Sg.let_c ?_
      refine Sg.g (fun _ => ?_)
      refine Sg.let_c ?_
      refine Sg.g (fun _ => ?_)
      refine Sg.g (fun _ => ?_)
      refine Sg.let_c ?_
      refine Sg.g (fun _ => ?_)
      refine Sg.g (fun _ => ?_)
      refine Sg.let_c ?_
      refine Sg.g (fun _ => ?_)
      refine Sg.ite ?_ ?_
      · refine Sg.g (fun _ => ?_)
        refine Sg.let_xu ha65 rfl (fun a139 ha139 => ?_)
        refine Sg.g (fun _ => ?_)
        refine Sg.let_xu ha139 rfl (fun a150 ha150 => ?_)
        refine Sg.let_xu ha150 rfl (fun a158 ha158 => ?_)
        refine Sg.g (fun _ => ?_)
        refine Sg.g (fun _ => ?_)
        refine Sg.let_c ?_
        refine Sg.let_v (fun v2_176 => ?_)
        refine Sg.let_v (fun v3_183 => ?_)
        exact hk39 ha158
      · exact gb_X12_laysWay_124 hk39 (fun h => ih h) ha65
theorem gb_X12_laysWay_39 {a0 : IH} {N : Nat}  : ∀ (n : Nat) {ah : IH} {v2 : Int} {v3 : Int}  (hah : Fg rgM lf_X12_laysWay a0 ah), Sg gpI rgM lf_X12_laysWay a0 (G_X12_laysWay_39 N n ah v2 v3) := by
  intro n
  induction n with
  | zero => intros; exact Sg.none
  | succ n ih =>
    intro ah v2 v3  hah
    unfold G_X12_laysWay_39
    refine Sg.ite ?_ ?_
    · exact Sg.ret hah
    · refine Sg.let_v (fun v4_48 => ?_)
      exact gb_X12_laysWay_50 (fun h => ih h) _ hah
theorem gb_X12_laysWay {a0 : IH} {N : Nat} {ah : IH} {p1 : Int}  (hah : Fg rgM lf_X12_laysWay a0 ah) : Sg gpI rgM lf_X12_laysWay a0 (G_X12_laysWay N ah p1) := by
  unfold G_X12_laysWay
  refine Sg.bv (gb_X12_laysToken Fg.rf) hah rfl (fun a3 ha3 => ?_)
  refine Sg.bv (gb_X12_mends Fg.rf) ha3 rfl (fun a8 ha8 => ?_)
  refine Sg.let_xu ha8 rfl (fun a13 ha13 => ?_)
  refine Sg.ite ?_ ?_
  · exact Sg.ret ha13
  · refine Sg.b (gb_X12_spells Fg.rf) ha13 rfl (fun r31 a31 ha31 => ?_)
    refine Sg.let_v (fun v2_36 => ?_)
    refine Sg.let_v (fun v3_38 => ?_)
    exact gb_X12_laysWay_39 _ ha31
theorem gb_X12_way_42 {a0 : IH} {N : Nat} {ah : IH} {v1 : Int} {v2 : Int} {s1 : Int}  (hah : Fg rgM lf_X12_way a0 ah) : Sg gpI rgM lf_X12_way a0 (G_X12_way_42 N ah v1 v2 s1) := by
  unfold G_X12_way_42
  refine Sg.b (gb_X12_bad Fg.rf) hah rfl (fun r44 a44 ha44 => ?_)
  refine Sg.ite ?_ ?_
  · refine Sg.b (gb_X12_laysWay Fg.rf) ha44 rfl (fun r54 a54 ha54 => ?_)
    refine Sg.ite ?_ ?_
    · exact Sg.ret ha54
    · refine Sg.ite ?_ ?_
      · exact Sg.ret ha54
      · refine Sg.let_c ?_
        exact Sg.ret ha54
  · exact Sg.ret ha44
theorem gb_X12_way_19 {a0 : IH} {N : Nat} {ah : IH} {v1 : Int} {v2 : Int} {s1 : Int}  (hah : Fg rgM lf_X12_way a0 ah) : Sg gpI rgM lf_X12_way a0 (G_X12_way_19 N ah v1 v2 s1) := by
  unfold G_X12_way_19
  refine Sg.b (gb_X12_bad Fg.rf) hah rfl (fun r21 a21 ha21 => ?_)
  refine Sg.ite ?_ ?_
  · refine Sg.b (gb_X12_in Fg.rf) ha21 rfl (fun r31 a31 ha31 => ?_)
    refine Sg.ite ?_ ?_
    · exact gb_X12_way_42 ha31
    · exact gb_X12_way_42 ha31
  · exact Sg.ret ha21
theorem gb_X12_way {a0 : IH} {N : Nat} {ah : IH} {p1 : Int} {p2 : Int}  (hah : Fg rgM lf_X12_way a0 ah) : Sg gpI rgM lf_X12_way a0 (G_X12_way N ah p1 p2) := by
  unfold G_X12_way
  refine Sg.let_xu hah rfl (fun a2 ha2 => ?_)
  refine Sg.b (gb_X12_isToken Fg.rf) ha2 rfl (fun r8 a8 ha8 => ?_)
  refine Sg.ite ?_ ?_
  · exact gb_X12_way_19 ha8
  · exact gb_X12_way_19 ha8
theorem gb_X12_edge__71 {a0 : IH} {N : Nat} {ah : IH} {v2 : Int} {v3 : Int} {s1 : Int}  (hah : Fg rgM lf_X12_edge_ a0 ah) : Sg gpI rgM lf_X12_edge_ a0 (G_X12_edge__71 N ah v2 v3 s1) := by
  unfold G_X12_edge__71
  refine Sg.b (gb_X12_bad Fg.rf) hah rfl (fun r73 a73 ha73 => ?_)
  refine Sg.ite ?_ ?_
  · refine Sg.g (fun _ => ?_)
    refine Sg.g (fun _ => ?_)
    refine Sg.g (fun _ => ?_)
    refine Sg.g (fun _ => ?_)
    refine Sg.let_c ?_
    refine Sg.ite ?_ ?_
    · refine Sg.g (fun _ => ?_)
      exact Sg.ret ha73
    · refine Sg.ite ?_ ?_
      · exact Sg.ret ha73
      · refine Sg.ite ?_ ?_
        · exact Sg.ret ha73
        · refine Sg.ite ?_ ?_
          · exact Sg.ret ha73
          · exact Sg.ret ha73
  · exact Sg.ret ha73
theorem gb_X12_edge__48 {a0 : IH} {N : Nat} {ah : IH} {v2 : Int} {v3 : Int} {s1 : Int}  (hah : Fg rgM lf_X12_edge_ a0 ah) : Sg gpI rgM lf_X12_edge_ a0 (G_X12_edge__48 N ah v2 v3 s1) := by
  unfold G_X12_edge__48
  refine Sg.b (gb_X12_bad Fg.rf) hah rfl (fun r50 a50 ha50 => ?_)
  refine Sg.ite ?_ ?_
  · refine Sg.b (gb_X12_in Fg.rf) ha50 rfl (fun r60 a60 ha60 => ?_)
    refine Sg.ite ?_ ?_
    · exact gb_X12_edge__71 ha60
    · exact gb_X12_edge__71 ha60
  · exact Sg.ret ha50
theorem gb_X12_edge__43 {a0 : IH} {N : Nat} {ah : IH} {v2 : Int} {v3 : Int}  (hah : Fg rgM lf_X12_edge_ a0 ah) : Sg gpI rgM lf_X12_edge_ a0 (G_X12_edge__43 N ah v2 v3) := by
  unfold G_X12_edge__43
  exact gb_X12_edge__48 hah
theorem gb_X12_edge__23 {a0 : IH} {N : Nat} {ah : IH} {v2 : Int} {v3 : Int} {v4 : Int}  (hah : Fg rgM lf_X12_edge_ a0 ah) : Sg gpI rgM lf_X12_edge_ a0 (G_X12_edge__23 N ah v2 v3 v4) := by
  unfold G_X12_edge__23
  refine Sg.ite ?_ ?_
  · exact gb_X12_edge__43 hah
  · refine Sg.b (gb_X12_in Fg.rf) hah rfl (fun r37 a37 ha37 => ?_)
    refine Sg.ite ?_ ?_
    · exact gb_X12_edge__43 ha37
    · exact gb_X12_edge__48 ha37
theorem gb_X12_edge_ {a0 : IH} {N : Nat} {ah : IH} {p1 : Int} {p2 : Int} {p3 : Int}  (hah : Fg rgM lf_X12_edge_ a0 ah) : Sg gpI rgM lf_X12_edge_ a0 (G_X12_edge_ N ah p1 p2 p3) := by
  unfold G_X12_edge_
  refine Sg.let_xu hah rfl (fun a2 ha2 => ?_)
  refine Sg.b (gb_X12_isToken Fg.rf) ha2 rfl (fun r7 a7 ha7 => ?_)
  refine Sg.let_v (fun v4_10 => ?_)
  refine Sg.ite ?_ ?_
  · exact gb_X12_edge__23 ha7
  · refine Sg.b (gb_X12_laysWay Fg.rf) ha7 rfl (fun r19 a19 ha19 => ?_)
    exact gb_X12_edge__23 ha19
theorem gb_X12_used_102 {a0 : IH} {N : Nat} {k41 : IH → Int → Int → Int → Option (Int × IH)} {k60 : IH → Int → Int → Int → Int → Option (Int × IH)} {ah : IH} {v1 : Int} {v3 : Int} {v4 : Int} {s0 : Int} {s1 : Int} (hk41 : ∀ {z0 : IH} {z1 : Int} {z2 : Int} {z3 : Int}, Fg rgM lf_X12_used a0 z0 → Sg gpI rgM lf_X12_used a0 (k41 z0 z1 z2 z3)) (hk60 : ∀ {z0 : IH} {z1 : Int} {z2 : Int} {z3 : Int} {z4 : Int}, Fg rgM lf_X12_used a0 z0 → Sg gpI rgM lf_X12_used a0 (k60 z0 z1 z2 z3 z4)) (hah : Fg rgM lf_X12_used a0 ah) : Sg gpI rgM lf_X12_used a0 (G_X12_used_102 N k41 k60 ah v1 v3 v4 s0 s1) := by
  unfold G_X12_used_102
  refine Sg.let_v (fun v2_103 => ?_)
  refine Sg.let_v (fun v4_104 => ?_)
  exact hk60 hah
theorem gb_X12_used_60 {a0 : IH} {N : Nat} {k41 : IH → Int → Int → Int → Option (Int × IH)} (hk41 : ∀ {z0 : IH} {z1 : Int} {z2 : Int} {z3 : Int}, Fg rgM lf_X12_used a0 z0 → Sg gpI rgM lf_X12_used a0 (k41 z0 z1 z2 z3)) : ∀ (n : Nat) {ah : IH} {v1 : Int} {v2 : Int} {v3 : Int} {v4 : Int}  (hah : Fg rgM lf_X12_used a0 ah), Sg gpI rgM lf_X12_used a0 (G_X12_used_60 N k41 n ah v1 v2 v3 v4) := by
  intro n
  induction n with
  | zero => intros; exact Sg.none
  | succ n ih =>
    intro ah v1 v2 v3 v4  hah
    unfold G_X12_used_60
    refine Sg.ite ?_ ?_
    · refine Sg.let_v (fun v3_110 => ?_)
      exact hk41 hah
    · refine Sg.g (fun _ => ?_)
      refine Sg.g (fun _ => ?_)
      refine Sg.g (fun _ => ?_)
      refine Sg.g (fun _ => ?_)
      refine Sg.let_c ?_
      refine Sg.ite ?_ ?_
      · exact gb_X12_used_102 hk41 (fun h => ih h) hah
      · exact gb_X12_used_102 hk41 (fun h => ih h) hah
theorem gb_X12_used_41 {a0 : IH} {N : Nat}  : ∀ (n : Nat) {ah : IH} {v1 : Int} {v2 : Int} {v3 : Int}  (hah : Fg rgM lf_X12_used a0 ah), Sg gpI rgM lf_X12_used a0 (G_X12_used_41 N n ah v1 v2 v3) := by
  intro n
  induction n with
  | zero => intros; exact Sg.none
  | succ n ih =>
    intro ah v1 v2 v3  hah
    unfold G_X12_used_41
    refine Sg.ite ?_ ?_
    · exact Sg.ret hah
    · refine Sg.b (gb_X12_laysWay Fg.rf) hah rfl (fun r53 a53 ha53 => ?_)
      refine Sg.let_v (fun v4_58 => ?_)
      exact gb_X12_used_60 (fun h => ih h) _ ha53
theorem gb_X12_used_27 {a0 : IH} {N : Nat} {ah : IH} {v1 : Int} {s1 : Int}  (hah : Fg rgM lf_X12_used a0 ah) : Sg gpI rgM lf_X12_used a0 (G_X12_used_27 N ah v1 s1) := by
  unfold G_X12_used_27
  refine Sg.b (gb_X12_bad Fg.rf) hah rfl (fun r29 a29 ha29 => ?_)
  refine Sg.ite ?_ ?_
  · refine Sg.let_v (fun v2_38 => ?_)
    refine Sg.let_v (fun v3_40 => ?_)
    exact gb_X12_used_41 _ ha29
  · exact Sg.ret ha29
theorem gb_X12_used {a0 : IH} {N : Nat} {ah : IH} {p1 : Int}  (hah : Fg rgM lf_X12_used a0 ah) : Sg gpI rgM lf_X12_used a0 (G_X12_used N ah p1) := by
  unfold G_X12_used
  refine Sg.let_xu hah rfl (fun a2 ha2 => ?_)
  refine Sg.b (gb_X12_in Fg.rf) ha2 rfl (fun r16 a16 ha16 => ?_)
  refine Sg.ite ?_ ?_
  · exact gb_X12_used_27 ha16
  · exact gb_X12_used_27 ha16
theorem gb_X12_laysChoices_70 {a0 : IH} {N : Nat} {k15 : IH → Int → Int → Int → Option IH} {ah : IH} {v1 : Int} {v2 : Int} {v3 : Int} (hk15 : ∀ {z0 : IH} {z1 : Int} {z2 : Int} {z3 : Int}, Fg rgM lf_X12_laysChoices a0 z0 → Sg gpV rgM lf_X12_laysChoices a0 (k15 z0 z1 z2 z3)) (hah : Fg rgM lf_X12_laysChoices a0 ah) : Sg gpV rgM lf_X12_laysChoices a0 (G_X12_laysChoices_70 N k15 ah v1 v2 v3) := by
  unfold G_X12_laysChoices_70
  refine Sg.let_v (fun v3_70 => ?_)
  exact hk15 hah
theorem gb_X12_laysChoices_15 {a0 : IH} {N : Nat}  : ∀ (n : Nat) {ah : IH} {v1 : Int} {v2 : Int} {v3 : Int}  (hah : Fg rgM lf_X12_laysChoices a0 ah), Sg gpV rgM lf_X12_laysChoices a0 (G_X12_laysChoices_15 N n ah v1 v2 v3) := by
  intro n
  induction n with
  | zero => intros; exact Sg.none
  | succ n ih =>
    intro ah v1 v2 v3  hah
    unfold G_X12_laysChoices_15
    refine Sg.ite ?_ ?_
    · refine Sg.g (fun _ => ?_)
      refine Sg.let_c ?_
      refine Sg.g (fun _ => ?_)
      refine Sg.let_xu hah (by rw [rgM_17 (by omega) (by omega)]; rfl) (fun a84 ha84 => ?_)
      refine Sg.g (fun _ => ?_)
      refine Sg.let_c ?_
      refine Sg.b (gb_X12_outside Fg.rf) ha84 rfl (fun r93 a93 ha93 => ?_)
      refine Sg.g (fun _ => ?_)
      refine Sg.let_xu ha93 (by rw [rgM_18 (by omega) (by omega)]; rfl) (fun a96 ha96 => ?_)
      refine Sg.g (fun _ => ?_)
      refine Sg.let_xu ha96 rfl (fun a105 ha105 => ?_)
      exact Sg.ret ha105
    · refine Sg.g (fun _ => ?_)
      refine Sg.b (gb_X12_outside Fg.rf) hah rfl (fun r30 a30 ha30 => ?_)
      refine Sg.ite ?_ ?_
      · refine Sg.g (fun _ => ?_)
        refine Sg.let_c ?_
        refine Sg.g (fun _ => ?_)
        refine Sg.g (fun _ => ?_)
        refine Sg.let_xu ha30 (by rw [rgM_17 (by omega) (by omega)]; rfl) (fun a52 ha52 => ?_)
        refine Sg.g (fun _ => ?_)
        refine Sg.let_c ?_
        refine Sg.g (fun _ => ?_)
        refine Sg.g (fun _ => ?_)
        refine Sg.let_xu ha52 (by rw [rgM_18 (by omega) (by omega)]; rfl) (fun a66 ha66 => ?_)
        refine Sg.let_v (fun v2_67 => ?_)
        exact gb_X12_laysChoices_70 (fun h => ih h) ha66
      · exact gb_X12_laysChoices_70 (fun h => ih h) ha30
theorem gb_X12_laysChoices {a0 : IH} {N : Nat} {ah : IH} {p1 : Int}  (hah : Fg rgM lf_X12_laysChoices a0 ah) : Sg gpV rgM lf_X12_laysChoices a0 (G_X12_laysChoices N ah p1) := by
  unfold G_X12_laysChoices
  refine Sg.bv (gb_X12_laysToken Fg.rf) hah rfl (fun a3 ha3 => ?_)
  refine Sg.bv (gb_X12_searches Fg.rf) ha3 rfl (fun a8 ha8 => ?_)
  refine Sg.let_v (fun v2_12 => ?_)
  refine Sg.let_v (fun v3_14 => ?_)
  exact gb_X12_laysChoices_15 _ ha8
theorem gb_X12_between_10 {a0 : IH} {N : Nat} {ah : IH}  (hah : Fg rgM lf_X12_between a0 ah) : Sg gpI rgM lf_X12_between a0 (G_X12_between_10 N ah) := by
  unfold G_X12_between_10
  exact Sg.ret hah
theorem gb_X12_between {a0 : IH} {N : Nat} {ah : IH} {p1 : Int} {p2 : Int}  (hah : Fg rgM lf_X12_between a0 ah) : Sg gpI rgM lf_X12_between a0 (G_X12_between N ah p1 p2) := by
  unfold G_X12_between
  refine Sg.ite ?_ ?_
  · exact gb_X12_between_10 hah
  · refine Sg.ite ?_ ?_
    · exact gb_X12_between_10 hah
    · refine Sg.b (gb_X12_dearOf Fg.rf) hah rfl (fun r17 a17 ha17 => ?_)
      exact Sg.ret ha17
theorem gb_X12_says_221 {a0 : IH} {N : Nat} {k186 : IH → Int → Int → Int → Option IH} {ah : IH} {v1 : Int} {v2 : Int} {v3 : Int} (hk186 : ∀ {z0 : IH} {z1 : Int} {z2 : Int} {z3 : Int}, Fg rgM lf_X12_says a0 z0 → Sg gpV rgM lf_X12_says a0 (k186 z0 z1 z2 z3)) (hah : Fg rgM lf_X12_says a0 ah) : Sg gpV rgM lf_X12_says a0 (G_X12_says_221 N k186 ah v1 v2 v3) := by
  unfold G_X12_says_221
  refine Sg.let_v (fun v3_221 => ?_)
  exact hk186 hah
theorem gb_X12_says_249 {a0 : IH} {N : Nat}  : ∀ (n : Nat) {ah : IH} {v1 : Int} {v2 : Int} {v3 : Int}  (hah : Fg rgM lf_X12_says a0 ah), Sg gpV rgM lf_X12_says a0 (G_X12_says_249 N n ah v1 v2 v3) := by
  intro n
  induction n with
  | zero => intros; exact Sg.none
  | succ n ih =>
    intro ah v1 v2 v3  hah
    unfold G_X12_says_249
    refine Sg.ite ?_ ?_
    · exact Sg.ret hah
    · refine Sg.g (fun _ => ?_)
      refine Sg.let_c ?_
      refine Sg.g (fun _ => ?_)
      refine Sg.g (fun _ => ?_)
      refine Sg.let_xu hah rfl (fun a267 ha267 => ?_)
      refine Sg.g (fun _ => ?_)
      refine Sg.let_c ?_
      refine Sg.g (fun _ => ?_)
      refine Sg.let_v (fun v2_276 => ?_)
      refine Sg.let_v (fun v3_277 => ?_)
      exact ih ha267
theorem gb_X12_says_244 {a0 : IH} {N : Nat} {ah : IH} {v1 : Int} {v2 : Int} {s1 : Int}  (hah : Fg rgM lf_X12_says a0 ah) : Sg gpV rgM lf_X12_says a0 (G_X12_says_244 N ah v1 v2 s1) := by
  unfold G_X12_says_244
  refine Sg.let_xu hah rfl (fun a244 ha244 => ?_)
  refine Sg.let_v (fun v3_248 => ?_)
  exact gb_X12_says_249 _ ha244
theorem gb_X12_says_227 {a0 : IH} {N : Nat} {ah : IH} {v1 : Int} {v2 : Int}  (hah : Fg rgM lf_X12_says a0 ah) : Sg gpV rgM lf_X12_says a0 (G_X12_says_227 N ah v1 v2) := by
  unfold G_X12_says_227
  refine Sg.ite ?_ ?_
  · exact gb_X12_says_244 hah
  · refine Sg.let_c ?_
    refine Sg.g (fun _ => ?_)
    exact gb_X12_says_244 hah
theorem gb_X12_says_186 {a0 : IH} {N : Nat}  : ∀ (n : Nat) {ah : IH} {v1 : Int} {v2 : Int} {v3 : Int}  (hah : Fg rgM lf_X12_says a0 ah), Sg gpV rgM lf_X12_says a0 (G_X12_says_186 N n ah v1 v2 v3) := by
  intro n
  induction n with
  | zero => intros; exact Sg.none
  | succ n ih =>
    intro ah v1 v2 v3  hah
    unfold G_X12_says_186
    refine Sg.ite ?_ ?_
    · exact gb_X12_says_227 hah
    · refine Sg.ite ?_ ?_
      · exact gb_X12_says_227 hah
      · refine Sg.let_c ?_
        refine Sg.g (fun _ => ?_)
        refine Sg.let_c ?_
        refine Sg.g (fun _ => ?_)
        refine Sg.ite ?_ ?_
        · exact gb_X12_says_221 (fun h => ih h) hah
        · refine Sg.let_v (fun v2_220 => ?_)
          exact gb_X12_says_221 (fun h => ih h) hah
theorem gb_X12_says_135 {a0 : IH} {N : Nat} {k29 : IH → Int → Int → Option IH} {k35 : IH → Int → Int → Int → Option IH} {k54 : IH → Int → Int → Int → Int → Int → Int → Option IH} {ah : IH} {v1 : Int} {v2 : Int} {v3 : Int} {v4 : Int} {v5 : Int} {v6 : Int} (hk29 : ∀ {z0 : IH} {z1 : Int} {z2 : Int}, Fg rgM lf_X12_says a0 z0 → Sg gpV rgM lf_X12_says a0 (k29 z0 z1 z2)) (hk35 : ∀ {z0 : IH} {z1 : Int} {z2 : Int} {z3 : Int}, Fg rgM lf_X12_says a0 z0 → Sg gpV rgM lf_X12_says a0 (k35 z0 z1 z2 z3)) (hk54 : ∀ {z0 : IH} {z1 : Int} {z2 : Int} {z3 : Int} {z4 : Int} {z5 : Int} {z6 : Int}, Fg rgM lf_X12_says a0 z0 → Sg gpV rgM lf_X12_says a0 (k54 z0 z1 z2 z3 z4 z5 z6)) (hah : Fg rgM lf_X12_says a0 ah) : Sg gpV rgM lf_X12_says a0 (G_X12_says_135 N k29 k35 k54 ah v1 v2 v3 v4 v5 v6) := by
  unfold G_X12_says_135
  refine Sg.let_v (fun v6_135 => ?_)
  exact hk54 hah
theorem gb_X12_says_127 {a0 : IH} {N : Nat} {k29 : IH → Int → Int → Option IH} {k35 : IH → Int → Int → Int → Option IH} {k54 : IH → Int → Int → Int → Int → Int → Int → Option IH} {ah : IH} {v1 : Int} {v2 : Int} {v3 : Int} {v6 : Int} {v7 : Int} (hk29 : ∀ {z0 : IH} {z1 : Int} {z2 : Int}, Fg rgM lf_X12_says a0 z0 → Sg gpV rgM lf_X12_says a0 (k29 z0 z1 z2)) (hk35 : ∀ {z0 : IH} {z1 : Int} {z2 : Int} {z3 : Int}, Fg rgM lf_X12_says a0 z0 → Sg gpV rgM lf_X12_says a0 (k35 z0 z1 z2 z3)) (hk54 : ∀ {z0 : IH} {z1 : Int} {z2 : Int} {z3 : Int} {z4 : Int} {z5 : Int} {z6 : Int}, Fg rgM lf_X12_says a0 z0 → Sg gpV rgM lf_X12_says a0 (k54 z0 z1 z2 z3 z4 z5 z6)) (hah : Fg rgM lf_X12_says a0 ah) : Sg gpV rgM lf_X12_says a0 (G_X12_says_127 N k29 k35 k54 ah v1 v2 v3 v6 v7) := by
  unfold G_X12_says_127
  refine Sg.let_v (fun v4_129 => ?_)
  refine Sg.let_v (fun v5_133 => ?_)
  exact gb_X12_says_135 hk29 hk35 hk54 hah
theorem gb_X12_says_141 {a0 : IH} {N : Nat} {k29 : IH → Int → Int → Option IH} {k35 : IH → Int → Int → Int → Option IH} {ah : IH} {v1 : Int} {v2 : Int} {v3 : Int} {v4 : Int} {v5 : Int} (hk29 : ∀ {z0 : IH} {z1 : Int} {z2 : Int}, Fg rgM lf_X12_says a0 z0 → Sg gpV rgM lf_X12_says a0 (k29 z0 z1 z2)) (hk35 : ∀ {z0 : IH} {z1 : Int} {z2 : Int} {z3 : Int}, Fg rgM lf_X12_says a0 z0 → Sg gpV rgM lf_X12_says a0 (k35 z0 z1 z2 z3)) (hah : Fg rgM lf_X12_says a0 ah) : Sg gpV rgM lf_X12_says a0 (G_X12_says_141 N k29 k35 ah v1 v2 v3 v4 v5) := by
  unfold G_X12_says_141
  refine Sg.g (fun _ => ?_)
  refine Sg.let_c ?_
  refine Sg.g (fun _ => ?_)
  refine Sg.let_c ?_
  refine Sg.g (fun _ => ?_)
  refine Sg.g (fun _ => ?_)
  refine Sg.let_xu hah (by rw [rgM_19 (by omega) (by omega)]; rfl) (fun a159 ha159 => ?_)
  refine Sg.g (fun _ => ?_)
  refine Sg.let_c ?_
  refine Sg.g (fun _ => ?_)
  refine Sg.let_xu ha159 (by rw [rgM_20 (by omega) (by omega)]; rfl) (fun a169 ha169 => ?_)
  refine Sg.let_v (fun v3_170 => ?_)
  exact hk35 ha169
theorem gb_X12_says_54 {a0 : IH} {N : Nat} {k29 : IH → Int → Int → Option IH} {k35 : IH → Int → Int → Int → Option IH} (hk29 : ∀ {z0 : IH} {z1 : Int} {z2 : Int}, Fg rgM lf_X12_says a0 z0 → Sg gpV rgM lf_X12_says a0 (k29 z0 z1 z2)) (hk35 : ∀ {z0 : IH} {z1 : Int} {z2 : Int} {z3 : Int}, Fg rgM lf_X12_says a0 z0 → Sg gpV rgM lf_X12_says a0 (k35 z0 z1 z2 z3)) : ∀ (n : Nat) {ah : IH} {v1 : Int} {v2 : Int} {v3 : Int} {v4 : Int} {v5 : Int} {v6 : Int}  (hah : Fg rgM lf_X12_says a0 ah), Sg gpV rgM lf_X12_says a0 (G_X12_says_54 N k29 k35 n ah v1 v2 v3 v4 v5 v6) := by
  intro n
  induction n with
  | zero => intros; exact Sg.none
  | succ n ih =>
    intro ah v1 v2 v3 v4 v5 v6  hah
    unfold G_X12_says_54
    refine Sg.ite ?_ ?_
    · exact gb_X12_says_141 hk29 hk35 hah
    · refine Sg.g (fun _ => ?_)
      refine Sg.ite ?_ ?_
      · exact gb_X12_says_141 hk29 hk35 hah
      · refine Sg.g (fun _ => ?_)
        refine Sg.let_c ?_
        refine Sg.g (fun _ => ?_)
        refine Sg.g (fun _ => ?_)
        refine Sg.let_c ?_
        refine Sg.g (fun _ => ?_)
        refine Sg.b (gb_X12_between Fg.rf) hah rfl (fun r94 a94 ha94 => ?_)
        refine Sg.g (fun _ => ?_)
        refine Sg.let_c ?_
        refine Sg.g (fun _ => ?_)
        refine Sg.let_v (fun v7_109 => ?_)
        refine Sg.ite ?_ ?_
        · exact gb_X12_says_127 hk29 hk35 (fun h => ih h) ha94
        · refine Sg.ite ?_ ?_
          · exact gb_X12_says_127 hk29 hk35 (fun h => ih h) ha94
          · exact gb_X12_says_135 hk29 hk35 (fun h => ih h) ha94
theorem gb_X12_says_35 {a0 : IH} {N : Nat} {k29 : IH → Int → Int → Option IH} (hk29 : ∀ {z0 : IH} {z1 : Int} {z2 : Int}, Fg rgM lf_X12_says a0 z0 → Sg gpV rgM lf_X12_says a0 (k29 z0 z1 z2)) : ∀ (n : Nat) {ah : IH} {v1 : Int} {v2 : Int} {v3 : Int}  (hah : Fg rgM lf_X12_says a0 ah), Sg gpV rgM lf_X12_says a0 (G_X12_says_35 N k29 n ah v1 v2 v3) := by
  intro n
  induction n with
  | zero => intros; exact Sg.none
  | succ n ih =>
    intro ah v1 v2 v3  hah
    unfold G_X12_says_35
    refine Sg.g (fun _ => ?_)
    refine Sg.ite ?_ ?_
    · refine Sg.let_v (fun v2_176 => ?_)
      exact hk29 hah
    · refine Sg.let_v (fun v4_46 => ?_)
      refine Sg.let_v (fun v5_49 => ?_)
      refine Sg.let_v (fun v6_52 => ?_)
      exact gb_X12_says_54 hk29 (fun h => ih h) _ hah
theorem gb_X12_says_29 {a0 : IH} {N : Nat}  : ∀ (n : Nat) {ah : IH} {v1 : Int} {v2 : Int}  (hah : Fg rgM lf_X12_says a0 ah), Sg gpV rgM lf_X12_says a0 (G_X12_says_29 N n ah v1 v2) := by
  intro n
  induction n with
  | zero => intros; exact Sg.none
  | succ n ih =>
    intro ah v1 v2  hah
    unfold G_X12_says_29
    refine Sg.ite ?_ ?_
    · refine Sg.let_v (fun v2_183 => ?_)
      refine Sg.let_v (fun v3_185 => ?_)
      exact gb_X12_says_186 _ hah
    · refine Sg.let_v (fun v3_34 => ?_)
      exact gb_X12_says_35 (fun h => ih h) _ hah
theorem gb_X12_says_9 {a0 : IH} {N : Nat}  : ∀ (n : Nat) {ah : IH} {v1 : Int} {v2 : Int}  (hah : Fg rgM lf_X12_says a0 ah), Sg gpV rgM lf_X12_says a0 (G_X12_says_9 N n ah v1 v2) := by
  intro n
  induction n with
  | zero => intros; exact Sg.none
  | succ n ih =>
    intro ah v1 v2  hah
    unfold G_X12_says_9
    refine Sg.ite ?_ ?_
    · refine Sg.let_v (fun v2_28 => ?_)
      exact gb_X12_says_29 _ hah
    · refine Sg.bv (gb_X12_laysChoices Fg.rf) hah rfl (fun a16 ha16 => ?_)
      refine Sg.let_v (fun v2_19 => ?_)
      exact ih ha16
theorem gb_X12_says {a0 : IH} {N : Nat} {ah : IH}  (hah : Fg rgM lf_X12_says a0 ah) : Sg gpV rgM lf_X12_says a0 (G_X12_says N ah) := by
  unfold G_X12_says
  refine Sg.let_v (fun v1_6 => ?_)
  refine Sg.let_v (fun v2_8 => ?_)
  exact gb_X12_says_9 _ hah
theorem gb_X12_sentence_110 {a0 : IH} {N : Nat} {k47 : IH → Int → Int → Int → Option (Int × IH)} {ah : IH} {v1 : Int} {v3 : Int} {s0 : Int} {s1 : Int} (hk47 : ∀ {z0 : IH} {z1 : Int} {z2 : Int} {z3 : Int}, Fg rgM lf_X12_sentence a0 z0 → Sg gpI rgM lf_X12_sentence a0 (k47 z0 z1 z2 z3)) (hah : Fg rgM lf_X12_sentence a0 ah) : Sg gpI rgM lf_X12_sentence a0 (G_X12_sentence_110 N k47 ah v1 v3 s0 s1) := by
  unfold G_X12_sentence_110
  refine Sg.let_v (fun v2_111 => ?_)
  refine Sg.let_v (fun v3_112 => ?_)
  exact hk47 hah
theorem gb_X12_sentence_47 {a0 : IH} {N : Nat}  : ∀ (n : Nat) {ah : IH} {v1 : Int} {v2 : Int} {v3 : Int}  (hah : Fg rgM lf_X12_sentence a0 ah), Sg gpI rgM lf_X12_sentence a0 (G_X12_sentence_47 N n ah v1 v2 v3) := by
  intro n
  induction n with
  | zero => intros; exact Sg.none
  | succ n ih =>
    intro ah v1 v2 v3  hah
    unfold G_X12_sentence_47
    refine Sg.ite ?_ ?_
    · exact Sg.ret hah
    · refine Sg.bv (gb_X12_laysToken Fg.rf) hah rfl (fun a60 ha60 => ?_)
      refine Sg.bv (gb_X12_mends Fg.rf) ha60 rfl (fun a65 ha65 => ?_)
      refine Sg.ite ?_ ?_
      · refine Sg.g (fun _ => ?_)
        refine Sg.ite ?_ ?_
        · exact gb_X12_sentence_110 (fun h => ih h) ha65
        · exact gb_X12_sentence_110 (fun h => ih h) ha65
      · refine Sg.g (fun _ => ?_)
        refine Sg.ite ?_ ?_
        · exact gb_X12_sentence_110 (fun h => ih h) ha65
        · exact gb_X12_sentence_110 (fun h => ih h) ha65
theorem gb_X12_sentence_20 {a0 : IH} {N : Nat} {ah : IH} {v1 : Int} {s1 : Int}  (hah : Fg rgM lf_X12_sentence a0 ah) : Sg gpI rgM lf_X12_sentence a0 (G_X12_sentence_20 N ah v1 s1) := by
  unfold G_X12_sentence_20
  refine Sg.b (gb_X12_bad Fg.rf) hah rfl (fun r22 a22 ha22 => ?_)
  refine Sg.ite ?_ ?_
  · refine Sg.bv (gb_X12_says Fg.rf) ha22 rfl (fun a31 ha31 => ?_)
    refine Sg.ite ?_ ?_
    · exact Sg.ret ha31
    · refine Sg.let_v (fun v2_44 => ?_)
      refine Sg.let_v (fun v3_46 => ?_)
      exact gb_X12_sentence_47 _ ha31
  · exact Sg.ret ha22
theorem gb_X12_sentence {a0 : IH} {N : Nat} {ah : IH} {p1 : Int}  (hah : Fg rgM lf_X12_sentence a0 ah) : Sg gpI rgM lf_X12_sentence a0 (G_X12_sentence N ah p1) := by
  unfold G_X12_sentence
  refine Sg.let_xu hah rfl (fun a2 ha2 => ?_)
  refine Sg.b (gb_X12_in Fg.rf) ha2 rfl (fun r9 a9 ha9 => ?_)
  refine Sg.ite ?_ ?_
  · exact gb_X12_sentence_20 ha9
  · exact gb_X12_sentence_20 ha9
theorem gb_X12_said_19 {a0 : IH} {N : Nat} {ah : IH} {v1 : Int} {s1 : Int}  (hah : Fg rgM lf_X12_said a0 ah) : Sg gpI rgM lf_X12_said a0 (G_X12_said_19 N ah v1 s1) := by
  unfold G_X12_said_19
  refine Sg.b (gb_X12_bad Fg.rf) hah rfl (fun r21 a21 ha21 => ?_)
  refine Sg.ite ?_ ?_
  · refine Sg.bv (gb_X12_says Fg.rf) ha21 rfl (fun a30 ha30 => ?_)
    refine Sg.g (fun _ => ?_)
    exact Sg.ret ha30
  · exact Sg.ret ha21
theorem gb_X12_said {a0 : IH} {N : Nat} {ah : IH} {p1 : Int}  (hah : Fg rgM lf_X12_said a0 ah) : Sg gpI rgM lf_X12_said a0 (G_X12_said N ah p1) := by
  unfold G_X12_said
  refine Sg.let_xu hah rfl (fun a2 ha2 => ?_)
  refine Sg.b (gb_X12_isToken Fg.rf) ha2 rfl (fun r8 a8 ha8 => ?_)
  refine Sg.ite ?_ ?_
  · exact gb_X12_said_19 ha8
  · exact gb_X12_said_19 ha8
theorem gb_X12_learn_111 {a0 : IH} {N : Nat} {ah : IH}  (hah : Fg rgM lf_X12_learn a0 ah) : Sg gpI rgM lf_X12_learn a0 (G_X12_learn_111 N ah) := by
  unfold G_X12_learn_111
  refine Sg.bv (gb_X12_weighs Fg.rf) hah rfl (fun a112 ha112 => ?_)
  exact Sg.ret ha112
theorem gb_X12_learn_19 {a0 : IH} {N : Nat} {ah : IH} {v1 : Int} {s1 : Int}  (hah : Fg rgM lf_X12_learn a0 ah) : Sg gpI rgM lf_X12_learn a0 (G_X12_learn_19 N ah v1 s1) := by
  unfold G_X12_learn_19
  refine Sg.b (gb_X12_bad Fg.rf) hah rfl (fun r21 a21 ha21 => ?_)
  refine Sg.ite ?_ ?_
  · refine Sg.bv (gb_X12_laysToken Fg.rf) ha21 rfl (fun a32 ha32 => ?_)
    refine Sg.bv (gb_X12_mends Fg.rf) ha32 rfl (fun a37 ha37 => ?_)
    refine Sg.ite ?_ ?_
    · exact Sg.ret ha37
    · refine Sg.g (fun _ => ?_)
      refine Sg.b (gb_X12_more Fg.rf) ha37 rfl (fun r70 a70 ha70 => ?_)
      refine Sg.g (fun _ => ?_)
      refine Sg.let_xu ha70 rfl (fun a73 ha73 => ?_)
      refine Sg.ite ?_ ?_
      · exact gb_X12_learn_111 ha73
      · refine Sg.g (fun _ => ?_)
        refine Sg.b (gb_X12_less Fg.rf) ha73 rfl (fun r107 a107 ha107 => ?_)
        refine Sg.g (fun _ => ?_)
        refine Sg.let_xu ha107 rfl (fun a110 ha110 => ?_)
        exact gb_X12_learn_111 ha110
  · exact Sg.ret ha21
theorem gb_X12_learn {a0 : IH} {N : Nat} {ah : IH} {p1 : Int}  (hah : Fg rgM lf_X12_learn a0 ah) : Sg gpI rgM lf_X12_learn a0 (G_X12_learn N ah p1) := by
  unfold G_X12_learn
  refine Sg.let_xu hah rfl (fun a2 ha2 => ?_)
  refine Sg.b (gb_X12_isToken Fg.rf) ha2 rfl (fun r8 a8 ha8 => ?_)
  refine Sg.ite ?_ ?_
  · exact gb_X12_learn_19 ha8
  · exact gb_X12_learn_19 ha8
theorem gb_X12_laysAlone {a0 : IH} {N : Nat} {ah : IH} {p1 : Int}  (hah : Fg rgM lf_X12_laysAlone a0 ah) : Sg gpV rgM lf_X12_laysAlone a0 (G_X12_laysAlone N ah p1) := by
  unfold G_X12_laysAlone
  refine Sg.bv (gb_X12_laysToken Fg.rf) hah rfl (fun a3 ha3 => ?_)
  refine Sg.bv (gb_X12_mends Fg.rf) ha3 rfl (fun a8 ha8 => ?_)
  refine Sg.g (fun _ => ?_)
  refine Sg.let_xu ha8 rfl (fun a20 ha20 => ?_)
  refine Sg.g (fun _ => ?_)
  refine Sg.let_xu ha20 rfl (fun a30 ha30 => ?_)
  refine Sg.g (fun _ => ?_)
  refine Sg.let_xu ha30 rfl (fun a37 ha37 => ?_)
  refine Sg.ite ?_ ?_
  · exact Sg.ret ha37
  · refine Sg.let_c ?_
    refine Sg.g (fun _ => ?_)
    refine Sg.ite ?_ ?_
    · refine Sg.let_c ?_
      refine Sg.g (fun _ => ?_)
      refine Sg.let_c ?_
      refine Sg.g (fun _ => ?_)
      refine Sg.ite ?_ ?_
      · refine Sg.bv (gb_X12_laysToken Fg.rf) ha37 rfl (fun a90 ha90 => ?_)
        refine Sg.bv (gb_X12_mends Fg.rf) ha90 rfl (fun a95 ha95 => ?_)
        refine Sg.g (fun _ => ?_)
        refine Sg.let_xu ha95 rfl (fun a107 ha107 => ?_)
        refine Sg.g (fun _ => ?_)
        refine Sg.let_xu ha107 rfl (fun a124 ha124 => ?_)
        exact Sg.ret ha124
      · exact Sg.ret ha37
    · exact Sg.ret ha37
theorem gb_X12_writes {a0 : IH} {N : Nat} {ah : IH} {p1 : Int}  (hah : Fg rgM lf_X12_writes a0 ah) : Sg gpV rgM lf_X12_writes a0 (G_X12_writes N ah p1) := by
  unfold G_X12_writes
  refine Sg.g (fun _ => ?_)
  refine Sg.let_xu hah rfl (fun a9 ha9 => ?_)
  refine Sg.let_xu ha9 rfl (fun a17 ha17 => ?_)
  exact Sg.ret ha17
theorem gb_X12_writesOne_87 {a0 : IH} {N : Nat} {k37 : IH → Int → Int → Int → Option IH} {ah : IH} {v1 : Int} {v2 : Int} {v3 : Int} (hk37 : ∀ {z0 : IH} {z1 : Int} {z2 : Int} {z3 : Int}, Fg rgM lf_X12_writesOne a0 z0 → Sg gpV rgM lf_X12_writesOne a0 (k37 z0 z1 z2 z3)) (hah : Fg rgM lf_X12_writesOne a0 ah) : Sg gpV rgM lf_X12_writesOne a0 (G_X12_writesOne_87 N k37 ah v1 v2 v3) := by
  unfold G_X12_writesOne_87
  refine Sg.let_v (fun v3_87 => ?_)
  exact hk37 hah
theorem gb_X12_writesOne_37 {a0 : IH} {N : Nat}  : ∀ (n : Nat) {ah : IH} {v1 : Int} {v2 : Int} {v3 : Int}  (hah : Fg rgM lf_X12_writesOne a0 ah), Sg gpV rgM lf_X12_writesOne a0 (G_X12_writesOne_37 N n ah v1 v2 v3) := by
  intro n
  induction n with
  | zero => intros; exact Sg.none
  | succ n ih =>
    intro ah v1 v2 v3  hah
    unfold G_X12_writesOne_37
    refine Sg.ite ?_ ?_
    · refine Sg.let_c ?_
      refine Sg.g (fun _ => ?_)
      refine Sg.ite ?_ ?_
      · exact Sg.ret hah
      · refine Sg.g (fun _ => ?_)
        refine Sg.g (fun _ => ?_)
        refine Sg.let_c ?_
        refine Sg.ite ?_ ?_
        · exact gb_X12_writesOne_87 (fun h => ih h) hah
        · refine Sg.g (fun _ => ?_)
          refine Sg.g (fun _ => ?_)
          refine Sg.let_c ?_
          refine Sg.bv (gb_X12_writes Fg.rf) hah rfl (fun a84 ha84 => ?_)
          exact gb_X12_writesOne_87 (fun h => ih h) ha84
    · exact Sg.ret hah
theorem gb_X12_writesOne_35 {a0 : IH} {N : Nat} {ah : IH} {v1 : Int} {v2 : Int}  (hah : Fg rgM lf_X12_writesOne a0 ah) : Sg gpV rgM lf_X12_writesOne a0 (G_X12_writesOne_35 N ah v1 v2) := by
  unfold G_X12_writesOne_35
  refine Sg.let_v (fun v3_36 => ?_)
  exact gb_X12_writesOne_37 _ hah
theorem gb_X12_writesOne_2 {a0 : IH} {N : Nat}  : ∀ (n : Nat) {ah : IH} {v1 : Int} {v2 : Int} {v3 : Int}  (hah : Fg rgM lf_X12_writesOne a0 ah), Sg gpV rgM lf_X12_writesOne a0 (G_X12_writesOne_2 N n ah v1 v2 v3) := by
  intro n
  induction n with
  | zero => intros; exact Sg.none
  | succ n ih =>
    intro ah v1 v2 v3  hah
    unfold G_X12_writesOne_2
    refine Sg.ite ?_ ?_
    · exact gb_X12_writesOne_35 hah
    · refine Sg.g (fun _ => ?_)
      refine Sg.ite ?_ ?_
      · exact gb_X12_writesOne_35 hah
      · refine Sg.g (fun _ => ?_)
        refine Sg.let_c ?_
        refine Sg.g (fun _ => ?_)
        refine Sg.bv (gb_X12_writes Fg.rf) hah rfl (fun a26 ha26 => ?_)
        refine Sg.let_v (fun v3_29 => ?_)
        exact ih ha26
theorem gb_X12_writesOne {a0 : IH} {N : Nat} {ah : IH} {p1 : Int} {p2 : Int}  (hah : Fg rgM lf_X12_writesOne a0 ah) : Sg gpV rgM lf_X12_writesOne a0 (G_X12_writesOne N ah p1 p2) := by
  unfold G_X12_writesOne
  refine Sg.let_v (fun v3_1 => ?_)
  exact gb_X12_writesOne_2 _ hah
theorem gb_X12_mendsAll_147 {a0 : IH} {N : Nat} {k36 : IH → Int → Int → Option IH} {ah : IH} {v1 : Int} {v2 : Int} (hk36 : ∀ {z0 : IH} {z1 : Int} {z2 : Int}, Fg rgM lf_X12_mendsAll a0 z0 → Sg gpV rgM lf_X12_mendsAll a0 (k36 z0 z1 z2)) (hah : Fg rgM lf_X12_mendsAll a0 ah) : Sg gpV rgM lf_X12_mendsAll a0 (G_X12_mendsAll_147 N k36 ah v1 v2) := by
  unfold G_X12_mendsAll_147
  refine Sg.let_v (fun v2_147 => ?_)
  exact hk36 hah
theorem gb_X12_mendsAll_116 {a0 : IH} {N : Nat} {k36 : IH → Int → Int → Option IH} {ah : IH} {v1 : Int} {v2 : Int} {s1 : Int} {s2 : Int} (hk36 : ∀ {z0 : IH} {z1 : Int} {z2 : Int}, Fg rgM lf_X12_mendsAll a0 z0 → Sg gpV rgM lf_X12_mendsAll a0 (k36 z0 z1 z2)) (hah : Fg rgM lf_X12_mendsAll a0 ah) : Sg gpV rgM lf_X12_mendsAll a0 (G_X12_mendsAll_116 N k36 ah v1 v2 s1 s2) := by
  unfold G_X12_mendsAll_116
  refine Sg.g (fun _ => ?_)
  refine Sg.let_xu hah rfl (fun a116 ha116 => ?_)
  refine Sg.g (fun _ => ?_)
  refine Sg.ite ?_ ?_
  · exact gb_X12_mendsAll_147 hk36 ha116
  · refine Sg.g (fun _ => ?_)
    refine Sg.g (fun _ => ?_)
    refine Sg.g (fun _ => ?_)
    refine Sg.let_xu ha116 rfl (fun a146 ha146 => ?_)
    exact gb_X12_mendsAll_147 hk36 ha146
theorem gb_X12_mendsAll_115 {a0 : IH} {N : Nat} {k36 : IH → Int → Int → Option IH} {ah : IH} {v1 : Int} {v2 : Int} {s1 : Int} (hk36 : ∀ {z0 : IH} {z1 : Int} {z2 : Int}, Fg rgM lf_X12_mendsAll a0 z0 → Sg gpV rgM lf_X12_mendsAll a0 (k36 z0 z1 z2)) (hah : Fg rgM lf_X12_mendsAll a0 ah) : Sg gpV rgM lf_X12_mendsAll a0 (G_X12_mendsAll_115 N k36 ah v1 v2 s1) := by
  unfold G_X12_mendsAll_115
  exact gb_X12_mendsAll_116 hk36 hah
theorem gb_X12_mendsAll_100 {a0 : IH} {N : Nat} {k36 : IH → Int → Int → Option IH} {ah : IH} {v1 : Int} {v2 : Int} {s1 : Int} {s2 : Int} {s4 : Int} (hk36 : ∀ {z0 : IH} {z1 : Int} {z2 : Int}, Fg rgM lf_X12_mendsAll a0 z0 → Sg gpV rgM lf_X12_mendsAll a0 (k36 z0 z1 z2)) (hah : Fg rgM lf_X12_mendsAll a0 ah) : Sg gpV rgM lf_X12_mendsAll a0 (G_X12_mendsAll_100 N k36 ah v1 v2 s1 s2 s4) := by
  unfold G_X12_mendsAll_100
  refine Sg.g (fun _ => ?_)
  refine Sg.g (fun _ => ?_)
  refine Sg.ite ?_ ?_
  · exact gb_X12_mendsAll_115 hk36 hah
  · exact gb_X12_mendsAll_116 hk36 hah
theorem gb_X12_mendsAll_300 {a0 : IH} {N : Nat} {k170 : IH → Int → Int → Option IH} {ah : IH} {v1 : Int} {v2 : Int} (hk170 : ∀ {z0 : IH} {z1 : Int} {z2 : Int}, Fg rgM lf_X12_mendsAll a0 z0 → Sg gpV rgM lf_X12_mendsAll a0 (k170 z0 z1 z2)) (hah : Fg rgM lf_X12_mendsAll a0 ah) : Sg gpV rgM lf_X12_mendsAll a0 (G_X12_mendsAll_300 N k170 ah v1 v2) := by
  unfold G_X12_mendsAll_300
  exact hk170 hah
theorem gb_X12_mendsAll_297 {a0 : IH} {N : Nat} {k170 : IH → Int → Int → Option IH} {ah : IH} {v1 : Int} {v2 : Int} {s1 : Int} (hk170 : ∀ {z0 : IH} {z1 : Int} {z2 : Int}, Fg rgM lf_X12_mendsAll a0 z0 → Sg gpV rgM lf_X12_mendsAll a0 (k170 z0 z1 z2)) (hah : Fg rgM lf_X12_mendsAll a0 ah) : Sg gpV rgM lf_X12_mendsAll a0 (G_X12_mendsAll_297 N k170 ah v1 v2 s1) := by
  unfold G_X12_mendsAll_297
  refine Sg.bv (gb_X12_writes Fg.rf) hah rfl (fun a297 ha297 => ?_)
  exact gb_X12_mendsAll_300 hk170 ha297
theorem gb_X12_mendsAll_269 {a0 : IH} {N : Nat} {k170 : IH → Int → Int → Option IH} {ah : IH} {v1 : Int} {s0 : Int} {s1 : Int} (hk170 : ∀ {z0 : IH} {z1 : Int} {z2 : Int}, Fg rgM lf_X12_mendsAll a0 z0 → Sg gpV rgM lf_X12_mendsAll a0 (k170 z0 z1 z2)) (hah : Fg rgM lf_X12_mendsAll a0 ah) : Sg gpV rgM lf_X12_mendsAll a0 (G_X12_mendsAll_269 N k170 ah v1 s0 s1) := by
  unfold G_X12_mendsAll_269
  refine Sg.let_v (fun v2_270 => ?_)
  refine Sg.ite ?_ ?_
  · exact gb_X12_mendsAll_300 hk170 hah
  · refine Sg.let_c ?_
    refine Sg.g (fun _ => ?_)
    refine Sg.ite ?_ ?_
    · exact gb_X12_mendsAll_297 hk170 hah
    · exact gb_X12_mendsAll_297 hk170 hah
theorem gb_X12_mendsAll_248 {a0 : IH} {N : Nat} {k170 : IH → Int → Int → Option IH} {ah : IH} {v1 : Int} {v2 : Int} {v3 : Int} {s1 : Int} {s2 : Int} (hk170 : ∀ {z0 : IH} {z1 : Int} {z2 : Int}, Fg rgM lf_X12_mendsAll a0 z0 → Sg gpV rgM lf_X12_mendsAll a0 (k170 z0 z1 z2)) (hah : Fg rgM lf_X12_mendsAll a0 ah) : Sg gpV rgM lf_X12_mendsAll a0 (G_X12_mendsAll_248 N k170 ah v1 v2 v3 s1 s2) := by
  unfold G_X12_mendsAll_248
  refine Sg.let_xu hah rfl (fun a249 ha249 => ?_)
  refine Sg.g (fun _ => ?_)
  refine Sg.let_xu ha249 rfl (fun a258 ha258 => ?_)
  refine Sg.ite ?_ ?_
  · exact gb_X12_mendsAll_269 hk170 ha258
  · exact gb_X12_mendsAll_269 hk170 ha258
theorem gb_X12_mendsAll_247 {a0 : IH} {N : Nat} {k170 : IH → Int → Int → Option IH} {ah : IH} {v1 : Int} {v2 : Int} {v3 : Int} {s1 : Int} (hk170 : ∀ {z0 : IH} {z1 : Int} {z2 : Int}, Fg rgM lf_X12_mendsAll a0 z0 → Sg gpV rgM lf_X12_mendsAll a0 (k170 z0 z1 z2)) (hah : Fg rgM lf_X12_mendsAll a0 ah) : Sg gpV rgM lf_X12_mendsAll a0 (G_X12_mendsAll_247 N k170 ah v1 v2 v3 s1) := by
  unfold G_X12_mendsAll_247
  exact gb_X12_mendsAll_248 hk170 hah
theorem gb_X12_mendsAll_220 {a0 : IH} {N : Nat} {k170 : IH → Int → Int → Option IH} {ah : IH} {v1 : Int} {v2 : Int} {v3 : Int} {s1 : Int} {s2 : Int} (hk170 : ∀ {z0 : IH} {z1 : Int} {z2 : Int}, Fg rgM lf_X12_mendsAll a0 z0 → Sg gpV rgM lf_X12_mendsAll a0 (k170 z0 z1 z2)) (hah : Fg rgM lf_X12_mendsAll a0 ah) : Sg gpV rgM lf_X12_mendsAll a0 (G_X12_mendsAll_220 N k170 ah v1 v2 v3 s1 s2) := by
  unfold G_X12_mendsAll_220
  refine Sg.let_xu hah rfl (fun a221 ha221 => ?_)
  refine Sg.ite ?_ ?_
  · refine Sg.g (fun _ => ?_)
    refine Sg.ite ?_ ?_
    · exact gb_X12_mendsAll_248 hk170 ha221
    · exact gb_X12_mendsAll_247 hk170 ha221
  · exact gb_X12_mendsAll_247 hk170 ha221
theorem gb_X12_mendsAll_203 {a0 : IH} {N : Nat} {k170 : IH → Int → Int → Option IH} {ah : IH} {v1 : Int} {v2 : Int} {v3 : Int} {s1 : Int} {s2 : Int} (hk170 : ∀ {z0 : IH} {z1 : Int} {z2 : Int}, Fg rgM lf_X12_mendsAll a0 z0 → Sg gpV rgM lf_X12_mendsAll a0 (k170 z0 z1 z2)) (hah : Fg rgM lf_X12_mendsAll a0 ah) : Sg gpV rgM lf_X12_mendsAll a0 (G_X12_mendsAll_203 N k170 ah v1 v2 v3 s1 s2) := by
  unfold G_X12_mendsAll_203
  refine Sg.bv (gb_X12_writesOne Fg.rf) hah rfl (fun a203 ha203 => ?_)
  refine Sg.ite ?_ ?_
  · exact gb_X12_mendsAll_220 hk170 ha203
  · exact gb_X12_mendsAll_220 hk170 ha203
theorem gb_X12_mendsAll_170 {a0 : IH} {N : Nat}  : ∀ (n : Nat) {ah : IH} {v1 : Int} {v2 : Int}  (hah : Fg rgM lf_X12_mendsAll a0 ah), Sg gpV rgM lf_X12_mendsAll a0 (G_X12_mendsAll_170 N n ah v1 v2) := by
  intro n
  induction n with
  | zero => intros; exact Sg.none
  | succ n ih =>
    intro ah v1 v2  hah
    unfold G_X12_mendsAll_170
    refine Sg.ite ?_ ?_
    · exact Sg.ret hah
    · refine Sg.g (fun _ => ?_)
      refine Sg.let_v (fun v3_181 => ?_)
      refine Sg.ite ?_ ?_
      · refine Sg.g (fun _ => ?_)
        exact gb_X12_mendsAll_203 (fun h => ih h) hah
      · refine Sg.g (fun _ => ?_)
        exact gb_X12_mendsAll_203 (fun h => ih h) hah
theorem gb_X12_mendsAll_36 {a0 : IH} {N : Nat}  : ∀ (n : Nat) {ah : IH} {v1 : Int} {v2 : Int}  (hah : Fg rgM lf_X12_mendsAll a0 ah), Sg gpV rgM lf_X12_mendsAll a0 (G_X12_mendsAll_36 N n ah v1 v2) := by
  intro n
  induction n with
  | zero => intros; exact Sg.none
  | succ n ih =>
    intro ah v1 v2  hah
    unfold G_X12_mendsAll_36
    refine Sg.ite ?_ ?_
    · refine Sg.let_xu hah rfl (fun a155 ha155 => ?_)
      refine Sg.let_xu ha155 rfl (fun a160 ha160 => ?_)
      refine Sg.let_xu ha160 rfl (fun a165 ha165 => ?_)
      refine Sg.let_v (fun v2_169 => ?_)
      exact gb_X12_mendsAll_170 _ ha165
    · refine Sg.g (fun _ => ?_)
      refine Sg.g (fun _ => ?_)
      refine Sg.g (fun _ => ?_)
      refine Sg.let_xu hah rfl (fun a60 ha60 => ?_)
      refine Sg.g (fun _ => ?_)
      refine Sg.ite ?_ ?_
      · exact gb_X12_mendsAll_115 (fun h => ih h) ha60
      · refine Sg.g (fun _ => ?_)
        refine Sg.ite ?_ ?_
        · exact gb_X12_mendsAll_100 (fun h => ih h) ha60
        · exact gb_X12_mendsAll_100 (fun h => ih h) ha60
theorem gb_X12_mendsAll_9 {a0 : IH} {N : Nat}  : ∀ (n : Nat) {ah : IH} {v1 : Int} {v2 : Int}  (hah : Fg rgM lf_X12_mendsAll a0 ah), Sg gpV rgM lf_X12_mendsAll a0 (G_X12_mendsAll_9 N n ah v1 v2) := by
  intro n
  induction n with
  | zero => intros; exact Sg.none
  | succ n ih =>
    intro ah v1 v2  hah
    unfold G_X12_mendsAll_9
    refine Sg.ite ?_ ?_
    · refine Sg.g (fun _ => ?_)
      refine Sg.let_xu hah rfl (fun a31 ha31 => ?_)
      refine Sg.let_v (fun v2_35 => ?_)
      exact gb_X12_mendsAll_36 _ ha31
    · refine Sg.bv (gb_X12_laysAlone Fg.rf) hah rfl (fun a16 ha16 => ?_)
      refine Sg.let_v (fun v2_19 => ?_)
      exact ih ha16
theorem gb_X12_mendsAll {a0 : IH} {N : Nat} {ah : IH}  (hah : Fg rgM lf_X12_mendsAll a0 ah) : Sg gpV rgM lf_X12_mendsAll a0 (G_X12_mendsAll N ah) := by
  unfold G_X12_mendsAll
  refine Sg.let_v (fun v1_6 => ?_)
  refine Sg.let_v (fun v2_8 => ?_)
  exact gb_X12_mendsAll_9 _ hah
theorem gb_X12_text_20 {a0 : IH} {N : Nat} {ah : IH} {v1 : Int} {s1 : Int}  (hah : Fg rgM lf_X12_text a0 ah) : Sg gpI rgM lf_X12_text a0 (G_X12_text_20 N ah v1 s1) := by
  unfold G_X12_text_20
  refine Sg.b (gb_X12_bad Fg.rf) hah rfl (fun r22 a22 ha22 => ?_)
  refine Sg.ite ?_ ?_
  · refine Sg.bv (gb_X12_mendsAll Fg.rf) ha22 rfl (fun a31 ha31 => ?_)
    refine Sg.ite ?_ ?_
    · exact Sg.ret ha31
    · refine Sg.ite ?_ ?_
      · exact Sg.ret ha31
      · refine Sg.ite ?_ ?_
        · exact Sg.ret ha31
        · exact Sg.ret ha31
  · exact Sg.ret ha22
theorem gb_X12_text {a0 : IH} {N : Nat} {ah : IH} {p1 : Int}  (hah : Fg rgM lf_X12_text a0 ah) : Sg gpI rgM lf_X12_text a0 (G_X12_text N ah p1) := by
  unfold G_X12_text
  refine Sg.let_xu hah rfl (fun a2 ha2 => ?_)
  refine Sg.b (gb_X12_in Fg.rf) ha2 rfl (fun r9 a9 ha9 => ?_)
  refine Sg.ite ?_ ?_
  · exact gb_X12_text_20 ha9
  · exact gb_X12_text_20 ha9
theorem gb_X12_at {a0 : IH} {N : Nat} {ah : IH} {p1 : Int}  (hah : Fg rgM lf_X12_at a0 ah) : Sg gpI rgM lf_X12_at a0 (G_X12_at N ah p1) := by
  unfold G_X12_at
  refine Sg.let_xu hah rfl (fun a2 ha2 => ?_)
  refine Sg.bv (gb_X12_mendsAll Fg.rf) ha2 rfl (fun a6 ha6 => ?_)
  refine Sg.b (gb_X12_in Fg.rf) ha6 rfl (fun r17 a17 ha17 => ?_)
  refine Sg.ite ?_ ?_
  · exact Sg.ret ha17
  · refine Sg.g (fun _ => ?_)
    exact Sg.ret ha17
theorem gb_X12_isLostAt_22 {a0 : IH} {N : Nat} {k2 : IH → Int → Int → Option (Int × IH)} {ah : IH} {v1 : Int} {s0 : Int} {s1 : Int} (hk2 : ∀ {z0 : IH} {z1 : Int} {z2 : Int}, Fg rgM lf_X12_isLostAt a0 z0 → Sg gpI rgM lf_X12_isLostAt a0 (k2 z0 z1 z2)) (hah : Fg rgM lf_X12_isLostAt a0 ah) : Sg gpI rgM lf_X12_isLostAt a0 (G_X12_isLostAt_22 N k2 ah v1 s0 s1) := by
  unfold G_X12_isLostAt_22
  refine Sg.let_v (fun v2_23 => ?_)
  exact hk2 hah
theorem gb_X12_isLostAt_2 {a0 : IH} {N : Nat}  : ∀ (n : Nat) {ah : IH} {v1 : Int} {v2 : Int}  (hah : Fg rgM lf_X12_isLostAt a0 ah), Sg gpI rgM lf_X12_isLostAt a0 (G_X12_isLostAt_2 N n ah v1 v2) := by
  intro n
  induction n with
  | zero => intros; exact Sg.none
  | succ n ih =>
    intro ah v1 v2  hah
    unfold G_X12_isLostAt_2
    refine Sg.ite ?_ ?_
    · refine Sg.ite ?_ ?_
      · refine Sg.ite ?_ ?_
        · exact Sg.ret hah
        · refine Sg.ite ?_ ?_
          · exact Sg.ret hah
          · refine Sg.g (fun _ => ?_)
            refine Sg.ite ?_ ?_
            · exact Sg.ret hah
            · exact Sg.ret hah
      · exact Sg.ret hah
    · refine Sg.g (fun _ => ?_)
      refine Sg.ite ?_ ?_
      · exact gb_X12_isLostAt_22 (fun h => ih h) hah
      · exact gb_X12_isLostAt_22 (fun h => ih h) hah
theorem gb_X12_isLostAt {a0 : IH} {N : Nat} {ah : IH} {p1 : Int}  (hah : Fg rgM lf_X12_isLostAt a0 ah) : Sg gpI rgM lf_X12_isLostAt a0 (G_X12_isLostAt N ah p1) := by
  unfold G_X12_isLostAt
  refine Sg.let_v (fun v2_1 => ?_)
  exact gb_X12_isLostAt_2 _ hah
theorem gb_X12_lost_68 {a0 : IH} {N : Nat} {ah : IH} {s1 : Int}  (hah : Fg rgM lf_X12_lost a0 ah) : Sg gpI rgM lf_X12_lost a0 (G_X12_lost_68 N ah s1) := by
  unfold G_X12_lost_68
  refine Sg.b (gb_X12_isLostAt Fg.rf) hah rfl (fun r68 a68 ha68 => ?_)
  refine Sg.bo ?_
  exact Sg.ret ha68
theorem gb_X12_lost_42 {a0 : IH} {N : Nat} {ah : IH} {v1 : Int} {v2 : Int} {s1 : Int}  (hah : Fg rgM lf_X12_lost a0 ah) : Sg gpI rgM lf_X12_lost a0 (G_X12_lost_42 N ah v1 v2 s1) := by
  unfold G_X12_lost_42
  refine Sg.b (gb_X12_bad Fg.rf) hah rfl (fun r44 a44 ha44 => ?_)
  refine Sg.ite ?_ ?_
  · refine Sg.bv (gb_X12_mendsAll Fg.rf) ha44 rfl (fun a53 ha53 => ?_)
    refine Sg.ite ?_ ?_
    · exact gb_X12_lost_68 ha53
    · exact gb_X12_lost_68 ha53
  · exact Sg.ret ha44
theorem gb_X12_lost_19 {a0 : IH} {N : Nat} {ah : IH} {v1 : Int} {v2 : Int} {s1 : Int}  (hah : Fg rgM lf_X12_lost a0 ah) : Sg gpI rgM lf_X12_lost a0 (G_X12_lost_19 N ah v1 v2 s1) := by
  unfold G_X12_lost_19
  refine Sg.b (gb_X12_bad Fg.rf) hah rfl (fun r21 a21 ha21 => ?_)
  refine Sg.ite ?_ ?_
  · refine Sg.b (gb_X12_in Fg.rf) ha21 rfl (fun r31 a31 ha31 => ?_)
    refine Sg.ite ?_ ?_
    · exact gb_X12_lost_42 ha31
    · exact gb_X12_lost_42 ha31
  · exact Sg.ret ha21
theorem gb_X12_lost {a0 : IH} {N : Nat} {ah : IH} {p1 : Int} {p2 : Int}  (hah : Fg rgM lf_X12_lost a0 ah) : Sg gpI rgM lf_X12_lost a0 (G_X12_lost N ah p1 p2) := by
  unfold G_X12_lost
  refine Sg.let_xu hah rfl (fun a2 ha2 => ?_)
  refine Sg.b (gb_X12_isToken Fg.rf) ha2 rfl (fun r8 a8 ha8 => ?_)
  refine Sg.ite ?_ ?_
  · exact gb_X12_lost_19 ha8
  · exact gb_X12_lost_19 ha8
theorem gb_X12_apartOf {a0 : IH} {N : Nat} {ah : IH} {p1 : Int} {p2 : Int}  (hah : Fg rgM lf_X12_apartOf a0 ah) : Sg gpI rgM lf_X12_apartOf a0 (G_X12_apartOf N ah p1 p2) := by
  unfold G_X12_apartOf
  refine Sg.bv (gb_X12_laysWord Fg.rf) hah rfl (fun a2 ha2 => ?_)
  refine Sg.b (gb_X12_spells Fg.rf) ha2 rfl (fun r7 a7 ha7 => ?_)
  refine Sg.let_v (fun v3_10 => ?_)
  refine Sg.ite ?_ ?_
  · exact Sg.ret ha7
  · exact Sg.ret ha7
theorem gb_X12_apart_27 {a0 : IH} {N : Nat} {ah : IH} {v1 : Int} {v2 : Int} {s1 : Int}  (hah : Fg rgM lf_X12_apart a0 ah) : Sg gpI rgM lf_X12_apart a0 (G_X12_apart_27 N ah v1 v2 s1) := by
  unfold G_X12_apart_27
  refine Sg.b (gb_X12_bad Fg.rf) hah rfl (fun r29 a29 ha29 => ?_)
  refine Sg.ite ?_ ?_
  · refine Sg.b (gb_X12_apartOf Fg.rf) ha29 rfl (fun r40 a40 ha40 => ?_)
    exact Sg.ret ha40
  · exact Sg.ret ha29
theorem gb_X12_apart_22 {a0 : IH} {N : Nat} {ah : IH} {v1 : Int} {v2 : Int}  (hah : Fg rgM lf_X12_apart a0 ah) : Sg gpI rgM lf_X12_apart a0 (G_X12_apart_22 N ah v1 v2) := by
  unfold G_X12_apart_22
  exact gb_X12_apart_27 hah
theorem gb_X12_apart {a0 : IH} {N : Nat} {ah : IH} {p1 : Int} {p2 : Int}  (hah : Fg rgM lf_X12_apart a0 ah) : Sg gpI rgM lf_X12_apart a0 (G_X12_apart N ah p1 p2) := by
  unfold G_X12_apart
  refine Sg.let_xu hah rfl (fun a2 ha2 => ?_)
  refine Sg.b (gb_X12_isWord Fg.rf) ha2 rfl (fun r8 a8 ha8 => ?_)
  refine Sg.ite ?_ ?_
  · exact gb_X12_apart_22 ha8
  · refine Sg.b (gb_X12_isWord Fg.rf) ha8 rfl (fun r16 a16 ha16 => ?_)
    refine Sg.ite ?_ ?_
    · exact gb_X12_apart_22 ha16
    · exact gb_X12_apart_27 ha16
theorem gb_X12_twin_117 {a0 : IH} {N : Nat} {k60 : IH → Int → Int → Int → Int → Int → Option (Int × IH)} {ah : IH} {v1 : Int} {v2 : Int} {v3 : Int} {v4 : Int} {v5 : Int} (hk60 : ∀ {z0 : IH} {z1 : Int} {z2 : Int} {z3 : Int} {z4 : Int} {z5 : Int}, Fg rgM lf_X12_twin a0 z0 → Sg gpI rgM lf_X12_twin a0 (k60 z0 z1 z2 z3 z4 z5)) (hah : Fg rgM lf_X12_twin a0 ah) : Sg gpI rgM lf_X12_twin a0 (G_X12_twin_117 N k60 ah v1 v2 v3 v4 v5) := by
  unfold G_X12_twin_117
  refine Sg.let_v (fun v5_117 => ?_)
  exact hk60 hah
theorem gb_X12_twin_110 {a0 : IH} {N : Nat} {k60 : IH → Int → Int → Int → Int → Int → Option (Int × IH)} {ah : IH} {v1 : Int} {v2 : Int} {v5 : Int} {v6 : Int} (hk60 : ∀ {z0 : IH} {z1 : Int} {z2 : Int} {z3 : Int} {z4 : Int} {z5 : Int}, Fg rgM lf_X12_twin a0 z0 → Sg gpI rgM lf_X12_twin a0 (k60 z0 z1 z2 z3 z4 z5)) (hah : Fg rgM lf_X12_twin a0 ah) : Sg gpI rgM lf_X12_twin a0 (G_X12_twin_110 N k60 ah v1 v2 v5 v6) := by
  unfold G_X12_twin_110
  refine Sg.let_v (fun v3_112 => ?_)
  refine Sg.let_v (fun v4_115 => ?_)
  exact gb_X12_twin_117 hk60 hah
theorem gb_X12_twin_86 {a0 : IH} {N : Nat} {k60 : IH → Int → Int → Int → Int → Int → Option (Int × IH)} {ah : IH} {v1 : Int} {v2 : Int} {v3 : Int} {v4 : Int} {v5 : Int} {s0 : Int} (hk60 : ∀ {z0 : IH} {z1 : Int} {z2 : Int} {z3 : Int} {z4 : Int} {z5 : Int}, Fg rgM lf_X12_twin a0 z0 → Sg gpI rgM lf_X12_twin a0 (k60 z0 z1 z2 z3 z4 z5)) (hah : Fg rgM lf_X12_twin a0 ah) : Sg gpI rgM lf_X12_twin a0 (G_X12_twin_86 N k60 ah v1 v2 v3 v4 v5 s0) := by
  unfold G_X12_twin_86
  refine Sg.let_v (fun v6_86 => ?_)
  refine Sg.ite ?_ ?_
  · exact gb_X12_twin_117 hk60 hah
  · refine Sg.ite ?_ ?_
    · exact gb_X12_twin_110 hk60 hah
    · refine Sg.ite ?_ ?_
      · exact gb_X12_twin_110 hk60 hah
      · exact gb_X12_twin_117 hk60 hah
theorem gb_X12_twin_60 {a0 : IH} {N : Nat}  : ∀ (n : Nat) {ah : IH} {v1 : Int} {v2 : Int} {v3 : Int} {v4 : Int} {v5 : Int}  (hah : Fg rgM lf_X12_twin a0 ah), Sg gpI rgM lf_X12_twin a0 (G_X12_twin_60 N n ah v1 v2 v3 v4 v5) := by
  intro n
  induction n with
  | zero => intros; exact Sg.none
  | succ n ih =>
    intro ah v1 v2 v3 v4 v5  hah
    unfold G_X12_twin_60
    refine Sg.ite ?_ ?_
    · refine Sg.ite ?_ ?_
      · exact Sg.ret hah
      · exact Sg.ret hah
    · refine Sg.ite ?_ ?_
      · exact gb_X12_twin_86 (fun h => ih h) hah
      · refine Sg.b (gb_X12_apartOf Fg.rf) hah rfl (fun r83 a83 ha83 => ?_)
        exact gb_X12_twin_86 (fun h => ih h) ha83
theorem gb_X12_twin_42 {a0 : IH} {N : Nat} {ah : IH} {v1 : Int} {v2 : Int} {s1 : Int}  (hah : Fg rgM lf_X12_twin a0 ah) : Sg gpI rgM lf_X12_twin a0 (G_X12_twin_42 N ah v1 v2 s1) := by
  unfold G_X12_twin_42
  refine Sg.b (gb_X12_bad Fg.rf) hah rfl (fun r44 a44 ha44 => ?_)
  refine Sg.ite ?_ ?_
  · refine Sg.let_v (fun v3_53 => ?_)
    refine Sg.let_v (fun v4_55 => ?_)
    refine Sg.let_v (fun v5_58 => ?_)
    exact gb_X12_twin_60 _ ha44
  · exact Sg.ret ha44
theorem gb_X12_twin_19 {a0 : IH} {N : Nat} {ah : IH} {v1 : Int} {v2 : Int} {s1 : Int}  (hah : Fg rgM lf_X12_twin a0 ah) : Sg gpI rgM lf_X12_twin a0 (G_X12_twin_19 N ah v1 v2 s1) := by
  unfold G_X12_twin_19
  refine Sg.b (gb_X12_bad Fg.rf) hah rfl (fun r21 a21 ha21 => ?_)
  refine Sg.ite ?_ ?_
  · refine Sg.b (gb_X12_in Fg.rf) ha21 rfl (fun r31 a31 ha31 => ?_)
    refine Sg.ite ?_ ?_
    · exact gb_X12_twin_42 ha31
    · exact gb_X12_twin_42 ha31
  · exact Sg.ret ha21
theorem gb_X12_twin {a0 : IH} {N : Nat} {ah : IH} {p1 : Int} {p2 : Int}  (hah : Fg rgM lf_X12_twin a0 ah) : Sg gpI rgM lf_X12_twin a0 (G_X12_twin N ah p1 p2) := by
  unfold G_X12_twin
  refine Sg.let_xu hah rfl (fun a2 ha2 => ?_)
  refine Sg.b (gb_X12_isWord Fg.rf) ha2 rfl (fun r8 a8 ha8 => ?_)
  refine Sg.ite ?_ ?_
  · exact gb_X12_twin_19 ha8
  · exact gb_X12_twin_19 ha8
theorem gb_X12_twins_83 {a0 : IH} {N : Nat} {k36 : IH → Int → Int → Int → Option (Int × IH)} {k47 : IH → Int → Int → Int → Int → Option (Int × IH)} {ah : IH} {v1 : Int} {v3 : Int} {v4 : Int} {s0 : Int} {s1 : Int} (hk36 : ∀ {z0 : IH} {z1 : Int} {z2 : Int} {z3 : Int}, Fg rgM lf_X12_twins a0 z0 → Sg gpI rgM lf_X12_twins a0 (k36 z0 z1 z2 z3)) (hk47 : ∀ {z0 : IH} {z1 : Int} {z2 : Int} {z3 : Int} {z4 : Int}, Fg rgM lf_X12_twins a0 z0 → Sg gpI rgM lf_X12_twins a0 (k47 z0 z1 z2 z3 z4)) (hah : Fg rgM lf_X12_twins a0 ah) : Sg gpI rgM lf_X12_twins a0 (G_X12_twins_83 N k36 k47 ah v1 v3 v4 s0 s1) := by
  unfold G_X12_twins_83
  refine Sg.let_v (fun v2_84 => ?_)
  refine Sg.let_v (fun v4_85 => ?_)
  exact hk47 hah
theorem gb_X12_twins_82 {a0 : IH} {N : Nat} {k36 : IH → Int → Int → Int → Option (Int × IH)} {k47 : IH → Int → Int → Int → Int → Option (Int × IH)} {ah : IH} {v1 : Int} {v3 : Int} {v4 : Int} {s0 : Int} (hk36 : ∀ {z0 : IH} {z1 : Int} {z2 : Int} {z3 : Int}, Fg rgM lf_X12_twins a0 z0 → Sg gpI rgM lf_X12_twins a0 (k36 z0 z1 z2 z3)) (hk47 : ∀ {z0 : IH} {z1 : Int} {z2 : Int} {z3 : Int} {z4 : Int}, Fg rgM lf_X12_twins a0 z0 → Sg gpI rgM lf_X12_twins a0 (k47 z0 z1 z2 z3 z4)) (hah : Fg rgM lf_X12_twins a0 ah) : Sg gpI rgM lf_X12_twins a0 (G_X12_twins_82 N k36 k47 ah v1 v3 v4 s0) := by
  unfold G_X12_twins_82
  exact gb_X12_twins_83 hk36 hk47 hah
theorem gb_X12_twins_47 {a0 : IH} {N : Nat} {k36 : IH → Int → Int → Int → Option (Int × IH)} (hk36 : ∀ {z0 : IH} {z1 : Int} {z2 : Int} {z3 : Int}, Fg rgM lf_X12_twins a0 z0 → Sg gpI rgM lf_X12_twins a0 (k36 z0 z1 z2 z3)) : ∀ (n : Nat) {ah : IH} {v1 : Int} {v2 : Int} {v3 : Int} {v4 : Int}  (hah : Fg rgM lf_X12_twins a0 ah), Sg gpI rgM lf_X12_twins a0 (G_X12_twins_47 N k36 n ah v1 v2 v3 v4) := by
  intro n
  induction n with
  | zero => intros; exact Sg.none
  | succ n ih =>
    intro ah v1 v2 v3 v4  hah
    unfold G_X12_twins_47
    refine Sg.ite ?_ ?_
    · refine Sg.let_v (fun v3_91 => ?_)
      exact hk36 hah
    · refine Sg.ite ?_ ?_
      · exact gb_X12_twins_82 hk36 (fun h => ih h) hah
      · refine Sg.b (gb_X12_apartOf Fg.rf) hah rfl (fun r67 a67 ha67 => ?_)
        refine Sg.b (gb_X12_in Fg.rf) ha67 rfl (fun r72 a72 ha72 => ?_)
        refine Sg.ite ?_ ?_
        · exact gb_X12_twins_82 hk36 (fun h => ih h) ha72
        · exact gb_X12_twins_83 hk36 (fun h => ih h) ha72
theorem gb_X12_twins_36 {a0 : IH} {N : Nat}  : ∀ (n : Nat) {ah : IH} {v1 : Int} {v2 : Int} {v3 : Int}  (hah : Fg rgM lf_X12_twins a0 ah), Sg gpI rgM lf_X12_twins a0 (G_X12_twins_36 N n ah v1 v2 v3) := by
  intro n
  induction n with
  | zero => intros; exact Sg.none
  | succ n ih =>
    intro ah v1 v2 v3  hah
    unfold G_X12_twins_36
    refine Sg.ite ?_ ?_
    · exact Sg.ret hah
    · refine Sg.let_v (fun v4_45 => ?_)
      exact gb_X12_twins_47 (fun h => ih h) _ hah
theorem gb_X12_twins_22 {a0 : IH} {N : Nat} {ah : IH} {v1 : Int} {s1 : Int}  (hah : Fg rgM lf_X12_twins a0 ah) : Sg gpI rgM lf_X12_twins a0 (G_X12_twins_22 N ah v1 s1) := by
  unfold G_X12_twins_22
  refine Sg.b (gb_X12_bad Fg.rf) hah rfl (fun r24 a24 ha24 => ?_)
  refine Sg.ite ?_ ?_
  · refine Sg.let_v (fun v2_33 => ?_)
    refine Sg.let_v (fun v3_35 => ?_)
    exact gb_X12_twins_36 _ ha24
  · exact Sg.ret ha24
theorem gb_X12_twins {a0 : IH} {N : Nat} {ah : IH} {p1 : Int}  (hah : Fg rgM lf_X12_twins a0 ah) : Sg gpI rgM lf_X12_twins a0 (G_X12_twins N ah p1) := by
  unfold G_X12_twins
  refine Sg.let_xu hah rfl (fun a2 ha2 => ?_)
  refine Sg.b (gb_X12_in Fg.rf) ha2 rfl (fun r11 a11 ha11 => ?_)
  refine Sg.ite ?_ ?_
  · exact gb_X12_twins_22 ha11
  · exact gb_X12_twins_22 ha11
theorem gb_X12_status {a0 : IH} {N : Nat} {ah : IH} {p1 : Int}  (hah : Fg rgM lf_X12_status a0 ah) : Sg gpI rgM lf_X12_status a0 (G_X12_status N ah p1) := by
  unfold G_X12_status
  refine Sg.let_xu hah rfl (fun a2 ha2 => ?_)
  refine Sg.b (gb_X12_in Fg.rf) ha2 rfl (fun r8 a8 ha8 => ?_)
  refine Sg.ite ?_ ?_
  · exact Sg.ret ha8
  · refine Sg.g (fun _ => ?_)
    exact Sg.ret ha8
