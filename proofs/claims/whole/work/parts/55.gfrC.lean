theorem gb_X9_add_3 {a0 : IH} {N : Nat}  : ∀ (n : Nat) {ah : IH} {v1 : Int} {v2 : Int}  (hah : Fg rgC lf_X9_add a0 ah), Sg gpV rgC lf_X9_add a0 (G_X9_add_3 N n ah v1 v2) := by
  intro n
  induction n with
  | zero => intros; exact Sg.none
  | succ n ih =>
    intro ah v1 v2  hah
    unfold G_X9_add_3
    refine Sg.ite ?_ ?_
    · exact Sg.ret hah
    · refine Sg.ite ?_ ?_
      · exact Sg.ret hah
      · refine Sg.g (fun _ => ?_)
        refine Sg.let_xu hah rfl (fun a32 ha32 => ?_)
        refine Sg.let_xu ha32 rfl (fun a40 ha40 => ?_)
        refine Sg.let_v (fun v2_43 => ?_)
        exact ih ha40
theorem gb_X9_add {a0 : IH} {N : Nat} {ah : IH} {p1 : Int}  (hah : Fg rgC lf_X9_add a0 ah) : Sg gpV rgC lf_X9_add a0 (G_X9_add N ah p1) := by
  unfold G_X9_add
  refine Sg.let_v (fun v2_2 => ?_)
  exact gb_X9_add_3 _ hah
theorem gb_X11_feed {a0 : IH} {N : Nat} {ah : IH} {p1 : Int} {p2 : Int} {p3 : Int} {p4 : Int} {p5 : Int}  (hah : Fg rgC lf_X11_feed a0 ah) : Sg gpI rgC lf_X11_feed a0 (G_X11_feed N ah p1 p2 p3 p4 p5) := by
  unfold G_X11_feed
  refine Sg.ite ?_ ?_
  · refine Sg.bv (gb_X9_add Fg.rf) hah rfl (fun a20 ha20 => ?_)
    refine Sg.bv (gb_X9_add Fg.rf) ha20 rfl (fun a28 ha28 => ?_)
    refine Sg.bv (gb_X9_add Fg.rf) ha28 rfl (fun a36 ha36 => ?_)
    refine Sg.bv (gb_X9_add Fg.rf) ha36 rfl (fun a45 ha45 => ?_)
    refine Sg.bv (gb_X9_add Fg.rf) ha45 rfl (fun a54 ha54 => ?_)
    exact Sg.ret ha54
  · exact Sg.ret hah
theorem gb_X11_fault {a0 : IH} {N : Nat} {ah : IH}  (hah : Fg rgC lf_X11_fault a0 ah) : Sg gpI rgC lf_X11_fault a0 (G_X11_fault N ah) := by
  unfold G_X11_fault
  exact Sg.ret hah
theorem gb_X0_forgetAll_2 {a0 : IH} {N : Nat}  : ∀ (n : Nat) {ah : IH} {v1 : Int}  (hah : Fg rgC lf_X0_forgetAll a0 ah), Sg gpV rgC lf_X0_forgetAll a0 (G_X0_forgetAll_2 N n ah v1) := by
  intro n
  induction n with
  | zero => intros; exact Sg.none
  | succ n ih =>
    intro ah v1  hah
    unfold G_X0_forgetAll_2
    refine Sg.ite ?_ ?_
    · exact Sg.ret hah
    · refine Sg.g (fun _ => ?_)
      refine Sg.let_xu hah rfl (fun a15 ha15 => ?_)
      refine Sg.let_v (fun v1_16 => ?_)
      exact ih ha15
theorem gb_X0_forgetAll {a0 : IH} {N : Nat} {ah : IH}  (hah : Fg rgC lf_X0_forgetAll a0 ah) : Sg gpV rgC lf_X0_forgetAll a0 (G_X0_forgetAll N ah) := by
  unfold G_X0_forgetAll
  refine Sg.let_v (fun v1_1 => ?_)
  exact gb_X0_forgetAll_2 _ hah
theorem gb_X11_changed {a0 : IH} {N : Nat} {ah : IH}  (hah : Fg rgC lf_X11_changed a0 ah) : Sg gpV rgC lf_X11_changed a0 (G_X11_changed N ah) := by
  unfold G_X11_changed
  refine Sg.bv (gb_X0_forgetAll Fg.rf) hah rfl (fun a4 ha4 => ?_)
  refine Sg.let_xu ha4 rfl (fun a12 ha12 => ?_)
  refine Sg.let_xu ha12 rfl (fun a20 ha20 => ?_)
  exact Sg.ret ha20
theorem gb_X1_clear_49 {a0 : IH} {N : Nat} {ah : IH}  (hah : Fg rgC lf_X1_clear_49 a0 ah) : Sg gpV rgC lf_X1_clear_49 a0 (G_X1_clear N 49 ah) := by
  unfold G_X1_clear
  refine Sg.let_xu hah rfl (fun a2 ha2 => ?_)
  exact Sg.ret ha2
theorem gb_X2_addNode {a0 : IH} {N : Nat} {ah : IH} {p1 : Int} {p2 : Int}  (hah : Fg rgC lf_X2_addNode a0 ah) : Sg gpI rgC lf_X2_addNode a0 (G_X2_addNode N ah p1 p2) := by
  unfold G_X2_addNode
  refine Sg.let_v (fun v3_4 => ?_)
  refine Sg.ite ?_ ?_
  · refine Sg.let_xu hah rfl (fun a21 ha21 => ?_)
    refine Sg.g (fun _ => ?_)
    refine Sg.let_xu ha21 rfl (fun a30 ha30 => ?_)
    refine Sg.g (fun _ => ?_)
    refine Sg.let_xu ha30 rfl (fun a37 ha37 => ?_)
    refine Sg.g (fun _ => ?_)
    refine Sg.let_xu ha37 rfl (fun a44 ha44 => ?_)
    refine Sg.g (fun _ => ?_)
    refine Sg.let_xu ha44 rfl (fun a51 ha51 => ?_)
    refine Sg.g (fun _ => ?_)
    refine Sg.let_xu ha51 rfl (fun a58 ha58 => ?_)
    refine Sg.g (fun _ => ?_)
    refine Sg.let_xu ha58 rfl (fun a65 ha65 => ?_)
    refine Sg.g (fun _ => ?_)
    refine Sg.let_xu ha65 rfl (fun a72 ha72 => ?_)
    refine Sg.ite ?_ ?_
    · exact Sg.ret ha72
    · refine Sg.g (fun _ => ?_)
      refine Sg.g (fun _ => ?_)
      refine Sg.let_xu ha72 rfl (fun a88 ha88 => ?_)
      refine Sg.g (fun _ => ?_)
      refine Sg.let_xu ha88 rfl (fun a95 ha95 => ?_)
      exact Sg.ret ha95
  · exact Sg.ret hah
theorem gb_X2_clear {a0 : IH} {N : Nat} {ah : IH}  (hah : Fg rgC lf_X2_clear a0 ah) : Sg gpV rgC lf_X2_clear a0 (G_X2_clear N ah) := by
  unfold G_X2_clear
  refine Sg.let_xu hah rfl (fun a2 ha2 => ?_)
  refine Sg.let_xu ha2 rfl (fun a7 ha7 => ?_)
  refine Sg.b (gb_X2_addNode Fg.rf) ha7 rfl (fun r13 a13 ha13 => ?_)
  exact Sg.ret ha13
theorem gb_X11_forget {a0 : IH} {N : Nat} {ah : IH}  (hah : Fg rgC lf_X11_forget a0 ah) : Sg gpI rgC lf_X11_forget a0 (G_X11_forget N ah) := by
  unfold G_X11_forget
  refine Sg.let_v (fun v1_7 => ?_)
  refine Sg.bv (gb_X2_clear Fg.rf) hah rfl (fun a12 ha12 => ?_)
  refine Sg.bv (gb_X1_clear_49 Fg.rf) ha12 rfl (fun a19 ha19 => ?_)
  refine Sg.bv (gb_X11_changed Fg.rf) ha19 rfl (fun a23 ha23 => ?_)
  exact Sg.ret ha23
theorem gb_X0_keep_22 {a0 : IH} {N : Nat}  : ∀ (n : Nat) {ah : IH} {v1 : Int} {v2 : Int}  (hah : Fg rgC lf_X0_keep a0 ah), Sg gpV rgC lf_X0_keep a0 (G_X0_keep_22 N n ah v1 v2) := by
  intro n
  induction n with
  | zero => intros; exact Sg.none
  | succ n ih =>
    intro ah v1 v2  hah
    unfold G_X0_keep_22
    refine Sg.ite ?_ ?_
    · exact Sg.ret hah
    · refine Sg.g (fun _ => ?_)
      refine Sg.g (fun _ => ?_)
      refine Sg.let_xu hah rfl (fun a52 ha52 => ?_)
      refine Sg.g (fun _ => ?_)
      refine Sg.g (fun _ => ?_)
      refine Sg.let_xu ha52 rfl (fun a72 ha72 => ?_)
      refine Sg.g (fun _ => ?_)
      refine Sg.g (fun _ => ?_)
      refine Sg.let_xu ha72 rfl (fun a92 ha92 => ?_)
      refine Sg.let_v (fun v2_93 => ?_)
      exact ih ha92
theorem gb_X0_keep {a0 : IH} {N : Nat} {ah : IH} {p1 : Int}  (hah : Fg rgC lf_X0_keep a0 ah) : Sg gpV rgC lf_X0_keep a0 (G_X0_keep N ah p1) := by
  unfold G_X0_keep
  refine Sg.g (fun _ => ?_)
  refine Sg.let_xu hah rfl (fun a6 ha6 => ?_)
  refine Sg.g (fun _ => ?_)
  refine Sg.let_xu ha6 rfl (fun a19 ha19 => ?_)
  refine Sg.let_v (fun v2_21 => ?_)
  exact gb_X0_keep_22 _ ha19
theorem gb_X4_begin {a0 : IH} {N : Nat} {ah : IH} {p1 : Int}  (hah : Fg rgC lf_X4_begin a0 ah) : Sg gpV rgC lf_X4_begin a0 (G_X4_begin N ah p1) := by
  unfold G_X4_begin
  refine Sg.let_xu hah rfl (fun a7 ha7 => ?_)
  refine Sg.let_xu ha7 rfl (fun a12 ha12 => ?_)
  exact Sg.ret ha12
theorem gb_X4_addEdge {a0 : IH} {N : Nat} {ah : IH} {p1 : Int} {p2 : Int} {p3 : Int}  (hah : Fg rgC lf_X4_addEdge a0 ah) : Sg gpI rgC lf_X4_addEdge a0 (G_X4_addEdge N ah p1 p2 p3) := by
  unfold G_X4_addEdge
  refine Sg.let_v (fun v4_4 => ?_)
  refine Sg.ite ?_ ?_
  · refine Sg.let_xu hah rfl (fun a23 ha23 => ?_)
    refine Sg.g (fun _ => ?_)
    refine Sg.let_xu ha23 rfl (fun a33 ha33 => ?_)
    refine Sg.g (fun _ => ?_)
    refine Sg.let_xu ha33 rfl (fun a41 ha41 => ?_)
    refine Sg.g (fun _ => ?_)
    refine Sg.let_xu ha41 rfl (fun a49 ha49 => ?_)
    refine Sg.g (fun _ => ?_)
    refine Sg.let_xu ha49 rfl (fun a57 ha57 => ?_)
    refine Sg.g (fun _ => ?_)
    refine Sg.let_xu ha57 rfl (fun a65 ha65 => ?_)
    exact Sg.ret ha65
  · exact Sg.ret hah
theorem gb_X4_addSign {a0 : IH} {N : Nat} {ah : IH} {p1 : Int} {p2 : Int} {p3 : Int}  (hah : Fg rgC lf_X4_addSign a0 ah) : Sg gpV rgC lf_X4_addSign a0 (G_X4_addSign N ah p1 p2 p3) := by
  unfold G_X4_addSign
  refine Sg.b (gb_X4_addEdge Fg.rf) hah rfl (fun r6 a6 ha6 => ?_)
  refine Sg.let_v (fun v4_9 => ?_)
  refine Sg.ite ?_ ?_
  · exact Sg.ret ha6
  · refine Sg.g (fun _ => ?_)
    refine Sg.let_xu ha6 rfl (fun a24 ha24 => ?_)
    refine Sg.g (fun _ => ?_)
    refine Sg.let_xu ha24 rfl (fun a34 ha34 => ?_)
    exact Sg.ret ha34
theorem gb_X4_addOthers_2 {a0 : IH} {N : Nat}  : ∀ (n : Nat) {ah : IH} {v1 : Int} {v2 : Int} {v3 : Int}  (hah : Fg rgC lf_X4_addOthers a0 ah), Sg gpV rgC lf_X4_addOthers a0 (G_X4_addOthers_2 N n ah v1 v2 v3) := by
  intro n
  induction n with
  | zero => intros; exact Sg.none
  | succ n ih =>
    intro ah v1 v2 v3  hah
    unfold G_X4_addOthers_2
    refine Sg.g (fun _ => ?_)
    refine Sg.ite ?_ ?_
    · exact Sg.ret hah
    · refine Sg.let_v (fun v4_20 => ?_)
      refine Sg.g (fun _ => ?_)
      refine Sg.g (fun _ => ?_)
      refine Sg.bv (gb_X4_addSign Fg.rf) hah rfl (fun a44 ha44 => ?_)
      refine Sg.let_v (fun v3_47 => ?_)
      exact ih ha44
theorem gb_X4_addOthers {a0 : IH} {N : Nat} {ah : IH} {p1 : Int} {p2 : Int}  (hah : Fg rgC lf_X4_addOthers a0 ah) : Sg gpV rgC lf_X4_addOthers a0 (G_X4_addOthers N ah p1 p2) := by
  unfold G_X4_addOthers
  refine Sg.let_v (fun v3_1 => ?_)
  exact gb_X4_addOthers_2 _ hah
theorem gb_X4_addRead_84 {a0 : IH} {N : Nat} {ah : IH} {v1 : Int} {v2 : Int}  (hah : Fg rgC lf_X4_addRead a0 ah) : Sg gpV rgC lf_X4_addRead a0 (G_X4_addRead_84 N ah v1 v2) := by
  unfold G_X4_addRead_84
  refine Sg.ite ?_ ?_
  · refine Sg.b (gb_X4_addEdge Fg.rf) hah rfl (fun r101 a101 ha101 => ?_)
    exact Sg.ret ha101
  · exact Sg.ret hah
theorem gb_X4_addRead_15 {a0 : IH} {N : Nat}  : ∀ (n : Nat) {ah : IH} {v1 : Int} {v2 : Int} {v3 : Int}  (hah : Fg rgC lf_X4_addRead a0 ah), Sg gpV rgC lf_X4_addRead a0 (G_X4_addRead_15 N n ah v1 v2 v3) := by
  intro n
  induction n with
  | zero => intros; exact Sg.none
  | succ n ih =>
    intro ah v1 v2 v3  hah
    unfold G_X4_addRead_15
    refine Sg.ite ?_ ?_
    · exact gb_X4_addRead_84 hah
    · refine Sg.bv (gb_X4_addSign Fg.rf) hah rfl (fun a33 ha33 => ?_)
      refine Sg.let_v (fun v3_36 => ?_)
      exact ih ha33
theorem gb_X4_addRead {a0 : IH} {N : Nat} {ah : IH} {p1 : Int}  (hah : Fg rgC lf_X4_addRead a0 ah) : Sg gpV rgC lf_X4_addRead a0 (G_X4_addRead N ah p1) := by
  unfold G_X4_addRead
  refine Sg.g (fun _ => ?_)
  refine Sg.let_v (fun v2_6 => ?_)
  refine Sg.ite ?_ ?_
  · refine Sg.let_v (fun v3_14 => ?_)
    exact gb_X4_addRead_15 _ hah
  · refine Sg.ite ?_ ?_
    · refine Sg.b (gb_X4_addEdge Fg.rf) hah rfl (fun r57 a57 ha57 => ?_)
      refine Sg.bv (gb_X4_addSign Fg.rf) ha57 rfl (fun a71 ha71 => ?_)
      exact gb_X4_addRead_84 ha71
    · refine Sg.bv (gb_X4_addSign Fg.rf) hah rfl (fun a81 ha81 => ?_)
      exact gb_X4_addRead_84 ha81
theorem gb_X4_addShape_57 {a0 : IH} {N : Nat}  : ∀ (n : Nat) {ah : IH} {v1 : Int} {v3 : Int} {v4 : Int}  (hah : Fg rgC lf_X4_addShape a0 ah), Sg gpV rgC lf_X4_addShape a0 (G_X4_addShape_57 N n ah v1 v3 v4) := by
  intro n
  induction n with
  | zero => intros; exact Sg.none
  | succ n ih =>
    intro ah v1 v3 v4  hah
    unfold G_X4_addShape_57
    refine Sg.g (fun _ => ?_)
    refine Sg.ite ?_ ?_
    · exact Sg.ret hah
    · refine Sg.g (fun _ => ?_)
      refine Sg.g (fun _ => ?_)
      refine Sg.let_xu hah rfl (fun a92 ha92 => ?_)
      refine Sg.let_v (fun v4_93 => ?_)
      exact ih ha92
theorem gb_X4_addShape {a0 : IH} {N : Nat} {ah : IH} {p1 : Int} {p2 : Int}  (hah : Fg rgC lf_X4_addShape a0 ah) : Sg gpV rgC lf_X4_addShape a0 (G_X4_addShape N ah p1 p2) := by
  unfold G_X4_addShape
  refine Sg.g (fun _ => ?_)
  refine Sg.g (fun _ => ?_)
  refine Sg.b (gb_X4_addEdge Fg.rf) hah rfl (fun r22 a22 ha22 => ?_)
  refine Sg.let_v (fun v3_25 => ?_)
  refine Sg.ite ?_ ?_
  · exact Sg.ret ha22
  · refine Sg.g (fun _ => ?_)
    refine Sg.let_xu ha22 rfl (fun a38 ha38 => ?_)
    refine Sg.g (fun _ => ?_)
    refine Sg.g (fun _ => ?_)
    refine Sg.let_xu ha38 rfl (fun a53 ha53 => ?_)
    refine Sg.let_v (fun v4_55 => ?_)
    exact gb_X4_addShape_57 _ ha53
theorem gb_X4_addShapes_28 {a0 : IH} {N : Nat} {k2 : IH → Int → Int → Option IH} {ah : IH} {v1 : Int} {v2 : Int} (hk2 : ∀ {z0 : IH} {z1 : Int} {z2 : Int}, Fg rgC lf_X4_addShapes a0 z0 → Sg gpV rgC lf_X4_addShapes a0 (k2 z0 z1 z2)) (hah : Fg rgC lf_X4_addShapes a0 ah) : Sg gpV rgC lf_X4_addShapes a0 (G_X4_addShapes_28 N k2 ah v1 v2) := by
  unfold G_X4_addShapes_28
  refine Sg.let_v (fun v2_28 => ?_)
  exact hk2 hah
theorem gb_X4_standsAt_25 {a0 : IH} {N : Nat}  : ∀ (n : Nat) {ah : IH} {v1 : Int} {v2 : Int} {v3 : Int} {v4 : Int}  (hah : Fg rgC lf_X4_standsAt a0 ah), Sg gpI rgC lf_X4_standsAt a0 (G_X4_standsAt_25 N n ah v1 v2 v3 v4) := by
  intro n
  induction n with
  | zero => intros; exact Sg.none
  | succ n ih =>
    intro ah v1 v2 v3 v4  hah
    unfold G_X4_standsAt_25
    refine Sg.ite ?_ ?_
    · exact Sg.ret hah
    · refine Sg.g (fun _ => ?_)
      refine Sg.g (fun _ => ?_)
      refine Sg.ite ?_ ?_
      · refine Sg.let_v (fun v4_59 => ?_)
        exact ih hah
      · exact Sg.ret hah
theorem gb_X4_standsAt {a0 : IH} {N : Nat} {ah : IH} {p1 : Int} {p2 : Int}  (hah : Fg rgC lf_X4_standsAt a0 ah) : Sg gpI rgC lf_X4_standsAt a0 (G_X4_standsAt N ah p1 p2) := by
  unfold G_X4_standsAt
  refine Sg.g (fun _ => ?_)
  refine Sg.let_v (fun v3_9 => ?_)
  refine Sg.ite ?_ ?_
  · refine Sg.let_v (fun v4_23 => ?_)
    exact gb_X4_standsAt_25 _ hah
  · exact Sg.ret hah
theorem gb_X4_addShapes_2 {a0 : IH} {N : Nat}  : ∀ (n : Nat) {ah : IH} {v1 : Int} {v2 : Int}  (hah : Fg rgC lf_X4_addShapes a0 ah), Sg gpV rgC lf_X4_addShapes a0 (G_X4_addShapes_2 N n ah v1 v2) := by
  intro n
  induction n with
  | zero => intros; exact Sg.none
  | succ n ih =>
    intro ah v1 v2  hah
    unfold G_X4_addShapes_2
    refine Sg.ite ?_ ?_
    · exact Sg.ret hah
    · refine Sg.b (gb_X4_standsAt Fg.rf) hah rfl (fun r16 a16 ha16 => ?_)
      refine Sg.ite ?_ ?_
      · exact gb_X4_addShapes_28 (fun h => ih h) ha16
      · refine Sg.bv (gb_X4_addShape Fg.rf) ha16 rfl (fun a25 ha25 => ?_)
        exact gb_X4_addShapes_28 (fun h => ih h) ha25
theorem gb_X4_addShapes {a0 : IH} {N : Nat} {ah : IH} {p1 : Int}  (hah : Fg rgC lf_X4_addShapes a0 ah) : Sg gpV rgC lf_X4_addShapes a0 (G_X4_addShapes N ah p1) := by
  unfold G_X4_addShapes
  refine Sg.let_v (fun v2_1 => ?_)
  exact gb_X4_addShapes_2 _ hah
theorem gb_X4_end_64 {a0 : IH} {N : Nat} {k45 : IH → Int → Option IH} (hk45 : ∀ {z0 : IH} {z1 : Int}, Fg rgC lf_X4_end a0 z0 → Sg gpV rgC lf_X4_end a0 (k45 z0 z1)) : ∀ (n : Nat) {ah : IH} {v1 : Int} {v2 : Int}  (hah : Fg rgC lf_X4_end a0 ah), Sg gpV rgC lf_X4_end a0 (G_X4_end_64 N k45 n ah v1 v2) := by
  intro n
  induction n with
  | zero => intros; exact Sg.none
  | succ n ih =>
    intro ah v1 v2  hah
    unfold G_X4_end_64
    refine Sg.g (fun _ => ?_)
    refine Sg.ite ?_ ?_
    · refine Sg.let_v (fun v1_115 => ?_)
      exact hk45 hah
    · refine Sg.g (fun _ => ?_)
      refine Sg.g (fun _ => ?_)
      refine Sg.g (fun _ => ?_)
      refine Sg.g (fun _ => ?_)
      refine Sg.g (fun _ => ?_)
      refine Sg.let_xu hah rfl (fun a108 ha108 => ?_)
      refine Sg.let_v (fun v2_109 => ?_)
      exact ih ha108
theorem gb_X4_end_45 {a0 : IH} {N : Nat}  : ∀ (n : Nat) {ah : IH} {v1 : Int}  (hah : Fg rgC lf_X4_end a0 ah), Sg gpV rgC lf_X4_end a0 (G_X4_end_45 N n ah v1) := by
  intro n
  induction n with
  | zero => intros; exact Sg.none
  | succ n ih =>
    intro ah v1  hah
    unfold G_X4_end_45
    refine Sg.ite ?_ ?_
    · exact Sg.ret hah
    · refine Sg.g (fun _ => ?_)
      refine Sg.let_xu hah rfl (fun a56 ha56 => ?_)
      refine Sg.g (fun _ => ?_)
      refine Sg.let_v (fun v2_63 => ?_)
      exact gb_X4_end_64 (fun h => ih h) _ ha56
theorem gb_X4_end {a0 : IH} {N : Nat} {ah : IH}  (hah : Fg rgC lf_X4_end a0 ah) : Sg gpV rgC lf_X4_end a0 (G_X4_end N ah) := by
  unfold G_X4_end
  refine Sg.g (fun _ => ?_)
  refine Sg.let_xu hah rfl (fun a12 ha12 => ?_)
  refine Sg.g (fun _ => ?_)
  refine Sg.let_xu ha12 rfl (fun a27 ha27 => ?_)
  refine Sg.g (fun _ => ?_)
  refine Sg.let_xu ha27 rfl (fun a37 ha37 => ?_)
  refine Sg.let_v (fun v1_44 => ?_)
  exact gb_X4_end_45 _ ha37
theorem gb_X4_ofCells_40 {a0 : IH} {N : Nat}  : ∀ (n : Nat) {ah : IH} {v1 : Int} {v3 : Int}  (hah : Fg rgC lf_X4_ofCells a0 ah), Sg gpV rgC lf_X4_ofCells a0 (G_X4_ofCells_40 N n ah v1 v3) := by
  intro n
  induction n with
  | zero => intros; exact Sg.none
  | succ n ih =>
    intro ah v1 v3  hah
    unfold G_X4_ofCells_40
    refine Sg.ite ?_ ?_
    · refine Sg.bv (gb_X4_end Fg.rf) hah rfl (fun a83 ha83 => ?_)
      exact Sg.ret ha83
    · refine Sg.g (fun _ => ?_)
      refine Sg.let_xu hah rfl (fun a57 ha57 => ?_)
      refine Sg.bv (gb_X4_addRead Fg.rf) ha57 rfl (fun a60 ha60 => ?_)
      refine Sg.bv (gb_X4_addOthers Fg.rf) ha60 rfl (fun a68 ha68 => ?_)
      refine Sg.bv (gb_X4_addShapes Fg.rf) ha68 rfl (fun a73 ha73 => ?_)
      refine Sg.let_v (fun v3_76 => ?_)
      exact ih ha73
theorem gb_X4_ofCells_7 {a0 : IH} {N : Nat}  : ∀ (n : Nat) {ah : IH} {v1 : Int} {v3 : Int}  (hah : Fg rgC lf_X4_ofCells a0 ah), Sg gpV rgC lf_X4_ofCells a0 (G_X4_ofCells_7 N n ah v1 v3) := by
  intro n
  induction n with
  | zero => intros; exact Sg.none
  | succ n ih =>
    intro ah v1 v3  hah
    unfold G_X4_ofCells_7
    refine Sg.ite ?_ ?_
    · refine Sg.let_v (fun v3_39 => ?_)
      exact gb_X4_ofCells_40 _ hah
    · refine Sg.g (fun _ => ?_)
      refine Sg.g (fun _ => ?_)
      refine Sg.let_xu hah rfl (fun a31 ha31 => ?_)
      refine Sg.let_v (fun v3_32 => ?_)
      exact ih ha31
theorem gb_X4_ofCells {a0 : IH} {N : Nat} {ah : IH} {p1 : Int} {p2 : Int}  (hah : Fg rgC lf_X4_ofCells a0 ah) : Sg gpV rgC lf_X4_ofCells a0 (G_X4_ofCells N ah p1 p2) := by
  unfold G_X4_ofCells
  refine Sg.bv (gb_X4_begin Fg.rf) hah rfl (fun a2 ha2 => ?_)
  refine Sg.let_v (fun v3_6 => ?_)
  exact gb_X4_ofCells_7 _ ha2
theorem gb_X5_cellsOf_31 {a0 : IH} {N : Nat} {ah : IH} {p1 : Int}  (hah : Fg rgC lf_X5_cellsOf_31 a0 ah) : Sg gpI rgC lf_X5_cellsOf_31 a0 (G_X5_cellsOf N 31 ah p1) := by
  unfold G_X5_cellsOf
  refine Sg.g (fun _ => ?_)
  refine Sg.g (fun _ => ?_)
  exact Sg.ret hah
theorem gb_X6_clear_2 {a0 : IH} {N : Nat}  : ∀ (n : Nat) {ah : IH} {v1 : Int}  (hah : Fg rgC lf_X6_clear a0 ah), Sg gpV rgC lf_X6_clear a0 (G_X6_clear_2 N n ah v1) := by
  intro n
  induction n with
  | zero => intros; exact Sg.none
  | succ n ih =>
    intro ah v1  hah
    unfold G_X6_clear_2
    refine Sg.ite ?_ ?_
    · refine Sg.let_xu hah rfl (fun a30 ha30 => ?_)
      refine Sg.let_xu ha30 rfl (fun a35 ha35 => ?_)
      refine Sg.let_xu ha35 rfl (fun a40 ha40 => ?_)
      refine Sg.let_xu ha40 rfl (fun a45 ha45 => ?_)
      exact Sg.ret ha45
    · refine Sg.g (fun _ => ?_)
      refine Sg.g (fun _ => ?_)
      refine Sg.let_xu hah rfl (fun a21 ha21 => ?_)
      refine Sg.let_v (fun v1_22 => ?_)
      exact ih ha21
theorem gb_X6_clear {a0 : IH} {N : Nat} {ah : IH}  (hah : Fg rgC lf_X6_clear a0 ah) : Sg gpV rgC lf_X6_clear a0 (G_X6_clear N ah) := by
  unfold G_X6_clear
  refine Sg.let_v (fun v1_1 => ?_)
  exact gb_X6_clear_2 _ hah
theorem gb_X6_itemOf {a0 : IH} {N : Nat} {ah : IH} {p1 : Int} {p2 : Int}  (hah : Fg rgC lf_X6_itemOf a0 ah) : Sg gpI rgC lf_X6_itemOf a0 (G_X6_itemOf N ah p1 p2) := by
  unfold G_X6_itemOf
  exact Sg.ret hah
theorem gb_X6_lift_77 {a0 : IH} {N : Nat} {ah : IH} {v2 : Int} {v3 : Int}  (hah : Fg rgC lf_X6_lift a0 ah) : Sg gpV rgC lf_X6_lift a0 (G_X6_lift_77 N ah v2 v3) := by
  unfold G_X6_lift_77
  refine Sg.g (fun _ => ?_)
  refine Sg.let_xu hah rfl (fun a83 ha83 => ?_)
  refine Sg.g (fun _ => ?_)
  refine Sg.let_xu ha83 rfl (fun a96 ha96 => ?_)
  exact Sg.ret ha96
theorem gb_X6_lift_5 {a0 : IH} {N : Nat}  : ∀ (n : Nat) {ah : IH} {v2 : Int} {v3 : Int} {v4 : Int}  (hah : Fg rgC lf_X6_lift a0 ah), Sg gpV rgC lf_X6_lift a0 (G_X6_lift_5 N n ah v2 v3 v4) := by
  intro n
  induction n with
  | zero => intros; exact Sg.none
  | succ n ih =>
    intro ah v2 v3 v4  hah
    unfold G_X6_lift_5
    refine Sg.ite ?_ ?_
    · exact gb_X6_lift_77 hah
    · refine Sg.ite ?_ ?_
      · exact gb_X6_lift_77 hah
      · refine Sg.let_v (fun v5_21 => ?_)
        refine Sg.g (fun _ => ?_)
        refine Sg.ite ?_ ?_
        · refine Sg.g (fun _ => ?_)
          refine Sg.g (fun _ => ?_)
          refine Sg.let_xu hah rfl (fun a49 ha49 => ?_)
          refine Sg.g (fun _ => ?_)
          refine Sg.g (fun _ => ?_)
          refine Sg.let_xu ha49 rfl (fun a67 ha67 => ?_)
          refine Sg.let_v (fun v3_70 => ?_)
          refine Sg.let_v (fun v4_71 => ?_)
          exact ih ha67
        · exact gb_X6_lift_77 hah
theorem gb_X6_lift {a0 : IH} {N : Nat} {ah : IH} {p1 : Int} {p2 : Int}  (hah : Fg rgC lf_X6_lift a0 ah) : Sg gpV rgC lf_X6_lift a0 (G_X6_lift N ah p1 p2) := by
  unfold G_X6_lift
  refine Sg.let_v (fun v3_1 => ?_)
  refine Sg.let_v (fun v4_3 => ?_)
  exact gb_X6_lift_5 _ hah
theorem gb_X6_put_84 {a0 : IH} {N : Nat} {ah : IH} {v3 : Int} {v4 : Int}  (hah : Fg rgC lf_X6_put a0 ah) : Sg gpV rgC lf_X6_put a0 (G_X6_put_84 N ah v3 v4) := by
  unfold G_X6_put_84
  refine Sg.ite ?_ ?_
  · exact Sg.ret hah
  · refine Sg.g (fun _ => ?_)
    refine Sg.ite ?_ ?_
    · exact Sg.ret hah
    · refine Sg.bv (gb_X6_lift Fg.rf) hah rfl (fun a108 ha108 => ?_)
      exact Sg.ret ha108
theorem gb_X6_put {a0 : IH} {N : Nat} {ah : IH} {p1 : Int} {p2 : Int}  (hah : Fg rgC lf_X6_put a0 ah) : Sg gpV rgC lf_X6_put a0 (G_X6_put N ah p1 p2) := by
  unfold G_X6_put
  refine Sg.let_v (fun v3_6 => ?_)
  refine Sg.g (fun _ => ?_)
  refine Sg.let_v (fun v4_13 => ?_)
  refine Sg.ite ?_ ?_
  · refine Sg.ite ?_ ?_
    · exact gb_X6_put_84 hah
    · refine Sg.ite ?_ ?_
      · exact gb_X6_put_84 hah
      · refine Sg.g (fun _ => ?_)
        refine Sg.let_xu hah rfl (fun a49 ha49 => ?_)
        refine Sg.let_xu ha49 rfl (fun a57 ha57 => ?_)
        refine Sg.let_xu ha57 rfl (fun a67 ha67 => ?_)
        refine Sg.bv (gb_X6_lift Fg.rf) ha67 rfl (fun a78 ha78 => ?_)
        exact Sg.ret ha78
  · exact gb_X6_put_84 hah
theorem gb_X6_note {a0 : IH} {N : Nat} {ah : IH} {p1 : Int} {p2 : Int}  (hah : Fg rgC lf_X6_note a0 ah) : Sg gpV rgC lf_X6_note a0 (G_X6_note N ah p1 p2) := by
  unfold G_X6_note
  refine Sg.ite ?_ ?_
  · exact Sg.ret hah
  · refine Sg.g (fun _ => ?_)
    refine Sg.let_xu hah rfl (fun a18 ha18 => ?_)
    refine Sg.g (fun _ => ?_)
    refine Sg.let_xu ha18 rfl (fun a28 ha28 => ?_)
    refine Sg.g (fun _ => ?_)
    refine Sg.let_xu ha28 rfl (fun a41 ha41 => ?_)
    refine Sg.let_xu ha41 rfl (fun a49 ha49 => ?_)
    exact Sg.ret ha49
theorem gb_X6_open_210 {a0 : IH} {N : Nat} {k115 : IH → Int → Int → Int → Int → Option IH} {ah : IH} {v3 : Int} {v4 : Int} {v5 : Int} {v7 : Int} (hk115 : ∀ {z0 : IH} {z1 : Int} {z2 : Int} {z3 : Int} {z4 : Int}, Fg rgC lf_X6_open a0 z0 → Sg gpV rgC lf_X6_open a0 (k115 z0 z1 z2 z3 z4)) (hah : Fg rgC lf_X6_open a0 ah) : Sg gpV rgC lf_X6_open a0 (G_X6_open_210 N k115 ah v3 v4 v5 v7) := by
  unfold G_X6_open_210
  refine Sg.let_v (fun v7_210 => ?_)
  exact hk115 hah
theorem gb_X2_childOf_10 {a0 : IH} {N : Nat}  : ∀ (n : Nat) {ah : IH} {v2 : Int} {v3 : Int} {v4 : Int}  (hah : Fg rgC lf_X2_childOf a0 ah), Sg gpI rgC lf_X2_childOf a0 (G_X2_childOf_10 N n ah v2 v3 v4) := by
  intro n
  induction n with
  | zero => intros; exact Sg.none
  | succ n ih =>
    intro ah v2 v3 v4  hah
    unfold G_X2_childOf_10
    refine Sg.ite ?_ ?_
    · exact Sg.ret hah
    · refine Sg.ite ?_ ?_
      · exact Sg.ret hah
      · refine Sg.g (fun _ => ?_)
        refine Sg.ite ?_ ?_
        · exact Sg.ret hah
        · refine Sg.g (fun _ => ?_)
          refine Sg.let_v (fun v3_39 => ?_)
          refine Sg.let_v (fun v4_40 => ?_)
          exact ih hah
theorem gb_X2_childOf {a0 : IH} {N : Nat} {ah : IH} {p1 : Int} {p2 : Int}  (hah : Fg rgC lf_X2_childOf a0 ah) : Sg gpI rgC lf_X2_childOf a0 (G_X2_childOf N ah p1 p2) := by
  unfold G_X2_childOf
  refine Sg.g (fun _ => ?_)
  refine Sg.let_v (fun v3_6 => ?_)
  refine Sg.let_v (fun v4_8 => ?_)
  exact gb_X2_childOf_10 _ hah
theorem gb_X6_walk_5 {a0 : IH} {N : Nat}  : ∀ (n : Nat) {ah : IH} {v2 : Int} {v3 : Int} {v4 : Int}  (hah : Fg rgC lf_X6_walk a0 ah), Sg gpI rgC lf_X6_walk a0 (G_X6_walk_5 N n ah v2 v3 v4) := by
  intro n
  induction n with
  | zero => intros; exact Sg.none
  | succ n ih =>
    intro ah v2 v3 v4  hah
    unfold G_X6_walk_5
    refine Sg.g (fun _ => ?_)
    refine Sg.ite ?_ ?_
    · exact Sg.ret hah
    · refine Sg.ite ?_ ?_
      · exact Sg.ret hah
      · refine Sg.g (fun _ => ?_)
        refine Sg.b (gb_X2_childOf Fg.rf) hah rfl (fun r43 a43 ha43 => ?_)
        refine Sg.let_v (fun v3_46 => ?_)
        refine Sg.let_v (fun v4_47 => ?_)
        exact ih ha43
theorem gb_X6_walk {a0 : IH} {N : Nat} {ah : IH} {p1 : Int} {p2 : Int}  (hah : Fg rgC lf_X6_walk a0 ah) : Sg gpI rgC lf_X6_walk a0 (G_X6_walk N ah p1 p2) := by
  unfold G_X6_walk
  refine Sg.let_v (fun v3_1 => ?_)
  refine Sg.let_v (fun v4_3 => ?_)
  exact gb_X6_walk_5 _ hah
theorem gb_X6_open_115 {a0 : IH} {N : Nat}  : ∀ (n : Nat) {ah : IH} {v3 : Int} {v4 : Int} {v5 : Int} {v7 : Int}  (hah : Fg rgC lf_X6_open a0 ah), Sg gpV rgC lf_X6_open a0 (G_X6_open_115 N n ah v3 v4 v5 v7) := by
  intro n
  induction n with
  | zero => intros; exact Sg.none
  | succ n ih =>
    intro ah v3 v4 v5 v7  hah
    unfold G_X6_open_115
    refine Sg.g (fun _ => ?_)
    refine Sg.ite ?_ ?_
    · exact Sg.ret hah
    · refine Sg.b (gb_X6_walk Fg.rf) hah rfl (fun r136 a136 ha136 => ?_)
      refine Sg.let_v (fun v8_139 => ?_)
      refine Sg.ite ?_ ?_
      · exact gb_X6_open_210 (fun h => ih h) ha136
      · refine Sg.g (fun _ => ?_)
        refine Sg.let_v (fun v9_157 => ?_)
        refine Sg.g (fun _ => ?_)
        refine Sg.let_v (fun v10_172 => ?_)
        refine Sg.b (gb_X6_itemOf Fg.rf) ha136 rfl (fun r180 a180 ha180 => ?_)
        refine Sg.g (fun _ => ?_)
        refine Sg.g (fun _ => ?_)
        refine Sg.bv (gb_X6_put Fg.rf) ha180 rfl (fun a207 ha207 => ?_)
        exact gb_X6_open_210 (fun h => ih h) ha207
theorem gb_X6_open_104 {a0 : IH} {N : Nat} {ah : IH} {v3 : Int} {v4 : Int} {v5 : Int}  (hah : Fg rgC lf_X6_open a0 ah) : Sg gpV rgC lf_X6_open a0 (G_X6_open_104 N ah v3 v4 v5) := by
  unfold G_X6_open_104
  refine Sg.g (fun _ => ?_)
  refine Sg.let_v (fun v7_113 => ?_)
  exact gb_X6_open_115 _ hah
theorem gb_X6_open {a0 : IH} {N : Nat} {ah : IH} {p1 : Int} {p2 : Int}  (hah : Fg rgC lf_X6_open a0 ah) : Sg gpV rgC lf_X6_open a0 (G_X6_open N ah p1 p2) := by
  unfold G_X6_open
  refine Sg.let_v (fun v3_11 => ?_)
  refine Sg.let_v (fun v4_20 => ?_)
  refine Sg.g (fun _ => ?_)
  refine Sg.g (fun _ => ?_)
  refine Sg.let_v (fun v5_44 => ?_)
  refine Sg.let_xu hah rfl (fun a53 ha53 => ?_)
  refine Sg.g (fun _ => ?_)
  refine Sg.let_v (fun v6_66 => ?_)
  refine Sg.ite ?_ ?_
  · refine Sg.ite ?_ ?_
    · exact gb_X6_open_104 ha53
    · refine Sg.g (fun _ => ?_)
      refine Sg.bv (gb_X6_put Fg.rf) ha53 rfl (fun a101 ha101 => ?_)
      exact gb_X6_open_104 ha101
  · exact gb_X6_open_104 ha53
theorem gb_X6_run_110 {a0 : IH} {N : Nat} {k46 : IH → Int → Int → Option IH} {ah : IH} {v1 : Int} {v2 : Int} (hk46 : ∀ {z0 : IH} {z1 : Int} {z2 : Int}, Fg rgC lf_X6_run a0 z0 → Sg gpV rgC lf_X6_run a0 (k46 z0 z1 z2)) (hah : Fg rgC lf_X6_run a0 ah) : Sg gpV rgC lf_X6_run a0 (G_X6_run_110 N k46 ah v1 v2) := by
  unfold G_X6_run_110
  refine Sg.let_v (fun v2_110 => ?_)
  exact hk46 hah
theorem gb_X6_sink_116 {a0 : IH} {N : Nat} {ah : IH} {v1 : Int} {v2 : Int}  (hah : Fg rgC lf_X6_sink a0 ah) : Sg gpV rgC lf_X6_sink a0 (G_X6_sink_116 N ah v1 v2) := by
  unfold G_X6_sink_116
  refine Sg.g (fun _ => ?_)
  refine Sg.let_xu hah rfl (fun a122 ha122 => ?_)
  refine Sg.g (fun _ => ?_)
  refine Sg.let_xu ha122 rfl (fun a135 ha135 => ?_)
  exact Sg.ret ha135
theorem gb_X6_sink_62 {a0 : IH} {N : Nat} {k4 : IH → Int → Int → Int → Option IH} {ah : IH} {v1 : Int} {v2 : Int} {v3 : Int} {v4 : Int} (hk4 : ∀ {z0 : IH} {z1 : Int} {z2 : Int} {z3 : Int}, Fg rgC lf_X6_sink a0 z0 → Sg gpV rgC lf_X6_sink a0 (k4 z0 z1 z2 z3)) (hah : Fg rgC lf_X6_sink a0 ah) : Sg gpV rgC lf_X6_sink a0 (G_X6_sink_62 N k4 ah v1 v2 v3 v4) := by
  unfold G_X6_sink_62
  refine Sg.g (fun _ => ?_)
  refine Sg.ite ?_ ?_
  · refine Sg.g (fun _ => ?_)
    refine Sg.g (fun _ => ?_)
    refine Sg.let_xu hah rfl (fun a88 ha88 => ?_)
    refine Sg.g (fun _ => ?_)
    refine Sg.g (fun _ => ?_)
    refine Sg.let_xu ha88 rfl (fun a106 ha106 => ?_)
    refine Sg.let_v (fun v2_109 => ?_)
    refine Sg.let_v (fun v3_110 => ?_)
    exact hk4 ha106
  · exact gb_X6_sink_116 hah
theorem gb_X6_sink_4 {a0 : IH} {N : Nat}  : ∀ (n : Nat) {ah : IH} {v1 : Int} {v2 : Int} {v3 : Int}  (hah : Fg rgC lf_X6_sink a0 ah), Sg gpV rgC lf_X6_sink a0 (G_X6_sink_4 N n ah v1 v2 v3) := by
  intro n
  induction n with
  | zero => intros; exact Sg.none
  | succ n ih =>
    intro ah v1 v2 v3  hah
    unfold G_X6_sink_4
    refine Sg.ite ?_ ?_
    · exact gb_X6_sink_116 hah
    · refine Sg.ite ?_ ?_
      · exact gb_X6_sink_116 hah
      · refine Sg.let_v (fun v4_27 => ?_)
        refine Sg.ite ?_ ?_
        · exact gb_X6_sink_62 (fun h => ih h) hah
        · refine Sg.g (fun _ => ?_)
          refine Sg.g (fun _ => ?_)
          refine Sg.ite ?_ ?_
          · exact gb_X6_sink_62 (fun h => ih h) hah
          · refine Sg.let_v (fun v4_59 => ?_)
            exact gb_X6_sink_62 (fun h => ih h) hah
theorem gb_X6_sink {a0 : IH} {N : Nat} {ah : IH} {p1 : Int}  (hah : Fg rgC lf_X6_sink a0 ah) : Sg gpV rgC lf_X6_sink a0 (G_X6_sink N ah p1) := by
  unfold G_X6_sink
  refine Sg.let_v (fun v2_1 => ?_)
  refine Sg.let_v (fun v3_3 => ?_)
  exact gb_X6_sink_4 _ hah
theorem gb_X6_takeLeast {a0 : IH} {N : Nat} {ah : IH}  (hah : Fg rgC lf_X6_takeLeast a0 ah) : Sg gpI rgC lf_X6_takeLeast a0 (G_X6_takeLeast N ah) := by
  unfold G_X6_takeLeast
  refine Sg.let_v (fun v1_6 => ?_)
  refine Sg.let_xu hah rfl (fun a14 ha14 => ?_)
  refine Sg.g (fun _ => ?_)
  refine Sg.bv (gb_X6_sink Fg.rf) ha14 rfl (fun a27 ha27 => ?_)
  refine Sg.g (fun _ => ?_)
  refine Sg.let_xu ha27 rfl (fun a40 ha40 => ?_)
  exact Sg.ret ha40
theorem gb_X6_run_46 {a0 : IH} {N : Nat}  : ∀ (n : Nat) {ah : IH} {v1 : Int} {v2 : Int}  (hah : Fg rgC lf_X6_run a0 ah), Sg gpV rgC lf_X6_run a0 (G_X6_run_46 N n ah v1 v2) := by
  intro n
  induction n with
  | zero => intros; exact Sg.none
  | succ n ih =>
    intro ah v1 v2  hah
    unfold G_X6_run_46
    refine Sg.ite ?_ ?_
    · exact Sg.ret hah
    · refine Sg.ite ?_ ?_
      · exact Sg.ret hah
      · refine Sg.ite ?_ ?_
        · exact Sg.ret hah
        · refine Sg.b (gb_X6_takeLeast Fg.rf) hah rfl (fun r69 a69 ha69 => ?_)
          refine Sg.let_v (fun v3_72 => ?_)
          refine Sg.let_v (fun v4_78 => ?_)
          refine Sg.ite ?_ ?_
          · refine Sg.bv (gb_X6_open Fg.rf) ha69 rfl (fun a107 ha107 => ?_)
            exact gb_X6_run_110 (fun h => ih h) ha107
          · refine Sg.bv (gb_X6_note Fg.rf) ha69 rfl (fun a94 ha94 => ?_)
            exact gb_X6_run_110 (fun h => ih h) ha94
theorem gb_X6_run {a0 : IH} {N : Nat} {ah : IH} {p1 : Int}  (hah : Fg rgC lf_X6_run a0 ah) : Sg gpV rgC lf_X6_run a0 (G_X6_run N ah p1) := by
  unfold G_X6_run
  refine Sg.bv (gb_X6_clear Fg.rf) hah rfl (fun a1 ha1 => ?_)
  refine Sg.ite ?_ ?_
  · exact Sg.ret ha1
  · refine Sg.b (gb_X6_itemOf Fg.rf) ha1 rfl (fun r19 a19 ha19 => ?_)
    refine Sg.bv (gb_X6_put Fg.rf) ha19 rfl (fun a41 ha41 => ?_)
    refine Sg.let_v (fun v2_45 => ?_)
    exact gb_X6_run_46 _ ha41
theorem gb_X0_lookAlone {a0 : IH} {N : Nat} {ah : IH} {p1 : Int}  (hah : Fg rgC lf_X0_lookAlone a0 ah) : Sg gpV rgC lf_X0_lookAlone a0 (G_X0_lookAlone N ah p1) := by
  unfold G_X0_lookAlone
  refine Sg.g (fun _ => ?_)
  refine Sg.ite ?_ ?_
  · refine Sg.g (fun _ => ?_)
    refine Sg.b (gb_X5_cellsOf_31 Fg.rf) hah rfl (fun r30 a30 ha30 => ?_)
    refine Sg.bv (gb_X4_ofCells Fg.rf) ha30 rfl (fun a33 ha33 => ?_)
    refine Sg.bv (gb_X6_run Fg.rf) ha33 rfl (fun a42 ha42 => ?_)
    refine Sg.bv (gb_X0_keep Fg.rf) ha42 rfl (fun a47 ha47 => ?_)
    exact Sg.ret ha47
  · exact Sg.ret hah
theorem gb_X0_joinedCells {a0 : IH} {N : Nat} {ah : IH} {p1 : Int}  (hah : Fg rgC lf_X0_joinedCells a0 ah) : Sg gpI rgC lf_X0_joinedCells a0 (G_X0_joinedCells N ah p1) := by
  unfold G_X0_joinedCells
  refine Sg.b (gb_X5_cellsOf_31 Fg.rf) hah rfl (fun r5 a5 ha5 => ?_)
  refine Sg.b (gb_X5_cellsOf_31 Fg.rf) ha5 rfl (fun r15 a15 ha15 => ?_)
  exact Sg.ret ha15
theorem gb_X0_lookJoined {a0 : IH} {N : Nat} {ah : IH} {p1 : Int}  (hah : Fg rgC lf_X0_lookJoined a0 ah) : Sg gpV rgC lf_X0_lookJoined a0 (G_X0_lookJoined N ah p1) := by
  unfold G_X0_lookJoined
  refine Sg.g (fun _ => ?_)
  refine Sg.ite ?_ ?_
  · refine Sg.g (fun _ => ?_)
    refine Sg.b (gb_X0_joinedCells Fg.rf) hah rfl (fun r30 a30 ha30 => ?_)
    refine Sg.bv (gb_X4_ofCells Fg.rf) ha30 rfl (fun a33 ha33 => ?_)
    refine Sg.bv (gb_X6_run Fg.rf) ha33 rfl (fun a41 ha41 => ?_)
    refine Sg.bv (gb_X0_keep Fg.rf) ha41 rfl (fun a49 ha49 => ?_)
    exact Sg.ret ha49
  · exact Sg.ret hah
theorem gb_X0_mayJoin {a0 : IH} {N : Nat} {ah : IH} {p1 : Int}  (hah : Fg rgC lf_X0_mayJoin a0 ah) : Sg gpI rgC lf_X0_mayJoin a0 (G_X0_mayJoin N ah p1) := by
  unfold G_X0_mayJoin
  refine Sg.ite ?_ ?_
  · exact Sg.ret hah
  · refine Sg.g (fun _ => ?_)
    refine Sg.ite ?_ ?_
    · exact Sg.ret hah
    · refine Sg.b (gb_X0_joinedCells Fg.rf) hah rfl (fun r27 a27 ha27 => ?_)
      refine Sg.ite ?_ ?_
      · exact Sg.ret ha27
      · exact Sg.ret ha27
theorem gb_X0_joinedPrice_40 {a0 : IH} {N : Nat} {ah : IH}  (hah : Fg rgC lf_X0_joinedPrice a0 ah) : Sg gpI rgC lf_X0_joinedPrice a0 (G_X0_joinedPrice_40 N ah) := by
  unfold G_X0_joinedPrice_40
  exact Sg.ret hah
theorem gb_X0_priceOf {a0 : IH} {N : Nat} {ah : IH} {p1 : Int} {p2 : Int}  (hah : Fg rgC lf_X0_priceOf a0 ah) : Sg gpI rgC lf_X0_priceOf a0 (G_X0_priceOf N ah p1 p2) := by
  unfold G_X0_priceOf
  refine Sg.ite ?_ ?_
  · exact Sg.ret hah
  · refine Sg.g (fun _ => ?_)
    refine Sg.ite ?_ ?_
    · exact Sg.ret hah
    · refine Sg.g (fun _ => ?_)
      exact Sg.ret hah
theorem gb_X0_joinedPrice {a0 : IH} {N : Nat} {ah : IH} {p1 : Int}  (hah : Fg rgC lf_X0_joinedPrice a0 ah) : Sg gpI rgC lf_X0_joinedPrice a0 (G_X0_joinedPrice N ah p1) := by
  unfold G_X0_joinedPrice
  refine Sg.b (gb_X0_priceOf Fg.rf) hah rfl (fun r6 a6 ha6 => ?_)
  refine Sg.let_v (fun v2_9 => ?_)
  refine Sg.b (gb_X0_joinedCells Fg.rf) ha6 rfl (fun r24 a24 ha24 => ?_)
  refine Sg.let_v (fun v3_29 => ?_)
  refine Sg.ite ?_ ?_
  · exact gb_X0_joinedPrice_40 ha24
  · refine Sg.ite ?_ ?_
    · exact Sg.ret ha24
    · exact gb_X0_joinedPrice_40 ha24
theorem gb_X0_outsidePrice {a0 : IH} {N : Nat} {ah : IH} {p1 : Int}  (hah : Fg rgC lf_X0_outsidePrice a0 ah) : Sg gpI rgC lf_X0_outsidePrice a0 (G_X0_outsidePrice N ah p1) := by
  unfold G_X0_outsidePrice
  refine Sg.b (gb_X5_cellsOf_31 Fg.rf) hah rfl (fun r17 a17 ha17 => ?_)
  exact Sg.ret ha17
theorem gb_X0_wordOf {a0 : IH} {N : Nat} {ah : IH} {p1 : Int} {p2 : Int}  (hah : Fg rgC lf_X0_wordOf a0 ah) : Sg gpI rgC lf_X0_wordOf a0 (G_X0_wordOf N ah p1 p2) := by
  unfold G_X0_wordOf
  refine Sg.ite ?_ ?_
  · exact Sg.ret hah
  · refine Sg.g (fun _ => ?_)
    refine Sg.ite ?_ ?_
    · exact Sg.ret hah
    · refine Sg.g (fun _ => ?_)
      exact Sg.ret hah
theorem gb_X0_wordInside {a0 : IH} {N : Nat} {ah : IH} {p1 : Int} {p2 : Int}  (hah : Fg rgC lf_X0_wordInside a0 ah) : Sg gpI rgC lf_X0_wordInside a0 (G_X0_wordInside N ah p1 p2) := by
  unfold G_X0_wordInside
  refine Sg.b (gb_X0_priceOf Fg.rf) hah rfl (fun r3 a3 ha3 => ?_)
  refine Sg.b (gb_X0_outsidePrice Fg.rf) ha3 rfl (fun r8 a8 ha8 => ?_)
  refine Sg.ite ?_ ?_
  · exact Sg.ret ha8
  · refine Sg.b (gb_X0_wordOf Fg.rf) ha8 rfl (fun r17 a17 ha17 => ?_)
    exact Sg.ret ha17
theorem gb_X0_mendedWord {a0 : IH} {N : Nat} {ah : IH} {p1 : Int}  (hah : Fg rgC lf_X0_mendedWord a0 ah) : Sg gpI rgC lf_X0_mendedWord a0 (G_X0_mendedWord N ah p1) := by
  unfold G_X0_mendedWord
  refine Sg.b (gb_X0_wordInside Fg.rf) hah rfl (fun r3 a3 ha3 => ?_)
  exact Sg.ret ha3
theorem gb_X0_mendedPrice {a0 : IH} {N : Nat} {ah : IH} {p1 : Int}  (hah : Fg rgC lf_X0_mendedPrice a0 ah) : Sg gpI rgC lf_X0_mendedPrice a0 (G_X0_mendedPrice N ah p1) := by
  unfold G_X0_mendedPrice
  refine Sg.b (gb_X0_mendedWord Fg.rf) hah rfl (fun r2 a2 ha2 => ?_)
  refine Sg.ite ?_ ?_
  · refine Sg.b (gb_X0_outsidePrice Fg.rf) ha2 rfl (fun r11 a11 ha11 => ?_)
    exact Sg.ret ha11
  · refine Sg.b (gb_X0_priceOf Fg.rf) ha2 rfl (fun r20 a20 ha20 => ?_)
    exact Sg.ret ha20
theorem gb_X3_choose_53 {a0 : IH} {N : Nat} {ah : IH} {v1 : Int} {s0 : Int}  (hah : Fg rgC lf_X3_choose a0 ah) : Sg gpV rgC lf_X3_choose a0 (G_X3_choose_53 N ah v1 s0) := by
  unfold G_X3_choose_53
  refine Sg.let_v (fun v2_53 => ?_)
  refine Sg.ite ?_ ?_
  · exact Sg.ret hah
  · refine Sg.g (fun _ => ?_)
    refine Sg.g (fun _ => ?_)
    refine Sg.ite ?_ ?_
    · exact Sg.ret hah
    · refine Sg.g (fun _ => ?_)
      refine Sg.g (fun _ => ?_)
      refine Sg.let_xu hah rfl (fun a93 ha93 => ?_)
      refine Sg.g (fun _ => ?_)
      refine Sg.let_xu ha93 rfl (fun a100 ha100 => ?_)
      exact Sg.ret ha100
theorem gb_X3_choose {a0 : IH} {N : Nat} {ah : IH} {p1 : Int}  (hah : Fg rgC lf_X3_choose a0 ah) : Sg gpV rgC lf_X3_choose a0 (G_X3_choose N ah p1) := by
  unfold G_X3_choose
  refine Sg.b (gb_X0_mendedPrice Fg.rf) hah rfl (fun r10 a10 ha10 => ?_)
  refine Sg.g (fun _ => ?_)
  refine Sg.g (fun _ => ?_)
  refine Sg.let_xu ha10 rfl (fun a22 ha22 => ?_)
  refine Sg.g (fun _ => ?_)
  refine Sg.let_xu ha22 rfl (fun a29 ha29 => ?_)
  refine Sg.b (gb_X0_mayJoin Fg.rf) ha29 rfl (fun r35 a35 ha35 => ?_)
  refine Sg.ite ?_ ?_
  · exact gb_X3_choose_53 ha35
  · refine Sg.b (gb_X0_joinedPrice Fg.rf) ha35 rfl (fun r46 a46 ha46 => ?_)
    exact gb_X3_choose_53 ha46
theorem gb_X3_make_62 {a0 : IH} {N : Nat} {k31 : IH → Int → Option IH} {ah : IH} {v1 : Int} (hk31 : ∀ {z0 : IH} {z1 : Int}, Fg rgC lf_X3_make a0 z0 → Sg gpV rgC lf_X3_make a0 (k31 z0 z1)) (hah : Fg rgC lf_X3_make a0 ah) : Sg gpV rgC lf_X3_make a0 (G_X3_make_62 N k31 ah v1) := by
  unfold G_X3_make_62
  refine Sg.bv (gb_X3_choose Fg.rf) hah rfl (fun a64 ha64 => ?_)
  refine Sg.let_v (fun v1_67 => ?_)
  exact hk31 ha64
theorem gb_X3_writeByte {a0 : IH} {N : Nat} {ah : IH} {p1 : Int}  (hah : Fg rgC lf_X3_writeByte a0 ah) : Sg gpV rgC lf_X3_writeByte a0 (G_X3_writeByte N ah p1) := by
  unfold G_X3_writeByte
  refine Sg.ite ?_ ?_
  · exact Sg.ret hah
  · refine Sg.g (fun _ => ?_)
    refine Sg.let_xu hah rfl (fun a19 ha19 => ?_)
    refine Sg.let_xu ha19 rfl (fun a27 ha27 => ?_)
    exact Sg.ret ha27
theorem gb_X3_writeCells_52 {a0 : IH} {N : Nat} {k10 : IH → Int → Int → Option IH} {ah : IH} {v1 : Int} {v2 : Int} (hk10 : ∀ {z0 : IH} {z1 : Int} {z2 : Int}, Fg rgC lf_X3_writeCells a0 z0 → Sg gpV rgC lf_X3_writeCells a0 (k10 z0 z1 z2)) (hah : Fg rgC lf_X3_writeCells a0 ah) : Sg gpV rgC lf_X3_writeCells a0 (G_X3_writeCells_52 N k10 ah v1 v2) := by
  unfold G_X3_writeCells_52
  refine Sg.let_v (fun v2_52 => ?_)
  exact hk10 hah
theorem gb_X3_writeCells_10 {a0 : IH} {N : Nat}  : ∀ (n : Nat) {ah : IH} {v1 : Int} {v2 : Int}  (hah : Fg rgC lf_X3_writeCells a0 ah), Sg gpV rgC lf_X3_writeCells a0 (G_X3_writeCells_10 N n ah v1 v2) := by
  intro n
  induction n with
  | zero => intros; exact Sg.none
  | succ n ih =>
    intro ah v1 v2  hah
    unfold G_X3_writeCells_10
    refine Sg.g (fun _ => ?_)
    refine Sg.ite ?_ ?_
    · exact Sg.ret hah
    · refine Sg.g (fun _ => ?_)
      refine Sg.ite ?_ ?_
      · exact gb_X3_writeCells_52 (fun h => ih h) hah
      · refine Sg.g (fun _ => ?_)
        refine Sg.bv (gb_X3_writeByte Fg.rf) hah rfl (fun a49 ha49 => ?_)
        exact gb_X3_writeCells_52 (fun h => ih h) ha49
theorem gb_X3_writeCells {a0 : IH} {N : Nat} {ah : IH} {p1 : Int}  (hah : Fg rgC lf_X3_writeCells a0 ah) : Sg gpV rgC lf_X3_writeCells a0 (G_X3_writeCells N ah p1) := by
  unfold G_X3_writeCells
  refine Sg.g (fun _ => ?_)
  refine Sg.let_v (fun v2_9 => ?_)
  exact gb_X3_writeCells_10 _ hah
theorem gb_X2_signOf {a0 : IH} {N : Nat} {ah : IH} {p1 : Int} {p2 : Int}  (hah : Fg rgC lf_X2_signOf a0 ah) : Sg gpI rgC lf_X2_signOf a0 (G_X2_signOf N ah p1 p2) := by
  unfold G_X2_signOf
  refine Sg.g (fun _ => ?_)
  exact Sg.ret hah
theorem gb_X3_writeWord_2 {a0 : IH} {N : Nat}  : ∀ (n : Nat) {ah : IH} {v1 : Int} {v2 : Int}  (hah : Fg rgC lf_X3_writeWord a0 ah), Sg gpV rgC lf_X3_writeWord a0 (G_X3_writeWord_2 N n ah v1 v2) := by
  intro n
  induction n with
  | zero => intros; exact Sg.none
  | succ n ih =>
    intro ah v1 v2  hah
    unfold G_X3_writeWord_2
    refine Sg.g (fun _ => ?_)
    refine Sg.ite ?_ ?_
    · exact Sg.ret hah
    · refine Sg.b (gb_X2_signOf Fg.rf) hah rfl (fun r22 a22 ha22 => ?_)
      refine Sg.bv (gb_X3_writeByte Fg.rf) ha22 rfl (fun a25 ha25 => ?_)
      refine Sg.let_v (fun v2_28 => ?_)
      exact ih ha25
theorem gb_X3_writeWord {a0 : IH} {N : Nat} {ah : IH} {p1 : Int}  (hah : Fg rgC lf_X3_writeWord a0 ah) : Sg gpV rgC lf_X3_writeWord a0 (G_X3_writeWord N ah p1) := by
  unfold G_X3_writeWord
  refine Sg.let_v (fun v2_1 => ?_)
  exact gb_X3_writeWord_2 _ hah
theorem gb_X3_writeOne {a0 : IH} {N : Nat} {ah : IH} {p1 : Int}  (hah : Fg rgC lf_X3_writeOne a0 ah) : Sg gpI rgC lf_X3_writeOne a0 (G_X3_writeOne N ah p1) := by
  unfold G_X3_writeOne
  refine Sg.g (fun _ => ?_)
  refine Sg.ite ?_ ?_
  · refine Sg.b (gb_X0_wordInside Fg.rf) hah rfl (fun r54 a54 ha54 => ?_)
    refine Sg.let_v (fun v2_57 => ?_)
    refine Sg.ite ?_ ?_
    · refine Sg.let_xu ha54 rfl (fun a70 ha70 => ?_)
      refine Sg.bv (gb_X3_writeCells Fg.rf) ha70 rfl (fun a75 ha75 => ?_)
      exact Sg.ret ha75
    · refine Sg.bv (gb_X3_writeWord Fg.rf) ha54 rfl (fun a83 ha83 => ?_)
      exact Sg.ret ha83
  · refine Sg.let_xu hah rfl (fun a16 ha16 => ?_)
    refine Sg.b (gb_X0_wordOf Fg.rf) ha16 rfl (fun r29 a29 ha29 => ?_)
    refine Sg.bv (gb_X3_writeWord Fg.rf) ha29 rfl (fun a32 ha32 => ?_)
    refine Sg.g (fun _ => ?_)
    refine Sg.let_xu ha32 rfl (fun a43 ha43 => ?_)
    exact Sg.ret ha43
theorem gb_X3_write_63 {a0 : IH} {N : Nat} {k4 : IH → Int → Int → Option IH} {ah : IH} {v2 : Int} {v3 : Int} (hk4 : ∀ {z0 : IH} {z1 : Int} {z2 : Int}, Fg rgC lf_X3_write a0 z0 → Sg gpV rgC lf_X3_write a0 (k4 z0 z1 z2)) (hah : Fg rgC lf_X3_write a0 ah) : Sg gpV rgC lf_X3_write a0 (G_X3_write_63 N k4 ah v2 v3) := by
  unfold G_X3_write_63
  refine Sg.let_v (fun v1_66 => ?_)
  refine Sg.let_v (fun v2_67 => ?_)
  exact hk4 hah
theorem gb_X3_write_60 {a0 : IH} {N : Nat} {k4 : IH → Int → Int → Option IH} {ah : IH} {v2 : Int} {v3 : Int} {s1 : Int} (hk4 : ∀ {z0 : IH} {z1 : Int} {z2 : Int}, Fg rgC lf_X3_write a0 z0 → Sg gpV rgC lf_X3_write a0 (k4 z0 z1 z2)) (hah : Fg rgC lf_X3_write a0 ah) : Sg gpV rgC lf_X3_write a0 (G_X3_write_60 N k4 ah v2 v3 s1) := by
  unfold G_X3_write_60
  refine Sg.bv (gb_X3_writeByte Fg.rf) hah rfl (fun a60 ha60 => ?_)
  exact gb_X3_write_63 hk4 ha60
theorem gb_X3_write_4 {a0 : IH} {N : Nat}  : ∀ (n : Nat) {ah : IH} {v1 : Int} {v2 : Int}  (hah : Fg rgC lf_X3_write a0 ah), Sg gpV rgC lf_X3_write a0 (G_X3_write_4 N n ah v1 v2) := by
  intro n
  induction n with
  | zero => intros; exact Sg.none
  | succ n ih =>
    intro ah v1 v2  hah
    unfold G_X3_write_4
    refine Sg.ite ?_ ?_
    · exact Sg.ret hah
    · refine Sg.ite ?_ ?_
      · exact Sg.ret hah
      · refine Sg.b (gb_X3_writeOne Fg.rf) hah rfl (fun r23 a23 ha23 => ?_)
        refine Sg.let_v (fun v3_26 => ?_)
        refine Sg.ite ?_ ?_
        · exact gb_X3_write_63 (fun h => ih h) ha23
        · refine Sg.g (fun _ => ?_)
          refine Sg.ite ?_ ?_
          · exact gb_X3_write_60 (fun h => ih h) ha23
          · exact gb_X3_write_60 (fun h => ih h) ha23
theorem gb_X3_write {a0 : IH} {N : Nat} {ah : IH}  (hah : Fg rgC lf_X3_write a0 ah) : Sg gpV rgC lf_X3_write a0 (G_X3_write N ah) := by
  unfold G_X3_write
  refine Sg.let_v (fun v1_1 => ?_)
  refine Sg.let_v (fun v2_3 => ?_)
  exact gb_X3_write_4 _ hah
theorem gb_X3_make_31 {a0 : IH} {N : Nat}  : ∀ (n : Nat) {ah : IH} {v1 : Int}  (hah : Fg rgC lf_X3_make a0 ah), Sg gpV rgC lf_X3_make a0 (G_X3_make_31 N n ah v1) := by
  intro n
  induction n with
  | zero => intros; exact Sg.none
  | succ n ih =>
    intro ah v1  hah
    unfold G_X3_make_31
    refine Sg.ite ?_ ?_
    · refine Sg.let_xu hah rfl (fun a80 ha80 => ?_)
      refine Sg.let_xu ha80 rfl (fun a85 ha85 => ?_)
      refine Sg.let_xu ha85 rfl (fun a90 ha90 => ?_)
      refine Sg.let_xu ha90 rfl (fun a95 ha95 => ?_)
      refine Sg.bv (gb_X3_write Fg.rf) ha95 rfl (fun a99 ha99 => ?_)
      refine Sg.let_xu ha99 rfl (fun a104 ha104 => ?_)
      exact Sg.ret ha104
    · refine Sg.bv (gb_X0_lookAlone Fg.rf) hah rfl (fun a40 ha40 => ?_)
      refine Sg.b (gb_X0_mayJoin Fg.rf) ha40 rfl (fun r48 a48 ha48 => ?_)
      refine Sg.ite ?_ ?_
      · exact gb_X3_make_62 (fun h => ih h) ha48
      · refine Sg.bv (gb_X0_lookJoined Fg.rf) ha48 rfl (fun a59 ha59 => ?_)
        exact gb_X3_make_62 (fun h => ih h) ha59
theorem gb_X3_make {a0 : IH} {N : Nat} {ah : IH}  (hah : Fg rgC lf_X3_make a0 ah) : Sg gpV rgC lf_X3_make a0 (G_X3_make N ah) := by
  unfold G_X3_make
  refine Sg.ite ?_ ?_
  · refine Sg.g (fun _ => ?_)
    refine Sg.let_xu hah rfl (fun a20 ha20 => ?_)
    refine Sg.let_v (fun v1_30 => ?_)
    exact gb_X3_make_31 _ ha20
  · exact Sg.ret hah
theorem gb_X11_at {a0 : IH} {N : Nat} {ah : IH} {p1 : Int}  (hah : Fg rgC lf_X11_at a0 ah) : Sg gpI rgC lf_X11_at a0 (G_X11_at N ah p1) := by
  unfold G_X11_at
  refine Sg.bv (gb_X3_make Fg.rf) hah rfl (fun a4 ha4 => ?_)
  refine Sg.ite ?_ ?_
  · exact Sg.ret ha4
  · refine Sg.ite ?_ ?_
    · exact Sg.ret ha4
    · refine Sg.g (fun _ => ?_)
      exact Sg.ret ha4
theorem gb_X11_status {a0 : IH} {N : Nat} {ah : IH} {p1 : Int}  (hah : Fg rgC lf_X11_status a0 ah) : Sg gpI rgC lf_X11_status a0 (G_X11_status N ah p1) := by
  unfold G_X11_status
  refine Sg.ite ?_ ?_
  · exact Sg.ret hah
  · refine Sg.ite ?_ ?_
    · exact Sg.ret hah
    · exact Sg.ret hah
theorem gb_X10_firstBest_63 {a0 : IH} {N : Nat} {k24 : IH → Int → Int → Int → Int → Int → Option (Int × IH)} {ah : IH} {v1 : Int} {v2 : Int} {v3 : Int} {v4 : Int} {v5 : Int} (hk24 : ∀ {z0 : IH} {z1 : Int} {z2 : Int} {z3 : Int} {z4 : Int} {z5 : Int}, Fg rgC lf_X10_firstBest a0 z0 → Sg gpI rgC lf_X10_firstBest a0 (k24 z0 z1 z2 z3 z4 z5)) (hah : Fg rgC lf_X10_firstBest a0 ah) : Sg gpI rgC lf_X10_firstBest a0 (G_X10_firstBest_63 N k24 ah v1 v2 v3 v4 v5) := by
  unfold G_X10_firstBest_63
  refine Sg.let_v (fun v5_63 => ?_)
  exact hk24 hah
theorem gb_X10_needBy_33 {a0 : IH} {N : Nat}  : ∀ (n : Nat) {ah : IH} {v1 : Int} {v2 : Int} {v3 : Int} {v4 : Int} {v5 : Int}  (hah : Fg rgC lf_X10_needBy a0 ah), Sg gpI rgC lf_X10_needBy a0 (G_X10_needBy_33 N n ah v1 v2 v3 v4 v5) := by
  intro n
  induction n with
  | zero => intros; exact Sg.none
  | succ n ih =>
    intro ah v1 v2 v3 v4 v5  hah
    unfold G_X10_needBy_33
    refine Sg.ite ?_ ?_
    · refine Sg.g (fun _ => ?_)
      refine Sg.g (fun _ => ?_)
      refine Sg.g (fun _ => ?_)
      exact Sg.ret hah
    · refine Sg.b (gb_X2_signOf Fg.rf) hah rfl (fun r49 a49 ha49 => ?_)
      refine Sg.g (fun _ => ?_)
      refine Sg.ite ?_ ?_
      · refine Sg.let_v (fun v5_72 => ?_)
        exact ih ha49
      · exact Sg.ret ha49
theorem gb_X10_needBy {a0 : IH} {N : Nat} {ah : IH} {p1 : Int} {p2 : Int} {p3 : Int}  (hah : Fg rgC lf_X10_needBy a0 ah) : Sg gpI rgC lf_X10_needBy a0 (G_X10_needBy N ah p1 p2 p3) := by
  unfold G_X10_needBy
  refine Sg.g (fun _ => ?_)
  refine Sg.let_v (fun v4_9 => ?_)
  refine Sg.g (fun _ => ?_)
  refine Sg.ite ?_ ?_
  · refine Sg.let_v (fun v5_31 => ?_)
    exact gb_X10_needBy_33 _ hah
  · exact Sg.ret hah
theorem gb_X10_firstBest_24 {a0 : IH} {N : Nat}  : ∀ (n : Nat) {ah : IH} {v1 : Int} {v2 : Int} {v3 : Int} {v4 : Int} {v5 : Int}  (hah : Fg rgC lf_X10_firstBest a0 ah), Sg gpI rgC lf_X10_firstBest a0 (G_X10_firstBest_24 N n ah v1 v2 v3 v4 v5) := by
  intro n
  induction n with
  | zero => intros; exact Sg.none
  | succ n ih =>
    intro ah v1 v2 v3 v4 v5  hah
    unfold G_X10_firstBest_24
    refine Sg.g (fun _ => ?_)
    refine Sg.ite ?_ ?_
    · exact Sg.ret hah
    · refine Sg.ite ?_ ?_
      · exact gb_X10_firstBest_63 (fun h => ih h) hah
      · refine Sg.b (gb_X10_needBy Fg.rf) hah rfl (fun r52 a52 ha52 => ?_)
        refine Sg.ite ?_ ?_
        · exact Sg.ret ha52
        · exact gb_X10_firstBest_63 (fun h => ih h) ha52
theorem gb_X10_firstBest {a0 : IH} {N : Nat} {ah : IH} {p1 : Int} {p2 : Int} {p3 : Int}  (hah : Fg rgC lf_X10_firstBest a0 ah) : Sg gpI rgC lf_X10_firstBest a0 (G_X10_firstBest N ah p1 p2 p3) := by
  unfold G_X10_firstBest
  refine Sg.g (fun _ => ?_)
  refine Sg.let_v (fun v4_11 => ?_)
  refine Sg.g (fun _ => ?_)
  refine Sg.let_v (fun v5_22 => ?_)
  exact gb_X10_firstBest_24 _ hah
theorem gb_X10_follow_9 {a0 : IH} {N : Nat}  : ∀ (n : Nat) {ah : IH} {v1 : Int} {v2 : Int} {v3 : Int}  (hah : Fg rgC lf_X10_follow a0 ah), Sg gpV rgC lf_X10_follow a0 (G_X10_follow_9 N n ah v1 v2 v3) := by
  intro n
  induction n with
  | zero => intros; exact Sg.none
  | succ n ih =>
    intro ah v1 v2 v3  hah
    unfold G_X10_follow_9
    refine Sg.ite ?_ ?_
    · exact Sg.ret hah
    · refine Sg.ite ?_ ?_
      · exact Sg.ret hah
      · refine Sg.b (gb_X10_firstBest Fg.rf) hah rfl (fun r33 a33 ha33 => ?_)
        refine Sg.let_v (fun v4_36 => ?_)
        refine Sg.ite ?_ ?_
        · exact Sg.ret ha33
        · refine Sg.g (fun _ => ?_)
          refine Sg.let_xu ha33 rfl (fun a55 ha55 => ?_)
          refine Sg.let_xu ha55 rfl (fun a63 ha63 => ?_)
          refine Sg.g (fun _ => ?_)
          refine Sg.let_v (fun v2_76 => ?_)
          refine Sg.g (fun _ => ?_)
          refine Sg.let_v (fun v3_89 => ?_)
          exact ih ha63
theorem gb_X10_follow {a0 : IH} {N : Nat} {ah : IH} {p1 : Int}  (hah : Fg rgC lf_X10_follow a0 ah) : Sg gpV rgC lf_X10_follow a0 (G_X10_follow N ah p1) := by
  unfold G_X10_follow
  refine Sg.let_xu hah rfl (fun a2 ha2 => ?_)
  refine Sg.let_v (fun v2_6 => ?_)
  refine Sg.let_v (fun v3_8 => ?_)
  exact gb_X10_follow_9 _ ha2
theorem gb_X10_needAt_15 {a0 : IH} {N : Nat}  : ∀ (n : Nat) {ah : IH} {v1 : Int} {v2 : Int} {v3 : Int} {v4 : Int} {v5 : Int}  (hah : Fg rgC lf_X10_needAt a0 ah), Sg gpI rgC lf_X10_needAt a0 (G_X10_needAt_15 N n ah v1 v2 v3 v4 v5) := by
  intro n
  induction n with
  | zero => intros; exact Sg.none
  | succ n ih =>
    intro ah v1 v2 v3 v4 v5  hah
    unfold G_X10_needAt_15
    refine Sg.g (fun _ => ?_)
    refine Sg.ite ?_ ?_
    · exact Sg.ret hah
    · refine Sg.b (gb_X10_needBy Fg.rf) hah rfl (fun r38 a38 ha38 => ?_)
      refine Sg.let_v (fun v4_44 => ?_)
      refine Sg.let_v (fun v5_46 => ?_)
      exact ih ha38
theorem gb_X10_needAt {a0 : IH} {N : Nat} {ah : IH} {p1 : Int} {p2 : Int} {p3 : Int}  (hah : Fg rgC lf_X10_needAt a0 ah) : Sg gpI rgC lf_X10_needAt a0 (G_X10_needAt N ah p1 p2 p3) := by
  unfold G_X10_needAt
  refine Sg.let_v (fun v4_2 => ?_)
  refine Sg.g (fun _ => ?_)
  refine Sg.let_v (fun v5_13 => ?_)
  exact gb_X10_needAt_15 _ hah
theorem gb_X10_spell_71 {a0 : IH} {N : Nat} {k18 : IH → Int → Int → Int → Option IH} {k25 : IH → Int → Int → Int → Int → Option IH} {ah : IH} {v1 : Int} {v2 : Int} {v3 : Int} {v4 : Int} {s1 : Int} {s2 : Int} (hk18 : ∀ {z0 : IH} {z1 : Int} {z2 : Int} {z3 : Int}, Fg rgC lf_X10_spell a0 z0 → Sg gpV rgC lf_X10_spell a0 (k18 z0 z1 z2 z3)) (hk25 : ∀ {z0 : IH} {z1 : Int} {z2 : Int} {z3 : Int} {z4 : Int}, Fg rgC lf_X10_spell a0 z0 → Sg gpV rgC lf_X10_spell a0 (k25 z0 z1 z2 z3 z4)) (hah : Fg rgC lf_X10_spell a0 ah) : Sg gpV rgC lf_X10_spell a0 (G_X10_spell_71 N k18 k25 ah v1 v2 v3 v4 s1 s2) := by
  unfold G_X10_spell_71
  refine Sg.g (fun _ => ?_)
  refine Sg.let_xu hah rfl (fun a71 ha71 => ?_)
  refine Sg.let_v (fun v4_72 => ?_)
  exact hk25 ha71
theorem gb_X10_spell_63 {a0 : IH} {N : Nat} {k18 : IH → Int → Int → Int → Option IH} {k25 : IH → Int → Int → Int → Int → Option IH} {ah : IH} {v1 : Int} {v2 : Int} {v3 : Int} {v4 : Int} {s1 : Int} (hk18 : ∀ {z0 : IH} {z1 : Int} {z2 : Int} {z3 : Int}, Fg rgC lf_X10_spell a0 z0 → Sg gpV rgC lf_X10_spell a0 (k18 z0 z1 z2 z3)) (hk25 : ∀ {z0 : IH} {z1 : Int} {z2 : Int} {z3 : Int} {z4 : Int}, Fg rgC lf_X10_spell a0 z0 → Sg gpV rgC lf_X10_spell a0 (k25 z0 z1 z2 z3 z4)) (hah : Fg rgC lf_X10_spell a0 ah) : Sg gpV rgC lf_X10_spell a0 (G_X10_spell_63 N k18 k25 ah v1 v2 v3 v4 s1) := by
  unfold G_X10_spell_63
  refine Sg.b (gb_X10_needAt Fg.rf) hah rfl (fun r68 a68 ha68 => ?_)
  exact gb_X10_spell_71 hk18 hk25 ha68
theorem gb_X10_spell_25 {a0 : IH} {N : Nat} {k18 : IH → Int → Int → Int → Option IH} (hk18 : ∀ {z0 : IH} {z1 : Int} {z2 : Int} {z3 : Int}, Fg rgC lf_X10_spell a0 z0 → Sg gpV rgC lf_X10_spell a0 (k18 z0 z1 z2 z3)) : ∀ (n : Nat) {ah : IH} {v1 : Int} {v2 : Int} {v3 : Int} {v4 : Int}  (hah : Fg rgC lf_X10_spell a0 ah), Sg gpV rgC lf_X10_spell a0 (G_X10_spell_25 N k18 n ah v1 v2 v3 v4) := by
  intro n
  induction n with
  | zero => intros; exact Sg.none
  | succ n ih =>
    intro ah v1 v2 v3 v4  hah
    unfold G_X10_spell_25
    refine Sg.ite ?_ ?_
    · refine Sg.let_v (fun v3_78 => ?_)
      exact hk18 hah
    · refine Sg.ite ?_ ?_
      · refine Sg.ite ?_ ?_
        · exact gb_X10_spell_71 hk18 (fun h => ih h) hah
        · exact gb_X10_spell_63 hk18 (fun h => ih h) hah
      · exact gb_X10_spell_63 hk18 (fun h => ih h) hah
theorem gb_X10_spell_18 {a0 : IH} {N : Nat}  : ∀ (n : Nat) {ah : IH} {v1 : Int} {v2 : Int} {v3 : Int}  (hah : Fg rgC lf_X10_spell a0 ah), Sg gpV rgC lf_X10_spell a0 (G_X10_spell_18 N n ah v1 v2 v3) := by
  intro n
  induction n with
  | zero => intros; exact Sg.none
  | succ n ih =>
    intro ah v1 v2 v3  hah
    unfold G_X10_spell_18
    refine Sg.ite ?_ ?_
    · refine Sg.let_xu hah rfl (fun a91 ha91 => ?_)
      refine Sg.bv (gb_X10_follow Fg.rf) ha91 rfl (fun a96 ha96 => ?_)
      exact Sg.ret ha96
    · refine Sg.let_v (fun v4_23 => ?_)
      exact gb_X10_spell_25 (fun h => ih h) _ hah
theorem gb_X10_spell {a0 : IH} {N : Nat} {ah : IH} {p1 : Int}  (hah : Fg rgC lf_X10_spell a0 ah) : Sg gpV rgC lf_X10_spell a0 (G_X10_spell N ah p1) := by
  unfold G_X10_spell
  refine Sg.g (fun _ => ?_)
  refine Sg.let_v (fun v2_9 => ?_)
  refine Sg.let_v (fun v3_17 => ?_)
  exact gb_X10_spell_18 _ hah
theorem gb_X11_findWay {a0 : IH} {N : Nat} {ah : IH} {p1 : Int}  (hah : Fg rgC lf_X11_findWay a0 ah) : Sg gpI rgC lf_X11_findWay a0 (G_X11_findWay N ah p1) := by
  unfold G_X11_findWay
  refine Sg.bv (gb_X0_lookAlone Fg.rf) hah rfl (fun a5 ha5 => ?_)
  refine Sg.b (gb_X0_mendedWord Fg.rf) ha5 rfl (fun r13 a13 ha13 => ?_)
  refine Sg.let_v (fun v2_16 => ?_)
  refine Sg.ite ?_ ?_
  · exact Sg.ret ha13
  · refine Sg.g (fun _ => ?_)
    refine Sg.b (gb_X5_cellsOf_31 Fg.rf) ha13 rfl (fun r42 a42 ha42 => ?_)
    refine Sg.bv (gb_X4_ofCells Fg.rf) ha42 rfl (fun a45 ha45 => ?_)
    refine Sg.bv (gb_X10_spell Fg.rf) ha45 rfl (fun a53 ha53 => ?_)
    exact Sg.ret ha53
theorem gb_X4_ofWord_46 {a0 : IH} {N : Nat}  : ∀ (n : Nat) {ah : IH} {v2 : Int}  (hah : Fg rgC lf_X4_ofWord a0 ah), Sg gpV rgC lf_X4_ofWord a0 (G_X4_ofWord_46 N n ah v2) := by
  intro n
  induction n with
  | zero => intros; exact Sg.none
  | succ n ih =>
    intro ah v2  hah
    unfold G_X4_ofWord_46
    refine Sg.ite ?_ ?_
    · refine Sg.bv (gb_X4_end Fg.rf) hah rfl (fun a81 ha81 => ?_)
      exact Sg.ret ha81
    · refine Sg.g (fun _ => ?_)
      refine Sg.let_xu hah rfl (fun a63 ha63 => ?_)
      refine Sg.bv (gb_X4_addRead Fg.rf) ha63 rfl (fun a66 ha66 => ?_)
      refine Sg.bv (gb_X4_addShapes Fg.rf) ha66 rfl (fun a71 ha71 => ?_)
      refine Sg.let_v (fun v2_74 => ?_)
      exact ih ha71
theorem gb_X4_ofWord_15 {a0 : IH} {N : Nat}  : ∀ (n : Nat) {ah : IH} {v1 : Int} {v2 : Int}  (hah : Fg rgC lf_X4_ofWord a0 ah), Sg gpV rgC lf_X4_ofWord a0 (G_X4_ofWord_15 N n ah v1 v2) := by
  intro n
  induction n with
  | zero => intros; exact Sg.none
  | succ n ih =>
    intro ah v1 v2  hah
    unfold G_X4_ofWord_15
    refine Sg.ite ?_ ?_
    · refine Sg.let_v (fun v2_45 => ?_)
      exact gb_X4_ofWord_46 _ hah
    · refine Sg.b (gb_X2_signOf Fg.rf) hah rfl (fun r34 a34 ha34 => ?_)
      refine Sg.g (fun _ => ?_)
      refine Sg.let_xu ha34 rfl (fun a37 ha37 => ?_)
      refine Sg.let_v (fun v2_38 => ?_)
      exact ih ha37
theorem gb_X4_ofWord {a0 : IH} {N : Nat} {ah : IH} {p1 : Int}  (hah : Fg rgC lf_X4_ofWord a0 ah) : Sg gpV rgC lf_X4_ofWord a0 (G_X4_ofWord N ah p1) := by
  unfold G_X4_ofWord
  refine Sg.g (fun _ => ?_)
  refine Sg.bv (gb_X4_begin Fg.rf) hah rfl (fun a10 ha10 => ?_)
  refine Sg.let_v (fun v2_14 => ?_)
  exact gb_X4_ofWord_15 _ ha10
theorem gb_X0_lookSurely {a0 : IH} {N : Nat} {ah : IH} {p1 : Int}  (hah : Fg rgC lf_X0_lookSurely a0 ah) : Sg gpV rgC lf_X0_lookSurely a0 (G_X0_lookSurely N ah p1) := by
  unfold G_X0_lookSurely
  refine Sg.g (fun _ => ?_)
  refine Sg.ite ?_ ?_
  · refine Sg.bv (gb_X4_ofWord Fg.rf) hah rfl (fun a20 ha20 => ?_)
    refine Sg.bv (gb_X6_run Fg.rf) ha20 rfl (fun a29 ha29 => ?_)
    refine Sg.bv (gb_X0_keep Fg.rf) ha29 rfl (fun a37 ha37 => ?_)
    exact Sg.ret ha37
  · exact Sg.ret hah
theorem gb_X0_priceFor_2 {a0 : IH} {N : Nat}  : ∀ (n : Nat) {ah : IH} {v1 : Int} {v2 : Int} {v3 : Int}  (hah : Fg rgC lf_X0_priceFor a0 ah), Sg gpI rgC lf_X0_priceFor a0 (G_X0_priceFor_2 N n ah v1 v2 v3) := by
  intro n
  induction n with
  | zero => intros; exact Sg.none
  | succ n ih =>
    intro ah v1 v2 v3  hah
    unfold G_X0_priceFor_2
    refine Sg.g (fun _ => ?_)
    refine Sg.ite ?_ ?_
    · exact Sg.ret hah
    · refine Sg.g (fun _ => ?_)
      refine Sg.ite ?_ ?_
      · refine Sg.g (fun _ => ?_)
        exact Sg.ret hah
      · refine Sg.let_v (fun v3_39 => ?_)
        exact ih hah
theorem gb_X0_priceFor {a0 : IH} {N : Nat} {ah : IH} {p1 : Int} {p2 : Int}  (hah : Fg rgC lf_X0_priceFor a0 ah) : Sg gpI rgC lf_X0_priceFor a0 (G_X0_priceFor N ah p1 p2) := by
  unfold G_X0_priceFor
  refine Sg.let_v (fun v3_1 => ?_)
  exact gb_X0_priceFor_2 _ hah
theorem gb_X11_costBetween {a0 : IH} {N : Nat} {ah : IH} {p1 : Int} {p2 : Int}  (hah : Fg rgC lf_X11_costBetween a0 ah) : Sg gpI rgC lf_X11_costBetween a0 (G_X11_costBetween N ah p1 p2) := by
  unfold G_X11_costBetween
  refine Sg.bv (gb_X0_lookSurely Fg.rf) hah rfl (fun a5 ha5 => ?_)
  refine Sg.b (gb_X0_priceFor Fg.rf) ha5 rfl (fun r17 a17 ha17 => ?_)
  refine Sg.let_v (fun v3_20 => ?_)
  refine Sg.ite ?_ ?_
  · exact Sg.ret ha17
  · refine Sg.g (fun _ => ?_)
    exact Sg.ret ha17
theorem gb_X11_isLetter {a0 : IH} {N : Nat} {ah : IH} {p0 : Int}  (hah : Fg rgC lf_X11_isLetter a0 ah) : Sg gpI rgC lf_X11_isLetter a0 (G_X11_isLetter N ah p0) := by
  unfold G_X11_isLetter
  refine Sg.ite ?_ ?_
  · exact Sg.ret hah
  · refine Sg.ite ?_ ?_
    · exact Sg.ret hah
    · exact Sg.ret hah
theorem gb_X11_isDigit {a0 : IH} {N : Nat} {ah : IH} {p0 : Int}  (hah : Fg rgC lf_X11_isDigit a0 ah) : Sg gpI rgC lf_X11_isDigit a0 (G_X11_isDigit N ah p0) := by
  unfold G_X11_isDigit
  refine Sg.ite ?_ ?_
  · exact Sg.ret hah
  · refine Sg.ite ?_ ?_
    · exact Sg.ret hah
    · exact Sg.ret hah
theorem gb_X11_needBetween_10 {a0 : IH} {N : Nat} {ah : IH}  (hah : Fg rgC lf_X11_needBetween a0 ah) : Sg gpX rgC lf_X11_needBetween a0 (G_X11_needBetween_10 N ah) := by
  unfold G_X11_needBetween_10
  refine Sg.let_xu hah rfl (fun a17 ha17 => ?_)
  exact Sg.ret ha17
theorem gb_X11_needBetween {a0 : IH} {N : Nat} {ah : IH} {p1 : Int} {p2 : Int} {p3 : Int}  (hah : Fg rgC lf_X11_needBetween a0 ah) : Sg gpX rgC lf_X11_needBetween a0 (G_X11_needBetween N ah p1 p2 p3) := by
  unfold G_X11_needBetween
  refine Sg.ite ?_ ?_
  · exact gb_X11_needBetween_10 hah
  · refine Sg.ite ?_ ?_
    · exact Sg.ret hah
    · exact gb_X11_needBetween_10 hah
theorem gb_X9_finish {a0 : IH} {N : Nat} {ah : IH} {p1 : Int}  (hah : Fg rgC lf_X9_finish a0 ah) : Sg gpI rgC lf_X9_finish a0 (G_X9_finish N ah p1) := by
  unfold G_X9_finish
  refine Sg.let_xu hah rfl (fun a2 ha2 => ?_)
  refine Sg.ite ?_ ?_
  · exact Sg.ret ha2
  · exact Sg.ret ha2
theorem gb_X11_lexicon_39 {a0 : IH} {N : Nat} {ah : IH}  (hah : Fg rgC lf_X11_lexicon a0 ah) : Sg gpX rgC lf_X11_lexicon a0 (G_X11_lexicon_39 N ah) := by
  unfold G_X11_lexicon_39
  refine Sg.b (gb_X9_finish Fg.rf) hah rfl (fun r50 a50 ha50 => ?_)
  exact Sg.ret ha50
theorem gb_X2_findLeast_102 {a0 : IH} {N : Nat} {k25 : IH → Int → Option IH} {ah : IH} {v1 : Int} (hk25 : ∀ {z0 : IH} {z1 : Int}, Fg rgC lf_X2_findLeast a0 z0 → Sg gpV rgC lf_X2_findLeast a0 (k25 z0 z1)) (hah : Fg rgC lf_X2_findLeast a0 ah) : Sg gpV rgC lf_X2_findLeast a0 (G_X2_findLeast_102 N k25 ah v1) := by
  unfold G_X2_findLeast_102
  refine Sg.let_v (fun v1_102 => ?_)
  exact hk25 hah
theorem gb_X2_findLeast_89 {a0 : IH} {N : Nat} {k25 : IH → Int → Option IH} {k42 : IH → Int → Int → Int → Option IH} {ah : IH} {v1 : Int} {v2 : Int} {v3 : Int} (hk25 : ∀ {z0 : IH} {z1 : Int}, Fg rgC lf_X2_findLeast a0 z0 → Sg gpV rgC lf_X2_findLeast a0 (k25 z0 z1)) (hk42 : ∀ {z0 : IH} {z1 : Int} {z2 : Int} {z3 : Int}, Fg rgC lf_X2_findLeast a0 z0 → Sg gpV rgC lf_X2_findLeast a0 (k42 z0 z1 z2 z3)) (hah : Fg rgC lf_X2_findLeast a0 ah) : Sg gpV rgC lf_X2_findLeast a0 (G_X2_findLeast_89 N k25 k42 ah v1 v2 v3) := by
  unfold G_X2_findLeast_89
  refine Sg.g (fun _ => ?_)
  refine Sg.let_v (fun v2_95 => ?_)
  refine Sg.let_v (fun v3_96 => ?_)
  exact hk42 hah
theorem gb_X2_findLeast_77 {a0 : IH} {N : Nat} {k25 : IH → Int → Option IH} {k42 : IH → Int → Int → Int → Option IH} {ah : IH} {v1 : Int} {v2 : Int} {v3 : Int} (hk25 : ∀ {z0 : IH} {z1 : Int}, Fg rgC lf_X2_findLeast a0 z0 → Sg gpV rgC lf_X2_findLeast a0 (k25 z0 z1)) (hk42 : ∀ {z0 : IH} {z1 : Int} {z2 : Int} {z3 : Int}, Fg rgC lf_X2_findLeast a0 z0 → Sg gpV rgC lf_X2_findLeast a0 (k42 z0 z1 z2 z3)) (hah : Fg rgC lf_X2_findLeast a0 ah) : Sg gpV rgC lf_X2_findLeast a0 (G_X2_findLeast_77 N k25 k42 ah v1 v2 v3) := by
  unfold G_X2_findLeast_77
  refine Sg.g (fun _ => ?_)
  refine Sg.g (fun _ => ?_)
  refine Sg.let_xu hah rfl (fun a88 ha88 => ?_)
  exact gb_X2_findLeast_89 hk25 hk42 ha88
theorem gb_X2_findLeast_42 {a0 : IH} {N : Nat} {k25 : IH → Int → Option IH} (hk25 : ∀ {z0 : IH} {z1 : Int}, Fg rgC lf_X2_findLeast a0 z0 → Sg gpV rgC lf_X2_findLeast a0 (k25 z0 z1)) : ∀ (n : Nat) {ah : IH} {v1 : Int} {v2 : Int} {v3 : Int}  (hah : Fg rgC lf_X2_findLeast a0 ah), Sg gpV rgC lf_X2_findLeast a0 (G_X2_findLeast_42 N k25 n ah v1 v2 v3) := by
  intro n
  induction n with
  | zero => intros; exact Sg.none
  | succ n ih =>
    intro ah v1 v2 v3  hah
    unfold G_X2_findLeast_42
    refine Sg.ite ?_ ?_
    · exact gb_X2_findLeast_102 hk25 hah
    · refine Sg.ite ?_ ?_
      · exact gb_X2_findLeast_102 hk25 hah
      · refine Sg.g (fun _ => ?_)
        refine Sg.ite ?_ ?_
        · exact gb_X2_findLeast_77 hk25 (fun h => ih h) hah
        · refine Sg.g (fun _ => ?_)
          refine Sg.g (fun _ => ?_)
          refine Sg.ite ?_ ?_
          · exact gb_X2_findLeast_89 hk25 (fun h => ih h) hah
          · exact gb_X2_findLeast_77 hk25 (fun h => ih h) hah
theorem gb_X2_findLeast_25 {a0 : IH} {N : Nat}  : ∀ (n : Nat) {ah : IH} {v1 : Int}  (hah : Fg rgC lf_X2_findLeast a0 ah), Sg gpV rgC lf_X2_findLeast a0 (G_X2_findLeast_25 N n ah v1) := by
  intro n
  induction n with
  | zero => intros; exact Sg.none
  | succ n ih =>
    intro ah v1  hah
    unfold G_X2_findLeast_25
    refine Sg.ite ?_ ?_
    · exact Sg.ret hah
    · refine Sg.g (fun _ => ?_)
      refine Sg.let_v (fun v2_39 => ?_)
      refine Sg.let_v (fun v3_41 => ?_)
      exact gb_X2_findLeast_42 (fun h => ih h) _ hah
theorem gb_X2_findLeast_2 {a0 : IH} {N : Nat}  : ∀ (n : Nat) {ah : IH} {v1 : Int}  (hah : Fg rgC lf_X2_findLeast a0 ah), Sg gpV rgC lf_X2_findLeast a0 (G_X2_findLeast_2 N n ah v1) := by
  intro n
  induction n with
  | zero => intros; exact Sg.none
  | succ n ih =>
    intro ah v1  hah
    unfold G_X2_findLeast_2
    refine Sg.ite ?_ ?_
    · refine Sg.let_v (fun v1_24 => ?_)
      exact gb_X2_findLeast_25 _ hah
    · refine Sg.g (fun _ => ?_)
      refine Sg.let_xu hah rfl (fun a16 ha16 => ?_)
      refine Sg.let_v (fun v1_17 => ?_)
      exact ih ha16
theorem gb_X2_findLeast {a0 : IH} {N : Nat} {ah : IH}  (hah : Fg rgC lf_X2_findLeast a0 ah) : Sg gpV rgC lf_X2_findLeast a0 (G_X2_findLeast N ah) := by
  unfold G_X2_findLeast
  refine Sg.let_v (fun v1_1 => ?_)
  exact gb_X2_findLeast_2 _ hah
theorem gb_X2_addFresh_67_3 {a0 : IH} {N : Nat} {ah : IH}  (hah : Fg rgC lf_X2_addFresh_3 a0 ah) : Sg gpV rgC lf_X2_addFresh_3 a0 (G_X2_addFresh_67 N 3 ah) := by
  unfold G_X2_addFresh_67
  refine Sg.bv (gb_X2_findLeast Fg.rf) hah rfl (fun a68 ha68 => ?_)
  exact Sg.ret ha68
theorem gb_X2_addWord_108_3 {a0 : IH} {N : Nat} {ah : IH} {v3 : Int} {v4 : Int}  (hah : Fg rgC lf_X2_addWord_3 a0 ah) : Sg gpV rgC lf_X2_addWord_3 a0 (G_X2_addWord_108 N 3 ah v3 v4) := by
  unfold G_X2_addWord_108
  refine Sg.g (fun _ => ?_)
  refine Sg.let_xu hah rfl (fun a117 ha117 => ?_)
  refine Sg.g (fun _ => ?_)
  refine Sg.let_xu ha117 rfl (fun a128 ha128 => ?_)
  refine Sg.g (fun _ => ?_)
  refine Sg.let_xu ha128 rfl (fun a139 ha139 => ?_)
  exact Sg.ret ha139
theorem gb_X2_addWord_80_3 {a0 : IH} {N : Nat} {k16 : IH → Int → Int → Int → Int → Option IH} {ah : IH} {v2 : Int} {v3 : Int} {v5 : Int} {v7 : Int} (hk16 : ∀ {z0 : IH} {z1 : Int} {z2 : Int} {z3 : Int} {z4 : Int}, Fg rgC lf_X2_addWord_3 a0 z0 → Sg gpV rgC lf_X2_addWord_3 a0 (k16 z0 z1 z2 z3 z4)) (hah : Fg rgC lf_X2_addWord_3 a0 ah) : Sg gpV rgC lf_X2_addWord_3 a0 (G_X2_addWord_80 N 3 k16 ah v2 v3 v5 v7) := by
  unfold G_X2_addWord_80
  refine Sg.ite ?_ ?_
  · exact Sg.ret hah
  · refine Sg.let_v (fun v4_89 => ?_)
    refine Sg.g (fun _ => ?_)
    refine Sg.g (fun _ => ?_)
    refine Sg.let_xu hah rfl (fun a101 ha101 => ?_)
    refine Sg.let_v (fun v5_102 => ?_)
    exact hk16 ha101
theorem gb_X2_addWord_16_3 {a0 : IH} {N : Nat}  : ∀ (n : Nat) {ah : IH} {v2 : Int} {v3 : Int} {v4 : Int} {v5 : Int}  (hah : Fg rgC lf_X2_addWord_3 a0 ah), Sg gpV rgC lf_X2_addWord_3 a0 (G_X2_addWord_16 N 3 n ah v2 v3 v4 v5) := by
  intro n
  induction n with
  | zero => intros; exact Sg.none
  | succ n ih =>
    intro ah v2 v3 v4 v5  hah
    unfold G_X2_addWord_16
    refine Sg.ite ?_ ?_
    · exact gb_X2_addWord_108_3 hah
    · refine Sg.ite ?_ ?_
      · exact gb_X2_addWord_108_3 hah
      · refine Sg.g (fun _ => ?_)
        refine Sg.let_v (fun v6_35 => ?_)
        refine Sg.g (fun _ => ?_)
        refine Sg.let_xu hah rfl (fun a53 ha53 => ?_)
        refine Sg.b (gb_X2_childOf Fg.rf) ha53 rfl (fun r59 a59 ha59 => ?_)
        refine Sg.let_v (fun v7_62 => ?_)
        refine Sg.ite ?_ ?_
        · refine Sg.b (gb_X2_addNode Fg.rf) ha59 rfl (fun r75 a75 ha75 => ?_)
          refine Sg.let_v (fun v7_78 => ?_)
          exact gb_X2_addWord_80_3 (fun h => ih h) ha75
        · exact gb_X2_addWord_80_3 (fun h => ih h) ha59
theorem gb_X2_addWord_3 {a0 : IH} {N : Nat} {ah : IH} {p2 : Int} {p3 : Int}  (hah : Fg rgC lf_X2_addWord_3 a0 ah) : Sg gpV rgC lf_X2_addWord_3 a0 (G_X2_addWord N 3 ah p2 p3) := by
  unfold G_X2_addWord
  refine Sg.let_v (fun v4_1 => ?_)
  refine Sg.let_xu hah rfl (fun a12 ha12 => ?_)
  refine Sg.let_v (fun v5_14 => ?_)
  exact gb_X2_addWord_16_3 _ ha12
theorem gb_X2_addFresh_2_3 {a0 : IH} {N : Nat}  : ∀ (n : Nat) {ah : IH} {v2 : Int}  (hah : Fg rgC lf_X2_addFresh_3 a0 ah), Sg gpV rgC lf_X2_addFresh_3 a0 (G_X2_addFresh_2 N 3 n ah v2) := by
  intro n
  induction n with
  | zero => intros; exact Sg.none
  | succ n ih =>
    intro ah v2  hah
    unfold G_X2_addFresh_2
    refine Sg.ite ?_ ?_
    · exact gb_X2_addFresh_67_3 hah
    · refine Sg.ite ?_ ?_
      · exact gb_X2_addFresh_67_3 hah
      · refine Sg.g (fun _ => ?_)
        refine Sg.g (fun _ => ?_)
        refine Sg.bv (gb_X2_addWord_3 Fg.rf) hah rfl (fun a33 ha33 => ?_)
        refine Sg.g (fun _ => ?_)
        refine Sg.g (fun _ => ?_)
        refine Sg.let_xu ha33 rfl (fun a50 ha50 => ?_)
        refine Sg.let_xu ha50 rfl (fun a58 ha58 => ?_)
        refine Sg.let_v (fun v2_61 => ?_)
        exact ih ha58
theorem gb_X2_addFresh_3 {a0 : IH} {N : Nat} {ah : IH}  (hah : Fg rgC lf_X2_addFresh_3 a0 ah) : Sg gpV rgC lf_X2_addFresh_3 a0 (G_X2_addFresh N 3 ah) := by
  unfold G_X2_addFresh
  refine Sg.let_v (fun v2_1 => ?_)
  exact gb_X2_addFresh_2_3 _ hah
theorem gb_X2_isFresh_59_3 {a0 : IH} {N : Nat} {k3 : IH → Int → Int → Int → Option (Int × IH)} {ah : IH} {v2 : Int} {v3 : Int} {v4 : Int} {v5 : Int} (hk3 : ∀ {z0 : IH} {z1 : Int} {z2 : Int} {z3 : Int}, Fg rgC lf_X2_isFresh_3 a0 z0 → Sg gpI rgC lf_X2_isFresh_3 a0 (k3 z0 z1 z2 z3)) (hah : Fg rgC lf_X2_isFresh_3 a0 ah) : Sg gpI rgC lf_X2_isFresh_3 a0 (G_X2_isFresh_59 N 3 k3 ah v2 v3 v4 v5) := by
  unfold G_X2_isFresh_59
  refine Sg.ite ?_ ?_
  · exact Sg.ret hah
  · refine Sg.let_v (fun v4_67 => ?_)
    exact hk3 hah
theorem gb_X2_isFresh_15_3 {a0 : IH} {N : Nat} {k3 : IH → Int → Int → Int → Option (Int × IH)} (hk3 : ∀ {z0 : IH} {z1 : Int} {z2 : Int} {z3 : Int}, Fg rgC lf_X2_isFresh_3 a0 z0 → Sg gpI rgC lf_X2_isFresh_3 a0 (k3 z0 z1 z2 z3)) : ∀ (n : Nat) {ah : IH} {v2 : Int} {v3 : Int} {v4 : Int} {v5 : Int}  (hah : Fg rgC lf_X2_isFresh_3 a0 ah), Sg gpI rgC lf_X2_isFresh_3 a0 (G_X2_isFresh_15 N 3 k3 n ah v2 v3 v4 v5) := by
  intro n
  induction n with
  | zero => intros; exact Sg.none
  | succ n ih =>
    intro ah v2 v3 v4 v5  hah
    unfold G_X2_isFresh_15
    refine Sg.g (fun _ => ?_)
    refine Sg.ite ?_ ?_
    · refine Sg.ite ?_ ?_
      · exact gb_X2_isFresh_59_3 hk3 hah
      · refine Sg.g (fun _ => ?_)
        refine Sg.g (fun _ => ?_)
        refine Sg.g (fun _ => ?_)
        refine Sg.ite ?_ ?_
        · refine Sg.let_v (fun v5_53 => ?_)
          exact ih hah
        · exact gb_X2_isFresh_59_3 hk3 hah
    · exact gb_X2_isFresh_59_3 hk3 hah
theorem gb_X2_isFresh_3_3 {a0 : IH} {N : Nat}  : ∀ (n : Nat) {ah : IH} {v2 : Int} {v3 : Int} {v4 : Int}  (hah : Fg rgC lf_X2_isFresh_3 a0 ah), Sg gpI rgC lf_X2_isFresh_3 a0 (G_X2_isFresh_3 N 3 n ah v2 v3 v4) := by
  intro n
  induction n with
  | zero => intros; exact Sg.none
  | succ n ih =>
    intro ah v2 v3 v4  hah
    unfold G_X2_isFresh_3
    refine Sg.ite ?_ ?_
    · exact Sg.ret hah
    · refine Sg.let_v (fun v5_13 => ?_)
      exact gb_X2_isFresh_15_3 (fun h => ih h) _ hah
theorem gb_X2_isFresh_3 {a0 : IH} {N : Nat} {ah : IH} {p2 : Int} {p3 : Int}  (hah : Fg rgC lf_X2_isFresh_3 a0 ah) : Sg gpI rgC lf_X2_isFresh_3 a0 (G_X2_isFresh N 3 ah p2 p3) := by
  unfold G_X2_isFresh
  refine Sg.let_v (fun v4_1 => ?_)
  exact gb_X2_isFresh_3_3 _ hah
theorem gb_X2_look_6_3 {a0 : IH} {N : Nat}  : ∀ (n : Nat) {ah : IH} {v2 : Int} {v3 : Int} {v4 : Int} {v5 : Int}  (hah : Fg rgC lf_X2_look_3 a0 ah), Sg gpI rgC lf_X2_look_3 a0 (G_X2_look_6 N 3 n ah v2 v3 v4 v5) := by
  intro n
  induction n with
  | zero => intros; exact Sg.none
  | succ n ih =>
    intro ah v2 v3 v4 v5  hah
    unfold G_X2_look_6
    refine Sg.ite ?_ ?_
    · refine Sg.g (fun _ => ?_)
      exact Sg.ret hah
    · refine Sg.g (fun _ => ?_)
      refine Sg.b (gb_X2_childOf Fg.rf) hah rfl (fun r21 a21 ha21 => ?_)
      refine Sg.let_v (fun v4_24 => ?_)
      refine Sg.ite ?_ ?_
      · exact Sg.ret ha21
      · refine Sg.let_v (fun v5_34 => ?_)
        exact ih ha21
theorem gb_X2_look_3 {a0 : IH} {N : Nat} {ah : IH} {p2 : Int} {p3 : Int}  (hah : Fg rgC lf_X2_look_3 a0 ah) : Sg gpI rgC lf_X2_look_3 a0 (G_X2_look N 3 ah p2 p3) := by
  unfold G_X2_look
  refine Sg.let_v (fun v4_1 => ?_)
  refine Sg.let_v (fun v5_4 => ?_)
  exact gb_X2_look_6_3 _ hah
theorem gb_X2_passWord_50 {a0 : IH} {N : Nat} {k4 : IH → Int → Int → Option (Int × IH)} {ah : IH} (hk4 : ∀ {z0 : IH} {z1 : Int} {z2 : Int}, Fg rgC lf_X2_passWord a0 z0 → Sg gpI rgC lf_X2_passWord a0 (k4 z0 z1 z2)) (hah : Fg rgC lf_X2_passWord a0 ah) : Sg gpI rgC lf_X2_passWord a0 (G_X2_passWord_50 N k4 ah) := by
  unfold G_X2_passWord_50
  exact Sg.ret hah
theorem gb_X9_refuse {a0 : IH} {N : Nat} {ah : IH} {p1 : Int} {p2 : Int}  (hah : Fg rgC lf_X9_refuse a0 ah) : Sg gpI rgC lf_X9_refuse a0 (G_X9_refuse N ah p1 p2) := by
  unfold G_X9_refuse
  refine Sg.let_xu hah rfl (fun a2 ha2 => ?_)
  refine Sg.let_xu ha2 rfl (fun a7 ha7 => ?_)
  exact Sg.ret ha7
theorem gb_X2_passWord_56 {a0 : IH} {N : Nat} {k4 : IH → Int → Int → Option (Int × IH)} {ah : IH} {v3 : Int} {v4 : Int} (hk4 : ∀ {z0 : IH} {z1 : Int} {z2 : Int}, Fg rgC lf_X2_passWord a0 z0 → Sg gpI rgC lf_X2_passWord a0 (k4 z0 z1 z2)) (hah : Fg rgC lf_X2_passWord a0 ah) : Sg gpI rgC lf_X2_passWord a0 (G_X2_passWord_56 N k4 ah v3 v4) := by
  unfold G_X2_passWord_56
  refine Sg.ite ?_ ?_
  · refine Sg.b (gb_X9_refuse Fg.rf) hah rfl (fun r68 a68 ha68 => ?_)
    refine Sg.bo ?_
    exact Sg.ret ha68
  · refine Sg.let_v (fun v2_74 => ?_)
    refine Sg.let_xu hah rfl (fun a82 ha82 => ?_)
    refine Sg.let_v (fun v3_85 => ?_)
    exact hk4 ha82
theorem gb_X9_peek {a0 : IH} {N : Nat} {ah : IH} {p1 : Int}  (hah : Fg rgC lf_X9_peek a0 ah) : Sg gpI rgC lf_X9_peek a0 (G_X9_peek N ah p1) := by
  unfold G_X9_peek
  refine Sg.let_v (fun v2_6 => ?_)
  refine Sg.ite ?_ ?_
  · exact Sg.ret hah
  · refine Sg.ite ?_ ?_
    · exact Sg.ret hah
    · refine Sg.g (fun _ => ?_)
      exact Sg.ret hah
theorem gb_X2_passWord_4 {a0 : IH} {N : Nat}  : ∀ (n : Nat) {ah : IH} {v2 : Int} {v3 : Int}  (hah : Fg rgC lf_X2_passWord a0 ah), Sg gpI rgC lf_X2_passWord a0 (G_X2_passWord_4 N n ah v2 v3) := by
  intro n
  induction n with
  | zero => intros; exact Sg.none
  | succ n ih =>
    intro ah v2 v3  hah
    unfold G_X2_passWord_4
    refine Sg.ite ?_ ?_
    · exact Sg.ret hah
    · refine Sg.b (gb_X9_peek Fg.rf) hah rfl (fun r12 a12 ha12 => ?_)
      refine Sg.let_v (fun v4_15 => ?_)
      refine Sg.b (gb_X11_isLetter Fg.rf) ha12 rfl (fun r19 a19 ha19 => ?_)
      refine Sg.ite ?_ ?_
      · refine Sg.ite ?_ ?_
        · exact gb_X2_passWord_56 (fun h => ih h) ha19
        · refine Sg.ite ?_ ?_
          · refine Sg.b (gb_X9_refuse Fg.rf) ha19 rfl (fun r44 a44 ha44 => ?_)
            refine Sg.ite ?_ ?_
            · exact Sg.ret ha44
            · exact gb_X2_passWord_50 (fun h => ih h) ha44
          · exact gb_X2_passWord_50 (fun h => ih h) ha19
      · exact gb_X2_passWord_56 (fun h => ih h) ha19
theorem gb_X2_passWord {a0 : IH} {N : Nat} {ah : IH}  (hah : Fg rgC lf_X2_passWord a0 ah) : Sg gpI rgC lf_X2_passWord a0 (G_X2_passWord N ah) := by
  unfold G_X2_passWord
  refine Sg.let_v (fun v2_1 => ?_)
  refine Sg.let_v (fun v3_3 => ?_)
  exact gb_X2_passWord_4 _ hah
theorem gb_X2_readEntry_88 {a0 : IH} {N : Nat} {ah : IH} {v2 : Int}  (hah : Fg rgC lf_X2_readEntry a0 ah) : Sg gpI rgC lf_X2_readEntry a0 (G_X2_readEntry_88 N ah v2) := by
  unfold G_X2_readEntry_88
  refine Sg.b (gb_X9_refuse Fg.rf) hah rfl (fun r91 a91 ha91 => ?_)
  refine Sg.bo ?_
  exact Sg.ret ha91
theorem gb_X9_readEnding_39 {a0 : IH} {N : Nat} {ah : IH} {v3 : Int}  (hah : Fg rgC lf_X9_readEnding a0 ah) : Sg gpI rgC lf_X9_readEnding a0 (G_X9_readEnding_39 N ah v3) := by
  unfold G_X9_readEnding_39
  refine Sg.b (gb_X9_peek Fg.rf) hah rfl (fun r41 a41 ha41 => ?_)
  refine Sg.ite ?_ ?_
  · refine Sg.let_xu ha41 rfl (fun a68 ha68 => ?_)
    exact Sg.ret ha68
  · refine Sg.b (gb_X9_refuse Fg.rf) ha41 rfl (fun r55 a55 ha55 => ?_)
    exact Sg.ret ha55
theorem gb_X9_readNumber_100 {a0 : IH} {N : Nat} {ah : IH} {v2 : Int}  (hah : Fg rgC lf_X9_readNumber a0 ah) : Sg gpI rgC lf_X9_readNumber a0 (G_X9_readNumber_100 N ah v2) := by
  unfold G_X9_readNumber_100
  refine Sg.b (gb_X9_refuse Fg.rf) hah rfl (fun r103 a103 ha103 => ?_)
  exact Sg.ret ha103
theorem gb_X9_readNumber_89 {a0 : IH} {N : Nat} {ah : IH} {v1 : Int} {v2 : Int} {v3 : Int}  (hah : Fg rgC lf_X9_readNumber a0 ah) : Sg gpI rgC lf_X9_readNumber a0 (G_X9_readNumber_89 N ah v1 v2 v3) := by
  unfold G_X9_readNumber_89
  refine Sg.ite ?_ ?_
  · exact gb_X9_readNumber_100 hah
  · refine Sg.ite ?_ ?_
    · exact Sg.ret hah
    · exact gb_X9_readNumber_100 hah
theorem gb_X9_readNumber_27 {a0 : IH} {N : Nat}  : ∀ (n : Nat) {ah : IH} {v1 : Int} {v2 : Int} {v3 : Int}  (hah : Fg rgC lf_X9_readNumber a0 ah), Sg gpI rgC lf_X9_readNumber a0 (G_X9_readNumber_27 N n ah v1 v2 v3) := by
  intro n
  induction n with
  | zero => intros; exact Sg.none
  | succ n ih =>
    intro ah v1 v2 v3  hah
    unfold G_X9_readNumber_27
    refine Sg.ite ?_ ?_
    · exact gb_X9_readNumber_89 hah
    · refine Sg.g (fun _ => ?_)
      refine Sg.b (gb_X11_isDigit Fg.rf) hah rfl (fun r47 a47 ha47 => ?_)
      refine Sg.ite ?_ ?_
      · exact gb_X9_readNumber_89 ha47
      · refine Sg.g (fun _ => ?_)
        refine Sg.let_v (fun v3_75 => ?_)
        refine Sg.let_xu ha47 rfl (fun a83 ha83 => ?_)
        exact ih ha83
theorem gb_X9_readNumber {a0 : IH} {N : Nat} {ah : IH} {p1 : Int}  (hah : Fg rgC lf_X9_readNumber a0 ah) : Sg gpI rgC lf_X9_readNumber a0 (G_X9_readNumber N ah p1) := by
  unfold G_X9_readNumber
  refine Sg.let_v (fun v2_4 => ?_)
  refine Sg.b (gb_X9_peek Fg.rf) hah rfl (fun r7 a7 ha7 => ?_)
  refine Sg.b (gb_X11_isDigit Fg.rf) ha7 rfl (fun r10 a10 ha10 => ?_)
  refine Sg.ite ?_ ?_
  · refine Sg.b (gb_X9_refuse Fg.rf) ha10 rfl (fun r19 a19 ha19 => ?_)
    exact Sg.ret ha19
  · refine Sg.let_v (fun v3_26 => ?_)
    exact gb_X9_readNumber_27 _ ha10
theorem gb_X9_skipBlanks_0 {a0 : IH} {N : Nat}  : ∀ (n : Nat) {ah : IH}  (hah : Fg rgC lf_X9_skipBlanks a0 ah), Sg gpV rgC lf_X9_skipBlanks a0 (G_X9_skipBlanks_0 N n ah) := by
  intro n
  induction n with
  | zero => intros; exact Sg.none
  | succ n ih =>
    intro ah  hah
    unfold G_X9_skipBlanks_0
    refine Sg.ite ?_ ?_
    · exact Sg.ret hah
    · refine Sg.g (fun _ => ?_)
      refine Sg.ite ?_ ?_
      · refine Sg.let_xu hah rfl (fun a32 ha32 => ?_)
        exact ih ha32
      · exact Sg.ret hah
theorem gb_X9_skipBlanks {a0 : IH} {N : Nat} {ah : IH}  (hah : Fg rgC lf_X9_skipBlanks a0 ah) : Sg gpV rgC lf_X9_skipBlanks a0 (G_X9_skipBlanks N ah) := by
  unfold G_X9_skipBlanks
  exact gb_X9_skipBlanks_0 _ hah
theorem gb_X9_readEnding_22 {a0 : IH} {N : Nat} {ah : IH} {v2 : Int}  (hah : Fg rgC lf_X9_readEnding a0 ah) : Sg gpI rgC lf_X9_readEnding a0 (G_X9_readEnding_22 N ah v2) := by
  unfold G_X9_readEnding_22
  refine Sg.b (gb_X9_readNumber Fg.rf) hah rfl (fun r24 a24 ha24 => ?_)
  refine Sg.let_v (fun v3_27 => ?_)
  refine Sg.ite ?_ ?_
  · exact Sg.ret ha24
  · refine Sg.bv (gb_X9_skipBlanks Fg.rf) ha24 rfl (fun a36 ha36 => ?_)
    exact gb_X9_readEnding_39 ha36
theorem gb_X9_readEnding {a0 : IH} {N : Nat} {ah : IH} {p1 : Int} {p2 : Int}  (hah : Fg rgC lf_X9_readEnding a0 ah) : Sg gpI rgC lf_X9_readEnding a0 (G_X9_readEnding N ah p1 p2) := by
  unfold G_X9_readEnding
  refine Sg.bv (gb_X9_skipBlanks Fg.rf) hah rfl (fun a1 ha1 => ?_)
  refine Sg.let_v (fun v3_5 => ?_)
  refine Sg.ite ?_ ?_
  · exact gb_X9_readEnding_22 ha1
  · refine Sg.b (gb_X9_peek Fg.rf) ha1 rfl (fun r13 a13 ha13 => ?_)
    refine Sg.b (gb_X11_isDigit Fg.rf) ha13 rfl (fun r16 a16 ha16 => ?_)
    refine Sg.ite ?_ ?_
    · exact gb_X9_readEnding_39 ha16
    · exact gb_X9_readEnding_22 ha16
theorem gb_X2_readEntry {a0 : IH} {N : Nat} {ah : IH}  (hah : Fg rgC lf_X2_readEntry a0 ah) : Sg gpI rgC lf_X2_readEntry a0 (G_X2_readEntry N ah) := by
  unfold G_X2_readEntry
  refine Sg.let_v (fun v2_4 => ?_)
  refine Sg.b (gb_X9_peek Fg.rf) hah rfl (fun r7 a7 ha7 => ?_)
  refine Sg.b (gb_X11_isLetter Fg.rf) ha7 rfl (fun r10 a10 ha10 => ?_)
  refine Sg.ite ?_ ?_
  · refine Sg.b (gb_X9_refuse Fg.rf) ha10 rfl (fun r19 a19 ha19 => ?_)
    refine Sg.bo ?_
    exact Sg.ret ha19
  · refine Sg.ite ?_ ?_
    · refine Sg.b (gb_X2_passWord Fg.rf) ha10 rfl (fun r46 a46 ha46 => ?_)
      refine Sg.ite ?_ ?_
      · exact Sg.ret ha46
      · refine Sg.let_v (fun v3_60 => ?_)
        refine Sg.b (gb_X2_look_3 Fg.rf) ha46 rfl (fun r68 a68 ha68 => ?_)
        refine Sg.ite ?_ ?_
        · refine Sg.b (gb_X2_isFresh_3 Fg.rf) ha68 rfl (fun r82 a82 ha82 => ?_)
          refine Sg.ite ?_ ?_
          · refine Sg.b (gb_X9_readEnding Fg.rf) ha82 rfl (fun r98 a98 ha98 => ?_)
            refine Sg.let_v (fun v4_101 => ?_)
            refine Sg.ite ?_ ?_
            · exact Sg.ret ha98
            · refine Sg.g (fun _ => ?_)
              refine Sg.let_xu ha98 rfl (fun a120 ha120 => ?_)
              refine Sg.g (fun _ => ?_)
              refine Sg.let_xu ha120 rfl (fun a130 ha130 => ?_)
              refine Sg.g (fun _ => ?_)
              refine Sg.let_xu ha130 rfl (fun a141 ha141 => ?_)
              refine Sg.let_xu ha141 rfl (fun a149 ha149 => ?_)
              exact Sg.ret ha149
          · exact gb_X2_readEntry_88 ha82
        · exact gb_X2_readEntry_88 ha68
    · refine Sg.b (gb_X9_refuse Fg.rf) ha10 rfl (fun r40 a40 ha40 => ?_)
      refine Sg.bo ?_
      exact Sg.ret ha40
theorem gb_X9_atEnd {a0 : IH} {N : Nat} {ah : IH}  (hah : Fg rgC lf_X9_atEnd a0 ah) : Sg gpI rgC lf_X9_atEnd a0 (G_X9_atEnd N ah) := by
  unfold G_X9_atEnd
  refine Sg.ite ?_ ?_
  · exact Sg.ret hah
  · exact Sg.ret hah
theorem gb_X2_readText_7 {a0 : IH} {N : Nat}  : ∀ (n : Nat) {ah : IH} {v2 : Int}  (hah : Fg rgC lf_X2_readText a0 ah), Sg gpI rgC lf_X2_readText a0 (G_X2_readText_7 N n ah v2) := by
  intro n
  induction n with
  | zero => intros; exact Sg.none
  | succ n ih =>
    intro ah v2  hah
    unfold G_X2_readText_7
    refine Sg.ite ?_ ?_
    · exact Sg.ret hah
    · refine Sg.bv (gb_X9_skipBlanks Fg.rf) hah rfl (fun a14 ha14 => ?_)
      refine Sg.b (gb_X9_atEnd Fg.rf) ha14 rfl (fun r18 a18 ha18 => ?_)
      refine Sg.ite ?_ ?_
      · refine Sg.b (gb_X2_readEntry Fg.rf) ha18 rfl (fun r36 a36 ha36 => ?_)
        refine Sg.ite ?_ ?_
        · exact Sg.ret ha36
        · refine Sg.let_v (fun v2_44 => ?_)
          exact ih ha36
      · refine Sg.bv (gb_X2_addFresh_3 Fg.rf) ha18 rfl (fun a29 ha29 => ?_)
        exact Sg.ret ha29
theorem gb_X2_readText {a0 : IH} {N : Nat} {ah : IH}  (hah : Fg rgC lf_X2_readText a0 ah) : Sg gpI rgC lf_X2_readText a0 (G_X2_readText N ah) := by
  unfold G_X2_readText
  refine Sg.let_xu hah rfl (fun a2 ha2 => ?_)
  refine Sg.let_v (fun v2_6 => ?_)
  exact gb_X2_readText_7 _ ha2
theorem gb_X9_begin {a0 : IH} {N : Nat} {ah : IH} {p1 : Int}  (hah : Fg rgC lf_X9_begin a0 ah) : Sg gpV rgC lf_X9_begin a0 (G_X9_begin N ah p1) := by
  unfold G_X9_begin
  refine Sg.let_xu hah rfl (fun a2 ha2 => ?_)
  refine Sg.let_xu ha2 rfl (fun a7 ha7 => ?_)
  refine Sg.let_xu ha7 rfl (fun a12 ha12 => ?_)
  refine Sg.let_xu ha12 rfl (fun a17 ha17 => ?_)
  exact Sg.ret ha17
theorem gb_X11_lexicon {a0 : IH} {N : Nat} {ah : IH} {p1 : Int}  (hah : Fg rgC lf_X11_lexicon a0 ah) : Sg gpX rgC lf_X11_lexicon a0 (G_X11_lexicon N ah p1) := by
  unfold G_X11_lexicon
  refine Sg.bx (gb_X11_needBetween Fg.rf) hah rfl (fun a10 ha10 => ?_)
  refine Sg.bv (gb_X9_begin Fg.rf) ha10 rfl (fun a18 ha18 => ?_)
  refine Sg.b (gb_X2_readText Fg.rf) ha18 rfl (fun r29 a29 ha29 => ?_)
  refine Sg.ite ?_ ?_
  · exact gb_X11_lexicon_39 ha29
  · refine Sg.bv (gb_X11_changed Fg.rf) ha29 rfl (fun a36 ha36 => ?_)
    exact gb_X11_lexicon_39 ha36
theorem gb_X11_shapes_59 {a0 : IH} {N : Nat} {ah : IH}  (hah : Fg rgC lf_X11_shapes a0 ah) : Sg gpX rgC lf_X11_shapes a0 (G_X11_shapes_59 N ah) := by
  unfold G_X11_shapes_59
  refine Sg.b (gb_X9_finish Fg.rf) hah rfl (fun r70 a70 ha70 => ?_)
  exact Sg.ret ha70
theorem gb_X8_partsAlike_25_19 {a0 : IH} {N : Nat}  : ∀ (n : Nat) {ah : IH} {v1 : Int}  (hah : Fg rgC lf_X8_partsAlike_19 a0 ah), Sg gpI rgC lf_X8_partsAlike_19 a0 (G_X8_partsAlike_25 N 19 n ah v1) := by
  intro n
  induction n with
  | zero => intros; exact Sg.none
  | succ n ih =>
    intro ah v1  hah
    unfold G_X8_partsAlike_25
    refine Sg.g (fun _ => ?_)
    refine Sg.ite ?_ ?_
    · exact Sg.ret hah
    · refine Sg.g (fun _ => ?_)
      refine Sg.g (fun _ => ?_)
      refine Sg.ite ?_ ?_
      · refine Sg.let_v (fun v1_69 => ?_)
        exact ih hah
      · exact Sg.ret hah
theorem gb_X8_partsAlike_19 {a0 : IH} {N : Nat} {ah : IH}  (hah : Fg rgC lf_X8_partsAlike_19 a0 ah) : Sg gpI rgC lf_X8_partsAlike_19 a0 (G_X8_partsAlike N 19 ah) := by
  unfold G_X8_partsAlike
  refine Sg.g (fun _ => ?_)
  refine Sg.g (fun _ => ?_)
  refine Sg.ite ?_ ?_
  · refine Sg.let_v (fun v1_24 => ?_)
    exact gb_X8_partsAlike_25_19 _ hah
  · exact Sg.ret hah
theorem gb_X8_readPart_2_19_23 {a0 : IH} {N : Nat}  : ∀ (n : Nat) {ah : IH} {v3 : Int}  (hah : Fg rgC lf_X8_readPart_19_23 a0 ah), Sg gpI rgC lf_X8_readPart_19_23 a0 (G_X8_readPart_2 N 19 23 n ah v3) := by
  intro n
  induction n with
  | zero => intros; exact Sg.none
  | succ n ih =>
    intro ah v3  hah
    unfold G_X8_readPart_2
    refine Sg.ite ?_ ?_
    · exact Sg.ret hah
    · refine Sg.b (gb_X9_peek Fg.rf) hah rfl (fun r9 a9 ha9 => ?_)
      refine Sg.b (gb_X11_isLetter Fg.rf) ha9 rfl (fun r12 a12 ha12 => ?_)
      refine Sg.ite ?_ ?_
      · refine Sg.ite ?_ ?_
        · refine Sg.b (gb_X9_refuse Fg.rf) ha12 rfl (fun r30 a30 ha30 => ?_)
          exact Sg.ret ha30
        · exact Sg.ret ha12
      · refine Sg.ite ?_ ?_
        · refine Sg.b (gb_X9_refuse Fg.rf) ha12 rfl (fun r47 a47 ha47 => ?_)
          exact Sg.ret ha47
        · refine Sg.b (gb_X9_peek Fg.rf) ha12 rfl (fun r64 a64 ha64 => ?_)
          refine Sg.g (fun _ => ?_)
          refine Sg.let_xu ha64 rfl (fun a67 ha67 => ?_)
          refine Sg.let_xu ha67 rfl (fun a75 ha75 => ?_)
          refine Sg.let_v (fun v3_78 => ?_)
          exact ih ha75
theorem gb_X8_readPart_19_23 {a0 : IH} {N : Nat} {ah : IH}  (hah : Fg rgC lf_X8_readPart_19_23 a0 ah) : Sg gpI rgC lf_X8_readPart_19_23 a0 (G_X8_readPart N 19 23 ah) := by
  unfold G_X8_readPart
  refine Sg.let_v (fun v3_1 => ?_)
  exact gb_X8_readPart_2_19_23 _ hah
theorem gb_X8_readPart_2_19_24 {a0 : IH} {N : Nat}  : ∀ (n : Nat) {ah : IH} {v3 : Int}  (hah : Fg rgC lf_X8_readPart_19_24 a0 ah), Sg gpI rgC lf_X8_readPart_19_24 a0 (G_X8_readPart_2 N 19 24 n ah v3) := by
  intro n
  induction n with
  | zero => intros; exact Sg.none
  | succ n ih =>
    intro ah v3  hah
    unfold G_X8_readPart_2
    refine Sg.ite ?_ ?_
    · exact Sg.ret hah
    · refine Sg.b (gb_X9_peek Fg.rf) hah rfl (fun r9 a9 ha9 => ?_)
      refine Sg.b (gb_X11_isLetter Fg.rf) ha9 rfl (fun r12 a12 ha12 => ?_)
      refine Sg.ite ?_ ?_
      · refine Sg.ite ?_ ?_
        · refine Sg.b (gb_X9_refuse Fg.rf) ha12 rfl (fun r30 a30 ha30 => ?_)
          exact Sg.ret ha30
        · exact Sg.ret ha12
      · refine Sg.ite ?_ ?_
        · refine Sg.b (gb_X9_refuse Fg.rf) ha12 rfl (fun r47 a47 ha47 => ?_)
          exact Sg.ret ha47
        · refine Sg.b (gb_X9_peek Fg.rf) ha12 rfl (fun r64 a64 ha64 => ?_)
          refine Sg.g (fun _ => ?_)
          refine Sg.let_xu ha64 rfl (fun a67 ha67 => ?_)
          refine Sg.let_xu ha67 rfl (fun a75 ha75 => ?_)
          refine Sg.let_v (fun v3_78 => ?_)
          exact ih ha75
theorem gb_X8_readPart_19_24 {a0 : IH} {N : Nat} {ah : IH}  (hah : Fg rgC lf_X8_readPart_19_24 a0 ah) : Sg gpI rgC lf_X8_readPart_19_24 a0 (G_X8_readPart N 19 24 ah) := by
  unfold G_X8_readPart
  refine Sg.let_v (fun v3_1 => ?_)
  exact gb_X8_readPart_2_19_24 _ hah
theorem gb_X8_readEntry_19 {a0 : IH} {N : Nat} {ah : IH}  (hah : Fg rgC lf_X8_readEntry_19 a0 ah) : Sg gpI rgC lf_X8_readEntry_19 a0 (G_X8_readEntry N 19 ah) := by
  unfold G_X8_readEntry
  refine Sg.b (gb_X9_peek Fg.rf) hah rfl (fun r2 a2 ha2 => ?_)
  refine Sg.b (gb_X11_isLetter Fg.rf) ha2 rfl (fun r5 a5 ha5 => ?_)
  refine Sg.ite ?_ ?_
  · refine Sg.b (gb_X9_refuse Fg.rf) ha5 rfl (fun r17 a17 ha17 => ?_)
    refine Sg.bo ?_
    exact Sg.ret ha17
  · refine Sg.ite ?_ ?_
    · refine Sg.b (gb_X8_readPart_19_23 Fg.rf) ha5 rfl (fun r54 a54 ha54 => ?_)
      refine Sg.g (fun _ => ?_)
      refine Sg.let_xu ha54 rfl (fun a57 ha57 => ?_)
      refine Sg.g (fun _ => ?_)
      refine Sg.ite ?_ ?_
      · exact Sg.ret ha57
      · refine Sg.b (gb_X9_peek Fg.rf) ha57 rfl (fun r75 a75 ha75 => ?_)
        refine Sg.ite ?_ ?_
        · refine Sg.let_xu ha75 rfl (fun a100 ha100 => ?_)
          refine Sg.bv (gb_X9_skipBlanks Fg.rf) ha100 rfl (fun a104 ha104 => ?_)
          refine Sg.let_v (fun v2_111 => ?_)
          refine Sg.b (gb_X8_readPart_19_24 Fg.rf) ha104 rfl (fun r126 a126 ha126 => ?_)
          refine Sg.g (fun _ => ?_)
          refine Sg.let_xu ha126 rfl (fun a129 ha129 => ?_)
          refine Sg.g (fun _ => ?_)
          refine Sg.ite ?_ ?_
          · exact Sg.ret ha129
          · refine Sg.b (gb_X8_partsAlike_19 Fg.rf) ha129 rfl (fun r146 a146 ha146 => ?_)
            refine Sg.ite ?_ ?_
            · refine Sg.b (gb_X9_readEnding Fg.rf) ha146 rfl (fun r170 a170 ha170 => ?_)
              refine Sg.g (fun _ => ?_)
              refine Sg.let_xu ha170 rfl (fun a173 ha173 => ?_)
              refine Sg.g (fun _ => ?_)
              refine Sg.ite ?_ ?_
              · exact Sg.ret ha173
              · refine Sg.let_xu ha173 rfl (fun a196 ha196 => ?_)
                exact Sg.ret ha196
            · refine Sg.b (gb_X9_refuse Fg.rf) ha146 rfl (fun r155 a155 ha155 => ?_)
              refine Sg.bo ?_
              exact Sg.ret ha155
        · refine Sg.b (gb_X9_refuse Fg.rf) ha75 rfl (fun r89 a89 ha89 => ?_)
          refine Sg.bo ?_
          exact Sg.ret ha89
    · refine Sg.b (gb_X9_refuse Fg.rf) ha5 rfl (fun r36 a36 ha36 => ?_)
      refine Sg.bo ?_
      exact Sg.ret ha36
theorem gb_X8_readText_7_19 {a0 : IH} {N : Nat}  : ∀ (n : Nat) {ah : IH} {v2 : Int}  (hah : Fg rgC lf_X8_readText_19 a0 ah), Sg gpI rgC lf_X8_readText_19 a0 (G_X8_readText_7 N 19 n ah v2) := by
  intro n
  induction n with
  | zero => intros; exact Sg.none
  | succ n ih =>
    intro ah v2  hah
    unfold G_X8_readText_7
    refine Sg.ite ?_ ?_
    · exact Sg.ret hah
    · refine Sg.bv (gb_X9_skipBlanks Fg.rf) hah rfl (fun a14 ha14 => ?_)
      refine Sg.b (gb_X9_atEnd Fg.rf) ha14 rfl (fun r18 a18 ha18 => ?_)
      refine Sg.ite ?_ ?_
      · refine Sg.b (gb_X8_readEntry_19 Fg.rf) ha18 rfl (fun r28 a28 ha28 => ?_)
        refine Sg.ite ?_ ?_
        · exact Sg.ret ha28
        · refine Sg.let_v (fun v2_36 => ?_)
          exact ih ha28
      · exact Sg.ret ha18
theorem gb_X8_readText_19 {a0 : IH} {N : Nat} {ah : IH}  (hah : Fg rgC lf_X8_readText_19 a0 ah) : Sg gpI rgC lf_X8_readText_19 a0 (G_X8_readText N 19 ah) := by
  unfold G_X8_readText
  refine Sg.let_xu hah rfl (fun a2 ha2 => ?_)
  refine Sg.let_v (fun v2_6 => ?_)
  exact gb_X8_readText_7_19 _ ha2
theorem gb_X8_partsAlike_25_25 {a0 : IH} {N : Nat}  : ∀ (n : Nat) {ah : IH} {v1 : Int}  (hah : Fg rgC lf_X8_partsAlike_25 a0 ah), Sg gpI rgC lf_X8_partsAlike_25 a0 (G_X8_partsAlike_25 N 25 n ah v1) := by
  intro n
  induction n with
  | zero => intros; exact Sg.none
  | succ n ih =>
    intro ah v1  hah
    unfold G_X8_partsAlike_25
    refine Sg.g (fun _ => ?_)
    refine Sg.ite ?_ ?_
    · exact Sg.ret hah
    · refine Sg.g (fun _ => ?_)
      refine Sg.g (fun _ => ?_)
      refine Sg.ite ?_ ?_
      · refine Sg.let_v (fun v1_69 => ?_)
        exact ih hah
      · exact Sg.ret hah
theorem gb_X8_partsAlike_25 {a0 : IH} {N : Nat} {ah : IH}  (hah : Fg rgC lf_X8_partsAlike_25 a0 ah) : Sg gpI rgC lf_X8_partsAlike_25 a0 (G_X8_partsAlike N 25 ah) := by
  unfold G_X8_partsAlike
  refine Sg.g (fun _ => ?_)
  refine Sg.g (fun _ => ?_)
  refine Sg.ite ?_ ?_
  · refine Sg.let_v (fun v1_24 => ?_)
    exact gb_X8_partsAlike_25_25 _ hah
  · exact Sg.ret hah
theorem gb_X8_readPart_2_25_30 {a0 : IH} {N : Nat}  : ∀ (n : Nat) {ah : IH} {v3 : Int}  (hah : Fg rgC lf_X8_readPart_25_30 a0 ah), Sg gpI rgC lf_X8_readPart_25_30 a0 (G_X8_readPart_2 N 25 30 n ah v3) := by
  intro n
  induction n with
  | zero => intros; exact Sg.none
  | succ n ih =>
    intro ah v3  hah
    unfold G_X8_readPart_2
    refine Sg.ite ?_ ?_
    · exact Sg.ret hah
    · refine Sg.b (gb_X9_peek Fg.rf) hah rfl (fun r9 a9 ha9 => ?_)
      refine Sg.b (gb_X11_isLetter Fg.rf) ha9 rfl (fun r12 a12 ha12 => ?_)
      refine Sg.ite ?_ ?_
      · refine Sg.ite ?_ ?_
        · refine Sg.b (gb_X9_refuse Fg.rf) ha12 rfl (fun r30 a30 ha30 => ?_)
          exact Sg.ret ha30
        · exact Sg.ret ha12
      · refine Sg.ite ?_ ?_
        · refine Sg.b (gb_X9_refuse Fg.rf) ha12 rfl (fun r47 a47 ha47 => ?_)
          exact Sg.ret ha47
        · refine Sg.b (gb_X9_peek Fg.rf) ha12 rfl (fun r64 a64 ha64 => ?_)
          refine Sg.g (fun _ => ?_)
          refine Sg.let_xu ha64 rfl (fun a67 ha67 => ?_)
          refine Sg.let_xu ha67 rfl (fun a75 ha75 => ?_)
          refine Sg.let_v (fun v3_78 => ?_)
          exact ih ha75
theorem gb_X8_readPart_25_30 {a0 : IH} {N : Nat} {ah : IH}  (hah : Fg rgC lf_X8_readPart_25_30 a0 ah) : Sg gpI rgC lf_X8_readPart_25_30 a0 (G_X8_readPart N 25 30 ah) := by
  unfold G_X8_readPart
  refine Sg.let_v (fun v3_1 => ?_)
  exact gb_X8_readPart_2_25_30 _ hah
theorem gb_X8_readPart_2_25_29 {a0 : IH} {N : Nat}  : ∀ (n : Nat) {ah : IH} {v3 : Int}  (hah : Fg rgC lf_X8_readPart_25_29 a0 ah), Sg gpI rgC lf_X8_readPart_25_29 a0 (G_X8_readPart_2 N 25 29 n ah v3) := by
  intro n
  induction n with
  | zero => intros; exact Sg.none
  | succ n ih =>
    intro ah v3  hah
    unfold G_X8_readPart_2
    refine Sg.ite ?_ ?_
    · exact Sg.ret hah
    · refine Sg.b (gb_X9_peek Fg.rf) hah rfl (fun r9 a9 ha9 => ?_)
      refine Sg.b (gb_X11_isLetter Fg.rf) ha9 rfl (fun r12 a12 ha12 => ?_)
      refine Sg.ite ?_ ?_
      · refine Sg.ite ?_ ?_
        · refine Sg.b (gb_X9_refuse Fg.rf) ha12 rfl (fun r30 a30 ha30 => ?_)
          exact Sg.ret ha30
        · exact Sg.ret ha12
      · refine Sg.ite ?_ ?_
        · refine Sg.b (gb_X9_refuse Fg.rf) ha12 rfl (fun r47 a47 ha47 => ?_)
          exact Sg.ret ha47
        · refine Sg.b (gb_X9_peek Fg.rf) ha12 rfl (fun r64 a64 ha64 => ?_)
          refine Sg.g (fun _ => ?_)
          refine Sg.let_xu ha64 rfl (fun a67 ha67 => ?_)
          refine Sg.let_xu ha67 rfl (fun a75 ha75 => ?_)
          refine Sg.let_v (fun v3_78 => ?_)
          exact ih ha75
theorem gb_X8_readPart_25_29 {a0 : IH} {N : Nat} {ah : IH}  (hah : Fg rgC lf_X8_readPart_25_29 a0 ah) : Sg gpI rgC lf_X8_readPart_25_29 a0 (G_X8_readPart N 25 29 ah) := by
  unfold G_X8_readPart
  refine Sg.let_v (fun v3_1 => ?_)
  exact gb_X8_readPart_2_25_29 _ hah
theorem gb_X8_readEntry_25 {a0 : IH} {N : Nat} {ah : IH}  (hah : Fg rgC lf_X8_readEntry_25 a0 ah) : Sg gpI rgC lf_X8_readEntry_25 a0 (G_X8_readEntry N 25 ah) := by
  unfold G_X8_readEntry
  refine Sg.b (gb_X9_peek Fg.rf) hah rfl (fun r2 a2 ha2 => ?_)
  refine Sg.b (gb_X11_isLetter Fg.rf) ha2 rfl (fun r5 a5 ha5 => ?_)
  refine Sg.ite ?_ ?_
  · refine Sg.b (gb_X9_refuse Fg.rf) ha5 rfl (fun r17 a17 ha17 => ?_)
    refine Sg.bo ?_
    exact Sg.ret ha17
  · refine Sg.ite ?_ ?_
    · refine Sg.b (gb_X8_readPart_25_29 Fg.rf) ha5 rfl (fun r54 a54 ha54 => ?_)
      refine Sg.g (fun _ => ?_)
      refine Sg.let_xu ha54 rfl (fun a57 ha57 => ?_)
      refine Sg.g (fun _ => ?_)
      refine Sg.ite ?_ ?_
      · exact Sg.ret ha57
      · refine Sg.b (gb_X9_peek Fg.rf) ha57 rfl (fun r75 a75 ha75 => ?_)
        refine Sg.ite ?_ ?_
        · refine Sg.let_xu ha75 rfl (fun a100 ha100 => ?_)
          refine Sg.bv (gb_X9_skipBlanks Fg.rf) ha100 rfl (fun a104 ha104 => ?_)
          refine Sg.let_v (fun v2_111 => ?_)
          refine Sg.b (gb_X8_readPart_25_30 Fg.rf) ha104 rfl (fun r126 a126 ha126 => ?_)
          refine Sg.g (fun _ => ?_)
          refine Sg.let_xu ha126 rfl (fun a129 ha129 => ?_)
          refine Sg.g (fun _ => ?_)
          refine Sg.ite ?_ ?_
          · exact Sg.ret ha129
          · refine Sg.b (gb_X8_partsAlike_25 Fg.rf) ha129 rfl (fun r146 a146 ha146 => ?_)
            refine Sg.ite ?_ ?_
            · refine Sg.b (gb_X9_readEnding Fg.rf) ha146 rfl (fun r170 a170 ha170 => ?_)
              refine Sg.g (fun _ => ?_)
              refine Sg.let_xu ha170 rfl (fun a173 ha173 => ?_)
              refine Sg.g (fun _ => ?_)
              refine Sg.ite ?_ ?_
              · exact Sg.ret ha173
              · refine Sg.let_xu ha173 rfl (fun a196 ha196 => ?_)
                exact Sg.ret ha196
            · refine Sg.b (gb_X9_refuse Fg.rf) ha146 rfl (fun r155 a155 ha155 => ?_)
              refine Sg.bo ?_
              exact Sg.ret ha155
        · refine Sg.b (gb_X9_refuse Fg.rf) ha75 rfl (fun r89 a89 ha89 => ?_)
          refine Sg.bo ?_
          exact Sg.ret ha89
    · refine Sg.b (gb_X9_refuse Fg.rf) ha5 rfl (fun r36 a36 ha36 => ?_)
      refine Sg.bo ?_
      exact Sg.ret ha36
theorem gb_X8_readText_7_25 {a0 : IH} {N : Nat}  : ∀ (n : Nat) {ah : IH} {v2 : Int}  (hah : Fg rgC lf_X8_readText_25 a0 ah), Sg gpI rgC lf_X8_readText_25 a0 (G_X8_readText_7 N 25 n ah v2) := by
  intro n
  induction n with
  | zero => intros; exact Sg.none
  | succ n ih =>
    intro ah v2  hah
    unfold G_X8_readText_7
    refine Sg.ite ?_ ?_
    · exact Sg.ret hah
    · refine Sg.bv (gb_X9_skipBlanks Fg.rf) hah rfl (fun a14 ha14 => ?_)
      refine Sg.b (gb_X9_atEnd Fg.rf) ha14 rfl (fun r18 a18 ha18 => ?_)
      refine Sg.ite ?_ ?_
      · refine Sg.b (gb_X8_readEntry_25 Fg.rf) ha18 rfl (fun r28 a28 ha28 => ?_)
        refine Sg.ite ?_ ?_
        · exact Sg.ret ha28
        · refine Sg.let_v (fun v2_36 => ?_)
          exact ih ha28
      · exact Sg.ret ha18
theorem gb_X8_readText_25 {a0 : IH} {N : Nat} {ah : IH}  (hah : Fg rgC lf_X8_readText_25 a0 ah) : Sg gpI rgC lf_X8_readText_25 a0 (G_X8_readText N 25 ah) := by
  unfold G_X8_readText
  refine Sg.let_xu hah rfl (fun a2 ha2 => ?_)
  refine Sg.let_v (fun v2_6 => ?_)
  exact gb_X8_readText_7_25 _ ha2
theorem gb_X11_shapes {a0 : IH} {N : Nat} {ah : IH} {p1 : Int}  (hah : Fg rgC lf_X11_shapes a0 ah) : Sg gpX rgC lf_X11_shapes a0 (G_X11_shapes N ah p1) := by
  unfold G_X11_shapes
  refine Sg.bx (gb_X11_needBetween Fg.rf) hah rfl (fun a10 ha10 => ?_)
  refine Sg.bv (gb_X9_begin Fg.rf) ha10 rfl (fun a18 ha18 => ?_)
  refine Sg.b (gb_X8_readText_25 Fg.rf) ha18 rfl (fun r29 a29 ha29 => ?_)
  refine Sg.ite ?_ ?_
  · exact gb_X11_shapes_59 ha29
  · refine Sg.bv (gb_X9_begin Fg.rf) ha29 rfl (fun a40 ha40 => ?_)
    refine Sg.b (gb_X8_readText_19 Fg.rf) ha40 rfl (fun r51 a51 ha51 => ?_)
    refine Sg.bv (gb_X11_changed Fg.rf) ha51 rfl (fun a56 ha56 => ?_)
    exact gb_X11_shapes_59 ha56
theorem gb_X11_reading_59 {a0 : IH} {N : Nat} {ah : IH}  (hah : Fg rgC lf_X11_reading a0 ah) : Sg gpX rgC lf_X11_reading a0 (G_X11_reading_59 N ah) := by
  unfold G_X11_reading_59
  refine Sg.b (gb_X9_finish Fg.rf) hah rfl (fun r70 a70 ha70 => ?_)
  exact Sg.ret ha70
theorem gb_X5_isGap_12_31 {a0 : IH} {N : Nat} {ah : IH}  (hah : Fg rgC lf_X5_isGap_31 a0 ah) : Sg gpI rgC lf_X5_isGap_31 a0 (G_X5_isGap_12 N 31 ah) := by
  unfold G_X5_isGap_12
  exact Sg.ret hah
theorem gb_X5_isGap_31 {a0 : IH} {N : Nat} {ah : IH} {p1 : Int}  (hah : Fg rgC lf_X5_isGap_31 a0 ah) : Sg gpI rgC lf_X5_isGap_31 a0 (G_X5_isGap N 31 ah p1) := by
  unfold G_X5_isGap
  refine Sg.ite ?_ ?_
  · exact gb_X5_isGap_12_31 hah
  · refine Sg.ite ?_ ?_
    · exact gb_X5_isGap_12_31 hah
    · exact Sg.ret hah
theorem gb_X5_readGap_42_31 {a0 : IH} {N : Nat} {k4 : IH → Int → Int → Option IH} {ah : IH} {v2 : Int} {v3 : Int} (hk4 : ∀ {z0 : IH} {z1 : Int} {z2 : Int}, Fg rgC lf_X5_readGap_31 a0 z0 → Sg gpV rgC lf_X5_readGap_31 a0 (k4 z0 z1 z2)) (hah : Fg rgC lf_X5_readGap_31 a0 ah) : Sg gpV rgC lf_X5_readGap_31 a0 (G_X5_readGap_42 N 31 k4 ah v2 v3) := by
  unfold G_X5_readGap_42
  refine Sg.let_xu hah rfl (fun a49 ha49 => ?_)
  exact hk4 ha49
theorem gb_X5_readGap_123_31 {a0 : IH} {N : Nat} {ah : IH} {s1 : Int} {s2 : Int}  (hah : Fg rgC lf_X5_readGap_31 a0 ah) : Sg gpV rgC lf_X5_readGap_31 a0 (G_X5_readGap_123 N 31 ah s1 s2) := by
  unfold G_X5_readGap_123
  refine Sg.g (fun _ => ?_)
  refine Sg.let_xu hah rfl (fun a123 ha123 => ?_)
  exact Sg.ret ha123
theorem gb_X5_readGap_122_31 {a0 : IH} {N : Nat} {ah : IH} {s1 : Int}  (hah : Fg rgC lf_X5_readGap_31 a0 ah) : Sg gpV rgC lf_X5_readGap_31 a0 (G_X5_readGap_122 N 31 ah s1) := by
  unfold G_X5_readGap_122
  exact gb_X5_readGap_123_31 hah
theorem gb_X5_readGap_91_31 {a0 : IH} {N : Nat} {ah : IH} {v2 : Int} {v3 : Int} {s1 : Int} {s2 : Int}  (hah : Fg rgC lf_X5_readGap_31 a0 ah) : Sg gpV rgC lf_X5_readGap_31 a0 (G_X5_readGap_91 N 31 ah v2 v3 s1 s2) := by
  unfold G_X5_readGap_91
  refine Sg.g (fun _ => ?_)
  refine Sg.let_xu hah rfl (fun a91 ha91 => ?_)
  refine Sg.ite ?_ ?_
  · refine Sg.ite ?_ ?_
    · refine Sg.b (gb_X9_atEnd Fg.rf) ha91 rfl (fun r112 a112 ha112 => ?_)
      refine Sg.ite ?_ ?_
      · exact gb_X5_readGap_123_31 ha112
      · exact gb_X5_readGap_122_31 ha112
    · exact gb_X5_readGap_122_31 ha91
  · exact gb_X5_readGap_122_31 ha91
theorem gb_X5_readGap_55_31 {a0 : IH} {N : Nat} {ah : IH} {v2 : Int} {v3 : Int}  (hah : Fg rgC lf_X5_readGap_31 a0 ah) : Sg gpV rgC lf_X5_readGap_31 a0 (G_X5_readGap_55 N 31 ah v2 v3) := by
  unfold G_X5_readGap_55
  refine Sg.let_xu hah rfl (fun a62 ha62 => ?_)
  refine Sg.ite ?_ ?_
  · exact Sg.ret ha62
  · refine Sg.ite ?_ ?_
    · exact gb_X5_readGap_91_31 ha62
    · exact gb_X5_readGap_91_31 ha62
theorem gb_X5_readGap_4_31 {a0 : IH} {N : Nat}  : ∀ (n : Nat) {ah : IH} {v2 : Int} {v3 : Int}  (hah : Fg rgC lf_X5_readGap_31 a0 ah), Sg gpV rgC lf_X5_readGap_31 a0 (G_X5_readGap_4 N 31 n ah v2 v3) := by
  intro n
  induction n with
  | zero => intros; exact Sg.none
  | succ n ih =>
    intro ah v2 v3  hah
    unfold G_X5_readGap_4
    refine Sg.b (gb_X9_atEnd Fg.rf) hah rfl (fun r5 a5 ha5 => ?_)
    refine Sg.ite ?_ ?_
    · refine Sg.b (gb_X9_peek Fg.rf) ha5 rfl (fun r14 a14 ha14 => ?_)
      refine Sg.b (gb_X5_isGap_31 Fg.rf) ha14 rfl (fun r17 a17 ha17 => ?_)
      refine Sg.ite ?_ ?_
      · exact gb_X5_readGap_55_31 ha17
      · refine Sg.b (gb_X9_peek Fg.rf) ha17 rfl (fun r25 a25 ha25 => ?_)
        refine Sg.ite ?_ ?_
        · refine Sg.let_v (fun v2_33 => ?_)
          exact gb_X5_readGap_42_31 (fun h => ih h) ha25
        · refine Sg.let_v (fun v3_39 => ?_)
          exact gb_X5_readGap_42_31 (fun h => ih h) ha25
    · exact gb_X5_readGap_55_31 ha5
theorem gb_X5_readGap_31 {a0 : IH} {N : Nat} {ah : IH}  (hah : Fg rgC lf_X5_readGap_31 a0 ah) : Sg gpV rgC lf_X5_readGap_31 a0 (G_X5_readGap N 31 ah) := by
  unfold G_X5_readGap
  refine Sg.let_v (fun v2_1 => ?_)
  refine Sg.let_v (fun v3_3 => ?_)
  exact gb_X5_readGap_4_31 _ hah
theorem gb_X5_beginsCell_19_31 {a0 : IH} {N : Nat} {ah : IH}  (hah : Fg rgC lf_X5_beginsCell_31 a0 ah) : Sg gpI rgC lf_X5_beginsCell_31 a0 (G_X5_beginsCell_19 N 31 ah) := by
  unfold G_X5_beginsCell_19
  exact Sg.ret hah
theorem gb_X5_beginsCell_31 {a0 : IH} {N : Nat} {ah : IH} {p1 : Int}  (hah : Fg rgC lf_X5_beginsCell_31 a0 ah) : Sg gpI rgC lf_X5_beginsCell_31 a0 (G_X5_beginsCell N 31 ah p1) := by
  unfold G_X5_beginsCell
  refine Sg.b (gb_X11_isLetter Fg.rf) hah rfl (fun r1 a1 ha1 => ?_)
  refine Sg.ite ?_ ?_
  · refine Sg.ite ?_ ?_
    · exact gb_X5_beginsCell_19_31 ha1
    · refine Sg.ite ?_ ?_
      · exact gb_X5_beginsCell_19_31 ha1
      · exact Sg.ret ha1
  · exact gb_X5_beginsCell_19_31 ha1
theorem gb_X5_isBreak_31_31 {a0 : IH} {N : Nat} {ah : IH}  (hah : Fg rgC lf_X5_isBreak_31 a0 ah) : Sg gpI rgC lf_X5_isBreak_31 a0 (G_X5_isBreak_31 N 31 ah) := by
  unfold G_X5_isBreak_31
  exact Sg.ret hah
theorem gb_X5_isBreak_31 {a0 : IH} {N : Nat} {ah : IH}  (hah : Fg rgC lf_X5_isBreak_31 a0 ah) : Sg gpI rgC lf_X5_isBreak_31 a0 (G_X5_isBreak N 31 ah) := by
  unfold G_X5_isBreak
  refine Sg.b (gb_X9_peek Fg.rf) hah rfl (fun r2 a2 ha2 => ?_)
  refine Sg.ite ?_ ?_
  · refine Sg.b (gb_X9_peek Fg.rf) ha2 rfl (fun r12 a12 ha12 => ?_)
    refine Sg.b (gb_X11_isLetter Fg.rf) ha12 rfl (fun r15 a15 ha15 => ?_)
    refine Sg.ite ?_ ?_
    · refine Sg.b (gb_X9_peek Fg.rf) ha15 rfl (fun r23 a23 ha23 => ?_)
      refine Sg.ite ?_ ?_
      · exact gb_X5_isBreak_31_31 ha23
      · exact Sg.ret ha23
    · exact gb_X5_isBreak_31_31 ha15
  · exact Sg.ret ha2
theorem gb_X5_readCell_116_31 {a0 : IH} {N : Nat} {ah : IH}  (hah : Fg rgC lf_X5_readCell_31 a0 ah) : Sg gpI rgC lf_X5_readCell_31 a0 (G_X5_readCell_116 N 31 ah) := by
  unfold G_X5_readCell_116
  exact Sg.ret hah
theorem gb_X5_readOthers_34_31 {a0 : IH} {N : Nat}  : ∀ (n : Nat) {ah : IH} {v2 : Int} {v3 : Int}  (hah : Fg rgC lf_X5_readOthers_31 a0 ah), Sg gpI rgC lf_X5_readOthers_31 a0 (G_X5_readOthers_34 N 31 n ah v2 v3) := by
  intro n
  induction n with
  | zero => intros; exact Sg.none
  | succ n ih =>
    intro ah v2 v3  hah
    unfold G_X5_readOthers_34
    refine Sg.ite ?_ ?_
    · exact Sg.ret hah
    · refine Sg.b (gb_X9_peek Fg.rf) hah rfl (fun r41 a41 ha41 => ?_)
      refine Sg.let_v (fun v4_44 => ?_)
      refine Sg.b (gb_X11_isLetter Fg.rf) ha41 rfl (fun r48 a48 ha48 => ?_)
      refine Sg.ite ?_ ?_
      · refine Sg.b (gb_X9_refuse Fg.rf) ha48 rfl (fun r60 a60 ha60 => ?_)
        refine Sg.bo ?_
        exact Sg.ret ha60
      · refine Sg.ite ?_ ?_
        · refine Sg.b (gb_X9_refuse Fg.rf) ha48 rfl (fun r75 a75 ha75 => ?_)
          refine Sg.bo ?_
          exact Sg.ret ha75
        · refine Sg.let_xu ha48 rfl (fun a86 ha86 => ?_)
          refine Sg.b (gb_X9_readNumber Fg.rf) ha86 rfl (fun r91 a91 ha91 => ?_)
          refine Sg.let_v (fun v5_94 => ?_)
          refine Sg.ite ?_ ?_
          · exact Sg.ret ha91
          · refine Sg.g (fun _ => ?_)
            refine Sg.let_xu ha91 rfl (fun a115 ha115 => ?_)
            refine Sg.g (fun _ => ?_)
            refine Sg.let_xu ha115 rfl (fun a127 ha127 => ?_)
            refine Sg.g (fun _ => ?_)
            refine Sg.let_xu ha127 rfl (fun a136 ha136 => ?_)
            refine Sg.b (gb_X9_peek Fg.rf) ha136 rfl (fun r139 a139 ha139 => ?_)
            refine Sg.ite ?_ ?_
            · refine Sg.let_xu ha139 rfl (fun a154 ha154 => ?_)
              exact Sg.ret ha154
            · refine Sg.b (gb_X9_peek Fg.rf) ha139 rfl (fun r161 a161 ha161 => ?_)
              refine Sg.ite ?_ ?_
              · refine Sg.bv (gb_X9_skipBlanks Fg.rf) ha161 rfl (fun a180 ha180 => ?_)
                refine Sg.let_v (fun v3_183 => ?_)
                exact ih ha180
              · refine Sg.b (gb_X9_refuse Fg.rf) ha161 rfl (fun r175 a175 ha175 => ?_)
                refine Sg.bo ?_
                exact Sg.ret ha175
theorem gb_X5_readOthers_31 {a0 : IH} {N : Nat} {ah : IH} {p2 : Int}  (hah : Fg rgC lf_X5_readOthers_31 a0 ah) : Sg gpI rgC lf_X5_readOthers_31 a0 (G_X5_readOthers N 31 ah p2) := by
  unfold G_X5_readOthers
  refine Sg.let_xu hah rfl (fun a7 ha7 => ?_)
  refine Sg.b (gb_X9_peek Fg.rf) ha7 rfl (fun r12 a12 ha12 => ?_)
  refine Sg.ite ?_ ?_
  · refine Sg.let_xu ha12 rfl (fun a27 ha27 => ?_)
    exact Sg.ret ha27
  · refine Sg.let_v (fun v3_33 => ?_)
    exact gb_X5_readOthers_34_31 _ ha12
theorem gb_X5_readCell_90_31 {a0 : IH} {N : Nat} {ah : IH} {v2 : Int} {v3 : Int}  (hah : Fg rgC lf_X5_readCell_31 a0 ah) : Sg gpI rgC lf_X5_readCell_31 a0 (G_X5_readCell_90 N 31 ah v2 v3) := by
  unfold G_X5_readCell_90
  refine Sg.b (gb_X11_isLetter Fg.rf) hah rfl (fun r91 a91 ha91 => ?_)
  refine Sg.ite ?_ ?_
  · exact gb_X5_readCell_116_31 ha91
  · refine Sg.b (gb_X9_peek Fg.rf) ha91 rfl (fun r99 a99 ha99 => ?_)
    refine Sg.ite ?_ ?_
    · refine Sg.b (gb_X5_readOthers_31 Fg.rf) ha99 rfl (fun r110 a110 ha110 => ?_)
      refine Sg.ite ?_ ?_
      · exact Sg.ret ha110
      · exact gb_X5_readCell_116_31 ha110
    · exact gb_X5_readCell_116_31 ha99
theorem gb_X5_readCell_31 {a0 : IH} {N : Nat} {ah : IH} {p2 : Int}  (hah : Fg rgC lf_X5_readCell_31 a0 ah) : Sg gpI rgC lf_X5_readCell_31 a0 (G_X5_readCell N 31 ah p2) := by
  unfold G_X5_readCell
  refine Sg.let_v (fun v3_4 => ?_)
  refine Sg.ite ?_ ?_
  · refine Sg.let_xu hah rfl (fun a21 ha21 => ?_)
    refine Sg.let_xu ha21 rfl (fun a31 ha31 => ?_)
    refine Sg.g (fun _ => ?_)
    refine Sg.let_xu ha31 rfl (fun a40 ha40 => ?_)
    refine Sg.g (fun _ => ?_)
    refine Sg.let_xu ha40 rfl (fun a47 ha47 => ?_)
    refine Sg.ite ?_ ?_
    · refine Sg.b (gb_X5_isBreak_31 Fg.rf) ha47 rfl (fun r56 a56 ha56 => ?_)
      refine Sg.ite ?_ ?_
      · exact gb_X5_readCell_90_31 ha56
      · refine Sg.g (fun _ => ?_)
        refine Sg.let_xu ha56 rfl (fun a69 ha69 => ?_)
        refine Sg.let_xu ha69 rfl (fun a77 ha77 => ?_)
        refine Sg.let_xu ha77 rfl (fun a87 ha87 => ?_)
        exact gb_X5_readCell_90_31 ha87
    · exact gb_X5_readCell_90_31 ha47
  · exact Sg.ret hah
theorem gb_X5_readToken_106_31 {a0 : IH} {N : Nat} {k81 : IH → Int → Option (Int × IH)} {ah : IH} (hk81 : ∀ {z0 : IH} {z1 : Int}, Fg rgC lf_X5_readToken_31 a0 z0 → Sg gpI rgC lf_X5_readToken_31 a0 (k81 z0 z1)) (hah : Fg rgC lf_X5_readToken_31 a0 ah) : Sg gpI rgC lf_X5_readToken_31 a0 (G_X5_readToken_106 N 31 k81 ah) := by
  unfold G_X5_readToken_106
  refine Sg.g (fun _ => ?_)
  refine Sg.let_xu hah rfl (fun a118 ha118 => ?_)
  exact Sg.ret ha118
theorem gb_X5_readToken_81_31 {a0 : IH} {N : Nat}  : ∀ (n : Nat) {ah : IH} {v2 : Int}  (hah : Fg rgC lf_X5_readToken_31 a0 ah), Sg gpI rgC lf_X5_readToken_31 a0 (G_X5_readToken_81 N 31 n ah v2) := by
  intro n
  induction n with
  | zero => intros; exact Sg.none
  | succ n ih =>
    intro ah v2  hah
    unfold G_X5_readToken_81
    refine Sg.ite ?_ ?_
    · exact Sg.ret hah
    · refine Sg.b (gb_X9_peek Fg.rf) hah rfl (fun r89 a89 ha89 => ?_)
      refine Sg.let_v (fun v3_92 => ?_)
      refine Sg.ite ?_ ?_
      · exact gb_X5_readToken_106_31 (fun h => ih h) ha89
      · refine Sg.b (gb_X5_isGap_31 Fg.rf) ha89 rfl (fun r100 a100 ha100 => ?_)
        refine Sg.ite ?_ ?_
        · refine Sg.b (gb_X5_beginsCell_31 Fg.rf) ha100 rfl (fun r123 a123 ha123 => ?_)
          refine Sg.ite ?_ ?_
          · refine Sg.b (gb_X9_refuse Fg.rf) ha123 rfl (fun r135 a135 ha135 => ?_)
            refine Sg.bo ?_
            exact Sg.ret ha135
          · refine Sg.ite ?_ ?_
            · refine Sg.b (gb_X9_refuse Fg.rf) ha123 rfl (fun r151 a151 ha151 => ?_)
              refine Sg.bo ?_
              exact Sg.ret ha151
            · refine Sg.b (gb_X5_readCell_31 Fg.rf) ha123 rfl (fun r158 a158 ha158 => ?_)
              refine Sg.ite ?_ ?_
              · exact Sg.ret ha158
              · refine Sg.let_v (fun v2_166 => ?_)
                exact ih ha158
        · exact gb_X5_readToken_106_31 (fun h => ih h) ha100
theorem gb_X5_readToken_31 {a0 : IH} {N : Nat} {ah : IH}  (hah : Fg rgC lf_X5_readToken_31 a0 ah) : Sg gpI rgC lf_X5_readToken_31 a0 (G_X5_readToken N 31 ah) := by
  unfold G_X5_readToken
  refine Sg.b (gb_X9_peek Fg.rf) hah rfl (fun r3 a3 ha3 => ?_)
  refine Sg.b (gb_X5_beginsCell_31 Fg.rf) ha3 rfl (fun r6 a6 ha6 => ?_)
  refine Sg.ite ?_ ?_
  · refine Sg.b (gb_X9_refuse Fg.rf) ha6 rfl (fun r18 a18 ha18 => ?_)
    refine Sg.bo ?_
    exact Sg.ret ha18
  · refine Sg.ite ?_ ?_
    · refine Sg.g (fun _ => ?_)
      refine Sg.let_xu ha6 rfl (fun a53 ha53 => ?_)
      refine Sg.g (fun _ => ?_)
      refine Sg.let_xu ha53 rfl (fun a68 ha68 => ?_)
      refine Sg.let_xu ha68 rfl (fun a76 ha76 => ?_)
      refine Sg.let_v (fun v2_80 => ?_)
      exact gb_X5_readToken_81_31 _ ha76
    · refine Sg.b (gb_X9_refuse Fg.rf) ha6 rfl (fun r37 a37 ha37 => ?_)
      refine Sg.bo ?_
      exact Sg.ret ha37
theorem gb_X5_readText_17_31 {a0 : IH} {N : Nat}  : ∀ (n : Nat) {ah : IH} {v2 : Int}  (hah : Fg rgC lf_X5_readText_31 a0 ah), Sg gpI rgC lf_X5_readText_31 a0 (G_X5_readText_17 N 31 n ah v2) := by
  intro n
  induction n with
  | zero => intros; exact Sg.none
  | succ n ih =>
    intro ah v2  hah
    unfold G_X5_readText_17
    refine Sg.ite ?_ ?_
    · exact Sg.ret hah
    · refine Sg.bv (gb_X5_readGap_31 Fg.rf) hah rfl (fun a25 ha25 => ?_)
      refine Sg.b (gb_X9_atEnd Fg.rf) ha25 rfl (fun r29 a29 ha29 => ?_)
      refine Sg.ite ?_ ?_
      · refine Sg.b (gb_X5_readToken_31 Fg.rf) ha29 rfl (fun r39 a39 ha39 => ?_)
        refine Sg.ite ?_ ?_
        · exact Sg.ret ha39
        · refine Sg.let_v (fun v2_47 => ?_)
          exact ih ha39
      · exact Sg.ret ha29
theorem gb_X5_readText_31 {a0 : IH} {N : Nat} {ah : IH}  (hah : Fg rgC lf_X5_readText_31 a0 ah) : Sg gpI rgC lf_X5_readText_31 a0 (G_X5_readText N 31 ah) := by
  unfold G_X5_readText
  refine Sg.let_xu hah rfl (fun a2 ha2 => ?_)
  refine Sg.let_xu ha2 rfl (fun a7 ha7 => ?_)
  refine Sg.let_xu ha7 rfl (fun a12 ha12 => ?_)
  refine Sg.let_v (fun v2_16 => ?_)
  exact gb_X5_readText_17_31 _ ha12
theorem gb_X5_isGap_12_40 {a0 : IH} {N : Nat} {ah : IH}  (hah : Fg rgC lf_X5_isGap_40 a0 ah) : Sg gpI rgC lf_X5_isGap_40 a0 (G_X5_isGap_12 N 40 ah) := by
  unfold G_X5_isGap_12
  exact Sg.ret hah
theorem gb_X5_isGap_40 {a0 : IH} {N : Nat} {ah : IH} {p1 : Int}  (hah : Fg rgC lf_X5_isGap_40 a0 ah) : Sg gpI rgC lf_X5_isGap_40 a0 (G_X5_isGap N 40 ah p1) := by
  unfold G_X5_isGap
  refine Sg.ite ?_ ?_
  · exact gb_X5_isGap_12_40 hah
  · refine Sg.ite ?_ ?_
    · exact gb_X5_isGap_12_40 hah
    · exact Sg.ret hah
theorem gb_X5_readGap_42_40 {a0 : IH} {N : Nat} {k4 : IH → Int → Int → Option IH} {ah : IH} {v2 : Int} {v3 : Int} (hk4 : ∀ {z0 : IH} {z1 : Int} {z2 : Int}, Fg rgC lf_X5_readGap_40 a0 z0 → Sg gpV rgC lf_X5_readGap_40 a0 (k4 z0 z1 z2)) (hah : Fg rgC lf_X5_readGap_40 a0 ah) : Sg gpV rgC lf_X5_readGap_40 a0 (G_X5_readGap_42 N 40 k4 ah v2 v3) := by
  unfold G_X5_readGap_42
  refine Sg.let_xu hah rfl (fun a49 ha49 => ?_)
  exact hk4 ha49
theorem gb_X5_readGap_123_40 {a0 : IH} {N : Nat} {ah : IH} {s1 : Int} {s2 : Int}  (hah : Fg rgC lf_X5_readGap_40 a0 ah) : Sg gpV rgC lf_X5_readGap_40 a0 (G_X5_readGap_123 N 40 ah s1 s2) := by
  unfold G_X5_readGap_123
  refine Sg.g (fun _ => ?_)
  refine Sg.let_xu hah rfl (fun a123 ha123 => ?_)
  exact Sg.ret ha123
theorem gb_X5_readGap_122_40 {a0 : IH} {N : Nat} {ah : IH} {s1 : Int}  (hah : Fg rgC lf_X5_readGap_40 a0 ah) : Sg gpV rgC lf_X5_readGap_40 a0 (G_X5_readGap_122 N 40 ah s1) := by
  unfold G_X5_readGap_122
  exact gb_X5_readGap_123_40 hah
theorem gb_X5_readGap_91_40 {a0 : IH} {N : Nat} {ah : IH} {v2 : Int} {v3 : Int} {s1 : Int} {s2 : Int}  (hah : Fg rgC lf_X5_readGap_40 a0 ah) : Sg gpV rgC lf_X5_readGap_40 a0 (G_X5_readGap_91 N 40 ah v2 v3 s1 s2) := by
  unfold G_X5_readGap_91
  refine Sg.g (fun _ => ?_)
  refine Sg.let_xu hah rfl (fun a91 ha91 => ?_)
  refine Sg.ite ?_ ?_
  · refine Sg.ite ?_ ?_
    · refine Sg.b (gb_X9_atEnd Fg.rf) ha91 rfl (fun r112 a112 ha112 => ?_)
      refine Sg.ite ?_ ?_
      · exact gb_X5_readGap_123_40 ha112
      · exact gb_X5_readGap_122_40 ha112
    · exact gb_X5_readGap_122_40 ha91
  · exact gb_X5_readGap_122_40 ha91
theorem gb_X5_readGap_55_40 {a0 : IH} {N : Nat} {ah : IH} {v2 : Int} {v3 : Int}  (hah : Fg rgC lf_X5_readGap_40 a0 ah) : Sg gpV rgC lf_X5_readGap_40 a0 (G_X5_readGap_55 N 40 ah v2 v3) := by
  unfold G_X5_readGap_55
  refine Sg.let_xu hah rfl (fun a62 ha62 => ?_)
  refine Sg.ite ?_ ?_
  · exact Sg.ret ha62
  · refine Sg.ite ?_ ?_
    · exact gb_X5_readGap_91_40 ha62
    · exact gb_X5_readGap_91_40 ha62
theorem gb_X5_readGap_4_40 {a0 : IH} {N : Nat}  : ∀ (n : Nat) {ah : IH} {v2 : Int} {v3 : Int}  (hah : Fg rgC lf_X5_readGap_40 a0 ah), Sg gpV rgC lf_X5_readGap_40 a0 (G_X5_readGap_4 N 40 n ah v2 v3) := by
  intro n
  induction n with
  | zero => intros; exact Sg.none
  | succ n ih =>
    intro ah v2 v3  hah
    unfold G_X5_readGap_4
    refine Sg.b (gb_X9_atEnd Fg.rf) hah rfl (fun r5 a5 ha5 => ?_)
    refine Sg.ite ?_ ?_
    · refine Sg.b (gb_X9_peek Fg.rf) ha5 rfl (fun r14 a14 ha14 => ?_)
      refine Sg.b (gb_X5_isGap_40 Fg.rf) ha14 rfl (fun r17 a17 ha17 => ?_)
      refine Sg.ite ?_ ?_
      · exact gb_X5_readGap_55_40 ha17
      · refine Sg.b (gb_X9_peek Fg.rf) ha17 rfl (fun r25 a25 ha25 => ?_)
        refine Sg.ite ?_ ?_
        · refine Sg.let_v (fun v2_33 => ?_)
          exact gb_X5_readGap_42_40 (fun h => ih h) ha25
        · refine Sg.let_v (fun v3_39 => ?_)
          exact gb_X5_readGap_42_40 (fun h => ih h) ha25
    · exact gb_X5_readGap_55_40 ha5
theorem gb_X5_readGap_40 {a0 : IH} {N : Nat} {ah : IH}  (hah : Fg rgC lf_X5_readGap_40 a0 ah) : Sg gpV rgC lf_X5_readGap_40 a0 (G_X5_readGap N 40 ah) := by
  unfold G_X5_readGap
  refine Sg.let_v (fun v2_1 => ?_)
  refine Sg.let_v (fun v3_3 => ?_)
  exact gb_X5_readGap_4_40 _ hah
theorem gb_X5_beginsCell_19_40 {a0 : IH} {N : Nat} {ah : IH}  (hah : Fg rgC lf_X5_beginsCell_40 a0 ah) : Sg gpI rgC lf_X5_beginsCell_40 a0 (G_X5_beginsCell_19 N 40 ah) := by
  unfold G_X5_beginsCell_19
  exact Sg.ret hah
theorem gb_X5_beginsCell_40 {a0 : IH} {N : Nat} {ah : IH} {p1 : Int}  (hah : Fg rgC lf_X5_beginsCell_40 a0 ah) : Sg gpI rgC lf_X5_beginsCell_40 a0 (G_X5_beginsCell N 40 ah p1) := by
  unfold G_X5_beginsCell
  refine Sg.b (gb_X11_isLetter Fg.rf) hah rfl (fun r1 a1 ha1 => ?_)
  refine Sg.ite ?_ ?_
  · refine Sg.ite ?_ ?_
    · exact gb_X5_beginsCell_19_40 ha1
    · refine Sg.ite ?_ ?_
      · exact gb_X5_beginsCell_19_40 ha1
      · exact Sg.ret ha1
  · exact gb_X5_beginsCell_19_40 ha1
theorem gb_X5_isBreak_31_40 {a0 : IH} {N : Nat} {ah : IH}  (hah : Fg rgC lf_X5_isBreak_40 a0 ah) : Sg gpI rgC lf_X5_isBreak_40 a0 (G_X5_isBreak_31 N 40 ah) := by
  unfold G_X5_isBreak_31
  exact Sg.ret hah
theorem gb_X5_isBreak_40 {a0 : IH} {N : Nat} {ah : IH}  (hah : Fg rgC lf_X5_isBreak_40 a0 ah) : Sg gpI rgC lf_X5_isBreak_40 a0 (G_X5_isBreak N 40 ah) := by
  unfold G_X5_isBreak
  refine Sg.b (gb_X9_peek Fg.rf) hah rfl (fun r2 a2 ha2 => ?_)
  refine Sg.ite ?_ ?_
  · refine Sg.b (gb_X9_peek Fg.rf) ha2 rfl (fun r12 a12 ha12 => ?_)
    refine Sg.b (gb_X11_isLetter Fg.rf) ha12 rfl (fun r15 a15 ha15 => ?_)
    refine Sg.ite ?_ ?_
    · refine Sg.b (gb_X9_peek Fg.rf) ha15 rfl (fun r23 a23 ha23 => ?_)
      refine Sg.ite ?_ ?_
      · exact gb_X5_isBreak_31_40 ha23
      · exact Sg.ret ha23
    · exact gb_X5_isBreak_31_40 ha15
  · exact Sg.ret ha2
theorem gb_X5_readCell_116_40 {a0 : IH} {N : Nat} {ah : IH}  (hah : Fg rgC lf_X5_readCell_40 a0 ah) : Sg gpI rgC lf_X5_readCell_40 a0 (G_X5_readCell_116 N 40 ah) := by
  unfold G_X5_readCell_116
  exact Sg.ret hah
theorem gb_X5_readOthers_34_40 {a0 : IH} {N : Nat}  : ∀ (n : Nat) {ah : IH} {v2 : Int} {v3 : Int}  (hah : Fg rgC lf_X5_readOthers_40 a0 ah), Sg gpI rgC lf_X5_readOthers_40 a0 (G_X5_readOthers_34 N 40 n ah v2 v3) := by
  intro n
  induction n with
  | zero => intros; exact Sg.none
  | succ n ih =>
    intro ah v2 v3  hah
    unfold G_X5_readOthers_34
    refine Sg.ite ?_ ?_
    · exact Sg.ret hah
    · refine Sg.b (gb_X9_peek Fg.rf) hah rfl (fun r41 a41 ha41 => ?_)
      refine Sg.let_v (fun v4_44 => ?_)
      refine Sg.b (gb_X11_isLetter Fg.rf) ha41 rfl (fun r48 a48 ha48 => ?_)
      refine Sg.ite ?_ ?_
      · refine Sg.b (gb_X9_refuse Fg.rf) ha48 rfl (fun r60 a60 ha60 => ?_)
        refine Sg.bo ?_
        exact Sg.ret ha60
      · refine Sg.ite ?_ ?_
        · refine Sg.b (gb_X9_refuse Fg.rf) ha48 rfl (fun r75 a75 ha75 => ?_)
          refine Sg.bo ?_
          exact Sg.ret ha75
        · refine Sg.let_xu ha48 rfl (fun a86 ha86 => ?_)
          refine Sg.b (gb_X9_readNumber Fg.rf) ha86 rfl (fun r91 a91 ha91 => ?_)
          refine Sg.let_v (fun v5_94 => ?_)
          refine Sg.ite ?_ ?_
          · exact Sg.ret ha91
          · refine Sg.g (fun _ => ?_)
            refine Sg.let_xu ha91 rfl (fun a115 ha115 => ?_)
            refine Sg.g (fun _ => ?_)
            refine Sg.let_xu ha115 rfl (fun a127 ha127 => ?_)
            refine Sg.g (fun _ => ?_)
            refine Sg.let_xu ha127 rfl (fun a136 ha136 => ?_)
            refine Sg.b (gb_X9_peek Fg.rf) ha136 rfl (fun r139 a139 ha139 => ?_)
            refine Sg.ite ?_ ?_
            · refine Sg.let_xu ha139 rfl (fun a154 ha154 => ?_)
              exact Sg.ret ha154
            · refine Sg.b (gb_X9_peek Fg.rf) ha139 rfl (fun r161 a161 ha161 => ?_)
              refine Sg.ite ?_ ?_
              · refine Sg.bv (gb_X9_skipBlanks Fg.rf) ha161 rfl (fun a180 ha180 => ?_)
                refine Sg.let_v (fun v3_183 => ?_)
                exact ih ha180
              · refine Sg.b (gb_X9_refuse Fg.rf) ha161 rfl (fun r175 a175 ha175 => ?_)
                refine Sg.bo ?_
                exact Sg.ret ha175
theorem gb_X5_readOthers_40 {a0 : IH} {N : Nat} {ah : IH} {p2 : Int}  (hah : Fg rgC lf_X5_readOthers_40 a0 ah) : Sg gpI rgC lf_X5_readOthers_40 a0 (G_X5_readOthers N 40 ah p2) := by
  unfold G_X5_readOthers
  refine Sg.let_xu hah rfl (fun a7 ha7 => ?_)
  refine Sg.b (gb_X9_peek Fg.rf) ha7 rfl (fun r12 a12 ha12 => ?_)
  refine Sg.ite ?_ ?_
  · refine Sg.let_xu ha12 rfl (fun a27 ha27 => ?_)
    exact Sg.ret ha27
  · refine Sg.let_v (fun v3_33 => ?_)
    exact gb_X5_readOthers_34_40 _ ha12
theorem gb_X5_readCell_90_40 {a0 : IH} {N : Nat} {ah : IH} {v2 : Int} {v3 : Int}  (hah : Fg rgC lf_X5_readCell_40 a0 ah) : Sg gpI rgC lf_X5_readCell_40 a0 (G_X5_readCell_90 N 40 ah v2 v3) := by
  unfold G_X5_readCell_90
  refine Sg.b (gb_X11_isLetter Fg.rf) hah rfl (fun r91 a91 ha91 => ?_)
  refine Sg.ite ?_ ?_
  · exact gb_X5_readCell_116_40 ha91
  · refine Sg.b (gb_X9_peek Fg.rf) ha91 rfl (fun r99 a99 ha99 => ?_)
    refine Sg.ite ?_ ?_
    · refine Sg.b (gb_X5_readOthers_40 Fg.rf) ha99 rfl (fun r110 a110 ha110 => ?_)
      refine Sg.ite ?_ ?_
      · exact Sg.ret ha110
      · exact gb_X5_readCell_116_40 ha110
    · exact gb_X5_readCell_116_40 ha99
theorem gb_X5_readCell_40 {a0 : IH} {N : Nat} {ah : IH} {p2 : Int}  (hah : Fg rgC lf_X5_readCell_40 a0 ah) : Sg gpI rgC lf_X5_readCell_40 a0 (G_X5_readCell N 40 ah p2) := by
  unfold G_X5_readCell
  refine Sg.let_v (fun v3_4 => ?_)
  refine Sg.ite ?_ ?_
  · refine Sg.let_xu hah rfl (fun a21 ha21 => ?_)
    refine Sg.let_xu ha21 rfl (fun a31 ha31 => ?_)
    refine Sg.g (fun _ => ?_)
    refine Sg.let_xu ha31 rfl (fun a40 ha40 => ?_)
    refine Sg.g (fun _ => ?_)
    refine Sg.let_xu ha40 rfl (fun a47 ha47 => ?_)
    refine Sg.ite ?_ ?_
    · refine Sg.b (gb_X5_isBreak_40 Fg.rf) ha47 rfl (fun r56 a56 ha56 => ?_)
      refine Sg.ite ?_ ?_
      · exact gb_X5_readCell_90_40 ha56
      · refine Sg.g (fun _ => ?_)
        refine Sg.let_xu ha56 rfl (fun a69 ha69 => ?_)
        refine Sg.let_xu ha69 rfl (fun a77 ha77 => ?_)
        refine Sg.let_xu ha77 rfl (fun a87 ha87 => ?_)
        exact gb_X5_readCell_90_40 ha87
    · exact gb_X5_readCell_90_40 ha47
  · exact Sg.ret hah
theorem gb_X5_readToken_106_40 {a0 : IH} {N : Nat} {k81 : IH → Int → Option (Int × IH)} {ah : IH} (hk81 : ∀ {z0 : IH} {z1 : Int}, Fg rgC lf_X5_readToken_40 a0 z0 → Sg gpI rgC lf_X5_readToken_40 a0 (k81 z0 z1)) (hah : Fg rgC lf_X5_readToken_40 a0 ah) : Sg gpI rgC lf_X5_readToken_40 a0 (G_X5_readToken_106 N 40 k81 ah) := by
  unfold G_X5_readToken_106
  refine Sg.g (fun _ => ?_)
  refine Sg.let_xu hah rfl (fun a118 ha118 => ?_)
  exact Sg.ret ha118
theorem gb_X5_readToken_81_40 {a0 : IH} {N : Nat}  : ∀ (n : Nat) {ah : IH} {v2 : Int}  (hah : Fg rgC lf_X5_readToken_40 a0 ah), Sg gpI rgC lf_X5_readToken_40 a0 (G_X5_readToken_81 N 40 n ah v2) := by
  intro n
  induction n with
  | zero => intros; exact Sg.none
  | succ n ih =>
    intro ah v2  hah
    unfold G_X5_readToken_81
    refine Sg.ite ?_ ?_
    · exact Sg.ret hah
    · refine Sg.b (gb_X9_peek Fg.rf) hah rfl (fun r89 a89 ha89 => ?_)
      refine Sg.let_v (fun v3_92 => ?_)
      refine Sg.ite ?_ ?_
      · exact gb_X5_readToken_106_40 (fun h => ih h) ha89
      · refine Sg.b (gb_X5_isGap_40 Fg.rf) ha89 rfl (fun r100 a100 ha100 => ?_)
        refine Sg.ite ?_ ?_
        · refine Sg.b (gb_X5_beginsCell_40 Fg.rf) ha100 rfl (fun r123 a123 ha123 => ?_)
          refine Sg.ite ?_ ?_
          · refine Sg.b (gb_X9_refuse Fg.rf) ha123 rfl (fun r135 a135 ha135 => ?_)
            refine Sg.bo ?_
            exact Sg.ret ha135
          · refine Sg.ite ?_ ?_
            · refine Sg.b (gb_X9_refuse Fg.rf) ha123 rfl (fun r151 a151 ha151 => ?_)
              refine Sg.bo ?_
              exact Sg.ret ha151
            · refine Sg.b (gb_X5_readCell_40 Fg.rf) ha123 rfl (fun r158 a158 ha158 => ?_)
              refine Sg.ite ?_ ?_
              · exact Sg.ret ha158
              · refine Sg.let_v (fun v2_166 => ?_)
                exact ih ha158
        · exact gb_X5_readToken_106_40 (fun h => ih h) ha100
theorem gb_X5_readToken_40 {a0 : IH} {N : Nat} {ah : IH}  (hah : Fg rgC lf_X5_readToken_40 a0 ah) : Sg gpI rgC lf_X5_readToken_40 a0 (G_X5_readToken N 40 ah) := by
  unfold G_X5_readToken
  refine Sg.b (gb_X9_peek Fg.rf) hah rfl (fun r3 a3 ha3 => ?_)
  refine Sg.b (gb_X5_beginsCell_40 Fg.rf) ha3 rfl (fun r6 a6 ha6 => ?_)
  refine Sg.ite ?_ ?_
  · refine Sg.b (gb_X9_refuse Fg.rf) ha6 rfl (fun r18 a18 ha18 => ?_)
    refine Sg.bo ?_
    exact Sg.ret ha18
  · refine Sg.ite ?_ ?_
    · refine Sg.g (fun _ => ?_)
      refine Sg.let_xu ha6 rfl (fun a53 ha53 => ?_)
      refine Sg.g (fun _ => ?_)
      refine Sg.let_xu ha53 rfl (fun a68 ha68 => ?_)
      refine Sg.let_xu ha68 rfl (fun a76 ha76 => ?_)
      refine Sg.let_v (fun v2_80 => ?_)
      exact gb_X5_readToken_81_40 _ ha76
    · refine Sg.b (gb_X9_refuse Fg.rf) ha6 rfl (fun r37 a37 ha37 => ?_)
      refine Sg.bo ?_
      exact Sg.ret ha37
theorem gb_X5_readText_17_40 {a0 : IH} {N : Nat}  : ∀ (n : Nat) {ah : IH} {v2 : Int}  (hah : Fg rgC lf_X5_readText_40 a0 ah), Sg gpI rgC lf_X5_readText_40 a0 (G_X5_readText_17 N 40 n ah v2) := by
  intro n
  induction n with
  | zero => intros; exact Sg.none
  | succ n ih =>
    intro ah v2  hah
    unfold G_X5_readText_17
    refine Sg.ite ?_ ?_
    · exact Sg.ret hah
    · refine Sg.bv (gb_X5_readGap_40 Fg.rf) hah rfl (fun a25 ha25 => ?_)
      refine Sg.b (gb_X9_atEnd Fg.rf) ha25 rfl (fun r29 a29 ha29 => ?_)
      refine Sg.ite ?_ ?_
      · refine Sg.b (gb_X5_readToken_40 Fg.rf) ha29 rfl (fun r39 a39 ha39 => ?_)
        refine Sg.ite ?_ ?_
        · exact Sg.ret ha39
        · refine Sg.let_v (fun v2_47 => ?_)
          exact ih ha39
      · exact Sg.ret ha29
theorem gb_X5_readText_40 {a0 : IH} {N : Nat} {ah : IH}  (hah : Fg rgC lf_X5_readText_40 a0 ah) : Sg gpI rgC lf_X5_readText_40 a0 (G_X5_readText N 40 ah) := by
  unfold G_X5_readText
  refine Sg.let_xu hah rfl (fun a2 ha2 => ?_)
  refine Sg.let_xu ha2 rfl (fun a7 ha7 => ?_)
  refine Sg.let_xu ha7 rfl (fun a12 ha12 => ?_)
  refine Sg.let_v (fun v2_16 => ?_)
  exact gb_X5_readText_17_40 _ ha12
theorem gb_X11_reading {a0 : IH} {N : Nat} {ah : IH} {p1 : Int}  (hah : Fg rgC lf_X11_reading a0 ah) : Sg gpX rgC lf_X11_reading a0 (G_X11_reading N ah p1) := by
  unfold G_X11_reading
  refine Sg.bx (gb_X11_needBetween Fg.rf) hah rfl (fun a10 ha10 => ?_)
  refine Sg.bv (gb_X9_begin Fg.rf) ha10 rfl (fun a18 ha18 => ?_)
  refine Sg.b (gb_X5_readText_40 Fg.rf) ha18 rfl (fun r29 a29 ha29 => ?_)
  refine Sg.ite ?_ ?_
  · exact gb_X11_reading_59 ha29
  · refine Sg.bv (gb_X9_begin Fg.rf) ha29 rfl (fun a40 ha40 => ?_)
    refine Sg.b (gb_X5_readText_31 Fg.rf) ha40 rfl (fun r51 a51 ha51 => ?_)
    refine Sg.bv (gb_X11_changed Fg.rf) ha51 rfl (fun a56 ha56 => ?_)
    exact gb_X11_reading_59 ha56
theorem gb_X11_follows_59 {a0 : IH} {N : Nat} {ah : IH}  (hah : Fg rgC lf_X11_follows a0 ah) : Sg gpX rgC lf_X11_follows a0 (G_X11_follows_59 N ah) := by
  unfold G_X11_follows_59
  refine Sg.b (gb_X9_finish Fg.rf) hah rfl (fun r70 a70 ha70 => ?_)
  exact Sg.ret ha70
theorem gb_X1_readWord_53_53 {a0 : IH} {N : Nat} {k25 : IH → Int → Option (Int × IH)} {ah : IH} {v2 : Int} (hk25 : ∀ {z0 : IH} {z1 : Int}, Fg rgC lf_X1_readWord_53 a0 z0 → Sg gpI rgC lf_X1_readWord_53 a0 (k25 z0 z1)) (hah : Fg rgC lf_X1_readWord_53 a0 ah) : Sg gpI rgC lf_X1_readWord_53 a0 (G_X1_readWord_53 N 53 k25 ah v2) := by
  unfold G_X1_readWord_53
  refine Sg.let_xu hah rfl (fun a60 ha60 => ?_)
  exact hk25 ha60
theorem gb_X1_readWord_66_53 {a0 : IH} {N : Nat} {ah : IH} {v2 : Int}  (hah : Fg rgC lf_X1_readWord_53 a0 ah) : Sg gpI rgC lf_X1_readWord_53 a0 (G_X1_readWord_66 N 53 ah v2) := by
  unfold G_X1_readWord_66
  refine Sg.b (gb_X2_look_3 Fg.rf) hah rfl (fun r81 a81 ha81 => ?_)
  refine Sg.let_v (fun v3_84 => ?_)
  refine Sg.ite ?_ ?_
  · refine Sg.b (gb_X9_refuse Fg.rf) ha81 rfl (fun r93 a93 ha93 => ?_)
    exact Sg.ret ha93
  · exact Sg.ret ha81
theorem gb_X1_readWord_25_53 {a0 : IH} {N : Nat}  : ∀ (n : Nat) {ah : IH} {v2 : Int}  (hah : Fg rgC lf_X1_readWord_53 a0 ah), Sg gpI rgC lf_X1_readWord_53 a0 (G_X1_readWord_25 N 53 n ah v2) := by
  intro n
  induction n with
  | zero => intros; exact Sg.none
  | succ n ih =>
    intro ah v2  hah
    unfold G_X1_readWord_25
    refine Sg.b (gb_X9_atEnd Fg.rf) hah rfl (fun r26 a26 ha26 => ?_)
    refine Sg.ite ?_ ?_
    · refine Sg.b (gb_X9_peek Fg.rf) ha26 rfl (fun r34 a34 ha34 => ?_)
      refine Sg.b (gb_X11_isLetter Fg.rf) ha34 rfl (fun r37 a37 ha37 => ?_)
      refine Sg.ite ?_ ?_
      · refine Sg.b (gb_X9_peek Fg.rf) ha37 rfl (fun r45 a45 ha45 => ?_)
        refine Sg.ite ?_ ?_
        · exact gb_X1_readWord_53_53 (fun h => ih h) ha45
        · exact gb_X1_readWord_66_53 ha45
      · exact gb_X1_readWord_53_53 (fun h => ih h) ha37
    · exact gb_X1_readWord_66_53 ha26
theorem gb_X1_readWord_53 {a0 : IH} {N : Nat} {ah : IH}  (hah : Fg rgC lf_X1_readWord_53 a0 ah) : Sg gpI rgC lf_X1_readWord_53 a0 (G_X1_readWord N 53 ah) := by
  unfold G_X1_readWord
  refine Sg.let_v (fun v2_4 => ?_)
  refine Sg.b (gb_X9_peek Fg.rf) hah rfl (fun r7 a7 ha7 => ?_)
  refine Sg.b (gb_X11_isLetter Fg.rf) ha7 rfl (fun r10 a10 ha10 => ?_)
  refine Sg.ite ?_ ?_
  · refine Sg.b (gb_X9_refuse Fg.rf) ha10 rfl (fun r19 a19 ha19 => ?_)
    exact Sg.ret ha19
  · exact gb_X1_readWord_25_53 _ ha10
theorem gb_X1_readEntry_30_53 {a0 : IH} {N : Nat} {ah : IH}  (hah : Fg rgC lf_X1_readEntry_53 a0 ah) : Sg gpI rgC lf_X1_readEntry_53 a0 (G_X1_readEntry_30 N 53 ah) := by
  unfold G_X1_readEntry_30
  refine Sg.b (gb_X1_readWord_53 Fg.rf) hah rfl (fun r32 a32 ha32 => ?_)
  refine Sg.let_v (fun v2_35 => ?_)
  refine Sg.ite ?_ ?_
  · exact Sg.ret ha32
  · refine Sg.b (gb_X9_peek Fg.rf) ha32 rfl (fun r45 a45 ha45 => ?_)
    refine Sg.ite ?_ ?_
    · refine Sg.bv (gb_X9_skipBlanks Fg.rf) ha45 rfl (fun a64 ha64 => ?_)
      refine Sg.b (gb_X1_readWord_53 Fg.rf) ha64 rfl (fun r69 a69 ha69 => ?_)
      refine Sg.let_v (fun v3_72 => ?_)
      refine Sg.ite ?_ ?_
      · exact Sg.ret ha69
      · refine Sg.b (gb_X9_readEnding Fg.rf) ha69 rfl (fun r83 a83 ha83 => ?_)
        refine Sg.let_v (fun v4_86 => ?_)
        refine Sg.ite ?_ ?_
        · exact Sg.ret ha83
        · refine Sg.g (fun _ => ?_)
          refine Sg.let_xu ha83 rfl (fun a105 ha105 => ?_)
          refine Sg.g (fun _ => ?_)
          refine Sg.let_xu ha105 rfl (fun a115 ha115 => ?_)
          refine Sg.g (fun _ => ?_)
          refine Sg.let_xu ha115 rfl (fun a126 ha126 => ?_)
          refine Sg.let_xu ha126 rfl (fun a134 ha134 => ?_)
          exact Sg.ret ha134
    · refine Sg.b (gb_X9_refuse Fg.rf) ha45 rfl (fun r59 a59 ha59 => ?_)
      refine Sg.bo ?_
      exact Sg.ret ha59
theorem gb_X1_readEntry_53 {a0 : IH} {N : Nat} {ah : IH}  (hah : Fg rgC lf_X1_readEntry_53 a0 ah) : Sg gpI rgC lf_X1_readEntry_53 a0 (G_X1_readEntry N 53 ah) := by
  unfold G_X1_readEntry
  refine Sg.b (gb_X9_peek Fg.rf) hah rfl (fun r2 a2 ha2 => ?_)
  refine Sg.b (gb_X11_isLetter Fg.rf) ha2 rfl (fun r5 a5 ha5 => ?_)
  refine Sg.ite ?_ ?_
  · exact gb_X1_readEntry_30_53 ha5
  · refine Sg.ite ?_ ?_
    · exact gb_X1_readEntry_30_53 ha5
    · refine Sg.b (gb_X9_refuse Fg.rf) ha5 rfl (fun r26 a26 ha26 => ?_)
      refine Sg.bo ?_
      exact Sg.ret ha26
theorem gb_X1_readText_7_53 {a0 : IH} {N : Nat}  : ∀ (n : Nat) {ah : IH} {v2 : Int}  (hah : Fg rgC lf_X1_readText_53 a0 ah), Sg gpI rgC lf_X1_readText_53 a0 (G_X1_readText_7 N 53 n ah v2) := by
  intro n
  induction n with
  | zero => intros; exact Sg.none
  | succ n ih =>
    intro ah v2  hah
    unfold G_X1_readText_7
    refine Sg.ite ?_ ?_
    · exact Sg.ret hah
    · refine Sg.bv (gb_X9_skipBlanks Fg.rf) hah rfl (fun a14 ha14 => ?_)
      refine Sg.b (gb_X9_atEnd Fg.rf) ha14 rfl (fun r18 a18 ha18 => ?_)
      refine Sg.ite ?_ ?_
      · refine Sg.b (gb_X1_readEntry_53 Fg.rf) ha18 rfl (fun r28 a28 ha28 => ?_)
        refine Sg.ite ?_ ?_
        · exact Sg.ret ha28
        · refine Sg.let_v (fun v2_36 => ?_)
          exact ih ha28
      · exact Sg.ret ha18
theorem gb_X1_readText_53 {a0 : IH} {N : Nat} {ah : IH}  (hah : Fg rgC lf_X1_readText_53 a0 ah) : Sg gpI rgC lf_X1_readText_53 a0 (G_X1_readText N 53 ah) := by
  unfold G_X1_readText
  refine Sg.let_xu hah rfl (fun a2 ha2 => ?_)
  refine Sg.let_v (fun v2_6 => ?_)
  exact gb_X1_readText_7_53 _ ha2
theorem gb_X1_readWord_53_49 {a0 : IH} {N : Nat} {k25 : IH → Int → Option (Int × IH)} {ah : IH} {v2 : Int} (hk25 : ∀ {z0 : IH} {z1 : Int}, Fg rgC lf_X1_readWord_49 a0 z0 → Sg gpI rgC lf_X1_readWord_49 a0 (k25 z0 z1)) (hah : Fg rgC lf_X1_readWord_49 a0 ah) : Sg gpI rgC lf_X1_readWord_49 a0 (G_X1_readWord_53 N 49 k25 ah v2) := by
  unfold G_X1_readWord_53
  refine Sg.let_xu hah rfl (fun a60 ha60 => ?_)
  exact hk25 ha60
theorem gb_X1_readWord_66_49 {a0 : IH} {N : Nat} {ah : IH} {v2 : Int}  (hah : Fg rgC lf_X1_readWord_49 a0 ah) : Sg gpI rgC lf_X1_readWord_49 a0 (G_X1_readWord_66 N 49 ah v2) := by
  unfold G_X1_readWord_66
  refine Sg.b (gb_X2_look_3 Fg.rf) hah rfl (fun r81 a81 ha81 => ?_)
  refine Sg.let_v (fun v3_84 => ?_)
  refine Sg.ite ?_ ?_
  · refine Sg.b (gb_X9_refuse Fg.rf) ha81 rfl (fun r93 a93 ha93 => ?_)
    exact Sg.ret ha93
  · exact Sg.ret ha81
theorem gb_X1_readWord_25_49 {a0 : IH} {N : Nat}  : ∀ (n : Nat) {ah : IH} {v2 : Int}  (hah : Fg rgC lf_X1_readWord_49 a0 ah), Sg gpI rgC lf_X1_readWord_49 a0 (G_X1_readWord_25 N 49 n ah v2) := by
  intro n
  induction n with
  | zero => intros; exact Sg.none
  | succ n ih =>
    intro ah v2  hah
    unfold G_X1_readWord_25
    refine Sg.b (gb_X9_atEnd Fg.rf) hah rfl (fun r26 a26 ha26 => ?_)
    refine Sg.ite ?_ ?_
    · refine Sg.b (gb_X9_peek Fg.rf) ha26 rfl (fun r34 a34 ha34 => ?_)
      refine Sg.b (gb_X11_isLetter Fg.rf) ha34 rfl (fun r37 a37 ha37 => ?_)
      refine Sg.ite ?_ ?_
      · refine Sg.b (gb_X9_peek Fg.rf) ha37 rfl (fun r45 a45 ha45 => ?_)
        refine Sg.ite ?_ ?_
        · exact gb_X1_readWord_53_49 (fun h => ih h) ha45
        · exact gb_X1_readWord_66_49 ha45
      · exact gb_X1_readWord_53_49 (fun h => ih h) ha37
    · exact gb_X1_readWord_66_49 ha26
theorem gb_X1_readWord_49 {a0 : IH} {N : Nat} {ah : IH}  (hah : Fg rgC lf_X1_readWord_49 a0 ah) : Sg gpI rgC lf_X1_readWord_49 a0 (G_X1_readWord N 49 ah) := by
  unfold G_X1_readWord
  refine Sg.let_v (fun v2_4 => ?_)
  refine Sg.b (gb_X9_peek Fg.rf) hah rfl (fun r7 a7 ha7 => ?_)
  refine Sg.b (gb_X11_isLetter Fg.rf) ha7 rfl (fun r10 a10 ha10 => ?_)
  refine Sg.ite ?_ ?_
  · refine Sg.b (gb_X9_refuse Fg.rf) ha10 rfl (fun r19 a19 ha19 => ?_)
    exact Sg.ret ha19
  · exact gb_X1_readWord_25_49 _ ha10
theorem gb_X1_readEntry_30_49 {a0 : IH} {N : Nat} {ah : IH}  (hah : Fg rgC lf_X1_readEntry_49 a0 ah) : Sg gpI rgC lf_X1_readEntry_49 a0 (G_X1_readEntry_30 N 49 ah) := by
  unfold G_X1_readEntry_30
  refine Sg.b (gb_X1_readWord_49 Fg.rf) hah rfl (fun r32 a32 ha32 => ?_)
  refine Sg.let_v (fun v2_35 => ?_)
  refine Sg.ite ?_ ?_
  · exact Sg.ret ha32
  · refine Sg.b (gb_X9_peek Fg.rf) ha32 rfl (fun r45 a45 ha45 => ?_)
    refine Sg.ite ?_ ?_
    · refine Sg.bv (gb_X9_skipBlanks Fg.rf) ha45 rfl (fun a64 ha64 => ?_)
      refine Sg.b (gb_X1_readWord_49 Fg.rf) ha64 rfl (fun r69 a69 ha69 => ?_)
      refine Sg.let_v (fun v3_72 => ?_)
      refine Sg.ite ?_ ?_
      · exact Sg.ret ha69
      · refine Sg.b (gb_X9_readEnding Fg.rf) ha69 rfl (fun r83 a83 ha83 => ?_)
        refine Sg.let_v (fun v4_86 => ?_)
        refine Sg.ite ?_ ?_
        · exact Sg.ret ha83
        · refine Sg.g (fun _ => ?_)
          refine Sg.let_xu ha83 rfl (fun a105 ha105 => ?_)
          refine Sg.g (fun _ => ?_)
          refine Sg.let_xu ha105 rfl (fun a115 ha115 => ?_)
          refine Sg.g (fun _ => ?_)
          refine Sg.let_xu ha115 rfl (fun a126 ha126 => ?_)
          refine Sg.let_xu ha126 rfl (fun a134 ha134 => ?_)
          exact Sg.ret ha134
    · refine Sg.b (gb_X9_refuse Fg.rf) ha45 rfl (fun r59 a59 ha59 => ?_)
      refine Sg.bo ?_
      exact Sg.ret ha59
theorem gb_X1_readEntry_49 {a0 : IH} {N : Nat} {ah : IH}  (hah : Fg rgC lf_X1_readEntry_49 a0 ah) : Sg gpI rgC lf_X1_readEntry_49 a0 (G_X1_readEntry N 49 ah) := by
  unfold G_X1_readEntry
  refine Sg.b (gb_X9_peek Fg.rf) hah rfl (fun r2 a2 ha2 => ?_)
  refine Sg.b (gb_X11_isLetter Fg.rf) ha2 rfl (fun r5 a5 ha5 => ?_)
  refine Sg.ite ?_ ?_
  · exact gb_X1_readEntry_30_49 ha5
  · refine Sg.ite ?_ ?_
    · exact gb_X1_readEntry_30_49 ha5
    · refine Sg.b (gb_X9_refuse Fg.rf) ha5 rfl (fun r26 a26 ha26 => ?_)
      refine Sg.bo ?_
      exact Sg.ret ha26
theorem gb_X1_readText_7_49 {a0 : IH} {N : Nat}  : ∀ (n : Nat) {ah : IH} {v2 : Int}  (hah : Fg rgC lf_X1_readText_49 a0 ah), Sg gpI rgC lf_X1_readText_49 a0 (G_X1_readText_7 N 49 n ah v2) := by
  intro n
  induction n with
  | zero => intros; exact Sg.none
  | succ n ih =>
    intro ah v2  hah
    unfold G_X1_readText_7
    refine Sg.ite ?_ ?_
    · exact Sg.ret hah
    · refine Sg.bv (gb_X9_skipBlanks Fg.rf) hah rfl (fun a14 ha14 => ?_)
      refine Sg.b (gb_X9_atEnd Fg.rf) ha14 rfl (fun r18 a18 ha18 => ?_)
      refine Sg.ite ?_ ?_
      · refine Sg.b (gb_X1_readEntry_49 Fg.rf) ha18 rfl (fun r28 a28 ha28 => ?_)
        refine Sg.ite ?_ ?_
        · exact Sg.ret ha28
        · refine Sg.let_v (fun v2_36 => ?_)
          exact ih ha28
      · exact Sg.ret ha18
theorem gb_X1_readText_49 {a0 : IH} {N : Nat} {ah : IH}  (hah : Fg rgC lf_X1_readText_49 a0 ah) : Sg gpI rgC lf_X1_readText_49 a0 (G_X1_readText N 49 ah) := by
  unfold G_X1_readText
  refine Sg.let_xu hah rfl (fun a2 ha2 => ?_)
  refine Sg.let_v (fun v2_6 => ?_)
  exact gb_X1_readText_7_49 _ ha2
theorem gb_X11_follows {a0 : IH} {N : Nat} {ah : IH} {p1 : Int}  (hah : Fg rgC lf_X11_follows a0 ah) : Sg gpX rgC lf_X11_follows a0 (G_X11_follows N ah p1) := by
  unfold G_X11_follows
  refine Sg.bx (gb_X11_needBetween Fg.rf) hah rfl (fun a10 ha10 => ?_)
  refine Sg.bv (gb_X9_begin Fg.rf) ha10 rfl (fun a18 ha18 => ?_)
  refine Sg.b (gb_X1_readText_53 Fg.rf) ha18 rfl (fun r29 a29 ha29 => ?_)
  refine Sg.ite ?_ ?_
  · exact gb_X11_follows_59 ha29
  · refine Sg.bv (gb_X9_begin Fg.rf) ha29 rfl (fun a40 ha40 => ?_)
    refine Sg.b (gb_X1_readText_49 Fg.rf) ha40 rfl (fun r51 a51 ha51 => ?_)
    refine Sg.bv (gb_X11_changed Fg.rf) ha51 rfl (fun a56 ha56 => ?_)
    exact gb_X11_follows_59 ha56
theorem gb_X11_set {a0 : IH} {N : Nat} {ah : IH} {p1 : Int} {p2 : Int}  (hah : Fg rgC lf_X11_set a0 ah) : Sg gpX rgC lf_X11_set a0 (G_X11_set N ah p1 p2) := by
  unfold G_X11_set
  refine Sg.bx (gb_X11_needBetween Fg.rf) hah rfl (fun a5 ha5 => ?_)
  refine Sg.g (fun _ => ?_)
  refine Sg.bx (gb_X11_needBetween Fg.rf) ha5 rfl (fun a16 ha16 => ?_)
  refine Sg.g (fun _ => ?_)
  refine Sg.let_v (fun v3_25 => ?_)
  refine Sg.g (fun _ => ?_)
  refine Sg.let_xu ha16 rfl (fun a32 ha32 => ?_)
  refine Sg.bv (gb_X11_changed Fg.rf) ha32 rfl (fun a34 ha34 => ?_)
  exact Sg.ret ha34
theorem gb_X11_needElement_9 {a0 : IH} {N : Nat} {ah : IH}  (hah : Fg rgC lf_X11_needElement a0 ah) : Sg gpX rgC lf_X11_needElement a0 (G_X11_needElement_9 N ah) := by
  unfold G_X11_needElement_9
  refine Sg.let_xu hah rfl (fun a16 ha16 => ?_)
  exact Sg.ret ha16
theorem gb_X11_needElement {a0 : IH} {N : Nat} {ah : IH} {p1 : Int} {p2 : Int}  (hah : Fg rgC lf_X11_needElement a0 ah) : Sg gpX rgC lf_X11_needElement a0 (G_X11_needElement N ah p1 p2) := by
  unfold G_X11_needElement
  refine Sg.ite ?_ ?_
  · exact gb_X11_needElement_9 hah
  · refine Sg.ite ?_ ?_
    · exact Sg.ret hah
    · exact gb_X11_needElement_9 hah
theorem gb_X11_needWord {a0 : IH} {N : Nat} {ah : IH} {p1 : Int}  (hah : Fg rgC lf_X11_needWord a0 ah) : Sg gpX rgC lf_X11_needWord a0 (G_X11_needWord N ah p1) := by
  unfold G_X11_needWord
  refine Sg.bx (gb_X11_needElement Fg.rf) hah rfl (fun a9 ha9 => ?_)
  exact Sg.ret ha9
theorem gb_X2_weighWord {a0 : IH} {N : Nat} {ah : IH} {p1 : Int} {p2 : Int}  (hah : Fg rgC lf_X2_weighWord a0 ah) : Sg gpV rgC lf_X2_weighWord a0 (G_X2_weighWord N ah p1 p2) := by
  unfold G_X2_weighWord
  refine Sg.g (fun _ => ?_)
  refine Sg.let_xu hah rfl (fun a6 ha6 => ?_)
  refine Sg.bv (gb_X2_findLeast Fg.rf) ha6 rfl (fun a8 ha8 => ?_)
  exact Sg.ret ha8
theorem gb_X11_weigh {a0 : IH} {N : Nat} {ah : IH} {p1 : Int} {p2 : Int}  (hah : Fg rgC lf_X11_weigh a0 ah) : Sg gpX rgC lf_X11_weigh a0 (G_X11_weigh N ah p1 p2) := by
  unfold G_X11_weigh
  refine Sg.bx (gb_X11_needWord Fg.rf) hah rfl (fun a2 ha2 => ?_)
  refine Sg.bx (gb_X11_needBetween Fg.rf) ha2 rfl (fun a10 ha10 => ?_)
  refine Sg.g (fun _ => ?_)
  refine Sg.let_v (fun v3_22 => ?_)
  refine Sg.bv (gb_X2_weighWord Fg.rf) ha10 rfl (fun a29 ha29 => ?_)
  refine Sg.bv (gb_X11_changed Fg.rf) ha29 rfl (fun a33 ha33 => ?_)
  exact Sg.ret ha33
theorem gb_X11_needToken {a0 : IH} {N : Nat} {ah : IH} {p1 : Int}  (hah : Fg rgC lf_X11_needToken a0 ah) : Sg gpX rgC lf_X11_needToken a0 (G_X11_needToken N ah p1) := by
  unfold G_X11_needToken
  refine Sg.bx (gb_X11_needElement Fg.rf) hah rfl (fun a9 ha9 => ?_)
  exact Sg.ret ha9
theorem gb_X11_learn_91 {a0 : IH} {N : Nat} {ah : IH} {v2 : Int}  (hah : Fg rgC lf_X11_learn a0 ah) : Sg gpX rgC lf_X11_learn a0 (G_X11_learn_91 N ah v2) := by
  unfold G_X11_learn_91
  refine Sg.bv (gb_X11_changed Fg.rf) hah rfl (fun a92 ha92 => ?_)
  exact Sg.ret ha92
theorem gb_X11_learn {a0 : IH} {N : Nat} {ah : IH} {p1 : Int}  (hah : Fg rgC lf_X11_learn a0 ah) : Sg gpX rgC lf_X11_learn a0 (G_X11_learn N ah p1) := by
  unfold G_X11_learn
  refine Sg.bx (gb_X11_needToken Fg.rf) hah rfl (fun a2 ha2 => ?_)
  refine Sg.bv (gb_X0_lookAlone Fg.rf) ha2 rfl (fun a10 ha10 => ?_)
  refine Sg.b (gb_X0_mendedWord Fg.rf) ha10 rfl (fun r18 a18 ha18 => ?_)
  refine Sg.let_v (fun v2_21 => ?_)
  refine Sg.ite ?_ ?_
  · exact Sg.ret ha18
  · refine Sg.b (gb_X0_wordOf Fg.rf) ha18 rfl (fun r35 a35 ha35 => ?_)
    refine Sg.let_v (fun v3_38 => ?_)
    refine Sg.g (fun _ => ?_)
    refine Sg.bv (gb_X2_weighWord Fg.rf) ha35 rfl (fun a59 ha59 => ?_)
    refine Sg.ite ?_ ?_
    · exact gb_X11_learn_91 ha59
    · refine Sg.g (fun _ => ?_)
      refine Sg.bv (gb_X2_weighWord Fg.rf) ha59 rfl (fun a88 ha88 => ?_)
      exact gb_X11_learn_91 ha88
theorem gb_X11_told {a0 : IH} {N : Nat} {ah : IH} {p1 : Int}  (hah : Fg rgC lf_X11_told a0 ah) : Sg gpX rgC lf_X11_told a0 (G_X11_told N ah p1) := by
  unfold G_X11_told
  refine Sg.bx (gb_X11_needBetween Fg.rf) hah rfl (fun a5 ha5 => ?_)
  refine Sg.ite ?_ ?_
  · refine Sg.g (fun _ => ?_)
    exact Sg.ret ha5
  · refine Sg.ite ?_ ?_
    · refine Sg.g (fun _ => ?_)
      exact Sg.ret ha5
    · refine Sg.ite ?_ ?_
      · exact Sg.ret ha5
      · refine Sg.ite ?_ ?_
        · exact Sg.ret ha5
        · refine Sg.ite ?_ ?_
          · exact Sg.ret ha5
          · refine Sg.ite ?_ ?_
            · exact Sg.ret ha5
            · refine Sg.ite ?_ ?_
              · exact Sg.ret ha5
              · refine Sg.ite ?_ ?_
                · refine Sg.g (fun _ => ?_)
                  exact Sg.ret ha5
                · refine Sg.ite ?_ ?_
                  · refine Sg.g (fun _ => ?_)
                    exact Sg.ret ha5
                  · refine Sg.ite ?_ ?_
                    · refine Sg.g (fun _ => ?_)
                      exact Sg.ret ha5
                    · refine Sg.ite ?_ ?_
                      · refine Sg.g (fun _ => ?_)
                        exact Sg.ret ha5
                      · refine Sg.ite ?_ ?_
                        · refine Sg.g (fun _ => ?_)
                          exact Sg.ret ha5
                        · refine Sg.ite ?_ ?_
                          · refine Sg.g (fun _ => ?_)
                            exact Sg.ret ha5
                          · refine Sg.ite ?_ ?_
                            · exact Sg.ret ha5
                            · refine Sg.ite ?_ ?_
                              · exact Sg.ret ha5
                              · exact Sg.none
theorem gb_X11_word {a0 : IH} {N : Nat} {ah : IH} {p1 : Int} {p2 : Int}  (hah : Fg rgC lf_X11_word a0 ah) : Sg gpX rgC lf_X11_word a0 (G_X11_word N ah p1 p2) := by
  unfold G_X11_word
  refine Sg.bx (gb_X11_needWord Fg.rf) hah rfl (fun a2 ha2 => ?_)
  refine Sg.bx (gb_X11_needBetween Fg.rf) ha2 rfl (fun a9 ha9 => ?_)
  refine Sg.ite ?_ ?_
  · refine Sg.g (fun _ => ?_)
    refine Sg.g (fun _ => ?_)
    exact Sg.ret ha9
  · refine Sg.ite ?_ ?_
    · refine Sg.g (fun _ => ?_)
      refine Sg.g (fun _ => ?_)
      exact Sg.ret ha9
    · refine Sg.ite ?_ ?_
      · refine Sg.g (fun _ => ?_)
        exact Sg.ret ha9
      · refine Sg.ite ?_ ?_
        · refine Sg.g (fun _ => ?_)
          exact Sg.ret ha9
        · refine Sg.ite ?_ ?_
          · refine Sg.g (fun _ => ?_)
            exact Sg.ret ha9
          · exact Sg.none
theorem gb_X11_sign {a0 : IH} {N : Nat} {ah : IH} {p1 : Int} {p2 : Int}  (hah : Fg rgC lf_X11_sign a0 ah) : Sg gpX rgC lf_X11_sign a0 (G_X11_sign N ah p1 p2) := by
  unfold G_X11_sign
  refine Sg.bx (gb_X11_needWord Fg.rf) hah rfl (fun a2 ha2 => ?_)
  refine Sg.ite ?_ ?_
  · exact Sg.ret ha2
  · refine Sg.g (fun _ => ?_)
    refine Sg.ite ?_ ?_
    · exact Sg.ret ha2
    · refine Sg.b (gb_X2_signOf Fg.rf) ha2 rfl (fun r28 a28 ha28 => ?_)
      exact Sg.ret ha28
theorem gb_X11_find {a0 : IH} {N : Nat} {ah : IH} {p1 : Int}  (hah : Fg rgC lf_X11_find a0 ah) : Sg gpX rgC lf_X11_find a0 (G_X11_find N ah p1) := by
  unfold G_X11_find
  refine Sg.bx (gb_X11_needBetween Fg.rf) hah rfl (fun a10 ha10 => ?_)
  refine Sg.b (gb_X2_look_3 Fg.rf) ha10 rfl (fun r26 a26 ha26 => ?_)
  exact Sg.ret ha26
theorem gb_X11_needNode {a0 : IH} {N : Nat} {ah : IH} {p1 : Int}  (hah : Fg rgC lf_X11_needNode a0 ah) : Sg gpX rgC lf_X11_needNode a0 (G_X11_needNode N ah p1) := by
  unfold G_X11_needNode
  refine Sg.bx (gb_X11_needElement Fg.rf) hah rfl (fun a9 ha9 => ?_)
  exact Sg.ret ha9
theorem gb_X2_countChildren_12 {a0 : IH} {N : Nat}  : ∀ (n : Nat) {ah : IH} {v2 : Int} {v3 : Int} {v4 : Int}  (hah : Fg rgC lf_X2_countChildren a0 ah), Sg gpI rgC lf_X2_countChildren a0 (G_X2_countChildren_12 N n ah v2 v3 v4) := by
  intro n
  induction n with
  | zero => intros; exact Sg.none
  | succ n ih =>
    intro ah v2 v3 v4  hah
    unfold G_X2_countChildren_12
    refine Sg.ite ?_ ?_
    · exact Sg.ret hah
    · refine Sg.ite ?_ ?_
      · exact Sg.ret hah
      · refine Sg.let_v (fun v2_23 => ?_)
        refine Sg.g (fun _ => ?_)
        refine Sg.let_v (fun v3_32 => ?_)
        refine Sg.let_v (fun v4_33 => ?_)
        exact ih hah
theorem gb_X2_countChildren {a0 : IH} {N : Nat} {ah : IH} {p1 : Int}  (hah : Fg rgC lf_X2_countChildren a0 ah) : Sg gpI rgC lf_X2_countChildren a0 (G_X2_countChildren N ah p1) := by
  unfold G_X2_countChildren
  refine Sg.let_v (fun v2_1 => ?_)
  refine Sg.g (fun _ => ?_)
  refine Sg.let_v (fun v3_8 => ?_)
  refine Sg.let_v (fun v4_10 => ?_)
  exact gb_X2_countChildren_12 _ hah
theorem gb_X11_node {a0 : IH} {N : Nat} {ah : IH} {p1 : Int} {p2 : Int}  (hah : Fg rgC lf_X11_node a0 ah) : Sg gpX rgC lf_X11_node a0 (G_X11_node N ah p1 p2) := by
  unfold G_X11_node
  refine Sg.bx (gb_X11_needNode Fg.rf) hah rfl (fun a2 ha2 => ?_)
  refine Sg.bx (gb_X11_needBetween Fg.rf) ha2 rfl (fun a9 ha9 => ?_)
  refine Sg.ite ?_ ?_
  · refine Sg.g (fun _ => ?_)
    exact Sg.ret ha9
  · refine Sg.ite ?_ ?_
    · refine Sg.g (fun _ => ?_)
      exact Sg.ret ha9
    · refine Sg.ite ?_ ?_
      · refine Sg.g (fun _ => ?_)
        exact Sg.ret ha9
      · refine Sg.ite ?_ ?_
        · refine Sg.g (fun _ => ?_)
          exact Sg.ret ha9
        · refine Sg.ite ?_ ?_
          · refine Sg.g (fun _ => ?_)
            exact Sg.ret ha9
          · refine Sg.ite ?_ ?_
            · refine Sg.ite ?_ ?_
              · exact Sg.ret ha9
              · refine Sg.g (fun _ => ?_)
                exact Sg.ret ha9
            · refine Sg.ite ?_ ?_
              · refine Sg.b (gb_X2_countChildren Fg.rf) ha9 rfl (fun r107 a107 ha107 => ?_)
                exact Sg.ret ha107
              · exact Sg.none
theorem gb_X11_child {a0 : IH} {N : Nat} {ah : IH} {p1 : Int} {p2 : Int}  (hah : Fg rgC lf_X11_child a0 ah) : Sg gpX rgC lf_X11_child a0 (G_X11_child N ah p1 p2) := by
  unfold G_X11_child
  refine Sg.bx (gb_X11_needNode Fg.rf) hah rfl (fun a2 ha2 => ?_)
  refine Sg.b (gb_X2_childOf Fg.rf) ha2 rfl (fun r11 a11 ha11 => ?_)
  exact Sg.ret ha11
theorem gb_X11_needShape {a0 : IH} {N : Nat} {ah : IH} {p1 : Int}  (hah : Fg rgC lf_X11_needShape a0 ah) : Sg gpX rgC lf_X11_needShape a0 (G_X11_needShape N ah p1) := by
  unfold G_X11_needShape
  refine Sg.bx (gb_X11_needElement Fg.rf) hah rfl (fun a9 ha9 => ?_)
  exact Sg.ret ha9
theorem gb_X11_shape {a0 : IH} {N : Nat} {ah : IH} {p1 : Int} {p2 : Int}  (hah : Fg rgC lf_X11_shape a0 ah) : Sg gpX rgC lf_X11_shape a0 (G_X11_shape N ah p1 p2) := by
  unfold G_X11_shape
  refine Sg.bx (gb_X11_needShape Fg.rf) hah rfl (fun a2 ha2 => ?_)
  refine Sg.bx (gb_X11_needBetween Fg.rf) ha2 rfl (fun a9 ha9 => ?_)
  refine Sg.ite ?_ ?_
  · refine Sg.g (fun _ => ?_)
    exact Sg.ret ha9
  · refine Sg.ite ?_ ?_
    · refine Sg.g (fun _ => ?_)
      exact Sg.ret ha9
    · refine Sg.g (fun _ => ?_)
      exact Sg.ret ha9
theorem gb_X5_countBreaks_35_31 {a0 : IH} {N : Nat} {k9 : IH → Int → Int → Int → Option (Int × IH)} {ah : IH} {v1 : Int} {v2 : Int} {v3 : Int} (hk9 : ∀ {z0 : IH} {z1 : Int} {z2 : Int} {z3 : Int}, Fg rgC lf_X5_countBreaks_31 a0 z0 → Sg gpI rgC lf_X5_countBreaks_31 a0 (k9 z0 z1 z2 z3)) (hah : Fg rgC lf_X5_countBreaks_31 a0 ah) : Sg gpI rgC lf_X5_countBreaks_31 a0 (G_X5_countBreaks_35 N 31 k9 ah v1 v2 v3) := by
  unfold G_X5_countBreaks_35
  refine Sg.let_v (fun v3_35 => ?_)
  exact hk9 hah
theorem gb_X5_countBreaks_9_31 {a0 : IH} {N : Nat}  : ∀ (n : Nat) {ah : IH} {v1 : Int} {v2 : Int} {v3 : Int}  (hah : Fg rgC lf_X5_countBreaks_31 a0 ah), Sg gpI rgC lf_X5_countBreaks_31 a0 (G_X5_countBreaks_9 N 31 n ah v1 v2 v3) := by
  intro n
  induction n with
  | zero => intros; exact Sg.none
  | succ n ih =>
    intro ah v1 v2 v3  hah
    unfold G_X5_countBreaks_9
    refine Sg.g (fun _ => ?_)
    refine Sg.ite ?_ ?_
    · exact Sg.ret hah
    · refine Sg.g (fun _ => ?_)
      refine Sg.ite ?_ ?_
      · refine Sg.let_v (fun v2_32 => ?_)
        exact gb_X5_countBreaks_35_31 (fun h => ih h) hah
      · exact gb_X5_countBreaks_35_31 (fun h => ih h) hah
theorem gb_X5_countBreaks_31 {a0 : IH} {N : Nat} {ah : IH} {p1 : Int}  (hah : Fg rgC lf_X5_countBreaks_31 a0 ah) : Sg gpI rgC lf_X5_countBreaks_31 a0 (G_X5_countBreaks N 31 ah p1) := by
  unfold G_X5_countBreaks
  refine Sg.let_v (fun v2_1 => ?_)
  refine Sg.g (fun _ => ?_)
  refine Sg.let_v (fun v3_8 => ?_)
  exact gb_X5_countBreaks_9_31 _ hah
theorem gb_X5_readAs_48_31 {a0 : IH} {N : Nat} {k10 : IH → Int → Int → Int → Option (Int × IH)} {ah : IH} {v1 : Int} {v3 : Int} {v4 : Int} (hk10 : ∀ {z0 : IH} {z1 : Int} {z2 : Int} {z3 : Int}, Fg rgC lf_X5_readAs_31 a0 z0 → Sg gpI rgC lf_X5_readAs_31 a0 (k10 z0 z1 z2 z3)) (hah : Fg rgC lf_X5_readAs_31 a0 ah) : Sg gpI rgC lf_X5_readAs_31 a0 (G_X5_readAs_48 N 31 k10 ah v1 v3 v4) := by
  unfold G_X5_readAs_48
  refine Sg.ite ?_ ?_
  · exact Sg.ret hah
  · refine Sg.let_v (fun v4_55 => ?_)
    exact hk10 hah
theorem gb_X5_readAs_10_31 {a0 : IH} {N : Nat}  : ∀ (n : Nat) {ah : IH} {v1 : Int} {v3 : Int} {v4 : Int}  (hah : Fg rgC lf_X5_readAs_31 a0 ah), Sg gpI rgC lf_X5_readAs_31 a0 (G_X5_readAs_10 N 31 n ah v1 v3 v4) := by
  intro n
  induction n with
  | zero => intros; exact Sg.none
  | succ n ih =>
    intro ah v1 v3 v4  hah
    unfold G_X5_readAs_10
    refine Sg.g (fun _ => ?_)
    refine Sg.ite ?_ ?_
    · refine Sg.g (fun _ => ?_)
      exact Sg.ret hah
    · refine Sg.g (fun _ => ?_)
      refine Sg.ite ?_ ?_
      · exact gb_X5_readAs_48_31 (fun h => ih h) hah
      · refine Sg.g (fun _ => ?_)
        refine Sg.b (gb_X2_childOf Fg.rf) hah rfl (fun r44 a44 ha44 => ?_)
        refine Sg.let_v (fun v3_47 => ?_)
        exact gb_X5_readAs_48_31 (fun h => ih h) ha44
theorem gb_X5_readAs_31 {a0 : IH} {N : Nat} {ah : IH} {p1 : Int}  (hah : Fg rgC lf_X5_readAs_31 a0 ah) : Sg gpI rgC lf_X5_readAs_31 a0 (G_X5_readAs N 31 ah p1) := by
  unfold G_X5_readAs
  refine Sg.let_v (fun v3_1 => ?_)
  refine Sg.g (fun _ => ?_)
  refine Sg.let_v (fun v4_8 => ?_)
  exact gb_X5_readAs_10_31 _ hah
theorem gb_X11_token {a0 : IH} {N : Nat} {ah : IH} {p1 : Int} {p2 : Int}  (hah : Fg rgC lf_X11_token a0 ah) : Sg gpX rgC lf_X11_token a0 (G_X11_token N ah p1 p2) := by
  unfold G_X11_token
  refine Sg.bx (gb_X11_needToken Fg.rf) hah rfl (fun a2 ha2 => ?_)
  refine Sg.bx (gb_X11_needBetween Fg.rf) ha2 rfl (fun a10 ha10 => ?_)
  refine Sg.ite ?_ ?_
  · refine Sg.b (gb_X5_readAs_31 Fg.rf) ha10 rfl (fun r148 a148 ha148 => ?_)
    refine Sg.ite ?_ ?_
    · exact Sg.ret ha148
    · exact Sg.ret ha148
  · refine Sg.ite ?_ ?_
    · refine Sg.b (gb_X5_readAs_31 Fg.rf) ha10 rfl (fun r148 a148 ha148 => ?_)
      refine Sg.ite ?_ ?_
      · exact Sg.ret ha148
      · exact Sg.ret ha148
    · refine Sg.ite ?_ ?_
      · refine Sg.b (gb_X5_cellsOf_31 Fg.rf) ha10 rfl (fun r57 a57 ha57 => ?_)
        exact Sg.ret ha57
      · refine Sg.ite ?_ ?_
        · refine Sg.g (fun _ => ?_)
          exact Sg.ret ha10
        · refine Sg.ite ?_ ?_
          · refine Sg.b (gb_X5_countBreaks_31 Fg.rf) ha10 rfl (fun r76 a76 ha76 => ?_)
            exact Sg.ret ha76
          · refine Sg.ite ?_ ?_
            · refine Sg.g (fun _ => ?_)
              refine Sg.b (gb_X5_cellsOf_31 Fg.rf) ha10 rfl (fun r98 a98 ha98 => ?_)
              refine Sg.bv (gb_X4_ofCells Fg.rf) ha98 rfl (fun a101 ha101 => ?_)
              exact Sg.ret ha101
            · refine Sg.ite ?_ ?_
              · refine Sg.b (gb_X0_outsidePrice Fg.rf) ha10 rfl (fun r117 a117 ha117 => ?_)
                exact Sg.ret ha117
              · refine Sg.ite ?_ ?_
                · refine Sg.g (fun _ => ?_)
                  refine Sg.ite ?_ ?_
                  · exact Sg.ret ha10
                  · exact Sg.ret ha10
                · exact Sg.none
theorem gb_X5_leastOther_42_31 {a0 : IH} {N : Nat} {k4 : IH → Int → Int → Int → Option (Int × IH)} {ah : IH} {v1 : Int} {v3 : Int} {s0 : Int} (hk4 : ∀ {z0 : IH} {z1 : Int} {z2 : Int} {z3 : Int}, Fg rgC lf_X5_leastOther_31 a0 z0 → Sg gpI rgC lf_X5_leastOther_31 a0 (k4 z0 z1 z2 z3)) (hah : Fg rgC lf_X5_leastOther_31 a0 ah) : Sg gpI rgC lf_X5_leastOther_31 a0 (G_X5_leastOther_42 N 31 k4 ah v1 v3 s0) := by
  unfold G_X5_leastOther_42
  refine Sg.let_v (fun v2_42 => ?_)
  refine Sg.let_v (fun v3_43 => ?_)
  exact hk4 hah
theorem gb_X5_leastOther_4_31 {a0 : IH} {N : Nat}  : ∀ (n : Nat) {ah : IH} {v1 : Int} {v2 : Int} {v3 : Int}  (hah : Fg rgC lf_X5_leastOther_31 a0 ah), Sg gpI rgC lf_X5_leastOther_31 a0 (G_X5_leastOther_4 N 31 n ah v1 v2 v3) := by
  intro n
  induction n with
  | zero => intros; exact Sg.none
  | succ n ih =>
    intro ah v1 v2 v3  hah
    unfold G_X5_leastOther_4
    refine Sg.g (fun _ => ?_)
    refine Sg.ite ?_ ?_
    · exact Sg.ret hah
    · refine Sg.g (fun _ => ?_)
      refine Sg.let_v (fun v4_24 => ?_)
      refine Sg.ite ?_ ?_
      · exact gb_X5_leastOther_42_31 (fun h => ih h) hah
      · exact gb_X5_leastOther_42_31 (fun h => ih h) hah
theorem gb_X5_leastOther_31 {a0 : IH} {N : Nat} {ah : IH} {p1 : Int}  (hah : Fg rgC lf_X5_leastOther_31 a0 ah) : Sg gpI rgC lf_X5_leastOther_31 a0 (G_X5_leastOther N 31 ah p1) := by
  unfold G_X5_leastOther
  refine Sg.let_v (fun v2_1 => ?_)
  refine Sg.let_v (fun v3_3 => ?_)
  exact gb_X5_leastOther_4_31 _ hah
theorem gb_X11_cell {a0 : IH} {N : Nat} {ah : IH} {p1 : Int} {p2 : Int} {p3 : Int}  (hah : Fg rgC lf_X11_cell a0 ah) : Sg gpX rgC lf_X11_cell a0 (G_X11_cell N ah p1 p2 p3) := by
  unfold G_X11_cell
  refine Sg.bx (gb_X11_needToken Fg.rf) hah rfl (fun a2 ha2 => ?_)
  refine Sg.b (gb_X5_cellsOf_31 Fg.rf) ha2 rfl (fun r12 a12 ha12 => ?_)
  refine Sg.bx (gb_X11_needElement Fg.rf) ha12 rfl (fun a15 ha15 => ?_)
  refine Sg.bx (gb_X11_needBetween Fg.rf) ha15 rfl (fun a22 ha22 => ?_)
  refine Sg.g (fun _ => ?_)
  refine Sg.let_v (fun v4_36 => ?_)
  refine Sg.ite ?_ ?_
  · refine Sg.g (fun _ => ?_)
    exact Sg.ret ha22
  · refine Sg.ite ?_ ?_
    · refine Sg.g (fun _ => ?_)
      exact Sg.ret ha22
    · refine Sg.b (gb_X5_leastOther_31 Fg.rf) ha22 rfl (fun r92 a92 ha92 => ?_)
      exact Sg.ret ha92
theorem gb_X11_rest {a0 : IH} {N : Nat} {ah : IH} {p1 : Int} {p2 : Int}  (hah : Fg rgC lf_X11_rest a0 ah) : Sg gpX rgC lf_X11_rest a0 (G_X11_rest N ah p1 p2) := by
  unfold G_X11_rest
  refine Sg.bx (gb_X11_needToken Fg.rf) hah rfl (fun a2 ha2 => ?_)
  refine Sg.b (gb_X5_cellsOf_31 Fg.rf) ha2 rfl (fun r12 a12 ha12 => ?_)
  refine Sg.bx (gb_X11_needElement Fg.rf) ha12 rfl (fun a17 ha17 => ?_)
  refine Sg.g (fun _ => ?_)
  refine Sg.b (gb_X5_cellsOf_31 Fg.rf) ha17 rfl (fun r38 a38 ha38 => ?_)
  refine Sg.bv (gb_X4_ofCells Fg.rf) ha38 rfl (fun a41 ha41 => ?_)
  refine Sg.g (fun _ => ?_)
  exact Sg.ret ha41
theorem gb_X0_openedFor {a0 : IH} {N : Nat} {ah : IH} {p1 : Int} {p2 : Int}  (hah : Fg rgC lf_X0_openedFor a0 ah) : Sg gpI rgC lf_X0_openedFor a0 (G_X0_openedFor N ah p1 p2) := by
  unfold G_X0_openedFor
  refine Sg.ite ?_ ?_
  · exact Sg.ret hah
  · refine Sg.g (fun _ => ?_)
    refine Sg.ite ?_ ?_
    · exact Sg.ret hah
    · refine Sg.g (fun _ => ?_)
      exact Sg.ret hah
theorem gb_X11_best {a0 : IH} {N : Nat} {ah : IH} {p1 : Int} {p2 : Int} {p3 : Int}  (hah : Fg rgC lf_X11_best a0 ah) : Sg gpX rgC lf_X11_best a0 (G_X11_best N ah p1 p2 p3) := by
  unfold G_X11_best
  refine Sg.bx (gb_X11_needToken Fg.rf) hah rfl (fun a2 ha2 => ?_)
  refine Sg.bx (gb_X11_needBetween Fg.rf) ha2 rfl (fun a9 ha9 => ?_)
  refine Sg.bv (gb_X0_lookAlone Fg.rf) ha9 rfl (fun a17 ha17 => ?_)
  refine Sg.ite ?_ ?_
  · refine Sg.b (gb_X0_wordOf Fg.rf) ha17 rfl (fun r54 a54 ha54 => ?_)
    exact Sg.ret ha54
  · refine Sg.ite ?_ ?_
    · refine Sg.b (gb_X0_priceOf Fg.rf) ha17 rfl (fun r64 a64 ha64 => ?_)
      exact Sg.ret ha64
    · refine Sg.b (gb_X0_openedFor Fg.rf) ha17 rfl (fun r74 a74 ha74 => ?_)
      exact Sg.ret ha74
theorem gb_X11_price {a0 : IH} {N : Nat} {ah : IH} {p1 : Int} {p2 : Int}  (hah : Fg rgC lf_X11_price a0 ah) : Sg gpX rgC lf_X11_price a0 (G_X11_price N ah p1 p2) := by
  unfold G_X11_price
  refine Sg.bx (gb_X11_needToken Fg.rf) hah rfl (fun a2 ha2 => ?_)
  refine Sg.bx (gb_X11_needWord Fg.rf) ha2 rfl (fun a7 ha7 => ?_)
  refine Sg.bv (gb_X0_lookAlone Fg.rf) ha7 rfl (fun a15 ha15 => ?_)
  refine Sg.b (gb_X0_priceFor Fg.rf) ha15 rfl (fun r24 a24 ha24 => ?_)
  exact Sg.ret ha24
theorem gb_X11_within_58 {a0 : IH} {N : Nat} {k27 : IH → Int → Int → Int → Int → Option YR} {ah : IH} {v1 : Int} {v2 : Int} {v3 : Int} {v4 : Int} (hk27 : ∀ {z0 : IH} {z1 : Int} {z2 : Int} {z3 : Int} {z4 : Int}, Fg rgC lf_X11_within a0 z0 → Sg gpX rgC lf_X11_within a0 (k27 z0 z1 z2 z3 z4)) (hah : Fg rgC lf_X11_within a0 ah) : Sg gpX rgC lf_X11_within a0 (G_X11_within_58 N k27 ah v1 v2 v3 v4) := by
  unfold G_X11_within_58
  refine Sg.let_v (fun v4_58 => ?_)
  exact hk27 hah
theorem gb_X11_within_27 {a0 : IH} {N : Nat}  : ∀ (n : Nat) {ah : IH} {v1 : Int} {v2 : Int} {v3 : Int} {v4 : Int}  (hah : Fg rgC lf_X11_within a0 ah), Sg gpX rgC lf_X11_within a0 (G_X11_within_27 N n ah v1 v2 v3 v4) := by
  intro n
  induction n with
  | zero => intros; exact Sg.none
  | succ n ih =>
    intro ah v1 v2 v3 v4  hah
    unfold G_X11_within_27
    refine Sg.g (fun _ => ?_)
    refine Sg.ite ?_ ?_
    · exact Sg.ret hah
    · refine Sg.b (gb_X0_priceOf Fg.rf) hah rfl (fun r48 a48 ha48 => ?_)
      refine Sg.ite ?_ ?_
      · exact gb_X11_within_58 (fun h => ih h) ha48
      · refine Sg.let_v (fun v3_55 => ?_)
        exact gb_X11_within_58 (fun h => ih h) ha48
theorem gb_X11_within {a0 : IH} {N : Nat} {ah : IH} {p1 : Int} {p2 : Int}  (hah : Fg rgC lf_X11_within a0 ah) : Sg gpX rgC lf_X11_within a0 (G_X11_within N ah p1 p2) := by
  unfold G_X11_within
  refine Sg.bx (gb_X11_needToken Fg.rf) hah rfl (fun a2 ha2 => ?_)
  refine Sg.bx (gb_X11_needBetween Fg.rf) ha2 rfl (fun a11 ha11 => ?_)
  refine Sg.bv (gb_X0_lookAlone Fg.rf) ha11 rfl (fun a19 ha19 => ?_)
  refine Sg.let_v (fun v3_23 => ?_)
  refine Sg.let_v (fun v4_25 => ?_)
  exact gb_X11_within_27 _ ha19
theorem gb_X0_nextCostsMore_61 {a0 : IH} {N : Nat} {ah : IH} {v1 : Int} {s0 : Int}  (hah : Fg rgC lf_X0_nextCostsMore a0 ah) : Sg gpI rgC lf_X0_nextCostsMore a0 (G_X0_nextCostsMore_61 N ah v1 s0) := by
  unfold G_X0_nextCostsMore_61
  refine Sg.let_v (fun v3_61 => ?_)
  refine Sg.b (gb_X0_priceOf Fg.rf) hah rfl (fun r66 a66 ha66 => ?_)
  exact Sg.ret ha66
theorem gb_X0_nextCostsMore {a0 : IH} {N : Nat} {ah : IH} {p1 : Int}  (hah : Fg rgC lf_X0_nextCostsMore a0 ah) : Sg gpI rgC lf_X0_nextCostsMore a0 (G_X0_nextCostsMore N ah p1) := by
  unfold G_X0_nextCostsMore
  refine Sg.b (gb_X0_outsidePrice Fg.rf) hah rfl (fun r2 a2 ha2 => ?_)
  refine Sg.let_v (fun v2_5 => ?_)
  refine Sg.b (gb_X0_mendedWord Fg.rf) ha2 rfl (fun r8 a8 ha8 => ?_)
  refine Sg.ite ?_ ?_
  · refine Sg.g (fun _ => ?_)
    refine Sg.ite ?_ ?_
    · exact Sg.ret ha8
    · refine Sg.b (gb_X0_priceOf Fg.rf) ha8 rfl (fun r31 a31 ha31 => ?_)
      exact Sg.ret ha31
  · refine Sg.g (fun _ => ?_)
    refine Sg.ite ?_ ?_
    · refine Sg.b (gb_X0_priceOf Fg.rf) ha8 rfl (fun r55 a55 ha55 => ?_)
      exact gb_X0_nextCostsMore_61 ha55
    · exact gb_X0_nextCostsMore_61 ha8
theorem gb_X11_mended {a0 : IH} {N : Nat} {ah : IH} {p1 : Int} {p2 : Int}  (hah : Fg rgC lf_X11_mended a0 ah) : Sg gpX rgC lf_X11_mended a0 (G_X11_mended N ah p1 p2) := by
  unfold G_X11_mended
  refine Sg.bx (gb_X11_needToken Fg.rf) hah rfl (fun a2 ha2 => ?_)
  refine Sg.bx (gb_X11_needBetween Fg.rf) ha2 rfl (fun a9 ha9 => ?_)
  refine Sg.bv (gb_X0_lookAlone Fg.rf) ha9 rfl (fun a17 ha17 => ?_)
  refine Sg.ite ?_ ?_
  · refine Sg.b (gb_X0_mendedWord Fg.rf) ha17 rfl (fun r53 a53 ha53 => ?_)
    exact Sg.ret ha53
  · refine Sg.ite ?_ ?_
    · refine Sg.b (gb_X0_mendedPrice Fg.rf) ha17 rfl (fun r62 a62 ha62 => ?_)
      exact Sg.ret ha62
    · refine Sg.b (gb_X0_nextCostsMore Fg.rf) ha17 rfl (fun r71 a71 ha71 => ?_)
      exact Sg.ret ha71
theorem gb_X11_text {a0 : IH} {N : Nat} {ah : IH} {p1 : Int}  (hah : Fg rgC lf_X11_text a0 ah) : Sg gpX rgC lf_X11_text a0 (G_X11_text N ah p1) := by
  unfold G_X11_text
  refine Sg.bx (gb_X11_needBetween Fg.rf) hah rfl (fun a4 ha4 => ?_)
  refine Sg.bv (gb_X3_make Fg.rf) ha4 rfl (fun a11 ha11 => ?_)
  refine Sg.ite ?_ ?_
  · exact Sg.ret ha11
  · refine Sg.ite ?_ ?_
    · exact Sg.ret ha11
    · refine Sg.ite ?_ ?_
      · exact Sg.ret ha11
      · refine Sg.ite ?_ ?_
        · exact Sg.ret ha11
        · refine Sg.ite ?_ ?_
          · exact Sg.ret ha11
          · exact Sg.none
theorem gb_X11_lost {a0 : IH} {N : Nat} {ah : IH} {p1 : Int} {p2 : Int}  (hah : Fg rgC lf_X11_lost a0 ah) : Sg gpX rgC lf_X11_lost a0 (G_X11_lost N ah p1 p2) := by
  unfold G_X11_lost
  refine Sg.bx (gb_X11_needToken Fg.rf) hah rfl (fun a2 ha2 => ?_)
  refine Sg.bx (gb_X11_needBetween Fg.rf) ha2 rfl (fun a9 ha9 => ?_)
  refine Sg.bv (gb_X3_make Fg.rf) ha9 rfl (fun a16 ha16 => ?_)
  refine Sg.ite ?_ ?_
  · refine Sg.g (fun _ => ?_)
    refine Sg.bo ?_
    exact Sg.ret ha16
  · refine Sg.ite ?_ ?_
    · exact Sg.ret ha16
    · refine Sg.g (fun _ => ?_)
      refine Sg.ite ?_ ?_
      · exact Sg.ret ha16
      · exact Sg.ret ha16
theorem gb_X11_way {a0 : IH} {N : Nat} {ah : IH} {p1 : Int} {p2 : Int}  (hah : Fg rgC lf_X11_way a0 ah) : Sg gpX rgC lf_X11_way a0 (G_X11_way N ah p1 p2) := by
  unfold G_X11_way
  refine Sg.bx (gb_X11_needToken Fg.rf) hah rfl (fun a2 ha2 => ?_)
  refine Sg.bx (gb_X11_needBetween Fg.rf) ha2 rfl (fun a9 ha9 => ?_)
  refine Sg.b (gb_X11_findWay Fg.rf) ha9 rfl (fun r14 a14 ha14 => ?_)
  refine Sg.ite ?_ ?_
  · exact Sg.ret ha14
  · refine Sg.ite ?_ ?_
    · exact Sg.ret ha14
    · exact Sg.ret ha14
theorem gb_X11_edge_26 {a0 : IH} {N : Nat} {ah : IH} {v2 : Int} {v3 : Int} {s1 : Int} {s2 : Int}  (hah : Fg rgC lf_X11_edge a0 ah) : Sg gpX rgC lf_X11_edge a0 (G_X11_edge_26 N ah v2 v3 s1 s2) := by
  unfold G_X11_edge_26
  refine Sg.bx (gb_X11_needElement Fg.rf) hah rfl (fun a26 ha26 => ?_)
  refine Sg.bx (gb_X11_needBetween Fg.rf) ha26 rfl (fun a33 ha33 => ?_)
  refine Sg.g (fun _ => ?_)
  refine Sg.let_v (fun v4_45 => ?_)
  refine Sg.ite ?_ ?_
  · refine Sg.g (fun _ => ?_)
    exact Sg.ret ha33
  · refine Sg.ite ?_ ?_
    · refine Sg.g (fun _ => ?_)
      exact Sg.ret ha33
    · refine Sg.ite ?_ ?_
      · refine Sg.g (fun _ => ?_)
        exact Sg.ret ha33
      · refine Sg.ite ?_ ?_
        · refine Sg.g (fun _ => ?_)
          exact Sg.ret ha33
        · refine Sg.ite ?_ ?_
          · refine Sg.g (fun _ => ?_)
            exact Sg.ret ha33
          · refine Sg.ite ?_ ?_
            · refine Sg.g (fun _ => ?_)
              exact Sg.ret ha33
            · exact Sg.none
theorem gb_X11_edge {a0 : IH} {N : Nat} {ah : IH} {p1 : Int} {p2 : Int} {p3 : Int}  (hah : Fg rgC lf_X11_edge a0 ah) : Sg gpX rgC lf_X11_edge a0 (G_X11_edge N ah p1 p2 p3) := by
  unfold G_X11_edge
  refine Sg.bx (gb_X11_needToken Fg.rf) hah rfl (fun a2 ha2 => ?_)
  refine Sg.b (gb_X11_findWay Fg.rf) ha2 rfl (fun r9 a9 ha9 => ?_)
  refine Sg.ite ?_ ?_
  · exact gb_X11_edge_26 ha9
  · exact gb_X11_edge_26 ha9
theorem gb_X10_countShape_33 {a0 : IH} {N : Nat} {k4 : IH → Int → Int → Int → Option (Int × IH)} {ah : IH} {v1 : Int} {v2 : Int} {v3 : Int} (hk4 : ∀ {z0 : IH} {z1 : Int} {z2 : Int} {z3 : Int}, Fg rgC lf_X10_countShape a0 z0 → Sg gpI rgC lf_X10_countShape a0 (k4 z0 z1 z2 z3)) (hah : Fg rgC lf_X10_countShape a0 ah) : Sg gpI rgC lf_X10_countShape a0 (G_X10_countShape_33 N k4 ah v1 v2 v3) := by
  unfold G_X10_countShape_33
  refine Sg.let_v (fun v3_33 => ?_)
  exact hk4 hah
theorem gb_X10_countShape_4 {a0 : IH} {N : Nat}  : ∀ (n : Nat) {ah : IH} {v1 : Int} {v2 : Int} {v3 : Int}  (hah : Fg rgC lf_X10_countShape a0 ah), Sg gpI rgC lf_X10_countShape a0 (G_X10_countShape_4 N n ah v1 v2 v3) := by
  intro n
  induction n with
  | zero => intros; exact Sg.none
  | succ n ih =>
    intro ah v1 v2 v3  hah
    unfold G_X10_countShape_4
    refine Sg.ite ?_ ?_
    · exact Sg.ret hah
    · refine Sg.g (fun _ => ?_)
      refine Sg.g (fun _ => ?_)
      refine Sg.ite ?_ ?_
      · refine Sg.let_v (fun v2_30 => ?_)
        exact gb_X10_countShape_33 (fun h => ih h) hah
      · exact gb_X10_countShape_33 (fun h => ih h) hah
theorem gb_X10_countShape {a0 : IH} {N : Nat} {ah : IH} {p1 : Int}  (hah : Fg rgC lf_X10_countShape a0 ah) : Sg gpI rgC lf_X10_countShape a0 (G_X10_countShape N ah p1) := by
  unfold G_X10_countShape
  refine Sg.let_v (fun v2_1 => ?_)
  refine Sg.let_v (fun v3_3 => ?_)
  exact gb_X10_countShape_4 _ hah
theorem gb_X11_used_39 {a0 : IH} {N : Nat} {k9 : IH → Int → Int → Int → Option YR} {ah : IH} {v1 : Int} {v2 : Int} {v3 : Int} (hk9 : ∀ {z0 : IH} {z1 : Int} {z2 : Int} {z3 : Int}, Fg rgC lf_X11_used a0 z0 → Sg gpX rgC lf_X11_used a0 (k9 z0 z1 z2 z3)) (hah : Fg rgC lf_X11_used a0 ah) : Sg gpX rgC lf_X11_used a0 (G_X11_used_39 N k9 ah v1 v2 v3) := by
  unfold G_X11_used_39
  refine Sg.let_v (fun v3_39 => ?_)
  exact hk9 hah
theorem gb_X11_used_9 {a0 : IH} {N : Nat}  : ∀ (n : Nat) {ah : IH} {v1 : Int} {v2 : Int} {v3 : Int}  (hah : Fg rgC lf_X11_used a0 ah), Sg gpX rgC lf_X11_used a0 (G_X11_used_9 N n ah v1 v2 v3) := by
  intro n
  induction n with
  | zero => intros; exact Sg.none
  | succ n ih =>
    intro ah v1 v2 v3  hah
    unfold G_X11_used_9
    refine Sg.ite ?_ ?_
    · exact Sg.ret hah
    · refine Sg.b (gb_X11_findWay Fg.rf) hah rfl (fun r22 a22 ha22 => ?_)
      refine Sg.ite ?_ ?_
      · exact gb_X11_used_39 (fun h => ih h) ha22
      · refine Sg.b (gb_X10_countShape Fg.rf) ha22 rfl (fun r34 a34 ha34 => ?_)
        refine Sg.let_v (fun v2_38 => ?_)
        exact gb_X11_used_39 (fun h => ih h) ha34
theorem gb_X11_used {a0 : IH} {N : Nat} {ah : IH} {p1 : Int}  (hah : Fg rgC lf_X11_used a0 ah) : Sg gpX rgC lf_X11_used a0 (G_X11_used N ah p1) := by
  unfold G_X11_used
  refine Sg.bx (gb_X11_needShape Fg.rf) hah rfl (fun a2 ha2 => ?_)
  refine Sg.let_v (fun v2_6 => ?_)
  refine Sg.let_v (fun v3_8 => ?_)
  exact gb_X11_used_9 _ ha2
theorem gb_X1_dearOf_43_49 {a0 : IH} {N : Nat} {k8 : IH → Int → Int → Int → Int → Option (Int × IH)} {ah : IH} {v1 : Int} {v2 : Int} {v3 : Int} {v4 : Int} (hk8 : ∀ {z0 : IH} {z1 : Int} {z2 : Int} {z3 : Int} {z4 : Int}, Fg rgC lf_X1_dearOf_49 a0 z0 → Sg gpI rgC lf_X1_dearOf_49 a0 (k8 z0 z1 z2 z3 z4)) (hah : Fg rgC lf_X1_dearOf_49 a0 ah) : Sg gpI rgC lf_X1_dearOf_49 a0 (G_X1_dearOf_43 N 49 k8 ah v1 v2 v3 v4) := by
  unfold G_X1_dearOf_43
  refine Sg.let_v (fun v4_43 => ?_)
  exact hk8 hah
theorem gb_X1_dearOf_8_49 {a0 : IH} {N : Nat}  : ∀ (n : Nat) {ah : IH} {v1 : Int} {v2 : Int} {v3 : Int} {v4 : Int}  (hah : Fg rgC lf_X1_dearOf_49 a0 ah), Sg gpI rgC lf_X1_dearOf_49 a0 (G_X1_dearOf_8 N 49 n ah v1 v2 v3 v4) := by
  intro n
  induction n with
  | zero => intros; exact Sg.none
  | succ n ih =>
    intro ah v1 v2 v3 v4  hah
    unfold G_X1_dearOf_8
    refine Sg.ite ?_ ?_
    · exact Sg.ret hah
    · refine Sg.g (fun _ => ?_)
      refine Sg.ite ?_ ?_
      · refine Sg.g (fun _ => ?_)
        refine Sg.ite ?_ ?_
        · refine Sg.g (fun _ => ?_)
          exact Sg.ret hah
        · exact gb_X1_dearOf_43_49 (fun h => ih h) hah
      · exact gb_X1_dearOf_43_49 (fun h => ih h) hah
theorem gb_X1_dearOf_49 {a0 : IH} {N : Nat} {ah : IH} {p1 : Int} {p2 : Int} {p3 : Int}  (hah : Fg rgC lf_X1_dearOf_49 a0 ah) : Sg gpI rgC lf_X1_dearOf_49 a0 (G_X1_dearOf N 49 ah p1 p2 p3) := by
  unfold G_X1_dearOf
  refine Sg.let_v (fun v4_6 => ?_)
  exact gb_X1_dearOf_8_49 _ hah
theorem gb_X11_dear {a0 : IH} {N : Nat} {ah : IH} {p1 : Int} {p2 : Int}  (hah : Fg rgC lf_X11_dear a0 ah) : Sg gpX rgC lf_X11_dear a0 (G_X11_dear N ah p1 p2) := by
  unfold G_X11_dear
  refine Sg.bx (gb_X11_needWord Fg.rf) hah rfl (fun a2 ha2 => ?_)
  refine Sg.bx (gb_X11_needWord Fg.rf) ha2 rfl (fun a7 ha7 => ?_)
  refine Sg.b (gb_X1_dearOf_49 Fg.rf) ha7 rfl (fun r23 a23 ha23 => ?_)
  exact Sg.ret ha23
theorem gb_X7_between_10 {a0 : IH} {N : Nat} {ah : IH}  (hah : Fg rgC lf_X7_between a0 ah) : Sg gpI rgC lf_X7_between a0 (G_X7_between_10 N ah) := by
  unfold G_X7_between_10
  exact Sg.ret hah
theorem gb_X7_between {a0 : IH} {N : Nat} {ah : IH} {p1 : Int} {p2 : Int}  (hah : Fg rgC lf_X7_between a0 ah) : Sg gpI rgC lf_X7_between a0 (G_X7_between N ah p1 p2) := by
  unfold G_X7_between
  refine Sg.ite ?_ ?_
  · exact gb_X7_between_10 hah
  · refine Sg.ite ?_ ?_
    · exact gb_X7_between_10 hah
    · refine Sg.b (gb_X1_dearOf_49 Fg.rf) hah rfl (fun r27 a27 ha27 => ?_)
      exact Sg.ret ha27
theorem gb_X7_weighChoice_172 {a0 : IH} {N : Nat} {k94 : IH → Int → Int → Int → Int → Int → Option IH} {ah : IH} {v1 : Int} {v3 : Int} {v4 : Int} {v5 : Int} {v6 : Int} (hk94 : ∀ {z0 : IH} {z1 : Int} {z2 : Int} {z3 : Int} {z4 : Int} {z5 : Int}, Fg rgC lf_X7_weighChoice a0 z0 → Sg gpV rgC lf_X7_weighChoice a0 (k94 z0 z1 z2 z3 z4 z5)) (hah : Fg rgC lf_X7_weighChoice a0 ah) : Sg gpV rgC lf_X7_weighChoice a0 (G_X7_weighChoice_172 N k94 ah v1 v3 v4 v5 v6) := by
  unfold G_X7_weighChoice_172
  refine Sg.let_v (fun v6_172 => ?_)
  exact hk94 hah
theorem gb_X7_wordOfChoice {a0 : IH} {N : Nat} {ah : IH} {p1 : Int} {p2 : Int}  (hah : Fg rgC lf_X7_wordOfChoice a0 ah) : Sg gpI rgC lf_X7_wordOfChoice a0 (G_X7_wordOfChoice N ah p1 p2) := by
  unfold G_X7_wordOfChoice
  refine Sg.ite ?_ ?_
  · exact Sg.ret hah
  · refine Sg.b (gb_X0_wordInside Fg.rf) hah rfl (fun r11 a11 ha11 => ?_)
    exact Sg.ret ha11
theorem gb_X7_weighChoice_94 {a0 : IH} {N : Nat}  : ∀ (n : Nat) {ah : IH} {v1 : Int} {v3 : Int} {v4 : Int} {v5 : Int} {v6 : Int}  (hah : Fg rgC lf_X7_weighChoice a0 ah), Sg gpV rgC lf_X7_weighChoice a0 (G_X7_weighChoice_94 N n ah v1 v3 v4 v5 v6) := by
  intro n
  induction n with
  | zero => intros; exact Sg.none
  | succ n ih =>
    intro ah v1 v3 v4 v5 v6  hah
    unfold G_X7_weighChoice_94
    refine Sg.ite ?_ ?_
    · exact Sg.ret hah
    · refine Sg.g (fun _ => ?_)
      refine Sg.let_v (fun v7_113 => ?_)
      refine Sg.b (gb_X7_wordOfChoice Fg.rf) hah rfl (fun r129 a129 ha129 => ?_)
      refine Sg.b (gb_X7_between Fg.rf) ha129 rfl (fun r132 a132 ha132 => ?_)
      refine Sg.let_v (fun v8_136 => ?_)
      refine Sg.ite ?_ ?_
      · exact gb_X7_weighChoice_172 (fun h => ih h) ha132
      · refine Sg.g (fun _ => ?_)
        refine Sg.ite ?_ ?_
        · exact gb_X7_weighChoice_172 (fun h => ih h) ha132
        · refine Sg.g (fun _ => ?_)
          refine Sg.let_xu ha132 rfl (fun a163 ha163 => ?_)
          refine Sg.g (fun _ => ?_)
          refine Sg.let_xu ha163 rfl (fun a171 ha171 => ?_)
          exact gb_X7_weighChoice_172 (fun h => ih h) ha171
theorem gb_X7_weighChoice_67 {a0 : IH} {N : Nat} {ah : IH} {v1 : Int} {v3 : Int} {v4 : Int} {s0 : Int}  (hah : Fg rgC lf_X7_weighChoice a0 ah) : Sg gpV rgC lf_X7_weighChoice a0 (G_X7_weighChoice_67 N ah v1 v3 v4 s0) := by
  unfold G_X7_weighChoice_67
  refine Sg.let_v (fun v5_67 => ?_)
  refine Sg.ite ?_ ?_
  · refine Sg.let_v (fun v6_92 => ?_)
    exact gb_X7_weighChoice_94 _ hah
  · refine Sg.g (fun _ => ?_)
    refine Sg.let_xu hah rfl (fun a89 ha89 => ?_)
    exact Sg.ret ha89
theorem gb_X7_weighChoice_41 {a0 : IH} {N : Nat} {ah : IH} {v1 : Int} {v2 : Int} {v3 : Int} {v4 : Int}  (hah : Fg rgC lf_X7_weighChoice a0 ah) : Sg gpV rgC lf_X7_weighChoice a0 (G_X7_weighChoice_41 N ah v1 v2 v3 v4) := by
  unfold G_X7_weighChoice_41
  refine Sg.ite ?_ ?_
  · refine Sg.b (gb_X0_outsidePrice Fg.rf) hah rfl (fun r52 a52 ha52 => ?_)
    exact gb_X7_weighChoice_67 ha52
  · refine Sg.b (gb_X0_priceOf Fg.rf) hah rfl (fun r64 a64 ha64 => ?_)
    exact gb_X7_weighChoice_67 ha64
theorem gb_X7_weighChoice {a0 : IH} {N : Nat} {ah : IH} {p1 : Int} {p2 : Int}  (hah : Fg rgC lf_X7_weighChoice a0 ah) : Sg gpV rgC lf_X7_weighChoice a0 (G_X7_weighChoice N ah p1 p2) := by
  unfold G_X7_weighChoice
  refine Sg.let_v (fun v3_5 => ?_)
  refine Sg.b (gb_X7_wordOfChoice Fg.rf) hah rfl (fun r9 a9 ha9 => ?_)
  refine Sg.let_v (fun v4_12 => ?_)
  refine Sg.g (fun _ => ?_)
  refine Sg.let_xu ha9 rfl (fun a21 ha21 => ?_)
  refine Sg.g (fun _ => ?_)
  refine Sg.let_xu ha21 rfl (fun a28 ha28 => ?_)
  refine Sg.ite ?_ ?_
  · refine Sg.ite ?_ ?_
    · exact gb_X7_weighChoice_41 ha28
    · exact Sg.ret ha28
  · exact gb_X7_weighChoice_41 ha28
theorem gb_X7_make_32 {a0 : IH} {N : Nat} {k18 : IH → Int → Option IH} (hk18 : ∀ {z0 : IH} {z1 : Int}, Fg rgC lf_X7_make a0 z0 → Sg gpV rgC lf_X7_make a0 (k18 z0 z1)) : ∀ (n : Nat) {ah : IH} {v1 : Int} {v2 : Int}  (hah : Fg rgC lf_X7_make a0 ah), Sg gpV rgC lf_X7_make a0 (G_X7_make_32 N k18 n ah v1 v2) := by
  intro n
  induction n with
  | zero => intros; exact Sg.none
  | succ n ih =>
    intro ah v1 v2  hah
    unfold G_X7_make_32
    refine Sg.ite ?_ ?_
    · refine Sg.let_v (fun v1_49 => ?_)
      exact hk18 hah
    · refine Sg.bv (gb_X7_weighChoice Fg.rf) hah rfl (fun a40 ha40 => ?_)
      refine Sg.let_v (fun v2_43 => ?_)
      exact ih ha40
theorem gb_X7_say_37 {a0 : IH} {N : Nat} {k15 : IH → Int → Int → Option IH} {ah : IH} {v1 : Int} {v2 : Int} (hk15 : ∀ {z0 : IH} {z1 : Int} {z2 : Int}, Fg rgC lf_X7_say a0 z0 → Sg gpV rgC lf_X7_say a0 (k15 z0 z1 z2)) (hah : Fg rgC lf_X7_say a0 ah) : Sg gpV rgC lf_X7_say a0 (G_X7_say_37 N k15 ah v1 v2) := by
  unfold G_X7_say_37
  refine Sg.let_v (fun v2_37 => ?_)
  exact hk15 hah
theorem gb_X7_say_121 {a0 : IH} {N : Nat} {k55 : IH → Int → Int → Option IH} {ah : IH} {v1 : Int} {v2 : Int} {s1 : Int} {s2 : Int} (hk55 : ∀ {z0 : IH} {z1 : Int} {z2 : Int}, Fg rgC lf_X7_say a0 z0 → Sg gpV rgC lf_X7_say a0 (k55 z0 z1 z2)) (hah : Fg rgC lf_X7_say a0 ah) : Sg gpV rgC lf_X7_say a0 (G_X7_say_121 N k55 ah v1 v2 s1 s2) := by
  unfold G_X7_say_121
  refine Sg.let_xu hah rfl (fun a122 ha122 => ?_)
  refine Sg.g (fun _ => ?_)
  refine Sg.let_v (fun v1_135 => ?_)
  refine Sg.let_v (fun v2_136 => ?_)
  exact hk55 ha122
theorem gb_X7_say_95 {a0 : IH} {N : Nat} {k55 : IH → Int → Int → Option IH} {ah : IH} {v1 : Int} {v2 : Int} {v3 : Int} {s1 : Int} {s2 : Int} (hk55 : ∀ {z0 : IH} {z1 : Int} {z2 : Int}, Fg rgC lf_X7_say a0 z0 → Sg gpV rgC lf_X7_say a0 (k55 z0 z1 z2)) (hah : Fg rgC lf_X7_say a0 ah) : Sg gpV rgC lf_X7_say a0 (G_X7_say_95 N k55 ah v1 v2 v3 s1 s2) := by
  unfold G_X7_say_95
  refine Sg.let_xu hah rfl (fun a96 ha96 => ?_)
  refine Sg.b (gb_X0_mendedWord Fg.rf) ha96 rfl (fun r110 a110 ha110 => ?_)
  refine Sg.ite ?_ ?_
  · exact gb_X7_say_121 hk55 ha110
  · exact gb_X7_say_121 hk55 ha110
theorem gb_X7_say_55 {a0 : IH} {N : Nat}  : ∀ (n : Nat) {ah : IH} {v1 : Int} {v2 : Int}  (hah : Fg rgC lf_X7_say a0 ah), Sg gpV rgC lf_X7_say a0 (G_X7_say_55 N n ah v1 v2) := by
  intro n
  induction n with
  | zero => intros; exact Sg.none
  | succ n ih =>
    intro ah v1 v2  hah
    unfold G_X7_say_55
    refine Sg.ite ?_ ?_
    · exact Sg.ret hah
    · refine Sg.b (gb_X7_wordOfChoice Fg.rf) hah rfl (fun r69 a69 ha69 => ?_)
      refine Sg.let_v (fun v3_72 => ?_)
      refine Sg.g (fun _ => ?_)
      refine Sg.let_xu ha69 rfl (fun a79 ha79 => ?_)
      refine Sg.ite ?_ ?_
      · exact gb_X7_say_95 (fun h => ih h) ha79
      · exact gb_X7_say_95 (fun h => ih h) ha79
theorem gb_X7_say_15 {a0 : IH} {N : Nat}  : ∀ (n : Nat) {ah : IH} {v1 : Int} {v2 : Int}  (hah : Fg rgC lf_X7_say a0 ah), Sg gpV rgC lf_X7_say a0 (G_X7_say_15 N n ah v1 v2) := by
  intro n
  induction n with
  | zero => intros; exact Sg.none
  | succ n ih =>
    intro ah v1 v2  hah
    unfold G_X7_say_15
    refine Sg.ite ?_ ?_
    · refine Sg.g (fun _ => ?_)
      refine Sg.let_xu hah rfl (fun a50 ha50 => ?_)
      refine Sg.let_v (fun v2_54 => ?_)
      exact gb_X7_say_55 _ ha50
    · refine Sg.g (fun _ => ?_)
      refine Sg.g (fun _ => ?_)
      refine Sg.ite ?_ ?_
      · exact gb_X7_say_37 (fun h => ih h) hah
      · refine Sg.let_v (fun v1_36 => ?_)
        exact gb_X7_say_37 (fun h => ih h) hah
theorem gb_X7_say {a0 : IH} {N : Nat} {ah : IH}  (hah : Fg rgC lf_X7_say a0 ah) : Sg gpV rgC lf_X7_say a0 (G_X7_say N ah) := by
  unfold G_X7_say
  refine Sg.ite ?_ ?_
  · exact Sg.ret hah
  · refine Sg.let_v (fun v1_12 => ?_)
    refine Sg.let_v (fun v2_14 => ?_)
    exact gb_X7_say_15 _ hah
theorem gb_X7_make_18 {a0 : IH} {N : Nat}  : ∀ (n : Nat) {ah : IH} {v1 : Int}  (hah : Fg rgC lf_X7_make a0 ah), Sg gpV rgC lf_X7_make a0 (G_X7_make_18 N n ah v1) := by
  intro n
  induction n with
  | zero => intros; exact Sg.none
  | succ n ih =>
    intro ah v1  hah
    unfold G_X7_make_18
    refine Sg.ite ?_ ?_
    · refine Sg.let_xu hah rfl (fun a57 ha57 => ?_)
      refine Sg.let_xu ha57 rfl (fun a62 ha62 => ?_)
      refine Sg.let_xu ha62 rfl (fun a67 ha67 => ?_)
      refine Sg.bv (gb_X7_say Fg.rf) ha67 rfl (fun a71 ha71 => ?_)
      refine Sg.let_xu ha71 rfl (fun a76 ha76 => ?_)
      exact Sg.ret ha76
    · refine Sg.bv (gb_X0_lookAlone Fg.rf) hah rfl (fun a27 ha27 => ?_)
      refine Sg.let_v (fun v2_31 => ?_)
      exact gb_X7_make_32 (fun h => ih h) _ ha27
theorem gb_X7_make {a0 : IH} {N : Nat} {ah : IH}  (hah : Fg rgC lf_X7_make a0 ah) : Sg gpV rgC lf_X7_make a0 (G_X7_make N ah) := by
  unfold G_X7_make
  refine Sg.ite ?_ ?_
  · refine Sg.let_v (fun v1_17 => ?_)
    exact gb_X7_make_18 _ hah
  · exact Sg.ret hah
theorem gb_X11_sentence {a0 : IH} {N : Nat} {ah : IH} {p1 : Int}  (hah : Fg rgC lf_X11_sentence a0 ah) : Sg gpX rgC lf_X11_sentence a0 (G_X11_sentence N ah p1) := by
  unfold G_X11_sentence
  refine Sg.bx (gb_X11_needBetween Fg.rf) hah rfl (fun a4 ha4 => ?_)
  refine Sg.bv (gb_X7_make Fg.rf) ha4 rfl (fun a11 ha11 => ?_)
  refine Sg.ite ?_ ?_
  · exact Sg.ret ha11
  · refine Sg.ite ?_ ?_
    · exact Sg.ret ha11
    · exact Sg.ret ha11
theorem gb_X11_said {a0 : IH} {N : Nat} {ah : IH} {p1 : Int}  (hah : Fg rgC lf_X11_said a0 ah) : Sg gpX rgC lf_X11_said a0 (G_X11_said N ah p1) := by
  unfold G_X11_said
  refine Sg.bx (gb_X11_needToken Fg.rf) hah rfl (fun a2 ha2 => ?_)
  refine Sg.bv (gb_X7_make Fg.rf) ha2 rfl (fun a9 ha9 => ?_)
  refine Sg.g (fun _ => ?_)
  exact Sg.ret ha9
theorem gb_X11_apart {a0 : IH} {N : Nat} {ah : IH} {p1 : Int} {p2 : Int}  (hah : Fg rgC lf_X11_apart a0 ah) : Sg gpX rgC lf_X11_apart a0 (G_X11_apart N ah p1 p2) := by
  unfold G_X11_apart
  refine Sg.bx (gb_X11_needWord Fg.rf) hah rfl (fun a2 ha2 => ?_)
  refine Sg.bx (gb_X11_needWord Fg.rf) ha2 rfl (fun a7 ha7 => ?_)
  refine Sg.b (gb_X11_costBetween Fg.rf) ha7 rfl (fun r13 a13 ha13 => ?_)
  exact Sg.ret ha13
theorem gb_X11_twin_77 {a0 : IH} {N : Nat} {k20 : IH → Int → Int → Int → Int → Int → Option YR} {ah : IH} {v1 : Int} {v2 : Int} {v3 : Int} {v4 : Int} {v5 : Int} (hk20 : ∀ {z0 : IH} {z1 : Int} {z2 : Int} {z3 : Int} {z4 : Int} {z5 : Int}, Fg rgC lf_X11_twin a0 z0 → Sg gpX rgC lf_X11_twin a0 (k20 z0 z1 z2 z3 z4 z5)) (hah : Fg rgC lf_X11_twin a0 ah) : Sg gpX rgC lf_X11_twin a0 (G_X11_twin_77 N k20 ah v1 v2 v3 v4 v5) := by
  unfold G_X11_twin_77
  refine Sg.let_v (fun v5_77 => ?_)
  exact hk20 hah
theorem gb_X11_twin_70 {a0 : IH} {N : Nat} {k20 : IH → Int → Int → Int → Int → Int → Option YR} {ah : IH} {v1 : Int} {v2 : Int} {v5 : Int} {v6 : Int} (hk20 : ∀ {z0 : IH} {z1 : Int} {z2 : Int} {z3 : Int} {z4 : Int} {z5 : Int}, Fg rgC lf_X11_twin a0 z0 → Sg gpX rgC lf_X11_twin a0 (k20 z0 z1 z2 z3 z4 z5)) (hah : Fg rgC lf_X11_twin a0 ah) : Sg gpX rgC lf_X11_twin a0 (G_X11_twin_70 N k20 ah v1 v2 v5 v6) := by
  unfold G_X11_twin_70
  refine Sg.let_v (fun v3_72 => ?_)
  refine Sg.let_v (fun v4_75 => ?_)
  exact gb_X11_twin_77 hk20 hah
theorem gb_X11_twin_49 {a0 : IH} {N : Nat} {k20 : IH → Int → Int → Int → Int → Int → Option YR} {ah : IH} {v1 : Int} {v2 : Int} {v3 : Int} {v4 : Int} {v5 : Int} {s0 : Int} (hk20 : ∀ {z0 : IH} {z1 : Int} {z2 : Int} {z3 : Int} {z4 : Int} {z5 : Int}, Fg rgC lf_X11_twin a0 z0 → Sg gpX rgC lf_X11_twin a0 (k20 z0 z1 z2 z3 z4 z5)) (hah : Fg rgC lf_X11_twin a0 ah) : Sg gpX rgC lf_X11_twin a0 (G_X11_twin_49 N k20 ah v1 v2 v3 v4 v5 s0) := by
  unfold G_X11_twin_49
  refine Sg.let_v (fun v6_49 => ?_)
  refine Sg.ite ?_ ?_
  · exact gb_X11_twin_77 hk20 hah
  · refine Sg.ite ?_ ?_
    · exact gb_X11_twin_70 hk20 hah
    · refine Sg.ite ?_ ?_
      · exact gb_X11_twin_77 hk20 hah
      · exact gb_X11_twin_70 hk20 hah
theorem gb_X11_twin_20 {a0 : IH} {N : Nat}  : ∀ (n : Nat) {ah : IH} {v1 : Int} {v2 : Int} {v3 : Int} {v4 : Int} {v5 : Int}  (hah : Fg rgC lf_X11_twin a0 ah), Sg gpX rgC lf_X11_twin a0 (G_X11_twin_20 N n ah v1 v2 v3 v4 v5) := by
  intro n
  induction n with
  | zero => intros; exact Sg.none
  | succ n ih =>
    intro ah v1 v2 v3 v4 v5  hah
    unfold G_X11_twin_20
    refine Sg.ite ?_ ?_
    · refine Sg.ite ?_ ?_
      · exact Sg.ret hah
      · exact Sg.ret hah
    · refine Sg.ite ?_ ?_
      · exact gb_X11_twin_49 (fun h => ih h) hah
      · refine Sg.b (gb_X11_costBetween Fg.rf) hah rfl (fun r46 a46 ha46 => ?_)
        exact gb_X11_twin_49 (fun h => ih h) ha46
theorem gb_X11_twin {a0 : IH} {N : Nat} {ah : IH} {p1 : Int} {p2 : Int}  (hah : Fg rgC lf_X11_twin a0 ah) : Sg gpX rgC lf_X11_twin a0 (G_X11_twin N ah p1 p2) := by
  unfold G_X11_twin
  refine Sg.bx (gb_X11_needWord Fg.rf) hah rfl (fun a2 ha2 => ?_)
  refine Sg.bx (gb_X11_needBetween Fg.rf) ha2 rfl (fun a9 ha9 => ?_)
  refine Sg.let_v (fun v3_13 => ?_)
  refine Sg.let_v (fun v4_15 => ?_)
  refine Sg.let_v (fun v5_18 => ?_)
  exact gb_X11_twin_20 _ ha9
theorem gb_X11_twins_73 {a0 : IH} {N : Nat} {k13 : IH → Int → Int → Int → Option YR} {k27 : IH → Int → Int → Int → Int → Option YR} {ah : IH} {v1 : Int} {v2 : Int} {v3 : Int} {v4 : Int} (hk13 : ∀ {z0 : IH} {z1 : Int} {z2 : Int} {z3 : Int}, Fg rgC lf_X11_twins a0 z0 → Sg gpX rgC lf_X11_twins a0 (k13 z0 z1 z2 z3)) (hk27 : ∀ {z0 : IH} {z1 : Int} {z2 : Int} {z3 : Int} {z4 : Int}, Fg rgC lf_X11_twins a0 z0 → Sg gpX rgC lf_X11_twins a0 (k27 z0 z1 z2 z3 z4)) (hah : Fg rgC lf_X11_twins a0 ah) : Sg gpX rgC lf_X11_twins a0 (G_X11_twins_73 N k13 k27 ah v1 v2 v3 v4) := by
  unfold G_X11_twins_73
  refine Sg.let_v (fun v4_73 => ?_)
  exact hk27 hah
theorem gb_X11_twins_56 {a0 : IH} {N : Nat} {k13 : IH → Int → Int → Int → Option YR} {k27 : IH → Int → Int → Int → Int → Option YR} {ah : IH} {v1 : Int} {v2 : Int} {v3 : Int} {v4 : Int} {s0 : Int} (hk13 : ∀ {z0 : IH} {z1 : Int} {z2 : Int} {z3 : Int}, Fg rgC lf_X11_twins a0 z0 → Sg gpX rgC lf_X11_twins a0 (k13 z0 z1 z2 z3)) (hk27 : ∀ {z0 : IH} {z1 : Int} {z2 : Int} {z3 : Int} {z4 : Int}, Fg rgC lf_X11_twins a0 z0 → Sg gpX rgC lf_X11_twins a0 (k27 z0 z1 z2 z3 z4)) (hah : Fg rgC lf_X11_twins a0 ah) : Sg gpX rgC lf_X11_twins a0 (G_X11_twins_56 N k13 k27 ah v1 v2 v3 v4 s0) := by
  unfold G_X11_twins_56
  refine Sg.let_v (fun v5_56 => ?_)
  refine Sg.ite ?_ ?_
  · exact gb_X11_twins_73 hk13 hk27 hah
  · refine Sg.ite ?_ ?_
    · exact gb_X11_twins_73 hk13 hk27 hah
    · refine Sg.let_v (fun v2_70 => ?_)
      exact gb_X11_twins_73 hk13 hk27 hah
theorem gb_X11_twins_27 {a0 : IH} {N : Nat} {k13 : IH → Int → Int → Int → Option YR} (hk13 : ∀ {z0 : IH} {z1 : Int} {z2 : Int} {z3 : Int}, Fg rgC lf_X11_twins a0 z0 → Sg gpX rgC lf_X11_twins a0 (k13 z0 z1 z2 z3)) : ∀ (n : Nat) {ah : IH} {v1 : Int} {v2 : Int} {v3 : Int} {v4 : Int}  (hah : Fg rgC lf_X11_twins a0 ah), Sg gpX rgC lf_X11_twins a0 (G_X11_twins_27 N k13 n ah v1 v2 v3 v4) := by
  intro n
  induction n with
  | zero => intros; exact Sg.none
  | succ n ih =>
    intro ah v1 v2 v3 v4  hah
    unfold G_X11_twins_27
    refine Sg.ite ?_ ?_
    · refine Sg.let_v (fun v3_79 => ?_)
      exact hk13 hah
    · refine Sg.ite ?_ ?_
      · exact gb_X11_twins_56 hk13 (fun h => ih h) hah
      · refine Sg.b (gb_X11_costBetween Fg.rf) hah rfl (fun r53 a53 ha53 => ?_)
        exact gb_X11_twins_56 hk13 (fun h => ih h) ha53
theorem gb_X11_twins_13 {a0 : IH} {N : Nat}  : ∀ (n : Nat) {ah : IH} {v1 : Int} {v2 : Int} {v3 : Int}  (hah : Fg rgC lf_X11_twins a0 ah), Sg gpX rgC lf_X11_twins a0 (G_X11_twins_13 N n ah v1 v2 v3) := by
  intro n
  induction n with
  | zero => intros; exact Sg.none
  | succ n ih =>
    intro ah v1 v2 v3  hah
    unfold G_X11_twins_13
    refine Sg.ite ?_ ?_
    · exact Sg.ret hah
    · refine Sg.let_v (fun v4_25 => ?_)
      exact gb_X11_twins_27 (fun h => ih h) _ hah
theorem gb_X11_twins {a0 : IH} {N : Nat} {ah : IH} {p1 : Int}  (hah : Fg rgC lf_X11_twins a0 ah) : Sg gpX rgC lf_X11_twins a0 (G_X11_twins N ah p1) := by
  unfold G_X11_twins
  refine Sg.bx (gb_X11_needBetween Fg.rf) hah rfl (fun a6 ha6 => ?_)
  refine Sg.let_v (fun v2_10 => ?_)
  refine Sg.let_v (fun v3_12 => ?_)
  exact gb_X11_twins_13 _ ha6
