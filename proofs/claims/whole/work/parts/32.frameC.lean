abbrev lf_X9_add : List Nat := [3, 1201]
theorem fb_X9_add_3 {a0 : AH} {N : Nat}  : ∀ (n : Nat) {ah : AH} {v1 : Int32} {v2 : Int32}  (hah : Fr rgC lf_X9_add a0 ah), Sf hpV rgC lf_X9_add a0 (F_X9_add_3 N n ah v1 v2) := by
  intro n
  induction n with
  | zero => intros; exact Sf.none
  | succ n ih =>
    intro ah v1 v2  hah
    unfold F_X9_add_3
    refine Sf.ite ?_ ?_
    · exact Sf.ret hah
    · refine Sf.ite ?_ ?_
      · exact Sf.ret hah
      · refine Sf.g (fun _ => ?_)
        refine Sf.let_xu hah rfl (fun a32 ha32 => ?_)
        refine Sf.let_xu ha32 rfl (fun a40 ha40 => ?_)
        refine Sf.let_v (fun v2_43 => ?_)
        exact ih ha40
theorem fb_X9_add {a0 : AH} {N : Nat} {ah : AH} {p1 : Int32}  (hah : Fr rgC lf_X9_add a0 ah) : Sf hpV rgC lf_X9_add a0 (F_X9_add N ah p1) := by
  unfold F_X9_add
  refine Sf.let_v (fun v2_2 => ?_)
  exact fb_X9_add_3 _ hah
abbrev lf_X11_feed : List Nat := [3, 1201]
theorem fb_X11_feed {a0 : AH} {N : Nat} {ah : AH} {p1 : Int32} {p2 : Int32} {p3 : Int32} {p4 : Int32} {p5 : Int32}  (hah : Fr rgC lf_X11_feed a0 ah) : Sf hpI rgC lf_X11_feed a0 (F_X11_feed N ah p1 p2 p3 p4 p5) := by
  unfold F_X11_feed
  refine Sf.ite ?_ ?_
  · refine Sf.bv (fb_X9_add Fr.rf) hah rfl (fun a20 ha20 => ?_)
    refine Sf.bv (fb_X9_add Fr.rf) ha20 rfl (fun a28 ha28 => ?_)
    refine Sf.bv (fb_X9_add Fr.rf) ha28 rfl (fun a36 ha36 => ?_)
    refine Sf.bv (fb_X9_add Fr.rf) ha36 rfl (fun a45 ha45 => ?_)
    refine Sf.bv (fb_X9_add Fr.rf) ha45 rfl (fun a54 ha54 => ?_)
    exact Sf.ret ha54
  · exact Sf.ret hah
abbrev lf_X11_fault : List Nat := []
theorem fb_X11_fault {a0 : AH} {N : Nat} {ah : AH}  (hah : Fr rgC lf_X11_fault a0 ah) : Sf hpI rgC lf_X11_fault a0 (F_X11_fault N ah) := by
  unfold F_X11_fault
  exact Sf.ret hah
abbrev lf_X0_forgetAll : List Nat := [75]
theorem fb_X0_forgetAll_2 {a0 : AH} {N : Nat}  : ∀ (n : Nat) {ah : AH} {v1 : Int32}  (hah : Fr rgC lf_X0_forgetAll a0 ah), Sf hpV rgC lf_X0_forgetAll a0 (F_X0_forgetAll_2 N n ah v1) := by
  intro n
  induction n with
  | zero => intros; exact Sf.none
  | succ n ih =>
    intro ah v1  hah
    unfold F_X0_forgetAll_2
    refine Sf.ite ?_ ?_
    · exact Sf.ret hah
    · refine Sf.g (fun _ => ?_)
      refine Sf.let_xu hah rfl (fun a15 ha15 => ?_)
      refine Sf.let_v (fun v1_16 => ?_)
      exact ih ha15
theorem fb_X0_forgetAll {a0 : AH} {N : Nat} {ah : AH}  (hah : Fr rgC lf_X0_forgetAll a0 ah) : Sf hpV rgC lf_X0_forgetAll a0 (F_X0_forgetAll N ah) := by
  unfold F_X0_forgetAll
  refine Sf.let_v (fun v1_1 => ?_)
  exact fb_X0_forgetAll_2 _ hah
abbrev lf_X11_changed : List Nat := [75, 9003, 9404]
theorem fb_X11_changed {a0 : AH} {N : Nat} {ah : AH}  (hah : Fr rgC lf_X11_changed a0 ah) : Sf hpV rgC lf_X11_changed a0 (F_X11_changed N ah) := by
  unfold F_X11_changed
  refine Sf.bv (fb_X0_forgetAll Fr.rf) hah rfl (fun a4 ha4 => ?_)
  refine Sf.let_xu ha4 rfl (fun a12 ha12 => ?_)
  refine Sf.let_xu ha12 rfl (fun a20 ha20 => ?_)
  exact Sf.ret ha20
abbrev lf_X1_clear_49 : List Nat := [5901]
theorem fb_X1_clear_49 {a0 : AH} {N : Nat} {ah : AH}  (hah : Fr rgC lf_X1_clear_49 a0 ah) : Sf hpV rgC lf_X1_clear_49 a0 (F_X1_clear N 49 ah) := by
  unfold F_X1_clear
  refine Sf.let_xu hah rfl (fun a2 ha2 => ?_)
  exact Sf.ret ha2
abbrev lf_X2_addNode : List Nat := [9, 10, 11, 12, 13, 14, 15, 1405]
theorem fb_X2_addNode {a0 : AH} {N : Nat} {ah : AH} {p1 : Int32} {p2 : Int32}  (hah : Fr rgC lf_X2_addNode a0 ah) : Sf hpI rgC lf_X2_addNode a0 (F_X2_addNode N ah p1 p2) := by
  unfold F_X2_addNode
  refine Sf.let_v (fun v3_4 => ?_)
  refine Sf.ite ?_ ?_
  · refine Sf.let_xu hah rfl (fun a21 ha21 => ?_)
    refine Sf.g (fun _ => ?_)
    refine Sf.let_xu ha21 rfl (fun a30 ha30 => ?_)
    refine Sf.g (fun _ => ?_)
    refine Sf.let_xu ha30 rfl (fun a37 ha37 => ?_)
    refine Sf.g (fun _ => ?_)
    refine Sf.let_xu ha37 rfl (fun a44 ha44 => ?_)
    refine Sf.g (fun _ => ?_)
    refine Sf.let_xu ha44 rfl (fun a51 ha51 => ?_)
    refine Sf.g (fun _ => ?_)
    refine Sf.let_xu ha51 rfl (fun a58 ha58 => ?_)
    refine Sf.g (fun _ => ?_)
    refine Sf.let_xu ha58 rfl (fun a65 ha65 => ?_)
    refine Sf.g (fun _ => ?_)
    refine Sf.let_xu ha65 rfl (fun a72 ha72 => ?_)
    refine Sf.ite ?_ ?_
    · exact Sf.ret ha72
    · refine Sf.g (fun _ => ?_)
      refine Sf.g (fun _ => ?_)
      refine Sf.let_xu ha72 rfl (fun a88 ha88 => ?_)
      refine Sf.g (fun _ => ?_)
      refine Sf.let_xu ha88 rfl (fun a95 ha95 => ?_)
      exact Sf.ret ha95
  · exact Sf.ret hah
abbrev lf_X2_clear : List Nat := [9, 10, 11, 12, 13, 14, 15, 1400, 1405]
theorem fb_X2_clear {a0 : AH} {N : Nat} {ah : AH}  (hah : Fr rgC lf_X2_clear a0 ah) : Sf hpV rgC lf_X2_clear a0 (F_X2_clear N ah) := by
  unfold F_X2_clear
  refine Sf.let_xu hah rfl (fun a2 ha2 => ?_)
  refine Sf.let_xu ha2 rfl (fun a7 ha7 => ?_)
  refine Sf.b (fb_X2_addNode Fr.rf) ha7 rfl (fun r13 a13 ha13 => ?_)
  exact Sf.ret ha13
abbrev lf_X11_forget : List Nat := [9, 10, 11, 12, 13, 14, 15, 75, 1400, 1405, 5901, 9003, 9404]
theorem fb_X11_forget {a0 : AH} {N : Nat} {ah : AH}  (hah : Fr rgC lf_X11_forget a0 ah) : Sf hpI rgC lf_X11_forget a0 (F_X11_forget N ah) := by
  unfold F_X11_forget
  refine Sf.let_v (fun v1_7 => ?_)
  refine Sf.bv (fb_X2_clear Fr.rf) hah rfl (fun a12 ha12 => ?_)
  refine Sf.bv (fb_X1_clear_49 Fr.rf) ha12 rfl (fun a19 ha19 => ?_)
  refine Sf.bv (fb_X11_changed Fr.rf) ha19 rfl (fun a23 ha23 => ?_)
  exact Sf.ret ha23
abbrev lf_X0_keep : List Nat := [75, 76, 77, 78, 79]
theorem fb_X0_keep_22 {a0 : AH} {N : Nat}  : ∀ (n : Nat) {ah : AH} {v1 : Int32} {v2 : Int32}  (hah : Fr rgC lf_X0_keep a0 ah), Sf hpV rgC lf_X0_keep a0 (F_X0_keep_22 N n ah v1 v2) := by
  intro n
  induction n with
  | zero => intros; exact Sf.none
  | succ n ih =>
    intro ah v1 v2  hah
    unfold F_X0_keep_22
    refine Sf.ite ?_ ?_
    · exact Sf.ret hah
    · refine Sf.g (fun _ => ?_)
      refine Sf.g (fun _ => ?_)
      refine Sf.let_xu hah rfl (fun a52 ha52 => ?_)
      refine Sf.g (fun _ => ?_)
      refine Sf.g (fun _ => ?_)
      refine Sf.let_xu ha52 rfl (fun a72 ha72 => ?_)
      refine Sf.g (fun _ => ?_)
      refine Sf.g (fun _ => ?_)
      refine Sf.let_xu ha72 rfl (fun a92 ha92 => ?_)
      refine Sf.let_v (fun v2_93 => ?_)
      exact ih ha92
theorem fb_X0_keep {a0 : AH} {N : Nat} {ah : AH} {p1 : Int32}  (hah : Fr rgC lf_X0_keep a0 ah) : Sf hpV rgC lf_X0_keep a0 (F_X0_keep N ah p1) := by
  unfold F_X0_keep
  refine Sf.g (fun _ => ?_)
  refine Sf.let_xu hah rfl (fun a6 ha6 => ?_)
  refine Sf.g (fun _ => ?_)
  refine Sf.let_xu ha6 rfl (fun a19 ha19 => ?_)
  refine Sf.let_v (fun v2_21 => ?_)
  exact fb_X0_keep_22 _ ha19
abbrev lf_X4_begin : List Nat := [6704, 6705]
theorem fb_X4_begin {a0 : AH} {N : Nat} {ah : AH} {p1 : Int32}  (hah : Fr rgC lf_X4_begin a0 ah) : Sf hpV rgC lf_X4_begin a0 (F_X4_begin N ah p1) := by
  unfold F_X4_begin
  refine Sf.let_xu hah rfl (fun a7 ha7 => ?_)
  refine Sf.let_xu ha7 rfl (fun a12 ha12 => ?_)
  exact Sf.ret ha12
abbrev lf_X4_addEdge : List Nat := [60, 61, 62, 63, 65, 6705]
theorem fb_X4_addEdge {a0 : AH} {N : Nat} {ah : AH} {p1 : Int32} {p2 : Int32} {p3 : Int32}  (hah : Fr rgC lf_X4_addEdge a0 ah) : Sf hpI rgC lf_X4_addEdge a0 (F_X4_addEdge N ah p1 p2 p3) := by
  unfold F_X4_addEdge
  refine Sf.let_v (fun v4_4 => ?_)
  refine Sf.ite ?_ ?_
  · refine Sf.let_xu hah rfl (fun a23 ha23 => ?_)
    refine Sf.g (fun _ => ?_)
    refine Sf.let_xu ha23 rfl (fun a33 ha33 => ?_)
    refine Sf.g (fun _ => ?_)
    refine Sf.let_xu ha33 rfl (fun a41 ha41 => ?_)
    refine Sf.g (fun _ => ?_)
    refine Sf.let_xu ha41 rfl (fun a49 ha49 => ?_)
    refine Sf.g (fun _ => ?_)
    refine Sf.let_xu ha49 rfl (fun a57 ha57 => ?_)
    refine Sf.g (fun _ => ?_)
    refine Sf.let_xu ha57 rfl (fun a65 ha65 => ?_)
    exact Sf.ret ha65
  · exact Sf.ret hah
abbrev lf_X4_addSign : List Nat := [60, 61, 62, 63, 64, 65, 6705]
theorem fb_X4_addSign {a0 : AH} {N : Nat} {ah : AH} {p1 : Int32} {p2 : Int32} {p3 : Int32}  (hah : Fr rgC lf_X4_addSign a0 ah) : Sf hpV rgC lf_X4_addSign a0 (F_X4_addSign N ah p1 p2 p3) := by
  unfold F_X4_addSign
  refine Sf.b (fb_X4_addEdge Fr.rf) hah rfl (fun r6 a6 ha6 => ?_)
  refine Sf.let_v (fun v4_9 => ?_)
  refine Sf.ite ?_ ?_
  · exact Sf.ret ha6
  · refine Sf.g (fun _ => ?_)
    refine Sf.let_xu ha6 rfl (fun a24 ha24 => ?_)
    refine Sf.g (fun _ => ?_)
    refine Sf.let_xu ha24 rfl (fun a34 ha34 => ?_)
    exact Sf.ret ha34
abbrev lf_X4_addOthers : List Nat := [60, 61, 62, 63, 64, 65, 6705]
theorem fb_X4_addOthers_2 {a0 : AH} {N : Nat}  : ∀ (n : Nat) {ah : AH} {v1 : Int32} {v2 : Int32} {v3 : Int32}  (hah : Fr rgC lf_X4_addOthers a0 ah), Sf hpV rgC lf_X4_addOthers a0 (F_X4_addOthers_2 N n ah v1 v2 v3) := by
  intro n
  induction n with
  | zero => intros; exact Sf.none
  | succ n ih =>
    intro ah v1 v2 v3  hah
    unfold F_X4_addOthers_2
    refine Sf.g (fun _ => ?_)
    refine Sf.ite ?_ ?_
    · exact Sf.ret hah
    · refine Sf.let_v (fun v4_20 => ?_)
      refine Sf.g (fun _ => ?_)
      refine Sf.g (fun _ => ?_)
      refine Sf.bv (fb_X4_addSign Fr.rf) hah rfl (fun a44 ha44 => ?_)
      refine Sf.let_v (fun v3_47 => ?_)
      exact ih ha44
theorem fb_X4_addOthers {a0 : AH} {N : Nat} {ah : AH} {p1 : Int32} {p2 : Int32}  (hah : Fr rgC lf_X4_addOthers a0 ah) : Sf hpV rgC lf_X4_addOthers a0 (F_X4_addOthers N ah p1 p2) := by
  unfold F_X4_addOthers
  refine Sf.let_v (fun v3_1 => ?_)
  exact fb_X4_addOthers_2 _ hah
abbrev lf_X4_addRead : List Nat := [60, 61, 62, 63, 64, 65, 6705]
theorem fb_X4_addRead_84 {a0 : AH} {N : Nat} {ah : AH} {v1 : Int32} {v2 : Int32}  (hah : Fr rgC lf_X4_addRead a0 ah) : Sf hpV rgC lf_X4_addRead a0 (F_X4_addRead_84 N ah v1 v2) := by
  unfold F_X4_addRead_84
  refine Sf.ite ?_ ?_
  · refine Sf.b (fb_X4_addEdge Fr.rf) hah rfl (fun r101 a101 ha101 => ?_)
    exact Sf.ret ha101
  · exact Sf.ret hah
theorem fb_X4_addRead_15 {a0 : AH} {N : Nat}  : ∀ (n : Nat) {ah : AH} {v1 : Int32} {v2 : Int32} {v3 : Int32}  (hah : Fr rgC lf_X4_addRead a0 ah), Sf hpV rgC lf_X4_addRead a0 (F_X4_addRead_15 N n ah v1 v2 v3) := by
  intro n
  induction n with
  | zero => intros; exact Sf.none
  | succ n ih =>
    intro ah v1 v2 v3  hah
    unfold F_X4_addRead_15
    refine Sf.ite ?_ ?_
    · exact fb_X4_addRead_84 hah
    · refine Sf.bv (fb_X4_addSign Fr.rf) hah rfl (fun a33 ha33 => ?_)
      refine Sf.let_v (fun v3_36 => ?_)
      exact ih ha33
theorem fb_X4_addRead {a0 : AH} {N : Nat} {ah : AH} {p1 : Int32}  (hah : Fr rgC lf_X4_addRead a0 ah) : Sf hpV rgC lf_X4_addRead a0 (F_X4_addRead N ah p1) := by
  unfold F_X4_addRead
  refine Sf.g (fun _ => ?_)
  refine Sf.let_v (fun v2_6 => ?_)
  refine Sf.ite ?_ ?_
  · refine Sf.let_v (fun v3_14 => ?_)
    exact fb_X4_addRead_15 _ hah
  · refine Sf.ite ?_ ?_
    · refine Sf.b (fb_X4_addEdge Fr.rf) hah rfl (fun r57 a57 ha57 => ?_)
      refine Sf.bv (fb_X4_addSign Fr.rf) ha57 rfl (fun a71 ha71 => ?_)
      exact fb_X4_addRead_84 ha71
    · refine Sf.bv (fb_X4_addSign Fr.rf) hah rfl (fun a81 ha81 => ?_)
      exact fb_X4_addRead_84 ha81
abbrev lf_X4_addShape : List Nat := [60, 61, 62, 63, 64, 65, 6705]
theorem fb_X4_addShape_57 {a0 : AH} {N : Nat}  : ∀ (n : Nat) {ah : AH} {v1 : Int32} {v3 : Int32} {v4 : Int32}  (hah : Fr rgC lf_X4_addShape a0 ah), Sf hpV rgC lf_X4_addShape a0 (F_X4_addShape_57 N n ah v1 v3 v4) := by
  intro n
  induction n with
  | zero => intros; exact Sf.none
  | succ n ih =>
    intro ah v1 v3 v4  hah
    unfold F_X4_addShape_57
    refine Sf.g (fun _ => ?_)
    refine Sf.ite ?_ ?_
    · exact Sf.ret hah
    · refine Sf.g (fun _ => ?_)
      refine Sf.g (fun _ => ?_)
      refine Sf.let_xu hah rfl (fun a92 ha92 => ?_)
      refine Sf.let_v (fun v4_93 => ?_)
      exact ih ha92
theorem fb_X4_addShape {a0 : AH} {N : Nat} {ah : AH} {p1 : Int32} {p2 : Int32}  (hah : Fr rgC lf_X4_addShape a0 ah) : Sf hpV rgC lf_X4_addShape a0 (F_X4_addShape N ah p1 p2) := by
  unfold F_X4_addShape
  refine Sf.g (fun _ => ?_)
  refine Sf.g (fun _ => ?_)
  refine Sf.b (fb_X4_addEdge Fr.rf) hah rfl (fun r22 a22 ha22 => ?_)
  refine Sf.let_v (fun v3_25 => ?_)
  refine Sf.ite ?_ ?_
  · exact Sf.ret ha22
  · refine Sf.g (fun _ => ?_)
    refine Sf.let_xu ha22 rfl (fun a38 ha38 => ?_)
    refine Sf.g (fun _ => ?_)
    refine Sf.g (fun _ => ?_)
    refine Sf.let_xu ha38 rfl (fun a53 ha53 => ?_)
    refine Sf.let_v (fun v4_55 => ?_)
    exact fb_X4_addShape_57 _ ha53
abbrev lf_X4_addShapes : List Nat := [60, 61, 62, 63, 64, 65, 6705]
theorem fb_X4_addShapes_28 {a0 : AH} {N : Nat} {k2 : AH → Int32 → Int32 → Option AH} {ah : AH} {v1 : Int32} {v2 : Int32} (hk2 : ∀ {z0 : AH} {z1 : Int32} {z2 : Int32}, Fr rgC lf_X4_addShapes a0 z0 → Sf hpV rgC lf_X4_addShapes a0 (k2 z0 z1 z2)) (hah : Fr rgC lf_X4_addShapes a0 ah) : Sf hpV rgC lf_X4_addShapes a0 (F_X4_addShapes_28 N k2 ah v1 v2) := by
  unfold F_X4_addShapes_28
  refine Sf.let_v (fun v2_28 => ?_)
  exact hk2 hah
abbrev lf_X4_standsAt : List Nat := []
theorem fb_X4_standsAt_25 {a0 : AH} {N : Nat}  : ∀ (n : Nat) {ah : AH} {v1 : Int32} {v2 : Int32} {v3 : Int32} {v4 : Int32}  (hah : Fr rgC lf_X4_standsAt a0 ah), Sf hpI rgC lf_X4_standsAt a0 (F_X4_standsAt_25 N n ah v1 v2 v3 v4) := by
  intro n
  induction n with
  | zero => intros; exact Sf.none
  | succ n ih =>
    intro ah v1 v2 v3 v4  hah
    unfold F_X4_standsAt_25
    refine Sf.ite ?_ ?_
    · exact Sf.ret hah
    · refine Sf.g (fun _ => ?_)
      refine Sf.g (fun _ => ?_)
      refine Sf.ite ?_ ?_
      · refine Sf.let_v (fun v4_59 => ?_)
        exact ih hah
      · exact Sf.ret hah
theorem fb_X4_standsAt {a0 : AH} {N : Nat} {ah : AH} {p1 : Int32} {p2 : Int32}  (hah : Fr rgC lf_X4_standsAt a0 ah) : Sf hpI rgC lf_X4_standsAt a0 (F_X4_standsAt N ah p1 p2) := by
  unfold F_X4_standsAt
  refine Sf.g (fun _ => ?_)
  refine Sf.let_v (fun v3_9 => ?_)
  refine Sf.ite ?_ ?_
  · refine Sf.let_v (fun v4_23 => ?_)
    exact fb_X4_standsAt_25 _ hah
  · exact Sf.ret hah
theorem fb_X4_addShapes_2 {a0 : AH} {N : Nat}  : ∀ (n : Nat) {ah : AH} {v1 : Int32} {v2 : Int32}  (hah : Fr rgC lf_X4_addShapes a0 ah), Sf hpV rgC lf_X4_addShapes a0 (F_X4_addShapes_2 N n ah v1 v2) := by
  intro n
  induction n with
  | zero => intros; exact Sf.none
  | succ n ih =>
    intro ah v1 v2  hah
    unfold F_X4_addShapes_2
    refine Sf.ite ?_ ?_
    · exact Sf.ret hah
    · refine Sf.b (fb_X4_standsAt Fr.rf) hah rfl (fun r16 a16 ha16 => ?_)
      refine Sf.ite ?_ ?_
      · exact fb_X4_addShapes_28 (fun h => ih h) ha16
      · refine Sf.bv (fb_X4_addShape Fr.rf) ha16 rfl (fun a25 ha25 => ?_)
        exact fb_X4_addShapes_28 (fun h => ih h) ha25
theorem fb_X4_addShapes {a0 : AH} {N : Nat} {ah : AH} {p1 : Int32}  (hah : Fr rgC lf_X4_addShapes a0 ah) : Sf hpV rgC lf_X4_addShapes a0 (F_X4_addShapes N ah p1) := by
  unfold F_X4_addShapes
  refine Sf.let_v (fun v2_1 => ?_)
  exact fb_X4_addShapes_2 _ hah
abbrev lf_X4_end : List Nat := [59, 66]
theorem fb_X4_end_64 {a0 : AH} {N : Nat} {k45 : AH → Int32 → Option AH} (hk45 : ∀ {z0 : AH} {z1 : Int32}, Fr rgC lf_X4_end a0 z0 → Sf hpV rgC lf_X4_end a0 (k45 z0 z1)) : ∀ (n : Nat) {ah : AH} {v1 : Int32} {v2 : Int32}  (hah : Fr rgC lf_X4_end a0 ah), Sf hpV rgC lf_X4_end a0 (F_X4_end_64 N k45 n ah v1 v2) := by
  intro n
  induction n with
  | zero => intros; exact Sf.none
  | succ n ih =>
    intro ah v1 v2  hah
    unfold F_X4_end_64
    refine Sf.g (fun _ => ?_)
    refine Sf.ite ?_ ?_
    · refine Sf.let_v (fun v1_115 => ?_)
      exact hk45 hah
    · refine Sf.g (fun _ => ?_)
      refine Sf.g (fun _ => ?_)
      refine Sf.g (fun _ => ?_)
      refine Sf.g (fun _ => ?_)
      refine Sf.g (fun _ => ?_)
      refine Sf.let_xu hah rfl (fun a108 ha108 => ?_)
      refine Sf.let_v (fun v2_109 => ?_)
      exact ih ha108
theorem fb_X4_end_45 {a0 : AH} {N : Nat}  : ∀ (n : Nat) {ah : AH} {v1 : Int32}  (hah : Fr rgC lf_X4_end a0 ah), Sf hpV rgC lf_X4_end a0 (F_X4_end_45 N n ah v1) := by
  intro n
  induction n with
  | zero => intros; exact Sf.none
  | succ n ih =>
    intro ah v1  hah
    unfold F_X4_end_45
    refine Sf.ite ?_ ?_
    · exact Sf.ret hah
    · refine Sf.g (fun _ => ?_)
      refine Sf.let_xu hah rfl (fun a56 ha56 => ?_)
      refine Sf.g (fun _ => ?_)
      refine Sf.let_v (fun v2_63 => ?_)
      exact fb_X4_end_64 (fun h => ih h) _ ha56
theorem fb_X4_end {a0 : AH} {N : Nat} {ah : AH}  (hah : Fr rgC lf_X4_end a0 ah) : Sf hpV rgC lf_X4_end a0 (F_X4_end N ah) := by
  unfold F_X4_end
  refine Sf.g (fun _ => ?_)
  refine Sf.let_xu hah rfl (fun a12 ha12 => ?_)
  refine Sf.g (fun _ => ?_)
  refine Sf.let_xu ha12 rfl (fun a27 ha27 => ?_)
  refine Sf.g (fun _ => ?_)
  refine Sf.let_xu ha27 rfl (fun a37 ha37 => ?_)
  refine Sf.let_v (fun v1_44 => ?_)
  exact fb_X4_end_45 _ ha37
abbrev lf_X4_ofCells : List Nat := [58, 59, 60, 61, 62, 63, 64, 65, 66, 6704, 6705]
theorem fb_X4_ofCells_40 {a0 : AH} {N : Nat}  : ∀ (n : Nat) {ah : AH} {v1 : Int32} {v3 : Int32}  (hah : Fr rgC lf_X4_ofCells a0 ah), Sf hpV rgC lf_X4_ofCells a0 (F_X4_ofCells_40 N n ah v1 v3) := by
  intro n
  induction n with
  | zero => intros; exact Sf.none
  | succ n ih =>
    intro ah v1 v3  hah
    unfold F_X4_ofCells_40
    refine Sf.ite ?_ ?_
    · refine Sf.bv (fb_X4_end Fr.rf) hah rfl (fun a83 ha83 => ?_)
      exact Sf.ret ha83
    · refine Sf.g (fun _ => ?_)
      refine Sf.let_xu hah rfl (fun a57 ha57 => ?_)
      refine Sf.bv (fb_X4_addRead Fr.rf) ha57 rfl (fun a60 ha60 => ?_)
      refine Sf.bv (fb_X4_addOthers Fr.rf) ha60 rfl (fun a68 ha68 => ?_)
      refine Sf.bv (fb_X4_addShapes Fr.rf) ha68 rfl (fun a73 ha73 => ?_)
      refine Sf.let_v (fun v3_76 => ?_)
      exact ih ha73
theorem fb_X4_ofCells_7 {a0 : AH} {N : Nat}  : ∀ (n : Nat) {ah : AH} {v1 : Int32} {v3 : Int32}  (hah : Fr rgC lf_X4_ofCells a0 ah), Sf hpV rgC lf_X4_ofCells a0 (F_X4_ofCells_7 N n ah v1 v3) := by
  intro n
  induction n with
  | zero => intros; exact Sf.none
  | succ n ih =>
    intro ah v1 v3  hah
    unfold F_X4_ofCells_7
    refine Sf.ite ?_ ?_
    · refine Sf.let_v (fun v3_39 => ?_)
      exact fb_X4_ofCells_40 _ hah
    · refine Sf.g (fun _ => ?_)
      refine Sf.g (fun _ => ?_)
      refine Sf.let_xu hah rfl (fun a31 ha31 => ?_)
      refine Sf.let_v (fun v3_32 => ?_)
      exact ih ha31
theorem fb_X4_ofCells {a0 : AH} {N : Nat} {ah : AH} {p1 : Int32} {p2 : Int32}  (hah : Fr rgC lf_X4_ofCells a0 ah) : Sf hpV rgC lf_X4_ofCells a0 (F_X4_ofCells N ah p1 p2) := by
  unfold F_X4_ofCells
  refine Sf.bv (fb_X4_begin Fr.rf) hah rfl (fun a2 ha2 => ?_)
  refine Sf.let_v (fun v3_6 => ?_)
  exact fb_X4_ofCells_7 _ ha2
abbrev lf_X5_cellsOf_31 : List Nat := []
theorem fb_X5_cellsOf_31 {a0 : AH} {N : Nat} {ah : AH} {p1 : Int32}  (hah : Fr rgC lf_X5_cellsOf_31 a0 ah) : Sf hpI rgC lf_X5_cellsOf_31 a0 (F_X5_cellsOf N 31 ah p1) := by
  unfold F_X5_cellsOf
  refine Sf.g (fun _ => ?_)
  refine Sf.g (fun _ => ?_)
  exact Sf.ret hah
abbrev lf_X6_clear : List Nat := [72, 7702, 7706, 7707, 7710]
theorem fb_X6_clear_2 {a0 : AH} {N : Nat}  : ∀ (n : Nat) {ah : AH} {v1 : Int32}  (hah : Fr rgC lf_X6_clear a0 ah), Sf hpV rgC lf_X6_clear a0 (F_X6_clear_2 N n ah v1) := by
  intro n
  induction n with
  | zero => intros; exact Sf.none
  | succ n ih =>
    intro ah v1  hah
    unfold F_X6_clear_2
    refine Sf.ite ?_ ?_
    · refine Sf.let_xu hah rfl (fun a30 ha30 => ?_)
      refine Sf.let_xu ha30 rfl (fun a35 ha35 => ?_)
      refine Sf.let_xu ha35 rfl (fun a40 ha40 => ?_)
      refine Sf.let_xu ha40 rfl (fun a45 ha45 => ?_)
      exact Sf.ret ha45
    · refine Sf.g (fun _ => ?_)
      refine Sf.g (fun _ => ?_)
      refine Sf.let_xu hah rfl (fun a21 ha21 => ?_)
      refine Sf.let_v (fun v1_22 => ?_)
      exact ih ha21
theorem fb_X6_clear {a0 : AH} {N : Nat} {ah : AH}  (hah : Fr rgC lf_X6_clear a0 ah) : Sf hpV rgC lf_X6_clear a0 (F_X6_clear N ah) := by
  unfold F_X6_clear
  refine Sf.let_v (fun v1_1 => ?_)
  exact fb_X6_clear_2 _ hah
abbrev lf_X6_itemOf : List Nat := []
theorem fb_X6_itemOf {a0 : AH} {N : Nat} {ah : AH} {p1 : Int32} {p2 : Int32}  (hah : Fr rgC lf_X6_itemOf a0 ah) : Sf hpI rgC lf_X6_itemOf a0 (F_X6_itemOf N ah p1 p2) := by
  unfold F_X6_itemOf
  exact Sf.ret hah
abbrev lf_X6_lift : List Nat := [71, 72]
theorem fb_X6_lift_77 {a0 : AH} {N : Nat} {ah : AH} {v2 : Int32} {v3 : Int32}  (hah : Fr rgC lf_X6_lift a0 ah) : Sf hpV rgC lf_X6_lift a0 (F_X6_lift_77 N ah v2 v3) := by
  unfold F_X6_lift_77
  refine Sf.g (fun _ => ?_)
  refine Sf.let_xu hah rfl (fun a83 ha83 => ?_)
  refine Sf.g (fun _ => ?_)
  refine Sf.let_xu ha83 rfl (fun a96 ha96 => ?_)
  exact Sf.ret ha96
theorem fb_X6_lift_5 {a0 : AH} {N : Nat}  : ∀ (n : Nat) {ah : AH} {v2 : Int32} {v3 : Int32} {v4 : Int32}  (hah : Fr rgC lf_X6_lift a0 ah), Sf hpV rgC lf_X6_lift a0 (F_X6_lift_5 N n ah v2 v3 v4) := by
  intro n
  induction n with
  | zero => intros; exact Sf.none
  | succ n ih =>
    intro ah v2 v3 v4  hah
    unfold F_X6_lift_5
    refine Sf.ite ?_ ?_
    · exact fb_X6_lift_77 hah
    · refine Sf.ite ?_ ?_
      · exact fb_X6_lift_77 hah
      · refine Sf.z ?_
        refine Sf.let_v (fun v5_21 => ?_)
        refine Sf.g (fun _ => ?_)
        refine Sf.ite ?_ ?_
        · refine Sf.g (fun _ => ?_)
          refine Sf.g (fun _ => ?_)
          refine Sf.let_xu hah rfl (fun a49 ha49 => ?_)
          refine Sf.g (fun _ => ?_)
          refine Sf.g (fun _ => ?_)
          refine Sf.let_xu ha49 rfl (fun a67 ha67 => ?_)
          refine Sf.let_v (fun v3_70 => ?_)
          refine Sf.let_v (fun v4_71 => ?_)
          exact ih ha67
        · exact fb_X6_lift_77 hah
theorem fb_X6_lift {a0 : AH} {N : Nat} {ah : AH} {p1 : Int32} {p2 : Int32}  (hah : Fr rgC lf_X6_lift a0 ah) : Sf hpV rgC lf_X6_lift a0 (F_X6_lift N ah p1 p2) := by
  unfold F_X6_lift
  refine Sf.let_v (fun v3_1 => ?_)
  refine Sf.let_v (fun v4_3 => ?_)
  exact fb_X6_lift_5 _ hah
abbrev lf_X6_put : List Nat := [71, 72, 73, 7707, 7710]
theorem fb_X6_put_84 {a0 : AH} {N : Nat} {ah : AH} {v3 : Int32} {v4 : Int32}  (hah : Fr rgC lf_X6_put a0 ah) : Sf hpV rgC lf_X6_put a0 (F_X6_put_84 N ah v3 v4) := by
  unfold F_X6_put_84
  refine Sf.ite ?_ ?_
  · exact Sf.ret hah
  · refine Sf.g (fun _ => ?_)
    refine Sf.ite ?_ ?_
    · exact Sf.ret hah
    · refine Sf.bv (fb_X6_lift Fr.rf) hah rfl (fun a108 ha108 => ?_)
      exact Sf.ret ha108
theorem fb_X6_put {a0 : AH} {N : Nat} {ah : AH} {p1 : Int32} {p2 : Int32}  (hah : Fr rgC lf_X6_put a0 ah) : Sf hpV rgC lf_X6_put a0 (F_X6_put N ah p1 p2) := by
  unfold F_X6_put
  refine Sf.let_v (fun v3_6 => ?_)
  refine Sf.g (fun _ => ?_)
  refine Sf.let_v (fun v4_13 => ?_)
  refine Sf.ite ?_ ?_
  · refine Sf.ite ?_ ?_
    · exact fb_X6_put_84 hah
    · refine Sf.ite ?_ ?_
      · exact fb_X6_put_84 hah
      · refine Sf.g (fun _ => ?_)
        refine Sf.let_xu hah rfl (fun a49 ha49 => ?_)
        refine Sf.let_xu ha49 rfl (fun a57 ha57 => ?_)
        refine Sf.let_xu ha57 rfl (fun a67 ha67 => ?_)
        refine Sf.bv (fb_X6_lift Fr.rf) ha67 rfl (fun a78 ha78 => ?_)
        exact Sf.ret ha78
  · exact fb_X6_put_84 hah
abbrev lf_X6_note : List Nat := [68, 69, 70, 7702]
theorem fb_X6_note {a0 : AH} {N : Nat} {ah : AH} {p1 : Int32} {p2 : Int32}  (hah : Fr rgC lf_X6_note a0 ah) : Sf hpV rgC lf_X6_note a0 (F_X6_note N ah p1 p2) := by
  unfold F_X6_note
  refine Sf.ite ?_ ?_
  · exact Sf.ret hah
  · refine Sf.g (fun _ => ?_)
    refine Sf.let_xu hah rfl (fun a18 ha18 => ?_)
    refine Sf.g (fun _ => ?_)
    refine Sf.let_xu ha18 rfl (fun a28 ha28 => ?_)
    refine Sf.g (fun _ => ?_)
    refine Sf.let_xu ha28 rfl (fun a41 ha41 => ?_)
    refine Sf.let_xu ha41 rfl (fun a49 ha49 => ?_)
    exact Sf.ret ha49
abbrev lf_X6_open : List Nat := [71, 72, 73, 7706, 7707, 7710]
theorem fb_X6_open_210 {a0 : AH} {N : Nat} {k115 : AH → Int32 → Int32 → Int32 → Int32 → Option AH} {ah : AH} {v3 : Int32} {v4 : Int32} {v5 : Int32} {v7 : Int32} (hk115 : ∀ {z0 : AH} {z1 : Int32} {z2 : Int32} {z3 : Int32} {z4 : Int32}, Fr rgC lf_X6_open a0 z0 → Sf hpV rgC lf_X6_open a0 (k115 z0 z1 z2 z3 z4)) (hah : Fr rgC lf_X6_open a0 ah) : Sf hpV rgC lf_X6_open a0 (F_X6_open_210 N k115 ah v3 v4 v5 v7) := by
  unfold F_X6_open_210
  refine Sf.let_v (fun v7_210 => ?_)
  exact hk115 hah
abbrev lf_X2_childOf : List Nat := []
theorem fb_X2_childOf_10 {a0 : AH} {N : Nat}  : ∀ (n : Nat) {ah : AH} {v2 : Int32} {v3 : Int32} {v4 : Int32}  (hah : Fr rgC lf_X2_childOf a0 ah), Sf hpI rgC lf_X2_childOf a0 (F_X2_childOf_10 N n ah v2 v3 v4) := by
  intro n
  induction n with
  | zero => intros; exact Sf.none
  | succ n ih =>
    intro ah v2 v3 v4  hah
    unfold F_X2_childOf_10
    refine Sf.ite ?_ ?_
    · exact Sf.ret hah
    · refine Sf.ite ?_ ?_
      · exact Sf.ret hah
      · refine Sf.g (fun _ => ?_)
        refine Sf.ite ?_ ?_
        · exact Sf.ret hah
        · refine Sf.g (fun _ => ?_)
          refine Sf.let_v (fun v3_39 => ?_)
          refine Sf.let_v (fun v4_40 => ?_)
          exact ih hah
theorem fb_X2_childOf {a0 : AH} {N : Nat} {ah : AH} {p1 : Int32} {p2 : Int32}  (hah : Fr rgC lf_X2_childOf a0 ah) : Sf hpI rgC lf_X2_childOf a0 (F_X2_childOf N ah p1 p2) := by
  unfold F_X2_childOf
  refine Sf.g (fun _ => ?_)
  refine Sf.let_v (fun v3_6 => ?_)
  refine Sf.let_v (fun v4_8 => ?_)
  exact fb_X2_childOf_10 _ hah
abbrev lf_X6_walk : List Nat := []
theorem fb_X6_walk_5 {a0 : AH} {N : Nat}  : ∀ (n : Nat) {ah : AH} {v2 : Int32} {v3 : Int32} {v4 : Int32}  (hah : Fr rgC lf_X6_walk a0 ah), Sf hpI rgC lf_X6_walk a0 (F_X6_walk_5 N n ah v2 v3 v4) := by
  intro n
  induction n with
  | zero => intros; exact Sf.none
  | succ n ih =>
    intro ah v2 v3 v4  hah
    unfold F_X6_walk_5
    refine Sf.g (fun _ => ?_)
    refine Sf.ite ?_ ?_
    · exact Sf.ret hah
    · refine Sf.ite ?_ ?_
      · exact Sf.ret hah
      · refine Sf.g (fun _ => ?_)
        refine Sf.b (fb_X2_childOf Fr.rf) hah rfl (fun r43 a43 ha43 => ?_)
        refine Sf.let_v (fun v3_46 => ?_)
        refine Sf.let_v (fun v4_47 => ?_)
        exact ih ha43
theorem fb_X6_walk {a0 : AH} {N : Nat} {ah : AH} {p1 : Int32} {p2 : Int32}  (hah : Fr rgC lf_X6_walk a0 ah) : Sf hpI rgC lf_X6_walk a0 (F_X6_walk N ah p1 p2) := by
  unfold F_X6_walk
  refine Sf.let_v (fun v3_1 => ?_)
  refine Sf.let_v (fun v4_3 => ?_)
  exact fb_X6_walk_5 _ hah
theorem fb_X6_open_115 {a0 : AH} {N : Nat}  : ∀ (n : Nat) {ah : AH} {v3 : Int32} {v4 : Int32} {v5 : Int32} {v7 : Int32}  (hah : Fr rgC lf_X6_open a0 ah), Sf hpV rgC lf_X6_open a0 (F_X6_open_115 N n ah v3 v4 v5 v7) := by
  intro n
  induction n with
  | zero => intros; exact Sf.none
  | succ n ih =>
    intro ah v3 v4 v5 v7  hah
    unfold F_X6_open_115
    refine Sf.g (fun _ => ?_)
    refine Sf.ite ?_ ?_
    · exact Sf.ret hah
    · refine Sf.b (fb_X6_walk Fr.rf) hah rfl (fun r136 a136 ha136 => ?_)
      refine Sf.let_v (fun v8_139 => ?_)
      refine Sf.ite ?_ ?_
      · exact fb_X6_open_210 (fun h => ih h) ha136
      · refine Sf.g (fun _ => ?_)
        refine Sf.let_v (fun v9_157 => ?_)
        refine Sf.g (fun _ => ?_)
        refine Sf.let_v (fun v10_172 => ?_)
        refine Sf.b (fb_X6_itemOf Fr.rf) ha136 rfl (fun r180 a180 ha180 => ?_)
        refine Sf.g (fun _ => ?_)
        refine Sf.g (fun _ => ?_)
        refine Sf.bv (fb_X6_put Fr.rf) ha180 rfl (fun a207 ha207 => ?_)
        exact fb_X6_open_210 (fun h => ih h) ha207
theorem fb_X6_open_104 {a0 : AH} {N : Nat} {ah : AH} {v3 : Int32} {v4 : Int32} {v5 : Int32}  (hah : Fr rgC lf_X6_open a0 ah) : Sf hpV rgC lf_X6_open a0 (F_X6_open_104 N ah v3 v4 v5) := by
  unfold F_X6_open_104
  refine Sf.g (fun _ => ?_)
  refine Sf.let_v (fun v7_113 => ?_)
  exact fb_X6_open_115 _ hah
theorem fb_X6_open {a0 : AH} {N : Nat} {ah : AH} {p1 : Int32} {p2 : Int32}  (hah : Fr rgC lf_X6_open a0 ah) : Sf hpV rgC lf_X6_open a0 (F_X6_open N ah p1 p2) := by
  unfold F_X6_open
  refine Sf.z ?_
  refine Sf.let_v (fun v3_11 => ?_)
  refine Sf.z ?_
  refine Sf.let_v (fun v4_20 => ?_)
  refine Sf.g (fun _ => ?_)
  refine Sf.g (fun _ => ?_)
  refine Sf.let_v (fun v5_44 => ?_)
  refine Sf.let_xu hah rfl (fun a53 ha53 => ?_)
  refine Sf.g (fun _ => ?_)
  refine Sf.let_v (fun v6_66 => ?_)
  refine Sf.ite ?_ ?_
  · refine Sf.ite ?_ ?_
    · exact fb_X6_open_104 ha53
    · refine Sf.g (fun _ => ?_)
      refine Sf.bv (fb_X6_put Fr.rf) ha53 rfl (fun a101 ha101 => ?_)
      exact fb_X6_open_104 ha101
  · exact fb_X6_open_104 ha53
abbrev lf_X6_run : List Nat := [68, 69, 70, 71, 72, 73, 7702, 7706, 7707, 7710]
theorem fb_X6_run_110 {a0 : AH} {N : Nat} {k46 : AH → Int32 → Int32 → Option AH} {ah : AH} {v1 : Int32} {v2 : Int32} (hk46 : ∀ {z0 : AH} {z1 : Int32} {z2 : Int32}, Fr rgC lf_X6_run a0 z0 → Sf hpV rgC lf_X6_run a0 (k46 z0 z1 z2)) (hah : Fr rgC lf_X6_run a0 ah) : Sf hpV rgC lf_X6_run a0 (F_X6_run_110 N k46 ah v1 v2) := by
  unfold F_X6_run_110
  refine Sf.let_v (fun v2_110 => ?_)
  exact hk46 hah
abbrev lf_X6_sink : List Nat := [71, 72]
theorem fb_X6_sink_116 {a0 : AH} {N : Nat} {ah : AH} {v1 : Int32} {v2 : Int32}  (hah : Fr rgC lf_X6_sink a0 ah) : Sf hpV rgC lf_X6_sink a0 (F_X6_sink_116 N ah v1 v2) := by
  unfold F_X6_sink_116
  refine Sf.g (fun _ => ?_)
  refine Sf.let_xu hah rfl (fun a122 ha122 => ?_)
  refine Sf.g (fun _ => ?_)
  refine Sf.let_xu ha122 rfl (fun a135 ha135 => ?_)
  exact Sf.ret ha135
theorem fb_X6_sink_62 {a0 : AH} {N : Nat} {k4 : AH → Int32 → Int32 → Int32 → Option AH} {ah : AH} {v1 : Int32} {v2 : Int32} {v3 : Int32} {v4 : Int32} (hk4 : ∀ {z0 : AH} {z1 : Int32} {z2 : Int32} {z3 : Int32}, Fr rgC lf_X6_sink a0 z0 → Sf hpV rgC lf_X6_sink a0 (k4 z0 z1 z2 z3)) (hah : Fr rgC lf_X6_sink a0 ah) : Sf hpV rgC lf_X6_sink a0 (F_X6_sink_62 N k4 ah v1 v2 v3 v4) := by
  unfold F_X6_sink_62
  refine Sf.g (fun _ => ?_)
  refine Sf.ite ?_ ?_
  · refine Sf.g (fun _ => ?_)
    refine Sf.g (fun _ => ?_)
    refine Sf.let_xu hah rfl (fun a88 ha88 => ?_)
    refine Sf.g (fun _ => ?_)
    refine Sf.g (fun _ => ?_)
    refine Sf.let_xu ha88 rfl (fun a106 ha106 => ?_)
    refine Sf.let_v (fun v2_109 => ?_)
    refine Sf.let_v (fun v3_110 => ?_)
    exact hk4 ha106
  · exact fb_X6_sink_116 hah
theorem fb_X6_sink_4 {a0 : AH} {N : Nat}  : ∀ (n : Nat) {ah : AH} {v1 : Int32} {v2 : Int32} {v3 : Int32}  (hah : Fr rgC lf_X6_sink a0 ah), Sf hpV rgC lf_X6_sink a0 (F_X6_sink_4 N n ah v1 v2 v3) := by
  intro n
  induction n with
  | zero => intros; exact Sf.none
  | succ n ih =>
    intro ah v1 v2 v3  hah
    unfold F_X6_sink_4
    refine Sf.ite ?_ ?_
    · exact fb_X6_sink_116 hah
    · refine Sf.ite ?_ ?_
      · exact fb_X6_sink_116 hah
      · refine Sf.let_v (fun v4_27 => ?_)
        refine Sf.ite ?_ ?_
        · exact fb_X6_sink_62 (fun h => ih h) hah
        · refine Sf.g (fun _ => ?_)
          refine Sf.g (fun _ => ?_)
          refine Sf.ite ?_ ?_
          · exact fb_X6_sink_62 (fun h => ih h) hah
          · refine Sf.let_v (fun v4_59 => ?_)
            exact fb_X6_sink_62 (fun h => ih h) hah
theorem fb_X6_sink {a0 : AH} {N : Nat} {ah : AH} {p1 : Int32}  (hah : Fr rgC lf_X6_sink a0 ah) : Sf hpV rgC lf_X6_sink a0 (F_X6_sink N ah p1) := by
  unfold F_X6_sink
  refine Sf.let_v (fun v2_1 => ?_)
  refine Sf.let_v (fun v3_3 => ?_)
  exact fb_X6_sink_4 _ hah
abbrev lf_X6_takeLeast : List Nat := [71, 72, 7707]
theorem fb_X6_takeLeast {a0 : AH} {N : Nat} {ah : AH}  (hah : Fr rgC lf_X6_takeLeast a0 ah) : Sf hpI rgC lf_X6_takeLeast a0 (F_X6_takeLeast N ah) := by
  unfold F_X6_takeLeast
  refine Sf.let_v (fun v1_6 => ?_)
  refine Sf.let_xu hah rfl (fun a14 ha14 => ?_)
  refine Sf.g (fun _ => ?_)
  refine Sf.bv (fb_X6_sink Fr.rf) ha14 rfl (fun a27 ha27 => ?_)
  refine Sf.g (fun _ => ?_)
  refine Sf.let_xu ha27 rfl (fun a40 ha40 => ?_)
  exact Sf.ret ha40
theorem fb_X6_run_46 {a0 : AH} {N : Nat}  : ∀ (n : Nat) {ah : AH} {v1 : Int32} {v2 : Int32}  (hah : Fr rgC lf_X6_run a0 ah), Sf hpV rgC lf_X6_run a0 (F_X6_run_46 N n ah v1 v2) := by
  intro n
  induction n with
  | zero => intros; exact Sf.none
  | succ n ih =>
    intro ah v1 v2  hah
    unfold F_X6_run_46
    refine Sf.ite ?_ ?_
    · exact Sf.ret hah
    · refine Sf.ite ?_ ?_
      · exact Sf.ret hah
      · refine Sf.ite ?_ ?_
        · exact Sf.ret hah
        · refine Sf.b (fb_X6_takeLeast Fr.rf) hah rfl (fun r69 a69 ha69 => ?_)
          refine Sf.let_v (fun v3_72 => ?_)
          refine Sf.let_v (fun v4_78 => ?_)
          refine Sf.ite ?_ ?_
          · refine Sf.bv (fb_X6_open Fr.rf) ha69 rfl (fun a107 ha107 => ?_)
            exact fb_X6_run_110 (fun h => ih h) ha107
          · refine Sf.bv (fb_X6_note Fr.rf) ha69 rfl (fun a94 ha94 => ?_)
            exact fb_X6_run_110 (fun h => ih h) ha94
theorem fb_X6_run {a0 : AH} {N : Nat} {ah : AH} {p1 : Int32}  (hah : Fr rgC lf_X6_run a0 ah) : Sf hpV rgC lf_X6_run a0 (F_X6_run N ah p1) := by
  unfold F_X6_run
  refine Sf.bv (fb_X6_clear Fr.rf) hah rfl (fun a1 ha1 => ?_)
  refine Sf.ite ?_ ?_
  · exact Sf.ret ha1
  · refine Sf.b (fb_X6_itemOf Fr.rf) ha1 rfl (fun r19 a19 ha19 => ?_)
    refine Sf.bv (fb_X6_put Fr.rf) ha19 rfl (fun a41 ha41 => ?_)
    refine Sf.let_v (fun v2_45 => ?_)
    exact fb_X6_run_46 _ ha41
abbrev lf_X0_lookAlone : List Nat := [58, 59, 60, 61, 62, 63, 64, 65, 66, 68, 69, 70, 71, 72, 73, 75, 76, 77, 78, 79, 6704, 6705, 7702, 7706, 7707, 7710]
theorem fb_X0_lookAlone {a0 : AH} {N : Nat} {ah : AH} {p1 : Int32}  (hah : Fr rgC lf_X0_lookAlone a0 ah) : Sf hpV rgC lf_X0_lookAlone a0 (F_X0_lookAlone N ah p1) := by
  unfold F_X0_lookAlone
  refine Sf.g (fun _ => ?_)
  refine Sf.ite ?_ ?_
  · refine Sf.g (fun _ => ?_)
    refine Sf.b (fb_X5_cellsOf_31 Fr.rf) hah rfl (fun r30 a30 ha30 => ?_)
    refine Sf.bv (fb_X4_ofCells Fr.rf) ha30 rfl (fun a33 ha33 => ?_)
    refine Sf.bv (fb_X6_run Fr.rf) ha33 rfl (fun a42 ha42 => ?_)
    refine Sf.bv (fb_X0_keep Fr.rf) ha42 rfl (fun a47 ha47 => ?_)
    exact Sf.ret ha47
  · exact Sf.ret hah
abbrev lf_X0_joinedCells : List Nat := []
theorem fb_X0_joinedCells {a0 : AH} {N : Nat} {ah : AH} {p1 : Int32}  (hah : Fr rgC lf_X0_joinedCells a0 ah) : Sf hpI rgC lf_X0_joinedCells a0 (F_X0_joinedCells N ah p1) := by
  unfold F_X0_joinedCells
  refine Sf.b (fb_X5_cellsOf_31 Fr.rf) hah rfl (fun r5 a5 ha5 => ?_)
  refine Sf.b (fb_X5_cellsOf_31 Fr.rf) ha5 rfl (fun r15 a15 ha15 => ?_)
  exact Sf.ret ha15
abbrev lf_X0_lookJoined : List Nat := [58, 59, 60, 61, 62, 63, 64, 65, 66, 68, 69, 70, 71, 72, 73, 75, 76, 77, 78, 79, 6704, 6705, 7702, 7706, 7707, 7710]
theorem fb_X0_lookJoined {a0 : AH} {N : Nat} {ah : AH} {p1 : Int32}  (hah : Fr rgC lf_X0_lookJoined a0 ah) : Sf hpV rgC lf_X0_lookJoined a0 (F_X0_lookJoined N ah p1) := by
  unfold F_X0_lookJoined
  refine Sf.g (fun _ => ?_)
  refine Sf.ite ?_ ?_
  · refine Sf.g (fun _ => ?_)
    refine Sf.b (fb_X0_joinedCells Fr.rf) hah rfl (fun r30 a30 ha30 => ?_)
    refine Sf.bv (fb_X4_ofCells Fr.rf) ha30 rfl (fun a33 ha33 => ?_)
    refine Sf.bv (fb_X6_run Fr.rf) ha33 rfl (fun a41 ha41 => ?_)
    refine Sf.bv (fb_X0_keep Fr.rf) ha41 rfl (fun a49 ha49 => ?_)
    exact Sf.ret ha49
  · exact Sf.ret hah
abbrev lf_X0_mayJoin : List Nat := []
theorem fb_X0_mayJoin {a0 : AH} {N : Nat} {ah : AH} {p1 : Int32}  (hah : Fr rgC lf_X0_mayJoin a0 ah) : Sf hpI rgC lf_X0_mayJoin a0 (F_X0_mayJoin N ah p1) := by
  unfold F_X0_mayJoin
  refine Sf.ite ?_ ?_
  · exact Sf.ret hah
  · refine Sf.g (fun _ => ?_)
    refine Sf.ite ?_ ?_
    · exact Sf.ret hah
    · refine Sf.b (fb_X0_joinedCells Fr.rf) hah rfl (fun r27 a27 ha27 => ?_)
      refine Sf.ite ?_ ?_
      · exact Sf.ret ha27
      · exact Sf.ret ha27
abbrev lf_X0_joinedPrice : List Nat := []
theorem fb_X0_joinedPrice_40 {a0 : AH} {N : Nat} {ah : AH}  (hah : Fr rgC lf_X0_joinedPrice a0 ah) : Sf hpI rgC lf_X0_joinedPrice a0 (F_X0_joinedPrice_40 N ah) := by
  unfold F_X0_joinedPrice_40
  exact Sf.ret hah
abbrev lf_X0_priceOf : List Nat := []
theorem fb_X0_priceOf {a0 : AH} {N : Nat} {ah : AH} {p1 : Int32} {p2 : Int32}  (hah : Fr rgC lf_X0_priceOf a0 ah) : Sf hpI rgC lf_X0_priceOf a0 (F_X0_priceOf N ah p1 p2) := by
  unfold F_X0_priceOf
  refine Sf.ite ?_ ?_
  · exact Sf.ret hah
  · refine Sf.g (fun _ => ?_)
    refine Sf.ite ?_ ?_
    · exact Sf.ret hah
    · refine Sf.g (fun _ => ?_)
      exact Sf.ret hah
theorem fb_X0_joinedPrice {a0 : AH} {N : Nat} {ah : AH} {p1 : Int32}  (hah : Fr rgC lf_X0_joinedPrice a0 ah) : Sf hpI rgC lf_X0_joinedPrice a0 (F_X0_joinedPrice N ah p1) := by
  unfold F_X0_joinedPrice
  refine Sf.b (fb_X0_priceOf Fr.rf) hah rfl (fun r6 a6 ha6 => ?_)
  refine Sf.let_v (fun v2_9 => ?_)
  refine Sf.b (fb_X0_joinedCells Fr.rf) ha6 rfl (fun r24 a24 ha24 => ?_)
  refine Sf.let_v (fun v3_29 => ?_)
  refine Sf.ite ?_ ?_
  · exact fb_X0_joinedPrice_40 ha24
  · refine Sf.ite ?_ ?_
    · exact Sf.ret ha24
    · exact fb_X0_joinedPrice_40 ha24
abbrev lf_X0_outsidePrice : List Nat := []
theorem fb_X0_outsidePrice {a0 : AH} {N : Nat} {ah : AH} {p1 : Int32}  (hah : Fr rgC lf_X0_outsidePrice a0 ah) : Sf hpI rgC lf_X0_outsidePrice a0 (F_X0_outsidePrice N ah p1) := by
  unfold F_X0_outsidePrice
  refine Sf.b (fb_X5_cellsOf_31 Fr.rf) hah rfl (fun r17 a17 ha17 => ?_)
  exact Sf.ret ha17
abbrev lf_X0_wordOf : List Nat := []
theorem fb_X0_wordOf {a0 : AH} {N : Nat} {ah : AH} {p1 : Int32} {p2 : Int32}  (hah : Fr rgC lf_X0_wordOf a0 ah) : Sf hpI rgC lf_X0_wordOf a0 (F_X0_wordOf N ah p1 p2) := by
  unfold F_X0_wordOf
  refine Sf.ite ?_ ?_
  · exact Sf.ret hah
  · refine Sf.g (fun _ => ?_)
    refine Sf.ite ?_ ?_
    · exact Sf.ret hah
    · refine Sf.g (fun _ => ?_)
      exact Sf.ret hah
abbrev lf_X0_wordInside : List Nat := []
theorem fb_X0_wordInside {a0 : AH} {N : Nat} {ah : AH} {p1 : Int32} {p2 : Int32}  (hah : Fr rgC lf_X0_wordInside a0 ah) : Sf hpI rgC lf_X0_wordInside a0 (F_X0_wordInside N ah p1 p2) := by
  unfold F_X0_wordInside
  refine Sf.b (fb_X0_priceOf Fr.rf) hah rfl (fun r3 a3 ha3 => ?_)
  refine Sf.b (fb_X0_outsidePrice Fr.rf) ha3 rfl (fun r8 a8 ha8 => ?_)
  refine Sf.ite ?_ ?_
  · exact Sf.ret ha8
  · refine Sf.b (fb_X0_wordOf Fr.rf) ha8 rfl (fun r17 a17 ha17 => ?_)
    exact Sf.ret ha17
abbrev lf_X0_mendedWord : List Nat := []
theorem fb_X0_mendedWord {a0 : AH} {N : Nat} {ah : AH} {p1 : Int32}  (hah : Fr rgC lf_X0_mendedWord a0 ah) : Sf hpI rgC lf_X0_mendedWord a0 (F_X0_mendedWord N ah p1) := by
  unfold F_X0_mendedWord
  refine Sf.b (fb_X0_wordInside Fr.rf) hah rfl (fun r3 a3 ha3 => ?_)
  exact Sf.ret ha3
abbrev lf_X0_mendedPrice : List Nat := []
theorem fb_X0_mendedPrice {a0 : AH} {N : Nat} {ah : AH} {p1 : Int32}  (hah : Fr rgC lf_X0_mendedPrice a0 ah) : Sf hpI rgC lf_X0_mendedPrice a0 (F_X0_mendedPrice N ah p1) := by
  unfold F_X0_mendedPrice
  refine Sf.b (fb_X0_mendedWord Fr.rf) hah rfl (fun r2 a2 ha2 => ?_)
  refine Sf.ite ?_ ?_
  · refine Sf.b (fb_X0_outsidePrice Fr.rf) ha2 rfl (fun r11 a11 ha11 => ?_)
    exact Sf.ret ha11
  · refine Sf.b (fb_X0_priceOf Fr.rf) ha2 rfl (fun r20 a20 ha20 => ?_)
    exact Sf.ret ha20
abbrev lf_X3_choose : List Nat := [82, 83]
theorem fb_X3_choose_53 {a0 : AH} {N : Nat} {ah : AH} {v1 : Int32} {s0 : Int32}  (hah : Fr rgC lf_X3_choose a0 ah) : Sf hpV rgC lf_X3_choose a0 (F_X3_choose_53 N ah v1 s0) := by
  unfold F_X3_choose_53
  refine Sf.let_v (fun v2_53 => ?_)
  refine Sf.ite ?_ ?_
  · exact Sf.ret hah
  · refine Sf.g (fun _ => ?_)
    refine Sf.g (fun _ => ?_)
    refine Sf.ite ?_ ?_
    · exact Sf.ret hah
    · refine Sf.g (fun _ => ?_)
      refine Sf.g (fun _ => ?_)
      refine Sf.let_xu hah rfl (fun a93 ha93 => ?_)
      refine Sf.g (fun _ => ?_)
      refine Sf.let_xu ha93 rfl (fun a100 ha100 => ?_)
      exact Sf.ret ha100
theorem fb_X3_choose {a0 : AH} {N : Nat} {ah : AH} {p1 : Int32}  (hah : Fr rgC lf_X3_choose a0 ah) : Sf hpV rgC lf_X3_choose a0 (F_X3_choose N ah p1) := by
  unfold F_X3_choose
  refine Sf.b (fb_X0_mendedPrice Fr.rf) hah rfl (fun r10 a10 ha10 => ?_)
  refine Sf.g (fun _ => ?_)
  refine Sf.g (fun _ => ?_)
  refine Sf.let_xu ha10 rfl (fun a22 ha22 => ?_)
  refine Sf.g (fun _ => ?_)
  refine Sf.let_xu ha22 rfl (fun a29 ha29 => ?_)
  refine Sf.b (fb_X0_mayJoin Fr.rf) ha29 rfl (fun r35 a35 ha35 => ?_)
  refine Sf.ite ?_ ?_
  · exact fb_X3_choose_53 ha35
  · refine Sf.b (fb_X0_joinedPrice Fr.rf) ha35 rfl (fun r46 a46 ha46 => ?_)
    exact fb_X3_choose_53 ha46
abbrev lf_X3_make : List Nat := [58, 59, 60, 61, 62, 63, 64, 65, 66, 68, 69, 70, 71, 72, 73, 75, 76, 77, 78, 79, 81, 82, 83, 6704, 6705, 7702, 7706, 7707, 7710, 9003, 9004, 9005, 9006, 9007]
theorem fb_X3_make_62 {a0 : AH} {N : Nat} {k31 : AH → Int32 → Option AH} {ah : AH} {v1 : Int32} (hk31 : ∀ {z0 : AH} {z1 : Int32}, Fr rgC lf_X3_make a0 z0 → Sf hpV rgC lf_X3_make a0 (k31 z0 z1)) (hah : Fr rgC lf_X3_make a0 ah) : Sf hpV rgC lf_X3_make a0 (F_X3_make_62 N k31 ah v1) := by
  unfold F_X3_make_62
  refine Sf.bv (fb_X3_choose Fr.rf) hah rfl (fun a64 ha64 => ?_)
  refine Sf.let_v (fun v1_67 => ?_)
  exact hk31 ha64
abbrev lf_X3_writeByte : List Nat := [81, 9004]
theorem fb_X3_writeByte {a0 : AH} {N : Nat} {ah : AH} {p1 : Int32}  (hah : Fr rgC lf_X3_writeByte a0 ah) : Sf hpV rgC lf_X3_writeByte a0 (F_X3_writeByte N ah p1) := by
  unfold F_X3_writeByte
  refine Sf.ite ?_ ?_
  · exact Sf.ret hah
  · refine Sf.g (fun _ => ?_)
    refine Sf.let_xu hah rfl (fun a19 ha19 => ?_)
    refine Sf.let_xu ha19 rfl (fun a27 ha27 => ?_)
    exact Sf.ret ha27
abbrev lf_X3_writeCells : List Nat := [81, 9004]
theorem fb_X3_writeCells_52 {a0 : AH} {N : Nat} {k10 : AH → Int32 → Int32 → Option AH} {ah : AH} {v1 : Int32} {v2 : Int32} (hk10 : ∀ {z0 : AH} {z1 : Int32} {z2 : Int32}, Fr rgC lf_X3_writeCells a0 z0 → Sf hpV rgC lf_X3_writeCells a0 (k10 z0 z1 z2)) (hah : Fr rgC lf_X3_writeCells a0 ah) : Sf hpV rgC lf_X3_writeCells a0 (F_X3_writeCells_52 N k10 ah v1 v2) := by
  unfold F_X3_writeCells_52
  refine Sf.let_v (fun v2_52 => ?_)
  exact hk10 hah
theorem fb_X3_writeCells_10 {a0 : AH} {N : Nat}  : ∀ (n : Nat) {ah : AH} {v1 : Int32} {v2 : Int32}  (hah : Fr rgC lf_X3_writeCells a0 ah), Sf hpV rgC lf_X3_writeCells a0 (F_X3_writeCells_10 N n ah v1 v2) := by
  intro n
  induction n with
  | zero => intros; exact Sf.none
  | succ n ih =>
    intro ah v1 v2  hah
    unfold F_X3_writeCells_10
    refine Sf.g (fun _ => ?_)
    refine Sf.ite ?_ ?_
    · exact Sf.ret hah
    · refine Sf.g (fun _ => ?_)
      refine Sf.ite ?_ ?_
      · exact fb_X3_writeCells_52 (fun h => ih h) hah
      · refine Sf.g (fun _ => ?_)
        refine Sf.bv (fb_X3_writeByte Fr.rf) hah rfl (fun a49 ha49 => ?_)
        exact fb_X3_writeCells_52 (fun h => ih h) ha49
theorem fb_X3_writeCells {a0 : AH} {N : Nat} {ah : AH} {p1 : Int32}  (hah : Fr rgC lf_X3_writeCells a0 ah) : Sf hpV rgC lf_X3_writeCells a0 (F_X3_writeCells N ah p1) := by
  unfold F_X3_writeCells
  refine Sf.g (fun _ => ?_)
  refine Sf.let_v (fun v2_9 => ?_)
  exact fb_X3_writeCells_10 _ hah
abbrev lf_X2_signOf : List Nat := []
theorem fb_X2_signOf {a0 : AH} {N : Nat} {ah : AH} {p1 : Int32} {p2 : Int32}  (hah : Fr rgC lf_X2_signOf a0 ah) : Sf hpI rgC lf_X2_signOf a0 (F_X2_signOf N ah p1 p2) := by
  unfold F_X2_signOf
  refine Sf.g (fun _ => ?_)
  exact Sf.ret hah
abbrev lf_X3_writeWord : List Nat := [81, 9004]
theorem fb_X3_writeWord_2 {a0 : AH} {N : Nat}  : ∀ (n : Nat) {ah : AH} {v1 : Int32} {v2 : Int32}  (hah : Fr rgC lf_X3_writeWord a0 ah), Sf hpV rgC lf_X3_writeWord a0 (F_X3_writeWord_2 N n ah v1 v2) := by
  intro n
  induction n with
  | zero => intros; exact Sf.none
  | succ n ih =>
    intro ah v1 v2  hah
    unfold F_X3_writeWord_2
    refine Sf.g (fun _ => ?_)
    refine Sf.ite ?_ ?_
    · exact Sf.ret hah
    · refine Sf.b (fb_X2_signOf Fr.rf) hah rfl (fun r22 a22 ha22 => ?_)
      refine Sf.bv (fb_X3_writeByte Fr.rf) ha22 rfl (fun a25 ha25 => ?_)
      refine Sf.let_v (fun v2_28 => ?_)
      exact ih ha25
theorem fb_X3_writeWord {a0 : AH} {N : Nat} {ah : AH} {p1 : Int32}  (hah : Fr rgC lf_X3_writeWord a0 ah) : Sf hpV rgC lf_X3_writeWord a0 (F_X3_writeWord N ah p1) := by
  unfold F_X3_writeWord
  refine Sf.let_v (fun v2_1 => ?_)
  exact fb_X3_writeWord_2 _ hah
abbrev lf_X3_writeOne : List Nat := [81, 82, 9004, 9006, 9007]
theorem fb_X3_writeOne {a0 : AH} {N : Nat} {ah : AH} {p1 : Int32}  (hah : Fr rgC lf_X3_writeOne a0 ah) : Sf hpI rgC lf_X3_writeOne a0 (F_X3_writeOne N ah p1) := by
  unfold F_X3_writeOne
  refine Sf.g (fun _ => ?_)
  refine Sf.ite ?_ ?_
  · refine Sf.b (fb_X0_wordInside Fr.rf) hah rfl (fun r54 a54 ha54 => ?_)
    refine Sf.let_v (fun v2_57 => ?_)
    refine Sf.ite ?_ ?_
    · refine Sf.let_xu ha54 rfl (fun a70 ha70 => ?_)
      refine Sf.bv (fb_X3_writeCells Fr.rf) ha70 rfl (fun a75 ha75 => ?_)
      exact Sf.ret ha75
    · refine Sf.bv (fb_X3_writeWord Fr.rf) ha54 rfl (fun a83 ha83 => ?_)
      exact Sf.ret ha83
  · refine Sf.let_xu hah rfl (fun a16 ha16 => ?_)
    refine Sf.b (fb_X0_wordOf Fr.rf) ha16 rfl (fun r29 a29 ha29 => ?_)
    refine Sf.bv (fb_X3_writeWord Fr.rf) ha29 rfl (fun a32 ha32 => ?_)
    refine Sf.g (fun _ => ?_)
    refine Sf.let_xu ha32 rfl (fun a43 ha43 => ?_)
    exact Sf.ret ha43
abbrev lf_X3_write : List Nat := [81, 82, 9004, 9006, 9007]
theorem fb_X3_write_63 {a0 : AH} {N : Nat} {k4 : AH → Int32 → Int32 → Option AH} {ah : AH} {v2 : Int32} {v3 : Int32} (hk4 : ∀ {z0 : AH} {z1 : Int32} {z2 : Int32}, Fr rgC lf_X3_write a0 z0 → Sf hpV rgC lf_X3_write a0 (k4 z0 z1 z2)) (hah : Fr rgC lf_X3_write a0 ah) : Sf hpV rgC lf_X3_write a0 (F_X3_write_63 N k4 ah v2 v3) := by
  unfold F_X3_write_63
  refine Sf.let_v (fun v1_66 => ?_)
  refine Sf.let_v (fun v2_67 => ?_)
  exact hk4 hah
theorem fb_X3_write_60 {a0 : AH} {N : Nat} {k4 : AH → Int32 → Int32 → Option AH} {ah : AH} {v2 : Int32} {v3 : Int32} {s1 : Int32} (hk4 : ∀ {z0 : AH} {z1 : Int32} {z2 : Int32}, Fr rgC lf_X3_write a0 z0 → Sf hpV rgC lf_X3_write a0 (k4 z0 z1 z2)) (hah : Fr rgC lf_X3_write a0 ah) : Sf hpV rgC lf_X3_write a0 (F_X3_write_60 N k4 ah v2 v3 s1) := by
  unfold F_X3_write_60
  refine Sf.bv (fb_X3_writeByte Fr.rf) hah rfl (fun a60 ha60 => ?_)
  exact fb_X3_write_63 hk4 ha60
theorem fb_X3_write_4 {a0 : AH} {N : Nat}  : ∀ (n : Nat) {ah : AH} {v1 : Int32} {v2 : Int32}  (hah : Fr rgC lf_X3_write a0 ah), Sf hpV rgC lf_X3_write a0 (F_X3_write_4 N n ah v1 v2) := by
  intro n
  induction n with
  | zero => intros; exact Sf.none
  | succ n ih =>
    intro ah v1 v2  hah
    unfold F_X3_write_4
    refine Sf.ite ?_ ?_
    · exact Sf.ret hah
    · refine Sf.ite ?_ ?_
      · exact Sf.ret hah
      · refine Sf.b (fb_X3_writeOne Fr.rf) hah rfl (fun r23 a23 ha23 => ?_)
        refine Sf.let_v (fun v3_26 => ?_)
        refine Sf.ite ?_ ?_
        · exact fb_X3_write_63 (fun h => ih h) ha23
        · refine Sf.g (fun _ => ?_)
          refine Sf.ite ?_ ?_
          · exact fb_X3_write_60 (fun h => ih h) ha23
          · exact fb_X3_write_60 (fun h => ih h) ha23
theorem fb_X3_write {a0 : AH} {N : Nat} {ah : AH}  (hah : Fr rgC lf_X3_write a0 ah) : Sf hpV rgC lf_X3_write a0 (F_X3_write N ah) := by
  unfold F_X3_write
  refine Sf.let_v (fun v1_1 => ?_)
  refine Sf.let_v (fun v2_3 => ?_)
  exact fb_X3_write_4 _ hah
theorem fb_X3_make_31 {a0 : AH} {N : Nat}  : ∀ (n : Nat) {ah : AH} {v1 : Int32}  (hah : Fr rgC lf_X3_make a0 ah), Sf hpV rgC lf_X3_make a0 (F_X3_make_31 N n ah v1) := by
  intro n
  induction n with
  | zero => intros; exact Sf.none
  | succ n ih =>
    intro ah v1  hah
    unfold F_X3_make_31
    refine Sf.ite ?_ ?_
    · refine Sf.let_xu hah rfl (fun a80 ha80 => ?_)
      refine Sf.let_xu ha80 rfl (fun a85 ha85 => ?_)
      refine Sf.let_xu ha85 rfl (fun a90 ha90 => ?_)
      refine Sf.let_xu ha90 rfl (fun a95 ha95 => ?_)
      refine Sf.bv (fb_X3_write Fr.rf) ha95 rfl (fun a99 ha99 => ?_)
      refine Sf.let_xu ha99 rfl (fun a104 ha104 => ?_)
      exact Sf.ret ha104
    · refine Sf.bv (fb_X0_lookAlone Fr.rf) hah rfl (fun a40 ha40 => ?_)
      refine Sf.b (fb_X0_mayJoin Fr.rf) ha40 rfl (fun r48 a48 ha48 => ?_)
      refine Sf.ite ?_ ?_
      · exact fb_X3_make_62 (fun h => ih h) ha48
      · refine Sf.bv (fb_X0_lookJoined Fr.rf) ha48 rfl (fun a59 ha59 => ?_)
        exact fb_X3_make_62 (fun h => ih h) ha59
theorem fb_X3_make {a0 : AH} {N : Nat} {ah : AH}  (hah : Fr rgC lf_X3_make a0 ah) : Sf hpV rgC lf_X3_make a0 (F_X3_make N ah) := by
  unfold F_X3_make
  refine Sf.ite ?_ ?_
  · refine Sf.g (fun _ => ?_)
    refine Sf.let_xu hah rfl (fun a20 ha20 => ?_)
    refine Sf.let_v (fun v1_30 => ?_)
    exact fb_X3_make_31 _ ha20
  · exact Sf.ret hah
abbrev lf_X11_at : List Nat := [58, 59, 60, 61, 62, 63, 64, 65, 66, 68, 69, 70, 71, 72, 73, 75, 76, 77, 78, 79, 81, 82, 83, 6704, 6705, 7702, 7706, 7707, 7710, 9003, 9004, 9005, 9006, 9007]
theorem fb_X11_at {a0 : AH} {N : Nat} {ah : AH} {p1 : Int32}  (hah : Fr rgC lf_X11_at a0 ah) : Sf hpI rgC lf_X11_at a0 (F_X11_at N ah p1) := by
  unfold F_X11_at
  refine Sf.bv (fb_X3_make Fr.rf) hah rfl (fun a4 ha4 => ?_)
  refine Sf.ite ?_ ?_
  · exact Sf.ret ha4
  · refine Sf.ite ?_ ?_
    · exact Sf.ret ha4
    · refine Sf.g (fun _ => ?_)
      exact Sf.ret ha4
abbrev lf_X11_status : List Nat := []
theorem fb_X11_status {a0 : AH} {N : Nat} {ah : AH} {p1 : Int32}  (hah : Fr rgC lf_X11_status a0 ah) : Sf hpI rgC lf_X11_status a0 (F_X11_status N ah p1) := by
  unfold F_X11_status
  refine Sf.ite ?_ ?_
  · exact Sf.ret hah
  · refine Sf.ite ?_ ?_
    · exact Sf.ret hah
    · exact Sf.ret hah
abbrev lf_X10_firstBest : List Nat := []
theorem fb_X10_firstBest_63 {a0 : AH} {N : Nat} {k24 : AH → Int32 → Int32 → Int32 → Int32 → Int32 → Option (Int32 × AH)} {ah : AH} {v1 : Int32} {v2 : Int32} {v3 : Int32} {v4 : Int32} {v5 : Int32} (hk24 : ∀ {z0 : AH} {z1 : Int32} {z2 : Int32} {z3 : Int32} {z4 : Int32} {z5 : Int32}, Fr rgC lf_X10_firstBest a0 z0 → Sf hpI rgC lf_X10_firstBest a0 (k24 z0 z1 z2 z3 z4 z5)) (hah : Fr rgC lf_X10_firstBest a0 ah) : Sf hpI rgC lf_X10_firstBest a0 (F_X10_firstBest_63 N k24 ah v1 v2 v3 v4 v5) := by
  unfold F_X10_firstBest_63
  refine Sf.let_v (fun v5_63 => ?_)
  exact hk24 hah
abbrev lf_X10_needBy : List Nat := []
theorem fb_X10_needBy_33 {a0 : AH} {N : Nat}  : ∀ (n : Nat) {ah : AH} {v1 : Int32} {v2 : Int32} {v3 : Int32} {v4 : Int32} {v5 : Int32}  (hah : Fr rgC lf_X10_needBy a0 ah), Sf hpI rgC lf_X10_needBy a0 (F_X10_needBy_33 N n ah v1 v2 v3 v4 v5) := by
  intro n
  induction n with
  | zero => intros; exact Sf.none
  | succ n ih =>
    intro ah v1 v2 v3 v4 v5  hah
    unfold F_X10_needBy_33
    refine Sf.ite ?_ ?_
    · refine Sf.g (fun _ => ?_)
      refine Sf.g (fun _ => ?_)
      refine Sf.g (fun _ => ?_)
      exact Sf.ret hah
    · refine Sf.b (fb_X2_signOf Fr.rf) hah rfl (fun r49 a49 ha49 => ?_)
      refine Sf.g (fun _ => ?_)
      refine Sf.ite ?_ ?_
      · refine Sf.let_v (fun v5_72 => ?_)
        exact ih ha49
      · exact Sf.ret ha49
theorem fb_X10_needBy {a0 : AH} {N : Nat} {ah : AH} {p1 : Int32} {p2 : Int32} {p3 : Int32}  (hah : Fr rgC lf_X10_needBy a0 ah) : Sf hpI rgC lf_X10_needBy a0 (F_X10_needBy N ah p1 p2 p3) := by
  unfold F_X10_needBy
  refine Sf.g (fun _ => ?_)
  refine Sf.let_v (fun v4_9 => ?_)
  refine Sf.g (fun _ => ?_)
  refine Sf.ite ?_ ?_
  · refine Sf.let_v (fun v5_31 => ?_)
    exact fb_X10_needBy_33 _ hah
  · exact Sf.ret hah
theorem fb_X10_firstBest_24 {a0 : AH} {N : Nat}  : ∀ (n : Nat) {ah : AH} {v1 : Int32} {v2 : Int32} {v3 : Int32} {v4 : Int32} {v5 : Int32}  (hah : Fr rgC lf_X10_firstBest a0 ah), Sf hpI rgC lf_X10_firstBest a0 (F_X10_firstBest_24 N n ah v1 v2 v3 v4 v5) := by
  intro n
  induction n with
  | zero => intros; exact Sf.none
  | succ n ih =>
    intro ah v1 v2 v3 v4 v5  hah
    unfold F_X10_firstBest_24
    refine Sf.g (fun _ => ?_)
    refine Sf.ite ?_ ?_
    · exact Sf.ret hah
    · refine Sf.ite ?_ ?_
      · exact fb_X10_firstBest_63 (fun h => ih h) hah
      · refine Sf.b (fb_X10_needBy Fr.rf) hah rfl (fun r52 a52 ha52 => ?_)
        refine Sf.ite ?_ ?_
        · exact Sf.ret ha52
        · exact fb_X10_firstBest_63 (fun h => ih h) ha52
theorem fb_X10_firstBest {a0 : AH} {N : Nat} {ah : AH} {p1 : Int32} {p2 : Int32} {p3 : Int32}  (hah : Fr rgC lf_X10_firstBest a0 ah) : Sf hpI rgC lf_X10_firstBest a0 (F_X10_firstBest N ah p1 p2 p3) := by
  unfold F_X10_firstBest
  refine Sf.g (fun _ => ?_)
  refine Sf.let_v (fun v4_11 => ?_)
  refine Sf.g (fun _ => ?_)
  refine Sf.let_v (fun v5_22 => ?_)
  exact fb_X10_firstBest_24 _ hah
abbrev lf_X10_follow : List Nat := [89, 9802]
theorem fb_X10_follow_9 {a0 : AH} {N : Nat}  : ∀ (n : Nat) {ah : AH} {v1 : Int32} {v2 : Int32} {v3 : Int32}  (hah : Fr rgC lf_X10_follow a0 ah), Sf hpV rgC lf_X10_follow a0 (F_X10_follow_9 N n ah v1 v2 v3) := by
  intro n
  induction n with
  | zero => intros; exact Sf.none
  | succ n ih =>
    intro ah v1 v2 v3  hah
    unfold F_X10_follow_9
    refine Sf.ite ?_ ?_
    · exact Sf.ret hah
    · refine Sf.ite ?_ ?_
      · exact Sf.ret hah
      · refine Sf.b (fb_X10_firstBest Fr.rf) hah rfl (fun r33 a33 ha33 => ?_)
        refine Sf.let_v (fun v4_36 => ?_)
        refine Sf.ite ?_ ?_
        · exact Sf.ret ha33
        · refine Sf.g (fun _ => ?_)
          refine Sf.let_xu ha33 rfl (fun a55 ha55 => ?_)
          refine Sf.let_xu ha55 rfl (fun a63 ha63 => ?_)
          refine Sf.g (fun _ => ?_)
          refine Sf.let_v (fun v2_76 => ?_)
          refine Sf.g (fun _ => ?_)
          refine Sf.let_v (fun v3_89 => ?_)
          exact ih ha63
theorem fb_X10_follow {a0 : AH} {N : Nat} {ah : AH} {p1 : Int32}  (hah : Fr rgC lf_X10_follow a0 ah) : Sf hpV rgC lf_X10_follow a0 (F_X10_follow N ah p1) := by
  unfold F_X10_follow
  refine Sf.let_xu hah rfl (fun a2 ha2 => ?_)
  refine Sf.let_v (fun v2_6 => ?_)
  refine Sf.let_v (fun v3_8 => ?_)
  exact fb_X10_follow_9 _ ha2
abbrev lf_X10_needAt : List Nat := []
theorem fb_X10_needAt_15 {a0 : AH} {N : Nat}  : ∀ (n : Nat) {ah : AH} {v1 : Int32} {v2 : Int32} {v3 : Int32} {v4 : Int32} {v5 : Int32}  (hah : Fr rgC lf_X10_needAt a0 ah), Sf hpI rgC lf_X10_needAt a0 (F_X10_needAt_15 N n ah v1 v2 v3 v4 v5) := by
  intro n
  induction n with
  | zero => intros; exact Sf.none
  | succ n ih =>
    intro ah v1 v2 v3 v4 v5  hah
    unfold F_X10_needAt_15
    refine Sf.g (fun _ => ?_)
    refine Sf.ite ?_ ?_
    · exact Sf.ret hah
    · refine Sf.b (fb_X10_needBy Fr.rf) hah rfl (fun r38 a38 ha38 => ?_)
      refine Sf.let_v (fun v4_44 => ?_)
      refine Sf.let_v (fun v5_46 => ?_)
      exact ih ha38
theorem fb_X10_needAt {a0 : AH} {N : Nat} {ah : AH} {p1 : Int32} {p2 : Int32} {p3 : Int32}  (hah : Fr rgC lf_X10_needAt a0 ah) : Sf hpI rgC lf_X10_needAt a0 (F_X10_needAt N ah p1 p2 p3) := by
  unfold F_X10_needAt
  refine Sf.let_v (fun v4_2 => ?_)
  refine Sf.g (fun _ => ?_)
  refine Sf.let_v (fun v5_13 => ?_)
  exact fb_X10_needAt_15 _ hah
abbrev lf_X10_spell : List Nat := [89, 90, 9802, 9803]
theorem fb_X10_spell_71 {a0 : AH} {N : Nat} {k18 : AH → Int32 → Int32 → Int32 → Option AH} {k25 : AH → Int32 → Int32 → Int32 → Int32 → Option AH} {ah : AH} {v1 : Int32} {v2 : Int32} {v3 : Int32} {v4 : Int32} {s1 : Int32} {s2 : Int32} (hk18 : ∀ {z0 : AH} {z1 : Int32} {z2 : Int32} {z3 : Int32}, Fr rgC lf_X10_spell a0 z0 → Sf hpV rgC lf_X10_spell a0 (k18 z0 z1 z2 z3)) (hk25 : ∀ {z0 : AH} {z1 : Int32} {z2 : Int32} {z3 : Int32} {z4 : Int32}, Fr rgC lf_X10_spell a0 z0 → Sf hpV rgC lf_X10_spell a0 (k25 z0 z1 z2 z3 z4)) (hah : Fr rgC lf_X10_spell a0 ah) : Sf hpV rgC lf_X10_spell a0 (F_X10_spell_71 N k18 k25 ah v1 v2 v3 v4 s1 s2) := by
  unfold F_X10_spell_71
  refine Sf.g (fun _ => ?_)
  refine Sf.let_xu hah rfl (fun a71 ha71 => ?_)
  refine Sf.let_v (fun v4_72 => ?_)
  exact hk25 ha71
theorem fb_X10_spell_63 {a0 : AH} {N : Nat} {k18 : AH → Int32 → Int32 → Int32 → Option AH} {k25 : AH → Int32 → Int32 → Int32 → Int32 → Option AH} {ah : AH} {v1 : Int32} {v2 : Int32} {v3 : Int32} {v4 : Int32} {s1 : Int32} (hk18 : ∀ {z0 : AH} {z1 : Int32} {z2 : Int32} {z3 : Int32}, Fr rgC lf_X10_spell a0 z0 → Sf hpV rgC lf_X10_spell a0 (k18 z0 z1 z2 z3)) (hk25 : ∀ {z0 : AH} {z1 : Int32} {z2 : Int32} {z3 : Int32} {z4 : Int32}, Fr rgC lf_X10_spell a0 z0 → Sf hpV rgC lf_X10_spell a0 (k25 z0 z1 z2 z3 z4)) (hah : Fr rgC lf_X10_spell a0 ah) : Sf hpV rgC lf_X10_spell a0 (F_X10_spell_63 N k18 k25 ah v1 v2 v3 v4 s1) := by
  unfold F_X10_spell_63
  refine Sf.b (fb_X10_needAt Fr.rf) hah rfl (fun r68 a68 ha68 => ?_)
  exact fb_X10_spell_71 hk18 hk25 ha68
theorem fb_X10_spell_25 {a0 : AH} {N : Nat} {k18 : AH → Int32 → Int32 → Int32 → Option AH} (hk18 : ∀ {z0 : AH} {z1 : Int32} {z2 : Int32} {z3 : Int32}, Fr rgC lf_X10_spell a0 z0 → Sf hpV rgC lf_X10_spell a0 (k18 z0 z1 z2 z3)) : ∀ (n : Nat) {ah : AH} {v1 : Int32} {v2 : Int32} {v3 : Int32} {v4 : Int32}  (hah : Fr rgC lf_X10_spell a0 ah), Sf hpV rgC lf_X10_spell a0 (F_X10_spell_25 N k18 n ah v1 v2 v3 v4) := by
  intro n
  induction n with
  | zero => intros; exact Sf.none
  | succ n ih =>
    intro ah v1 v2 v3 v4  hah
    unfold F_X10_spell_25
    refine Sf.ite ?_ ?_
    · refine Sf.let_v (fun v3_78 => ?_)
      exact hk18 hah
    · refine Sf.ite ?_ ?_
      · refine Sf.ite ?_ ?_
        · exact fb_X10_spell_71 hk18 (fun h => ih h) hah
        · exact fb_X10_spell_63 hk18 (fun h => ih h) hah
      · exact fb_X10_spell_63 hk18 (fun h => ih h) hah
theorem fb_X10_spell_18 {a0 : AH} {N : Nat}  : ∀ (n : Nat) {ah : AH} {v1 : Int32} {v2 : Int32} {v3 : Int32}  (hah : Fr rgC lf_X10_spell a0 ah), Sf hpV rgC lf_X10_spell a0 (F_X10_spell_18 N n ah v1 v2 v3) := by
  intro n
  induction n with
  | zero => intros; exact Sf.none
  | succ n ih =>
    intro ah v1 v2 v3  hah
    unfold F_X10_spell_18
    refine Sf.ite ?_ ?_
    · refine Sf.let_xu hah rfl (fun a91 ha91 => ?_)
      refine Sf.bv (fb_X10_follow Fr.rf) ha91 rfl (fun a96 ha96 => ?_)
      exact Sf.ret ha96
    · refine Sf.let_v (fun v4_23 => ?_)
      exact fb_X10_spell_25 (fun h => ih h) _ hah
theorem fb_X10_spell {a0 : AH} {N : Nat} {ah : AH} {p1 : Int32}  (hah : Fr rgC lf_X10_spell a0 ah) : Sf hpV rgC lf_X10_spell a0 (F_X10_spell N ah p1) := by
  unfold F_X10_spell
  refine Sf.g (fun _ => ?_)
  refine Sf.let_v (fun v2_9 => ?_)
  refine Sf.let_v (fun v3_17 => ?_)
  exact fb_X10_spell_18 _ hah
abbrev lf_X11_findWay : List Nat := [58, 59, 60, 61, 62, 63, 64, 65, 66, 68, 69, 70, 71, 72, 73, 75, 76, 77, 78, 79, 89, 90, 6704, 6705, 7702, 7706, 7707, 7710, 9802, 9803]
theorem fb_X11_findWay {a0 : AH} {N : Nat} {ah : AH} {p1 : Int32}  (hah : Fr rgC lf_X11_findWay a0 ah) : Sf hpI rgC lf_X11_findWay a0 (F_X11_findWay N ah p1) := by
  unfold F_X11_findWay
  refine Sf.bv (fb_X0_lookAlone Fr.rf) hah rfl (fun a5 ha5 => ?_)
  refine Sf.b (fb_X0_mendedWord Fr.rf) ha5 rfl (fun r13 a13 ha13 => ?_)
  refine Sf.let_v (fun v2_16 => ?_)
  refine Sf.ite ?_ ?_
  · exact Sf.ret ha13
  · refine Sf.g (fun _ => ?_)
    refine Sf.b (fb_X5_cellsOf_31 Fr.rf) ha13 rfl (fun r42 a42 ha42 => ?_)
    refine Sf.bv (fb_X4_ofCells Fr.rf) ha42 rfl (fun a45 ha45 => ?_)
    refine Sf.bv (fb_X10_spell Fr.rf) ha45 rfl (fun a53 ha53 => ?_)
    exact Sf.ret ha53
abbrev lf_X4_ofWord : List Nat := [58, 59, 60, 61, 62, 63, 64, 65, 66, 6704, 6705]
theorem fb_X4_ofWord_46 {a0 : AH} {N : Nat}  : ∀ (n : Nat) {ah : AH} {v2 : Int32}  (hah : Fr rgC lf_X4_ofWord a0 ah), Sf hpV rgC lf_X4_ofWord a0 (F_X4_ofWord_46 N n ah v2) := by
  intro n
  induction n with
  | zero => intros; exact Sf.none
  | succ n ih =>
    intro ah v2  hah
    unfold F_X4_ofWord_46
    refine Sf.ite ?_ ?_
    · refine Sf.bv (fb_X4_end Fr.rf) hah rfl (fun a81 ha81 => ?_)
      exact Sf.ret ha81
    · refine Sf.g (fun _ => ?_)
      refine Sf.let_xu hah rfl (fun a63 ha63 => ?_)
      refine Sf.bv (fb_X4_addRead Fr.rf) ha63 rfl (fun a66 ha66 => ?_)
      refine Sf.bv (fb_X4_addShapes Fr.rf) ha66 rfl (fun a71 ha71 => ?_)
      refine Sf.let_v (fun v2_74 => ?_)
      exact ih ha71
theorem fb_X4_ofWord_15 {a0 : AH} {N : Nat}  : ∀ (n : Nat) {ah : AH} {v1 : Int32} {v2 : Int32}  (hah : Fr rgC lf_X4_ofWord a0 ah), Sf hpV rgC lf_X4_ofWord a0 (F_X4_ofWord_15 N n ah v1 v2) := by
  intro n
  induction n with
  | zero => intros; exact Sf.none
  | succ n ih =>
    intro ah v1 v2  hah
    unfold F_X4_ofWord_15
    refine Sf.ite ?_ ?_
    · refine Sf.let_v (fun v2_45 => ?_)
      exact fb_X4_ofWord_46 _ hah
    · refine Sf.b (fb_X2_signOf Fr.rf) hah rfl (fun r34 a34 ha34 => ?_)
      refine Sf.g (fun _ => ?_)
      refine Sf.let_xu ha34 rfl (fun a37 ha37 => ?_)
      refine Sf.let_v (fun v2_38 => ?_)
      exact ih ha37
theorem fb_X4_ofWord {a0 : AH} {N : Nat} {ah : AH} {p1 : Int32}  (hah : Fr rgC lf_X4_ofWord a0 ah) : Sf hpV rgC lf_X4_ofWord a0 (F_X4_ofWord N ah p1) := by
  unfold F_X4_ofWord
  refine Sf.g (fun _ => ?_)
  refine Sf.bv (fb_X4_begin Fr.rf) hah rfl (fun a10 ha10 => ?_)
  refine Sf.let_v (fun v2_14 => ?_)
  exact fb_X4_ofWord_15 _ ha10
abbrev lf_X0_lookSurely : List Nat := [58, 59, 60, 61, 62, 63, 64, 65, 66, 68, 69, 70, 71, 72, 73, 75, 76, 77, 78, 79, 6704, 6705, 7702, 7706, 7707, 7710]
theorem fb_X0_lookSurely {a0 : AH} {N : Nat} {ah : AH} {p1 : Int32}  (hah : Fr rgC lf_X0_lookSurely a0 ah) : Sf hpV rgC lf_X0_lookSurely a0 (F_X0_lookSurely N ah p1) := by
  unfold F_X0_lookSurely
  refine Sf.g (fun _ => ?_)
  refine Sf.ite ?_ ?_
  · refine Sf.bv (fb_X4_ofWord Fr.rf) hah rfl (fun a20 ha20 => ?_)
    refine Sf.bv (fb_X6_run Fr.rf) ha20 rfl (fun a29 ha29 => ?_)
    refine Sf.bv (fb_X0_keep Fr.rf) ha29 rfl (fun a37 ha37 => ?_)
    exact Sf.ret ha37
  · exact Sf.ret hah
abbrev lf_X0_priceFor : List Nat := []
theorem fb_X0_priceFor_2 {a0 : AH} {N : Nat}  : ∀ (n : Nat) {ah : AH} {v1 : Int32} {v2 : Int32} {v3 : Int32}  (hah : Fr rgC lf_X0_priceFor a0 ah), Sf hpI rgC lf_X0_priceFor a0 (F_X0_priceFor_2 N n ah v1 v2 v3) := by
  intro n
  induction n with
  | zero => intros; exact Sf.none
  | succ n ih =>
    intro ah v1 v2 v3  hah
    unfold F_X0_priceFor_2
    refine Sf.g (fun _ => ?_)
    refine Sf.ite ?_ ?_
    · exact Sf.ret hah
    · refine Sf.g (fun _ => ?_)
      refine Sf.ite ?_ ?_
      · refine Sf.g (fun _ => ?_)
        exact Sf.ret hah
      · refine Sf.let_v (fun v3_39 => ?_)
        exact ih hah
theorem fb_X0_priceFor {a0 : AH} {N : Nat} {ah : AH} {p1 : Int32} {p2 : Int32}  (hah : Fr rgC lf_X0_priceFor a0 ah) : Sf hpI rgC lf_X0_priceFor a0 (F_X0_priceFor N ah p1 p2) := by
  unfold F_X0_priceFor
  refine Sf.let_v (fun v3_1 => ?_)
  exact fb_X0_priceFor_2 _ hah
abbrev lf_X11_costBetween : List Nat := [58, 59, 60, 61, 62, 63, 64, 65, 66, 68, 69, 70, 71, 72, 73, 75, 76, 77, 78, 79, 6704, 6705, 7702, 7706, 7707, 7710]
theorem fb_X11_costBetween {a0 : AH} {N : Nat} {ah : AH} {p1 : Int32} {p2 : Int32}  (hah : Fr rgC lf_X11_costBetween a0 ah) : Sf hpI rgC lf_X11_costBetween a0 (F_X11_costBetween N ah p1 p2) := by
  unfold F_X11_costBetween
  refine Sf.bv (fb_X0_lookSurely Fr.rf) hah rfl (fun a5 ha5 => ?_)
  refine Sf.b (fb_X0_priceFor Fr.rf) ha5 rfl (fun r17 a17 ha17 => ?_)
  refine Sf.let_v (fun v3_20 => ?_)
  refine Sf.ite ?_ ?_
  · exact Sf.ret ha17
  · refine Sf.g (fun _ => ?_)
    exact Sf.ret ha17
abbrev lf_X11_isLetter : List Nat := []
theorem fb_X11_isLetter {a0 : AH} {N : Nat} {ah : AH} {p0 : Int32}  (hah : Fr rgC lf_X11_isLetter a0 ah) : Sf hpI rgC lf_X11_isLetter a0 (F_X11_isLetter N ah p0) := by
  unfold F_X11_isLetter
  refine Sf.ite ?_ ?_
  · exact Sf.ret hah
  · refine Sf.ite ?_ ?_
    · exact Sf.ret hah
    · exact Sf.ret hah
abbrev lf_X11_isDigit : List Nat := []
theorem fb_X11_isDigit {a0 : AH} {N : Nat} {ah : AH} {p0 : Int32}  (hah : Fr rgC lf_X11_isDigit a0 ah) : Sf hpI rgC lf_X11_isDigit a0 (F_X11_isDigit N ah p0) := by
  unfold F_X11_isDigit
  refine Sf.ite ?_ ?_
  · exact Sf.ret hah
  · refine Sf.ite ?_ ?_
    · exact Sf.ret hah
    · exact Sf.ret hah
abbrev lf_X11_needBetween : List Nat := [1015]
theorem fb_X11_needBetween_10 {a0 : AH} {N : Nat} {ah : AH}  (hah : Fr rgC lf_X11_needBetween a0 ah) : Sf hpX rgC lf_X11_needBetween a0 (F_X11_needBetween_10 N ah) := by
  unfold F_X11_needBetween_10
  refine Sf.let_xu hah rfl (fun a17 ha17 => ?_)
  exact Sf.ret ha17
theorem fb_X11_needBetween {a0 : AH} {N : Nat} {ah : AH} {p1 : Int32} {p2 : Int32} {p3 : Int32}  (hah : Fr rgC lf_X11_needBetween a0 ah) : Sf hpX rgC lf_X11_needBetween a0 (F_X11_needBetween N ah p1 p2 p3) := by
  unfold F_X11_needBetween
  refine Sf.ite ?_ ?_
  · exact fb_X11_needBetween_10 hah
  · refine Sf.ite ?_ ?_
    · exact Sf.ret hah
    · exact fb_X11_needBetween_10 hah
abbrev lf_X9_finish : List Nat := [1201]
theorem fb_X9_finish {a0 : AH} {N : Nat} {ah : AH} {p1 : Int32}  (hah : Fr rgC lf_X9_finish a0 ah) : Sf hpI rgC lf_X9_finish a0 (F_X9_finish N ah p1) := by
  unfold F_X9_finish
  refine Sf.let_xu hah rfl (fun a2 ha2 => ?_)
  refine Sf.ite ?_ ?_
  · exact Sf.ret ha2
  · exact Sf.ret ha2
abbrev lf_X11_lexicon : List Nat := [5, 6, 7, 8, 9, 10, 11, 12, 13, 14, 15, 16, 17, 18, 75, 1015, 1201, 1202, 1203, 1204, 1205, 1400, 1405, 1413, 9003, 9404]
theorem fb_X11_lexicon_39 {a0 : AH} {N : Nat} {ah : AH}  (hah : Fr rgC lf_X11_lexicon a0 ah) : Sf hpX rgC lf_X11_lexicon a0 (F_X11_lexicon_39 N ah) := by
  unfold F_X11_lexicon_39
  refine Sf.b (fb_X9_finish Fr.rf) hah rfl (fun r50 a50 ha50 => ?_)
  exact Sf.ret ha50
abbrev lf_X2_findLeast : List Nat := [15]
theorem fb_X2_findLeast_102 {a0 : AH} {N : Nat} {k25 : AH → Int32 → Option AH} {ah : AH} {v1 : Int32} (hk25 : ∀ {z0 : AH} {z1 : Int32}, Fr rgC lf_X2_findLeast a0 z0 → Sf hpV rgC lf_X2_findLeast a0 (k25 z0 z1)) (hah : Fr rgC lf_X2_findLeast a0 ah) : Sf hpV rgC lf_X2_findLeast a0 (F_X2_findLeast_102 N k25 ah v1) := by
  unfold F_X2_findLeast_102
  refine Sf.let_v (fun v1_102 => ?_)
  exact hk25 hah
theorem fb_X2_findLeast_89 {a0 : AH} {N : Nat} {k25 : AH → Int32 → Option AH} {k42 : AH → Int32 → Int32 → Int32 → Option AH} {ah : AH} {v1 : Int32} {v2 : Int32} {v3 : Int32} (hk25 : ∀ {z0 : AH} {z1 : Int32}, Fr rgC lf_X2_findLeast a0 z0 → Sf hpV rgC lf_X2_findLeast a0 (k25 z0 z1)) (hk42 : ∀ {z0 : AH} {z1 : Int32} {z2 : Int32} {z3 : Int32}, Fr rgC lf_X2_findLeast a0 z0 → Sf hpV rgC lf_X2_findLeast a0 (k42 z0 z1 z2 z3)) (hah : Fr rgC lf_X2_findLeast a0 ah) : Sf hpV rgC lf_X2_findLeast a0 (F_X2_findLeast_89 N k25 k42 ah v1 v2 v3) := by
  unfold F_X2_findLeast_89
  refine Sf.g (fun _ => ?_)
  refine Sf.let_v (fun v2_95 => ?_)
  refine Sf.let_v (fun v3_96 => ?_)
  exact hk42 hah
theorem fb_X2_findLeast_77 {a0 : AH} {N : Nat} {k25 : AH → Int32 → Option AH} {k42 : AH → Int32 → Int32 → Int32 → Option AH} {ah : AH} {v1 : Int32} {v2 : Int32} {v3 : Int32} (hk25 : ∀ {z0 : AH} {z1 : Int32}, Fr rgC lf_X2_findLeast a0 z0 → Sf hpV rgC lf_X2_findLeast a0 (k25 z0 z1)) (hk42 : ∀ {z0 : AH} {z1 : Int32} {z2 : Int32} {z3 : Int32}, Fr rgC lf_X2_findLeast a0 z0 → Sf hpV rgC lf_X2_findLeast a0 (k42 z0 z1 z2 z3)) (hah : Fr rgC lf_X2_findLeast a0 ah) : Sf hpV rgC lf_X2_findLeast a0 (F_X2_findLeast_77 N k25 k42 ah v1 v2 v3) := by
  unfold F_X2_findLeast_77
  refine Sf.g (fun _ => ?_)
  refine Sf.g (fun _ => ?_)
  refine Sf.let_xu hah rfl (fun a88 ha88 => ?_)
  exact fb_X2_findLeast_89 hk25 hk42 ha88
theorem fb_X2_findLeast_42 {a0 : AH} {N : Nat} {k25 : AH → Int32 → Option AH} (hk25 : ∀ {z0 : AH} {z1 : Int32}, Fr rgC lf_X2_findLeast a0 z0 → Sf hpV rgC lf_X2_findLeast a0 (k25 z0 z1)) : ∀ (n : Nat) {ah : AH} {v1 : Int32} {v2 : Int32} {v3 : Int32}  (hah : Fr rgC lf_X2_findLeast a0 ah), Sf hpV rgC lf_X2_findLeast a0 (F_X2_findLeast_42 N k25 n ah v1 v2 v3) := by
  intro n
  induction n with
  | zero => intros; exact Sf.none
  | succ n ih =>
    intro ah v1 v2 v3  hah
    unfold F_X2_findLeast_42
    refine Sf.ite ?_ ?_
    · exact fb_X2_findLeast_102 hk25 hah
    · refine Sf.ite ?_ ?_
      · exact fb_X2_findLeast_102 hk25 hah
      · refine Sf.g (fun _ => ?_)
        refine Sf.ite ?_ ?_
        · exact fb_X2_findLeast_77 hk25 (fun h => ih h) hah
        · refine Sf.g (fun _ => ?_)
          refine Sf.g (fun _ => ?_)
          refine Sf.ite ?_ ?_
          · exact fb_X2_findLeast_89 hk25 (fun h => ih h) hah
          · exact fb_X2_findLeast_77 hk25 (fun h => ih h) hah
theorem fb_X2_findLeast_25 {a0 : AH} {N : Nat}  : ∀ (n : Nat) {ah : AH} {v1 : Int32}  (hah : Fr rgC lf_X2_findLeast a0 ah), Sf hpV rgC lf_X2_findLeast a0 (F_X2_findLeast_25 N n ah v1) := by
  intro n
  induction n with
  | zero => intros; exact Sf.none
  | succ n ih =>
    intro ah v1  hah
    unfold F_X2_findLeast_25
    refine Sf.ite ?_ ?_
    · exact Sf.ret hah
    · refine Sf.g (fun _ => ?_)
      refine Sf.let_v (fun v2_39 => ?_)
      refine Sf.let_v (fun v3_41 => ?_)
      exact fb_X2_findLeast_42 (fun h => ih h) _ hah
theorem fb_X2_findLeast_2 {a0 : AH} {N : Nat}  : ∀ (n : Nat) {ah : AH} {v1 : Int32}  (hah : Fr rgC lf_X2_findLeast a0 ah), Sf hpV rgC lf_X2_findLeast a0 (F_X2_findLeast_2 N n ah v1) := by
  intro n
  induction n with
  | zero => intros; exact Sf.none
  | succ n ih =>
    intro ah v1  hah
    unfold F_X2_findLeast_2
    refine Sf.ite ?_ ?_
    · refine Sf.let_v (fun v1_24 => ?_)
      exact fb_X2_findLeast_25 _ hah
    · refine Sf.g (fun _ => ?_)
      refine Sf.let_xu hah rfl (fun a16 ha16 => ?_)
      refine Sf.let_v (fun v1_17 => ?_)
      exact ih ha16
theorem fb_X2_findLeast {a0 : AH} {N : Nat} {ah : AH}  (hah : Fr rgC lf_X2_findLeast a0 ah) : Sf hpV rgC lf_X2_findLeast a0 (F_X2_findLeast N ah) := by
  unfold F_X2_findLeast
  refine Sf.let_v (fun v1_1 => ?_)
  exact fb_X2_findLeast_2 _ hah
abbrev lf_X2_addFresh_3 : List Nat := [5, 6, 7, 8, 9, 10, 11, 12, 13, 14, 15, 1400, 1405]
theorem fb_X2_addFresh_67_3 {a0 : AH} {N : Nat} {ah : AH}  (hah : Fr rgC lf_X2_addFresh_3 a0 ah) : Sf hpV rgC lf_X2_addFresh_3 a0 (F_X2_addFresh_67 N 3 ah) := by
  unfold F_X2_addFresh_67
  refine Sf.bv (fb_X2_findLeast Fr.rf) hah rfl (fun a68 ha68 => ?_)
  exact Sf.ret ha68
abbrev lf_X2_addWord_3 : List Nat := [5, 7, 8, 9, 10, 11, 12, 13, 14, 15, 1405]
theorem fb_X2_addWord_108_3 {a0 : AH} {N : Nat} {ah : AH} {v3 : Int32} {v4 : Int32}  (hah : Fr rgC lf_X2_addWord_3 a0 ah) : Sf hpV rgC lf_X2_addWord_3 a0 (F_X2_addWord_108 N 3 ah v3 v4) := by
  unfold F_X2_addWord_108
  refine Sf.g (fun _ => ?_)
  refine Sf.let_xu hah rfl (fun a117 ha117 => ?_)
  refine Sf.g (fun _ => ?_)
  refine Sf.let_xu ha117 rfl (fun a128 ha128 => ?_)
  refine Sf.g (fun _ => ?_)
  refine Sf.let_xu ha128 rfl (fun a139 ha139 => ?_)
  exact Sf.ret ha139
theorem fb_X2_addWord_80_3 {a0 : AH} {N : Nat} {k16 : AH → Int32 → Int32 → Int32 → Int32 → Option AH} {ah : AH} {v2 : Int32} {v3 : Int32} {v5 : Int32} {v7 : Int32} (hk16 : ∀ {z0 : AH} {z1 : Int32} {z2 : Int32} {z3 : Int32} {z4 : Int32}, Fr rgC lf_X2_addWord_3 a0 z0 → Sf hpV rgC lf_X2_addWord_3 a0 (k16 z0 z1 z2 z3 z4)) (hah : Fr rgC lf_X2_addWord_3 a0 ah) : Sf hpV rgC lf_X2_addWord_3 a0 (F_X2_addWord_80 N 3 k16 ah v2 v3 v5 v7) := by
  unfold F_X2_addWord_80
  refine Sf.ite ?_ ?_
  · exact Sf.ret hah
  · refine Sf.let_v (fun v4_89 => ?_)
    refine Sf.g (fun _ => ?_)
    refine Sf.g (fun _ => ?_)
    refine Sf.let_xu hah rfl (fun a101 ha101 => ?_)
    refine Sf.let_v (fun v5_102 => ?_)
    exact hk16 ha101
theorem fb_X2_addWord_16_3 {a0 : AH} {N : Nat}  : ∀ (n : Nat) {ah : AH} {v2 : Int32} {v3 : Int32} {v4 : Int32} {v5 : Int32}  (hah : Fr rgC lf_X2_addWord_3 a0 ah), Sf hpV rgC lf_X2_addWord_3 a0 (F_X2_addWord_16 N 3 n ah v2 v3 v4 v5) := by
  intro n
  induction n with
  | zero => intros; exact Sf.none
  | succ n ih =>
    intro ah v2 v3 v4 v5  hah
    unfold F_X2_addWord_16
    refine Sf.ite ?_ ?_
    · exact fb_X2_addWord_108_3 hah
    · refine Sf.ite ?_ ?_
      · exact fb_X2_addWord_108_3 hah
      · refine Sf.g (fun _ => ?_)
        refine Sf.let_v (fun v6_35 => ?_)
        refine Sf.g (fun _ => ?_)
        refine Sf.let_xu hah rfl (fun a53 ha53 => ?_)
        refine Sf.b (fb_X2_childOf Fr.rf) ha53 rfl (fun r59 a59 ha59 => ?_)
        refine Sf.let_v (fun v7_62 => ?_)
        refine Sf.ite ?_ ?_
        · refine Sf.b (fb_X2_addNode Fr.rf) ha59 rfl (fun r75 a75 ha75 => ?_)
          refine Sf.let_v (fun v7_78 => ?_)
          exact fb_X2_addWord_80_3 (fun h => ih h) ha75
        · exact fb_X2_addWord_80_3 (fun h => ih h) ha59
theorem fb_X2_addWord_3 {a0 : AH} {N : Nat} {ah : AH} {p2 : Int32} {p3 : Int32}  (hah : Fr rgC lf_X2_addWord_3 a0 ah) : Sf hpV rgC lf_X2_addWord_3 a0 (F_X2_addWord N 3 ah p2 p3) := by
  unfold F_X2_addWord
  refine Sf.let_v (fun v4_1 => ?_)
  refine Sf.let_xu hah rfl (fun a12 ha12 => ?_)
  refine Sf.let_v (fun v5_14 => ?_)
  exact fb_X2_addWord_16_3 _ ha12
theorem fb_X2_addFresh_2_3 {a0 : AH} {N : Nat}  : ∀ (n : Nat) {ah : AH} {v2 : Int32}  (hah : Fr rgC lf_X2_addFresh_3 a0 ah), Sf hpV rgC lf_X2_addFresh_3 a0 (F_X2_addFresh_2 N 3 n ah v2) := by
  intro n
  induction n with
  | zero => intros; exact Sf.none
  | succ n ih =>
    intro ah v2  hah
    unfold F_X2_addFresh_2
    refine Sf.ite ?_ ?_
    · exact fb_X2_addFresh_67_3 hah
    · refine Sf.ite ?_ ?_
      · exact fb_X2_addFresh_67_3 hah
      · refine Sf.g (fun _ => ?_)
        refine Sf.g (fun _ => ?_)
        refine Sf.bv (fb_X2_addWord_3 Fr.rf) hah rfl (fun a33 ha33 => ?_)
        refine Sf.g (fun _ => ?_)
        refine Sf.g (fun _ => ?_)
        refine Sf.let_xu ha33 rfl (fun a50 ha50 => ?_)
        refine Sf.let_xu ha50 rfl (fun a58 ha58 => ?_)
        refine Sf.let_v (fun v2_61 => ?_)
        exact ih ha58
theorem fb_X2_addFresh_3 {a0 : AH} {N : Nat} {ah : AH}  (hah : Fr rgC lf_X2_addFresh_3 a0 ah) : Sf hpV rgC lf_X2_addFresh_3 a0 (F_X2_addFresh N 3 ah) := by
  unfold F_X2_addFresh
  refine Sf.let_v (fun v2_1 => ?_)
  exact fb_X2_addFresh_2_3 _ hah
abbrev lf_X2_isFresh_3 : List Nat := []
theorem fb_X2_isFresh_59_3 {a0 : AH} {N : Nat} {k3 : AH → Int32 → Int32 → Int32 → Option (Int32 × AH)} {ah : AH} {v2 : Int32} {v3 : Int32} {v4 : Int32} {v5 : Int32} (hk3 : ∀ {z0 : AH} {z1 : Int32} {z2 : Int32} {z3 : Int32}, Fr rgC lf_X2_isFresh_3 a0 z0 → Sf hpI rgC lf_X2_isFresh_3 a0 (k3 z0 z1 z2 z3)) (hah : Fr rgC lf_X2_isFresh_3 a0 ah) : Sf hpI rgC lf_X2_isFresh_3 a0 (F_X2_isFresh_59 N 3 k3 ah v2 v3 v4 v5) := by
  unfold F_X2_isFresh_59
  refine Sf.ite ?_ ?_
  · exact Sf.ret hah
  · refine Sf.let_v (fun v4_67 => ?_)
    exact hk3 hah
theorem fb_X2_isFresh_15_3 {a0 : AH} {N : Nat} {k3 : AH → Int32 → Int32 → Int32 → Option (Int32 × AH)} (hk3 : ∀ {z0 : AH} {z1 : Int32} {z2 : Int32} {z3 : Int32}, Fr rgC lf_X2_isFresh_3 a0 z0 → Sf hpI rgC lf_X2_isFresh_3 a0 (k3 z0 z1 z2 z3)) : ∀ (n : Nat) {ah : AH} {v2 : Int32} {v3 : Int32} {v4 : Int32} {v5 : Int32}  (hah : Fr rgC lf_X2_isFresh_3 a0 ah), Sf hpI rgC lf_X2_isFresh_3 a0 (F_X2_isFresh_15 N 3 k3 n ah v2 v3 v4 v5) := by
  intro n
  induction n with
  | zero => intros; exact Sf.none
  | succ n ih =>
    intro ah v2 v3 v4 v5  hah
    unfold F_X2_isFresh_15
    refine Sf.g (fun _ => ?_)
    refine Sf.ite ?_ ?_
    · refine Sf.ite ?_ ?_
      · exact fb_X2_isFresh_59_3 hk3 hah
      · refine Sf.g (fun _ => ?_)
        refine Sf.g (fun _ => ?_)
        refine Sf.g (fun _ => ?_)
        refine Sf.ite ?_ ?_
        · refine Sf.let_v (fun v5_53 => ?_)
          exact ih hah
        · exact fb_X2_isFresh_59_3 hk3 hah
    · exact fb_X2_isFresh_59_3 hk3 hah
theorem fb_X2_isFresh_3_3 {a0 : AH} {N : Nat}  : ∀ (n : Nat) {ah : AH} {v2 : Int32} {v3 : Int32} {v4 : Int32}  (hah : Fr rgC lf_X2_isFresh_3 a0 ah), Sf hpI rgC lf_X2_isFresh_3 a0 (F_X2_isFresh_3 N 3 n ah v2 v3 v4) := by
  intro n
  induction n with
  | zero => intros; exact Sf.none
  | succ n ih =>
    intro ah v2 v3 v4  hah
    unfold F_X2_isFresh_3
    refine Sf.ite ?_ ?_
    · exact Sf.ret hah
    · refine Sf.let_v (fun v5_13 => ?_)
      exact fb_X2_isFresh_15_3 (fun h => ih h) _ hah
theorem fb_X2_isFresh_3 {a0 : AH} {N : Nat} {ah : AH} {p2 : Int32} {p3 : Int32}  (hah : Fr rgC lf_X2_isFresh_3 a0 ah) : Sf hpI rgC lf_X2_isFresh_3 a0 (F_X2_isFresh N 3 ah p2 p3) := by
  unfold F_X2_isFresh
  refine Sf.let_v (fun v4_1 => ?_)
  exact fb_X2_isFresh_3_3 _ hah
abbrev lf_X2_look_3 : List Nat := []
theorem fb_X2_look_6_3 {a0 : AH} {N : Nat}  : ∀ (n : Nat) {ah : AH} {v2 : Int32} {v3 : Int32} {v4 : Int32} {v5 : Int32}  (hah : Fr rgC lf_X2_look_3 a0 ah), Sf hpI rgC lf_X2_look_3 a0 (F_X2_look_6 N 3 n ah v2 v3 v4 v5) := by
  intro n
  induction n with
  | zero => intros; exact Sf.none
  | succ n ih =>
    intro ah v2 v3 v4 v5  hah
    unfold F_X2_look_6
    refine Sf.ite ?_ ?_
    · refine Sf.g (fun _ => ?_)
      exact Sf.ret hah
    · refine Sf.g (fun _ => ?_)
      refine Sf.b (fb_X2_childOf Fr.rf) hah rfl (fun r21 a21 ha21 => ?_)
      refine Sf.let_v (fun v4_24 => ?_)
      refine Sf.ite ?_ ?_
      · exact Sf.ret ha21
      · refine Sf.let_v (fun v5_34 => ?_)
        exact ih ha21
theorem fb_X2_look_3 {a0 : AH} {N : Nat} {ah : AH} {p2 : Int32} {p3 : Int32}  (hah : Fr rgC lf_X2_look_3 a0 ah) : Sf hpI rgC lf_X2_look_3 a0 (F_X2_look N 3 ah p2 p3) := by
  unfold F_X2_look
  refine Sf.let_v (fun v4_1 => ?_)
  refine Sf.let_v (fun v5_4 => ?_)
  exact fb_X2_look_6_3 _ hah
abbrev lf_X2_passWord : List Nat := [1203, 1204, 1205]
theorem fb_X2_passWord_50 {a0 : AH} {N : Nat} {k4 : AH → Int32 → Int32 → Option (Int32 × AH)} {ah : AH} (hk4 : ∀ {z0 : AH} {z1 : Int32} {z2 : Int32}, Fr rgC lf_X2_passWord a0 z0 → Sf hpI rgC lf_X2_passWord a0 (k4 z0 z1 z2)) (hah : Fr rgC lf_X2_passWord a0 ah) : Sf hpI rgC lf_X2_passWord a0 (F_X2_passWord_50 N k4 ah) := by
  unfold F_X2_passWord_50
  exact Sf.ret hah
abbrev lf_X9_refuse : List Nat := [1204, 1205]
theorem fb_X9_refuse {a0 : AH} {N : Nat} {ah : AH} {p1 : Int32} {p2 : Int32}  (hah : Fr rgC lf_X9_refuse a0 ah) : Sf hpI rgC lf_X9_refuse a0 (F_X9_refuse N ah p1 p2) := by
  unfold F_X9_refuse
  refine Sf.let_xu hah rfl (fun a2 ha2 => ?_)
  refine Sf.let_xu ha2 rfl (fun a7 ha7 => ?_)
  exact Sf.ret ha7
theorem fb_X2_passWord_56 {a0 : AH} {N : Nat} {k4 : AH → Int32 → Int32 → Option (Int32 × AH)} {ah : AH} {v3 : Int32} {v4 : Int32} (hk4 : ∀ {z0 : AH} {z1 : Int32} {z2 : Int32}, Fr rgC lf_X2_passWord a0 z0 → Sf hpI rgC lf_X2_passWord a0 (k4 z0 z1 z2)) (hah : Fr rgC lf_X2_passWord a0 ah) : Sf hpI rgC lf_X2_passWord a0 (F_X2_passWord_56 N k4 ah v3 v4) := by
  unfold F_X2_passWord_56
  refine Sf.ite ?_ ?_
  · refine Sf.b (fb_X9_refuse Fr.rf) hah rfl (fun r68 a68 ha68 => ?_)
    refine Sf.bo ?_
    exact Sf.ret ha68
  · refine Sf.let_v (fun v2_74 => ?_)
    refine Sf.let_xu hah rfl (fun a82 ha82 => ?_)
    refine Sf.let_v (fun v3_85 => ?_)
    exact hk4 ha82
abbrev lf_X9_peek : List Nat := []
theorem fb_X9_peek {a0 : AH} {N : Nat} {ah : AH} {p1 : Int32}  (hah : Fr rgC lf_X9_peek a0 ah) : Sf hpI rgC lf_X9_peek a0 (F_X9_peek N ah p1) := by
  unfold F_X9_peek
  refine Sf.let_v (fun v2_6 => ?_)
  refine Sf.ite ?_ ?_
  · exact Sf.ret hah
  · refine Sf.ite ?_ ?_
    · exact Sf.ret hah
    · refine Sf.g (fun _ => ?_)
      exact Sf.ret hah
theorem fb_X2_passWord_4 {a0 : AH} {N : Nat}  : ∀ (n : Nat) {ah : AH} {v2 : Int32} {v3 : Int32}  (hah : Fr rgC lf_X2_passWord a0 ah), Sf hpI rgC lf_X2_passWord a0 (F_X2_passWord_4 N n ah v2 v3) := by
  intro n
  induction n with
  | zero => intros; exact Sf.none
  | succ n ih =>
    intro ah v2 v3  hah
    unfold F_X2_passWord_4
    refine Sf.ite ?_ ?_
    · exact Sf.ret hah
    · refine Sf.b (fb_X9_peek Fr.rf) hah rfl (fun r12 a12 ha12 => ?_)
      refine Sf.let_v (fun v4_15 => ?_)
      refine Sf.b (fb_X11_isLetter Fr.rf) ha12 rfl (fun r19 a19 ha19 => ?_)
      refine Sf.ite ?_ ?_
      · refine Sf.ite ?_ ?_
        · exact fb_X2_passWord_56 (fun h => ih h) ha19
        · refine Sf.ite ?_ ?_
          · refine Sf.b (fb_X9_refuse Fr.rf) ha19 rfl (fun r44 a44 ha44 => ?_)
            refine Sf.ite ?_ ?_
            · exact Sf.ret ha44
            · exact fb_X2_passWord_50 (fun h => ih h) ha44
          · exact fb_X2_passWord_50 (fun h => ih h) ha19
      · exact fb_X2_passWord_56 (fun h => ih h) ha19
theorem fb_X2_passWord {a0 : AH} {N : Nat} {ah : AH}  (hah : Fr rgC lf_X2_passWord a0 ah) : Sf hpI rgC lf_X2_passWord a0 (F_X2_passWord N ah) := by
  unfold F_X2_passWord
  refine Sf.let_v (fun v2_1 => ?_)
  refine Sf.let_v (fun v3_3 => ?_)
  exact fb_X2_passWord_4 _ hah
abbrev lf_X2_readEntry : List Nat := [16, 17, 18, 1203, 1204, 1205, 1413]
theorem fb_X2_readEntry_88 {a0 : AH} {N : Nat} {ah : AH} {v2 : Int32}  (hah : Fr rgC lf_X2_readEntry a0 ah) : Sf hpI rgC lf_X2_readEntry a0 (F_X2_readEntry_88 N ah v2) := by
  unfold F_X2_readEntry_88
  refine Sf.b (fb_X9_refuse Fr.rf) hah rfl (fun r91 a91 ha91 => ?_)
  refine Sf.bo ?_
  exact Sf.ret ha91
abbrev lf_X9_readEnding : List Nat := [1203, 1204, 1205]
theorem fb_X9_readEnding_39 {a0 : AH} {N : Nat} {ah : AH} {v3 : Int32}  (hah : Fr rgC lf_X9_readEnding a0 ah) : Sf hpI rgC lf_X9_readEnding a0 (F_X9_readEnding_39 N ah v3) := by
  unfold F_X9_readEnding_39
  refine Sf.b (fb_X9_peek Fr.rf) hah rfl (fun r41 a41 ha41 => ?_)
  refine Sf.ite ?_ ?_
  · refine Sf.let_xu ha41 rfl (fun a68 ha68 => ?_)
    exact Sf.ret ha68
  · refine Sf.b (fb_X9_refuse Fr.rf) ha41 rfl (fun r55 a55 ha55 => ?_)
    exact Sf.ret ha55
abbrev lf_X9_readNumber : List Nat := [1203, 1204, 1205]
theorem fb_X9_readNumber_100 {a0 : AH} {N : Nat} {ah : AH} {v2 : Int32}  (hah : Fr rgC lf_X9_readNumber a0 ah) : Sf hpI rgC lf_X9_readNumber a0 (F_X9_readNumber_100 N ah v2) := by
  unfold F_X9_readNumber_100
  refine Sf.b (fb_X9_refuse Fr.rf) hah rfl (fun r103 a103 ha103 => ?_)
  exact Sf.ret ha103
theorem fb_X9_readNumber_89 {a0 : AH} {N : Nat} {ah : AH} {v1 : Int32} {v2 : Int32} {v3 : Int32}  (hah : Fr rgC lf_X9_readNumber a0 ah) : Sf hpI rgC lf_X9_readNumber a0 (F_X9_readNumber_89 N ah v1 v2 v3) := by
  unfold F_X9_readNumber_89
  refine Sf.ite ?_ ?_
  · exact fb_X9_readNumber_100 hah
  · refine Sf.ite ?_ ?_
    · exact Sf.ret hah
    · exact fb_X9_readNumber_100 hah
theorem fb_X9_readNumber_27 {a0 : AH} {N : Nat}  : ∀ (n : Nat) {ah : AH} {v1 : Int32} {v2 : Int32} {v3 : Int32}  (hah : Fr rgC lf_X9_readNumber a0 ah), Sf hpI rgC lf_X9_readNumber a0 (F_X9_readNumber_27 N n ah v1 v2 v3) := by
  intro n
  induction n with
  | zero => intros; exact Sf.none
  | succ n ih =>
    intro ah v1 v2 v3  hah
    unfold F_X9_readNumber_27
    refine Sf.ite ?_ ?_
    · exact fb_X9_readNumber_89 hah
    · refine Sf.g (fun _ => ?_)
      refine Sf.b (fb_X11_isDigit Fr.rf) hah rfl (fun r47 a47 ha47 => ?_)
      refine Sf.ite ?_ ?_
      · exact fb_X9_readNumber_89 ha47
      · refine Sf.g (fun _ => ?_)
        refine Sf.let_v (fun v3_75 => ?_)
        refine Sf.let_xu ha47 rfl (fun a83 ha83 => ?_)
        exact ih ha83
theorem fb_X9_readNumber {a0 : AH} {N : Nat} {ah : AH} {p1 : Int32}  (hah : Fr rgC lf_X9_readNumber a0 ah) : Sf hpI rgC lf_X9_readNumber a0 (F_X9_readNumber N ah p1) := by
  unfold F_X9_readNumber
  refine Sf.let_v (fun v2_4 => ?_)
  refine Sf.b (fb_X9_peek Fr.rf) hah rfl (fun r7 a7 ha7 => ?_)
  refine Sf.b (fb_X11_isDigit Fr.rf) ha7 rfl (fun r10 a10 ha10 => ?_)
  refine Sf.ite ?_ ?_
  · refine Sf.b (fb_X9_refuse Fr.rf) ha10 rfl (fun r19 a19 ha19 => ?_)
    exact Sf.ret ha19
  · refine Sf.let_v (fun v3_26 => ?_)
    exact fb_X9_readNumber_27 _ ha10
abbrev lf_X9_skipBlanks : List Nat := [1203]
theorem fb_X9_skipBlanks_0 {a0 : AH} {N : Nat}  : ∀ (n : Nat) {ah : AH}  (hah : Fr rgC lf_X9_skipBlanks a0 ah), Sf hpV rgC lf_X9_skipBlanks a0 (F_X9_skipBlanks_0 N n ah) := by
  intro n
  induction n with
  | zero => intros; exact Sf.none
  | succ n ih =>
    intro ah  hah
    unfold F_X9_skipBlanks_0
    refine Sf.ite ?_ ?_
    · exact Sf.ret hah
    · refine Sf.g (fun _ => ?_)
      refine Sf.ite ?_ ?_
      · refine Sf.let_xu hah rfl (fun a32 ha32 => ?_)
        exact ih ha32
      · exact Sf.ret hah
theorem fb_X9_skipBlanks {a0 : AH} {N : Nat} {ah : AH}  (hah : Fr rgC lf_X9_skipBlanks a0 ah) : Sf hpV rgC lf_X9_skipBlanks a0 (F_X9_skipBlanks N ah) := by
  unfold F_X9_skipBlanks
  exact fb_X9_skipBlanks_0 _ hah
theorem fb_X9_readEnding_22 {a0 : AH} {N : Nat} {ah : AH} {v2 : Int32}  (hah : Fr rgC lf_X9_readEnding a0 ah) : Sf hpI rgC lf_X9_readEnding a0 (F_X9_readEnding_22 N ah v2) := by
  unfold F_X9_readEnding_22
  refine Sf.b (fb_X9_readNumber Fr.rf) hah rfl (fun r24 a24 ha24 => ?_)
  refine Sf.let_v (fun v3_27 => ?_)
  refine Sf.ite ?_ ?_
  · exact Sf.ret ha24
  · refine Sf.bv (fb_X9_skipBlanks Fr.rf) ha24 rfl (fun a36 ha36 => ?_)
    exact fb_X9_readEnding_39 ha36
theorem fb_X9_readEnding {a0 : AH} {N : Nat} {ah : AH} {p1 : Int32} {p2 : Int32}  (hah : Fr rgC lf_X9_readEnding a0 ah) : Sf hpI rgC lf_X9_readEnding a0 (F_X9_readEnding N ah p1 p2) := by
  unfold F_X9_readEnding
  refine Sf.bv (fb_X9_skipBlanks Fr.rf) hah rfl (fun a1 ha1 => ?_)
  refine Sf.let_v (fun v3_5 => ?_)
  refine Sf.ite ?_ ?_
  · exact fb_X9_readEnding_22 ha1
  · refine Sf.b (fb_X9_peek Fr.rf) ha1 rfl (fun r13 a13 ha13 => ?_)
    refine Sf.b (fb_X11_isDigit Fr.rf) ha13 rfl (fun r16 a16 ha16 => ?_)
    refine Sf.ite ?_ ?_
    · exact fb_X9_readEnding_39 ha16
    · exact fb_X9_readEnding_22 ha16
theorem fb_X2_readEntry {a0 : AH} {N : Nat} {ah : AH}  (hah : Fr rgC lf_X2_readEntry a0 ah) : Sf hpI rgC lf_X2_readEntry a0 (F_X2_readEntry N ah) := by
  unfold F_X2_readEntry
  refine Sf.let_v (fun v2_4 => ?_)
  refine Sf.b (fb_X9_peek Fr.rf) hah rfl (fun r7 a7 ha7 => ?_)
  refine Sf.b (fb_X11_isLetter Fr.rf) ha7 rfl (fun r10 a10 ha10 => ?_)
  refine Sf.ite ?_ ?_
  · refine Sf.b (fb_X9_refuse Fr.rf) ha10 rfl (fun r19 a19 ha19 => ?_)
    refine Sf.bo ?_
    exact Sf.ret ha19
  · refine Sf.ite ?_ ?_
    · refine Sf.b (fb_X2_passWord Fr.rf) ha10 rfl (fun r46 a46 ha46 => ?_)
      refine Sf.ite ?_ ?_
      · exact Sf.ret ha46
      · refine Sf.let_v (fun v3_60 => ?_)
        refine Sf.b (fb_X2_look_3 Fr.rf) ha46 rfl (fun r68 a68 ha68 => ?_)
        refine Sf.ite ?_ ?_
        · refine Sf.b (fb_X2_isFresh_3 Fr.rf) ha68 rfl (fun r82 a82 ha82 => ?_)
          refine Sf.ite ?_ ?_
          · refine Sf.b (fb_X9_readEnding Fr.rf) ha82 rfl (fun r98 a98 ha98 => ?_)
            refine Sf.let_v (fun v4_101 => ?_)
            refine Sf.ite ?_ ?_
            · exact Sf.ret ha98
            · refine Sf.g (fun _ => ?_)
              refine Sf.let_xu ha98 rfl (fun a120 ha120 => ?_)
              refine Sf.g (fun _ => ?_)
              refine Sf.let_xu ha120 rfl (fun a130 ha130 => ?_)
              refine Sf.g (fun _ => ?_)
              refine Sf.let_xu ha130 rfl (fun a141 ha141 => ?_)
              refine Sf.let_xu ha141 rfl (fun a149 ha149 => ?_)
              exact Sf.ret ha149
          · exact fb_X2_readEntry_88 ha82
        · exact fb_X2_readEntry_88 ha68
    · refine Sf.b (fb_X9_refuse Fr.rf) ha10 rfl (fun r40 a40 ha40 => ?_)
      refine Sf.bo ?_
      exact Sf.ret ha40
abbrev lf_X9_atEnd : List Nat := []
theorem fb_X9_atEnd {a0 : AH} {N : Nat} {ah : AH}  (hah : Fr rgC lf_X9_atEnd a0 ah) : Sf hpI rgC lf_X9_atEnd a0 (F_X9_atEnd N ah) := by
  unfold F_X9_atEnd
  refine Sf.ite ?_ ?_
  · exact Sf.ret hah
  · exact Sf.ret hah
abbrev lf_X2_readText : List Nat := [5, 6, 7, 8, 9, 10, 11, 12, 13, 14, 15, 16, 17, 18, 1203, 1204, 1205, 1400, 1405, 1413]
theorem fb_X2_readText_7 {a0 : AH} {N : Nat}  : ∀ (n : Nat) {ah : AH} {v2 : Int32}  (hah : Fr rgC lf_X2_readText a0 ah), Sf hpI rgC lf_X2_readText a0 (F_X2_readText_7 N n ah v2) := by
  intro n
  induction n with
  | zero => intros; exact Sf.none
  | succ n ih =>
    intro ah v2  hah
    unfold F_X2_readText_7
    refine Sf.ite ?_ ?_
    · exact Sf.ret hah
    · refine Sf.bv (fb_X9_skipBlanks Fr.rf) hah rfl (fun a14 ha14 => ?_)
      refine Sf.b (fb_X9_atEnd Fr.rf) ha14 rfl (fun r18 a18 ha18 => ?_)
      refine Sf.ite ?_ ?_
      · refine Sf.b (fb_X2_readEntry Fr.rf) ha18 rfl (fun r36 a36 ha36 => ?_)
        refine Sf.ite ?_ ?_
        · exact Sf.ret ha36
        · refine Sf.let_v (fun v2_44 => ?_)
          exact ih ha36
      · refine Sf.bv (fb_X2_addFresh_3 Fr.rf) ha18 rfl (fun a29 ha29 => ?_)
        exact Sf.ret ha29
theorem fb_X2_readText {a0 : AH} {N : Nat} {ah : AH}  (hah : Fr rgC lf_X2_readText a0 ah) : Sf hpI rgC lf_X2_readText a0 (F_X2_readText N ah) := by
  unfold F_X2_readText
  refine Sf.let_xu hah rfl (fun a2 ha2 => ?_)
  refine Sf.let_v (fun v2_6 => ?_)
  exact fb_X2_readText_7 _ ha2
abbrev lf_X9_begin : List Nat := [1202, 1203, 1204, 1205]
theorem fb_X9_begin {a0 : AH} {N : Nat} {ah : AH} {p1 : Int32}  (hah : Fr rgC lf_X9_begin a0 ah) : Sf hpV rgC lf_X9_begin a0 (F_X9_begin N ah p1) := by
  unfold F_X9_begin
  refine Sf.let_xu hah rfl (fun a2 ha2 => ?_)
  refine Sf.let_xu ha2 rfl (fun a7 ha7 => ?_)
  refine Sf.let_xu ha7 rfl (fun a12 ha12 => ?_)
  refine Sf.let_xu ha12 rfl (fun a17 ha17 => ?_)
  exact Sf.ret ha17
theorem fb_X11_lexicon {a0 : AH} {N : Nat} {ah : AH} {p1 : Int32}  (hah : Fr rgC lf_X11_lexicon a0 ah) : Sf hpX rgC lf_X11_lexicon a0 (F_X11_lexicon N ah p1) := by
  unfold F_X11_lexicon
  refine Sf.bx (fb_X11_needBetween Fr.rf) hah rfl (fun a10 ha10 => ?_)
  refine Sf.bv (fb_X9_begin Fr.rf) ha10 rfl (fun a18 ha18 => ?_)
  refine Sf.b (fb_X2_readText Fr.rf) ha18 rfl (fun r29 a29 ha29 => ?_)
  refine Sf.ite ?_ ?_
  · exact fb_X11_lexicon_39 ha29
  · refine Sf.bv (fb_X11_changed Fr.rf) ha29 rfl (fun a36 ha36 => ?_)
    exact fb_X11_lexicon_39 ha36
abbrev lf_X11_shapes : List Nat := [20, 21, 22, 23, 24, 26, 27, 28, 29, 30, 75, 1015, 1201, 1202, 1203, 1204, 1205, 2900, 3500, 9003, 9404]
theorem fb_X11_shapes_59 {a0 : AH} {N : Nat} {ah : AH}  (hah : Fr rgC lf_X11_shapes a0 ah) : Sf hpX rgC lf_X11_shapes a0 (F_X11_shapes_59 N ah) := by
  unfold F_X11_shapes_59
  refine Sf.b (fb_X9_finish Fr.rf) hah rfl (fun r70 a70 ha70 => ?_)
  exact Sf.ret ha70
abbrev lf_X8_partsAlike_19 : List Nat := []
theorem fb_X8_partsAlike_25_19 {a0 : AH} {N : Nat}  : ∀ (n : Nat) {ah : AH} {v1 : Int32}  (hah : Fr rgC lf_X8_partsAlike_19 a0 ah), Sf hpI rgC lf_X8_partsAlike_19 a0 (F_X8_partsAlike_25 N 19 n ah v1) := by
  intro n
  induction n with
  | zero => intros; exact Sf.none
  | succ n ih =>
    intro ah v1  hah
    unfold F_X8_partsAlike_25
    refine Sf.g (fun _ => ?_)
    refine Sf.ite ?_ ?_
    · exact Sf.ret hah
    · refine Sf.g (fun _ => ?_)
      refine Sf.g (fun _ => ?_)
      refine Sf.ite ?_ ?_
      · refine Sf.let_v (fun v1_69 => ?_)
        exact ih hah
      · exact Sf.ret hah
theorem fb_X8_partsAlike_19 {a0 : AH} {N : Nat} {ah : AH}  (hah : Fr rgC lf_X8_partsAlike_19 a0 ah) : Sf hpI rgC lf_X8_partsAlike_19 a0 (F_X8_partsAlike N 19 ah) := by
  unfold F_X8_partsAlike
  refine Sf.g (fun _ => ?_)
  refine Sf.g (fun _ => ?_)
  refine Sf.ite ?_ ?_
  · refine Sf.let_v (fun v1_24 => ?_)
    exact fb_X8_partsAlike_25_19 _ hah
  · exact Sf.ret hah
abbrev lf_X8_readPart_19_23 : List Nat := [23, 1203, 1204, 1205]
theorem fb_X8_readPart_2_19_23 {a0 : AH} {N : Nat}  : ∀ (n : Nat) {ah : AH} {v3 : Int32}  (hah : Fr rgC lf_X8_readPart_19_23 a0 ah), Sf hpI rgC lf_X8_readPart_19_23 a0 (F_X8_readPart_2 N 19 23 n ah v3) := by
  intro n
  induction n with
  | zero => intros; exact Sf.none
  | succ n ih =>
    intro ah v3  hah
    unfold F_X8_readPart_2
    refine Sf.ite ?_ ?_
    · exact Sf.ret hah
    · refine Sf.b (fb_X9_peek Fr.rf) hah rfl (fun r9 a9 ha9 => ?_)
      refine Sf.b (fb_X11_isLetter Fr.rf) ha9 rfl (fun r12 a12 ha12 => ?_)
      refine Sf.ite ?_ ?_
      · refine Sf.ite ?_ ?_
        · refine Sf.b (fb_X9_refuse Fr.rf) ha12 rfl (fun r30 a30 ha30 => ?_)
          exact Sf.ret ha30
        · exact Sf.ret ha12
      · refine Sf.ite ?_ ?_
        · refine Sf.b (fb_X9_refuse Fr.rf) ha12 rfl (fun r47 a47 ha47 => ?_)
          exact Sf.ret ha47
        · refine Sf.b (fb_X9_peek Fr.rf) ha12 rfl (fun r64 a64 ha64 => ?_)
          refine Sf.g (fun _ => ?_)
          refine Sf.let_xu ha64 rfl (fun a67 ha67 => ?_)
          refine Sf.let_xu ha67 rfl (fun a75 ha75 => ?_)
          refine Sf.let_v (fun v3_78 => ?_)
          exact ih ha75
theorem fb_X8_readPart_19_23 {a0 : AH} {N : Nat} {ah : AH}  (hah : Fr rgC lf_X8_readPart_19_23 a0 ah) : Sf hpI rgC lf_X8_readPart_19_23 a0 (F_X8_readPart N 19 23 ah) := by
  unfold F_X8_readPart
  refine Sf.let_v (fun v3_1 => ?_)
  exact fb_X8_readPart_2_19_23 _ hah
abbrev lf_X8_readPart_19_24 : List Nat := [24, 1203, 1204, 1205]
theorem fb_X8_readPart_2_19_24 {a0 : AH} {N : Nat}  : ∀ (n : Nat) {ah : AH} {v3 : Int32}  (hah : Fr rgC lf_X8_readPart_19_24 a0 ah), Sf hpI rgC lf_X8_readPart_19_24 a0 (F_X8_readPart_2 N 19 24 n ah v3) := by
  intro n
  induction n with
  | zero => intros; exact Sf.none
  | succ n ih =>
    intro ah v3  hah
    unfold F_X8_readPart_2
    refine Sf.ite ?_ ?_
    · exact Sf.ret hah
    · refine Sf.b (fb_X9_peek Fr.rf) hah rfl (fun r9 a9 ha9 => ?_)
      refine Sf.b (fb_X11_isLetter Fr.rf) ha9 rfl (fun r12 a12 ha12 => ?_)
      refine Sf.ite ?_ ?_
      · refine Sf.ite ?_ ?_
        · refine Sf.b (fb_X9_refuse Fr.rf) ha12 rfl (fun r30 a30 ha30 => ?_)
          exact Sf.ret ha30
        · exact Sf.ret ha12
      · refine Sf.ite ?_ ?_
        · refine Sf.b (fb_X9_refuse Fr.rf) ha12 rfl (fun r47 a47 ha47 => ?_)
          exact Sf.ret ha47
        · refine Sf.b (fb_X9_peek Fr.rf) ha12 rfl (fun r64 a64 ha64 => ?_)
          refine Sf.g (fun _ => ?_)
          refine Sf.let_xu ha64 rfl (fun a67 ha67 => ?_)
          refine Sf.let_xu ha67 rfl (fun a75 ha75 => ?_)
          refine Sf.let_v (fun v3_78 => ?_)
          exact ih ha75
theorem fb_X8_readPart_19_24 {a0 : AH} {N : Nat} {ah : AH}  (hah : Fr rgC lf_X8_readPart_19_24 a0 ah) : Sf hpI rgC lf_X8_readPart_19_24 a0 (F_X8_readPart N 19 24 ah) := by
  unfold F_X8_readPart
  refine Sf.let_v (fun v3_1 => ?_)
  exact fb_X8_readPart_2_19_24 _ hah
abbrev lf_X8_readEntry_19 : List Nat := [20, 21, 22, 23, 24, 1203, 1204, 1205, 2900]
theorem fb_X8_readEntry_19 {a0 : AH} {N : Nat} {ah : AH}  (hah : Fr rgC lf_X8_readEntry_19 a0 ah) : Sf hpI rgC lf_X8_readEntry_19 a0 (F_X8_readEntry N 19 ah) := by
  unfold F_X8_readEntry
  refine Sf.b (fb_X9_peek Fr.rf) hah rfl (fun r2 a2 ha2 => ?_)
  refine Sf.b (fb_X11_isLetter Fr.rf) ha2 rfl (fun r5 a5 ha5 => ?_)
  refine Sf.ite ?_ ?_
  · refine Sf.b (fb_X9_refuse Fr.rf) ha5 rfl (fun r17 a17 ha17 => ?_)
    refine Sf.bo ?_
    exact Sf.ret ha17
  · refine Sf.ite ?_ ?_
    · refine Sf.b (fb_X8_readPart_19_23 Fr.rf) ha5 rfl (fun r54 a54 ha54 => ?_)
      refine Sf.g (fun _ => ?_)
      refine Sf.let_xu ha54 rfl (fun a57 ha57 => ?_)
      refine Sf.g (fun _ => ?_)
      refine Sf.ite ?_ ?_
      · exact Sf.ret ha57
      · refine Sf.b (fb_X9_peek Fr.rf) ha57 rfl (fun r75 a75 ha75 => ?_)
        refine Sf.ite ?_ ?_
        · refine Sf.let_xu ha75 rfl (fun a100 ha100 => ?_)
          refine Sf.bv (fb_X9_skipBlanks Fr.rf) ha100 rfl (fun a104 ha104 => ?_)
          refine Sf.let_v (fun v2_111 => ?_)
          refine Sf.b (fb_X8_readPart_19_24 Fr.rf) ha104 rfl (fun r126 a126 ha126 => ?_)
          refine Sf.g (fun _ => ?_)
          refine Sf.let_xu ha126 rfl (fun a129 ha129 => ?_)
          refine Sf.g (fun _ => ?_)
          refine Sf.ite ?_ ?_
          · exact Sf.ret ha129
          · refine Sf.b (fb_X8_partsAlike_19 Fr.rf) ha129 rfl (fun r146 a146 ha146 => ?_)
            refine Sf.ite ?_ ?_
            · refine Sf.b (fb_X9_readEnding Fr.rf) ha146 rfl (fun r170 a170 ha170 => ?_)
              refine Sf.g (fun _ => ?_)
              refine Sf.let_xu ha170 rfl (fun a173 ha173 => ?_)
              refine Sf.g (fun _ => ?_)
              refine Sf.ite ?_ ?_
              · exact Sf.ret ha173
              · refine Sf.let_xu ha173 rfl (fun a196 ha196 => ?_)
                exact Sf.ret ha196
            · refine Sf.b (fb_X9_refuse Fr.rf) ha146 rfl (fun r155 a155 ha155 => ?_)
              refine Sf.bo ?_
              exact Sf.ret ha155
        · refine Sf.b (fb_X9_refuse Fr.rf) ha75 rfl (fun r89 a89 ha89 => ?_)
          refine Sf.bo ?_
          exact Sf.ret ha89
    · refine Sf.b (fb_X9_refuse Fr.rf) ha5 rfl (fun r36 a36 ha36 => ?_)
      refine Sf.bo ?_
      exact Sf.ret ha36
abbrev lf_X8_readText_19 : List Nat := [20, 21, 22, 23, 24, 1203, 1204, 1205, 2900]
theorem fb_X8_readText_7_19 {a0 : AH} {N : Nat}  : ∀ (n : Nat) {ah : AH} {v2 : Int32}  (hah : Fr rgC lf_X8_readText_19 a0 ah), Sf hpI rgC lf_X8_readText_19 a0 (F_X8_readText_7 N 19 n ah v2) := by
  intro n
  induction n with
  | zero => intros; exact Sf.none
  | succ n ih =>
    intro ah v2  hah
    unfold F_X8_readText_7
    refine Sf.ite ?_ ?_
    · exact Sf.ret hah
    · refine Sf.bv (fb_X9_skipBlanks Fr.rf) hah rfl (fun a14 ha14 => ?_)
      refine Sf.b (fb_X9_atEnd Fr.rf) ha14 rfl (fun r18 a18 ha18 => ?_)
      refine Sf.ite ?_ ?_
      · refine Sf.b (fb_X8_readEntry_19 Fr.rf) ha18 rfl (fun r28 a28 ha28 => ?_)
        refine Sf.ite ?_ ?_
        · exact Sf.ret ha28
        · refine Sf.let_v (fun v2_36 => ?_)
          exact ih ha28
      · exact Sf.ret ha18
theorem fb_X8_readText_19 {a0 : AH} {N : Nat} {ah : AH}  (hah : Fr rgC lf_X8_readText_19 a0 ah) : Sf hpI rgC lf_X8_readText_19 a0 (F_X8_readText N 19 ah) := by
  unfold F_X8_readText
  refine Sf.let_xu hah rfl (fun a2 ha2 => ?_)
  refine Sf.let_v (fun v2_6 => ?_)
  exact fb_X8_readText_7_19 _ ha2
abbrev lf_X8_partsAlike_25 : List Nat := []
theorem fb_X8_partsAlike_25_25 {a0 : AH} {N : Nat}  : ∀ (n : Nat) {ah : AH} {v1 : Int32}  (hah : Fr rgC lf_X8_partsAlike_25 a0 ah), Sf hpI rgC lf_X8_partsAlike_25 a0 (F_X8_partsAlike_25 N 25 n ah v1) := by
  intro n
  induction n with
  | zero => intros; exact Sf.none
  | succ n ih =>
    intro ah v1  hah
    unfold F_X8_partsAlike_25
    refine Sf.g (fun _ => ?_)
    refine Sf.ite ?_ ?_
    · exact Sf.ret hah
    · refine Sf.g (fun _ => ?_)
      refine Sf.g (fun _ => ?_)
      refine Sf.ite ?_ ?_
      · refine Sf.let_v (fun v1_69 => ?_)
        exact ih hah
      · exact Sf.ret hah
theorem fb_X8_partsAlike_25 {a0 : AH} {N : Nat} {ah : AH}  (hah : Fr rgC lf_X8_partsAlike_25 a0 ah) : Sf hpI rgC lf_X8_partsAlike_25 a0 (F_X8_partsAlike N 25 ah) := by
  unfold F_X8_partsAlike
  refine Sf.g (fun _ => ?_)
  refine Sf.g (fun _ => ?_)
  refine Sf.ite ?_ ?_
  · refine Sf.let_v (fun v1_24 => ?_)
    exact fb_X8_partsAlike_25_25 _ hah
  · exact Sf.ret hah
abbrev lf_X8_readPart_25_30 : List Nat := [30, 1203, 1204, 1205]
theorem fb_X8_readPart_2_25_30 {a0 : AH} {N : Nat}  : ∀ (n : Nat) {ah : AH} {v3 : Int32}  (hah : Fr rgC lf_X8_readPart_25_30 a0 ah), Sf hpI rgC lf_X8_readPart_25_30 a0 (F_X8_readPart_2 N 25 30 n ah v3) := by
  intro n
  induction n with
  | zero => intros; exact Sf.none
  | succ n ih =>
    intro ah v3  hah
    unfold F_X8_readPart_2
    refine Sf.ite ?_ ?_
    · exact Sf.ret hah
    · refine Sf.b (fb_X9_peek Fr.rf) hah rfl (fun r9 a9 ha9 => ?_)
      refine Sf.b (fb_X11_isLetter Fr.rf) ha9 rfl (fun r12 a12 ha12 => ?_)
      refine Sf.ite ?_ ?_
      · refine Sf.ite ?_ ?_
        · refine Sf.b (fb_X9_refuse Fr.rf) ha12 rfl (fun r30 a30 ha30 => ?_)
          exact Sf.ret ha30
        · exact Sf.ret ha12
      · refine Sf.ite ?_ ?_
        · refine Sf.b (fb_X9_refuse Fr.rf) ha12 rfl (fun r47 a47 ha47 => ?_)
          exact Sf.ret ha47
        · refine Sf.b (fb_X9_peek Fr.rf) ha12 rfl (fun r64 a64 ha64 => ?_)
          refine Sf.g (fun _ => ?_)
          refine Sf.let_xu ha64 rfl (fun a67 ha67 => ?_)
          refine Sf.let_xu ha67 rfl (fun a75 ha75 => ?_)
          refine Sf.let_v (fun v3_78 => ?_)
          exact ih ha75
theorem fb_X8_readPart_25_30 {a0 : AH} {N : Nat} {ah : AH}  (hah : Fr rgC lf_X8_readPart_25_30 a0 ah) : Sf hpI rgC lf_X8_readPart_25_30 a0 (F_X8_readPart N 25 30 ah) := by
  unfold F_X8_readPart
  refine Sf.let_v (fun v3_1 => ?_)
  exact fb_X8_readPart_2_25_30 _ hah
abbrev lf_X8_readPart_25_29 : List Nat := [29, 1203, 1204, 1205]
theorem fb_X8_readPart_2_25_29 {a0 : AH} {N : Nat}  : ∀ (n : Nat) {ah : AH} {v3 : Int32}  (hah : Fr rgC lf_X8_readPart_25_29 a0 ah), Sf hpI rgC lf_X8_readPart_25_29 a0 (F_X8_readPart_2 N 25 29 n ah v3) := by
  intro n
  induction n with
  | zero => intros; exact Sf.none
  | succ n ih =>
    intro ah v3  hah
    unfold F_X8_readPart_2
    refine Sf.ite ?_ ?_
    · exact Sf.ret hah
    · refine Sf.b (fb_X9_peek Fr.rf) hah rfl (fun r9 a9 ha9 => ?_)
      refine Sf.b (fb_X11_isLetter Fr.rf) ha9 rfl (fun r12 a12 ha12 => ?_)
      refine Sf.ite ?_ ?_
      · refine Sf.ite ?_ ?_
        · refine Sf.b (fb_X9_refuse Fr.rf) ha12 rfl (fun r30 a30 ha30 => ?_)
          exact Sf.ret ha30
        · exact Sf.ret ha12
      · refine Sf.ite ?_ ?_
        · refine Sf.b (fb_X9_refuse Fr.rf) ha12 rfl (fun r47 a47 ha47 => ?_)
          exact Sf.ret ha47
        · refine Sf.b (fb_X9_peek Fr.rf) ha12 rfl (fun r64 a64 ha64 => ?_)
          refine Sf.g (fun _ => ?_)
          refine Sf.let_xu ha64 rfl (fun a67 ha67 => ?_)
          refine Sf.let_xu ha67 rfl (fun a75 ha75 => ?_)
          refine Sf.let_v (fun v3_78 => ?_)
          exact ih ha75
theorem fb_X8_readPart_25_29 {a0 : AH} {N : Nat} {ah : AH}  (hah : Fr rgC lf_X8_readPart_25_29 a0 ah) : Sf hpI rgC lf_X8_readPart_25_29 a0 (F_X8_readPart N 25 29 ah) := by
  unfold F_X8_readPart
  refine Sf.let_v (fun v3_1 => ?_)
  exact fb_X8_readPart_2_25_29 _ hah
abbrev lf_X8_readEntry_25 : List Nat := [26, 27, 28, 29, 30, 1203, 1204, 1205, 3500]
theorem fb_X8_readEntry_25 {a0 : AH} {N : Nat} {ah : AH}  (hah : Fr rgC lf_X8_readEntry_25 a0 ah) : Sf hpI rgC lf_X8_readEntry_25 a0 (F_X8_readEntry N 25 ah) := by
  unfold F_X8_readEntry
  refine Sf.b (fb_X9_peek Fr.rf) hah rfl (fun r2 a2 ha2 => ?_)
  refine Sf.b (fb_X11_isLetter Fr.rf) ha2 rfl (fun r5 a5 ha5 => ?_)
  refine Sf.ite ?_ ?_
  · refine Sf.b (fb_X9_refuse Fr.rf) ha5 rfl (fun r17 a17 ha17 => ?_)
    refine Sf.bo ?_
    exact Sf.ret ha17
  · refine Sf.ite ?_ ?_
    · refine Sf.b (fb_X8_readPart_25_29 Fr.rf) ha5 rfl (fun r54 a54 ha54 => ?_)
      refine Sf.g (fun _ => ?_)
      refine Sf.let_xu ha54 rfl (fun a57 ha57 => ?_)
      refine Sf.g (fun _ => ?_)
      refine Sf.ite ?_ ?_
      · exact Sf.ret ha57
      · refine Sf.b (fb_X9_peek Fr.rf) ha57 rfl (fun r75 a75 ha75 => ?_)
        refine Sf.ite ?_ ?_
        · refine Sf.let_xu ha75 rfl (fun a100 ha100 => ?_)
          refine Sf.bv (fb_X9_skipBlanks Fr.rf) ha100 rfl (fun a104 ha104 => ?_)
          refine Sf.let_v (fun v2_111 => ?_)
          refine Sf.b (fb_X8_readPart_25_30 Fr.rf) ha104 rfl (fun r126 a126 ha126 => ?_)
          refine Sf.g (fun _ => ?_)
          refine Sf.let_xu ha126 rfl (fun a129 ha129 => ?_)
          refine Sf.g (fun _ => ?_)
          refine Sf.ite ?_ ?_
          · exact Sf.ret ha129
          · refine Sf.b (fb_X8_partsAlike_25 Fr.rf) ha129 rfl (fun r146 a146 ha146 => ?_)
            refine Sf.ite ?_ ?_
            · refine Sf.b (fb_X9_readEnding Fr.rf) ha146 rfl (fun r170 a170 ha170 => ?_)
              refine Sf.g (fun _ => ?_)
              refine Sf.let_xu ha170 rfl (fun a173 ha173 => ?_)
              refine Sf.g (fun _ => ?_)
              refine Sf.ite ?_ ?_
              · exact Sf.ret ha173
              · refine Sf.let_xu ha173 rfl (fun a196 ha196 => ?_)
                exact Sf.ret ha196
            · refine Sf.b (fb_X9_refuse Fr.rf) ha146 rfl (fun r155 a155 ha155 => ?_)
              refine Sf.bo ?_
              exact Sf.ret ha155
        · refine Sf.b (fb_X9_refuse Fr.rf) ha75 rfl (fun r89 a89 ha89 => ?_)
          refine Sf.bo ?_
          exact Sf.ret ha89
    · refine Sf.b (fb_X9_refuse Fr.rf) ha5 rfl (fun r36 a36 ha36 => ?_)
      refine Sf.bo ?_
      exact Sf.ret ha36
abbrev lf_X8_readText_25 : List Nat := [26, 27, 28, 29, 30, 1203, 1204, 1205, 3500]
theorem fb_X8_readText_7_25 {a0 : AH} {N : Nat}  : ∀ (n : Nat) {ah : AH} {v2 : Int32}  (hah : Fr rgC lf_X8_readText_25 a0 ah), Sf hpI rgC lf_X8_readText_25 a0 (F_X8_readText_7 N 25 n ah v2) := by
  intro n
  induction n with
  | zero => intros; exact Sf.none
  | succ n ih =>
    intro ah v2  hah
    unfold F_X8_readText_7
    refine Sf.ite ?_ ?_
    · exact Sf.ret hah
    · refine Sf.bv (fb_X9_skipBlanks Fr.rf) hah rfl (fun a14 ha14 => ?_)
      refine Sf.b (fb_X9_atEnd Fr.rf) ha14 rfl (fun r18 a18 ha18 => ?_)
      refine Sf.ite ?_ ?_
      · refine Sf.b (fb_X8_readEntry_25 Fr.rf) ha18 rfl (fun r28 a28 ha28 => ?_)
        refine Sf.ite ?_ ?_
        · exact Sf.ret ha28
        · refine Sf.let_v (fun v2_36 => ?_)
          exact ih ha28
      · exact Sf.ret ha18
theorem fb_X8_readText_25 {a0 : AH} {N : Nat} {ah : AH}  (hah : Fr rgC lf_X8_readText_25 a0 ah) : Sf hpI rgC lf_X8_readText_25 a0 (F_X8_readText N 25 ah) := by
  unfold F_X8_readText
  refine Sf.let_xu hah rfl (fun a2 ha2 => ?_)
  refine Sf.let_v (fun v2_6 => ?_)
  exact fb_X8_readText_7_25 _ ha2
theorem fb_X11_shapes {a0 : AH} {N : Nat} {ah : AH} {p1 : Int32}  (hah : Fr rgC lf_X11_shapes a0 ah) : Sf hpX rgC lf_X11_shapes a0 (F_X11_shapes N ah p1) := by
  unfold F_X11_shapes
  refine Sf.bx (fb_X11_needBetween Fr.rf) hah rfl (fun a10 ha10 => ?_)
  refine Sf.bv (fb_X9_begin Fr.rf) ha10 rfl (fun a18 ha18 => ?_)
  refine Sf.b (fb_X8_readText_25 Fr.rf) ha18 rfl (fun r29 a29 ha29 => ?_)
  refine Sf.ite ?_ ?_
  · exact fb_X11_shapes_59 ha29
  · refine Sf.bv (fb_X9_begin Fr.rf) ha29 rfl (fun a40 ha40 => ?_)
    refine Sf.b (fb_X8_readText_19 Fr.rf) ha40 rfl (fun r51 a51 ha51 => ?_)
    refine Sf.bv (fb_X11_changed Fr.rf) ha51 rfl (fun a56 ha56 => ?_)
    exact fb_X11_shapes_59 ha56
abbrev lf_X11_reading : List Nat := [32, 33, 34, 35, 36, 37, 38, 39, 41, 42, 43, 44, 45, 46, 47, 48, 75, 1015, 1201, 1202, 1203, 1204, 1205, 4100, 4101, 4102, 5000, 5001, 5002, 9003, 9404]
theorem fb_X11_reading_59 {a0 : AH} {N : Nat} {ah : AH}  (hah : Fr rgC lf_X11_reading a0 ah) : Sf hpX rgC lf_X11_reading a0 (F_X11_reading_59 N ah) := by
  unfold F_X11_reading_59
  refine Sf.b (fb_X9_finish Fr.rf) hah rfl (fun r70 a70 ha70 => ?_)
  exact Sf.ret ha70
abbrev lf_X5_isGap_31 : List Nat := []
theorem fb_X5_isGap_12_31 {a0 : AH} {N : Nat} {ah : AH}  (hah : Fr rgC lf_X5_isGap_31 a0 ah) : Sf hpI rgC lf_X5_isGap_31 a0 (F_X5_isGap_12 N 31 ah) := by
  unfold F_X5_isGap_12
  exact Sf.ret hah
theorem fb_X5_isGap_31 {a0 : AH} {N : Nat} {ah : AH} {p1 : Int32}  (hah : Fr rgC lf_X5_isGap_31 a0 ah) : Sf hpI rgC lf_X5_isGap_31 a0 (F_X5_isGap N 31 ah p1) := by
  unfold F_X5_isGap
  refine Sf.ite ?_ ?_
  · exact fb_X5_isGap_12_31 hah
  · refine Sf.ite ?_ ?_
    · exact fb_X5_isGap_12_31 hah
    · exact Sf.ret hah
abbrev lf_X5_readGap_31 : List Nat := [34, 35, 1203, 4101]
theorem fb_X5_readGap_42_31 {a0 : AH} {N : Nat} {k4 : AH → Int32 → Int32 → Option AH} {ah : AH} {v2 : Int32} {v3 : Int32} (hk4 : ∀ {z0 : AH} {z1 : Int32} {z2 : Int32}, Fr rgC lf_X5_readGap_31 a0 z0 → Sf hpV rgC lf_X5_readGap_31 a0 (k4 z0 z1 z2)) (hah : Fr rgC lf_X5_readGap_31 a0 ah) : Sf hpV rgC lf_X5_readGap_31 a0 (F_X5_readGap_42 N 31 k4 ah v2 v3) := by
  unfold F_X5_readGap_42
  refine Sf.let_xu hah rfl (fun a49 ha49 => ?_)
  exact hk4 ha49
theorem fb_X5_readGap_123_31 {a0 : AH} {N : Nat} {ah : AH} {s1 : Int32} {s2 : Int32}  (hah : Fr rgC lf_X5_readGap_31 a0 ah) : Sf hpV rgC lf_X5_readGap_31 a0 (F_X5_readGap_123 N 31 ah s1 s2) := by
  unfold F_X5_readGap_123
  refine Sf.g (fun _ => ?_)
  refine Sf.let_xu hah rfl (fun a123 ha123 => ?_)
  exact Sf.ret ha123
theorem fb_X5_readGap_122_31 {a0 : AH} {N : Nat} {ah : AH} {s1 : Int32}  (hah : Fr rgC lf_X5_readGap_31 a0 ah) : Sf hpV rgC lf_X5_readGap_31 a0 (F_X5_readGap_122 N 31 ah s1) := by
  unfold F_X5_readGap_122
  exact fb_X5_readGap_123_31 hah
theorem fb_X5_readGap_91_31 {a0 : AH} {N : Nat} {ah : AH} {v2 : Int32} {v3 : Int32} {s1 : Int32} {s2 : Int32}  (hah : Fr rgC lf_X5_readGap_31 a0 ah) : Sf hpV rgC lf_X5_readGap_31 a0 (F_X5_readGap_91 N 31 ah v2 v3 s1 s2) := by
  unfold F_X5_readGap_91
  refine Sf.g (fun _ => ?_)
  refine Sf.let_xu hah rfl (fun a91 ha91 => ?_)
  refine Sf.ite ?_ ?_
  · refine Sf.ite ?_ ?_
    · refine Sf.b (fb_X9_atEnd Fr.rf) ha91 rfl (fun r112 a112 ha112 => ?_)
      refine Sf.ite ?_ ?_
      · exact fb_X5_readGap_123_31 ha112
      · exact fb_X5_readGap_122_31 ha112
    · exact fb_X5_readGap_122_31 ha91
  · exact fb_X5_readGap_122_31 ha91
theorem fb_X5_readGap_55_31 {a0 : AH} {N : Nat} {ah : AH} {v2 : Int32} {v3 : Int32}  (hah : Fr rgC lf_X5_readGap_31 a0 ah) : Sf hpV rgC lf_X5_readGap_31 a0 (F_X5_readGap_55 N 31 ah v2 v3) := by
  unfold F_X5_readGap_55
  refine Sf.let_xu hah rfl (fun a62 ha62 => ?_)
  refine Sf.ite ?_ ?_
  · exact Sf.ret ha62
  · refine Sf.ite ?_ ?_
    · exact fb_X5_readGap_91_31 ha62
    · exact fb_X5_readGap_91_31 ha62
theorem fb_X5_readGap_4_31 {a0 : AH} {N : Nat}  : ∀ (n : Nat) {ah : AH} {v2 : Int32} {v3 : Int32}  (hah : Fr rgC lf_X5_readGap_31 a0 ah), Sf hpV rgC lf_X5_readGap_31 a0 (F_X5_readGap_4 N 31 n ah v2 v3) := by
  intro n
  induction n with
  | zero => intros; exact Sf.none
  | succ n ih =>
    intro ah v2 v3  hah
    unfold F_X5_readGap_4
    refine Sf.b (fb_X9_atEnd Fr.rf) hah rfl (fun r5 a5 ha5 => ?_)
    refine Sf.ite ?_ ?_
    · refine Sf.b (fb_X9_peek Fr.rf) ha5 rfl (fun r14 a14 ha14 => ?_)
      refine Sf.b (fb_X5_isGap_31 Fr.rf) ha14 rfl (fun r17 a17 ha17 => ?_)
      refine Sf.ite ?_ ?_
      · exact fb_X5_readGap_55_31 ha17
      · refine Sf.b (fb_X9_peek Fr.rf) ha17 rfl (fun r25 a25 ha25 => ?_)
        refine Sf.ite ?_ ?_
        · refine Sf.let_v (fun v2_33 => ?_)
          exact fb_X5_readGap_42_31 (fun h => ih h) ha25
        · refine Sf.let_v (fun v3_39 => ?_)
          exact fb_X5_readGap_42_31 (fun h => ih h) ha25
    · exact fb_X5_readGap_55_31 ha5
theorem fb_X5_readGap_31 {a0 : AH} {N : Nat} {ah : AH}  (hah : Fr rgC lf_X5_readGap_31 a0 ah) : Sf hpV rgC lf_X5_readGap_31 a0 (F_X5_readGap N 31 ah) := by
  unfold F_X5_readGap
  refine Sf.let_v (fun v2_1 => ?_)
  refine Sf.let_v (fun v3_3 => ?_)
  exact fb_X5_readGap_4_31 _ hah
abbrev lf_X5_beginsCell_31 : List Nat := []
theorem fb_X5_beginsCell_19_31 {a0 : AH} {N : Nat} {ah : AH}  (hah : Fr rgC lf_X5_beginsCell_31 a0 ah) : Sf hpI rgC lf_X5_beginsCell_31 a0 (F_X5_beginsCell_19 N 31 ah) := by
  unfold F_X5_beginsCell_19
  exact Sf.ret hah
theorem fb_X5_beginsCell_31 {a0 : AH} {N : Nat} {ah : AH} {p1 : Int32}  (hah : Fr rgC lf_X5_beginsCell_31 a0 ah) : Sf hpI rgC lf_X5_beginsCell_31 a0 (F_X5_beginsCell N 31 ah p1) := by
  unfold F_X5_beginsCell
  refine Sf.b (fb_X11_isLetter Fr.rf) hah rfl (fun r1 a1 ha1 => ?_)
  refine Sf.ite ?_ ?_
  · refine Sf.ite ?_ ?_
    · exact fb_X5_beginsCell_19_31 ha1
    · refine Sf.ite ?_ ?_
      · exact fb_X5_beginsCell_19_31 ha1
      · exact Sf.ret ha1
  · exact fb_X5_beginsCell_19_31 ha1
abbrev lf_X5_isBreak_31 : List Nat := []
theorem fb_X5_isBreak_31_31 {a0 : AH} {N : Nat} {ah : AH}  (hah : Fr rgC lf_X5_isBreak_31 a0 ah) : Sf hpI rgC lf_X5_isBreak_31 a0 (F_X5_isBreak_31 N 31 ah) := by
  unfold F_X5_isBreak_31
  exact Sf.ret hah
theorem fb_X5_isBreak_31 {a0 : AH} {N : Nat} {ah : AH}  (hah : Fr rgC lf_X5_isBreak_31 a0 ah) : Sf hpI rgC lf_X5_isBreak_31 a0 (F_X5_isBreak N 31 ah) := by
  unfold F_X5_isBreak
  refine Sf.b (fb_X9_peek Fr.rf) hah rfl (fun r2 a2 ha2 => ?_)
  refine Sf.ite ?_ ?_
  · refine Sf.b (fb_X9_peek Fr.rf) ha2 rfl (fun r12 a12 ha12 => ?_)
    refine Sf.b (fb_X11_isLetter Fr.rf) ha12 rfl (fun r15 a15 ha15 => ?_)
    refine Sf.ite ?_ ?_
    · refine Sf.b (fb_X9_peek Fr.rf) ha15 rfl (fun r23 a23 ha23 => ?_)
      refine Sf.ite ?_ ?_
      · exact fb_X5_isBreak_31_31 ha23
      · exact Sf.ret ha23
    · exact fb_X5_isBreak_31_31 ha15
  · exact Sf.ret ha2
abbrev lf_X5_readCell_31 : List Nat := [36, 37, 38, 39, 1203, 1204, 1205, 4101, 4102]
theorem fb_X5_readCell_116_31 {a0 : AH} {N : Nat} {ah : AH}  (hah : Fr rgC lf_X5_readCell_31 a0 ah) : Sf hpI rgC lf_X5_readCell_31 a0 (F_X5_readCell_116 N 31 ah) := by
  unfold F_X5_readCell_116
  exact Sf.ret hah
abbrev lf_X5_readOthers_31 : List Nat := [37, 38, 39, 1203, 1204, 1205]
theorem fb_X5_readOthers_34_31 {a0 : AH} {N : Nat}  : ∀ (n : Nat) {ah : AH} {v2 : Int32} {v3 : Int32}  (hah : Fr rgC lf_X5_readOthers_31 a0 ah), Sf hpI rgC lf_X5_readOthers_31 a0 (F_X5_readOthers_34 N 31 n ah v2 v3) := by
  intro n
  induction n with
  | zero => intros; exact Sf.none
  | succ n ih =>
    intro ah v2 v3  hah
    unfold F_X5_readOthers_34
    refine Sf.ite ?_ ?_
    · exact Sf.ret hah
    · refine Sf.b (fb_X9_peek Fr.rf) hah rfl (fun r41 a41 ha41 => ?_)
      refine Sf.let_v (fun v4_44 => ?_)
      refine Sf.b (fb_X11_isLetter Fr.rf) ha41 rfl (fun r48 a48 ha48 => ?_)
      refine Sf.ite ?_ ?_
      · refine Sf.b (fb_X9_refuse Fr.rf) ha48 rfl (fun r60 a60 ha60 => ?_)
        refine Sf.bo ?_
        exact Sf.ret ha60
      · refine Sf.ite ?_ ?_
        · refine Sf.b (fb_X9_refuse Fr.rf) ha48 rfl (fun r75 a75 ha75 => ?_)
          refine Sf.bo ?_
          exact Sf.ret ha75
        · refine Sf.let_xu ha48 rfl (fun a86 ha86 => ?_)
          refine Sf.b (fb_X9_readNumber Fr.rf) ha86 rfl (fun r91 a91 ha91 => ?_)
          refine Sf.let_v (fun v5_94 => ?_)
          refine Sf.ite ?_ ?_
          · exact Sf.ret ha91
          · refine Sf.g (fun _ => ?_)
            refine Sf.let_xu ha91 rfl (fun a115 ha115 => ?_)
            refine Sf.g (fun _ => ?_)
            refine Sf.let_xu ha115 rfl (fun a127 ha127 => ?_)
            refine Sf.g (fun _ => ?_)
            refine Sf.let_xu ha127 rfl (fun a136 ha136 => ?_)
            refine Sf.b (fb_X9_peek Fr.rf) ha136 rfl (fun r139 a139 ha139 => ?_)
            refine Sf.ite ?_ ?_
            · refine Sf.let_xu ha139 rfl (fun a154 ha154 => ?_)
              exact Sf.ret ha154
            · refine Sf.b (fb_X9_peek Fr.rf) ha139 rfl (fun r161 a161 ha161 => ?_)
              refine Sf.ite ?_ ?_
              · refine Sf.bv (fb_X9_skipBlanks Fr.rf) ha161 rfl (fun a180 ha180 => ?_)
                refine Sf.let_v (fun v3_183 => ?_)
                exact ih ha180
              · refine Sf.b (fb_X9_refuse Fr.rf) ha161 rfl (fun r175 a175 ha175 => ?_)
                refine Sf.bo ?_
                exact Sf.ret ha175
theorem fb_X5_readOthers_31 {a0 : AH} {N : Nat} {ah : AH} {p2 : Int32}  (hah : Fr rgC lf_X5_readOthers_31 a0 ah) : Sf hpI rgC lf_X5_readOthers_31 a0 (F_X5_readOthers N 31 ah p2) := by
  unfold F_X5_readOthers
  refine Sf.let_xu hah rfl (fun a7 ha7 => ?_)
  refine Sf.b (fb_X9_peek Fr.rf) ha7 rfl (fun r12 a12 ha12 => ?_)
  refine Sf.ite ?_ ?_
  · refine Sf.let_xu ha12 rfl (fun a27 ha27 => ?_)
    exact Sf.ret ha27
  · refine Sf.let_v (fun v3_33 => ?_)
    exact fb_X5_readOthers_34_31 _ ha12
theorem fb_X5_readCell_90_31 {a0 : AH} {N : Nat} {ah : AH} {v2 : Int32} {v3 : Int32}  (hah : Fr rgC lf_X5_readCell_31 a0 ah) : Sf hpI rgC lf_X5_readCell_31 a0 (F_X5_readCell_90 N 31 ah v2 v3) := by
  unfold F_X5_readCell_90
  refine Sf.b (fb_X11_isLetter Fr.rf) hah rfl (fun r91 a91 ha91 => ?_)
  refine Sf.ite ?_ ?_
  · exact fb_X5_readCell_116_31 ha91
  · refine Sf.b (fb_X9_peek Fr.rf) ha91 rfl (fun r99 a99 ha99 => ?_)
    refine Sf.ite ?_ ?_
    · refine Sf.b (fb_X5_readOthers_31 Fr.rf) ha99 rfl (fun r110 a110 ha110 => ?_)
      refine Sf.ite ?_ ?_
      · exact Sf.ret ha110
      · exact fb_X5_readCell_116_31 ha110
    · exact fb_X5_readCell_116_31 ha99
theorem fb_X5_readCell_31 {a0 : AH} {N : Nat} {ah : AH} {p2 : Int32}  (hah : Fr rgC lf_X5_readCell_31 a0 ah) : Sf hpI rgC lf_X5_readCell_31 a0 (F_X5_readCell N 31 ah p2) := by
  unfold F_X5_readCell
  refine Sf.let_v (fun v3_4 => ?_)
  refine Sf.ite ?_ ?_
  · refine Sf.let_xu hah rfl (fun a21 ha21 => ?_)
    refine Sf.let_xu ha21 rfl (fun a31 ha31 => ?_)
    refine Sf.g (fun _ => ?_)
    refine Sf.let_xu ha31 rfl (fun a40 ha40 => ?_)
    refine Sf.g (fun _ => ?_)
    refine Sf.let_xu ha40 rfl (fun a47 ha47 => ?_)
    refine Sf.ite ?_ ?_
    · refine Sf.b (fb_X5_isBreak_31 Fr.rf) ha47 rfl (fun r56 a56 ha56 => ?_)
      refine Sf.ite ?_ ?_
      · exact fb_X5_readCell_90_31 ha56
      · refine Sf.g (fun _ => ?_)
        refine Sf.let_xu ha56 rfl (fun a69 ha69 => ?_)
        refine Sf.let_xu ha69 rfl (fun a77 ha77 => ?_)
        refine Sf.let_xu ha77 rfl (fun a87 ha87 => ?_)
        exact fb_X5_readCell_90_31 ha87
    · exact fb_X5_readCell_90_31 ha47
  · exact Sf.ret hah
abbrev lf_X5_readToken_31 : List Nat := [32, 33, 36, 37, 38, 39, 1203, 1204, 1205, 4100, 4101, 4102]
theorem fb_X5_readToken_106_31 {a0 : AH} {N : Nat} {k81 : AH → Int32 → Option (Int32 × AH)} {ah : AH} (hk81 : ∀ {z0 : AH} {z1 : Int32}, Fr rgC lf_X5_readToken_31 a0 z0 → Sf hpI rgC lf_X5_readToken_31 a0 (k81 z0 z1)) (hah : Fr rgC lf_X5_readToken_31 a0 ah) : Sf hpI rgC lf_X5_readToken_31 a0 (F_X5_readToken_106 N 31 k81 ah) := by
  unfold F_X5_readToken_106
  refine Sf.g (fun _ => ?_)
  refine Sf.let_xu hah rfl (fun a118 ha118 => ?_)
  exact Sf.ret ha118
theorem fb_X5_readToken_81_31 {a0 : AH} {N : Nat}  : ∀ (n : Nat) {ah : AH} {v2 : Int32}  (hah : Fr rgC lf_X5_readToken_31 a0 ah), Sf hpI rgC lf_X5_readToken_31 a0 (F_X5_readToken_81 N 31 n ah v2) := by
  intro n
  induction n with
  | zero => intros; exact Sf.none
  | succ n ih =>
    intro ah v2  hah
    unfold F_X5_readToken_81
    refine Sf.ite ?_ ?_
    · exact Sf.ret hah
    · refine Sf.b (fb_X9_peek Fr.rf) hah rfl (fun r89 a89 ha89 => ?_)
      refine Sf.let_v (fun v3_92 => ?_)
      refine Sf.ite ?_ ?_
      · exact fb_X5_readToken_106_31 (fun h => ih h) ha89
      · refine Sf.b (fb_X5_isGap_31 Fr.rf) ha89 rfl (fun r100 a100 ha100 => ?_)
        refine Sf.ite ?_ ?_
        · refine Sf.b (fb_X5_beginsCell_31 Fr.rf) ha100 rfl (fun r123 a123 ha123 => ?_)
          refine Sf.ite ?_ ?_
          · refine Sf.b (fb_X9_refuse Fr.rf) ha123 rfl (fun r135 a135 ha135 => ?_)
            refine Sf.bo ?_
            exact Sf.ret ha135
          · refine Sf.ite ?_ ?_
            · refine Sf.b (fb_X9_refuse Fr.rf) ha123 rfl (fun r151 a151 ha151 => ?_)
              refine Sf.bo ?_
              exact Sf.ret ha151
            · refine Sf.b (fb_X5_readCell_31 Fr.rf) ha123 rfl (fun r158 a158 ha158 => ?_)
              refine Sf.ite ?_ ?_
              · exact Sf.ret ha158
              · refine Sf.let_v (fun v2_166 => ?_)
                exact ih ha158
        · exact fb_X5_readToken_106_31 (fun h => ih h) ha100
theorem fb_X5_readToken_31 {a0 : AH} {N : Nat} {ah : AH}  (hah : Fr rgC lf_X5_readToken_31 a0 ah) : Sf hpI rgC lf_X5_readToken_31 a0 (F_X5_readToken N 31 ah) := by
  unfold F_X5_readToken
  refine Sf.b (fb_X9_peek Fr.rf) hah rfl (fun r3 a3 ha3 => ?_)
  refine Sf.b (fb_X5_beginsCell_31 Fr.rf) ha3 rfl (fun r6 a6 ha6 => ?_)
  refine Sf.ite ?_ ?_
  · refine Sf.b (fb_X9_refuse Fr.rf) ha6 rfl (fun r18 a18 ha18 => ?_)
    refine Sf.bo ?_
    exact Sf.ret ha18
  · refine Sf.ite ?_ ?_
    · refine Sf.g (fun _ => ?_)
      refine Sf.let_xu ha6 rfl (fun a53 ha53 => ?_)
      refine Sf.g (fun _ => ?_)
      refine Sf.let_xu ha53 rfl (fun a68 ha68 => ?_)
      refine Sf.let_xu ha68 rfl (fun a76 ha76 => ?_)
      refine Sf.let_v (fun v2_80 => ?_)
      exact fb_X5_readToken_81_31 _ ha76
    · refine Sf.b (fb_X9_refuse Fr.rf) ha6 rfl (fun r37 a37 ha37 => ?_)
      refine Sf.bo ?_
      exact Sf.ret ha37
abbrev lf_X5_readText_31 : List Nat := [32, 33, 34, 35, 36, 37, 38, 39, 1203, 1204, 1205, 4100, 4101, 4102]
theorem fb_X5_readText_17_31 {a0 : AH} {N : Nat}  : ∀ (n : Nat) {ah : AH} {v2 : Int32}  (hah : Fr rgC lf_X5_readText_31 a0 ah), Sf hpI rgC lf_X5_readText_31 a0 (F_X5_readText_17 N 31 n ah v2) := by
  intro n
  induction n with
  | zero => intros; exact Sf.none
  | succ n ih =>
    intro ah v2  hah
    unfold F_X5_readText_17
    refine Sf.ite ?_ ?_
    · exact Sf.ret hah
    · refine Sf.bv (fb_X5_readGap_31 Fr.rf) hah rfl (fun a25 ha25 => ?_)
      refine Sf.b (fb_X9_atEnd Fr.rf) ha25 rfl (fun r29 a29 ha29 => ?_)
      refine Sf.ite ?_ ?_
      · refine Sf.b (fb_X5_readToken_31 Fr.rf) ha29 rfl (fun r39 a39 ha39 => ?_)
        refine Sf.ite ?_ ?_
        · exact Sf.ret ha39
        · refine Sf.let_v (fun v2_47 => ?_)
          exact ih ha39
      · exact Sf.ret ha29
theorem fb_X5_readText_31 {a0 : AH} {N : Nat} {ah : AH}  (hah : Fr rgC lf_X5_readText_31 a0 ah) : Sf hpI rgC lf_X5_readText_31 a0 (F_X5_readText N 31 ah) := by
  unfold F_X5_readText
  refine Sf.let_xu hah rfl (fun a2 ha2 => ?_)
  refine Sf.let_xu ha2 rfl (fun a7 ha7 => ?_)
  refine Sf.let_xu ha7 rfl (fun a12 ha12 => ?_)
  refine Sf.let_v (fun v2_16 => ?_)
  exact fb_X5_readText_17_31 _ ha12
abbrev lf_X5_isGap_40 : List Nat := []
theorem fb_X5_isGap_12_40 {a0 : AH} {N : Nat} {ah : AH}  (hah : Fr rgC lf_X5_isGap_40 a0 ah) : Sf hpI rgC lf_X5_isGap_40 a0 (F_X5_isGap_12 N 40 ah) := by
  unfold F_X5_isGap_12
  exact Sf.ret hah
theorem fb_X5_isGap_40 {a0 : AH} {N : Nat} {ah : AH} {p1 : Int32}  (hah : Fr rgC lf_X5_isGap_40 a0 ah) : Sf hpI rgC lf_X5_isGap_40 a0 (F_X5_isGap N 40 ah p1) := by
  unfold F_X5_isGap
  refine Sf.ite ?_ ?_
  · exact fb_X5_isGap_12_40 hah
  · refine Sf.ite ?_ ?_
    · exact fb_X5_isGap_12_40 hah
    · exact Sf.ret hah
abbrev lf_X5_readGap_40 : List Nat := [43, 44, 1203, 5001]
theorem fb_X5_readGap_42_40 {a0 : AH} {N : Nat} {k4 : AH → Int32 → Int32 → Option AH} {ah : AH} {v2 : Int32} {v3 : Int32} (hk4 : ∀ {z0 : AH} {z1 : Int32} {z2 : Int32}, Fr rgC lf_X5_readGap_40 a0 z0 → Sf hpV rgC lf_X5_readGap_40 a0 (k4 z0 z1 z2)) (hah : Fr rgC lf_X5_readGap_40 a0 ah) : Sf hpV rgC lf_X5_readGap_40 a0 (F_X5_readGap_42 N 40 k4 ah v2 v3) := by
  unfold F_X5_readGap_42
  refine Sf.let_xu hah rfl (fun a49 ha49 => ?_)
  exact hk4 ha49
theorem fb_X5_readGap_123_40 {a0 : AH} {N : Nat} {ah : AH} {s1 : Int32} {s2 : Int32}  (hah : Fr rgC lf_X5_readGap_40 a0 ah) : Sf hpV rgC lf_X5_readGap_40 a0 (F_X5_readGap_123 N 40 ah s1 s2) := by
  unfold F_X5_readGap_123
  refine Sf.g (fun _ => ?_)
  refine Sf.let_xu hah rfl (fun a123 ha123 => ?_)
  exact Sf.ret ha123
theorem fb_X5_readGap_122_40 {a0 : AH} {N : Nat} {ah : AH} {s1 : Int32}  (hah : Fr rgC lf_X5_readGap_40 a0 ah) : Sf hpV rgC lf_X5_readGap_40 a0 (F_X5_readGap_122 N 40 ah s1) := by
  unfold F_X5_readGap_122
  exact fb_X5_readGap_123_40 hah
theorem fb_X5_readGap_91_40 {a0 : AH} {N : Nat} {ah : AH} {v2 : Int32} {v3 : Int32} {s1 : Int32} {s2 : Int32}  (hah : Fr rgC lf_X5_readGap_40 a0 ah) : Sf hpV rgC lf_X5_readGap_40 a0 (F_X5_readGap_91 N 40 ah v2 v3 s1 s2) := by
  unfold F_X5_readGap_91
  refine Sf.g (fun _ => ?_)
  refine Sf.let_xu hah rfl (fun a91 ha91 => ?_)
  refine Sf.ite ?_ ?_
  · refine Sf.ite ?_ ?_
    · refine Sf.b (fb_X9_atEnd Fr.rf) ha91 rfl (fun r112 a112 ha112 => ?_)
      refine Sf.ite ?_ ?_
      · exact fb_X5_readGap_123_40 ha112
      · exact fb_X5_readGap_122_40 ha112
    · exact fb_X5_readGap_122_40 ha91
  · exact fb_X5_readGap_122_40 ha91
theorem fb_X5_readGap_55_40 {a0 : AH} {N : Nat} {ah : AH} {v2 : Int32} {v3 : Int32}  (hah : Fr rgC lf_X5_readGap_40 a0 ah) : Sf hpV rgC lf_X5_readGap_40 a0 (F_X5_readGap_55 N 40 ah v2 v3) := by
  unfold F_X5_readGap_55
  refine Sf.let_xu hah rfl (fun a62 ha62 => ?_)
  refine Sf.ite ?_ ?_
  · exact Sf.ret ha62
  · refine Sf.ite ?_ ?_
    · exact fb_X5_readGap_91_40 ha62
    · exact fb_X5_readGap_91_40 ha62
theorem fb_X5_readGap_4_40 {a0 : AH} {N : Nat}  : ∀ (n : Nat) {ah : AH} {v2 : Int32} {v3 : Int32}  (hah : Fr rgC lf_X5_readGap_40 a0 ah), Sf hpV rgC lf_X5_readGap_40 a0 (F_X5_readGap_4 N 40 n ah v2 v3) := by
  intro n
  induction n with
  | zero => intros; exact Sf.none
  | succ n ih =>
    intro ah v2 v3  hah
    unfold F_X5_readGap_4
    refine Sf.b (fb_X9_atEnd Fr.rf) hah rfl (fun r5 a5 ha5 => ?_)
    refine Sf.ite ?_ ?_
    · refine Sf.b (fb_X9_peek Fr.rf) ha5 rfl (fun r14 a14 ha14 => ?_)
      refine Sf.b (fb_X5_isGap_40 Fr.rf) ha14 rfl (fun r17 a17 ha17 => ?_)
      refine Sf.ite ?_ ?_
      · exact fb_X5_readGap_55_40 ha17
      · refine Sf.b (fb_X9_peek Fr.rf) ha17 rfl (fun r25 a25 ha25 => ?_)
        refine Sf.ite ?_ ?_
        · refine Sf.let_v (fun v2_33 => ?_)
          exact fb_X5_readGap_42_40 (fun h => ih h) ha25
        · refine Sf.let_v (fun v3_39 => ?_)
          exact fb_X5_readGap_42_40 (fun h => ih h) ha25
    · exact fb_X5_readGap_55_40 ha5
theorem fb_X5_readGap_40 {a0 : AH} {N : Nat} {ah : AH}  (hah : Fr rgC lf_X5_readGap_40 a0 ah) : Sf hpV rgC lf_X5_readGap_40 a0 (F_X5_readGap N 40 ah) := by
  unfold F_X5_readGap
  refine Sf.let_v (fun v2_1 => ?_)
  refine Sf.let_v (fun v3_3 => ?_)
  exact fb_X5_readGap_4_40 _ hah
abbrev lf_X5_beginsCell_40 : List Nat := []
theorem fb_X5_beginsCell_19_40 {a0 : AH} {N : Nat} {ah : AH}  (hah : Fr rgC lf_X5_beginsCell_40 a0 ah) : Sf hpI rgC lf_X5_beginsCell_40 a0 (F_X5_beginsCell_19 N 40 ah) := by
  unfold F_X5_beginsCell_19
  exact Sf.ret hah
theorem fb_X5_beginsCell_40 {a0 : AH} {N : Nat} {ah : AH} {p1 : Int32}  (hah : Fr rgC lf_X5_beginsCell_40 a0 ah) : Sf hpI rgC lf_X5_beginsCell_40 a0 (F_X5_beginsCell N 40 ah p1) := by
  unfold F_X5_beginsCell
  refine Sf.b (fb_X11_isLetter Fr.rf) hah rfl (fun r1 a1 ha1 => ?_)
  refine Sf.ite ?_ ?_
  · refine Sf.ite ?_ ?_
    · exact fb_X5_beginsCell_19_40 ha1
    · refine Sf.ite ?_ ?_
      · exact fb_X5_beginsCell_19_40 ha1
      · exact Sf.ret ha1
  · exact fb_X5_beginsCell_19_40 ha1
abbrev lf_X5_isBreak_40 : List Nat := []
theorem fb_X5_isBreak_31_40 {a0 : AH} {N : Nat} {ah : AH}  (hah : Fr rgC lf_X5_isBreak_40 a0 ah) : Sf hpI rgC lf_X5_isBreak_40 a0 (F_X5_isBreak_31 N 40 ah) := by
  unfold F_X5_isBreak_31
  exact Sf.ret hah
theorem fb_X5_isBreak_40 {a0 : AH} {N : Nat} {ah : AH}  (hah : Fr rgC lf_X5_isBreak_40 a0 ah) : Sf hpI rgC lf_X5_isBreak_40 a0 (F_X5_isBreak N 40 ah) := by
  unfold F_X5_isBreak
  refine Sf.b (fb_X9_peek Fr.rf) hah rfl (fun r2 a2 ha2 => ?_)
  refine Sf.ite ?_ ?_
  · refine Sf.b (fb_X9_peek Fr.rf) ha2 rfl (fun r12 a12 ha12 => ?_)
    refine Sf.b (fb_X11_isLetter Fr.rf) ha12 rfl (fun r15 a15 ha15 => ?_)
    refine Sf.ite ?_ ?_
    · refine Sf.b (fb_X9_peek Fr.rf) ha15 rfl (fun r23 a23 ha23 => ?_)
      refine Sf.ite ?_ ?_
      · exact fb_X5_isBreak_31_40 ha23
      · exact Sf.ret ha23
    · exact fb_X5_isBreak_31_40 ha15
  · exact Sf.ret ha2
abbrev lf_X5_readCell_40 : List Nat := [45, 46, 47, 48, 1203, 1204, 1205, 5001, 5002]
theorem fb_X5_readCell_116_40 {a0 : AH} {N : Nat} {ah : AH}  (hah : Fr rgC lf_X5_readCell_40 a0 ah) : Sf hpI rgC lf_X5_readCell_40 a0 (F_X5_readCell_116 N 40 ah) := by
  unfold F_X5_readCell_116
  exact Sf.ret hah
abbrev lf_X5_readOthers_40 : List Nat := [46, 47, 48, 1203, 1204, 1205]
theorem fb_X5_readOthers_34_40 {a0 : AH} {N : Nat}  : ∀ (n : Nat) {ah : AH} {v2 : Int32} {v3 : Int32}  (hah : Fr rgC lf_X5_readOthers_40 a0 ah), Sf hpI rgC lf_X5_readOthers_40 a0 (F_X5_readOthers_34 N 40 n ah v2 v3) := by
  intro n
  induction n with
  | zero => intros; exact Sf.none
  | succ n ih =>
    intro ah v2 v3  hah
    unfold F_X5_readOthers_34
    refine Sf.ite ?_ ?_
    · exact Sf.ret hah
    · refine Sf.b (fb_X9_peek Fr.rf) hah rfl (fun r41 a41 ha41 => ?_)
      refine Sf.let_v (fun v4_44 => ?_)
      refine Sf.b (fb_X11_isLetter Fr.rf) ha41 rfl (fun r48 a48 ha48 => ?_)
      refine Sf.ite ?_ ?_
      · refine Sf.b (fb_X9_refuse Fr.rf) ha48 rfl (fun r60 a60 ha60 => ?_)
        refine Sf.bo ?_
        exact Sf.ret ha60
      · refine Sf.ite ?_ ?_
        · refine Sf.b (fb_X9_refuse Fr.rf) ha48 rfl (fun r75 a75 ha75 => ?_)
          refine Sf.bo ?_
          exact Sf.ret ha75
        · refine Sf.let_xu ha48 rfl (fun a86 ha86 => ?_)
          refine Sf.b (fb_X9_readNumber Fr.rf) ha86 rfl (fun r91 a91 ha91 => ?_)
          refine Sf.let_v (fun v5_94 => ?_)
          refine Sf.ite ?_ ?_
          · exact Sf.ret ha91
          · refine Sf.g (fun _ => ?_)
            refine Sf.let_xu ha91 rfl (fun a115 ha115 => ?_)
            refine Sf.g (fun _ => ?_)
            refine Sf.let_xu ha115 rfl (fun a127 ha127 => ?_)
            refine Sf.g (fun _ => ?_)
            refine Sf.let_xu ha127 rfl (fun a136 ha136 => ?_)
            refine Sf.b (fb_X9_peek Fr.rf) ha136 rfl (fun r139 a139 ha139 => ?_)
            refine Sf.ite ?_ ?_
            · refine Sf.let_xu ha139 rfl (fun a154 ha154 => ?_)
              exact Sf.ret ha154
            · refine Sf.b (fb_X9_peek Fr.rf) ha139 rfl (fun r161 a161 ha161 => ?_)
              refine Sf.ite ?_ ?_
              · refine Sf.bv (fb_X9_skipBlanks Fr.rf) ha161 rfl (fun a180 ha180 => ?_)
                refine Sf.let_v (fun v3_183 => ?_)
                exact ih ha180
              · refine Sf.b (fb_X9_refuse Fr.rf) ha161 rfl (fun r175 a175 ha175 => ?_)
                refine Sf.bo ?_
                exact Sf.ret ha175
theorem fb_X5_readOthers_40 {a0 : AH} {N : Nat} {ah : AH} {p2 : Int32}  (hah : Fr rgC lf_X5_readOthers_40 a0 ah) : Sf hpI rgC lf_X5_readOthers_40 a0 (F_X5_readOthers N 40 ah p2) := by
  unfold F_X5_readOthers
  refine Sf.let_xu hah rfl (fun a7 ha7 => ?_)
  refine Sf.b (fb_X9_peek Fr.rf) ha7 rfl (fun r12 a12 ha12 => ?_)
  refine Sf.ite ?_ ?_
  · refine Sf.let_xu ha12 rfl (fun a27 ha27 => ?_)
    exact Sf.ret ha27
  · refine Sf.let_v (fun v3_33 => ?_)
    exact fb_X5_readOthers_34_40 _ ha12
theorem fb_X5_readCell_90_40 {a0 : AH} {N : Nat} {ah : AH} {v2 : Int32} {v3 : Int32}  (hah : Fr rgC lf_X5_readCell_40 a0 ah) : Sf hpI rgC lf_X5_readCell_40 a0 (F_X5_readCell_90 N 40 ah v2 v3) := by
  unfold F_X5_readCell_90
  refine Sf.b (fb_X11_isLetter Fr.rf) hah rfl (fun r91 a91 ha91 => ?_)
  refine Sf.ite ?_ ?_
  · exact fb_X5_readCell_116_40 ha91
  · refine Sf.b (fb_X9_peek Fr.rf) ha91 rfl (fun r99 a99 ha99 => ?_)
    refine Sf.ite ?_ ?_
    · refine Sf.b (fb_X5_readOthers_40 Fr.rf) ha99 rfl (fun r110 a110 ha110 => ?_)
      refine Sf.ite ?_ ?_
      · exact Sf.ret ha110
      · exact fb_X5_readCell_116_40 ha110
    · exact fb_X5_readCell_116_40 ha99
theorem fb_X5_readCell_40 {a0 : AH} {N : Nat} {ah : AH} {p2 : Int32}  (hah : Fr rgC lf_X5_readCell_40 a0 ah) : Sf hpI rgC lf_X5_readCell_40 a0 (F_X5_readCell N 40 ah p2) := by
  unfold F_X5_readCell
  refine Sf.let_v (fun v3_4 => ?_)
  refine Sf.ite ?_ ?_
  · refine Sf.let_xu hah rfl (fun a21 ha21 => ?_)
    refine Sf.let_xu ha21 rfl (fun a31 ha31 => ?_)
    refine Sf.g (fun _ => ?_)
    refine Sf.let_xu ha31 rfl (fun a40 ha40 => ?_)
    refine Sf.g (fun _ => ?_)
    refine Sf.let_xu ha40 rfl (fun a47 ha47 => ?_)
    refine Sf.ite ?_ ?_
    · refine Sf.b (fb_X5_isBreak_40 Fr.rf) ha47 rfl (fun r56 a56 ha56 => ?_)
      refine Sf.ite ?_ ?_
      · exact fb_X5_readCell_90_40 ha56
      · refine Sf.g (fun _ => ?_)
        refine Sf.let_xu ha56 rfl (fun a69 ha69 => ?_)
        refine Sf.let_xu ha69 rfl (fun a77 ha77 => ?_)
        refine Sf.let_xu ha77 rfl (fun a87 ha87 => ?_)
        exact fb_X5_readCell_90_40 ha87
    · exact fb_X5_readCell_90_40 ha47
  · exact Sf.ret hah
abbrev lf_X5_readToken_40 : List Nat := [41, 42, 45, 46, 47, 48, 1203, 1204, 1205, 5000, 5001, 5002]
theorem fb_X5_readToken_106_40 {a0 : AH} {N : Nat} {k81 : AH → Int32 → Option (Int32 × AH)} {ah : AH} (hk81 : ∀ {z0 : AH} {z1 : Int32}, Fr rgC lf_X5_readToken_40 a0 z0 → Sf hpI rgC lf_X5_readToken_40 a0 (k81 z0 z1)) (hah : Fr rgC lf_X5_readToken_40 a0 ah) : Sf hpI rgC lf_X5_readToken_40 a0 (F_X5_readToken_106 N 40 k81 ah) := by
  unfold F_X5_readToken_106
  refine Sf.g (fun _ => ?_)
  refine Sf.let_xu hah rfl (fun a118 ha118 => ?_)
  exact Sf.ret ha118
theorem fb_X5_readToken_81_40 {a0 : AH} {N : Nat}  : ∀ (n : Nat) {ah : AH} {v2 : Int32}  (hah : Fr rgC lf_X5_readToken_40 a0 ah), Sf hpI rgC lf_X5_readToken_40 a0 (F_X5_readToken_81 N 40 n ah v2) := by
  intro n
  induction n with
  | zero => intros; exact Sf.none
  | succ n ih =>
    intro ah v2  hah
    unfold F_X5_readToken_81
    refine Sf.ite ?_ ?_
    · exact Sf.ret hah
    · refine Sf.b (fb_X9_peek Fr.rf) hah rfl (fun r89 a89 ha89 => ?_)
      refine Sf.let_v (fun v3_92 => ?_)
      refine Sf.ite ?_ ?_
      · exact fb_X5_readToken_106_40 (fun h => ih h) ha89
      · refine Sf.b (fb_X5_isGap_40 Fr.rf) ha89 rfl (fun r100 a100 ha100 => ?_)
        refine Sf.ite ?_ ?_
        · refine Sf.b (fb_X5_beginsCell_40 Fr.rf) ha100 rfl (fun r123 a123 ha123 => ?_)
          refine Sf.ite ?_ ?_
          · refine Sf.b (fb_X9_refuse Fr.rf) ha123 rfl (fun r135 a135 ha135 => ?_)
            refine Sf.bo ?_
            exact Sf.ret ha135
          · refine Sf.ite ?_ ?_
            · refine Sf.b (fb_X9_refuse Fr.rf) ha123 rfl (fun r151 a151 ha151 => ?_)
              refine Sf.bo ?_
              exact Sf.ret ha151
            · refine Sf.b (fb_X5_readCell_40 Fr.rf) ha123 rfl (fun r158 a158 ha158 => ?_)
              refine Sf.ite ?_ ?_
              · exact Sf.ret ha158
              · refine Sf.let_v (fun v2_166 => ?_)
                exact ih ha158
        · exact fb_X5_readToken_106_40 (fun h => ih h) ha100
theorem fb_X5_readToken_40 {a0 : AH} {N : Nat} {ah : AH}  (hah : Fr rgC lf_X5_readToken_40 a0 ah) : Sf hpI rgC lf_X5_readToken_40 a0 (F_X5_readToken N 40 ah) := by
  unfold F_X5_readToken
  refine Sf.b (fb_X9_peek Fr.rf) hah rfl (fun r3 a3 ha3 => ?_)
  refine Sf.b (fb_X5_beginsCell_40 Fr.rf) ha3 rfl (fun r6 a6 ha6 => ?_)
  refine Sf.ite ?_ ?_
  · refine Sf.b (fb_X9_refuse Fr.rf) ha6 rfl (fun r18 a18 ha18 => ?_)
    refine Sf.bo ?_
    exact Sf.ret ha18
  · refine Sf.ite ?_ ?_
    · refine Sf.g (fun _ => ?_)
      refine Sf.let_xu ha6 rfl (fun a53 ha53 => ?_)
      refine Sf.g (fun _ => ?_)
      refine Sf.let_xu ha53 rfl (fun a68 ha68 => ?_)
      refine Sf.let_xu ha68 rfl (fun a76 ha76 => ?_)
      refine Sf.let_v (fun v2_80 => ?_)
      exact fb_X5_readToken_81_40 _ ha76
    · refine Sf.b (fb_X9_refuse Fr.rf) ha6 rfl (fun r37 a37 ha37 => ?_)
      refine Sf.bo ?_
      exact Sf.ret ha37
abbrev lf_X5_readText_40 : List Nat := [41, 42, 43, 44, 45, 46, 47, 48, 1203, 1204, 1205, 5000, 5001, 5002]
theorem fb_X5_readText_17_40 {a0 : AH} {N : Nat}  : ∀ (n : Nat) {ah : AH} {v2 : Int32}  (hah : Fr rgC lf_X5_readText_40 a0 ah), Sf hpI rgC lf_X5_readText_40 a0 (F_X5_readText_17 N 40 n ah v2) := by
  intro n
  induction n with
  | zero => intros; exact Sf.none
  | succ n ih =>
    intro ah v2  hah
    unfold F_X5_readText_17
    refine Sf.ite ?_ ?_
    · exact Sf.ret hah
    · refine Sf.bv (fb_X5_readGap_40 Fr.rf) hah rfl (fun a25 ha25 => ?_)
      refine Sf.b (fb_X9_atEnd Fr.rf) ha25 rfl (fun r29 a29 ha29 => ?_)
      refine Sf.ite ?_ ?_
      · refine Sf.b (fb_X5_readToken_40 Fr.rf) ha29 rfl (fun r39 a39 ha39 => ?_)
        refine Sf.ite ?_ ?_
        · exact Sf.ret ha39
        · refine Sf.let_v (fun v2_47 => ?_)
          exact ih ha39
      · exact Sf.ret ha29
theorem fb_X5_readText_40 {a0 : AH} {N : Nat} {ah : AH}  (hah : Fr rgC lf_X5_readText_40 a0 ah) : Sf hpI rgC lf_X5_readText_40 a0 (F_X5_readText N 40 ah) := by
  unfold F_X5_readText
  refine Sf.let_xu hah rfl (fun a2 ha2 => ?_)
  refine Sf.let_xu ha2 rfl (fun a7 ha7 => ?_)
  refine Sf.let_xu ha7 rfl (fun a12 ha12 => ?_)
  refine Sf.let_v (fun v2_16 => ?_)
  exact fb_X5_readText_17_40 _ ha12
theorem fb_X11_reading {a0 : AH} {N : Nat} {ah : AH} {p1 : Int32}  (hah : Fr rgC lf_X11_reading a0 ah) : Sf hpX rgC lf_X11_reading a0 (F_X11_reading N ah p1) := by
  unfold F_X11_reading
  refine Sf.bx (fb_X11_needBetween Fr.rf) hah rfl (fun a10 ha10 => ?_)
  refine Sf.bv (fb_X9_begin Fr.rf) ha10 rfl (fun a18 ha18 => ?_)
  refine Sf.b (fb_X5_readText_40 Fr.rf) ha18 rfl (fun r29 a29 ha29 => ?_)
  refine Sf.ite ?_ ?_
  · exact fb_X11_reading_59 ha29
  · refine Sf.bv (fb_X9_begin Fr.rf) ha29 rfl (fun a40 ha40 => ?_)
    refine Sf.b (fb_X5_readText_31 Fr.rf) ha40 rfl (fun r51 a51 ha51 => ?_)
    refine Sf.bv (fb_X11_changed Fr.rf) ha51 rfl (fun a56 ha56 => ?_)
    exact fb_X11_reading_59 ha56
abbrev lf_X11_follows : List Nat := [50, 51, 52, 54, 55, 56, 75, 1015, 1201, 1202, 1203, 1204, 1205, 5901, 6301, 9003, 9404]
theorem fb_X11_follows_59 {a0 : AH} {N : Nat} {ah : AH}  (hah : Fr rgC lf_X11_follows a0 ah) : Sf hpX rgC lf_X11_follows a0 (F_X11_follows_59 N ah) := by
  unfold F_X11_follows_59
  refine Sf.b (fb_X9_finish Fr.rf) hah rfl (fun r70 a70 ha70 => ?_)
  exact Sf.ret ha70
abbrev lf_X1_readWord_53 : List Nat := [1203, 1204, 1205]
theorem fb_X1_readWord_53_53 {a0 : AH} {N : Nat} {k25 : AH → Int32 → Option (Int32 × AH)} {ah : AH} {v2 : Int32} (hk25 : ∀ {z0 : AH} {z1 : Int32}, Fr rgC lf_X1_readWord_53 a0 z0 → Sf hpI rgC lf_X1_readWord_53 a0 (k25 z0 z1)) (hah : Fr rgC lf_X1_readWord_53 a0 ah) : Sf hpI rgC lf_X1_readWord_53 a0 (F_X1_readWord_53 N 53 k25 ah v2) := by
  unfold F_X1_readWord_53
  refine Sf.let_xu hah rfl (fun a60 ha60 => ?_)
  exact hk25 ha60
theorem fb_X1_readWord_66_53 {a0 : AH} {N : Nat} {ah : AH} {v2 : Int32}  (hah : Fr rgC lf_X1_readWord_53 a0 ah) : Sf hpI rgC lf_X1_readWord_53 a0 (F_X1_readWord_66 N 53 ah v2) := by
  unfold F_X1_readWord_66
  refine Sf.b (fb_X2_look_3 Fr.rf) hah rfl (fun r81 a81 ha81 => ?_)
  refine Sf.let_v (fun v3_84 => ?_)
  refine Sf.ite ?_ ?_
  · refine Sf.b (fb_X9_refuse Fr.rf) ha81 rfl (fun r93 a93 ha93 => ?_)
    exact Sf.ret ha93
  · exact Sf.ret ha81
theorem fb_X1_readWord_25_53 {a0 : AH} {N : Nat}  : ∀ (n : Nat) {ah : AH} {v2 : Int32}  (hah : Fr rgC lf_X1_readWord_53 a0 ah), Sf hpI rgC lf_X1_readWord_53 a0 (F_X1_readWord_25 N 53 n ah v2) := by
  intro n
  induction n with
  | zero => intros; exact Sf.none
  | succ n ih =>
    intro ah v2  hah
    unfold F_X1_readWord_25
    refine Sf.b (fb_X9_atEnd Fr.rf) hah rfl (fun r26 a26 ha26 => ?_)
    refine Sf.ite ?_ ?_
    · refine Sf.b (fb_X9_peek Fr.rf) ha26 rfl (fun r34 a34 ha34 => ?_)
      refine Sf.b (fb_X11_isLetter Fr.rf) ha34 rfl (fun r37 a37 ha37 => ?_)
      refine Sf.ite ?_ ?_
      · refine Sf.b (fb_X9_peek Fr.rf) ha37 rfl (fun r45 a45 ha45 => ?_)
        refine Sf.ite ?_ ?_
        · exact fb_X1_readWord_53_53 (fun h => ih h) ha45
        · exact fb_X1_readWord_66_53 ha45
      · exact fb_X1_readWord_53_53 (fun h => ih h) ha37
    · exact fb_X1_readWord_66_53 ha26
theorem fb_X1_readWord_53 {a0 : AH} {N : Nat} {ah : AH}  (hah : Fr rgC lf_X1_readWord_53 a0 ah) : Sf hpI rgC lf_X1_readWord_53 a0 (F_X1_readWord N 53 ah) := by
  unfold F_X1_readWord
  refine Sf.let_v (fun v2_4 => ?_)
  refine Sf.b (fb_X9_peek Fr.rf) hah rfl (fun r7 a7 ha7 => ?_)
  refine Sf.b (fb_X11_isLetter Fr.rf) ha7 rfl (fun r10 a10 ha10 => ?_)
  refine Sf.ite ?_ ?_
  · refine Sf.b (fb_X9_refuse Fr.rf) ha10 rfl (fun r19 a19 ha19 => ?_)
    exact Sf.ret ha19
  · exact fb_X1_readWord_25_53 _ ha10
abbrev lf_X1_readEntry_53 : List Nat := [54, 55, 56, 1203, 1204, 1205, 6301]
theorem fb_X1_readEntry_30_53 {a0 : AH} {N : Nat} {ah : AH}  (hah : Fr rgC lf_X1_readEntry_53 a0 ah) : Sf hpI rgC lf_X1_readEntry_53 a0 (F_X1_readEntry_30 N 53 ah) := by
  unfold F_X1_readEntry_30
  refine Sf.b (fb_X1_readWord_53 Fr.rf) hah rfl (fun r32 a32 ha32 => ?_)
  refine Sf.let_v (fun v2_35 => ?_)
  refine Sf.ite ?_ ?_
  · exact Sf.ret ha32
  · refine Sf.b (fb_X9_peek Fr.rf) ha32 rfl (fun r45 a45 ha45 => ?_)
    refine Sf.ite ?_ ?_
    · refine Sf.bv (fb_X9_skipBlanks Fr.rf) ha45 rfl (fun a64 ha64 => ?_)
      refine Sf.b (fb_X1_readWord_53 Fr.rf) ha64 rfl (fun r69 a69 ha69 => ?_)
      refine Sf.let_v (fun v3_72 => ?_)
      refine Sf.ite ?_ ?_
      · exact Sf.ret ha69
      · refine Sf.b (fb_X9_readEnding Fr.rf) ha69 rfl (fun r83 a83 ha83 => ?_)
        refine Sf.let_v (fun v4_86 => ?_)
        refine Sf.ite ?_ ?_
        · exact Sf.ret ha83
        · refine Sf.g (fun _ => ?_)
          refine Sf.let_xu ha83 rfl (fun a105 ha105 => ?_)
          refine Sf.g (fun _ => ?_)
          refine Sf.let_xu ha105 rfl (fun a115 ha115 => ?_)
          refine Sf.g (fun _ => ?_)
          refine Sf.let_xu ha115 rfl (fun a126 ha126 => ?_)
          refine Sf.let_xu ha126 rfl (fun a134 ha134 => ?_)
          exact Sf.ret ha134
    · refine Sf.b (fb_X9_refuse Fr.rf) ha45 rfl (fun r59 a59 ha59 => ?_)
      refine Sf.bo ?_
      exact Sf.ret ha59
theorem fb_X1_readEntry_53 {a0 : AH} {N : Nat} {ah : AH}  (hah : Fr rgC lf_X1_readEntry_53 a0 ah) : Sf hpI rgC lf_X1_readEntry_53 a0 (F_X1_readEntry N 53 ah) := by
  unfold F_X1_readEntry
  refine Sf.b (fb_X9_peek Fr.rf) hah rfl (fun r2 a2 ha2 => ?_)
  refine Sf.b (fb_X11_isLetter Fr.rf) ha2 rfl (fun r5 a5 ha5 => ?_)
  refine Sf.ite ?_ ?_
  · exact fb_X1_readEntry_30_53 ha5
  · refine Sf.ite ?_ ?_
    · exact fb_X1_readEntry_30_53 ha5
    · refine Sf.b (fb_X9_refuse Fr.rf) ha5 rfl (fun r26 a26 ha26 => ?_)
      refine Sf.bo ?_
      exact Sf.ret ha26
abbrev lf_X1_readText_53 : List Nat := [54, 55, 56, 1203, 1204, 1205, 6301]
theorem fb_X1_readText_7_53 {a0 : AH} {N : Nat}  : ∀ (n : Nat) {ah : AH} {v2 : Int32}  (hah : Fr rgC lf_X1_readText_53 a0 ah), Sf hpI rgC lf_X1_readText_53 a0 (F_X1_readText_7 N 53 n ah v2) := by
  intro n
  induction n with
  | zero => intros; exact Sf.none
  | succ n ih =>
    intro ah v2  hah
    unfold F_X1_readText_7
    refine Sf.ite ?_ ?_
    · exact Sf.ret hah
    · refine Sf.bv (fb_X9_skipBlanks Fr.rf) hah rfl (fun a14 ha14 => ?_)
      refine Sf.b (fb_X9_atEnd Fr.rf) ha14 rfl (fun r18 a18 ha18 => ?_)
      refine Sf.ite ?_ ?_
      · refine Sf.b (fb_X1_readEntry_53 Fr.rf) ha18 rfl (fun r28 a28 ha28 => ?_)
        refine Sf.ite ?_ ?_
        · exact Sf.ret ha28
        · refine Sf.let_v (fun v2_36 => ?_)
          exact ih ha28
      · exact Sf.ret ha18
theorem fb_X1_readText_53 {a0 : AH} {N : Nat} {ah : AH}  (hah : Fr rgC lf_X1_readText_53 a0 ah) : Sf hpI rgC lf_X1_readText_53 a0 (F_X1_readText N 53 ah) := by
  unfold F_X1_readText
  refine Sf.let_xu hah rfl (fun a2 ha2 => ?_)
  refine Sf.let_v (fun v2_6 => ?_)
  exact fb_X1_readText_7_53 _ ha2
abbrev lf_X1_readWord_49 : List Nat := [1203, 1204, 1205]
theorem fb_X1_readWord_53_49 {a0 : AH} {N : Nat} {k25 : AH → Int32 → Option (Int32 × AH)} {ah : AH} {v2 : Int32} (hk25 : ∀ {z0 : AH} {z1 : Int32}, Fr rgC lf_X1_readWord_49 a0 z0 → Sf hpI rgC lf_X1_readWord_49 a0 (k25 z0 z1)) (hah : Fr rgC lf_X1_readWord_49 a0 ah) : Sf hpI rgC lf_X1_readWord_49 a0 (F_X1_readWord_53 N 49 k25 ah v2) := by
  unfold F_X1_readWord_53
  refine Sf.let_xu hah rfl (fun a60 ha60 => ?_)
  exact hk25 ha60
theorem fb_X1_readWord_66_49 {a0 : AH} {N : Nat} {ah : AH} {v2 : Int32}  (hah : Fr rgC lf_X1_readWord_49 a0 ah) : Sf hpI rgC lf_X1_readWord_49 a0 (F_X1_readWord_66 N 49 ah v2) := by
  unfold F_X1_readWord_66
  refine Sf.b (fb_X2_look_3 Fr.rf) hah rfl (fun r81 a81 ha81 => ?_)
  refine Sf.let_v (fun v3_84 => ?_)
  refine Sf.ite ?_ ?_
  · refine Sf.b (fb_X9_refuse Fr.rf) ha81 rfl (fun r93 a93 ha93 => ?_)
    exact Sf.ret ha93
  · exact Sf.ret ha81
theorem fb_X1_readWord_25_49 {a0 : AH} {N : Nat}  : ∀ (n : Nat) {ah : AH} {v2 : Int32}  (hah : Fr rgC lf_X1_readWord_49 a0 ah), Sf hpI rgC lf_X1_readWord_49 a0 (F_X1_readWord_25 N 49 n ah v2) := by
  intro n
  induction n with
  | zero => intros; exact Sf.none
  | succ n ih =>
    intro ah v2  hah
    unfold F_X1_readWord_25
    refine Sf.b (fb_X9_atEnd Fr.rf) hah rfl (fun r26 a26 ha26 => ?_)
    refine Sf.ite ?_ ?_
    · refine Sf.b (fb_X9_peek Fr.rf) ha26 rfl (fun r34 a34 ha34 => ?_)
      refine Sf.b (fb_X11_isLetter Fr.rf) ha34 rfl (fun r37 a37 ha37 => ?_)
      refine Sf.ite ?_ ?_
      · refine Sf.b (fb_X9_peek Fr.rf) ha37 rfl (fun r45 a45 ha45 => ?_)
        refine Sf.ite ?_ ?_
        · exact fb_X1_readWord_53_49 (fun h => ih h) ha45
        · exact fb_X1_readWord_66_49 ha45
      · exact fb_X1_readWord_53_49 (fun h => ih h) ha37
    · exact fb_X1_readWord_66_49 ha26
theorem fb_X1_readWord_49 {a0 : AH} {N : Nat} {ah : AH}  (hah : Fr rgC lf_X1_readWord_49 a0 ah) : Sf hpI rgC lf_X1_readWord_49 a0 (F_X1_readWord N 49 ah) := by
  unfold F_X1_readWord
  refine Sf.let_v (fun v2_4 => ?_)
  refine Sf.b (fb_X9_peek Fr.rf) hah rfl (fun r7 a7 ha7 => ?_)
  refine Sf.b (fb_X11_isLetter Fr.rf) ha7 rfl (fun r10 a10 ha10 => ?_)
  refine Sf.ite ?_ ?_
  · refine Sf.b (fb_X9_refuse Fr.rf) ha10 rfl (fun r19 a19 ha19 => ?_)
    exact Sf.ret ha19
  · exact fb_X1_readWord_25_49 _ ha10
abbrev lf_X1_readEntry_49 : List Nat := [50, 51, 52, 1203, 1204, 1205, 5901]
theorem fb_X1_readEntry_30_49 {a0 : AH} {N : Nat} {ah : AH}  (hah : Fr rgC lf_X1_readEntry_49 a0 ah) : Sf hpI rgC lf_X1_readEntry_49 a0 (F_X1_readEntry_30 N 49 ah) := by
  unfold F_X1_readEntry_30
  refine Sf.b (fb_X1_readWord_49 Fr.rf) hah rfl (fun r32 a32 ha32 => ?_)
  refine Sf.let_v (fun v2_35 => ?_)
  refine Sf.ite ?_ ?_
  · exact Sf.ret ha32
  · refine Sf.b (fb_X9_peek Fr.rf) ha32 rfl (fun r45 a45 ha45 => ?_)
    refine Sf.ite ?_ ?_
    · refine Sf.bv (fb_X9_skipBlanks Fr.rf) ha45 rfl (fun a64 ha64 => ?_)
      refine Sf.b (fb_X1_readWord_49 Fr.rf) ha64 rfl (fun r69 a69 ha69 => ?_)
      refine Sf.let_v (fun v3_72 => ?_)
      refine Sf.ite ?_ ?_
      · exact Sf.ret ha69
      · refine Sf.b (fb_X9_readEnding Fr.rf) ha69 rfl (fun r83 a83 ha83 => ?_)
        refine Sf.let_v (fun v4_86 => ?_)
        refine Sf.ite ?_ ?_
        · exact Sf.ret ha83
        · refine Sf.g (fun _ => ?_)
          refine Sf.let_xu ha83 rfl (fun a105 ha105 => ?_)
          refine Sf.g (fun _ => ?_)
          refine Sf.let_xu ha105 rfl (fun a115 ha115 => ?_)
          refine Sf.g (fun _ => ?_)
          refine Sf.let_xu ha115 rfl (fun a126 ha126 => ?_)
          refine Sf.let_xu ha126 rfl (fun a134 ha134 => ?_)
          exact Sf.ret ha134
    · refine Sf.b (fb_X9_refuse Fr.rf) ha45 rfl (fun r59 a59 ha59 => ?_)
      refine Sf.bo ?_
      exact Sf.ret ha59
theorem fb_X1_readEntry_49 {a0 : AH} {N : Nat} {ah : AH}  (hah : Fr rgC lf_X1_readEntry_49 a0 ah) : Sf hpI rgC lf_X1_readEntry_49 a0 (F_X1_readEntry N 49 ah) := by
  unfold F_X1_readEntry
  refine Sf.b (fb_X9_peek Fr.rf) hah rfl (fun r2 a2 ha2 => ?_)
  refine Sf.b (fb_X11_isLetter Fr.rf) ha2 rfl (fun r5 a5 ha5 => ?_)
  refine Sf.ite ?_ ?_
  · exact fb_X1_readEntry_30_49 ha5
  · refine Sf.ite ?_ ?_
    · exact fb_X1_readEntry_30_49 ha5
    · refine Sf.b (fb_X9_refuse Fr.rf) ha5 rfl (fun r26 a26 ha26 => ?_)
      refine Sf.bo ?_
      exact Sf.ret ha26
abbrev lf_X1_readText_49 : List Nat := [50, 51, 52, 1203, 1204, 1205, 5901]
theorem fb_X1_readText_7_49 {a0 : AH} {N : Nat}  : ∀ (n : Nat) {ah : AH} {v2 : Int32}  (hah : Fr rgC lf_X1_readText_49 a0 ah), Sf hpI rgC lf_X1_readText_49 a0 (F_X1_readText_7 N 49 n ah v2) := by
  intro n
  induction n with
  | zero => intros; exact Sf.none
  | succ n ih =>
    intro ah v2  hah
    unfold F_X1_readText_7
    refine Sf.ite ?_ ?_
    · exact Sf.ret hah
    · refine Sf.bv (fb_X9_skipBlanks Fr.rf) hah rfl (fun a14 ha14 => ?_)
      refine Sf.b (fb_X9_atEnd Fr.rf) ha14 rfl (fun r18 a18 ha18 => ?_)
      refine Sf.ite ?_ ?_
      · refine Sf.b (fb_X1_readEntry_49 Fr.rf) ha18 rfl (fun r28 a28 ha28 => ?_)
        refine Sf.ite ?_ ?_
        · exact Sf.ret ha28
        · refine Sf.let_v (fun v2_36 => ?_)
          exact ih ha28
      · exact Sf.ret ha18
theorem fb_X1_readText_49 {a0 : AH} {N : Nat} {ah : AH}  (hah : Fr rgC lf_X1_readText_49 a0 ah) : Sf hpI rgC lf_X1_readText_49 a0 (F_X1_readText N 49 ah) := by
  unfold F_X1_readText
  refine Sf.let_xu hah rfl (fun a2 ha2 => ?_)
  refine Sf.let_v (fun v2_6 => ?_)
  exact fb_X1_readText_7_49 _ ha2
theorem fb_X11_follows {a0 : AH} {N : Nat} {ah : AH} {p1 : Int32}  (hah : Fr rgC lf_X11_follows a0 ah) : Sf hpX rgC lf_X11_follows a0 (F_X11_follows N ah p1) := by
  unfold F_X11_follows
  refine Sf.bx (fb_X11_needBetween Fr.rf) hah rfl (fun a10 ha10 => ?_)
  refine Sf.bv (fb_X9_begin Fr.rf) ha10 rfl (fun a18 ha18 => ?_)
  refine Sf.b (fb_X1_readText_53 Fr.rf) ha18 rfl (fun r29 a29 ha29 => ?_)
  refine Sf.ite ?_ ?_
  · exact fb_X11_follows_59 ha29
  · refine Sf.bv (fb_X9_begin Fr.rf) ha29 rfl (fun a40 ha40 => ?_)
    refine Sf.b (fb_X1_readText_49 Fr.rf) ha40 rfl (fun r51 a51 ha51 => ?_)
    refine Sf.bv (fb_X11_changed Fr.rf) ha51 rfl (fun a56 ha56 => ?_)
    exact fb_X11_follows_59 ha56
abbrev lf_X11_set : List Nat := [1, 75, 1015, 9003, 9404]
theorem fb_X11_set {a0 : AH} {N : Nat} {ah : AH} {p1 : Int32} {p2 : Int32}  (hah : Fr rgC lf_X11_set a0 ah) : Sf hpX rgC lf_X11_set a0 (F_X11_set N ah p1 p2) := by
  unfold F_X11_set
  refine Sf.bx (fb_X11_needBetween Fr.rf) hah rfl (fun a5 ha5 => ?_)
  refine Sf.g (fun _ => ?_)
  refine Sf.bx (fb_X11_needBetween Fr.rf) ha5 rfl (fun a16 ha16 => ?_)
  refine Sf.g (fun _ => ?_)
  refine Sf.let_v (fun v3_25 => ?_)
  refine Sf.g (fun _ => ?_)
  refine Sf.let_xu ha16 rfl (fun a32 ha32 => ?_)
  refine Sf.bv (fb_X11_changed Fr.rf) ha32 rfl (fun a34 ha34 => ?_)
  exact Sf.ret ha34
abbrev lf_X11_needElement : List Nat := [1014]
theorem fb_X11_needElement_9 {a0 : AH} {N : Nat} {ah : AH}  (hah : Fr rgC lf_X11_needElement a0 ah) : Sf hpX rgC lf_X11_needElement a0 (F_X11_needElement_9 N ah) := by
  unfold F_X11_needElement_9
  refine Sf.let_xu hah rfl (fun a16 ha16 => ?_)
  exact Sf.ret ha16
theorem fb_X11_needElement {a0 : AH} {N : Nat} {ah : AH} {p1 : Int32} {p2 : Int32}  (hah : Fr rgC lf_X11_needElement a0 ah) : Sf hpX rgC lf_X11_needElement a0 (F_X11_needElement N ah p1 p2) := by
  unfold F_X11_needElement
  refine Sf.ite ?_ ?_
  · exact fb_X11_needElement_9 hah
  · refine Sf.ite ?_ ?_
    · exact Sf.ret hah
    · exact fb_X11_needElement_9 hah
abbrev lf_X11_needWord : List Nat := [1014]
theorem fb_X11_needWord {a0 : AH} {N : Nat} {ah : AH} {p1 : Int32}  (hah : Fr rgC lf_X11_needWord a0 ah) : Sf hpX rgC lf_X11_needWord a0 (F_X11_needWord N ah p1) := by
  unfold F_X11_needWord
  refine Sf.bx (fb_X11_needElement Fr.rf) hah rfl (fun a9 ha9 => ?_)
  exact Sf.ret ha9
abbrev lf_X2_weighWord : List Nat := [6, 15]
theorem fb_X2_weighWord {a0 : AH} {N : Nat} {ah : AH} {p1 : Int32} {p2 : Int32}  (hah : Fr rgC lf_X2_weighWord a0 ah) : Sf hpV rgC lf_X2_weighWord a0 (F_X2_weighWord N ah p1 p2) := by
  unfold F_X2_weighWord
  refine Sf.g (fun _ => ?_)
  refine Sf.let_xu hah rfl (fun a6 ha6 => ?_)
  refine Sf.bv (fb_X2_findLeast Fr.rf) ha6 rfl (fun a8 ha8 => ?_)
  exact Sf.ret ha8
abbrev lf_X11_weigh : List Nat := [6, 15, 75, 1014, 1015, 9003, 9404]
theorem fb_X11_weigh {a0 : AH} {N : Nat} {ah : AH} {p1 : Int32} {p2 : Int32}  (hah : Fr rgC lf_X11_weigh a0 ah) : Sf hpX rgC lf_X11_weigh a0 (F_X11_weigh N ah p1 p2) := by
  unfold F_X11_weigh
  refine Sf.bx (fb_X11_needWord Fr.rf) hah rfl (fun a2 ha2 => ?_)
  refine Sf.bx (fb_X11_needBetween Fr.rf) ha2 rfl (fun a10 ha10 => ?_)
  refine Sf.g (fun _ => ?_)
  refine Sf.let_v (fun v3_22 => ?_)
  refine Sf.bv (fb_X2_weighWord Fr.rf) ha10 rfl (fun a29 ha29 => ?_)
  refine Sf.bv (fb_X11_changed Fr.rf) ha29 rfl (fun a33 ha33 => ?_)
  exact Sf.ret ha33
abbrev lf_X11_needToken : List Nat := [1014]
theorem fb_X11_needToken {a0 : AH} {N : Nat} {ah : AH} {p1 : Int32}  (hah : Fr rgC lf_X11_needToken a0 ah) : Sf hpX rgC lf_X11_needToken a0 (F_X11_needToken N ah p1) := by
  unfold F_X11_needToken
  refine Sf.bx (fb_X11_needElement Fr.rf) hah rfl (fun a9 ha9 => ?_)
  exact Sf.ret ha9
abbrev lf_X11_learn : List Nat := [6, 15, 58, 59, 60, 61, 62, 63, 64, 65, 66, 68, 69, 70, 71, 72, 73, 75, 76, 77, 78, 79, 1014, 6704, 6705, 7702, 7706, 7707, 7710, 9003, 9404]
theorem fb_X11_learn_91 {a0 : AH} {N : Nat} {ah : AH} {v2 : Int32}  (hah : Fr rgC lf_X11_learn a0 ah) : Sf hpX rgC lf_X11_learn a0 (F_X11_learn_91 N ah v2) := by
  unfold F_X11_learn_91
  refine Sf.bv (fb_X11_changed Fr.rf) hah rfl (fun a92 ha92 => ?_)
  exact Sf.ret ha92
theorem fb_X11_learn {a0 : AH} {N : Nat} {ah : AH} {p1 : Int32}  (hah : Fr rgC lf_X11_learn a0 ah) : Sf hpX rgC lf_X11_learn a0 (F_X11_learn N ah p1) := by
  unfold F_X11_learn
  refine Sf.bx (fb_X11_needToken Fr.rf) hah rfl (fun a2 ha2 => ?_)
  refine Sf.bv (fb_X0_lookAlone Fr.rf) ha2 rfl (fun a10 ha10 => ?_)
  refine Sf.b (fb_X0_mendedWord Fr.rf) ha10 rfl (fun r18 a18 ha18 => ?_)
  refine Sf.let_v (fun v2_21 => ?_)
  refine Sf.ite ?_ ?_
  · exact Sf.ret ha18
  · refine Sf.b (fb_X0_wordOf Fr.rf) ha18 rfl (fun r35 a35 ha35 => ?_)
    refine Sf.let_v (fun v3_38 => ?_)
    refine Sf.g (fun _ => ?_)
    refine Sf.bv (fb_X2_weighWord Fr.rf) ha35 rfl (fun a59 ha59 => ?_)
    refine Sf.ite ?_ ?_
    · exact fb_X11_learn_91 ha59
    · refine Sf.g (fun _ => ?_)
      refine Sf.bv (fb_X2_weighWord Fr.rf) ha59 rfl (fun a88 ha88 => ?_)
      exact fb_X11_learn_91 ha88
abbrev lf_X11_told : List Nat := [1015]
theorem fb_X11_told {a0 : AH} {N : Nat} {ah : AH} {p1 : Int32}  (hah : Fr rgC lf_X11_told a0 ah) : Sf hpX rgC lf_X11_told a0 (F_X11_told N ah p1) := by
  unfold F_X11_told
  refine Sf.bx (fb_X11_needBetween Fr.rf) hah rfl (fun a5 ha5 => ?_)
  refine Sf.ite ?_ ?_
  · refine Sf.g (fun _ => ?_)
    exact Sf.ret ha5
  · refine Sf.ite ?_ ?_
    · refine Sf.g (fun _ => ?_)
      exact Sf.ret ha5
    · refine Sf.ite ?_ ?_
      · exact Sf.ret ha5
      · refine Sf.ite ?_ ?_
        · exact Sf.ret ha5
        · refine Sf.ite ?_ ?_
          · exact Sf.ret ha5
          · refine Sf.ite ?_ ?_
            · exact Sf.ret ha5
            · refine Sf.ite ?_ ?_
              · exact Sf.ret ha5
              · refine Sf.ite ?_ ?_
                · refine Sf.g (fun _ => ?_)
                  exact Sf.ret ha5
                · refine Sf.ite ?_ ?_
                  · refine Sf.g (fun _ => ?_)
                    exact Sf.ret ha5
                  · refine Sf.ite ?_ ?_
                    · refine Sf.g (fun _ => ?_)
                      exact Sf.ret ha5
                    · refine Sf.ite ?_ ?_
                      · refine Sf.g (fun _ => ?_)
                        exact Sf.ret ha5
                      · refine Sf.ite ?_ ?_
                        · refine Sf.g (fun _ => ?_)
                          exact Sf.ret ha5
                        · refine Sf.ite ?_ ?_
                          · refine Sf.g (fun _ => ?_)
                            exact Sf.ret ha5
                          · refine Sf.ite ?_ ?_
                            · exact Sf.ret ha5
                            · refine Sf.ite ?_ ?_
                              · exact Sf.ret ha5
                              · exact Sf.none
abbrev lf_X11_word : List Nat := [1014, 1015]
theorem fb_X11_word {a0 : AH} {N : Nat} {ah : AH} {p1 : Int32} {p2 : Int32}  (hah : Fr rgC lf_X11_word a0 ah) : Sf hpX rgC lf_X11_word a0 (F_X11_word N ah p1 p2) := by
  unfold F_X11_word
  refine Sf.bx (fb_X11_needWord Fr.rf) hah rfl (fun a2 ha2 => ?_)
  refine Sf.bx (fb_X11_needBetween Fr.rf) ha2 rfl (fun a9 ha9 => ?_)
  refine Sf.ite ?_ ?_
  · refine Sf.g (fun _ => ?_)
    refine Sf.g (fun _ => ?_)
    exact Sf.ret ha9
  · refine Sf.ite ?_ ?_
    · refine Sf.g (fun _ => ?_)
      refine Sf.g (fun _ => ?_)
      exact Sf.ret ha9
    · refine Sf.ite ?_ ?_
      · refine Sf.g (fun _ => ?_)
        exact Sf.ret ha9
      · refine Sf.ite ?_ ?_
        · refine Sf.g (fun _ => ?_)
          exact Sf.ret ha9
        · refine Sf.ite ?_ ?_
          · refine Sf.g (fun _ => ?_)
            exact Sf.ret ha9
          · exact Sf.none
abbrev lf_X11_sign : List Nat := [1014]
theorem fb_X11_sign {a0 : AH} {N : Nat} {ah : AH} {p1 : Int32} {p2 : Int32}  (hah : Fr rgC lf_X11_sign a0 ah) : Sf hpX rgC lf_X11_sign a0 (F_X11_sign N ah p1 p2) := by
  unfold F_X11_sign
  refine Sf.bx (fb_X11_needWord Fr.rf) hah rfl (fun a2 ha2 => ?_)
  refine Sf.ite ?_ ?_
  · exact Sf.ret ha2
  · refine Sf.g (fun _ => ?_)
    refine Sf.ite ?_ ?_
    · exact Sf.ret ha2
    · refine Sf.b (fb_X2_signOf Fr.rf) ha2 rfl (fun r28 a28 ha28 => ?_)
      exact Sf.ret ha28
abbrev lf_X11_find : List Nat := [1015]
theorem fb_X11_find {a0 : AH} {N : Nat} {ah : AH} {p1 : Int32}  (hah : Fr rgC lf_X11_find a0 ah) : Sf hpX rgC lf_X11_find a0 (F_X11_find N ah p1) := by
  unfold F_X11_find
  refine Sf.bx (fb_X11_needBetween Fr.rf) hah rfl (fun a10 ha10 => ?_)
  refine Sf.b (fb_X2_look_3 Fr.rf) ha10 rfl (fun r26 a26 ha26 => ?_)
  exact Sf.ret ha26
abbrev lf_X11_needNode : List Nat := [1014]
theorem fb_X11_needNode {a0 : AH} {N : Nat} {ah : AH} {p1 : Int32}  (hah : Fr rgC lf_X11_needNode a0 ah) : Sf hpX rgC lf_X11_needNode a0 (F_X11_needNode N ah p1) := by
  unfold F_X11_needNode
  refine Sf.bx (fb_X11_needElement Fr.rf) hah rfl (fun a9 ha9 => ?_)
  exact Sf.ret ha9
abbrev lf_X2_countChildren : List Nat := []
theorem fb_X2_countChildren_12 {a0 : AH} {N : Nat}  : ∀ (n : Nat) {ah : AH} {v2 : Int32} {v3 : Int32} {v4 : Int32}  (hah : Fr rgC lf_X2_countChildren a0 ah), Sf hpI rgC lf_X2_countChildren a0 (F_X2_countChildren_12 N n ah v2 v3 v4) := by
  intro n
  induction n with
  | zero => intros; exact Sf.none
  | succ n ih =>
    intro ah v2 v3 v4  hah
    unfold F_X2_countChildren_12
    refine Sf.ite ?_ ?_
    · exact Sf.ret hah
    · refine Sf.ite ?_ ?_
      · exact Sf.ret hah
      · refine Sf.let_v (fun v2_23 => ?_)
        refine Sf.g (fun _ => ?_)
        refine Sf.let_v (fun v3_32 => ?_)
        refine Sf.let_v (fun v4_33 => ?_)
        exact ih hah
theorem fb_X2_countChildren {a0 : AH} {N : Nat} {ah : AH} {p1 : Int32}  (hah : Fr rgC lf_X2_countChildren a0 ah) : Sf hpI rgC lf_X2_countChildren a0 (F_X2_countChildren N ah p1) := by
  unfold F_X2_countChildren
  refine Sf.let_v (fun v2_1 => ?_)
  refine Sf.g (fun _ => ?_)
  refine Sf.let_v (fun v3_8 => ?_)
  refine Sf.let_v (fun v4_10 => ?_)
  exact fb_X2_countChildren_12 _ hah
abbrev lf_X11_node : List Nat := [1014, 1015]
theorem fb_X11_node {a0 : AH} {N : Nat} {ah : AH} {p1 : Int32} {p2 : Int32}  (hah : Fr rgC lf_X11_node a0 ah) : Sf hpX rgC lf_X11_node a0 (F_X11_node N ah p1 p2) := by
  unfold F_X11_node
  refine Sf.bx (fb_X11_needNode Fr.rf) hah rfl (fun a2 ha2 => ?_)
  refine Sf.bx (fb_X11_needBetween Fr.rf) ha2 rfl (fun a9 ha9 => ?_)
  refine Sf.ite ?_ ?_
  · refine Sf.g (fun _ => ?_)
    exact Sf.ret ha9
  · refine Sf.ite ?_ ?_
    · refine Sf.g (fun _ => ?_)
      exact Sf.ret ha9
    · refine Sf.ite ?_ ?_
      · refine Sf.g (fun _ => ?_)
        exact Sf.ret ha9
      · refine Sf.ite ?_ ?_
        · refine Sf.g (fun _ => ?_)
          exact Sf.ret ha9
        · refine Sf.ite ?_ ?_
          · refine Sf.g (fun _ => ?_)
            exact Sf.ret ha9
          · refine Sf.ite ?_ ?_
            · refine Sf.ite ?_ ?_
              · exact Sf.ret ha9
              · refine Sf.g (fun _ => ?_)
                exact Sf.ret ha9
            · refine Sf.ite ?_ ?_
              · refine Sf.b (fb_X2_countChildren Fr.rf) ha9 rfl (fun r107 a107 ha107 => ?_)
                exact Sf.ret ha107
              · exact Sf.none
abbrev lf_X11_child : List Nat := [1014]
theorem fb_X11_child {a0 : AH} {N : Nat} {ah : AH} {p1 : Int32} {p2 : Int32}  (hah : Fr rgC lf_X11_child a0 ah) : Sf hpX rgC lf_X11_child a0 (F_X11_child N ah p1 p2) := by
  unfold F_X11_child
  refine Sf.bx (fb_X11_needNode Fr.rf) hah rfl (fun a2 ha2 => ?_)
  refine Sf.b (fb_X2_childOf Fr.rf) ha2 rfl (fun r11 a11 ha11 => ?_)
  exact Sf.ret ha11
abbrev lf_X11_needShape : List Nat := [1014]
theorem fb_X11_needShape {a0 : AH} {N : Nat} {ah : AH} {p1 : Int32}  (hah : Fr rgC lf_X11_needShape a0 ah) : Sf hpX rgC lf_X11_needShape a0 (F_X11_needShape N ah p1) := by
  unfold F_X11_needShape
  refine Sf.bx (fb_X11_needElement Fr.rf) hah rfl (fun a9 ha9 => ?_)
  exact Sf.ret ha9
abbrev lf_X11_shape : List Nat := [1014, 1015]
theorem fb_X11_shape {a0 : AH} {N : Nat} {ah : AH} {p1 : Int32} {p2 : Int32}  (hah : Fr rgC lf_X11_shape a0 ah) : Sf hpX rgC lf_X11_shape a0 (F_X11_shape N ah p1 p2) := by
  unfold F_X11_shape
  refine Sf.bx (fb_X11_needShape Fr.rf) hah rfl (fun a2 ha2 => ?_)
  refine Sf.bx (fb_X11_needBetween Fr.rf) ha2 rfl (fun a9 ha9 => ?_)
  refine Sf.ite ?_ ?_
  · refine Sf.g (fun _ => ?_)
    exact Sf.ret ha9
  · refine Sf.ite ?_ ?_
    · refine Sf.g (fun _ => ?_)
      exact Sf.ret ha9
    · refine Sf.g (fun _ => ?_)
      exact Sf.ret ha9
abbrev lf_X5_countBreaks_31 : List Nat := []
theorem fb_X5_countBreaks_35_31 {a0 : AH} {N : Nat} {k9 : AH → Int32 → Int32 → Int32 → Option (Int32 × AH)} {ah : AH} {v1 : Int32} {v2 : Int32} {v3 : Int32} (hk9 : ∀ {z0 : AH} {z1 : Int32} {z2 : Int32} {z3 : Int32}, Fr rgC lf_X5_countBreaks_31 a0 z0 → Sf hpI rgC lf_X5_countBreaks_31 a0 (k9 z0 z1 z2 z3)) (hah : Fr rgC lf_X5_countBreaks_31 a0 ah) : Sf hpI rgC lf_X5_countBreaks_31 a0 (F_X5_countBreaks_35 N 31 k9 ah v1 v2 v3) := by
  unfold F_X5_countBreaks_35
  refine Sf.let_v (fun v3_35 => ?_)
  exact hk9 hah
theorem fb_X5_countBreaks_9_31 {a0 : AH} {N : Nat}  : ∀ (n : Nat) {ah : AH} {v1 : Int32} {v2 : Int32} {v3 : Int32}  (hah : Fr rgC lf_X5_countBreaks_31 a0 ah), Sf hpI rgC lf_X5_countBreaks_31 a0 (F_X5_countBreaks_9 N 31 n ah v1 v2 v3) := by
  intro n
  induction n with
  | zero => intros; exact Sf.none
  | succ n ih =>
    intro ah v1 v2 v3  hah
    unfold F_X5_countBreaks_9
    refine Sf.g (fun _ => ?_)
    refine Sf.ite ?_ ?_
    · exact Sf.ret hah
    · refine Sf.g (fun _ => ?_)
      refine Sf.ite ?_ ?_
      · refine Sf.let_v (fun v2_32 => ?_)
        exact fb_X5_countBreaks_35_31 (fun h => ih h) hah
      · exact fb_X5_countBreaks_35_31 (fun h => ih h) hah
theorem fb_X5_countBreaks_31 {a0 : AH} {N : Nat} {ah : AH} {p1 : Int32}  (hah : Fr rgC lf_X5_countBreaks_31 a0 ah) : Sf hpI rgC lf_X5_countBreaks_31 a0 (F_X5_countBreaks N 31 ah p1) := by
  unfold F_X5_countBreaks
  refine Sf.let_v (fun v2_1 => ?_)
  refine Sf.g (fun _ => ?_)
  refine Sf.let_v (fun v3_8 => ?_)
  exact fb_X5_countBreaks_9_31 _ hah
abbrev lf_X5_readAs_31 : List Nat := []
theorem fb_X5_readAs_48_31 {a0 : AH} {N : Nat} {k10 : AH → Int32 → Int32 → Int32 → Option (Int32 × AH)} {ah : AH} {v1 : Int32} {v3 : Int32} {v4 : Int32} (hk10 : ∀ {z0 : AH} {z1 : Int32} {z2 : Int32} {z3 : Int32}, Fr rgC lf_X5_readAs_31 a0 z0 → Sf hpI rgC lf_X5_readAs_31 a0 (k10 z0 z1 z2 z3)) (hah : Fr rgC lf_X5_readAs_31 a0 ah) : Sf hpI rgC lf_X5_readAs_31 a0 (F_X5_readAs_48 N 31 k10 ah v1 v3 v4) := by
  unfold F_X5_readAs_48
  refine Sf.ite ?_ ?_
  · exact Sf.ret hah
  · refine Sf.let_v (fun v4_55 => ?_)
    exact hk10 hah
theorem fb_X5_readAs_10_31 {a0 : AH} {N : Nat}  : ∀ (n : Nat) {ah : AH} {v1 : Int32} {v3 : Int32} {v4 : Int32}  (hah : Fr rgC lf_X5_readAs_31 a0 ah), Sf hpI rgC lf_X5_readAs_31 a0 (F_X5_readAs_10 N 31 n ah v1 v3 v4) := by
  intro n
  induction n with
  | zero => intros; exact Sf.none
  | succ n ih =>
    intro ah v1 v3 v4  hah
    unfold F_X5_readAs_10
    refine Sf.g (fun _ => ?_)
    refine Sf.ite ?_ ?_
    · refine Sf.g (fun _ => ?_)
      exact Sf.ret hah
    · refine Sf.g (fun _ => ?_)
      refine Sf.ite ?_ ?_
      · exact fb_X5_readAs_48_31 (fun h => ih h) hah
      · refine Sf.g (fun _ => ?_)
        refine Sf.b (fb_X2_childOf Fr.rf) hah rfl (fun r44 a44 ha44 => ?_)
        refine Sf.let_v (fun v3_47 => ?_)
        exact fb_X5_readAs_48_31 (fun h => ih h) ha44
theorem fb_X5_readAs_31 {a0 : AH} {N : Nat} {ah : AH} {p1 : Int32}  (hah : Fr rgC lf_X5_readAs_31 a0 ah) : Sf hpI rgC lf_X5_readAs_31 a0 (F_X5_readAs N 31 ah p1) := by
  unfold F_X5_readAs
  refine Sf.let_v (fun v3_1 => ?_)
  refine Sf.g (fun _ => ?_)
  refine Sf.let_v (fun v4_8 => ?_)
  exact fb_X5_readAs_10_31 _ hah
abbrev lf_X11_token : List Nat := [58, 59, 60, 61, 62, 63, 64, 65, 66, 1014, 1015, 6704, 6705]
theorem fb_X11_token {a0 : AH} {N : Nat} {ah : AH} {p1 : Int32} {p2 : Int32}  (hah : Fr rgC lf_X11_token a0 ah) : Sf hpX rgC lf_X11_token a0 (F_X11_token N ah p1 p2) := by
  unfold F_X11_token
  refine Sf.bx (fb_X11_needToken Fr.rf) hah rfl (fun a2 ha2 => ?_)
  refine Sf.bx (fb_X11_needBetween Fr.rf) ha2 rfl (fun a10 ha10 => ?_)
  refine Sf.ite ?_ ?_
  · refine Sf.b (fb_X5_readAs_31 Fr.rf) ha10 rfl (fun r148 a148 ha148 => ?_)
    refine Sf.ite ?_ ?_
    · exact Sf.ret ha148
    · exact Sf.ret ha148
  · refine Sf.ite ?_ ?_
    · refine Sf.b (fb_X5_readAs_31 Fr.rf) ha10 rfl (fun r148 a148 ha148 => ?_)
      refine Sf.ite ?_ ?_
      · exact Sf.ret ha148
      · exact Sf.ret ha148
    · refine Sf.ite ?_ ?_
      · refine Sf.b (fb_X5_cellsOf_31 Fr.rf) ha10 rfl (fun r57 a57 ha57 => ?_)
        exact Sf.ret ha57
      · refine Sf.ite ?_ ?_
        · refine Sf.g (fun _ => ?_)
          exact Sf.ret ha10
        · refine Sf.ite ?_ ?_
          · refine Sf.b (fb_X5_countBreaks_31 Fr.rf) ha10 rfl (fun r76 a76 ha76 => ?_)
            exact Sf.ret ha76
          · refine Sf.ite ?_ ?_
            · refine Sf.g (fun _ => ?_)
              refine Sf.b (fb_X5_cellsOf_31 Fr.rf) ha10 rfl (fun r98 a98 ha98 => ?_)
              refine Sf.bv (fb_X4_ofCells Fr.rf) ha98 rfl (fun a101 ha101 => ?_)
              exact Sf.ret ha101
            · refine Sf.ite ?_ ?_
              · refine Sf.b (fb_X0_outsidePrice Fr.rf) ha10 rfl (fun r117 a117 ha117 => ?_)
                exact Sf.ret ha117
              · refine Sf.ite ?_ ?_
                · refine Sf.g (fun _ => ?_)
                  refine Sf.ite ?_ ?_
                  · exact Sf.ret ha10
                  · exact Sf.ret ha10
                · exact Sf.none
abbrev lf_X5_leastOther_31 : List Nat := []
theorem fb_X5_leastOther_42_31 {a0 : AH} {N : Nat} {k4 : AH → Int32 → Int32 → Int32 → Option (Int32 × AH)} {ah : AH} {v1 : Int32} {v3 : Int32} {s0 : Int32} (hk4 : ∀ {z0 : AH} {z1 : Int32} {z2 : Int32} {z3 : Int32}, Fr rgC lf_X5_leastOther_31 a0 z0 → Sf hpI rgC lf_X5_leastOther_31 a0 (k4 z0 z1 z2 z3)) (hah : Fr rgC lf_X5_leastOther_31 a0 ah) : Sf hpI rgC lf_X5_leastOther_31 a0 (F_X5_leastOther_42 N 31 k4 ah v1 v3 s0) := by
  unfold F_X5_leastOther_42
  refine Sf.let_v (fun v2_42 => ?_)
  refine Sf.let_v (fun v3_43 => ?_)
  exact hk4 hah
theorem fb_X5_leastOther_4_31 {a0 : AH} {N : Nat}  : ∀ (n : Nat) {ah : AH} {v1 : Int32} {v2 : Int32} {v3 : Int32}  (hah : Fr rgC lf_X5_leastOther_31 a0 ah), Sf hpI rgC lf_X5_leastOther_31 a0 (F_X5_leastOther_4 N 31 n ah v1 v2 v3) := by
  intro n
  induction n with
  | zero => intros; exact Sf.none
  | succ n ih =>
    intro ah v1 v2 v3  hah
    unfold F_X5_leastOther_4
    refine Sf.g (fun _ => ?_)
    refine Sf.ite ?_ ?_
    · exact Sf.ret hah
    · refine Sf.g (fun _ => ?_)
      refine Sf.let_v (fun v4_24 => ?_)
      refine Sf.ite ?_ ?_
      · exact fb_X5_leastOther_42_31 (fun h => ih h) hah
      · exact fb_X5_leastOther_42_31 (fun h => ih h) hah
theorem fb_X5_leastOther_31 {a0 : AH} {N : Nat} {ah : AH} {p1 : Int32}  (hah : Fr rgC lf_X5_leastOther_31 a0 ah) : Sf hpI rgC lf_X5_leastOther_31 a0 (F_X5_leastOther N 31 ah p1) := by
  unfold F_X5_leastOther
  refine Sf.let_v (fun v2_1 => ?_)
  refine Sf.let_v (fun v3_3 => ?_)
  exact fb_X5_leastOther_4_31 _ hah
abbrev lf_X11_cell : List Nat := [1014, 1015]
theorem fb_X11_cell {a0 : AH} {N : Nat} {ah : AH} {p1 : Int32} {p2 : Int32} {p3 : Int32}  (hah : Fr rgC lf_X11_cell a0 ah) : Sf hpX rgC lf_X11_cell a0 (F_X11_cell N ah p1 p2 p3) := by
  unfold F_X11_cell
  refine Sf.bx (fb_X11_needToken Fr.rf) hah rfl (fun a2 ha2 => ?_)
  refine Sf.b (fb_X5_cellsOf_31 Fr.rf) ha2 rfl (fun r12 a12 ha12 => ?_)
  refine Sf.bx (fb_X11_needElement Fr.rf) ha12 rfl (fun a15 ha15 => ?_)
  refine Sf.bx (fb_X11_needBetween Fr.rf) ha15 rfl (fun a22 ha22 => ?_)
  refine Sf.g (fun _ => ?_)
  refine Sf.let_v (fun v4_36 => ?_)
  refine Sf.ite ?_ ?_
  · refine Sf.g (fun _ => ?_)
    exact Sf.ret ha22
  · refine Sf.ite ?_ ?_
    · refine Sf.g (fun _ => ?_)
      exact Sf.ret ha22
    · refine Sf.b (fb_X5_leastOther_31 Fr.rf) ha22 rfl (fun r92 a92 ha92 => ?_)
      exact Sf.ret ha92
abbrev lf_X11_rest : List Nat := [58, 59, 60, 61, 62, 63, 64, 65, 66, 1014, 6704, 6705]
theorem fb_X11_rest {a0 : AH} {N : Nat} {ah : AH} {p1 : Int32} {p2 : Int32}  (hah : Fr rgC lf_X11_rest a0 ah) : Sf hpX rgC lf_X11_rest a0 (F_X11_rest N ah p1 p2) := by
  unfold F_X11_rest
  refine Sf.bx (fb_X11_needToken Fr.rf) hah rfl (fun a2 ha2 => ?_)
  refine Sf.b (fb_X5_cellsOf_31 Fr.rf) ha2 rfl (fun r12 a12 ha12 => ?_)
  refine Sf.bx (fb_X11_needElement Fr.rf) ha12 rfl (fun a17 ha17 => ?_)
  refine Sf.g (fun _ => ?_)
  refine Sf.b (fb_X5_cellsOf_31 Fr.rf) ha17 rfl (fun r38 a38 ha38 => ?_)
  refine Sf.bv (fb_X4_ofCells Fr.rf) ha38 rfl (fun a41 ha41 => ?_)
  refine Sf.g (fun _ => ?_)
  exact Sf.ret ha41
abbrev lf_X0_openedFor : List Nat := []
theorem fb_X0_openedFor {a0 : AH} {N : Nat} {ah : AH} {p1 : Int32} {p2 : Int32}  (hah : Fr rgC lf_X0_openedFor a0 ah) : Sf hpI rgC lf_X0_openedFor a0 (F_X0_openedFor N ah p1 p2) := by
  unfold F_X0_openedFor
  refine Sf.ite ?_ ?_
  · exact Sf.ret hah
  · refine Sf.g (fun _ => ?_)
    refine Sf.ite ?_ ?_
    · exact Sf.ret hah
    · refine Sf.g (fun _ => ?_)
      exact Sf.ret hah
abbrev lf_X11_best : List Nat := [58, 59, 60, 61, 62, 63, 64, 65, 66, 68, 69, 70, 71, 72, 73, 75, 76, 77, 78, 79, 1014, 1015, 6704, 6705, 7702, 7706, 7707, 7710]
theorem fb_X11_best {a0 : AH} {N : Nat} {ah : AH} {p1 : Int32} {p2 : Int32} {p3 : Int32}  (hah : Fr rgC lf_X11_best a0 ah) : Sf hpX rgC lf_X11_best a0 (F_X11_best N ah p1 p2 p3) := by
  unfold F_X11_best
  refine Sf.bx (fb_X11_needToken Fr.rf) hah rfl (fun a2 ha2 => ?_)
  refine Sf.bx (fb_X11_needBetween Fr.rf) ha2 rfl (fun a9 ha9 => ?_)
  refine Sf.bv (fb_X0_lookAlone Fr.rf) ha9 rfl (fun a17 ha17 => ?_)
  refine Sf.ite ?_ ?_
  · refine Sf.b (fb_X0_wordOf Fr.rf) ha17 rfl (fun r54 a54 ha54 => ?_)
    exact Sf.ret ha54
  · refine Sf.ite ?_ ?_
    · refine Sf.b (fb_X0_priceOf Fr.rf) ha17 rfl (fun r64 a64 ha64 => ?_)
      exact Sf.ret ha64
    · refine Sf.b (fb_X0_openedFor Fr.rf) ha17 rfl (fun r74 a74 ha74 => ?_)
      exact Sf.ret ha74
abbrev lf_X11_price : List Nat := [58, 59, 60, 61, 62, 63, 64, 65, 66, 68, 69, 70, 71, 72, 73, 75, 76, 77, 78, 79, 1014, 6704, 6705, 7702, 7706, 7707, 7710]
theorem fb_X11_price {a0 : AH} {N : Nat} {ah : AH} {p1 : Int32} {p2 : Int32}  (hah : Fr rgC lf_X11_price a0 ah) : Sf hpX rgC lf_X11_price a0 (F_X11_price N ah p1 p2) := by
  unfold F_X11_price
  refine Sf.bx (fb_X11_needToken Fr.rf) hah rfl (fun a2 ha2 => ?_)
  refine Sf.bx (fb_X11_needWord Fr.rf) ha2 rfl (fun a7 ha7 => ?_)
  refine Sf.bv (fb_X0_lookAlone Fr.rf) ha7 rfl (fun a15 ha15 => ?_)
  refine Sf.b (fb_X0_priceFor Fr.rf) ha15 rfl (fun r24 a24 ha24 => ?_)
  exact Sf.ret ha24
abbrev lf_X11_within : List Nat := [58, 59, 60, 61, 62, 63, 64, 65, 66, 68, 69, 70, 71, 72, 73, 75, 76, 77, 78, 79, 1014, 1015, 6704, 6705, 7702, 7706, 7707, 7710]
theorem fb_X11_within_58 {a0 : AH} {N : Nat} {k27 : AH → Int32 → Int32 → Int32 → Int32 → Option XR} {ah : AH} {v1 : Int32} {v2 : Int32} {v3 : Int32} {v4 : Int32} (hk27 : ∀ {z0 : AH} {z1 : Int32} {z2 : Int32} {z3 : Int32} {z4 : Int32}, Fr rgC lf_X11_within a0 z0 → Sf hpX rgC lf_X11_within a0 (k27 z0 z1 z2 z3 z4)) (hah : Fr rgC lf_X11_within a0 ah) : Sf hpX rgC lf_X11_within a0 (F_X11_within_58 N k27 ah v1 v2 v3 v4) := by
  unfold F_X11_within_58
  refine Sf.let_v (fun v4_58 => ?_)
  exact hk27 hah
theorem fb_X11_within_27 {a0 : AH} {N : Nat}  : ∀ (n : Nat) {ah : AH} {v1 : Int32} {v2 : Int32} {v3 : Int32} {v4 : Int32}  (hah : Fr rgC lf_X11_within a0 ah), Sf hpX rgC lf_X11_within a0 (F_X11_within_27 N n ah v1 v2 v3 v4) := by
  intro n
  induction n with
  | zero => intros; exact Sf.none
  | succ n ih =>
    intro ah v1 v2 v3 v4  hah
    unfold F_X11_within_27
    refine Sf.g (fun _ => ?_)
    refine Sf.ite ?_ ?_
    · exact Sf.ret hah
    · refine Sf.b (fb_X0_priceOf Fr.rf) hah rfl (fun r48 a48 ha48 => ?_)
      refine Sf.ite ?_ ?_
      · exact fb_X11_within_58 (fun h => ih h) ha48
      · refine Sf.let_v (fun v3_55 => ?_)
        exact fb_X11_within_58 (fun h => ih h) ha48
theorem fb_X11_within {a0 : AH} {N : Nat} {ah : AH} {p1 : Int32} {p2 : Int32}  (hah : Fr rgC lf_X11_within a0 ah) : Sf hpX rgC lf_X11_within a0 (F_X11_within N ah p1 p2) := by
  unfold F_X11_within
  refine Sf.bx (fb_X11_needToken Fr.rf) hah rfl (fun a2 ha2 => ?_)
  refine Sf.bx (fb_X11_needBetween Fr.rf) ha2 rfl (fun a11 ha11 => ?_)
  refine Sf.bv (fb_X0_lookAlone Fr.rf) ha11 rfl (fun a19 ha19 => ?_)
  refine Sf.let_v (fun v3_23 => ?_)
  refine Sf.let_v (fun v4_25 => ?_)
  exact fb_X11_within_27 _ ha19
abbrev lf_X0_nextCostsMore : List Nat := []
theorem fb_X0_nextCostsMore_61 {a0 : AH} {N : Nat} {ah : AH} {v1 : Int32} {s0 : Int32}  (hah : Fr rgC lf_X0_nextCostsMore a0 ah) : Sf hpI rgC lf_X0_nextCostsMore a0 (F_X0_nextCostsMore_61 N ah v1 s0) := by
  unfold F_X0_nextCostsMore_61
  refine Sf.let_v (fun v3_61 => ?_)
  refine Sf.b (fb_X0_priceOf Fr.rf) hah rfl (fun r66 a66 ha66 => ?_)
  exact Sf.ret ha66
theorem fb_X0_nextCostsMore {a0 : AH} {N : Nat} {ah : AH} {p1 : Int32}  (hah : Fr rgC lf_X0_nextCostsMore a0 ah) : Sf hpI rgC lf_X0_nextCostsMore a0 (F_X0_nextCostsMore N ah p1) := by
  unfold F_X0_nextCostsMore
  refine Sf.b (fb_X0_outsidePrice Fr.rf) hah rfl (fun r2 a2 ha2 => ?_)
  refine Sf.let_v (fun v2_5 => ?_)
  refine Sf.b (fb_X0_mendedWord Fr.rf) ha2 rfl (fun r8 a8 ha8 => ?_)
  refine Sf.ite ?_ ?_
  · refine Sf.g (fun _ => ?_)
    refine Sf.ite ?_ ?_
    · exact Sf.ret ha8
    · refine Sf.b (fb_X0_priceOf Fr.rf) ha8 rfl (fun r31 a31 ha31 => ?_)
      exact Sf.ret ha31
  · refine Sf.g (fun _ => ?_)
    refine Sf.ite ?_ ?_
    · refine Sf.b (fb_X0_priceOf Fr.rf) ha8 rfl (fun r55 a55 ha55 => ?_)
      exact fb_X0_nextCostsMore_61 ha55
    · exact fb_X0_nextCostsMore_61 ha8
abbrev lf_X11_mended : List Nat := [58, 59, 60, 61, 62, 63, 64, 65, 66, 68, 69, 70, 71, 72, 73, 75, 76, 77, 78, 79, 1014, 1015, 6704, 6705, 7702, 7706, 7707, 7710]
theorem fb_X11_mended {a0 : AH} {N : Nat} {ah : AH} {p1 : Int32} {p2 : Int32}  (hah : Fr rgC lf_X11_mended a0 ah) : Sf hpX rgC lf_X11_mended a0 (F_X11_mended N ah p1 p2) := by
  unfold F_X11_mended
  refine Sf.bx (fb_X11_needToken Fr.rf) hah rfl (fun a2 ha2 => ?_)
  refine Sf.bx (fb_X11_needBetween Fr.rf) ha2 rfl (fun a9 ha9 => ?_)
  refine Sf.bv (fb_X0_lookAlone Fr.rf) ha9 rfl (fun a17 ha17 => ?_)
  refine Sf.ite ?_ ?_
  · refine Sf.b (fb_X0_mendedWord Fr.rf) ha17 rfl (fun r53 a53 ha53 => ?_)
    exact Sf.ret ha53
  · refine Sf.ite ?_ ?_
    · refine Sf.b (fb_X0_mendedPrice Fr.rf) ha17 rfl (fun r62 a62 ha62 => ?_)
      exact Sf.ret ha62
    · refine Sf.b (fb_X0_nextCostsMore Fr.rf) ha17 rfl (fun r71 a71 ha71 => ?_)
      exact Sf.ret ha71
abbrev lf_X11_text : List Nat := [58, 59, 60, 61, 62, 63, 64, 65, 66, 68, 69, 70, 71, 72, 73, 75, 76, 77, 78, 79, 81, 82, 83, 1015, 6704, 6705, 7702, 7706, 7707, 7710, 9003, 9004, 9005, 9006, 9007]
theorem fb_X11_text {a0 : AH} {N : Nat} {ah : AH} {p1 : Int32}  (hah : Fr rgC lf_X11_text a0 ah) : Sf hpX rgC lf_X11_text a0 (F_X11_text N ah p1) := by
  unfold F_X11_text
  refine Sf.bx (fb_X11_needBetween Fr.rf) hah rfl (fun a4 ha4 => ?_)
  refine Sf.bv (fb_X3_make Fr.rf) ha4 rfl (fun a11 ha11 => ?_)
  refine Sf.ite ?_ ?_
  · exact Sf.ret ha11
  · refine Sf.ite ?_ ?_
    · exact Sf.ret ha11
    · refine Sf.ite ?_ ?_
      · exact Sf.ret ha11
      · refine Sf.ite ?_ ?_
        · exact Sf.ret ha11
        · refine Sf.ite ?_ ?_
          · exact Sf.ret ha11
          · exact Sf.none
abbrev lf_X11_lost : List Nat := [58, 59, 60, 61, 62, 63, 64, 65, 66, 68, 69, 70, 71, 72, 73, 75, 76, 77, 78, 79, 81, 82, 83, 1014, 1015, 6704, 6705, 7702, 7706, 7707, 7710, 9003, 9004, 9005, 9006, 9007]
theorem fb_X11_lost {a0 : AH} {N : Nat} {ah : AH} {p1 : Int32} {p2 : Int32}  (hah : Fr rgC lf_X11_lost a0 ah) : Sf hpX rgC lf_X11_lost a0 (F_X11_lost N ah p1 p2) := by
  unfold F_X11_lost
  refine Sf.bx (fb_X11_needToken Fr.rf) hah rfl (fun a2 ha2 => ?_)
  refine Sf.bx (fb_X11_needBetween Fr.rf) ha2 rfl (fun a9 ha9 => ?_)
  refine Sf.bv (fb_X3_make Fr.rf) ha9 rfl (fun a16 ha16 => ?_)
  refine Sf.ite ?_ ?_
  · refine Sf.g (fun _ => ?_)
    refine Sf.bo ?_
    exact Sf.ret ha16
  · refine Sf.ite ?_ ?_
    · exact Sf.ret ha16
    · refine Sf.g (fun _ => ?_)
      refine Sf.ite ?_ ?_
      · exact Sf.ret ha16
      · exact Sf.ret ha16
abbrev lf_X11_way : List Nat := [58, 59, 60, 61, 62, 63, 64, 65, 66, 68, 69, 70, 71, 72, 73, 75, 76, 77, 78, 79, 89, 90, 1014, 1015, 6704, 6705, 7702, 7706, 7707, 7710, 9802, 9803]
theorem fb_X11_way {a0 : AH} {N : Nat} {ah : AH} {p1 : Int32} {p2 : Int32}  (hah : Fr rgC lf_X11_way a0 ah) : Sf hpX rgC lf_X11_way a0 (F_X11_way N ah p1 p2) := by
  unfold F_X11_way
  refine Sf.bx (fb_X11_needToken Fr.rf) hah rfl (fun a2 ha2 => ?_)
  refine Sf.bx (fb_X11_needBetween Fr.rf) ha2 rfl (fun a9 ha9 => ?_)
  refine Sf.b (fb_X11_findWay Fr.rf) ha9 rfl (fun r14 a14 ha14 => ?_)
  refine Sf.ite ?_ ?_
  · exact Sf.ret ha14
  · refine Sf.ite ?_ ?_
    · exact Sf.ret ha14
    · exact Sf.ret ha14
abbrev lf_X11_edge : List Nat := [58, 59, 60, 61, 62, 63, 64, 65, 66, 68, 69, 70, 71, 72, 73, 75, 76, 77, 78, 79, 89, 90, 1014, 1015, 6704, 6705, 7702, 7706, 7707, 7710, 9802, 9803]
theorem fb_X11_edge_26 {a0 : AH} {N : Nat} {ah : AH} {v2 : Int32} {v3 : Int32} {s1 : Int32} {s2 : Int32}  (hah : Fr rgC lf_X11_edge a0 ah) : Sf hpX rgC lf_X11_edge a0 (F_X11_edge_26 N ah v2 v3 s1 s2) := by
  unfold F_X11_edge_26
  refine Sf.bx (fb_X11_needElement Fr.rf) hah rfl (fun a26 ha26 => ?_)
  refine Sf.bx (fb_X11_needBetween Fr.rf) ha26 rfl (fun a33 ha33 => ?_)
  refine Sf.g (fun _ => ?_)
  refine Sf.let_v (fun v4_45 => ?_)
  refine Sf.ite ?_ ?_
  · refine Sf.g (fun _ => ?_)
    exact Sf.ret ha33
  · refine Sf.ite ?_ ?_
    · refine Sf.g (fun _ => ?_)
      exact Sf.ret ha33
    · refine Sf.ite ?_ ?_
      · refine Sf.g (fun _ => ?_)
        exact Sf.ret ha33
      · refine Sf.ite ?_ ?_
        · refine Sf.g (fun _ => ?_)
          exact Sf.ret ha33
        · refine Sf.ite ?_ ?_
          · refine Sf.g (fun _ => ?_)
            exact Sf.ret ha33
          · refine Sf.ite ?_ ?_
            · refine Sf.g (fun _ => ?_)
              exact Sf.ret ha33
            · exact Sf.none
theorem fb_X11_edge {a0 : AH} {N : Nat} {ah : AH} {p1 : Int32} {p2 : Int32} {p3 : Int32}  (hah : Fr rgC lf_X11_edge a0 ah) : Sf hpX rgC lf_X11_edge a0 (F_X11_edge N ah p1 p2 p3) := by
  unfold F_X11_edge
  refine Sf.bx (fb_X11_needToken Fr.rf) hah rfl (fun a2 ha2 => ?_)
  refine Sf.b (fb_X11_findWay Fr.rf) ha2 rfl (fun r9 a9 ha9 => ?_)
  refine Sf.ite ?_ ?_
  · exact fb_X11_edge_26 ha9
  · exact fb_X11_edge_26 ha9
abbrev lf_X10_countShape : List Nat := []
theorem fb_X10_countShape_33 {a0 : AH} {N : Nat} {k4 : AH → Int32 → Int32 → Int32 → Option (Int32 × AH)} {ah : AH} {v1 : Int32} {v2 : Int32} {v3 : Int32} (hk4 : ∀ {z0 : AH} {z1 : Int32} {z2 : Int32} {z3 : Int32}, Fr rgC lf_X10_countShape a0 z0 → Sf hpI rgC lf_X10_countShape a0 (k4 z0 z1 z2 z3)) (hah : Fr rgC lf_X10_countShape a0 ah) : Sf hpI rgC lf_X10_countShape a0 (F_X10_countShape_33 N k4 ah v1 v2 v3) := by
  unfold F_X10_countShape_33
  refine Sf.let_v (fun v3_33 => ?_)
  exact hk4 hah
theorem fb_X10_countShape_4 {a0 : AH} {N : Nat}  : ∀ (n : Nat) {ah : AH} {v1 : Int32} {v2 : Int32} {v3 : Int32}  (hah : Fr rgC lf_X10_countShape a0 ah), Sf hpI rgC lf_X10_countShape a0 (F_X10_countShape_4 N n ah v1 v2 v3) := by
  intro n
  induction n with
  | zero => intros; exact Sf.none
  | succ n ih =>
    intro ah v1 v2 v3  hah
    unfold F_X10_countShape_4
    refine Sf.ite ?_ ?_
    · exact Sf.ret hah
    · refine Sf.g (fun _ => ?_)
      refine Sf.g (fun _ => ?_)
      refine Sf.ite ?_ ?_
      · refine Sf.let_v (fun v2_30 => ?_)
        exact fb_X10_countShape_33 (fun h => ih h) hah
      · exact fb_X10_countShape_33 (fun h => ih h) hah
theorem fb_X10_countShape {a0 : AH} {N : Nat} {ah : AH} {p1 : Int32}  (hah : Fr rgC lf_X10_countShape a0 ah) : Sf hpI rgC lf_X10_countShape a0 (F_X10_countShape N ah p1) := by
  unfold F_X10_countShape
  refine Sf.let_v (fun v2_1 => ?_)
  refine Sf.let_v (fun v3_3 => ?_)
  exact fb_X10_countShape_4 _ hah
abbrev lf_X11_used : List Nat := [58, 59, 60, 61, 62, 63, 64, 65, 66, 68, 69, 70, 71, 72, 73, 75, 76, 77, 78, 79, 89, 90, 1014, 6704, 6705, 7702, 7706, 7707, 7710, 9802, 9803]
theorem fb_X11_used_39 {a0 : AH} {N : Nat} {k9 : AH → Int32 → Int32 → Int32 → Option XR} {ah : AH} {v1 : Int32} {v2 : Int32} {v3 : Int32} (hk9 : ∀ {z0 : AH} {z1 : Int32} {z2 : Int32} {z3 : Int32}, Fr rgC lf_X11_used a0 z0 → Sf hpX rgC lf_X11_used a0 (k9 z0 z1 z2 z3)) (hah : Fr rgC lf_X11_used a0 ah) : Sf hpX rgC lf_X11_used a0 (F_X11_used_39 N k9 ah v1 v2 v3) := by
  unfold F_X11_used_39
  refine Sf.let_v (fun v3_39 => ?_)
  exact hk9 hah
theorem fb_X11_used_9 {a0 : AH} {N : Nat}  : ∀ (n : Nat) {ah : AH} {v1 : Int32} {v2 : Int32} {v3 : Int32}  (hah : Fr rgC lf_X11_used a0 ah), Sf hpX rgC lf_X11_used a0 (F_X11_used_9 N n ah v1 v2 v3) := by
  intro n
  induction n with
  | zero => intros; exact Sf.none
  | succ n ih =>
    intro ah v1 v2 v3  hah
    unfold F_X11_used_9
    refine Sf.ite ?_ ?_
    · exact Sf.ret hah
    · refine Sf.b (fb_X11_findWay Fr.rf) hah rfl (fun r22 a22 ha22 => ?_)
      refine Sf.ite ?_ ?_
      · exact fb_X11_used_39 (fun h => ih h) ha22
      · refine Sf.b (fb_X10_countShape Fr.rf) ha22 rfl (fun r34 a34 ha34 => ?_)
        refine Sf.let_v (fun v2_38 => ?_)
        exact fb_X11_used_39 (fun h => ih h) ha34
theorem fb_X11_used {a0 : AH} {N : Nat} {ah : AH} {p1 : Int32}  (hah : Fr rgC lf_X11_used a0 ah) : Sf hpX rgC lf_X11_used a0 (F_X11_used N ah p1) := by
  unfold F_X11_used
  refine Sf.bx (fb_X11_needShape Fr.rf) hah rfl (fun a2 ha2 => ?_)
  refine Sf.let_v (fun v2_6 => ?_)
  refine Sf.let_v (fun v3_8 => ?_)
  exact fb_X11_used_9 _ ha2
abbrev lf_X1_dearOf_49 : List Nat := []
theorem fb_X1_dearOf_43_49 {a0 : AH} {N : Nat} {k8 : AH → Int32 → Int32 → Int32 → Int32 → Option (Int32 × AH)} {ah : AH} {v1 : Int32} {v2 : Int32} {v3 : Int32} {v4 : Int32} (hk8 : ∀ {z0 : AH} {z1 : Int32} {z2 : Int32} {z3 : Int32} {z4 : Int32}, Fr rgC lf_X1_dearOf_49 a0 z0 → Sf hpI rgC lf_X1_dearOf_49 a0 (k8 z0 z1 z2 z3 z4)) (hah : Fr rgC lf_X1_dearOf_49 a0 ah) : Sf hpI rgC lf_X1_dearOf_49 a0 (F_X1_dearOf_43 N 49 k8 ah v1 v2 v3 v4) := by
  unfold F_X1_dearOf_43
  refine Sf.let_v (fun v4_43 => ?_)
  exact hk8 hah
theorem fb_X1_dearOf_8_49 {a0 : AH} {N : Nat}  : ∀ (n : Nat) {ah : AH} {v1 : Int32} {v2 : Int32} {v3 : Int32} {v4 : Int32}  (hah : Fr rgC lf_X1_dearOf_49 a0 ah), Sf hpI rgC lf_X1_dearOf_49 a0 (F_X1_dearOf_8 N 49 n ah v1 v2 v3 v4) := by
  intro n
  induction n with
  | zero => intros; exact Sf.none
  | succ n ih =>
    intro ah v1 v2 v3 v4  hah
    unfold F_X1_dearOf_8
    refine Sf.ite ?_ ?_
    · exact Sf.ret hah
    · refine Sf.g (fun _ => ?_)
      refine Sf.ite ?_ ?_
      · refine Sf.g (fun _ => ?_)
        refine Sf.ite ?_ ?_
        · refine Sf.g (fun _ => ?_)
          exact Sf.ret hah
        · exact fb_X1_dearOf_43_49 (fun h => ih h) hah
      · exact fb_X1_dearOf_43_49 (fun h => ih h) hah
theorem fb_X1_dearOf_49 {a0 : AH} {N : Nat} {ah : AH} {p1 : Int32} {p2 : Int32} {p3 : Int32}  (hah : Fr rgC lf_X1_dearOf_49 a0 ah) : Sf hpI rgC lf_X1_dearOf_49 a0 (F_X1_dearOf N 49 ah p1 p2 p3) := by
  unfold F_X1_dearOf
  refine Sf.let_v (fun v4_6 => ?_)
  exact fb_X1_dearOf_8_49 _ hah
abbrev lf_X11_dear : List Nat := [1014]
theorem fb_X11_dear {a0 : AH} {N : Nat} {ah : AH} {p1 : Int32} {p2 : Int32}  (hah : Fr rgC lf_X11_dear a0 ah) : Sf hpX rgC lf_X11_dear a0 (F_X11_dear N ah p1 p2) := by
  unfold F_X11_dear
  refine Sf.bx (fb_X11_needWord Fr.rf) hah rfl (fun a2 ha2 => ?_)
  refine Sf.bx (fb_X11_needWord Fr.rf) ha2 rfl (fun a7 ha7 => ?_)
  refine Sf.b (fb_X1_dearOf_49 Fr.rf) ha7 rfl (fun r23 a23 ha23 => ?_)
  exact Sf.ret ha23
abbrev lf_X7_between : List Nat := []
theorem fb_X7_between_10 {a0 : AH} {N : Nat} {ah : AH}  (hah : Fr rgC lf_X7_between a0 ah) : Sf hpI rgC lf_X7_between a0 (F_X7_between_10 N ah) := by
  unfold F_X7_between_10
  exact Sf.ret hah
theorem fb_X7_between {a0 : AH} {N : Nat} {ah : AH} {p1 : Int32} {p2 : Int32}  (hah : Fr rgC lf_X7_between a0 ah) : Sf hpI rgC lf_X7_between a0 (F_X7_between N ah p1 p2) := by
  unfold F_X7_between
  refine Sf.ite ?_ ?_
  · exact fb_X7_between_10 hah
  · refine Sf.ite ?_ ?_
    · exact fb_X7_between_10 hah
    · refine Sf.b (fb_X1_dearOf_49 Fr.rf) hah rfl (fun r27 a27 ha27 => ?_)
      exact Sf.ret ha27
abbrev lf_X7_weighChoice : List Nat := [86, 87]
theorem fb_X7_weighChoice_172 {a0 : AH} {N : Nat} {k94 : AH → Int32 → Int32 → Int32 → Int32 → Int32 → Option AH} {ah : AH} {v1 : Int32} {v3 : Int32} {v4 : Int32} {v5 : Int32} {v6 : Int32} (hk94 : ∀ {z0 : AH} {z1 : Int32} {z2 : Int32} {z3 : Int32} {z4 : Int32} {z5 : Int32}, Fr rgC lf_X7_weighChoice a0 z0 → Sf hpV rgC lf_X7_weighChoice a0 (k94 z0 z1 z2 z3 z4 z5)) (hah : Fr rgC lf_X7_weighChoice a0 ah) : Sf hpV rgC lf_X7_weighChoice a0 (F_X7_weighChoice_172 N k94 ah v1 v3 v4 v5 v6) := by
  unfold F_X7_weighChoice_172
  refine Sf.let_v (fun v6_172 => ?_)
  exact hk94 hah
abbrev lf_X7_wordOfChoice : List Nat := []
theorem fb_X7_wordOfChoice {a0 : AH} {N : Nat} {ah : AH} {p1 : Int32} {p2 : Int32}  (hah : Fr rgC lf_X7_wordOfChoice a0 ah) : Sf hpI rgC lf_X7_wordOfChoice a0 (F_X7_wordOfChoice N ah p1 p2) := by
  unfold F_X7_wordOfChoice
  refine Sf.ite ?_ ?_
  · exact Sf.ret hah
  · refine Sf.b (fb_X0_wordInside Fr.rf) hah rfl (fun r11 a11 ha11 => ?_)
    exact Sf.ret ha11
theorem fb_X7_weighChoice_94 {a0 : AH} {N : Nat}  : ∀ (n : Nat) {ah : AH} {v1 : Int32} {v3 : Int32} {v4 : Int32} {v5 : Int32} {v6 : Int32}  (hah : Fr rgC lf_X7_weighChoice a0 ah), Sf hpV rgC lf_X7_weighChoice a0 (F_X7_weighChoice_94 N n ah v1 v3 v4 v5 v6) := by
  intro n
  induction n with
  | zero => intros; exact Sf.none
  | succ n ih =>
    intro ah v1 v3 v4 v5 v6  hah
    unfold F_X7_weighChoice_94
    refine Sf.ite ?_ ?_
    · exact Sf.ret hah
    · refine Sf.g (fun _ => ?_)
      refine Sf.let_v (fun v7_113 => ?_)
      refine Sf.b (fb_X7_wordOfChoice Fr.rf) hah rfl (fun r129 a129 ha129 => ?_)
      refine Sf.b (fb_X7_between Fr.rf) ha129 rfl (fun r132 a132 ha132 => ?_)
      refine Sf.let_v (fun v8_136 => ?_)
      refine Sf.ite ?_ ?_
      · exact fb_X7_weighChoice_172 (fun h => ih h) ha132
      · refine Sf.g (fun _ => ?_)
        refine Sf.ite ?_ ?_
        · exact fb_X7_weighChoice_172 (fun h => ih h) ha132
        · refine Sf.g (fun _ => ?_)
          refine Sf.let_xu ha132 rfl (fun a163 ha163 => ?_)
          refine Sf.g (fun _ => ?_)
          refine Sf.let_xu ha163 rfl (fun a171 ha171 => ?_)
          exact fb_X7_weighChoice_172 (fun h => ih h) ha171
theorem fb_X7_weighChoice_67 {a0 : AH} {N : Nat} {ah : AH} {v1 : Int32} {v3 : Int32} {v4 : Int32} {s0 : Int32}  (hah : Fr rgC lf_X7_weighChoice a0 ah) : Sf hpV rgC lf_X7_weighChoice a0 (F_X7_weighChoice_67 N ah v1 v3 v4 s0) := by
  unfold F_X7_weighChoice_67
  refine Sf.let_v (fun v5_67 => ?_)
  refine Sf.ite ?_ ?_
  · refine Sf.let_v (fun v6_92 => ?_)
    exact fb_X7_weighChoice_94 _ hah
  · refine Sf.g (fun _ => ?_)
    refine Sf.let_xu hah rfl (fun a89 ha89 => ?_)
    exact Sf.ret ha89
theorem fb_X7_weighChoice_41 {a0 : AH} {N : Nat} {ah : AH} {v1 : Int32} {v2 : Int32} {v3 : Int32} {v4 : Int32}  (hah : Fr rgC lf_X7_weighChoice a0 ah) : Sf hpV rgC lf_X7_weighChoice a0 (F_X7_weighChoice_41 N ah v1 v2 v3 v4) := by
  unfold F_X7_weighChoice_41
  refine Sf.ite ?_ ?_
  · refine Sf.b (fb_X0_outsidePrice Fr.rf) hah rfl (fun r52 a52 ha52 => ?_)
    exact fb_X7_weighChoice_67 ha52
  · refine Sf.b (fb_X0_priceOf Fr.rf) hah rfl (fun r64 a64 ha64 => ?_)
    exact fb_X7_weighChoice_67 ha64
theorem fb_X7_weighChoice {a0 : AH} {N : Nat} {ah : AH} {p1 : Int32} {p2 : Int32}  (hah : Fr rgC lf_X7_weighChoice a0 ah) : Sf hpV rgC lf_X7_weighChoice a0 (F_X7_weighChoice N ah p1 p2) := by
  unfold F_X7_weighChoice
  refine Sf.let_v (fun v3_5 => ?_)
  refine Sf.b (fb_X7_wordOfChoice Fr.rf) hah rfl (fun r9 a9 ha9 => ?_)
  refine Sf.let_v (fun v4_12 => ?_)
  refine Sf.g (fun _ => ?_)
  refine Sf.let_xu ha9 rfl (fun a21 ha21 => ?_)
  refine Sf.g (fun _ => ?_)
  refine Sf.let_xu ha21 rfl (fun a28 ha28 => ?_)
  refine Sf.ite ?_ ?_
  · refine Sf.ite ?_ ?_
    · exact fb_X7_weighChoice_41 ha28
    · exact Sf.ret ha28
  · exact fb_X7_weighChoice_41 ha28
abbrev lf_X7_make : List Nat := [58, 59, 60, 61, 62, 63, 64, 65, 66, 68, 69, 70, 71, 72, 73, 75, 76, 77, 78, 79, 85, 86, 87, 6704, 6705, 7702, 7706, 7707, 7710, 9404, 9405, 9406, 9407]
theorem fb_X7_make_32 {a0 : AH} {N : Nat} {k18 : AH → Int32 → Option AH} (hk18 : ∀ {z0 : AH} {z1 : Int32}, Fr rgC lf_X7_make a0 z0 → Sf hpV rgC lf_X7_make a0 (k18 z0 z1)) : ∀ (n : Nat) {ah : AH} {v1 : Int32} {v2 : Int32}  (hah : Fr rgC lf_X7_make a0 ah), Sf hpV rgC lf_X7_make a0 (F_X7_make_32 N k18 n ah v1 v2) := by
  intro n
  induction n with
  | zero => intros; exact Sf.none
  | succ n ih =>
    intro ah v1 v2  hah
    unfold F_X7_make_32
    refine Sf.ite ?_ ?_
    · refine Sf.let_v (fun v1_49 => ?_)
      exact hk18 hah
    · refine Sf.bv (fb_X7_weighChoice Fr.rf) hah rfl (fun a40 ha40 => ?_)
      refine Sf.let_v (fun v2_43 => ?_)
      exact ih ha40
abbrev lf_X7_say : List Nat := [85, 9405, 9406, 9407]
theorem fb_X7_say_37 {a0 : AH} {N : Nat} {k15 : AH → Int32 → Int32 → Option AH} {ah : AH} {v1 : Int32} {v2 : Int32} (hk15 : ∀ {z0 : AH} {z1 : Int32} {z2 : Int32}, Fr rgC lf_X7_say a0 z0 → Sf hpV rgC lf_X7_say a0 (k15 z0 z1 z2)) (hah : Fr rgC lf_X7_say a0 ah) : Sf hpV rgC lf_X7_say a0 (F_X7_say_37 N k15 ah v1 v2) := by
  unfold F_X7_say_37
  refine Sf.let_v (fun v2_37 => ?_)
  exact hk15 hah
theorem fb_X7_say_121 {a0 : AH} {N : Nat} {k55 : AH → Int32 → Int32 → Option AH} {ah : AH} {v1 : Int32} {v2 : Int32} {s1 : Int32} {s2 : Int32} (hk55 : ∀ {z0 : AH} {z1 : Int32} {z2 : Int32}, Fr rgC lf_X7_say a0 z0 → Sf hpV rgC lf_X7_say a0 (k55 z0 z1 z2)) (hah : Fr rgC lf_X7_say a0 ah) : Sf hpV rgC lf_X7_say a0 (F_X7_say_121 N k55 ah v1 v2 s1 s2) := by
  unfold F_X7_say_121
  refine Sf.let_xu hah rfl (fun a122 ha122 => ?_)
  refine Sf.g (fun _ => ?_)
  refine Sf.let_v (fun v1_135 => ?_)
  refine Sf.let_v (fun v2_136 => ?_)
  exact hk55 ha122
theorem fb_X7_say_95 {a0 : AH} {N : Nat} {k55 : AH → Int32 → Int32 → Option AH} {ah : AH} {v1 : Int32} {v2 : Int32} {v3 : Int32} {s1 : Int32} {s2 : Int32} (hk55 : ∀ {z0 : AH} {z1 : Int32} {z2 : Int32}, Fr rgC lf_X7_say a0 z0 → Sf hpV rgC lf_X7_say a0 (k55 z0 z1 z2)) (hah : Fr rgC lf_X7_say a0 ah) : Sf hpV rgC lf_X7_say a0 (F_X7_say_95 N k55 ah v1 v2 v3 s1 s2) := by
  unfold F_X7_say_95
  refine Sf.let_xu hah rfl (fun a96 ha96 => ?_)
  refine Sf.b (fb_X0_mendedWord Fr.rf) ha96 rfl (fun r110 a110 ha110 => ?_)
  refine Sf.ite ?_ ?_
  · exact fb_X7_say_121 hk55 ha110
  · exact fb_X7_say_121 hk55 ha110
theorem fb_X7_say_55 {a0 : AH} {N : Nat}  : ∀ (n : Nat) {ah : AH} {v1 : Int32} {v2 : Int32}  (hah : Fr rgC lf_X7_say a0 ah), Sf hpV rgC lf_X7_say a0 (F_X7_say_55 N n ah v1 v2) := by
  intro n
  induction n with
  | zero => intros; exact Sf.none
  | succ n ih =>
    intro ah v1 v2  hah
    unfold F_X7_say_55
    refine Sf.ite ?_ ?_
    · exact Sf.ret hah
    · refine Sf.b (fb_X7_wordOfChoice Fr.rf) hah rfl (fun r69 a69 ha69 => ?_)
      refine Sf.let_v (fun v3_72 => ?_)
      refine Sf.g (fun _ => ?_)
      refine Sf.let_xu ha69 rfl (fun a79 ha79 => ?_)
      refine Sf.ite ?_ ?_
      · exact fb_X7_say_95 (fun h => ih h) ha79
      · exact fb_X7_say_95 (fun h => ih h) ha79
theorem fb_X7_say_15 {a0 : AH} {N : Nat}  : ∀ (n : Nat) {ah : AH} {v1 : Int32} {v2 : Int32}  (hah : Fr rgC lf_X7_say a0 ah), Sf hpV rgC lf_X7_say a0 (F_X7_say_15 N n ah v1 v2) := by
  intro n
  induction n with
  | zero => intros; exact Sf.none
  | succ n ih =>
    intro ah v1 v2  hah
    unfold F_X7_say_15
    refine Sf.ite ?_ ?_
    · refine Sf.g (fun _ => ?_)
      refine Sf.let_xu hah rfl (fun a50 ha50 => ?_)
      refine Sf.let_v (fun v2_54 => ?_)
      exact fb_X7_say_55 _ ha50
    · refine Sf.g (fun _ => ?_)
      refine Sf.g (fun _ => ?_)
      refine Sf.ite ?_ ?_
      · exact fb_X7_say_37 (fun h => ih h) hah
      · refine Sf.let_v (fun v1_36 => ?_)
        exact fb_X7_say_37 (fun h => ih h) hah
theorem fb_X7_say {a0 : AH} {N : Nat} {ah : AH}  (hah : Fr rgC lf_X7_say a0 ah) : Sf hpV rgC lf_X7_say a0 (F_X7_say N ah) := by
  unfold F_X7_say
  refine Sf.ite ?_ ?_
  · exact Sf.ret hah
  · refine Sf.let_v (fun v1_12 => ?_)
    refine Sf.let_v (fun v2_14 => ?_)
    exact fb_X7_say_15 _ hah
theorem fb_X7_make_18 {a0 : AH} {N : Nat}  : ∀ (n : Nat) {ah : AH} {v1 : Int32}  (hah : Fr rgC lf_X7_make a0 ah), Sf hpV rgC lf_X7_make a0 (F_X7_make_18 N n ah v1) := by
  intro n
  induction n with
  | zero => intros; exact Sf.none
  | succ n ih =>
    intro ah v1  hah
    unfold F_X7_make_18
    refine Sf.ite ?_ ?_
    · refine Sf.let_xu hah rfl (fun a57 ha57 => ?_)
      refine Sf.let_xu ha57 rfl (fun a62 ha62 => ?_)
      refine Sf.let_xu ha62 rfl (fun a67 ha67 => ?_)
      refine Sf.bv (fb_X7_say Fr.rf) ha67 rfl (fun a71 ha71 => ?_)
      refine Sf.let_xu ha71 rfl (fun a76 ha76 => ?_)
      exact Sf.ret ha76
    · refine Sf.bv (fb_X0_lookAlone Fr.rf) hah rfl (fun a27 ha27 => ?_)
      refine Sf.let_v (fun v2_31 => ?_)
      exact fb_X7_make_32 (fun h => ih h) _ ha27
theorem fb_X7_make {a0 : AH} {N : Nat} {ah : AH}  (hah : Fr rgC lf_X7_make a0 ah) : Sf hpV rgC lf_X7_make a0 (F_X7_make N ah) := by
  unfold F_X7_make
  refine Sf.ite ?_ ?_
  · refine Sf.let_v (fun v1_17 => ?_)
    exact fb_X7_make_18 _ hah
  · exact Sf.ret hah
abbrev lf_X11_sentence : List Nat := [58, 59, 60, 61, 62, 63, 64, 65, 66, 68, 69, 70, 71, 72, 73, 75, 76, 77, 78, 79, 85, 86, 87, 1015, 6704, 6705, 7702, 7706, 7707, 7710, 9404, 9405, 9406, 9407]
theorem fb_X11_sentence {a0 : AH} {N : Nat} {ah : AH} {p1 : Int32}  (hah : Fr rgC lf_X11_sentence a0 ah) : Sf hpX rgC lf_X11_sentence a0 (F_X11_sentence N ah p1) := by
  unfold F_X11_sentence
  refine Sf.bx (fb_X11_needBetween Fr.rf) hah rfl (fun a4 ha4 => ?_)
  refine Sf.bv (fb_X7_make Fr.rf) ha4 rfl (fun a11 ha11 => ?_)
  refine Sf.ite ?_ ?_
  · exact Sf.ret ha11
  · refine Sf.ite ?_ ?_
    · exact Sf.ret ha11
    · exact Sf.ret ha11
abbrev lf_X11_said : List Nat := [58, 59, 60, 61, 62, 63, 64, 65, 66, 68, 69, 70, 71, 72, 73, 75, 76, 77, 78, 79, 85, 86, 87, 1014, 6704, 6705, 7702, 7706, 7707, 7710, 9404, 9405, 9406, 9407]
theorem fb_X11_said {a0 : AH} {N : Nat} {ah : AH} {p1 : Int32}  (hah : Fr rgC lf_X11_said a0 ah) : Sf hpX rgC lf_X11_said a0 (F_X11_said N ah p1) := by
  unfold F_X11_said
  refine Sf.bx (fb_X11_needToken Fr.rf) hah rfl (fun a2 ha2 => ?_)
  refine Sf.bv (fb_X7_make Fr.rf) ha2 rfl (fun a9 ha9 => ?_)
  refine Sf.g (fun _ => ?_)
  exact Sf.ret ha9
abbrev lf_X11_apart : List Nat := [58, 59, 60, 61, 62, 63, 64, 65, 66, 68, 69, 70, 71, 72, 73, 75, 76, 77, 78, 79, 1014, 6704, 6705, 7702, 7706, 7707, 7710]
theorem fb_X11_apart {a0 : AH} {N : Nat} {ah : AH} {p1 : Int32} {p2 : Int32}  (hah : Fr rgC lf_X11_apart a0 ah) : Sf hpX rgC lf_X11_apart a0 (F_X11_apart N ah p1 p2) := by
  unfold F_X11_apart
  refine Sf.bx (fb_X11_needWord Fr.rf) hah rfl (fun a2 ha2 => ?_)
  refine Sf.bx (fb_X11_needWord Fr.rf) ha2 rfl (fun a7 ha7 => ?_)
  refine Sf.b (fb_X11_costBetween Fr.rf) ha7 rfl (fun r13 a13 ha13 => ?_)
  exact Sf.ret ha13
abbrev lf_X11_twin : List Nat := [58, 59, 60, 61, 62, 63, 64, 65, 66, 68, 69, 70, 71, 72, 73, 75, 76, 77, 78, 79, 1014, 1015, 6704, 6705, 7702, 7706, 7707, 7710]
theorem fb_X11_twin_77 {a0 : AH} {N : Nat} {k20 : AH → Int32 → Int32 → Int32 → Int32 → Int32 → Option XR} {ah : AH} {v1 : Int32} {v2 : Int32} {v3 : Int32} {v4 : Int32} {v5 : Int32} (hk20 : ∀ {z0 : AH} {z1 : Int32} {z2 : Int32} {z3 : Int32} {z4 : Int32} {z5 : Int32}, Fr rgC lf_X11_twin a0 z0 → Sf hpX rgC lf_X11_twin a0 (k20 z0 z1 z2 z3 z4 z5)) (hah : Fr rgC lf_X11_twin a0 ah) : Sf hpX rgC lf_X11_twin a0 (F_X11_twin_77 N k20 ah v1 v2 v3 v4 v5) := by
  unfold F_X11_twin_77
  refine Sf.let_v (fun v5_77 => ?_)
  exact hk20 hah
theorem fb_X11_twin_70 {a0 : AH} {N : Nat} {k20 : AH → Int32 → Int32 → Int32 → Int32 → Int32 → Option XR} {ah : AH} {v1 : Int32} {v2 : Int32} {v5 : Int32} {v6 : Int32} (hk20 : ∀ {z0 : AH} {z1 : Int32} {z2 : Int32} {z3 : Int32} {z4 : Int32} {z5 : Int32}, Fr rgC lf_X11_twin a0 z0 → Sf hpX rgC lf_X11_twin a0 (k20 z0 z1 z2 z3 z4 z5)) (hah : Fr rgC lf_X11_twin a0 ah) : Sf hpX rgC lf_X11_twin a0 (F_X11_twin_70 N k20 ah v1 v2 v5 v6) := by
  unfold F_X11_twin_70
  refine Sf.let_v (fun v3_72 => ?_)
  refine Sf.let_v (fun v4_75 => ?_)
  exact fb_X11_twin_77 hk20 hah
theorem fb_X11_twin_49 {a0 : AH} {N : Nat} {k20 : AH → Int32 → Int32 → Int32 → Int32 → Int32 → Option XR} {ah : AH} {v1 : Int32} {v2 : Int32} {v3 : Int32} {v4 : Int32} {v5 : Int32} {s0 : Int32} (hk20 : ∀ {z0 : AH} {z1 : Int32} {z2 : Int32} {z3 : Int32} {z4 : Int32} {z5 : Int32}, Fr rgC lf_X11_twin a0 z0 → Sf hpX rgC lf_X11_twin a0 (k20 z0 z1 z2 z3 z4 z5)) (hah : Fr rgC lf_X11_twin a0 ah) : Sf hpX rgC lf_X11_twin a0 (F_X11_twin_49 N k20 ah v1 v2 v3 v4 v5 s0) := by
  unfold F_X11_twin_49
  refine Sf.let_v (fun v6_49 => ?_)
  refine Sf.ite ?_ ?_
  · exact fb_X11_twin_77 hk20 hah
  · refine Sf.ite ?_ ?_
    · exact fb_X11_twin_70 hk20 hah
    · refine Sf.ite ?_ ?_
      · exact fb_X11_twin_77 hk20 hah
      · exact fb_X11_twin_70 hk20 hah
theorem fb_X11_twin_20 {a0 : AH} {N : Nat}  : ∀ (n : Nat) {ah : AH} {v1 : Int32} {v2 : Int32} {v3 : Int32} {v4 : Int32} {v5 : Int32}  (hah : Fr rgC lf_X11_twin a0 ah), Sf hpX rgC lf_X11_twin a0 (F_X11_twin_20 N n ah v1 v2 v3 v4 v5) := by
  intro n
  induction n with
  | zero => intros; exact Sf.none
  | succ n ih =>
    intro ah v1 v2 v3 v4 v5  hah
    unfold F_X11_twin_20
    refine Sf.ite ?_ ?_
    · refine Sf.ite ?_ ?_
      · exact Sf.ret hah
      · exact Sf.ret hah
    · refine Sf.ite ?_ ?_
      · exact fb_X11_twin_49 (fun h => ih h) hah
      · refine Sf.b (fb_X11_costBetween Fr.rf) hah rfl (fun r46 a46 ha46 => ?_)
        exact fb_X11_twin_49 (fun h => ih h) ha46
theorem fb_X11_twin {a0 : AH} {N : Nat} {ah : AH} {p1 : Int32} {p2 : Int32}  (hah : Fr rgC lf_X11_twin a0 ah) : Sf hpX rgC lf_X11_twin a0 (F_X11_twin N ah p1 p2) := by
  unfold F_X11_twin
  refine Sf.bx (fb_X11_needWord Fr.rf) hah rfl (fun a2 ha2 => ?_)
  refine Sf.bx (fb_X11_needBetween Fr.rf) ha2 rfl (fun a9 ha9 => ?_)
  refine Sf.let_v (fun v3_13 => ?_)
  refine Sf.let_v (fun v4_15 => ?_)
  refine Sf.let_v (fun v5_18 => ?_)
  exact fb_X11_twin_20 _ ha9
abbrev lf_X11_twins : List Nat := [58, 59, 60, 61, 62, 63, 64, 65, 66, 68, 69, 70, 71, 72, 73, 75, 76, 77, 78, 79, 1015, 6704, 6705, 7702, 7706, 7707, 7710]
theorem fb_X11_twins_73 {a0 : AH} {N : Nat} {k13 : AH → Int32 → Int32 → Int32 → Option XR} {k27 : AH → Int32 → Int32 → Int32 → Int32 → Option XR} {ah : AH} {v1 : Int32} {v2 : Int32} {v3 : Int32} {v4 : Int32} (hk13 : ∀ {z0 : AH} {z1 : Int32} {z2 : Int32} {z3 : Int32}, Fr rgC lf_X11_twins a0 z0 → Sf hpX rgC lf_X11_twins a0 (k13 z0 z1 z2 z3)) (hk27 : ∀ {z0 : AH} {z1 : Int32} {z2 : Int32} {z3 : Int32} {z4 : Int32}, Fr rgC lf_X11_twins a0 z0 → Sf hpX rgC lf_X11_twins a0 (k27 z0 z1 z2 z3 z4)) (hah : Fr rgC lf_X11_twins a0 ah) : Sf hpX rgC lf_X11_twins a0 (F_X11_twins_73 N k13 k27 ah v1 v2 v3 v4) := by
  unfold F_X11_twins_73
  refine Sf.let_v (fun v4_73 => ?_)
  exact hk27 hah
theorem fb_X11_twins_56 {a0 : AH} {N : Nat} {k13 : AH → Int32 → Int32 → Int32 → Option XR} {k27 : AH → Int32 → Int32 → Int32 → Int32 → Option XR} {ah : AH} {v1 : Int32} {v2 : Int32} {v3 : Int32} {v4 : Int32} {s0 : Int32} (hk13 : ∀ {z0 : AH} {z1 : Int32} {z2 : Int32} {z3 : Int32}, Fr rgC lf_X11_twins a0 z0 → Sf hpX rgC lf_X11_twins a0 (k13 z0 z1 z2 z3)) (hk27 : ∀ {z0 : AH} {z1 : Int32} {z2 : Int32} {z3 : Int32} {z4 : Int32}, Fr rgC lf_X11_twins a0 z0 → Sf hpX rgC lf_X11_twins a0 (k27 z0 z1 z2 z3 z4)) (hah : Fr rgC lf_X11_twins a0 ah) : Sf hpX rgC lf_X11_twins a0 (F_X11_twins_56 N k13 k27 ah v1 v2 v3 v4 s0) := by
  unfold F_X11_twins_56
  refine Sf.let_v (fun v5_56 => ?_)
  refine Sf.ite ?_ ?_
  · exact fb_X11_twins_73 hk13 hk27 hah
  · refine Sf.ite ?_ ?_
    · exact fb_X11_twins_73 hk13 hk27 hah
    · refine Sf.let_v (fun v2_70 => ?_)
      exact fb_X11_twins_73 hk13 hk27 hah
theorem fb_X11_twins_27 {a0 : AH} {N : Nat} {k13 : AH → Int32 → Int32 → Int32 → Option XR} (hk13 : ∀ {z0 : AH} {z1 : Int32} {z2 : Int32} {z3 : Int32}, Fr rgC lf_X11_twins a0 z0 → Sf hpX rgC lf_X11_twins a0 (k13 z0 z1 z2 z3)) : ∀ (n : Nat) {ah : AH} {v1 : Int32} {v2 : Int32} {v3 : Int32} {v4 : Int32}  (hah : Fr rgC lf_X11_twins a0 ah), Sf hpX rgC lf_X11_twins a0 (F_X11_twins_27 N k13 n ah v1 v2 v3 v4) := by
  intro n
  induction n with
  | zero => intros; exact Sf.none
  | succ n ih =>
    intro ah v1 v2 v3 v4  hah
    unfold F_X11_twins_27
    refine Sf.ite ?_ ?_
    · refine Sf.let_v (fun v3_79 => ?_)
      exact hk13 hah
    · refine Sf.ite ?_ ?_
      · exact fb_X11_twins_56 hk13 (fun h => ih h) hah
      · refine Sf.b (fb_X11_costBetween Fr.rf) hah rfl (fun r53 a53 ha53 => ?_)
        exact fb_X11_twins_56 hk13 (fun h => ih h) ha53
theorem fb_X11_twins_13 {a0 : AH} {N : Nat}  : ∀ (n : Nat) {ah : AH} {v1 : Int32} {v2 : Int32} {v3 : Int32}  (hah : Fr rgC lf_X11_twins a0 ah), Sf hpX rgC lf_X11_twins a0 (F_X11_twins_13 N n ah v1 v2 v3) := by
  intro n
  induction n with
  | zero => intros; exact Sf.none
  | succ n ih =>
    intro ah v1 v2 v3  hah
    unfold F_X11_twins_13
    refine Sf.ite ?_ ?_
    · exact Sf.ret hah
    · refine Sf.let_v (fun v4_25 => ?_)
      exact fb_X11_twins_27 (fun h => ih h) _ hah
theorem fb_X11_twins {a0 : AH} {N : Nat} {ah : AH} {p1 : Int32}  (hah : Fr rgC lf_X11_twins a0 ah) : Sf hpX rgC lf_X11_twins a0 (F_X11_twins N ah p1) := by
  unfold F_X11_twins
  refine Sf.bx (fb_X11_needBetween Fr.rf) hah rfl (fun a6 ha6 => ?_)
  refine Sf.let_v (fun v2_10 => ?_)
  refine Sf.let_v (fun v3_12 => ?_)
  exact fb_X11_twins_13 _ ha6
