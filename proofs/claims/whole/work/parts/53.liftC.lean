theorem l_X9_add_3 {N : Nat}  : ∀ (n : Nat) {ah : IH} {v1 : Int} {v2 : Int}, HR ah → zR v1 → zR v2 → LfV (G_X9_add_3 N n ah v1 v2) (F_X9_add_3 N n (zh ah) (zI v1) (zI v2)) := by
  intro n
  induction n with
  | zero => intros; exact Lg.none
  | succ n ih =>
    intro ah v1 v2 hah hv1 hv2
    unfold G_X9_add_3 F_X9_add_3
    refine Lg.lt rfl rfl hv2 (zRd rfl) ?_ ?_
    · exact LgV.ret hah
    · refine Lg.le rfl rfl (zRd rfl) (hah _ _) ?_ ?_
      · exact LgV.ret hah
      · refine Lg.g rfl rfl (by decide) (fun g1 => ?_)
        refine Lg.wrt hah rfl (zix rfl g1) (zand (zushr rfl rfl) rfl) yand_R (fun a32 ha32 => ?_)
        refine Lg.wrt ha32 rfl rfl (zwr (zadd rfl rfl)) wr_R (fun a40 ha40 => ?_)
        refine Lg.letv (zwr (zadd rfl rfl)) wr_R (fun v2_43 hv2_43 => ?_)
        exact (ih ha40 hv1 hv2_43)
theorem l_X9_add {N : Nat} {ah : IH} {p1 : Int} (hah : HR ah) (hp1 : zR p1) : LfV (G_X9_add N ah p1) (F_X9_add N (zh ah) (zI p1)) := by
  unfold G_X9_add F_X9_add
  refine Lg.letv rfl (zRd rfl) (fun v2_2 hv2_2 => ?_)
  exact (l_X9_add_3 _ hah hp1 hv2_2)
theorem l_X11_feed {N : Nat} {ah : IH} {p1 : Int} {p2 : Int} {p3 : Int} {p4 : Int} {p5 : Int} (hah : HR ah) (hp1 : zR p1) (hp2 : zR p2) (hp3 : zR p3) (hp4 : zR p4) (hp5 : zR p5) : LfI (G_X11_feed N ah p1 p2 p3 p4 p5) (F_X11_feed N (zh ah) (zI p1) (zI p2) (zI p3) (zI p4) (zI p5)) := by
  unfold G_X11_feed F_X11_feed
  refine Lg.le rfl rfl (hah _ _) (zRd rfl) ?_ ?_
  · refine Lg.bv (l_X9_add hah hp1) (fun a20 ha20 => ?_)
    refine Lg.bv (l_X9_add ha20 hp2) (fun a28 ha28 => ?_)
    refine Lg.bv (l_X9_add ha28 hp3) (fun a36 ha36 => ?_)
    refine Lg.bv (l_X9_add ha36 hp4) (fun a45 ha45 => ?_)
    refine Lg.bv (l_X9_add ha45 hp5) (fun a54 ha54 => ?_)
    exact LgI.ret rfl (ha54 _ _) ha54
  · exact LgI.ret rfl (zRd rfl) hah
theorem l_X11_fault {N : Nat} {ah : IH} (hah : HR ah) : LfI (G_X11_fault N ah) (F_X11_fault N (zh ah)) := by
  unfold G_X11_fault F_X11_fault
  exact LgI.ret rfl (hah _ _) hah
theorem l_X2_addNode {N : Nat} {ah : IH} {p1 : Int} {p2 : Int} (hah : HR ah) (hp1 : zR p1) (hp2 : zR p2) : LfI (G_X2_addNode N ah p1 p2) (F_X2_addNode N (zh ah) (zI p1) (zI p2)) := by
  unfold G_X2_addNode F_X2_addNode
  refine Lg.letv rfl (hah _ _) (fun v3_4 hv3_4 => ?_)
  refine Lg.lt rfl rfl hv3_4 (zRd rfl) ?_ ?_
  · refine Lg.wrt hah rfl rfl (zwr (zadd rfl rfl)) wr_R (fun a21 ha21 => ?_)
    refine Lg.g rfl rfl (by decide) (fun g1 => ?_)
    refine Lg.wrt ha21 rfl (zix rfl g1) rfl hp1 (fun a30 ha30 => ?_)
    refine Lg.g rfl rfl (by decide) (fun g2 => ?_)
    refine Lg.wrt ha30 rfl (zix rfl g2) rfl hp2 (fun a37 ha37 => ?_)
    refine Lg.g rfl rfl (by decide) (fun g3 => ?_)
    refine Lg.wrt ha37 rfl (zix rfl g3) rfl (zRd rfl) (fun a44 ha44 => ?_)
    refine Lg.g rfl rfl (by decide) (fun g4 => ?_)
    refine Lg.wrt ha44 rfl (zix rfl g4) rfl (zRd rfl) (fun a51 ha51 => ?_)
    refine Lg.g rfl rfl (by decide) (fun g5 => ?_)
    refine Lg.wrt ha51 rfl (zix rfl g5) rfl (zRd rfl) (fun a58 ha58 => ?_)
    refine Lg.g rfl rfl (by decide) (fun g6 => ?_)
    refine Lg.wrt ha58 rfl (zix rfl g6) rfl (zRd rfl) (fun a65 ha65 => ?_)
    refine Lg.g rfl rfl (by decide) (fun g7 => ?_)
    refine Lg.wrt ha65 rfl (zix rfl g7) rfl (zRd rfl) (fun a72 ha72 => ?_)
    refine Lg.lt rfl rfl hp1 (zRd rfl) ?_ ?_
    · exact LgI.ret rfl hv3_4 ha72
    · refine Lg.g rfl rfl (by decide) (fun g8 => ?_)
      refine Lg.g rfl rfl (by decide) (fun g9 => ?_)
      refine Lg.wrt ha72 rfl (zix rfl g9) (zlk rfl g8) (ha72 _ _) (fun a88 ha88 => ?_)
      refine Lg.g rfl rfl (by decide) (fun g10 => ?_)
      refine Lg.wrt ha88 rfl (zix rfl g10) rfl hv3_4 (fun a95 ha95 => ?_)
      exact LgI.ret rfl hv3_4 ha95
  · exact LgI.ret rfl (zRd rfl) hah
theorem l_X2_clear {N : Nat} {ah : IH} (hah : HR ah) : LfV (G_X2_clear N ah) (F_X2_clear N (zh ah)) := by
  unfold G_X2_clear F_X2_clear
  refine Lg.wrt hah rfl rfl rfl (zRd rfl) (fun a2 ha2 => ?_)
  refine Lg.wrt ha2 rfl rfl rfl (zRd rfl) (fun a7 ha7 => ?_)
  refine Lg.b (l_X2_addNode ha7 (zRd rfl) (zRd rfl)) (fun r13 a13 hr13 ha13 => ?_)
  exact LgV.ret ha13
theorem l_X1_clear {N : Nat} {k : Nat} {ah : IH} (hah : HR ah) : LfV (G_X1_clear N (k : Nat) ah) (F_X1_clear N k (zh ah)) := by
  unfold G_X1_clear F_X1_clear
  refine Lg.wrt hah rfl rfl rfl (zRd rfl) (fun a2 ha2 => ?_)
  exact LgV.ret ha2
theorem l_X0_forgetAll_2 {N : Nat}  : ∀ (n : Nat) {ah : IH} {v1 : Int}, HR ah → zR v1 → LfV (G_X0_forgetAll_2 N n ah v1) (F_X0_forgetAll_2 N n (zh ah) (zI v1)) := by
  intro n
  induction n with
  | zero => intros; exact Lg.none
  | succ n ih =>
    intro ah v1 hah hv1
    unfold G_X0_forgetAll_2 F_X0_forgetAll_2
    refine Lg.le rfl rfl (zRd rfl) hv1 ?_ ?_
    · exact LgV.ret hah
    · refine Lg.g rfl rfl (by decide) (fun g1 => ?_)
      refine Lg.wrt hah rfl (zix rfl g1) (znar rfl) ynar_R (fun a15 ha15 => ?_)
      refine Lg.letv (zwr (zadd rfl rfl)) wr_R (fun v1_16 hv1_16 => ?_)
      exact (ih ha15 hv1_16)
theorem l_X0_forgetAll {N : Nat} {ah : IH} (hah : HR ah) : LfV (G_X0_forgetAll N ah) (F_X0_forgetAll N (zh ah)) := by
  unfold G_X0_forgetAll F_X0_forgetAll
  refine Lg.letv rfl (zRd rfl) (fun v1_1 hv1_1 => ?_)
  exact (l_X0_forgetAll_2 _ hah hv1_1)
theorem l_X11_changed {N : Nat} {ah : IH} (hah : HR ah) : LfV (G_X11_changed N ah) (F_X11_changed N (zh ah)) := by
  unfold G_X11_changed F_X11_changed
  refine Lg.bv (l_X0_forgetAll hah) (fun a4 ha4 => ?_)
  refine Lg.wrt ha4 rfl rfl rfl (zRd rfl) (fun a12 ha12 => ?_)
  refine Lg.wrt ha12 rfl rfl rfl (zRd rfl) (fun a20 ha20 => ?_)
  exact LgV.ret ha20
theorem l_X11_forget {N : Nat} {ah : IH} (hah : HR ah) : LfI (G_X11_forget N ah) (F_X11_forget N (zh ah)) := by
  unfold G_X11_forget F_X11_forget
  refine Lg.letv rfl (hah _ _) (fun v1_7 hv1_7 => ?_)
  refine Lg.bv (l_X2_clear hah) (fun a12 ha12 => ?_)
  refine Lg.bv (l_X1_clear ha12) (fun a19 ha19 => ?_)
  refine Lg.bv (l_X11_changed ha19) (fun a23 ha23 => ?_)
  exact LgI.ret rfl hv1_7 ha23
theorem l_X0_priceOf {N : Nat} {ah : IH} {p1 : Int} {p2 : Int} (hah : HR ah) (hp1 : zR p1) (hp2 : zR p2) : LfI (G_X0_priceOf N ah p1 p2) (F_X0_priceOf N (zh ah) (zI p1) (zI p2)) := by
  unfold G_X0_priceOf F_X0_priceOf
  refine Lg.lt rfl rfl hp2 (zRd rfl) ?_ ?_
  · exact LgI.ret rfl (zRd rfl) hah
  · refine Lg.g rfl rfl (by decide) (fun g1 => ?_)
    refine Lg.le (zlk rfl g1) rfl (hah _ _) hp2 ?_ ?_
    · exact LgI.ret rfl (zRd rfl) hah
    · refine Lg.g (zadd (zmul rfl rfl) rfl) rfl (by decide) (fun g2 => ?_)
      exact LgI.ret (zlk (zadd (zmul rfl rfl) rfl) g2) (hah _ _) hah
theorem l_X5_cellsOf {N : Nat} {k : Nat} {ah : IH} {p1 : Int} (hah : HR ah) (hp1 : zR p1) : LfI (G_X5_cellsOf N (k : Nat) ah p1) (F_X5_cellsOf N k (zh ah) (zI p1)) := by
  unfold G_X5_cellsOf F_X5_cellsOf
  refine Lg.g (zadd rfl rfl) rfl (by decide) (fun g1 => ?_)
  refine Lg.g rfl rfl (by decide) (fun g2 => ?_)
  exact LgI.ret (zwr (zsub (zlk (zadd rfl rfl) g1) (zlk rfl g2))) wr_R hah
theorem l_X0_outsidePrice {N : Nat} {ah : IH} {p1 : Int} (hah : HR ah) (hp1 : zR p1) : LfI (G_X0_outsidePrice N ah p1) (F_X0_outsidePrice N (zh ah) (zI p1)) := by
  unfold G_X0_outsidePrice F_X0_outsidePrice
  refine Lg.b (l_X5_cellsOf hah hp1) (fun r17 a17 hr17 ha17 => ?_)
  exact LgI.ret (zwr (zadd rfl (zmul rfl rfl))) wr_R ha17
theorem l_X0_wordOf {N : Nat} {ah : IH} {p1 : Int} {p2 : Int} (hah : HR ah) (hp1 : zR p1) (hp2 : zR p2) : LfI (G_X0_wordOf N ah p1 p2) (F_X0_wordOf N (zh ah) (zI p1) (zI p2)) := by
  unfold G_X0_wordOf F_X0_wordOf
  refine Lg.lt rfl rfl hp2 (zRd rfl) ?_ ?_
  · exact LgI.ret rfl (zRd rfl) hah
  · refine Lg.g rfl rfl (by decide) (fun g1 => ?_)
    refine Lg.le (zlk rfl g1) rfl (hah _ _) hp2 ?_ ?_
    · exact LgI.ret rfl (zRd rfl) hah
    · refine Lg.g (zadd (zmul rfl rfl) rfl) rfl (by decide) (fun g2 => ?_)
      exact LgI.ret (zlk (zadd (zmul rfl rfl) rfl) g2) (hah _ _) hah
theorem l_X0_wordInside {N : Nat} {ah : IH} {p1 : Int} {p2 : Int} (hah : HR ah) (hp1 : zR p1) (hp2 : zR p2) : LfI (G_X0_wordInside N ah p1 p2) (F_X0_wordInside N (zh ah) (zI p1) (zI p2)) := by
  unfold G_X0_wordInside F_X0_wordInside
  refine Lg.b (l_X0_priceOf hah hp1 hp2) (fun r3 a3 hr3 ha3 => ?_)
  refine Lg.b (l_X0_outsidePrice ha3 hp1) (fun r8 a8 hr8 ha8 => ?_)
  refine Lg.lt rfl rfl hr8 hr3 ?_ ?_
  · exact LgI.ret rfl (zRd rfl) ha8
  · refine Lg.b (l_X0_wordOf ha8 hp1 hp2) (fun r17 a17 hr17 ha17 => ?_)
    exact LgI.ret rfl hr17 ha17
theorem l_X2_signOf {N : Nat} {ah : IH} {p1 : Int} {p2 : Int} (hah : HR ah) (hp1 : zR p1) (hp2 : zR p2) : LfI (G_X2_signOf N ah p1 p2) (F_X2_signOf N (zh ah) (zI p1) (zI p2)) := by
  unfold G_X2_signOf F_X2_signOf
  refine Lg.g (zadd (zmul rfl rfl) rfl) rfl (by decide) (fun g1 => ?_)
  exact LgI.ret (zlk (zadd (zmul rfl rfl) rfl) g1) (hah _ _) hah
theorem l_X3_writeByte {N : Nat} {ah : IH} {p1 : Int} (hah : HR ah) (hp1 : zR p1) : LfV (G_X3_writeByte N ah p1) (F_X3_writeByte N (zh ah) (zI p1)) := by
  unfold G_X3_writeByte F_X3_writeByte
  refine Lg.le rfl rfl (zRd rfl) (hah _ _) ?_ ?_
  · exact LgV.ret hah
  · refine Lg.g rfl rfl (by decide) (fun g1 => ?_)
    refine Lg.wrt hah rfl (zix rfl g1) rfl hp1 (fun a19 ha19 => ?_)
    refine Lg.wrt ha19 rfl rfl (zwr (zadd rfl rfl)) wr_R (fun a27 ha27 => ?_)
    exact LgV.ret ha27
theorem l_X3_writeWord_2 {N : Nat}  : ∀ (n : Nat) {ah : IH} {v1 : Int} {v2 : Int}, HR ah → zR v1 → zR v2 → LfV (G_X3_writeWord_2 N n ah v1 v2) (F_X3_writeWord_2 N n (zh ah) (zI v1) (zI v2)) := by
  intro n
  induction n with
  | zero => intros; exact Lg.none
  | succ n ih =>
    intro ah v1 v2 hah hv1 hv2
    unfold G_X3_writeWord_2 F_X3_writeWord_2
    refine Lg.g rfl rfl (by decide) (fun g1 => ?_)
    refine Lg.le (zlk rfl g1) rfl (hah _ _) hv2 ?_ ?_
    · exact LgV.ret hah
    · refine Lg.b (l_X2_signOf hah hv1 hv2) (fun r22 a22 hr22 ha22 => ?_)
      refine Lg.bv (l_X3_writeByte ha22 hr22) (fun a25 ha25 => ?_)
      refine Lg.letv (zwr (zadd rfl rfl)) wr_R (fun v2_28 hv2_28 => ?_)
      exact (ih ha25 hv1 hv2_28)
theorem l_X3_writeWord {N : Nat} {ah : IH} {p1 : Int} (hah : HR ah) (hp1 : zR p1) : LfV (G_X3_writeWord N ah p1) (F_X3_writeWord N (zh ah) (zI p1)) := by
  unfold G_X3_writeWord F_X3_writeWord
  refine Lg.letv rfl (zRd rfl) (fun v2_1 hv2_1 => ?_)
  exact (l_X3_writeWord_2 _ hah hp1 hv2_1)
theorem l_X3_writeCells_52 {N : Nat} {k10 : IH → Int → Int → Option IH} {k10F : AH → Int32 → Int32 → Option AH} {ah : IH} {v1 : Int} {v2 : Int} (hk10 : ∀ {z0 : IH} {z1 : Int} {z2 : Int}, HR z0 → zR z1 → zR z2 → LfV (k10 z0 z1 z2) (k10F (zh z0) (zI z1) (zI z2))) (hah : HR ah) (hv1 : zR v1) (hv2 : zR v2) : LfV (G_X3_writeCells_52 N k10 ah v1 v2) (F_X3_writeCells_52 N k10F (zh ah) (zI v1) (zI v2)) := by
  unfold G_X3_writeCells_52 F_X3_writeCells_52
  refine Lg.letv (zwr (zadd rfl rfl)) wr_R (fun v2_52 hv2_52 => ?_)
  exact (hk10 hah hv1 hv2_52)
theorem l_X3_writeCells_10 {N : Nat}  : ∀ (n : Nat) {ah : IH} {v1 : Int} {v2 : Int}, HR ah → zR v1 → zR v2 → LfV (G_X3_writeCells_10 N n ah v1 v2) (F_X3_writeCells_10 N n (zh ah) (zI v1) (zI v2)) := by
  intro n
  induction n with
  | zero => intros; exact Lg.none
  | succ n ih =>
    intro ah v1 v2 hah hv1 hv2
    unfold G_X3_writeCells_10 F_X3_writeCells_10
    refine Lg.g (zadd rfl rfl) rfl (by decide) (fun g1 => ?_)
    refine Lg.le (zlk (zadd rfl rfl) g1) rfl (hah _ _) hv2 ?_ ?_
    · exact LgV.ret hah
    · refine Lg.g rfl rfl (by decide) (fun g2 => ?_)
      refine Lg.eq (zlk rfl g2) rfl (hah _ _) (zRd rfl) ?_ ?_
      · exact (l_X3_writeCells_52 ih hah hv1 hv2)
      · refine Lg.g rfl rfl (by decide) (fun g3 => ?_)
        refine Lg.bv (by rw [(show (zh ah 36 (Int32.toNatClampNeg (zI v2))) = zI (ah 36 v2) from (zlk rfl g3))]; exact l_X3_writeByte hah (hah _ _)) (fun a49 ha49 => ?_)
        exact (l_X3_writeCells_52 ih ha49 hv1 hv2)
theorem l_X3_writeCells {N : Nat} {ah : IH} {p1 : Int} (hah : HR ah) (hp1 : zR p1) : LfV (G_X3_writeCells N ah p1) (F_X3_writeCells N (zh ah) (zI p1)) := by
  unfold G_X3_writeCells F_X3_writeCells
  refine Lg.g rfl rfl (by decide) (fun g1 => ?_)
  refine Lg.letv (zlk rfl g1) (hah _ _) (fun v2_9 hv2_9 => ?_)
  exact (l_X3_writeCells_10 _ hah hp1 hv2_9)
theorem l_X3_writeOne {N : Nat} {ah : IH} {p1 : Int} (hah : HR ah) (hp1 : zR p1) : LfI (G_X3_writeOne N ah p1) (F_X3_writeOne N (zh ah) (zI p1)) := by
  unfold G_X3_writeOne F_X3_writeOne
  refine Lg.g rfl rfl (by decide) (fun g1 => ?_)
  refine Lg.eq (zlk rfl g1) rfl (hah _ _) (zRd rfl) ?_ ?_
  · refine Lg.b (l_X0_wordInside hah hp1 (zRd rfl)) (fun r54 a54 hr54 ha54 => ?_)
    refine Lg.letv rfl hr54 (fun v2_57 hv2_57 => ?_)
    refine Lg.eq rfl rfl hv2_57 (zRd rfl) ?_ ?_
    · refine Lg.wrt ha54 rfl rfl (zwr (zadd rfl rfl)) wr_R (fun a70 ha70 => ?_)
      refine Lg.bv (l_X3_writeCells ha70 hp1) (fun a75 ha75 => ?_)
      exact LgI.ret rfl hp1 ha75
    · refine Lg.bv (l_X3_writeWord ha54 hv2_57) (fun a83 ha83 => ?_)
      exact LgI.ret rfl hp1 ha83
  · refine Lg.wrt hah rfl rfl (zwr (zadd rfl rfl)) wr_R (fun a16 ha16 => ?_)
    refine Lg.b (by rw [(show ((40 : Int32) + (zI p1)) = zI (wr (40 + p1)) from (zwr (zadd rfl rfl)))]; exact l_X0_wordOf ha16 wr_R (zRd rfl)) (fun r29 a29 hr29 ha29 => ?_)
    refine Lg.bv (l_X3_writeWord ha29 hr29) (fun a32 ha32 => ?_)
    refine Lg.g (zadd rfl rfl) rfl (by decide) (fun g2 => ?_)
    refine Lg.wrt ha32 rfl (zix (zadd rfl rfl) g2) (znar rfl) ynar_R (fun a43 ha43 => ?_)
    exact LgI.ret (zwr (zadd rfl rfl)) wr_R ha43
theorem l_X3_write_63 {N : Nat} {k4 : IH → Int → Int → Option IH} {k4F : AH → Int32 → Int32 → Option AH} {ah : IH} {v2 : Int} {v3 : Int} (hk4 : ∀ {z0 : IH} {z1 : Int} {z2 : Int}, HR z0 → zR z1 → zR z2 → LfV (k4 z0 z1 z2) (k4F (zh z0) (zI z1) (zI z2))) (hah : HR ah) (hv2 : zR v2) (hv3 : zR v3) : LfV (G_X3_write_63 N k4 ah v2 v3) (F_X3_write_63 N k4F (zh ah) (zI v2) (zI v3)) := by
  unfold G_X3_write_63 F_X3_write_63
  refine Lg.letv (zwr (zadd rfl rfl)) wr_R (fun v1_66 hv1_66 => ?_)
  refine Lg.letv (zwr (zadd rfl rfl)) wr_R (fun v2_67 hv2_67 => ?_)
  exact (hk4 hah hv1_66 hv2_67)
theorem l_X3_write_60 {N : Nat} {k4 : IH → Int → Int → Option IH} {k4F : AH → Int32 → Int32 → Option AH} {ah : IH} {v2 : Int} {v3 : Int} {s1 : Int} (hk4 : ∀ {z0 : IH} {z1 : Int} {z2 : Int}, HR z0 → zR z1 → zR z2 → LfV (k4 z0 z1 z2) (k4F (zh z0) (zI z1) (zI z2))) (hah : HR ah) (hv2 : zR v2) (hv3 : zR v3) (hs1 : zR s1) : LfV (G_X3_write_60 N k4 ah v2 v3 s1) (F_X3_write_60 N k4F (zh ah) (zI v2) (zI v3) (zI s1)) := by
  unfold G_X3_write_60 F_X3_write_60
  refine Lg.bv (l_X3_writeByte hah hs1) (fun a60 ha60 => ?_)
  exact (l_X3_write_63 hk4 ha60 hv2 hv3)
theorem l_X3_write_4 {N : Nat}  : ∀ (n : Nat) {ah : IH} {v1 : Int} {v2 : Int}, HR ah → zR v1 → zR v2 → LfV (G_X3_write_4 N n ah v1 v2) (F_X3_write_4 N n (zh ah) (zI v1) (zI v2)) := by
  intro n
  induction n with
  | zero => intros; exact Lg.none
  | succ n ih =>
    intro ah v1 v2 hah hv1 hv2
    unfold G_X3_write_4 F_X3_write_4
    refine Lg.le rfl rfl (zRd rfl) hv2 ?_ ?_
    · exact LgV.ret hah
    · refine Lg.le rfl rfl (hah _ _) hv1 ?_ ?_
      · exact LgV.ret hah
      · refine Lg.b (l_X3_writeOne hah hv1) (fun r23 a23 hr23 ha23 => ?_)
        refine Lg.letv rfl hr23 (fun v3_26 hv3_26 => ?_)
        refine Lg.le rfl (zwr (zadd rfl rfl)) (ha23 _ _) wr_R ?_ ?_
        · exact (l_X3_write_63 ih ha23 hv2 hv3_26)
        · refine Lg.g rfl rfl (by decide) (fun g1 => ?_)
          refine Lg.eq (zlk rfl g1) rfl (ha23 _ _) (zRd rfl) ?_ ?_
          · exact (l_X3_write_60 ih ha23 hv2 hv3_26 (zRd rfl))
          · exact (l_X3_write_60 ih ha23 hv2 hv3_26 (zRd rfl))
theorem l_X3_write {N : Nat} {ah : IH} (hah : HR ah) : LfV (G_X3_write N ah) (F_X3_write N (zh ah)) := by
  unfold G_X3_write F_X3_write
  refine Lg.letv rfl (zRd rfl) (fun v1_1 hv1_1 => ?_)
  refine Lg.letv rfl (zRd rfl) (fun v2_3 hv2_3 => ?_)
  exact (l_X3_write_4 _ hah hv1_1 hv2_3)
theorem l_X4_begin {N : Nat} {ah : IH} {p1 : Int} (hah : HR ah) (hp1 : zR p1) : LfV (G_X4_begin N ah p1) (F_X4_begin N (zh ah) (zI p1)) := by
  unfold G_X4_begin F_X4_begin
  refine Lg.wrt hah rfl rfl (zmin rfl rfl hp1 (zRd rfl)) (min_R hp1 (zRd rfl)) (fun a7 ha7 => ?_)
  refine Lg.wrt ha7 rfl rfl rfl (zRd rfl) (fun a12 ha12 => ?_)
  exact LgV.ret ha12
theorem l_X4_end_64 {N : Nat} {k45 : IH → Int → Option IH} {k45F : AH → Int32 → Option AH} (hk45 : ∀ {z0 : IH} {z1 : Int}, HR z0 → zR z1 → LfV (k45 z0 z1) (k45F (zh z0) (zI z1))) : ∀ (n : Nat) {ah : IH} {v1 : Int} {v2 : Int}, HR ah → zR v1 → zR v2 → LfV (G_X4_end_64 N k45 n ah v1 v2) (F_X4_end_64 N k45F n (zh ah) (zI v1) (zI v2)) := by
  intro n
  induction n with
  | zero => intros; exact Lg.none
  | succ n ih =>
    intro ah v1 v2 hah hv1 hv2
    unfold G_X4_end_64 F_X4_end_64
    refine Lg.g (zadd rfl rfl) rfl (by decide) (fun g1 => ?_)
    refine Lg.le (zlk (zadd rfl rfl) g1) rfl (hah _ _) hv2 ?_ ?_
    · refine Lg.letv (zwr (zadd rfl rfl)) wr_R (fun v1_115 hv1_115 => ?_)
      exact (hk45 hah hv1_115)
    · refine Lg.g rfl rfl (by decide) (fun g2 => ?_)
      refine Lg.g rfl rfl (by decide) (fun g3 => ?_)
      refine Lg.g rfl rfl (by decide) (fun g4 => ?_)
      refine Lg.g (zlk rfl g4) rfl (by decide) (fun g5 => ?_)
      refine Lg.g rfl rfl (by decide) (fun g6 => ?_)
      refine Lg.wrt hah rfl (zix rfl g6) (zmin (zlk rfl g6) (zwr (zadd (zlk rfl g4) (zlk (zlk rfl g4) g5))) (hah _ _) wr_R) (min_R (hah _ _) wr_R) (fun a108 ha108 => ?_)
      refine Lg.letv (zwr (zadd rfl rfl)) wr_R (fun v2_109 hv2_109 => ?_)
      exact (ih ha108 hv1 hv2_109)
theorem l_X4_end_45 {N : Nat}  : ∀ (n : Nat) {ah : IH} {v1 : Int}, HR ah → zR v1 → LfV (G_X4_end_45 N n ah v1) (F_X4_end_45 N n (zh ah) (zI v1)) := by
  intro n
  induction n with
  | zero => intros; exact Lg.none
  | succ n ih =>
    intro ah v1 hah hv1
    unfold G_X4_end_45 F_X4_end_45
    refine Lg.lt rfl rfl hv1 (zRd rfl) ?_ ?_
    · exact LgV.ret hah
    · refine Lg.g rfl rfl (by decide) (fun g1 => ?_)
      refine Lg.wrt hah rfl (zix rfl g1) rfl (zRd rfl) (fun a56 ha56 => ?_)
      refine Lg.g rfl rfl (by decide) (fun g2 => ?_)
      refine Lg.letv (zlk rfl g2) (ha56 _ _) (fun v2_63 hv2_63 => ?_)
      exact (l_X4_end_64 ih _ ha56 hv1 hv2_63)
theorem l_X4_end {N : Nat} {ah : IH} (hah : HR ah) : LfV (G_X4_end N ah) (F_X4_end N (zh ah)) := by
  unfold G_X4_end F_X4_end
  refine Lg.g rfl rfl (by decide) (fun g1 => ?_)
  refine Lg.wrt hah rfl (zix rfl g1) rfl (hah _ _) (fun a12 ha12 => ?_)
  refine Lg.g (zadd rfl rfl) rfl (by decide) (fun g2 => ?_)
  refine Lg.wrt ha12 rfl (zix (zadd rfl rfl) g2) rfl (ha12 _ _) (fun a27 ha27 => ?_)
  refine Lg.g rfl rfl (by decide) (fun g3 => ?_)
  refine Lg.wrt ha27 rfl (zix rfl g3) rfl (zRd rfl) (fun a37 ha37 => ?_)
  refine Lg.letv (zwr (zsub rfl rfl)) wr_R (fun v1_44 hv1_44 => ?_)
  exact (l_X4_end_45 _ ha37 hv1_44)
theorem l_X4_addEdge {N : Nat} {ah : IH} {p1 : Int} {p2 : Int} {p3 : Int} (hah : HR ah) (hp1 : zR p1) (hp2 : zR p2) (hp3 : zR p3) : LfI (G_X4_addEdge N ah p1 p2 p3) (F_X4_addEdge N (zh ah) (zI p1) (zI p2) (zI p3)) := by
  unfold G_X4_addEdge F_X4_addEdge
  refine Lg.letv rfl (hah _ _) (fun v4_4 hv4_4 => ?_)
  refine Lg.lt rfl rfl hv4_4 (zRd rfl) ?_ ?_
  · refine Lg.wrt hah rfl rfl (zwr (zadd rfl rfl)) wr_R (fun a23 ha23 => ?_)
    refine Lg.g rfl rfl (by decide) (fun g1 => ?_)
    refine Lg.wrt ha23 rfl (zix rfl g1) rfl hp1 (fun a33 ha33 => ?_)
    refine Lg.g rfl rfl (by decide) (fun g2 => ?_)
    refine Lg.wrt ha33 rfl (zix rfl g2) rfl hp2 (fun a41 ha41 => ?_)
    refine Lg.g rfl rfl (by decide) (fun g3 => ?_)
    refine Lg.wrt ha41 rfl (zix rfl g3) rfl hp3 (fun a49 ha49 => ?_)
    refine Lg.g rfl rfl (by decide) (fun g4 => ?_)
    refine Lg.wrt ha49 rfl (zix rfl g4) rfl (zRd rfl) (fun a57 ha57 => ?_)
    refine Lg.g rfl rfl (by decide) (fun g5 => ?_)
    refine Lg.wrt ha57 rfl (zix rfl g5) rfl (zRd rfl) (fun a65 ha65 => ?_)
    exact LgI.ret rfl hv4_4 ha65
  · exact LgI.ret rfl (zRd rfl) hah
theorem l_X4_addSign {N : Nat} {ah : IH} {p1 : Int} {p2 : Int} {p3 : Int} (hah : HR ah) (hp1 : zR p1) (hp2 : zR p2) (hp3 : zR p3) : LfV (G_X4_addSign N ah p1 p2 p3) (F_X4_addSign N (zh ah) (zI p1) (zI p2) (zI p3)) := by
  unfold G_X4_addSign F_X4_addSign
  refine Lg.b (by rw [(show ((zI p1) + (1 : Int32)) = zI (wr (p1 + 1)) from (zwr (zadd rfl rfl)))]; exact l_X4_addEdge hah hp1 wr_R hp3) (fun r6 a6 hr6 ha6 => ?_)
  refine Lg.letv rfl hr6 (fun v4_9 hv4_9 => ?_)
  refine Lg.eq rfl rfl hv4_9 (zRd rfl) ?_ ?_
  · exact LgV.ret ha6
  · refine Lg.g rfl rfl (by decide) (fun g1 => ?_)
    refine Lg.wrt ha6 rfl (zix rfl g1) rfl (zRd rfl) (fun a24 ha24 => ?_)
    refine Lg.g (zmul rfl rfl) rfl (by decide) (fun g2 => ?_)
    refine Lg.wrt ha24 rfl (zix (zmul rfl rfl) g2) rfl hp2 (fun a34 ha34 => ?_)
    exact LgV.ret ha34
theorem l_X4_addRead_84 {N : Nat} {ah : IH} {v1 : Int} {v2 : Int} (hah : HR ah) (hv1 : zR v1) (hv2 : zR v2) : LfV (G_X4_addRead_84 N ah v1 v2) (F_X4_addRead_84 N (zh ah) (zI v1) (zI v2)) := by
  unfold G_X4_addRead_84 F_X4_addRead_84
  refine Lg.eq rfl rfl hv2 (zRd rfl) ?_ ?_
  · refine Lg.b (by rw [(show ((zI v1) + (1 : Int32)) = zI (wr (v1 + 1)) from (zwr (zadd rfl rfl)))]; exact l_X4_addEdge hah hv1 wr_R (hah _ _)) (fun r101 a101 hr101 ha101 => ?_)
    exact LgV.ret ha101
  · exact LgV.ret hah
theorem l_X4_addRead_15 {N : Nat}  : ∀ (n : Nat) {ah : IH} {v1 : Int} {v2 : Int} {v3 : Int}, HR ah → zR v1 → zR v2 → zR v3 → LfV (G_X4_addRead_15 N n ah v1 v2 v3) (F_X4_addRead_15 N n (zh ah) (zI v1) (zI v2) (zI v3)) := by
  intro n
  induction n with
  | zero => intros; exact Lg.none
  | succ n ih =>
    intro ah v1 v2 v3 hah hv1 hv2 hv3
    unfold G_X4_addRead_15 F_X4_addRead_15
    refine Lg.le rfl rfl (zRd rfl) hv3 ?_ ?_
    · exact (l_X4_addRead_84 hah hv1 hv2)
    · refine Lg.bv (by rw [(show ((97 : Int32) + (zI v3)) = zI (wr (97 + v3)) from (zwr (zadd rfl rfl)))]; exact l_X4_addSign hah hv1 wr_R (hah _ _)) (fun a33 ha33 => ?_)
      refine Lg.letv (zwr (zadd rfl rfl)) wr_R (fun v3_36 hv3_36 => ?_)
      exact (ih ha33 hv1 hv2 hv3_36)
theorem l_X4_addRead {N : Nat} {ah : IH} {p1 : Int} (hah : HR ah) (hp1 : zR p1) : LfV (G_X4_addRead N ah p1) (F_X4_addRead N (zh ah) (zI p1)) := by
  unfold G_X4_addRead F_X4_addRead
  refine Lg.g rfl rfl (by decide) (fun g1 => ?_)
  refine Lg.letv (zlk rfl g1) (hah _ _) (fun v2_6 hv2_6 => ?_)
  refine Lg.eq rfl rfl hv2_6 (zRd rfl) ?_ ?_
  · refine Lg.letv rfl (zRd rfl) (fun v3_14 hv3_14 => ?_)
    exact (l_X4_addRead_15 _ hah hp1 hv2_6 hv3_14)
  · refine Lg.eq rfl rfl hv2_6 (zRd rfl) ?_ ?_
    · refine Lg.b (by rw [(show ((zI p1) + (1 : Int32)) = zI (wr (p1 + 1)) from (zwr (zadd rfl rfl)))]; exact l_X4_addEdge hah hp1 wr_R (zRd rfl)) (fun r57 a57 hr57 ha57 => ?_)
      refine Lg.bv (l_X4_addSign ha57 hp1 (zRd rfl) (ha57 _ _)) (fun a71 ha71 => ?_)
      exact (l_X4_addRead_84 ha71 hp1 hv2_6)
    · refine Lg.bv (l_X4_addSign hah hp1 hv2_6 (zRd rfl)) (fun a81 ha81 => ?_)
      exact (l_X4_addRead_84 ha81 hp1 hv2_6)
theorem l_X4_addOthers_2 {N : Nat}  : ∀ (n : Nat) {ah : IH} {v1 : Int} {v2 : Int} {v3 : Int}, HR ah → zR v1 → zR v2 → zR v3 → LfV (G_X4_addOthers_2 N n ah v1 v2 v3) (F_X4_addOthers_2 N n (zh ah) (zI v1) (zI v2) (zI v3)) := by
  intro n
  induction n with
  | zero => intros; exact Lg.none
  | succ n ih =>
    intro ah v1 v2 v3 hah hv1 hv2 hv3
    unfold G_X4_addOthers_2 F_X4_addOthers_2
    refine Lg.g rfl rfl (by decide) (fun g1 => ?_)
    refine Lg.le (zlk rfl g1) rfl (hah _ _) hv3 ?_ ?_
    · exact LgV.ret hah
    · refine Lg.letv (zwr (zadd (zmul rfl rfl) rfl)) wr_R (fun v4_20 hv4_20 => ?_)
      refine Lg.g rfl rfl (by decide) (fun g2 => ?_)
      refine Lg.g rfl rfl (by decide) (fun g3 => ?_)
      refine Lg.bv (by rw [(show (zh ah 38 (Int32.toNatClampNeg (zI v4_20))) = zI (ah 38 v4_20) from (zlk rfl g3)), (show (zh ah 39 (Int32.toNatClampNeg (zI v4_20))) = zI (ah 39 v4_20) from (zlk rfl g3))]; exact l_X4_addSign hah hv1 (hah _ _) (hah _ _)) (fun a44 ha44 => ?_)
      refine Lg.letv (zwr (zadd rfl rfl)) wr_R (fun v3_47 hv3_47 => ?_)
      exact (ih ha44 hv1 hv2 hv3_47)
theorem l_X4_addOthers {N : Nat} {ah : IH} {p1 : Int} {p2 : Int} (hah : HR ah) (hp1 : zR p1) (hp2 : zR p2) : LfV (G_X4_addOthers N ah p1 p2) (F_X4_addOthers N (zh ah) (zI p1) (zI p2)) := by
  unfold G_X4_addOthers F_X4_addOthers
  refine Lg.letv rfl (zRd rfl) (fun v3_1 hv3_1 => ?_)
  exact (l_X4_addOthers_2 _ hah hp1 hp2 hv3_1)
theorem l_X4_standsAt_25 {N : Nat}  : ∀ (n : Nat) {ah : IH} {v1 : Int} {v2 : Int} {v3 : Int} {v4 : Int}, HR ah → zR v1 → zR v2 → zR v3 → zR v4 → LfI (G_X4_standsAt_25 N n ah v1 v2 v3 v4) (F_X4_standsAt_25 N n (zh ah) (zI v1) (zI v2) (zI v3) (zI v4)) := by
  intro n
  induction n with
  | zero => intros; exact Lg.none
  | succ n ih =>
    intro ah v1 v2 v3 v4 hah hv1 hv2 hv3 hv4
    unfold G_X4_standsAt_25 F_X4_standsAt_25
    refine Lg.le rfl rfl hv3 hv4 ?_ ?_
    · exact LgI.ret rfl (zRd rfl) hah
    · refine Lg.g (zadd rfl rfl) rfl (by decide) (fun g1 => ?_)
      refine Lg.g (zadd (zmul rfl rfl) rfl) rfl (by decide) (fun g2 => ?_)
      refine Lg.eq (zlk (zadd rfl rfl) g1) (zlk (zadd (zmul rfl rfl) rfl) g2) (hah _ _) (hah _ _) ?_ ?_
      · refine Lg.letv (zwr (zadd rfl rfl)) wr_R (fun v4_59 hv4_59 => ?_)
        exact (ih hah hv1 hv2 hv3 hv4_59)
      · exact LgI.ret rfl (zRd rfl) hah
theorem l_X4_standsAt {N : Nat} {ah : IH} {p1 : Int} {p2 : Int} (hah : HR ah) (hp1 : zR p1) (hp2 : zR p2) : LfI (G_X4_standsAt N ah p1 p2) (F_X4_standsAt N (zh ah) (zI p1) (zI p2)) := by
  unfold G_X4_standsAt F_X4_standsAt
  refine Lg.g rfl rfl (by decide) (fun g1 => ?_)
  refine Lg.letv (zlk rfl g1) (hah _ _) (fun v3_9 hv3_9 => ?_)
  refine Lg.le (zwr (zadd rfl rfl)) rfl wr_R (hah _ _) ?_ ?_
  · refine Lg.letv rfl (zRd rfl) (fun v4_23 hv4_23 => ?_)
    exact (l_X4_standsAt_25 _ hah hp1 hp2 hv3_9 hv4_23)
  · exact LgI.ret rfl (zRd rfl) hah
theorem l_X4_addShape_57 {N : Nat}  : ∀ (n : Nat) {ah : IH} {v1 : Int} {v3 : Int} {v4 : Int}, HR ah → zR v1 → zR v3 → zR v4 → LfV (G_X4_addShape_57 N n ah v1 v3 v4) (F_X4_addShape_57 N n (zh ah) (zI v1) (zI v3) (zI v4)) := by
  intro n
  induction n with
  | zero => intros; exact Lg.none
  | succ n ih =>
    intro ah v1 v3 v4 hah hv1 hv3 hv4
    unfold G_X4_addShape_57 F_X4_addShape_57
    refine Lg.g rfl rfl (by decide) (fun g1 => ?_)
    refine Lg.le (zlk rfl g1) rfl (hah _ _) hv4 ?_ ?_
    · exact LgV.ret hah
    · refine Lg.g (zadd (zmul rfl rfl) rfl) rfl (by decide) (fun g2 => ?_)
      refine Lg.g (zadd (zmul rfl rfl) rfl) rfl (by decide) (fun g3 => ?_)
      refine Lg.wrt hah rfl (zix (zadd (zmul rfl rfl) rfl) g3) (zlk (zadd (zmul rfl rfl) rfl) g2) (hah _ _) (fun a92 ha92 => ?_)
      refine Lg.letv (zwr (zadd rfl rfl)) wr_R (fun v4_93 hv4_93 => ?_)
      exact (ih ha92 hv1 hv3 hv4_93)
theorem l_X4_addShape {N : Nat} {ah : IH} {p1 : Int} {p2 : Int} (hah : HR ah) (hp1 : zR p1) (hp2 : zR p2) : LfV (G_X4_addShape N ah p1 p2) (F_X4_addShape N (zh ah) (zI p1) (zI p2)) := by
  unfold G_X4_addShape F_X4_addShape
  refine Lg.g rfl rfl (by decide) (fun g1 => ?_)
  refine Lg.g rfl rfl (by decide) (fun g2 => ?_)
  refine Lg.b (by rw [(show ((zI p2) + (zh ah 21 (Int32.toNatClampNeg (zI p1)))) = zI (wr (p2 + (ah 21 p1))) from (zwr (zadd rfl (zlk rfl g2)))), (show (zh ah 20 (Int32.toNatClampNeg (zI p1))) = zI (ah 20 p1) from (zlk rfl g2))]; exact l_X4_addEdge hah hp2 wr_R (hah _ _)) (fun r22 a22 hr22 ha22 => ?_)
  refine Lg.letv rfl hr22 (fun v3_25 hv3_25 => ?_)
  refine Lg.eq rfl rfl hv3_25 (zRd rfl) ?_ ?_
  · exact LgV.ret ha22
  · refine Lg.g rfl rfl (by decide) (fun g3 => ?_)
    refine Lg.wrt ha22 rfl (zix rfl g3) rfl hp1 (fun a38 ha38 => ?_)
    refine Lg.g rfl rfl (by decide) (fun g4 => ?_)
    refine Lg.g rfl rfl (by decide) (fun g5 => ?_)
    refine Lg.wrt ha38 rfl (zix rfl g5) (zlk rfl g4) (ha38 _ _) (fun a53 ha53 => ?_)
    refine Lg.letv rfl (zRd rfl) (fun v4_55 hv4_55 => ?_)
    exact (l_X4_addShape_57 _ ha53 hp1 hv3_25 hv4_55)
theorem l_X4_addShapes_28 {N : Nat} {k2 : IH → Int → Int → Option IH} {k2F : AH → Int32 → Int32 → Option AH} {ah : IH} {v1 : Int} {v2 : Int} (hk2 : ∀ {z0 : IH} {z1 : Int} {z2 : Int}, HR z0 → zR z1 → zR z2 → LfV (k2 z0 z1 z2) (k2F (zh z0) (zI z1) (zI z2))) (hah : HR ah) (hv1 : zR v1) (hv2 : zR v2) : LfV (G_X4_addShapes_28 N k2 ah v1 v2) (F_X4_addShapes_28 N k2F (zh ah) (zI v1) (zI v2)) := by
  unfold G_X4_addShapes_28 F_X4_addShapes_28
  refine Lg.letv (zwr (zadd rfl rfl)) wr_R (fun v2_28 hv2_28 => ?_)
  exact (hk2 hah hv1 hv2_28)
theorem l_X4_addShapes_2 {N : Nat}  : ∀ (n : Nat) {ah : IH} {v1 : Int} {v2 : Int}, HR ah → zR v1 → zR v2 → LfV (G_X4_addShapes_2 N n ah v1 v2) (F_X4_addShapes_2 N n (zh ah) (zI v1) (zI v2)) := by
  intro n
  induction n with
  | zero => intros; exact Lg.none
  | succ n ih =>
    intro ah v1 v2 hah hv1 hv2
    unfold G_X4_addShapes_2 F_X4_addShapes_2
    refine Lg.le rfl rfl (hah _ _) hv2 ?_ ?_
    · exact LgV.ret hah
    · refine Lg.b (l_X4_standsAt hah hv2 hv1) (fun r16 a16 hr16 ha16 => ?_)
      refine Lg.eq rfl rfl hr16 (zRd rfl) ?_ ?_
      · exact (l_X4_addShapes_28 ih ha16 hv1 hv2)
      · refine Lg.bv (l_X4_addShape ha16 hv2 hv1) (fun a25 ha25 => ?_)
        exact (l_X4_addShapes_28 ih ha25 hv1 hv2)
theorem l_X4_addShapes {N : Nat} {ah : IH} {p1 : Int} (hah : HR ah) (hp1 : zR p1) : LfV (G_X4_addShapes N ah p1) (F_X4_addShapes N (zh ah) (zI p1)) := by
  unfold G_X4_addShapes F_X4_addShapes
  refine Lg.letv rfl (zRd rfl) (fun v2_1 hv2_1 => ?_)
  exact (l_X4_addShapes_2 _ hah hp1 hv2_1)
theorem l_X4_ofCells_40 {N : Nat}  : ∀ (n : Nat) {ah : IH} {v1 : Int} {v3 : Int}, HR ah → zR v1 → zR v3 → LfV (G_X4_ofCells_40 N n ah v1 v3) (F_X4_ofCells_40 N n (zh ah) (zI v1) (zI v3)) := by
  intro n
  induction n with
  | zero => intros; exact Lg.none
  | succ n ih =>
    intro ah v1 v3 hah hv1 hv3
    unfold G_X4_ofCells_40 F_X4_ofCells_40
    refine Lg.le rfl rfl (hah _ _) hv3 ?_ ?_
    · refine Lg.bv (l_X4_end hah) (fun a83 ha83 => ?_)
      exact LgV.ret ha83
    · refine Lg.g rfl rfl (by decide) (fun g1 => ?_)
      refine Lg.wrt hah rfl (zix rfl g1) rfl (hah _ _) (fun a57 ha57 => ?_)
      refine Lg.bv (l_X4_addRead ha57 hv3) (fun a60 ha60 => ?_)
      refine Lg.bv (by rw [(show ((zI v1) + (zI v3)) = zI (wr (v1 + v3)) from (zwr (zadd rfl rfl)))]; exact l_X4_addOthers ha60 hv3 wr_R) (fun a68 ha68 => ?_)
      refine Lg.bv (l_X4_addShapes ha68 hv3) (fun a73 ha73 => ?_)
      refine Lg.letv (zwr (zadd rfl rfl)) wr_R (fun v3_76 hv3_76 => ?_)
      exact (ih ha73 hv1 hv3_76)
theorem l_X4_ofCells_7 {N : Nat}  : ∀ (n : Nat) {ah : IH} {v1 : Int} {v3 : Int}, HR ah → zR v1 → zR v3 → LfV (G_X4_ofCells_7 N n ah v1 v3) (F_X4_ofCells_7 N n (zh ah) (zI v1) (zI v3)) := by
  intro n
  induction n with
  | zero => intros; exact Lg.none
  | succ n ih =>
    intro ah v1 v3 hah hv1 hv3
    unfold G_X4_ofCells_7 F_X4_ofCells_7
    refine Lg.le rfl rfl (hah _ _) hv3 ?_ ?_
    · refine Lg.letv rfl (zRd rfl) (fun v3_39 hv3_39 => ?_)
      exact (l_X4_ofCells_40 _ hah hv1 hv3_39)
    · refine Lg.g (zadd rfl rfl) rfl (by decide) (fun g1 => ?_)
      refine Lg.g rfl rfl (by decide) (fun g2 => ?_)
      refine Lg.wrt hah rfl (zix rfl g2) (zlk (zadd rfl rfl) g1) (hah _ _) (fun a31 ha31 => ?_)
      refine Lg.letv (zwr (zadd rfl rfl)) wr_R (fun v3_32 hv3_32 => ?_)
      exact (ih ha31 hv1 hv3_32)
theorem l_X4_ofCells {N : Nat} {ah : IH} {p1 : Int} {p2 : Int} (hah : HR ah) (hp1 : zR p1) (hp2 : zR p2) : LfV (G_X4_ofCells N ah p1 p2) (F_X4_ofCells N (zh ah) (zI p1) (zI p2)) := by
  unfold G_X4_ofCells F_X4_ofCells
  refine Lg.bv (l_X4_begin hah hp2) (fun a2 ha2 => ?_)
  refine Lg.letv rfl (zRd rfl) (fun v3_6 hv3_6 => ?_)
  exact (l_X4_ofCells_7 _ ha2 hp1 hv3_6)
theorem l_X6_clear_2 {N : Nat}  : ∀ (n : Nat) {ah : IH} {v1 : Int}, HR ah → zR v1 → LfV (G_X6_clear_2 N n ah v1) (F_X6_clear_2 N n (zh ah) (zI v1)) := by
  intro n
  induction n with
  | zero => intros; exact Lg.none
  | succ n ih =>
    intro ah v1 hah hv1
    unfold G_X6_clear_2 F_X6_clear_2
    refine Lg.le rfl rfl (hah _ _) hv1 ?_ ?_
    · refine Lg.wrt hah rfl rfl rfl (zRd rfl) (fun a30 ha30 => ?_)
      refine Lg.wrt ha30 rfl rfl rfl (zRd rfl) (fun a35 ha35 => ?_)
      refine Lg.wrt ha35 rfl rfl rfl (zRd rfl) (fun a40 ha40 => ?_)
      refine Lg.wrt ha40 rfl rfl rfl (zRd rfl) (fun a45 ha45 => ?_)
      exact LgV.ret ha45
    · refine Lg.g rfl rfl (by decide) (fun g1 => ?_)
      refine Lg.g (zlk rfl g1) rfl (by decide) (fun g2 => ?_)
      refine Lg.wrt hah rfl (zix (zlk rfl g1) g2) rfl (zRd rfl) (fun a21 ha21 => ?_)
      refine Lg.letv (zwr (zadd rfl rfl)) wr_R (fun v1_22 hv1_22 => ?_)
      exact (ih ha21 hv1_22)
theorem l_X6_clear {N : Nat} {ah : IH} (hah : HR ah) : LfV (G_X6_clear N ah) (F_X6_clear N (zh ah)) := by
  unfold G_X6_clear F_X6_clear
  refine Lg.letv rfl (zRd rfl) (fun v1_1 hv1_1 => ?_)
  exact (l_X6_clear_2 _ hah hv1_1)
theorem l_X6_itemOf {N : Nat} {ah : IH} {p1 : Int} {p2 : Int} (hah : HR ah) (hp1 : zR p1) (hp2 : zR p2) : LfI (G_X6_itemOf N ah p1 p2) (F_X6_itemOf N (zh ah) (zI p1) (zI p2)) := by
  unfold G_X6_itemOf F_X6_itemOf
  exact LgI.ret (zwr (zadd (zadd rfl (zmul (zsub rfl rfl) rfl)) rfl)) wr_R hah
theorem l_X6_lift_77 {N : Nat} {ah : IH} {v2 : Int} {v3 : Int} (hah : HR ah) (hv2 : zR v2) (hv3 : zR v3) : LfV (G_X6_lift_77 N ah v2 v3) (F_X6_lift_77 N (zh ah) (zI v2) (zI v3)) := by
  unfold G_X6_lift_77 F_X6_lift_77
  refine Lg.g rfl rfl (by decide) (fun g1 => ?_)
  refine Lg.wrt hah rfl (zix rfl g1) rfl hv2 (fun a83 ha83 => ?_)
  refine Lg.g (zand rfl rfl) rfl (by decide) (fun g2 => ?_)
  refine Lg.wrt ha83 rfl (zix (zand rfl rfl) g2) (zwr (zadd rfl rfl)) wr_R (fun a96 ha96 => ?_)
  exact LgV.ret ha96
theorem l_X6_lift_5 {N : Nat}  : ∀ (n : Nat) {ah : IH} {v2 : Int} {v3 : Int} {v4 : Int}, HR ah → zR v2 → zR v3 → zR v4 → LfV (G_X6_lift_5 N n ah v2 v3 v4) (F_X6_lift_5 N n (zh ah) (zI v2) (zI v3) (zI v4)) := by
  intro n
  induction n with
  | zero => intros; exact Lg.none
  | succ n ih =>
    intro ah v2 v3 v4 hah hv2 hv3 hv4
    unfold G_X6_lift_5 F_X6_lift_5
    refine Lg.le rfl rfl (zRd rfl) hv4 ?_ ?_
    · exact (l_X6_lift_77 hah hv2 hv3)
    · refine Lg.le rfl rfl hv3 (zRd rfl) ?_ ?_
      · exact (l_X6_lift_77 hah hv2 hv3)
      · refine Lg.z (by decide) ?_
        refine Lg.letv (zdiv (zwr (zsub rfl rfl)) rfl wr_R (by decide)) (tdiv_R wr_R (by decide)) (fun v5_21 hv5_21 => ?_)
        refine Lg.g rfl rfl (by decide) (fun g1 => ?_)
        refine Lg.le rfl (zlk rfl g1) hv2 (hah _ _) ?_ ?_
        · refine Lg.g rfl rfl (by decide) (fun g2 => ?_)
          refine Lg.g rfl rfl (by decide) (fun g3 => ?_)
          refine Lg.wrt hah rfl (zix rfl g3) (zlk rfl g2) (hah _ _) (fun a49 ha49 => ?_)
          refine Lg.g rfl rfl (by decide) (fun g4 => ?_)
          refine Lg.g (zand (zlk rfl g4) rfl) rfl (by decide) (fun g5 => ?_)
          refine Lg.wrt ha49 rfl (zix (zand (zlk rfl g4) rfl) g5) (zwr (zadd rfl rfl)) wr_R (fun a67 ha67 => ?_)
          refine Lg.letv rfl hv5_21 (fun v3_70 hv3_70 => ?_)
          refine Lg.letv (zwr (zadd rfl rfl)) wr_R (fun v4_71 hv4_71 => ?_)
          exact (ih ha67 hv2 hv3_70 hv4_71)
        · exact (l_X6_lift_77 hah hv2 hv3)
theorem l_X6_lift {N : Nat} {ah : IH} {p1 : Int} {p2 : Int} (hah : HR ah) (hp1 : zR p1) (hp2 : zR p2) : LfV (G_X6_lift N ah p1 p2) (F_X6_lift N (zh ah) (zI p1) (zI p2)) := by
  unfold G_X6_lift F_X6_lift
  refine Lg.letv rfl hp1 (fun v3_1 hv3_1 => ?_)
  refine Lg.letv rfl (zRd rfl) (fun v4_3 hv4_3 => ?_)
  exact (l_X6_lift_5 _ hah hp2 hv3_1 hv4_3)
theorem l_X6_put_84 {N : Nat} {ah : IH} {v3 : Int} {v4 : Int} (hah : HR ah) (hv3 : zR v3) (hv4 : zR v4) : LfV (G_X6_put_84 N ah v3 v4) (F_X6_put_84 N (zh ah) (zI v3) (zI v4)) := by
  unfold G_X6_put_84 F_X6_put_84
  refine Lg.le rfl rfl hv4 (zRd rfl) ?_ ?_
  · exact LgV.ret hah
  · refine Lg.g (zsub rfl rfl) rfl (by decide) (fun g1 => ?_)
    refine Lg.le (zlk (zsub rfl rfl) g1) rfl (hah _ _) hv3 ?_ ?_
    · exact LgV.ret hah
    · refine Lg.bv (by rw [(show ((zI v4) - (1 : Int32)) = zI (wr (v4 - 1)) from (zwr (zsub rfl rfl)))]; exact l_X6_lift hah wr_R hv3) (fun a108 ha108 => ?_)
      exact LgV.ret ha108
theorem l_X6_put {N : Nat} {ah : IH} {p1 : Int} {p2 : Int} (hah : HR ah) (hp1 : zR p1) (hp2 : zR p2) : LfV (G_X6_put N ah p1 p2) (F_X6_put N (zh ah) (zI p1) (zI p2)) := by
  unfold G_X6_put F_X6_put
  refine Lg.letv (zor (zshl rfl (zand rfl rfl)) rfl) yor_R (fun v3_6 hv3_6 => ?_)
  refine Lg.g rfl rfl (by decide) (fun g1 => ?_)
  refine Lg.letv (zlk rfl g1) (hah _ _) (fun v4_13 hv4_13 => ?_)
  refine Lg.eq rfl rfl hv4_13 (zRd rfl) ?_ ?_
  · refine Lg.le rfl rfl (zRd rfl) (hah _ _) ?_ ?_
    · exact (l_X6_put_84 hah hv3_6 hv4_13)
    · refine Lg.le rfl rfl (zRd rfl) (hah _ _) ?_ ?_
      · exact (l_X6_put_84 hah hv3_6 hv4_13)
      · refine Lg.g rfl rfl (by decide) (fun g2 => ?_)
        refine Lg.wrt hah rfl (zix rfl g2) rfl hp1 (fun a49 ha49 => ?_)
        refine Lg.wrt ha49 rfl rfl (zwr (zadd rfl rfl)) wr_R (fun a57 ha57 => ?_)
        refine Lg.wrt ha57 rfl rfl (zwr (zadd rfl rfl)) wr_R (fun a67 ha67 => ?_)
        refine Lg.bv (by rw [(show ((zh a67 67 7) - (1 : Int32)) = zI (wr ((a67 67 7) - 1)) from (zwr (zsub rfl rfl)))]; exact l_X6_lift ha67 wr_R hv3_6) (fun a78 ha78 => ?_)
        exact LgV.ret ha78
  · exact (l_X6_put_84 hah hv3_6 hv4_13)
theorem l_X6_sink_116 {N : Nat} {ah : IH} {v1 : Int} {v2 : Int} (hah : HR ah) (hv1 : zR v1) (hv2 : zR v2) : LfV (G_X6_sink_116 N ah v1 v2) (F_X6_sink_116 N (zh ah) (zI v1) (zI v2)) := by
  unfold G_X6_sink_116 F_X6_sink_116
  refine Lg.g rfl rfl (by decide) (fun g1 => ?_)
  refine Lg.wrt hah rfl (zix rfl g1) rfl hv1 (fun a122 ha122 => ?_)
  refine Lg.g (zand rfl rfl) rfl (by decide) (fun g2 => ?_)
  refine Lg.wrt ha122 rfl (zix (zand rfl rfl) g2) (zwr (zadd rfl rfl)) wr_R (fun a135 ha135 => ?_)
  exact LgV.ret ha135
theorem l_X6_sink_62 {N : Nat} {k4 : IH → Int → Int → Int → Option IH} {k4F : AH → Int32 → Int32 → Int32 → Option AH} {ah : IH} {v1 : Int} {v2 : Int} {v3 : Int} {v4 : Int} (hk4 : ∀ {z0 : IH} {z1 : Int} {z2 : Int} {z3 : Int}, HR z0 → zR z1 → zR z2 → zR z3 → LfV (k4 z0 z1 z2 z3) (k4F (zh z0) (zI z1) (zI z2) (zI z3))) (hah : HR ah) (hv1 : zR v1) (hv2 : zR v2) (hv3 : zR v3) (hv4 : zR v4) : LfV (G_X6_sink_62 N k4 ah v1 v2 v3 v4) (F_X6_sink_62 N k4F (zh ah) (zI v1) (zI v2) (zI v3) (zI v4)) := by
  unfold G_X6_sink_62 F_X6_sink_62
  refine Lg.g rfl rfl (by decide) (fun g1 => ?_)
  refine Lg.le (zlk rfl g1) rfl (hah _ _) hv1 ?_ ?_
  · refine Lg.g rfl rfl (by decide) (fun g2 => ?_)
    refine Lg.g rfl rfl (by decide) (fun g3 => ?_)
    refine Lg.wrt hah rfl (zix rfl g3) (zlk rfl g2) (hah _ _) (fun a88 ha88 => ?_)
    refine Lg.g rfl rfl (by decide) (fun g4 => ?_)
    refine Lg.g (zand (zlk rfl g4) rfl) rfl (by decide) (fun g5 => ?_)
    refine Lg.wrt ha88 rfl (zix (zand (zlk rfl g4) rfl) g5) (zwr (zadd rfl rfl)) wr_R (fun a106 ha106 => ?_)
    refine Lg.letv rfl hv4 (fun v2_109 hv2_109 => ?_)
    refine Lg.letv (zwr (zadd rfl rfl)) wr_R (fun v3_110 hv3_110 => ?_)
    exact (hk4 ha106 hv1 hv2_109 hv3_110)
  · exact (l_X6_sink_116 hah hv1 hv2)
theorem l_X6_sink_4 {N : Nat}  : ∀ (n : Nat) {ah : IH} {v1 : Int} {v2 : Int} {v3 : Int}, HR ah → zR v1 → zR v2 → zR v3 → LfV (G_X6_sink_4 N n ah v1 v2 v3) (F_X6_sink_4 N n (zh ah) (zI v1) (zI v2) (zI v3)) := by
  intro n
  induction n with
  | zero => intros; exact Lg.none
  | succ n ih =>
    intro ah v1 v2 v3 hah hv1 hv2 hv3
    unfold G_X6_sink_4 F_X6_sink_4
    refine Lg.le rfl rfl (zRd rfl) hv3 ?_ ?_
    · exact (l_X6_sink_116 hah hv1 hv2)
    · refine Lg.le rfl (zwr (zadd (zmul rfl rfl) rfl)) (hah _ _) wr_R ?_ ?_
      · exact (l_X6_sink_116 hah hv1 hv2)
      · refine Lg.letv (zwr (zadd (zmul rfl rfl) rfl)) wr_R (fun v4_27 hv4_27 => ?_)
        refine Lg.le rfl (zwr (zadd rfl rfl)) (hah _ _) wr_R ?_ ?_
        · exact (l_X6_sink_62 ih hah hv1 hv2 hv3 hv4_27)
        · refine Lg.g (zadd rfl rfl) rfl (by decide) (fun g1 => ?_)
          refine Lg.g rfl rfl (by decide) (fun g2 => ?_)
          refine Lg.le (zlk rfl g2) (zlk (zadd rfl rfl) g1) (hah _ _) (hah _ _) ?_ ?_
          · exact (l_X6_sink_62 ih hah hv1 hv2 hv3 hv4_27)
          · refine Lg.letv (zwr (zadd rfl rfl)) wr_R (fun v4_59 hv4_59 => ?_)
            exact (l_X6_sink_62 ih hah hv1 hv2 hv3 hv4_59)
theorem l_X6_sink {N : Nat} {ah : IH} {p1 : Int} (hah : HR ah) (hp1 : zR p1) : LfV (G_X6_sink N ah p1) (F_X6_sink N (zh ah) (zI p1)) := by
  unfold G_X6_sink F_X6_sink
  refine Lg.letv rfl (zRd rfl) (fun v2_1 hv2_1 => ?_)
  refine Lg.letv rfl (zRd rfl) (fun v3_3 hv3_3 => ?_)
  exact (l_X6_sink_4 _ hah hp1 hv2_1 hv3_3)
theorem l_X6_takeLeast {N : Nat} {ah : IH} (hah : HR ah) : LfI (G_X6_takeLeast N ah) (F_X6_takeLeast N (zh ah)) := by
  unfold G_X6_takeLeast F_X6_takeLeast
  refine Lg.letv rfl (hah _ _) (fun v1_6 hv1_6 => ?_)
  refine Lg.wrt hah rfl rfl (zwr (zsub rfl rfl)) wr_R (fun a14 ha14 => ?_)
  refine Lg.g rfl rfl (by decide) (fun g1 => ?_)
  refine Lg.bv (by rw [(show (zh a14 71 (Int32.toNatClampNeg (zh a14 67 7))) = zI (a14 71 (a14 67 7)) from (zlk rfl g1))]; exact l_X6_sink ha14 (ha14 _ _)) (fun a27 ha27 => ?_)
  refine Lg.g (zand rfl rfl) rfl (by decide) (fun g2 => ?_)
  refine Lg.wrt ha27 rfl (zix (zand rfl rfl) g2) rfl (zRd rfl) (fun a40 ha40 => ?_)
  exact LgI.ret rfl hv1_6 ha40
theorem l_X2_childOf_10 {N : Nat}  : ∀ (n : Nat) {ah : IH} {v2 : Int} {v3 : Int} {v4 : Int}, HR ah → zR v2 → zR v3 → zR v4 → LfI (G_X2_childOf_10 N n ah v2 v3 v4) (F_X2_childOf_10 N n (zh ah) (zI v2) (zI v3) (zI v4)) := by
  intro n
  induction n with
  | zero => intros; exact Lg.none
  | succ n ih =>
    intro ah v2 v3 v4 hah hv2 hv3 hv4
    unfold G_X2_childOf_10 F_X2_childOf_10
    refine Lg.lt rfl rfl (zRd rfl) hv4 ?_ ?_
    · exact LgI.ret rfl (zRd rfl) hah
    · refine Lg.lt rfl rfl hv3 (zRd rfl) ?_ ?_
      · exact LgI.ret rfl (zRd rfl) hah
      · refine Lg.g rfl rfl (by decide) (fun g1 => ?_)
        refine Lg.eq (zlk rfl g1) rfl (hah _ _) hv2 ?_ ?_
        · exact LgI.ret rfl hv3 hah
        · refine Lg.g rfl rfl (by decide) (fun g2 => ?_)
          refine Lg.letv (zlk rfl g2) (hah _ _) (fun v3_39 hv3_39 => ?_)
          refine Lg.letv (zwr (zadd rfl rfl)) wr_R (fun v4_40 hv4_40 => ?_)
          exact (ih hah hv2 hv3_39 hv4_40)
theorem l_X2_childOf {N : Nat} {ah : IH} {p1 : Int} {p2 : Int} (hah : HR ah) (hp1 : zR p1) (hp2 : zR p2) : LfI (G_X2_childOf N ah p1 p2) (F_X2_childOf N (zh ah) (zI p1) (zI p2)) := by
  unfold G_X2_childOf F_X2_childOf
  refine Lg.g rfl rfl (by decide) (fun g1 => ?_)
  refine Lg.letv (zlk rfl g1) (hah _ _) (fun v3_6 hv3_6 => ?_)
  refine Lg.letv rfl (zRd rfl) (fun v4_8 hv4_8 => ?_)
  exact (l_X2_childOf_10 _ hah hp2 hv3_6 hv4_8)
theorem l_X6_walk_5 {N : Nat}  : ∀ (n : Nat) {ah : IH} {v2 : Int} {v3 : Int} {v4 : Int}, HR ah → zR v2 → zR v3 → zR v4 → LfI (G_X6_walk_5 N n ah v2 v3 v4) (F_X6_walk_5 N n (zh ah) (zI v2) (zI v3) (zI v4)) := by
  intro n
  induction n with
  | zero => intros; exact Lg.none
  | succ n ih =>
    intro ah v2 v3 v4 hah hv2 hv3 hv4
    unfold G_X6_walk_5 F_X6_walk_5
    refine Lg.g rfl rfl (by decide) (fun g1 => ?_)
    refine Lg.le (zlk rfl g1) rfl (hah _ _) hv4 ?_ ?_
    · exact LgI.ret rfl hv3 hah
    · refine Lg.eq rfl rfl hv3 (zRd rfl) ?_ ?_
      · exact LgI.ret rfl hv3 hah
      · refine Lg.g (zadd (zmul rfl rfl) rfl) rfl (by decide) (fun g2 => ?_)
        refine Lg.b (by rw [(show (zh ah 64 (Int32.toNatClampNeg (((zI v2) * (3 : Int32)) + (zI v4)))) = zI (ah 64 ((v2 * 3) + v4)) from (zlk (zadd (zmul rfl rfl) rfl) g2))]; exact l_X2_childOf hah hv3 (hah _ _)) (fun r43 a43 hr43 ha43 => ?_)
        refine Lg.letv rfl hr43 (fun v3_46 hv3_46 => ?_)
        refine Lg.letv (zwr (zadd rfl rfl)) wr_R (fun v4_47 hv4_47 => ?_)
        exact (ih ha43 hv2 hv3_46 hv4_47)
theorem l_X6_walk {N : Nat} {ah : IH} {p1 : Int} {p2 : Int} (hah : HR ah) (hp1 : zR p1) (hp2 : zR p2) : LfI (G_X6_walk N ah p1 p2) (F_X6_walk N (zh ah) (zI p1) (zI p2)) := by
  unfold G_X6_walk F_X6_walk
  refine Lg.letv rfl hp1 (fun v3_1 hv3_1 => ?_)
  refine Lg.letv rfl (zRd rfl) (fun v4_3 hv4_3 => ?_)
  exact (l_X6_walk_5 _ hah hp2 hv3_1 hv4_3)
theorem l_X6_open_210 {N : Nat} {k115 : IH → Int → Int → Int → Int → Option IH} {k115F : AH → Int32 → Int32 → Int32 → Int32 → Option AH} {ah : IH} {v3 : Int} {v4 : Int} {v5 : Int} {v7 : Int} (hk115 : ∀ {z0 : IH} {z1 : Int} {z2 : Int} {z3 : Int} {z4 : Int}, HR z0 → zR z1 → zR z2 → zR z3 → zR z4 → LfV (k115 z0 z1 z2 z3 z4) (k115F (zh z0) (zI z1) (zI z2) (zI z3) (zI z4))) (hah : HR ah) (hv3 : zR v3) (hv4 : zR v4) (hv5 : zR v5) (hv7 : zR v7) : LfV (G_X6_open_210 N k115 ah v3 v4 v5 v7) (F_X6_open_210 N k115F (zh ah) (zI v3) (zI v4) (zI v5) (zI v7)) := by
  unfold G_X6_open_210 F_X6_open_210
  refine Lg.letv (zwr (zadd rfl rfl)) wr_R (fun v7_210 hv7_210 => ?_)
  exact (hk115 hah hv3 hv4 hv5 hv7_210)
theorem l_X6_open_115 {N : Nat}  : ∀ (n : Nat) {ah : IH} {v3 : Int} {v4 : Int} {v5 : Int} {v7 : Int}, HR ah → zR v3 → zR v4 → zR v5 → zR v7 → LfV (G_X6_open_115 N n ah v3 v4 v5 v7) (F_X6_open_115 N n (zh ah) (zI v3) (zI v4) (zI v5) (zI v7)) := by
  intro n
  induction n with
  | zero => intros; exact Lg.none
  | succ n ih =>
    intro ah v3 v4 v5 v7 hah hv3 hv4 hv5 hv7
    unfold G_X6_open_115 F_X6_open_115
    refine Lg.g (zadd rfl rfl) rfl (by decide) (fun g1 => ?_)
    refine Lg.le (zlk (zadd rfl rfl) g1) rfl (hah _ _) hv7 ?_ ?_
    · exact LgV.ret hah
    · refine Lg.b (l_X6_walk hah hv4 hv7) (fun r136 a136 hr136 ha136 => ?_)
      refine Lg.letv rfl hr136 (fun v8_139 hv8_139 => ?_)
      refine Lg.eq rfl rfl hv8_139 (zRd rfl) ?_ ?_
      · exact (l_X6_open_210 ih ha136 hv3 hv4 hv5 hv7)
      · refine Lg.g rfl rfl (by decide) (fun g2 => ?_)
        refine Lg.letv (zlk rfl g2) (ha136 _ _) (fun v9_157 hv9_157 => ?_)
        refine Lg.g rfl rfl (by decide) (fun g3 => ?_)
        refine Lg.letv (zwr (zadd rfl (zlk rfl g3))) wr_R (fun v10_172 hv10_172 => ?_)
        refine Lg.b (l_X6_itemOf ha136 hv9_157 hv8_139) (fun r180 a180 hr180 ha180 => ?_)
        refine Lg.g rfl rfl (by decide) (fun g4 => ?_)
        refine Lg.g rfl rfl (by decide) (fun g5 => ?_)
        refine Lg.bv (by rw [(show (((zI v10_172) + (zh a180 66 (Int32.toNatClampNeg (zI v9_157)))) + (zh a180 15 (Int32.toNatClampNeg (zI v8_139)))) = zI (wr ((v10_172 + (a180 66 v9_157)) + (a180 15 v8_139))) from (zwr (zadd (zadd rfl (zlk rfl g4)) (zlk rfl g5))))]; exact l_X6_put ha180 hr180 wr_R) (fun a207 ha207 => ?_)
        exact (l_X6_open_210 ih ha207 hv3 hv4 hv5 hv7)
theorem l_X6_open_104 {N : Nat} {ah : IH} {v3 : Int} {v4 : Int} {v5 : Int} (hah : HR ah) (hv3 : zR v3) (hv4 : zR v4) (hv5 : zR v5) : LfV (G_X6_open_104 N ah v3 v4 v5) (F_X6_open_104 N (zh ah) (zI v3) (zI v4) (zI v5)) := by
  unfold G_X6_open_104 F_X6_open_104
  refine Lg.g rfl rfl (by decide) (fun g1 => ?_)
  refine Lg.letv (zlk rfl g1) (hah _ _) (fun v7_113 hv7_113 => ?_)
  exact (l_X6_open_115 _ hah hv3 hv4 hv5 hv7_113)
theorem l_X6_open {N : Nat} {ah : IH} {p1 : Int} {p2 : Int} (hah : HR ah) (hp1 : zR p1) (hp2 : zR p2) : LfV (G_X6_open N ah p1 p2) (F_X6_open N (zh ah) (zI p1) (zI p2)) := by
  unfold G_X6_open F_X6_open
  refine Lg.z (by decide) ?_
  refine Lg.letv (zwr (zsub rfl (zdiv (zwr (zsub rfl rfl)) rfl wr_R (by decide)))) wr_R (fun v3_11 hv3_11 => ?_)
  refine Lg.z (by decide) ?_
  refine Lg.letv (zwr (zsub (zsub rfl rfl) (zmul (zdiv (zwr (zsub rfl rfl)) rfl wr_R (by decide)) rfl))) wr_R (fun v4_20 hv4_20 => ?_)
  refine Lg.g rfl rfl (by decide) (fun g1 => ?_)
  refine Lg.g rfl rfl (by decide) (fun g2 => ?_)
  refine Lg.letv (zwr (zsub (zsub rfl (zlk rfl g1)) (zlk rfl g2))) wr_R (fun v5_44 hv5_44 => ?_)
  refine Lg.wrt hah rfl rfl (zwr (zadd rfl rfl)) wr_R (fun a53 ha53 => ?_)
  refine Lg.g rfl rfl (by decide) (fun g3 => ?_)
  refine Lg.letv (zlk rfl g3) (ha53 _ _) (fun v6_66 hv6_66 => ?_)
  refine Lg.eq rfl rfl hv3_11 (ha53 _ _) ?_ ?_
  · refine Lg.eq rfl rfl hv6_66 (zRd rfl) ?_ ?_
    · exact (l_X6_open_104 ha53 hv3_11 hv4_20 hv5_44)
    · refine Lg.g rfl rfl (by decide) (fun g4 => ?_)
      refine Lg.bv (by rw [(show ((zI v5_44) + (zh a53 6 (Int32.toNatClampNeg (zI v6_66)))) = zI (wr (v5_44 + (a53 6 v6_66))) from (zwr (zadd rfl (zlk rfl g4))))]; exact l_X6_put ha53 hv6_66 wr_R) (fun a101 ha101 => ?_)
      exact (l_X6_open_104 ha101 hv3_11 hv4_20 hv5_44)
  · exact (l_X6_open_104 ha53 hv3_11 hv4_20 hv5_44)
theorem l_X6_note {N : Nat} {ah : IH} {p1 : Int} {p2 : Int} (hah : HR ah) (hp1 : zR p1) (hp2 : zR p2) : LfV (G_X6_note N ah p1 p2) (F_X6_note N (zh ah) (zI p1) (zI p2)) := by
  unfold G_X6_note F_X6_note
  refine Lg.le rfl rfl (zRd rfl) (hah _ _) ?_ ?_
  · exact LgV.ret hah
  · refine Lg.g rfl rfl (by decide) (fun g1 => ?_)
    refine Lg.wrt hah rfl (zix rfl g1) rfl hp1 (fun a18 ha18 => ?_)
    refine Lg.g rfl rfl (by decide) (fun g2 => ?_)
    refine Lg.wrt ha18 rfl (zix rfl g2) rfl hp2 (fun a28 ha28 => ?_)
    refine Lg.g rfl rfl (by decide) (fun g3 => ?_)
    refine Lg.wrt ha28 rfl (zix rfl g3) rfl (ha28 _ _) (fun a41 ha41 => ?_)
    refine Lg.wrt ha41 rfl rfl (zwr (zadd rfl rfl)) wr_R (fun a49 ha49 => ?_)
    exact LgV.ret ha49
theorem l_X6_run_110 {N : Nat} {k46 : IH → Int → Int → Option IH} {k46F : AH → Int32 → Int32 → Option AH} {ah : IH} {v1 : Int} {v2 : Int} (hk46 : ∀ {z0 : IH} {z1 : Int} {z2 : Int}, HR z0 → zR z1 → zR z2 → LfV (k46 z0 z1 z2) (k46F (zh z0) (zI z1) (zI z2))) (hah : HR ah) (hv1 : zR v1) (hv2 : zR v2) : LfV (G_X6_run_110 N k46 ah v1 v2) (F_X6_run_110 N k46F (zh ah) (zI v1) (zI v2)) := by
  unfold G_X6_run_110 F_X6_run_110
  refine Lg.letv (zwr (zadd rfl rfl)) wr_R (fun v2_110 hv2_110 => ?_)
  exact (hk46 hah hv1 hv2_110)
theorem l_X6_run_46 {N : Nat}  : ∀ (n : Nat) {ah : IH} {v1 : Int} {v2 : Int}, HR ah → zR v1 → zR v2 → LfV (G_X6_run_46 N n ah v1 v2) (F_X6_run_46 N n (zh ah) (zI v1) (zI v2)) := by
  intro n
  induction n with
  | zero => intros; exact Lg.none
  | succ n ih =>
    intro ah v1 v2 hah hv1 hv2
    unfold G_X6_run_46 F_X6_run_46
    refine Lg.le rfl rfl (zRd rfl) hv2 ?_ ?_
    · exact LgV.ret hah
    · refine Lg.le rfl rfl (hah _ _) (zRd rfl) ?_ ?_
      · exact LgV.ret hah
      · refine Lg.le rfl rfl hv1 (hah _ _) ?_ ?_
        · exact LgV.ret hah
        · refine Lg.b (l_X6_takeLeast hah) (fun r69 a69 hr69 ha69 => ?_)
          refine Lg.letv rfl hr69 (fun v3_72 hv3_72 => ?_)
          refine Lg.letv (zand rfl rfl) yand_R (fun v4_78 hv4_78 => ?_)
          refine Lg.le rfl rfl (zRd rfl) hv4_78 ?_ ?_
          · refine Lg.bv (by rw [(show ((zI v3_72) >>> ((15 : Int32) &&& (31 : Int32))) = zI (yshr v3_72 (yand 15 31)) from (zshr rfl (zand rfl rfl)))]; exact l_X6_open ha69 hv4_78 yshr_R) (fun a107 ha107 => ?_)
            exact (l_X6_run_110 ih ha107 hv1 hv2)
          · refine Lg.bv (by rw [(show ((zI v3_72) >>> ((15 : Int32) &&& (31 : Int32))) = zI (yshr v3_72 (yand 15 31)) from (zshr rfl (zand rfl rfl)))]; exact l_X6_note ha69 hv4_78 yshr_R) (fun a94 ha94 => ?_)
            exact (l_X6_run_110 ih ha94 hv1 hv2)
theorem l_X6_run {N : Nat} {ah : IH} {p1 : Int} (hah : HR ah) (hp1 : zR p1) : LfV (G_X6_run N ah p1) (F_X6_run N (zh ah) (zI p1)) := by
  unfold G_X6_run F_X6_run
  refine Lg.bv (l_X6_clear hah) (fun a1 ha1 => ?_)
  refine Lg.eq rfl rfl (ha1 _ _) (zRd rfl) ?_ ?_
  · exact LgV.ret ha1
  · refine Lg.b (l_X6_itemOf ha1 (zRd rfl) (zRd rfl)) (fun r19 a19 hr19 ha19 => ?_)
    refine Lg.bv (by rw [(show ((zh a19 66 0) + (zh a19 15 0)) = zI (wr ((a19 66 0) + (a19 15 0))) from (zwr (zadd rfl rfl)))]; exact l_X6_put ha19 hr19 wr_R) (fun a41 ha41 => ?_)
    refine Lg.letv rfl (zRd rfl) (fun v2_45 hv2_45 => ?_)
    exact (l_X6_run_46 _ ha41 hp1 hv2_45)
theorem l_X0_keep_22 {N : Nat}  : ∀ (n : Nat) {ah : IH} {v1 : Int} {v2 : Int}, HR ah → zR v1 → zR v2 → LfV (G_X0_keep_22 N n ah v1 v2) (F_X0_keep_22 N n (zh ah) (zI v1) (zI v2)) := by
  intro n
  induction n with
  | zero => intros; exact Lg.none
  | succ n ih =>
    intro ah v1 v2 hah hv1 hv2
    unfold G_X0_keep_22 F_X0_keep_22
    refine Lg.le rfl rfl (hah _ _) hv2 ?_ ?_
    · exact LgV.ret hah
    · refine Lg.g rfl rfl (by decide) (fun g1 => ?_)
      refine Lg.g (zadd (zmul rfl rfl) rfl) rfl (by decide) (fun g2 => ?_)
      refine Lg.wrt hah rfl (zix (zadd (zmul rfl rfl) rfl) g2) (zlk rfl g1) (hah _ _) (fun a52 ha52 => ?_)
      refine Lg.g rfl rfl (by decide) (fun g3 => ?_)
      refine Lg.g (zadd (zmul rfl rfl) rfl) rfl (by decide) (fun g4 => ?_)
      refine Lg.wrt ha52 rfl (zix (zadd (zmul rfl rfl) rfl) g4) (zlk rfl g3) (ha52 _ _) (fun a72 ha72 => ?_)
      refine Lg.g rfl rfl (by decide) (fun g5 => ?_)
      refine Lg.g (zadd (zmul rfl rfl) rfl) rfl (by decide) (fun g6 => ?_)
      refine Lg.wrt ha72 rfl (zix (zadd (zmul rfl rfl) rfl) g6) (zlk rfl g5) (ha72 _ _) (fun a92 ha92 => ?_)
      refine Lg.letv (zwr (zadd rfl rfl)) wr_R (fun v2_93 hv2_93 => ?_)
      exact (ih ha92 hv1 hv2_93)
theorem l_X0_keep {N : Nat} {ah : IH} {p1 : Int} (hah : HR ah) (hp1 : zR p1) : LfV (G_X0_keep N ah p1) (F_X0_keep N (zh ah) (zI p1)) := by
  unfold G_X0_keep F_X0_keep
  refine Lg.g rfl rfl (by decide) (fun g1 => ?_)
  refine Lg.wrt hah rfl (zix rfl g1) (znar rfl) ynar_R (fun a6 ha6 => ?_)
  refine Lg.g rfl rfl (by decide) (fun g2 => ?_)
  refine Lg.wrt ha6 rfl (zix rfl g2) rfl (ha6 _ _) (fun a19 ha19 => ?_)
  refine Lg.letv rfl (zRd rfl) (fun v2_21 hv2_21 => ?_)
  exact (l_X0_keep_22 _ ha19 hp1 hv2_21)
theorem l_X0_lookAlone {N : Nat} {ah : IH} {p1 : Int} (hah : HR ah) (hp1 : zR p1) : LfV (G_X0_lookAlone N ah p1) (F_X0_lookAlone N (zh ah) (zI p1)) := by
  unfold G_X0_lookAlone F_X0_lookAlone
  refine Lg.g rfl rfl (by decide) (fun g1 => ?_)
  refine Lg.eq (zlk rfl g1) rfl (hah _ _) (zRd rfl) ?_ ?_
  · refine Lg.g rfl rfl (by decide) (fun g2 => ?_)
    refine Lg.b (l_X5_cellsOf hah hp1) (fun r30 a30 hr30 ha30 => ?_)
    refine Lg.bv (by rw [(show (zh ah 32 (Int32.toNatClampNeg (zI p1))) = zI (ah 32 p1) from (zlk rfl g2))]; exact l_X4_ofCells ha30 (hah _ _) hr30) (fun a33 ha33 => ?_)
    refine Lg.bv (l_X6_run ha33 (zRd rfl)) (fun a42 ha42 => ?_)
    refine Lg.bv (l_X0_keep ha42 hp1) (fun a47 ha47 => ?_)
    exact LgV.ret ha47
  · exact LgV.ret hah
theorem l_X0_joinedCells {N : Nat} {ah : IH} {p1 : Int} (hah : HR ah) (hp1 : zR p1) : LfI (G_X0_joinedCells N ah p1) (F_X0_joinedCells N (zh ah) (zI p1)) := by
  unfold G_X0_joinedCells F_X0_joinedCells
  refine Lg.b (l_X5_cellsOf hah hp1) (fun r5 a5 hr5 ha5 => ?_)
  refine Lg.b (by rw [(show ((zI p1) + (1 : Int32)) = zI (wr (p1 + 1)) from (zwr (zadd rfl rfl)))]; exact l_X5_cellsOf ha5 wr_R) (fun r15 a15 hr15 ha15 => ?_)
  exact LgI.ret (zwr (zadd rfl rfl)) wr_R ha15
theorem l_X0_mayJoin {N : Nat} {ah : IH} {p1 : Int} (hah : HR ah) (hp1 : zR p1) : LfI (G_X0_mayJoin N ah p1) (F_X0_mayJoin N (zh ah) (zI p1)) := by
  unfold G_X0_mayJoin F_X0_mayJoin
  refine Lg.le rfl (zwr (zadd rfl rfl)) (hah _ _) wr_R ?_ ?_
  · exact LgI.ret rfl (zRd rfl) hah
  · refine Lg.g rfl rfl (by decide) (fun g1 => ?_)
    refine Lg.eq (zlk rfl g1) rfl (hah _ _) (zRd rfl) ?_ ?_
    · exact LgI.ret rfl (zRd rfl) hah
    · refine Lg.b (l_X0_joinedCells hah hp1) (fun r27 a27 hr27 ha27 => ?_)
      refine Lg.lt rfl rfl (zRd rfl) hr27 ?_ ?_
      · exact LgI.ret rfl (zRd rfl) ha27
      · exact LgI.ret rfl (zRd rfl) ha27
theorem l_X0_lookJoined {N : Nat} {ah : IH} {p1 : Int} (hah : HR ah) (hp1 : zR p1) : LfV (G_X0_lookJoined N ah p1) (F_X0_lookJoined N (zh ah) (zI p1)) := by
  unfold G_X0_lookJoined F_X0_lookJoined
  refine Lg.g (zadd rfl rfl) rfl (by decide) (fun g1 => ?_)
  refine Lg.eq (zlk (zadd rfl rfl) g1) rfl (hah _ _) (zRd rfl) ?_ ?_
  · refine Lg.g rfl rfl (by decide) (fun g2 => ?_)
    refine Lg.b (l_X0_joinedCells hah hp1) (fun r30 a30 hr30 ha30 => ?_)
    refine Lg.bv (by rw [(show (zh ah 32 (Int32.toNatClampNeg (zI p1))) = zI (ah 32 p1) from (zlk rfl g2))]; exact l_X4_ofCells ha30 (hah _ _) hr30) (fun a33 ha33 => ?_)
    refine Lg.bv (l_X6_run ha33 (zRd rfl)) (fun a41 ha41 => ?_)
    refine Lg.bv (by rw [(show ((40 : Int32) + (zI p1)) = zI (wr (40 + p1)) from (zwr (zadd rfl rfl)))]; exact l_X0_keep ha41 wr_R) (fun a49 ha49 => ?_)
    exact LgV.ret ha49
  · exact LgV.ret hah
theorem l_X0_mendedWord {N : Nat} {ah : IH} {p1 : Int} (hah : HR ah) (hp1 : zR p1) : LfI (G_X0_mendedWord N ah p1) (F_X0_mendedWord N (zh ah) (zI p1)) := by
  unfold G_X0_mendedWord F_X0_mendedWord
  refine Lg.b (l_X0_wordInside hah hp1 (zRd rfl)) (fun r3 a3 hr3 ha3 => ?_)
  exact LgI.ret rfl hr3 ha3
theorem l_X0_mendedPrice {N : Nat} {ah : IH} {p1 : Int} (hah : HR ah) (hp1 : zR p1) : LfI (G_X0_mendedPrice N ah p1) (F_X0_mendedPrice N (zh ah) (zI p1)) := by
  unfold G_X0_mendedPrice F_X0_mendedPrice
  refine Lg.b (l_X0_mendedWord hah hp1) (fun r2 a2 hr2 ha2 => ?_)
  refine Lg.eq rfl rfl hr2 (zRd rfl) ?_ ?_
  · refine Lg.b (l_X0_outsidePrice ha2 hp1) (fun r11 a11 hr11 ha11 => ?_)
    exact LgI.ret rfl hr11 ha11
  · refine Lg.b (l_X0_priceOf ha2 hp1 (zRd rfl)) (fun r20 a20 hr20 ha20 => ?_)
    exact LgI.ret rfl hr20 ha20
theorem l_X0_joinedPrice_40 {N : Nat} {ah : IH} (hah : HR ah) : LfI (G_X0_joinedPrice_40 N ah) (F_X0_joinedPrice_40 N (zh ah)) := by
  unfold G_X0_joinedPrice_40 F_X0_joinedPrice_40
  exact LgI.ret rfl (zRd rfl) hah
theorem l_X0_joinedPrice {N : Nat} {ah : IH} {p1 : Int} (hah : HR ah) (hp1 : zR p1) : LfI (G_X0_joinedPrice N ah p1) (F_X0_joinedPrice N (zh ah) (zI p1)) := by
  unfold G_X0_joinedPrice F_X0_joinedPrice
  refine Lg.b (by rw [(show ((40 : Int32) + (zI p1)) = zI (wr (40 + p1)) from (zwr (zadd rfl rfl)))]; exact l_X0_priceOf hah wr_R (zRd rfl)) (fun r6 a6 hr6 ha6 => ?_)
  refine Lg.letv rfl hr6 (fun v2_9 hv2_9 => ?_)
  refine Lg.b (l_X0_joinedCells ha6 hp1) (fun r24 a24 hr24 ha24 => ?_)
  refine Lg.letv (zwr (zadd rfl (zmul rfl rfl))) wr_R (fun v3_29 hv3_29 => ?_)
  refine Lg.eq rfl rfl hv2_9 (zRd rfl) ?_ ?_
  · exact (l_X0_joinedPrice_40 ha24)
  · refine Lg.le rfl rfl hv2_9 hv3_29 ?_ ?_
    · exact LgI.ret (zwr (zadd rfl rfl)) wr_R ha24
    · exact (l_X0_joinedPrice_40 ha24)
theorem l_X3_choose_53 {N : Nat} {ah : IH} {v1 : Int} {s0 : Int} (hah : HR ah) (hv1 : zR v1) (hs0 : zR s0) : LfV (G_X3_choose_53 N ah v1 s0) (F_X3_choose_53 N (zh ah) (zI v1) (zI s0)) := by
  unfold G_X3_choose_53 F_X3_choose_53
  refine Lg.letv rfl hs0 (fun v2_53 hv2_53 => ?_)
  refine Lg.eq rfl rfl hv2_53 (zRd rfl) ?_ ?_
  · exact LgV.ret hah
  · refine Lg.g (zadd rfl rfl) rfl (by decide) (fun g1 => ?_)
    refine Lg.g rfl rfl (by decide) (fun g2 => ?_)
    refine Lg.le (zlk rfl g2) (zwr (zadd rfl (zlk (zadd rfl rfl) g1))) (hah _ _) wr_R ?_ ?_
    · exact LgV.ret hah
    · refine Lg.g (zadd rfl rfl) rfl (by decide) (fun g3 => ?_)
      refine Lg.g rfl rfl (by decide) (fun g4 => ?_)
      refine Lg.wrt hah rfl (zix rfl g4) (zwr (zadd rfl (zlk (zadd rfl rfl) g3))) wr_R (fun a93 ha93 => ?_)
      refine Lg.g rfl rfl (by decide) (fun g5 => ?_)
      refine Lg.wrt ha93 rfl (zix rfl g5) (znar rfl) ynar_R (fun a100 ha100 => ?_)
      exact LgV.ret ha100
theorem l_X3_choose {N : Nat} {ah : IH} {p1 : Int} (hah : HR ah) (hp1 : zR p1) : LfV (G_X3_choose N ah p1) (F_X3_choose N (zh ah) (zI p1)) := by
  unfold G_X3_choose F_X3_choose
  refine Lg.b (l_X0_mendedPrice hah hp1) (fun r10 a10 hr10 ha10 => ?_)
  refine Lg.g (zadd rfl rfl) rfl (by decide) (fun g1 => ?_)
  refine Lg.g rfl rfl (by decide) (fun g2 => ?_)
  refine Lg.wrt ha10 rfl (zix rfl g2) (zwr (zadd rfl (zlk (zadd rfl rfl) g1))) wr_R (fun a22 ha22 => ?_)
  refine Lg.g rfl rfl (by decide) (fun g3 => ?_)
  refine Lg.wrt ha22 rfl (zix rfl g3) (znar rfl) ynar_R (fun a29 ha29 => ?_)
  refine Lg.b (l_X0_mayJoin ha29 hp1) (fun r35 a35 hr35 ha35 => ?_)
  refine Lg.eq rfl rfl hr35 (zRd rfl) ?_ ?_
  · exact (l_X3_choose_53 ha35 hp1 (zRd rfl))
  · refine Lg.b (l_X0_joinedPrice ha35 hp1) (fun r46 a46 hr46 ha46 => ?_)
    exact (l_X3_choose_53 ha46 hp1 hr46)
theorem l_X3_make_62 {N : Nat} {k31 : IH → Int → Option IH} {k31F : AH → Int32 → Option AH} {ah : IH} {v1 : Int} (hk31 : ∀ {z0 : IH} {z1 : Int}, HR z0 → zR z1 → LfV (k31 z0 z1) (k31F (zh z0) (zI z1))) (hah : HR ah) (hv1 : zR v1) : LfV (G_X3_make_62 N k31 ah v1) (F_X3_make_62 N k31F (zh ah) (zI v1)) := by
  unfold G_X3_make_62 F_X3_make_62
  refine Lg.bv (l_X3_choose hah hv1) (fun a64 ha64 => ?_)
  refine Lg.letv (zwr (zadd rfl rfl)) wr_R (fun v1_67 hv1_67 => ?_)
  exact (hk31 ha64 hv1_67)
theorem l_X3_make_31 {N : Nat}  : ∀ (n : Nat) {ah : IH} {v1 : Int}, HR ah → zR v1 → LfV (G_X3_make_31 N n ah v1) (F_X3_make_31 N n (zh ah) (zI v1)) := by
  intro n
  induction n with
  | zero => intros; exact Lg.none
  | succ n ih =>
    intro ah v1 hah hv1
    unfold G_X3_make_31 F_X3_make_31
    refine Lg.lt rfl rfl hv1 (zRd rfl) ?_ ?_
    · refine Lg.wrt hah rfl rfl rfl (hah _ _) (fun a80 ha80 => ?_)
      refine Lg.wrt ha80 rfl rfl rfl (zRd rfl) (fun a85 ha85 => ?_)
      refine Lg.wrt ha85 rfl rfl rfl (zRd rfl) (fun a90 ha90 => ?_)
      refine Lg.wrt ha90 rfl rfl rfl (zRd rfl) (fun a95 ha95 => ?_)
      refine Lg.bv (l_X3_write ha95) (fun a99 ha99 => ?_)
      refine Lg.wrt ha99 rfl rfl rfl (zRd rfl) (fun a104 ha104 => ?_)
      exact LgV.ret ha104
    · refine Lg.bv (l_X0_lookAlone hah hv1) (fun a40 ha40 => ?_)
      refine Lg.b (l_X0_mayJoin ha40 hv1) (fun r48 a48 hr48 ha48 => ?_)
      refine Lg.eq rfl rfl hr48 (zRd rfl) ?_ ?_
      · exact (l_X3_make_62 ih ha48 hv1)
      · refine Lg.bv (l_X0_lookJoined ha48 hv1) (fun a59 ha59 => ?_)
        exact (l_X3_make_62 ih ha59 hv1)
theorem l_X3_make {N : Nat} {ah : IH} (hah : HR ah) : LfV (G_X3_make N ah) (F_X3_make N (zh ah)) := by
  unfold G_X3_make F_X3_make
  refine Lg.eq rfl rfl (hah _ _) (zRd rfl) ?_ ?_
  · refine Lg.g rfl rfl (by decide) (fun g1 => ?_)
    refine Lg.wrt hah rfl (zix rfl g1) rfl (zRd rfl) (fun a20 ha20 => ?_)
    refine Lg.letv (zwr (zsub rfl rfl)) wr_R (fun v1_30 hv1_30 => ?_)
    exact (l_X3_make_31 _ ha20 hv1_30)
  · exact LgV.ret hah
theorem l_X11_at {N : Nat} {ah : IH} {p1 : Int} (hah : HR ah) (hp1 : zR p1) : LfI (G_X11_at N ah p1) (F_X11_at N (zh ah) (zI p1)) := by
  unfold G_X11_at F_X11_at
  refine Lg.bv (l_X3_make hah) (fun a4 ha4 => ?_)
  refine Lg.lt rfl rfl hp1 (zRd rfl) ?_ ?_
  · exact LgI.ret rfl (zRd rfl) ha4
  · refine Lg.le rfl rfl (ha4 _ _) hp1 ?_ ?_
    · exact LgI.ret rfl (zRd rfl) ha4
    · refine Lg.g rfl rfl (by decide) (fun g1 => ?_)
      exact LgI.ret (zlk rfl g1) (ha4 _ _) ha4
theorem l_X11_status {N : Nat} {ah : IH} {p1 : Int} (hah : HR ah) (hp1 : zR p1) : LfI (G_X11_status N ah p1) (F_X11_status N (zh ah) (zI p1)) := by
  unfold G_X11_status F_X11_status
  refine Lg.eq rfl rfl hp1 (zRd rfl) ?_ ?_
  · exact LgI.ret rfl (hah _ _) hah
  · refine Lg.eq rfl rfl hp1 (zRd rfl) ?_ ?_
    · exact LgI.ret rfl (hah _ _) hah
    · exact LgI.ret rfl (zRd rfl) hah
theorem l_X10_needBy_33 {N : Nat}  : ∀ (n : Nat) {ah : IH} {v1 : Int} {v2 : Int} {v3 : Int} {v4 : Int} {v5 : Int}, HR ah → zR v1 → zR v2 → zR v3 → zR v4 → zR v5 → LfI (G_X10_needBy_33 N n ah v1 v2 v3 v4 v5) (F_X10_needBy_33 N n (zh ah) (zI v1) (zI v2) (zI v3) (zI v4) (zI v5)) := by
  intro n
  induction n with
  | zero => intros; exact Lg.none
  | succ n ih =>
    intro ah v1 v2 v3 v4 v5 hah hv1 hv2 hv3 hv4 hv5
    unfold G_X10_needBy_33 F_X10_needBy_33
    refine Lg.le rfl rfl hv4 hv5 ?_ ?_
    · refine Lg.g rfl rfl (by decide) (fun g1 => ?_)
      refine Lg.g rfl rfl (by decide) (fun g2 => ?_)
      refine Lg.g (zadd (zadd (zmul (zlk rfl g2) rfl) rfl) rfl) rfl (by decide) (fun g3 => ?_)
      exact LgI.ret (zmin rfl (zwr (zadd (zlk rfl g2) (zlk (zadd (zadd (zmul (zlk rfl g2) rfl) rfl) rfl) g3))) (zRd rfl) wr_R) (min_R (zRd rfl) wr_R) hah
    · refine Lg.b (by rw [(show ((zI v3) + (zI v5)) = zI (wr (v3 + v5)) from (zwr (zadd rfl rfl)))]; exact l_X2_signOf hah hv1 wr_R) (fun r49 a49 hr49 ha49 => ?_)
      refine Lg.g (zadd (zmul rfl rfl) rfl) rfl (by decide) (fun g4 => ?_)
      refine Lg.eq rfl (zlk (zadd (zmul rfl rfl) rfl) g4) hr49 (ha49 _ _) ?_ ?_
      · refine Lg.letv (zwr (zadd rfl rfl)) wr_R (fun v5_72 hv5_72 => ?_)
        exact (ih ha49 hv1 hv2 hv3 hv4 hv5_72)
      · exact LgI.ret rfl (zRd rfl) ha49
theorem l_X10_needBy {N : Nat} {ah : IH} {p1 : Int} {p2 : Int} {p3 : Int} (hah : HR ah) (hp1 : zR p1) (hp2 : zR p2) (hp3 : zR p3) : LfI (G_X10_needBy N ah p1 p2 p3) (F_X10_needBy N (zh ah) (zI p1) (zI p2) (zI p3)) := by
  unfold G_X10_needBy F_X10_needBy
  refine Lg.g rfl rfl (by decide) (fun g1 => ?_)
  refine Lg.letv (zlk rfl g1) (hah _ _) (fun v4_9 hv4_9 => ?_)
  refine Lg.g rfl rfl (by decide) (fun g2 => ?_)
  refine Lg.le (zwr (zadd rfl rfl)) (zlk rfl g2) wr_R (hah _ _) ?_ ?_
  · refine Lg.letv rfl (zRd rfl) (fun v5_31 hv5_31 => ?_)
    exact (l_X10_needBy_33 _ hah hp1 hp2 hp3 hv4_9 hv5_31)
  · exact LgI.ret rfl (zRd rfl) hah
theorem l_X10_firstBest_63 {N : Nat} {k24 : IH → Int → Int → Int → Int → Int → Option (Int × IH)} {k24F : AH → Int32 → Int32 → Int32 → Int32 → Int32 → Option (Int32 × AH)} {ah : IH} {v1 : Int} {v2 : Int} {v3 : Int} {v4 : Int} {v5 : Int} (hk24 : ∀ {z0 : IH} {z1 : Int} {z2 : Int} {z3 : Int} {z4 : Int} {z5 : Int}, HR z0 → zR z1 → zR z2 → zR z3 → zR z4 → zR z5 → LfI (k24 z0 z1 z2 z3 z4 z5) (k24F (zh z0) (zI z1) (zI z2) (zI z3) (zI z4) (zI z5))) (hah : HR ah) (hv1 : zR v1) (hv2 : zR v2) (hv3 : zR v3) (hv4 : zR v4) (hv5 : zR v5) : LfI (G_X10_firstBest_63 N k24 ah v1 v2 v3 v4 v5) (F_X10_firstBest_63 N k24F (zh ah) (zI v1) (zI v2) (zI v3) (zI v4) (zI v5)) := by
  unfold G_X10_firstBest_63 F_X10_firstBest_63
  refine Lg.letv (zwr (zadd rfl rfl)) wr_R (fun v5_63 hv5_63 => ?_)
  exact (hk24 hah hv1 hv2 hv3 hv4 hv5_63)
theorem l_X10_firstBest_24 {N : Nat}  : ∀ (n : Nat) {ah : IH} {v1 : Int} {v2 : Int} {v3 : Int} {v4 : Int} {v5 : Int}, HR ah → zR v1 → zR v2 → zR v3 → zR v4 → zR v5 → LfI (G_X10_firstBest_24 N n ah v1 v2 v3 v4 v5) (F_X10_firstBest_24 N n (zh ah) (zI v1) (zI v2) (zI v3) (zI v4) (zI v5)) := by
  intro n
  induction n with
  | zero => intros; exact Lg.none
  | succ n ih =>
    intro ah v1 v2 v3 v4 v5 hah hv1 hv2 hv3 hv4 hv5
    unfold G_X10_firstBest_24 F_X10_firstBest_24
    refine Lg.g (zadd rfl rfl) rfl (by decide) (fun g1 => ?_)
    refine Lg.le (zlk (zadd rfl rfl) g1) rfl (hah _ _) hv5 ?_ ?_
    · exact LgI.ret rfl (zRd rfl) hah
    · refine Lg.le rfl rfl (zRd rfl) hv4 ?_ ?_
      · exact (l_X10_firstBest_63 ih hah hv1 hv2 hv3 hv4 hv5)
      · refine Lg.b (l_X10_needBy hah hv1 hv5 hv3) (fun r52 a52 hr52 ha52 => ?_)
        refine Lg.eq rfl rfl hr52 hv4 ?_ ?_
        · exact LgI.ret rfl hv5 ha52
        · exact (l_X10_firstBest_63 ih ha52 hv1 hv2 hv3 hv4 hv5)
theorem l_X10_firstBest {N : Nat} {ah : IH} {p1 : Int} {p2 : Int} {p3 : Int} (hah : HR ah) (hp1 : zR p1) (hp2 : zR p2) (hp3 : zR p3) : LfI (G_X10_firstBest N ah p1 p2 p3) (F_X10_firstBest N (zh ah) (zI p1) (zI p2) (zI p3)) := by
  unfold G_X10_firstBest F_X10_firstBest
  refine Lg.g (zadd (zmul rfl rfl) rfl) rfl (by decide) (fun g1 => ?_)
  refine Lg.letv (zlk (zadd (zmul rfl rfl) rfl) g1) (hah _ _) (fun v4_11 hv4_11 => ?_)
  refine Lg.g rfl rfl (by decide) (fun g2 => ?_)
  refine Lg.letv (zlk rfl g2) (hah _ _) (fun v5_22 hv5_22 => ?_)
  exact (l_X10_firstBest_24 _ hah hp1 hp2 hp3 hv4_11 hv5_22)
theorem l_X10_follow_9 {N : Nat}  : ∀ (n : Nat) {ah : IH} {v1 : Int} {v2 : Int} {v3 : Int}, HR ah → zR v1 → zR v2 → zR v3 → LfV (G_X10_follow_9 N n ah v1 v2 v3) (F_X10_follow_9 N n (zh ah) (zI v1) (zI v2) (zI v3)) := by
  intro n
  induction n with
  | zero => intros; exact Lg.none
  | succ n ih =>
    intro ah v1 v2 v3 hah hv1 hv2 hv3
    unfold G_X10_follow_9 F_X10_follow_9
    refine Lg.le rfl rfl (zRd rfl) (hah _ _) ?_ ?_
    · exact LgV.ret hah
    · refine Lg.le rfl rfl (hah _ _) hv2 ?_ ?_
      · exact LgV.ret hah
      · refine Lg.b (l_X10_firstBest hah hv1 hv2 hv3) (fun r33 a33 hr33 ha33 => ?_)
        refine Lg.letv rfl hr33 (fun v4_36 hv4_36 => ?_)
        refine Lg.eq rfl rfl hv4_36 (zRd rfl) ?_ ?_
        · exact LgV.ret ha33
        · refine Lg.g rfl rfl (by decide) (fun g1 => ?_)
          refine Lg.wrt ha33 rfl (zix rfl g1) rfl hv4_36 (fun a55 ha55 => ?_)
          refine Lg.wrt ha55 rfl rfl (zwr (zadd rfl rfl)) wr_R (fun a63 ha63 => ?_)
          refine Lg.g rfl rfl (by decide) (fun g2 => ?_)
          refine Lg.letv (zlk rfl g2) (ha63 _ _) (fun v2_76 hv2_76 => ?_)
          refine Lg.g rfl rfl (by decide) (fun g3 => ?_)
          refine Lg.letv (zwr (zadd rfl (zlk rfl g3))) wr_R (fun v3_89 hv3_89 => ?_)
          exact (ih ha63 hv1 hv2_76 hv3_89)
theorem l_X10_follow {N : Nat} {ah : IH} {p1 : Int} (hah : HR ah) (hp1 : zR p1) : LfV (G_X10_follow N ah p1) (F_X10_follow N (zh ah) (zI p1)) := by
  unfold G_X10_follow F_X10_follow
  refine Lg.wrt hah rfl rfl rfl (zRd rfl) (fun a2 ha2 => ?_)
  refine Lg.letv rfl (zRd rfl) (fun v2_6 hv2_6 => ?_)
  refine Lg.letv rfl (zRd rfl) (fun v3_8 hv3_8 => ?_)
  exact (l_X10_follow_9 _ ha2 hp1 hv2_6 hv3_8)
theorem l_X10_needAt_15 {N : Nat}  : ∀ (n : Nat) {ah : IH} {v1 : Int} {v2 : Int} {v3 : Int} {v4 : Int} {v5 : Int}, HR ah → zR v1 → zR v2 → zR v3 → zR v4 → zR v5 → LfI (G_X10_needAt_15 N n ah v1 v2 v3 v4 v5) (F_X10_needAt_15 N n (zh ah) (zI v1) (zI v2) (zI v3) (zI v4) (zI v5)) := by
  intro n
  induction n with
  | zero => intros; exact Lg.none
  | succ n ih =>
    intro ah v1 v2 v3 v4 v5 hah hv1 hv2 hv3 hv4 hv5
    unfold G_X10_needAt_15 F_X10_needAt_15
    refine Lg.g (zadd rfl rfl) rfl (by decide) (fun g1 => ?_)
    refine Lg.le (zlk (zadd rfl rfl) g1) rfl (hah _ _) hv5 ?_ ?_
    · exact LgI.ret rfl hv4 hah
    · refine Lg.b (l_X10_needBy hah hv1 hv5 hv3) (fun r38 a38 hr38 ha38 => ?_)
      refine Lg.letv (zmin rfl rfl hv4 hr38) (min_R hv4 hr38) (fun v4_44 hv4_44 => ?_)
      refine Lg.letv (zwr (zadd rfl rfl)) wr_R (fun v5_46 hv5_46 => ?_)
      exact (ih ha38 hv1 hv2 hv3 hv4_44 hv5_46)
theorem l_X10_needAt {N : Nat} {ah : IH} {p1 : Int} {p2 : Int} {p3 : Int} (hah : HR ah) (hp1 : zR p1) (hp2 : zR p2) (hp3 : zR p3) : LfI (G_X10_needAt N ah p1 p2 p3) (F_X10_needAt N (zh ah) (zI p1) (zI p2) (zI p3)) := by
  unfold G_X10_needAt F_X10_needAt
  refine Lg.letv rfl (zRd rfl) (fun v4_2 hv4_2 => ?_)
  refine Lg.g rfl rfl (by decide) (fun g1 => ?_)
  refine Lg.letv (zlk rfl g1) (hah _ _) (fun v5_13 hv5_13 => ?_)
  exact (l_X10_needAt_15 _ hah hp1 hp2 hp3 hv4_2 hv5_13)
theorem l_X10_spell_71 {N : Nat} {k18 : IH → Int → Int → Int → Option IH} {k18F : AH → Int32 → Int32 → Int32 → Option AH} {k25 : IH → Int → Int → Int → Int → Option IH} {k25F : AH → Int32 → Int32 → Int32 → Int32 → Option AH} {ah : IH} {v1 : Int} {v2 : Int} {v3 : Int} {v4 : Int} {s1 : Int} {s2 : Int} (hk18 : ∀ {z0 : IH} {z1 : Int} {z2 : Int} {z3 : Int}, HR z0 → zR z1 → zR z2 → zR z3 → LfV (k18 z0 z1 z2 z3) (k18F (zh z0) (zI z1) (zI z2) (zI z3))) (hk25 : ∀ {z0 : IH} {z1 : Int} {z2 : Int} {z3 : Int} {z4 : Int}, HR z0 → zR z1 → zR z2 → zR z3 → zR z4 → LfV (k25 z0 z1 z2 z3 z4) (k25F (zh z0) (zI z1) (zI z2) (zI z3) (zI z4))) (hah : HR ah) (hv1 : zR v1) (hv2 : zR v2) (hv3 : zR v3) (hv4 : zR v4) (hs1 : zR s1) (hs2 : zR s2) : LfV (G_X10_spell_71 N k18 k25 ah v1 v2 v3 v4 s1 s2) (F_X10_spell_71 N k18F k25F (zh ah) (zI v1) (zI v2) (zI v3) (zI v4) (zI s1) (zI s2)) := by
  unfold G_X10_spell_71 F_X10_spell_71
  refine Lg.g rfl rfl (by decide) (fun g1 => ?_)
  refine Lg.wrt hah rfl (zix rfl g1) rfl hs2 (fun a71 ha71 => ?_)
  refine Lg.letv (zwr (zadd rfl rfl)) wr_R (fun v4_72 hv4_72 => ?_)
  exact (hk25 ha71 hv1 hv2 hv3 hv4_72)
theorem l_X10_spell_63 {N : Nat} {k18 : IH → Int → Int → Int → Option IH} {k18F : AH → Int32 → Int32 → Int32 → Option AH} {k25 : IH → Int → Int → Int → Int → Option IH} {k25F : AH → Int32 → Int32 → Int32 → Int32 → Option AH} {ah : IH} {v1 : Int} {v2 : Int} {v3 : Int} {v4 : Int} {s1 : Int} (hk18 : ∀ {z0 : IH} {z1 : Int} {z2 : Int} {z3 : Int}, HR z0 → zR z1 → zR z2 → zR z3 → LfV (k18 z0 z1 z2 z3) (k18F (zh z0) (zI z1) (zI z2) (zI z3))) (hk25 : ∀ {z0 : IH} {z1 : Int} {z2 : Int} {z3 : Int} {z4 : Int}, HR z0 → zR z1 → zR z2 → zR z3 → zR z4 → LfV (k25 z0 z1 z2 z3 z4) (k25F (zh z0) (zI z1) (zI z2) (zI z3) (zI z4))) (hah : HR ah) (hv1 : zR v1) (hv2 : zR v2) (hv3 : zR v3) (hv4 : zR v4) (hs1 : zR s1) : LfV (G_X10_spell_63 N k18 k25 ah v1 v2 v3 v4 s1) (F_X10_spell_63 N k18F k25F (zh ah) (zI v1) (zI v2) (zI v3) (zI v4) (zI s1)) := by
  unfold G_X10_spell_63 F_X10_spell_63
  refine Lg.b (l_X10_needAt hah hv1 hv3 hv4) (fun r68 a68 hr68 ha68 => ?_)
  exact (l_X10_spell_71 hk18 hk25 ha68 hv1 hv2 hv3 hv4 hs1 hr68)
theorem l_X10_spell_25 {N : Nat} {k18 : IH → Int → Int → Int → Option IH} {k18F : AH → Int32 → Int32 → Int32 → Option AH} (hk18 : ∀ {z0 : IH} {z1 : Int} {z2 : Int} {z3 : Int}, HR z0 → zR z1 → zR z2 → zR z3 → LfV (k18 z0 z1 z2 z3) (k18F (zh z0) (zI z1) (zI z2) (zI z3))) : ∀ (n : Nat) {ah : IH} {v1 : Int} {v2 : Int} {v3 : Int} {v4 : Int}, HR ah → zR v1 → zR v2 → zR v3 → zR v4 → LfV (G_X10_spell_25 N k18 n ah v1 v2 v3 v4) (F_X10_spell_25 N k18F n (zh ah) (zI v1) (zI v2) (zI v3) (zI v4)) := by
  intro n
  induction n with
  | zero => intros; exact Lg.none
  | succ n ih =>
    intro ah v1 v2 v3 v4 hah hv1 hv2 hv3 hv4
    unfold G_X10_spell_25 F_X10_spell_25
    refine Lg.lt rfl rfl hv2 hv4 ?_ ?_
    · refine Lg.letv (zwr (zadd rfl rfl)) wr_R (fun v3_78 hv3_78 => ?_)
      exact (hk18 hah hv1 hv2 hv3_78)
    · refine Lg.eq rfl rfl hv3 (hah _ _) ?_ ?_
      · refine Lg.eq rfl rfl hv4 hv2 ?_ ?_
        · exact (by rw [(show (((zI v3) * (13 : Int32)) + (zI v4)) = zI (wr ((v3 * 13) + v4)) from (zwr (zadd (zmul rfl rfl) rfl)))]; exact l_X10_spell_71 hk18 ih hah hv1 hv2 hv3 hv4 wr_R (zRd rfl))
        · exact (by rw [(show (((zI v3) * (13 : Int32)) + (zI v4)) = zI (wr ((v3 * 13) + v4)) from (zwr (zadd (zmul rfl rfl) rfl)))]; exact l_X10_spell_63 hk18 ih hah hv1 hv2 hv3 hv4 wr_R)
      · exact (by rw [(show (((zI v3) * (13 : Int32)) + (zI v4)) = zI (wr ((v3 * 13) + v4)) from (zwr (zadd (zmul rfl rfl) rfl)))]; exact l_X10_spell_63 hk18 ih hah hv1 hv2 hv3 hv4 wr_R)
theorem l_X10_spell_18 {N : Nat}  : ∀ (n : Nat) {ah : IH} {v1 : Int} {v2 : Int} {v3 : Int}, HR ah → zR v1 → zR v2 → zR v3 → LfV (G_X10_spell_18 N n ah v1 v2 v3) (F_X10_spell_18 N n (zh ah) (zI v1) (zI v2) (zI v3)) := by
  intro n
  induction n with
  | zero => intros; exact Lg.none
  | succ n ih =>
    intro ah v1 v2 v3 hah hv1 hv2 hv3
    unfold G_X10_spell_18 F_X10_spell_18
    refine Lg.lt rfl rfl hv3 (zRd rfl) ?_ ?_
    · refine Lg.wrt hah rfl rfl rfl (hah _ _) (fun a91 ha91 => ?_)
      refine Lg.bv (l_X10_follow ha91 hv1) (fun a96 ha96 => ?_)
      exact LgV.ret ha96
    · refine Lg.letv rfl (zRd rfl) (fun v4_23 hv4_23 => ?_)
      exact (l_X10_spell_25 ih _ hah hv1 hv2 hv3 hv4_23)
theorem l_X10_spell {N : Nat} {ah : IH} {p1 : Int} (hah : HR ah) (hp1 : zR p1) : LfV (G_X10_spell N ah p1) (F_X10_spell N (zh ah) (zI p1)) := by
  unfold G_X10_spell F_X10_spell
  refine Lg.g rfl rfl (by decide) (fun g1 => ?_)
  refine Lg.letv (zlk rfl g1) (hah _ _) (fun v2_9 hv2_9 => ?_)
  refine Lg.letv rfl (hah _ _) (fun v3_17 hv3_17 => ?_)
  exact (l_X10_spell_18 _ hah hp1 hv2_9 hv3_17)
theorem l_X11_findWay {N : Nat} {ah : IH} {p1 : Int} (hah : HR ah) (hp1 : zR p1) : LfI (G_X11_findWay N ah p1) (F_X11_findWay N (zh ah) (zI p1)) := by
  unfold G_X11_findWay F_X11_findWay
  refine Lg.bv (l_X0_lookAlone hah hp1) (fun a5 ha5 => ?_)
  refine Lg.b (l_X0_mendedWord ha5 hp1) (fun r13 a13 hr13 ha13 => ?_)
  refine Lg.letv rfl hr13 (fun v2_16 hv2_16 => ?_)
  refine Lg.eq rfl rfl hv2_16 (zRd rfl) ?_ ?_
  · exact LgI.ret rfl (zRd rfl) ha13
  · refine Lg.g rfl rfl (by decide) (fun g1 => ?_)
    refine Lg.b (l_X5_cellsOf ha13 hp1) (fun r42 a42 hr42 ha42 => ?_)
    refine Lg.bv (by rw [(show (zh a13 32 (Int32.toNatClampNeg (zI p1))) = zI (a13 32 p1) from (zlk rfl g1))]; exact l_X4_ofCells ha42 (ha13 _ _) hr42) (fun a45 ha45 => ?_)
    refine Lg.bv (l_X10_spell ha45 hv2_16) (fun a53 ha53 => ?_)
    exact LgI.ret rfl (zRd rfl) ha53
theorem l_X4_ofWord_46 {N : Nat}  : ∀ (n : Nat) {ah : IH} {v2 : Int}, HR ah → zR v2 → LfV (G_X4_ofWord_46 N n ah v2) (F_X4_ofWord_46 N n (zh ah) (zI v2)) := by
  intro n
  induction n with
  | zero => intros; exact Lg.none
  | succ n ih =>
    intro ah v2 hah hv2
    unfold G_X4_ofWord_46 F_X4_ofWord_46
    refine Lg.le rfl rfl (hah _ _) hv2 ?_ ?_
    · refine Lg.bv (l_X4_end hah) (fun a81 ha81 => ?_)
      exact LgV.ret ha81
    · refine Lg.g rfl rfl (by decide) (fun g1 => ?_)
      refine Lg.wrt hah rfl (zix rfl g1) rfl (hah _ _) (fun a63 ha63 => ?_)
      refine Lg.bv (l_X4_addRead ha63 hv2) (fun a66 ha66 => ?_)
      refine Lg.bv (l_X4_addShapes ha66 hv2) (fun a71 ha71 => ?_)
      refine Lg.letv (zwr (zadd rfl rfl)) wr_R (fun v2_74 hv2_74 => ?_)
      exact (ih ha71 hv2_74)
theorem l_X4_ofWord_15 {N : Nat}  : ∀ (n : Nat) {ah : IH} {v1 : Int} {v2 : Int}, HR ah → zR v1 → zR v2 → LfV (G_X4_ofWord_15 N n ah v1 v2) (F_X4_ofWord_15 N n (zh ah) (zI v1) (zI v2)) := by
  intro n
  induction n with
  | zero => intros; exact Lg.none
  | succ n ih =>
    intro ah v1 v2 hah hv1 hv2
    unfold G_X4_ofWord_15 F_X4_ofWord_15
    refine Lg.le rfl rfl (hah _ _) hv2 ?_ ?_
    · refine Lg.letv rfl (zRd rfl) (fun v2_45 hv2_45 => ?_)
      exact (l_X4_ofWord_46 _ hah hv2_45)
    · refine Lg.b (l_X2_signOf hah hv1 hv2) (fun r34 a34 hr34 ha34 => ?_)
      refine Lg.g rfl rfl (by decide) (fun g1 => ?_)
      refine Lg.wrt ha34 rfl (zix rfl g1) rfl hr34 (fun a37 ha37 => ?_)
      refine Lg.letv (zwr (zadd rfl rfl)) wr_R (fun v2_38 hv2_38 => ?_)
      exact (ih ha37 hv1 hv2_38)
theorem l_X4_ofWord {N : Nat} {ah : IH} {p1 : Int} (hah : HR ah) (hp1 : zR p1) : LfV (G_X4_ofWord N ah p1) (F_X4_ofWord N (zh ah) (zI p1)) := by
  unfold G_X4_ofWord F_X4_ofWord
  refine Lg.g rfl rfl (by decide) (fun g1 => ?_)
  refine Lg.bv (by rw [(show (zh ah 5 (Int32.toNatClampNeg (zI p1))) = zI (ah 5 p1) from (zlk rfl g1))]; exact l_X4_begin hah (hah _ _)) (fun a10 ha10 => ?_)
  refine Lg.letv rfl (zRd rfl) (fun v2_14 hv2_14 => ?_)
  exact (l_X4_ofWord_15 _ ha10 hp1 hv2_14)
theorem l_X0_lookSurely {N : Nat} {ah : IH} {p1 : Int} (hah : HR ah) (hp1 : zR p1) : LfV (G_X0_lookSurely N ah p1) (F_X0_lookSurely N (zh ah) (zI p1)) := by
  unfold G_X0_lookSurely F_X0_lookSurely
  refine Lg.g (zadd rfl rfl) rfl (by decide) (fun g1 => ?_)
  refine Lg.eq (zlk (zadd rfl rfl) g1) rfl (hah _ _) (zRd rfl) ?_ ?_
  · refine Lg.bv (l_X4_ofWord hah hp1) (fun a20 ha20 => ?_)
    refine Lg.bv (l_X6_run ha20 (zRd rfl)) (fun a29 ha29 => ?_)
    refine Lg.bv (by rw [(show ((80 : Int32) + (zI p1)) = zI (wr (80 + p1)) from (zwr (zadd rfl rfl)))]; exact l_X0_keep ha29 wr_R) (fun a37 ha37 => ?_)
    exact LgV.ret ha37
  · exact LgV.ret hah
theorem l_X0_priceFor_2 {N : Nat}  : ∀ (n : Nat) {ah : IH} {v1 : Int} {v2 : Int} {v3 : Int}, HR ah → zR v1 → zR v2 → zR v3 → LfI (G_X0_priceFor_2 N n ah v1 v2 v3) (F_X0_priceFor_2 N n (zh ah) (zI v1) (zI v2) (zI v3)) := by
  intro n
  induction n with
  | zero => intros; exact Lg.none
  | succ n ih =>
    intro ah v1 v2 v3 hah hv1 hv2 hv3
    unfold G_X0_priceFor_2 F_X0_priceFor_2
    refine Lg.g rfl rfl (by decide) (fun g1 => ?_)
    refine Lg.le (zlk rfl g1) rfl (hah _ _) hv3 ?_ ?_
    · exact LgI.ret rfl (zRd rfl) hah
    · refine Lg.g (zadd (zmul rfl rfl) rfl) rfl (by decide) (fun g2 => ?_)
      refine Lg.eq (zlk (zadd (zmul rfl rfl) rfl) g2) rfl (hah _ _) hv2 ?_ ?_
      · refine Lg.g (zadd (zmul rfl rfl) rfl) rfl (by decide) (fun g3 => ?_)
        exact LgI.ret (zlk (zadd (zmul rfl rfl) rfl) g3) (hah _ _) hah
      · refine Lg.letv (zwr (zadd rfl rfl)) wr_R (fun v3_39 hv3_39 => ?_)
        exact (ih hah hv1 hv2 hv3_39)
theorem l_X0_priceFor {N : Nat} {ah : IH} {p1 : Int} {p2 : Int} (hah : HR ah) (hp1 : zR p1) (hp2 : zR p2) : LfI (G_X0_priceFor N ah p1 p2) (F_X0_priceFor N (zh ah) (zI p1) (zI p2)) := by
  unfold G_X0_priceFor F_X0_priceFor
  refine Lg.letv rfl (zRd rfl) (fun v3_1 hv3_1 => ?_)
  exact (l_X0_priceFor_2 _ hah hp1 hp2 hv3_1)
theorem l_X11_costBetween {N : Nat} {ah : IH} {p1 : Int} {p2 : Int} (hah : HR ah) (hp1 : zR p1) (hp2 : zR p2) : LfI (G_X11_costBetween N ah p1 p2) (F_X11_costBetween N (zh ah) (zI p1) (zI p2)) := by
  unfold G_X11_costBetween F_X11_costBetween
  refine Lg.bv (l_X0_lookSurely hah hp1) (fun a5 ha5 => ?_)
  refine Lg.b (by rw [(show ((80 : Int32) + (zI p1)) = zI (wr (80 + p1)) from (zwr (zadd rfl rfl)))]; exact l_X0_priceFor ha5 wr_R hp2) (fun r17 a17 hr17 ha17 => ?_)
  refine Lg.letv rfl hr17 (fun v3_20 hv3_20 => ?_)
  refine Lg.eq rfl rfl hv3_20 (zRd rfl) ?_ ?_
  · exact LgI.ret rfl (zRd rfl) ha17
  · refine Lg.g rfl rfl (by decide) (fun g1 => ?_)
    exact LgI.ret (zwr (zsub rfl (zlk rfl g1))) wr_R ha17
theorem l_X11_isLetter {N : Nat} {ah : IH} {p0 : Int} (hah : HR ah) (hp0 : zR p0) : LfI (G_X11_isLetter N ah p0) (F_X11_isLetter N (zh ah) (zI p0)) := by
  unfold G_X11_isLetter F_X11_isLetter
  refine Lg.lt rfl rfl hp0 (zRd rfl) ?_ ?_
  · exact LgI.ret rfl (zRd rfl) hah
  · refine Lg.le rfl rfl (zRd rfl) hp0 ?_ ?_
    · exact LgI.ret rfl (zRd rfl) hah
    · exact LgI.ret rfl (zRd rfl) hah
theorem l_X11_isDigit {N : Nat} {ah : IH} {p0 : Int} (hah : HR ah) (hp0 : zR p0) : LfI (G_X11_isDigit N ah p0) (F_X11_isDigit N (zh ah) (zI p0)) := by
  unfold G_X11_isDigit F_X11_isDigit
  refine Lg.lt rfl rfl hp0 (zRd rfl) ?_ ?_
  · exact LgI.ret rfl (zRd rfl) hah
  · refine Lg.lt rfl rfl (zRd rfl) hp0 ?_ ?_
    · exact LgI.ret rfl (zRd rfl) hah
    · exact LgI.ret rfl (zRd rfl) hah
theorem l_X0_openedFor {N : Nat} {ah : IH} {p1 : Int} {p2 : Int} (hah : HR ah) (hp1 : zR p1) (hp2 : zR p2) : LfI (G_X0_openedFor N ah p1 p2) (F_X0_openedFor N (zh ah) (zI p1) (zI p2)) := by
  unfold G_X0_openedFor F_X0_openedFor
  refine Lg.lt rfl rfl hp2 (zRd rfl) ?_ ?_
  · exact LgI.ret rfl (zRd rfl) hah
  · refine Lg.g rfl rfl (by decide) (fun g1 => ?_)
    refine Lg.le (zlk rfl g1) rfl (hah _ _) hp2 ?_ ?_
    · exact LgI.ret rfl (zRd rfl) hah
    · refine Lg.g (zadd (zmul rfl rfl) rfl) rfl (by decide) (fun g2 => ?_)
      exact LgI.ret (zlk (zadd (zmul rfl rfl) rfl) g2) (hah _ _) hah
theorem l_X0_nextCostsMore_61 {N : Nat} {ah : IH} {v1 : Int} {s0 : Int} (hah : HR ah) (hv1 : zR v1) (hs0 : zR s0) : LfI (G_X0_nextCostsMore_61 N ah v1 s0) (F_X0_nextCostsMore_61 N (zh ah) (zI v1) (zI s0)) := by
  unfold G_X0_nextCostsMore_61 F_X0_nextCostsMore_61
  refine Lg.letv rfl hs0 (fun v3_61 hv3_61 => ?_)
  refine Lg.b (l_X0_priceOf hah hv1 (zRd rfl)) (fun r66 a66 hr66 ha66 => ?_)
  exact LgI.ret (zwr (zsub rfl rfl)) wr_R ha66
theorem l_X0_nextCostsMore {N : Nat} {ah : IH} {p1 : Int} (hah : HR ah) (hp1 : zR p1) : LfI (G_X0_nextCostsMore N ah p1) (F_X0_nextCostsMore N (zh ah) (zI p1)) := by
  unfold G_X0_nextCostsMore F_X0_nextCostsMore
  refine Lg.b (l_X0_outsidePrice hah hp1) (fun r2 a2 hr2 ha2 => ?_)
  refine Lg.letv rfl hr2 (fun v2_5 hv2_5 => ?_)
  refine Lg.b (l_X0_mendedWord ha2 hp1) (fun r8 a8 hr8 ha8 => ?_)
  refine Lg.eq rfl rfl hr8 (zRd rfl) ?_ ?_
  · refine Lg.g rfl rfl (by decide) (fun g1 => ?_)
    refine Lg.eq (zlk rfl g1) rfl (ha8 _ _) (zRd rfl) ?_ ?_
    · exact LgI.ret rfl (zRd rfl) ha8
    · refine Lg.b (l_X0_priceOf ha8 hp1 (zRd rfl)) (fun r31 a31 hr31 ha31 => ?_)
      exact LgI.ret (zwr (zsub rfl rfl)) wr_R ha31
  · refine Lg.g rfl rfl (by decide) (fun g2 => ?_)
    refine Lg.le rfl (zlk rfl g2) (zRd rfl) (ha8 _ _) ?_ ?_
    · refine Lg.b (l_X0_priceOf ha8 hp1 (zRd rfl)) (fun r55 a55 hr55 ha55 => ?_)
      exact (by rw [(show (xmin (zI v2_5) (zI r55)) = zI (min v2_5 r55) from (zmin rfl rfl hv2_5 hr55))]; exact l_X0_nextCostsMore_61 ha55 hp1 (min_R hv2_5 hr55))
    · exact (l_X0_nextCostsMore_61 ha8 hp1 hv2_5)
theorem l_X1_dearOf_43 {N : Nat} {k : Nat} {k8 : IH → Int → Int → Int → Int → Option (Int × IH)} {k8F : AH → Int32 → Int32 → Int32 → Int32 → Option (Int32 × AH)} {ah : IH} {v1 : Int} {v2 : Int} {v3 : Int} {v4 : Int} (hk8 : ∀ {z0 : IH} {z1 : Int} {z2 : Int} {z3 : Int} {z4 : Int}, HR z0 → zR z1 → zR z2 → zR z3 → zR z4 → LfI (k8 z0 z1 z2 z3 z4) (k8F (zh z0) (zI z1) (zI z2) (zI z3) (zI z4))) (hah : HR ah) (hv1 : zR v1) (hv2 : zR v2) (hv3 : zR v3) (hv4 : zR v4) : LfI (G_X1_dearOf_43 N (k : Nat) k8 ah v1 v2 v3 v4) (F_X1_dearOf_43 N k k8F (zh ah) (zI v1) (zI v2) (zI v3) (zI v4)) := by
  unfold G_X1_dearOf_43 F_X1_dearOf_43
  refine Lg.letv (zwr (zadd rfl rfl)) wr_R (fun v4_43 hv4_43 => ?_)
  exact (hk8 hah hv1 hv2 hv3 hv4_43)
theorem l_X1_dearOf_8 {N : Nat} {k : Nat}  : ∀ (n : Nat) {ah : IH} {v1 : Int} {v2 : Int} {v3 : Int} {v4 : Int}, HR ah → zR v1 → zR v2 → zR v3 → zR v4 → LfI (G_X1_dearOf_8 N (k : Nat) n ah v1 v2 v3 v4) (F_X1_dearOf_8 N k n (zh ah) (zI v1) (zI v2) (zI v3) (zI v4)) := by
  intro n
  induction n with
  | zero => intros; exact Lg.none
  | succ n ih =>
    intro ah v1 v2 v3 v4 hah hv1 hv2 hv3 hv4
    unfold G_X1_dearOf_8 F_X1_dearOf_8
    refine Lg.lt rfl rfl hv4 (zRd rfl) ?_ ?_
    · exact LgI.ret rfl hv3 hah
    · refine Lg.g rfl rfl (by decide) (fun g1 => ?_)
      refine Lg.eq (zlk rfl g1) rfl (hah _ _) hv1 ?_ ?_
      · refine Lg.g rfl rfl (by decide) (fun g2 => ?_)
        refine Lg.eq (zlk rfl g2) rfl (hah _ _) hv2 ?_ ?_
        · refine Lg.g rfl rfl (by decide) (fun g3 => ?_)
          exact LgI.ret (zlk rfl g3) (hah _ _) hah
        · exact (l_X1_dearOf_43 ih hah hv1 hv2 hv3 hv4)
      · exact (l_X1_dearOf_43 ih hah hv1 hv2 hv3 hv4)
theorem l_X1_dearOf {N : Nat} {k : Nat} {ah : IH} {p1 : Int} {p2 : Int} {p3 : Int} (hah : HR ah) (hp1 : zR p1) (hp2 : zR p2) (hp3 : zR p3) : LfI (G_X1_dearOf N (k : Nat) ah p1 p2 p3) (F_X1_dearOf N k (zh ah) (zI p1) (zI p2) (zI p3)) := by
  unfold G_X1_dearOf F_X1_dearOf
  refine Lg.letv (zwr (zsub rfl rfl)) wr_R (fun v4_6 hv4_6 => ?_)
  exact (l_X1_dearOf_8 _ hah hp1 hp2 hp3 hv4_6)
theorem l_X9_skipBlanks_0 {N : Nat}  : ∀ (n : Nat) {ah : IH}, HR ah → LfV (G_X9_skipBlanks_0 N n ah) (F_X9_skipBlanks_0 N n (zh ah)) := by
  intro n
  induction n with
  | zero => intros; exact Lg.none
  | succ n ih =>
    intro ah hah
    unfold G_X9_skipBlanks_0 F_X9_skipBlanks_0
    refine Lg.le rfl rfl (hah _ _) (hah _ _) ?_ ?_
    · exact LgV.ret hah
    · refine Lg.g rfl rfl (by decide) (fun g1 => ?_)
      refine Lg.eq (zlk rfl g1) rfl (hah _ _) (zRd rfl) ?_ ?_
      · refine Lg.wrt hah rfl rfl (zwr (zadd rfl rfl)) wr_R (fun a32 ha32 => ?_)
        exact (ih ha32)
      · exact LgV.ret hah
theorem l_X9_skipBlanks {N : Nat} {ah : IH} (hah : HR ah) : LfV (G_X9_skipBlanks N ah) (F_X9_skipBlanks N (zh ah)) := by
  unfold G_X9_skipBlanks F_X9_skipBlanks
  exact (l_X9_skipBlanks_0 _ hah)
theorem l_X9_atEnd {N : Nat} {ah : IH} (hah : HR ah) : LfI (G_X9_atEnd N ah) (F_X9_atEnd N (zh ah)) := by
  unfold G_X9_atEnd F_X9_atEnd
  refine Lg.lt rfl rfl (hah _ _) (hah _ _) ?_ ?_
  · exact LgI.ret rfl (zRd rfl) hah
  · exact LgI.ret rfl (zRd rfl) hah
theorem l_X9_peek {N : Nat} {ah : IH} {p1 : Int} (hah : HR ah) (hp1 : zR p1) : LfI (G_X9_peek N ah p1) (F_X9_peek N (zh ah) (zI p1)) := by
  unfold G_X9_peek F_X9_peek
  refine Lg.letv (zwr (zadd rfl rfl)) wr_R (fun v2_6 hv2_6 => ?_)
  refine Lg.lt rfl rfl hv2_6 (zRd rfl) ?_ ?_
  · exact LgI.ret rfl (zRd rfl) hah
  · refine Lg.le rfl rfl (hah _ _) hv2_6 ?_ ?_
    · exact LgI.ret rfl (zRd rfl) hah
    · refine Lg.g rfl rfl (by decide) (fun g1 => ?_)
      exact LgI.ret (zlk rfl g1) (hah _ _) hah
theorem l_X9_refuse {N : Nat} {ah : IH} {p1 : Int} {p2 : Int} (hah : HR ah) (hp1 : zR p1) (hp2 : zR p2) : LfI (G_X9_refuse N ah p1 p2) (F_X9_refuse N (zh ah) (zI p1) (zI p2)) := by
  unfold G_X9_refuse F_X9_refuse
  refine Lg.wrt hah rfl rfl rfl hp1 (fun a2 ha2 => ?_)
  refine Lg.wrt ha2 rfl rfl rfl hp2 (fun a7 ha7 => ?_)
  exact LgI.ret rfl (zRd rfl) ha7
theorem l_X2_look_6 {N : Nat} {w1 : Nat}  : ∀ (n : Nat) {ah : IH} {v2 : Int} {v3 : Int} {v4 : Int} {v5 : Int}, HR ah → zR v2 → zR v3 → zR v4 → zR v5 → LfI (G_X2_look_6 N (w1 : Nat) n ah v2 v3 v4 v5) (F_X2_look_6 N w1 n (zh ah) (zI v2) (zI v3) (zI v4) (zI v5)) := by
  intro n
  induction n with
  | zero => intros; exact Lg.none
  | succ n ih =>
    intro ah v2 v3 v4 v5 hah hv2 hv3 hv4 hv5
    unfold G_X2_look_6 F_X2_look_6
    refine Lg.le (zwr (zadd rfl rfl)) rfl wr_R hv5 ?_ ?_
    · refine Lg.g rfl rfl (by decide) (fun g1 => ?_)
      exact LgI.ret (zlk rfl g1) (hah _ _) hah
    · refine Lg.g rfl rfl (by decide) (fun g2 => ?_)
      refine Lg.b (by rw [(show (zh ah w1 (Int32.toNatClampNeg (zI v5))) = zI (ah w1 v5) from (zlk rfl g2))]; exact l_X2_childOf hah hv4 (hah _ _)) (fun r21 a21 hr21 ha21 => ?_)
      refine Lg.letv rfl hr21 (fun v4_24 hv4_24 => ?_)
      refine Lg.eq rfl rfl hv4_24 (zRd rfl) ?_ ?_
      · exact LgI.ret rfl (zRd rfl) ha21
      · refine Lg.letv (zwr (zadd rfl rfl)) wr_R (fun v5_34 hv5_34 => ?_)
        exact (ih ha21 hv2 hv3 hv4_24 hv5_34)
theorem l_X2_look {N : Nat} {w1 : Nat} {ah : IH} {p2 : Int} {p3 : Int} (hah : HR ah) (hp2 : zR p2) (hp3 : zR p3) : LfI (G_X2_look N (w1 : Nat) ah p2 p3) (F_X2_look N w1 (zh ah) (zI p2) (zI p3)) := by
  unfold G_X2_look F_X2_look
  refine Lg.letv rfl (zRd rfl) (fun v4_1 hv4_1 => ?_)
  refine Lg.letv rfl hp2 (fun v5_4 hv5_4 => ?_)
  exact (l_X2_look_6 _ hah hp2 hp3 hv4_1 hv5_4)
theorem l_X1_readWord_66 {N : Nat} {k : Nat} {ah : IH} {v2 : Int} (hah : HR ah) (hv2 : zR v2) : LfI (G_X1_readWord_66 N (k : Nat) ah v2) (F_X1_readWord_66 N k (zh ah) (zI v2)) := by
  unfold G_X1_readWord_66 F_X1_readWord_66
  refine Lg.b (by rw [(show ((zh ah 2 3) - (zI v2)) = zI (wr ((ah 2 3) - v2)) from (zwr (zsub rfl rfl)))]; exact l_X2_look hah hv2 wr_R) (fun r81 a81 hr81 ha81 => ?_)
  refine Lg.letv rfl hr81 (fun v3_84 hv3_84 => ?_)
  refine Lg.eq rfl rfl hv3_84 (zRd rfl) ?_ ?_
  · refine Lg.b (l_X9_refuse ha81 (zRd rfl) hv2) (fun r93 a93 hr93 ha93 => ?_)
    exact LgI.ret rfl hv3_84 ha93
  · exact LgI.ret rfl hv3_84 ha81
theorem l_X1_readWord_53 {N : Nat} {k : Nat} {k25 : IH → Int → Option (Int × IH)} {k25F : AH → Int32 → Option (Int32 × AH)} {ah : IH} {v2 : Int} (hk25 : ∀ {z0 : IH} {z1 : Int}, HR z0 → zR z1 → LfI (k25 z0 z1) (k25F (zh z0) (zI z1))) (hah : HR ah) (hv2 : zR v2) : LfI (G_X1_readWord_53 N (k : Nat) k25 ah v2) (F_X1_readWord_53 N k k25F (zh ah) (zI v2)) := by
  unfold G_X1_readWord_53 F_X1_readWord_53
  refine Lg.wrt hah rfl rfl (zwr (zadd rfl rfl)) wr_R (fun a60 ha60 => ?_)
  exact (hk25 ha60 hv2)
theorem l_X1_readWord_25 {N : Nat} {k : Nat}  : ∀ (n : Nat) {ah : IH} {v2 : Int}, HR ah → zR v2 → LfI (G_X1_readWord_25 N (k : Nat) n ah v2) (F_X1_readWord_25 N k n (zh ah) (zI v2)) := by
  intro n
  induction n with
  | zero => intros; exact Lg.none
  | succ n ih =>
    intro ah v2 hah hv2
    unfold G_X1_readWord_25 F_X1_readWord_25
    refine Lg.b (l_X9_atEnd hah) (fun r26 a26 hr26 ha26 => ?_)
    refine Lg.eq rfl rfl hr26 (zRd rfl) ?_ ?_
    · refine Lg.b (l_X9_peek ha26 (zRd rfl)) (fun r34 a34 hr34 ha34 => ?_)
      refine Lg.b (l_X11_isLetter ha34 hr34) (fun r37 a37 hr37 ha37 => ?_)
      refine Lg.eq rfl rfl hr37 (zRd rfl) ?_ ?_
      · refine Lg.b (l_X9_peek ha37 (zRd rfl)) (fun r45 a45 hr45 ha45 => ?_)
        refine Lg.eq rfl rfl hr45 (zRd rfl) ?_ ?_
        · exact (l_X1_readWord_53 ih ha45 hv2)
        · exact (l_X1_readWord_66 ha45 hv2)
      · exact (l_X1_readWord_53 ih ha37 hv2)
    · exact (l_X1_readWord_66 ha26 hv2)
theorem l_X1_readWord {N : Nat} {k : Nat} {ah : IH} (hah : HR ah) : LfI (G_X1_readWord N (k : Nat) ah) (F_X1_readWord N k (zh ah)) := by
  unfold G_X1_readWord F_X1_readWord
  refine Lg.letv rfl (hah _ _) (fun v2_4 hv2_4 => ?_)
  refine Lg.b (l_X9_peek hah (zRd rfl)) (fun r7 a7 hr7 ha7 => ?_)
  refine Lg.b (l_X11_isLetter ha7 hr7) (fun r10 a10 hr10 ha10 => ?_)
  refine Lg.eq rfl rfl hr10 (zRd rfl) ?_ ?_
  · refine Lg.b (l_X9_refuse ha10 (zRd rfl) hv2_4) (fun r19 a19 hr19 ha19 => ?_)
    exact LgI.ret rfl (zRd rfl) ha19
  · exact (l_X1_readWord_25 _ ha10 hv2_4)
theorem l_X9_readNumber_100 {N : Nat} {ah : IH} {v2 : Int} (hah : HR ah) (hv2 : zR v2) : LfI (G_X9_readNumber_100 N ah v2) (F_X9_readNumber_100 N (zh ah) (zI v2)) := by
  unfold G_X9_readNumber_100 F_X9_readNumber_100
  refine Lg.b (l_X9_refuse hah (zRd rfl) hv2) (fun r103 a103 hr103 ha103 => ?_)
  exact LgI.ret rfl (zRd rfl) ha103
theorem l_X9_readNumber_89 {N : Nat} {ah : IH} {v1 : Int} {v2 : Int} {v3 : Int} (hah : HR ah) (hv1 : zR v1) (hv2 : zR v2) (hv3 : zR v3) : LfI (G_X9_readNumber_89 N ah v1 v2 v3) (F_X9_readNumber_89 N (zh ah) (zI v1) (zI v2) (zI v3)) := by
  unfold G_X9_readNumber_89 F_X9_readNumber_89
  refine Lg.lt rfl rfl hv3 hv1 ?_ ?_
  · exact (l_X9_readNumber_100 hah hv2)
  · refine Lg.le rfl rfl hv3 (zRd rfl) ?_ ?_
    · exact LgI.ret rfl hv3 hah
    · exact (l_X9_readNumber_100 hah hv2)
theorem l_X9_readNumber_27 {N : Nat}  : ∀ (n : Nat) {ah : IH} {v1 : Int} {v2 : Int} {v3 : Int}, HR ah → zR v1 → zR v2 → zR v3 → LfI (G_X9_readNumber_27 N n ah v1 v2 v3) (F_X9_readNumber_27 N n (zh ah) (zI v1) (zI v2) (zI v3)) := by
  intro n
  induction n with
  | zero => intros; exact Lg.none
  | succ n ih =>
    intro ah v1 v2 v3 hah hv1 hv2 hv3
    unfold G_X9_readNumber_27 F_X9_readNumber_27
    refine Lg.le rfl rfl (hah _ _) (hah _ _) ?_ ?_
    · exact (l_X9_readNumber_89 hah hv1 hv2 hv3)
    · refine Lg.g rfl rfl (by decide) (fun g1 => ?_)
      refine Lg.b (by rw [(show (zh ah 3 (Int32.toNatClampNeg (zh ah 2 3))) = zI (ah 3 (ah 2 3)) from (zlk rfl g1))]; exact l_X11_isDigit hah (hah _ _)) (fun r47 a47 hr47 ha47 => ?_)
      refine Lg.eq rfl rfl hr47 (zRd rfl) ?_ ?_
      · exact (l_X9_readNumber_89 ha47 hv1 hv2 hv3)
      · refine Lg.g rfl rfl (by decide) (fun g2 => ?_)
        refine Lg.letv (zmin (zwr (zsub (zadd (zmul rfl rfl) (zlk rfl g2)) rfl)) rfl wr_R (zRd rfl)) (min_R wr_R (zRd rfl)) (fun v3_75 hv3_75 => ?_)
        refine Lg.wrt ha47 rfl rfl (zwr (zadd rfl rfl)) wr_R (fun a83 ha83 => ?_)
        exact (ih ha83 hv1 hv2 hv3_75)
theorem l_X9_readNumber {N : Nat} {ah : IH} {p1 : Int} (hah : HR ah) (hp1 : zR p1) : LfI (G_X9_readNumber N ah p1) (F_X9_readNumber N (zh ah) (zI p1)) := by
  unfold G_X9_readNumber F_X9_readNumber
  refine Lg.letv rfl (hah _ _) (fun v2_4 hv2_4 => ?_)
  refine Lg.b (l_X9_peek hah (zRd rfl)) (fun r7 a7 hr7 ha7 => ?_)
  refine Lg.b (l_X11_isDigit ha7 hr7) (fun r10 a10 hr10 ha10 => ?_)
  refine Lg.eq rfl rfl hr10 (zRd rfl) ?_ ?_
  · refine Lg.b (l_X9_refuse ha10 (zRd rfl) hv2_4) (fun r19 a19 hr19 ha19 => ?_)
    exact LgI.ret rfl (zRd rfl) ha19
  · refine Lg.letv rfl (zRd rfl) (fun v3_26 hv3_26 => ?_)
    exact (l_X9_readNumber_27 _ ha10 hp1 hv2_4 hv3_26)
theorem l_X9_readEnding_39 {N : Nat} {ah : IH} {v3 : Int} (hah : HR ah) (hv3 : zR v3) : LfI (G_X9_readEnding_39 N ah v3) (F_X9_readEnding_39 N (zh ah) (zI v3)) := by
  unfold G_X9_readEnding_39 F_X9_readEnding_39
  refine Lg.b (l_X9_peek hah (zRd rfl)) (fun r41 a41 hr41 ha41 => ?_)
  refine Lg.eq rfl rfl hr41 (zRd rfl) ?_ ?_
  · refine Lg.wrt ha41 rfl rfl (zwr (zadd rfl rfl)) wr_R (fun a68 ha68 => ?_)
    exact LgI.ret rfl hv3 ha68
  · refine Lg.b (l_X9_refuse ha41 (zRd rfl) (ha41 _ _)) (fun r55 a55 hr55 ha55 => ?_)
    exact LgI.ret rfl (zRd rfl) ha55
theorem l_X9_readEnding_22 {N : Nat} {ah : IH} {v2 : Int} (hah : HR ah) (hv2 : zR v2) : LfI (G_X9_readEnding_22 N ah v2) (F_X9_readEnding_22 N (zh ah) (zI v2)) := by
  unfold G_X9_readEnding_22 F_X9_readEnding_22
  refine Lg.b (l_X9_readNumber hah hv2) (fun r24 a24 hr24 ha24 => ?_)
  refine Lg.letv rfl hr24 (fun v3_27 hv3_27 => ?_)
  refine Lg.eq rfl rfl hv3_27 (zRd rfl) ?_ ?_
  · exact LgI.ret rfl (zRd rfl) ha24
  · refine Lg.bv (l_X9_skipBlanks ha24) (fun a36 ha36 => ?_)
    exact (l_X9_readEnding_39 ha36 hv3_27)
theorem l_X9_readEnding {N : Nat} {ah : IH} {p1 : Int} {p2 : Int} (hah : HR ah) (hp1 : zR p1) (hp2 : zR p2) : LfI (G_X9_readEnding N ah p1 p2) (F_X9_readEnding N (zh ah) (zI p1) (zI p2)) := by
  unfold G_X9_readEnding F_X9_readEnding
  refine Lg.bv (l_X9_skipBlanks hah) (fun a1 ha1 => ?_)
  refine Lg.letv rfl hp1 (fun v3_5 hv3_5 => ?_)
  refine Lg.eq rfl rfl hp1 (zRd rfl) ?_ ?_
  · exact (l_X9_readEnding_22 ha1 hp2)
  · refine Lg.b (l_X9_peek ha1 (zRd rfl)) (fun r13 a13 hr13 ha13 => ?_)
    refine Lg.b (l_X11_isDigit ha13 hr13) (fun r16 a16 hr16 ha16 => ?_)
    refine Lg.eq rfl rfl hr16 (zRd rfl) ?_ ?_
    · exact (l_X9_readEnding_39 ha16 hv3_5)
    · exact (l_X9_readEnding_22 ha16 hp2)
theorem l_X1_readEntry_30 {N : Nat} {k : Nat} {ah : IH} (hah : HR ah) : LfI (G_X1_readEntry_30 N (k : Nat) ah) (F_X1_readEntry_30 N k (zh ah)) := by
  unfold G_X1_readEntry_30 F_X1_readEntry_30
  refine Lg.b (l_X1_readWord hah) (fun r32 a32 hr32 ha32 => ?_)
  refine Lg.letv rfl hr32 (fun v2_35 hv2_35 => ?_)
  refine Lg.eq rfl rfl hv2_35 (zRd rfl) ?_ ?_
  · exact LgI.ret rfl (zRd rfl) ha32
  · refine Lg.b (l_X9_peek ha32 (zRd rfl)) (fun r45 a45 hr45 ha45 => ?_)
    refine Lg.eq rfl rfl hr45 (zRd rfl) ?_ ?_
    · refine Lg.bv (l_X9_skipBlanks ha45) (fun a64 ha64 => ?_)
      refine Lg.b (l_X1_readWord ha64) (fun r69 a69 hr69 ha69 => ?_)
      refine Lg.letv rfl hr69 (fun v3_72 hv3_72 => ?_)
      refine Lg.eq rfl rfl hv3_72 (zRd rfl) ?_ ?_
      · exact LgI.ret rfl (zRd rfl) ha69
      · refine Lg.b (l_X9_readEnding ha69 (zRd rfl) (zRd rfl)) (fun r83 a83 hr83 ha83 => ?_)
        refine Lg.letv rfl hr83 (fun v4_86 hv4_86 => ?_)
        refine Lg.eq rfl rfl hv4_86 (zRd rfl) ?_ ?_
        · exact LgI.ret rfl (zRd rfl) ha83
        · refine Lg.g rfl rfl (by decide) (fun g1 => ?_)
          refine Lg.wrt ha83 rfl (zix rfl g1) rfl hv2_35 (fun a105 ha105 => ?_)
          refine Lg.g rfl rfl (by decide) (fun g2 => ?_)
          refine Lg.wrt ha105 rfl (zix rfl g2) rfl hv3_72 (fun a115 ha115 => ?_)
          refine Lg.g rfl rfl (by decide) (fun g3 => ?_)
          refine Lg.wrt ha115 rfl (zix rfl g3) rfl hv4_86 (fun a126 ha126 => ?_)
          refine Lg.wrt ha126 rfl rfl (zwr (zadd rfl rfl)) wr_R (fun a134 ha134 => ?_)
          exact LgI.ret rfl (zRd rfl) ha134
    · refine Lg.b (l_X9_refuse ha45 (zRd rfl) (ha45 _ _)) (fun r59 a59 hr59 ha59 => ?_)
      refine Lg.bo rfl ?_
      exact LgI.ret rfl hr59 ha59
theorem l_X1_readEntry {N : Nat} {k : Nat} {ah : IH} (hah : HR ah) : LfI (G_X1_readEntry N (k : Nat) ah) (F_X1_readEntry N k (zh ah)) := by
  unfold G_X1_readEntry F_X1_readEntry
  refine Lg.b (l_X9_peek hah (zRd rfl)) (fun r2 a2 hr2 ha2 => ?_)
  refine Lg.b (l_X11_isLetter ha2 hr2) (fun r5 a5 hr5 ha5 => ?_)
  refine Lg.eq rfl rfl hr5 (zRd rfl) ?_ ?_
  · exact (l_X1_readEntry_30 ha5)
  · refine Lg.lt rfl rfl (ha5 _ _) (zRd rfl) ?_ ?_
    · exact (l_X1_readEntry_30 ha5)
    · refine Lg.b (l_X9_refuse ha5 (zRd rfl) (ha5 _ _)) (fun r26 a26 hr26 ha26 => ?_)
      refine Lg.bo rfl ?_
      exact LgI.ret rfl hr26 ha26
theorem l_X1_readText_7 {N : Nat} {k : Nat}  : ∀ (n : Nat) {ah : IH} {v2 : Int}, HR ah → zR v2 → LfI (G_X1_readText_7 N (k : Nat) n ah v2) (F_X1_readText_7 N k n (zh ah) (zI v2)) := by
  intro n
  induction n with
  | zero => intros; exact Lg.none
  | succ n ih =>
    intro ah v2 hah hv2
    unfold G_X1_readText_7 F_X1_readText_7
    refine Lg.lt rfl rfl (zRd rfl) hv2 ?_ ?_
    · exact LgI.ret rfl (zRd rfl) hah
    · refine Lg.bv (l_X9_skipBlanks hah) (fun a14 ha14 => ?_)
      refine Lg.b (l_X9_atEnd ha14) (fun r18 a18 hr18 ha18 => ?_)
      refine Lg.eq rfl rfl hr18 (zRd rfl) ?_ ?_
      · refine Lg.b (l_X1_readEntry ha18) (fun r28 a28 hr28 ha28 => ?_)
        refine Lg.eq rfl rfl hr28 (zRd rfl) ?_ ?_
        · exact LgI.ret rfl (zRd rfl) ha28
        · refine Lg.letv (zwr (zadd rfl rfl)) wr_R (fun v2_36 hv2_36 => ?_)
          exact (ih ha28 hv2_36)
      · exact LgI.ret rfl (zRd rfl) ha18
theorem l_X1_readText {N : Nat} {k : Nat} {ah : IH} (hah : HR ah) : LfI (G_X1_readText N (k : Nat) ah) (F_X1_readText N k (zh ah)) := by
  unfold G_X1_readText F_X1_readText
  refine Lg.wrt hah rfl rfl rfl (zRd rfl) (fun a2 ha2 => ?_)
  refine Lg.letv rfl (zRd rfl) (fun v2_6 hv2_6 => ?_)
  exact (l_X1_readText_7 _ ha2 hv2_6)
theorem l_X2_countChildren_12 {N : Nat}  : ∀ (n : Nat) {ah : IH} {v2 : Int} {v3 : Int} {v4 : Int}, HR ah → zR v2 → zR v3 → zR v4 → LfI (G_X2_countChildren_12 N n ah v2 v3 v4) (F_X2_countChildren_12 N n (zh ah) (zI v2) (zI v3) (zI v4)) := by
  intro n
  induction n with
  | zero => intros; exact Lg.none
  | succ n ih =>
    intro ah v2 v3 v4 hah hv2 hv3 hv4
    unfold G_X2_countChildren_12 F_X2_countChildren_12
    refine Lg.lt rfl rfl (zRd rfl) hv4 ?_ ?_
    · exact LgI.ret rfl hv2 hah
    · refine Lg.lt rfl rfl hv3 (zRd rfl) ?_ ?_
      · exact LgI.ret rfl hv2 hah
      · refine Lg.letv (zwr (zadd rfl rfl)) wr_R (fun v2_23 hv2_23 => ?_)
        refine Lg.g rfl rfl (by decide) (fun g1 => ?_)
        refine Lg.letv (zlk rfl g1) (hah _ _) (fun v3_32 hv3_32 => ?_)
        refine Lg.letv (zwr (zadd rfl rfl)) wr_R (fun v4_33 hv4_33 => ?_)
        exact (ih hah hv2_23 hv3_32 hv4_33)
theorem l_X2_countChildren {N : Nat} {ah : IH} {p1 : Int} (hah : HR ah) (hp1 : zR p1) : LfI (G_X2_countChildren N ah p1) (F_X2_countChildren N (zh ah) (zI p1)) := by
  unfold G_X2_countChildren F_X2_countChildren
  refine Lg.letv rfl (zRd rfl) (fun v2_1 hv2_1 => ?_)
  refine Lg.g rfl rfl (by decide) (fun g1 => ?_)
  refine Lg.letv (zlk rfl g1) (hah _ _) (fun v3_8 hv3_8 => ?_)
  refine Lg.letv rfl (zRd rfl) (fun v4_10 hv4_10 => ?_)
  exact (l_X2_countChildren_12 _ hah hv2_1 hv3_8 hv4_10)
theorem l_X2_passWord_56 {N : Nat} {k4 : IH → Int → Int → Option (Int × IH)} {k4F : AH → Int32 → Int32 → Option (Int32 × AH)} {ah : IH} {v3 : Int} {v4 : Int} (hk4 : ∀ {z0 : IH} {z1 : Int} {z2 : Int}, HR z0 → zR z1 → zR z2 → LfI (k4 z0 z1 z2) (k4F (zh z0) (zI z1) (zI z2))) (hah : HR ah) (hv3 : zR v3) (hv4 : zR v4) : LfI (G_X2_passWord_56 N k4 ah v3 v4) (F_X2_passWord_56 N k4F (zh ah) (zI v3) (zI v4)) := by
  unfold G_X2_passWord_56 F_X2_passWord_56
  refine Lg.eq rfl rfl hv3 (zRd rfl) ?_ ?_
  · refine Lg.b (l_X9_refuse hah (zRd rfl) (hah _ _)) (fun r68 a68 hr68 ha68 => ?_)
    refine Lg.bo rfl ?_
    exact LgI.ret rfl hr68 ha68
  · refine Lg.letv rfl hv4 (fun v2_74 hv2_74 => ?_)
    refine Lg.wrt hah rfl rfl (zwr (zadd rfl rfl)) wr_R (fun a82 ha82 => ?_)
    refine Lg.letv (zwr (zadd rfl rfl)) wr_R (fun v3_85 hv3_85 => ?_)
    exact (hk4 ha82 hv2_74 hv3_85)
theorem l_X2_passWord_50 {N : Nat} {k4 : IH → Int → Int → Option (Int × IH)} {k4F : AH → Int32 → Int32 → Option (Int32 × AH)} {ah : IH} (hk4 : ∀ {z0 : IH} {z1 : Int} {z2 : Int}, HR z0 → zR z1 → zR z2 → LfI (k4 z0 z1 z2) (k4F (zh z0) (zI z1) (zI z2))) (hah : HR ah) : LfI (G_X2_passWord_50 N k4 ah) (F_X2_passWord_50 N k4F (zh ah)) := by
  unfold G_X2_passWord_50 F_X2_passWord_50
  exact LgI.ret rfl (zRd rfl) hah
theorem l_X2_passWord_4 {N : Nat}  : ∀ (n : Nat) {ah : IH} {v2 : Int} {v3 : Int}, HR ah → zR v2 → zR v3 → LfI (G_X2_passWord_4 N n ah v2 v3) (F_X2_passWord_4 N n (zh ah) (zI v2) (zI v3)) := by
  intro n
  induction n with
  | zero => intros; exact Lg.none
  | succ n ih =>
    intro ah v2 v3 hah hv2 hv3
    unfold G_X2_passWord_4 F_X2_passWord_4
    refine Lg.lt rfl rfl (zRd rfl) hv3 ?_ ?_
    · exact LgI.ret rfl (zRd rfl) hah
    · refine Lg.b (l_X9_peek hah (zRd rfl)) (fun r12 a12 hr12 ha12 => ?_)
      refine Lg.letv rfl hr12 (fun v4_15 hv4_15 => ?_)
      refine Lg.b (l_X11_isLetter ha12 hv4_15) (fun r19 a19 hr19 ha19 => ?_)
      refine Lg.eq rfl rfl hr19 (zRd rfl) ?_ ?_
      · refine Lg.eq rfl rfl hv4_15 (zRd rfl) ?_ ?_
        · exact (l_X2_passWord_56 ih ha19 hv3 hv4_15)
        · refine Lg.eq rfl rfl hv2 (zRd rfl) ?_ ?_
          · refine Lg.b (l_X9_refuse ha19 (zRd rfl) (ha19 _ _)) (fun r44 a44 hr44 ha44 => ?_)
            refine Lg.eq rfl rfl hr44 (zRd rfl) ?_ ?_
            · exact LgI.ret rfl (zRd rfl) ha44
            · exact (l_X2_passWord_50 ih ha44)
          · exact (l_X2_passWord_50 ih ha19)
      · exact (l_X2_passWord_56 ih ha19 hv3 hv4_15)
theorem l_X2_passWord {N : Nat} {ah : IH} (hah : HR ah) : LfI (G_X2_passWord N ah) (F_X2_passWord N (zh ah)) := by
  unfold G_X2_passWord F_X2_passWord
  refine Lg.letv rfl (zRd rfl) (fun v2_1 hv2_1 => ?_)
  refine Lg.letv rfl (zRd rfl) (fun v3_3 hv3_3 => ?_)
  exact (l_X2_passWord_4 _ hah hv2_1 hv3_3)
theorem l_X2_isFresh_59 {N : Nat} {w1 : Nat} {k3 : IH → Int → Int → Int → Option (Int × IH)} {k3F : AH → Int32 → Int32 → Int32 → Option (Int32 × AH)} {ah : IH} {v2 : Int} {v3 : Int} {v4 : Int} {v5 : Int} (hk3 : ∀ {z0 : IH} {z1 : Int} {z2 : Int} {z3 : Int}, HR z0 → zR z1 → zR z2 → zR z3 → LfI (k3 z0 z1 z2 z3) (k3F (zh z0) (zI z1) (zI z2) (zI z3))) (hah : HR ah) (hv2 : zR v2) (hv3 : zR v3) (hv4 : zR v4) (hv5 : zR v5) : LfI (G_X2_isFresh_59 N (w1 : Nat) k3 ah v2 v3 v4 v5) (F_X2_isFresh_59 N w1 k3F (zh ah) (zI v2) (zI v3) (zI v4) (zI v5)) := by
  unfold G_X2_isFresh_59 F_X2_isFresh_59
  refine Lg.eq rfl rfl hv5 hv3 ?_ ?_
  · exact LgI.ret rfl (zRd rfl) hah
  · refine Lg.letv (zwr (zadd rfl rfl)) wr_R (fun v4_67 hv4_67 => ?_)
    exact (hk3 hah hv2 hv3 hv4_67)
theorem l_X2_isFresh_15 {N : Nat} {w1 : Nat} {k3 : IH → Int → Int → Int → Option (Int × IH)} {k3F : AH → Int32 → Int32 → Int32 → Option (Int32 × AH)} (hk3 : ∀ {z0 : IH} {z1 : Int} {z2 : Int} {z3 : Int}, HR z0 → zR z1 → zR z2 → zR z3 → LfI (k3 z0 z1 z2 z3) (k3F (zh z0) (zI z1) (zI z2) (zI z3))) : ∀ (n : Nat) {ah : IH} {v2 : Int} {v3 : Int} {v4 : Int} {v5 : Int}, HR ah → zR v2 → zR v3 → zR v4 → zR v5 → LfI (G_X2_isFresh_15 N (w1 : Nat) k3 n ah v2 v3 v4 v5) (F_X2_isFresh_15 N w1 k3F n (zh ah) (zI v2) (zI v3) (zI v4) (zI v5)) := by
  intro n
  induction n with
  | zero => intros; exact Lg.none
  | succ n ih =>
    intro ah v2 v3 v4 v5 hah hv2 hv3 hv4 hv5
    unfold G_X2_isFresh_15 F_X2_isFresh_15
    refine Lg.g rfl rfl (by decide) (fun g1 => ?_)
    refine Lg.eq (zlk rfl g1) rfl (hah _ _) hv3 ?_ ?_
    · refine Lg.le rfl rfl hv3 hv5 ?_ ?_
      · exact (l_X2_isFresh_59 hk3 hah hv2 hv3 hv4 hv5)
      · refine Lg.g rfl rfl (by decide) (fun g2 => ?_)
        refine Lg.g (zadd (zlk rfl g2) rfl) rfl (by decide) (fun g3 => ?_)
        refine Lg.g (zadd rfl rfl) rfl (by decide) (fun g4 => ?_)
        refine Lg.eq (zlk (zadd (zlk rfl g2) rfl) g3) (zlk (zadd rfl rfl) g4) (hah _ _) (hah _ _) ?_ ?_
        · refine Lg.letv (zwr (zadd rfl rfl)) wr_R (fun v5_53 hv5_53 => ?_)
          exact (ih hah hv2 hv3 hv4 hv5_53)
        · exact (l_X2_isFresh_59 hk3 hah hv2 hv3 hv4 hv5)
    · exact (l_X2_isFresh_59 hk3 hah hv2 hv3 hv4 hv5)
theorem l_X2_isFresh_3 {N : Nat} {w1 : Nat}  : ∀ (n : Nat) {ah : IH} {v2 : Int} {v3 : Int} {v4 : Int}, HR ah → zR v2 → zR v3 → zR v4 → LfI (G_X2_isFresh_3 N (w1 : Nat) n ah v2 v3 v4) (F_X2_isFresh_3 N w1 n (zh ah) (zI v2) (zI v3) (zI v4)) := by
  intro n
  induction n with
  | zero => intros; exact Lg.none
  | succ n ih =>
    intro ah v2 v3 v4 hah hv2 hv3 hv4
    unfold G_X2_isFresh_3 F_X2_isFresh_3
    refine Lg.le rfl rfl (hah _ _) hv4 ?_ ?_
    · exact LgI.ret rfl (zRd rfl) hah
    · refine Lg.letv rfl (zRd rfl) (fun v5_13 hv5_13 => ?_)
      exact (l_X2_isFresh_15 ih _ hah hv2 hv3 hv4 hv5_13)
theorem l_X2_isFresh {N : Nat} {w1 : Nat} {ah : IH} {p2 : Int} {p3 : Int} (hah : HR ah) (hp2 : zR p2) (hp3 : zR p3) : LfI (G_X2_isFresh N (w1 : Nat) ah p2 p3) (F_X2_isFresh N w1 (zh ah) (zI p2) (zI p3)) := by
  unfold G_X2_isFresh F_X2_isFresh
  refine Lg.letv rfl (zRd rfl) (fun v4_1 hv4_1 => ?_)
  exact (l_X2_isFresh_3 _ hah hp2 hp3 hv4_1)
theorem l_X2_readEntry_88 {N : Nat} {ah : IH} {v2 : Int} (hah : HR ah) (hv2 : zR v2) : LfI (G_X2_readEntry_88 N ah v2) (F_X2_readEntry_88 N (zh ah) (zI v2)) := by
  unfold G_X2_readEntry_88 F_X2_readEntry_88
  refine Lg.b (l_X9_refuse hah (zRd rfl) hv2) (fun r91 a91 hr91 ha91 => ?_)
  refine Lg.bo rfl ?_
  exact LgI.ret rfl hr91 ha91
theorem l_X2_readEntry {N : Nat} {ah : IH} (hah : HR ah) : LfI (G_X2_readEntry N ah) (F_X2_readEntry N (zh ah)) := by
  unfold G_X2_readEntry F_X2_readEntry
  refine Lg.letv rfl (hah _ _) (fun v2_4 hv2_4 => ?_)
  refine Lg.b (l_X9_peek hah (zRd rfl)) (fun r7 a7 hr7 ha7 => ?_)
  refine Lg.b (l_X11_isLetter ha7 hr7) (fun r10 a10 hr10 ha10 => ?_)
  refine Lg.eq rfl rfl hr10 (zRd rfl) ?_ ?_
  · refine Lg.b (l_X9_refuse ha10 (zRd rfl) hv2_4) (fun r19 a19 hr19 ha19 => ?_)
    refine Lg.bo rfl ?_
    exact LgI.ret rfl hr19 ha19
  · refine Lg.lt (zwr (zadd rfl rfl)) rfl wr_R (zRd rfl) ?_ ?_
    · refine Lg.b (l_X2_passWord ha10) (fun r46 a46 hr46 ha46 => ?_)
      refine Lg.eq rfl rfl hr46 (zRd rfl) ?_ ?_
      · exact LgI.ret rfl (zRd rfl) ha46
      · refine Lg.letv (zwr (zsub rfl rfl)) wr_R (fun v3_60 hv3_60 => ?_)
        refine Lg.b (l_X2_look ha46 hv2_4 hv3_60) (fun r68 a68 hr68 ha68 => ?_)
        refine Lg.eq rfl rfl hr68 (zRd rfl) ?_ ?_
        · refine Lg.b (l_X2_isFresh ha68 hv2_4 hv3_60) (fun r82 a82 hr82 ha82 => ?_)
          refine Lg.eq rfl rfl hr82 (zRd rfl) ?_ ?_
          · refine Lg.b (l_X9_readEnding ha82 (zRd rfl) (zRd rfl)) (fun r98 a98 hr98 ha98 => ?_)
            refine Lg.letv rfl hr98 (fun v4_101 hv4_101 => ?_)
            refine Lg.eq rfl rfl hv4_101 (zRd rfl) ?_ ?_
            · exact LgI.ret rfl (zRd rfl) ha98
            · refine Lg.g rfl rfl (by decide) (fun g1 => ?_)
              refine Lg.wrt ha98 rfl (zix rfl g1) rfl hv2_4 (fun a120 ha120 => ?_)
              refine Lg.g rfl rfl (by decide) (fun g2 => ?_)
              refine Lg.wrt ha120 rfl (zix rfl g2) rfl hv3_60 (fun a130 ha130 => ?_)
              refine Lg.g rfl rfl (by decide) (fun g3 => ?_)
              refine Lg.wrt ha130 rfl (zix rfl g3) rfl hv4_101 (fun a141 ha141 => ?_)
              refine Lg.wrt ha141 rfl rfl (zwr (zadd rfl rfl)) wr_R (fun a149 ha149 => ?_)
              exact LgI.ret rfl (zRd rfl) ha149
          · exact (l_X2_readEntry_88 ha82 hv2_4)
        · exact (l_X2_readEntry_88 ha68 hv2_4)
    · refine Lg.b (l_X9_refuse ha10 (zRd rfl) hv2_4) (fun r40 a40 hr40 ha40 => ?_)
      refine Lg.bo rfl ?_
      exact LgI.ret rfl hr40 ha40
theorem l_X2_addWord_108 {N : Nat} {w1 : Nat} {ah : IH} {v3 : Int} {v4 : Int} (hah : HR ah) (hv3 : zR v3) (hv4 : zR v4) : LfV (G_X2_addWord_108 N (w1 : Nat) ah v3 v4) (F_X2_addWord_108 N w1 (zh ah) (zI v3) (zI v4)) := by
  unfold G_X2_addWord_108 F_X2_addWord_108
  refine Lg.g rfl rfl (by decide) (fun g1 => ?_)
  refine Lg.wrt hah rfl (zix rfl g1) rfl hv3 (fun a117 ha117 => ?_)
  refine Lg.g rfl rfl (by decide) (fun g2 => ?_)
  refine Lg.wrt ha117 rfl (zix rfl g2) rfl hv4 (fun a128 ha128 => ?_)
  refine Lg.g rfl rfl (by decide) (fun g3 => ?_)
  refine Lg.wrt ha128 rfl (zix rfl g3) rfl (ha128 _ _) (fun a139 ha139 => ?_)
  exact LgV.ret ha139
theorem l_X2_addWord_80 {N : Nat} {w1 : Nat} {k16 : IH → Int → Int → Int → Int → Option IH} {k16F : AH → Int32 → Int32 → Int32 → Int32 → Option AH} {ah : IH} {v2 : Int} {v3 : Int} {v5 : Int} {v7 : Int} (hk16 : ∀ {z0 : IH} {z1 : Int} {z2 : Int} {z3 : Int} {z4 : Int}, HR z0 → zR z1 → zR z2 → zR z3 → zR z4 → LfV (k16 z0 z1 z2 z3 z4) (k16F (zh z0) (zI z1) (zI z2) (zI z3) (zI z4))) (hah : HR ah) (hv2 : zR v2) (hv3 : zR v3) (hv5 : zR v5) (hv7 : zR v7) : LfV (G_X2_addWord_80 N (w1 : Nat) k16 ah v2 v3 v5 v7) (F_X2_addWord_80 N w1 k16F (zh ah) (zI v2) (zI v3) (zI v5) (zI v7)) := by
  unfold G_X2_addWord_80 F_X2_addWord_80
  refine Lg.eq rfl rfl hv7 (zRd rfl) ?_ ?_
  · exact LgV.ret hah
  · refine Lg.letv rfl hv7 (fun v4_89 hv4_89 => ?_)
    refine Lg.g rfl rfl (by decide) (fun g1 => ?_)
    refine Lg.g rfl rfl (by decide) (fun g2 => ?_)
    refine Lg.wrt hah rfl (zix rfl g2) (zwr (zadd (zlk rfl g2) rfl)) wr_R (fun a101 ha101 => ?_)
    refine Lg.letv (zwr (zadd rfl rfl)) wr_R (fun v5_102 hv5_102 => ?_)
    exact (hk16 ha101 hv2 hv3 hv4_89 hv5_102)
theorem l_X2_addWord_16 {N : Nat} {w1 : Nat}  : ∀ (n : Nat) {ah : IH} {v2 : Int} {v3 : Int} {v4 : Int} {v5 : Int}, HR ah → zR v2 → zR v3 → zR v4 → zR v5 → LfV (G_X2_addWord_16 N (w1 : Nat) n ah v2 v3 v4 v5) (F_X2_addWord_16 N w1 n (zh ah) (zI v2) (zI v3) (zI v4) (zI v5)) := by
  intro n
  induction n with
  | zero => intros; exact Lg.none
  | succ n ih =>
    intro ah v2 v3 v4 v5 hah hv2 hv3 hv4 hv5
    unfold G_X2_addWord_16 F_X2_addWord_16
    refine Lg.le rfl rfl hv3 hv5 ?_ ?_
    · exact (l_X2_addWord_108 hah hv3 hv4)
    · refine Lg.le rfl rfl (zRd rfl) hv5 ?_ ?_
      · exact (l_X2_addWord_108 hah hv3 hv4)
      · refine Lg.g (zadd rfl rfl) rfl (by decide) (fun g1 => ?_)
        refine Lg.letv (zlk (zadd rfl rfl) g1) (hah _ _) (fun v6_35 hv6_35 => ?_)
        refine Lg.g (zadd (zmul rfl rfl) rfl) rfl (by decide) (fun g2 => ?_)
        refine Lg.wrt hah rfl (zix (zadd (zmul rfl rfl) rfl) g2) rfl hv6_35 (fun a53 ha53 => ?_)
        refine Lg.b (l_X2_childOf ha53 hv4 hv6_35) (fun r59 a59 hr59 ha59 => ?_)
        refine Lg.letv rfl hr59 (fun v7_62 hv7_62 => ?_)
        refine Lg.eq rfl rfl hv7_62 (zRd rfl) ?_ ?_
        · refine Lg.b (l_X2_addNode ha59 hv4 hv6_35) (fun r75 a75 hr75 ha75 => ?_)
          refine Lg.letv rfl hr75 (fun v7_78 hv7_78 => ?_)
          exact (l_X2_addWord_80 ih ha75 hv2 hv3 hv5 hv7_78)
        · exact (l_X2_addWord_80 ih ha59 hv2 hv3 hv5 hv7_62)
theorem l_X2_addWord {N : Nat} {w1 : Nat} {ah : IH} {p2 : Int} {p3 : Int} (hah : HR ah) (hp2 : zR p2) (hp3 : zR p3) : LfV (G_X2_addWord N (w1 : Nat) ah p2 p3) (F_X2_addWord N w1 (zh ah) (zI p2) (zI p3)) := by
  unfold G_X2_addWord F_X2_addWord
  refine Lg.letv rfl (zRd rfl) (fun v4_1 hv4_1 => ?_)
  refine Lg.wrt hah rfl rfl (zwr (zadd rfl rfl)) wr_R (fun a12 ha12 => ?_)
  refine Lg.letv rfl (zRd rfl) (fun v5_14 hv5_14 => ?_)
  exact (l_X2_addWord_16 _ ha12 hp2 hp3 hv4_1 hv5_14)
theorem l_X2_findLeast_102 {N : Nat} {k25 : IH → Int → Option IH} {k25F : AH → Int32 → Option AH} {ah : IH} {v1 : Int} (hk25 : ∀ {z0 : IH} {z1 : Int}, HR z0 → zR z1 → LfV (k25 z0 z1) (k25F (zh z0) (zI z1))) (hah : HR ah) (hv1 : zR v1) : LfV (G_X2_findLeast_102 N k25 ah v1) (F_X2_findLeast_102 N k25F (zh ah) (zI v1)) := by
  unfold G_X2_findLeast_102 F_X2_findLeast_102
  refine Lg.letv (zwr (zadd rfl rfl)) wr_R (fun v1_102 hv1_102 => ?_)
  exact (hk25 hah hv1_102)
theorem l_X2_findLeast_89 {N : Nat} {k25 : IH → Int → Option IH} {k25F : AH → Int32 → Option AH} {k42 : IH → Int → Int → Int → Option IH} {k42F : AH → Int32 → Int32 → Int32 → Option AH} {ah : IH} {v1 : Int} {v2 : Int} {v3 : Int} (hk25 : ∀ {z0 : IH} {z1 : Int}, HR z0 → zR z1 → LfV (k25 z0 z1) (k25F (zh z0) (zI z1))) (hk42 : ∀ {z0 : IH} {z1 : Int} {z2 : Int} {z3 : Int}, HR z0 → zR z1 → zR z2 → zR z3 → LfV (k42 z0 z1 z2 z3) (k42F (zh z0) (zI z1) (zI z2) (zI z3))) (hah : HR ah) (hv1 : zR v1) (hv2 : zR v2) (hv3 : zR v3) : LfV (G_X2_findLeast_89 N k25 k42 ah v1 v2 v3) (F_X2_findLeast_89 N k25F k42F (zh ah) (zI v1) (zI v2) (zI v3)) := by
  unfold G_X2_findLeast_89 F_X2_findLeast_89
  refine Lg.g rfl rfl (by decide) (fun g1 => ?_)
  refine Lg.letv (zlk rfl g1) (hah _ _) (fun v2_95 hv2_95 => ?_)
  refine Lg.letv (zwr (zadd rfl rfl)) wr_R (fun v3_96 hv3_96 => ?_)
  exact (hk42 hah hv1 hv2_95 hv3_96)
theorem l_X2_findLeast_77 {N : Nat} {k25 : IH → Int → Option IH} {k25F : AH → Int32 → Option AH} {k42 : IH → Int → Int → Int → Option IH} {k42F : AH → Int32 → Int32 → Int32 → Option AH} {ah : IH} {v1 : Int} {v2 : Int} {v3 : Int} (hk25 : ∀ {z0 : IH} {z1 : Int}, HR z0 → zR z1 → LfV (k25 z0 z1) (k25F (zh z0) (zI z1))) (hk42 : ∀ {z0 : IH} {z1 : Int} {z2 : Int} {z3 : Int}, HR z0 → zR z1 → zR z2 → zR z3 → LfV (k42 z0 z1 z2 z3) (k42F (zh z0) (zI z1) (zI z2) (zI z3))) (hah : HR ah) (hv1 : zR v1) (hv2 : zR v2) (hv3 : zR v3) : LfV (G_X2_findLeast_77 N k25 k42 ah v1 v2 v3) (F_X2_findLeast_77 N k25F k42F (zh ah) (zI v1) (zI v2) (zI v3)) := by
  unfold G_X2_findLeast_77 F_X2_findLeast_77
  refine Lg.g rfl rfl (by decide) (fun g1 => ?_)
  refine Lg.g rfl rfl (by decide) (fun g2 => ?_)
  refine Lg.wrt hah rfl (zix rfl g2) (zlk rfl g1) (hah _ _) (fun a88 ha88 => ?_)
  exact (l_X2_findLeast_89 hk25 hk42 ha88 hv1 hv2 hv3)
theorem l_X2_findLeast_42 {N : Nat} {k25 : IH → Int → Option IH} {k25F : AH → Int32 → Option AH} (hk25 : ∀ {z0 : IH} {z1 : Int}, HR z0 → zR z1 → LfV (k25 z0 z1) (k25F (zh z0) (zI z1))) : ∀ (n : Nat) {ah : IH} {v1 : Int} {v2 : Int} {v3 : Int}, HR ah → zR v1 → zR v2 → zR v3 → LfV (G_X2_findLeast_42 N k25 n ah v1 v2 v3) (F_X2_findLeast_42 N k25F n (zh ah) (zI v1) (zI v2) (zI v3)) := by
  intro n
  induction n with
  | zero => intros; exact Lg.none
  | succ n ih =>
    intro ah v1 v2 v3 hah hv1 hv2 hv3
    unfold G_X2_findLeast_42 F_X2_findLeast_42
    refine Lg.lt rfl rfl (zRd rfl) hv3 ?_ ?_
    · exact (l_X2_findLeast_102 hk25 hah hv1)
    · refine Lg.lt rfl rfl hv2 (zRd rfl) ?_ ?_
      · exact (l_X2_findLeast_102 hk25 hah hv1)
      · refine Lg.g rfl rfl (by decide) (fun g1 => ?_)
        refine Lg.eq (zlk rfl g1) rfl (hah _ _) (zRd rfl) ?_ ?_
        · exact (l_X2_findLeast_77 hk25 ih hah hv1 hv2 hv3)
        · refine Lg.g rfl rfl (by decide) (fun g2 => ?_)
          refine Lg.g rfl rfl (by decide) (fun g3 => ?_)
          refine Lg.le (zlk rfl g3) (zlk rfl g2) (hah _ _) (hah _ _) ?_ ?_
          · exact (l_X2_findLeast_89 hk25 ih hah hv1 hv2 hv3)
          · exact (l_X2_findLeast_77 hk25 ih hah hv1 hv2 hv3)
theorem l_X2_findLeast_25 {N : Nat}  : ∀ (n : Nat) {ah : IH} {v1 : Int}, HR ah → zR v1 → LfV (G_X2_findLeast_25 N n ah v1) (F_X2_findLeast_25 N n (zh ah) (zI v1)) := by
  intro n
  induction n with
  | zero => intros; exact Lg.none
  | succ n ih =>
    intro ah v1 hah hv1
    unfold G_X2_findLeast_25 F_X2_findLeast_25
    refine Lg.le rfl rfl (hah _ _) hv1 ?_ ?_
    · exact LgV.ret hah
    · refine Lg.g rfl rfl (by decide) (fun g1 => ?_)
      refine Lg.letv (zlk rfl g1) (hah _ _) (fun v2_39 hv2_39 => ?_)
      refine Lg.letv rfl (zRd rfl) (fun v3_41 hv3_41 => ?_)
      exact (l_X2_findLeast_42 ih _ hah hv1 hv2_39 hv3_41)
theorem l_X2_findLeast_2 {N : Nat}  : ∀ (n : Nat) {ah : IH} {v1 : Int}, HR ah → zR v1 → LfV (G_X2_findLeast_2 N n ah v1) (F_X2_findLeast_2 N n (zh ah) (zI v1)) := by
  intro n
  induction n with
  | zero => intros; exact Lg.none
  | succ n ih =>
    intro ah v1 hah hv1
    unfold G_X2_findLeast_2 F_X2_findLeast_2
    refine Lg.le rfl rfl (hah _ _) hv1 ?_ ?_
    · refine Lg.letv rfl (zRd rfl) (fun v1_24 hv1_24 => ?_)
      exact (l_X2_findLeast_25 _ hah hv1_24)
    · refine Lg.g rfl rfl (by decide) (fun g1 => ?_)
      refine Lg.wrt hah rfl (zix rfl g1) rfl (zRd rfl) (fun a16 ha16 => ?_)
      refine Lg.letv (zwr (zadd rfl rfl)) wr_R (fun v1_17 hv1_17 => ?_)
      exact (ih ha16 hv1_17)
theorem l_X2_findLeast {N : Nat} {ah : IH} (hah : HR ah) : LfV (G_X2_findLeast N ah) (F_X2_findLeast N (zh ah)) := by
  unfold G_X2_findLeast F_X2_findLeast
  refine Lg.letv rfl (zRd rfl) (fun v1_1 hv1_1 => ?_)
  exact (l_X2_findLeast_2 _ hah hv1_1)
theorem l_X2_addFresh_67 {N : Nat} {w1 : Nat} {ah : IH} (hah : HR ah) : LfV (G_X2_addFresh_67 N (w1 : Nat) ah) (F_X2_addFresh_67 N w1 (zh ah)) := by
  unfold G_X2_addFresh_67 F_X2_addFresh_67
  refine Lg.bv (l_X2_findLeast hah) (fun a68 ha68 => ?_)
  exact LgV.ret ha68
theorem l_X2_addFresh_2 {N : Nat} {w1 : Nat}  : ∀ (n : Nat) {ah : IH} {v2 : Int}, HR ah → zR v2 → LfV (G_X2_addFresh_2 N (w1 : Nat) n ah v2) (F_X2_addFresh_2 N w1 n (zh ah) (zI v2)) := by
  intro n
  induction n with
  | zero => intros; exact Lg.none
  | succ n ih =>
    intro ah v2 hah hv2
    unfold G_X2_addFresh_2 F_X2_addFresh_2
    refine Lg.le rfl rfl (hah _ _) hv2 ?_ ?_
    · exact (l_X2_addFresh_67 hah)
    · refine Lg.le rfl rfl (zRd rfl) (hah _ _) ?_ ?_
      · exact (l_X2_addFresh_67 hah)
      · refine Lg.g rfl rfl (by decide) (fun g1 => ?_)
        refine Lg.g rfl rfl (by decide) (fun g2 => ?_)
        refine Lg.bv (by rw [(show (zh ah 16 (Int32.toNatClampNeg (zI v2))) = zI (ah 16 v2) from (zlk rfl g2)), (show (zh ah 17 (Int32.toNatClampNeg (zI v2))) = zI (ah 17 v2) from (zlk rfl g2))]; exact l_X2_addWord hah (hah _ _) (hah _ _)) (fun a33 ha33 => ?_)
        refine Lg.g rfl rfl (by decide) (fun g3 => ?_)
        refine Lg.g rfl rfl (by decide) (fun g4 => ?_)
        refine Lg.wrt ha33 rfl (zix rfl g4) (zlk rfl g3) (ha33 _ _) (fun a50 ha50 => ?_)
        refine Lg.wrt ha50 rfl rfl (zwr (zadd rfl rfl)) wr_R (fun a58 ha58 => ?_)
        refine Lg.letv (zwr (zadd rfl rfl)) wr_R (fun v2_61 hv2_61 => ?_)
        exact (ih ha58 hv2_61)
theorem l_X2_addFresh {N : Nat} {w1 : Nat} {ah : IH} (hah : HR ah) : LfV (G_X2_addFresh N (w1 : Nat) ah) (F_X2_addFresh N w1 (zh ah)) := by
  unfold G_X2_addFresh F_X2_addFresh
  refine Lg.letv rfl (zRd rfl) (fun v2_1 hv2_1 => ?_)
  exact (l_X2_addFresh_2 _ hah hv2_1)
theorem l_X2_readText_7 {N : Nat}  : ∀ (n : Nat) {ah : IH} {v2 : Int}, HR ah → zR v2 → LfI (G_X2_readText_7 N n ah v2) (F_X2_readText_7 N n (zh ah) (zI v2)) := by
  intro n
  induction n with
  | zero => intros; exact Lg.none
  | succ n ih =>
    intro ah v2 hah hv2
    unfold G_X2_readText_7 F_X2_readText_7
    refine Lg.lt rfl rfl (zRd rfl) hv2 ?_ ?_
    · exact LgI.ret rfl (zRd rfl) hah
    · refine Lg.bv (l_X9_skipBlanks hah) (fun a14 ha14 => ?_)
      refine Lg.b (l_X9_atEnd ha14) (fun r18 a18 hr18 ha18 => ?_)
      refine Lg.eq rfl rfl hr18 (zRd rfl) ?_ ?_
      · refine Lg.b (l_X2_readEntry ha18) (fun r36 a36 hr36 ha36 => ?_)
        refine Lg.eq rfl rfl hr36 (zRd rfl) ?_ ?_
        · exact LgI.ret rfl (zRd rfl) ha36
        · refine Lg.letv (zwr (zadd rfl rfl)) wr_R (fun v2_44 hv2_44 => ?_)
          exact (ih ha36 hv2_44)
      · refine Lg.bv (l_X2_addFresh ha18) (fun a29 ha29 => ?_)
        exact LgI.ret rfl (zRd rfl) ha29
theorem l_X2_readText {N : Nat} {ah : IH} (hah : HR ah) : LfI (G_X2_readText N ah) (F_X2_readText N (zh ah)) := by
  unfold G_X2_readText F_X2_readText
  refine Lg.wrt hah rfl rfl rfl (zRd rfl) (fun a2 ha2 => ?_)
  refine Lg.letv rfl (zRd rfl) (fun v2_6 hv2_6 => ?_)
  exact (l_X2_readText_7 _ ha2 hv2_6)
theorem l_X2_weighWord {N : Nat} {ah : IH} {p1 : Int} {p2 : Int} (hah : HR ah) (hp1 : zR p1) (hp2 : zR p2) : LfV (G_X2_weighWord N ah p1 p2) (F_X2_weighWord N (zh ah) (zI p1) (zI p2)) := by
  unfold G_X2_weighWord F_X2_weighWord
  refine Lg.g rfl rfl (by decide) (fun g1 => ?_)
  refine Lg.wrt hah rfl (zix rfl g1) rfl hp2 (fun a6 ha6 => ?_)
  refine Lg.bv (l_X2_findLeast ha6) (fun a8 ha8 => ?_)
  exact LgV.ret ha8
theorem l_X5_countBreaks_35 {N : Nat} {k : Nat} {k9 : IH → Int → Int → Int → Option (Int × IH)} {k9F : AH → Int32 → Int32 → Int32 → Option (Int32 × AH)} {ah : IH} {v1 : Int} {v2 : Int} {v3 : Int} (hk9 : ∀ {z0 : IH} {z1 : Int} {z2 : Int} {z3 : Int}, HR z0 → zR z1 → zR z2 → zR z3 → LfI (k9 z0 z1 z2 z3) (k9F (zh z0) (zI z1) (zI z2) (zI z3))) (hah : HR ah) (hv1 : zR v1) (hv2 : zR v2) (hv3 : zR v3) : LfI (G_X5_countBreaks_35 N (k : Nat) k9 ah v1 v2 v3) (F_X5_countBreaks_35 N k k9F (zh ah) (zI v1) (zI v2) (zI v3)) := by
  unfold G_X5_countBreaks_35 F_X5_countBreaks_35
  refine Lg.letv (zwr (zadd rfl rfl)) wr_R (fun v3_35 hv3_35 => ?_)
  exact (hk9 hah hv1 hv2 hv3_35)
theorem l_X5_countBreaks_9 {N : Nat} {k : Nat}  : ∀ (n : Nat) {ah : IH} {v1 : Int} {v2 : Int} {v3 : Int}, HR ah → zR v1 → zR v2 → zR v3 → LfI (G_X5_countBreaks_9 N (k : Nat) n ah v1 v2 v3) (F_X5_countBreaks_9 N k n (zh ah) (zI v1) (zI v2) (zI v3)) := by
  intro n
  induction n with
  | zero => intros; exact Lg.none
  | succ n ih =>
    intro ah v1 v2 v3 hah hv1 hv2 hv3
    unfold G_X5_countBreaks_9 F_X5_countBreaks_9
    refine Lg.g (zadd rfl rfl) rfl (by decide) (fun g1 => ?_)
    refine Lg.le (zlk (zadd rfl rfl) g1) rfl (hah _ _) hv3 ?_ ?_
    · exact LgI.ret rfl hv2 hah
    · refine Lg.g rfl rfl (by decide) (fun g2 => ?_)
      refine Lg.eq (zlk rfl g2) rfl (hah _ _) (zRd rfl) ?_ ?_
      · refine Lg.letv (zwr (zadd rfl rfl)) wr_R (fun v2_32 hv2_32 => ?_)
        exact (l_X5_countBreaks_35 ih hah hv1 hv2_32 hv3)
      · exact (l_X5_countBreaks_35 ih hah hv1 hv2 hv3)
theorem l_X5_countBreaks {N : Nat} {k : Nat} {ah : IH} {p1 : Int} (hah : HR ah) (hp1 : zR p1) : LfI (G_X5_countBreaks N (k : Nat) ah p1) (F_X5_countBreaks N k (zh ah) (zI p1)) := by
  unfold G_X5_countBreaks F_X5_countBreaks
  refine Lg.letv rfl (zRd rfl) (fun v2_1 hv2_1 => ?_)
  refine Lg.g rfl rfl (by decide) (fun g1 => ?_)
  refine Lg.letv (zlk rfl g1) (hah _ _) (fun v3_8 hv3_8 => ?_)
  exact (l_X5_countBreaks_9 _ hah hp1 hv2_1 hv3_8)
theorem l_X5_leastOther_42 {N : Nat} {k : Nat} {k4 : IH → Int → Int → Int → Option (Int × IH)} {k4F : AH → Int32 → Int32 → Int32 → Option (Int32 × AH)} {ah : IH} {v1 : Int} {v3 : Int} {s0 : Int} (hk4 : ∀ {z0 : IH} {z1 : Int} {z2 : Int} {z3 : Int}, HR z0 → zR z1 → zR z2 → zR z3 → LfI (k4 z0 z1 z2 z3) (k4F (zh z0) (zI z1) (zI z2) (zI z3))) (hah : HR ah) (hv1 : zR v1) (hv3 : zR v3) (hs0 : zR s0) : LfI (G_X5_leastOther_42 N (k : Nat) k4 ah v1 v3 s0) (F_X5_leastOther_42 N k k4F (zh ah) (zI v1) (zI v3) (zI s0)) := by
  unfold G_X5_leastOther_42 F_X5_leastOther_42
  refine Lg.letv rfl hs0 (fun v2_42 hv2_42 => ?_)
  refine Lg.letv (zwr (zadd rfl rfl)) wr_R (fun v3_43 hv3_43 => ?_)
  exact (hk4 hah hv1 hv2_42 hv3_43)
theorem l_X5_leastOther_4 {N : Nat} {k : Nat}  : ∀ (n : Nat) {ah : IH} {v1 : Int} {v2 : Int} {v3 : Int}, HR ah → zR v1 → zR v2 → zR v3 → LfI (G_X5_leastOther_4 N (k : Nat) n ah v1 v2 v3) (F_X5_leastOther_4 N k n (zh ah) (zI v1) (zI v2) (zI v3)) := by
  intro n
  induction n with
  | zero => intros; exact Lg.none
  | succ n ih =>
    intro ah v1 v2 v3 hah hv1 hv2 hv3
    unfold G_X5_leastOther_4 F_X5_leastOther_4
    refine Lg.g rfl rfl (by decide) (fun g1 => ?_)
    refine Lg.le (zlk rfl g1) rfl (hah _ _) hv3 ?_ ?_
    · exact LgI.ret rfl hv2 hah
    · refine Lg.g (zadd (zmul rfl rfl) rfl) rfl (by decide) (fun g2 => ?_)
      refine Lg.letv (zlk (zadd (zmul rfl rfl) rfl) g2) (hah _ _) (fun v4_24 hv4_24 => ?_)
      refine Lg.eq rfl rfl hv2 (zRd rfl) ?_ ?_
      · exact (l_X5_leastOther_42 ih hah hv1 hv3 hv4_24)
      · exact (by rw [(show (xmin (zI v2) (zI v4_24)) = zI (min v2 v4_24) from (zmin rfl rfl hv2 hv4_24))]; exact l_X5_leastOther_42 ih hah hv1 hv3 (min_R hv2 hv4_24))
theorem l_X5_leastOther {N : Nat} {k : Nat} {ah : IH} {p1 : Int} (hah : HR ah) (hp1 : zR p1) : LfI (G_X5_leastOther N (k : Nat) ah p1) (F_X5_leastOther N k (zh ah) (zI p1)) := by
  unfold G_X5_leastOther F_X5_leastOther
  refine Lg.letv rfl (zRd rfl) (fun v2_1 hv2_1 => ?_)
  refine Lg.letv rfl (zRd rfl) (fun v3_3 hv3_3 => ?_)
  exact (l_X5_leastOther_4 _ hah hp1 hv2_1 hv3_3)
theorem l_X5_readAs_48 {N : Nat} {k : Nat} {k10 : IH → Int → Int → Int → Option (Int × IH)} {k10F : AH → Int32 → Int32 → Int32 → Option (Int32 × AH)} {ah : IH} {v1 : Int} {v3 : Int} {v4 : Int} (hk10 : ∀ {z0 : IH} {z1 : Int} {z2 : Int} {z3 : Int}, HR z0 → zR z1 → zR z2 → zR z3 → LfI (k10 z0 z1 z2 z3) (k10F (zh z0) (zI z1) (zI z2) (zI z3))) (hah : HR ah) (hv1 : zR v1) (hv3 : zR v3) (hv4 : zR v4) : LfI (G_X5_readAs_48 N (k : Nat) k10 ah v1 v3 v4) (F_X5_readAs_48 N k k10F (zh ah) (zI v1) (zI v3) (zI v4)) := by
  unfold G_X5_readAs_48 F_X5_readAs_48
  refine Lg.eq rfl rfl hv3 (zRd rfl) ?_ ?_
  · exact LgI.ret rfl (zRd rfl) hah
  · refine Lg.letv (zwr (zadd rfl rfl)) wr_R (fun v4_55 hv4_55 => ?_)
    exact (hk10 hah hv1 hv3 hv4_55)
theorem l_X5_readAs_10 {N : Nat} {k : Nat}  : ∀ (n : Nat) {ah : IH} {v1 : Int} {v3 : Int} {v4 : Int}, HR ah → zR v1 → zR v3 → zR v4 → LfI (G_X5_readAs_10 N (k : Nat) n ah v1 v3 v4) (F_X5_readAs_10 N k n (zh ah) (zI v1) (zI v3) (zI v4)) := by
  intro n
  induction n with
  | zero => intros; exact Lg.none
  | succ n ih =>
    intro ah v1 v3 v4 hah hv1 hv3 hv4
    unfold G_X5_readAs_10 F_X5_readAs_10
    refine Lg.g (zadd rfl rfl) rfl (by decide) (fun g1 => ?_)
    refine Lg.le (zlk (zadd rfl rfl) g1) rfl (hah _ _) hv4 ?_ ?_
    · refine Lg.g rfl rfl (by decide) (fun g2 => ?_)
      exact LgI.ret (zlk rfl g2) (hah _ _) hah
    · refine Lg.g rfl rfl (by decide) (fun g3 => ?_)
      refine Lg.eq (zlk rfl g3) rfl (hah _ _) (zRd rfl) ?_ ?_
      · exact (l_X5_readAs_48 ih hah hv1 hv3 hv4)
      · refine Lg.g rfl rfl (by decide) (fun g4 => ?_)
        refine Lg.b (by rw [(show (zh ah (k + 5) (Int32.toNatClampNeg (zI v4))) = zI (ah (k + 5) v4) from (zlk rfl g4))]; exact l_X2_childOf hah hv3 (hah _ _)) (fun r44 a44 hr44 ha44 => ?_)
        refine Lg.letv rfl hr44 (fun v3_47 hv3_47 => ?_)
        exact (l_X5_readAs_48 ih ha44 hv1 hv3_47 hv4)
theorem l_X5_readAs {N : Nat} {k : Nat} {ah : IH} {p1 : Int} (hah : HR ah) (hp1 : zR p1) : LfI (G_X5_readAs N (k : Nat) ah p1) (F_X5_readAs N k (zh ah) (zI p1)) := by
  unfold G_X5_readAs F_X5_readAs
  refine Lg.letv rfl (zRd rfl) (fun v3_1 hv3_1 => ?_)
  refine Lg.g rfl rfl (by decide) (fun g1 => ?_)
  refine Lg.letv (zlk rfl g1) (hah _ _) (fun v4_8 hv4_8 => ?_)
  exact (l_X5_readAs_10 _ hah hp1 hv3_1 hv4_8)
theorem l_X5_isGap_12 {N : Nat} {k : Nat} {ah : IH} (hah : HR ah) : LfI (G_X5_isGap_12 N (k : Nat) ah) (F_X5_isGap_12 N k (zh ah)) := by
  unfold G_X5_isGap_12 F_X5_isGap_12
  exact LgI.ret rfl (zRd rfl) hah
theorem l_X5_isGap {N : Nat} {k : Nat} {ah : IH} {p1 : Int} (hah : HR ah) (hp1 : zR p1) : LfI (G_X5_isGap N (k : Nat) ah p1) (F_X5_isGap N k (zh ah) (zI p1)) := by
  unfold G_X5_isGap F_X5_isGap
  refine Lg.eq rfl rfl hp1 (zRd rfl) ?_ ?_
  · exact (l_X5_isGap_12 hah)
  · refine Lg.eq rfl rfl hp1 (zRd rfl) ?_ ?_
    · exact (l_X5_isGap_12 hah)
    · exact LgI.ret rfl (zRd rfl) hah
theorem l_X5_readGap_123 {N : Nat} {k : Nat} {ah : IH} {s1 : Int} {s2 : Int} (hah : HR ah) (hs1 : zR s1) (hs2 : zR s2) : LfV (G_X5_readGap_123 N (k : Nat) ah s1 s2) (F_X5_readGap_123 N k (zh ah) (zI s1) (zI s2)) := by
  unfold G_X5_readGap_123 F_X5_readGap_123
  refine Lg.g rfl rfl (by decide) (fun g1 => ?_)
  refine Lg.wrt hah rfl (zix rfl g1) (znar rfl) ynar_R (fun a123 ha123 => ?_)
  exact LgV.ret ha123
theorem l_X5_readGap_122 {N : Nat} {k : Nat} {ah : IH} {s1 : Int} (hah : HR ah) (hs1 : zR s1) : LfV (G_X5_readGap_122 N (k : Nat) ah s1) (F_X5_readGap_122 N k (zh ah) (zI s1)) := by
  unfold G_X5_readGap_122 F_X5_readGap_122
  exact (l_X5_readGap_123 hah hs1 (zRd rfl))
theorem l_X5_readGap_91 {N : Nat} {k : Nat} {ah : IH} {v2 : Int} {v3 : Int} {s1 : Int} {s2 : Int} (hah : HR ah) (hv2 : zR v2) (hv3 : zR v3) (hs1 : zR s1) (hs2 : zR s2) : LfV (G_X5_readGap_91 N (k : Nat) ah v2 v3 s1 s2) (F_X5_readGap_91 N k (zh ah) (zI v2) (zI v3) (zI s1) (zI s2)) := by
  unfold G_X5_readGap_91 F_X5_readGap_91
  refine Lg.g rfl rfl (by decide) (fun g1 => ?_)
  refine Lg.wrt hah rfl (zix rfl g1) (znar rfl) ynar_R (fun a91 ha91 => ?_)
  refine Lg.eq rfl rfl hv2 (zRd rfl) ?_ ?_
  · refine Lg.eq rfl rfl hv3 (zRd rfl) ?_ ?_
    · refine Lg.b (l_X9_atEnd ha91) (fun r112 a112 hr112 ha112 => ?_)
      refine Lg.eq rfl rfl hr112 (zRd rfl) ?_ ?_
      · exact (by rw [(show ((zh a91 k 0) - (1 : Int32)) = zI (wr ((a91 k 0) - 1)) from (zwr (zsub rfl rfl)))]; exact l_X5_readGap_123 ha112 wr_R (zRd rfl))
      · exact (by rw [(show ((zh a91 k 0) - (1 : Int32)) = zI (wr ((a91 k 0) - 1)) from (zwr (zsub rfl rfl)))]; exact l_X5_readGap_122 ha112 wr_R)
    · exact (by rw [(show ((zh a91 k 0) - (1 : Int32)) = zI (wr ((a91 k 0) - 1)) from (zwr (zsub rfl rfl)))]; exact l_X5_readGap_122 ha91 wr_R)
  · exact (by rw [(show ((zh a91 k 0) - (1 : Int32)) = zI (wr ((a91 k 0) - 1)) from (zwr (zsub rfl rfl)))]; exact l_X5_readGap_122 ha91 wr_R)
theorem l_X5_readGap_55 {N : Nat} {k : Nat} {ah : IH} {v2 : Int} {v3 : Int} (hah : HR ah) (hv2 : zR v2) (hv3 : zR v3) : LfV (G_X5_readGap_55 N (k : Nat) ah v2 v3) (F_X5_readGap_55 N k (zh ah) (zI v2) (zI v3)) := by
  unfold G_X5_readGap_55 F_X5_readGap_55
  refine Lg.wrt hah rfl rfl (zwr (zadd rfl rfl)) wr_R (fun a62 ha62 => ?_)
  refine Lg.le rfl rfl (ha62 _ _) (zRd rfl) ?_ ?_
  · exact LgV.ret ha62
  · refine Lg.le rfl rfl hv2 (zRd rfl) ?_ ?_
    · exact (by rw [(show ((zh a62 k 0) - (1 : Int32)) = zI (wr ((a62 k 0) - 1)) from (zwr (zsub rfl rfl)))]; exact l_X5_readGap_91 ha62 hv2 hv3 wr_R (zRd rfl))
    · exact (by rw [(show ((zh a62 k 0) - (1 : Int32)) = zI (wr ((a62 k 0) - 1)) from (zwr (zsub rfl rfl)))]; exact l_X5_readGap_91 ha62 hv2 hv3 wr_R (zRd rfl))
theorem l_X5_readGap_42 {N : Nat} {k : Nat} {k4 : IH → Int → Int → Option IH} {k4F : AH → Int32 → Int32 → Option AH} {ah : IH} {v2 : Int} {v3 : Int} (hk4 : ∀ {z0 : IH} {z1 : Int} {z2 : Int}, HR z0 → zR z1 → zR z2 → LfV (k4 z0 z1 z2) (k4F (zh z0) (zI z1) (zI z2))) (hah : HR ah) (hv2 : zR v2) (hv3 : zR v3) : LfV (G_X5_readGap_42 N (k : Nat) k4 ah v2 v3) (F_X5_readGap_42 N k k4F (zh ah) (zI v2) (zI v3)) := by
  unfold G_X5_readGap_42 F_X5_readGap_42
  refine Lg.wrt hah rfl rfl (zwr (zadd rfl rfl)) wr_R (fun a49 ha49 => ?_)
  exact (hk4 ha49 hv2 hv3)
theorem l_X5_readGap_4 {N : Nat} {k : Nat}  : ∀ (n : Nat) {ah : IH} {v2 : Int} {v3 : Int}, HR ah → zR v2 → zR v3 → LfV (G_X5_readGap_4 N (k : Nat) n ah v2 v3) (F_X5_readGap_4 N k n (zh ah) (zI v2) (zI v3)) := by
  intro n
  induction n with
  | zero => intros; exact Lg.none
  | succ n ih =>
    intro ah v2 v3 hah hv2 hv3
    unfold G_X5_readGap_4 F_X5_readGap_4
    refine Lg.b (l_X9_atEnd hah) (fun r5 a5 hr5 ha5 => ?_)
    refine Lg.eq rfl rfl hr5 (zRd rfl) ?_ ?_
    · refine Lg.b (l_X9_peek ha5 (zRd rfl)) (fun r14 a14 hr14 ha14 => ?_)
      refine Lg.b (l_X5_isGap ha14 hr14) (fun r17 a17 hr17 ha17 => ?_)
      refine Lg.eq rfl rfl hr17 (zRd rfl) ?_ ?_
      · exact (l_X5_readGap_55 ha17 hv2 hv3)
      · refine Lg.b (l_X9_peek ha17 (zRd rfl)) (fun r25 a25 hr25 ha25 => ?_)
        refine Lg.eq rfl rfl hr25 (zRd rfl) ?_ ?_
        · refine Lg.letv (zwr (zadd rfl rfl)) wr_R (fun v2_33 hv2_33 => ?_)
          exact (l_X5_readGap_42 ih ha25 hv2_33 hv3)
        · refine Lg.letv (zwr (zadd rfl rfl)) wr_R (fun v3_39 hv3_39 => ?_)
          exact (l_X5_readGap_42 ih ha25 hv2 hv3_39)
    · exact (l_X5_readGap_55 ha5 hv2 hv3)
theorem l_X5_readGap {N : Nat} {k : Nat} {ah : IH} (hah : HR ah) : LfV (G_X5_readGap N (k : Nat) ah) (F_X5_readGap N k (zh ah)) := by
  unfold G_X5_readGap F_X5_readGap
  refine Lg.letv rfl (zRd rfl) (fun v2_1 hv2_1 => ?_)
  refine Lg.letv rfl (zRd rfl) (fun v3_3 hv3_3 => ?_)
  exact (l_X5_readGap_4 _ hah hv2_1 hv3_3)
theorem l_X5_beginsCell_19 {N : Nat} {k : Nat} {ah : IH} (hah : HR ah) : LfI (G_X5_beginsCell_19 N (k : Nat) ah) (F_X5_beginsCell_19 N k (zh ah)) := by
  unfold G_X5_beginsCell_19 F_X5_beginsCell_19
  exact LgI.ret rfl (zRd rfl) hah
theorem l_X5_beginsCell {N : Nat} {k : Nat} {ah : IH} {p1 : Int} (hah : HR ah) (hp1 : zR p1) : LfI (G_X5_beginsCell N (k : Nat) ah p1) (F_X5_beginsCell N k (zh ah) (zI p1)) := by
  unfold G_X5_beginsCell F_X5_beginsCell
  refine Lg.b (l_X11_isLetter hah hp1) (fun r1 a1 hr1 ha1 => ?_)
  refine Lg.eq rfl rfl hr1 (zRd rfl) ?_ ?_
  · refine Lg.eq rfl rfl hp1 (zRd rfl) ?_ ?_
    · exact (l_X5_beginsCell_19 ha1)
    · refine Lg.eq rfl rfl hp1 (zRd rfl) ?_ ?_
      · exact (l_X5_beginsCell_19 ha1)
      · exact LgI.ret rfl (zRd rfl) ha1
  · exact (l_X5_beginsCell_19 ha1)
theorem l_X5_isBreak_31 {N : Nat} {k : Nat} {ah : IH} (hah : HR ah) : LfI (G_X5_isBreak_31 N (k : Nat) ah) (F_X5_isBreak_31 N k (zh ah)) := by
  unfold G_X5_isBreak_31 F_X5_isBreak_31
  exact LgI.ret rfl (zRd rfl) hah
theorem l_X5_isBreak {N : Nat} {k : Nat} {ah : IH} (hah : HR ah) : LfI (G_X5_isBreak N (k : Nat) ah) (F_X5_isBreak N k (zh ah)) := by
  unfold G_X5_isBreak F_X5_isBreak
  refine Lg.b (l_X9_peek hah (zRd rfl)) (fun r2 a2 hr2 ha2 => ?_)
  refine Lg.eq rfl rfl hr2 (zRd rfl) ?_ ?_
  · refine Lg.b (l_X9_peek ha2 (zRd rfl)) (fun r12 a12 hr12 ha12 => ?_)
    refine Lg.b (l_X11_isLetter ha12 hr12) (fun r15 a15 hr15 ha15 => ?_)
    refine Lg.eq rfl rfl hr15 (zRd rfl) ?_ ?_
    · refine Lg.b (l_X9_peek ha15 (zRd rfl)) (fun r23 a23 hr23 ha23 => ?_)
      refine Lg.eq rfl rfl hr23 (zRd rfl) ?_ ?_
      · exact (l_X5_isBreak_31 ha23)
      · exact LgI.ret rfl (zRd rfl) ha23
    · exact (l_X5_isBreak_31 ha15)
  · exact LgI.ret rfl (zRd rfl) ha2
theorem l_X5_readOthers_34 {N : Nat} {k : Nat}  : ∀ (n : Nat) {ah : IH} {v2 : Int} {v3 : Int}, HR ah → zR v2 → zR v3 → LfI (G_X5_readOthers_34 N (k : Nat) n ah v2 v3) (F_X5_readOthers_34 N k n (zh ah) (zI v2) (zI v3)) := by
  intro n
  induction n with
  | zero => intros; exact Lg.none
  | succ n ih =>
    intro ah v2 v3 hah hv2 hv3
    unfold G_X5_readOthers_34 F_X5_readOthers_34
    refine Lg.lt rfl rfl (zRd rfl) hv3 ?_ ?_
    · exact LgI.ret rfl (zRd rfl) hah
    · refine Lg.b (l_X9_peek hah (zRd rfl)) (fun r41 a41 hr41 ha41 => ?_)
      refine Lg.letv rfl hr41 (fun v4_44 hv4_44 => ?_)
      refine Lg.b (l_X11_isLetter ha41 hv4_44) (fun r48 a48 hr48 ha48 => ?_)
      refine Lg.eq rfl rfl hr48 (zRd rfl) ?_ ?_
      · refine Lg.b (l_X9_refuse ha48 (zRd rfl) (ha48 _ _)) (fun r60 a60 hr60 ha60 => ?_)
        refine Lg.bo rfl ?_
        exact LgI.ret rfl hr60 ha60
      · refine Lg.eq rfl rfl hv3 (zRd rfl) ?_ ?_
        · refine Lg.b (l_X9_refuse ha48 (zRd rfl) (ha48 _ _)) (fun r75 a75 hr75 ha75 => ?_)
          refine Lg.bo rfl ?_
          exact LgI.ret rfl hr75 ha75
        · refine Lg.wrt ha48 rfl rfl (zwr (zadd rfl rfl)) wr_R (fun a86 ha86 => ?_)
          refine Lg.b (l_X9_readNumber ha86 (zRd rfl)) (fun r91 a91 hr91 ha91 => ?_)
          refine Lg.letv rfl hr91 (fun v5_94 hv5_94 => ?_)
          refine Lg.eq rfl rfl hv5_94 (zRd rfl) ?_ ?_
          · exact LgI.ret rfl (zRd rfl) ha91
          · refine Lg.g (zadd (zmul rfl rfl) rfl) rfl (by decide) (fun g1 => ?_)
            refine Lg.wrt ha91 rfl (zix (zadd (zmul rfl rfl) rfl) g1) rfl hv4_44 (fun a115 ha115 => ?_)
            refine Lg.g (zadd (zmul rfl rfl) rfl) rfl (by decide) (fun g2 => ?_)
            refine Lg.wrt ha115 rfl (zix (zadd (zmul rfl rfl) rfl) g2) rfl hv5_94 (fun a127 ha127 => ?_)
            refine Lg.g rfl rfl (by decide) (fun g3 => ?_)
            refine Lg.wrt ha127 rfl (zix rfl g3) (zwr (zadd rfl rfl)) wr_R (fun a136 ha136 => ?_)
            refine Lg.b (l_X9_peek ha136 (zRd rfl)) (fun r139 a139 hr139 ha139 => ?_)
            refine Lg.eq rfl rfl hr139 (zRd rfl) ?_ ?_
            · refine Lg.wrt ha139 rfl rfl (zwr (zadd rfl rfl)) wr_R (fun a154 ha154 => ?_)
              exact LgI.ret rfl (zRd rfl) ha154
            · refine Lg.b (l_X9_peek ha139 (zRd rfl)) (fun r161 a161 hr161 ha161 => ?_)
              refine Lg.eq rfl rfl hr161 (zRd rfl) ?_ ?_
              · refine Lg.bv (l_X9_skipBlanks ha161) (fun a180 ha180 => ?_)
                refine Lg.letv (zwr (zadd rfl rfl)) wr_R (fun v3_183 hv3_183 => ?_)
                exact (ih ha180 hv2 hv3_183)
              · refine Lg.b (l_X9_refuse ha161 (zRd rfl) (ha161 _ _)) (fun r175 a175 hr175 ha175 => ?_)
                refine Lg.bo rfl ?_
                exact LgI.ret rfl hr175 ha175
theorem l_X5_readOthers {N : Nat} {k : Nat} {ah : IH} {p2 : Int} (hah : HR ah) (hp2 : zR p2) : LfI (G_X5_readOthers N (k : Nat) ah p2) (F_X5_readOthers N k (zh ah) (zI p2)) := by
  unfold G_X5_readOthers F_X5_readOthers
  refine Lg.wrt hah rfl rfl (zwr (zadd rfl rfl)) wr_R (fun a7 ha7 => ?_)
  refine Lg.b (l_X9_peek ha7 (zRd rfl)) (fun r12 a12 hr12 ha12 => ?_)
  refine Lg.eq rfl rfl hr12 (zRd rfl) ?_ ?_
  · refine Lg.wrt ha12 rfl rfl (zwr (zadd rfl rfl)) wr_R (fun a27 ha27 => ?_)
    exact LgI.ret rfl (zRd rfl) ha27
  · refine Lg.letv rfl (zRd rfl) (fun v3_33 hv3_33 => ?_)
    exact (l_X5_readOthers_34 _ ha12 hp2 hv3_33)
theorem l_X5_readCell_116 {N : Nat} {k : Nat} {ah : IH} (hah : HR ah) : LfI (G_X5_readCell_116 N (k : Nat) ah) (F_X5_readCell_116 N k (zh ah)) := by
  unfold G_X5_readCell_116 F_X5_readCell_116
  exact LgI.ret rfl (zRd rfl) hah
theorem l_X5_readCell_90 {N : Nat} {k : Nat} {ah : IH} {v2 : Int} {v3 : Int} (hah : HR ah) (hv2 : zR v2) (hv3 : zR v3) : LfI (G_X5_readCell_90 N (k : Nat) ah v2 v3) (F_X5_readCell_90 N k (zh ah) (zI v2) (zI v3)) := by
  unfold G_X5_readCell_90 F_X5_readCell_90
  refine Lg.b (l_X11_isLetter hah hv2) (fun r91 a91 hr91 ha91 => ?_)
  refine Lg.eq rfl rfl hr91 (zRd rfl) ?_ ?_
  · exact (l_X5_readCell_116 ha91)
  · refine Lg.b (l_X9_peek ha91 (zRd rfl)) (fun r99 a99 hr99 ha99 => ?_)
    refine Lg.eq rfl rfl hr99 (zRd rfl) ?_ ?_
    · refine Lg.b (l_X5_readOthers ha99 hv3) (fun r110 a110 hr110 ha110 => ?_)
      refine Lg.eq rfl rfl hr110 (zRd rfl) ?_ ?_
      · exact LgI.ret rfl (zRd rfl) ha110
      · exact (l_X5_readCell_116 ha110)
    · exact (l_X5_readCell_116 ha99)
theorem l_X5_readCell {N : Nat} {k : Nat} {ah : IH} {p2 : Int} (hah : HR ah) (hp2 : zR p2) : LfI (G_X5_readCell N (k : Nat) ah p2) (F_X5_readCell N k (zh ah) (zI p2)) := by
  unfold G_X5_readCell F_X5_readCell
  refine Lg.letv rfl (hah _ _) (fun v3_4 hv3_4 => ?_)
  refine Lg.lt rfl rfl hv3_4 (zRd rfl) ?_ ?_
  · refine Lg.wrt hah rfl rfl (zwr (zadd rfl rfl)) wr_R (fun a21 ha21 => ?_)
    refine Lg.wrt ha21 rfl rfl (zwr (zadd rfl rfl)) wr_R (fun a31 ha31 => ?_)
    refine Lg.g rfl rfl (by decide) (fun g1 => ?_)
    refine Lg.wrt ha31 rfl (zix rfl g1) rfl hp2 (fun a40 ha40 => ?_)
    refine Lg.g rfl rfl (by decide) (fun g2 => ?_)
    refine Lg.wrt ha40 rfl (zix rfl g2) rfl (zRd rfl) (fun a47 ha47 => ?_)
    refine Lg.eq rfl rfl hp2 (zRd rfl) ?_ ?_
    · refine Lg.b (l_X5_isBreak ha47) (fun r56 a56 hr56 ha56 => ?_)
      refine Lg.eq rfl rfl hr56 (zRd rfl) ?_ ?_
      · exact (l_X5_readCell_90 ha56 hp2 hv3_4)
      · refine Lg.g rfl rfl (by decide) (fun g3 => ?_)
        refine Lg.wrt ha56 rfl (zix rfl g3) rfl (zRd rfl) (fun a69 ha69 => ?_)
        refine Lg.wrt ha69 rfl rfl (zwr (zadd rfl rfl)) wr_R (fun a77 ha77 => ?_)
        refine Lg.wrt ha77 rfl rfl (zwr (zadd rfl rfl)) wr_R (fun a87 ha87 => ?_)
        exact (l_X5_readCell_90 ha87 hp2 hv3_4)
    · exact (l_X5_readCell_90 ha47 hp2 hv3_4)
  · exact LgI.ret rfl (zRd rfl) hah
theorem l_X5_readToken_106 {N : Nat} {k : Nat} {k81 : IH → Int → Option (Int × IH)} {k81F : AH → Int32 → Option (Int32 × AH)} {ah : IH} (hk81 : ∀ {z0 : IH} {z1 : Int}, HR z0 → zR z1 → LfI (k81 z0 z1) (k81F (zh z0) (zI z1))) (hah : HR ah) : LfI (G_X5_readToken_106 N (k : Nat) k81 ah) (F_X5_readToken_106 N k k81F (zh ah)) := by
  unfold G_X5_readToken_106 F_X5_readToken_106
  refine Lg.g rfl rfl (by decide) (fun g1 => ?_)
  refine Lg.wrt hah rfl (zix rfl g1) rfl (hah _ _) (fun a118 ha118 => ?_)
  exact LgI.ret rfl (zRd rfl) ha118
theorem l_X5_readToken_81 {N : Nat} {k : Nat}  : ∀ (n : Nat) {ah : IH} {v2 : Int}, HR ah → zR v2 → LfI (G_X5_readToken_81 N (k : Nat) n ah v2) (F_X5_readToken_81 N k n (zh ah) (zI v2)) := by
  intro n
  induction n with
  | zero => intros; exact Lg.none
  | succ n ih =>
    intro ah v2 hah hv2
    unfold G_X5_readToken_81 F_X5_readToken_81
    refine Lg.lt rfl rfl (zRd rfl) hv2 ?_ ?_
    · exact LgI.ret rfl (zRd rfl) hah
    · refine Lg.b (l_X9_peek hah (zRd rfl)) (fun r89 a89 hr89 ha89 => ?_)
      refine Lg.letv rfl hr89 (fun v3_92 hv3_92 => ?_)
      refine Lg.eq rfl rfl hv3_92 (zRd rfl) ?_ ?_
      · exact (l_X5_readToken_106 ih ha89)
      · refine Lg.b (l_X5_isGap ha89 hv3_92) (fun r100 a100 hr100 ha100 => ?_)
        refine Lg.eq rfl rfl hr100 (zRd rfl) ?_ ?_
        · refine Lg.b (l_X5_beginsCell ha100 hv3_92) (fun r123 a123 hr123 ha123 => ?_)
          refine Lg.eq rfl rfl hr123 (zRd rfl) ?_ ?_
          · refine Lg.b (l_X9_refuse ha123 (zRd rfl) (ha123 _ _)) (fun r135 a135 hr135 ha135 => ?_)
            refine Lg.bo rfl ?_
            exact LgI.ret rfl hr135 ha135
          · refine Lg.eq rfl rfl hv2 (zRd rfl) ?_ ?_
            · refine Lg.b (l_X9_refuse ha123 (zRd rfl) (ha123 _ _)) (fun r151 a151 hr151 ha151 => ?_)
              refine Lg.bo rfl ?_
              exact LgI.ret rfl hr151 ha151
            · refine Lg.b (l_X5_readCell ha123 hv3_92) (fun r158 a158 hr158 ha158 => ?_)
              refine Lg.eq rfl rfl hr158 (zRd rfl) ?_ ?_
              · exact LgI.ret rfl (zRd rfl) ha158
              · refine Lg.letv (zwr (zadd rfl rfl)) wr_R (fun v2_166 hv2_166 => ?_)
                exact (ih ha158 hv2_166)
        · exact (l_X5_readToken_106 ih ha100)
theorem l_X5_readToken {N : Nat} {k : Nat} {ah : IH} (hah : HR ah) : LfI (G_X5_readToken N (k : Nat) ah) (F_X5_readToken N k (zh ah)) := by
  unfold G_X5_readToken F_X5_readToken
  refine Lg.b (l_X9_peek hah (zRd rfl)) (fun r3 a3 hr3 ha3 => ?_)
  refine Lg.b (l_X5_beginsCell ha3 hr3) (fun r6 a6 hr6 ha6 => ?_)
  refine Lg.eq rfl rfl hr6 (zRd rfl) ?_ ?_
  · refine Lg.b (l_X9_refuse ha6 (zRd rfl) (ha6 _ _)) (fun r18 a18 hr18 ha18 => ?_)
    refine Lg.bo rfl ?_
    exact LgI.ret rfl hr18 ha18
  · refine Lg.lt rfl rfl (ha6 _ _) (zRd rfl) ?_ ?_
    · refine Lg.g rfl rfl (by decide) (fun g1 => ?_)
      refine Lg.wrt ha6 rfl (zix rfl g1) rfl (ha6 _ _) (fun a53 ha53 => ?_)
      refine Lg.g rfl rfl (by decide) (fun g2 => ?_)
      refine Lg.wrt ha53 rfl (zix rfl g2) (zwr (zsub rfl rfl)) wr_R (fun a68 ha68 => ?_)
      refine Lg.wrt ha68 rfl rfl (zwr (zadd rfl rfl)) wr_R (fun a76 ha76 => ?_)
      refine Lg.letv rfl (zRd rfl) (fun v2_80 hv2_80 => ?_)
      exact (l_X5_readToken_81 _ ha76 hv2_80)
    · refine Lg.b (l_X9_refuse ha6 (zRd rfl) (ha6 _ _)) (fun r37 a37 hr37 ha37 => ?_)
      refine Lg.bo rfl ?_
      exact LgI.ret rfl hr37 ha37
theorem l_X5_readText_17 {N : Nat} {k : Nat}  : ∀ (n : Nat) {ah : IH} {v2 : Int}, HR ah → zR v2 → LfI (G_X5_readText_17 N (k : Nat) n ah v2) (F_X5_readText_17 N k n (zh ah) (zI v2)) := by
  intro n
  induction n with
  | zero => intros; exact Lg.none
  | succ n ih =>
    intro ah v2 hah hv2
    unfold G_X5_readText_17 F_X5_readText_17
    refine Lg.lt rfl rfl (zRd rfl) hv2 ?_ ?_
    · exact LgI.ret rfl (zRd rfl) hah
    · refine Lg.bv (l_X5_readGap hah) (fun a25 ha25 => ?_)
      refine Lg.b (l_X9_atEnd ha25) (fun r29 a29 hr29 ha29 => ?_)
      refine Lg.eq rfl rfl hr29 (zRd rfl) ?_ ?_
      · refine Lg.b (l_X5_readToken ha29) (fun r39 a39 hr39 ha39 => ?_)
        refine Lg.eq rfl rfl hr39 (zRd rfl) ?_ ?_
        · exact LgI.ret rfl (zRd rfl) ha39
        · refine Lg.letv (zwr (zadd rfl rfl)) wr_R (fun v2_47 hv2_47 => ?_)
          exact (ih ha39 hv2_47)
      · exact LgI.ret rfl (zRd rfl) ha29
theorem l_X5_readText {N : Nat} {k : Nat} {ah : IH} (hah : HR ah) : LfI (G_X5_readText N (k : Nat) ah) (F_X5_readText N k (zh ah)) := by
  unfold G_X5_readText F_X5_readText
  refine Lg.wrt hah rfl rfl rfl (zRd rfl) (fun a2 ha2 => ?_)
  refine Lg.wrt ha2 rfl rfl rfl (zRd rfl) (fun a7 ha7 => ?_)
  refine Lg.wrt ha7 rfl rfl rfl (zRd rfl) (fun a12 ha12 => ?_)
  refine Lg.letv rfl (zRd rfl) (fun v2_16 hv2_16 => ?_)
  exact (l_X5_readText_17 _ ha12 hv2_16)
theorem l_X7_wordOfChoice {N : Nat} {ah : IH} {p1 : Int} {p2 : Int} (hah : HR ah) (hp1 : zR p1) (hp2 : zR p2) : LfI (G_X7_wordOfChoice N ah p1 p2) (F_X7_wordOfChoice N (zh ah) (zI p1) (zI p2)) := by
  unfold G_X7_wordOfChoice F_X7_wordOfChoice
  refine Lg.le rfl rfl (zRd rfl) hp2 ?_ ?_
  · exact LgI.ret rfl (zRd rfl) hah
  · refine Lg.b (l_X0_wordInside hah hp1 hp2) (fun r11 a11 hr11 ha11 => ?_)
    exact LgI.ret rfl hr11 ha11
theorem l_X7_say_121 {N : Nat} {k55 : IH → Int → Int → Option IH} {k55F : AH → Int32 → Int32 → Option AH} {ah : IH} {v1 : Int} {v2 : Int} {s1 : Int} {s2 : Int} (hk55 : ∀ {z0 : IH} {z1 : Int} {z2 : Int}, HR z0 → zR z1 → zR z2 → LfV (k55 z0 z1 z2) (k55F (zh z0) (zI z1) (zI z2))) (hah : HR ah) (hv1 : zR v1) (hv2 : zR v2) (hs1 : zR s1) (hs2 : zR s2) : LfV (G_X7_say_121 N k55 ah v1 v2 s1 s2) (F_X7_say_121 N k55F (zh ah) (zI v1) (zI v2) (zI s1) (zI s2)) := by
  unfold G_X7_say_121 F_X7_say_121
  refine Lg.wrt hah rfl rfl (zwr (zadd rfl rfl)) wr_R (fun a122 ha122 => ?_)
  refine Lg.g (zadd (zmul rfl rfl) rfl) rfl (by decide) (fun g1 => ?_)
  refine Lg.letv (zlk (zadd (zmul rfl rfl) rfl) g1) (ha122 _ _) (fun v1_135 hv1_135 => ?_)
  refine Lg.letv (zwr (zadd rfl rfl)) wr_R (fun v2_136 hv2_136 => ?_)
  exact (hk55 ha122 hv1_135 hv2_136)
theorem l_X7_say_95 {N : Nat} {k55 : IH → Int → Int → Option IH} {k55F : AH → Int32 → Int32 → Option AH} {ah : IH} {v1 : Int} {v2 : Int} {v3 : Int} {s1 : Int} {s2 : Int} (hk55 : ∀ {z0 : IH} {z1 : Int} {z2 : Int}, HR z0 → zR z1 → zR z2 → LfV (k55 z0 z1 z2) (k55F (zh z0) (zI z1) (zI z2))) (hah : HR ah) (hv1 : zR v1) (hv2 : zR v2) (hv3 : zR v3) (hs1 : zR s1) (hs2 : zR s2) : LfV (G_X7_say_95 N k55 ah v1 v2 v3 s1 s2) (F_X7_say_95 N k55F (zh ah) (zI v1) (zI v2) (zI v3) (zI s1) (zI s2)) := by
  unfold G_X7_say_95 F_X7_say_95
  refine Lg.wrt hah rfl rfl (zwr (zadd rfl rfl)) wr_R (fun a96 ha96 => ?_)
  refine Lg.b (l_X0_mendedWord ha96 hv2) (fun r110 a110 hr110 ha110 => ?_)
  refine Lg.eq rfl rfl hv3 hr110 ?_ ?_
  · exact (l_X7_say_121 hk55 ha110 hv1 hv2 (ha96 _ _) (zRd rfl))
  · exact (l_X7_say_121 hk55 ha110 hv1 hv2 (ha96 _ _) (zRd rfl))
theorem l_X7_say_55 {N : Nat}  : ∀ (n : Nat) {ah : IH} {v1 : Int} {v2 : Int}, HR ah → zR v1 → zR v2 → LfV (G_X7_say_55 N n ah v1 v2) (F_X7_say_55 N n (zh ah) (zI v1) (zI v2)) := by
  intro n
  induction n with
  | zero => intros; exact Lg.none
  | succ n ih =>
    intro ah v1 v2 hah hv1 hv2
    unfold G_X7_say_55 F_X7_say_55
    refine Lg.le rfl rfl (hah _ _) hv2 ?_ ?_
    · exact LgV.ret hah
    · refine Lg.b (l_X7_wordOfChoice hah hv2 hv1) (fun r69 a69 hr69 ha69 => ?_)
      refine Lg.letv rfl hr69 (fun v3_72 hv3_72 => ?_)
      refine Lg.g rfl rfl (by decide) (fun g1 => ?_)
      refine Lg.wrt ha69 rfl (zix rfl g1) rfl hv3_72 (fun a79 ha79 => ?_)
      refine Lg.eq rfl rfl hv3_72 (zRd rfl) ?_ ?_
      · exact (l_X7_say_95 ih ha79 hv1 hv2 hv3_72 (ha79 _ _) (zRd rfl))
      · exact (l_X7_say_95 ih ha79 hv1 hv2 hv3_72 (ha79 _ _) (zRd rfl))
theorem l_X7_say_37 {N : Nat} {k15 : IH → Int → Int → Option IH} {k15F : AH → Int32 → Int32 → Option AH} {ah : IH} {v1 : Int} {v2 : Int} (hk15 : ∀ {z0 : IH} {z1 : Int} {z2 : Int}, HR z0 → zR z1 → zR z2 → LfV (k15 z0 z1 z2) (k15F (zh z0) (zI z1) (zI z2))) (hah : HR ah) (hv1 : zR v1) (hv2 : zR v2) : LfV (G_X7_say_37 N k15 ah v1 v2) (F_X7_say_37 N k15F (zh ah) (zI v1) (zI v2)) := by
  unfold G_X7_say_37 F_X7_say_37
  refine Lg.letv (zwr (zadd rfl rfl)) wr_R (fun v2_37 hv2_37 => ?_)
  exact (hk15 hah hv1 hv2_37)
theorem l_X7_say_15 {N : Nat}  : ∀ (n : Nat) {ah : IH} {v1 : Int} {v2 : Int}, HR ah → zR v1 → zR v2 → LfV (G_X7_say_15 N n ah v1 v2) (F_X7_say_15 N n (zh ah) (zI v1) (zI v2)) := by
  intro n
  induction n with
  | zero => intros; exact Lg.none
  | succ n ih =>
    intro ah v1 v2 hah hv1 hv2
    unfold G_X7_say_15 F_X7_say_15
    refine Lg.le rfl rfl (zRd rfl) hv2 ?_ ?_
    · refine Lg.g rfl rfl (by decide) (fun g1 => ?_)
      refine Lg.wrt hah rfl rfl (zlk rfl g1) (hah _ _) (fun a50 ha50 => ?_)
      refine Lg.letv rfl (zRd rfl) (fun v2_54 hv2_54 => ?_)
      exact (l_X7_say_55 _ ha50 hv1 hv2_54)
    · refine Lg.g rfl rfl (by decide) (fun g2 => ?_)
      refine Lg.g rfl rfl (by decide) (fun g3 => ?_)
      refine Lg.le (zlk rfl g3) (zlk rfl g2) (hah _ _) (hah _ _) ?_ ?_
      · exact (l_X7_say_37 ih hah hv1 hv2)
      · refine Lg.letv rfl hv2 (fun v1_36 hv1_36 => ?_)
        exact (l_X7_say_37 ih hah hv1_36 hv2)
theorem l_X7_say {N : Nat} {ah : IH} (hah : HR ah) : LfV (G_X7_say N ah) (F_X7_say N (zh ah)) := by
  unfold G_X7_say F_X7_say
  refine Lg.eq rfl rfl (hah _ _) (zRd rfl) ?_ ?_
  · exact LgV.ret hah
  · refine Lg.letv rfl (zRd rfl) (fun v1_12 hv1_12 => ?_)
    refine Lg.letv rfl (zRd rfl) (fun v2_14 hv2_14 => ?_)
    exact (l_X7_say_15 _ hah hv1_12 hv2_14)
theorem l_X7_between_10 {N : Nat} {ah : IH} (hah : HR ah) : LfI (G_X7_between_10 N ah) (F_X7_between_10 N (zh ah)) := by
  unfold G_X7_between_10 F_X7_between_10
  exact LgI.ret rfl (zRd rfl) hah
theorem l_X7_between {N : Nat} {ah : IH} {p1 : Int} {p2 : Int} (hah : HR ah) (hp1 : zR p1) (hp2 : zR p2) : LfI (G_X7_between N ah p1 p2) (F_X7_between N (zh ah) (zI p1) (zI p2)) := by
  unfold G_X7_between F_X7_between
  refine Lg.eq rfl rfl hp1 (zRd rfl) ?_ ?_
  · exact (l_X7_between_10 hah)
  · refine Lg.eq rfl rfl hp2 (zRd rfl) ?_ ?_
    · exact (l_X7_between_10 hah)
    · refine Lg.b (l_X1_dearOf hah hp1 hp2 (hah _ _)) (fun r27 a27 hr27 ha27 => ?_)
      exact LgI.ret rfl hr27 ha27
theorem l_X7_weighChoice_172 {N : Nat} {k94 : IH → Int → Int → Int → Int → Int → Option IH} {k94F : AH → Int32 → Int32 → Int32 → Int32 → Int32 → Option AH} {ah : IH} {v1 : Int} {v3 : Int} {v4 : Int} {v5 : Int} {v6 : Int} (hk94 : ∀ {z0 : IH} {z1 : Int} {z2 : Int} {z3 : Int} {z4 : Int} {z5 : Int}, HR z0 → zR z1 → zR z2 → zR z3 → zR z4 → zR z5 → LfV (k94 z0 z1 z2 z3 z4 z5) (k94F (zh z0) (zI z1) (zI z2) (zI z3) (zI z4) (zI z5))) (hah : HR ah) (hv1 : zR v1) (hv3 : zR v3) (hv4 : zR v4) (hv5 : zR v5) (hv6 : zR v6) : LfV (G_X7_weighChoice_172 N k94 ah v1 v3 v4 v5 v6) (F_X7_weighChoice_172 N k94F (zh ah) (zI v1) (zI v3) (zI v4) (zI v5) (zI v6)) := by
  unfold G_X7_weighChoice_172 F_X7_weighChoice_172
  refine Lg.letv (zwr (zadd rfl rfl)) wr_R (fun v6_172 hv6_172 => ?_)
  exact (hk94 hah hv1 hv3 hv4 hv5 hv6_172)
theorem l_X7_weighChoice_94 {N : Nat}  : ∀ (n : Nat) {ah : IH} {v1 : Int} {v3 : Int} {v4 : Int} {v5 : Int} {v6 : Int}, HR ah → zR v1 → zR v3 → zR v4 → zR v5 → zR v6 → LfV (G_X7_weighChoice_94 N n ah v1 v3 v4 v5 v6) (F_X7_weighChoice_94 N n (zh ah) (zI v1) (zI v3) (zI v4) (zI v5) (zI v6)) := by
  intro n
  induction n with
  | zero => intros; exact Lg.none
  | succ n ih =>
    intro ah v1 v3 v4 v5 v6 hah hv1 hv3 hv4 hv5 hv6
    unfold G_X7_weighChoice_94 F_X7_weighChoice_94
    refine Lg.le rfl rfl (zRd rfl) hv6 ?_ ?_
    · exact LgV.ret hah
    · refine Lg.g (zadd (zmul (zadd rfl rfl) rfl) rfl) rfl (by decide) (fun g1 => ?_)
      refine Lg.letv (zlk (zadd (zmul (zadd rfl rfl) rfl) rfl) g1) (hah _ _) (fun v7_113 hv7_113 => ?_)
      refine Lg.b (by rw [(show ((zI v1) + (1 : Int32)) = zI (wr (v1 + 1)) from (zwr (zadd rfl rfl)))]; exact l_X7_wordOfChoice hah wr_R hv6) (fun r129 a129 hr129 ha129 => ?_)
      refine Lg.b (l_X7_between ha129 hv4 hr129) (fun r132 a132 hr132 ha132 => ?_)
      refine Lg.letv (zwr (zadd (zadd rfl rfl) rfl)) wr_R (fun v8_136 hv8_136 => ?_)
      refine Lg.le rfl rfl (zRd rfl) hv7_113 ?_ ?_
      · exact (l_X7_weighChoice_172 ih ha132 hv1 hv3 hv4 hv5 hv6)
      · refine Lg.g rfl rfl (by decide) (fun g2 => ?_)
        refine Lg.le (zlk rfl g2) rfl (ha132 _ _) hv8_136 ?_ ?_
        · exact (l_X7_weighChoice_172 ih ha132 hv1 hv3 hv4 hv5 hv6)
        · refine Lg.g rfl rfl (by decide) (fun g3 => ?_)
          refine Lg.wrt ha132 rfl (zix rfl g3) rfl hv8_136 (fun a163 ha163 => ?_)
          refine Lg.g rfl rfl (by decide) (fun g4 => ?_)
          refine Lg.wrt ha163 rfl (zix rfl g4) rfl hv6 (fun a171 ha171 => ?_)
          exact (l_X7_weighChoice_172 ih ha171 hv1 hv3 hv4 hv5 hv6)
theorem l_X7_weighChoice_67 {N : Nat} {ah : IH} {v1 : Int} {v3 : Int} {v4 : Int} {s0 : Int} (hah : HR ah) (hv1 : zR v1) (hv3 : zR v3) (hv4 : zR v4) (hs0 : zR s0) : LfV (G_X7_weighChoice_67 N ah v1 v3 v4 s0) (F_X7_weighChoice_67 N (zh ah) (zI v1) (zI v3) (zI v4) (zI s0)) := by
  unfold G_X7_weighChoice_67 F_X7_weighChoice_67
  refine Lg.letv rfl hs0 (fun v5_67 hv5_67 => ?_)
  refine Lg.lt (zwr (zadd rfl rfl)) rfl wr_R (hah _ _) ?_ ?_
  · refine Lg.letv rfl (zRd rfl) (fun v6_92 hv6_92 => ?_)
    exact (l_X7_weighChoice_94 _ hah hv1 hv3 hv4 hv5_67 hv6_92)
  · refine Lg.g rfl rfl (by decide) (fun g1 => ?_)
    refine Lg.wrt hah rfl (zix rfl g1) rfl hv5_67 (fun a89 ha89 => ?_)
    exact LgV.ret ha89
theorem l_X7_weighChoice_41 {N : Nat} {ah : IH} {v1 : Int} {v2 : Int} {v3 : Int} {v4 : Int} (hah : HR ah) (hv1 : zR v1) (hv2 : zR v2) (hv3 : zR v3) (hv4 : zR v4) : LfV (G_X7_weighChoice_41 N ah v1 v2 v3 v4) (F_X7_weighChoice_41 N (zh ah) (zI v1) (zI v2) (zI v3) (zI v4)) := by
  unfold G_X7_weighChoice_41 F_X7_weighChoice_41
  refine Lg.eq rfl rfl hv4 (zRd rfl) ?_ ?_
  · refine Lg.b (l_X0_outsidePrice hah hv1) (fun r52 a52 hr52 ha52 => ?_)
    exact (l_X7_weighChoice_67 ha52 hv1 hv3 hv4 hr52)
  · refine Lg.b (l_X0_priceOf hah hv1 hv2) (fun r64 a64 hr64 ha64 => ?_)
    exact (l_X7_weighChoice_67 ha64 hv1 hv3 hv4 hr64)
theorem l_X7_weighChoice {N : Nat} {ah : IH} {p1 : Int} {p2 : Int} (hah : HR ah) (hp1 : zR p1) (hp2 : zR p2) : LfV (G_X7_weighChoice N ah p1 p2) (F_X7_weighChoice N (zh ah) (zI p1) (zI p2)) := by
  unfold G_X7_weighChoice F_X7_weighChoice
  refine Lg.letv (zwr (zadd (zmul rfl rfl) rfl)) wr_R (fun v3_5 hv3_5 => ?_)
  refine Lg.b (l_X7_wordOfChoice hah hp1 hp2) (fun r9 a9 hr9 ha9 => ?_)
  refine Lg.letv rfl hr9 (fun v4_12 hv4_12 => ?_)
  refine Lg.g rfl rfl (by decide) (fun g1 => ?_)
  refine Lg.wrt ha9 rfl (zix rfl g1) rfl (zRd rfl) (fun a21 ha21 => ?_)
  refine Lg.g rfl rfl (by decide) (fun g2 => ?_)
  refine Lg.wrt ha21 rfl (zix rfl g2) rfl (zRd rfl) (fun a28 ha28 => ?_)
  refine Lg.eq rfl rfl hv4_12 (zRd rfl) ?_ ?_
  · refine Lg.le rfl rfl (zRd rfl) hp2 ?_ ?_
    · exact (l_X7_weighChoice_41 ha28 hp1 hp2 hv3_5 hv4_12)
    · exact LgV.ret ha28
  · exact (l_X7_weighChoice_41 ha28 hp1 hp2 hv3_5 hv4_12)
theorem l_X7_make_32 {N : Nat} {k18 : IH → Int → Option IH} {k18F : AH → Int32 → Option AH} (hk18 : ∀ {z0 : IH} {z1 : Int}, HR z0 → zR z1 → LfV (k18 z0 z1) (k18F (zh z0) (zI z1))) : ∀ (n : Nat) {ah : IH} {v1 : Int} {v2 : Int}, HR ah → zR v1 → zR v2 → LfV (G_X7_make_32 N k18 n ah v1 v2) (F_X7_make_32 N k18F n (zh ah) (zI v1) (zI v2)) := by
  intro n
  induction n with
  | zero => intros; exact Lg.none
  | succ n ih =>
    intro ah v1 v2 hah hv1 hv2
    unfold G_X7_make_32 F_X7_make_32
    refine Lg.le rfl rfl (zRd rfl) hv2 ?_ ?_
    · refine Lg.letv (zwr (zadd rfl rfl)) wr_R (fun v1_49 hv1_49 => ?_)
      exact (hk18 hah hv1_49)
    · refine Lg.bv (l_X7_weighChoice hah hv1 hv2) (fun a40 ha40 => ?_)
      refine Lg.letv (zwr (zadd rfl rfl)) wr_R (fun v2_43 hv2_43 => ?_)
      exact (ih ha40 hv1 hv2_43)
theorem l_X7_make_18 {N : Nat}  : ∀ (n : Nat) {ah : IH} {v1 : Int}, HR ah → zR v1 → LfV (G_X7_make_18 N n ah v1) (F_X7_make_18 N n (zh ah) (zI v1)) := by
  intro n
  induction n with
  | zero => intros; exact Lg.none
  | succ n ih =>
    intro ah v1 hah hv1
    unfold G_X7_make_18 F_X7_make_18
    refine Lg.lt rfl rfl hv1 (zRd rfl) ?_ ?_
    · refine Lg.wrt hah rfl rfl rfl (zRd rfl) (fun a57 ha57 => ?_)
      refine Lg.wrt ha57 rfl rfl rfl (zRd rfl) (fun a62 ha62 => ?_)
      refine Lg.wrt ha62 rfl rfl rfl (zRd rfl) (fun a67 ha67 => ?_)
      refine Lg.bv (l_X7_say ha67) (fun a71 ha71 => ?_)
      refine Lg.wrt ha71 rfl rfl rfl (zRd rfl) (fun a76 ha76 => ?_)
      exact LgV.ret ha76
    · refine Lg.bv (l_X0_lookAlone hah hv1) (fun a27 ha27 => ?_)
      refine Lg.letv rfl (zRd rfl) (fun v2_31 hv2_31 => ?_)
      exact (l_X7_make_32 ih _ ha27 hv1 hv2_31)
theorem l_X7_make {N : Nat} {ah : IH} (hah : HR ah) : LfV (G_X7_make N ah) (F_X7_make N (zh ah)) := by
  unfold G_X7_make F_X7_make
  refine Lg.eq rfl rfl (hah _ _) (zRd rfl) ?_ ?_
  · refine Lg.letv (zwr (zsub rfl rfl)) wr_R (fun v1_17 hv1_17 => ?_)
    exact (l_X7_make_18 _ hah hv1_17)
  · exact LgV.ret hah
theorem l_X8_readPart_2 {N : Nat} {k : Nat} {w2 : Nat}  : ∀ (n : Nat) {ah : IH} {v3 : Int}, HR ah → zR v3 → LfI (G_X8_readPart_2 N (k : Nat) (w2 : Nat) n ah v3) (F_X8_readPart_2 N k w2 n (zh ah) (zI v3)) := by
  intro n
  induction n with
  | zero => intros; exact Lg.none
  | succ n ih =>
    intro ah v3 hah hv3
    unfold G_X8_readPart_2 F_X8_readPart_2
    refine Lg.lt rfl rfl (zRd rfl) hv3 ?_ ?_
    · exact LgI.ret rfl (zRd rfl) hah
    · refine Lg.b (l_X9_peek hah (zRd rfl)) (fun r9 a9 hr9 ha9 => ?_)
      refine Lg.b (l_X11_isLetter ha9 hr9) (fun r12 a12 hr12 ha12 => ?_)
      refine Lg.eq rfl rfl hr12 (zRd rfl) ?_ ?_
      · refine Lg.le rfl rfl hv3 (zRd rfl) ?_ ?_
        · refine Lg.b (l_X9_refuse ha12 (zRd rfl) (ha12 _ _)) (fun r30 a30 hr30 ha30 => ?_)
          exact LgI.ret rfl (zRd rfl) ha30
        · exact LgI.ret rfl hv3 ha12
      · refine Lg.eq rfl rfl hv3 (zRd rfl) ?_ ?_
        · refine Lg.b (l_X9_refuse ha12 (zRd rfl) (ha12 _ _)) (fun r47 a47 hr47 ha47 => ?_)
          exact LgI.ret rfl (zRd rfl) ha47
        · refine Lg.b (l_X9_peek ha12 (zRd rfl)) (fun r64 a64 hr64 ha64 => ?_)
          refine Lg.g (zadd (zmul rfl rfl) rfl) rfl (by decide) (fun g1 => ?_)
          refine Lg.wrt ha64 rfl (zix (zadd (zmul rfl rfl) rfl) g1) rfl hr64 (fun a67 ha67 => ?_)
          refine Lg.wrt ha67 rfl rfl (zwr (zadd rfl rfl)) wr_R (fun a75 ha75 => ?_)
          refine Lg.letv (zwr (zadd rfl rfl)) wr_R (fun v3_78 hv3_78 => ?_)
          exact (ih ha75 hv3_78)
theorem l_X8_readPart {N : Nat} {k : Nat} {w2 : Nat} {ah : IH} (hah : HR ah) : LfI (G_X8_readPart N (k : Nat) (w2 : Nat) ah) (F_X8_readPart N k w2 (zh ah)) := by
  unfold G_X8_readPart F_X8_readPart
  refine Lg.letv rfl (zRd rfl) (fun v3_1 hv3_1 => ?_)
  exact (l_X8_readPart_2 _ hah hv3_1)
theorem l_X8_partsAlike_25 {N : Nat} {k : Nat}  : ∀ (n : Nat) {ah : IH} {v1 : Int}, HR ah → zR v1 → LfI (G_X8_partsAlike_25 N (k : Nat) n ah v1) (F_X8_partsAlike_25 N k n (zh ah) (zI v1)) := by
  intro n
  induction n with
  | zero => intros; exact Lg.none
  | succ n ih =>
    intro ah v1 hah hv1
    unfold G_X8_partsAlike_25 F_X8_partsAlike_25
    refine Lg.g rfl rfl (by decide) (fun g1 => ?_)
    refine Lg.le (zlk rfl g1) rfl (hah _ _) hv1 ?_ ?_
    · exact LgI.ret rfl (zRd rfl) hah
    · refine Lg.g (zadd (zmul rfl rfl) rfl) rfl (by decide) (fun g2 => ?_)
      refine Lg.g (zadd (zmul rfl rfl) rfl) rfl (by decide) (fun g3 => ?_)
      refine Lg.eq (zlk (zadd (zmul rfl rfl) rfl) g3) (zlk (zadd (zmul rfl rfl) rfl) g3) (hah _ _) (hah _ _) ?_ ?_
      · refine Lg.letv (zwr (zadd rfl rfl)) wr_R (fun v1_69 hv1_69 => ?_)
        exact (ih hah hv1_69)
      · exact LgI.ret rfl (zRd rfl) hah
theorem l_X8_partsAlike {N : Nat} {k : Nat} {ah : IH} (hah : HR ah) : LfI (G_X8_partsAlike N (k : Nat) ah) (F_X8_partsAlike N k (zh ah)) := by
  unfold G_X8_partsAlike F_X8_partsAlike
  refine Lg.g rfl rfl (by decide) (fun g1 => ?_)
  refine Lg.g rfl rfl (by decide) (fun g2 => ?_)
  refine Lg.eq (zlk rfl g2) (zlk rfl g2) (hah _ _) (hah _ _) ?_ ?_
  · refine Lg.letv rfl (zRd rfl) (fun v1_24 hv1_24 => ?_)
    exact (l_X8_partsAlike_25 _ hah hv1_24)
  · exact LgI.ret rfl (zRd rfl) hah
theorem l_X8_readEntry {N : Nat} {k : Nat} {ah : IH} (hah : HR ah) : LfI (G_X8_readEntry N (k : Nat) ah) (F_X8_readEntry N k (zh ah)) := by
  unfold G_X8_readEntry F_X8_readEntry
  refine Lg.b (l_X9_peek hah (zRd rfl)) (fun r2 a2 hr2 ha2 => ?_)
  refine Lg.b (l_X11_isLetter ha2 hr2) (fun r5 a5 hr5 ha5 => ?_)
  refine Lg.eq rfl rfl hr5 (zRd rfl) ?_ ?_
  · refine Lg.b (l_X9_refuse ha5 (zRd rfl) (ha5 _ _)) (fun r17 a17 hr17 ha17 => ?_)
    refine Lg.bo rfl ?_
    exact LgI.ret rfl hr17 ha17
  · refine Lg.lt rfl rfl (ha5 _ _) (zRd rfl) ?_ ?_
    · refine Lg.b (by rw [← (show (((k + 4) : Nat) : Int) = (k + 4) from (cadd rfl rfl))]; exact l_X8_readPart ha5) (fun r54 a54 hr54 ha54 => ?_)
      refine Lg.g rfl rfl (by decide) (fun g1 => ?_)
      refine Lg.wrt ha54 rfl (zix rfl g1) rfl hr54 (fun a57 ha57 => ?_)
      refine Lg.g rfl rfl (by decide) (fun g2 => ?_)
      refine Lg.eq (zlk rfl g2) rfl (ha57 _ _) (zRd rfl) ?_ ?_
      · exact LgI.ret rfl (zRd rfl) ha57
      · refine Lg.b (l_X9_peek ha57 (zRd rfl)) (fun r75 a75 hr75 ha75 => ?_)
        refine Lg.eq rfl rfl hr75 (zRd rfl) ?_ ?_
        · refine Lg.wrt ha75 rfl rfl (zwr (zadd rfl rfl)) wr_R (fun a100 ha100 => ?_)
          refine Lg.bv (l_X9_skipBlanks ha100) (fun a104 ha104 => ?_)
          refine Lg.letv rfl (ha104 _ _) (fun v2_111 hv2_111 => ?_)
          refine Lg.b (by rw [← (show (((k + 5) : Nat) : Int) = (k + 5) from (cadd rfl rfl))]; exact l_X8_readPart ha104) (fun r126 a126 hr126 ha126 => ?_)
          refine Lg.g rfl rfl (by decide) (fun g3 => ?_)
          refine Lg.wrt ha126 rfl (zix rfl g3) rfl hr126 (fun a129 ha129 => ?_)
          refine Lg.g rfl rfl (by decide) (fun g4 => ?_)
          refine Lg.eq (zlk rfl g4) rfl (ha129 _ _) (zRd rfl) ?_ ?_
          · exact LgI.ret rfl (zRd rfl) ha129
          · refine Lg.b (l_X8_partsAlike ha129) (fun r146 a146 hr146 ha146 => ?_)
            refine Lg.eq rfl rfl hr146 (zRd rfl) ?_ ?_
            · refine Lg.b (l_X9_readEnding ha146 (zRd rfl) (zRd rfl)) (fun r170 a170 hr170 ha170 => ?_)
              refine Lg.g rfl rfl (by decide) (fun g5 => ?_)
              refine Lg.wrt ha170 rfl (zix rfl g5) rfl hr170 (fun a173 ha173 => ?_)
              refine Lg.g rfl rfl (by decide) (fun g6 => ?_)
              refine Lg.eq (zlk rfl g6) rfl (ha173 _ _) (zRd rfl) ?_ ?_
              · exact LgI.ret rfl (zRd rfl) ha173
              · refine Lg.wrt ha173 rfl rfl (zwr (zadd rfl rfl)) wr_R (fun a196 ha196 => ?_)
                exact LgI.ret rfl (zRd rfl) ha196
            · refine Lg.b (l_X9_refuse ha146 (zRd rfl) hv2_111) (fun r155 a155 hr155 ha155 => ?_)
              refine Lg.bo rfl ?_
              exact LgI.ret rfl hr155 ha155
        · refine Lg.b (l_X9_refuse ha75 (zRd rfl) (ha75 _ _)) (fun r89 a89 hr89 ha89 => ?_)
          refine Lg.bo rfl ?_
          exact LgI.ret rfl hr89 ha89
    · refine Lg.b (l_X9_refuse ha5 (zRd rfl) (ha5 _ _)) (fun r36 a36 hr36 ha36 => ?_)
      refine Lg.bo rfl ?_
      exact LgI.ret rfl hr36 ha36
theorem l_X8_readText_7 {N : Nat} {k : Nat}  : ∀ (n : Nat) {ah : IH} {v2 : Int}, HR ah → zR v2 → LfI (G_X8_readText_7 N (k : Nat) n ah v2) (F_X8_readText_7 N k n (zh ah) (zI v2)) := by
  intro n
  induction n with
  | zero => intros; exact Lg.none
  | succ n ih =>
    intro ah v2 hah hv2
    unfold G_X8_readText_7 F_X8_readText_7
    refine Lg.lt rfl rfl (zRd rfl) hv2 ?_ ?_
    · exact LgI.ret rfl (zRd rfl) hah
    · refine Lg.bv (l_X9_skipBlanks hah) (fun a14 ha14 => ?_)
      refine Lg.b (l_X9_atEnd ha14) (fun r18 a18 hr18 ha18 => ?_)
      refine Lg.eq rfl rfl hr18 (zRd rfl) ?_ ?_
      · refine Lg.b (l_X8_readEntry ha18) (fun r28 a28 hr28 ha28 => ?_)
        refine Lg.eq rfl rfl hr28 (zRd rfl) ?_ ?_
        · exact LgI.ret rfl (zRd rfl) ha28
        · refine Lg.letv (zwr (zadd rfl rfl)) wr_R (fun v2_36 hv2_36 => ?_)
          exact (ih ha28 hv2_36)
      · exact LgI.ret rfl (zRd rfl) ha18
theorem l_X8_readText {N : Nat} {k : Nat} {ah : IH} (hah : HR ah) : LfI (G_X8_readText N (k : Nat) ah) (F_X8_readText N k (zh ah)) := by
  unfold G_X8_readText F_X8_readText
  refine Lg.wrt hah rfl rfl rfl (zRd rfl) (fun a2 ha2 => ?_)
  refine Lg.letv rfl (zRd rfl) (fun v2_6 hv2_6 => ?_)
  exact (l_X8_readText_7 _ ha2 hv2_6)
theorem l_X9_begin {N : Nat} {ah : IH} {p1 : Int} (hah : HR ah) (hp1 : zR p1) : LfV (G_X9_begin N ah p1) (F_X9_begin N (zh ah) (zI p1)) := by
  unfold G_X9_begin F_X9_begin
  refine Lg.wrt hah rfl rfl rfl hp1 (fun a2 ha2 => ?_)
  refine Lg.wrt ha2 rfl rfl rfl (zRd rfl) (fun a7 ha7 => ?_)
  refine Lg.wrt ha7 rfl rfl rfl (zRd rfl) (fun a12 ha12 => ?_)
  refine Lg.wrt ha12 rfl rfl rfl (zRd rfl) (fun a17 ha17 => ?_)
  exact LgV.ret ha17
theorem l_X9_finish {N : Nat} {ah : IH} {p1 : Int} (hah : HR ah) (hp1 : zR p1) : LfI (G_X9_finish N ah p1) (F_X9_finish N (zh ah) (zI p1)) := by
  unfold G_X9_finish F_X9_finish
  refine Lg.wrt hah rfl rfl rfl (zRd rfl) (fun a2 ha2 => ?_)
  refine Lg.eq rfl rfl (ha2 _ _) (zRd rfl) ?_ ?_
  · exact LgI.ret rfl hp1 ha2
  · exact LgI.ret (zwr (zsub rfl rfl)) wr_R ha2
theorem l_X10_countShape_33 {N : Nat} {k4 : IH → Int → Int → Int → Option (Int × IH)} {k4F : AH → Int32 → Int32 → Int32 → Option (Int32 × AH)} {ah : IH} {v1 : Int} {v2 : Int} {v3 : Int} (hk4 : ∀ {z0 : IH} {z1 : Int} {z2 : Int} {z3 : Int}, HR z0 → zR z1 → zR z2 → zR z3 → LfI (k4 z0 z1 z2 z3) (k4F (zh z0) (zI z1) (zI z2) (zI z3))) (hah : HR ah) (hv1 : zR v1) (hv2 : zR v2) (hv3 : zR v3) : LfI (G_X10_countShape_33 N k4 ah v1 v2 v3) (F_X10_countShape_33 N k4F (zh ah) (zI v1) (zI v2) (zI v3)) := by
  unfold G_X10_countShape_33 F_X10_countShape_33
  refine Lg.letv (zwr (zadd rfl rfl)) wr_R (fun v3_33 hv3_33 => ?_)
  exact (hk4 hah hv1 hv2 hv3_33)
theorem l_X10_countShape_4 {N : Nat}  : ∀ (n : Nat) {ah : IH} {v1 : Int} {v2 : Int} {v3 : Int}, HR ah → zR v1 → zR v2 → zR v3 → LfI (G_X10_countShape_4 N n ah v1 v2 v3) (F_X10_countShape_4 N n (zh ah) (zI v1) (zI v2) (zI v3)) := by
  intro n
  induction n with
  | zero => intros; exact Lg.none
  | succ n ih =>
    intro ah v1 v2 v3 hah hv1 hv2 hv3
    unfold G_X10_countShape_4 F_X10_countShape_4
    refine Lg.le rfl rfl (hah _ _) hv3 ?_ ?_
    · exact LgI.ret rfl hv2 hah
    · refine Lg.g rfl rfl (by decide) (fun g1 => ?_)
      refine Lg.g (zlk rfl g1) rfl (by decide) (fun g2 => ?_)
      refine Lg.eq (zlk (zlk rfl g1) g2) rfl (hah _ _) hv1 ?_ ?_
      · refine Lg.letv (zwr (zadd rfl rfl)) wr_R (fun v2_30 hv2_30 => ?_)
        exact (l_X10_countShape_33 ih hah hv1 hv2_30 hv3)
      · exact (l_X10_countShape_33 ih hah hv1 hv2 hv3)
theorem l_X10_countShape {N : Nat} {ah : IH} {p1 : Int} (hah : HR ah) (hp1 : zR p1) : LfI (G_X10_countShape N ah p1) (F_X10_countShape N (zh ah) (zI p1)) := by
  unfold G_X10_countShape F_X10_countShape
  refine Lg.letv rfl (zRd rfl) (fun v2_1 hv2_1 => ?_)
  refine Lg.letv rfl (zRd rfl) (fun v3_3 hv3_3 => ?_)
  exact (l_X10_countShape_4 _ hah hp1 hv2_1 hv3_3)
theorem l_X11_needBetween_10 {N : Nat} {ah : IH} (hah : HR ah) : LfX (G_X11_needBetween_10 N ah) (F_X11_needBetween_10 N (zh ah)) := by
  unfold G_X11_needBetween_10 F_X11_needBetween_10
  refine Lg.wrt hah rfl rfl (zwr (zadd rfl rfl)) wr_R (fun a17 ha17 => ?_)
  exact LgX.ret rfl (zRd rfl) ha17
theorem l_X11_needBetween {N : Nat} {ah : IH} {p1 : Int} {p2 : Int} {p3 : Int} (hah : HR ah) (hp1 : zR p1) (hp2 : zR p2) (hp3 : zR p3) : LfX (G_X11_needBetween N ah p1 p2 p3) (F_X11_needBetween N (zh ah) (zI p1) (zI p2) (zI p3)) := by
  unfold G_X11_needBetween F_X11_needBetween
  refine Lg.lt rfl rfl hp1 hp2 ?_ ?_
  · exact (l_X11_needBetween_10 hah)
  · refine Lg.le rfl rfl hp1 hp3 ?_ ?_
    · exact LgX.ret rfl (zRd rfl) hah
    · exact (l_X11_needBetween_10 hah)
theorem l_X11_lexicon_39 {N : Nat} {ah : IH} (hah : HR ah) : LfX (G_X11_lexicon_39 N ah) (F_X11_lexicon_39 N (zh ah)) := by
  unfold G_X11_lexicon_39 F_X11_lexicon_39
  refine Lg.b (l_X9_finish hah (hah _ _)) (fun r50 a50 hr50 ha50 => ?_)
  exact LgX.ret rfl hr50 ha50
theorem l_X11_lexicon {N : Nat} {ah : IH} {p1 : Int} (hah : HR ah) (hp1 : zR p1) : LfX (G_X11_lexicon N ah p1) (F_X11_lexicon N (zh ah) (zI p1)) := by
  unfold G_X11_lexicon F_X11_lexicon
  refine Lg.bx (l_X11_needBetween hah hp1 (zRd rfl) (hah _ _)) (fun a10 ha10 => ?_)
  refine Lg.bv (l_X9_begin ha10 hp1) (fun a18 ha18 => ?_)
  refine Lg.b (l_X2_readText ha18) (fun r29 a29 hr29 ha29 => ?_)
  refine Lg.eq rfl rfl hr29 (zRd rfl) ?_ ?_
  · exact (l_X11_lexicon_39 ha29)
  · refine Lg.bv (l_X11_changed ha29) (fun a36 ha36 => ?_)
    exact (l_X11_lexicon_39 ha36)
theorem l_X11_shapes_59 {N : Nat} {ah : IH} (hah : HR ah) : LfX (G_X11_shapes_59 N ah) (F_X11_shapes_59 N (zh ah)) := by
  unfold G_X11_shapes_59 F_X11_shapes_59
  refine Lg.b (l_X9_finish hah (hah _ _)) (fun r70 a70 hr70 ha70 => ?_)
  exact LgX.ret rfl hr70 ha70
theorem l_X11_shapes {N : Nat} {ah : IH} {p1 : Int} (hah : HR ah) (hp1 : zR p1) : LfX (G_X11_shapes N ah p1) (F_X11_shapes N (zh ah) (zI p1)) := by
  unfold G_X11_shapes F_X11_shapes
  refine Lg.bx (l_X11_needBetween hah hp1 (zRd rfl) (hah _ _)) (fun a10 ha10 => ?_)
  refine Lg.bv (l_X9_begin ha10 hp1) (fun a18 ha18 => ?_)
  refine Lg.b (l_X8_readText ha18) (fun r29 a29 hr29 ha29 => ?_)
  refine Lg.eq rfl rfl hr29 (zRd rfl) ?_ ?_
  · exact (l_X11_shapes_59 ha29)
  · refine Lg.bv (l_X9_begin ha29 hp1) (fun a40 ha40 => ?_)
    refine Lg.b (l_X8_readText ha40) (fun r51 a51 hr51 ha51 => ?_)
    refine Lg.bv (l_X11_changed ha51) (fun a56 ha56 => ?_)
    exact (l_X11_shapes_59 ha56)
theorem l_X11_reading_59 {N : Nat} {ah : IH} (hah : HR ah) : LfX (G_X11_reading_59 N ah) (F_X11_reading_59 N (zh ah)) := by
  unfold G_X11_reading_59 F_X11_reading_59
  refine Lg.b (l_X9_finish hah (hah _ _)) (fun r70 a70 hr70 ha70 => ?_)
  exact LgX.ret rfl hr70 ha70
theorem l_X11_reading {N : Nat} {ah : IH} {p1 : Int} (hah : HR ah) (hp1 : zR p1) : LfX (G_X11_reading N ah p1) (F_X11_reading N (zh ah) (zI p1)) := by
  unfold G_X11_reading F_X11_reading
  refine Lg.bx (l_X11_needBetween hah hp1 (zRd rfl) (hah _ _)) (fun a10 ha10 => ?_)
  refine Lg.bv (l_X9_begin ha10 hp1) (fun a18 ha18 => ?_)
  refine Lg.b (l_X5_readText ha18) (fun r29 a29 hr29 ha29 => ?_)
  refine Lg.eq rfl rfl hr29 (zRd rfl) ?_ ?_
  · exact (l_X11_reading_59 ha29)
  · refine Lg.bv (l_X9_begin ha29 hp1) (fun a40 ha40 => ?_)
    refine Lg.b (l_X5_readText ha40) (fun r51 a51 hr51 ha51 => ?_)
    refine Lg.bv (l_X11_changed ha51) (fun a56 ha56 => ?_)
    exact (l_X11_reading_59 ha56)
theorem l_X11_follows_59 {N : Nat} {ah : IH} (hah : HR ah) : LfX (G_X11_follows_59 N ah) (F_X11_follows_59 N (zh ah)) := by
  unfold G_X11_follows_59 F_X11_follows_59
  refine Lg.b (l_X9_finish hah (hah _ _)) (fun r70 a70 hr70 ha70 => ?_)
  exact LgX.ret rfl hr70 ha70
theorem l_X11_follows {N : Nat} {ah : IH} {p1 : Int} (hah : HR ah) (hp1 : zR p1) : LfX (G_X11_follows N ah p1) (F_X11_follows N (zh ah) (zI p1)) := by
  unfold G_X11_follows F_X11_follows
  refine Lg.bx (l_X11_needBetween hah hp1 (zRd rfl) (hah _ _)) (fun a10 ha10 => ?_)
  refine Lg.bv (l_X9_begin ha10 hp1) (fun a18 ha18 => ?_)
  refine Lg.b (l_X1_readText ha18) (fun r29 a29 hr29 ha29 => ?_)
  refine Lg.eq rfl rfl hr29 (zRd rfl) ?_ ?_
  · exact (l_X11_follows_59 ha29)
  · refine Lg.bv (l_X9_begin ha29 hp1) (fun a40 ha40 => ?_)
    refine Lg.b (l_X1_readText ha40) (fun r51 a51 hr51 ha51 => ?_)
    refine Lg.bv (l_X11_changed ha51) (fun a56 ha56 => ?_)
    exact (l_X11_follows_59 ha56)
theorem l_X11_set {N : Nat} {ah : IH} {p1 : Int} {p2 : Int} (hah : HR ah) (hp1 : zR p1) (hp2 : zR p2) : LfX (G_X11_set N ah p1 p2) (F_X11_set N (zh ah) (zI p1) (zI p2)) := by
  unfold G_X11_set F_X11_set
  refine Lg.bx (l_X11_needBetween hah hp1 (zRd rfl) (zRd rfl)) (fun a5 ha5 => ?_)
  refine Lg.g rfl rfl (by decide) (fun g1 => ?_)
  refine Lg.bx (by rw [(show (hcv (Int32.toNatClampNeg (zI p1))) = zI (yhcv p1) from (zhcv rfl g1))]; exact l_X11_needBetween ha5 hp2 (zRd rfl) yhcv_R) (fun a16 ha16 => ?_)
  refine Lg.g rfl rfl (by decide) (fun g2 => ?_)
  refine Lg.letv (zlk rfl g2) (ha16 _ _) (fun v3_25 hv3_25 => ?_)
  refine Lg.g rfl rfl (by decide) (fun g3 => ?_)
  refine Lg.wrt ha16 rfl (zix rfl g3) rfl hp2 (fun a32 ha32 => ?_)
  refine Lg.bv (l_X11_changed ha32) (fun a34 ha34 => ?_)
  exact LgX.ret rfl hv3_25 ha34
theorem l_X11_needElement_9 {N : Nat} {ah : IH} (hah : HR ah) : LfX (G_X11_needElement_9 N ah) (F_X11_needElement_9 N (zh ah)) := by
  unfold G_X11_needElement_9 F_X11_needElement_9
  refine Lg.wrt hah rfl rfl (zwr (zadd rfl rfl)) wr_R (fun a16 ha16 => ?_)
  exact LgX.ret rfl (zRd rfl) ha16
theorem l_X11_needElement {N : Nat} {ah : IH} {p1 : Int} {p2 : Int} (hah : HR ah) (hp1 : zR p1) (hp2 : zR p2) : LfX (G_X11_needElement N ah p1 p2) (F_X11_needElement N (zh ah) (zI p1) (zI p2)) := by
  unfold G_X11_needElement F_X11_needElement
  refine Lg.lt rfl rfl hp1 (zRd rfl) ?_ ?_
  · exact (l_X11_needElement_9 hah)
  · refine Lg.lt rfl rfl hp1 hp2 ?_ ?_
    · exact LgX.ret rfl (zRd rfl) hah
    · exact (l_X11_needElement_9 hah)
theorem l_X11_needWord {N : Nat} {ah : IH} {p1 : Int} (hah : HR ah) (hp1 : zR p1) : LfX (G_X11_needWord N ah p1) (F_X11_needWord N (zh ah) (zI p1)) := by
  unfold G_X11_needWord F_X11_needWord
  refine Lg.bx (l_X11_needElement hah hp1 (hah _ _)) (fun a9 ha9 => ?_)
  exact LgX.ret rfl (zRd rfl) ha9
theorem l_X11_weigh {N : Nat} {ah : IH} {p1 : Int} {p2 : Int} (hah : HR ah) (hp1 : zR p1) (hp2 : zR p2) : LfX (G_X11_weigh N ah p1 p2) (F_X11_weigh N (zh ah) (zI p1) (zI p2)) := by
  unfold G_X11_weigh F_X11_weigh
  refine Lg.bx (l_X11_needWord hah hp1) (fun a2 ha2 => ?_)
  refine Lg.bx (l_X11_needBetween ha2 hp2 (zRd rfl) (zRd rfl)) (fun a10 ha10 => ?_)
  refine Lg.g rfl rfl (by decide) (fun g1 => ?_)
  refine Lg.letv (zlk rfl g1) (ha10 _ _) (fun v3_22 hv3_22 => ?_)
  refine Lg.bv (l_X2_weighWord ha10 hp1 hp2) (fun a29 ha29 => ?_)
  refine Lg.bv (l_X11_changed ha29) (fun a33 ha33 => ?_)
  exact LgX.ret rfl hv3_22 ha33
theorem l_X11_needToken {N : Nat} {ah : IH} {p1 : Int} (hah : HR ah) (hp1 : zR p1) : LfX (G_X11_needToken N ah p1) (F_X11_needToken N (zh ah) (zI p1)) := by
  unfold G_X11_needToken F_X11_needToken
  refine Lg.bx (l_X11_needElement hah hp1 (hah _ _)) (fun a9 ha9 => ?_)
  exact LgX.ret rfl (zRd rfl) ha9
theorem l_X11_learn_91 {N : Nat} {ah : IH} {v2 : Int} (hah : HR ah) (hv2 : zR v2) : LfX (G_X11_learn_91 N ah v2) (F_X11_learn_91 N (zh ah) (zI v2)) := by
  unfold G_X11_learn_91 F_X11_learn_91
  refine Lg.bv (l_X11_changed hah) (fun a92 ha92 => ?_)
  exact LgX.ret rfl hv2 ha92
theorem l_X11_learn {N : Nat} {ah : IH} {p1 : Int} (hah : HR ah) (hp1 : zR p1) : LfX (G_X11_learn N ah p1) (F_X11_learn N (zh ah) (zI p1)) := by
  unfold G_X11_learn F_X11_learn
  refine Lg.bx (l_X11_needToken hah hp1) (fun a2 ha2 => ?_)
  refine Lg.bv (l_X0_lookAlone ha2 hp1) (fun a10 ha10 => ?_)
  refine Lg.b (l_X0_mendedWord ha10 hp1) (fun r18 a18 hr18 ha18 => ?_)
  refine Lg.letv rfl hr18 (fun v2_21 hv2_21 => ?_)
  refine Lg.eq rfl rfl hv2_21 (zRd rfl) ?_ ?_
  · exact LgX.ret rfl (zRd rfl) ha18
  · refine Lg.b (l_X0_wordOf ha18 hp1 (zRd rfl)) (fun r35 a35 hr35 ha35 => ?_)
    refine Lg.letv rfl hr35 (fun v3_38 hv3_38 => ?_)
    refine Lg.g rfl rfl (by decide) (fun g1 => ?_)
    refine Lg.bv (by rw [(show (xmax (0 : Int32) ((zh a35 6 (Int32.toNatClampNeg (zI v2_21))) - (1 : Int32))) = zI (max 0 (wr ((a35 6 v2_21) - 1))) from (zmax rfl (zwr (zsub (zlk rfl g1) rfl)) (zRd rfl) wr_R))]; exact l_X2_weighWord ha35 hv2_21 (max_R (zRd rfl) wr_R)) (fun a59 ha59 => ?_)
    refine Lg.eq rfl rfl hv3_38 (zRd rfl) ?_ ?_
    · exact (l_X11_learn_91 ha59 hv2_21)
    · refine Lg.g rfl rfl (by decide) (fun g2 => ?_)
      refine Lg.bv (by rw [(show (xmin (99 : Int32) ((zh a59 6 (Int32.toNatClampNeg (zI v3_38))) + (1 : Int32))) = zI (min 99 (wr ((a59 6 v3_38) + 1))) from (zmin rfl (zwr (zadd (zlk rfl g2) rfl)) (zRd rfl) wr_R))]; exact l_X2_weighWord ha59 hv3_38 (min_R (zRd rfl) wr_R)) (fun a88 ha88 => ?_)
      exact (l_X11_learn_91 ha88 hv2_21)
theorem l_X11_told {N : Nat} {ah : IH} {p1 : Int} (hah : HR ah) (hp1 : zR p1) : LfX (G_X11_told N ah p1) (F_X11_told N (zh ah) (zI p1)) := by
  unfold G_X11_told F_X11_told
  refine Lg.bx (l_X11_needBetween hah hp1 (zRd rfl) (zRd rfl)) (fun a5 ha5 => ?_)
  refine Lg.lt rfl rfl hp1 (zRd rfl) ?_ ?_
  · refine Lg.g (zsub rfl rfl) rfl (by decide) (fun g1 => ?_)
    exact LgX.ret (zlk (zsub rfl rfl) g1) (ha5 _ _) ha5
  · refine Lg.lt rfl rfl (zRd rfl) hp1 ?_ ?_
    · refine Lg.g (zsub rfl rfl) rfl (by decide) (fun g2 => ?_)
      exact LgX.ret (zlk (zsub rfl rfl) g2) (ha5 _ _) ha5
    · refine Lg.eq rfl rfl hp1 (zRd rfl) ?_ ?_
      · exact LgX.ret rfl (ha5 _ _) ha5
      · refine Lg.eq rfl rfl hp1 (zRd rfl) ?_ ?_
        · exact LgX.ret rfl (ha5 _ _) ha5
        · refine Lg.eq rfl rfl hp1 (zRd rfl) ?_ ?_
          · exact LgX.ret rfl (ha5 _ _) ha5
          · refine Lg.eq rfl rfl hp1 (zRd rfl) ?_ ?_
            · exact LgX.ret rfl (ha5 _ _) ha5
            · refine Lg.eq rfl rfl hp1 (zRd rfl) ?_ ?_
              · exact LgX.ret rfl (ha5 _ _) ha5
              · refine Lg.eq rfl rfl hp1 (zRd rfl) ?_ ?_
                · refine Lg.g (zsub rfl rfl) rfl (by decide) (fun g3 => ?_)
                  exact LgX.ret (zlk (zsub rfl rfl) g3) (ha5 _ _) ha5
                · refine Lg.eq rfl rfl hp1 (zRd rfl) ?_ ?_
                  · refine Lg.g (zsub rfl rfl) rfl (by decide) (fun g4 => ?_)
                    exact LgX.ret (zlk (zsub rfl rfl) g4) (ha5 _ _) ha5
                  · refine Lg.eq rfl rfl hp1 (zRd rfl) ?_ ?_
                    · refine Lg.g (zsub rfl rfl) rfl (by decide) (fun g5 => ?_)
                      exact LgX.ret (zlk (zsub rfl rfl) g5) (ha5 _ _) ha5
                    · refine Lg.eq rfl rfl hp1 (zRd rfl) ?_ ?_
                      · refine Lg.g (zsub rfl rfl) rfl (by decide) (fun g6 => ?_)
                        exact LgX.ret (zlk (zsub rfl rfl) g6) (ha5 _ _) ha5
                      · refine Lg.eq rfl rfl hp1 (zRd rfl) ?_ ?_
                        · refine Lg.g (zsub rfl rfl) rfl (by decide) (fun g7 => ?_)
                          exact LgX.ret (zlk (zsub rfl rfl) g7) (ha5 _ _) ha5
                        · refine Lg.eq rfl rfl hp1 (zRd rfl) ?_ ?_
                          · refine Lg.g (zsub rfl rfl) rfl (by decide) (fun g8 => ?_)
                            exact LgX.ret (zlk (zsub rfl rfl) g8) (ha5 _ _) ha5
                          · refine Lg.eq rfl rfl hp1 (zRd rfl) ?_ ?_
                            · exact LgX.ret rfl (ha5 _ _) ha5
                            · refine Lg.eq rfl rfl hp1 (zRd rfl) ?_ ?_
                              · exact LgX.ret rfl (ha5 _ _) ha5
                              · exact Lg.none
theorem l_X11_word {N : Nat} {ah : IH} {p1 : Int} {p2 : Int} (hah : HR ah) (hp1 : zR p1) (hp2 : zR p2) : LfX (G_X11_word N ah p1 p2) (F_X11_word N (zh ah) (zI p1) (zI p2)) := by
  unfold G_X11_word F_X11_word
  refine Lg.bx (l_X11_needWord hah hp1) (fun a2 ha2 => ?_)
  refine Lg.bx (l_X11_needBetween ha2 hp2 (zRd rfl) (zRd rfl)) (fun a9 ha9 => ?_)
  refine Lg.lt rfl rfl hp2 (zRd rfl) ?_ ?_
  · refine Lg.g rfl rfl (by decide) (fun g1 => ?_)
    refine Lg.g (zlk rfl g1) rfl (by decide) (fun g2 => ?_)
    exact LgX.ret (zwr (zsub (zlk (zlk rfl g1) g2) rfl)) wr_R ha9
  · refine Lg.lt rfl rfl (zRd rfl) hp2 ?_ ?_
    · refine Lg.g rfl rfl (by decide) (fun g3 => ?_)
      refine Lg.g (zlk rfl g3) rfl (by decide) (fun g4 => ?_)
      exact LgX.ret (zwr (zsub (zlk (zlk rfl g3) g4) rfl)) wr_R ha9
    · refine Lg.eq rfl rfl hp2 (zRd rfl) ?_ ?_
      · refine Lg.g rfl rfl (by decide) (fun g5 => ?_)
        exact LgX.ret (zlk rfl g5) (ha9 _ _) ha9
      · refine Lg.eq rfl rfl hp2 (zRd rfl) ?_ ?_
        · refine Lg.g rfl rfl (by decide) (fun g6 => ?_)
          exact LgX.ret (zlk rfl g6) (ha9 _ _) ha9
        · refine Lg.eq rfl rfl hp2 (zRd rfl) ?_ ?_
          · refine Lg.g rfl rfl (by decide) (fun g7 => ?_)
            exact LgX.ret (zlk rfl g7) (ha9 _ _) ha9
          · exact Lg.none
theorem l_X11_sign {N : Nat} {ah : IH} {p1 : Int} {p2 : Int} (hah : HR ah) (hp1 : zR p1) (hp2 : zR p2) : LfX (G_X11_sign N ah p1 p2) (F_X11_sign N (zh ah) (zI p1) (zI p2)) := by
  unfold G_X11_sign F_X11_sign
  refine Lg.bx (l_X11_needWord hah hp1) (fun a2 ha2 => ?_)
  refine Lg.lt rfl rfl hp2 (zRd rfl) ?_ ?_
  · exact LgX.ret rfl (zRd rfl) ha2
  · refine Lg.g rfl rfl (by decide) (fun g1 => ?_)
    refine Lg.le (zlk rfl g1) rfl (ha2 _ _) hp2 ?_ ?_
    · exact LgX.ret rfl (zRd rfl) ha2
    · refine Lg.b (l_X2_signOf ha2 hp1 hp2) (fun r28 a28 hr28 ha28 => ?_)
      exact LgX.ret rfl hr28 ha28
theorem l_X11_find {N : Nat} {ah : IH} {p1 : Int} (hah : HR ah) (hp1 : zR p1) : LfX (G_X11_find N ah p1) (F_X11_find N (zh ah) (zI p1)) := by
  unfold G_X11_find F_X11_find
  refine Lg.bx (l_X11_needBetween hah hp1 (zRd rfl) (hah _ _)) (fun a10 ha10 => ?_)
  refine Lg.b (l_X2_look ha10 (zRd rfl) hp1) (fun r26 a26 hr26 ha26 => ?_)
  exact LgX.ret rfl hr26 ha26
theorem l_X11_needNode {N : Nat} {ah : IH} {p1 : Int} (hah : HR ah) (hp1 : zR p1) : LfX (G_X11_needNode N ah p1) (F_X11_needNode N (zh ah) (zI p1)) := by
  unfold G_X11_needNode F_X11_needNode
  refine Lg.bx (l_X11_needElement hah hp1 (hah _ _)) (fun a9 ha9 => ?_)
  exact LgX.ret rfl (zRd rfl) ha9
theorem l_X11_node {N : Nat} {ah : IH} {p1 : Int} {p2 : Int} (hah : HR ah) (hp1 : zR p1) (hp2 : zR p2) : LfX (G_X11_node N ah p1 p2) (F_X11_node N (zh ah) (zI p1) (zI p2)) := by
  unfold G_X11_node F_X11_node
  refine Lg.bx (l_X11_needNode hah hp1) (fun a2 ha2 => ?_)
  refine Lg.bx (l_X11_needBetween ha2 hp2 (zRd rfl) (zRd rfl)) (fun a9 ha9 => ?_)
  refine Lg.lt rfl rfl hp2 (zRd rfl) ?_ ?_
  · refine Lg.g rfl rfl (by decide) (fun g1 => ?_)
    exact LgX.ret (zlk rfl g1) (ha9 _ _) ha9
  · refine Lg.lt rfl rfl (zRd rfl) hp2 ?_ ?_
    · refine Lg.g rfl rfl (by decide) (fun g2 => ?_)
      exact LgX.ret (zlk rfl g2) (ha9 _ _) ha9
    · refine Lg.eq rfl rfl hp2 (zRd rfl) ?_ ?_
      · refine Lg.g rfl rfl (by decide) (fun g3 => ?_)
        exact LgX.ret (zlk rfl g3) (ha9 _ _) ha9
      · refine Lg.eq rfl rfl hp2 (zRd rfl) ?_ ?_
        · refine Lg.g rfl rfl (by decide) (fun g4 => ?_)
          exact LgX.ret (zlk rfl g4) (ha9 _ _) ha9
        · refine Lg.eq rfl rfl hp2 (zRd rfl) ?_ ?_
          · refine Lg.g rfl rfl (by decide) (fun g5 => ?_)
            exact LgX.ret (zlk rfl g5) (ha9 _ _) ha9
          · refine Lg.eq rfl rfl hp2 (zRd rfl) ?_ ?_
            · refine Lg.eq rfl rfl (ha9 _ _) (zRd rfl) ?_ ?_
              · exact LgX.ret rfl (zRd rfl) ha9
              · refine Lg.g rfl rfl (by decide) (fun g6 => ?_)
                exact LgX.ret (zlk rfl g6) (ha9 _ _) ha9
            · refine Lg.eq rfl rfl hp2 (zRd rfl) ?_ ?_
              · refine Lg.b (l_X2_countChildren ha9 hp1) (fun r107 a107 hr107 ha107 => ?_)
                exact LgX.ret rfl hr107 ha107
              · exact Lg.none
theorem l_X11_child {N : Nat} {ah : IH} {p1 : Int} {p2 : Int} (hah : HR ah) (hp1 : zR p1) (hp2 : zR p2) : LfX (G_X11_child N ah p1 p2) (F_X11_child N (zh ah) (zI p1) (zI p2)) := by
  unfold G_X11_child F_X11_child
  refine Lg.bx (l_X11_needNode hah hp1) (fun a2 ha2 => ?_)
  refine Lg.b (l_X2_childOf ha2 hp1 hp2) (fun r11 a11 hr11 ha11 => ?_)
  exact LgX.ret rfl hr11 ha11
theorem l_X11_needShape {N : Nat} {ah : IH} {p1 : Int} (hah : HR ah) (hp1 : zR p1) : LfX (G_X11_needShape N ah p1) (F_X11_needShape N (zh ah) (zI p1)) := by
  unfold G_X11_needShape F_X11_needShape
  refine Lg.bx (l_X11_needElement hah hp1 (hah _ _)) (fun a9 ha9 => ?_)
  exact LgX.ret rfl (zRd rfl) ha9
theorem l_X11_shape {N : Nat} {ah : IH} {p1 : Int} {p2 : Int} (hah : HR ah) (hp1 : zR p1) (hp2 : zR p2) : LfX (G_X11_shape N ah p1 p2) (F_X11_shape N (zh ah) (zI p1) (zI p2)) := by
  unfold G_X11_shape F_X11_shape
  refine Lg.bx (l_X11_needShape hah hp1) (fun a2 ha2 => ?_)
  refine Lg.bx (l_X11_needBetween ha2 hp2 (zRd rfl) (zRd rfl)) (fun a9 ha9 => ?_)
  refine Lg.eq rfl rfl hp2 (zRd rfl) ?_ ?_
  · refine Lg.g rfl rfl (by decide) (fun g1 => ?_)
    exact LgX.ret (zlk rfl g1) (ha9 _ _) ha9
  · refine Lg.eq rfl rfl hp2 (zRd rfl) ?_ ?_
    · refine Lg.g rfl rfl (by decide) (fun g2 => ?_)
      exact LgX.ret (zlk rfl g2) (ha9 _ _) ha9
    · refine Lg.g rfl rfl (by decide) (fun g3 => ?_)
      exact LgX.ret (zlk rfl g3) (ha9 _ _) ha9
theorem l_X11_token {N : Nat} {ah : IH} {p1 : Int} {p2 : Int} (hah : HR ah) (hp1 : zR p1) (hp2 : zR p2) : LfX (G_X11_token N ah p1 p2) (F_X11_token N (zh ah) (zI p1) (zI p2)) := by
  unfold G_X11_token F_X11_token
  refine Lg.bx (l_X11_needToken hah hp1) (fun a2 ha2 => ?_)
  refine Lg.bx (l_X11_needBetween ha2 hp2 (zRd rfl) (zRd rfl)) (fun a10 ha10 => ?_)
  refine Lg.lt rfl rfl hp2 (zRd rfl) ?_ ?_
  · refine Lg.b (l_X5_readAs ha10 hp1) (fun r148 a148 hr148 ha148 => ?_)
    refine Lg.eq rfl rfl hr148 (zRd rfl) ?_ ?_
    · exact LgX.ret rfl (zRd rfl) ha148
    · exact LgX.ret rfl (zRd rfl) ha148
  · refine Lg.lt rfl rfl (zRd rfl) hp2 ?_ ?_
    · refine Lg.b (l_X5_readAs ha10 hp1) (fun r148 a148 hr148 ha148 => ?_)
      refine Lg.eq rfl rfl hr148 (zRd rfl) ?_ ?_
      · exact LgX.ret rfl (zRd rfl) ha148
      · exact LgX.ret rfl (zRd rfl) ha148
    · refine Lg.eq rfl rfl hp2 (zRd rfl) ?_ ?_
      · refine Lg.b (l_X5_cellsOf ha10 hp1) (fun r57 a57 hr57 ha57 => ?_)
        exact LgX.ret rfl hr57 ha57
      · refine Lg.eq rfl rfl hp2 (zRd rfl) ?_ ?_
        · refine Lg.g rfl rfl (by decide) (fun g1 => ?_)
          exact LgX.ret (zlk rfl g1) (ha10 _ _) ha10
        · refine Lg.eq rfl rfl hp2 (zRd rfl) ?_ ?_
          · refine Lg.b (l_X5_countBreaks ha10 hp1) (fun r76 a76 hr76 ha76 => ?_)
            exact LgX.ret rfl hr76 ha76
          · refine Lg.eq rfl rfl hp2 (zRd rfl) ?_ ?_
            · refine Lg.g rfl rfl (by decide) (fun g2 => ?_)
              refine Lg.b (l_X5_cellsOf ha10 hp1) (fun r98 a98 hr98 ha98 => ?_)
              refine Lg.bv (by rw [(show (zh a10 32 (Int32.toNatClampNeg (zI p1))) = zI (a10 32 p1) from (zlk rfl g2))]; exact l_X4_ofCells ha98 (ha10 _ _) hr98) (fun a101 ha101 => ?_)
              exact LgX.ret rfl (ha101 _ _) ha101
            · refine Lg.eq rfl rfl hp2 (zRd rfl) ?_ ?_
              · refine Lg.b (l_X0_outsidePrice ha10 hp1) (fun r117 a117 hr117 ha117 => ?_)
                exact LgX.ret rfl hr117 ha117
              · refine Lg.eq rfl rfl hp2 (zRd rfl) ?_ ?_
                · refine Lg.g rfl rfl (by decide) (fun g3 => ?_)
                  refine Lg.eq (zlk rfl g3) rfl (ha10 _ _) (zRd rfl) ?_ ?_
                  · exact LgX.ret rfl (zRd rfl) ha10
                  · exact LgX.ret rfl (zRd rfl) ha10
                · exact Lg.none
theorem l_X11_cell {N : Nat} {ah : IH} {p1 : Int} {p2 : Int} {p3 : Int} (hah : HR ah) (hp1 : zR p1) (hp2 : zR p2) (hp3 : zR p3) : LfX (G_X11_cell N ah p1 p2 p3) (F_X11_cell N (zh ah) (zI p1) (zI p2) (zI p3)) := by
  unfold G_X11_cell F_X11_cell
  refine Lg.bx (l_X11_needToken hah hp1) (fun a2 ha2 => ?_)
  refine Lg.b (l_X5_cellsOf ha2 hp1) (fun r12 a12 hr12 ha12 => ?_)
  refine Lg.bx (l_X11_needElement ha12 hp2 hr12) (fun a15 ha15 => ?_)
  refine Lg.bx (l_X11_needBetween ha15 hp3 (zRd rfl) (zRd rfl)) (fun a22 ha22 => ?_)
  refine Lg.g rfl rfl (by decide) (fun g1 => ?_)
  refine Lg.letv (zwr (zadd (zlk rfl g1) rfl)) wr_R (fun v4_36 hv4_36 => ?_)
  refine Lg.eq rfl rfl hp3 (zRd rfl) ?_ ?_
  · refine Lg.g rfl rfl (by decide) (fun g2 => ?_)
    exact LgX.ret (zlk rfl g2) (ha22 _ _) ha22
  · refine Lg.eq rfl rfl hp3 (zRd rfl) ?_ ?_
    · refine Lg.g rfl rfl (by decide) (fun g3 => ?_)
      exact LgX.ret (zlk rfl g3) (ha22 _ _) ha22
    · refine Lg.b (l_X5_leastOther ha22 hv4_36) (fun r92 a92 hr92 ha92 => ?_)
      exact LgX.ret rfl hr92 ha92
theorem l_X11_rest {N : Nat} {ah : IH} {p1 : Int} {p2 : Int} (hah : HR ah) (hp1 : zR p1) (hp2 : zR p2) : LfX (G_X11_rest N ah p1 p2) (F_X11_rest N (zh ah) (zI p1) (zI p2)) := by
  unfold G_X11_rest F_X11_rest
  refine Lg.bx (l_X11_needToken hah hp1) (fun a2 ha2 => ?_)
  refine Lg.b (l_X5_cellsOf ha2 hp1) (fun r12 a12 hr12 ha12 => ?_)
  refine Lg.bx (by rw [(show ((zI r12) + (1 : Int32)) = zI (wr (r12 + 1)) from (zwr (zadd rfl rfl)))]; exact l_X11_needElement ha12 hp2 wr_R) (fun a17 ha17 => ?_)
  refine Lg.g rfl rfl (by decide) (fun g1 => ?_)
  refine Lg.b (l_X5_cellsOf ha17 hp1) (fun r38 a38 hr38 ha38 => ?_)
  refine Lg.bv (by rw [(show (zh a17 32 (Int32.toNatClampNeg (zI p1))) = zI (a17 32 p1) from (zlk rfl g1))]; exact l_X4_ofCells ha38 (ha17 _ _) hr38) (fun a41 ha41 => ?_)
  refine Lg.g rfl rfl (by decide) (fun g2 => ?_)
  exact LgX.ret (zlk rfl g2) (ha41 _ _) ha41
theorem l_X11_best {N : Nat} {ah : IH} {p1 : Int} {p2 : Int} {p3 : Int} (hah : HR ah) (hp1 : zR p1) (hp2 : zR p2) (hp3 : zR p3) : LfX (G_X11_best N ah p1 p2 p3) (F_X11_best N (zh ah) (zI p1) (zI p2) (zI p3)) := by
  unfold G_X11_best F_X11_best
  refine Lg.bx (l_X11_needToken hah hp1) (fun a2 ha2 => ?_)
  refine Lg.bx (l_X11_needBetween ha2 hp3 (zRd rfl) (zRd rfl)) (fun a9 ha9 => ?_)
  refine Lg.bv (l_X0_lookAlone ha9 hp1) (fun a17 ha17 => ?_)
  refine Lg.eq rfl rfl hp3 (zRd rfl) ?_ ?_
  · refine Lg.b (l_X0_wordOf ha17 hp1 hp2) (fun r54 a54 hr54 ha54 => ?_)
    exact LgX.ret rfl hr54 ha54
  · refine Lg.eq rfl rfl hp3 (zRd rfl) ?_ ?_
    · refine Lg.b (l_X0_priceOf ha17 hp1 hp2) (fun r64 a64 hr64 ha64 => ?_)
      exact LgX.ret rfl hr64 ha64
    · refine Lg.b (l_X0_openedFor ha17 hp1 hp2) (fun r74 a74 hr74 ha74 => ?_)
      exact LgX.ret rfl hr74 ha74
theorem l_X11_price {N : Nat} {ah : IH} {p1 : Int} {p2 : Int} (hah : HR ah) (hp1 : zR p1) (hp2 : zR p2) : LfX (G_X11_price N ah p1 p2) (F_X11_price N (zh ah) (zI p1) (zI p2)) := by
  unfold G_X11_price F_X11_price
  refine Lg.bx (l_X11_needToken hah hp1) (fun a2 ha2 => ?_)
  refine Lg.bx (l_X11_needWord ha2 hp2) (fun a7 ha7 => ?_)
  refine Lg.bv (l_X0_lookAlone ha7 hp1) (fun a15 ha15 => ?_)
  refine Lg.b (l_X0_priceFor ha15 hp1 hp2) (fun r24 a24 hr24 ha24 => ?_)
  exact LgX.ret rfl hr24 ha24
theorem l_X11_within_58 {N : Nat} {k27 : IH → Int → Int → Int → Int → Option YR} {k27F : AH → Int32 → Int32 → Int32 → Int32 → Option XR} {ah : IH} {v1 : Int} {v2 : Int} {v3 : Int} {v4 : Int} (hk27 : ∀ {z0 : IH} {z1 : Int} {z2 : Int} {z3 : Int} {z4 : Int}, HR z0 → zR z1 → zR z2 → zR z3 → zR z4 → LfX (k27 z0 z1 z2 z3 z4) (k27F (zh z0) (zI z1) (zI z2) (zI z3) (zI z4))) (hah : HR ah) (hv1 : zR v1) (hv2 : zR v2) (hv3 : zR v3) (hv4 : zR v4) : LfX (G_X11_within_58 N k27 ah v1 v2 v3 v4) (F_X11_within_58 N k27F (zh ah) (zI v1) (zI v2) (zI v3) (zI v4)) := by
  unfold G_X11_within_58 F_X11_within_58
  refine Lg.letv (zwr (zadd rfl rfl)) wr_R (fun v4_58 hv4_58 => ?_)
  exact (hk27 hah hv1 hv2 hv3 hv4_58)
theorem l_X11_within_27 {N : Nat}  : ∀ (n : Nat) {ah : IH} {v1 : Int} {v2 : Int} {v3 : Int} {v4 : Int}, HR ah → zR v1 → zR v2 → zR v3 → zR v4 → LfX (G_X11_within_27 N n ah v1 v2 v3 v4) (F_X11_within_27 N n (zh ah) (zI v1) (zI v2) (zI v3) (zI v4)) := by
  intro n
  induction n with
  | zero => intros; exact Lg.none
  | succ n ih =>
    intro ah v1 v2 v3 v4 hah hv1 hv2 hv3 hv4
    unfold G_X11_within_27 F_X11_within_27
    refine Lg.g rfl rfl (by decide) (fun g1 => ?_)
    refine Lg.le (zlk rfl g1) rfl (hah _ _) hv4 ?_ ?_
    · exact LgX.ret rfl hv3 hah
    · refine Lg.b (l_X0_priceOf hah hv1 hv4) (fun r48 a48 hr48 ha48 => ?_)
      refine Lg.lt rfl rfl hv2 hr48 ?_ ?_
      · exact (l_X11_within_58 ih ha48 hv1 hv2 hv3 hv4)
      · refine Lg.letv (zwr (zadd rfl rfl)) wr_R (fun v3_55 hv3_55 => ?_)
        exact (l_X11_within_58 ih ha48 hv1 hv2 hv3_55 hv4)
theorem l_X11_within {N : Nat} {ah : IH} {p1 : Int} {p2 : Int} (hah : HR ah) (hp1 : zR p1) (hp2 : zR p2) : LfX (G_X11_within N ah p1 p2) (F_X11_within N (zh ah) (zI p1) (zI p2)) := by
  unfold G_X11_within F_X11_within
  refine Lg.bx (l_X11_needToken hah hp1) (fun a2 ha2 => ?_)
  refine Lg.bx (l_X11_needBetween ha2 hp2 (zRd rfl) (zRd rfl)) (fun a11 ha11 => ?_)
  refine Lg.bv (l_X0_lookAlone ha11 hp1) (fun a19 ha19 => ?_)
  refine Lg.letv rfl (zRd rfl) (fun v3_23 hv3_23 => ?_)
  refine Lg.letv rfl (zRd rfl) (fun v4_25 hv4_25 => ?_)
  exact (l_X11_within_27 _ ha19 hp1 hp2 hv3_23 hv4_25)
theorem l_X11_mended {N : Nat} {ah : IH} {p1 : Int} {p2 : Int} (hah : HR ah) (hp1 : zR p1) (hp2 : zR p2) : LfX (G_X11_mended N ah p1 p2) (F_X11_mended N (zh ah) (zI p1) (zI p2)) := by
  unfold G_X11_mended F_X11_mended
  refine Lg.bx (l_X11_needToken hah hp1) (fun a2 ha2 => ?_)
  refine Lg.bx (l_X11_needBetween ha2 hp2 (zRd rfl) (zRd rfl)) (fun a9 ha9 => ?_)
  refine Lg.bv (l_X0_lookAlone ha9 hp1) (fun a17 ha17 => ?_)
  refine Lg.eq rfl rfl hp2 (zRd rfl) ?_ ?_
  · refine Lg.b (l_X0_mendedWord ha17 hp1) (fun r53 a53 hr53 ha53 => ?_)
    exact LgX.ret rfl hr53 ha53
  · refine Lg.eq rfl rfl hp2 (zRd rfl) ?_ ?_
    · refine Lg.b (l_X0_mendedPrice ha17 hp1) (fun r62 a62 hr62 ha62 => ?_)
      exact LgX.ret rfl hr62 ha62
    · refine Lg.b (l_X0_nextCostsMore ha17 hp1) (fun r71 a71 hr71 ha71 => ?_)
      exact LgX.ret rfl hr71 ha71
theorem l_X11_text {N : Nat} {ah : IH} {p1 : Int} (hah : HR ah) (hp1 : zR p1) : LfX (G_X11_text N ah p1) (F_X11_text N (zh ah) (zI p1)) := by
  unfold G_X11_text F_X11_text
  refine Lg.bx (l_X11_needBetween hah hp1 (zRd rfl) (zRd rfl)) (fun a4 ha4 => ?_)
  refine Lg.bv (l_X3_make ha4) (fun a11 ha11 => ?_)
  refine Lg.lt rfl rfl hp1 (zRd rfl) ?_ ?_
  · exact LgX.ret rfl (ha11 _ _) ha11
  · refine Lg.lt rfl rfl (zRd rfl) hp1 ?_ ?_
    · exact LgX.ret rfl (ha11 _ _) ha11
    · refine Lg.eq rfl rfl hp1 (zRd rfl) ?_ ?_
      · exact LgX.ret rfl (ha11 _ _) ha11
      · refine Lg.eq rfl rfl hp1 (zRd rfl) ?_ ?_
        · exact LgX.ret rfl (ha11 _ _) ha11
        · refine Lg.eq rfl rfl hp1 (zRd rfl) ?_ ?_
          · exact LgX.ret rfl (ha11 _ _) ha11
          · exact Lg.none
theorem l_X11_lost {N : Nat} {ah : IH} {p1 : Int} {p2 : Int} (hah : HR ah) (hp1 : zR p1) (hp2 : zR p2) : LfX (G_X11_lost N ah p1 p2) (F_X11_lost N (zh ah) (zI p1) (zI p2)) := by
  unfold G_X11_lost F_X11_lost
  refine Lg.bx (l_X11_needToken hah hp1) (fun a2 ha2 => ?_)
  refine Lg.bx (l_X11_needBetween ha2 hp2 (zRd rfl) (zRd rfl)) (fun a9 ha9 => ?_)
  refine Lg.bv (l_X3_make ha9) (fun a16 ha16 => ?_)
  refine Lg.eq rfl rfl hp2 (zRd rfl) ?_ ?_
  · refine Lg.g rfl rfl (by decide) (fun g1 => ?_)
    refine Lg.bo (zlk rfl g1) ?_
    exact LgX.ret (zlk rfl g1) (ha16 _ _) ha16
  · refine Lg.le rfl rfl hp1 (zRd rfl) ?_ ?_
    · exact LgX.ret rfl (zRd rfl) ha16
    · refine Lg.g (zsub rfl rfl) rfl (by decide) (fun g2 => ?_)
      refine Lg.eq (zlk (zsub rfl rfl) g2) rfl (ha16 _ _) (zRd rfl) ?_ ?_
      · exact LgX.ret rfl (zRd rfl) ha16
      · exact LgX.ret rfl (zRd rfl) ha16
theorem l_X11_way {N : Nat} {ah : IH} {p1 : Int} {p2 : Int} (hah : HR ah) (hp1 : zR p1) (hp2 : zR p2) : LfX (G_X11_way N ah p1 p2) (F_X11_way N (zh ah) (zI p1) (zI p2)) := by
  unfold G_X11_way F_X11_way
  refine Lg.bx (l_X11_needToken hah hp1) (fun a2 ha2 => ?_)
  refine Lg.bx (l_X11_needBetween ha2 hp2 (zRd rfl) (zRd rfl)) (fun a9 ha9 => ?_)
  refine Lg.b (l_X11_findWay ha9 hp1) (fun r14 a14 hr14 ha14 => ?_)
  refine Lg.eq rfl rfl hr14 (zRd rfl) ?_ ?_
  · exact LgX.ret rfl (zRd rfl) ha14
  · refine Lg.eq rfl rfl hp2 (zRd rfl) ?_ ?_
    · exact LgX.ret rfl (ha14 _ _) ha14
    · exact LgX.ret rfl (ha14 _ _) ha14
theorem l_X11_edge_26 {N : Nat} {ah : IH} {v2 : Int} {v3 : Int} {s1 : Int} {s2 : Int} (hah : HR ah) (hv2 : zR v2) (hv3 : zR v3) (hs1 : zR s1) (hs2 : zR s2) : LfX (G_X11_edge_26 N ah v2 v3 s1 s2) (F_X11_edge_26 N (zh ah) (zI v2) (zI v3) (zI s1) (zI s2)) := by
  unfold G_X11_edge_26 F_X11_edge_26
  refine Lg.bx (l_X11_needElement hah hs1 hs2) (fun a26 ha26 => ?_)
  refine Lg.bx (l_X11_needBetween ha26 hv3 (zRd rfl) (zRd rfl)) (fun a33 ha33 => ?_)
  refine Lg.g rfl rfl (by decide) (fun g1 => ?_)
  refine Lg.letv (zlk rfl g1) (ha33 _ _) (fun v4_45 hv4_45 => ?_)
  refine Lg.lt rfl rfl hv3 (zRd rfl) ?_ ?_
  · refine Lg.g rfl rfl (by decide) (fun g2 => ?_)
    exact LgX.ret (zlk rfl g2) (ha33 _ _) ha33
  · refine Lg.lt rfl rfl (zRd rfl) hv3 ?_ ?_
    · refine Lg.g rfl rfl (by decide) (fun g3 => ?_)
      exact LgX.ret (zlk rfl g3) (ha33 _ _) ha33
    · refine Lg.eq rfl rfl hv3 (zRd rfl) ?_ ?_
      · refine Lg.g rfl rfl (by decide) (fun g4 => ?_)
        exact LgX.ret (zlk rfl g4) (ha33 _ _) ha33
      · refine Lg.eq rfl rfl hv3 (zRd rfl) ?_ ?_
        · refine Lg.g rfl rfl (by decide) (fun g5 => ?_)
          exact LgX.ret (zlk rfl g5) (ha33 _ _) ha33
        · refine Lg.eq rfl rfl hv3 (zRd rfl) ?_ ?_
          · refine Lg.g rfl rfl (by decide) (fun g6 => ?_)
            exact LgX.ret (zlk rfl g6) (ha33 _ _) ha33
          · refine Lg.eq rfl rfl hv3 (zRd rfl) ?_ ?_
            · refine Lg.g rfl rfl (by decide) (fun g7 => ?_)
              exact LgX.ret (zlk rfl g7) (ha33 _ _) ha33
            · exact Lg.none
theorem l_X11_edge {N : Nat} {ah : IH} {p1 : Int} {p2 : Int} {p3 : Int} (hah : HR ah) (hp1 : zR p1) (hp2 : zR p2) (hp3 : zR p3) : LfX (G_X11_edge N ah p1 p2 p3) (F_X11_edge N (zh ah) (zI p1) (zI p2) (zI p3)) := by
  unfold G_X11_edge F_X11_edge
  refine Lg.bx (l_X11_needToken hah hp1) (fun a2 ha2 => ?_)
  refine Lg.b (l_X11_findWay ha2 hp1) (fun r9 a9 hr9 ha9 => ?_)
  refine Lg.eq rfl rfl hr9 (zRd rfl) ?_ ?_
  · exact (l_X11_edge_26 ha9 hp2 hp3 hp2 (zRd rfl))
  · exact (l_X11_edge_26 ha9 hp2 hp3 hp2 (ha9 _ _))
theorem l_X11_used_39 {N : Nat} {k9 : IH → Int → Int → Int → Option YR} {k9F : AH → Int32 → Int32 → Int32 → Option XR} {ah : IH} {v1 : Int} {v2 : Int} {v3 : Int} (hk9 : ∀ {z0 : IH} {z1 : Int} {z2 : Int} {z3 : Int}, HR z0 → zR z1 → zR z2 → zR z3 → LfX (k9 z0 z1 z2 z3) (k9F (zh z0) (zI z1) (zI z2) (zI z3))) (hah : HR ah) (hv1 : zR v1) (hv2 : zR v2) (hv3 : zR v3) : LfX (G_X11_used_39 N k9 ah v1 v2 v3) (F_X11_used_39 N k9F (zh ah) (zI v1) (zI v2) (zI v3)) := by
  unfold G_X11_used_39 F_X11_used_39
  refine Lg.letv (zwr (zadd rfl rfl)) wr_R (fun v3_39 hv3_39 => ?_)
  exact (hk9 hah hv1 hv2 hv3_39)
theorem l_X11_used_9 {N : Nat}  : ∀ (n : Nat) {ah : IH} {v1 : Int} {v2 : Int} {v3 : Int}, HR ah → zR v1 → zR v2 → zR v3 → LfX (G_X11_used_9 N n ah v1 v2 v3) (F_X11_used_9 N n (zh ah) (zI v1) (zI v2) (zI v3)) := by
  intro n
  induction n with
  | zero => intros; exact Lg.none
  | succ n ih =>
    intro ah v1 v2 v3 hah hv1 hv2 hv3
    unfold G_X11_used_9 F_X11_used_9
    refine Lg.le rfl rfl (hah _ _) hv3 ?_ ?_
    · exact LgX.ret rfl hv2 hah
    · refine Lg.b (l_X11_findWay hah hv3) (fun r22 a22 hr22 ha22 => ?_)
      refine Lg.eq rfl rfl hr22 (zRd rfl) ?_ ?_
      · exact (l_X11_used_39 ih ha22 hv1 hv2 hv3)
      · refine Lg.b (l_X10_countShape ha22 hv1) (fun r34 a34 hr34 ha34 => ?_)
        refine Lg.letv (zwr (zadd rfl rfl)) wr_R (fun v2_38 hv2_38 => ?_)
        exact (l_X11_used_39 ih ha34 hv1 hv2_38 hv3)
theorem l_X11_used {N : Nat} {ah : IH} {p1 : Int} (hah : HR ah) (hp1 : zR p1) : LfX (G_X11_used N ah p1) (F_X11_used N (zh ah) (zI p1)) := by
  unfold G_X11_used F_X11_used
  refine Lg.bx (l_X11_needShape hah hp1) (fun a2 ha2 => ?_)
  refine Lg.letv rfl (zRd rfl) (fun v2_6 hv2_6 => ?_)
  refine Lg.letv rfl (zRd rfl) (fun v3_8 hv3_8 => ?_)
  exact (l_X11_used_9 _ ha2 hp1 hv2_6 hv3_8)
theorem l_X11_dear {N : Nat} {ah : IH} {p1 : Int} {p2 : Int} (hah : HR ah) (hp1 : zR p1) (hp2 : zR p2) : LfX (G_X11_dear N ah p1 p2) (F_X11_dear N (zh ah) (zI p1) (zI p2)) := by
  unfold G_X11_dear F_X11_dear
  refine Lg.bx (l_X11_needWord hah hp1) (fun a2 ha2 => ?_)
  refine Lg.bx (l_X11_needWord ha2 hp2) (fun a7 ha7 => ?_)
  refine Lg.b (l_X1_dearOf ha7 hp1 hp2 (ha7 _ _)) (fun r23 a23 hr23 ha23 => ?_)
  exact LgX.ret rfl hr23 ha23
theorem l_X11_sentence {N : Nat} {ah : IH} {p1 : Int} (hah : HR ah) (hp1 : zR p1) : LfX (G_X11_sentence N ah p1) (F_X11_sentence N (zh ah) (zI p1)) := by
  unfold G_X11_sentence F_X11_sentence
  refine Lg.bx (l_X11_needBetween hah hp1 (zRd rfl) (zRd rfl)) (fun a4 ha4 => ?_)
  refine Lg.bv (l_X7_make ha4) (fun a11 ha11 => ?_)
  refine Lg.eq rfl rfl hp1 (zRd rfl) ?_ ?_
  · exact LgX.ret rfl (ha11 _ _) ha11
  · refine Lg.eq rfl rfl hp1 (zRd rfl) ?_ ?_
    · exact LgX.ret rfl (ha11 _ _) ha11
    · exact LgX.ret rfl (ha11 _ _) ha11
theorem l_X11_said {N : Nat} {ah : IH} {p1 : Int} (hah : HR ah) (hp1 : zR p1) : LfX (G_X11_said N ah p1) (F_X11_said N (zh ah) (zI p1)) := by
  unfold G_X11_said F_X11_said
  refine Lg.bx (l_X11_needToken hah hp1) (fun a2 ha2 => ?_)
  refine Lg.bv (l_X7_make ha2) (fun a9 ha9 => ?_)
  refine Lg.g rfl rfl (by decide) (fun g1 => ?_)
  exact LgX.ret (zlk rfl g1) (ha9 _ _) ha9
theorem l_X11_apart {N : Nat} {ah : IH} {p1 : Int} {p2 : Int} (hah : HR ah) (hp1 : zR p1) (hp2 : zR p2) : LfX (G_X11_apart N ah p1 p2) (F_X11_apart N (zh ah) (zI p1) (zI p2)) := by
  unfold G_X11_apart F_X11_apart
  refine Lg.bx (l_X11_needWord hah hp1) (fun a2 ha2 => ?_)
  refine Lg.bx (l_X11_needWord ha2 hp2) (fun a7 ha7 => ?_)
  refine Lg.b (l_X11_costBetween ha7 hp1 hp2) (fun r13 a13 hr13 ha13 => ?_)
  exact LgX.ret rfl hr13 ha13
theorem l_X11_twin_77 {N : Nat} {k20 : IH → Int → Int → Int → Int → Int → Option YR} {k20F : AH → Int32 → Int32 → Int32 → Int32 → Int32 → Option XR} {ah : IH} {v1 : Int} {v2 : Int} {v3 : Int} {v4 : Int} {v5 : Int} (hk20 : ∀ {z0 : IH} {z1 : Int} {z2 : Int} {z3 : Int} {z4 : Int} {z5 : Int}, HR z0 → zR z1 → zR z2 → zR z3 → zR z4 → zR z5 → LfX (k20 z0 z1 z2 z3 z4 z5) (k20F (zh z0) (zI z1) (zI z2) (zI z3) (zI z4) (zI z5))) (hah : HR ah) (hv1 : zR v1) (hv2 : zR v2) (hv3 : zR v3) (hv4 : zR v4) (hv5 : zR v5) : LfX (G_X11_twin_77 N k20 ah v1 v2 v3 v4 v5) (F_X11_twin_77 N k20F (zh ah) (zI v1) (zI v2) (zI v3) (zI v4) (zI v5)) := by
  unfold G_X11_twin_77 F_X11_twin_77
  refine Lg.letv (zwr (zadd rfl rfl)) wr_R (fun v5_77 hv5_77 => ?_)
  exact (hk20 hah hv1 hv2 hv3 hv4 hv5_77)
theorem l_X11_twin_70 {N : Nat} {k20 : IH → Int → Int → Int → Int → Int → Option YR} {k20F : AH → Int32 → Int32 → Int32 → Int32 → Int32 → Option XR} {ah : IH} {v1 : Int} {v2 : Int} {v5 : Int} {v6 : Int} (hk20 : ∀ {z0 : IH} {z1 : Int} {z2 : Int} {z3 : Int} {z4 : Int} {z5 : Int}, HR z0 → zR z1 → zR z2 → zR z3 → zR z4 → zR z5 → LfX (k20 z0 z1 z2 z3 z4 z5) (k20F (zh z0) (zI z1) (zI z2) (zI z3) (zI z4) (zI z5))) (hah : HR ah) (hv1 : zR v1) (hv2 : zR v2) (hv5 : zR v5) (hv6 : zR v6) : LfX (G_X11_twin_70 N k20 ah v1 v2 v5 v6) (F_X11_twin_70 N k20F (zh ah) (zI v1) (zI v2) (zI v5) (zI v6)) := by
  unfold G_X11_twin_70 F_X11_twin_70
  refine Lg.letv rfl hv5 (fun v3_72 hv3_72 => ?_)
  refine Lg.letv rfl hv6 (fun v4_75 hv4_75 => ?_)
  exact (l_X11_twin_77 hk20 hah hv1 hv2 hv3_72 hv4_75 hv5)
theorem l_X11_twin_49 {N : Nat} {k20 : IH → Int → Int → Int → Int → Int → Option YR} {k20F : AH → Int32 → Int32 → Int32 → Int32 → Int32 → Option XR} {ah : IH} {v1 : Int} {v2 : Int} {v3 : Int} {v4 : Int} {v5 : Int} {s0 : Int} (hk20 : ∀ {z0 : IH} {z1 : Int} {z2 : Int} {z3 : Int} {z4 : Int} {z5 : Int}, HR z0 → zR z1 → zR z2 → zR z3 → zR z4 → zR z5 → LfX (k20 z0 z1 z2 z3 z4 z5) (k20F (zh z0) (zI z1) (zI z2) (zI z3) (zI z4) (zI z5))) (hah : HR ah) (hv1 : zR v1) (hv2 : zR v2) (hv3 : zR v3) (hv4 : zR v4) (hv5 : zR v5) (hs0 : zR s0) : LfX (G_X11_twin_49 N k20 ah v1 v2 v3 v4 v5 s0) (F_X11_twin_49 N k20F (zh ah) (zI v1) (zI v2) (zI v3) (zI v4) (zI v5) (zI s0)) := by
  unfold G_X11_twin_49 F_X11_twin_49
  refine Lg.letv rfl hs0 (fun v6_49 hv6_49 => ?_)
  refine Lg.eq rfl rfl hv6_49 (zRd rfl) ?_ ?_
  · exact (l_X11_twin_77 hk20 hah hv1 hv2 hv3 hv4 hv5)
  · refine Lg.eq rfl rfl hv4 (zRd rfl) ?_ ?_
    · exact (l_X11_twin_70 hk20 hah hv1 hv2 hv5 hv6_49)
    · refine Lg.le rfl rfl hv4 hv6_49 ?_ ?_
      · exact (l_X11_twin_77 hk20 hah hv1 hv2 hv3 hv4 hv5)
      · exact (l_X11_twin_70 hk20 hah hv1 hv2 hv5 hv6_49)
theorem l_X11_twin_20 {N : Nat}  : ∀ (n : Nat) {ah : IH} {v1 : Int} {v2 : Int} {v3 : Int} {v4 : Int} {v5 : Int}, HR ah → zR v1 → zR v2 → zR v3 → zR v4 → zR v5 → LfX (G_X11_twin_20 N n ah v1 v2 v3 v4 v5) (F_X11_twin_20 N n (zh ah) (zI v1) (zI v2) (zI v3) (zI v4) (zI v5)) := by
  intro n
  induction n with
  | zero => intros; exact Lg.none
  | succ n ih =>
    intro ah v1 v2 v3 v4 v5 hah hv1 hv2 hv3 hv4 hv5
    unfold G_X11_twin_20 F_X11_twin_20
    refine Lg.le rfl rfl (hah _ _) hv5 ?_ ?_
    · refine Lg.eq rfl rfl hv2 (zRd rfl) ?_ ?_
      · exact LgX.ret rfl hv3 hah
      · exact LgX.ret rfl hv4 hah
    · refine Lg.eq rfl rfl hv5 hv1 ?_ ?_
      · exact (l_X11_twin_49 ih hah hv1 hv2 hv3 hv4 hv5 (zRd rfl))
      · refine Lg.b (l_X11_costBetween hah hv1 hv5) (fun r46 a46 hr46 ha46 => ?_)
        exact (l_X11_twin_49 ih ha46 hv1 hv2 hv3 hv4 hv5 hr46)
theorem l_X11_twin {N : Nat} {ah : IH} {p1 : Int} {p2 : Int} (hah : HR ah) (hp1 : zR p1) (hp2 : zR p2) : LfX (G_X11_twin N ah p1 p2) (F_X11_twin N (zh ah) (zI p1) (zI p2)) := by
  unfold G_X11_twin F_X11_twin
  refine Lg.bx (l_X11_needWord hah hp1) (fun a2 ha2 => ?_)
  refine Lg.bx (l_X11_needBetween ha2 hp2 (zRd rfl) (zRd rfl)) (fun a9 ha9 => ?_)
  refine Lg.letv rfl (zRd rfl) (fun v3_13 hv3_13 => ?_)
  refine Lg.letv rfl (zRd rfl) (fun v4_15 hv4_15 => ?_)
  refine Lg.letv rfl (zRd rfl) (fun v5_18 hv5_18 => ?_)
  exact (l_X11_twin_20 _ ha9 hp1 hp2 hv3_13 hv4_15 hv5_18)
theorem l_X11_twins_73 {N : Nat} {k13 : IH → Int → Int → Int → Option YR} {k13F : AH → Int32 → Int32 → Int32 → Option XR} {k27 : IH → Int → Int → Int → Int → Option YR} {k27F : AH → Int32 → Int32 → Int32 → Int32 → Option XR} {ah : IH} {v1 : Int} {v2 : Int} {v3 : Int} {v4 : Int} (hk13 : ∀ {z0 : IH} {z1 : Int} {z2 : Int} {z3 : Int}, HR z0 → zR z1 → zR z2 → zR z3 → LfX (k13 z0 z1 z2 z3) (k13F (zh z0) (zI z1) (zI z2) (zI z3))) (hk27 : ∀ {z0 : IH} {z1 : Int} {z2 : Int} {z3 : Int} {z4 : Int}, HR z0 → zR z1 → zR z2 → zR z3 → zR z4 → LfX (k27 z0 z1 z2 z3 z4) (k27F (zh z0) (zI z1) (zI z2) (zI z3) (zI z4))) (hah : HR ah) (hv1 : zR v1) (hv2 : zR v2) (hv3 : zR v3) (hv4 : zR v4) : LfX (G_X11_twins_73 N k13 k27 ah v1 v2 v3 v4) (F_X11_twins_73 N k13F k27F (zh ah) (zI v1) (zI v2) (zI v3) (zI v4)) := by
  unfold G_X11_twins_73 F_X11_twins_73
  refine Lg.letv (zwr (zadd rfl rfl)) wr_R (fun v4_73 hv4_73 => ?_)
  exact (hk27 hah hv1 hv2 hv3 hv4_73)
theorem l_X11_twins_56 {N : Nat} {k13 : IH → Int → Int → Int → Option YR} {k13F : AH → Int32 → Int32 → Int32 → Option XR} {k27 : IH → Int → Int → Int → Int → Option YR} {k27F : AH → Int32 → Int32 → Int32 → Int32 → Option XR} {ah : IH} {v1 : Int} {v2 : Int} {v3 : Int} {v4 : Int} {s0 : Int} (hk13 : ∀ {z0 : IH} {z1 : Int} {z2 : Int} {z3 : Int}, HR z0 → zR z1 → zR z2 → zR z3 → LfX (k13 z0 z1 z2 z3) (k13F (zh z0) (zI z1) (zI z2) (zI z3))) (hk27 : ∀ {z0 : IH} {z1 : Int} {z2 : Int} {z3 : Int} {z4 : Int}, HR z0 → zR z1 → zR z2 → zR z3 → zR z4 → LfX (k27 z0 z1 z2 z3 z4) (k27F (zh z0) (zI z1) (zI z2) (zI z3) (zI z4))) (hah : HR ah) (hv1 : zR v1) (hv2 : zR v2) (hv3 : zR v3) (hv4 : zR v4) (hs0 : zR s0) : LfX (G_X11_twins_56 N k13 k27 ah v1 v2 v3 v4 s0) (F_X11_twins_56 N k13F k27F (zh ah) (zI v1) (zI v2) (zI v3) (zI v4) (zI s0)) := by
  unfold G_X11_twins_56 F_X11_twins_56
  refine Lg.letv rfl hs0 (fun v5_56 hv5_56 => ?_)
  refine Lg.eq rfl rfl hv5_56 (zRd rfl) ?_ ?_
  · exact (l_X11_twins_73 hk13 hk27 hah hv1 hv2 hv3 hv4)
  · refine Lg.lt rfl rfl hv1 hv5_56 ?_ ?_
    · exact (l_X11_twins_73 hk13 hk27 hah hv1 hv2 hv3 hv4)
    · refine Lg.letv (zwr (zadd rfl rfl)) wr_R (fun v2_70 hv2_70 => ?_)
      exact (l_X11_twins_73 hk13 hk27 hah hv1 hv2_70 hv3 hv4)
theorem l_X11_twins_27 {N : Nat} {k13 : IH → Int → Int → Int → Option YR} {k13F : AH → Int32 → Int32 → Int32 → Option XR} (hk13 : ∀ {z0 : IH} {z1 : Int} {z2 : Int} {z3 : Int}, HR z0 → zR z1 → zR z2 → zR z3 → LfX (k13 z0 z1 z2 z3) (k13F (zh z0) (zI z1) (zI z2) (zI z3))) : ∀ (n : Nat) {ah : IH} {v1 : Int} {v2 : Int} {v3 : Int} {v4 : Int}, HR ah → zR v1 → zR v2 → zR v3 → zR v4 → LfX (G_X11_twins_27 N k13 n ah v1 v2 v3 v4) (F_X11_twins_27 N k13F n (zh ah) (zI v1) (zI v2) (zI v3) (zI v4)) := by
  intro n
  induction n with
  | zero => intros; exact Lg.none
  | succ n ih =>
    intro ah v1 v2 v3 v4 hah hv1 hv2 hv3 hv4
    unfold G_X11_twins_27 F_X11_twins_27
    refine Lg.le rfl rfl (hah _ _) hv4 ?_ ?_
    · refine Lg.letv (zwr (zadd rfl rfl)) wr_R (fun v3_79 hv3_79 => ?_)
      exact (hk13 hah hv1 hv2 hv3_79)
    · refine Lg.eq rfl rfl hv4 hv3 ?_ ?_
      · exact (l_X11_twins_56 hk13 ih hah hv1 hv2 hv3 hv4 (zRd rfl))
      · refine Lg.b (l_X11_costBetween hah hv3 hv4) (fun r53 a53 hr53 ha53 => ?_)
        exact (l_X11_twins_56 hk13 ih ha53 hv1 hv2 hv3 hv4 hr53)
theorem l_X11_twins_13 {N : Nat}  : ∀ (n : Nat) {ah : IH} {v1 : Int} {v2 : Int} {v3 : Int}, HR ah → zR v1 → zR v2 → zR v3 → LfX (G_X11_twins_13 N n ah v1 v2 v3) (F_X11_twins_13 N n (zh ah) (zI v1) (zI v2) (zI v3)) := by
  intro n
  induction n with
  | zero => intros; exact Lg.none
  | succ n ih =>
    intro ah v1 v2 v3 hah hv1 hv2 hv3
    unfold G_X11_twins_13 F_X11_twins_13
    refine Lg.le rfl rfl (hah _ _) hv3 ?_ ?_
    · exact LgX.ret rfl hv2 hah
    · refine Lg.letv rfl (zRd rfl) (fun v4_25 hv4_25 => ?_)
      exact (l_X11_twins_27 ih _ hah hv1 hv2 hv3 hv4_25)
theorem l_X11_twins {N : Nat} {ah : IH} {p1 : Int} (hah : HR ah) (hp1 : zR p1) : LfX (G_X11_twins N ah p1) (F_X11_twins N (zh ah) (zI p1)) := by
  unfold G_X11_twins F_X11_twins
  refine Lg.bx (l_X11_needBetween hah hp1 (zRd rfl) (zRd rfl)) (fun a6 ha6 => ?_)
  refine Lg.letv rfl (zRd rfl) (fun v2_10 hv2_10 => ?_)
  refine Lg.letv rfl (zRd rfl) (fun v3_12 hv3_12 => ?_)
  exact (l_X11_twins_13 _ ha6 hp1 hv2_10 hv3_12)
