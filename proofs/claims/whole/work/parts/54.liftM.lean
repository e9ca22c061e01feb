theorem l_X12_thrown {N : Nat} {ah : IH} (hah : HR ah) : LfI (G_X12_thrown N ah) (F_X12_thrown N (zh ah)) := by
  unfold G_X12_thrown F_X12_thrown
  exact LgI.ret rfl (hah _ _) hah
theorem l_X12_bad_26 {N : Nat} {ah : IH} (hah : HR ah) : LfI (G_X12_bad_26 N ah) (F_X12_bad_26 N (zh ah)) := by
  unfold G_X12_bad_26 F_X12_bad_26
  refine Lg.eq rfl rfl (hah _ _) (zRd rfl) ?_ ?_
  · exact LgI.ret rfl (zRd rfl) hah
  · exact LgI.ret rfl (zRd rfl) hah
theorem l_X12_bad {N : Nat} {ah : IH} {p1 : Int} {p2 : Int} {p3 : Int} (hah : HR ah) (hp1 : zR p1) (hp2 : zR p2) (hp3 : zR p3) : LfI (G_X12_bad N ah p1 p2 p3) (F_X12_bad N (zh ah) (zI p1) (zI p2) (zI p3)) := by
  unfold G_X12_bad F_X12_bad
  refine Lg.eq rfl rfl hp1 (zRd rfl) ?_ ?_
  · exact (l_X12_bad_26 hah)
  · refine Lg.eq rfl rfl (hah _ _) (zRd rfl) ?_ ?_
    · refine Lg.wrt hah rfl rfl rfl hp2 (fun a13 ha13 => ?_)
      refine Lg.g rfl rfl (by decide) (fun g1 => ?_)
      refine Lg.g rfl rfl (by decide) (fun g2 => ?_)
      refine Lg.wrt ha13 rfl (zix rfl g2) (zwr (zadd (zlk rfl g2) rfl)) wr_R (fun a25 ha25 => ?_)
      exact (l_X12_bad_26 ha25)
    · exact (l_X12_bad_26 hah)
theorem l_X12_in {N : Nat} {ah : IH} {p0 : Int} {p1 : Int} {p2 : Int} (hah : HR ah) (hp0 : zR p0) (hp1 : zR p1) (hp2 : zR p2) : LfI (G_X12_in N ah p0 p1 p2) (F_X12_in N (zh ah) (zI p0) (zI p1) (zI p2)) := by
  unfold G_X12_in F_X12_in
  refine Lg.lt rfl rfl hp0 hp1 ?_ ?_
  · exact LgI.ret rfl (zRd rfl) hah
  · refine Lg.lt rfl rfl hp2 hp0 ?_ ?_
    · exact LgI.ret rfl (zRd rfl) hah
    · exact LgI.ret rfl (zRd rfl) hah
theorem l_X12_less {N : Nat} {ah : IH} {p0 : Int} {p1 : Int} (hah : HR ah) (hp0 : zR p0) (hp1 : zR p1) : LfI (G_X12_less N ah p0 p1) (F_X12_less N (zh ah) (zI p0) (zI p1)) := by
  unfold G_X12_less F_X12_less
  refine Lg.le rfl rfl hp1 hp0 ?_ ?_
  · exact LgI.ret rfl hp1 hah
  · exact LgI.ret rfl hp0 hah
theorem l_X12_more {N : Nat} {ah : IH} {p0 : Int} {p1 : Int} (hah : HR ah) (hp0 : zR p0) (hp1 : zR p1) : LfI (G_X12_more N ah p0 p1) (F_X12_more N (zh ah) (zI p0) (zI p1)) := by
  unfold G_X12_more F_X12_more
  refine Lg.le rfl rfl hp0 hp1 ?_ ?_
  · exact LgI.ret rfl hp1 hah
  · exact LgI.ret rfl hp0 hah
theorem l_X12_feed_76 {N : Nat} {k23 : IH → Int → Int → Int → Int → Int → Int → Option (Int × IH)} {k23F : AH → Int32 → Int32 → Int32 → Int32 → Int32 → Int32 → Option (Int32 × AH)} {ah : IH} {v1 : Int} {v2 : Int} {v3 : Int} {v4 : Int} {v5 : Int} {v6 : Int} {s0 : Int} (hk23 : ∀ {z0 : IH} {z1 : Int} {z2 : Int} {z3 : Int} {z4 : Int} {z5 : Int} {z6 : Int}, HR z0 → zR z1 → zR z2 → zR z3 → zR z4 → zR z5 → zR z6 → LfI (k23 z0 z1 z2 z3 z4 z5 z6) (k23F (zh z0) (zI z1) (zI z2) (zI z3) (zI z4) (zI z5) (zI z6))) (hah : HR ah) (hv1 : zR v1) (hv2 : zR v2) (hv3 : zR v3) (hv4 : zR v4) (hv5 : zR v5) (hv6 : zR v6) (hs0 : zR s0) : LfI (G_X12_feed_76 N k23 ah v1 v2 v3 v4 v5 v6 s0) (F_X12_feed_76 N k23F (zh ah) (zI v1) (zI v2) (zI v3) (zI v4) (zI v5) (zI v6) (zI s0)) := by
  unfold G_X12_feed_76 F_X12_feed_76
  refine Lg.letv rfl hs0 (fun v7_76 hv7_76 => ?_)
  refine Lg.z (by decide) ?_
  refine Lg.g rfl rfl (by decide) (fun g1 => ?_)
  refine Lg.wrt hah rfl (zix rfl g1) (zand (zshr rfl (zand (zsub rfl (zmul rfl (zsub rfl (zmul (zdiv rfl rfl hv6 (by decide)) rfl)))) rfl)) rfl) yand_R (fun a103 ha103 => ?_)
  refine Lg.wrt ha103 rfl rfl (zwr (zadd rfl rfl)) wr_R (fun a111 ha111 => ?_)
  refine Lg.letv (zwr (zadd rfl rfl)) wr_R (fun v6_114 hv6_114 => ?_)
  exact (hk23 ha111 hv1 hv2 hv3 hv4 hv5 hv6_114)
theorem l_X12_feed_23 {N : Nat}  : ∀ (n : Nat) {ah : IH} {v1 : Int} {v2 : Int} {v3 : Int} {v4 : Int} {v5 : Int} {v6 : Int}, HR ah → zR v1 → zR v2 → zR v3 → zR v4 → zR v5 → zR v6 → LfI (G_X12_feed_23 N n ah v1 v2 v3 v4 v5 v6) (F_X12_feed_23 N n (zh ah) (zI v1) (zI v2) (zI v3) (zI v4) (zI v5) (zI v6)) := by
  intro n
  induction n with
  | zero => intros; exact Lg.none
  | succ n ih =>
    intro ah v1 v2 v3 v4 v5 v6 hah hv1 hv2 hv3 hv4 hv5 hv6
    unfold G_X12_feed_23 F_X12_feed_23
    refine Lg.le rfl rfl (zRd rfl) hv6 ?_ ?_
    · exact LgI.ret rfl (hah _ _) hah
    · refine Lg.le rfl rfl (zRd rfl) hv6 ?_ ?_
      · refine Lg.le rfl rfl (zRd rfl) hv6 ?_ ?_
        · refine Lg.le rfl rfl (zRd rfl) hv6 ?_ ?_
          · refine Lg.le rfl rfl (zRd rfl) hv6 ?_ ?_
            · exact (l_X12_feed_76 ih hah hv1 hv2 hv3 hv4 hv5 hv6 hv5)
            · exact (l_X12_feed_76 ih hah hv1 hv2 hv3 hv4 hv5 hv6 hv4)
          · exact (l_X12_feed_76 ih hah hv1 hv2 hv3 hv4 hv5 hv6 hv3)
        · exact (l_X12_feed_76 ih hah hv1 hv2 hv3 hv4 hv5 hv6 hv2)
      · exact (l_X12_feed_76 ih hah hv1 hv2 hv3 hv4 hv5 hv6 hv1)
theorem l_X12_feed {N : Nat} {ah : IH} {p1 : Int} {p2 : Int} {p3 : Int} {p4 : Int} {p5 : Int} (hah : HR ah) (hp1 : zR p1) (hp2 : zR p2) (hp3 : zR p3) (hp4 : zR p4) (hp5 : zR p5) : LfI (G_X12_feed N ah p1 p2 p3 p4 p5) (F_X12_feed N (zh ah) (zI p1) (zI p2) (zI p3) (zI p4) (zI p5)) := by
  unfold G_X12_feed F_X12_feed
  refine Lg.wrt hah rfl rfl rfl (zRd rfl) (fun a2 ha2 => ?_)
  refine Lg.le (zwr (zadd rfl rfl)) rfl wr_R (zRd rfl) ?_ ?_
  · refine Lg.letv rfl (zRd rfl) (fun v6_21 hv6_21 => ?_)
    exact (l_X12_feed_23 _ ha2 hp1 hp2 hp3 hp4 hp5 hv6_21)
  · exact LgI.ret rfl (zRd rfl) ha2
theorem l_X12_byteAt {N : Nat} {ah : IH} {p1 : Int} (hah : HR ah) (hp1 : zR p1) : LfI (G_X12_byteAt N ah p1) (F_X12_byteAt N (zh ah) (zI p1)) := by
  unfold G_X12_byteAt F_X12_byteAt
  refine Lg.lt rfl rfl hp1 (hah _ _) ?_ ?_
  · refine Lg.g rfl rfl (by decide) (fun g1 => ?_)
    exact LgI.ret (zlk rfl g1) (hah _ _) hah
  · exact LgI.ret rfl (zRd rfl) hah
theorem l_X12_here {N : Nat} {ah : IH} (hah : HR ah) : LfI (G_X12_here N ah) (F_X12_here N (zh ah)) := by
  unfold G_X12_here F_X12_here
  refine Lg.b (l_X12_byteAt hah (hah _ _)) (fun r5 a5 hr5 ha5 => ?_)
  exact LgI.ret rfl hr5 ha5
theorem l_X12_blanks_0 {N : Nat}  : ∀ (n : Nat) {ah : IH}, HR ah → LfI (G_X12_blanks_0 N n ah) (F_X12_blanks_0 N n (zh ah)) := by
  intro n
  induction n with
  | zero => intros; exact Lg.none
  | succ n ih =>
    intro ah hah
    unfold G_X12_blanks_0 F_X12_blanks_0
    refine Lg.b (l_X12_here hah) (fun r1 a1 hr1 ha1 => ?_)
    refine Lg.eq rfl rfl hr1 (zRd rfl) ?_ ?_
    · refine Lg.wrt ha1 rfl rfl (zwr (zadd rfl rfl)) wr_R (fun a16 ha16 => ?_)
      exact (ih ha16)
    · refine Lg.b (l_X12_here ha1) (fun r23 a23 hr23 ha23 => ?_)
      exact LgI.ret rfl hr23 ha23
theorem l_X12_blanks {N : Nat} {ah : IH} (hah : HR ah) : LfI (G_X12_blanks N ah) (F_X12_blanks N (zh ah)) := by
  unfold G_X12_blanks F_X12_blanks
  exact (l_X12_blanks_0 _ hah)
theorem l_X12_fine {N : Nat} {ah : IH} (hah : HR ah) : LfI (G_X12_fine N ah) (F_X12_fine N (zh ah)) := by
  unfold G_X12_fine F_X12_fine
  refine Lg.eq rfl rfl (hah _ _) (zRd rfl) ?_ ?_
  · exact LgI.ret rfl (zRd rfl) hah
  · exact LgI.ret rfl (zRd rfl) hah
theorem l_X12_wrong {N : Nat} {ah : IH} {p1 : Int} {p2 : Int} (hah : HR ah) (hp1 : zR p1) (hp2 : zR p2) : LfV (G_X12_wrong N ah p1 p2) (F_X12_wrong N (zh ah) (zI p1) (zI p2)) := by
  unfold G_X12_wrong F_X12_wrong
  refine Lg.eq rfl rfl (hah _ _) (zRd rfl) ?_ ?_
  · refine Lg.wrt hah rfl rfl rfl hp1 (fun a9 ha9 => ?_)
    refine Lg.wrt ha9 rfl rfl rfl hp2 (fun a14 ha14 => ?_)
    exact LgV.ret ha14
  · exact LgV.ret hah
theorem l_X12_starts {N : Nat} {ah : IH} {p1 : Int} (hah : HR ah) (hp1 : zR p1) : LfV (G_X12_starts N ah p1) (F_X12_starts N (zh ah) (zI p1)) := by
  unfold G_X12_starts F_X12_starts
  refine Lg.wrt hah rfl rfl rfl (zRd rfl) (fun a2 ha2 => ?_)
  refine Lg.wrt ha2 rfl rfl rfl hp1 (fun a7 ha7 => ?_)
  refine Lg.wrt ha7 rfl rfl rfl (zRd rfl) (fun a12 ha12 => ?_)
  refine Lg.wrt ha12 rfl rfl rfl (zRd rfl) (fun a17 ha17 => ?_)
  refine Lg.wrt ha17 rfl rfl rfl (zRd rfl) (fun a22 ha22 => ?_)
  exact LgV.ret ha22
theorem l_X12_ends {N : Nat} {ah : IH} {p1 : Int} (hah : HR ah) (hp1 : zR p1) : LfI (G_X12_ends N ah p1) (F_X12_ends N (zh ah) (zI p1)) := by
  unfold G_X12_ends F_X12_ends
  refine Lg.wrt hah rfl rfl rfl (hah _ _) (fun a5 ha5 => ?_)
  refine Lg.b (l_X12_fine ha5) (fun r9 a9 hr9 ha9 => ?_)
  refine Lg.eq rfl rfl hr9 (zRd rfl) ?_ ?_
  · exact LgI.ret (zwr (zsub rfl rfl)) wr_R ha9
  · exact LgI.ret rfl hp1 ha9
theorem l_X12_isDigit {N : Nat} {ah : IH} {p0 : Int} (hah : HR ah) (hp0 : zR p0) : LfI (G_X12_isDigit N ah p0) (F_X12_isDigit N (zh ah) (zI p0)) := by
  unfold G_X12_isDigit F_X12_isDigit
  refine Lg.lt rfl rfl hp0 (zRd rfl) ?_ ?_
  · exact LgI.ret rfl (zRd rfl) hah
  · refine Lg.lt rfl rfl (zRd rfl) hp0 ?_ ?_
    · exact LgI.ret rfl (zRd rfl) hah
    · exact LgI.ret rfl (zRd rfl) hah
theorem l_X12_isSmall {N : Nat} {ah : IH} {p0 : Int} (hah : HR ah) (hp0 : zR p0) : LfI (G_X12_isSmall N ah p0) (F_X12_isSmall N (zh ah) (zI p0)) := by
  unfold G_X12_isSmall F_X12_isSmall
  refine Lg.lt rfl rfl hp0 (zRd rfl) ?_ ?_
  · exact LgI.ret rfl (zRd rfl) hah
  · refine Lg.lt rfl rfl (zRd rfl) hp0 ?_ ?_
    · exact LgI.ret rfl (zRd rfl) hah
    · exact LgI.ret rfl (zRd rfl) hah
theorem l_X12_number_95 {N : Nat} {ah : IH} {v1 : Int} {v4 : Int} (hah : HR ah) (hv1 : zR v1) (hv4 : zR v4) : LfI (G_X12_number_95 N ah v1 v4) (F_X12_number_95 N (zh ah) (zI v1) (zI v4)) := by
  unfold G_X12_number_95 F_X12_number_95
  refine Lg.b (l_X12_fine hah) (fun r96 a96 hr96 ha96 => ?_)
  refine Lg.eq rfl rfl hr96 (zRd rfl) ?_ ?_
  · exact LgI.ret rfl hv1 ha96
  · exact LgI.ret rfl hv4 ha96
theorem l_X12_number_36 {N : Nat}  : ∀ (n : Nat) {ah : IH} {v1 : Int} {v2 : Int} {v3 : Int} {v4 : Int}, HR ah → zR v1 → zR v2 → zR v3 → zR v4 → LfI (G_X12_number_36 N n ah v1 v2 v3 v4) (F_X12_number_36 N n (zh ah) (zI v1) (zI v2) (zI v3) (zI v4)) := by
  intro n
  induction n with
  | zero => intros; exact Lg.none
  | succ n ih =>
    intro ah v1 v2 v3 v4 hah hv1 hv2 hv3 hv4
    unfold G_X12_number_36 F_X12_number_36
    refine Lg.b (l_X12_here hah) (fun r37 a37 hr37 ha37 => ?_)
    refine Lg.b (l_X12_isDigit ha37 hr37) (fun r40 a40 hr40 ha40 => ?_)
    refine Lg.eq rfl rfl hr40 (zRd rfl) ?_ ?_
    · refine Lg.b (l_X12_in ha40 hv4 hv1 hv2) (fun r83 a83 hr83 ha83 => ?_)
      refine Lg.eq rfl rfl hr83 (zRd rfl) ?_ ?_
      · refine Lg.bv (l_X12_wrong ha83 (zRd rfl) hv3) (fun a92 ha92 => ?_)
        exact (l_X12_number_95 ha92 hv1 hv4)
      · exact (l_X12_number_95 ha83 hv1 hv4)
    · refine Lg.b (l_X12_here ha40) (fun r54 a54 hr54 ha54 => ?_)
      refine Lg.b (by rw [(show ((((10 : Int32) * (zI v4)) + (zI r54)) - (48 : Int32)) = zI (wr (((10 * v4) + r54) - 48)) from (zwr (zsub (zadd (zmul rfl rfl) rfl) rfl)))]; exact l_X12_less ha54 (zRd rfl) wr_R) (fun r61 a61 hr61 ha61 => ?_)
      refine Lg.letv rfl hr61 (fun v4_64 hv4_64 => ?_)
      refine Lg.wrt ha61 rfl rfl (zwr (zadd rfl rfl)) wr_R (fun a73 ha73 => ?_)
      exact (ih ha73 hv1 hv2 hv3 hv4_64)
theorem l_X12_number_28 {N : Nat} {ah : IH} {v1 : Int} {v2 : Int} (hah : HR ah) (hv1 : zR v1) (hv2 : zR v2) : LfI (G_X12_number_28 N ah v1 v2) (F_X12_number_28 N (zh ah) (zI v1) (zI v2)) := by
  unfold G_X12_number_28 F_X12_number_28
  refine Lg.letv rfl (hah _ _) (fun v3_32 hv3_32 => ?_)
  refine Lg.letv rfl (zRd rfl) (fun v4_34 hv4_34 => ?_)
  exact (l_X12_number_36 _ hah hv1 hv2 hv3_32 hv4_34)
theorem l_X12_number {N : Nat} {ah : IH} {p1 : Int} {p2 : Int} (hah : HR ah) (hp1 : zR p1) (hp2 : zR p2) : LfI (G_X12_number N ah p1 p2) (F_X12_number N (zh ah) (zI p1) (zI p2)) := by
  unfold G_X12_number F_X12_number
  refine Lg.b (l_X12_fine hah) (fun r1 a1 hr1 ha1 => ?_)
  refine Lg.eq rfl rfl hr1 (zRd rfl) ?_ ?_
  · exact LgI.ret rfl hp1 ha1
  · refine Lg.b (l_X12_here ha1) (fun r10 a10 hr10 ha10 => ?_)
    refine Lg.b (l_X12_isDigit ha10 hr10) (fun r13 a13 hr13 ha13 => ?_)
    refine Lg.eq rfl rfl hr13 (zRd rfl) ?_ ?_
    · refine Lg.bv (l_X12_wrong ha13 (zRd rfl) (ha13 _ _)) (fun a25 ha25 => ?_)
      exact (l_X12_number_28 ha25 hp1 hp2)
    · exact (l_X12_number_28 ha13 hp1 hp2)
theorem l_X12_closes {N : Nat} {ah : IH} (hah : HR ah) : LfV (G_X12_closes N ah) (F_X12_closes N (zh ah)) := by
  unfold G_X12_closes F_X12_closes
  refine Lg.b (l_X12_fine hah) (fun r1 a1 hr1 ha1 => ?_)
  refine Lg.eq rfl rfl hr1 (zRd rfl) ?_ ?_
  · exact LgV.ret ha1
  · refine Lg.b (l_X12_blanks ha1) (fun r9 a9 hr9 ha9 => ?_)
    refine Lg.eq rfl rfl hr9 (zRd rfl) ?_ ?_
    · refine Lg.wrt ha9 rfl rfl (zwr (zadd rfl rfl)) wr_R (fun a24 ha24 => ?_)
      exact LgV.ret ha24
    · refine Lg.bv (l_X12_wrong ha9 (zRd rfl) (ha9 _ _)) (fun a36 ha36 => ?_)
      exact LgV.ret ha36
theorem l_X12_readsSigns_84 {N : Nat} {ah : IH} {v1 : Int} {v2 : Int} (hah : HR ah) (hv1 : zR v1) (hv2 : zR v2) : LfI (G_X12_readsSigns_84 N ah v1 v2) (F_X12_readsSigns_84 N (zh ah) (zI v1) (zI v2)) := by
  unfold G_X12_readsSigns_84 F_X12_readsSigns_84
  refine Lg.g rfl rfl (by decide) (fun g1 => ?_)
  refine Lg.wrt hah rfl (zix rfl g1) rfl hv2 (fun a90 ha90 => ?_)
  refine Lg.le rfl rfl hv2 (zRd rfl) ?_ ?_
  · exact LgI.ret rfl hv2 ha90
  · refine Lg.g rfl rfl (by decide) (fun g2 => ?_)
    refine Lg.letc (cadd rfl (zix rfl g2)) (fun x100 => ?_)
    refine Lg.g (zsub rfl rfl) rfl (by decide) (fun g3 => ?_)
    refine Lg.eq (zlk (zsub rfl rfl) g3) rfl (ha90 _ _) (zRd rfl) ?_ ?_
    · refine Lg.bv (l_X12_wrong ha90 (zRd rfl) (ha90 _ _)) (fun a116 ha116 => ?_)
      exact LgI.ret rfl hv2 ha116
    · exact LgI.ret rfl hv2 ha90
theorem l_X12_readsSigns_47 {N : Nat} {k2 : IH → Int → Int → Option (Int × IH)} {k2F : AH → Int32 → Int32 → Option (Int32 × AH)} {ah : IH} {v1 : Int} {v2 : Int} (hk2 : ∀ {z0 : IH} {z1 : Int} {z2 : Int}, HR z0 → zR z1 → zR z2 → LfI (k2 z0 z1 z2) (k2F (zh z0) (zI z1) (zI z2))) (hah : HR ah) (hv1 : zR v1) (hv2 : zR v2) : LfI (G_X12_readsSigns_47 N k2 ah v1 v2) (F_X12_readsSigns_47 N k2F (zh ah) (zI v1) (zI v2)) := by
  unfold G_X12_readsSigns_47 F_X12_readsSigns_47
  refine Lg.b (l_X12_fine hah) (fun r48 a48 hr48 ha48 => ?_)
  refine Lg.eq rfl rfl hr48 (zRd rfl) ?_ ?_
  · exact LgI.ret rfl hv2 ha48
  · refine Lg.g rfl rfl (by decide) (fun g1 => ?_)
    refine Lg.letc (cadd rfl (zix rfl g1)) (fun x61 => ?_)
    refine Lg.b (l_X12_here ha48) (fun r64 a64 hr64 ha64 => ?_)
    refine Lg.g rfl rfl (by decide) (fun g2 => ?_)
    refine Lg.wrt ha64 rfl (zix rfl g2) rfl hr64 (fun a67 ha67 => ?_)
    refine Lg.letv (zwr (zadd rfl rfl)) wr_R (fun v2_68 hv2_68 => ?_)
    refine Lg.wrt ha67 rfl rfl (zwr (zadd rfl rfl)) wr_R (fun a78 ha78 => ?_)
    exact (hk2 ha78 hv1 hv2_68)
theorem l_X12_readsSigns_32 {N : Nat} {k2 : IH → Int → Int → Option (Int × IH)} {k2F : AH → Int32 → Int32 → Option (Int32 × AH)} {ah : IH} {v1 : Int} {v2 : Int} (hk2 : ∀ {z0 : IH} {z1 : Int} {z2 : Int}, HR z0 → zR z1 → zR z2 → LfI (k2 z0 z1 z2) (k2F (zh z0) (zI z1) (zI z2))) (hah : HR ah) (hv1 : zR v1) (hv2 : zR v2) : LfI (G_X12_readsSigns_32 N k2 ah v1 v2) (F_X12_readsSigns_32 N k2F (zh ah) (zI v1) (zI v2)) := by
  unfold G_X12_readsSigns_32 F_X12_readsSigns_32
  refine Lg.eq rfl rfl hv2 (zRd rfl) ?_ ?_
  · refine Lg.bv (l_X12_wrong hah (zRd rfl) (hah _ _)) (fun a44 ha44 => ?_)
    exact (l_X12_readsSigns_47 hk2 ha44 hv1 hv2)
  · exact (l_X12_readsSigns_47 hk2 hah hv1 hv2)
theorem l_X12_readsSigns_2 {N : Nat}  : ∀ (n : Nat) {ah : IH} {v1 : Int} {v2 : Int}, HR ah → zR v1 → zR v2 → LfI (G_X12_readsSigns_2 N n ah v1 v2) (F_X12_readsSigns_2 N n (zh ah) (zI v1) (zI v2)) := by
  intro n
  induction n with
  | zero => intros; exact Lg.none
  | succ n ih =>
    intro ah v1 v2 hah hv1 hv2
    unfold G_X12_readsSigns_2 F_X12_readsSigns_2
    refine Lg.b (l_X12_fine hah) (fun r3 a3 hr3 ha3 => ?_)
    refine Lg.eq rfl rfl hr3 (zRd rfl) ?_ ?_
    · exact (l_X12_readsSigns_84 ha3 hv1 hv2)
    · refine Lg.b (l_X12_here ha3) (fun r10 a10 hr10 ha10 => ?_)
      refine Lg.b (l_X12_isSmall ha10 hr10) (fun r13 a13 hr13 ha13 => ?_)
      refine Lg.eq rfl rfl hr13 (zRd rfl) ?_ ?_
      · refine Lg.le rfl rfl hv2 (zRd rfl) ?_ ?_
        · exact (l_X12_readsSigns_84 ha13 hv1 hv2)
        · refine Lg.b (l_X12_here ha13) (fun r24 a24 hr24 ha24 => ?_)
          refine Lg.eq rfl rfl hr24 (zRd rfl) ?_ ?_
          · exact (l_X12_readsSigns_32 ih ha24 hv1 hv2)
          · exact (l_X12_readsSigns_84 ha24 hv1 hv2)
      · exact (l_X12_readsSigns_32 ih ha13 hv1 hv2)
theorem l_X12_readsSigns {N : Nat} {ah : IH} {p1 : Int} (hah : HR ah) (hp1 : zR p1) : LfI (G_X12_readsSigns N ah p1) (F_X12_readsSigns N (zh ah) (zI p1)) := by
  unfold G_X12_readsSigns F_X12_readsSigns
  refine Lg.letv rfl (zRd rfl) (fun v2_1 hv2_1 => ?_)
  exact (l_X12_readsSigns_2 _ hah hp1 hv2_1)
theorem l_X12_areSame_19 {N : Nat}  : ∀ (n : Nat) {ah : IH} {v1 : Int} {v2 : Int} {v3 : Int}, HR ah → zR v1 → zR v2 → zR v3 → LfI (G_X12_areSame_19 N n ah v1 v2 v3) (F_X12_areSame_19 N n (zh ah) (zI v1) (zI v2) (zI v3)) := by
  intro n
  induction n with
  | zero => intros; exact Lg.none
  | succ n ih =>
    intro ah v1 v2 v3 hah hv1 hv2 hv3
    unfold G_X12_areSame_19 F_X12_areSame_19
    refine Lg.g rfl rfl (by decide) (fun g1 => ?_)
    refine Lg.le (zlk rfl g1) rfl (hah _ _) hv3 ?_ ?_
    · exact LgI.ret rfl (zRd rfl) hah
    · refine Lg.g rfl rfl (by decide) (fun g2 => ?_)
      refine Lg.letc (cadd rfl (zix rfl g2)) (fun x34 => ?_)
      refine Lg.g rfl rfl (by decide) (fun g3 => ?_)
      refine Lg.g rfl rfl (by decide) (fun g4 => ?_)
      refine Lg.letc (cadd rfl (zix rfl g4)) (fun x42 => ?_)
      refine Lg.g rfl rfl (by decide) (fun g5 => ?_)
      refine Lg.eq (zlk rfl g5) (zlk rfl g5) (hah _ _) (hah _ _) ?_ ?_
      · refine Lg.letv (zwr (zadd rfl rfl)) wr_R (fun v3_50 hv3_50 => ?_)
        exact (ih hah hv1 hv2 hv3_50)
      · exact LgI.ret rfl (zRd rfl) hah
theorem l_X12_areSame {N : Nat} {ah : IH} {p1 : Int} {p2 : Int} (hah : HR ah) (hp1 : zR p1) (hp2 : zR p2) : LfI (G_X12_areSame N ah p1 p2) (F_X12_areSame N (zh ah) (zI p1) (zI p2)) := by
  unfold G_X12_areSame F_X12_areSame
  refine Lg.g rfl rfl (by decide) (fun g1 => ?_)
  refine Lg.g rfl rfl (by decide) (fun g2 => ?_)
  refine Lg.eq (zlk rfl g1) (zlk rfl g2) (hah _ _) (hah _ _) ?_ ?_
  · refine Lg.letv rfl (zRd rfl) (fun v3_18 hv3_18 => ?_)
    exact (l_X12_areSame_19 _ hah hp1 hp2 hv3_18)
  · exact LgI.ret rfl (zRd rfl) hah
theorem l_X12_sameAs_2 {N : Nat}  : ∀ (n : Nat) {ah : IH} {v1 : Int} {v2 : Int}, HR ah → zR v1 → zR v2 → LfI (G_X12_sameAs_2 N n ah v1 v2) (F_X12_sameAs_2 N n (zh ah) (zI v1) (zI v2)) := by
  intro n
  induction n with
  | zero => intros; exact Lg.none
  | succ n ih =>
    intro ah v1 v2 hah hv1 hv2
    unfold G_X12_sameAs_2 F_X12_sameAs_2
    refine Lg.le rfl rfl hv1 hv2 ?_ ?_
    · exact LgI.ret rfl (zRd rfl) hah
    · refine Lg.b (l_X12_areSame hah hv2 hv1) (fun r10 a10 hr10 ha10 => ?_)
      refine Lg.eq rfl rfl hr10 (zRd rfl) ?_ ?_
      · refine Lg.letv (zwr (zadd rfl rfl)) wr_R (fun v2_18 hv2_18 => ?_)
        exact (ih ha10 hv1 hv2_18)
      · exact LgI.ret rfl hv2 ha10
theorem l_X12_sameAs {N : Nat} {ah : IH} {p1 : Int} (hah : HR ah) (hp1 : zR p1) : LfI (G_X12_sameAs N ah p1) (F_X12_sameAs N (zh ah) (zI p1)) := by
  unfold G_X12_sameAs F_X12_sameAs
  refine Lg.letv rfl (zRd rfl) (fun v2_1 hv2_1 => ?_)
  exact (l_X12_sameAs_2 _ hah hp1 hv2_1)
theorem l_X12_readsWord_70 {N : Nat} {ah : IH} (hah : HR ah) : LfV (G_X12_readsWord_70 N ah) (F_X12_readsWord_70 N (zh ah)) := by
  unfold G_X12_readsWord_70 F_X12_readsWord_70
  refine Lg.bv (l_X12_closes hah) (fun a71 ha71 => ?_)
  exact LgV.ret ha71
theorem l_X12_readsWord_33 {N : Nat} {ah : IH} {v1 : Int} (hah : HR ah) (hv1 : zR v1) : LfV (G_X12_readsWord_33 N ah v1) (F_X12_readsWord_33 N (zh ah) (zI v1)) := by
  unfold G_X12_readsWord_33 F_X12_readsWord_33
  refine Lg.g rfl rfl (by decide) (fun g1 => ?_)
  refine Lg.wrt hah rfl (zix rfl g1) rfl (zRd rfl) (fun a39 ha39 => ?_)
  refine Lg.b (l_X12_fine ha39) (fun r41 a41 hr41 ha41 => ?_)
  refine Lg.eq rfl rfl hr41 (zRd rfl) ?_ ?_
  · exact (l_X12_readsWord_70 ha41)
  · refine Lg.b (l_X12_blanks ha41) (fun r48 a48 hr48 ha48 => ?_)
    refine Lg.b (l_X12_isDigit ha48 hr48) (fun r51 a51 hr51 ha51 => ?_)
    refine Lg.eq rfl rfl hr51 (zRd rfl) ?_ ?_
    · exact (l_X12_readsWord_70 ha51)
    · refine Lg.b (l_X12_number ha51 (zRd rfl) (zRd rfl)) (fun r66 a66 hr66 ha66 => ?_)
      refine Lg.g rfl rfl (by decide) (fun g2 => ?_)
      refine Lg.wrt ha66 rfl (zix rfl g2) rfl hr66 (fun a69 ha69 => ?_)
      exact (l_X12_readsWord_70 ha69)
theorem l_X12_readsWord {N : Nat} {ah : IH} {p1 : Int} (hah : HR ah) (hp1 : zR p1) : LfV (G_X12_readsWord N ah p1) (F_X12_readsWord N (zh ah) (zI p1)) := by
  unfold G_X12_readsWord F_X12_readsWord
  refine Lg.letv rfl (hah _ _) (fun v2_4 hv2_4 => ?_)
  refine Lg.b (l_X12_readsSigns hah hp1) (fun r7 a7 hr7 ha7 => ?_)
  refine Lg.b (l_X12_fine ha7) (fun r12 a12 hr12 ha12 => ?_)
  refine Lg.eq rfl rfl hr12 (zRd rfl) ?_ ?_
  · exact (l_X12_readsWord_33 ha12 hp1)
  · refine Lg.b (l_X12_sameAs ha12 hp1) (fun r20 a20 hr20 ha20 => ?_)
    refine Lg.eq rfl rfl hr20 (zRd rfl) ?_ ?_
    · exact (l_X12_readsWord_33 ha20 hp1)
    · refine Lg.bv (l_X12_wrong ha20 (zRd rfl) hv2_4) (fun a30 ha30 => ?_)
      exact (l_X12_readsWord_33 ha30 hp1)
theorem l_X12_weighs_91 {N : Nat} {k32 : IH → Int → Option IH} {k32F : AH → Int32 → Option AH} {k47 : IH → Int → Int → Option IH} {k47F : AH → Int32 → Int32 → Option AH} {ah : IH} {v1 : Int} {v2 : Int} {s1 : Int} {s2 : Int} (hk32 : ∀ {z0 : IH} {z1 : Int}, HR z0 → zR z1 → LfV (k32 z0 z1) (k32F (zh z0) (zI z1))) (hk47 : ∀ {z0 : IH} {z1 : Int} {z2 : Int}, HR z0 → zR z1 → zR z2 → LfV (k47 z0 z1 z2) (k47F (zh z0) (zI z1) (zI z2))) (hah : HR ah) (hv1 : zR v1) (hv2 : zR v2) (hs1 : zR s1) (hs2 : zR s2) : LfV (G_X12_weighs_91 N k32 k47 ah v1 v2 s1 s2) (F_X12_weighs_91 N k32F k47F (zh ah) (zI v1) (zI v2) (zI s1) (zI s2)) := by
  unfold G_X12_weighs_91 F_X12_weighs_91
  refine Lg.g rfl rfl (by decide) (fun g1 => ?_)
  refine Lg.wrt hah rfl (zix rfl g1) rfl hs2 (fun a91 ha91 => ?_)
  refine Lg.g rfl rfl (by decide) (fun g2 => ?_)
  refine Lg.g rfl rfl (by decide) (fun g3 => ?_)
  refine Lg.wrt ha91 rfl (zix rfl g3) (zwr (zadd (zlk rfl g3) rfl)) wr_R (fun a101 ha101 => ?_)
  refine Lg.g rfl rfl (by decide) (fun g4 => ?_)
  refine Lg.letv (zlk rfl g4) (ha101 _ _) (fun v2_108 hv2_108 => ?_)
  exact (hk47 ha101 hv1 hv2_108)
theorem l_X12_weighs_47 {N : Nat} {k32 : IH → Int → Option IH} {k32F : AH → Int32 → Option AH} (hk32 : ∀ {z0 : IH} {z1 : Int}, HR z0 → zR z1 → LfV (k32 z0 z1) (k32F (zh z0) (zI z1))) : ∀ (n : Nat) {ah : IH} {v1 : Int} {v2 : Int}, HR ah → zR v1 → zR v2 → LfV (G_X12_weighs_47 N k32 n ah v1 v2) (F_X12_weighs_47 N k32F n (zh ah) (zI v1) (zI v2)) := by
  intro n
  induction n with
  | zero => intros; exact Lg.none
  | succ n ih =>
    intro ah v1 v2 hah hv1 hv2
    unfold G_X12_weighs_47 F_X12_weighs_47
    refine Lg.eq rfl rfl hv2 (zRd rfl) ?_ ?_
    · refine Lg.letv (zwr (zadd rfl rfl)) wr_R (fun v1_112 hv1_112 => ?_)
      exact (hk32 hah hv1_112)
    · refine Lg.g rfl rfl (by decide) (fun g1 => ?_)
      refine Lg.eq (zlk rfl g1) rfl (hah _ _) (zRd rfl) ?_ ?_
      · refine Lg.g rfl rfl (by decide) (fun g2 => ?_)
        exact (by rw [(show (zh ah 6 (Int32.toNatClampNeg (zI v1))) = zI (ah 6 v1) from (zlk rfl g2))]; exact l_X12_weighs_91 hk32 ih hah hv1 hv2 hv2 (hah _ _))
      · refine Lg.g rfl rfl (by decide) (fun g3 => ?_)
        refine Lg.g rfl rfl (by decide) (fun g4 => ?_)
        refine Lg.b (by rw [(show (zh ah 11 (Int32.toNatClampNeg (zI v2))) = zI (ah 11 v2) from (zlk rfl g3)), (show (zh ah 6 (Int32.toNatClampNeg (zI v1))) = zI (ah 6 v1) from (zlk rfl g4))]; exact l_X12_less hah (hah _ _) (hah _ _)) (fun r88 a88 hr88 ha88 => ?_)
        exact (l_X12_weighs_91 hk32 ih ha88 hv1 hv2 hv2 hr88)
theorem l_X12_weighs_32 {N : Nat}  : ∀ (n : Nat) {ah : IH} {v1 : Int}, HR ah → zR v1 → LfV (G_X12_weighs_32 N n ah v1) (F_X12_weighs_32 N n (zh ah) (zI v1)) := by
  intro n
  induction n with
  | zero => intros; exact Lg.none
  | succ n ih =>
    intro ah v1 hah hv1
    unfold G_X12_weighs_32 F_X12_weighs_32
    refine Lg.le rfl rfl (hah _ _) hv1 ?_ ?_
    · exact LgV.ret hah
    · refine Lg.g rfl rfl (by decide) (fun g1 => ?_)
      refine Lg.letv (zlk rfl g1) (hah _ _) (fun v2_46 hv2_46 => ?_)
      exact (l_X12_weighs_47 ih _ hah hv1 hv2_46)
theorem l_X12_weighs_2 {N : Nat}  : ∀ (n : Nat) {ah : IH} {v1 : Int}, HR ah → zR v1 → LfV (G_X12_weighs_2 N n ah v1) (F_X12_weighs_2 N n (zh ah) (zI v1)) := by
  intro n
  induction n with
  | zero => intros; exact Lg.none
  | succ n ih =>
    intro ah v1 hah hv1
    unfold G_X12_weighs_2 F_X12_weighs_2
    refine Lg.le rfl rfl (hah _ _) hv1 ?_ ?_
    · refine Lg.letv rfl (zRd rfl) (fun v1_31 hv1_31 => ?_)
      exact (l_X12_weighs_32 _ hah hv1_31)
    · refine Lg.g rfl rfl (by decide) (fun g1 => ?_)
      refine Lg.wrt hah rfl (zix rfl g1) rfl (zRd rfl) (fun a16 ha16 => ?_)
      refine Lg.g rfl rfl (by decide) (fun g2 => ?_)
      refine Lg.wrt ha16 rfl (zix rfl g2) rfl (zRd rfl) (fun a23 ha23 => ?_)
      refine Lg.letv (zwr (zadd rfl rfl)) wr_R (fun v1_24 hv1_24 => ?_)
      exact (ih ha23 hv1_24)
theorem l_X12_weighs {N : Nat} {ah : IH} (hah : HR ah) : LfV (G_X12_weighs N ah) (F_X12_weighs N (zh ah)) := by
  unfold G_X12_weighs F_X12_weighs
  refine Lg.letv rfl (zRd rfl) (fun v1_1 hv1_1 => ?_)
  exact (l_X12_weighs_2 _ hah hv1_1)
theorem l_X12_childOf_34 {N : Nat} {k4 : IH → Int → Int → Int → Option (Int × IH)} {k4F : AH → Int32 → Int32 → Int32 → Option (Int32 × AH)} {ah : IH} {v1 : Int} {v2 : Int} {v3 : Int} (hk4 : ∀ {z0 : IH} {z1 : Int} {z2 : Int} {z3 : Int}, HR z0 → zR z1 → zR z2 → zR z3 → LfI (k4 z0 z1 z2 z3) (k4F (zh z0) (zI z1) (zI z2) (zI z3))) (hah : HR ah) (hv1 : zR v1) (hv2 : zR v2) (hv3 : zR v3) : LfI (G_X12_childOf_34 N k4 ah v1 v2 v3) (F_X12_childOf_34 N k4F (zh ah) (zI v1) (zI v2) (zI v3)) := by
  unfold G_X12_childOf_34 F_X12_childOf_34
  refine Lg.letv (zwr (zadd rfl rfl)) wr_R (fun v3_34 hv3_34 => ?_)
  exact (hk4 hah hv1 hv2 hv3_34)
theorem l_X12_childOf_4 {N : Nat}  : ∀ (n : Nat) {ah : IH} {v1 : Int} {v2 : Int} {v3 : Int}, HR ah → zR v1 → zR v2 → zR v3 → LfI (G_X12_childOf_4 N n ah v1 v2 v3) (F_X12_childOf_4 N n (zh ah) (zI v1) (zI v2) (zI v3)) := by
  intro n
  induction n with
  | zero => intros; exact Lg.none
  | succ n ih =>
    intro ah v1 v2 v3 hah hv1 hv2 hv3
    unfold G_X12_childOf_4 F_X12_childOf_4
    refine Lg.le rfl rfl (hah _ _) hv3 ?_ ?_
    · exact LgI.ret rfl (zRd rfl) hah
    · refine Lg.g rfl rfl (by decide) (fun g1 => ?_)
      refine Lg.eq (zlk rfl g1) rfl (hah _ _) hv1 ?_ ?_
      · refine Lg.g rfl rfl (by decide) (fun g2 => ?_)
        refine Lg.eq (zlk rfl g2) rfl (hah _ _) hv2 ?_ ?_
        · exact LgI.ret rfl hv3 hah
        · exact (l_X12_childOf_34 ih hah hv1 hv2 hv3)
      · exact (l_X12_childOf_34 ih hah hv1 hv2 hv3)
theorem l_X12_childOf {N : Nat} {ah : IH} {p1 : Int} {p2 : Int} (hah : HR ah) (hp1 : zR p1) (hp2 : zR p2) : LfI (G_X12_childOf N ah p1 p2) (F_X12_childOf N (zh ah) (zI p1) (zI p2)) := by
  unfold G_X12_childOf F_X12_childOf
  refine Lg.letv (zwr (zadd rfl rfl)) wr_R (fun v3_3 hv3_3 => ?_)
  exact (l_X12_childOf_4 _ hah hp1 hp2 hv3_3)
theorem l_X12_grows_82 {N : Nat} {k4 : IH → Int → Int → Int → Option IH} {k4F : AH → Int32 → Int32 → Int32 → Option AH} {ah : IH} {v1 : Int} {v3 : Int} {v4 : Int} (hk4 : ∀ {z0 : IH} {z1 : Int} {z2 : Int} {z3 : Int}, HR z0 → zR z1 → zR z2 → zR z3 → LfV (k4 z0 z1 z2 z3) (k4F (zh z0) (zI z1) (zI z2) (zI z3))) (hah : HR ah) (hv1 : zR v1) (hv3 : zR v3) (hv4 : zR v4) : LfV (G_X12_grows_82 N k4 ah v1 v3 v4) (F_X12_grows_82 N k4F (zh ah) (zI v1) (zI v3) (zI v4)) := by
  unfold G_X12_grows_82 F_X12_grows_82
  refine Lg.letv rfl hv4 (fun v2_84 hv2_84 => ?_)
  refine Lg.letv (zwr (zadd rfl rfl)) wr_R (fun v3_85 hv3_85 => ?_)
  exact (hk4 hah hv1 hv2_84 hv3_85)
theorem l_X12_grows_4 {N : Nat}  : ∀ (n : Nat) {ah : IH} {v1 : Int} {v2 : Int} {v3 : Int}, HR ah → zR v1 → zR v2 → zR v3 → LfV (G_X12_grows_4 N n ah v1 v2 v3) (F_X12_grows_4 N n (zh ah) (zI v1) (zI v2) (zI v3)) := by
  intro n
  induction n with
  | zero => intros; exact Lg.none
  | succ n ih =>
    intro ah v1 v2 v3 hah hv1 hv2 hv3
    unfold G_X12_grows_4 F_X12_grows_4
    refine Lg.g rfl rfl (by decide) (fun g1 => ?_)
    refine Lg.le (zlk rfl g1) rfl (hah _ _) hv3 ?_ ?_
    · refine Lg.g rfl rfl (by decide) (fun g2 => ?_)
      refine Lg.wrt hah rfl (zix rfl g2) rfl hv1 (fun a97 ha97 => ?_)
      refine Lg.g rfl rfl (by decide) (fun g3 => ?_)
      refine Lg.wrt ha97 rfl (zix rfl g3) rfl hv2 (fun a104 ha104 => ?_)
      exact LgV.ret ha104
    · refine Lg.g rfl rfl (by decide) (fun g4 => ?_)
      refine Lg.letc (cadd rfl (zix rfl g4)) (fun x21 => ?_)
      refine Lg.g rfl rfl (by decide) (fun g5 => ?_)
      refine Lg.b (by rw [(show (zh ah x21 (Int32.toNatClampNeg (zI v3))) = zI (ah x21 v3) from (zlk rfl g5))]; exact l_X12_childOf hah hv2 (hah _ _)) (fun r24 a24 hr24 ha24 => ?_)
      refine Lg.letv rfl hr24 (fun v4_27 hv4_27 => ?_)
      refine Lg.eq rfl rfl hv4_27 (zRd rfl) ?_ ?_
      · refine Lg.letv rfl (ha24 _ _) (fun v4_39 hv4_39 => ?_)
        refine Lg.g rfl rfl (by decide) (fun g6 => ?_)
        refine Lg.wrt ha24 rfl (zix rfl g6) rfl hv2 (fun a48 ha48 => ?_)
        refine Lg.g rfl rfl (by decide) (fun g7 => ?_)
        refine Lg.letc (cadd rfl (zix rfl g7)) (fun x60 => ?_)
        refine Lg.g rfl rfl (by decide) (fun g8 => ?_)
        refine Lg.g rfl rfl (by decide) (fun g9 => ?_)
        refine Lg.wrt ha48 rfl (zix rfl g9) (zlk rfl g8) (ha48 _ _) (fun a63 ha63 => ?_)
        refine Lg.g rfl rfl (by decide) (fun g10 => ?_)
        refine Lg.wrt ha63 rfl (zix rfl g10) rfl (zRd rfl) (fun a71 ha71 => ?_)
        refine Lg.wrt ha71 rfl rfl (zwr (zadd rfl rfl)) wr_R (fun a79 ha79 => ?_)
        exact (l_X12_grows_82 ih ha79 hv1 hv3 hv4_39)
      · exact (l_X12_grows_82 ih ha24 hv1 hv3 hv4_27)
theorem l_X12_grows {N : Nat} {ah : IH} {p1 : Int} (hah : HR ah) (hp1 : zR p1) : LfV (G_X12_grows N ah p1) (F_X12_grows N (zh ah) (zI p1)) := by
  unfold G_X12_grows F_X12_grows
  refine Lg.letv rfl (zRd rfl) (fun v2_1 hv2_1 => ?_)
  refine Lg.letv rfl (zRd rfl) (fun v3_3 hv3_3 => ?_)
  exact (l_X12_grows_4 _ hah hp1 hv2_1 hv3_3)
theorem l_X12_lexicon_142 {N : Nat}  : ∀ (n : Nat) {ah : IH} {v4 : Int}, HR ah → zR v4 → LfI (G_X12_lexicon_142 N n ah v4) (F_X12_lexicon_142 N n (zh ah) (zI v4)) := by
  intro n
  induction n with
  | zero => intros; exact Lg.none
  | succ n ih =>
    intro ah v4 hah hv4
    unfold G_X12_lexicon_142 F_X12_lexicon_142
    refine Lg.le rfl rfl (hah _ _) hv4 ?_ ?_
    · refine Lg.bv (l_X12_weighs hah) (fun a164 ha164 => ?_)
      refine Lg.b (l_X12_ends ha164 (ha164 _ _)) (fun r172 a172 hr172 ha172 => ?_)
      exact LgI.ret rfl hr172 ha172
    · refine Lg.bv (l_X12_grows hah hv4) (fun a154 ha154 => ?_)
      refine Lg.letv (zwr (zadd rfl rfl)) wr_R (fun v4_157 hv4_157 => ?_)
      exact (ih ha154 hv4_157)
theorem l_X12_lexicon_121 {N : Nat} {ah : IH} {v2 : Int} {v3 : Int} (hah : HR ah) (hv2 : zR v2) (hv3 : zR v3) : LfI (G_X12_lexicon_121 N ah v2 v3) (F_X12_lexicon_121 N (zh ah) (zI v2) (zI v3)) := by
  unfold G_X12_lexicon_121 F_X12_lexicon_121
  refine Lg.b (l_X12_fine hah) (fun r122 a122 hr122 ha122 => ?_)
  refine Lg.eq rfl rfl hr122 (zRd rfl) ?_ ?_
  · refine Lg.b (l_X12_ends ha122 (zRd rfl)) (fun r130 a130 hr130 ha130 => ?_)
    exact LgI.ret rfl hr130 ha130
  · refine Lg.wrt ha122 rfl rfl rfl hv3 (fun a136 ha136 => ?_)
    refine Lg.letv rfl hv2 (fun v4_140 hv4_140 => ?_)
    exact (l_X12_lexicon_142 _ ha136 hv4_140)
theorem l_X12_lexicon_100 {N : Nat} {k48 : IH → Int → Int → Option (Int × IH)} {k48F : AH → Int32 → Int32 → Option (Int32 × AH)} {ah : IH} {v2 : Int} {v3 : Int} (hk48 : ∀ {z0 : IH} {z1 : Int} {z2 : Int}, HR z0 → zR z1 → zR z2 → LfI (k48 z0 z1 z2) (k48F (zh z0) (zI z1) (zI z2))) (hah : HR ah) (hv2 : zR v2) (hv3 : zR v3) : LfI (G_X12_lexicon_100 N k48 ah v2 v3) (F_X12_lexicon_100 N k48F (zh ah) (zI v2) (zI v3)) := by
  unfold G_X12_lexicon_100 F_X12_lexicon_100
  refine Lg.b (l_X12_fine hah) (fun r101 a101 hr101 ha101 => ?_)
  refine Lg.eq rfl rfl hr101 (zRd rfl) ?_ ?_
  · exact (l_X12_lexicon_121 ha101 hv2 hv3)
  · refine Lg.bv (l_X12_readsWord ha101 hv3) (fun a112 ha112 => ?_)
    refine Lg.letv (zwr (zadd rfl rfl)) wr_R (fun v3_115 hv3_115 => ?_)
    exact (hk48 ha112 hv2 hv3_115)
theorem l_X12_lexicon_48 {N : Nat}  : ∀ (n : Nat) {ah : IH} {v2 : Int} {v3 : Int}, HR ah → zR v2 → zR v3 → LfI (G_X12_lexicon_48 N n ah v2 v3) (F_X12_lexicon_48 N n (zh ah) (zI v2) (zI v3)) := by
  intro n
  induction n with
  | zero => intros; exact Lg.none
  | succ n ih =>
    intro ah v2 v3 hah hv2 hv3
    unfold G_X12_lexicon_48 F_X12_lexicon_48
    refine Lg.b (l_X12_fine hah) (fun r49 a49 hr49 ha49 => ?_)
    refine Lg.eq rfl rfl hr49 (zRd rfl) ?_ ?_
    · exact (l_X12_lexicon_121 ha49 hv2 hv3)
    · refine Lg.b (l_X12_blanks ha49) (fun r56 a56 hr56 ha56 => ?_)
      refine Lg.eq rfl rfl hr56 (zRd rfl) ?_ ?_
      · exact (l_X12_lexicon_121 ha56 hv2 hv3)
      · refine Lg.b (l_X12_here ha56) (fun r64 a64 hr64 ha64 => ?_)
        refine Lg.b (l_X12_isSmall ha64 hr64) (fun r67 a67 hr67 ha67 => ?_)
        refine Lg.eq rfl rfl hr67 (zRd rfl) ?_ ?_
        · refine Lg.bv (l_X12_wrong ha67 (zRd rfl) (ha67 _ _)) (fun a79 ha79 => ?_)
          exact (l_X12_lexicon_100 ih ha79 hv2 hv3)
        · refine Lg.eq rfl rfl hv3 (zRd rfl) ?_ ?_
          · refine Lg.bv (l_X12_wrong ha67 (zRd rfl) (ha67 _ _)) (fun a97 ha97 => ?_)
            exact (l_X12_lexicon_100 ih ha97 hv2 hv3)
          · exact (l_X12_lexicon_100 ih ha67 hv2 hv3)
theorem l_X12_lexicon_23 {N : Nat} {ah : IH} {v1 : Int} {s1 : Int} (hah : HR ah) (hv1 : zR v1) (hs1 : zR s1) : LfI (G_X12_lexicon_23 N ah v1 s1) (F_X12_lexicon_23 N (zh ah) (zI v1) (zI s1)) := by
  unfold G_X12_lexicon_23 F_X12_lexicon_23
  refine Lg.b (l_X12_bad hah hs1 (zRd rfl) (zRd rfl)) (fun r25 a25 hr25 ha25 => ?_)
  refine Lg.eq rfl rfl hr25 (zRd rfl) ?_ ?_
  · refine Lg.bv (l_X12_starts ha25 hv1) (fun a35 ha35 => ?_)
    refine Lg.letv rfl (ha35 _ _) (fun v2_42 hv2_42 => ?_)
    refine Lg.letv rfl (ha35 _ _) (fun v3_47 hv3_47 => ?_)
    exact (l_X12_lexicon_48 _ ha35 hv2_42 hv3_47)
  · exact LgI.ret rfl (zRd rfl) ha25
theorem l_X12_lexicon {N : Nat} {ah : IH} {p1 : Int} (hah : HR ah) (hp1 : zR p1) : LfI (G_X12_lexicon N ah p1) (F_X12_lexicon N (zh ah) (zI p1)) := by
  unfold G_X12_lexicon F_X12_lexicon
  refine Lg.wrt hah rfl rfl rfl (zRd rfl) (fun a2 ha2 => ?_)
  refine Lg.b (l_X12_in ha2 hp1 (zRd rfl) (ha2 _ _)) (fun r12 a12 hr12 ha12 => ?_)
  refine Lg.eq rfl rfl hr12 (zRd rfl) ?_ ?_
  · exact (l_X12_lexicon_23 ha12 hp1 (zRd rfl))
  · exact (l_X12_lexicon_23 ha12 hp1 (zRd rfl))
theorem l_X12_plants {N : Nat} {ah : IH} (hah : HR ah) : LfV (G_X12_plants N ah) (F_X12_plants N (zh ah)) := by
  unfold G_X12_plants F_X12_plants
  refine Lg.wrt hah rfl rfl rfl (zRd rfl) (fun a2 ha2 => ?_)
  refine Lg.wrt ha2 rfl rfl rfl (zRd rfl) (fun a11 ha11 => ?_)
  refine Lg.wrt ha11 rfl rfl rfl (zRd rfl) (fun a18 ha18 => ?_)
  refine Lg.wrt ha18 rfl rfl rfl (zRd rfl) (fun a25 ha25 => ?_)
  refine Lg.bv (l_X12_weighs ha25) (fun a27 ha27 => ?_)
  exact LgV.ret ha27
theorem l_X12_forget {N : Nat} {ah : IH} (hah : HR ah) : LfI (G_X12_forget N ah) (F_X12_forget N (zh ah)) := by
  unfold G_X12_forget F_X12_forget
  refine Lg.wrt hah rfl rfl rfl (zRd rfl) (fun a2 ha2 => ?_)
  refine Lg.letv rfl (ha2 _ _) (fun v1_9 hv1_9 => ?_)
  refine Lg.wrt ha2 rfl rfl rfl (zRd rfl) (fun a12 ha12 => ?_)
  refine Lg.wrt ha12 rfl rfl rfl (zRd rfl) (fun a21 ha21 => ?_)
  refine Lg.bv (l_X12_plants ha21) (fun a23 ha23 => ?_)
  exact LgI.ret rfl hv1_9 ha23
theorem l_X12_wordHere_123 {N : Nat} {ah : IH} {v1 : Int} {v3 : Int} (hah : HR ah) (hv1 : zR v1) (hv3 : zR v3) : LfI (G_X12_wordHere_123 N ah v1 v3) (F_X12_wordHere_123 N (zh ah) (zI v1) (zI v3)) := by
  unfold G_X12_wordHere_123 F_X12_wordHere_123
  refine Lg.eq rfl rfl hv3 (hah _ _) ?_ ?_
  · refine Lg.bv (l_X12_wrong hah (zRd rfl) hv1) (fun a134 ha134 => ?_)
    exact LgI.ret rfl hv3 ha134
  · exact LgI.ret rfl hv3 hah
theorem l_X12_wordHere_99 {N : Nat}  : ∀ (n : Nat) {ah : IH} {v1 : Int} {v3 : Int}, HR ah → zR v1 → zR v3 → LfI (G_X12_wordHere_99 N n ah v1 v3) (F_X12_wordHere_99 N n (zh ah) (zI v1) (zI v3)) := by
  intro n
  induction n with
  | zero => intros; exact Lg.none
  | succ n ih =>
    intro ah v1 v3 hah hv1 hv3
    unfold G_X12_wordHere_99 F_X12_wordHere_99
    refine Lg.le rfl rfl (hah _ _) hv3 ?_ ?_
    · exact (l_X12_wordHere_123 hah hv1 hv3)
    · refine Lg.b (l_X12_areSame hah hv3 (zRd rfl)) (fun r111 a111 hr111 ha111 => ?_)
      refine Lg.eq rfl rfl hr111 (zRd rfl) ?_ ?_
      · refine Lg.letv (zwr (zadd rfl rfl)) wr_R (fun v3_117 hv3_117 => ?_)
        exact (ih ha111 hv1 hv3_117)
      · exact (l_X12_wordHere_123 ha111 hv1 hv3)
theorem l_X12_wordHere_73 {N : Nat} {k35 : IH → Int → Int → Option (Int × IH)} {k35F : AH → Int32 → Int32 → Option (Int32 × AH)} {ah : IH} {v1 : Int} {v2 : Int} (hk35 : ∀ {z0 : IH} {z1 : Int} {z2 : Int}, HR z0 → zR z1 → zR z2 → LfI (k35 z0 z1 z2) (k35F (zh z0) (zI z1) (zI z2))) (hah : HR ah) (hv1 : zR v1) (hv2 : zR v2) : LfI (G_X12_wordHere_73 N k35 ah v1 v2) (F_X12_wordHere_73 N k35F (zh ah) (zI v1) (zI v2)) := by
  unfold G_X12_wordHere_73 F_X12_wordHere_73
  refine Lg.letv (zwr (zadd rfl rfl)) wr_R (fun v2_73 hv2_73 => ?_)
  refine Lg.wrt hah rfl rfl (zwr (zadd rfl rfl)) wr_R (fun a83 ha83 => ?_)
  exact (hk35 ha83 hv1 hv2_73)
theorem l_X12_wordHere_54 {N : Nat} {k35 : IH → Int → Int → Option (Int × IH)} {k35F : AH → Int32 → Int32 → Option (Int32 × AH)} {ah : IH} {v1 : Int} {v2 : Int} (hk35 : ∀ {z0 : IH} {z1 : Int} {z2 : Int}, HR z0 → zR z1 → zR z2 → LfI (k35 z0 z1 z2) (k35F (zh z0) (zI z1) (zI z2))) (hah : HR ah) (hv1 : zR v1) (hv2 : zR v2) : LfI (G_X12_wordHere_54 N k35 ah v1 v2) (F_X12_wordHere_54 N k35F (zh ah) (zI v1) (zI v2)) := by
  unfold G_X12_wordHere_54 F_X12_wordHere_54
  refine Lg.le rfl rfl (zRd rfl) hv2 ?_ ?_
  · exact (l_X12_wordHere_73 hk35 hah hv1 hv2)
  · refine Lg.letc (cadd rfl rfl) (fun x66 => ?_)
    refine Lg.b (l_X12_here hah) (fun r69 a69 hr69 ha69 => ?_)
    refine Lg.g rfl rfl (by decide) (fun g1 => ?_)
    refine Lg.wrt ha69 rfl (zix rfl g1) rfl hr69 (fun a72 ha72 => ?_)
    exact (l_X12_wordHere_73 hk35 ha72 hv1 hv2)
theorem l_X12_wordHere_35 {N : Nat}  : ∀ (n : Nat) {ah : IH} {v1 : Int} {v2 : Int}, HR ah → zR v1 → zR v2 → LfI (G_X12_wordHere_35 N n ah v1 v2) (F_X12_wordHere_35 N n (zh ah) (zI v1) (zI v2)) := by
  intro n
  induction n with
  | zero => intros; exact Lg.none
  | succ n ih =>
    intro ah v1 v2 hah hv1 hv2
    unfold G_X12_wordHere_35 F_X12_wordHere_35
    refine Lg.b (l_X12_here hah) (fun r36 a36 hr36 ha36 => ?_)
    refine Lg.b (l_X12_isSmall ha36 hr36) (fun r39 a39 hr39 ha39 => ?_)
    refine Lg.eq rfl rfl hr39 (zRd rfl) ?_ ?_
    · refine Lg.b (l_X12_here ha39) (fun r46 a46 hr46 ha46 => ?_)
      refine Lg.eq rfl rfl hr46 (zRd rfl) ?_ ?_
      · exact (l_X12_wordHere_54 ih ha46 hv1 hv2)
      · refine Lg.wrt ha46 rfl rfl rfl hv2 (fun a96 ha96 => ?_)
        refine Lg.letv rfl (zRd rfl) (fun v3_98 hv3_98 => ?_)
        exact (l_X12_wordHere_99 _ ha96 hv1 hv3_98)
    · exact (l_X12_wordHere_54 ih ha39 hv1 hv2)
theorem l_X12_wordHere_19 {N : Nat} {ah : IH} (hah : HR ah) : LfI (G_X12_wordHere_19 N ah) (F_X12_wordHere_19 N (zh ah)) := by
  unfold G_X12_wordHere_19 F_X12_wordHere_19
  refine Lg.b (l_X12_fine hah) (fun r20 a20 hr20 ha20 => ?_)
  refine Lg.eq rfl rfl hr20 (zRd rfl) ?_ ?_
  · exact LgI.ret rfl (zRd rfl) ha20
  · refine Lg.letv rfl (ha20 _ _) (fun v1_32 hv1_32 => ?_)
    refine Lg.letv rfl (zRd rfl) (fun v2_34 hv2_34 => ?_)
    exact (l_X12_wordHere_35 _ ha20 hv1_32 hv2_34)
theorem l_X12_wordHere {N : Nat} {ah : IH} (hah : HR ah) : LfI (G_X12_wordHere N ah) (F_X12_wordHere N (zh ah)) := by
  unfold G_X12_wordHere F_X12_wordHere
  refine Lg.b (l_X12_blanks hah) (fun r1 a1 hr1 ha1 => ?_)
  refine Lg.b (l_X12_isSmall ha1 hr1) (fun r4 a4 hr4 ha4 => ?_)
  refine Lg.eq rfl rfl hr4 (zRd rfl) ?_ ?_
  · refine Lg.bv (l_X12_wrong ha4 (zRd rfl) (ha4 _ _)) (fun a16 ha16 => ?_)
    exact (l_X12_wordHere_19 ha16)
  · exact (l_X12_wordHere_19 ha4)
theorem l_X12_readsFollow_49 {N : Nat} {ah : IH} {x1 : Nat} {y0 : Nat} {s1 : Int} {s2 : Int} (hah : HR ah) (hs1 : zR s1) (hs2 : zR s2) : LfV (G_X12_readsFollow_49 N ah (x1 : Nat) (y0 : Nat) s1 s2) (F_X12_readsFollow_49 N (zh ah) x1 y0 (zI s1) (zI s2)) := by
  unfold G_X12_readsFollow_49 F_X12_readsFollow_49
  refine Lg.g rfl rfl (by decide) (fun g1 => ?_)
  refine Lg.wrt hah rfl (zix rfl g1) rfl hs2 (fun a49 ha49 => ?_)
  refine Lg.b (l_X12_blanks ha49) (fun r51 a51 hr51 ha51 => ?_)
  refine Lg.b (l_X12_number ha51 (zRd rfl) (zRd rfl)) (fun r61 a61 hr61 ha61 => ?_)
  refine Lg.wrt ha61 rfl rfl rfl hr61 (fun a64 ha64 => ?_)
  refine Lg.bv (l_X12_closes ha64) (fun a66 ha66 => ?_)
  exact LgV.ret ha66
theorem l_X12_readsFollow_32 {N : Nat} {ah : IH} {x1 : Nat} (hah : HR ah) : LfV (G_X12_readsFollow_32 N ah (x1 : Nat)) (F_X12_readsFollow_32 N (zh ah) x1) := by
  unfold G_X12_readsFollow_32 F_X12_readsFollow_32
  refine Lg.b (l_X12_fine hah) (fun r35 a35 hr35 ha35 => ?_)
  refine Lg.eq rfl rfl hr35 (zRd rfl) ?_ ?_
  · exact (l_X12_readsFollow_49 ha35 (zRd rfl) (zRd rfl))
  · refine Lg.b (l_X12_wordHere ha35) (fun r42 a42 hr42 ha42 => ?_)
    exact (l_X12_readsFollow_49 ha42 (zRd rfl) hr42)
theorem l_X12_readsFollow {N : Nat} {ah : IH} {x1 : Nat} (hah : HR ah) : LfV (G_X12_readsFollow N ah (x1 : Nat)) (F_X12_readsFollow N (zh ah) x1) := by
  unfold G_X12_readsFollow F_X12_readsFollow
  refine Lg.b (l_X12_wordHere hah) (fun r3 a3 hr3 ha3 => ?_)
  refine Lg.wrt ha3 rfl rfl rfl hr3 (fun a6 ha6 => ?_)
  refine Lg.b (l_X12_fine ha6) (fun r8 a8 hr8 ha8 => ?_)
  refine Lg.eq rfl rfl hr8 (zRd rfl) ?_ ?_
  · exact (l_X12_readsFollow_32 ha8)
  · refine Lg.b (l_X12_here ha8) (fun r15 a15 hr15 ha15 => ?_)
    refine Lg.eq rfl rfl hr15 (zRd rfl) ?_ ?_
    · exact (l_X12_readsFollow_32 ha15)
    · refine Lg.bv (l_X12_wrong ha15 (zRd rfl) (ha15 _ _)) (fun a29 ha29 => ?_)
      exact (l_X12_readsFollow_32 ha29)
theorem l_X12_follows_181 {N : Nat} {k169 : IH → Int → Option (Int × IH)} {k169F : AH → Int32 → Option (Int32 × AH)} (hk169 : ∀ {z0 : IH} {z1 : Int}, HR z0 → zR z1 → LfI (k169 z0 z1) (k169F (zh z0) (zI z1))) : ∀ (n : Nat) {ah : IH} {v2 : Int} {v3 : Int}, HR ah → zR v2 → zR v3 → LfI (G_X12_follows_181 N k169 n ah v2 v3) (F_X12_follows_181 N k169F n (zh ah) (zI v2) (zI v3)) := by
  intro n
  induction n with
  | zero => intros; exact Lg.none
  | succ n ih =>
    intro ah v2 v3 hah hv2 hv3
    unfold G_X12_follows_181 F_X12_follows_181
    refine Lg.le rfl rfl (zRd rfl) hv3 ?_ ?_
    · refine Lg.letv (zwr (zadd rfl rfl)) wr_R (fun v2_212 hv2_212 => ?_)
      exact (hk169 hah hv2_212)
    · refine Lg.g rfl rfl (by decide) (fun g1 => ?_)
      refine Lg.letc (cadd rfl (cadd (cmul rfl rfl) (zix rfl g1))) (fun x193 => ?_)
      refine Lg.g rfl rfl (by decide) (fun g2 => ?_)
      refine Lg.letc (cadd rfl (cadd (cmul rfl rfl) (zix rfl g2))) (fun x202 => ?_)
      refine Lg.g rfl rfl (by decide) (fun g3 => ?_)
      refine Lg.g rfl rfl (by decide) (fun g4 => ?_)
      refine Lg.wrt hah rfl (zix rfl g4) (zlk rfl g4) (hah _ _) (fun a205 ha205 => ?_)
      refine Lg.letv (zwr (zadd rfl rfl)) wr_R (fun v3_206 hv3_206 => ?_)
      exact (ih ha205 hv2 hv3_206)
theorem l_X12_follows_169 {N : Nat}  : ∀ (n : Nat) {ah : IH} {v2 : Int}, HR ah → zR v2 → LfI (G_X12_follows_169 N n ah v2) (F_X12_follows_169 N n (zh ah) (zI v2)) := by
  intro n
  induction n with
  | zero => intros; exact Lg.none
  | succ n ih =>
    intro ah v2 hah hv2
    unfold G_X12_follows_169 F_X12_follows_169
    refine Lg.le rfl rfl (hah _ _) hv2 ?_ ?_
    · refine Lg.b (l_X12_ends hah (hah _ _)) (fun r225 a225 hr225 ha225 => ?_)
      exact LgI.ret rfl hr225 ha225
    · refine Lg.letv rfl (zRd rfl) (fun v3_180 hv3_180 => ?_)
      exact (l_X12_follows_181 ih _ hah hv2 hv3_180)
theorem l_X12_follows_142 {N : Nat} {ah : IH} (hah : HR ah) : LfI (G_X12_follows_142 N ah) (F_X12_follows_142 N (zh ah)) := by
  unfold G_X12_follows_142 F_X12_follows_142
  refine Lg.b (l_X12_fine hah) (fun r143 a143 hr143 ha143 => ?_)
  refine Lg.eq rfl rfl hr143 (zRd rfl) ?_ ?_
  · refine Lg.b (l_X12_ends ha143 (zRd rfl)) (fun r151 a151 hr151 ha151 => ?_)
    exact LgI.ret rfl hr151 ha151
  · refine Lg.wrt ha143 rfl rfl rfl (ha143 _ _) (fun a166 ha166 => ?_)
    refine Lg.letv rfl (zRd rfl) (fun v2_168 hv2_168 => ?_)
    exact (l_X12_follows_169 _ ha166 hv2_168)
theorem l_X12_follows_102 {N : Nat} {k45 : IH → Option (Int × IH)} {k45F : AH → Option (Int32 × AH)} {ah : IH} (hk45 : ∀ {z0 : IH}, HR z0 → LfI (k45 z0) (k45F (zh z0))) (hah : HR ah) : LfI (G_X12_follows_102 N k45 ah) (F_X12_follows_102 N k45F (zh ah)) := by
  unfold G_X12_follows_102 F_X12_follows_102
  refine Lg.b (l_X12_fine hah) (fun r103 a103 hr103 ha103 => ?_)
  refine Lg.eq rfl rfl hr103 (zRd rfl) ?_ ?_
  · exact (l_X12_follows_142 ha103)
  · refine Lg.g rfl rfl (by decide) (fun g1 => ?_)
    refine Lg.letc (cadd rfl (cadd (cmul rfl rfl) (zix rfl g1))) (fun x125 => ?_)
    refine Lg.bv (l_X12_readsFollow ha103) (fun a126 ha126 => ?_)
    refine Lg.wrt ha126 rfl rfl (zwr (zadd rfl rfl)) wr_R (fun a138 ha138 => ?_)
    exact (hk45 ha138)
theorem l_X12_follows_45 {N : Nat}  : ∀ (n : Nat) {ah : IH}, HR ah → LfI (G_X12_follows_45 N n ah) (F_X12_follows_45 N n (zh ah)) := by
  intro n
  induction n with
  | zero => intros; exact Lg.none
  | succ n ih =>
    intro ah hah
    unfold G_X12_follows_45 F_X12_follows_45
    refine Lg.b (l_X12_fine hah) (fun r46 a46 hr46 ha46 => ?_)
    refine Lg.eq rfl rfl hr46 (zRd rfl) ?_ ?_
    · exact (l_X12_follows_142 ha46)
    · refine Lg.b (l_X12_blanks ha46) (fun r53 a53 hr53 ha53 => ?_)
      refine Lg.eq rfl rfl hr53 (zRd rfl) ?_ ?_
      · exact (l_X12_follows_142 ha53)
      · refine Lg.b (l_X12_here ha53) (fun r61 a61 hr61 ha61 => ?_)
        refine Lg.b (l_X12_isSmall ha61 hr61) (fun r64 a64 hr64 ha64 => ?_)
        refine Lg.eq rfl rfl hr64 (zRd rfl) ?_ ?_
        · refine Lg.bv (l_X12_wrong ha64 (zRd rfl) (ha64 _ _)) (fun a76 ha76 => ?_)
          exact (l_X12_follows_102 ih ha76)
        · refine Lg.eq rfl rfl (ha64 _ _) (zRd rfl) ?_ ?_
          · refine Lg.bv (l_X12_wrong ha64 (zRd rfl) (ha64 _ _)) (fun a99 ha99 => ?_)
            exact (l_X12_follows_102 ih ha99)
          · exact (l_X12_follows_102 ih ha64)
theorem l_X12_follows_23 {N : Nat} {ah : IH} {v1 : Int} {s1 : Int} (hah : HR ah) (hv1 : zR v1) (hs1 : zR s1) : LfI (G_X12_follows_23 N ah v1 s1) (F_X12_follows_23 N (zh ah) (zI v1) (zI s1)) := by
  unfold G_X12_follows_23 F_X12_follows_23
  refine Lg.b (l_X12_bad hah hs1 (zRd rfl) (zRd rfl)) (fun r25 a25 hr25 ha25 => ?_)
  refine Lg.eq rfl rfl hr25 (zRd rfl) ?_ ?_
  · refine Lg.bv (l_X12_starts ha25 hv1) (fun a35 ha35 => ?_)
    refine Lg.wrt ha35 rfl rfl rfl (zRd rfl) (fun a44 ha44 => ?_)
    exact (l_X12_follows_45 _ ha44)
  · exact LgI.ret rfl (zRd rfl) ha25
theorem l_X12_follows {N : Nat} {ah : IH} {p1 : Int} (hah : HR ah) (hp1 : zR p1) : LfI (G_X12_follows N ah p1) (F_X12_follows N (zh ah) (zI p1)) := by
  unfold G_X12_follows F_X12_follows
  refine Lg.wrt hah rfl rfl rfl (zRd rfl) (fun a2 ha2 => ?_)
  refine Lg.b (l_X12_in ha2 hp1 (zRd rfl) (ha2 _ _)) (fun r12 a12 hr12 ha12 => ?_)
  refine Lg.eq rfl rfl hr12 (zRd rfl) ?_ ?_
  · exact (l_X12_follows_23 ha12 hp1 (zRd rfl))
  · exact (l_X12_follows_23 ha12 hp1 (zRd rfl))
theorem l_X12_dearOf_52 {N : Nat} {k9 : IH → Int → Int → Int → Option (Int × IH)} {k9F : AH → Int32 → Int32 → Int32 → Option (Int32 × AH)} {ah : IH} {v1 : Int} {v2 : Int} {v3 : Int} (hk9 : ∀ {z0 : IH} {z1 : Int} {z2 : Int} {z3 : Int}, HR z0 → zR z1 → zR z2 → zR z3 → LfI (k9 z0 z1 z2 z3) (k9F (zh z0) (zI z1) (zI z2) (zI z3))) (hah : HR ah) (hv1 : zR v1) (hv2 : zR v2) (hv3 : zR v3) : LfI (G_X12_dearOf_52 N k9 ah v1 v2 v3) (F_X12_dearOf_52 N k9F (zh ah) (zI v1) (zI v2) (zI v3)) := by
  unfold G_X12_dearOf_52 F_X12_dearOf_52
  refine Lg.letv (zwr (zadd rfl rfl)) wr_R (fun v3_52 hv3_52 => ?_)
  exact (hk9 hah hv1 hv2 hv3_52)
theorem l_X12_dearOf_9 {N : Nat}  : ∀ (n : Nat) {ah : IH} {v1 : Int} {v2 : Int} {v3 : Int}, HR ah → zR v1 → zR v2 → zR v3 → LfI (G_X12_dearOf_9 N n ah v1 v2 v3) (F_X12_dearOf_9 N n (zh ah) (zI v1) (zI v2) (zI v3)) := by
  intro n
  induction n with
  | zero => intros; exact Lg.none
  | succ n ih =>
    intro ah v1 v2 v3 hah hv1 hv2 hv3
    unfold G_X12_dearOf_9 F_X12_dearOf_9
    refine Lg.lt rfl rfl hv3 (zRd rfl) ?_ ?_
    · exact LgI.ret rfl (hah _ _) hah
    · refine Lg.g rfl rfl (by decide) (fun g1 => ?_)
      refine Lg.letc (cadd rfl (cadd (cmul rfl rfl) (zix rfl g1))) (fun x20 => ?_)
      refine Lg.eq rfl rfl (hah _ _) hv1 ?_ ?_
      · refine Lg.g rfl rfl (by decide) (fun g2 => ?_)
        refine Lg.letc (cadd rfl (cadd (cmul rfl rfl) (zix rfl g2))) (fun x34 => ?_)
        refine Lg.eq rfl rfl (hah _ _) hv2 ?_ ?_
        · refine Lg.g rfl rfl (by decide) (fun g3 => ?_)
          refine Lg.letc (cadd rfl (cadd (cmul rfl rfl) (zix rfl g3))) (fun x48 => ?_)
          exact LgI.ret rfl (hah _ _) hah
        · exact (l_X12_dearOf_52 ih hah hv1 hv2 hv3)
      · exact (l_X12_dearOf_52 ih hah hv1 hv2 hv3)
theorem l_X12_dearOf {N : Nat} {ah : IH} {p1 : Int} {p2 : Int} (hah : HR ah) (hp1 : zR p1) (hp2 : zR p2) : LfI (G_X12_dearOf N ah p1 p2) (F_X12_dearOf N (zh ah) (zI p1) (zI p2)) := by
  unfold G_X12_dearOf F_X12_dearOf
  refine Lg.letv (zwr (zsub rfl rfl)) wr_R (fun v3_8 hv3_8 => ?_)
  exact (l_X12_dearOf_9 _ hah hp1 hp2 hv3_8)
theorem l_X12_isWord {N : Nat} {ah : IH} {p1 : Int} (hah : HR ah) (hp1 : zR p1) : LfI (G_X12_isWord N ah p1) (F_X12_isWord N (zh ah) (zI p1)) := by
  unfold G_X12_isWord F_X12_isWord
  refine Lg.b (by rw [(show ((zh ah 0 10) - (1 : Int32)) = zI (wr ((ah 0 10) - 1)) from (zwr (zsub rfl rfl)))]; exact l_X12_in hah hp1 (zRd rfl) wr_R) (fun r8 a8 hr8 ha8 => ?_)
  refine Lg.bo rfl ?_
  exact LgI.ret rfl hr8 ha8
theorem l_X12_dear_27 {N : Nat} {ah : IH} {v1 : Int} {v2 : Int} {s1 : Int} (hah : HR ah) (hv1 : zR v1) (hv2 : zR v2) (hs1 : zR s1) : LfI (G_X12_dear_27 N ah v1 v2 s1) (F_X12_dear_27 N (zh ah) (zI v1) (zI v2) (zI s1)) := by
  unfold G_X12_dear_27 F_X12_dear_27
  refine Lg.b (l_X12_bad hah hs1 (zRd rfl) (zRd rfl)) (fun r29 a29 hr29 ha29 => ?_)
  refine Lg.eq rfl rfl hr29 (zRd rfl) ?_ ?_
  · refine Lg.b (l_X12_dearOf ha29 hv1 hv2) (fun r40 a40 hr40 ha40 => ?_)
    exact LgI.ret rfl hr40 ha40
  · exact LgI.ret rfl (zRd rfl) ha29
theorem l_X12_dear_22 {N : Nat} {ah : IH} {v1 : Int} {v2 : Int} (hah : HR ah) (hv1 : zR v1) (hv2 : zR v2) : LfI (G_X12_dear_22 N ah v1 v2) (F_X12_dear_22 N (zh ah) (zI v1) (zI v2)) := by
  unfold G_X12_dear_22 F_X12_dear_22
  exact (l_X12_dear_27 hah hv1 hv2 (zRd rfl))
theorem l_X12_dear {N : Nat} {ah : IH} {p1 : Int} {p2 : Int} (hah : HR ah) (hp1 : zR p1) (hp2 : zR p2) : LfI (G_X12_dear N ah p1 p2) (F_X12_dear N (zh ah) (zI p1) (zI p2)) := by
  unfold G_X12_dear F_X12_dear
  refine Lg.wrt hah rfl rfl rfl (zRd rfl) (fun a2 ha2 => ?_)
  refine Lg.b (l_X12_isWord ha2 hp1) (fun r8 a8 hr8 ha8 => ?_)
  refine Lg.eq rfl rfl hr8 (zRd rfl) ?_ ?_
  · exact (l_X12_dear_22 ha8 hp1 hp2)
  · refine Lg.b (l_X12_isWord ha8 hp2) (fun r16 a16 hr16 ha16 => ?_)
    refine Lg.eq rfl rfl hr16 (zRd rfl) ?_ ?_
    · exact (l_X12_dear_22 ha16 hp1 hp2)
    · exact (l_X12_dear_27 ha16 hp1 hp2 (zRd rfl))
theorem l_X12_readsPart_52 {N : Nat} {k21 : IH → Int → Int → Int → Option (Int × IH)} {k21F : AH → Nat → Int32 → Int32 → Option (Int32 × AH)} {ah : IH} {x1 : Nat} {v2 : Int} {v3 : Int} (hk21 : ∀ {z0 : IH} {z1 : Nat} {z2 : Int} {z3 : Int}, HR z0 → zR z2 → zR z3 → LfI (k21 z0 (z1 : Nat) z2 z3) (k21F (zh z0) z1 (zI z2) (zI z3))) (hah : HR ah) (hv2 : zR v2) (hv3 : zR v3) : LfI (G_X12_readsPart_52 N k21 ah (x1 : Nat) v2 v3) (F_X12_readsPart_52 N k21F (zh ah) x1 (zI v2) (zI v3)) := by
  unfold G_X12_readsPart_52 F_X12_readsPart_52
  refine Lg.b (l_X12_fine hah) (fun r53 a53 hr53 ha53 => ?_)
  refine Lg.eq rfl rfl hr53 (zRd rfl) ?_ ?_
  · exact LgI.ret rfl hv3 ha53
  · refine Lg.b (l_X12_here ha53) (fun r66 a66 hr66 ha66 => ?_)
    refine Lg.g (zadd rfl rfl) rfl (by decide) (fun g1 => ?_)
    refine Lg.wrt ha66 rfl (zix (zadd rfl rfl) g1) rfl hr66 (fun a69 ha69 => ?_)
    refine Lg.letv (zwr (zadd rfl rfl)) wr_R (fun v3_70 hv3_70 => ?_)
    refine Lg.wrt ha69 rfl rfl (zwr (zadd rfl rfl)) wr_R (fun a80 ha80 => ?_)
    exact (hk21 ha80 hv2 hv3_70)
theorem l_X12_readsPart_21 {N : Nat}  : ∀ (n : Nat) {ah : IH} {x1 : Nat} {v2 : Int} {v3 : Int}, HR ah → zR v2 → zR v3 → LfI (G_X12_readsPart_21 N n ah (x1 : Nat) v2 v3) (F_X12_readsPart_21 N n (zh ah) x1 (zI v2) (zI v3)) := by
  intro n
  induction n with
  | zero => intros; exact Lg.none
  | succ n ih =>
    intro ah x1 v2 v3 hah hv2 hv3
    unfold G_X12_readsPart_21 F_X12_readsPart_21
    refine Lg.b (l_X12_fine hah) (fun r22 a22 hr22 ha22 => ?_)
    refine Lg.eq rfl rfl hr22 (zRd rfl) ?_ ?_
    · exact LgI.ret rfl hv3 ha22
    · refine Lg.b (l_X12_here ha22) (fun r29 a29 hr29 ha29 => ?_)
      refine Lg.b (l_X12_isSmall ha29 hr29) (fun r32 a32 hr32 ha32 => ?_)
      refine Lg.eq rfl rfl hr32 (zRd rfl) ?_ ?_
      · exact LgI.ret rfl hv3 ha32
      · refine Lg.eq rfl rfl hv3 (zRd rfl) ?_ ?_
        · refine Lg.bv (l_X12_wrong ha32 (zRd rfl) (ha32 _ _)) (fun a49 ha49 => ?_)
          exact (l_X12_readsPart_52 ih ha49 hv2 hv3)
        · exact (l_X12_readsPart_52 ih ha32 hv2 hv3)
theorem l_X12_readsPart {N : Nat} {ah : IH} {x1 : Nat} {p2 : Int} (hah : HR ah) (hp2 : zR p2) : LfI (G_X12_readsPart N ah (x1 : Nat) p2) (F_X12_readsPart N (zh ah) x1 (zI p2)) := by
  unfold G_X12_readsPart F_X12_readsPart
  refine Lg.letv rfl (zRd rfl) (fun v3_1 hv3_1 => ?_)
  refine Lg.b (l_X12_blanks hah) (fun r3 a3 hr3 ha3 => ?_)
  refine Lg.b (l_X12_isSmall ha3 hr3) (fun r6 a6 hr6 ha6 => ?_)
  refine Lg.eq rfl rfl hr6 (zRd rfl) ?_ ?_
  · refine Lg.bv (l_X12_wrong ha6 (zRd rfl) (ha6 _ _)) (fun a18 ha18 => ?_)
    exact (l_X12_readsPart_21 _ ha18 hp2 hv3_1)
  · exact (l_X12_readsPart_21 _ ha6 hp2 hv3_1)
theorem l_X12_readsShape_188 {N : Nat} {ah : IH} {y0 : Nat} {s1 : Int} {s2 : Int} (hah : HR ah) (hs1 : zR s1) (hs2 : zR s2) : LfV (G_X12_readsShape_188 N ah (y0 : Nat) s1 s2) (F_X12_readsShape_188 N (zh ah) y0 (zI s1) (zI s2)) := by
  unfold G_X12_readsShape_188 F_X12_readsShape_188
  refine Lg.g rfl rfl (by decide) (fun g1 => ?_)
  refine Lg.wrt hah rfl (zix rfl g1) rfl hs2 (fun a188 ha188 => ?_)
  refine Lg.bv (l_X12_closes ha188) (fun a190 ha190 => ?_)
  exact LgV.ret ha190
theorem l_X12_readsShape_187 {N : Nat} {ah : IH} {y0 : Nat} {s1 : Int} (hah : HR ah) (hs1 : zR s1) : LfV (G_X12_readsShape_187 N ah (y0 : Nat) s1) (F_X12_readsShape_187 N (zh ah) y0 (zI s1)) := by
  unfold G_X12_readsShape_187 F_X12_readsShape_187
  exact (l_X12_readsShape_188 hah hs1 (zRd rfl))
theorem l_X12_readsShape_158 {N : Nat} {ah : IH} {x3 : Nat} (hah : HR ah) : LfV (G_X12_readsShape_158 N ah (x3 : Nat)) (F_X12_readsShape_158 N (zh ah) x3) := by
  unfold G_X12_readsShape_158 F_X12_readsShape_158
  refine Lg.b (l_X12_fine hah) (fun r161 a161 hr161 ha161 => ?_)
  refine Lg.eq rfl rfl hr161 (zRd rfl) ?_ ?_
  · exact (l_X12_readsShape_187 ha161 (zRd rfl))
  · refine Lg.b (l_X12_blanks ha161) (fun r168 a168 hr168 ha168 => ?_)
    refine Lg.b (l_X12_isDigit ha168 hr168) (fun r171 a171 hr171 ha171 => ?_)
    refine Lg.eq rfl rfl hr171 (zRd rfl) ?_ ?_
    · exact (l_X12_readsShape_187 ha171 (zRd rfl))
    · refine Lg.b (l_X12_number ha171 (zRd rfl) (zRd rfl)) (fun r181 a181 hr181 ha181 => ?_)
      exact (l_X12_readsShape_188 ha181 (zRd rfl) hr181)
theorem l_X12_readsShape_137 {N : Nat} {k109 : IH → Int → Int → Int → Int → Int → Option IH} {k109F : AH → Nat → Nat → Int32 → Int32 → Int32 → Option AH} {ah : IH} {x2 : Nat} {x3 : Nat} {v4 : Int} {v6 : Int} {s0 : Int} {s1 : Int} (hk109 : ∀ {z0 : IH} {z1 : Nat} {z2 : Nat} {z3 : Int} {z4 : Int} {z5 : Int}, HR z0 → zR z3 → zR z4 → zR z5 → LfV (k109 z0 (z1 : Nat) (z2 : Nat) z3 z4 z5) (k109F (zh z0) z1 z2 (zI z3) (zI z4) (zI z5))) (hah : HR ah) (hv4 : zR v4) (hv6 : zR v6) (hs0 : zR s0) (hs1 : zR s1) : LfV (G_X12_readsShape_137 N k109 ah (x2 : Nat) (x3 : Nat) v4 v6 s0 s1) (F_X12_readsShape_137 N k109F (zh ah) x2 x3 (zI v4) (zI v6) (zI s0) (zI s1)) := by
  unfold G_X12_readsShape_137 F_X12_readsShape_137
  refine Lg.letv (zand rfl rfl) yand_R (fun v5_138 hv5_138 => ?_)
  refine Lg.letv (zwr (zadd rfl rfl)) wr_R (fun v6_140 hv6_140 => ?_)
  exact (hk109 hah hv4 hv5_138 hv6_140)
theorem l_X12_readsShape_109 {N : Nat}  : ∀ (n : Nat) {ah : IH} {x2 : Nat} {x3 : Nat} {v4 : Int} {v5 : Int} {v6 : Int}, HR ah → zR v4 → zR v5 → zR v6 → LfV (G_X12_readsShape_109 N n ah (x2 : Nat) (x3 : Nat) v4 v5 v6) (F_X12_readsShape_109 N n (zh ah) x2 x3 (zI v4) (zI v5) (zI v6)) := by
  intro n
  induction n with
  | zero => intros; exact Lg.none
  | succ n ih =>
    intro ah x2 x3 v4 v5 v6 hah hv4 hv5 hv6
    unfold G_X12_readsShape_109 F_X12_readsShape_109
    refine Lg.le rfl rfl (hah _ _) hv6 ?_ ?_
    · refine Lg.eq rfl rfl hv5 (zRd rfl) ?_ ?_
      · exact (l_X12_readsShape_158 hah)
      · refine Lg.bv (l_X12_wrong hah (zRd rfl) hv4) (fun a155 ha155 => ?_)
        exact (l_X12_readsShape_158 ha155)
    · refine Lg.g rfl rfl (by decide) (fun g1 => ?_)
      refine Lg.g (zadd rfl rfl) rfl (by decide) (fun g2 => ?_)
      refine Lg.eq (zlk rfl g1) (zlk (zadd rfl rfl) g2) (hah _ _) (hah _ _) ?_ ?_
      · exact (l_X12_readsShape_137 ih hah hv4 hv6 hv5 (zRd rfl))
      · exact (l_X12_readsShape_137 ih hah hv4 hv6 hv5 (zRd rfl))
theorem l_X12_readsShape_104 {N : Nat} {ah : IH} {x2 : Nat} {x3 : Nat} {v4 : Int} {s0 : Int} (hah : HR ah) (hv4 : zR v4) (hs0 : zR s0) : LfV (G_X12_readsShape_104 N ah (x2 : Nat) (x3 : Nat) v4 s0) (F_X12_readsShape_104 N (zh ah) x2 x3 (zI v4) (zI s0)) := by
  unfold G_X12_readsShape_104 F_X12_readsShape_104
  refine Lg.letv rfl hs0 (fun v5_104 hv5_104 => ?_)
  refine Lg.letv rfl (zRd rfl) (fun v6_107 hv6_107 => ?_)
  exact (l_X12_readsShape_109 _ hah hv4 hv5_104 hv6_107)
theorem l_X12_readsShape_52 {N : Nat} {ah : IH} {x2 : Nat} {x3 : Nat} (hah : HR ah) : LfV (G_X12_readsShape_52 N ah (x2 : Nat) (x3 : Nat)) (F_X12_readsShape_52 N (zh ah) x2 x3) := by
  unfold G_X12_readsShape_52 F_X12_readsShape_52
  refine Lg.wrt hah rfl rfl (zwr (zadd rfl rfl)) wr_R (fun a59 ha59 => ?_)
  refine Lg.b (l_X12_fine ha59) (fun r63 a63 hr63 ha63 => ?_)
  refine Lg.eq rfl rfl hr63 (zRd rfl) ?_ ?_
  · exact LgV.ret ha63
  · refine Lg.b (l_X12_blanks ha63) (fun r71 a71 hr71 ha71 => ?_)
    refine Lg.letv rfl (ha71 _ _) (fun v4_79 hv4_79 => ?_)
    refine Lg.b (l_X12_readsPart ha71 (zRd rfl)) (fun r86 a86 hr86 ha86 => ?_)
    refine Lg.wrt ha86 rfl rfl rfl hr86 (fun a89 ha89 => ?_)
    refine Lg.eq rfl rfl (ha89 _ _) (ha89 _ _) ?_ ?_
    · exact (l_X12_readsShape_104 ha89 hv4_79 (zRd rfl))
    · exact (l_X12_readsShape_104 ha89 hv4_79 (zRd rfl))
theorem l_X12_readsShape {N : Nat} {ah : IH} {p1 : Int} (hah : HR ah) (hp1 : zR p1) : LfV (G_X12_readsShape N ah p1) (F_X12_readsShape N (zh ah) (zI p1)) := by
  unfold G_X12_readsShape F_X12_readsShape
  refine Lg.g rfl rfl (by decide) (fun g1 => ?_)
  refine Lg.letc (cadd rfl (cadd (cmul rfl rfl) (zix rfl g1))) (fun x7 => ?_)
  refine Lg.g rfl rfl (by decide) (fun g2 => ?_)
  refine Lg.letc (cadd rfl (cadd (cmul rfl rfl) (zix rfl g2))) (fun x16 => ?_)
  refine Lg.b (l_X12_readsPart hah (zRd rfl)) (fun r23 a23 hr23 ha23 => ?_)
  refine Lg.wrt ha23 rfl rfl rfl hr23 (fun a26 ha26 => ?_)
  refine Lg.b (l_X12_fine ha26) (fun r28 a28 hr28 ha28 => ?_)
  refine Lg.eq rfl rfl hr28 (zRd rfl) ?_ ?_
  · exact (l_X12_readsShape_52 ha28)
  · refine Lg.b (l_X12_here ha28) (fun r35 a35 hr35 ha35 => ?_)
    refine Lg.eq rfl rfl hr35 (zRd rfl) ?_ ?_
    · exact (l_X12_readsShape_52 ha35)
    · refine Lg.bv (l_X12_wrong ha35 (zRd rfl) (ha35 _ _)) (fun a49 ha49 => ?_)
      exact (l_X12_readsShape_52 ha49)
theorem l_X12_shapes_208 {N : Nat} {k162 : IH → Int → Option (Int × IH)} {k162F : AH → Int32 → Option (Int32 × AH)} (hk162 : ∀ {z0 : IH} {z1 : Int}, HR z0 → zR z1 → LfI (k162 z0 z1) (k162F (zh z0) (zI z1))) : ∀ (n : Nat) {ah : IH} {v2 : Int} {v3 : Int}, HR ah → zR v2 → zR v3 → LfI (G_X12_shapes_208 N k162 n ah v2 v3) (F_X12_shapes_208 N k162F n (zh ah) (zI v2) (zI v3)) := by
  intro n
  induction n with
  | zero => intros; exact Lg.none
  | succ n ih =>
    intro ah v2 v3 hah hv2 hv3
    unfold G_X12_shapes_208 F_X12_shapes_208
    refine Lg.le rfl rfl (zRd rfl) hv3 ?_ ?_
    · refine Lg.letv (zwr (zadd rfl rfl)) wr_R (fun v2_239 hv2_239 => ?_)
      exact (hk162 hah hv2_239)
    · refine Lg.g rfl rfl (by decide) (fun g1 => ?_)
      refine Lg.letc (cadd rfl (cadd (cmul rfl rfl) (zix rfl g1))) (fun x220 => ?_)
      refine Lg.g rfl rfl (by decide) (fun g2 => ?_)
      refine Lg.letc (cadd rfl (cadd (cmul rfl rfl) (zix rfl g2))) (fun x229 => ?_)
      refine Lg.g rfl rfl (by decide) (fun g3 => ?_)
      refine Lg.g rfl rfl (by decide) (fun g4 => ?_)
      refine Lg.wrt hah rfl (zix rfl g4) (zlk rfl g4) (hah _ _) (fun a232 ha232 => ?_)
      refine Lg.letv (zwr (zadd rfl rfl)) wr_R (fun v3_233 hv3_233 => ?_)
      exact (ih ha232 hv2 hv3_233)
theorem l_X12_shapes_174 {N : Nat} {k162 : IH → Int → Option (Int × IH)} {k162F : AH → Int32 → Option (Int32 × AH)} (hk162 : ∀ {z0 : IH} {z1 : Int}, HR z0 → zR z1 → LfI (k162 z0 z1) (k162F (zh z0) (zI z1))) : ∀ (n : Nat) {ah : IH} {v2 : Int} {v3 : Int}, HR ah → zR v2 → zR v3 → LfI (G_X12_shapes_174 N k162 n ah v2 v3) (F_X12_shapes_174 N k162F n (zh ah) (zI v2) (zI v3)) := by
  intro n
  induction n with
  | zero => intros; exact Lg.none
  | succ n ih =>
    intro ah v2 v3 hah hv2 hv3
    unfold G_X12_shapes_174 F_X12_shapes_174
    refine Lg.le rfl rfl (zRd rfl) hv3 ?_ ?_
    · refine Lg.letv rfl (zRd rfl) (fun v3_207 hv3_207 => ?_)
      exact (l_X12_shapes_208 hk162 _ hah hv2 hv3_207)
    · refine Lg.g rfl rfl (by decide) (fun g1 => ?_)
      refine Lg.letc (cadd rfl (cadd (cmul rfl rfl) (zix rfl g1))) (fun x187 => ?_)
      refine Lg.g rfl rfl (by decide) (fun g2 => ?_)
      refine Lg.letc (cadd rfl (cadd (cmul rfl rfl) (zix rfl g2))) (fun x196 => ?_)
      refine Lg.g rfl rfl (by decide) (fun g3 => ?_)
      refine Lg.g rfl rfl (by decide) (fun g4 => ?_)
      refine Lg.wrt hah rfl (zix rfl g4) (zlk rfl g4) (hah _ _) (fun a199 ha199 => ?_)
      refine Lg.letv (zwr (zadd rfl rfl)) wr_R (fun v3_200 hv3_200 => ?_)
      exact (ih ha199 hv2 hv3_200)
theorem l_X12_shapes_162 {N : Nat}  : ∀ (n : Nat) {ah : IH} {v2 : Int}, HR ah → zR v2 → LfI (G_X12_shapes_162 N n ah v2) (F_X12_shapes_162 N n (zh ah) (zI v2)) := by
  intro n
  induction n with
  | zero => intros; exact Lg.none
  | succ n ih =>
    intro ah v2 hah hv2
    unfold G_X12_shapes_162 F_X12_shapes_162
    refine Lg.le rfl rfl (hah _ _) hv2 ?_ ?_
    · refine Lg.b (l_X12_ends hah (hah _ _)) (fun r252 a252 hr252 ha252 => ?_)
      exact LgI.ret rfl hr252 ha252
    · refine Lg.letv rfl (zRd rfl) (fun v3_173 hv3_173 => ?_)
      exact (l_X12_shapes_174 ih _ hah hv2 hv3_173)
theorem l_X12_shapes_135 {N : Nat} {ah : IH} (hah : HR ah) : LfI (G_X12_shapes_135 N ah) (F_X12_shapes_135 N (zh ah)) := by
  unfold G_X12_shapes_135 F_X12_shapes_135
  refine Lg.b (l_X12_fine hah) (fun r136 a136 hr136 ha136 => ?_)
  refine Lg.eq rfl rfl hr136 (zRd rfl) ?_ ?_
  · refine Lg.b (l_X12_ends ha136 (zRd rfl)) (fun r144 a144 hr144 ha144 => ?_)
    exact LgI.ret rfl hr144 ha144
  · refine Lg.wrt ha136 rfl rfl rfl (ha136 _ _) (fun a159 ha159 => ?_)
    refine Lg.letv rfl (zRd rfl) (fun v2_161 hv2_161 => ?_)
    exact (l_X12_shapes_162 _ ha159 hv2_161)
theorem l_X12_shapes_102 {N : Nat} {k45 : IH → Option (Int × IH)} {k45F : AH → Option (Int32 × AH)} {ah : IH} (hk45 : ∀ {z0 : IH}, HR z0 → LfI (k45 z0) (k45F (zh z0))) (hah : HR ah) : LfI (G_X12_shapes_102 N k45 ah) (F_X12_shapes_102 N k45F (zh ah)) := by
  unfold G_X12_shapes_102 F_X12_shapes_102
  refine Lg.b (l_X12_fine hah) (fun r103 a103 hr103 ha103 => ?_)
  refine Lg.eq rfl rfl hr103 (zRd rfl) ?_ ?_
  · exact (l_X12_shapes_135 ha103)
  · refine Lg.bv (l_X12_readsShape ha103 (ha103 _ _)) (fun a119 ha119 => ?_)
    refine Lg.wrt ha119 rfl rfl (zwr (zadd rfl rfl)) wr_R (fun a131 ha131 => ?_)
    exact (hk45 ha131)
theorem l_X12_shapes_45 {N : Nat}  : ∀ (n : Nat) {ah : IH}, HR ah → LfI (G_X12_shapes_45 N n ah) (F_X12_shapes_45 N n (zh ah)) := by
  intro n
  induction n with
  | zero => intros; exact Lg.none
  | succ n ih =>
    intro ah hah
    unfold G_X12_shapes_45 F_X12_shapes_45
    refine Lg.b (l_X12_fine hah) (fun r46 a46 hr46 ha46 => ?_)
    refine Lg.eq rfl rfl hr46 (zRd rfl) ?_ ?_
    · exact (l_X12_shapes_135 ha46)
    · refine Lg.b (l_X12_blanks ha46) (fun r53 a53 hr53 ha53 => ?_)
      refine Lg.eq rfl rfl hr53 (zRd rfl) ?_ ?_
      · exact (l_X12_shapes_135 ha53)
      · refine Lg.b (l_X12_here ha53) (fun r61 a61 hr61 ha61 => ?_)
        refine Lg.b (l_X12_isSmall ha61 hr61) (fun r64 a64 hr64 ha64 => ?_)
        refine Lg.eq rfl rfl hr64 (zRd rfl) ?_ ?_
        · refine Lg.bv (l_X12_wrong ha64 (zRd rfl) (ha64 _ _)) (fun a76 ha76 => ?_)
          exact (l_X12_shapes_102 ih ha76)
        · refine Lg.eq rfl rfl (ha64 _ _) (zRd rfl) ?_ ?_
          · refine Lg.bv (l_X12_wrong ha64 (zRd rfl) (ha64 _ _)) (fun a99 ha99 => ?_)
            exact (l_X12_shapes_102 ih ha99)
          · exact (l_X12_shapes_102 ih ha64)
theorem l_X12_shapes_23 {N : Nat} {ah : IH} {v1 : Int} {s1 : Int} (hah : HR ah) (hv1 : zR v1) (hs1 : zR s1) : LfI (G_X12_shapes_23 N ah v1 s1) (F_X12_shapes_23 N (zh ah) (zI v1) (zI s1)) := by
  unfold G_X12_shapes_23 F_X12_shapes_23
  refine Lg.b (l_X12_bad hah hs1 (zRd rfl) (zRd rfl)) (fun r25 a25 hr25 ha25 => ?_)
  refine Lg.eq rfl rfl hr25 (zRd rfl) ?_ ?_
  · refine Lg.bv (l_X12_starts ha25 hv1) (fun a35 ha35 => ?_)
    refine Lg.wrt ha35 rfl rfl rfl (zRd rfl) (fun a44 ha44 => ?_)
    exact (l_X12_shapes_45 _ ha44)
  · exact LgI.ret rfl (zRd rfl) ha25
theorem l_X12_shapes {N : Nat} {ah : IH} {p1 : Int} (hah : HR ah) (hp1 : zR p1) : LfI (G_X12_shapes N ah p1) (F_X12_shapes N (zh ah) (zI p1)) := by
  unfold G_X12_shapes F_X12_shapes
  refine Lg.wrt hah rfl rfl rfl (zRd rfl) (fun a2 ha2 => ?_)
  refine Lg.b (l_X12_in ha2 hp1 (zRd rfl) (ha2 _ _)) (fun r12 a12 hr12 ha12 => ?_)
  refine Lg.eq rfl rfl hr12 (zRd rfl) ?_ ?_
  · exact (l_X12_shapes_23 ha12 hp1 (zRd rfl))
  · exact (l_X12_shapes_23 ha12 hp1 (zRd rfl))
theorem l_X12_isCell_19 {N : Nat} {ah : IH} (hah : HR ah) : LfI (G_X12_isCell_19 N ah) (F_X12_isCell_19 N (zh ah)) := by
  unfold G_X12_isCell_19 F_X12_isCell_19
  exact LgI.ret rfl (zRd rfl) hah
theorem l_X12_isCell {N : Nat} {ah : IH} {p0 : Int} (hah : HR ah) (hp0 : zR p0) : LfI (G_X12_isCell N ah p0) (F_X12_isCell N (zh ah) (zI p0)) := by
  unfold G_X12_isCell F_X12_isCell
  refine Lg.b (l_X12_isSmall hah hp0) (fun r1 a1 hr1 ha1 => ?_)
  refine Lg.eq rfl rfl hr1 (zRd rfl) ?_ ?_
  · refine Lg.eq rfl rfl hp0 (zRd rfl) ?_ ?_
    · exact (l_X12_isCell_19 ha1)
    · refine Lg.eq rfl rfl hp0 (zRd rfl) ?_ ?_
      · exact (l_X12_isCell_19 ha1)
      · exact LgI.ret rfl (zRd rfl) ha1
  · exact (l_X12_isCell_19 ha1)
theorem l_X12_readsOthers_150 {N : Nat} {ah : IH} (hah : HR ah) : LfV (G_X12_readsOthers_150 N ah) (F_X12_readsOthers_150 N (zh ah)) := by
  unfold G_X12_readsOthers_150 F_X12_readsOthers_150
  refine Lg.wrt hah rfl rfl (zwr (zadd rfl rfl)) wr_R (fun a157 ha157 => ?_)
  exact LgV.ret ha157
theorem l_X12_readsOthers_93 {N : Nat} {k10 : IH → Int → Option IH} {k10F : AH → Nat → Option AH} {ah : IH} {x1 : Nat} (hk10 : ∀ {z0 : IH} {z1 : Nat}, HR z0 → LfV (k10 z0 (z1 : Nat)) (k10F (zh z0) z1)) (hah : HR ah) : LfV (G_X12_readsOthers_93 N k10 ah (x1 : Nat)) (F_X12_readsOthers_93 N k10F (zh ah) x1) := by
  unfold G_X12_readsOthers_93 F_X12_readsOthers_93
  refine Lg.b (l_X12_fine hah) (fun r94 a94 hr94 ha94 => ?_)
  refine Lg.eq rfl rfl hr94 (zRd rfl) ?_ ?_
  · exact LgV.ret ha94
  · refine Lg.b (l_X12_here ha94) (fun r110 a110 hr110 ha110 => ?_)
    refine Lg.g (zadd rfl (zmul rfl rfl)) rfl (by decide) (fun g1 => ?_)
    refine Lg.wrt ha110 rfl (zix (zadd rfl (zmul rfl rfl)) g1) rfl hr110 (fun a113 ha113 => ?_)
    refine Lg.wrt ha113 rfl rfl (zwr (zadd rfl rfl)) wr_R (fun a121 ha121 => ?_)
    refine Lg.b (l_X12_number ha121 (zRd rfl) (zRd rfl)) (fun r136 a136 hr136 ha136 => ?_)
    refine Lg.g (zadd rfl (zmul rfl rfl)) rfl (by decide) (fun g2 => ?_)
    refine Lg.wrt ha136 rfl (zix (zadd rfl (zmul rfl rfl)) g2) rfl hr136 (fun a139 ha139 => ?_)
    refine Lg.wrt ha139 rfl rfl (zwr (zadd rfl rfl)) wr_R (fun a146 ha146 => ?_)
    exact (hk10 ha146)
theorem l_X12_readsOthers_55 {N : Nat} {k10 : IH → Int → Option IH} {k10F : AH → Nat → Option AH} {ah : IH} {x1 : Nat} (hk10 : ∀ {z0 : IH} {z1 : Nat}, HR z0 → LfV (k10 z0 (z1 : Nat)) (k10F (zh z0) z1)) (hah : HR ah) : LfV (G_X12_readsOthers_55 N k10 ah (x1 : Nat)) (F_X12_readsOthers_55 N k10F (zh ah) x1) := by
  unfold G_X12_readsOthers_55 F_X12_readsOthers_55
  refine Lg.b (l_X12_here hah) (fun r56 a56 hr56 ha56 => ?_)
  refine Lg.b (l_X12_isSmall ha56 hr56) (fun r59 a59 hr59 ha59 => ?_)
  refine Lg.eq rfl rfl hr59 (zRd rfl) ?_ ?_
  · refine Lg.bv (l_X12_wrong ha59 (zRd rfl) (ha59 _ _)) (fun a71 ha71 => ?_)
    exact (l_X12_readsOthers_93 hk10 ha71)
  · refine Lg.eq rfl rfl (ha59 _ _) (zRd rfl) ?_ ?_
    · refine Lg.bv (l_X12_wrong ha59 (zRd rfl) (ha59 _ _)) (fun a90 ha90 => ?_)
      exact (l_X12_readsOthers_93 hk10 ha90)
    · exact (l_X12_readsOthers_93 hk10 ha59)
theorem l_X12_readsOthers_50 {N : Nat} {k10 : IH → Int → Option IH} {k10F : AH → Nat → Option AH} {ah : IH} {x1 : Nat} (hk10 : ∀ {z0 : IH} {z1 : Nat}, HR z0 → LfV (k10 z0 (z1 : Nat)) (k10F (zh z0) z1)) (hah : HR ah) : LfV (G_X12_readsOthers_50 N k10 ah (x1 : Nat)) (F_X12_readsOthers_50 N k10F (zh ah) x1) := by
  unfold G_X12_readsOthers_50 F_X12_readsOthers_50
  refine Lg.b (l_X12_blanks hah) (fun r51 a51 hr51 ha51 => ?_)
  exact (l_X12_readsOthers_55 hk10 ha51)
theorem l_X12_readsOthers_10 {N : Nat}  : ∀ (n : Nat) {ah : IH} {x1 : Nat}, HR ah → LfV (G_X12_readsOthers_10 N n ah (x1 : Nat)) (F_X12_readsOthers_10 N n (zh ah) x1) := by
  intro n
  induction n with
  | zero => intros; exact Lg.none
  | succ n ih =>
    intro ah x1 hah
    unfold G_X12_readsOthers_10 F_X12_readsOthers_10
    refine Lg.b (l_X12_fine hah) (fun r11 a11 hr11 ha11 => ?_)
    refine Lg.eq rfl rfl hr11 (zRd rfl) ?_ ?_
    · exact (l_X12_readsOthers_150 ha11)
    · refine Lg.b (l_X12_here ha11) (fun r18 a18 hr18 ha18 => ?_)
      refine Lg.eq rfl rfl hr18 (zRd rfl) ?_ ?_
      · exact (l_X12_readsOthers_150 ha18)
      · refine Lg.le rfl rfl (ha18 _ _) (zRd rfl) ?_ ?_
        · exact (l_X12_readsOthers_55 ih ha18)
        · refine Lg.b (l_X12_here ha18) (fun r33 a33 hr33 ha33 => ?_)
          refine Lg.eq rfl rfl hr33 (zRd rfl) ?_ ?_
          · exact (l_X12_readsOthers_50 ih ha33)
          · refine Lg.bv (l_X12_wrong ha33 (zRd rfl) (ha33 _ _)) (fun a47 ha47 => ?_)
            exact (l_X12_readsOthers_50 ih ha47)
theorem l_X12_readsOthers {N : Nat} {ah : IH} {x1 : Nat} (hah : HR ah) : LfV (G_X12_readsOthers N ah (x1 : Nat)) (F_X12_readsOthers N (zh ah) x1) := by
  unfold G_X12_readsOthers F_X12_readsOthers
  refine Lg.wrt hah rfl rfl (zwr (zadd rfl rfl)) wr_R (fun a7 ha7 => ?_)
  exact (l_X12_readsOthers_10 _ ha7)
theorem l_X12_readsCell_92 {N : Nat} {ah : IH} {x1 : Nat} (hah : HR ah) : LfV (G_X12_readsCell_92 N ah (x1 : Nat)) (F_X12_readsCell_92 N (zh ah) x1) := by
  unfold G_X12_readsCell_92 F_X12_readsCell_92
  refine Lg.wrt hah rfl rfl rfl (zRd rfl) (fun a96 ha96 => ?_)
  refine Lg.wrt ha96 rfl rfl (zwr (zadd rfl rfl)) wr_R (fun a106 ha106 => ?_)
  refine Lg.wrt ha106 rfl rfl (zwr (zadd rfl rfl)) wr_R (fun a114 ha114 => ?_)
  exact LgV.ret ha114
theorem l_X12_readsCell_44 {N : Nat} {ah : IH} {x1 : Nat} (hah : HR ah) : LfV (G_X12_readsCell_44 N ah (x1 : Nat)) (F_X12_readsCell_44 N (zh ah) x1) := by
  unfold G_X12_readsCell_44 F_X12_readsCell_44
  refine Lg.eq rfl rfl (hah _ _) (zRd rfl) ?_ ?_
  · refine Lg.b (l_X12_here hah) (fun r53 a53 hr53 ha53 => ?_)
    refine Lg.eq rfl rfl hr53 (zRd rfl) ?_ ?_
    · refine Lg.b (by rw [(show ((zh a53 0 4) + (1 : Int32)) = zI (wr ((a53 0 4) + 1)) from (zwr (zadd rfl rfl)))]; exact l_X12_byteAt ha53 wr_R) (fun r68 a68 hr68 ha68 => ?_)
      refine Lg.b (l_X12_isSmall ha68 hr68) (fun r71 a71 hr71 ha71 => ?_)
      refine Lg.eq rfl rfl hr71 (zRd rfl) ?_ ?_
      · refine Lg.b (by rw [(show ((zh a71 0 4) + (1 : Int32)) = zI (wr ((a71 0 4) + 1)) from (zwr (zadd rfl rfl)))]; exact l_X12_byteAt ha71 wr_R) (fun r84 a84 hr84 ha84 => ?_)
        refine Lg.eq rfl rfl hr84 (zRd rfl) ?_ ?_
        · exact (l_X12_readsCell_92 ha84)
        · exact LgV.ret ha84
      · exact (l_X12_readsCell_92 ha71)
    · exact LgV.ret ha53
  · exact LgV.ret hah
theorem l_X12_readsCell {N : Nat} {ah : IH} {x1 : Nat} (hah : HR ah) : LfV (G_X12_readsCell N ah (x1 : Nat)) (F_X12_readsCell N (zh ah) x1) := by
  unfold G_X12_readsCell F_X12_readsCell
  refine Lg.b (l_X12_here hah) (fun r3 a3 hr3 ha3 => ?_)
  refine Lg.wrt ha3 rfl rfl rfl hr3 (fun a6 ha6 => ?_)
  refine Lg.wrt ha6 rfl rfl rfl (zRd rfl) (fun a10 ha10 => ?_)
  refine Lg.wrt ha10 rfl rfl (zwr (zadd rfl rfl)) wr_R (fun a18 ha18 => ?_)
  refine Lg.b (l_X12_isSmall ha18 (ha18 _ _)) (fun r24 a24 hr24 ha24 => ?_)
  refine Lg.eq rfl rfl hr24 (zRd rfl) ?_ ?_
  · exact (l_X12_readsCell_44 ha24)
  · refine Lg.b (l_X12_here ha24) (fun r31 a31 hr31 ha31 => ?_)
    refine Lg.eq rfl rfl hr31 (zRd rfl) ?_ ?_
    · refine Lg.bv (l_X12_readsOthers ha31) (fun a41 ha41 => ?_)
      exact (l_X12_readsCell_44 ha41)
    · exact (l_X12_readsCell_44 ha31)
theorem l_X12_readsToken_76 {N : Nat} {ah : IH} {v1 : Int} {v2 : Int} (hah : HR ah) (hv1 : zR v1) (hv2 : zR v2) : LfV (G_X12_readsToken_76 N ah v1 v2) (F_X12_readsToken_76 N (zh ah) (zI v1) (zI v2)) := by
  unfold G_X12_readsToken_76 F_X12_readsToken_76
  refine Lg.letc (cadd rfl rfl) (fun x81 => ?_)
  refine Lg.g rfl rfl (by decide) (fun g1 => ?_)
  refine Lg.wrt hah rfl (zix rfl g1) rfl hv2 (fun a84 ha84 => ?_)
  exact LgV.ret ha84
theorem l_X12_readsToken_48 {N : Nat} {k16 : IH → Int → Int → Option IH} {k16F : AH → Int32 → Int32 → Option AH} {ah : IH} {v1 : Int} {v2 : Int} (hk16 : ∀ {z0 : IH} {z1 : Int} {z2 : Int}, HR z0 → zR z1 → zR z2 → LfV (k16 z0 z1 z2) (k16F (zh z0) (zI z1) (zI z2))) (hah : HR ah) (hv1 : zR v1) (hv2 : zR v2) : LfV (G_X12_readsToken_48 N k16 ah v1 v2) (F_X12_readsToken_48 N k16F (zh ah) (zI v1) (zI v2)) := by
  unfold G_X12_readsToken_48 F_X12_readsToken_48
  refine Lg.b (l_X12_fine hah) (fun r49 a49 hr49 ha49 => ?_)
  refine Lg.eq rfl rfl hr49 (zRd rfl) ?_ ?_
  · exact LgV.ret ha49
  · refine Lg.g rfl rfl (by decide) (fun g1 => ?_)
    refine Lg.g rfl rfl (by decide) (fun g2 => ?_)
    refine Lg.letc (cadd rfl (cadd (cmul (cadd (cmul rfl rfl) (zix rfl g1)) rfl) (zix rfl g2))) (fun x66 => ?_)
    refine Lg.bv (l_X12_readsCell ha49) (fun a67 ha67 => ?_)
    refine Lg.letv (zwr (zadd rfl rfl)) wr_R (fun v2_70 hv2_70 => ?_)
    exact (hk16 ha67 hv1 hv2_70)
theorem l_X12_readsToken_16 {N : Nat}  : ∀ (n : Nat) {ah : IH} {v1 : Int} {v2 : Int}, HR ah → zR v1 → zR v2 → LfV (G_X12_readsToken_16 N n ah v1 v2) (F_X12_readsToken_16 N n (zh ah) (zI v1) (zI v2)) := by
  intro n
  induction n with
  | zero => intros; exact Lg.none
  | succ n ih =>
    intro ah v1 v2 hah hv1 hv2
    unfold G_X12_readsToken_16 F_X12_readsToken_16
    refine Lg.b (l_X12_fine hah) (fun r17 a17 hr17 ha17 => ?_)
    refine Lg.eq rfl rfl hr17 (zRd rfl) ?_ ?_
    · exact (l_X12_readsToken_76 ha17 hv1 hv2)
    · refine Lg.b (l_X12_here ha17) (fun r24 a24 hr24 ha24 => ?_)
      refine Lg.b (l_X12_isCell ha24 hr24) (fun r27 a27 hr27 ha27 => ?_)
      refine Lg.eq rfl rfl hr27 (zRd rfl) ?_ ?_
      · exact (l_X12_readsToken_76 ha27 hv1 hv2)
      · refine Lg.eq rfl rfl hv2 (zRd rfl) ?_ ?_
        · refine Lg.bv (l_X12_wrong ha27 (zRd rfl) (ha27 _ _)) (fun a45 ha45 => ?_)
          exact (l_X12_readsToken_48 ih ha45 hv1 hv2)
        · exact (l_X12_readsToken_48 ih ha27 hv1 hv2)
theorem l_X12_readsToken {N : Nat} {ah : IH} {p1 : Int} (hah : HR ah) (hp1 : zR p1) : LfV (G_X12_readsToken N ah p1) (F_X12_readsToken N (zh ah) (zI p1)) := by
  unfold G_X12_readsToken F_X12_readsToken
  refine Lg.letc (cadd rfl rfl) (fun x5 => ?_)
  refine Lg.g rfl rfl (by decide) (fun g1 => ?_)
  refine Lg.wrt hah rfl (zix rfl g1) rfl (hah _ _) (fun a13 ha13 => ?_)
  refine Lg.letv rfl (zRd rfl) (fun v2_15 hv2_15 => ?_)
  exact (l_X12_readsToken_16 _ ha13 hp1 hv2_15)
theorem l_X12_standsBetween_54 {N : Nat} {k4 : IH → Int → Int → Option (Int × IH)} {k4F : AH → Int32 → Int32 → Option (Int32 × AH)} {ah : IH} {v1 : Int} {s0 : Int} {s1 : Int} (hk4 : ∀ {z0 : IH} {z1 : Int} {z2 : Int}, HR z0 → zR z1 → zR z2 → LfI (k4 z0 z1 z2) (k4F (zh z0) (zI z1) (zI z2))) (hah : HR ah) (hv1 : zR v1) (hs0 : zR s0) (hs1 : zR s1) : LfI (G_X12_standsBetween_54 N k4 ah v1 s0 s1) (F_X12_standsBetween_54 N k4F (zh ah) (zI v1) (zI s0) (zI s1)) := by
  unfold G_X12_standsBetween_54 F_X12_standsBetween_54
  refine Lg.letv (zwr (zadd rfl rfl)) wr_R (fun v2_55 hv2_55 => ?_)
  refine Lg.wrt hah rfl rfl (zwr (zadd rfl rfl)) wr_R (fun a63 ha63 => ?_)
  exact (hk4 ha63 hv1 hv2_55)
theorem l_X12_standsBetween_37 {N : Nat} {k4 : IH → Int → Int → Option (Int × IH)} {k4F : AH → Int32 → Int32 → Option (Int32 × AH)} {ah : IH} {v2 : Int} {s0 : Int} {s1 : Int} (hk4 : ∀ {z0 : IH} {z1 : Int} {z2 : Int}, HR z0 → zR z1 → zR z2 → LfI (k4 z0 z1 z2) (k4F (zh z0) (zI z1) (zI z2))) (hah : HR ah) (hv2 : zR v2) (hs0 : zR s0) (hs1 : zR s1) : LfI (G_X12_standsBetween_37 N k4 ah v2 s0 s1) (F_X12_standsBetween_37 N k4F (zh ah) (zI v2) (zI s0) (zI s1)) := by
  unfold G_X12_standsBetween_37 F_X12_standsBetween_37
  refine Lg.letv (zwr (zadd rfl rfl)) wr_R (fun v1_38 hv1_38 => ?_)
  refine Lg.b (l_X12_here hah) (fun r41 a41 hr41 ha41 => ?_)
  refine Lg.eq rfl rfl hr41 (zRd rfl) ?_ ?_
  · exact (l_X12_standsBetween_54 hk4 ha41 hv1_38 hv2 (zRd rfl))
  · exact (l_X12_standsBetween_54 hk4 ha41 hv1_38 hv2 (zRd rfl))
theorem l_X12_standsBetween_22 {N : Nat} {k4 : IH → Int → Int → Option (Int × IH)} {k4F : AH → Int32 → Int32 → Option (Int32 × AH)} {ah : IH} {v1 : Int} {v2 : Int} (hk4 : ∀ {z0 : IH} {z1 : Int} {z2 : Int}, HR z0 → zR z1 → zR z2 → LfI (k4 z0 z1 z2) (k4F (zh z0) (zI z1) (zI z2))) (hah : HR ah) (hv1 : zR v1) (hv2 : zR v2) : LfI (G_X12_standsBetween_22 N k4 ah v1 v2) (F_X12_standsBetween_22 N k4F (zh ah) (zI v1) (zI v2)) := by
  unfold G_X12_standsBetween_22 F_X12_standsBetween_22
  refine Lg.b (l_X12_here hah) (fun r24 a24 hr24 ha24 => ?_)
  refine Lg.eq rfl rfl hr24 (zRd rfl) ?_ ?_
  · exact (l_X12_standsBetween_37 hk4 ha24 hv2 hv1 (zRd rfl))
  · exact (l_X12_standsBetween_37 hk4 ha24 hv2 hv1 (zRd rfl))
theorem l_X12_standsBetween_4 {N : Nat}  : ∀ (n : Nat) {ah : IH} {v1 : Int} {v2 : Int}, HR ah → zR v1 → zR v2 → LfI (G_X12_standsBetween_4 N n ah v1 v2) (F_X12_standsBetween_4 N n (zh ah) (zI v1) (zI v2)) := by
  intro n
  induction n with
  | zero => intros; exact Lg.none
  | succ n ih =>
    intro ah v1 v2 hah hv1 hv2
    unfold G_X12_standsBetween_4 F_X12_standsBetween_4
    refine Lg.b (l_X12_here hah) (fun r5 a5 hr5 ha5 => ?_)
    refine Lg.eq rfl rfl hr5 (zRd rfl) ?_ ?_
    · exact (l_X12_standsBetween_22 ih ha5 hv1 hv2)
    · refine Lg.b (l_X12_here ha5) (fun r14 a14 hr14 ha14 => ?_)
      refine Lg.eq rfl rfl hr14 (zRd rfl) ?_ ?_
      · exact (l_X12_standsBetween_22 ih ha14 hv1 hv2)
      · refine Lg.wrt ha14 rfl rfl (zwr (zadd rfl rfl)) wr_R (fun a78 ha78 => ?_)
        refine Lg.eq rfl rfl hv1 (zRd rfl) ?_ ?_
        · exact LgI.ret rfl (zRd rfl) ha78
        · refine Lg.eq rfl rfl hv1 (zRd rfl) ?_ ?_
          · refine Lg.eq rfl rfl hv2 (zRd rfl) ?_ ?_
            · exact LgI.ret rfl (zRd rfl) ha78
            · exact LgI.ret rfl (zRd rfl) ha78
          · exact LgI.ret rfl (zRd rfl) ha78
theorem l_X12_standsBetween {N : Nat} {ah : IH} (hah : HR ah) : LfI (G_X12_standsBetween N ah) (F_X12_standsBetween N (zh ah)) := by
  unfold G_X12_standsBetween F_X12_standsBetween
  refine Lg.letv rfl (zRd rfl) (fun v1_1 hv1_1 => ?_)
  refine Lg.letv rfl (zRd rfl) (fun v2_3 hv2_3 => ?_)
  exact (l_X12_standsBetween_4 _ hah hv1_1 hv2_3)
theorem l_X12_reading_327 {N : Nat} {k252 : IH → Int → Option (Int × IH)} {k252F : AH → Int32 → Option (Int32 × AH)} {k312 : IH → Int → Int → Option (Int × IH)} {k312F : AH → Int32 → Int32 → Option (Int32 × AH)} (hk252 : ∀ {z0 : IH} {z1 : Int}, HR z0 → zR z1 → LfI (k252 z0 z1) (k252F (zh z0) (zI z1))) (hk312 : ∀ {z0 : IH} {z1 : Int} {z2 : Int}, HR z0 → zR z1 → zR z2 → LfI (k312 z0 z1 z2) (k312F (zh z0) (zI z1) (zI z2))) : ∀ (n : Nat) {ah : IH} {v2 : Int} {v3 : Int} {v4 : Int}, HR ah → zR v2 → zR v3 → zR v4 → LfI (G_X12_reading_327 N k252 k312 n ah v2 v3 v4) (F_X12_reading_327 N k252F k312F n (zh ah) (zI v2) (zI v3) (zI v4)) := by
  intro n
  induction n with
  | zero => intros; exact Lg.none
  | succ n ih =>
    intro ah v2 v3 v4 hah hv2 hv3 hv4
    unfold G_X12_reading_327 F_X12_reading_327
    refine Lg.le rfl rfl (zRd rfl) hv4 ?_ ?_
    · refine Lg.letv (zwr (zadd rfl rfl)) wr_R (fun v3_366 hv3_366 => ?_)
      exact (hk312 hah hv2 hv3_366)
    · refine Lg.g rfl rfl (by decide) (fun g1 => ?_)
      refine Lg.g rfl rfl (by decide) (fun g2 => ?_)
      refine Lg.letc (cadd rfl (cadd (cmul (cadd (cmul rfl rfl) (zix rfl g1)) rfl) (zix rfl g2))) (fun x343 => ?_)
      refine Lg.g rfl rfl (by decide) (fun g3 => ?_)
      refine Lg.g rfl rfl (by decide) (fun g4 => ?_)
      refine Lg.letc (cadd rfl (cadd (cmul (cadd (cmul rfl rfl) (zix rfl g3)) rfl) (zix rfl g4))) (fun x355 => ?_)
      refine Lg.g rfl rfl (by decide) (fun g5 => ?_)
      refine Lg.g rfl rfl (by decide) (fun g6 => ?_)
      refine Lg.wrt hah rfl (zix rfl g6) (zlk rfl g6) (hah _ _) (fun a359 ha359 => ?_)
      refine Lg.letv (zwr (zadd rfl rfl)) wr_R (fun v4_360 hv4_360 => ?_)
      exact (ih ha359 hv2 hv3 hv4_360)
theorem l_X12_reading_312 {N : Nat} {k252 : IH → Int → Option (Int × IH)} {k252F : AH → Int32 → Option (Int32 × AH)} (hk252 : ∀ {z0 : IH} {z1 : Int}, HR z0 → zR z1 → LfI (k252 z0 z1) (k252F (zh z0) (zI z1))) : ∀ (n : Nat) {ah : IH} {v2 : Int} {v3 : Int}, HR ah → zR v2 → zR v3 → LfI (G_X12_reading_312 N k252 n ah v2 v3) (F_X12_reading_312 N k252F n (zh ah) (zI v2) (zI v3)) := by
  intro n
  induction n with
  | zero => intros; exact Lg.none
  | succ n ih =>
    intro ah v2 v3 hah hv2 hv3
    unfold G_X12_reading_312 F_X12_reading_312
    refine Lg.letc (cadd rfl rfl) (fun x318 => ?_)
    refine Lg.g rfl rfl (by decide) (fun g1 => ?_)
    refine Lg.le (zlk rfl g1) rfl (hah _ _) hv3 ?_ ?_
    · refine Lg.letv (zwr (zadd rfl rfl)) wr_R (fun v2_372 hv2_372 => ?_)
      exact (hk252 hah hv2_372)
    · refine Lg.letv rfl (zRd rfl) (fun v4_325 hv4_325 => ?_)
      exact (l_X12_reading_327 hk252 ih _ hah hv2 hv3 hv4_325)
theorem l_X12_reading_252 {N : Nat}  : ∀ (n : Nat) {ah : IH} {v2 : Int}, HR ah → zR v2 → LfI (G_X12_reading_252 N n ah v2) (F_X12_reading_252 N n (zh ah) (zI v2)) := by
  intro n
  induction n with
  | zero => intros; exact Lg.none
  | succ n ih =>
    intro ah v2 hah hv2
    unfold G_X12_reading_252 F_X12_reading_252
    refine Lg.le rfl rfl (hah _ _) hv2 ?_ ?_
    · refine Lg.b (l_X12_ends hah (hah _ _)) (fun r385 a385 hr385 ha385 => ?_)
      exact LgI.ret rfl hr385 ha385
    · refine Lg.letc (cadd rfl rfl) (fun x267 => ?_)
      refine Lg.letc (cadd rfl rfl) (fun x274 => ?_)
      refine Lg.g rfl rfl (by decide) (fun g1 => ?_)
      refine Lg.g rfl rfl (by decide) (fun g2 => ?_)
      refine Lg.wrt hah rfl (zix rfl g2) (zlk rfl g2) (hah _ _) (fun a277 ha277 => ?_)
      refine Lg.letc (cadd rfl rfl) (fun x283 => ?_)
      refine Lg.letc (cadd rfl rfl) (fun x290 => ?_)
      refine Lg.g rfl rfl (by decide) (fun g3 => ?_)
      refine Lg.g rfl rfl (by decide) (fun g4 => ?_)
      refine Lg.wrt ha277 rfl (zix rfl g4) (zlk rfl g4) (ha277 _ _) (fun a293 ha293 => ?_)
      refine Lg.letc (cadd rfl rfl) (fun x299 => ?_)
      refine Lg.letc (cadd rfl rfl) (fun x306 => ?_)
      refine Lg.g rfl rfl (by decide) (fun g5 => ?_)
      refine Lg.g rfl rfl (by decide) (fun g6 => ?_)
      refine Lg.wrt ha293 rfl (zix rfl g6) (zlk rfl g6) (ha293 _ _) (fun a309 ha309 => ?_)
      refine Lg.letv rfl (zRd rfl) (fun v3_311 hv3_311 => ?_)
      exact (l_X12_reading_312 ih _ ha309 hv2 hv3_311)
theorem l_X12_reading_208 {N : Nat} {ah : IH} (hah : HR ah) : LfI (G_X12_reading_208 N ah) (F_X12_reading_208 N (zh ah)) := by
  unfold G_X12_reading_208 F_X12_reading_208
  refine Lg.b (l_X12_fine hah) (fun r209 a209 hr209 ha209 => ?_)
  refine Lg.eq rfl rfl hr209 (zRd rfl) ?_ ?_
  · refine Lg.b (l_X12_ends ha209 (zRd rfl)) (fun r217 a217 hr217 ha217 => ?_)
    exact LgI.ret rfl hr217 ha217
  · refine Lg.wrt ha209 rfl rfl rfl (zRd rfl) (fun a223 ha223 => ?_)
    refine Lg.wrt ha223 rfl rfl rfl (ha223 _ _) (fun a237 ha237 => ?_)
    refine Lg.wrt ha237 rfl rfl rfl (ha237 _ _) (fun a249 ha249 => ?_)
    refine Lg.letv rfl (zRd rfl) (fun v2_251 hv2_251 => ?_)
    exact (l_X12_reading_252 _ ha249 hv2_251)
theorem l_X12_reading_195 {N : Nat} {k57 : IH → Option (Int × IH)} {k57F : AH → Option (Int32 × AH)} {ah : IH} (hk57 : ∀ {z0 : IH}, HR z0 → LfI (k57 z0) (k57F (zh z0))) (hah : HR ah) : LfI (G_X12_reading_195 N k57 ah) (F_X12_reading_195 N k57F (zh ah)) := by
  unfold G_X12_reading_195 F_X12_reading_195
  refine Lg.wrt hah rfl rfl (zwr (zadd rfl rfl)) wr_R (fun a204 ha204 => ?_)
  exact (hk57 ha204)
theorem l_X12_reading_163 {N : Nat} {k57 : IH → Option (Int × IH)} {k57F : AH → Option (Int32 × AH)} {ah : IH} {v2 : Int} (hk57 : ∀ {z0 : IH}, HR z0 → LfI (k57 z0) (k57F (zh z0))) (hah : HR ah) (hv2 : zR v2) : LfI (G_X12_reading_163 N k57 ah v2) (F_X12_reading_163 N k57F (zh ah) (zI v2)) := by
  unfold G_X12_reading_163 F_X12_reading_163
  refine Lg.b (l_X12_fine hah) (fun r164 a164 hr164 ha164 => ?_)
  refine Lg.eq rfl rfl hr164 (zRd rfl) ?_ ?_
  · exact (l_X12_reading_195 hk57 ha164)
  · refine Lg.b (l_X12_here ha164) (fun r171 a171 hr171 ha171 => ?_)
    refine Lg.eq rfl rfl hr171 (zRd rfl) ?_ ?_
    · exact (l_X12_reading_195 hk57 ha171)
    · refine Lg.eq rfl rfl (ha171 _ _) hv2 ?_ ?_
      · refine Lg.bv (l_X12_wrong ha171 (zRd rfl) (ha171 _ _)) (fun a192 ha192 => ?_)
        exact (l_X12_reading_195 hk57 ha192)
      · exact (l_X12_reading_195 hk57 ha171)
theorem l_X12_reading_114 {N : Nat} {k57 : IH → Option (Int × IH)} {k57F : AH → Option (Int32 × AH)} {ah : IH} (hk57 : ∀ {z0 : IH}, HR z0 → LfI (k57 z0) (k57F (zh z0))) (hah : HR ah) : LfI (G_X12_reading_114 N k57 ah) (F_X12_reading_114 N k57F (zh ah)) := by
  unfold G_X12_reading_114 F_X12_reading_114
  refine Lg.b (l_X12_fine hah) (fun r115 a115 hr115 ha115 => ?_)
  refine Lg.eq rfl rfl hr115 (zRd rfl) ?_ ?_
  · exact (l_X12_reading_208 ha115)
  · refine Lg.bv (l_X12_readsToken ha115 (ha115 _ _)) (fun a131 ha131 => ?_)
    refine Lg.letv rfl (ha131 _ _) (fun v2_138 hv2_138 => ?_)
    refine Lg.b (l_X12_fine ha131) (fun r140 a140 hr140 ha140 => ?_)
    refine Lg.eq rfl rfl hr140 (zRd rfl) ?_ ?_
    · exact (l_X12_reading_163 hk57 ha140 hv2_138)
    · refine Lg.letc (cadd rfl rfl) (fun x151 => ?_)
      refine Lg.b (l_X12_standsBetween ha140) (fun r159 a159 hr159 ha159 => ?_)
      refine Lg.g rfl rfl (by decide) (fun g1 => ?_)
      refine Lg.wrt ha159 rfl (zix rfl g1) rfl hr159 (fun a162 ha162 => ?_)
      exact (l_X12_reading_163 hk57 ha162 hv2_138)
theorem l_X12_reading_57 {N : Nat}  : ∀ (n : Nat) {ah : IH}, HR ah → LfI (G_X12_reading_57 N n ah) (F_X12_reading_57 N n (zh ah)) := by
  intro n
  induction n with
  | zero => intros; exact Lg.none
  | succ n ih =>
    intro ah hah
    unfold G_X12_reading_57 F_X12_reading_57
    refine Lg.b (l_X12_fine hah) (fun r58 a58 hr58 ha58 => ?_)
    refine Lg.eq rfl rfl hr58 (zRd rfl) ?_ ?_
    · exact (l_X12_reading_208 ha58)
    · refine Lg.b (l_X12_here ha58) (fun r65 a65 hr65 ha65 => ?_)
      refine Lg.eq rfl rfl hr65 (zRd rfl) ?_ ?_
      · exact (l_X12_reading_208 ha65)
      · refine Lg.b (l_X12_here ha65) (fun r73 a73 hr73 ha73 => ?_)
        refine Lg.b (l_X12_isCell ha73 hr73) (fun r76 a76 hr76 ha76 => ?_)
        refine Lg.eq rfl rfl hr76 (zRd rfl) ?_ ?_
        · refine Lg.bv (l_X12_wrong ha76 (zRd rfl) (ha76 _ _)) (fun a88 ha88 => ?_)
          exact (l_X12_reading_114 ih ha88)
        · refine Lg.eq rfl rfl (ha76 _ _) (zRd rfl) ?_ ?_
          · refine Lg.bv (l_X12_wrong ha76 (zRd rfl) (ha76 _ _)) (fun a111 ha111 => ?_)
            exact (l_X12_reading_114 ih ha111)
          · exact (l_X12_reading_114 ih ha76)
theorem l_X12_reading_23 {N : Nat} {ah : IH} {v1 : Int} {s1 : Int} (hah : HR ah) (hv1 : zR v1) (hs1 : zR s1) : LfI (G_X12_reading_23 N ah v1 s1) (F_X12_reading_23 N (zh ah) (zI v1) (zI s1)) := by
  unfold G_X12_reading_23 F_X12_reading_23
  refine Lg.b (l_X12_bad hah hs1 (zRd rfl) (zRd rfl)) (fun r25 a25 hr25 ha25 => ?_)
  refine Lg.eq rfl rfl hr25 (zRd rfl) ?_ ?_
  · refine Lg.bv (l_X12_starts ha25 hv1) (fun a35 ha35 => ?_)
    refine Lg.wrt ha35 rfl rfl rfl (zRd rfl) (fun a44 ha44 => ?_)
    refine Lg.wrt ha44 rfl rfl rfl (zRd rfl) (fun a51 ha51 => ?_)
    refine Lg.b (l_X12_standsBetween ha51) (fun r53 a53 hr53 ha53 => ?_)
    exact (l_X12_reading_57 _ ha53)
  · exact LgI.ret rfl (zRd rfl) ha25
theorem l_X12_reading {N : Nat} {ah : IH} {p1 : Int} (hah : HR ah) (hp1 : zR p1) : LfI (G_X12_reading N ah p1) (F_X12_reading N (zh ah) (zI p1)) := by
  unfold G_X12_reading F_X12_reading
  refine Lg.wrt hah rfl rfl rfl (zRd rfl) (fun a2 ha2 => ?_)
  refine Lg.b (l_X12_in ha2 hp1 (zRd rfl) (ha2 _ _)) (fun r12 a12 hr12 ha12 => ?_)
  refine Lg.eq rfl rfl hr12 (zRd rfl) ?_ ?_
  · exact (l_X12_reading_23 ha12 hp1 (zRd rfl))
  · exact (l_X12_reading_23 ha12 hp1 (zRd rfl))
theorem l_X12_fault {N : Nat} {ah : IH} (hah : HR ah) : LfI (G_X12_fault N ah) (F_X12_fault N (zh ah)) := by
  unfold G_X12_fault F_X12_fault
  refine Lg.wrt hah rfl rfl rfl (zRd rfl) (fun a2 ha2 => ?_)
  exact LgI.ret rfl (ha2 _ _) ha2
theorem l_X12_set_41 {N : Nat} {ah : IH} {v1 : Int} {v2 : Int} {s1 : Int} (hah : HR ah) (hv1 : zR v1) (hv2 : zR v2) (hs1 : zR s1) : LfI (G_X12_set_41 N ah v1 v2 s1) (F_X12_set_41 N (zh ah) (zI v1) (zI v2) (zI s1)) := by
  unfold G_X12_set_41 F_X12_set_41
  refine Lg.b (l_X12_bad hah hs1 (zRd rfl) (zRd rfl)) (fun r43 a43 hr43 ha43 => ?_)
  refine Lg.eq rfl rfl hr43 (zRd rfl) ?_ ?_
  · refine Lg.g rfl rfl (by decide) (fun g1 => ?_)
    refine Lg.letv (zlk rfl g1) (ha43 _ _) (fun v3_57 hv3_57 => ?_)
    refine Lg.g rfl rfl (by decide) (fun g2 => ?_)
    refine Lg.wrt ha43 rfl (zix rfl g2) rfl hv2 (fun a64 ha64 => ?_)
    exact LgI.ret rfl hv3_57 ha64
  · exact LgI.ret rfl (zRd rfl) ha43
theorem l_X12_set_36 {N : Nat} {ah : IH} {v1 : Int} {v2 : Int} (hah : HR ah) (hv1 : zR v1) (hv2 : zR v2) : LfI (G_X12_set_36 N ah v1 v2) (F_X12_set_36 N (zh ah) (zI v1) (zI v2)) := by
  unfold G_X12_set_36 F_X12_set_36
  exact (l_X12_set_41 hah hv1 hv2 (zRd rfl))
theorem l_X12_set_30 {N : Nat} {ah : IH} {v1 : Int} {v2 : Int} {s1 : Int} {s2 : Int} {s3 : Int} (hah : HR ah) (hv1 : zR v1) (hv2 : zR v2) (hs1 : zR s1) (hs2 : zR s2) (hs3 : zR s3) : LfI (G_X12_set_30 N ah v1 v2 s1 s2 s3) (F_X12_set_30 N (zh ah) (zI v1) (zI v2) (zI s1) (zI s2) (zI s3)) := by
  unfold G_X12_set_30 F_X12_set_30
  refine Lg.b (l_X12_in hah hs1 hs2 hs3) (fun r30 a30 hr30 ha30 => ?_)
  refine Lg.eq rfl rfl hr30 (zRd rfl) ?_ ?_
  · exact (l_X12_set_36 ha30 hv1 hv2)
  · exact (l_X12_set_41 ha30 hv1 hv2 (zRd rfl))
theorem l_X12_set {N : Nat} {ah : IH} {p1 : Int} {p2 : Int} (hah : HR ah) (hp1 : zR p1) (hp2 : zR p2) : LfI (G_X12_set N ah p1 p2) (F_X12_set N (zh ah) (zI p1) (zI p2)) := by
  unfold G_X12_set F_X12_set
  refine Lg.wrt hah rfl rfl rfl (zRd rfl) (fun a2 ha2 => ?_)
  refine Lg.b (l_X12_in ha2 hp1 (zRd rfl) (zRd rfl)) (fun r10 a10 hr10 ha10 => ?_)
  refine Lg.eq rfl rfl hr10 (zRd rfl) ?_ ?_
  · exact (l_X12_set_36 ha10 hp1 hp2)
  · refine Lg.eq rfl rfl hp1 (zRd rfl) ?_ ?_
    · exact (l_X12_set_30 ha10 hp1 hp2 hp2 (zRd rfl) (zRd rfl))
    · exact (l_X12_set_30 ha10 hp1 hp2 hp2 (zRd rfl) (zRd rfl))
theorem l_X12_weigh_43 {N : Nat} {ah : IH} {v1 : Int} {v2 : Int} {s1 : Int} (hah : HR ah) (hv1 : zR v1) (hv2 : zR v2) (hs1 : zR s1) : LfI (G_X12_weigh_43 N ah v1 v2 s1) (F_X12_weigh_43 N (zh ah) (zI v1) (zI v2) (zI s1)) := by
  unfold G_X12_weigh_43 F_X12_weigh_43
  refine Lg.b (l_X12_bad hah hs1 (zRd rfl) (zRd rfl)) (fun r45 a45 hr45 ha45 => ?_)
  refine Lg.eq rfl rfl hr45 (zRd rfl) ?_ ?_
  · refine Lg.g rfl rfl (by decide) (fun g1 => ?_)
    refine Lg.letv (zlk rfl g1) (ha45 _ _) (fun v3_59 hv3_59 => ?_)
    refine Lg.g rfl rfl (by decide) (fun g2 => ?_)
    refine Lg.wrt ha45 rfl (zix rfl g2) rfl hv2 (fun a66 ha66 => ?_)
    refine Lg.bv (l_X12_weighs ha66) (fun a68 ha68 => ?_)
    exact LgI.ret rfl hv3_59 ha68
  · exact LgI.ret rfl (zRd rfl) ha45
theorem l_X12_weigh_19 {N : Nat} {ah : IH} {v1 : Int} {v2 : Int} {s1 : Int} (hah : HR ah) (hv1 : zR v1) (hv2 : zR v2) (hs1 : zR s1) : LfI (G_X12_weigh_19 N ah v1 v2 s1) (F_X12_weigh_19 N (zh ah) (zI v1) (zI v2) (zI s1)) := by
  unfold G_X12_weigh_19 F_X12_weigh_19
  refine Lg.b (l_X12_bad hah hs1 (zRd rfl) (zRd rfl)) (fun r21 a21 hr21 ha21 => ?_)
  refine Lg.eq rfl rfl hr21 (zRd rfl) ?_ ?_
  · refine Lg.b (l_X12_in ha21 hv2 (zRd rfl) (zRd rfl)) (fun r32 a32 hr32 ha32 => ?_)
    refine Lg.eq rfl rfl hr32 (zRd rfl) ?_ ?_
    · exact (l_X12_weigh_43 ha32 hv1 hv2 (zRd rfl))
    · exact (l_X12_weigh_43 ha32 hv1 hv2 (zRd rfl))
  · exact LgI.ret rfl (zRd rfl) ha21
theorem l_X12_weigh {N : Nat} {ah : IH} {p1 : Int} {p2 : Int} (hah : HR ah) (hp1 : zR p1) (hp2 : zR p2) : LfI (G_X12_weigh N ah p1 p2) (F_X12_weigh N (zh ah) (zI p1) (zI p2)) := by
  unfold G_X12_weigh F_X12_weigh
  refine Lg.wrt hah rfl rfl rfl (zRd rfl) (fun a2 ha2 => ?_)
  refine Lg.b (l_X12_isWord ha2 hp1) (fun r8 a8 hr8 ha8 => ?_)
  refine Lg.eq rfl rfl hr8 (zRd rfl) ?_ ?_
  · exact (l_X12_weigh_19 ha8 hp1 hp2 (zRd rfl))
  · exact (l_X12_weigh_19 ha8 hp1 hp2 (zRd rfl))
theorem l_X12_edge {N : Nat} {ah : IH} {p1 : Int} {p2 : Int} {p3 : Int} {p4 : Int} {p5 : Int} {p6 : Int} {p7 : Int} {p8 : Int} (hah : HR ah) (hp1 : zR p1) (hp2 : zR p2) (hp3 : zR p3) (hp4 : zR p4) (hp5 : zR p5) (hp6 : zR p6) (hp7 : zR p7) (hp8 : zR p8) : LfV (G_X12_edge N ah p1 p2 p3 p4 p5 p6 p7 p8) (F_X12_edge N (zh ah) (zI p1) (zI p2) (zI p3) (zI p4) (zI p5) (zI p6) (zI p7) (zI p8)) := by
  unfold G_X12_edge F_X12_edge
  refine Lg.g rfl rfl (by decide) (fun g1 => ?_)
  refine Lg.g rfl rfl (by decide) (fun g2 => ?_)
  refine Lg.g (zlk rfl g2) rfl (by decide) (fun g3 => ?_)
  refine Lg.letc (cadd rfl (cadd (cmul (zix rfl g2) rfl) (zix (zlk rfl g2) g3))) (fun x12 => ?_)
  refine Lg.wrt hah rfl rfl rfl hp2 (fun a19 ha19 => ?_)
  refine Lg.wrt ha19 rfl rfl rfl hp3 (fun a24 ha24 => ?_)
  refine Lg.wrt ha24 rfl rfl rfl hp4 (fun a30 ha30 => ?_)
  refine Lg.wrt ha30 rfl rfl rfl hp5 (fun a36 ha36 => ?_)
  refine Lg.wrt ha36 rfl rfl rfl hp6 (fun a42 ha42 => ?_)
  refine Lg.wrt ha42 rfl rfl rfl hp7 (fun a48 ha48 => ?_)
  refine Lg.wrt ha48 rfl rfl rfl hp8 (fun a55 ha55 => ?_)
  refine Lg.g rfl rfl (by decide) (fun g4 => ?_)
  refine Lg.g rfl rfl (by decide) (fun g5 => ?_)
  refine Lg.wrt ha55 rfl (zix rfl g5) (zwr (zadd (zlk rfl g5) rfl)) wr_R (fun a65 ha65 => ?_)
  exact LgV.ret ha65
theorem l_X12_isShapeAt_26 {N : Nat}  : ∀ (n : Nat) {ah : IH} {v1 : Int} {v2 : Int} {v3 : Int} {v4 : Int}, HR ah → zR v1 → zR v2 → zR v3 → zR v4 → LfI (G_X12_isShapeAt_26 N n ah v1 v2 v3 v4) (F_X12_isShapeAt_26 N n (zh ah) (zI v1) (zI v2) (zI v3) (zI v4)) := by
  intro n
  induction n with
  | zero => intros; exact Lg.none
  | succ n ih =>
    intro ah v1 v2 v3 v4 hah hv1 hv2 hv3 hv4
    unfold G_X12_isShapeAt_26 F_X12_isShapeAt_26
    refine Lg.le rfl rfl hv3 hv4 ?_ ?_
    · exact LgI.ret rfl (zRd rfl) hah
    · refine Lg.g (zadd rfl rfl) rfl (by decide) (fun g1 => ?_)
      refine Lg.letc (cadd rfl (zix (zadd rfl rfl) g1)) (fun x40 => ?_)
      refine Lg.g rfl rfl (by decide) (fun g2 => ?_)
      refine Lg.letc (cadd rfl (cadd (cmul rfl rfl) (zix rfl g2))) (fun x50 => ?_)
      refine Lg.g rfl rfl (by decide) (fun g3 => ?_)
      refine Lg.eq rfl (zlk rfl g3) (hah _ _) (hah _ _) ?_ ?_
      · refine Lg.letv (zwr (zadd rfl rfl)) wr_R (fun v4_59 hv4_59 => ?_)
        exact (ih hah hv1 hv2 hv3 hv4_59)
      · exact LgI.ret rfl (zRd rfl) hah
theorem l_X12_isShapeAt {N : Nat} {ah : IH} {p1 : Int} {p2 : Int} (hah : HR ah) (hp1 : zR p1) (hp2 : zR p2) : LfI (G_X12_isShapeAt N ah p1 p2) (F_X12_isShapeAt N (zh ah) (zI p1) (zI p2)) := by
  unfold G_X12_isShapeAt F_X12_isShapeAt
  refine Lg.g rfl rfl (by decide) (fun g1 => ?_)
  refine Lg.letc (cadd rfl (cadd (cmul rfl rfl) (zix rfl g1))) (fun x7 => ?_)
  refine Lg.letv rfl (hah _ _) (fun v3_10 hv3_10 => ?_)
  refine Lg.le (zwr (zadd rfl rfl)) rfl wr_R (hah _ _) ?_ ?_
  · refine Lg.letv rfl (zRd rfl) (fun v4_24 hv4_24 => ?_)
    exact (l_X12_isShapeAt_26 _ hah hp1 hp2 hv3_10 hv4_24)
  · exact LgI.ret rfl (zRd rfl) hah
theorem l_X12_laysEdges_295 {N : Nat} {k208 : IH → Int → Int → Option IH} {k208F : AH → Int32 → Int32 → Option AH} {ah : IH} {v1 : Int} {v3 : Int} (hk208 : ∀ {z0 : IH} {z1 : Int} {z2 : Int}, HR z0 → zR z1 → zR z2 → LfV (k208 z0 z1 z2) (k208F (zh z0) (zI z1) (zI z2))) (hah : HR ah) (hv1 : zR v1) (hv3 : zR v3) : LfV (G_X12_laysEdges_295 N k208 ah v1 v3) (F_X12_laysEdges_295 N k208F (zh ah) (zI v1) (zI v3)) := by
  unfold G_X12_laysEdges_295 F_X12_laysEdges_295
  refine Lg.letv (zwr (zadd rfl rfl)) wr_R (fun v3_295 hv3_295 => ?_)
  exact (hk208 hah hv1 hv3_295)
theorem l_X12_laysEdges_208 {N : Nat}  : ∀ (n : Nat) {ah : IH} {v1 : Int} {v3 : Int}, HR ah → zR v1 → zR v3 → LfV (G_X12_laysEdges_208 N n ah v1 v3) (F_X12_laysEdges_208 N n (zh ah) (zI v1) (zI v3)) := by
  intro n
  induction n with
  | zero => intros; exact Lg.none
  | succ n ih =>
    intro ah v1 v3 hah hv1 hv3
    unfold G_X12_laysEdges_208 F_X12_laysEdges_208
    refine Lg.le rfl rfl (hah _ _) hv3 ?_ ?_
    · exact LgV.ret hah
    · refine Lg.b (l_X12_isShapeAt hah hv3 hv1) (fun r221 a221 hr221 ha221 => ?_)
      refine Lg.eq rfl rfl hr221 (zRd rfl) ?_ ?_
      · exact (l_X12_laysEdges_295 ih ha221 hv1 hv3)
      · refine Lg.g rfl rfl (by decide) (fun g1 => ?_)
        refine Lg.letc (cadd rfl (cadd (cmul rfl rfl) (zix rfl g1))) (fun x237 => ?_)
        refine Lg.g rfl rfl (by decide) (fun g2 => ?_)
        refine Lg.letc (cadd rfl (cadd (cmul rfl rfl) (zix rfl g2))) (fun x248 => ?_)
        refine Lg.g rfl rfl (by decide) (fun g3 => ?_)
        refine Lg.letc (cadd rfl (cadd (cmul rfl rfl) (zix rfl g3))) (fun x258 => ?_)
        refine Lg.g rfl rfl (by decide) (fun g4 => ?_)
        refine Lg.letc (cadd rfl (cadd (cmul rfl rfl) (zix rfl g4))) (fun x268 => ?_)
        refine Lg.g rfl rfl (by decide) (fun g5 => ?_)
        refine Lg.letc (cadd rfl (cadd (cmul rfl rfl) (zix rfl g5))) (fun x278 => ?_)
        refine Lg.g rfl rfl (by decide) (fun g6 => ?_)
        refine Lg.letc (cadd rfl (cadd (cmul rfl rfl) (zix rfl g6))) (fun x288 => ?_)
        refine Lg.bv (by rw [(show ((zI v1) + (zh a221 x237 1)) = zI (wr (v1 + (a221 x237 1))) from (zwr (zadd rfl rfl)))]; exact l_X12_edge ha221 hv1 wr_R (ha221 _ _) (ha221 _ _) (ha221 _ _) (ha221 _ _) (ha221 _ _) hv3) (fun a292 ha292 => ?_)
        exact (l_X12_laysEdges_295 ih ha292 hv1 hv3)
theorem l_X12_laysEdges_206 {N : Nat} {ah : IH} {v1 : Int} (hah : HR ah) (hv1 : zR v1) : LfV (G_X12_laysEdges_206 N ah v1) (F_X12_laysEdges_206 N (zh ah) (zI v1)) := by
  unfold G_X12_laysEdges_206 F_X12_laysEdges_206
  refine Lg.letv rfl (zRd rfl) (fun v3_207 hv3_207 => ?_)
  exact (l_X12_laysEdges_208 _ hah hv1 hv3_207)
theorem l_X12_laysEdges_164 {N : Nat} {ah : IH} {v1 : Int} {x2 : Nat} (hah : HR ah) (hv1 : zR v1) : LfV (G_X12_laysEdges_164 N ah v1 (x2 : Nat)) (F_X12_laysEdges_164 N (zh ah) (zI v1) x2) := by
  unfold G_X12_laysEdges_164 F_X12_laysEdges_164
  refine Lg.eq rfl rfl (hah _ _) (zRd rfl) ?_ ?_
  · refine Lg.bv (by rw [(show ((zI v1) + (1 : Int32)) = zI (wr (v1 + 1)) from (zwr (zadd rfl rfl)))]; exact l_X12_edge hah hv1 wr_R (zRd rfl) (zRd rfl) (zRd rfl) (zRd rfl) (zRd rfl) (zRd rfl)) (fun a183 ha183 => ?_)
    refine Lg.bv (by rw [(show ((zI v1) + (1 : Int32)) = zI (wr (v1 + 1)) from (zwr (zadd rfl rfl)))]; exact l_X12_edge ha183 hv1 wr_R (ha183 _ _) (zRd rfl) (zRd rfl) (zRd rfl) (zRd rfl) (zRd rfl)) (fun a203 ha203 => ?_)
    exact (l_X12_laysEdges_206 ha203 hv1)
  · exact (l_X12_laysEdges_206 hah hv1)
theorem l_X12_laysEdges_122 {N : Nat} {ah : IH} {v1 : Int} {x2 : Nat} (hah : HR ah) (hv1 : zR v1) : LfV (G_X12_laysEdges_122 N ah v1 (x2 : Nat)) (F_X12_laysEdges_122 N (zh ah) (zI v1) x2) := by
  unfold G_X12_laysEdges_122 F_X12_laysEdges_122
  refine Lg.eq rfl rfl (hah _ _) (zRd rfl) ?_ ?_
  · refine Lg.bv (by rw [(show ((zI v1) + (1 : Int32)) = zI (wr (v1 + 1)) from (zwr (zadd rfl rfl)))]; exact l_X12_edge hah hv1 wr_R (zRd rfl) (zRd rfl) (zRd rfl) (zRd rfl) (zRd rfl) (zRd rfl)) (fun a142 ha142 => ?_)
    refine Lg.bv (by rw [(show ((zI v1) + (1 : Int32)) = zI (wr (v1 + 1)) from (zwr (zadd rfl rfl)))]; exact l_X12_edge ha142 hv1 wr_R (ha142 _ _) (zRd rfl) (zRd rfl) (zRd rfl) (zRd rfl) (zRd rfl)) (fun a161 ha161 => ?_)
    exact (l_X12_laysEdges_164 ha161 hv1)
  · exact (l_X12_laysEdges_164 hah hv1)
theorem l_X12_laysEdges_83 {N : Nat}  : ∀ (n : Nat) {ah : IH} {v1 : Int} {x2 : Nat} {v3 : Int}, HR ah → zR v1 → zR v3 → LfV (G_X12_laysEdges_83 N n ah v1 (x2 : Nat) v3) (F_X12_laysEdges_83 N n (zh ah) (zI v1) x2 (zI v3)) := by
  intro n
  induction n with
  | zero => intros; exact Lg.none
  | succ n ih =>
    intro ah v1 x2 v3 hah hv1 hv3
    unfold G_X12_laysEdges_83 F_X12_laysEdges_83
    refine Lg.lt rfl rfl (zRd rfl) hv3 ?_ ?_
    · exact (l_X12_laysEdges_122 hah hv1)
    · refine Lg.eq rfl rfl (hah _ _) (zRd rfl) ?_ ?_
      · refine Lg.bv (by rw [(show ((zI v1) + (1 : Int32)) = zI (wr (v1 + 1)) from (zwr (zadd rfl rfl)))]; exact l_X12_edge hah hv1 wr_R (hah _ _) (zRd rfl) hv3 (zRd rfl) (zRd rfl) (zRd rfl)) (fun a113 ha113 => ?_)
        refine Lg.letv (zwr (zadd rfl rfl)) wr_R (fun v3_116 hv3_116 => ?_)
        exact (ih ha113 hv1 hv3_116)
      · exact (l_X12_laysEdges_122 hah hv1)
theorem l_X12_laysEdges_41 {N : Nat}  : ∀ (n : Nat) {ah : IH} {v1 : Int} {x2 : Nat} {v3 : Int}, HR ah → zR v1 → zR v3 → LfV (G_X12_laysEdges_41 N n ah v1 (x2 : Nat) v3) (F_X12_laysEdges_41 N n (zh ah) (zI v1) x2 (zI v3)) := by
  intro n
  induction n with
  | zero => intros; exact Lg.none
  | succ n ih =>
    intro ah v1 x2 v3 hah hv1 hv3
    unfold G_X12_laysEdges_41 F_X12_laysEdges_41
    refine Lg.le rfl rfl (hah _ _) hv3 ?_ ?_
    · refine Lg.letv rfl (zRd rfl) (fun v3_82 hv3_82 => ?_)
      exact (l_X12_laysEdges_83 _ hah hv1 hv3_82)
    · refine Lg.g (zadd rfl (zmul rfl rfl)) rfl (by decide) (fun g1 => ?_)
      refine Lg.g (zadd rfl (zmul rfl rfl)) rfl (by decide) (fun g2 => ?_)
      refine Lg.bv (by rw [(show ((zI v1) + (1 : Int32)) = zI (wr (v1 + 1)) from (zwr (zadd rfl rfl))), (show (zh ah x2 (Int32.toNatClampNeg ((3 : Int32) + ((2 : Int32) * (zI v3))))) = zI (ah x2 (3 + (2 * v3))) from (zlk (zadd rfl (zmul rfl rfl)) g1)), (show (zh ah x2 (Int32.toNatClampNeg ((2 : Int32) + ((2 : Int32) * (zI v3))))) = zI (ah x2 (2 + (2 * v3))) from (zlk (zadd rfl (zmul rfl rfl)) g2))]; exact l_X12_edge hah hv1 wr_R (hah _ _) (zRd rfl) (hah _ _) (zRd rfl) (zRd rfl) (zRd rfl)) (fun a71 ha71 => ?_)
      refine Lg.letv (zwr (zadd rfl rfl)) wr_R (fun v3_74 hv3_74 => ?_)
      exact (ih ha71 hv1 hv3_74)
theorem l_X12_laysEdges_39 {N : Nat} {ah : IH} {v1 : Int} {x2 : Nat} (hah : HR ah) (hv1 : zR v1) : LfV (G_X12_laysEdges_39 N ah v1 (x2 : Nat)) (F_X12_laysEdges_39 N (zh ah) (zI v1) x2) := by
  unfold G_X12_laysEdges_39 F_X12_laysEdges_39
  refine Lg.letv rfl (zRd rfl) (fun v3_40 hv3_40 => ?_)
  exact (l_X12_laysEdges_41 _ hah hv1 hv3_40)
theorem l_X12_laysEdges {N : Nat} {ah : IH} {p1 : Int} (hah : HR ah) (hp1 : zR p1) : LfV (G_X12_laysEdges N ah p1) (F_X12_laysEdges N (zh ah) (zI p1)) := by
  unfold G_X12_laysEdges F_X12_laysEdges
  refine Lg.g rfl rfl (by decide) (fun g1 => ?_)
  refine Lg.letc (cadd rfl (zix rfl g1)) (fun x5 => ?_)
  refine Lg.g rfl rfl (by decide) (fun g2 => ?_)
  refine Lg.wrt hah rfl (zix rfl g2) rfl (zRd rfl) (fun a13 ha13 => ?_)
  refine Lg.b (l_X12_isSmall ha13 (ha13 _ _)) (fun r17 a17 hr17 ha17 => ?_)
  refine Lg.eq rfl rfl hr17 (zRd rfl) ?_ ?_
  · exact (l_X12_laysEdges_39 ha17 hp1)
  · refine Lg.bv (by rw [(show ((zI p1) + (1 : Int32)) = zI (wr (p1 + 1)) from (zwr (zadd rfl rfl)))]; exact l_X12_edge ha17 hp1 wr_R (zRd rfl) (zRd rfl) (ha17 _ _) (zRd rfl) (zRd rfl) (zRd rfl)) (fun a36 ha36 => ?_)
    exact (l_X12_laysEdges_39 ha36 hp1)
theorem l_X12_laysNet_37 {N : Nat} {k17 : IH → Int → Option IH} {k17F : AH → Int32 → Option AH} (hk17 : ∀ {z0 : IH} {z1 : Int}, HR z0 → zR z1 → LfV (k17 z0 z1) (k17F (zh z0) (zI z1))) : ∀ (n : Nat) {ah : IH} {v1 : Int} {v2 : Int}, HR ah → zR v1 → zR v2 → LfV (G_X12_laysNet_37 N k17 n ah v1 v2) (F_X12_laysNet_37 N k17F n (zh ah) (zI v1) (zI v2)) := by
  intro n
  induction n with
  | zero => intros; exact Lg.none
  | succ n ih =>
    intro ah v1 v2 hah hv1 hv2
    unfold G_X12_laysNet_37 F_X12_laysNet_37
    refine Lg.g rfl rfl (by decide) (fun g1 => ?_)
    refine Lg.le (zlk rfl g1) rfl (hah _ _) hv2 ?_ ?_
    · refine Lg.letv (zwr (zadd rfl rfl)) wr_R (fun v1_94 hv1_94 => ?_)
      exact (hk17 hah hv1_94)
    · refine Lg.g rfl rfl (by decide) (fun g2 => ?_)
      refine Lg.g rfl rfl (by decide) (fun g3 => ?_)
      refine Lg.g rfl rfl (by decide) (fun g4 => ?_)
      refine Lg.letc (cadd rfl (cadd (cmul (zix rfl g3) rfl) (zix rfl g4))) (fun x65 => ?_)
      refine Lg.g rfl rfl (by decide) (fun g5 => ?_)
      refine Lg.g rfl rfl (by decide) (fun g6 => ?_)
      refine Lg.letc (cadd rfl (cadd (cmul (zix rfl g5) rfl) (zix rfl g6))) (fun x79 => ?_)
      refine Lg.g rfl rfl (by decide) (fun g7 => ?_)
      refine Lg.b (by rw [(show (zh ah 26 (Int32.toNatClampNeg (zI v1))) = zI (ah 26 v1) from (zlk rfl g5)), (show ((zh ah x65 1) + (zh ah 26 (Int32.toNatClampNeg (zh ah x79 0)))) = zI (wr ((ah x65 1) + (ah 26 (ah x79 0)))) from (zwr (zadd rfl (zlk rfl g7))))]; exact l_X12_less hah (hah _ _) wr_R) (fun r84 a84 hr84 ha84 => ?_)
      refine Lg.g rfl rfl (by decide) (fun g8 => ?_)
      refine Lg.wrt ha84 rfl (zix rfl g8) rfl hr84 (fun a87 ha87 => ?_)
      refine Lg.letv (zwr (zadd rfl rfl)) wr_R (fun v2_88 hv2_88 => ?_)
      exact (ih ha87 hv1 hv2_88)
theorem l_X12_laysNet_17 {N : Nat}  : ∀ (n : Nat) {ah : IH} {v1 : Int}, HR ah → zR v1 → LfV (G_X12_laysNet_17 N n ah v1) (F_X12_laysNet_17 N n (zh ah) (zI v1)) := by
  intro n
  induction n with
  | zero => intros; exact Lg.none
  | succ n ih =>
    intro ah v1 hah hv1
    unfold G_X12_laysNet_17 F_X12_laysNet_17
    refine Lg.lt rfl rfl hv1 (zRd rfl) ?_ ?_
    · exact LgV.ret hah
    · refine Lg.bv (l_X12_laysEdges hah hv1) (fun a23 ha23 => ?_)
      refine Lg.g rfl rfl (by decide) (fun g1 => ?_)
      refine Lg.wrt ha23 rfl (zix rfl g1) rfl (zRd rfl) (fun a34 ha34 => ?_)
      refine Lg.letv rfl (zRd rfl) (fun v2_36 hv2_36 => ?_)
      exact (l_X12_laysNet_37 ih _ ha34 hv1 hv2_36)
theorem l_X12_laysNet {N : Nat} {ah : IH} (hah : HR ah) : LfV (G_X12_laysNet N ah) (F_X12_laysNet N (zh ah)) := by
  unfold G_X12_laysNet F_X12_laysNet
  refine Lg.g rfl rfl (by decide) (fun g1 => ?_)
  refine Lg.wrt hah rfl (zix rfl g1) rfl (zRd rfl) (fun a9 ha9 => ?_)
  refine Lg.letv (zwr (zsub rfl rfl)) wr_R (fun v1_16 hv1_16 => ?_)
  exact (l_X12_laysNet_17 _ ha9 hv1_16)
theorem l_X12_copiesCell_2 {N : Nat}  : ∀ (n : Nat) {ah : IH} {x1 : Nat} {x2 : Nat} {v3 : Int}, HR ah → zR v3 → LfV (G_X12_copiesCell_2 N n ah (x1 : Nat) (x2 : Nat) v3) (F_X12_copiesCell_2 N n (zh ah) x1 x2 (zI v3)) := by
  intro n
  induction n with
  | zero => intros; exact Lg.none
  | succ n ih =>
    intro ah x1 x2 v3 hah hv3
    unfold G_X12_copiesCell_2 F_X12_copiesCell_2
    refine Lg.le rfl rfl (zRd rfl) hv3 ?_ ?_
    · exact LgV.ret hah
    · refine Lg.g rfl rfl (by decide) (fun g1 => ?_)
      refine Lg.g rfl rfl (by decide) (fun g2 => ?_)
      refine Lg.wrt hah rfl (zix rfl g2) (zlk rfl g2) (hah _ _) (fun a13 ha13 => ?_)
      refine Lg.letv (zwr (zadd rfl rfl)) wr_R (fun v3_14 hv3_14 => ?_)
      exact (ih ha13 hv3_14)
theorem l_X12_copiesCell {N : Nat} {ah : IH} {x1 : Nat} {x2 : Nat} (hah : HR ah) : LfV (G_X12_copiesCell N ah (x1 : Nat) (x2 : Nat)) (F_X12_copiesCell N (zh ah) x1 x2) := by
  unfold G_X12_copiesCell F_X12_copiesCell
  refine Lg.letv rfl (zRd rfl) (fun v3_1 hv3_1 => ?_)
  exact (l_X12_copiesCell_2 _ hah hv3_1)
theorem l_X12_laysToken_25 {N : Nat} {k7 : IH → Int → Int → Int → Option IH} {k7F : AH → Int32 → Int32 → Int32 → Option AH} (hk7 : ∀ {z0 : IH} {z1 : Int} {z2 : Int} {z3 : Int}, HR z0 → zR z1 → zR z2 → zR z3 → LfV (k7 z0 z1 z2 z3) (k7F (zh z0) (zI z1) (zI z2) (zI z3))) : ∀ (n : Nat) {ah : IH} {v1 : Int} {v2 : Int} {v3 : Int} {v4 : Int}, HR ah → zR v1 → zR v2 → zR v3 → zR v4 → LfV (G_X12_laysToken_25 N k7 n ah v1 v2 v3 v4) (F_X12_laysToken_25 N k7F n (zh ah) (zI v1) (zI v2) (zI v3) (zI v4)) := by
  intro n
  induction n with
  | zero => intros; exact Lg.none
  | succ n ih =>
    intro ah v1 v2 v3 v4 hah hv1 hv2 hv3 hv4
    unfold G_X12_laysToken_25 F_X12_laysToken_25
    refine Lg.letc (cadd rfl rfl) (fun x32 => ?_)
    refine Lg.g rfl rfl (by decide) (fun g1 => ?_)
    refine Lg.le (zlk rfl g1) rfl (hah _ _) hv4 ?_ ?_
    · refine Lg.letv (zwr (zadd rfl rfl)) wr_R (fun v3_78 hv3_78 => ?_)
      exact (hk7 hah hv1 hv2 hv3_78)
    · refine Lg.g rfl rfl (by decide) (fun g2 => ?_)
      refine Lg.g rfl rfl (by decide) (fun g3 => ?_)
      refine Lg.letc (cadd rfl (cadd (cmul (cadd (cmul rfl rfl) (zix rfl g2)) rfl) (zix rfl g3))) (fun x49 => ?_)
      refine Lg.g rfl rfl (by decide) (fun g4 => ?_)
      refine Lg.letc (cadd rfl (zix rfl g4)) (fun x58 => ?_)
      refine Lg.bv (l_X12_copiesCell hah) (fun a59 ha59 => ?_)
      refine Lg.wrt ha59 rfl rfl (zwr (zadd rfl rfl)) wr_R (fun a69 ha69 => ?_)
      refine Lg.letv (zwr (zadd rfl rfl)) wr_R (fun v4_72 hv4_72 => ?_)
      exact (ih ha69 hv1 hv2 hv3 hv4_72)
theorem l_X12_laysToken_19 {N : Nat} {k7 : IH → Int → Int → Int → Option IH} {k7F : AH → Int32 → Int32 → Int32 → Option AH} {ah : IH} {v1 : Int} {v2 : Int} {v3 : Int} {s0 : Int} {s1 : Int} (hk7 : ∀ {z0 : IH} {z1 : Int} {z2 : Int} {z3 : Int}, HR z0 → zR z1 → zR z2 → zR z3 → LfV (k7 z0 z1 z2 z3) (k7F (zh z0) (zI z1) (zI z2) (zI z3))) (hah : HR ah) (hv1 : zR v1) (hv2 : zR v2) (hv3 : zR v3) (hs0 : zR s0) (hs1 : zR s1) : LfV (G_X12_laysToken_19 N k7 ah v1 v2 v3 s0 s1) (F_X12_laysToken_19 N k7F (zh ah) (zI v1) (zI v2) (zI v3) (zI s0) (zI s1)) := by
  unfold G_X12_laysToken_19 F_X12_laysToken_19
  refine Lg.lt rfl rfl hs1 hs0 ?_ ?_
  · refine Lg.bv (l_X12_laysNet hah) (fun a85 ha85 => ?_)
    exact LgV.ret ha85
  · refine Lg.letv rfl (zRd rfl) (fun v4_23 hv4_23 => ?_)
    exact (l_X12_laysToken_25 hk7 _ hah hv1 hv2 hv3 hv4_23)
theorem l_X12_laysToken_7 {N : Nat}  : ∀ (n : Nat) {ah : IH} {v1 : Int} {v2 : Int} {v3 : Int}, HR ah → zR v1 → zR v2 → zR v3 → LfV (G_X12_laysToken_7 N n ah v1 v2 v3) (F_X12_laysToken_7 N n (zh ah) (zI v1) (zI v2) (zI v3)) := by
  intro n
  induction n with
  | zero => intros; exact Lg.none
  | succ n ih =>
    intro ah v1 v2 v3 hah hv1 hv2 hv3
    unfold G_X12_laysToken_7 F_X12_laysToken_7
    refine Lg.eq rfl rfl hv2 (zRd rfl) ?_ ?_
    · exact (l_X12_laysToken_19 ih hah hv1 hv2 hv3 hv3 hv1)
    · exact (by rw [(show ((zI v1) + (1 : Int32)) = zI (wr (v1 + 1)) from (zwr (zadd rfl rfl)))]; exact l_X12_laysToken_19 ih hah hv1 hv2 hv3 hv3 wr_R)
theorem l_X12_laysToken {N : Nat} {ah : IH} {p1 : Int} {p2 : Int} (hah : HR ah) (hp1 : zR p1) (hp2 : zR p2) : LfV (G_X12_laysToken N ah p1 p2) (F_X12_laysToken N (zh ah) (zI p1) (zI p2)) := by
  unfold G_X12_laysToken F_X12_laysToken
  refine Lg.wrt hah rfl rfl rfl (zRd rfl) (fun a2 ha2 => ?_)
  refine Lg.letv rfl hp1 (fun v3_6 hv3_6 => ?_)
  exact (l_X12_laysToken_7 _ ha2 hp1 hp2 hv3_6)
theorem l_X12_laysWord_12 {N : Nat}  : ∀ (n : Nat) {ah : IH} {v1 : Int} {v2 : Int}, HR ah → zR v1 → zR v2 → LfV (G_X12_laysWord_12 N n ah v1 v2) (F_X12_laysWord_12 N n (zh ah) (zI v1) (zI v2)) := by
  intro n
  induction n with
  | zero => intros; exact Lg.none
  | succ n ih =>
    intro ah v1 v2 hah hv1 hv2
    unfold G_X12_laysWord_12 F_X12_laysWord_12
    refine Lg.le rfl rfl (hah _ _) hv2 ?_ ?_
    · refine Lg.bv (l_X12_laysNet hah) (fun a52 ha52 => ?_)
      exact LgV.ret ha52
    · refine Lg.g rfl rfl (by decide) (fun g1 => ?_)
      refine Lg.letc (cadd rfl (zix rfl g1)) (fun x25 => ?_)
      refine Lg.g rfl rfl (by decide) (fun g2 => ?_)
      refine Lg.letc (cadd rfl (zix rfl g2)) (fun x32 => ?_)
      refine Lg.g rfl rfl (by decide) (fun g3 => ?_)
      refine Lg.wrt hah rfl rfl (zlk rfl g3) (hah _ _) (fun a35 ha35 => ?_)
      refine Lg.g rfl rfl (by decide) (fun g4 => ?_)
      refine Lg.letc (cadd rfl (zix rfl g4)) (fun x41 => ?_)
      refine Lg.wrt ha35 rfl rfl rfl (zRd rfl) (fun a44 ha44 => ?_)
      refine Lg.letv (zwr (zadd rfl rfl)) wr_R (fun v2_45 hv2_45 => ?_)
      exact (ih ha44 hv1 hv2_45)
theorem l_X12_laysWord {N : Nat} {ah : IH} {p1 : Int} (hah : HR ah) (hp1 : zR p1) : LfV (G_X12_laysWord N ah p1) (F_X12_laysWord N (zh ah) (zI p1)) := by
  unfold G_X12_laysWord F_X12_laysWord
  refine Lg.g rfl rfl (by decide) (fun g1 => ?_)
  refine Lg.wrt hah rfl rfl (zlk rfl g1) (hah _ _) (fun a7 ha7 => ?_)
  refine Lg.letv rfl (zRd rfl) (fun v2_11 hv2_11 => ?_)
  exact (l_X12_laysWord_12 _ ha7 hp1 hv2_11)
theorem l_X12_fits_19 {N : Nat}  : ∀ (n : Nat) {ah : IH} {x1 : Nat} {v2 : Int} {v3 : Int} {v4 : Int}, HR ah → zR v2 → zR v3 → zR v4 → LfI (G_X12_fits_19 N n ah (x1 : Nat) v2 v3 v4) (F_X12_fits_19 N n (zh ah) x1 (zI v2) (zI v3) (zI v4)) := by
  intro n
  induction n with
  | zero => intros; exact Lg.none
  | succ n ih =>
    intro ah x1 v2 v3 v4 hah hv2 hv3 hv4
    unfold G_X12_fits_19 F_X12_fits_19
    refine Lg.le rfl rfl (hah _ _) hv4 ?_ ?_
    · exact LgI.ret rfl (zRd rfl) hah
    · refine Lg.g rfl rfl (by decide) (fun g1 => ?_)
      refine Lg.letc (cadd rfl (zix rfl g1)) (fun x32 => ?_)
      refine Lg.g (zadd rfl rfl) rfl (by decide) (fun g2 => ?_)
      refine Lg.g (zadd rfl rfl) rfl (by decide) (fun g3 => ?_)
      refine Lg.eq (zlk (zadd rfl rfl) g2) (zlk (zadd rfl rfl) g3) (hah _ _) (hah _ _) ?_ ?_
      · refine Lg.letv (zwr (zadd rfl rfl)) wr_R (fun v4_49 hv4_49 => ?_)
        exact (ih hah hv2 hv3 hv4_49)
      · exact LgI.ret rfl (zRd rfl) hah
theorem l_X12_fits {N : Nat} {ah : IH} {x1 : Nat} {p2 : Int} {p3 : Int} (hah : HR ah) (hp2 : zR p2) (hp3 : zR p3) : LfI (G_X12_fits N ah (x1 : Nat) p2 p3) (F_X12_fits N (zh ah) x1 (zI p2) (zI p3)) := by
  unfold G_X12_fits F_X12_fits
  refine Lg.g rfl rfl (by decide) (fun g1 => ?_)
  refine Lg.le (zwr (zadd rfl rfl)) (zlk rfl g1) wr_R (hah _ _) ?_ ?_
  · refine Lg.letv rfl (zRd rfl) (fun v4_17 hv4_17 => ?_)
    exact (l_X12_fits_19 _ hah hp2 hp3 hv4_17)
  · exact LgI.ret rfl (zRd rfl) hah
theorem l_X12_spells_142 {N : Nat} {k5 : IH → Int → Int → Option (Int × IH)} {k5F : AH → Int32 → Int32 → Option (Int32 × AH)} {k16 : IH → Int → Int → Int → Option (Int × IH)} {k16F : AH → Int32 → Int32 → Int32 → Option (Int32 × AH)} {ah : IH} {v1 : Int} {v2 : Int} {v3 : Int} {v4 : Int} (hk5 : ∀ {z0 : IH} {z1 : Int} {z2 : Int}, HR z0 → zR z1 → zR z2 → LfI (k5 z0 z1 z2) (k5F (zh z0) (zI z1) (zI z2))) (hk16 : ∀ {z0 : IH} {z1 : Int} {z2 : Int} {z3 : Int}, HR z0 → zR z1 → zR z2 → zR z3 → LfI (k16 z0 z1 z2 z3) (k16F (zh z0) (zI z1) (zI z2) (zI z3))) (hah : HR ah) (hv1 : zR v1) (hv2 : zR v2) (hv3 : zR v3) (hv4 : zR v4) : LfI (G_X12_spells_142 N k5 k16 ah v1 v2 v3 v4) (F_X12_spells_142 N k5F k16F (zh ah) (zI v1) (zI v2) (zI v3) (zI v4)) := by
  unfold G_X12_spells_142 F_X12_spells_142
  refine Lg.g rfl rfl (by decide) (fun g1 => ?_)
  refine Lg.letc (cadd rfl (zix rfl g1)) (fun x147 => ?_)
  refine Lg.g rfl rfl (by decide) (fun g2 => ?_)
  refine Lg.wrt hah rfl (zix rfl g2) rfl hv4 (fun a151 ha151 => ?_)
  refine Lg.letv (zwr (zadd rfl rfl)) wr_R (fun v3_152 hv3_152 => ?_)
  exact (hk16 ha151 hv1 hv2 hv3_152)
theorem l_X12_spells_136 {N : Nat} {k5 : IH → Int → Int → Option (Int × IH)} {k5F : AH → Int32 → Int32 → Option (Int32 × AH)} {k16 : IH → Int → Int → Int → Option (Int × IH)} {k16F : AH → Int32 → Int32 → Int32 → Option (Int32 × AH)} {k50 : IH → Int → Int → Int → Int → Int → Option (Int × IH)} {k50F : AH → Int32 → Int32 → Int32 → Int32 → Int32 → Option (Int32 × AH)} {ah : IH} {v1 : Int} {v2 : Int} {v3 : Int} {v4 : Int} {v5 : Int} (hk5 : ∀ {z0 : IH} {z1 : Int} {z2 : Int}, HR z0 → zR z1 → zR z2 → LfI (k5 z0 z1 z2) (k5F (zh z0) (zI z1) (zI z2))) (hk16 : ∀ {z0 : IH} {z1 : Int} {z2 : Int} {z3 : Int}, HR z0 → zR z1 → zR z2 → zR z3 → LfI (k16 z0 z1 z2 z3) (k16F (zh z0) (zI z1) (zI z2) (zI z3))) (hk50 : ∀ {z0 : IH} {z1 : Int} {z2 : Int} {z3 : Int} {z4 : Int} {z5 : Int}, HR z0 → zR z1 → zR z2 → zR z3 → zR z4 → zR z5 → LfI (k50 z0 z1 z2 z3 z4 z5) (k50F (zh z0) (zI z1) (zI z2) (zI z3) (zI z4) (zI z5))) (hah : HR ah) (hv1 : zR v1) (hv2 : zR v2) (hv3 : zR v3) (hv4 : zR v4) (hv5 : zR v5) : LfI (G_X12_spells_136 N k5 k16 k50 ah v1 v2 v3 v4 v5) (F_X12_spells_136 N k5F k16F k50F (zh ah) (zI v1) (zI v2) (zI v3) (zI v4) (zI v5)) := by
  unfold G_X12_spells_136 F_X12_spells_136
  refine Lg.letv (zwr (zadd rfl rfl)) wr_R (fun v5_136 hv5_136 => ?_)
  exact (hk50 hah hv1 hv2 hv3 hv4 hv5_136)
theorem l_X12_spells_50 {N : Nat} {k5 : IH → Int → Int → Option (Int × IH)} {k5F : AH → Int32 → Int32 → Option (Int32 × AH)} {k16 : IH → Int → Int → Int → Option (Int × IH)} {k16F : AH → Int32 → Int32 → Int32 → Option (Int32 × AH)} (hk5 : ∀ {z0 : IH} {z1 : Int} {z2 : Int}, HR z0 → zR z1 → zR z2 → LfI (k5 z0 z1 z2) (k5F (zh z0) (zI z1) (zI z2))) (hk16 : ∀ {z0 : IH} {z1 : Int} {z2 : Int} {z3 : Int}, HR z0 → zR z1 → zR z2 → zR z3 → LfI (k16 z0 z1 z2 z3) (k16F (zh z0) (zI z1) (zI z2) (zI z3))) : ∀ (n : Nat) {ah : IH} {v1 : Int} {v2 : Int} {v3 : Int} {v4 : Int} {v5 : Int}, HR ah → zR v1 → zR v2 → zR v3 → zR v4 → zR v5 → LfI (G_X12_spells_50 N k5 k16 n ah v1 v2 v3 v4 v5) (F_X12_spells_50 N k5F k16F n (zh ah) (zI v1) (zI v2) (zI v3) (zI v4) (zI v5)) := by
  intro n
  induction n with
  | zero => intros; exact Lg.none
  | succ n ih =>
    intro ah v1 v2 v3 v4 v5 hah hv1 hv2 hv3 hv4 hv5
    unfold G_X12_spells_50 F_X12_spells_50
    refine Lg.le rfl rfl (hah _ _) hv2 ?_ ?_
    · exact (l_X12_spells_142 hk5 hk16 hah hv1 hv2 hv3 hv4)
    · refine Lg.g rfl rfl (by decide) (fun g1 => ?_)
      refine Lg.le (zlk rfl g1) rfl (hah _ _) hv5 ?_ ?_
      · exact (l_X12_spells_142 hk5 hk16 hah hv1 hv2 hv3 hv4)
      · refine Lg.g rfl rfl (by decide) (fun g2 => ?_)
        refine Lg.g rfl rfl (by decide) (fun g3 => ?_)
        refine Lg.letc (cadd rfl (cadd (cmul (zix rfl g2) rfl) (zix rfl g3))) (fun x78 => ?_)
        refine Lg.b (l_X12_fits hah hv1 hv3) (fun r81 a81 hr81 ha81 => ?_)
        refine Lg.eq rfl rfl hr81 (zRd rfl) ?_ ?_
        · exact (l_X12_spells_136 hk5 hk16 ih ha81 hv1 hv2 hv3 hv4 hv5)
        · refine Lg.g rfl rfl (by decide) (fun g4 => ?_)
          refine Lg.g rfl rfl (by decide) (fun g5 => ?_)
          refine Lg.letc (cadd rfl (cadd (cmul (zix rfl g4) rfl) (zix rfl g5))) (fun x97 => ?_)
          refine Lg.g rfl rfl (by decide) (fun g6 => ?_)
          refine Lg.g rfl rfl (by decide) (fun g7 => ?_)
          refine Lg.letc (cadd rfl (cadd (cmul (zix rfl g6) rfl) (zix rfl g7))) (fun x112 => ?_)
          refine Lg.g rfl rfl (by decide) (fun g8 => ?_)
          refine Lg.letc (cadd rfl (zix rfl g8)) (fun x115 => ?_)
          refine Lg.g rfl rfl (by decide) (fun g9 => ?_)
          refine Lg.g rfl rfl (by decide) (fun g10 => ?_)
          refine Lg.letc (cadd rfl (cadd (cmul (zix rfl g9) rfl) (zix rfl g10))) (fun x125 => ?_)
          refine Lg.g (zadd rfl rfl) rfl (by decide) (fun g11 => ?_)
          refine Lg.b (by rw [(show ((zh a81 x97 1) + (zh a81 x115 (Int32.toNatClampNeg ((zI v3) + (zh a81 x125 2))))) = zI (wr ((a81 x97 1) + (a81 x115 (v3 + (a81 x125 2))))) from (zwr (zadd rfl (zlk (zadd rfl rfl) g11))))]; exact l_X12_less ha81 hv4 wr_R) (fun r131 a131 hr131 ha131 => ?_)
          refine Lg.letv rfl hr131 (fun v4_134 hv4_134 => ?_)
          exact (l_X12_spells_136 hk5 hk16 ih ha131 hv1 hv2 hv3 hv4_134 hv5)
theorem l_X12_spells_45 {N : Nat} {k5 : IH → Int → Int → Option (Int × IH)} {k5F : AH → Int32 → Int32 → Option (Int32 × AH)} {k16 : IH → Int → Int → Int → Option (Int × IH)} {k16F : AH → Int32 → Int32 → Int32 → Option (Int32 × AH)} {ah : IH} {v1 : Int} {v2 : Int} {v3 : Int} {s0 : Int} (hk5 : ∀ {z0 : IH} {z1 : Int} {z2 : Int}, HR z0 → zR z1 → zR z2 → LfI (k5 z0 z1 z2) (k5F (zh z0) (zI z1) (zI z2))) (hk16 : ∀ {z0 : IH} {z1 : Int} {z2 : Int} {z3 : Int}, HR z0 → zR z1 → zR z2 → zR z3 → LfI (k16 z0 z1 z2 z3) (k16F (zh z0) (zI z1) (zI z2) (zI z3))) (hah : HR ah) (hv1 : zR v1) (hv2 : zR v2) (hv3 : zR v3) (hs0 : zR s0) : LfI (G_X12_spells_45 N k5 k16 ah v1 v2 v3 s0) (F_X12_spells_45 N k5F k16F (zh ah) (zI v1) (zI v2) (zI v3) (zI s0)) := by
  unfold G_X12_spells_45 F_X12_spells_45
  refine Lg.letv rfl hs0 (fun v4_45 hv4_45 => ?_)
  refine Lg.letv rfl (zRd rfl) (fun v5_48 hv5_48 => ?_)
  exact (l_X12_spells_50 hk5 hk16 _ hah hv1 hv2 hv3 hv4_45 hv5_48)
theorem l_X12_spells_42 {N : Nat} {k5 : IH → Int → Int → Option (Int × IH)} {k5F : AH → Int32 → Int32 → Option (Int32 × AH)} {k16 : IH → Int → Int → Int → Option (Int × IH)} {k16F : AH → Int32 → Int32 → Int32 → Option (Int32 × AH)} {ah : IH} {v1 : Int} {v2 : Int} {v3 : Int} (hk5 : ∀ {z0 : IH} {z1 : Int} {z2 : Int}, HR z0 → zR z1 → zR z2 → LfI (k5 z0 z1 z2) (k5F (zh z0) (zI z1) (zI z2))) (hk16 : ∀ {z0 : IH} {z1 : Int} {z2 : Int} {z3 : Int}, HR z0 → zR z1 → zR z2 → zR z3 → LfI (k16 z0 z1 z2 z3) (k16F (zh z0) (zI z1) (zI z2) (zI z3))) (hah : HR ah) (hv1 : zR v1) (hv2 : zR v2) (hv3 : zR v3) : LfI (G_X12_spells_42 N k5 k16 ah v1 v2 v3) (F_X12_spells_42 N k5F k16F (zh ah) (zI v1) (zI v2) (zI v3)) := by
  unfold G_X12_spells_42 F_X12_spells_42
  exact (l_X12_spells_45 hk5 hk16 hah hv1 hv2 hv3 (zRd rfl))
theorem l_X12_spells_16 {N : Nat} {k5 : IH → Int → Int → Option (Int × IH)} {k5F : AH → Int32 → Int32 → Option (Int32 × AH)} (hk5 : ∀ {z0 : IH} {z1 : Int} {z2 : Int}, HR z0 → zR z1 → zR z2 → LfI (k5 z0 z1 z2) (k5F (zh z0) (zI z1) (zI z2))) : ∀ (n : Nat) {ah : IH} {v1 : Int} {v2 : Int} {v3 : Int}, HR ah → zR v1 → zR v2 → zR v3 → LfI (G_X12_spells_16 N k5 n ah v1 v2 v3) (F_X12_spells_16 N k5F n (zh ah) (zI v1) (zI v2) (zI v3)) := by
  intro n
  induction n with
  | zero => intros; exact Lg.none
  | succ n ih =>
    intro ah v1 v2 v3 hah hv1 hv2 hv3
    unfold G_X12_spells_16 F_X12_spells_16
    refine Lg.lt rfl rfl hv3 (zRd rfl) ?_ ?_
    · refine Lg.letv (zwr (zadd rfl rfl)) wr_R (fun v2_158 hv2_158 => ?_)
      exact (hk5 hah hv1 hv2_158)
    · refine Lg.eq rfl rfl hv2 (hah _ _) ?_ ?_
      · refine Lg.g rfl rfl (by decide) (fun g1 => ?_)
        refine Lg.eq rfl (zlk rfl g1) hv3 (hah _ _) ?_ ?_
        · exact (l_X12_spells_45 hk5 ih hah hv1 hv2 hv3 (zRd rfl))
        · exact (l_X12_spells_42 hk5 ih hah hv1 hv2 hv3)
      · exact (l_X12_spells_42 hk5 ih hah hv1 hv2 hv3)
theorem l_X12_spells_5 {N : Nat}  : ∀ (n : Nat) {ah : IH} {v1 : Int} {v2 : Int}, HR ah → zR v1 → zR v2 → LfI (G_X12_spells_5 N n ah v1 v2) (F_X12_spells_5 N n (zh ah) (zI v1) (zI v2)) := by
  intro n
  induction n with
  | zero => intros; exact Lg.none
  | succ n ih =>
    intro ah v1 v2 hah hv1 hv2
    unfold G_X12_spells_5 F_X12_spells_5
    refine Lg.lt rfl rfl hv2 (zRd rfl) ?_ ?_
    · refine Lg.letc (cadd rfl rfl) (fun x169 => ?_)
      exact LgI.ret rfl (hah _ _) hah
    · refine Lg.g rfl rfl (by decide) (fun g1 => ?_)
      refine Lg.letv (zlk rfl g1) (hah _ _) (fun v3_15 hv3_15 => ?_)
      exact (l_X12_spells_16 ih _ hah hv1 hv2 hv3_15)
theorem l_X12_spells {N : Nat} {ah : IH} {p1 : Int} (hah : HR ah) (hp1 : zR p1) : LfI (G_X12_spells N ah p1) (F_X12_spells N (zh ah) (zI p1)) := by
  unfold G_X12_spells F_X12_spells
  refine Lg.letv rfl (hah _ _) (fun v2_4 hv2_4 => ?_)
  exact (l_X12_spells_5 _ hah hp1 hv2_4)
theorem l_X12_boundOf {N : Nat} {ah : IH} {p1 : Int} (hah : HR ah) (hp1 : zR p1) : LfI (G_X12_boundOf N ah p1) (F_X12_boundOf N (zh ah) (zI p1)) := by
  unfold G_X12_boundOf F_X12_boundOf
  refine Lg.g rfl rfl (by decide) (fun g1 => ?_)
  refine Lg.z (by decide) ?_
  refine Lg.g (zdiv rfl rfl hp1 (by decide)) rfl (by decide) (fun g2 => ?_)
  refine Lg.z (by decide) ?_
  refine Lg.g (zsub rfl (zmul (zdiv rfl rfl hp1 (by decide)) rfl)) rfl (by decide) (fun g3 => ?_)
  exact LgI.ret (zwr (zadd (zadd (zlk rfl g1) (zlk (zdiv rfl rfl hp1 (by decide)) g2)) (zlk (zsub rfl (zmul (zdiv rfl rfl hp1 (by decide)) rfl)) g3))) wr_R hah
theorem l_X12_waitsFor_60 {N : Nat} {ah : IH} {v1 : Int} {v2 : Int} (hah : HR ah) (hv1 : zR v1) (hv2 : zR v2) : LfV (G_X12_waitsFor_60 N ah v1 v2) (F_X12_waitsFor_60 N (zh ah) (zI v1) (zI v2)) := by
  unfold G_X12_waitsFor_60 F_X12_waitsFor_60
  refine Lg.g rfl rfl (by decide) (fun g1 => ?_)
  refine Lg.wrt hah rfl (zix rfl g1) rfl (zRd rfl) (fun a66 ha66 => ?_)
  refine Lg.g rfl rfl (by decide) (fun g2 => ?_)
  refine Lg.wrt ha66 rfl (zix rfl g2) rfl hv2 (fun a73 ha73 => ?_)
  exact LgV.ret ha73
theorem l_X12_waitsFor_31 {N : Nat} {ah : IH} {v1 : Int} {v2 : Int} (hah : HR ah) (hv1 : zR v1) (hv2 : zR v2) : LfV (G_X12_waitsFor_31 N ah v1 v2) (F_X12_waitsFor_31 N (zh ah) (zI v1) (zI v2)) := by
  unfold G_X12_waitsFor_31 F_X12_waitsFor_31
  refine Lg.g rfl rfl (by decide) (fun g1 => ?_)
  refine Lg.eq (zlk rfl g1) rfl (hah _ _) (zRd rfl) ?_ ?_
  · refine Lg.g rfl rfl (by decide) (fun g2 => ?_)
    refine Lg.wrt hah rfl (zix rfl g2) rfl hv1 (fun a49 ha49 => ?_)
    refine Lg.wrt ha49 rfl rfl (zwr (zadd rfl rfl)) wr_R (fun a57 ha57 => ?_)
    exact (l_X12_waitsFor_60 ha57 hv1 hv2)
  · exact (l_X12_waitsFor_60 hah hv1 hv2)
theorem l_X12_waitsFor {N : Nat} {ah : IH} {p1 : Int} {p2 : Int} (hah : HR ah) (hp1 : zR p1) (hp2 : zR p2) : LfV (G_X12_waitsFor N ah p1 p2) (F_X12_waitsFor N (zh ah) (zI p1) (zI p2)) := by
  unfold G_X12_waitsFor F_X12_waitsFor
  refine Lg.g rfl rfl (by decide) (fun g1 => ?_)
  refine Lg.eq (zlk rfl g1) rfl (hah _ _) (zRd rfl) ?_ ?_
  · exact LgV.ret hah
  · refine Lg.g rfl rfl (by decide) (fun g2 => ?_)
    refine Lg.eq (zlk rfl g2) rfl (hah _ _) (zRd rfl) ?_ ?_
    · refine Lg.g rfl rfl (by decide) (fun g3 => ?_)
      refine Lg.lt rfl (zlk rfl g3) hp2 (hah _ _) ?_ ?_
      · exact (l_X12_waitsFor_31 hah hp1 hp2)
      · exact LgV.ret hah
    · exact (l_X12_waitsFor_31 hah hp1 hp2)
theorem l_X12_firstState_112 {N : Nat} {k4 : IH → Int → Int → Option (Int × IH)} {k4F : AH → Int32 → Int32 → Option (Int32 × AH)} {ah : IH} {v1 : Int} {v2 : Int} (hk4 : ∀ {z0 : IH} {z1 : Int} {z2 : Int}, HR z0 → zR z1 → zR z2 → LfI (k4 z0 z1 z2) (k4F (zh z0) (zI z1) (zI z2))) (hah : HR ah) (hv1 : zR v1) (hv2 : zR v2) : LfI (G_X12_firstState_112 N k4 ah v1 v2) (F_X12_firstState_112 N k4F (zh ah) (zI v1) (zI v2)) := by
  unfold G_X12_firstState_112 F_X12_firstState_112
  refine Lg.letv (zwr (zadd rfl rfl)) wr_R (fun v2_112 hv2_112 => ?_)
  exact (hk4 hah hv1 hv2_112)
theorem l_X12_firstState_110 {N : Nat} {k4 : IH → Int → Int → Option (Int × IH)} {k4F : AH → Int32 → Int32 → Option (Int32 × AH)} {ah : IH} {v2 : Int} (hk4 : ∀ {z0 : IH} {z1 : Int} {z2 : Int}, HR z0 → zR z1 → zR z2 → LfI (k4 z0 z1 z2) (k4F (zh z0) (zI z1) (zI z2))) (hah : HR ah) (hv2 : zR v2) : LfI (G_X12_firstState_110 N k4 ah v2) (F_X12_firstState_110 N k4F (zh ah) (zI v2)) := by
  unfold G_X12_firstState_110 F_X12_firstState_110
  refine Lg.letv rfl hv2 (fun v1_111 hv1_111 => ?_)
  exact (l_X12_firstState_112 hk4 hah hv1_111 hv2)
theorem l_X12_firstState_4 {N : Nat}  : ∀ (n : Nat) {ah : IH} {v1 : Int} {v2 : Int}, HR ah → zR v1 → zR v2 → LfI (G_X12_firstState_4 N n ah v1 v2) (F_X12_firstState_4 N n (zh ah) (zI v1) (zI v2)) := by
  intro n
  induction n with
  | zero => intros; exact Lg.none
  | succ n ih =>
    intro ah v1 v2 hah hv1 hv2
    unfold G_X12_firstState_4 F_X12_firstState_4
    refine Lg.le rfl rfl (hah _ _) hv2 ?_ ?_
    · exact LgI.ret rfl hv1 hah
    · refine Lg.eq rfl rfl hv1 (zRd rfl) ?_ ?_
      · refine Lg.letv rfl hv2 (fun v1_18 hv1_18 => ?_)
        exact (l_X12_firstState_112 ih hah hv1_18 hv2)
      · refine Lg.g rfl rfl (by decide) (fun g1 => ?_)
        refine Lg.b (by rw [(show (zh ah 31 (Int32.toNatClampNeg (zI v2))) = zI (ah 31 v2) from (zlk rfl g1))]; exact l_X12_boundOf hah (hah _ _)) (fun r29 a29 hr29 ha29 => ?_)
        refine Lg.letv rfl hr29 (fun v3_32 hv3_32 => ?_)
        refine Lg.g rfl rfl (by decide) (fun g2 => ?_)
        refine Lg.b (by rw [(show (zh a29 31 (Int32.toNatClampNeg (zI v1))) = zI (a29 31 v1) from (zlk rfl g2))]; exact l_X12_boundOf ha29 (ha29 _ _)) (fun r40 a40 hr40 ha40 => ?_)
        refine Lg.letv rfl hr40 (fun v4_43 hv4_43 => ?_)
        refine Lg.g rfl rfl (by decide) (fun g3 => ?_)
        refine Lg.z (by decide) ?_
        refine Lg.letv (zdiv (zlk rfl g3) rfl (ha40 _ _) (by decide)) (tdiv_R (ha40 _ _) (by decide)) (fun v5_55 hv5_55 => ?_)
        refine Lg.g rfl rfl (by decide) (fun g4 => ?_)
        refine Lg.z (by decide) ?_
        refine Lg.letv (zdiv (zlk rfl g4) rfl (ha40 _ _) (by decide)) (tdiv_R (ha40 _ _) (by decide)) (fun v6_67 hv6_67 => ?_)
        refine Lg.lt rfl rfl hv3_32 hv4_43 ?_ ?_
        · exact (l_X12_firstState_110 ih ha40 hv2)
        · refine Lg.eq rfl rfl hv3_32 hv4_43 ?_ ?_
          · refine Lg.lt rfl rfl hv6_67 hv5_55 ?_ ?_
            · exact (l_X12_firstState_110 ih ha40 hv2)
            · refine Lg.eq rfl rfl hv5_55 hv6_67 ?_ ?_
              · refine Lg.g rfl rfl (by decide) (fun g5 => ?_)
                refine Lg.g rfl rfl (by decide) (fun g6 => ?_)
                refine Lg.le (zlk rfl g6) (zlk rfl g5) (ha40 _ _) (ha40 _ _) ?_ ?_
                · exact (l_X12_firstState_112 ih ha40 hv1 hv2)
                · exact (l_X12_firstState_110 ih ha40 hv2)
              · exact (l_X12_firstState_112 ih ha40 hv1 hv2)
          · exact (l_X12_firstState_112 ih ha40 hv1 hv2)
theorem l_X12_firstState {N : Nat} {ah : IH} (hah : HR ah) : LfI (G_X12_firstState N ah) (F_X12_firstState N (zh ah)) := by
  unfold G_X12_firstState F_X12_firstState
  refine Lg.letv rfl (zRd rfl) (fun v1_1 hv1_1 => ?_)
  refine Lg.letv rfl (zRd rfl) (fun v2_3 hv2_3 => ?_)
  exact (l_X12_firstState_4 _ hah hv1_1 hv2_3)
theorem l_X12_firstAnswer_43 {N : Nat} {k4 : IH → Int → Int → Option (Int × IH)} {k4F : AH → Int32 → Int32 → Option (Int32 × AH)} {ah : IH} {v1 : Int} {v2 : Int} (hk4 : ∀ {z0 : IH} {z1 : Int} {z2 : Int}, HR z0 → zR z1 → zR z2 → LfI (k4 z0 z1 z2) (k4F (zh z0) (zI z1) (zI z2))) (hah : HR ah) (hv1 : zR v1) (hv2 : zR v2) : LfI (G_X12_firstAnswer_43 N k4 ah v1 v2) (F_X12_firstAnswer_43 N k4F (zh ah) (zI v1) (zI v2)) := by
  unfold G_X12_firstAnswer_43 F_X12_firstAnswer_43
  refine Lg.letv (zwr (zadd rfl rfl)) wr_R (fun v2_43 hv2_43 => ?_)
  exact (hk4 hah hv1 hv2_43)
theorem l_X12_firstAnswer_41 {N : Nat} {k4 : IH → Int → Int → Option (Int × IH)} {k4F : AH → Int32 → Int32 → Option (Int32 × AH)} {ah : IH} {v2 : Int} (hk4 : ∀ {z0 : IH} {z1 : Int} {z2 : Int}, HR z0 → zR z1 → zR z2 → LfI (k4 z0 z1 z2) (k4F (zh z0) (zI z1) (zI z2))) (hah : HR ah) (hv2 : zR v2) : LfI (G_X12_firstAnswer_41 N k4 ah v2) (F_X12_firstAnswer_41 N k4F (zh ah) (zI v2)) := by
  unfold G_X12_firstAnswer_41 F_X12_firstAnswer_41
  refine Lg.letv rfl hv2 (fun v1_42 hv1_42 => ?_)
  exact (l_X12_firstAnswer_43 hk4 hah hv1_42 hv2)
theorem l_X12_firstAnswer_4 {N : Nat}  : ∀ (n : Nat) {ah : IH} {v1 : Int} {v2 : Int}, HR ah → zR v1 → zR v2 → LfI (G_X12_firstAnswer_4 N n ah v1 v2) (F_X12_firstAnswer_4 N n (zh ah) (zI v1) (zI v2)) := by
  intro n
  induction n with
  | zero => intros; exact Lg.none
  | succ n ih =>
    intro ah v1 v2 hah hv1 hv2
    unfold G_X12_firstAnswer_4 F_X12_firstAnswer_4
    refine Lg.le rfl rfl (hah _ _) hv2 ?_ ?_
    · exact LgI.ret rfl hv1 hah
    · refine Lg.g rfl rfl (by decide) (fun g1 => ?_)
      refine Lg.lt (zlk rfl g1) rfl (hah _ _) (zRd rfl) ?_ ?_
      · exact (l_X12_firstAnswer_43 ih hah hv1 hv2)
      · refine Lg.eq rfl rfl hv1 (zRd rfl) ?_ ?_
        · exact (l_X12_firstAnswer_41 ih hah hv2)
        · refine Lg.g rfl rfl (by decide) (fun g2 => ?_)
          refine Lg.g rfl rfl (by decide) (fun g3 => ?_)
          refine Lg.le (zlk rfl g3) (zlk rfl g2) (hah _ _) (hah _ _) ?_ ?_
          · exact (l_X12_firstAnswer_43 ih hah hv1 hv2)
          · exact (l_X12_firstAnswer_41 ih hah hv2)
theorem l_X12_firstAnswer {N : Nat} {ah : IH} (hah : HR ah) : LfI (G_X12_firstAnswer N ah) (F_X12_firstAnswer N (zh ah)) := by
  unfold G_X12_firstAnswer F_X12_firstAnswer
  refine Lg.letv rfl (zRd rfl) (fun v1_1 hv1_1 => ?_)
  refine Lg.letv rfl (zRd rfl) (fun v2_3 hv2_3 => ?_)
  exact (l_X12_firstAnswer_4 _ hah hv1_1 hv2_3)
theorem l_X12_opens_220 {N : Nat} {k115 : IH → Int → Int → Int → Int → Option IH} {k115F : AH → Int32 → Int32 → Int32 → Int32 → Option AH} {ah : IH} {v2 : Int} {v3 : Int} {v4 : Int} {v5 : Int} (hk115 : ∀ {z0 : IH} {z1 : Int} {z2 : Int} {z3 : Int} {z4 : Int}, HR z0 → zR z1 → zR z2 → zR z3 → zR z4 → LfV (k115 z0 z1 z2 z3 z4) (k115F (zh z0) (zI z1) (zI z2) (zI z3) (zI z4))) (hah : HR ah) (hv2 : zR v2) (hv3 : zR v3) (hv4 : zR v4) (hv5 : zR v5) : LfV (G_X12_opens_220 N k115 ah v2 v3 v4 v5) (F_X12_opens_220 N k115F (zh ah) (zI v2) (zI v3) (zI v4) (zI v5)) := by
  unfold G_X12_opens_220 F_X12_opens_220
  refine Lg.letv (zwr (zadd rfl rfl)) wr_R (fun v5_220 hv5_220 => ?_)
  exact (hk115 hah hv2 hv3 hv4 hv5_220)
theorem l_X12_opens_188 {N : Nat} {k115 : IH → Int → Int → Int → Int → Option IH} {k115F : AH → Int32 → Int32 → Int32 → Int32 → Option AH} {ah : IH} {v2 : Int} {v3 : Int} {v4 : Int} {v5 : Int} {x6 : Nat} {v7 : Int} (hk115 : ∀ {z0 : IH} {z1 : Int} {z2 : Int} {z3 : Int} {z4 : Int}, HR z0 → zR z1 → zR z2 → zR z3 → zR z4 → LfV (k115 z0 z1 z2 z3 z4) (k115F (zh z0) (zI z1) (zI z2) (zI z3) (zI z4))) (hah : HR ah) (hv2 : zR v2) (hv3 : zR v3) (hv4 : zR v4) (hv5 : zR v5) (hv7 : zR v7) : LfV (G_X12_opens_188 N k115 ah v2 v3 v4 v5 (x6 : Nat) v7) (F_X12_opens_188 N k115F (zh ah) (zI v2) (zI v3) (zI v4) (zI v5) x6 (zI v7)) := by
  unfold G_X12_opens_188 F_X12_opens_188
  refine Lg.eq rfl rfl hv7 (zRd rfl) ?_ ?_
  · exact (l_X12_opens_220 hk115 hah hv2 hv3 hv4 hv5)
  · refine Lg.g rfl rfl (by decide) (fun g1 => ?_)
    refine Lg.bv (by rw [(show (((zh ah x6 0) * (721 : Int32)) + (zI v7)) = zI (wr (((ah x6 0) * 721) + v7)) from (zwr (zadd (zmul rfl rfl) rfl))), (show ((zh ah 29 (Int32.toNatClampNeg (zI v2))) + (zh ah x6 1)) = zI (wr ((ah 29 v2) + (ah x6 1))) from (zwr (zadd (zlk rfl g1) rfl)))]; exact l_X12_waitsFor hah wr_R wr_R) (fun a217 ha217 => ?_)
    exact (l_X12_opens_220 hk115 ha217 hv2 hv3 hv4 hv5)
theorem l_X12_opens_152 {N : Nat} {k115 : IH → Int → Int → Int → Int → Option IH} {k115F : AH → Int32 → Int32 → Int32 → Int32 → Option AH} (hk115 : ∀ {z0 : IH} {z1 : Int} {z2 : Int} {z3 : Int} {z4 : Int}, HR z0 → zR z1 → zR z2 → zR z3 → zR z4 → LfV (k115 z0 z1 z2 z3 z4) (k115F (zh z0) (zI z1) (zI z2) (zI z3) (zI z4))) : ∀ (n : Nat) {ah : IH} {v2 : Int} {v3 : Int} {v4 : Int} {v5 : Int} {x6 : Nat} {v7 : Int} {v8 : Int}, HR ah → zR v2 → zR v3 → zR v4 → zR v5 → zR v7 → zR v8 → LfV (G_X12_opens_152 N k115 n ah v2 v3 v4 v5 (x6 : Nat) v7 v8) (F_X12_opens_152 N k115F n (zh ah) (zI v2) (zI v3) (zI v4) (zI v5) x6 (zI v7) (zI v8)) := by
  intro n
  induction n with
  | zero => intros; exact Lg.none
  | succ n ih =>
    intro ah v2 v3 v4 v5 x6 v7 v8 hah hv2 hv3 hv4 hv5 hv7 hv8
    unfold G_X12_opens_152 F_X12_opens_152
    refine Lg.le rfl rfl (hah _ _) hv8 ?_ ?_
    · exact (l_X12_opens_188 hk115 hah hv2 hv3 hv4 hv5 hv7)
    · refine Lg.eq rfl rfl hv7 (zRd rfl) ?_ ?_
      · exact (l_X12_opens_188 hk115 hah hv2 hv3 hv4 hv5 hv7)
      · refine Lg.g (zadd rfl rfl) rfl (by decide) (fun g1 => ?_)
        refine Lg.b (by rw [(show (zh ah x6 (Int32.toNatClampNeg ((3 : Int32) + (zI v8)))) = zI (ah x6 (3 + v8)) from (zlk (zadd rfl rfl) g1))]; exact l_X12_childOf hah hv7 (hah _ _)) (fun r177 a177 hr177 ha177 => ?_)
        refine Lg.letv rfl hr177 (fun v7_180 hv7_180 => ?_)
        refine Lg.letv (zwr (zadd rfl rfl)) wr_R (fun v8_182 hv8_182 => ?_)
        exact (ih ha177 hv2 hv3 hv4 hv5 hv7_180 hv8_182)
theorem l_X12_opens_115 {N : Nat}  : ∀ (n : Nat) {ah : IH} {v2 : Int} {v3 : Int} {v4 : Int} {v5 : Int}, HR ah → zR v2 → zR v3 → zR v4 → zR v5 → LfV (G_X12_opens_115 N n ah v2 v3 v4 v5) (F_X12_opens_115 N n (zh ah) (zI v2) (zI v3) (zI v4) (zI v5)) := by
  intro n
  induction n with
  | zero => intros; exact Lg.none
  | succ n ih =>
    intro ah v2 v3 v4 v5 hah hv2 hv3 hv4 hv5
    unfold G_X12_opens_115 F_X12_opens_115
    refine Lg.le rfl rfl (hah _ _) hv3 ?_ ?_
    · exact LgV.ret hah
    · refine Lg.g rfl rfl (by decide) (fun g1 => ?_)
      refine Lg.le (zlk rfl g1) rfl (hah _ _) hv5 ?_ ?_
      · exact LgV.ret hah
      · refine Lg.g rfl rfl (by decide) (fun g2 => ?_)
        refine Lg.g rfl rfl (by decide) (fun g3 => ?_)
        refine Lg.letc (cadd rfl (cadd (cmul (zix rfl g2) rfl) (zix rfl g3))) (fun x142 => ?_)
        refine Lg.letv rfl hv4 (fun v7_147 hv7_147 => ?_)
        refine Lg.letv rfl (zRd rfl) (fun v8_150 hv8_150 => ?_)
        exact (l_X12_opens_152 ih _ hah hv2 hv3 hv4 hv5 hv7_147 hv8_150)
theorem l_X12_opens_112 {N : Nat} {ah : IH} {v2 : Int} {v3 : Int} {v4 : Int} (hah : HR ah) (hv2 : zR v2) (hv3 : zR v3) (hv4 : zR v4) : LfV (G_X12_opens_112 N ah v2 v3 v4) (F_X12_opens_112 N (zh ah) (zI v2) (zI v3) (zI v4)) := by
  unfold G_X12_opens_112 F_X12_opens_112
  refine Lg.letv rfl (zRd rfl) (fun v5_113 hv5_113 => ?_)
  exact (l_X12_opens_115 _ hah hv2 hv3 hv4 hv5_113)
theorem l_X12_opens {N : Nat} {ah : IH} {p1 : Int} (hah : HR ah) (hp1 : zR p1) : LfV (G_X12_opens N ah p1) (F_X12_opens N (zh ah) (zI p1)) := by
  unfold G_X12_opens F_X12_opens
  refine Lg.g rfl rfl (by decide) (fun g1 => ?_)
  refine Lg.letv (zlk rfl g1) (hah _ _) (fun v2_6 hv2_6 => ?_)
  refine Lg.z (by decide) ?_
  refine Lg.letv (zdiv rfl rfl hv2_6 (by decide)) (tdiv_R hv2_6 (by decide)) (fun v3_12 hv3_12 => ?_)
  refine Lg.z (by decide) ?_
  refine Lg.letv (zwr (zsub rfl (zmul (zdiv rfl rfl hv2_6 (by decide)) rfl))) wr_R (fun v4_18 hv4_18 => ?_)
  refine Lg.wrt hah rfl rfl (zwr (zsub rfl rfl)) wr_R (fun a27 ha27 => ?_)
  refine Lg.g rfl rfl (by decide) (fun g2 => ?_)
  refine Lg.g rfl rfl (by decide) (fun g3 => ?_)
  refine Lg.wrt ha27 rfl (zix rfl g3) (zlk rfl g2) (ha27 _ _) (fun a44 ha44 => ?_)
  refine Lg.g rfl rfl (by decide) (fun g4 => ?_)
  refine Lg.wrt ha44 rfl (zix rfl g4) rfl (zRd rfl) (fun a51 ha51 => ?_)
  refine Lg.wrt ha51 rfl rfl (zwr (zadd rfl rfl)) wr_R (fun a59 ha59 => ?_)
  refine Lg.eq rfl rfl hv3_12 (ha59 _ _) ?_ ?_
  · refine Lg.g rfl rfl (by decide) (fun g5 => ?_)
    refine Lg.eq (zlk rfl g5) rfl (ha59 _ _) (zRd rfl) ?_ ?_
    · exact (l_X12_opens_112 ha59 hv2_6 hv3_12 hv4_18)
    · refine Lg.g rfl rfl (by decide) (fun g6 => ?_)
      refine Lg.g rfl rfl (by decide) (fun g7 => ?_)
      refine Lg.g rfl rfl (by decide) (fun g8 => ?_)
      refine Lg.g (zlk rfl g8) rfl (by decide) (fun g9 => ?_)
      refine Lg.g (zlk rfl g8) rfl (by decide) (fun g10 => ?_)
      refine Lg.wrt ha59 rfl (zix (zlk rfl g8) g10) (zwr (zadd (zlk rfl g7) (zlk (zlk rfl g8) g10))) wr_R (fun a111 ha111 => ?_)
      exact (l_X12_opens_112 ha111 hv2_6 hv3_12 hv4_18)
  · exact (l_X12_opens_112 ha59 hv2_6 hv3_12 hv4_18)
theorem l_X12_searches_201 {N : Nat} {k80 : IH → Int → Option IH} {k80F : AH → Int32 → Option AH} {ah : IH} {v1 : Int} (hk80 : ∀ {z0 : IH} {z1 : Int}, HR z0 → zR z1 → LfV (k80 z0 z1) (k80F (zh z0) (zI z1))) (hah : HR ah) (hv1 : zR v1) : LfV (G_X12_searches_201 N k80 ah v1) (F_X12_searches_201 N k80F (zh ah) (zI v1)) := by
  unfold G_X12_searches_201 F_X12_searches_201
  exact (hk80 hah hv1)
theorem l_X12_searches_196 {N : Nat} {k80 : IH → Int → Option IH} {k80F : AH → Int32 → Option AH} {ah : IH} {v1 : Int} {v3 : Int} (hk80 : ∀ {z0 : IH} {z1 : Int}, HR z0 → zR z1 → LfV (k80 z0 z1) (k80F (zh z0) (zI z1))) (hah : HR ah) (hv1 : zR v1) (hv3 : zR v3) : LfV (G_X12_searches_196 N k80 ah v1 v3) (F_X12_searches_196 N k80F (zh ah) (zI v1) (zI v3)) := by
  unfold G_X12_searches_196 F_X12_searches_196
  refine Lg.bv (l_X12_opens hah hv3) (fun a198 ha198 => ?_)
  exact (l_X12_searches_201 hk80 ha198 hv1)
theorem l_X12_searches_138 {N : Nat} {k80 : IH → Int → Option IH} {k80F : AH → Int32 → Option AH} {ah : IH} {v1 : Int} {v2 : Int} (hk80 : ∀ {z0 : IH} {z1 : Int}, HR z0 → zR z1 → LfV (k80 z0 z1) (k80F (zh z0) (zI z1))) (hah : HR ah) (hv1 : zR v1) (hv2 : zR v2) : LfV (G_X12_searches_138 N k80 ah v1 v2) (F_X12_searches_138 N k80F (zh ah) (zI v1) (zI v2)) := by
  unfold G_X12_searches_138 F_X12_searches_138
  refine Lg.g rfl rfl (by decide) (fun g1 => ?_)
  refine Lg.wrt hah rfl (zix rfl g1) rfl hv2 (fun a147 ha147 => ?_)
  refine Lg.g rfl rfl (by decide) (fun g2 => ?_)
  refine Lg.g rfl rfl (by decide) (fun g3 => ?_)
  refine Lg.wrt ha147 rfl (zix rfl g3) (zlk rfl g2) (ha147 _ _) (fun a162 ha162 => ?_)
  refine Lg.g rfl rfl (by decide) (fun g4 => ?_)
  refine Lg.wrt ha162 rfl (zix rfl g4) rfl (ha162 _ _) (fun a175 ha175 => ?_)
  refine Lg.wrt ha175 rfl rfl (zwr (zadd rfl rfl)) wr_R (fun a183 ha183 => ?_)
  refine Lg.g rfl rfl (by decide) (fun g5 => ?_)
  refine Lg.wrt ha183 rfl (zix rfl g5) rfl (zRd rfl) (fun a192 ha192 => ?_)
  exact (l_X12_searches_201 hk80 ha192 hv1)
theorem l_X12_searches_109 {N : Nat} {k80 : IH → Int → Option IH} {k80F : AH → Int32 → Option AH} {ah : IH} {v1 : Int} {v2 : Int} {v3 : Int} (hk80 : ∀ {z0 : IH} {z1 : Int}, HR z0 → zR z1 → LfV (k80 z0 z1) (k80F (zh z0) (zI z1))) (hah : HR ah) (hv1 : zR v1) (hv2 : zR v2) (hv3 : zR v3) : LfV (G_X12_searches_109 N k80 ah v1 v2 v3) (F_X12_searches_109 N k80F (zh ah) (zI v1) (zI v2) (zI v3)) := by
  unfold G_X12_searches_109 F_X12_searches_109
  refine Lg.eq rfl rfl hv2 (zRd rfl) ?_ ?_
  · exact (l_X12_searches_196 hk80 hah hv1 hv3)
  · refine Lg.eq rfl rfl hv3 (zRd rfl) ?_ ?_
    · exact (l_X12_searches_138 hk80 hah hv1 hv2)
    · refine Lg.g rfl rfl (by decide) (fun g1 => ?_)
      refine Lg.g rfl rfl (by decide) (fun g2 => ?_)
      refine Lg.b (by rw [(show (zh ah 31 (Int32.toNatClampNeg (zI v3))) = zI (ah 31 v3) from (zlk rfl g2))]; exact l_X12_boundOf hah (hah _ _)) (fun r132 a132 hr132 ha132 => ?_)
      refine Lg.lt rfl (zlk rfl g1) hr132 (hah _ _) ?_ ?_
      · exact (l_X12_searches_196 hk80 ha132 hv1 hv3)
      · exact (l_X12_searches_138 hk80 ha132 hv1 hv2)
theorem l_X12_searches_80 {N : Nat}  : ∀ (n : Nat) {ah : IH} {v1 : Int}, HR ah → zR v1 → LfV (G_X12_searches_80 N n ah v1) (F_X12_searches_80 N n (zh ah) (zI v1)) := by
  intro n
  induction n with
  | zero => intros; exact Lg.none
  | succ n ih =>
    intro ah v1 hah hv1
    unfold G_X12_searches_80 F_X12_searches_80
    refine Lg.le rfl rfl hv1 (hah _ _) ?_ ?_
    · exact LgV.ret hah
    · refine Lg.b (l_X12_firstAnswer hah) (fun r89 a89 hr89 ha89 => ?_)
      refine Lg.letv rfl hr89 (fun v2_92 hv2_92 => ?_)
      refine Lg.b (l_X12_firstState ha89) (fun r94 a94 hr94 ha94 => ?_)
      refine Lg.letv rfl hr94 (fun v3_97 hv3_97 => ?_)
      refine Lg.eq rfl rfl hv2_92 (zRd rfl) ?_ ?_
      · refine Lg.eq rfl rfl hv3_97 (zRd rfl) ?_ ?_
        · exact LgV.ret ha94
        · exact (l_X12_searches_109 ih ha94 hv1 hv2_92 hv3_97)
      · exact (l_X12_searches_109 ih ha94 hv1 hv2_92 hv3_97)
theorem l_X12_searches_46 {N : Nat}  : ∀ (n : Nat) {ah : IH} {v1 : Int} {v2 : Int}, HR ah → zR v1 → zR v2 → LfV (G_X12_searches_46 N n ah v1 v2) (F_X12_searches_46 N n (zh ah) (zI v1) (zI v2)) := by
  intro n
  induction n with
  | zero => intros; exact Lg.none
  | succ n ih =>
    intro ah v1 v2 hah hv1 hv2
    unfold G_X12_searches_46 F_X12_searches_46
    refine Lg.le rfl rfl (hah _ _) hv2 ?_ ?_
    · refine Lg.le rfl rfl (hah _ _) (zRd rfl) ?_ ?_
      · exact (l_X12_searches_80 _ hah hv1)
      · refine Lg.bv (l_X12_waitsFor hah (zRd rfl) (zRd rfl)) (fun a77 ha77 => ?_)
        exact (l_X12_searches_80 _ ha77 hv1)
    · refine Lg.g rfl rfl (by decide) (fun g1 => ?_)
      refine Lg.wrt hah rfl (zix rfl g1) rfl (zRd rfl) (fun a60 ha60 => ?_)
      refine Lg.letv (zwr (zadd rfl rfl)) wr_R (fun v2_61 hv2_61 => ?_)
      exact (ih ha60 hv1 hv2_61)
theorem l_X12_searches_17 {N : Nat}  : ∀ (n : Nat) {ah : IH} {v1 : Int} {v2 : Int}, HR ah → zR v1 → zR v2 → LfV (G_X12_searches_17 N n ah v1 v2) (F_X12_searches_17 N n (zh ah) (zI v1) (zI v2)) := by
  intro n
  induction n with
  | zero => intros; exact Lg.none
  | succ n ih =>
    intro ah v1 v2 hah hv1 hv2
    unfold G_X12_searches_17 F_X12_searches_17
    refine Lg.le (zwr (zmul (zadd rfl rfl) rfl)) rfl wr_R hv2 ?_ ?_
    · refine Lg.letv rfl (zRd rfl) (fun v2_45 hv2_45 => ?_)
      exact (l_X12_searches_46 _ hah hv1 hv2_45)
    · refine Lg.g rfl rfl (by decide) (fun g1 => ?_)
      refine Lg.wrt hah rfl (zix rfl g1) rfl (zRd rfl) (fun a37 ha37 => ?_)
      refine Lg.letv (zwr (zadd rfl rfl)) wr_R (fun v2_38 hv2_38 => ?_)
      exact (ih ha37 hv1 hv2_38)
theorem l_X12_searches {N : Nat} {ah : IH} {p1 : Int} (hah : HR ah) (hp1 : zR p1) : LfV (G_X12_searches N ah p1) (F_X12_searches N (zh ah) (zI p1)) := by
  unfold G_X12_searches F_X12_searches
  refine Lg.wrt hah rfl rfl rfl (zRd rfl) (fun a2 ha2 => ?_)
  refine Lg.wrt ha2 rfl rfl rfl (zRd rfl) (fun a7 ha7 => ?_)
  refine Lg.wrt ha7 rfl rfl rfl (zRd rfl) (fun a12 ha12 => ?_)
  refine Lg.letv rfl (zRd rfl) (fun v2_16 hv2_16 => ?_)
  exact (l_X12_searches_17 _ ha12 hp1 hv2_16)
theorem l_X12_outside {N : Nat} {ah : IH} (hah : HR ah) : LfI (G_X12_outside N ah) (F_X12_outside N (zh ah)) := by
  unfold G_X12_outside F_X12_outside
  exact LgI.ret (zwr (zadd rfl (zmul rfl rfl))) wr_R hah
theorem l_X12_told_21 {N : Nat} {ah : IH} {v1 : Int} {s1 : Int} (hah : HR ah) (hv1 : zR v1) (hs1 : zR s1) : LfI (G_X12_told_21 N ah v1 s1) (F_X12_told_21 N (zh ah) (zI v1) (zI s1)) := by
  unfold G_X12_told_21 F_X12_told_21
  refine Lg.b (l_X12_bad hah hs1 (zRd rfl) (zRd rfl)) (fun r23 a23 hr23 ha23 => ?_)
  refine Lg.eq rfl rfl hr23 (zRd rfl) ?_ ?_
  · refine Lg.lt rfl rfl hv1 (zRd rfl) ?_ ?_
    · refine Lg.g (zsub rfl rfl) rfl (by decide) (fun g1 => ?_)
      exact LgI.ret (zlk (zsub rfl rfl) g1) (ha23 _ _) ha23
    · refine Lg.lt rfl rfl (zRd rfl) hv1 ?_ ?_
      · refine Lg.g (zsub rfl rfl) rfl (by decide) (fun g2 => ?_)
        exact LgI.ret (zlk (zsub rfl rfl) g2) (ha23 _ _) ha23
      · refine Lg.eq rfl rfl hv1 (zRd rfl) ?_ ?_
        · exact LgI.ret rfl (ha23 _ _) ha23
        · refine Lg.eq rfl rfl hv1 (zRd rfl) ?_ ?_
          · exact LgI.ret rfl (ha23 _ _) ha23
          · refine Lg.eq rfl rfl hv1 (zRd rfl) ?_ ?_
            · exact LgI.ret rfl (ha23 _ _) ha23
            · refine Lg.eq rfl rfl hv1 (zRd rfl) ?_ ?_
              · exact LgI.ret rfl (ha23 _ _) ha23
              · refine Lg.eq rfl rfl hv1 (zRd rfl) ?_ ?_
                · refine Lg.eq rfl rfl (ha23 _ _) (zRd rfl) ?_ ?_
                  · exact LgI.ret rfl (zRd rfl) ha23
                  · exact LgI.ret (zwr (zadd rfl rfl)) wr_R ha23
                · refine Lg.eq rfl rfl hv1 (zRd rfl) ?_ ?_
                  · refine Lg.g (zsub rfl rfl) rfl (by decide) (fun g3 => ?_)
                    exact LgI.ret (zlk (zsub rfl rfl) g3) (ha23 _ _) ha23
                  · refine Lg.eq rfl rfl hv1 (zRd rfl) ?_ ?_
                    · refine Lg.g (zsub rfl rfl) rfl (by decide) (fun g4 => ?_)
                      exact LgI.ret (zlk (zsub rfl rfl) g4) (ha23 _ _) ha23
                    · refine Lg.eq rfl rfl hv1 (zRd rfl) ?_ ?_
                      · refine Lg.g (zsub rfl rfl) rfl (by decide) (fun g5 => ?_)
                        exact LgI.ret (zlk (zsub rfl rfl) g5) (ha23 _ _) ha23
                      · refine Lg.eq rfl rfl hv1 (zRd rfl) ?_ ?_
                        · refine Lg.g (zsub rfl rfl) rfl (by decide) (fun g6 => ?_)
                          exact LgI.ret (zlk (zsub rfl rfl) g6) (ha23 _ _) ha23
                        · refine Lg.eq rfl rfl hv1 (zRd rfl) ?_ ?_
                          · refine Lg.g (zsub rfl rfl) rfl (by decide) (fun g7 => ?_)
                            exact LgI.ret (zlk (zsub rfl rfl) g7) (ha23 _ _) ha23
                          · refine Lg.eq rfl rfl hv1 (zRd rfl) ?_ ?_
                            · refine Lg.g (zsub rfl rfl) rfl (by decide) (fun g8 => ?_)
                              exact LgI.ret (zlk (zsub rfl rfl) g8) (ha23 _ _) ha23
                            · refine Lg.eq rfl rfl hv1 (zRd rfl) ?_ ?_
                              · exact LgI.ret rfl (ha23 _ _) ha23
                              · refine Lg.eq rfl rfl hv1 (zRd rfl) ?_ ?_
                                · exact LgI.ret rfl (ha23 _ _) ha23
                                · exact Lg.none
  · exact LgI.ret rfl (zRd rfl) ha23
theorem l_X12_told {N : Nat} {ah : IH} {p1 : Int} (hah : HR ah) (hp1 : zR p1) : LfI (G_X12_told N ah p1) (F_X12_told N (zh ah) (zI p1)) := by
  unfold G_X12_told F_X12_told
  refine Lg.wrt hah rfl rfl rfl (zRd rfl) (fun a2 ha2 => ?_)
  refine Lg.b (l_X12_in ha2 hp1 (zRd rfl) (zRd rfl)) (fun r10 a10 hr10 ha10 => ?_)
  refine Lg.eq rfl rfl hr10 (zRd rfl) ?_ ?_
  · exact (l_X12_told_21 ha10 hp1 (zRd rfl))
  · exact (l_X12_told_21 ha10 hp1 (zRd rfl))
theorem l_X12_word_42 {N : Nat} {ah : IH} {v1 : Int} {v2 : Int} {s1 : Int} (hah : HR ah) (hv1 : zR v1) (hv2 : zR v2) (hs1 : zR s1) : LfI (G_X12_word_42 N ah v1 v2 s1) (F_X12_word_42 N (zh ah) (zI v1) (zI v2) (zI s1)) := by
  unfold G_X12_word_42 F_X12_word_42
  refine Lg.b (l_X12_bad hah hs1 (zRd rfl) (zRd rfl)) (fun r44 a44 hr44 ha44 => ?_)
  refine Lg.eq rfl rfl hr44 (zRd rfl) ?_ ?_
  · refine Lg.eq rfl rfl hv2 (zRd rfl) ?_ ?_
    · refine Lg.g rfl rfl (by decide) (fun g1 => ?_)
      exact LgI.ret (zlk rfl g1) (ha44 _ _) ha44
    · refine Lg.eq rfl rfl hv2 (zRd rfl) ?_ ?_
      · refine Lg.g rfl rfl (by decide) (fun g2 => ?_)
        exact LgI.ret (zlk rfl g2) (ha44 _ _) ha44
      · refine Lg.eq rfl rfl hv2 (zRd rfl) ?_ ?_
        · refine Lg.g rfl rfl (by decide) (fun g3 => ?_)
          exact LgI.ret (zlk rfl g3) (ha44 _ _) ha44
        · refine Lg.g rfl rfl (by decide) (fun g4 => ?_)
          refine Lg.g (zlk rfl g4) rfl (by decide) (fun g5 => ?_)
          exact LgI.ret (zwr (zsub (zlk (zlk rfl g4) g5) rfl)) wr_R ha44
  · exact LgI.ret rfl (zRd rfl) ha44
theorem l_X12_word_19 {N : Nat} {ah : IH} {v1 : Int} {v2 : Int} {s1 : Int} (hah : HR ah) (hv1 : zR v1) (hv2 : zR v2) (hs1 : zR s1) : LfI (G_X12_word_19 N ah v1 v2 s1) (F_X12_word_19 N (zh ah) (zI v1) (zI v2) (zI s1)) := by
  unfold G_X12_word_19 F_X12_word_19
  refine Lg.b (l_X12_bad hah hs1 (zRd rfl) (zRd rfl)) (fun r21 a21 hr21 ha21 => ?_)
  refine Lg.eq rfl rfl hr21 (zRd rfl) ?_ ?_
  · refine Lg.b (l_X12_in ha21 hv2 (zRd rfl) (zRd rfl)) (fun r31 a31 hr31 ha31 => ?_)
    refine Lg.eq rfl rfl hr31 (zRd rfl) ?_ ?_
    · exact (l_X12_word_42 ha31 hv1 hv2 (zRd rfl))
    · exact (l_X12_word_42 ha31 hv1 hv2 (zRd rfl))
  · exact LgI.ret rfl (zRd rfl) ha21
theorem l_X12_word {N : Nat} {ah : IH} {p1 : Int} {p2 : Int} (hah : HR ah) (hp1 : zR p1) (hp2 : zR p2) : LfI (G_X12_word N ah p1 p2) (F_X12_word N (zh ah) (zI p1) (zI p2)) := by
  unfold G_X12_word F_X12_word
  refine Lg.wrt hah rfl rfl rfl (zRd rfl) (fun a2 ha2 => ?_)
  refine Lg.b (l_X12_isWord ha2 hp1) (fun r8 a8 hr8 ha8 => ?_)
  refine Lg.eq rfl rfl hr8 (zRd rfl) ?_ ?_
  · exact (l_X12_word_19 ha8 hp1 hp2 (zRd rfl))
  · exact (l_X12_word_19 ha8 hp1 hp2 (zRd rfl))
theorem l_X12_sign_19 {N : Nat} {ah : IH} {v1 : Int} {v2 : Int} {s1 : Int} (hah : HR ah) (hv1 : zR v1) (hv2 : zR v2) (hs1 : zR s1) : LfI (G_X12_sign_19 N ah v1 v2 s1) (F_X12_sign_19 N (zh ah) (zI v1) (zI v2) (zI s1)) := by
  unfold G_X12_sign_19 F_X12_sign_19
  refine Lg.b (l_X12_bad hah hs1 (zRd rfl) (zRd rfl)) (fun r21 a21 hr21 ha21 => ?_)
  refine Lg.eq rfl rfl hr21 (zRd rfl) ?_ ?_
  · refine Lg.g rfl rfl (by decide) (fun g1 => ?_)
    refine Lg.b (by rw [(show ((zh a21 5 (Int32.toNatClampNeg (zI v1))) - (1 : Int32)) = zI (wr ((a21 5 v1) - 1)) from (zwr (zsub (zlk rfl g1) rfl)))]; exact l_X12_in ha21 hv2 (zRd rfl) wr_R) (fun r39 a39 hr39 ha39 => ?_)
    refine Lg.eq rfl rfl hr39 (zRd rfl) ?_ ?_
    · exact LgI.ret rfl (zRd rfl) ha39
    · refine Lg.g rfl rfl (by decide) (fun g2 => ?_)
      refine Lg.letc (cadd rfl (zix rfl g2)) (fun x50 => ?_)
      refine Lg.g rfl rfl (by decide) (fun g3 => ?_)
      exact LgI.ret (zlk rfl g3) (ha39 _ _) ha39
  · exact LgI.ret rfl (zRd rfl) ha21
theorem l_X12_sign {N : Nat} {ah : IH} {p1 : Int} {p2 : Int} (hah : HR ah) (hp1 : zR p1) (hp2 : zR p2) : LfI (G_X12_sign N ah p1 p2) (F_X12_sign N (zh ah) (zI p1) (zI p2)) := by
  unfold G_X12_sign F_X12_sign
  refine Lg.wrt hah rfl rfl rfl (zRd rfl) (fun a2 ha2 => ?_)
  refine Lg.b (l_X12_isWord ha2 hp1) (fun r8 a8 hr8 ha8 => ?_)
  refine Lg.eq rfl rfl hr8 (zRd rfl) ?_ ?_
  · exact (l_X12_sign_19 ha8 hp1 hp2 (zRd rfl))
  · exact (l_X12_sign_19 ha8 hp1 hp2 (zRd rfl))
theorem l_X12_find_65 {N : Nat} {ah : IH} {v2 : Int} (hah : HR ah) (hv2 : zR v2) : LfI (G_X12_find_65 N ah v2) (F_X12_find_65 N (zh ah) (zI v2)) := by
  unfold G_X12_find_65 F_X12_find_65
  refine Lg.eq rfl rfl hv2 (zRd rfl) ?_ ?_
  · exact LgI.ret rfl (zRd rfl) hah
  · refine Lg.g rfl rfl (by decide) (fun g1 => ?_)
    exact LgI.ret (zlk rfl g1) (hah _ _) hah
theorem l_X12_find_37 {N : Nat}  : ∀ (n : Nat) {ah : IH} {v1 : Int} {v2 : Int} {v3 : Int}, HR ah → zR v1 → zR v2 → zR v3 → LfI (G_X12_find_37 N n ah v1 v2 v3) (F_X12_find_37 N n (zh ah) (zI v1) (zI v2) (zI v3)) := by
  intro n
  induction n with
  | zero => intros; exact Lg.none
  | succ n ih =>
    intro ah v1 v2 v3 hah hv1 hv2 hv3
    unfold G_X12_find_37 F_X12_find_37
    refine Lg.le rfl rfl hv1 hv3 ?_ ?_
    · exact (l_X12_find_65 hah hv2)
    · refine Lg.eq rfl rfl hv2 (zRd rfl) ?_ ?_
      · exact (l_X12_find_65 hah hv2)
      · refine Lg.g rfl rfl (by decide) (fun g1 => ?_)
        refine Lg.b (by rw [(show (zh ah 2 (Int32.toNatClampNeg (zI v3))) = zI (ah 2 v3) from (zlk rfl g1))]; exact l_X12_childOf hah hv2 (hah _ _)) (fun r55 a55 hr55 ha55 => ?_)
        refine Lg.letv rfl hr55 (fun v2_58 hv2_58 => ?_)
        refine Lg.letv (zwr (zadd rfl rfl)) wr_R (fun v3_59 hv3_59 => ?_)
        exact (ih ha55 hv1 hv2_58 hv3_59)
theorem l_X12_find_23 {N : Nat} {ah : IH} {v1 : Int} {s1 : Int} (hah : HR ah) (hv1 : zR v1) (hs1 : zR s1) : LfI (G_X12_find_23 N ah v1 s1) (F_X12_find_23 N (zh ah) (zI v1) (zI s1)) := by
  unfold G_X12_find_23 F_X12_find_23
  refine Lg.b (l_X12_bad hah hs1 (zRd rfl) (zRd rfl)) (fun r25 a25 hr25 ha25 => ?_)
  refine Lg.eq rfl rfl hr25 (zRd rfl) ?_ ?_
  · refine Lg.letv rfl (zRd rfl) (fun v2_34 hv2_34 => ?_)
    refine Lg.letv rfl (zRd rfl) (fun v3_36 hv3_36 => ?_)
    exact (l_X12_find_37 _ ha25 hv1 hv2_34 hv3_36)
  · exact LgI.ret rfl (zRd rfl) ha25
theorem l_X12_find {N : Nat} {ah : IH} {p1 : Int} (hah : HR ah) (hp1 : zR p1) : LfI (G_X12_find N ah p1) (F_X12_find N (zh ah) (zI p1)) := by
  unfold G_X12_find F_X12_find
  refine Lg.wrt hah rfl rfl rfl (zRd rfl) (fun a2 ha2 => ?_)
  refine Lg.b (l_X12_in ha2 hp1 (zRd rfl) (ha2 _ _)) (fun r12 a12 hr12 ha12 => ?_)
  refine Lg.eq rfl rfl hr12 (zRd rfl) ?_ ?_
  · exact (l_X12_find_23 ha12 hp1 (zRd rfl))
  · exact (l_X12_find_23 ha12 hp1 (zRd rfl))
theorem l_X12_isNode {N : Nat} {ah : IH} {p1 : Int} (hah : HR ah) (hp1 : zR p1) : LfI (G_X12_isNode N ah p1) (F_X12_isNode N (zh ah) (zI p1)) := by
  unfold G_X12_isNode F_X12_isNode
  refine Lg.b (by rw [(show ((zh ah 0 15) - (1 : Int32)) = zI (wr ((ah 0 15) - 1)) from (zwr (zsub rfl rfl)))]; exact l_X12_in hah hp1 (zRd rfl) wr_R) (fun r8 a8 hr8 ha8 => ?_)
  refine Lg.bo rfl ?_
  exact LgI.ret rfl hr8 ha8
theorem l_X12_children_30 {N : Nat} {k6 : IH → Int → Int → Int → Option (Int × IH)} {k6F : AH → Int32 → Int32 → Int32 → Option (Int32 × AH)} {ah : IH} {v1 : Int} {v3 : Int} {s0 : Int} {s1 : Int} (hk6 : ∀ {z0 : IH} {z1 : Int} {z2 : Int} {z3 : Int}, HR z0 → zR z1 → zR z2 → zR z3 → LfI (k6 z0 z1 z2 z3) (k6F (zh z0) (zI z1) (zI z2) (zI z3))) (hah : HR ah) (hv1 : zR v1) (hv3 : zR v3) (hs0 : zR s0) (hs1 : zR s1) : LfI (G_X12_children_30 N k6 ah v1 v3 s0 s1) (F_X12_children_30 N k6F (zh ah) (zI v1) (zI v3) (zI s0) (zI s1)) := by
  unfold G_X12_children_30 F_X12_children_30
  refine Lg.letv (zwr (zadd rfl rfl)) wr_R (fun v2_31 hv2_31 => ?_)
  refine Lg.letv (zwr (zadd rfl rfl)) wr_R (fun v3_32 hv3_32 => ?_)
  exact (hk6 hah hv1 hv2_31 hv3_32)
theorem l_X12_children_6 {N : Nat}  : ∀ (n : Nat) {ah : IH} {v1 : Int} {v2 : Int} {v3 : Int}, HR ah → zR v1 → zR v2 → zR v3 → LfI (G_X12_children_6 N n ah v1 v2 v3) (F_X12_children_6 N n (zh ah) (zI v1) (zI v2) (zI v3)) := by
  intro n
  induction n with
  | zero => intros; exact Lg.none
  | succ n ih =>
    intro ah v1 v2 v3 hah hv1 hv2 hv3
    unfold G_X12_children_6 F_X12_children_6
    refine Lg.le rfl rfl (hah _ _) hv3 ?_ ?_
    · exact LgI.ret rfl hv2 hah
    · refine Lg.g rfl rfl (by decide) (fun g1 => ?_)
      refine Lg.eq (zlk rfl g1) rfl (hah _ _) hv1 ?_ ?_
      · exact (l_X12_children_30 ih hah hv1 hv3 hv2 (zRd rfl))
      · exact (l_X12_children_30 ih hah hv1 hv3 hv2 (zRd rfl))
theorem l_X12_children {N : Nat} {ah : IH} {p1 : Int} (hah : HR ah) (hp1 : zR p1) : LfI (G_X12_children N ah p1) (F_X12_children N (zh ah) (zI p1)) := by
  unfold G_X12_children F_X12_children
  refine Lg.letv rfl (zRd rfl) (fun v2_1 hv2_1 => ?_)
  refine Lg.letv (zwr (zadd rfl rfl)) wr_R (fun v3_5 hv3_5 => ?_)
  exact (l_X12_children_6 _ hah hp1 hv2_1 hv3_5)
theorem l_X12_node_42 {N : Nat} {ah : IH} {v1 : Int} {v2 : Int} {s1 : Int} (hah : HR ah) (hv1 : zR v1) (hv2 : zR v2) (hs1 : zR s1) : LfI (G_X12_node_42 N ah v1 v2 s1) (F_X12_node_42 N (zh ah) (zI v1) (zI v2) (zI s1)) := by
  unfold G_X12_node_42 F_X12_node_42
  refine Lg.b (l_X12_bad hah hs1 (zRd rfl) (zRd rfl)) (fun r44 a44 hr44 ha44 => ?_)
  refine Lg.eq rfl rfl hr44 (zRd rfl) ?_ ?_
  · refine Lg.lt rfl rfl hv2 (zRd rfl) ?_ ?_
    · refine Lg.g rfl rfl (by decide) (fun g1 => ?_)
      exact LgI.ret (zlk rfl g1) (ha44 _ _) ha44
    · refine Lg.lt rfl rfl (zRd rfl) hv2 ?_ ?_
      · refine Lg.g rfl rfl (by decide) (fun g2 => ?_)
        exact LgI.ret (zlk rfl g2) (ha44 _ _) ha44
      · refine Lg.eq rfl rfl hv2 (zRd rfl) ?_ ?_
        · refine Lg.g rfl rfl (by decide) (fun g3 => ?_)
          exact LgI.ret (zlk rfl g3) (ha44 _ _) ha44
        · refine Lg.eq rfl rfl hv2 (zRd rfl) ?_ ?_
          · refine Lg.g rfl rfl (by decide) (fun g4 => ?_)
            exact LgI.ret (zlk rfl g4) (ha44 _ _) ha44
          · refine Lg.eq rfl rfl hv2 (zRd rfl) ?_ ?_
            · refine Lg.g rfl rfl (by decide) (fun g5 => ?_)
              exact LgI.ret (zlk rfl g5) (ha44 _ _) ha44
            · refine Lg.eq rfl rfl hv2 (zRd rfl) ?_ ?_
              · refine Lg.g rfl rfl (by decide) (fun g6 => ?_)
                exact LgI.ret (zlk rfl g6) (ha44 _ _) ha44
              · refine Lg.eq rfl rfl hv2 (zRd rfl) ?_ ?_
                · refine Lg.b (l_X12_children ha44 hv1) (fun r118 a118 hr118 ha118 => ?_)
                  exact LgI.ret rfl hr118 ha118
                · exact Lg.none
  · exact LgI.ret rfl (zRd rfl) ha44
theorem l_X12_node_19 {N : Nat} {ah : IH} {v1 : Int} {v2 : Int} {s1 : Int} (hah : HR ah) (hv1 : zR v1) (hv2 : zR v2) (hs1 : zR s1) : LfI (G_X12_node_19 N ah v1 v2 s1) (F_X12_node_19 N (zh ah) (zI v1) (zI v2) (zI s1)) := by
  unfold G_X12_node_19 F_X12_node_19
  refine Lg.b (l_X12_bad hah hs1 (zRd rfl) (zRd rfl)) (fun r21 a21 hr21 ha21 => ?_)
  refine Lg.eq rfl rfl hr21 (zRd rfl) ?_ ?_
  · refine Lg.b (l_X12_in ha21 hv2 (zRd rfl) (zRd rfl)) (fun r31 a31 hr31 ha31 => ?_)
    refine Lg.eq rfl rfl hr31 (zRd rfl) ?_ ?_
    · exact (l_X12_node_42 ha31 hv1 hv2 (zRd rfl))
    · exact (l_X12_node_42 ha31 hv1 hv2 (zRd rfl))
  · exact LgI.ret rfl (zRd rfl) ha21
theorem l_X12_node {N : Nat} {ah : IH} {p1 : Int} {p2 : Int} (hah : HR ah) (hp1 : zR p1) (hp2 : zR p2) : LfI (G_X12_node N ah p1 p2) (F_X12_node N (zh ah) (zI p1) (zI p2)) := by
  unfold G_X12_node F_X12_node
  refine Lg.wrt hah rfl rfl rfl (zRd rfl) (fun a2 ha2 => ?_)
  refine Lg.b (l_X12_isNode ha2 hp1) (fun r8 a8 hr8 ha8 => ?_)
  refine Lg.eq rfl rfl hr8 (zRd rfl) ?_ ?_
  · exact (l_X12_node_19 ha8 hp1 hp2 (zRd rfl))
  · exact (l_X12_node_19 ha8 hp1 hp2 (zRd rfl))
theorem l_X12_child_19 {N : Nat} {ah : IH} {v1 : Int} {v2 : Int} {s1 : Int} (hah : HR ah) (hv1 : zR v1) (hv2 : zR v2) (hs1 : zR s1) : LfI (G_X12_child_19 N ah v1 v2 s1) (F_X12_child_19 N (zh ah) (zI v1) (zI v2) (zI s1)) := by
  unfold G_X12_child_19 F_X12_child_19
  refine Lg.b (l_X12_bad hah hs1 (zRd rfl) (zRd rfl)) (fun r21 a21 hr21 ha21 => ?_)
  refine Lg.eq rfl rfl hr21 (zRd rfl) ?_ ?_
  · refine Lg.b (l_X12_childOf ha21 hv1 hv2) (fun r32 a32 hr32 ha32 => ?_)
    exact LgI.ret rfl hr32 ha32
  · exact LgI.ret rfl (zRd rfl) ha21
theorem l_X12_child {N : Nat} {ah : IH} {p1 : Int} {p2 : Int} (hah : HR ah) (hp1 : zR p1) (hp2 : zR p2) : LfI (G_X12_child N ah p1 p2) (F_X12_child N (zh ah) (zI p1) (zI p2)) := by
  unfold G_X12_child F_X12_child
  refine Lg.wrt hah rfl rfl rfl (zRd rfl) (fun a2 ha2 => ?_)
  refine Lg.b (l_X12_isNode ha2 hp1) (fun r8 a8 hr8 ha8 => ?_)
  refine Lg.eq rfl rfl hr8 (zRd rfl) ?_ ?_
  · exact (l_X12_child_19 ha8 hp1 hp2 (zRd rfl))
  · exact (l_X12_child_19 ha8 hp1 hp2 (zRd rfl))
theorem l_X12_shape_50 {N : Nat} {ah : IH} {v1 : Int} {v2 : Int} {s1 : Int} (hah : HR ah) (hv1 : zR v1) (hv2 : zR v2) (hs1 : zR s1) : LfI (G_X12_shape_50 N ah v1 v2 s1) (F_X12_shape_50 N (zh ah) (zI v1) (zI v2) (zI s1)) := by
  unfold G_X12_shape_50 F_X12_shape_50
  refine Lg.b (l_X12_bad hah hs1 (zRd rfl) (zRd rfl)) (fun r52 a52 hr52 ha52 => ?_)
  refine Lg.eq rfl rfl hr52 (zRd rfl) ?_ ?_
  · refine Lg.g rfl rfl (by decide) (fun g1 => ?_)
    refine Lg.letc (cadd rfl (cadd (cmul rfl rfl) (zix rfl g1))) (fun x67 => ?_)
    refine Lg.g rfl rfl (by decide) (fun g2 => ?_)
    exact LgI.ret (zlk rfl g2) (ha52 _ _) ha52
  · exact LgI.ret rfl (zRd rfl) ha52
theorem l_X12_shape_27 {N : Nat} {ah : IH} {v1 : Int} {v2 : Int} {s1 : Int} (hah : HR ah) (hv1 : zR v1) (hv2 : zR v2) (hs1 : zR s1) : LfI (G_X12_shape_27 N ah v1 v2 s1) (F_X12_shape_27 N (zh ah) (zI v1) (zI v2) (zI s1)) := by
  unfold G_X12_shape_27 F_X12_shape_27
  refine Lg.b (l_X12_bad hah hs1 (zRd rfl) (zRd rfl)) (fun r29 a29 hr29 ha29 => ?_)
  refine Lg.eq rfl rfl hr29 (zRd rfl) ?_ ?_
  · refine Lg.b (l_X12_in ha29 hv2 (zRd rfl) (zRd rfl)) (fun r39 a39 hr39 ha39 => ?_)
    refine Lg.eq rfl rfl hr39 (zRd rfl) ?_ ?_
    · exact (l_X12_shape_50 ha39 hv1 hv2 (zRd rfl))
    · exact (l_X12_shape_50 ha39 hv1 hv2 (zRd rfl))
  · exact LgI.ret rfl (zRd rfl) ha29
theorem l_X12_shape {N : Nat} {ah : IH} {p1 : Int} {p2 : Int} (hah : HR ah) (hp1 : zR p1) (hp2 : zR p2) : LfI (G_X12_shape N ah p1 p2) (F_X12_shape N (zh ah) (zI p1) (zI p2)) := by
  unfold G_X12_shape F_X12_shape
  refine Lg.wrt hah rfl rfl rfl (zRd rfl) (fun a2 ha2 => ?_)
  refine Lg.b (by rw [(show ((zh a2 13 0) - (1 : Int32)) = zI (wr ((a2 13 0) - 1)) from (zwr (zsub rfl rfl)))]; exact l_X12_in ha2 hp1 (zRd rfl) wr_R) (fun r16 a16 hr16 ha16 => ?_)
  refine Lg.eq rfl rfl hr16 (zRd rfl) ?_ ?_
  · exact (l_X12_shape_27 ha16 hp1 hp2 (zRd rfl))
  · exact (l_X12_shape_27 ha16 hp1 hp2 (zRd rfl))
theorem l_X12_isToken {N : Nat} {ah : IH} {p1 : Int} (hah : HR ah) (hp1 : zR p1) : LfI (G_X12_isToken N ah p1) (F_X12_isToken N (zh ah) (zI p1)) := by
  unfold G_X12_isToken F_X12_isToken
  refine Lg.b (by rw [(show ((zh ah 16 0) - (1 : Int32)) = zI (wr ((ah 16 0) - 1)) from (zwr (zsub rfl rfl)))]; exact l_X12_in hah hp1 (zRd rfl) wr_R) (fun r10 a10 hr10 ha10 => ?_)
  refine Lg.bo rfl ?_
  exact LgI.ret rfl hr10 ha10
theorem l_X12_edgesOfAll_4 {N : Nat}  : ∀ (n : Nat) {ah : IH} {v1 : Int} {v2 : Int}, HR ah → zR v1 → zR v2 → LfI (G_X12_edgesOfAll_4 N n ah v1 v2) (F_X12_edgesOfAll_4 N n (zh ah) (zI v1) (zI v2)) := by
  intro n
  induction n with
  | zero => intros; exact Lg.none
  | succ n ih =>
    intro ah v1 v2 hah hv1 hv2
    unfold G_X12_edgesOfAll_4 F_X12_edgesOfAll_4
    refine Lg.le rfl rfl (hah _ _) hv2 ?_ ?_
    · exact LgI.ret rfl hv1 hah
    · refine Lg.g rfl rfl (by decide) (fun g1 => ?_)
      refine Lg.letv (zwr (zadd rfl (zlk rfl g1))) wr_R (fun v1_20 hv1_20 => ?_)
      refine Lg.letv (zwr (zadd rfl rfl)) wr_R (fun v2_21 hv2_21 => ?_)
      exact (ih hah hv1_20 hv2_21)
theorem l_X12_edgesOfAll {N : Nat} {ah : IH} (hah : HR ah) : LfI (G_X12_edgesOfAll N ah) (F_X12_edgesOfAll N (zh ah)) := by
  unfold G_X12_edgesOfAll F_X12_edgesOfAll
  refine Lg.letv rfl (zRd rfl) (fun v1_1 hv1_1 => ?_)
  refine Lg.letv rfl (zRd rfl) (fun v2_3 hv2_3 => ?_)
  exact (l_X12_edgesOfAll_4 _ hah hv1_1 hv2_3)
theorem l_X12_breaks_39 {N : Nat} {k4 : IH → Int → Int → Int → Option (Int × IH)} {k4F : AH → Int32 → Int32 → Int32 → Option (Int32 × AH)} {ah : IH} {v1 : Int} {v3 : Int} {s0 : Int} {s1 : Int} (hk4 : ∀ {z0 : IH} {z1 : Int} {z2 : Int} {z3 : Int}, HR z0 → zR z1 → zR z2 → zR z3 → LfI (k4 z0 z1 z2 z3) (k4F (zh z0) (zI z1) (zI z2) (zI z3))) (hah : HR ah) (hv1 : zR v1) (hv3 : zR v3) (hs0 : zR s0) (hs1 : zR s1) : LfI (G_X12_breaks_39 N k4 ah v1 v3 s0 s1) (F_X12_breaks_39 N k4F (zh ah) (zI v1) (zI v3) (zI s0) (zI s1)) := by
  unfold G_X12_breaks_39 F_X12_breaks_39
  refine Lg.letv (zwr (zadd rfl rfl)) wr_R (fun v2_40 hv2_40 => ?_)
  refine Lg.letv (zwr (zadd rfl rfl)) wr_R (fun v3_41 hv3_41 => ?_)
  exact (hk4 hah hv1 hv2_40 hv3_41)
theorem l_X12_breaks_4 {N : Nat}  : ∀ (n : Nat) {ah : IH} {v1 : Int} {v2 : Int} {v3 : Int}, HR ah → zR v1 → zR v2 → zR v3 → LfI (G_X12_breaks_4 N n ah v1 v2 v3) (F_X12_breaks_4 N n (zh ah) (zI v1) (zI v2) (zI v3)) := by
  intro n
  induction n with
  | zero => intros; exact Lg.none
  | succ n ih =>
    intro ah v1 v2 v3 hah hv1 hv2 hv3
    unfold G_X12_breaks_4 F_X12_breaks_4
    refine Lg.letc (cadd rfl rfl) (fun x10 => ?_)
    refine Lg.g rfl rfl (by decide) (fun g1 => ?_)
    refine Lg.le (zlk rfl g1) rfl (hah _ _) hv3 ?_ ?_
    · exact LgI.ret rfl hv2 hah
    · refine Lg.g rfl rfl (by decide) (fun g2 => ?_)
      refine Lg.g rfl rfl (by decide) (fun g3 => ?_)
      refine Lg.letc (cadd rfl (cadd (cmul (cadd (cmul rfl rfl) (zix rfl g2)) rfl) (zix rfl g3))) (fun x26 => ?_)
      refine Lg.eq rfl rfl (hah _ _) (zRd rfl) ?_ ?_
      · exact (l_X12_breaks_39 ih hah hv1 hv3 hv2 (zRd rfl))
      · exact (l_X12_breaks_39 ih hah hv1 hv3 hv2 (zRd rfl))
theorem l_X12_breaks {N : Nat} {ah : IH} {p1 : Int} (hah : HR ah) (hp1 : zR p1) : LfI (G_X12_breaks N ah p1) (F_X12_breaks N (zh ah) (zI p1)) := by
  unfold G_X12_breaks F_X12_breaks
  refine Lg.letv rfl (zRd rfl) (fun v2_1 hv2_1 => ?_)
  refine Lg.letv rfl (zRd rfl) (fun v3_3 hv3_3 => ?_)
  exact (l_X12_breaks_4 _ hah hp1 hv2_1 hv3_3)
theorem l_X12_readAs_50 {N : Nat} {ah : IH} {v1 : Int} (hah : HR ah) (hv1 : zR v1) : LfI (G_X12_readAs_50 N ah v1) (F_X12_readAs_50 N (zh ah) (zI v1)) := by
  unfold G_X12_readAs_50 F_X12_readAs_50
  refine Lg.eq rfl rfl hv1 (zRd rfl) ?_ ?_
  · exact LgI.ret rfl (zRd rfl) hah
  · refine Lg.g rfl rfl (by decide) (fun g1 => ?_)
    exact LgI.ret (zlk rfl g1) (hah _ _) hah
theorem l_X12_readAs_44 {N : Nat} {k4 : IH → Int → Int → Option (Int × IH)} {k4F : AH → Int32 → Int32 → Option (Int32 × AH)} {ah : IH} {v1 : Int} {v2 : Int} (hk4 : ∀ {z0 : IH} {z1 : Int} {z2 : Int}, HR z0 → zR z1 → zR z2 → LfI (k4 z0 z1 z2) (k4F (zh z0) (zI z1) (zI z2))) (hah : HR ah) (hv1 : zR v1) (hv2 : zR v2) : LfI (G_X12_readAs_44 N k4 ah v1 v2) (F_X12_readAs_44 N k4F (zh ah) (zI v1) (zI v2)) := by
  unfold G_X12_readAs_44 F_X12_readAs_44
  refine Lg.letv (zwr (zadd rfl rfl)) wr_R (fun v2_44 hv2_44 => ?_)
  exact (hk4 hah hv1 hv2_44)
theorem l_X12_readAs_4 {N : Nat}  : ∀ (n : Nat) {ah : IH} {v1 : Int} {v2 : Int}, HR ah → zR v1 → zR v2 → LfI (G_X12_readAs_4 N n ah v1 v2) (F_X12_readAs_4 N n (zh ah) (zI v1) (zI v2)) := by
  intro n
  induction n with
  | zero => intros; exact Lg.none
  | succ n ih =>
    intro ah v1 v2 hah hv1 hv2
    unfold G_X12_readAs_4 F_X12_readAs_4
    refine Lg.le rfl rfl (hah _ _) hv2 ?_ ?_
    · exact (l_X12_readAs_50 hah hv1)
    · refine Lg.eq rfl rfl hv1 (zRd rfl) ?_ ?_
      · exact (l_X12_readAs_50 hah hv1)
      · refine Lg.g rfl rfl (by decide) (fun g1 => ?_)
        refine Lg.letc (cadd rfl (zix rfl g1)) (fun x22 => ?_)
        refine Lg.eq rfl rfl (hah _ _) (zRd rfl) ?_ ?_
        · exact (l_X12_readAs_44 ih hah hv1 hv2)
        · refine Lg.g rfl rfl (by decide) (fun g2 => ?_)
          refine Lg.letc (cadd rfl (zix rfl g2)) (fun x37 => ?_)
          refine Lg.b (l_X12_childOf hah hv1 (hah _ _)) (fun r40 a40 hr40 ha40 => ?_)
          refine Lg.letv rfl hr40 (fun v1_43 hv1_43 => ?_)
          exact (l_X12_readAs_44 ih ha40 hv1_43 hv2)
theorem l_X12_readAs {N : Nat} {ah : IH} (hah : HR ah) : LfI (G_X12_readAs N ah) (F_X12_readAs N (zh ah)) := by
  unfold G_X12_readAs F_X12_readAs
  refine Lg.letv rfl (zRd rfl) (fun v1_1 hv1_1 => ?_)
  refine Lg.letv rfl (zRd rfl) (fun v2_3 hv2_3 => ?_)
  exact (l_X12_readAs_4 _ hah hv1_1 hv2_3)
theorem l_X12_token_43 {N : Nat} {ah : IH} {v1 : Int} {v2 : Int} {s1 : Int} (hah : HR ah) (hv1 : zR v1) (hv2 : zR v2) (hs1 : zR s1) : LfI (G_X12_token_43 N ah v1 v2 s1) (F_X12_token_43 N (zh ah) (zI v1) (zI v2) (zI s1)) := by
  unfold G_X12_token_43 F_X12_token_43
  refine Lg.b (l_X12_bad hah hs1 (zRd rfl) (zRd rfl)) (fun r45 a45 hr45 ha45 => ?_)
  refine Lg.eq rfl rfl hr45 (zRd rfl) ?_ ?_
  · refine Lg.bv (l_X12_laysToken ha45 hv1 (zRd rfl)) (fun a56 ha56 => ?_)
    refine Lg.lt rfl rfl hv2 (zRd rfl) ?_ ?_
    · refine Lg.b (l_X12_readAs ha56) (fun r161 a161 hr161 ha161 => ?_)
      refine Lg.eq rfl rfl hr161 (zRd rfl) ?_ ?_
      · exact LgI.ret rfl (zRd rfl) ha161
      · exact LgI.ret rfl (zRd rfl) ha161
    · refine Lg.lt rfl rfl (zRd rfl) hv2 ?_ ?_
      · refine Lg.b (l_X12_readAs ha56) (fun r161 a161 hr161 ha161 => ?_)
        refine Lg.eq rfl rfl hr161 (zRd rfl) ?_ ?_
        · exact LgI.ret rfl (zRd rfl) ha161
        · exact LgI.ret rfl (zRd rfl) ha161
      · refine Lg.eq rfl rfl hv2 (zRd rfl) ?_ ?_
        · exact LgI.ret rfl (ha56 _ _) ha56
        · refine Lg.eq rfl rfl hv2 (zRd rfl) ?_ ?_
          · refine Lg.letc (cadd rfl rfl) (fun x110 => ?_)
            refine Lg.g rfl rfl (by decide) (fun g1 => ?_)
            exact LgI.ret (zlk rfl g1) (ha56 _ _) ha56
          · refine Lg.eq rfl rfl hv2 (zRd rfl) ?_ ?_
            · refine Lg.b (l_X12_breaks ha56 hv1) (fun r116 a116 hr116 ha116 => ?_)
              exact LgI.ret rfl hr116 ha116
            · refine Lg.eq rfl rfl hv2 (zRd rfl) ?_ ?_
              · refine Lg.b (l_X12_edgesOfAll ha56) (fun r121 a121 hr121 ha121 => ?_)
                exact LgI.ret rfl hr121 ha121
              · refine Lg.eq rfl rfl hv2 (zRd rfl) ?_ ?_
                · refine Lg.b (l_X12_outside ha56) (fun r126 a126 hr126 ha126 => ?_)
                  exact LgI.ret rfl hr126 ha126
                · refine Lg.eq rfl rfl hv2 (zRd rfl) ?_ ?_
                  · refine Lg.le rfl (zwr (zadd rfl rfl)) (ha56 _ _) wr_R ?_ ?_
                    · exact LgI.ret rfl (zRd rfl) ha56
                    · refine Lg.letc (cadd rfl rfl) (fun x147 => ?_)
                      refine Lg.g rfl rfl (by decide) (fun g2 => ?_)
                      refine Lg.eq (zlk rfl g2) rfl (ha56 _ _) (zRd rfl) ?_ ?_
                      · exact LgI.ret rfl (zRd rfl) ha56
                      · exact LgI.ret rfl (zRd rfl) ha56
                  · exact Lg.none
  · exact LgI.ret rfl (zRd rfl) ha45
theorem l_X12_token_19 {N : Nat} {ah : IH} {v1 : Int} {v2 : Int} {s1 : Int} (hah : HR ah) (hv1 : zR v1) (hv2 : zR v2) (hs1 : zR s1) : LfI (G_X12_token_19 N ah v1 v2 s1) (F_X12_token_19 N (zh ah) (zI v1) (zI v2) (zI s1)) := by
  unfold G_X12_token_19 F_X12_token_19
  refine Lg.b (l_X12_bad hah hs1 (zRd rfl) (zRd rfl)) (fun r21 a21 hr21 ha21 => ?_)
  refine Lg.eq rfl rfl hr21 (zRd rfl) ?_ ?_
  · refine Lg.b (l_X12_in ha21 hv2 (zRd rfl) (zRd rfl)) (fun r32 a32 hr32 ha32 => ?_)
    refine Lg.eq rfl rfl hr32 (zRd rfl) ?_ ?_
    · exact (l_X12_token_43 ha32 hv1 hv2 (zRd rfl))
    · exact (l_X12_token_43 ha32 hv1 hv2 (zRd rfl))
  · exact LgI.ret rfl (zRd rfl) ha21
theorem l_X12_token {N : Nat} {ah : IH} {p1 : Int} {p2 : Int} (hah : HR ah) (hp1 : zR p1) (hp2 : zR p2) : LfI (G_X12_token N ah p1 p2) (F_X12_token N (zh ah) (zI p1) (zI p2)) := by
  unfold G_X12_token F_X12_token
  refine Lg.wrt hah rfl rfl rfl (zRd rfl) (fun a2 ha2 => ?_)
  refine Lg.b (l_X12_isToken ha2 hp1) (fun r8 a8 hr8 ha8 => ?_)
  refine Lg.eq rfl rfl hr8 (zRd rfl) ?_ ?_
  · exact (l_X12_token_19 ha8 hp1 hp2 (zRd rfl))
  · exact (l_X12_token_19 ha8 hp1 hp2 (zRd rfl))
theorem l_X12_cell_151 {N : Nat} {k110 : IH → Int → Int → Int → Option (Int × IH)} {k110F : AH → Nat → Int32 → Int32 → Option (Int32 × AH)} {ah : IH} {x5 : Nat} {v7 : Int} {s0 : Int} (hk110 : ∀ {z0 : IH} {z1 : Nat} {z2 : Int} {z3 : Int}, HR z0 → zR z2 → zR z3 → LfI (k110 z0 (z1 : Nat) z2 z3) (k110F (zh z0) z1 (zI z2) (zI z3))) (hah : HR ah) (hv7 : zR v7) (hs0 : zR s0) : LfI (G_X12_cell_151 N k110 ah (x5 : Nat) v7 s0) (F_X12_cell_151 N k110F (zh ah) x5 (zI v7) (zI s0)) := by
  unfold G_X12_cell_151 F_X12_cell_151
  refine Lg.letv rfl hs0 (fun v6_151 hv6_151 => ?_)
  refine Lg.letv (zwr (zadd rfl rfl)) wr_R (fun v7_153 hv7_153 => ?_)
  exact (hk110 hah hv6_151 hv7_153)
theorem l_X12_cell_110 {N : Nat}  : ∀ (n : Nat) {ah : IH} {x5 : Nat} {v6 : Int} {v7 : Int}, HR ah → zR v6 → zR v7 → LfI (G_X12_cell_110 N n ah (x5 : Nat) v6 v7) (F_X12_cell_110 N n (zh ah) x5 (zI v6) (zI v7)) := by
  intro n
  induction n with
  | zero => intros; exact Lg.none
  | succ n ih =>
    intro ah x5 v6 v7 hah hv6 hv7
    unfold G_X12_cell_110 F_X12_cell_110
    refine Lg.le rfl rfl (hah _ _) hv7 ?_ ?_
    · exact LgI.ret rfl hv6 hah
    · refine Lg.eq rfl rfl hv6 (zRd rfl) ?_ ?_
      · refine Lg.g (zadd rfl (zmul rfl rfl)) rfl (by decide) (fun g1 => ?_)
        exact (by rw [(show (zh ah x5 (Int32.toNatClampNeg ((3 : Int32) + ((2 : Int32) * (zI v7))))) = zI (ah x5 (3 + (2 * v7))) from (zlk (zadd rfl (zmul rfl rfl)) g1))]; exact l_X12_cell_151 ih hah hv7 (hah _ _))
      · refine Lg.g (zadd rfl (zmul rfl rfl)) rfl (by decide) (fun g2 => ?_)
        refine Lg.b (by rw [(show (zh ah x5 (Int32.toNatClampNeg ((3 : Int32) + ((2 : Int32) * (zI v7))))) = zI (ah x5 (3 + (2 * v7))) from (zlk (zadd rfl (zmul rfl rfl)) g2))]; exact l_X12_less hah hv6 (hah _ _)) (fun r148 a148 hr148 ha148 => ?_)
        exact (l_X12_cell_151 ih ha148 hv7 hr148)
theorem l_X12_cell_72 {N : Nat} {ah : IH} {v1 : Int} {v2 : Int} {v3 : Int} {s1 : Int} (hah : HR ah) (hv1 : zR v1) (hv2 : zR v2) (hv3 : zR v3) (hs1 : zR s1) : LfI (G_X12_cell_72 N ah v1 v2 v3 s1) (F_X12_cell_72 N (zh ah) (zI v1) (zI v2) (zI v3) (zI s1)) := by
  unfold G_X12_cell_72 F_X12_cell_72
  refine Lg.b (l_X12_bad hah hs1 (zRd rfl) (zRd rfl)) (fun r74 a74 hr74 ha74 => ?_)
  refine Lg.eq rfl rfl hr74 (zRd rfl) ?_ ?_
  · refine Lg.g rfl rfl (by decide) (fun g1 => ?_)
    refine Lg.g rfl rfl (by decide) (fun g2 => ?_)
    refine Lg.letc (cadd rfl (cadd (cmul (cadd (cmul rfl rfl) (zix rfl g1)) rfl) (zix rfl g2))) (fun x91 => ?_)
    refine Lg.le rfl rfl (zRd rfl) hv3 ?_ ?_
    · refine Lg.letv rfl (zRd rfl) (fun v6_105 hv6_105 => ?_)
      refine Lg.letv rfl (zRd rfl) (fun v7_108 hv7_108 => ?_)
      exact (l_X12_cell_110 _ ha74 hv6_105 hv7_108)
    · refine Lg.g rfl rfl (by decide) (fun g3 => ?_)
      exact LgI.ret (zlk rfl g3) (ha74 _ _) ha74
  · exact LgI.ret rfl (zRd rfl) ha74
theorem l_X12_cell_49 {N : Nat} {ah : IH} {v1 : Int} {v2 : Int} {v3 : Int} {s1 : Int} (hah : HR ah) (hv1 : zR v1) (hv2 : zR v2) (hv3 : zR v3) (hs1 : zR s1) : LfI (G_X12_cell_49 N ah v1 v2 v3 s1) (F_X12_cell_49 N (zh ah) (zI v1) (zI v2) (zI v3) (zI s1)) := by
  unfold G_X12_cell_49 F_X12_cell_49
  refine Lg.b (l_X12_bad hah hs1 (zRd rfl) (zRd rfl)) (fun r51 a51 hr51 ha51 => ?_)
  refine Lg.eq rfl rfl hr51 (zRd rfl) ?_ ?_
  · refine Lg.b (l_X12_in ha51 hv3 (zRd rfl) (zRd rfl)) (fun r61 a61 hr61 ha61 => ?_)
    refine Lg.eq rfl rfl hr61 (zRd rfl) ?_ ?_
    · exact (l_X12_cell_72 ha61 hv1 hv2 hv3 (zRd rfl))
    · exact (l_X12_cell_72 ha61 hv1 hv2 hv3 (zRd rfl))
  · exact LgI.ret rfl (zRd rfl) ha51
theorem l_X12_cell_36 {N : Nat} {ah : IH} {v1 : Int} {v2 : Int} {v3 : Int} {s0 : Int} (hah : HR ah) (hv1 : zR v1) (hv2 : zR v2) (hv3 : zR v3) (hs0 : zR s0) : LfI (G_X12_cell_36 N ah v1 v2 v3 s0) (F_X12_cell_36 N (zh ah) (zI v1) (zI v2) (zI v3) (zI s0)) := by
  unfold G_X12_cell_36 F_X12_cell_36
  refine Lg.letv rfl hs0 (fun v4_36 hv4_36 => ?_)
  refine Lg.eq rfl rfl hv4_36 (zRd rfl) ?_ ?_
  · exact (l_X12_cell_49 hah hv1 hv2 hv3 (zRd rfl))
  · exact (l_X12_cell_49 hah hv1 hv2 hv3 (zRd rfl))
theorem l_X12_cell_35 {N : Nat} {ah : IH} {v1 : Int} {v2 : Int} {v3 : Int} (hah : HR ah) (hv1 : zR v1) (hv2 : zR v2) (hv3 : zR v3) : LfI (G_X12_cell_35 N ah v1 v2 v3) (F_X12_cell_35 N (zh ah) (zI v1) (zI v2) (zI v3)) := by
  unfold G_X12_cell_35 F_X12_cell_35
  exact (l_X12_cell_36 hah hv1 hv2 hv3 (zRd rfl))
theorem l_X12_cell {N : Nat} {ah : IH} {p1 : Int} {p2 : Int} {p3 : Int} (hah : HR ah) (hp1 : zR p1) (hp2 : zR p2) (hp3 : zR p3) : LfI (G_X12_cell N ah p1 p2 p3) (F_X12_cell N (zh ah) (zI p1) (zI p2) (zI p3)) := by
  unfold G_X12_cell F_X12_cell
  refine Lg.wrt hah rfl rfl rfl (zRd rfl) (fun a2 ha2 => ?_)
  refine Lg.b (l_X12_isToken ha2 hp1) (fun r7 a7 hr7 ha7 => ?_)
  refine Lg.eq rfl rfl hr7 (zRd rfl) ?_ ?_
  · exact (l_X12_cell_35 ha7 hp1 hp2 hp3)
  · refine Lg.letc (cadd rfl rfl) (fun x20 => ?_)
    refine Lg.g rfl rfl (by decide) (fun g1 => ?_)
    refine Lg.b (by rw [(show ((zh a7 x20 (Int32.toNatClampNeg (zI p1))) - (1 : Int32)) = zI (wr ((a7 x20 p1) - 1)) from (zwr (zsub (zlk rfl g1) rfl)))]; exact l_X12_in ha7 hp2 (zRd rfl) wr_R) (fun r25 a25 hr25 ha25 => ?_)
    refine Lg.eq rfl rfl hr25 (zRd rfl) ?_ ?_
    · exact (l_X12_cell_35 ha25 hp1 hp2 hp3)
    · exact (l_X12_cell_36 ha25 hp1 hp2 hp3 (zRd rfl))
theorem l_X12_rest_45 {N : Nat} {ah : IH} {v1 : Int} {v2 : Int} {s1 : Int} (hah : HR ah) (hv1 : zR v1) (hv2 : zR v2) (hs1 : zR s1) : LfI (G_X12_rest_45 N ah v1 v2 s1) (F_X12_rest_45 N (zh ah) (zI v1) (zI v2) (zI s1)) := by
  unfold G_X12_rest_45 F_X12_rest_45
  refine Lg.b (l_X12_bad hah hs1 (zRd rfl) (zRd rfl)) (fun r47 a47 hr47 ha47 => ?_)
  refine Lg.eq rfl rfl hr47 (zRd rfl) ?_ ?_
  · refine Lg.bv (l_X12_laysToken ha47 hv1 (zRd rfl)) (fun a58 ha58 => ?_)
    refine Lg.g rfl rfl (by decide) (fun g1 => ?_)
    exact LgI.ret (zlk rfl g1) (ha58 _ _) ha58
  · exact LgI.ret rfl (zRd rfl) ha47
theorem l_X12_rest_34 {N : Nat} {ah : IH} {v1 : Int} {v2 : Int} {s0 : Int} (hah : HR ah) (hv1 : zR v1) (hv2 : zR v2) (hs0 : zR s0) : LfI (G_X12_rest_34 N ah v1 v2 s0) (F_X12_rest_34 N (zh ah) (zI v1) (zI v2) (zI s0)) := by
  unfold G_X12_rest_34 F_X12_rest_34
  refine Lg.letv rfl hs0 (fun v3_34 hv3_34 => ?_)
  refine Lg.eq rfl rfl hv3_34 (zRd rfl) ?_ ?_
  · exact (l_X12_rest_45 hah hv1 hv2 (zRd rfl))
  · exact (l_X12_rest_45 hah hv1 hv2 (zRd rfl))
theorem l_X12_rest_33 {N : Nat} {ah : IH} {v1 : Int} {v2 : Int} (hah : HR ah) (hv1 : zR v1) (hv2 : zR v2) : LfI (G_X12_rest_33 N ah v1 v2) (F_X12_rest_33 N (zh ah) (zI v1) (zI v2)) := by
  unfold G_X12_rest_33 F_X12_rest_33
  exact (l_X12_rest_34 hah hv1 hv2 (zRd rfl))
theorem l_X12_rest {N : Nat} {ah : IH} {p1 : Int} {p2 : Int} (hah : HR ah) (hp1 : zR p1) (hp2 : zR p2) : LfI (G_X12_rest N ah p1 p2) (F_X12_rest N (zh ah) (zI p1) (zI p2)) := by
  unfold G_X12_rest F_X12_rest
  refine Lg.wrt hah rfl rfl rfl (zRd rfl) (fun a2 ha2 => ?_)
  refine Lg.b (l_X12_isToken ha2 hp1) (fun r7 a7 hr7 ha7 => ?_)
  refine Lg.eq rfl rfl hr7 (zRd rfl) ?_ ?_
  · exact (l_X12_rest_33 ha7 hp1 hp2)
  · refine Lg.letc (cadd rfl rfl) (fun x20 => ?_)
    refine Lg.g rfl rfl (by decide) (fun g1 => ?_)
    refine Lg.b (by rw [(show (zh a7 x20 (Int32.toNatClampNeg (zI p1))) = zI (a7 x20 p1) from (zlk rfl g1))]; exact l_X12_in ha7 hp2 (zRd rfl) (ha7 _ _)) (fun r23 a23 hr23 ha23 => ?_)
    refine Lg.eq rfl rfl hr23 (zRd rfl) ?_ ?_
    · exact (l_X12_rest_33 ha23 hp1 hp2)
    · exact (l_X12_rest_34 ha23 hp1 hp2 (zRd rfl))
theorem l_X12_best_42 {N : Nat} {ah : IH} {v1 : Int} {v2 : Int} {v3 : Int} {s1 : Int} (hah : HR ah) (hv1 : zR v1) (hv2 : zR v2) (hv3 : zR v3) (hs1 : zR s1) : LfI (G_X12_best_42 N ah v1 v2 v3 s1) (F_X12_best_42 N (zh ah) (zI v1) (zI v2) (zI v3) (zI s1)) := by
  unfold G_X12_best_42 F_X12_best_42
  refine Lg.b (l_X12_bad hah hs1 (zRd rfl) (zRd rfl)) (fun r44 a44 hr44 ha44 => ?_)
  refine Lg.eq rfl rfl hr44 (zRd rfl) ?_ ?_
  · refine Lg.b (l_X12_in ha44 hv2 (zRd rfl) (zRd rfl)) (fun r56 a56 hr56 ha56 => ?_)
    refine Lg.eq rfl rfl hr56 (zRd rfl) ?_ ?_
    · exact LgI.ret rfl (zRd rfl) ha56
    · refine Lg.bv (l_X12_laysToken ha56 hv1 (zRd rfl)) (fun a67 ha67 => ?_)
      refine Lg.bv (by rw [(show ((zI v2) + (1 : Int32)) = zI (wr (v2 + 1)) from (zwr (zadd rfl rfl)))]; exact l_X12_searches ha67 wr_R) (fun a74 ha74 => ?_)
      refine Lg.lt rfl rfl hv2 (ha74 _ _) ?_ ?_
      · refine Lg.eq rfl rfl hv3 (zRd rfl) ?_ ?_
        · refine Lg.g rfl rfl (by decide) (fun g1 => ?_)
          exact LgI.ret (zlk rfl g1) (ha74 _ _) ha74
        · refine Lg.eq rfl rfl hv3 (zRd rfl) ?_ ?_
          · refine Lg.g rfl rfl (by decide) (fun g2 => ?_)
            exact LgI.ret (zlk rfl g2) (ha74 _ _) ha74
          · refine Lg.g rfl rfl (by decide) (fun g3 => ?_)
            exact LgI.ret (zlk rfl g3) (ha74 _ _) ha74
      · exact LgI.ret rfl (zRd rfl) ha74
  · exact LgI.ret rfl (zRd rfl) ha44
theorem l_X12_best_19 {N : Nat} {ah : IH} {v1 : Int} {v2 : Int} {v3 : Int} {s1 : Int} (hah : HR ah) (hv1 : zR v1) (hv2 : zR v2) (hv3 : zR v3) (hs1 : zR s1) : LfI (G_X12_best_19 N ah v1 v2 v3 s1) (F_X12_best_19 N (zh ah) (zI v1) (zI v2) (zI v3) (zI s1)) := by
  unfold G_X12_best_19 F_X12_best_19
  refine Lg.b (l_X12_bad hah hs1 (zRd rfl) (zRd rfl)) (fun r21 a21 hr21 ha21 => ?_)
  refine Lg.eq rfl rfl hr21 (zRd rfl) ?_ ?_
  · refine Lg.b (l_X12_in ha21 hv3 (zRd rfl) (zRd rfl)) (fun r31 a31 hr31 ha31 => ?_)
    refine Lg.eq rfl rfl hr31 (zRd rfl) ?_ ?_
    · exact (l_X12_best_42 ha31 hv1 hv2 hv3 (zRd rfl))
    · exact (l_X12_best_42 ha31 hv1 hv2 hv3 (zRd rfl))
  · exact LgI.ret rfl (zRd rfl) ha21
theorem l_X12_best {N : Nat} {ah : IH} {p1 : Int} {p2 : Int} {p3 : Int} (hah : HR ah) (hp1 : zR p1) (hp2 : zR p2) (hp3 : zR p3) : LfI (G_X12_best N ah p1 p2 p3) (F_X12_best N (zh ah) (zI p1) (zI p2) (zI p3)) := by
  unfold G_X12_best F_X12_best
  refine Lg.wrt hah rfl rfl rfl (zRd rfl) (fun a2 ha2 => ?_)
  refine Lg.b (l_X12_isToken ha2 hp1) (fun r8 a8 hr8 ha8 => ?_)
  refine Lg.eq rfl rfl hr8 (zRd rfl) ?_ ?_
  · exact (l_X12_best_19 ha8 hp1 hp2 hp3 (zRd rfl))
  · exact (l_X12_best_19 ha8 hp1 hp2 hp3 (zRd rfl))
theorem l_X12_priceOf {N : Nat} {ah : IH} {p1 : Int} (hah : HR ah) (hp1 : zR p1) : LfI (G_X12_priceOf N ah p1) (F_X12_priceOf N (zh ah) (zI p1)) := by
  unfold G_X12_priceOf F_X12_priceOf
  refine Lg.b (l_X12_spells hah hp1) (fun r2 a2 hr2 ha2 => ?_)
  refine Lg.letv rfl hr2 (fun v2_5 hv2_5 => ?_)
  refine Lg.lt rfl rfl hv2_5 (zRd rfl) ?_ ?_
  · refine Lg.g rfl rfl (by decide) (fun g1 => ?_)
    exact LgI.ret (zwr (zadd rfl (zlk rfl g1))) wr_R ha2
  · exact LgI.ret rfl (zRd rfl) ha2
theorem l_X12_price_27 {N : Nat} {ah : IH} {v1 : Int} {v2 : Int} {s1 : Int} (hah : HR ah) (hv1 : zR v1) (hv2 : zR v2) (hs1 : zR s1) : LfI (G_X12_price_27 N ah v1 v2 s1) (F_X12_price_27 N (zh ah) (zI v1) (zI v2) (zI s1)) := by
  unfold G_X12_price_27 F_X12_price_27
  refine Lg.b (l_X12_bad hah hs1 (zRd rfl) (zRd rfl)) (fun r29 a29 hr29 ha29 => ?_)
  refine Lg.eq rfl rfl hr29 (zRd rfl) ?_ ?_
  · refine Lg.bv (l_X12_laysToken ha29 hv1 (zRd rfl)) (fun a40 ha40 => ?_)
    refine Lg.b (l_X12_priceOf ha40 hv2) (fun r45 a45 hr45 ha45 => ?_)
    exact LgI.ret rfl hr45 ha45
  · exact LgI.ret rfl (zRd rfl) ha29
theorem l_X12_price_22 {N : Nat} {ah : IH} {v1 : Int} {v2 : Int} (hah : HR ah) (hv1 : zR v1) (hv2 : zR v2) : LfI (G_X12_price_22 N ah v1 v2) (F_X12_price_22 N (zh ah) (zI v1) (zI v2)) := by
  unfold G_X12_price_22 F_X12_price_22
  exact (l_X12_price_27 hah hv1 hv2 (zRd rfl))
theorem l_X12_price {N : Nat} {ah : IH} {p1 : Int} {p2 : Int} (hah : HR ah) (hp1 : zR p1) (hp2 : zR p2) : LfI (G_X12_price N ah p1 p2) (F_X12_price N (zh ah) (zI p1) (zI p2)) := by
  unfold G_X12_price F_X12_price
  refine Lg.wrt hah rfl rfl rfl (zRd rfl) (fun a2 ha2 => ?_)
  refine Lg.b (l_X12_isToken ha2 hp1) (fun r8 a8 hr8 ha8 => ?_)
  refine Lg.eq rfl rfl hr8 (zRd rfl) ?_ ?_
  · exact (l_X12_price_22 ha8 hp1 hp2)
  · refine Lg.b (l_X12_isWord ha8 hp2) (fun r16 a16 hr16 ha16 => ?_)
    refine Lg.eq rfl rfl hr16 (zRd rfl) ?_ ?_
    · exact (l_X12_price_22 ha16 hp1 hp2)
    · exact (l_X12_price_27 ha16 hp1 hp2 (zRd rfl))
theorem l_X12_within_94 {N : Nat} {k65 : IH → Int → Int → Int → Option (Int × IH)} {k65F : AH → Int32 → Int32 → Int32 → Option (Int32 × AH)} {ah : IH} {v2 : Int} {v4 : Int} {s0 : Int} {s1 : Int} (hk65 : ∀ {z0 : IH} {z1 : Int} {z2 : Int} {z3 : Int}, HR z0 → zR z1 → zR z2 → zR z3 → LfI (k65 z0 z1 z2 z3) (k65F (zh z0) (zI z1) (zI z2) (zI z3))) (hah : HR ah) (hv2 : zR v2) (hv4 : zR v4) (hs0 : zR s0) (hs1 : zR s1) : LfI (G_X12_within_94 N k65 ah v2 v4 s0 s1) (F_X12_within_94 N k65F (zh ah) (zI v2) (zI v4) (zI s0) (zI s1)) := by
  unfold G_X12_within_94 F_X12_within_94
  refine Lg.letv (zwr (zadd rfl rfl)) wr_R (fun v3_95 hv3_95 => ?_)
  refine Lg.letv (zwr (zadd rfl rfl)) wr_R (fun v4_96 hv4_96 => ?_)
  exact (hk65 hah hv2 hv3_95 hv4_96)
theorem l_X12_within_65 {N : Nat}  : ∀ (n : Nat) {ah : IH} {v2 : Int} {v3 : Int} {v4 : Int}, HR ah → zR v2 → zR v3 → zR v4 → LfI (G_X12_within_65 N n ah v2 v3 v4) (F_X12_within_65 N n (zh ah) (zI v2) (zI v3) (zI v4)) := by
  intro n
  induction n with
  | zero => intros; exact Lg.none
  | succ n ih =>
    intro ah v2 v3 v4 hah hv2 hv3 hv4
    unfold G_X12_within_65 F_X12_within_65
    refine Lg.le rfl rfl (hah _ _) hv4 ?_ ?_
    · exact LgI.ret rfl hv3 hah
    · refine Lg.b (l_X12_priceOf hah hv4) (fun r78 a78 hr78 ha78 => ?_)
      refine Lg.b (l_X12_in ha78 hr78 (zRd rfl) hv2) (fun r83 a83 hr83 ha83 => ?_)
      refine Lg.eq rfl rfl hr83 (zRd rfl) ?_ ?_
      · exact (l_X12_within_94 ih ha83 hv2 hv4 hv3 (zRd rfl))
      · exact (l_X12_within_94 ih ha83 hv2 hv4 hv3 (zRd rfl))
theorem l_X12_within_44 {N : Nat} {ah : IH} {v1 : Int} {v2 : Int} {s1 : Int} (hah : HR ah) (hv1 : zR v1) (hv2 : zR v2) (hs1 : zR s1) : LfI (G_X12_within_44 N ah v1 v2 s1) (F_X12_within_44 N (zh ah) (zI v1) (zI v2) (zI s1)) := by
  unfold G_X12_within_44 F_X12_within_44
  refine Lg.b (l_X12_bad hah hs1 (zRd rfl) (zRd rfl)) (fun r46 a46 hr46 ha46 => ?_)
  refine Lg.eq rfl rfl hr46 (zRd rfl) ?_ ?_
  · refine Lg.bv (l_X12_laysToken ha46 hv1 (zRd rfl)) (fun a57 ha57 => ?_)
    refine Lg.letv rfl (zRd rfl) (fun v3_61 hv3_61 => ?_)
    refine Lg.letv rfl (zRd rfl) (fun v4_63 hv4_63 => ?_)
    exact (l_X12_within_65 _ ha57 hv2 hv3_61 hv4_63)
  · exact LgI.ret rfl (zRd rfl) ha46
theorem l_X12_within_19 {N : Nat} {ah : IH} {v1 : Int} {v2 : Int} {s1 : Int} (hah : HR ah) (hv1 : zR v1) (hv2 : zR v2) (hs1 : zR s1) : LfI (G_X12_within_19 N ah v1 v2 s1) (F_X12_within_19 N (zh ah) (zI v1) (zI v2) (zI s1)) := by
  unfold G_X12_within_19 F_X12_within_19
  refine Lg.b (l_X12_bad hah hs1 (zRd rfl) (zRd rfl)) (fun r21 a21 hr21 ha21 => ?_)
  refine Lg.eq rfl rfl hr21 (zRd rfl) ?_ ?_
  · refine Lg.b (l_X12_in ha21 hv2 (zRd rfl) (zRd rfl)) (fun r33 a33 hr33 ha33 => ?_)
    refine Lg.eq rfl rfl hr33 (zRd rfl) ?_ ?_
    · exact (l_X12_within_44 ha33 hv1 hv2 (zRd rfl))
    · exact (l_X12_within_44 ha33 hv1 hv2 (zRd rfl))
  · exact LgI.ret rfl (zRd rfl) ha21
theorem l_X12_within {N : Nat} {ah : IH} {p1 : Int} {p2 : Int} (hah : HR ah) (hp1 : zR p1) (hp2 : zR p2) : LfI (G_X12_within N ah p1 p2) (F_X12_within N (zh ah) (zI p1) (zI p2)) := by
  unfold G_X12_within F_X12_within
  refine Lg.wrt hah rfl rfl rfl (zRd rfl) (fun a2 ha2 => ?_)
  refine Lg.b (l_X12_isToken ha2 hp1) (fun r8 a8 hr8 ha8 => ?_)
  refine Lg.eq rfl rfl hr8 (zRd rfl) ?_ ?_
  · exact (l_X12_within_19 ha8 hp1 hp2 (zRd rfl))
  · exact (l_X12_within_19 ha8 hp1 hp2 (zRd rfl))
theorem l_X12_mends_120 {N : Nat} {ah : IH} {s1 : Int} (hah : HR ah) (hs1 : zR s1) : LfV (G_X12_mends_120 N ah s1) (F_X12_mends_120 N (zh ah) (zI s1)) := by
  unfold G_X12_mends_120 F_X12_mends_120
  refine Lg.wrt hah rfl rfl (zwr (zsub rfl rfl)) wr_R (fun a127 ha127 => ?_)
  exact LgV.ret ha127
theorem l_X12_mends_91 {N : Nat} {ah : IH} {s1 : Int} (hah : HR ah) (hs1 : zR s1) : LfV (G_X12_mends_91 N ah s1) (F_X12_mends_91 N (zh ah) (zI s1)) := by
  unfold G_X12_mends_91 F_X12_mends_91
  refine Lg.wrt hah rfl rfl rfl hs1 (fun a91 ha91 => ?_)
  exact LgV.ret ha91
theorem l_X12_mends_60 {N : Nat} {ah : IH} {v2 : Int} {s1 : Int} (hah : HR ah) (hv2 : zR v2) (hs1 : zR s1) : LfV (G_X12_mends_60 N ah v2 s1) (F_X12_mends_60 N (zh ah) (zI v2) (zI s1)) := by
  unfold G_X12_mends_60 F_X12_mends_60
  refine Lg.wrt hah rfl rfl rfl hs1 (fun a60 ha60 => ?_)
  refine Lg.eq rfl rfl (ha60 _ _) (zRd rfl) ?_ ?_
  · refine Lg.le rfl rfl (ha60 _ _) (zRd rfl) ?_ ?_
    · exact (l_X12_mends_91 ha60 (zRd rfl))
    · exact (by rw [(show ((zh a60 34 0) - (zI v2)) = zI (wr ((a60 34 0) - v2)) from (zwr (zsub rfl rfl)))]; exact l_X12_mends_91 ha60 wr_R)
  · refine Lg.le rfl rfl (ha60 _ _) (zRd rfl) ?_ ?_
    · exact (l_X12_mends_120 ha60 hv2)
    · refine Lg.b (l_X12_less ha60 (ha60 _ _) hv2) (fun r113 a113 hr113 ha113 => ?_)
      exact (l_X12_mends_120 ha113 hr113)
theorem l_X12_mends_38 {N : Nat} {ah : IH} {v2 : Int} {s1 : Int} (hah : HR ah) (hv2 : zR v2) (hs1 : zR s1) : LfV (G_X12_mends_38 N ah v2 s1) (F_X12_mends_38 N (zh ah) (zI v2) (zI s1)) := by
  unfold G_X12_mends_38 F_X12_mends_38
  refine Lg.wrt hah rfl rfl rfl hs1 (fun a38 ha38 => ?_)
  refine Lg.eq rfl rfl (ha38 _ _) (zRd rfl) ?_ ?_
  · exact (l_X12_mends_60 ha38 hv2 hv2)
  · exact (l_X12_mends_60 ha38 hv2 (ha38 _ _))
theorem l_X12_mends_37 {N : Nat} {ah : IH} {v2 : Int} (hah : HR ah) (hv2 : zR v2) : LfV (G_X12_mends_37 N ah v2) (F_X12_mends_37 N (zh ah) (zI v2)) := by
  unfold G_X12_mends_37 F_X12_mends_37
  exact (l_X12_mends_38 hah hv2 (zRd rfl))
theorem l_X12_mends {N : Nat} {ah : IH} {p1 : Int} (hah : HR ah) (hp1 : zR p1) : LfV (G_X12_mends N ah p1) (F_X12_mends N (zh ah) (zI p1)) := by
  unfold G_X12_mends F_X12_mends
  refine Lg.bv (l_X12_searches hah hp1) (fun a2 ha2 => ?_)
  refine Lg.b (l_X12_outside ha2) (fun r6 a6 hr6 ha6 => ?_)
  refine Lg.letv rfl hr6 (fun v2_9 hv2_9 => ?_)
  refine Lg.le rfl rfl (ha6 _ _) (zRd rfl) ?_ ?_
  · exact (l_X12_mends_37 ha6 hv2_9)
  · refine Lg.lt rfl rfl hv2_9 (ha6 _ _) ?_ ?_
    · exact (l_X12_mends_37 ha6 hv2_9)
    · exact (l_X12_mends_38 ha6 hv2_9 (ha6 _ _))
theorem l_X12_mended_42 {N : Nat} {ah : IH} {v1 : Int} {v2 : Int} {s1 : Int} (hah : HR ah) (hv1 : zR v1) (hv2 : zR v2) (hs1 : zR s1) : LfI (G_X12_mended_42 N ah v1 v2 s1) (F_X12_mended_42 N (zh ah) (zI v1) (zI v2) (zI s1)) := by
  unfold G_X12_mended_42 F_X12_mended_42
  refine Lg.b (l_X12_bad hah hs1 (zRd rfl) (zRd rfl)) (fun r44 a44 hr44 ha44 => ?_)
  refine Lg.eq rfl rfl hr44 (zRd rfl) ?_ ?_
  · refine Lg.bv (l_X12_laysToken ha44 hv1 (zRd rfl)) (fun a55 ha55 => ?_)
    refine Lg.bv (l_X12_mends ha55 (zRd rfl)) (fun a60 ha60 => ?_)
    refine Lg.eq rfl rfl hv2 (zRd rfl) ?_ ?_
    · exact LgI.ret rfl (ha60 _ _) ha60
    · refine Lg.eq rfl rfl hv2 (zRd rfl) ?_ ?_
      · exact LgI.ret rfl (ha60 _ _) ha60
      · exact LgI.ret rfl (ha60 _ _) ha60
  · exact LgI.ret rfl (zRd rfl) ha44
theorem l_X12_mended_19 {N : Nat} {ah : IH} {v1 : Int} {v2 : Int} {s1 : Int} (hah : HR ah) (hv1 : zR v1) (hv2 : zR v2) (hs1 : zR s1) : LfI (G_X12_mended_19 N ah v1 v2 s1) (F_X12_mended_19 N (zh ah) (zI v1) (zI v2) (zI s1)) := by
  unfold G_X12_mended_19 F_X12_mended_19
  refine Lg.b (l_X12_bad hah hs1 (zRd rfl) (zRd rfl)) (fun r21 a21 hr21 ha21 => ?_)
  refine Lg.eq rfl rfl hr21 (zRd rfl) ?_ ?_
  · refine Lg.b (l_X12_in ha21 hv2 (zRd rfl) (zRd rfl)) (fun r31 a31 hr31 ha31 => ?_)
    refine Lg.eq rfl rfl hr31 (zRd rfl) ?_ ?_
    · exact (l_X12_mended_42 ha31 hv1 hv2 (zRd rfl))
    · exact (l_X12_mended_42 ha31 hv1 hv2 (zRd rfl))
  · exact LgI.ret rfl (zRd rfl) ha21
theorem l_X12_mended {N : Nat} {ah : IH} {p1 : Int} {p2 : Int} (hah : HR ah) (hp1 : zR p1) (hp2 : zR p2) : LfI (G_X12_mended N ah p1 p2) (F_X12_mended N (zh ah) (zI p1) (zI p2)) := by
  unfold G_X12_mended F_X12_mended
  refine Lg.wrt hah rfl rfl rfl (zRd rfl) (fun a2 ha2 => ?_)
  refine Lg.b (l_X12_isToken ha2 hp1) (fun r8 a8 hr8 ha8 => ?_)
  refine Lg.eq rfl rfl hr8 (zRd rfl) ?_ ?_
  · exact (l_X12_mended_19 ha8 hp1 hp2 (zRd rfl))
  · exact (l_X12_mended_19 ha8 hp1 hp2 (zRd rfl))
theorem l_X12_laysWay_124 {N : Nat} {k39 : IH → Int → Int → Option (Int × IH)} {k39F : AH → Int32 → Int32 → Option (Int32 × AH)} {k50 : IH → Int → Int → Int → Option (Int × IH)} {k50F : AH → Int32 → Int32 → Int32 → Option (Int32 × AH)} {ah : IH} {v2 : Int} {v3 : Int} {v4 : Int} (hk39 : ∀ {z0 : IH} {z1 : Int} {z2 : Int}, HR z0 → zR z1 → zR z2 → LfI (k39 z0 z1 z2) (k39F (zh z0) (zI z1) (zI z2))) (hk50 : ∀ {z0 : IH} {z1 : Int} {z2 : Int} {z3 : Int}, HR z0 → zR z1 → zR z2 → zR z3 → LfI (k50 z0 z1 z2 z3) (k50F (zh z0) (zI z1) (zI z2) (zI z3))) (hah : HR ah) (hv2 : zR v2) (hv3 : zR v3) (hv4 : zR v4) : LfI (G_X12_laysWay_124 N k39 k50 ah v2 v3 v4) (F_X12_laysWay_124 N k39F k50F (zh ah) (zI v2) (zI v3) (zI v4)) := by
  unfold G_X12_laysWay_124 F_X12_laysWay_124
  refine Lg.letv (zwr (zadd rfl rfl)) wr_R (fun v4_124 hv4_124 => ?_)
  exact (hk50 hah hv2 hv3 hv4_124)
theorem l_X12_laysWay_50 {N : Nat} {k39 : IH → Int → Int → Option (Int × IH)} {k39F : AH → Int32 → Int32 → Option (Int32 × AH)} (hk39 : ∀ {z0 : IH} {z1 : Int} {z2 : Int}, HR z0 → zR z1 → zR z2 → LfI (k39 z0 z1 z2) (k39F (zh z0) (zI z1) (zI z2))) : ∀ (n : Nat) {ah : IH} {v2 : Int} {v3 : Int} {v4 : Int}, HR ah → zR v2 → zR v3 → zR v4 → LfI (G_X12_laysWay_50 N k39 n ah v2 v3 v4) (F_X12_laysWay_50 N k39F n (zh ah) (zI v2) (zI v3) (zI v4)) := by
  intro n
  induction n with
  | zero => intros; exact Lg.none
  | succ n ih =>
    intro ah v2 v3 v4 hah hv2 hv3 hv4
    unfold G_X12_laysWay_50 F_X12_laysWay_50
    refine Lg.g rfl rfl (by decide) (fun g1 => ?_)
    refine Lg.g rfl rfl (by decide) (fun g2 => ?_)
    refine Lg.letc (cadd rfl (cadd (cmul (zix rfl g1) rfl) (zix rfl g2))) (fun x59 => ?_)
    refine Lg.b (l_X12_fits hah (hah _ _) hv3) (fun r65 a65 hr65 ha65 => ?_)
    refine Lg.eq rfl rfl hr65 (zRd rfl) ?_ ?_
    · exact (l_X12_laysWay_124 hk39 ih ha65 hv2 hv3 hv4)
    · refine Lg.g rfl rfl (by decide) (fun g3 => ?_)
      refine Lg.g rfl rfl (by decide) (fun g4 => ?_)
      refine Lg.letc (cadd rfl (cadd (cmul (zix rfl g3) rfl) (zix rfl g4))) (fun x79 => ?_)
      refine Lg.g rfl rfl (by decide) (fun g5 => ?_)
      refine Lg.g rfl rfl (by decide) (fun g6 => ?_)
      refine Lg.letc (cadd rfl (cadd (cmul (zix rfl g5) rfl) (zix rfl g6))) (fun x94 => ?_)
      refine Lg.g rfl rfl (by decide) (fun g7 => ?_)
      refine Lg.letc (cadd rfl (zix rfl g7)) (fun x97 => ?_)
      refine Lg.g rfl rfl (by decide) (fun g8 => ?_)
      refine Lg.g rfl rfl (by decide) (fun g9 => ?_)
      refine Lg.letc (cadd rfl (cadd (cmul (zix rfl g8) rfl) (zix rfl g9))) (fun x107 => ?_)
      refine Lg.g (zadd rfl rfl) rfl (by decide) (fun g10 => ?_)
      refine Lg.g rfl rfl (by decide) (fun g11 => ?_)
      refine Lg.letc (cadd rfl (zix rfl g11)) (fun x118 => ?_)
      refine Lg.g rfl rfl (by decide) (fun g12 => ?_)
      refine Lg.eq (zwr (zadd rfl (zlk (zadd rfl rfl) g10))) (zlk rfl g12) wr_R (ha65 _ _) ?_ ?_
      · refine Lg.g rfl rfl (by decide) (fun g13 => ?_)
        refine Lg.wrt ha65 rfl (zix rfl g13) rfl hv2 (fun a139 ha139 => ?_)
        refine Lg.g rfl rfl (by decide) (fun g14 => ?_)
        refine Lg.wrt ha139 rfl (zix rfl g14) rfl hv4 (fun a150 ha150 => ?_)
        refine Lg.wrt ha150 rfl rfl (zwr (zadd rfl rfl)) wr_R (fun a158 ha158 => ?_)
        refine Lg.g rfl rfl (by decide) (fun g15 => ?_)
        refine Lg.g rfl rfl (by decide) (fun g16 => ?_)
        refine Lg.letc (cadd rfl (cadd (cmul (zix rfl g15) rfl) (zix rfl g16))) (fun x169 => ?_)
        refine Lg.letv rfl (ha158 _ _) (fun v2_176 hv2_176 => ?_)
        refine Lg.letv (zwr (zadd rfl rfl)) wr_R (fun v3_183 hv3_183 => ?_)
        exact (hk39 ha158 hv2_176 hv3_183)
      · exact (l_X12_laysWay_124 hk39 ih ha65 hv2 hv3 hv4)
theorem l_X12_laysWay_39 {N : Nat}  : ∀ (n : Nat) {ah : IH} {v2 : Int} {v3 : Int}, HR ah → zR v2 → zR v3 → LfI (G_X12_laysWay_39 N n ah v2 v3) (F_X12_laysWay_39 N n (zh ah) (zI v2) (zI v3)) := by
  intro n
  induction n with
  | zero => intros; exact Lg.none
  | succ n ih =>
    intro ah v2 v3 hah hv2 hv3
    unfold G_X12_laysWay_39 F_X12_laysWay_39
    refine Lg.le rfl rfl (hah _ _) hv2 ?_ ?_
    · exact LgI.ret rfl (zRd rfl) hah
    · refine Lg.letv rfl (zRd rfl) (fun v4_48 hv4_48 => ?_)
      exact (l_X12_laysWay_50 ih _ hah hv2 hv3 hv4_48)
theorem l_X12_laysWay {N : Nat} {ah : IH} {p1 : Int} (hah : HR ah) (hp1 : zR p1) : LfI (G_X12_laysWay N ah p1) (F_X12_laysWay N (zh ah) (zI p1)) := by
  unfold G_X12_laysWay F_X12_laysWay
  refine Lg.bv (l_X12_laysToken hah hp1 (zRd rfl)) (fun a3 ha3 => ?_)
  refine Lg.bv (l_X12_mends ha3 (zRd rfl)) (fun a8 ha8 => ?_)
  refine Lg.wrt ha8 rfl rfl rfl (zRd rfl) (fun a13 ha13 => ?_)
  refine Lg.eq rfl rfl (ha13 _ _) (zRd rfl) ?_ ?_
  · exact LgI.ret rfl (zRd rfl) ha13
  · refine Lg.b (l_X12_spells ha13 (ha13 _ _)) (fun r31 a31 hr31 ha31 => ?_)
    refine Lg.letv rfl (zRd rfl) (fun v2_36 hv2_36 => ?_)
    refine Lg.letv rfl (zRd rfl) (fun v3_38 hv3_38 => ?_)
    exact (l_X12_laysWay_39 _ ha31 hv2_36 hv3_38)
theorem l_X12_way_42 {N : Nat} {ah : IH} {v1 : Int} {v2 : Int} {s1 : Int} (hah : HR ah) (hv1 : zR v1) (hv2 : zR v2) (hs1 : zR s1) : LfI (G_X12_way_42 N ah v1 v2 s1) (F_X12_way_42 N (zh ah) (zI v1) (zI v2) (zI s1)) := by
  unfold G_X12_way_42 F_X12_way_42
  refine Lg.b (l_X12_bad hah hs1 (zRd rfl) (zRd rfl)) (fun r44 a44 hr44 ha44 => ?_)
  refine Lg.eq rfl rfl hr44 (zRd rfl) ?_ ?_
  · refine Lg.b (l_X12_laysWay ha44 hv1) (fun r54 a54 hr54 ha54 => ?_)
    refine Lg.eq rfl rfl hr54 (zRd rfl) ?_ ?_
    · exact LgI.ret rfl (zRd rfl) ha54
    · refine Lg.eq rfl rfl hv2 (zRd rfl) ?_ ?_
      · exact LgI.ret rfl (ha54 _ _) ha54
      · refine Lg.letc (cadd rfl rfl) (fun x78 => ?_)
        exact LgI.ret rfl (ha54 _ _) ha54
  · exact LgI.ret rfl (zRd rfl) ha44
theorem l_X12_way_19 {N : Nat} {ah : IH} {v1 : Int} {v2 : Int} {s1 : Int} (hah : HR ah) (hv1 : zR v1) (hv2 : zR v2) (hs1 : zR s1) : LfI (G_X12_way_19 N ah v1 v2 s1) (F_X12_way_19 N (zh ah) (zI v1) (zI v2) (zI s1)) := by
  unfold G_X12_way_19 F_X12_way_19
  refine Lg.b (l_X12_bad hah hs1 (zRd rfl) (zRd rfl)) (fun r21 a21 hr21 ha21 => ?_)
  refine Lg.eq rfl rfl hr21 (zRd rfl) ?_ ?_
  · refine Lg.b (l_X12_in ha21 hv2 (zRd rfl) (zRd rfl)) (fun r31 a31 hr31 ha31 => ?_)
    refine Lg.eq rfl rfl hr31 (zRd rfl) ?_ ?_
    · exact (l_X12_way_42 ha31 hv1 hv2 (zRd rfl))
    · exact (l_X12_way_42 ha31 hv1 hv2 (zRd rfl))
  · exact LgI.ret rfl (zRd rfl) ha21
theorem l_X12_way {N : Nat} {ah : IH} {p1 : Int} {p2 : Int} (hah : HR ah) (hp1 : zR p1) (hp2 : zR p2) : LfI (G_X12_way N ah p1 p2) (F_X12_way N (zh ah) (zI p1) (zI p2)) := by
  unfold G_X12_way F_X12_way
  refine Lg.wrt hah rfl rfl rfl (zRd rfl) (fun a2 ha2 => ?_)
  refine Lg.b (l_X12_isToken ha2 hp1) (fun r8 a8 hr8 ha8 => ?_)
  refine Lg.eq rfl rfl hr8 (zRd rfl) ?_ ?_
  · exact (l_X12_way_19 ha8 hp1 hp2 (zRd rfl))
  · exact (l_X12_way_19 ha8 hp1 hp2 (zRd rfl))
theorem l_X12_edge__71 {N : Nat} {ah : IH} {v2 : Int} {v3 : Int} {s1 : Int} (hah : HR ah) (hv2 : zR v2) (hv3 : zR v3) (hs1 : zR s1) : LfI (G_X12_edge__71 N ah v2 v3 s1) (F_X12_edge__71 N (zh ah) (zI v2) (zI v3) (zI s1)) := by
  unfold G_X12_edge__71 F_X12_edge__71
  refine Lg.b (l_X12_bad hah hs1 (zRd rfl) (zRd rfl)) (fun r73 a73 hr73 ha73 => ?_)
  refine Lg.eq rfl rfl hr73 (zRd rfl) ?_ ?_
  · refine Lg.g rfl rfl (by decide) (fun g1 => ?_)
    refine Lg.g (zlk rfl g1) rfl (by decide) (fun g2 => ?_)
    refine Lg.g rfl rfl (by decide) (fun g3 => ?_)
    refine Lg.g (zlk rfl g3) rfl (by decide) (fun g4 => ?_)
    refine Lg.letc (cadd rfl (cadd (cmul (zix (zlk rfl g3) g2) rfl) (zix (zlk rfl g3) g4))) (fun x98 => ?_)
    refine Lg.eq rfl rfl hv3 (zRd rfl) ?_ ?_
    · refine Lg.g rfl rfl (by decide) (fun g5 => ?_)
      exact LgI.ret (zlk rfl g5) (ha73 _ _) ha73
    · refine Lg.eq rfl rfl hv3 (zRd rfl) ?_ ?_
      · exact LgI.ret rfl (ha73 _ _) ha73
      · refine Lg.eq rfl rfl hv3 (zRd rfl) ?_ ?_
        · exact LgI.ret rfl (ha73 _ _) ha73
        · refine Lg.eq rfl rfl hv3 (zRd rfl) ?_ ?_
          · exact LgI.ret rfl (ha73 _ _) ha73
          · exact LgI.ret rfl (ha73 _ _) ha73
  · exact LgI.ret rfl (zRd rfl) ha73
theorem l_X12_edge__48 {N : Nat} {ah : IH} {v2 : Int} {v3 : Int} {s1 : Int} (hah : HR ah) (hv2 : zR v2) (hv3 : zR v3) (hs1 : zR s1) : LfI (G_X12_edge__48 N ah v2 v3 s1) (F_X12_edge__48 N (zh ah) (zI v2) (zI v3) (zI s1)) := by
  unfold G_X12_edge__48 F_X12_edge__48
  refine Lg.b (l_X12_bad hah hs1 (zRd rfl) (zRd rfl)) (fun r50 a50 hr50 ha50 => ?_)
  refine Lg.eq rfl rfl hr50 (zRd rfl) ?_ ?_
  · refine Lg.b (l_X12_in ha50 hv3 (zRd rfl) (zRd rfl)) (fun r60 a60 hr60 ha60 => ?_)
    refine Lg.eq rfl rfl hr60 (zRd rfl) ?_ ?_
    · exact (l_X12_edge__71 ha60 hv2 hv3 (zRd rfl))
    · exact (l_X12_edge__71 ha60 hv2 hv3 (zRd rfl))
  · exact LgI.ret rfl (zRd rfl) ha50
theorem l_X12_edge__43 {N : Nat} {ah : IH} {v2 : Int} {v3 : Int} (hah : HR ah) (hv2 : zR v2) (hv3 : zR v3) : LfI (G_X12_edge__43 N ah v2 v3) (F_X12_edge__43 N (zh ah) (zI v2) (zI v3)) := by
  unfold G_X12_edge__43 F_X12_edge__43
  exact (l_X12_edge__48 hah hv2 hv3 (zRd rfl))
theorem l_X12_edge__23 {N : Nat} {ah : IH} {v2 : Int} {v3 : Int} {v4 : Int} (hah : HR ah) (hv2 : zR v2) (hv3 : zR v3) (hv4 : zR v4) : LfI (G_X12_edge__23 N ah v2 v3 v4) (F_X12_edge__23 N (zh ah) (zI v2) (zI v3) (zI v4)) := by
  unfold G_X12_edge__23 F_X12_edge__23
  refine Lg.eq rfl rfl hv4 (zRd rfl) ?_ ?_
  · exact (l_X12_edge__43 hah hv2 hv3)
  · refine Lg.b (by rw [(show ((zh ah 0 53) - (1 : Int32)) = zI (wr ((ah 0 53) - 1)) from (zwr (zsub rfl rfl)))]; exact l_X12_in hah hv2 (zRd rfl) wr_R) (fun r37 a37 hr37 ha37 => ?_)
    refine Lg.eq rfl rfl hr37 (zRd rfl) ?_ ?_
    · exact (l_X12_edge__43 ha37 hv2 hv3)
    · exact (l_X12_edge__48 ha37 hv2 hv3 (zRd rfl))
theorem l_X12_edge_ {N : Nat} {ah : IH} {p1 : Int} {p2 : Int} {p3 : Int} (hah : HR ah) (hp1 : zR p1) (hp2 : zR p2) (hp3 : zR p3) : LfI (G_X12_edge_ N ah p1 p2 p3) (F_X12_edge_ N (zh ah) (zI p1) (zI p2) (zI p3)) := by
  unfold G_X12_edge_ F_X12_edge_
  refine Lg.wrt hah rfl rfl rfl (zRd rfl) (fun a2 ha2 => ?_)
  refine Lg.b (l_X12_isToken ha2 hp1) (fun r7 a7 hr7 ha7 => ?_)
  refine Lg.letv rfl hr7 (fun v4_10 hv4_10 => ?_)
  refine Lg.eq rfl rfl hv4_10 (zRd rfl) ?_ ?_
  · exact (l_X12_edge__23 ha7 hp2 hp3 hv4_10)
  · refine Lg.b (l_X12_laysWay ha7 hp1) (fun r19 a19 hr19 ha19 => ?_)
    exact (l_X12_edge__23 ha19 hp2 hp3 hv4_10)
theorem l_X12_used_102 {N : Nat} {k41 : IH → Int → Int → Int → Option (Int × IH)} {k41F : AH → Int32 → Int32 → Int32 → Option (Int32 × AH)} {k60 : IH → Int → Int → Int → Int → Option (Int × IH)} {k60F : AH → Int32 → Int32 → Int32 → Int32 → Option (Int32 × AH)} {ah : IH} {v1 : Int} {v3 : Int} {v4 : Int} {s0 : Int} {s1 : Int} (hk41 : ∀ {z0 : IH} {z1 : Int} {z2 : Int} {z3 : Int}, HR z0 → zR z1 → zR z2 → zR z3 → LfI (k41 z0 z1 z2 z3) (k41F (zh z0) (zI z1) (zI z2) (zI z3))) (hk60 : ∀ {z0 : IH} {z1 : Int} {z2 : Int} {z3 : Int} {z4 : Int}, HR z0 → zR z1 → zR z2 → zR z3 → zR z4 → LfI (k60 z0 z1 z2 z3 z4) (k60F (zh z0) (zI z1) (zI z2) (zI z3) (zI z4))) (hah : HR ah) (hv1 : zR v1) (hv3 : zR v3) (hv4 : zR v4) (hs0 : zR s0) (hs1 : zR s1) : LfI (G_X12_used_102 N k41 k60 ah v1 v3 v4 s0 s1) (F_X12_used_102 N k41F k60F (zh ah) (zI v1) (zI v3) (zI v4) (zI s0) (zI s1)) := by
  unfold G_X12_used_102 F_X12_used_102
  refine Lg.letv (zwr (zadd rfl rfl)) wr_R (fun v2_103 hv2_103 => ?_)
  refine Lg.letv (zwr (zadd rfl rfl)) wr_R (fun v4_104 hv4_104 => ?_)
  exact (hk60 hah hv1 hv2_103 hv3 hv4_104)
theorem l_X12_used_60 {N : Nat} {k41 : IH → Int → Int → Int → Option (Int × IH)} {k41F : AH → Int32 → Int32 → Int32 → Option (Int32 × AH)} (hk41 : ∀ {z0 : IH} {z1 : Int} {z2 : Int} {z3 : Int}, HR z0 → zR z1 → zR z2 → zR z3 → LfI (k41 z0 z1 z2 z3) (k41F (zh z0) (zI z1) (zI z2) (zI z3))) : ∀ (n : Nat) {ah : IH} {v1 : Int} {v2 : Int} {v3 : Int} {v4 : Int}, HR ah → zR v1 → zR v2 → zR v3 → zR v4 → LfI (G_X12_used_60 N k41 n ah v1 v2 v3 v4) (F_X12_used_60 N k41F n (zh ah) (zI v1) (zI v2) (zI v3) (zI v4)) := by
  intro n
  induction n with
  | zero => intros; exact Lg.none
  | succ n ih =>
    intro ah v1 v2 v3 v4 hah hv1 hv2 hv3 hv4
    unfold G_X12_used_60 F_X12_used_60
    refine Lg.le rfl rfl (hah _ _) hv4 ?_ ?_
    · refine Lg.letv (zwr (zadd rfl rfl)) wr_R (fun v3_110 hv3_110 => ?_)
      exact (hk41 hah hv1 hv2 hv3_110)
    · refine Lg.g rfl rfl (by decide) (fun g1 => ?_)
      refine Lg.g (zlk rfl g1) rfl (by decide) (fun g2 => ?_)
      refine Lg.g rfl rfl (by decide) (fun g3 => ?_)
      refine Lg.g (zlk rfl g3) rfl (by decide) (fun g4 => ?_)
      refine Lg.letc (cadd rfl (cadd (cmul (zix (zlk rfl g3) g2) rfl) (zix (zlk rfl g3) g4))) (fun x89 => ?_)
      refine Lg.eq rfl rfl (hah _ _) hv1 ?_ ?_
      · exact (l_X12_used_102 hk41 ih hah hv1 hv3 hv4 hv2 (zRd rfl))
      · exact (l_X12_used_102 hk41 ih hah hv1 hv3 hv4 hv2 (zRd rfl))
theorem l_X12_used_41 {N : Nat}  : ∀ (n : Nat) {ah : IH} {v1 : Int} {v2 : Int} {v3 : Int}, HR ah → zR v1 → zR v2 → zR v3 → LfI (G_X12_used_41 N n ah v1 v2 v3) (F_X12_used_41 N n (zh ah) (zI v1) (zI v2) (zI v3)) := by
  intro n
  induction n with
  | zero => intros; exact Lg.none
  | succ n ih =>
    intro ah v1 v2 v3 hah hv1 hv2 hv3
    unfold G_X12_used_41 F_X12_used_41
    refine Lg.le rfl rfl (hah _ _) hv3 ?_ ?_
    · exact LgI.ret rfl hv2 hah
    · refine Lg.b (l_X12_laysWay hah hv3) (fun r53 a53 hr53 ha53 => ?_)
      refine Lg.letv rfl (zRd rfl) (fun v4_58 hv4_58 => ?_)
      exact (l_X12_used_60 ih _ ha53 hv1 hv2 hv3 hv4_58)
theorem l_X12_used_27 {N : Nat} {ah : IH} {v1 : Int} {s1 : Int} (hah : HR ah) (hv1 : zR v1) (hs1 : zR s1) : LfI (G_X12_used_27 N ah v1 s1) (F_X12_used_27 N (zh ah) (zI v1) (zI s1)) := by
  unfold G_X12_used_27 F_X12_used_27
  refine Lg.b (l_X12_bad hah hs1 (zRd rfl) (zRd rfl)) (fun r29 a29 hr29 ha29 => ?_)
  refine Lg.eq rfl rfl hr29 (zRd rfl) ?_ ?_
  · refine Lg.letv rfl (zRd rfl) (fun v2_38 hv2_38 => ?_)
    refine Lg.letv rfl (zRd rfl) (fun v3_40 hv3_40 => ?_)
    exact (l_X12_used_41 _ ha29 hv1 hv2_38 hv3_40)
  · exact LgI.ret rfl (zRd rfl) ha29
theorem l_X12_used {N : Nat} {ah : IH} {p1 : Int} (hah : HR ah) (hp1 : zR p1) : LfI (G_X12_used N ah p1) (F_X12_used N (zh ah) (zI p1)) := by
  unfold G_X12_used F_X12_used
  refine Lg.wrt hah rfl rfl rfl (zRd rfl) (fun a2 ha2 => ?_)
  refine Lg.b (by rw [(show ((zh a2 13 0) - (1 : Int32)) = zI (wr ((a2 13 0) - 1)) from (zwr (zsub rfl rfl)))]; exact l_X12_in ha2 hp1 (zRd rfl) wr_R) (fun r16 a16 hr16 ha16 => ?_)
  refine Lg.eq rfl rfl hr16 (zRd rfl) ?_ ?_
  · exact (l_X12_used_27 ha16 hp1 (zRd rfl))
  · exact (l_X12_used_27 ha16 hp1 (zRd rfl))
theorem l_X12_laysChoices_70 {N : Nat} {k15 : IH → Int → Int → Int → Option IH} {k15F : AH → Int32 → Int32 → Int32 → Option AH} {ah : IH} {v1 : Int} {v2 : Int} {v3 : Int} (hk15 : ∀ {z0 : IH} {z1 : Int} {z2 : Int} {z3 : Int}, HR z0 → zR z1 → zR z2 → zR z3 → LfV (k15 z0 z1 z2 z3) (k15F (zh z0) (zI z1) (zI z2) (zI z3))) (hah : HR ah) (hv1 : zR v1) (hv2 : zR v2) (hv3 : zR v3) : LfV (G_X12_laysChoices_70 N k15 ah v1 v2 v3) (F_X12_laysChoices_70 N k15F (zh ah) (zI v1) (zI v2) (zI v3)) := by
  unfold G_X12_laysChoices_70 F_X12_laysChoices_70
  refine Lg.letv (zwr (zadd rfl rfl)) wr_R (fun v3_70 hv3_70 => ?_)
  exact (hk15 hah hv1 hv2 hv3_70)
theorem l_X12_laysChoices_15 {N : Nat}  : ∀ (n : Nat) {ah : IH} {v1 : Int} {v2 : Int} {v3 : Int}, HR ah → zR v1 → zR v2 → zR v3 → LfV (G_X12_laysChoices_15 N n ah v1 v2 v3) (F_X12_laysChoices_15 N n (zh ah) (zI v1) (zI v2) (zI v3)) := by
  intro n
  induction n with
  | zero => intros; exact Lg.none
  | succ n ih =>
    intro ah v1 v2 v3 hah hv1 hv2 hv3
    unfold G_X12_laysChoices_15 F_X12_laysChoices_15
    refine Lg.le rfl rfl (hah _ _) hv3 ?_ ?_
    · refine Lg.g rfl rfl (by decide) (fun g1 => ?_)
      refine Lg.letc (cadd rfl (zix rfl g1)) (fun x81 => ?_)
      refine Lg.g rfl rfl (by decide) (fun g2 => ?_)
      refine Lg.wrt hah rfl (zix rfl g2) rfl (zRd rfl) (fun a84 ha84 => ?_)
      refine Lg.g rfl rfl (by decide) (fun g3 => ?_)
      refine Lg.letc (cadd rfl (zix rfl g3)) (fun x90 => ?_)
      refine Lg.b (l_X12_outside ha84) (fun r93 a93 hr93 ha93 => ?_)
      refine Lg.g rfl rfl (by decide) (fun g4 => ?_)
      refine Lg.wrt ha93 rfl (zix rfl g4) rfl hr93 (fun a96 ha96 => ?_)
      refine Lg.g rfl rfl (by decide) (fun g5 => ?_)
      refine Lg.wrt ha96 rfl (zix rfl g5) (zwr (zadd rfl rfl)) wr_R (fun a105 ha105 => ?_)
      exact LgV.ret ha105
    · refine Lg.g rfl rfl (by decide) (fun g6 => ?_)
      refine Lg.b (l_X12_outside hah) (fun r30 a30 hr30 ha30 => ?_)
      refine Lg.le (zlk rfl g6) rfl (hah _ _) hr30 ?_ ?_
      · refine Lg.g rfl rfl (by decide) (fun g7 => ?_)
        refine Lg.letc (cadd rfl (zix rfl g7)) (fun x44 => ?_)
        refine Lg.g rfl rfl (by decide) (fun g8 => ?_)
        refine Lg.g rfl rfl (by decide) (fun g9 => ?_)
        refine Lg.wrt ha30 rfl (zix rfl g9) (zlk rfl g8) (ha30 _ _) (fun a52 ha52 => ?_)
        refine Lg.g rfl rfl (by decide) (fun g10 => ?_)
        refine Lg.letc (cadd rfl (zix rfl g10)) (fun x58 => ?_)
        refine Lg.g rfl rfl (by decide) (fun g11 => ?_)
        refine Lg.g rfl rfl (by decide) (fun g12 => ?_)
        refine Lg.wrt ha52 rfl (zix rfl g12) (zlk rfl g11) (ha52 _ _) (fun a66 ha66 => ?_)
        refine Lg.letv (zwr (zadd rfl rfl)) wr_R (fun v2_67 hv2_67 => ?_)
        exact (l_X12_laysChoices_70 ih ha66 hv1 hv2_67 hv3)
      · exact (l_X12_laysChoices_70 ih ha30 hv1 hv2 hv3)
theorem l_X12_laysChoices {N : Nat} {ah : IH} {p1 : Int} (hah : HR ah) (hp1 : zR p1) : LfV (G_X12_laysChoices N ah p1) (F_X12_laysChoices N (zh ah) (zI p1)) := by
  unfold G_X12_laysChoices F_X12_laysChoices
  refine Lg.bv (l_X12_laysToken hah hp1 (zRd rfl)) (fun a3 ha3 => ?_)
  refine Lg.bv (l_X12_searches ha3 (zRd rfl)) (fun a8 ha8 => ?_)
  refine Lg.letv rfl (zRd rfl) (fun v2_12 hv2_12 => ?_)
  refine Lg.letv rfl (zRd rfl) (fun v3_14 hv3_14 => ?_)
  exact (l_X12_laysChoices_15 _ ha8 hp1 hv2_12 hv3_14)
theorem l_X12_between_10 {N : Nat} {ah : IH} (hah : HR ah) : LfI (G_X12_between_10 N ah) (F_X12_between_10 N (zh ah)) := by
  unfold G_X12_between_10 F_X12_between_10
  exact LgI.ret rfl (zRd rfl) hah
theorem l_X12_between {N : Nat} {ah : IH} {p1 : Int} {p2 : Int} (hah : HR ah) (hp1 : zR p1) (hp2 : zR p2) : LfI (G_X12_between N ah p1 p2) (F_X12_between N (zh ah) (zI p1) (zI p2)) := by
  unfold G_X12_between F_X12_between
  refine Lg.eq rfl rfl hp1 (zRd rfl) ?_ ?_
  · exact (l_X12_between_10 hah)
  · refine Lg.eq rfl rfl hp2 (zRd rfl) ?_ ?_
    · exact (l_X12_between_10 hah)
    · refine Lg.b (l_X12_dearOf hah hp1 hp2) (fun r17 a17 hr17 ha17 => ?_)
      exact LgI.ret rfl hr17 ha17
theorem l_X12_says_249 {N : Nat}  : ∀ (n : Nat) {ah : IH} {v1 : Int} {v2 : Int} {v3 : Int}, HR ah → zR v1 → zR v2 → zR v3 → LfV (G_X12_says_249 N n ah v1 v2 v3) (F_X12_says_249 N n (zh ah) (zI v1) (zI v2) (zI v3)) := by
  intro n
  induction n with
  | zero => intros; exact Lg.none
  | succ n ih =>
    intro ah v1 v2 v3 hah hv1 hv2 hv3
    unfold G_X12_says_249 F_X12_says_249
    refine Lg.le rfl rfl hv1 hv3 ?_ ?_
    · exact LgV.ret hah
    · refine Lg.g rfl rfl (by decide) (fun g1 => ?_)
      refine Lg.letc (cadd rfl (zix rfl g1)) (fun x264 => ?_)
      refine Lg.g rfl rfl (by decide) (fun g2 => ?_)
      refine Lg.g rfl rfl (by decide) (fun g3 => ?_)
      refine Lg.wrt hah rfl (zix rfl g3) (zlk rfl g2) (hah _ _) (fun a267 ha267 => ?_)
      refine Lg.g rfl rfl (by decide) (fun g4 => ?_)
      refine Lg.letc (cadd rfl (zix rfl g4)) (fun x273 => ?_)
      refine Lg.g rfl rfl (by decide) (fun g5 => ?_)
      refine Lg.letv (zlk rfl g5) (ha267 _ _) (fun v2_276 hv2_276 => ?_)
      refine Lg.letv (zwr (zadd rfl rfl)) wr_R (fun v3_277 hv3_277 => ?_)
      exact (ih ha267 hv1 hv2_276 hv3_277)
theorem l_X12_says_244 {N : Nat} {ah : IH} {v1 : Int} {v2 : Int} {s1 : Int} (hah : HR ah) (hv1 : zR v1) (hv2 : zR v2) (hs1 : zR s1) : LfV (G_X12_says_244 N ah v1 v2 s1) (F_X12_says_244 N (zh ah) (zI v1) (zI v2) (zI s1)) := by
  unfold G_X12_says_244 F_X12_says_244
  refine Lg.wrt hah rfl rfl rfl hs1 (fun a244 ha244 => ?_)
  refine Lg.letv rfl (zRd rfl) (fun v3_248 hv3_248 => ?_)
  exact (l_X12_says_249 _ ha244 hv1 hv2 hv3_248)
theorem l_X12_says_227 {N : Nat} {ah : IH} {v1 : Int} {v2 : Int} (hah : HR ah) (hv1 : zR v1) (hv2 : zR v2) : LfV (G_X12_says_227 N ah v1 v2) (F_X12_says_227 N (zh ah) (zI v1) (zI v2)) := by
  unfold G_X12_says_227 F_X12_says_227
  refine Lg.eq rfl rfl hv1 (zRd rfl) ?_ ?_
  · exact (l_X12_says_244 hah hv1 hv2 (zRd rfl))
  · refine Lg.letc (cadd rfl rfl) (fun x241 => ?_)
    refine Lg.g rfl rfl (by decide) (fun g1 => ?_)
    exact (by rw [(show (zh ah x241 (Int32.toNatClampNeg (zI v2))) = zI (ah x241 v2) from (zlk rfl g1))]; exact l_X12_says_244 hah hv1 hv2 (hah _ _))
theorem l_X12_says_221 {N : Nat} {k186 : IH → Int → Int → Int → Option IH} {k186F : AH → Int32 → Int32 → Int32 → Option AH} {ah : IH} {v1 : Int} {v2 : Int} {v3 : Int} (hk186 : ∀ {z0 : IH} {z1 : Int} {z2 : Int} {z3 : Int}, HR z0 → zR z1 → zR z2 → zR z3 → LfV (k186 z0 z1 z2 z3) (k186F (zh z0) (zI z1) (zI z2) (zI z3))) (hah : HR ah) (hv1 : zR v1) (hv2 : zR v2) (hv3 : zR v3) : LfV (G_X12_says_221 N k186 ah v1 v2 v3) (F_X12_says_221 N k186F (zh ah) (zI v1) (zI v2) (zI v3)) := by
  unfold G_X12_says_221 F_X12_says_221
  refine Lg.letv (zwr (zadd rfl rfl)) wr_R (fun v3_221 hv3_221 => ?_)
  exact (hk186 hah hv1 hv2 hv3_221)
theorem l_X12_says_186 {N : Nat}  : ∀ (n : Nat) {ah : IH} {v1 : Int} {v2 : Int} {v3 : Int}, HR ah → zR v1 → zR v2 → zR v3 → LfV (G_X12_says_186 N n ah v1 v2 v3) (F_X12_says_186 N n (zh ah) (zI v1) (zI v2) (zI v3)) := by
  intro n
  induction n with
  | zero => intros; exact Lg.none
  | succ n ih =>
    intro ah v1 v2 v3 hah hv1 hv2 hv3
    unfold G_X12_says_186 F_X12_says_186
    refine Lg.le rfl rfl hv1 (zRd rfl) ?_ ?_
    · exact (l_X12_says_227 hah hv1 hv2)
    · refine Lg.le rfl rfl (hah _ _) hv3 ?_ ?_
      · exact (l_X12_says_227 hah hv1 hv2)
      · refine Lg.letc (cadd rfl rfl) (fun x205 => ?_)
        refine Lg.g rfl rfl (by decide) (fun g1 => ?_)
        refine Lg.letc (cadd rfl rfl) (fun x213 => ?_)
        refine Lg.g rfl rfl (by decide) (fun g2 => ?_)
        refine Lg.le (zlk rfl g2) (zlk rfl g1) (hah _ _) (hah _ _) ?_ ?_
        · exact (l_X12_says_221 ih hah hv1 hv2 hv3)
        · refine Lg.letv rfl hv3 (fun v2_220 hv2_220 => ?_)
          exact (l_X12_says_221 ih hah hv1 hv2_220 hv3)
theorem l_X12_says_141 {N : Nat} {k29 : IH → Int → Int → Option IH} {k29F : AH → Int32 → Int32 → Option AH} {k35 : IH → Int → Int → Int → Option IH} {k35F : AH → Int32 → Int32 → Int32 → Option AH} {ah : IH} {v1 : Int} {v2 : Int} {v3 : Int} {v4 : Int} {v5 : Int} (hk29 : ∀ {z0 : IH} {z1 : Int} {z2 : Int}, HR z0 → zR z1 → zR z2 → LfV (k29 z0 z1 z2) (k29F (zh z0) (zI z1) (zI z2))) (hk35 : ∀ {z0 : IH} {z1 : Int} {z2 : Int} {z3 : Int}, HR z0 → zR z1 → zR z2 → zR z3 → LfV (k35 z0 z1 z2 z3) (k35F (zh z0) (zI z1) (zI z2) (zI z3))) (hah : HR ah) (hv1 : zR v1) (hv2 : zR v2) (hv3 : zR v3) (hv4 : zR v4) (hv5 : zR v5) : LfV (G_X12_says_141 N k29 k35 ah v1 v2 v3 v4 v5) (F_X12_says_141 N k29F k35F (zh ah) (zI v1) (zI v2) (zI v3) (zI v4) (zI v5)) := by
  unfold G_X12_says_141 F_X12_says_141
  refine Lg.g rfl rfl (by decide) (fun g1 => ?_)
  refine Lg.letc (cadd rfl (zix rfl g1)) (fun x146 => ?_)
  refine Lg.g rfl rfl (by decide) (fun g2 => ?_)
  refine Lg.letc (cadd rfl (zix rfl g2)) (fun x153 => ?_)
  refine Lg.g rfl rfl (by decide) (fun g3 => ?_)
  refine Lg.g rfl rfl (by decide) (fun g4 => ?_)
  refine Lg.wrt hah rfl (zix rfl g4) (zwr (zadd (zlk rfl g4) rfl)) wr_R (fun a159 ha159 => ?_)
  refine Lg.g rfl rfl (by decide) (fun g5 => ?_)
  refine Lg.letc (cadd rfl (zix rfl g5)) (fun x165 => ?_)
  refine Lg.g rfl rfl (by decide) (fun g6 => ?_)
  refine Lg.wrt ha159 rfl (zix rfl g6) rfl hv4 (fun a169 ha169 => ?_)
  refine Lg.letv (zwr (zadd rfl rfl)) wr_R (fun v3_170 hv3_170 => ?_)
  exact (hk35 ha169 hv1 hv2 hv3_170)
theorem l_X12_says_135 {N : Nat} {k29 : IH → Int → Int → Option IH} {k29F : AH → Int32 → Int32 → Option AH} {k35 : IH → Int → Int → Int → Option IH} {k35F : AH → Int32 → Int32 → Int32 → Option AH} {k54 : IH → Int → Int → Int → Int → Int → Int → Option IH} {k54F : AH → Int32 → Int32 → Int32 → Int32 → Int32 → Int32 → Option AH} {ah : IH} {v1 : Int} {v2 : Int} {v3 : Int} {v4 : Int} {v5 : Int} {v6 : Int} (hk29 : ∀ {z0 : IH} {z1 : Int} {z2 : Int}, HR z0 → zR z1 → zR z2 → LfV (k29 z0 z1 z2) (k29F (zh z0) (zI z1) (zI z2))) (hk35 : ∀ {z0 : IH} {z1 : Int} {z2 : Int} {z3 : Int}, HR z0 → zR z1 → zR z2 → zR z3 → LfV (k35 z0 z1 z2 z3) (k35F (zh z0) (zI z1) (zI z2) (zI z3))) (hk54 : ∀ {z0 : IH} {z1 : Int} {z2 : Int} {z3 : Int} {z4 : Int} {z5 : Int} {z6 : Int}, HR z0 → zR z1 → zR z2 → zR z3 → zR z4 → zR z5 → zR z6 → LfV (k54 z0 z1 z2 z3 z4 z5 z6) (k54F (zh z0) (zI z1) (zI z2) (zI z3) (zI z4) (zI z5) (zI z6))) (hah : HR ah) (hv1 : zR v1) (hv2 : zR v2) (hv3 : zR v3) (hv4 : zR v4) (hv5 : zR v5) (hv6 : zR v6) : LfV (G_X12_says_135 N k29 k35 k54 ah v1 v2 v3 v4 v5 v6) (F_X12_says_135 N k29F k35F k54F (zh ah) (zI v1) (zI v2) (zI v3) (zI v4) (zI v5) (zI v6)) := by
  unfold G_X12_says_135 F_X12_says_135
  refine Lg.letv (zwr (zadd rfl rfl)) wr_R (fun v6_135 hv6_135 => ?_)
  exact (hk54 hah hv1 hv2 hv3 hv4 hv5 hv6_135)
theorem l_X12_says_127 {N : Nat} {k29 : IH → Int → Int → Option IH} {k29F : AH → Int32 → Int32 → Option AH} {k35 : IH → Int → Int → Int → Option IH} {k35F : AH → Int32 → Int32 → Int32 → Option AH} {k54 : IH → Int → Int → Int → Int → Int → Int → Option IH} {k54F : AH → Int32 → Int32 → Int32 → Int32 → Int32 → Int32 → Option AH} {ah : IH} {v1 : Int} {v2 : Int} {v3 : Int} {v6 : Int} {v7 : Int} (hk29 : ∀ {z0 : IH} {z1 : Int} {z2 : Int}, HR z0 → zR z1 → zR z2 → LfV (k29 z0 z1 z2) (k29F (zh z0) (zI z1) (zI z2))) (hk35 : ∀ {z0 : IH} {z1 : Int} {z2 : Int} {z3 : Int}, HR z0 → zR z1 → zR z2 → zR z3 → LfV (k35 z0 z1 z2 z3) (k35F (zh z0) (zI z1) (zI z2) (zI z3))) (hk54 : ∀ {z0 : IH} {z1 : Int} {z2 : Int} {z3 : Int} {z4 : Int} {z5 : Int} {z6 : Int}, HR z0 → zR z1 → zR z2 → zR z3 → zR z4 → zR z5 → zR z6 → LfV (k54 z0 z1 z2 z3 z4 z5 z6) (k54F (zh z0) (zI z1) (zI z2) (zI z3) (zI z4) (zI z5) (zI z6))) (hah : HR ah) (hv1 : zR v1) (hv2 : zR v2) (hv3 : zR v3) (hv6 : zR v6) (hv7 : zR v7) : LfV (G_X12_says_127 N k29 k35 k54 ah v1 v2 v3 v6 v7) (F_X12_says_127 N k29F k35F k54F (zh ah) (zI v1) (zI v2) (zI v3) (zI v6) (zI v7)) := by
  unfold G_X12_says_127 F_X12_says_127
  refine Lg.letv rfl hv6 (fun v4_129 hv4_129 => ?_)
  refine Lg.letv rfl hv7 (fun v5_133 hv5_133 => ?_)
  exact (l_X12_says_135 hk29 hk35 hk54 hah hv1 hv2 hv3 hv4_129 hv5_133 hv6)
theorem l_X12_says_54 {N : Nat} {k29 : IH → Int → Int → Option IH} {k29F : AH → Int32 → Int32 → Option AH} {k35 : IH → Int → Int → Int → Option IH} {k35F : AH → Int32 → Int32 → Int32 → Option AH} (hk29 : ∀ {z0 : IH} {z1 : Int} {z2 : Int}, HR z0 → zR z1 → zR z2 → LfV (k29 z0 z1 z2) (k29F (zh z0) (zI z1) (zI z2))) (hk35 : ∀ {z0 : IH} {z1 : Int} {z2 : Int} {z3 : Int}, HR z0 → zR z1 → zR z2 → zR z3 → LfV (k35 z0 z1 z2 z3) (k35F (zh z0) (zI z1) (zI z2) (zI z3))) : ∀ (n : Nat) {ah : IH} {v1 : Int} {v2 : Int} {v3 : Int} {v4 : Int} {v5 : Int} {v6 : Int}, HR ah → zR v1 → zR v2 → zR v3 → zR v4 → zR v5 → zR v6 → LfV (G_X12_says_54 N k29 k35 n ah v1 v2 v3 v4 v5 v6) (F_X12_says_54 N k29F k35F n (zh ah) (zI v1) (zI v2) (zI v3) (zI v4) (zI v5) (zI v6)) := by
  intro n
  induction n with
  | zero => intros; exact Lg.none
  | succ n ih =>
    intro ah v1 v2 v3 v4 v5 v6 hah hv1 hv2 hv3 hv4 hv5 hv6
    unfold G_X12_says_54 F_X12_says_54
    refine Lg.le rfl (zwr (zadd rfl rfl)) hv1 wr_R ?_ ?_
    · exact (l_X12_says_141 hk29 hk35 hah hv1 hv2 hv3 hv4 hv5)
    · refine Lg.g (zadd rfl rfl) rfl (by decide) (fun g1 => ?_)
      refine Lg.le (zlk (zadd rfl rfl) g1) rfl (hah _ _) hv6 ?_ ?_
      · exact (l_X12_says_141 hk29 hk35 hah hv1 hv2 hv3 hv4 hv5)
      · refine Lg.g rfl rfl (by decide) (fun g2 => ?_)
        refine Lg.letc (cadd rfl (zix rfl g2)) (fun x80 => ?_)
        refine Lg.g rfl rfl (by decide) (fun g3 => ?_)
        refine Lg.g (zadd rfl rfl) rfl (by decide) (fun g4 => ?_)
        refine Lg.letc (cadd rfl (zix (zadd rfl rfl) g4)) (fun x90 => ?_)
        refine Lg.g rfl rfl (by decide) (fun g5 => ?_)
        refine Lg.b (by rw [(show (zh ah x80 (Int32.toNatClampNeg (zI v3))) = zI (ah x80 v3) from (zlk rfl g3)), (show (zh ah x90 (Int32.toNatClampNeg (zI v6))) = zI (ah x90 v6) from (zlk rfl g5))]; exact l_X12_between hah (hah _ _) (hah _ _)) (fun r94 a94 hr94 ha94 => ?_)
        refine Lg.g (zadd rfl rfl) rfl (by decide) (fun g6 => ?_)
        refine Lg.letc (cadd rfl (zix (zadd rfl rfl) g6)) (fun x104 => ?_)
        refine Lg.g rfl rfl (by decide) (fun g7 => ?_)
        refine Lg.letv (zwr (zadd rfl (zlk rfl g7))) wr_R (fun v7_109 hv7_109 => ?_)
        refine Lg.eq rfl rfl hv4 (zRd rfl) ?_ ?_
        · exact (l_X12_says_127 hk29 hk35 ih ha94 hv1 hv2 hv3 hv6 hv7_109)
        · refine Lg.lt rfl rfl hv7_109 hv5 ?_ ?_
          · exact (l_X12_says_127 hk29 hk35 ih ha94 hv1 hv2 hv3 hv6 hv7_109)
          · exact (l_X12_says_135 hk29 hk35 ih ha94 hv1 hv2 hv3 hv4 hv5 hv6)
theorem l_X12_says_35 {N : Nat} {k29 : IH → Int → Int → Option IH} {k29F : AH → Int32 → Int32 → Option AH} (hk29 : ∀ {z0 : IH} {z1 : Int} {z2 : Int}, HR z0 → zR z1 → zR z2 → LfV (k29 z0 z1 z2) (k29F (zh z0) (zI z1) (zI z2))) : ∀ (n : Nat) {ah : IH} {v1 : Int} {v2 : Int} {v3 : Int}, HR ah → zR v1 → zR v2 → zR v3 → LfV (G_X12_says_35 N k29 n ah v1 v2 v3) (F_X12_says_35 N k29F n (zh ah) (zI v1) (zI v2) (zI v3)) := by
  intro n
  induction n with
  | zero => intros; exact Lg.none
  | succ n ih =>
    intro ah v1 v2 v3 hah hv1 hv2 hv3
    unfold G_X12_says_35 F_X12_says_35
    refine Lg.g rfl rfl (by decide) (fun g1 => ?_)
    refine Lg.le (zlk rfl g1) rfl (hah _ _) hv3 ?_ ?_
    · refine Lg.letv (zwr (zadd rfl rfl)) wr_R (fun v2_176 hv2_176 => ?_)
      exact (hk29 hah hv1 hv2_176)
    · refine Lg.letv rfl (zRd rfl) (fun v4_46 hv4_46 => ?_)
      refine Lg.letv rfl (zRd rfl) (fun v5_49 hv5_49 => ?_)
      refine Lg.letv rfl (zRd rfl) (fun v6_52 hv6_52 => ?_)
      exact (l_X12_says_54 hk29 ih _ hah hv1 hv2 hv3 hv4_46 hv5_49 hv6_52)
theorem l_X12_says_29 {N : Nat}  : ∀ (n : Nat) {ah : IH} {v1 : Int} {v2 : Int}, HR ah → zR v1 → zR v2 → LfV (G_X12_says_29 N n ah v1 v2) (F_X12_says_29 N n (zh ah) (zI v1) (zI v2)) := by
  intro n
  induction n with
  | zero => intros; exact Lg.none
  | succ n ih =>
    intro ah v1 v2 hah hv1 hv2
    unfold G_X12_says_29 F_X12_says_29
    refine Lg.lt rfl rfl hv2 (zRd rfl) ?_ ?_
    · refine Lg.letv rfl (zRd rfl) (fun v2_183 hv2_183 => ?_)
      refine Lg.letv rfl (zRd rfl) (fun v3_185 hv3_185 => ?_)
      exact (l_X12_says_186 _ hah hv1 hv2_183 hv3_185)
    · refine Lg.letv rfl (zRd rfl) (fun v3_34 hv3_34 => ?_)
      exact (l_X12_says_35 ih _ hah hv1 hv2 hv3_34)
theorem l_X12_says_9 {N : Nat}  : ∀ (n : Nat) {ah : IH} {v1 : Int} {v2 : Int}, HR ah → zR v1 → zR v2 → LfV (G_X12_says_9 N n ah v1 v2) (F_X12_says_9 N n (zh ah) (zI v1) (zI v2)) := by
  intro n
  induction n with
  | zero => intros; exact Lg.none
  | succ n ih =>
    intro ah v1 v2 hah hv1 hv2
    unfold G_X12_says_9 F_X12_says_9
    refine Lg.le rfl rfl hv1 hv2 ?_ ?_
    · refine Lg.letv (zwr (zsub rfl rfl)) wr_R (fun v2_28 hv2_28 => ?_)
      exact (l_X12_says_29 _ hah hv1 hv2_28)
    · refine Lg.bv (l_X12_laysChoices hah hv2) (fun a16 ha16 => ?_)
      refine Lg.letv (zwr (zadd rfl rfl)) wr_R (fun v2_19 hv2_19 => ?_)
      exact (ih ha16 hv1 hv2_19)
theorem l_X12_says {N : Nat} {ah : IH} (hah : HR ah) : LfV (G_X12_says N ah) (F_X12_says N (zh ah)) := by
  unfold G_X12_says F_X12_says
  refine Lg.letv rfl (hah _ _) (fun v1_6 hv1_6 => ?_)
  refine Lg.letv rfl (zRd rfl) (fun v2_8 hv2_8 => ?_)
  exact (l_X12_says_9 _ hah hv1_6 hv2_8)
theorem l_X12_sentence_110 {N : Nat} {k47 : IH → Int → Int → Int → Option (Int × IH)} {k47F : AH → Int32 → Int32 → Int32 → Option (Int32 × AH)} {ah : IH} {v1 : Int} {v3 : Int} {s0 : Int} {s1 : Int} (hk47 : ∀ {z0 : IH} {z1 : Int} {z2 : Int} {z3 : Int}, HR z0 → zR z1 → zR z2 → zR z3 → LfI (k47 z0 z1 z2 z3) (k47F (zh z0) (zI z1) (zI z2) (zI z3))) (hah : HR ah) (hv1 : zR v1) (hv3 : zR v3) (hs0 : zR s0) (hs1 : zR s1) : LfI (G_X12_sentence_110 N k47 ah v1 v3 s0 s1) (F_X12_sentence_110 N k47F (zh ah) (zI v1) (zI v3) (zI s0) (zI s1)) := by
  unfold G_X12_sentence_110 F_X12_sentence_110
  refine Lg.letv (zwr (zadd rfl rfl)) wr_R (fun v2_111 hv2_111 => ?_)
  refine Lg.letv (zwr (zadd rfl rfl)) wr_R (fun v3_112 hv3_112 => ?_)
  exact (hk47 hah hv1 hv2_111 hv3_112)
theorem l_X12_sentence_47 {N : Nat}  : ∀ (n : Nat) {ah : IH} {v1 : Int} {v2 : Int} {v3 : Int}, HR ah → zR v1 → zR v2 → zR v3 → LfI (G_X12_sentence_47 N n ah v1 v2 v3) (F_X12_sentence_47 N n (zh ah) (zI v1) (zI v2) (zI v3)) := by
  intro n
  induction n with
  | zero => intros; exact Lg.none
  | succ n ih =>
    intro ah v1 v2 v3 hah hv1 hv2 hv3
    unfold G_X12_sentence_47 F_X12_sentence_47
    refine Lg.le rfl rfl (hah _ _) hv3 ?_ ?_
    · exact LgI.ret rfl hv2 hah
    · refine Lg.bv (l_X12_laysToken hah hv3 (zRd rfl)) (fun a60 ha60 => ?_)
      refine Lg.bv (l_X12_mends ha60 (zRd rfl)) (fun a65 ha65 => ?_)
      refine Lg.eq rfl rfl hv1 (zRd rfl) ?_ ?_
      · refine Lg.g rfl rfl (by decide) (fun g1 => ?_)
        refine Lg.eq (zlk rfl g1) rfl (ha65 _ _) (ha65 _ _) ?_ ?_
        · exact (l_X12_sentence_110 ih ha65 hv1 hv3 hv2 (zRd rfl))
        · exact (l_X12_sentence_110 ih ha65 hv1 hv3 hv2 (zRd rfl))
      · refine Lg.g rfl rfl (by decide) (fun g2 => ?_)
        refine Lg.eq (zlk rfl g2) rfl (ha65 _ _) (zRd rfl) ?_ ?_
        · exact (l_X12_sentence_110 ih ha65 hv1 hv3 hv2 (zRd rfl))
        · exact (l_X12_sentence_110 ih ha65 hv1 hv3 hv2 (zRd rfl))
theorem l_X12_sentence_20 {N : Nat} {ah : IH} {v1 : Int} {s1 : Int} (hah : HR ah) (hv1 : zR v1) (hs1 : zR s1) : LfI (G_X12_sentence_20 N ah v1 s1) (F_X12_sentence_20 N (zh ah) (zI v1) (zI s1)) := by
  unfold G_X12_sentence_20 F_X12_sentence_20
  refine Lg.b (l_X12_bad hah hs1 (zRd rfl) (zRd rfl)) (fun r22 a22 hr22 ha22 => ?_)
  refine Lg.eq rfl rfl hr22 (zRd rfl) ?_ ?_
  · refine Lg.bv (l_X12_says ha22) (fun a31 ha31 => ?_)
    refine Lg.eq rfl rfl hv1 (zRd rfl) ?_ ?_
    · exact LgI.ret rfl (ha31 _ _) ha31
    · refine Lg.letv rfl (zRd rfl) (fun v2_44 hv2_44 => ?_)
      refine Lg.letv rfl (zRd rfl) (fun v3_46 hv3_46 => ?_)
      exact (l_X12_sentence_47 _ ha31 hv1 hv2_44 hv3_46)
  · exact LgI.ret rfl (zRd rfl) ha22
theorem l_X12_sentence {N : Nat} {ah : IH} {p1 : Int} (hah : HR ah) (hp1 : zR p1) : LfI (G_X12_sentence N ah p1) (F_X12_sentence N (zh ah) (zI p1)) := by
  unfold G_X12_sentence F_X12_sentence
  refine Lg.wrt hah rfl rfl rfl (zRd rfl) (fun a2 ha2 => ?_)
  refine Lg.b (l_X12_in ha2 hp1 (zRd rfl) (zRd rfl)) (fun r9 a9 hr9 ha9 => ?_)
  refine Lg.eq rfl rfl hr9 (zRd rfl) ?_ ?_
  · exact (l_X12_sentence_20 ha9 hp1 (zRd rfl))
  · exact (l_X12_sentence_20 ha9 hp1 (zRd rfl))
theorem l_X12_said_19 {N : Nat} {ah : IH} {v1 : Int} {s1 : Int} (hah : HR ah) (hv1 : zR v1) (hs1 : zR s1) : LfI (G_X12_said_19 N ah v1 s1) (F_X12_said_19 N (zh ah) (zI v1) (zI s1)) := by
  unfold G_X12_said_19 F_X12_said_19
  refine Lg.b (l_X12_bad hah hs1 (zRd rfl) (zRd rfl)) (fun r21 a21 hr21 ha21 => ?_)
  refine Lg.eq rfl rfl hr21 (zRd rfl) ?_ ?_
  · refine Lg.bv (l_X12_says ha21) (fun a30 ha30 => ?_)
    refine Lg.g rfl rfl (by decide) (fun g1 => ?_)
    exact LgI.ret (zlk rfl g1) (ha30 _ _) ha30
  · exact LgI.ret rfl (zRd rfl) ha21
theorem l_X12_said {N : Nat} {ah : IH} {p1 : Int} (hah : HR ah) (hp1 : zR p1) : LfI (G_X12_said N ah p1) (F_X12_said N (zh ah) (zI p1)) := by
  unfold G_X12_said F_X12_said
  refine Lg.wrt hah rfl rfl rfl (zRd rfl) (fun a2 ha2 => ?_)
  refine Lg.b (l_X12_isToken ha2 hp1) (fun r8 a8 hr8 ha8 => ?_)
  refine Lg.eq rfl rfl hr8 (zRd rfl) ?_ ?_
  · exact (l_X12_said_19 ha8 hp1 (zRd rfl))
  · exact (l_X12_said_19 ha8 hp1 (zRd rfl))
theorem l_X12_learn_111 {N : Nat} {ah : IH} (hah : HR ah) : LfI (G_X12_learn_111 N ah) (F_X12_learn_111 N (zh ah)) := by
  unfold G_X12_learn_111 F_X12_learn_111
  refine Lg.bv (l_X12_weighs hah) (fun a112 ha112 => ?_)
  exact LgI.ret rfl (ha112 _ _) ha112
theorem l_X12_learn_19 {N : Nat} {ah : IH} {v1 : Int} {s1 : Int} (hah : HR ah) (hv1 : zR v1) (hs1 : zR s1) : LfI (G_X12_learn_19 N ah v1 s1) (F_X12_learn_19 N (zh ah) (zI v1) (zI s1)) := by
  unfold G_X12_learn_19 F_X12_learn_19
  refine Lg.b (l_X12_bad hah hs1 (zRd rfl) (zRd rfl)) (fun r21 a21 hr21 ha21 => ?_)
  refine Lg.eq rfl rfl hr21 (zRd rfl) ?_ ?_
  · refine Lg.bv (l_X12_laysToken ha21 hv1 (zRd rfl)) (fun a32 ha32 => ?_)
    refine Lg.bv (l_X12_mends ha32 (zRd rfl)) (fun a37 ha37 => ?_)
    refine Lg.eq rfl rfl (ha37 _ _) (zRd rfl) ?_ ?_
    · exact LgI.ret rfl (zRd rfl) ha37
    · refine Lg.g rfl rfl (by decide) (fun g1 => ?_)
      refine Lg.b (by rw [(show ((zh a37 6 (Int32.toNatClampNeg (zh a37 0 50))) - (1 : Int32)) = zI (wr ((a37 6 (a37 0 50)) - 1)) from (zwr (zsub (zlk rfl g1) rfl)))]; exact l_X12_more ha37 (zRd rfl) wr_R) (fun r70 a70 hr70 ha70 => ?_)
      refine Lg.g rfl rfl (by decide) (fun g2 => ?_)
      refine Lg.wrt ha70 rfl (zix rfl g2) rfl hr70 (fun a73 ha73 => ?_)
      refine Lg.le rfl rfl (ha73 _ _) (zRd rfl) ?_ ?_
      · exact (l_X12_learn_111 ha73)
      · refine Lg.g rfl rfl (by decide) (fun g3 => ?_)
        refine Lg.b (by rw [(show ((zh a73 6 (Int32.toNatClampNeg (zh a73 33 1))) + (1 : Int32)) = zI (wr ((a73 6 (a73 33 1)) + 1)) from (zwr (zadd (zlk rfl g3) rfl)))]; exact l_X12_less ha73 (zRd rfl) wr_R) (fun r107 a107 hr107 ha107 => ?_)
        refine Lg.g rfl rfl (by decide) (fun g4 => ?_)
        refine Lg.wrt ha107 rfl (zix rfl g4) rfl hr107 (fun a110 ha110 => ?_)
        exact (l_X12_learn_111 ha110)
  · exact LgI.ret rfl (zRd rfl) ha21
theorem l_X12_learn {N : Nat} {ah : IH} {p1 : Int} (hah : HR ah) (hp1 : zR p1) : LfI (G_X12_learn N ah p1) (F_X12_learn N (zh ah) (zI p1)) := by
  unfold G_X12_learn F_X12_learn
  refine Lg.wrt hah rfl rfl rfl (zRd rfl) (fun a2 ha2 => ?_)
  refine Lg.b (l_X12_isToken ha2 hp1) (fun r8 a8 hr8 ha8 => ?_)
  refine Lg.eq rfl rfl hr8 (zRd rfl) ?_ ?_
  · exact (l_X12_learn_19 ha8 hp1 (zRd rfl))
  · exact (l_X12_learn_19 ha8 hp1 (zRd rfl))
theorem l_X12_laysAlone {N : Nat} {ah : IH} {p1 : Int} (hah : HR ah) (hp1 : zR p1) : LfV (G_X12_laysAlone N ah p1) (F_X12_laysAlone N (zh ah) (zI p1)) := by
  unfold G_X12_laysAlone F_X12_laysAlone
  refine Lg.bv (l_X12_laysToken hah hp1 (zRd rfl)) (fun a3 ha3 => ?_)
  refine Lg.bv (l_X12_mends ha3 (zRd rfl)) (fun a8 ha8 => ?_)
  refine Lg.g rfl rfl (by decide) (fun g1 => ?_)
  refine Lg.wrt ha8 rfl (zix rfl g1) rfl (ha8 _ _) (fun a20 ha20 => ?_)
  refine Lg.g rfl rfl (by decide) (fun g2 => ?_)
  refine Lg.wrt ha20 rfl (zix rfl g2) rfl (ha20 _ _) (fun a30 ha30 => ?_)
  refine Lg.g rfl rfl (by decide) (fun g3 => ?_)
  refine Lg.wrt ha30 rfl (zix rfl g3) rfl (zRd rfl) (fun a37 ha37 => ?_)
  refine Lg.le rfl (zwr (zadd rfl rfl)) (ha37 _ _) wr_R ?_ ?_
  · exact LgV.ret ha37
  · refine Lg.letc (cadd rfl rfl) (fun x55 => ?_)
    refine Lg.g rfl rfl (by decide) (fun g4 => ?_)
    refine Lg.eq (zlk rfl g4) rfl (ha37 _ _) (zRd rfl) ?_ ?_
    · refine Lg.letc (cadd rfl rfl) (fun x67 => ?_)
      refine Lg.g rfl rfl (by decide) (fun g5 => ?_)
      refine Lg.letc (cadd rfl rfl) (fun x75 => ?_)
      refine Lg.g (zadd rfl rfl) rfl (by decide) (fun g6 => ?_)
      refine Lg.le (zwr (zadd (zlk rfl g5) (zlk (zadd rfl rfl) g6))) rfl wr_R (zRd rfl) ?_ ?_
      · refine Lg.bv (l_X12_laysToken ha37 hp1 (zRd rfl)) (fun a90 ha90 => ?_)
        refine Lg.bv (l_X12_mends ha90 (zRd rfl)) (fun a95 ha95 => ?_)
        refine Lg.g rfl rfl (by decide) (fun g7 => ?_)
        refine Lg.wrt ha95 rfl (zix rfl g7) rfl (ha95 _ _) (fun a107 ha107 => ?_)
        refine Lg.g rfl rfl (by decide) (fun g8 => ?_)
        refine Lg.wrt ha107 rfl (zix rfl g8) (zwr (zadd rfl rfl)) wr_R (fun a124 ha124 => ?_)
        exact LgV.ret ha124
      · exact LgV.ret ha37
    · exact LgV.ret ha37
theorem l_X12_writes {N : Nat} {ah : IH} {p1 : Int} (hah : HR ah) (hp1 : zR p1) : LfV (G_X12_writes N ah p1) (F_X12_writes N (zh ah) (zI p1)) := by
  unfold G_X12_writes F_X12_writes
  refine Lg.g rfl rfl (by decide) (fun g1 => ?_)
  refine Lg.wrt hah rfl (zix rfl g1) rfl hp1 (fun a9 ha9 => ?_)
  refine Lg.wrt ha9 rfl rfl (zwr (zadd rfl rfl)) wr_R (fun a17 ha17 => ?_)
  exact LgV.ret ha17
theorem l_X12_writesOne_87 {N : Nat} {k37 : IH → Int → Int → Int → Option IH} {k37F : AH → Int32 → Int32 → Int32 → Option AH} {ah : IH} {v1 : Int} {v2 : Int} {v3 : Int} (hk37 : ∀ {z0 : IH} {z1 : Int} {z2 : Int} {z3 : Int}, HR z0 → zR z1 → zR z2 → zR z3 → LfV (k37 z0 z1 z2 z3) (k37F (zh z0) (zI z1) (zI z2) (zI z3))) (hah : HR ah) (hv1 : zR v1) (hv2 : zR v2) (hv3 : zR v3) : LfV (G_X12_writesOne_87 N k37 ah v1 v2 v3) (F_X12_writesOne_87 N k37F (zh ah) (zI v1) (zI v2) (zI v3)) := by
  unfold G_X12_writesOne_87 F_X12_writesOne_87
  refine Lg.letv (zwr (zadd rfl rfl)) wr_R (fun v3_87 hv3_87 => ?_)
  exact (hk37 hah hv1 hv2 hv3_87)
theorem l_X12_writesOne_37 {N : Nat}  : ∀ (n : Nat) {ah : IH} {v1 : Int} {v2 : Int} {v3 : Int}, HR ah → zR v1 → zR v2 → zR v3 → LfV (G_X12_writesOne_37 N n ah v1 v2 v3) (F_X12_writesOne_37 N n (zh ah) (zI v1) (zI v2) (zI v3)) := by
  intro n
  induction n with
  | zero => intros; exact Lg.none
  | succ n ih =>
    intro ah v1 v2 v3 hah hv1 hv2 hv3
    unfold G_X12_writesOne_37 F_X12_writesOne_37
    refine Lg.eq rfl rfl hv2 (zRd rfl) ?_ ?_
    · refine Lg.letc (cadd rfl rfl) (fun x48 => ?_)
      refine Lg.g rfl rfl (by decide) (fun g1 => ?_)
      refine Lg.le (zlk rfl g1) rfl (hah _ _) hv3 ?_ ?_
      · exact LgV.ret hah
      · refine Lg.g rfl rfl (by decide) (fun g2 => ?_)
        refine Lg.g rfl rfl (by decide) (fun g3 => ?_)
        refine Lg.letc (cadd rfl (cadd (cmul (cadd (cmul rfl rfl) (zix rfl g2)) rfl) (zix rfl g3))) (fun x63 => ?_)
        refine Lg.eq rfl rfl (hah _ _) (zRd rfl) ?_ ?_
        · exact (l_X12_writesOne_87 ih hah hv1 hv2 hv3)
        · refine Lg.g rfl rfl (by decide) (fun g4 => ?_)
          refine Lg.g rfl rfl (by decide) (fun g5 => ?_)
          refine Lg.letc (cadd rfl (cadd (cmul (cadd (cmul rfl rfl) (zix rfl g4)) rfl) (zix rfl g5))) (fun x81 => ?_)
          refine Lg.bv (l_X12_writes hah (hah _ _)) (fun a84 ha84 => ?_)
          exact (l_X12_writesOne_87 ih ha84 hv1 hv2 hv3)
    · exact LgV.ret hah
theorem l_X12_writesOne_35 {N : Nat} {ah : IH} {v1 : Int} {v2 : Int} (hah : HR ah) (hv1 : zR v1) (hv2 : zR v2) : LfV (G_X12_writesOne_35 N ah v1 v2) (F_X12_writesOne_35 N (zh ah) (zI v1) (zI v2)) := by
  unfold G_X12_writesOne_35 F_X12_writesOne_35
  refine Lg.letv rfl (zRd rfl) (fun v3_36 hv3_36 => ?_)
  exact (l_X12_writesOne_37 _ hah hv1 hv2 hv3_36)
theorem l_X12_writesOne_2 {N : Nat}  : ∀ (n : Nat) {ah : IH} {v1 : Int} {v2 : Int} {v3 : Int}, HR ah → zR v1 → zR v2 → zR v3 → LfV (G_X12_writesOne_2 N n ah v1 v2 v3) (F_X12_writesOne_2 N n (zh ah) (zI v1) (zI v2) (zI v3)) := by
  intro n
  induction n with
  | zero => intros; exact Lg.none
  | succ n ih =>
    intro ah v1 v2 v3 hah hv1 hv2 hv3
    unfold G_X12_writesOne_2 F_X12_writesOne_2
    refine Lg.eq rfl rfl hv2 (zRd rfl) ?_ ?_
    · exact (l_X12_writesOne_35 hah hv1 hv2)
    · refine Lg.g rfl rfl (by decide) (fun g1 => ?_)
      refine Lg.le (zlk rfl g1) rfl (hah _ _) hv3 ?_ ?_
      · exact (l_X12_writesOne_35 hah hv1 hv2)
      · refine Lg.g rfl rfl (by decide) (fun g2 => ?_)
        refine Lg.letc (cadd rfl (zix rfl g2)) (fun x23 => ?_)
        refine Lg.g rfl rfl (by decide) (fun g3 => ?_)
        refine Lg.bv (by rw [(show (zh ah x23 (Int32.toNatClampNeg (zI v3))) = zI (ah x23 v3) from (zlk rfl g3))]; exact l_X12_writes hah (hah _ _)) (fun a26 ha26 => ?_)
        refine Lg.letv (zwr (zadd rfl rfl)) wr_R (fun v3_29 hv3_29 => ?_)
        exact (ih ha26 hv1 hv2 hv3_29)
theorem l_X12_writesOne {N : Nat} {ah : IH} {p1 : Int} {p2 : Int} (hah : HR ah) (hp1 : zR p1) (hp2 : zR p2) : LfV (G_X12_writesOne N ah p1 p2) (F_X12_writesOne N (zh ah) (zI p1) (zI p2)) := by
  unfold G_X12_writesOne F_X12_writesOne
  refine Lg.letv rfl (zRd rfl) (fun v3_1 hv3_1 => ?_)
  exact (l_X12_writesOne_2 _ hah hp1 hp2 hv3_1)
theorem l_X12_mendsAll_300 {N : Nat} {k170 : IH → Int → Int → Option IH} {k170F : AH → Int32 → Int32 → Option AH} {ah : IH} {v1 : Int} {v2 : Int} (hk170 : ∀ {z0 : IH} {z1 : Int} {z2 : Int}, HR z0 → zR z1 → zR z2 → LfV (k170 z0 z1 z2) (k170F (zh z0) (zI z1) (zI z2))) (hah : HR ah) (hv1 : zR v1) (hv2 : zR v2) : LfV (G_X12_mendsAll_300 N k170 ah v1 v2) (F_X12_mendsAll_300 N k170F (zh ah) (zI v1) (zI v2)) := by
  unfold G_X12_mendsAll_300 F_X12_mendsAll_300
  exact (hk170 hah hv1 hv2)
theorem l_X12_mendsAll_297 {N : Nat} {k170 : IH → Int → Int → Option IH} {k170F : AH → Int32 → Int32 → Option AH} {ah : IH} {v1 : Int} {v2 : Int} {s1 : Int} (hk170 : ∀ {z0 : IH} {z1 : Int} {z2 : Int}, HR z0 → zR z1 → zR z2 → LfV (k170 z0 z1 z2) (k170F (zh z0) (zI z1) (zI z2))) (hah : HR ah) (hv1 : zR v1) (hv2 : zR v2) (hs1 : zR s1) : LfV (G_X12_mendsAll_297 N k170 ah v1 v2 s1) (F_X12_mendsAll_297 N k170F (zh ah) (zI v1) (zI v2) (zI s1)) := by
  unfold G_X12_mendsAll_297 F_X12_mendsAll_297
  refine Lg.bv (l_X12_writes hah hs1) (fun a297 ha297 => ?_)
  exact (l_X12_mendsAll_300 hk170 ha297 hv1 hv2)
theorem l_X12_mendsAll_269 {N : Nat} {k170 : IH → Int → Int → Option IH} {k170F : AH → Int32 → Int32 → Option AH} {ah : IH} {v1 : Int} {s0 : Int} {s1 : Int} (hk170 : ∀ {z0 : IH} {z1 : Int} {z2 : Int}, HR z0 → zR z1 → zR z2 → LfV (k170 z0 z1 z2) (k170F (zh z0) (zI z1) (zI z2))) (hah : HR ah) (hv1 : zR v1) (hs0 : zR s0) (hs1 : zR s1) : LfV (G_X12_mendsAll_269 N k170 ah v1 s0 s1) (F_X12_mendsAll_269 N k170F (zh ah) (zI v1) (zI s0) (zI s1)) := by
  unfold G_X12_mendsAll_269 F_X12_mendsAll_269
  refine Lg.letv (zwr (zadd rfl rfl)) wr_R (fun v2_270 hv2_270 => ?_)
  refine Lg.le rfl rfl hv1 hv2_270 ?_ ?_
  · exact (l_X12_mendsAll_300 hk170 hah hv1 hv2_270)
  · refine Lg.letc (cadd rfl rfl) (fun x282 => ?_)
    refine Lg.g (zsub rfl rfl) rfl (by decide) (fun g1 => ?_)
    refine Lg.eq (zlk (zsub rfl rfl) g1) rfl (hah _ _) (zRd rfl) ?_ ?_
    · exact (l_X12_mendsAll_297 hk170 hah hv1 hv2_270 (zRd rfl))
    · exact (l_X12_mendsAll_297 hk170 hah hv1 hv2_270 (zRd rfl))
theorem l_X12_mendsAll_248 {N : Nat} {k170 : IH → Int → Int → Option IH} {k170F : AH → Int32 → Int32 → Option AH} {ah : IH} {v1 : Int} {v2 : Int} {v3 : Int} {s1 : Int} {s2 : Int} (hk170 : ∀ {z0 : IH} {z1 : Int} {z2 : Int}, HR z0 → zR z1 → zR z2 → LfV (k170 z0 z1 z2) (k170F (zh z0) (zI z1) (zI z2))) (hah : HR ah) (hv1 : zR v1) (hv2 : zR v2) (hv3 : zR v3) (hs1 : zR s1) (hs2 : zR s2) : LfV (G_X12_mendsAll_248 N k170 ah v1 v2 v3 s1 s2) (F_X12_mendsAll_248 N k170F (zh ah) (zI v1) (zI v2) (zI v3) (zI s1) (zI s2)) := by
  unfold G_X12_mendsAll_248 F_X12_mendsAll_248
  refine Lg.wrt hah rfl rfl (zwr (zadd rfl rfl)) wr_R (fun a249 ha249 => ?_)
  refine Lg.g rfl rfl (by decide) (fun g1 => ?_)
  refine Lg.wrt ha249 rfl (zix rfl g1) (znar rfl) ynar_R (fun a258 ha258 => ?_)
  refine Lg.eq rfl rfl hv3 (zRd rfl) ?_ ?_
  · exact (l_X12_mendsAll_269 hk170 ha258 hv1 hv2 (zRd rfl))
  · exact (l_X12_mendsAll_269 hk170 ha258 hv1 hv2 (zRd rfl))
theorem l_X12_mendsAll_247 {N : Nat} {k170 : IH → Int → Int → Option IH} {k170F : AH → Int32 → Int32 → Option AH} {ah : IH} {v1 : Int} {v2 : Int} {v3 : Int} {s1 : Int} (hk170 : ∀ {z0 : IH} {z1 : Int} {z2 : Int}, HR z0 → zR z1 → zR z2 → LfV (k170 z0 z1 z2) (k170F (zh z0) (zI z1) (zI z2))) (hah : HR ah) (hv1 : zR v1) (hv2 : zR v2) (hv3 : zR v3) (hs1 : zR s1) : LfV (G_X12_mendsAll_247 N k170 ah v1 v2 v3 s1) (F_X12_mendsAll_247 N k170F (zh ah) (zI v1) (zI v2) (zI v3) (zI s1)) := by
  unfold G_X12_mendsAll_247 F_X12_mendsAll_247
  exact (l_X12_mendsAll_248 hk170 hah hv1 hv2 hv3 hs1 (zRd rfl))
theorem l_X12_mendsAll_220 {N : Nat} {k170 : IH → Int → Int → Option IH} {k170F : AH → Int32 → Int32 → Option AH} {ah : IH} {v1 : Int} {v2 : Int} {v3 : Int} {s1 : Int} {s2 : Int} (hk170 : ∀ {z0 : IH} {z1 : Int} {z2 : Int}, HR z0 → zR z1 → zR z2 → LfV (k170 z0 z1 z2) (k170F (zh z0) (zI z1) (zI z2))) (hah : HR ah) (hv1 : zR v1) (hv2 : zR v2) (hv3 : zR v3) (hs1 : zR s1) (hs2 : zR s2) : LfV (G_X12_mendsAll_220 N k170 ah v1 v2 v3 s1 s2) (F_X12_mendsAll_220 N k170F (zh ah) (zI v1) (zI v2) (zI v3) (zI s1) (zI s2)) := by
  unfold G_X12_mendsAll_220 F_X12_mendsAll_220
  refine Lg.wrt hah rfl rfl (zwr (zadd rfl rfl)) wr_R (fun a221 ha221 => ?_)
  refine Lg.eq rfl rfl hv3 (zRd rfl) ?_ ?_
  · refine Lg.g rfl rfl (by decide) (fun g1 => ?_)
    refine Lg.eq (zlk rfl g1) rfl (ha221 _ _) (zRd rfl) ?_ ?_
    · exact (l_X12_mendsAll_248 hk170 ha221 hv1 hv2 hv3 (ha221 _ _) (zRd rfl))
    · exact (l_X12_mendsAll_247 hk170 ha221 hv1 hv2 hv3 (ha221 _ _))
  · exact (l_X12_mendsAll_247 hk170 ha221 hv1 hv2 hv3 (ha221 _ _))
theorem l_X12_mendsAll_203 {N : Nat} {k170 : IH → Int → Int → Option IH} {k170F : AH → Int32 → Int32 → Option AH} {ah : IH} {v1 : Int} {v2 : Int} {v3 : Int} {s1 : Int} {s2 : Int} (hk170 : ∀ {z0 : IH} {z1 : Int} {z2 : Int}, HR z0 → zR z1 → zR z2 → LfV (k170 z0 z1 z2) (k170F (zh z0) (zI z1) (zI z2))) (hah : HR ah) (hv1 : zR v1) (hv2 : zR v2) (hv3 : zR v3) (hs1 : zR s1) (hs2 : zR s2) : LfV (G_X12_mendsAll_203 N k170 ah v1 v2 v3 s1 s2) (F_X12_mendsAll_203 N k170F (zh ah) (zI v1) (zI v2) (zI v3) (zI s1) (zI s2)) := by
  unfold G_X12_mendsAll_203 F_X12_mendsAll_203
  refine Lg.bv (l_X12_writesOne hah hs1 hs2) (fun a203 ha203 => ?_)
  refine Lg.eq rfl rfl hv3 (zRd rfl) ?_ ?_
  · exact (l_X12_mendsAll_220 hk170 ha203 hv1 hv2 hv3 (ha203 _ _) (zRd rfl))
  · exact (l_X12_mendsAll_220 hk170 ha203 hv1 hv2 hv3 (ha203 _ _) (zRd rfl))
theorem l_X12_mendsAll_170 {N : Nat}  : ∀ (n : Nat) {ah : IH} {v1 : Int} {v2 : Int}, HR ah → zR v1 → zR v2 → LfV (G_X12_mendsAll_170 N n ah v1 v2) (F_X12_mendsAll_170 N n (zh ah) (zI v1) (zI v2)) := by
  intro n
  induction n with
  | zero => intros; exact Lg.none
  | succ n ih =>
    intro ah v1 v2 hah hv1 hv2
    unfold G_X12_mendsAll_170 F_X12_mendsAll_170
    refine Lg.le rfl rfl hv1 hv2 ?_ ?_
    · exact LgV.ret hah
    · refine Lg.g rfl rfl (by decide) (fun g1 => ?_)
      refine Lg.letv (zlk rfl g1) (hah _ _) (fun v3_181 hv3_181 => ?_)
      refine Lg.eq rfl rfl hv3_181 (zRd rfl) ?_ ?_
      · refine Lg.g rfl rfl (by decide) (fun g2 => ?_)
        exact (by rw [(show (zh ah 44 (Int32.toNatClampNeg (zI v2))) = zI (ah 44 v2) from (zlk rfl g2))]; exact l_X12_mendsAll_203 ih hah hv1 hv2 hv3_181 hv2 (hah _ _))
      · refine Lg.g rfl rfl (by decide) (fun g3 => ?_)
        exact (by rw [(show (zh ah 46 (Int32.toNatClampNeg (zI v2))) = zI (ah 46 v2) from (zlk rfl g3))]; exact l_X12_mendsAll_203 ih hah hv1 hv2 hv3_181 hv2 (hah _ _))
theorem l_X12_mendsAll_147 {N : Nat} {k36 : IH → Int → Int → Option IH} {k36F : AH → Int32 → Int32 → Option AH} {ah : IH} {v1 : Int} {v2 : Int} (hk36 : ∀ {z0 : IH} {z1 : Int} {z2 : Int}, HR z0 → zR z1 → zR z2 → LfV (k36 z0 z1 z2) (k36F (zh z0) (zI z1) (zI z2))) (hah : HR ah) (hv1 : zR v1) (hv2 : zR v2) : LfV (G_X12_mendsAll_147 N k36 ah v1 v2) (F_X12_mendsAll_147 N k36F (zh ah) (zI v1) (zI v2)) := by
  unfold G_X12_mendsAll_147 F_X12_mendsAll_147
  refine Lg.letv (zwr (zadd rfl rfl)) wr_R (fun v2_147 hv2_147 => ?_)
  exact (hk36 hah hv1 hv2_147)
theorem l_X12_mendsAll_116 {N : Nat} {k36 : IH → Int → Int → Option IH} {k36F : AH → Int32 → Int32 → Option AH} {ah : IH} {v1 : Int} {v2 : Int} {s1 : Int} {s2 : Int} (hk36 : ∀ {z0 : IH} {z1 : Int} {z2 : Int}, HR z0 → zR z1 → zR z2 → LfV (k36 z0 z1 z2) (k36F (zh z0) (zI z1) (zI z2))) (hah : HR ah) (hv1 : zR v1) (hv2 : zR v2) (hs1 : zR s1) (hs2 : zR s2) : LfV (G_X12_mendsAll_116 N k36 ah v1 v2 s1 s2) (F_X12_mendsAll_116 N k36F (zh ah) (zI v1) (zI v2) (zI s1) (zI s2)) := by
  unfold G_X12_mendsAll_116 F_X12_mendsAll_116
  refine Lg.g rfl rfl (by decide) (fun g1 => ?_)
  refine Lg.wrt hah rfl (zix rfl g1) (znar rfl) ynar_R (fun a116 ha116 => ?_)
  refine Lg.g rfl rfl (by decide) (fun g2 => ?_)
  refine Lg.eq (zlk rfl g2) rfl (ha116 _ _) (zRd rfl) ?_ ?_
  · exact (l_X12_mendsAll_147 hk36 ha116 hv1 hv2)
  · refine Lg.g rfl rfl (by decide) (fun g3 => ?_)
    refine Lg.g (zadd rfl rfl) rfl (by decide) (fun g4 => ?_)
    refine Lg.g rfl rfl (by decide) (fun g5 => ?_)
    refine Lg.wrt ha116 rfl (zix rfl g5) (zwr (zadd (zlk rfl g5) (zlk (zadd rfl rfl) g4))) wr_R (fun a146 ha146 => ?_)
    exact (l_X12_mendsAll_147 hk36 ha146 hv1 hv2)
theorem l_X12_mendsAll_115 {N : Nat} {k36 : IH → Int → Int → Option IH} {k36F : AH → Int32 → Int32 → Option AH} {ah : IH} {v1 : Int} {v2 : Int} {s1 : Int} (hk36 : ∀ {z0 : IH} {z1 : Int} {z2 : Int}, HR z0 → zR z1 → zR z2 → LfV (k36 z0 z1 z2) (k36F (zh z0) (zI z1) (zI z2))) (hah : HR ah) (hv1 : zR v1) (hv2 : zR v2) (hs1 : zR s1) : LfV (G_X12_mendsAll_115 N k36 ah v1 v2 s1) (F_X12_mendsAll_115 N k36F (zh ah) (zI v1) (zI v2) (zI s1)) := by
  unfold G_X12_mendsAll_115 F_X12_mendsAll_115
  exact (l_X12_mendsAll_116 hk36 hah hv1 hv2 hs1 (zRd rfl))
theorem l_X12_mendsAll_100 {N : Nat} {k36 : IH → Int → Int → Option IH} {k36F : AH → Int32 → Int32 → Option AH} {ah : IH} {v1 : Int} {v2 : Int} {s1 : Int} {s2 : Int} {s4 : Int} (hk36 : ∀ {z0 : IH} {z1 : Int} {z2 : Int}, HR z0 → zR z1 → zR z2 → LfV (k36 z0 z1 z2) (k36F (zh z0) (zI z1) (zI z2))) (hah : HR ah) (hv1 : zR v1) (hv2 : zR v2) (hs1 : zR s1) (hs2 : zR s2) (hs4 : zR s4) : LfV (G_X12_mendsAll_100 N k36 ah v1 v2 s1 s2 s4) (F_X12_mendsAll_100 N k36F (zh ah) (zI v1) (zI v2) (zI s1) (zI s2) (zI s4)) := by
  unfold G_X12_mendsAll_100 F_X12_mendsAll_100
  refine Lg.g rfl rfl (by decide) (fun g1 => ?_)
  refine Lg.g rfl rfl (by decide) (fun g2 => ?_)
  refine Lg.le (zlk rfl g2) (zwr (zadd rfl (zlk rfl g1))) (hah _ _) wr_R ?_ ?_
  · exact (l_X12_mendsAll_115 hk36 hah hv1 hv2 hs1)
  · exact (l_X12_mendsAll_116 hk36 hah hv1 hv2 hs1 (zRd rfl))
theorem l_X12_mendsAll_36 {N : Nat}  : ∀ (n : Nat) {ah : IH} {v1 : Int} {v2 : Int}, HR ah → zR v1 → zR v2 → LfV (G_X12_mendsAll_36 N n ah v1 v2) (F_X12_mendsAll_36 N n (zh ah) (zI v1) (zI v2)) := by
  intro n
  induction n with
  | zero => intros; exact Lg.none
  | succ n ih =>
    intro ah v1 v2 hah hv1 hv2
    unfold G_X12_mendsAll_36 F_X12_mendsAll_36
    refine Lg.lt rfl rfl hv2 (zRd rfl) ?_ ?_
    · refine Lg.wrt hah rfl rfl rfl (zRd rfl) (fun a155 ha155 => ?_)
      refine Lg.wrt ha155 rfl rfl rfl (zRd rfl) (fun a160 ha160 => ?_)
      refine Lg.wrt ha160 rfl rfl rfl (zRd rfl) (fun a165 ha165 => ?_)
      refine Lg.letv rfl (zRd rfl) (fun v2_169 hv2_169 => ?_)
      exact (l_X12_mendsAll_170 _ ha165 hv1 hv2_169)
    · refine Lg.g rfl rfl (by decide) (fun g1 => ?_)
      refine Lg.g (zadd rfl rfl) rfl (by decide) (fun g2 => ?_)
      refine Lg.g rfl rfl (by decide) (fun g3 => ?_)
      refine Lg.wrt hah rfl (zix rfl g3) (zwr (zadd (zlk rfl g3) (zlk (zadd rfl rfl) g2))) wr_R (fun a60 ha60 => ?_)
      refine Lg.g rfl rfl (by decide) (fun g4 => ?_)
      refine Lg.eq (zlk rfl g4) rfl (ha60 _ _) (zRd rfl) ?_ ?_
      · exact (l_X12_mendsAll_115 ih ha60 hv1 hv2 hv2)
      · refine Lg.g rfl rfl (by decide) (fun g5 => ?_)
        refine Lg.le (zwr (zadd rfl rfl)) rfl wr_R hv1 ?_ ?_
        · exact (by rw [(show (zh a60 47 (Int32.toNatClampNeg (zI v2))) = zI (a60 47 v2) from (zlk rfl g5)), (show ((zI v2) + (2 : Int32)) = zI (wr (v2 + 2)) from (zwr (zadd rfl rfl)))]; exact l_X12_mendsAll_100 ih ha60 hv1 hv2 hv2 (ha60 _ _) wr_R)
        · exact (by rw [(show (zh a60 47 (Int32.toNatClampNeg (zI v2))) = zI (a60 47 v2) from (zlk rfl g5))]; exact l_X12_mendsAll_100 ih ha60 hv1 hv2 hv2 (ha60 _ _) hv1)
theorem l_X12_mendsAll_9 {N : Nat}  : ∀ (n : Nat) {ah : IH} {v1 : Int} {v2 : Int}, HR ah → zR v1 → zR v2 → LfV (G_X12_mendsAll_9 N n ah v1 v2) (F_X12_mendsAll_9 N n (zh ah) (zI v1) (zI v2)) := by
  intro n
  induction n with
  | zero => intros; exact Lg.none
  | succ n ih =>
    intro ah v1 v2 hah hv1 hv2
    unfold G_X12_mendsAll_9 F_X12_mendsAll_9
    refine Lg.le rfl rfl hv1 hv2 ?_ ?_
    · refine Lg.g rfl rfl (by decide) (fun g1 => ?_)
      refine Lg.wrt hah rfl (zix rfl g1) rfl (zRd rfl) (fun a31 ha31 => ?_)
      refine Lg.letv (zwr (zsub rfl rfl)) wr_R (fun v2_35 hv2_35 => ?_)
      exact (l_X12_mendsAll_36 _ ha31 hv1 hv2_35)
    · refine Lg.bv (l_X12_laysAlone hah hv2) (fun a16 ha16 => ?_)
      refine Lg.letv (zwr (zadd rfl rfl)) wr_R (fun v2_19 hv2_19 => ?_)
      exact (ih ha16 hv1 hv2_19)
theorem l_X12_mendsAll {N : Nat} {ah : IH} (hah : HR ah) : LfV (G_X12_mendsAll N ah) (F_X12_mendsAll N (zh ah)) := by
  unfold G_X12_mendsAll F_X12_mendsAll
  refine Lg.letv rfl (hah _ _) (fun v1_6 hv1_6 => ?_)
  refine Lg.letv rfl (zRd rfl) (fun v2_8 hv2_8 => ?_)
  exact (l_X12_mendsAll_9 _ hah hv1_6 hv2_8)
theorem l_X12_text_20 {N : Nat} {ah : IH} {v1 : Int} {s1 : Int} (hah : HR ah) (hv1 : zR v1) (hs1 : zR s1) : LfI (G_X12_text_20 N ah v1 s1) (F_X12_text_20 N (zh ah) (zI v1) (zI s1)) := by
  unfold G_X12_text_20 F_X12_text_20
  refine Lg.b (l_X12_bad hah hs1 (zRd rfl) (zRd rfl)) (fun r22 a22 hr22 ha22 => ?_)
  refine Lg.eq rfl rfl hr22 (zRd rfl) ?_ ?_
  · refine Lg.bv (l_X12_mendsAll ha22) (fun a31 ha31 => ?_)
    refine Lg.eq rfl rfl hv1 (zRd rfl) ?_ ?_
    · exact LgI.ret rfl (ha31 _ _) ha31
    · refine Lg.eq rfl rfl hv1 (zRd rfl) ?_ ?_
      · exact LgI.ret rfl (ha31 _ _) ha31
      · refine Lg.eq rfl rfl hv1 (zRd rfl) ?_ ?_
        · exact LgI.ret rfl (ha31 _ _) ha31
        · exact LgI.ret rfl (ha31 _ _) ha31
  · exact LgI.ret rfl (zRd rfl) ha22
theorem l_X12_text {N : Nat} {ah : IH} {p1 : Int} (hah : HR ah) (hp1 : zR p1) : LfI (G_X12_text N ah p1) (F_X12_text N (zh ah) (zI p1)) := by
  unfold G_X12_text F_X12_text
  refine Lg.wrt hah rfl rfl rfl (zRd rfl) (fun a2 ha2 => ?_)
  refine Lg.b (l_X12_in ha2 hp1 (zRd rfl) (zRd rfl)) (fun r9 a9 hr9 ha9 => ?_)
  refine Lg.eq rfl rfl hr9 (zRd rfl) ?_ ?_
  · exact (l_X12_text_20 ha9 hp1 (zRd rfl))
  · exact (l_X12_text_20 ha9 hp1 (zRd rfl))
theorem l_X12_at {N : Nat} {ah : IH} {p1 : Int} (hah : HR ah) (hp1 : zR p1) : LfI (G_X12_at N ah p1) (F_X12_at N (zh ah) (zI p1)) := by
  unfold G_X12_at F_X12_at
  refine Lg.wrt hah rfl rfl rfl (zRd rfl) (fun a2 ha2 => ?_)
  refine Lg.bv (l_X12_mendsAll ha2) (fun a6 ha6 => ?_)
  refine Lg.b (by rw [(show ((zh a6 0 69) - (1 : Int32)) = zI (wr ((a6 0 69) - 1)) from (zwr (zsub rfl rfl)))]; exact l_X12_in ha6 hp1 (zRd rfl) wr_R) (fun r17 a17 hr17 ha17 => ?_)
  refine Lg.eq rfl rfl hr17 (zRd rfl) ?_ ?_
  · exact LgI.ret rfl (zRd rfl) ha17
  · refine Lg.g rfl rfl (by decide) (fun g1 => ?_)
    exact LgI.ret (zlk rfl g1) (ha17 _ _) ha17
theorem l_X12_isLostAt_22 {N : Nat} {k2 : IH → Int → Int → Option (Int × IH)} {k2F : AH → Int32 → Int32 → Option (Int32 × AH)} {ah : IH} {v1 : Int} {s0 : Int} {s1 : Int} (hk2 : ∀ {z0 : IH} {z1 : Int} {z2 : Int}, HR z0 → zR z1 → zR z2 → LfI (k2 z0 z1 z2) (k2F (zh z0) (zI z1) (zI z2))) (hah : HR ah) (hv1 : zR v1) (hs0 : zR s0) (hs1 : zR s1) : LfI (G_X12_isLostAt_22 N k2 ah v1 s0 s1) (F_X12_isLostAt_22 N k2F (zh ah) (zI v1) (zI s0) (zI s1)) := by
  unfold G_X12_isLostAt_22 F_X12_isLostAt_22
  refine Lg.letv (zwr (zadd rfl rfl)) wr_R (fun v2_23 hv2_23 => ?_)
  exact (hk2 hah hv1 hv2_23)
theorem l_X12_isLostAt_2 {N : Nat}  : ∀ (n : Nat) {ah : IH} {v1 : Int} {v2 : Int}, HR ah → zR v1 → zR v2 → LfI (G_X12_isLostAt_2 N n ah v1 v2) (F_X12_isLostAt_2 N n (zh ah) (zI v1) (zI v2)) := by
  intro n
  induction n with
  | zero => intros; exact Lg.none
  | succ n ih =>
    intro ah v1 v2 hah hv1 hv2
    unfold G_X12_isLostAt_2 F_X12_isLostAt_2
    refine Lg.le rfl rfl hv1 hv2 ?_ ?_
    · refine Lg.eq rfl rfl hv2 hv1 ?_ ?_
      · refine Lg.lt rfl rfl hv1 (zRd rfl) ?_ ?_
        · exact LgI.ret rfl (zRd rfl) hah
        · refine Lg.le rfl rfl (hah _ _) hv1 ?_ ?_
          · exact LgI.ret rfl (zRd rfl) hah
          · refine Lg.g rfl rfl (by decide) (fun g1 => ?_)
            refine Lg.eq (zlk rfl g1) rfl (hah _ _) (zRd rfl) ?_ ?_
            · exact LgI.ret rfl (zRd rfl) hah
            · exact LgI.ret rfl (zRd rfl) hah
      · exact LgI.ret rfl (zRd rfl) hah
    · refine Lg.g rfl rfl (by decide) (fun g2 => ?_)
      refine Lg.eq (zlk rfl g2) rfl (hah _ _) (zRd rfl) ?_ ?_
      · exact (l_X12_isLostAt_22 ih hah hv1 hv2 (zRd rfl))
      · exact (l_X12_isLostAt_22 ih hah hv1 hv2 (zRd rfl))
theorem l_X12_isLostAt {N : Nat} {ah : IH} {p1 : Int} (hah : HR ah) (hp1 : zR p1) : LfI (G_X12_isLostAt N ah p1) (F_X12_isLostAt N (zh ah) (zI p1)) := by
  unfold G_X12_isLostAt F_X12_isLostAt
  refine Lg.letv rfl (zRd rfl) (fun v2_1 hv2_1 => ?_)
  exact (l_X12_isLostAt_2 _ hah hp1 hv2_1)
theorem l_X12_lost_68 {N : Nat} {ah : IH} {s1 : Int} (hah : HR ah) (hs1 : zR s1) : LfI (G_X12_lost_68 N ah s1) (F_X12_lost_68 N (zh ah) (zI s1)) := by
  unfold G_X12_lost_68 F_X12_lost_68
  refine Lg.b (l_X12_isLostAt hah hs1) (fun r68 a68 hr68 ha68 => ?_)
  refine Lg.bo rfl ?_
  exact LgI.ret rfl hr68 ha68
theorem l_X12_lost_42 {N : Nat} {ah : IH} {v1 : Int} {v2 : Int} {s1 : Int} (hah : HR ah) (hv1 : zR v1) (hv2 : zR v2) (hs1 : zR s1) : LfI (G_X12_lost_42 N ah v1 v2 s1) (F_X12_lost_42 N (zh ah) (zI v1) (zI v2) (zI s1)) := by
  unfold G_X12_lost_42 F_X12_lost_42
  refine Lg.b (l_X12_bad hah hs1 (zRd rfl) (zRd rfl)) (fun r44 a44 hr44 ha44 => ?_)
  refine Lg.eq rfl rfl hr44 (zRd rfl) ?_ ?_
  · refine Lg.bv (l_X12_mendsAll ha44) (fun a53 ha53 => ?_)
    refine Lg.eq rfl rfl hv2 (zRd rfl) ?_ ?_
    · exact (l_X12_lost_68 ha53 hv1)
    · exact (by rw [(show ((zI v1) - (1 : Int32)) = zI (wr (v1 - 1)) from (zwr (zsub rfl rfl)))]; exact l_X12_lost_68 ha53 wr_R)
  · exact LgI.ret rfl (zRd rfl) ha44
theorem l_X12_lost_19 {N : Nat} {ah : IH} {v1 : Int} {v2 : Int} {s1 : Int} (hah : HR ah) (hv1 : zR v1) (hv2 : zR v2) (hs1 : zR s1) : LfI (G_X12_lost_19 N ah v1 v2 s1) (F_X12_lost_19 N (zh ah) (zI v1) (zI v2) (zI s1)) := by
  unfold G_X12_lost_19 F_X12_lost_19
  refine Lg.b (l_X12_bad hah hs1 (zRd rfl) (zRd rfl)) (fun r21 a21 hr21 ha21 => ?_)
  refine Lg.eq rfl rfl hr21 (zRd rfl) ?_ ?_
  · refine Lg.b (l_X12_in ha21 hv2 (zRd rfl) (zRd rfl)) (fun r31 a31 hr31 ha31 => ?_)
    refine Lg.eq rfl rfl hr31 (zRd rfl) ?_ ?_
    · exact (l_X12_lost_42 ha31 hv1 hv2 (zRd rfl))
    · exact (l_X12_lost_42 ha31 hv1 hv2 (zRd rfl))
  · exact LgI.ret rfl (zRd rfl) ha21
theorem l_X12_lost {N : Nat} {ah : IH} {p1 : Int} {p2 : Int} (hah : HR ah) (hp1 : zR p1) (hp2 : zR p2) : LfI (G_X12_lost N ah p1 p2) (F_X12_lost N (zh ah) (zI p1) (zI p2)) := by
  unfold G_X12_lost F_X12_lost
  refine Lg.wrt hah rfl rfl rfl (zRd rfl) (fun a2 ha2 => ?_)
  refine Lg.b (l_X12_isToken ha2 hp1) (fun r8 a8 hr8 ha8 => ?_)
  refine Lg.eq rfl rfl hr8 (zRd rfl) ?_ ?_
  · exact (l_X12_lost_19 ha8 hp1 hp2 (zRd rfl))
  · exact (l_X12_lost_19 ha8 hp1 hp2 (zRd rfl))
theorem l_X12_apartOf {N : Nat} {ah : IH} {p1 : Int} {p2 : Int} (hah : HR ah) (hp1 : zR p1) (hp2 : zR p2) : LfI (G_X12_apartOf N ah p1 p2) (F_X12_apartOf N (zh ah) (zI p1) (zI p2)) := by
  unfold G_X12_apartOf F_X12_apartOf
  refine Lg.bv (l_X12_laysWord hah hp1) (fun a2 ha2 => ?_)
  refine Lg.b (l_X12_spells ha2 hp2) (fun r7 a7 hr7 ha7 => ?_)
  refine Lg.letv rfl hr7 (fun v3_10 hv3_10 => ?_)
  refine Lg.lt rfl rfl hv3_10 (zRd rfl) ?_ ?_
  · exact LgI.ret rfl hv3_10 ha7
  · exact LgI.ret rfl (zRd rfl) ha7
theorem l_X12_apart_27 {N : Nat} {ah : IH} {v1 : Int} {v2 : Int} {s1 : Int} (hah : HR ah) (hv1 : zR v1) (hv2 : zR v2) (hs1 : zR s1) : LfI (G_X12_apart_27 N ah v1 v2 s1) (F_X12_apart_27 N (zh ah) (zI v1) (zI v2) (zI s1)) := by
  unfold G_X12_apart_27 F_X12_apart_27
  refine Lg.b (l_X12_bad hah hs1 (zRd rfl) (zRd rfl)) (fun r29 a29 hr29 ha29 => ?_)
  refine Lg.eq rfl rfl hr29 (zRd rfl) ?_ ?_
  · refine Lg.b (l_X12_apartOf ha29 hv1 hv2) (fun r40 a40 hr40 ha40 => ?_)
    exact LgI.ret rfl hr40 ha40
  · exact LgI.ret rfl (zRd rfl) ha29
theorem l_X12_apart_22 {N : Nat} {ah : IH} {v1 : Int} {v2 : Int} (hah : HR ah) (hv1 : zR v1) (hv2 : zR v2) : LfI (G_X12_apart_22 N ah v1 v2) (F_X12_apart_22 N (zh ah) (zI v1) (zI v2)) := by
  unfold G_X12_apart_22 F_X12_apart_22
  exact (l_X12_apart_27 hah hv1 hv2 (zRd rfl))
theorem l_X12_apart {N : Nat} {ah : IH} {p1 : Int} {p2 : Int} (hah : HR ah) (hp1 : zR p1) (hp2 : zR p2) : LfI (G_X12_apart N ah p1 p2) (F_X12_apart N (zh ah) (zI p1) (zI p2)) := by
  unfold G_X12_apart F_X12_apart
  refine Lg.wrt hah rfl rfl rfl (zRd rfl) (fun a2 ha2 => ?_)
  refine Lg.b (l_X12_isWord ha2 hp1) (fun r8 a8 hr8 ha8 => ?_)
  refine Lg.eq rfl rfl hr8 (zRd rfl) ?_ ?_
  · exact (l_X12_apart_22 ha8 hp1 hp2)
  · refine Lg.b (l_X12_isWord ha8 hp2) (fun r16 a16 hr16 ha16 => ?_)
    refine Lg.eq rfl rfl hr16 (zRd rfl) ?_ ?_
    · exact (l_X12_apart_22 ha16 hp1 hp2)
    · exact (l_X12_apart_27 ha16 hp1 hp2 (zRd rfl))
theorem l_X12_twin_117 {N : Nat} {k60 : IH → Int → Int → Int → Int → Int → Option (Int × IH)} {k60F : AH → Int32 → Int32 → Int32 → Int32 → Int32 → Option (Int32 × AH)} {ah : IH} {v1 : Int} {v2 : Int} {v3 : Int} {v4 : Int} {v5 : Int} (hk60 : ∀ {z0 : IH} {z1 : Int} {z2 : Int} {z3 : Int} {z4 : Int} {z5 : Int}, HR z0 → zR z1 → zR z2 → zR z3 → zR z4 → zR z5 → LfI (k60 z0 z1 z2 z3 z4 z5) (k60F (zh z0) (zI z1) (zI z2) (zI z3) (zI z4) (zI z5))) (hah : HR ah) (hv1 : zR v1) (hv2 : zR v2) (hv3 : zR v3) (hv4 : zR v4) (hv5 : zR v5) : LfI (G_X12_twin_117 N k60 ah v1 v2 v3 v4 v5) (F_X12_twin_117 N k60F (zh ah) (zI v1) (zI v2) (zI v3) (zI v4) (zI v5)) := by
  unfold G_X12_twin_117 F_X12_twin_117
  refine Lg.letv (zwr (zadd rfl rfl)) wr_R (fun v5_117 hv5_117 => ?_)
  exact (hk60 hah hv1 hv2 hv3 hv4 hv5_117)
theorem l_X12_twin_110 {N : Nat} {k60 : IH → Int → Int → Int → Int → Int → Option (Int × IH)} {k60F : AH → Int32 → Int32 → Int32 → Int32 → Int32 → Option (Int32 × AH)} {ah : IH} {v1 : Int} {v2 : Int} {v5 : Int} {v6 : Int} (hk60 : ∀ {z0 : IH} {z1 : Int} {z2 : Int} {z3 : Int} {z4 : Int} {z5 : Int}, HR z0 → zR z1 → zR z2 → zR z3 → zR z4 → zR z5 → LfI (k60 z0 z1 z2 z3 z4 z5) (k60F (zh z0) (zI z1) (zI z2) (zI z3) (zI z4) (zI z5))) (hah : HR ah) (hv1 : zR v1) (hv2 : zR v2) (hv5 : zR v5) (hv6 : zR v6) : LfI (G_X12_twin_110 N k60 ah v1 v2 v5 v6) (F_X12_twin_110 N k60F (zh ah) (zI v1) (zI v2) (zI v5) (zI v6)) := by
  unfold G_X12_twin_110 F_X12_twin_110
  refine Lg.letv rfl hv5 (fun v3_112 hv3_112 => ?_)
  refine Lg.letv rfl hv6 (fun v4_115 hv4_115 => ?_)
  exact (l_X12_twin_117 hk60 hah hv1 hv2 hv3_112 hv4_115 hv5)
theorem l_X12_twin_86 {N : Nat} {k60 : IH → Int → Int → Int → Int → Int → Option (Int × IH)} {k60F : AH → Int32 → Int32 → Int32 → Int32 → Int32 → Option (Int32 × AH)} {ah : IH} {v1 : Int} {v2 : Int} {v3 : Int} {v4 : Int} {v5 : Int} {s0 : Int} (hk60 : ∀ {z0 : IH} {z1 : Int} {z2 : Int} {z3 : Int} {z4 : Int} {z5 : Int}, HR z0 → zR z1 → zR z2 → zR z3 → zR z4 → zR z5 → LfI (k60 z0 z1 z2 z3 z4 z5) (k60F (zh z0) (zI z1) (zI z2) (zI z3) (zI z4) (zI z5))) (hah : HR ah) (hv1 : zR v1) (hv2 : zR v2) (hv3 : zR v3) (hv4 : zR v4) (hv5 : zR v5) (hs0 : zR s0) : LfI (G_X12_twin_86 N k60 ah v1 v2 v3 v4 v5 s0) (F_X12_twin_86 N k60F (zh ah) (zI v1) (zI v2) (zI v3) (zI v4) (zI v5) (zI s0)) := by
  unfold G_X12_twin_86 F_X12_twin_86
  refine Lg.letv rfl hs0 (fun v6_86 hv6_86 => ?_)
  refine Lg.eq rfl rfl hv6_86 (zRd rfl) ?_ ?_
  · exact (l_X12_twin_117 hk60 hah hv1 hv2 hv3 hv4 hv5)
  · refine Lg.eq rfl rfl hv4 (zRd rfl) ?_ ?_
    · exact (l_X12_twin_110 hk60 hah hv1 hv2 hv5 hv6_86)
    · refine Lg.lt rfl rfl hv6_86 hv4 ?_ ?_
      · exact (l_X12_twin_110 hk60 hah hv1 hv2 hv5 hv6_86)
      · exact (l_X12_twin_117 hk60 hah hv1 hv2 hv3 hv4 hv5)
theorem l_X12_twin_60 {N : Nat}  : ∀ (n : Nat) {ah : IH} {v1 : Int} {v2 : Int} {v3 : Int} {v4 : Int} {v5 : Int}, HR ah → zR v1 → zR v2 → zR v3 → zR v4 → zR v5 → LfI (G_X12_twin_60 N n ah v1 v2 v3 v4 v5) (F_X12_twin_60 N n (zh ah) (zI v1) (zI v2) (zI v3) (zI v4) (zI v5)) := by
  intro n
  induction n with
  | zero => intros; exact Lg.none
  | succ n ih =>
    intro ah v1 v2 v3 v4 v5 hah hv1 hv2 hv3 hv4 hv5
    unfold G_X12_twin_60 F_X12_twin_60
    refine Lg.le rfl rfl (hah _ _) hv5 ?_ ?_
    · refine Lg.eq rfl rfl hv2 (zRd rfl) ?_ ?_
      · exact LgI.ret rfl hv3 hah
      · exact LgI.ret rfl hv4 hah
    · refine Lg.eq rfl rfl hv5 hv1 ?_ ?_
      · exact (l_X12_twin_86 ih hah hv1 hv2 hv3 hv4 hv5 (zRd rfl))
      · refine Lg.b (l_X12_apartOf hah hv1 hv5) (fun r83 a83 hr83 ha83 => ?_)
        exact (l_X12_twin_86 ih ha83 hv1 hv2 hv3 hv4 hv5 hr83)
theorem l_X12_twin_42 {N : Nat} {ah : IH} {v1 : Int} {v2 : Int} {s1 : Int} (hah : HR ah) (hv1 : zR v1) (hv2 : zR v2) (hs1 : zR s1) : LfI (G_X12_twin_42 N ah v1 v2 s1) (F_X12_twin_42 N (zh ah) (zI v1) (zI v2) (zI s1)) := by
  unfold G_X12_twin_42 F_X12_twin_42
  refine Lg.b (l_X12_bad hah hs1 (zRd rfl) (zRd rfl)) (fun r44 a44 hr44 ha44 => ?_)
  refine Lg.eq rfl rfl hr44 (zRd rfl) ?_ ?_
  · refine Lg.letv rfl (zRd rfl) (fun v3_53 hv3_53 => ?_)
    refine Lg.letv rfl (zRd rfl) (fun v4_55 hv4_55 => ?_)
    refine Lg.letv rfl (zRd rfl) (fun v5_58 hv5_58 => ?_)
    exact (l_X12_twin_60 _ ha44 hv1 hv2 hv3_53 hv4_55 hv5_58)
  · exact LgI.ret rfl (zRd rfl) ha44
theorem l_X12_twin_19 {N : Nat} {ah : IH} {v1 : Int} {v2 : Int} {s1 : Int} (hah : HR ah) (hv1 : zR v1) (hv2 : zR v2) (hs1 : zR s1) : LfI (G_X12_twin_19 N ah v1 v2 s1) (F_X12_twin_19 N (zh ah) (zI v1) (zI v2) (zI s1)) := by
  unfold G_X12_twin_19 F_X12_twin_19
  refine Lg.b (l_X12_bad hah hs1 (zRd rfl) (zRd rfl)) (fun r21 a21 hr21 ha21 => ?_)
  refine Lg.eq rfl rfl hr21 (zRd rfl) ?_ ?_
  · refine Lg.b (l_X12_in ha21 hv2 (zRd rfl) (zRd rfl)) (fun r31 a31 hr31 ha31 => ?_)
    refine Lg.eq rfl rfl hr31 (zRd rfl) ?_ ?_
    · exact (l_X12_twin_42 ha31 hv1 hv2 (zRd rfl))
    · exact (l_X12_twin_42 ha31 hv1 hv2 (zRd rfl))
  · exact LgI.ret rfl (zRd rfl) ha21
theorem l_X12_twin {N : Nat} {ah : IH} {p1 : Int} {p2 : Int} (hah : HR ah) (hp1 : zR p1) (hp2 : zR p2) : LfI (G_X12_twin N ah p1 p2) (F_X12_twin N (zh ah) (zI p1) (zI p2)) := by
  unfold G_X12_twin F_X12_twin
  refine Lg.wrt hah rfl rfl rfl (zRd rfl) (fun a2 ha2 => ?_)
  refine Lg.b (l_X12_isWord ha2 hp1) (fun r8 a8 hr8 ha8 => ?_)
  refine Lg.eq rfl rfl hr8 (zRd rfl) ?_ ?_
  · exact (l_X12_twin_19 ha8 hp1 hp2 (zRd rfl))
  · exact (l_X12_twin_19 ha8 hp1 hp2 (zRd rfl))
theorem l_X12_twins_83 {N : Nat} {k36 : IH → Int → Int → Int → Option (Int × IH)} {k36F : AH → Int32 → Int32 → Int32 → Option (Int32 × AH)} {k47 : IH → Int → Int → Int → Int → Option (Int × IH)} {k47F : AH → Int32 → Int32 → Int32 → Int32 → Option (Int32 × AH)} {ah : IH} {v1 : Int} {v3 : Int} {v4 : Int} {s0 : Int} {s1 : Int} (hk36 : ∀ {z0 : IH} {z1 : Int} {z2 : Int} {z3 : Int}, HR z0 → zR z1 → zR z2 → zR z3 → LfI (k36 z0 z1 z2 z3) (k36F (zh z0) (zI z1) (zI z2) (zI z3))) (hk47 : ∀ {z0 : IH} {z1 : Int} {z2 : Int} {z3 : Int} {z4 : Int}, HR z0 → zR z1 → zR z2 → zR z3 → zR z4 → LfI (k47 z0 z1 z2 z3 z4) (k47F (zh z0) (zI z1) (zI z2) (zI z3) (zI z4))) (hah : HR ah) (hv1 : zR v1) (hv3 : zR v3) (hv4 : zR v4) (hs0 : zR s0) (hs1 : zR s1) : LfI (G_X12_twins_83 N k36 k47 ah v1 v3 v4 s0 s1) (F_X12_twins_83 N k36F k47F (zh ah) (zI v1) (zI v3) (zI v4) (zI s0) (zI s1)) := by
  unfold G_X12_twins_83 F_X12_twins_83
  refine Lg.letv (zwr (zadd rfl rfl)) wr_R (fun v2_84 hv2_84 => ?_)
  refine Lg.letv (zwr (zadd rfl rfl)) wr_R (fun v4_85 hv4_85 => ?_)
  exact (hk47 hah hv1 hv2_84 hv3 hv4_85)
theorem l_X12_twins_82 {N : Nat} {k36 : IH → Int → Int → Int → Option (Int × IH)} {k36F : AH → Int32 → Int32 → Int32 → Option (Int32 × AH)} {k47 : IH → Int → Int → Int → Int → Option (Int × IH)} {k47F : AH → Int32 → Int32 → Int32 → Int32 → Option (Int32 × AH)} {ah : IH} {v1 : Int} {v3 : Int} {v4 : Int} {s0 : Int} (hk36 : ∀ {z0 : IH} {z1 : Int} {z2 : Int} {z3 : Int}, HR z0 → zR z1 → zR z2 → zR z3 → LfI (k36 z0 z1 z2 z3) (k36F (zh z0) (zI z1) (zI z2) (zI z3))) (hk47 : ∀ {z0 : IH} {z1 : Int} {z2 : Int} {z3 : Int} {z4 : Int}, HR z0 → zR z1 → zR z2 → zR z3 → zR z4 → LfI (k47 z0 z1 z2 z3 z4) (k47F (zh z0) (zI z1) (zI z2) (zI z3) (zI z4))) (hah : HR ah) (hv1 : zR v1) (hv3 : zR v3) (hv4 : zR v4) (hs0 : zR s0) : LfI (G_X12_twins_82 N k36 k47 ah v1 v3 v4 s0) (F_X12_twins_82 N k36F k47F (zh ah) (zI v1) (zI v3) (zI v4) (zI s0)) := by
  unfold G_X12_twins_82 F_X12_twins_82
  exact (l_X12_twins_83 hk36 hk47 hah hv1 hv3 hv4 hs0 (zRd rfl))
theorem l_X12_twins_47 {N : Nat} {k36 : IH → Int → Int → Int → Option (Int × IH)} {k36F : AH → Int32 → Int32 → Int32 → Option (Int32 × AH)} (hk36 : ∀ {z0 : IH} {z1 : Int} {z2 : Int} {z3 : Int}, HR z0 → zR z1 → zR z2 → zR z3 → LfI (k36 z0 z1 z2 z3) (k36F (zh z0) (zI z1) (zI z2) (zI z3))) : ∀ (n : Nat) {ah : IH} {v1 : Int} {v2 : Int} {v3 : Int} {v4 : Int}, HR ah → zR v1 → zR v2 → zR v3 → zR v4 → LfI (G_X12_twins_47 N k36 n ah v1 v2 v3 v4) (F_X12_twins_47 N k36F n (zh ah) (zI v1) (zI v2) (zI v3) (zI v4)) := by
  intro n
  induction n with
  | zero => intros; exact Lg.none
  | succ n ih =>
    intro ah v1 v2 v3 v4 hah hv1 hv2 hv3 hv4
    unfold G_X12_twins_47 F_X12_twins_47
    refine Lg.le rfl rfl (hah _ _) hv4 ?_ ?_
    · refine Lg.letv (zwr (zadd rfl rfl)) wr_R (fun v3_91 hv3_91 => ?_)
      exact (hk36 hah hv1 hv2 hv3_91)
    · refine Lg.eq rfl rfl hv3 hv4 ?_ ?_
      · exact (l_X12_twins_82 hk36 ih hah hv1 hv3 hv4 hv2)
      · refine Lg.b (l_X12_apartOf hah hv3 hv4) (fun r67 a67 hr67 ha67 => ?_)
        refine Lg.b (l_X12_in ha67 hr67 (zRd rfl) hv1) (fun r72 a72 hr72 ha72 => ?_)
        refine Lg.eq rfl rfl hr72 (zRd rfl) ?_ ?_
        · exact (l_X12_twins_82 hk36 ih ha72 hv1 hv3 hv4 hv2)
        · exact (l_X12_twins_83 hk36 ih ha72 hv1 hv3 hv4 hv2 (zRd rfl))
theorem l_X12_twins_36 {N : Nat}  : ∀ (n : Nat) {ah : IH} {v1 : Int} {v2 : Int} {v3 : Int}, HR ah → zR v1 → zR v2 → zR v3 → LfI (G_X12_twins_36 N n ah v1 v2 v3) (F_X12_twins_36 N n (zh ah) (zI v1) (zI v2) (zI v3)) := by
  intro n
  induction n with
  | zero => intros; exact Lg.none
  | succ n ih =>
    intro ah v1 v2 v3 hah hv1 hv2 hv3
    unfold G_X12_twins_36 F_X12_twins_36
    refine Lg.le rfl rfl (hah _ _) hv3 ?_ ?_
    · exact LgI.ret rfl hv2 hah
    · refine Lg.letv rfl (zRd rfl) (fun v4_45 hv4_45 => ?_)
      exact (l_X12_twins_47 ih _ hah hv1 hv2 hv3 hv4_45)
theorem l_X12_twins_22 {N : Nat} {ah : IH} {v1 : Int} {s1 : Int} (hah : HR ah) (hv1 : zR v1) (hs1 : zR s1) : LfI (G_X12_twins_22 N ah v1 s1) (F_X12_twins_22 N (zh ah) (zI v1) (zI s1)) := by
  unfold G_X12_twins_22 F_X12_twins_22
  refine Lg.b (l_X12_bad hah hs1 (zRd rfl) (zRd rfl)) (fun r24 a24 hr24 ha24 => ?_)
  refine Lg.eq rfl rfl hr24 (zRd rfl) ?_ ?_
  · refine Lg.letv rfl (zRd rfl) (fun v2_33 hv2_33 => ?_)
    refine Lg.letv rfl (zRd rfl) (fun v3_35 hv3_35 => ?_)
    exact (l_X12_twins_36 _ ha24 hv1 hv2_33 hv3_35)
  · exact LgI.ret rfl (zRd rfl) ha24
theorem l_X12_twins {N : Nat} {ah : IH} {p1 : Int} (hah : HR ah) (hp1 : zR p1) : LfI (G_X12_twins N ah p1) (F_X12_twins N (zh ah) (zI p1)) := by
  unfold G_X12_twins F_X12_twins
  refine Lg.wrt hah rfl rfl rfl (zRd rfl) (fun a2 ha2 => ?_)
  refine Lg.b (l_X12_in ha2 hp1 (zRd rfl) (zRd rfl)) (fun r11 a11 hr11 ha11 => ?_)
  refine Lg.eq rfl rfl hr11 (zRd rfl) ?_ ?_
  · exact (l_X12_twins_22 ha11 hp1 (zRd rfl))
  · exact (l_X12_twins_22 ha11 hp1 (zRd rfl))
theorem l_X12_status {N : Nat} {ah : IH} {p1 : Int} (hah : HR ah) (hp1 : zR p1) : LfI (G_X12_status N ah p1) (F_X12_status N (zh ah) (zI p1)) := by
  unfold G_X12_status F_X12_status
  refine Lg.wrt hah rfl rfl rfl (zRd rfl) (fun a2 ha2 => ?_)
  refine Lg.b (l_X12_in ha2 hp1 (zRd rfl) (zRd rfl)) (fun r8 a8 hr8 ha8 => ?_)
  refine Lg.eq rfl rfl hr8 (zRd rfl) ?_ ?_
  · exact LgI.ret rfl (zRd rfl) ha8
  · refine Lg.g rfl rfl (by decide) (fun g1 => ?_)
    exact LgI.ret (zlk rfl g1) (ha8 _ _) ha8
