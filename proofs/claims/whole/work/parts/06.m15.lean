-- X12_passAll
def X12_passAll (i0 : Nat)   (M : Mem) : Option (Unit × Mem) :=
  (X12_pass i0 (M.1 i0 3) M).bind (fun p1 =>
    mw (mI p1.2 i0 3 p1.1) (fun N2 =>
      (X12_pass i0 (N2.1 i0 4) N2).bind (fun p3 =>
        mw (mI p3.2 i0 4 p3.1) (fun N4 =>
          (X12_pass i0 (N4.1 i0 5) N4).bind (fun p5 =>
            mw (mI p5.2 i0 5 p5.1) (fun N6 =>
              (X12_pass i0 (N6.1 i0 6) N6).bind (fun p7 =>
                mw (mI p7.2 i0 6 p7.1) (fun N8 =>
                  (X12_pass i0 (N8.1 i0 7) N8).bind (fun p9 =>
                    mw (mI p9.2 i0 7 p9.1) (fun N10 =>
                      (X12_pass i0 (N10.1 i0 10) N10).bind (fun p11 =>
                        mw (mI p11.2 i0 10 p11.1) (fun N12 =>
                          (X12_passRow i0 (rf i0 0) 10 (10 : Int32) N12).bind (fun p13 =>
                            (X12_passRow i0 (rf i0 1) 10 (10 : Int32) p13.2).bind (fun p14 =>
                              (X12_passRow i0 (rf i0 2) 10 (10 : Int32) p14.2).bind (fun p15 =>
                                (X12_passRow i0 (rf i0 8) 8 (8 : Int32) p15.2).bind (fun p16 =>
                                  (X12_passRow i0 (rf i0 9) 8 (8 : Int32) p16.2).bind (fun p17 =>
                                    some ((), p17.2))))))))))))))))))
set_option maxHeartbeats 4000000 in
set_option maxRecDepth 100000 in
theorem t_X12_passAll {X : Scr} {i0 : Nat} (h0 : KD[i0]? = some (.inl 12))  (M : Mem) : T X eV (X12_passAll i0   M) md_X12_passAll 0 [(0, .ref i0)] [] M := by
  unfold X12_passAll
  refine T_aload_n 0 dX12_passAll_0 rfl rfl ?_
  refine T_aload_n 0 dX12_passAll_1 rfl rfl ?_
  refine T_aload_n 0 dX12_passAll_2 rfl rfl ?_
  refine T_getI 3 FOk_12 h0 (by decide) (by decide) dX12_passAll_3 tb_716 ?_
  refine T_callVI md_X12_pass [.int (M.1 i0 3)] [.ref i0] dX12_passAll_6 h0 rfl rfl ok_X12_pass tb_1078 tb_1080 tb_41 (by decide) (Nat.le_of_ble_eq_true rfl) (fun _ _ h9 => C_X12_pass h0 _ h9) (fun r1 M1 => ?_)
  dsimp only
  refine T_putI (ty := .int) 3 FOk_12 h0 (by decide) (by decide) rfl (by decide +kernel) rfl rfl dX12_passAll_9 tb_716 ?_
  refine T_mw (fun N2 => ?_)
  try dsimp only
  refine T_aload_n 0 dX12_passAll_12 rfl rfl ?_
  refine T_aload_n 0 dX12_passAll_13 rfl rfl ?_
  refine T_aload_n 0 dX12_passAll_14 rfl rfl ?_
  refine T_getI 4 FOk_12 h0 (by decide) (by decide) dX12_passAll_15 tb_717 ?_
  refine T_callVI md_X12_pass [.int (N2.1 i0 4)] [.ref i0] dX12_passAll_18 h0 rfl rfl ok_X12_pass tb_1078 tb_1080 tb_41 (by decide) (Nat.le_of_ble_eq_true rfl) (fun _ _ h9 => C_X12_pass h0 _ h9) (fun r3 M3 => ?_)
  dsimp only
  refine T_putI (ty := .int) 4 FOk_12 h0 (by decide) (by decide) rfl (by decide +kernel) rfl rfl dX12_passAll_21 tb_717 ?_
  refine T_mw (fun N4 => ?_)
  try dsimp only
  refine T_aload_n 0 dX12_passAll_24 rfl rfl ?_
  refine T_aload_n 0 dX12_passAll_25 rfl rfl ?_
  refine T_aload_n 0 dX12_passAll_26 rfl rfl ?_
  refine T_getI 5 FOk_12 h0 (by decide) (by decide) dX12_passAll_27 tb_718 ?_
  refine T_callVI md_X12_pass [.int (N4.1 i0 5)] [.ref i0] dX12_passAll_30 h0 rfl rfl ok_X12_pass tb_1078 tb_1080 tb_41 (by decide) (Nat.le_of_ble_eq_true rfl) (fun _ _ h9 => C_X12_pass h0 _ h9) (fun r5 M5 => ?_)
  dsimp only
  refine T_putI (ty := .int) 5 FOk_12 h0 (by decide) (by decide) rfl (by decide +kernel) rfl rfl dX12_passAll_33 tb_718 ?_
  refine T_mw (fun N6 => ?_)
  try dsimp only
  refine T_aload_n 0 dX12_passAll_36 rfl rfl ?_
  refine T_aload_n 0 dX12_passAll_37 rfl rfl ?_
  refine T_aload_n 0 dX12_passAll_38 rfl rfl ?_
  refine T_getI 6 FOk_12 h0 (by decide) (by decide) dX12_passAll_39 tb_719 ?_
  refine T_callVI md_X12_pass [.int (N6.1 i0 6)] [.ref i0] dX12_passAll_42 h0 rfl rfl ok_X12_pass tb_1078 tb_1080 tb_41 (by decide) (Nat.le_of_ble_eq_true rfl) (fun _ _ h9 => C_X12_pass h0 _ h9) (fun r7 M7 => ?_)
  dsimp only
  refine T_putI (ty := .int) 6 FOk_12 h0 (by decide) (by decide) rfl (by decide +kernel) rfl rfl dX12_passAll_45 tb_719 ?_
  refine T_mw (fun N8 => ?_)
  try dsimp only
  refine T_aload_n 0 dX12_passAll_48 rfl rfl ?_
  refine T_aload_n 0 dX12_passAll_49 rfl rfl ?_
  refine T_aload_n 0 dX12_passAll_50 rfl rfl ?_
  refine T_getI 7 FOk_12 h0 (by decide) (by decide) dX12_passAll_51 tb_720 ?_
  refine T_callVI md_X12_pass [.int (N8.1 i0 7)] [.ref i0] dX12_passAll_54 h0 rfl rfl ok_X12_pass tb_1078 tb_1080 tb_41 (by decide) (Nat.le_of_ble_eq_true rfl) (fun _ _ h9 => C_X12_pass h0 _ h9) (fun r9 M9 => ?_)
  dsimp only
  refine T_putI (ty := .int) 7 FOk_12 h0 (by decide) (by decide) rfl (by decide +kernel) rfl rfl dX12_passAll_57 tb_720 ?_
  refine T_mw (fun N10 => ?_)
  try dsimp only
  refine T_aload_n 0 dX12_passAll_60 rfl rfl ?_
  refine T_aload_n 0 dX12_passAll_61 rfl rfl ?_
  refine T_aload_n 0 dX12_passAll_62 rfl rfl ?_
  refine T_getI 10 FOk_12 h0 (by decide) (by decide) dX12_passAll_63 tb_723 ?_
  refine T_callVI md_X12_pass [.int (N10.1 i0 10)] [.ref i0] dX12_passAll_66 h0 rfl rfl ok_X12_pass tb_1078 tb_1080 tb_41 (by decide) (Nat.le_of_ble_eq_true rfl) (fun _ _ h9 => C_X12_pass h0 _ h9) (fun r11 M11 => ?_)
  dsimp only
  refine T_putI (ty := .int) 10 FOk_12 h0 (by decide) (by decide) rfl (by decide +kernel) rfl rfl dX12_passAll_69 tb_723 ?_
  refine T_mw (fun N12 => ?_)
  try dsimp only
  refine T_aload_n 0 dX12_passAll_72 rfl rfl ?_
  refine T_aload_n 0 dX12_passAll_73 rfl rfl ?_
  refine T_getR 0 FOk_12 h0 (by decide) (by decide) dX12_passAll_74 tb_713 ?_
  refine T_bipush (v := (10 : Int32)) (by decide) dX12_passAll_77 ?_
  refine T_callVU md_X12_passRow [.ref (rf i0 0), .int (10 : Int32)] [] dX12_passAll_79 h0 rfl rfl ok_X12_passRow tb_1082 tb_1084 tb_42 (by decide) (Nat.le_of_ble_eq_true rfl) (fun _ _ h9 => C_X12_passRow h0 (kf_12_0 h0) _ h9) (fun r13 M13 => ?_)
  dsimp only
  refine T_aload_n 0 dX12_passAll_82 rfl rfl ?_
  refine T_aload_n 0 dX12_passAll_83 rfl rfl ?_
  refine T_getR 1 FOk_12 h0 (by decide) (by decide) dX12_passAll_84 tb_714 ?_
  refine T_bipush (v := (10 : Int32)) (by decide) dX12_passAll_87 ?_
  refine T_callVU md_X12_passRow [.ref (rf i0 1), .int (10 : Int32)] [] dX12_passAll_89 h0 rfl rfl ok_X12_passRow tb_1082 tb_1084 tb_42 (by decide) (Nat.le_of_ble_eq_true rfl) (fun _ _ h9 => C_X12_passRow h0 (kf_12_1 h0) _ h9) (fun r14 M14 => ?_)
  dsimp only
  refine T_aload_n 0 dX12_passAll_92 rfl rfl ?_
  refine T_aload_n 0 dX12_passAll_93 rfl rfl ?_
  refine T_getR 2 FOk_12 h0 (by decide) (by decide) dX12_passAll_94 tb_715 ?_
  refine T_bipush (v := (10 : Int32)) (by decide) dX12_passAll_97 ?_
  refine T_callVU md_X12_passRow [.ref (rf i0 2), .int (10 : Int32)] [] dX12_passAll_99 h0 rfl rfl ok_X12_passRow tb_1082 tb_1084 tb_42 (by decide) (Nat.le_of_ble_eq_true rfl) (fun _ _ h9 => C_X12_passRow h0 (kf_12_2 h0) _ h9) (fun r15 M15 => ?_)
  dsimp only
  refine T_aload_n 0 dX12_passAll_102 rfl rfl ?_
  refine T_aload_n 0 dX12_passAll_103 rfl rfl ?_
  refine T_getR 8 FOk_12 h0 (by decide) (by decide) dX12_passAll_104 tb_721 ?_
  refine T_bipush (v := (8 : Int32)) (by decide) dX12_passAll_107 ?_
  refine T_callVU md_X12_passRow [.ref (rf i0 8), .int (8 : Int32)] [] dX12_passAll_109 h0 rfl rfl ok_X12_passRow tb_1082 tb_1084 tb_42 (by decide) (Nat.le_of_ble_eq_true rfl) (fun _ _ h9 => C_X12_passRow h0 (kf_12_8 h0) _ h9) (fun r16 M16 => ?_)
  dsimp only
  refine T_aload_n 0 dX12_passAll_112 rfl rfl ?_
  refine T_aload_n 0 dX12_passAll_113 rfl rfl ?_
  refine T_getR 9 FOk_12 h0 (by decide) (by decide) dX12_passAll_114 tb_722 ?_
  refine T_bipush (v := (8 : Int32)) (by decide) dX12_passAll_117 ?_
  refine T_callVU md_X12_passRow [.ref (rf i0 9), .int (8 : Int32)] [] dX12_passAll_119 h0 rfl rfl ok_X12_passRow tb_1082 tb_1084 tb_42 (by decide) (Nat.le_of_ble_eq_true rfl) (fun _ _ h9 => C_X12_passRow h0 (kf_12_9 h0) _ h9) (fun r17 M17 => ?_)
  dsimp only
  exact T_vret dX12_passAll_122 rfl
theorem C_X12_passAll {X : Scr} {i0 : Nat} (h0 : KD[i0]? = some (.inl 12))  {M : Mem} {r : Unit} {M' : Mem} (h : X12_passAll i0  M = some (r, M')) : Ct X md_X12_passAll [.ref i0] M (eV r) M' := Ct_of (by decide +kernel) (Nat.le_of_ble_eq_true rfl) (t_X12_passAll h0  M) r M' h
-- X12_image
def X12_image (i0 : Nat)  (x1 : Int32) (M : Mem) : Option (Int32 × Mem) :=
  (X12_in  x1.toInt64 (0 : Int64) (1 : Int64) M).bind (fun p1 =>
    if p1.1 = 0 then
      some ((-2 : Int32), p1.2)
    else
      mw (mI p1.2 i0 29 ((60 : Int32) * x1)) (fun N2 =>
        mw (mI N2 i0 30 (1 : Int32)) (fun N3 =>
          (X12_passAll i0  N3).bind (fun p4 =>
            gd (ib x1 2) (
              mw (mI p4.2 (rf i0 28) x1.toNatClampNeg (vp_nar .boolean (1 : Int32))) (fun N5 =>
                some ((1 : Int32), N5)))))))
set_option maxHeartbeats 4000000 in
set_option maxRecDepth 100000 in
theorem t_X12_image {X : Scr} {i0 : Nat} (h0 : KD[i0]? = some (.inl 12)) (x1 : Int32) (M : Mem) : T X eI (X12_image i0  x1 M) md_X12_image 0 [(0, .ref i0), (1, .int x1)] [] M := by
  unfold X12_image
  refine T_iload_n 1 dX12_image_0 rfl rfl ?_
  refine T_i2l dX12_image_1 ?_
  refine T_lconst (v := (0 : Int64)) (by decide) dX12_image_2 ?_
  refine T_lconst (v := (1 : Int64)) (by decide) dX12_image_3 ?_
  refine T_callSI md_X12_in [.long x1.toInt64, .long (0 : Int64), .long (1 : Int64)] [] dX12_image_4 rfl ok_X12_in tb_816 tb_817 (by decide) (Nat.le_of_ble_eq_true rfl) (fun _ _ h9 => C_X12_in  _ _ _ h9) (fun r1 M1 => ?_)
  dsimp only
  refine T_if_ne 13 dX12_image_7 (by decide) ?_ ?_
  ·
    refine T_bipush (v := (-2 : Int32)) (by decide) dX12_image_10 ?_
    exact T_iret dX12_image_12 rfl
  ·
    refine T_aload_n 0 dX12_image_13 rfl rfl ?_
    refine T_bipush (v := (60 : Int32)) (by decide) dX12_image_14 ?_
    refine T_iload_n 1 dX12_image_16 rfl rfl ?_
    refine T_imul dX12_image_17 ?_
    refine T_putI (ty := .int) 29 FOk_12 h0 (by decide) (by decide) rfl (by decide +kernel) rfl rfl dX12_image_18 tb_742 ?_
    refine T_mw (fun N2 => ?_)
    try dsimp only
    refine T_aload_n 0 dX12_image_21 rfl rfl ?_
    refine T_iconst (v := (1 : Int32)) (by decide) dX12_image_22 ?_
    refine T_putI (ty := .boolean) 30 FOk_12 h0 (by decide) (by decide) rfl (by decide +kernel) rfl rfl dX12_image_23 tb_743 ?_
    refine T_mw (fun N3 => ?_)
    try dsimp only
    refine T_aload_n 0 dX12_image_26 rfl rfl ?_
    refine T_callVU md_X12_passAll [] [] dX12_image_27 h0 rfl rfl ok_X12_passAll tb_1074 tb_1076 tb_40 (by decide) (Nat.le_of_ble_eq_true rfl) (fun _ _ h9 => C_X12_passAll h0  h9) (fun r4 M4 => ?_)
    dsimp only
    refine T_aload_n 0 dX12_image_30 rfl rfl ?_
    refine T_getR 28 FOk_12 h0 (by decide) (by decide) dX12_image_31 tb_741 ?_
    refine T_iload_n 1 dX12_image_34 rfl rfl ?_
    refine T_iconst (v := (1 : Int32)) (by decide) dX12_image_35 ?_
    refine T_zast (kf_12_28 h0) dX12_image_36 ?_
    refine T_mw (fun N5 => ?_)
    try dsimp only
    refine T_iconst (v := (1 : Int32)) (by decide) dX12_image_37 ?_
    exact T_iret dX12_image_38 rfl
theorem C_X12_image {X : Scr} {i0 : Nat} (h0 : KD[i0]? = some (.inl 12)) (x1 : Int32) {M : Mem} {r : Int32} {M' : Mem} (h : X12_image i0 x1 M = some (r, M')) : Ct X md_X12_image [.ref i0, .int x1] M (eI r) M' := Ct_of (by decide +kernel) (Nat.le_of_ble_eq_true rfl) (t_X12_image h0 _ M) r M' h
-- X12_restore
def X12_restore (i0 : Nat)  (x1 : Int32) (M : Mem) : Option (Int32 × Mem) :=
  (X12_in  x1.toInt64 (0 : Int64) (1 : Int64) M).bind (fun p1 =>
    if p1.1 = 0 then
      some ((-2 : Int32), p1.2)
    else
      gd (ib x1 2) (
        if (p1.2.1 (rf i0 28) x1.toNatClampNeg) = 0 then
          some ((-3 : Int32), p1.2)
        else
          (X12_passAll i0  (mI (mI p1.2 i0 29 ((60 : Int32) * x1)) i0 30 (0 : Int32))).bind (fun p2 =>
            some ((1 : Int32), p2.2))))
set_option maxHeartbeats 4000000 in
set_option maxRecDepth 100000 in
theorem t_X12_restore {X : Scr} {i0 : Nat} (h0 : KD[i0]? = some (.inl 12)) (x1 : Int32) (M : Mem) : T X eI (X12_restore i0  x1 M) md_X12_restore 0 [(0, .ref i0), (1, .int x1)] [] M := by
  unfold X12_restore
  refine T_iload_n 1 dX12_restore_0 rfl rfl ?_
  refine T_i2l dX12_restore_1 ?_
  refine T_lconst (v := (0 : Int64)) (by decide) dX12_restore_2 ?_
  refine T_lconst (v := (1 : Int64)) (by decide) dX12_restore_3 ?_
  refine T_callSI md_X12_in [.long x1.toInt64, .long (0 : Int64), .long (1 : Int64)] [] dX12_restore_4 rfl ok_X12_in tb_816 tb_817 (by decide) (Nat.le_of_ble_eq_true rfl) (fun _ _ h9 => C_X12_in  _ _ _ h9) (fun r1 M1 => ?_)
  dsimp only
  refine T_if_ne 13 dX12_restore_7 (by decide) ?_ ?_
  ·
    refine T_bipush (v := (-2 : Int32)) (by decide) dX12_restore_10 ?_
    exact T_iret dX12_restore_12 rfl
  ·
    refine T_aload_n 0 dX12_restore_13 rfl rfl ?_
    refine T_getR 28 FOk_12 h0 (by decide) (by decide) dX12_restore_14 tb_741 ?_
    refine T_iload_n 1 dX12_restore_17 rfl rfl ?_
    refine T_zald (kf_12_28 h0) dX12_restore_18 ?_
    refine T_if_ne 25 dX12_restore_19 (by decide) ?_ ?_
    ·
      refine T_bipush (v := (-3 : Int32)) (by decide) dX12_restore_22 ?_
      exact T_iret dX12_restore_24 rfl
    ·
      refine T_aload_n 0 dX12_restore_25 rfl rfl ?_
      refine T_bipush (v := (60 : Int32)) (by decide) dX12_restore_26 ?_
      refine T_iload_n 1 dX12_restore_28 rfl rfl ?_
      refine T_imul dX12_restore_29 ?_
      refine T_putI (ty := .int) 29 FOk_12 h0 (by decide) (by decide) rfl (by decide +kernel) rfl rfl dX12_restore_30 tb_742 ?_
      refine T_aload_n 0 dX12_restore_33 rfl rfl ?_
      refine T_iconst (v := (0 : Int32)) (by decide) dX12_restore_34 ?_
      refine T_putI (ty := .boolean) 30 FOk_12 h0 (by decide) (by decide) rfl (by decide +kernel) rfl rfl dX12_restore_35 tb_743 ?_
      refine T_aload_n 0 dX12_restore_38 rfl rfl ?_
      refine T_callVU md_X12_passAll [] [] dX12_restore_39 h0 rfl rfl ok_X12_passAll tb_1074 tb_1076 tb_40 (by decide) (Nat.le_of_ble_eq_true rfl) (fun _ _ h9 => C_X12_passAll h0  h9) (fun r2 M2 => ?_)
      dsimp only
      refine T_iconst (v := (1 : Int32)) (by decide) dX12_restore_42 ?_
      exact T_iret dX12_restore_43 rfl
theorem C_X12_restore {X : Scr} {i0 : Nat} (h0 : KD[i0]? = some (.inl 12)) (x1 : Int32) {M : Mem} {r : Int32} {M' : Mem} (h : X12_restore i0 x1 M = some (r, M')) : Ct X md_X12_restore [.ref i0, .int x1] M (eI r) M' := Ct_of (by decide +kernel) (Nat.le_of_ble_eq_true rfl) (t_X12_restore h0 _ M) r M' h
-- X12_told
def X12_told_b57 (i0 : Nat)  (s0 : Int32) (M : Mem) : Option (Int32 × Mem) :=
  some (s0, M)
def X12_told (i0 : Nat)  (x1 : Int32) (M : Mem) : Option (Int32 × Mem) :=
  (X12_in  x1.toInt64 (100 : Int64) (199 : Int64) M).bind (fun p1 =>
    if p1.1 = 0 then
      (X12_in  x1.toInt64 (10 : Int64) (19 : Int64) p1.2).bind (fun p2 =>
        if p2.1 = 0 then
          if x1 = (0 : Int32) then
            some ((p2.2.1 i0 12), p2.2)
          else if x1 = (1 : Int32) then
            some ((p2.2.1 i0 3), p2.2)
          else if x1 = (2 : Int32) then
            some ((p2.2.1 i0 4), p2.2)
          else if x1 = (3 : Int32) then
            some ((p2.2.1 i0 5), p2.2)
          else if x1 = (4 : Int32) then
            some ((p2.2.1 i0 6), p2.2)
          else if x1 = (5 : Int32) then
            some ((p2.2.1 i0 7), p2.2)
          else if x1 = (6 : Int32) then
            some ((p2.2.1 i0 10), p2.2)
          else 
            some ((-2 : Int32), p2.2)
        else
          gd (ib (x1 - (10 : Int32)) 10) (
            some ((p2.2.1 (rf i0 0) (x1 - (10 : Int32)).toNatClampNeg), p2.2)))
    else
      gd (!((10 : Int32) == 0)) (
        iw ((x1 - (100 : Int32)) / (10 : Int32)) (fun v4 =>
          gd (!((10 : Int32) == 0)) (
            if (x1 - x1 / (10 : Int32) * (10 : Int32)) = 0 then
              gd (ib v4 10) (
                X12_told_b57 i0  (p1.2.1 (rf i0 1) v4.toNatClampNeg) p1.2)
            else
              gd (!((10 : Int32) == 0)) (
                if (x1 - x1 / (10 : Int32) * (10 : Int32)) = (1 : Int32) then
                  gd (ib v4 10) (
                    X12_told_b57 i0  (p1.2.1 (rf i0 2) v4.toNatClampNeg) p1.2)
                else
                  X12_told_b57 i0  (-2 : Int32) p1.2)))))
set_option maxHeartbeats 4000000 in
set_option maxRecDepth 100000 in
theorem t_X12_told_b57 {X : Scr} {i0 : Nat} (h0 : KD[i0]? = some (.inl 12)) (s0 : Int32) (M : Mem) : T X eI (X12_told_b57 i0  s0 M) md_X12_told 57 [] [.int s0] M := by
  unfold X12_told_b57
  exact T_iret dX12_told_57 rfl
set_option maxHeartbeats 4000000 in
set_option maxRecDepth 100000 in
theorem t_X12_told {X : Scr} {i0 : Nat} (h0 : KD[i0]? = some (.inl 12)) (x1 : Int32) (M : Mem) : T X eI (X12_told i0  x1 M) md_X12_told 0 [(0, .ref i0), (1, .int x1)] [] M := by
  unfold X12_told
  refine T_iload_n 1 dX12_told_0 rfl rfl ?_
  refine T_i2l dX12_told_1 ?_
  refine T_ldc2 (v := (100 : Int64)) dX12_told_2 tb_1094 ?_
  refine T_ldc2 (v := (199 : Int64)) dX12_told_5 tb_1095 ?_
  refine T_callSI md_X12_in [.long x1.toInt64, .long (100 : Int64), .long (199 : Int64)] [] dX12_told_8 rfl ok_X12_in tb_816 tb_817 (by decide) (Nat.le_of_ble_eq_true rfl) (fun _ _ h9 => C_X12_in  _ _ _ h9) (fun r1 M1 => ?_)
  dsimp only
  refine T_if_eq 58 dX12_told_11 (by decide) ?_ ?_
  ·
    refine T_iload_n 1 dX12_told_58 rfl rfl ?_
    refine T_i2l dX12_told_59 ?_
    refine T_ldc2 (v := (10 : Int64)) dX12_told_60 tb_1055 ?_
    refine T_ldc2 (v := (19 : Int64)) dX12_told_63 tb_1096 ?_
    refine T_callSI md_X12_in [.long x1.toInt64, .long (10 : Int64), .long (19 : Int64)] [] dX12_told_66 rfl ok_X12_in tb_816 tb_817 (by decide) (Nat.le_of_ble_eq_true rfl) (fun _ _ h9 => C_X12_in  _ _ _ h9) (fun r2 M2 => ?_)
    dsimp only
    refine T_if_eq 82 dX12_told_69 (by decide) ?_ ?_
    ·
      refine T_iload_n 1 dX12_told_82 rfl rfl ?_
      refine T_ite (fun hx2_0 => ?_) (fun hx2_0 => ?_)
      ·
        refine T_tabIn (off := 41) 124 dX12_told_83 (by rw [hx2_0]; decide) (by rw [hx2_0]; decide) (by rw [hx2_0]; decide) (by decide) ?_
        refine T_aload_n 0 dX12_told_124 rfl rfl ?_
        refine T_getI 12 FOk_12 h0 (by decide) (by decide) dX12_told_125 tb_725 ?_
        exact T_iret dX12_told_128 rfl
      refine T_ite (fun hx2_1 => ?_) (fun hx2_1 => ?_)
      ·
        refine T_tabIn (off := 46) 129 dX12_told_83 (by rw [hx2_1]; decide) (by rw [hx2_1]; decide) (by rw [hx2_1]; decide) (by decide) ?_
        refine T_aload_n 0 dX12_told_129 rfl rfl ?_
        refine T_getI 3 FOk_12 h0 (by decide) (by decide) dX12_told_130 tb_716 ?_
        exact T_iret dX12_told_133 rfl
      refine T_ite (fun hx2_2 => ?_) (fun hx2_2 => ?_)
      ·
        refine T_tabIn (off := 51) 134 dX12_told_83 (by rw [hx2_2]; decide) (by rw [hx2_2]; decide) (by rw [hx2_2]; decide) (by decide) ?_
        refine T_aload_n 0 dX12_told_134 rfl rfl ?_
        refine T_getI 4 FOk_12 h0 (by decide) (by decide) dX12_told_135 tb_717 ?_
        exact T_iret dX12_told_138 rfl
      refine T_ite (fun hx2_3 => ?_) (fun hx2_3 => ?_)
      ·
        refine T_tabIn (off := 56) 139 dX12_told_83 (by rw [hx2_3]; decide) (by rw [hx2_3]; decide) (by rw [hx2_3]; decide) (by decide) ?_
        refine T_aload_n 0 dX12_told_139 rfl rfl ?_
        refine T_getI 5 FOk_12 h0 (by decide) (by decide) dX12_told_140 tb_718 ?_
        exact T_iret dX12_told_143 rfl
      refine T_ite (fun hx2_4 => ?_) (fun hx2_4 => ?_)
      ·
        refine T_tabIn (off := 61) 144 dX12_told_83 (by rw [hx2_4]; decide) (by rw [hx2_4]; decide) (by rw [hx2_4]; decide) (by decide) ?_
        refine T_aload_n 0 dX12_told_144 rfl rfl ?_
        refine T_getI 6 FOk_12 h0 (by decide) (by decide) dX12_told_145 tb_719 ?_
        exact T_iret dX12_told_148 rfl
      refine T_ite (fun hx2_5 => ?_) (fun hx2_5 => ?_)
      ·
        refine T_tabIn (off := 66) 149 dX12_told_83 (by rw [hx2_5]; decide) (by rw [hx2_5]; decide) (by rw [hx2_5]; decide) (by decide) ?_
        refine T_aload_n 0 dX12_told_149 rfl rfl ?_
        refine T_getI 7 FOk_12 h0 (by decide) (by decide) dX12_told_150 tb_720 ?_
        exact T_iret dX12_told_153 rfl
      refine T_ite (fun hx2_6 => ?_) (fun hx2_6 => ?_)
      ·
        refine T_tabIn (off := 71) 154 dX12_told_83 (by rw [hx2_6]; decide) (by rw [hx2_6]; decide) (by rw [hx2_6]; decide) (by decide) ?_
        refine T_aload_n 0 dX12_told_154 rfl rfl ?_
        refine T_getI 10 FOk_12 h0 (by decide) (by decide) dX12_told_155 tb_723 ?_
        exact T_iret dX12_told_158 rfl
      refine T_tabOut 159 dX12_told_83 (tab_out (n := 7) (by decide) (lt_s (lt_s (lt_s (lt_s (lt_s (lt_s (lt_s lt_0 (lv_neT hx2_0 (by decide))) (lv_neT hx2_1 (by decide))) (lv_neT hx2_2 (by decide))) (lv_neT hx2_3 (by decide))) (lv_neT hx2_4 (by decide))) (lv_neT hx2_5 (by decide))) (lv_neT hx2_6 (by decide)))) (by decide) ?_
      refine T_bipush (v := (-2 : Int32)) (by decide) dX12_told_159 ?_
      exact T_iret dX12_told_161 rfl
    ·
      refine T_aload_n 0 dX12_told_72 rfl rfl ?_
      refine T_getR 0 FOk_12 h0 (by decide) (by decide) dX12_told_73 tb_713 ?_
      refine T_iload_n 1 dX12_told_76 rfl rfl ?_
      refine T_bipush (v := (10 : Int32)) (by decide) dX12_told_77 ?_
      refine T_isub dX12_told_79 ?_
      refine T_iald (kf_12_0 h0) dX12_told_80 ?_
      exact T_iret dX12_told_81 rfl
  ·
    refine T_iload_n 1 dX12_told_14 rfl rfl ?_
    refine T_bipush (v := (100 : Int32)) (by decide) dX12_told_15 ?_
    refine T_isub dX12_told_17 ?_
    refine T_bipush (v := (10 : Int32)) (by decide) dX12_told_18 ?_
    refine T_idiv dX12_told_20 ?_
    refine T_iw (fun v4 => ?_)
    try dsimp only
    refine T_istore_n [(2, .int v4), (0, .ref i0), (1, .int x1)] dX12_told_21 rfl (by decide) rfl ?_
    refine T_iload_n 2 dX12_told_22 rfl rfl ?_
    refine T_bipush (v := (10 : Int32)) (by decide) dX12_told_23 ?_
    refine T_irem dX12_told_25 ?_
    refine T_if_ne 38 dX12_told_26 (by decide) ?_ ?_
    ·
      refine T_aload_n 1 dX12_told_29 rfl rfl ?_
      refine T_getR 1 FOk_12 h0 (by decide) (by decide) dX12_told_30 tb_714 ?_
      refine T_iload_n 0 dX12_told_33 rfl rfl ?_
      refine T_iald (kf_12_1 h0) dX12_told_34 ?_
      refine T_goto 57 dX12_told_35 (by decide) ?_
      refine T_sub [] (lv' := []) rfl ?_
      exact t_X12_told_b57 h0  _ _
    ·
      refine T_iload_n 2 dX12_told_38 rfl rfl ?_
      refine T_bipush (v := (10 : Int32)) (by decide) dX12_told_39 ?_
      refine T_irem dX12_told_41 ?_
      refine T_iconst (v := (1 : Int32)) (by decide) dX12_told_42 ?_
      refine T_icmp_ne 55 dX12_told_43 (by decide) ?_ ?_
      ·
        refine T_aload_n 1 dX12_told_46 rfl rfl ?_
        refine T_getR 2 FOk_12 h0 (by decide) (by decide) dX12_told_47 tb_715 ?_
        refine T_iload_n 0 dX12_told_50 rfl rfl ?_
        refine T_iald (kf_12_2 h0) dX12_told_51 ?_
        refine T_goto 57 dX12_told_52 (by decide) ?_
        refine T_sub [] (lv' := []) rfl ?_
        exact t_X12_told_b57 h0  _ _
      ·
        refine T_bipush (v := (-2 : Int32)) (by decide) dX12_told_55 ?_
        refine T_sub [] (lv' := []) rfl ?_
        exact t_X12_told_b57 h0  _ _
theorem C_X12_told {X : Scr} {i0 : Nat} (h0 : KD[i0]? = some (.inl 12)) (x1 : Int32) {M : Mem} {r : Int32} {M' : Mem} (h : X12_told i0 x1 M = some (r, M')) : Ct X md_X12_told [.ref i0, .int x1] M (eI r) M' := Ct_of (by decide +kernel) (Nat.le_of_ble_eq_true rfl) (t_X12_told h0 _ M) r M' h
