-- X12_clock
def X12_clock_b24 (i0 : Nat)   (M : Mem) : Option (Int32 × Mem) :=
  some ((-2 : Int32), M)
def X12_clock (i0 : Nat)  (x1 : Int32) (x2 : Int32) (M : Mem) : Option (Int32 × Mem) :=
  (X12_in  x1.toInt64 (0 : Int64) (99 : Int64) M).bind (fun p1 =>
    if p1.1 = 0 then
      X12_clock_b24 i0   p1.2
    else
      (X12_in  x2.toInt64 (0 : Int64) (99 : Int64) p1.2).bind (fun p2 =>
        if p2.1 = 0 then
          X12_clock_b24 i0   p2.2
        else
          iw (((100 : Int32) * (p2.2.1 i0 6)) + (p2.2.1 i0 7)) (fun v3 =>
            some (v3, (mI (mI p2.2 i0 6 x1) i0 7 x2)))))
set_option maxHeartbeats 4000000 in
set_option maxRecDepth 100000 in
theorem t_X12_clock_b24 {X : Scr} {i0 : Nat} (h0 : KD[i0]? = some (.inl 12))  (M : Mem) : T X eI (X12_clock_b24 i0   M) md_X12_clock 24 [] [] M := by
  unfold X12_clock_b24
  refine T_bipush (v := (-2 : Int32)) (by decide) dX12_clock_24 ?_
  exact T_iret dX12_clock_26 rfl
set_option maxHeartbeats 4000000 in
set_option maxRecDepth 100000 in
theorem t_X12_clock {X : Scr} {i0 : Nat} (h0 : KD[i0]? = some (.inl 12)) (x1 : Int32) (x2 : Int32) (M : Mem) : T X eI (X12_clock i0  x1 x2 M) md_X12_clock 0 [(0, .ref i0), (1, .int x1), (2, .int x2)] [] M := by
  unfold X12_clock
  refine T_iload_n 1 dX12_clock_0 rfl rfl ?_
  refine T_i2l dX12_clock_1 ?_
  refine T_lconst (v := (0 : Int64)) (by decide) dX12_clock_2 ?_
  refine T_ldc2 (v := (99 : Int64)) dX12_clock_3 tb_832 ?_
  refine T_callSI md_X12_in [.long x1.toInt64, .long (0 : Int64), .long (99 : Int64)] [] dX12_clock_6 rfl ok_X12_in tb_816 tb_817 (by decide) (Nat.le_of_ble_eq_true rfl) (fun _ _ h9 => C_X12_in  _ _ _ h9) (fun r1 M1 => ?_)
  dsimp only
  refine T_if_eq 24 dX12_clock_9 (by decide) ?_ ?_
  ·
    refine T_sub [] (lv' := []) rfl ?_
    exact t_X12_clock_b24 h0   _
  ·
    refine T_iload_n 2 dX12_clock_12 rfl rfl ?_
    refine T_i2l dX12_clock_13 ?_
    refine T_lconst (v := (0 : Int64)) (by decide) dX12_clock_14 ?_
    refine T_ldc2 (v := (99 : Int64)) dX12_clock_15 tb_832 ?_
    refine T_callSI md_X12_in [.long x2.toInt64, .long (0 : Int64), .long (99 : Int64)] [] dX12_clock_18 rfl ok_X12_in tb_816 tb_817 (by decide) (Nat.le_of_ble_eq_true rfl) (fun _ _ h9 => C_X12_in  _ _ _ h9) (fun r2 M2 => ?_)
    dsimp only
    refine T_if_ne 27 dX12_clock_21 (by decide) ?_ ?_
    ·
      refine T_sub [] (lv' := []) rfl ?_
      exact t_X12_clock_b24 h0   _
    ·
      refine T_bipush (v := (100 : Int32)) (by decide) dX12_clock_27 ?_
      refine T_aload_n 0 dX12_clock_29 rfl rfl ?_
      refine T_getI 6 FOk_12 h0 (by decide) (by decide) dX12_clock_30 tb_719 ?_
      refine T_imul dX12_clock_33 ?_
      refine T_aload_n 0 dX12_clock_34 rfl rfl ?_
      refine T_getI 7 FOk_12 h0 (by decide) (by decide) dX12_clock_35 tb_720 ?_
      refine T_iadd dX12_clock_38 ?_
      refine T_iw (fun v3 => ?_)
      try dsimp only
      refine T_istore_n [(3, .int v3), (0, .ref i0), (1, .int x1), (2, .int x2)] dX12_clock_39 rfl (by decide) rfl ?_
      refine T_aload_n 1 dX12_clock_40 rfl rfl ?_
      refine T_iload_n 2 dX12_clock_41 rfl rfl ?_
      refine T_putI (ty := .int) 6 FOk_12 h0 (by decide) (by decide) rfl (by decide +kernel) rfl rfl dX12_clock_42 tb_719 ?_
      refine T_aload_n 1 dX12_clock_45 rfl rfl ?_
      refine T_iload_n 3 dX12_clock_46 rfl rfl ?_
      refine T_putI (ty := .int) 7 FOk_12 h0 (by decide) (by decide) rfl (by decide +kernel) rfl rfl dX12_clock_47 tb_720 ?_
      refine T_iload_n 0 dX12_clock_50 rfl rfl ?_
      exact T_iret dX12_clock_51 rfl
theorem C_X12_clock {X : Scr} {i0 : Nat} (h0 : KD[i0]? = some (.inl 12)) (x1 : Int32) (x2 : Int32) {M : Mem} {r : Int32} {M' : Mem} (h : X12_clock i0 x1 x2 M = some (r, M')) : Ct X md_X12_clock [.ref i0, .int x1, .int x2] M (eI r) M' := Ct_of (by decide +kernel) (Nat.le_of_ble_eq_true rfl) (t_X12_clock h0 _ _ M) r M' h
-- X12_attendant
def X12_attendant_b33 (i0 : Nat)   (M : Mem) : Option (Int32 × Mem) :=
  some ((-2 : Int32), M)
def X12_attendant (i0 : Nat)  (x1 : Int32) (x2 : Int32) (x3 : Int32) (M : Mem) : Option (Int32 × Mem) :=
  (X12_isCabin  x1 M).bind (fun p1 =>
    if p1.1 = 0 then
      some ((-1 : Int32), p1.2)
    else
      (X12_in  x2.toInt64 (0 : Int64) (255 : Int64) p1.2).bind (fun p2 =>
        if p2.1 = 0 then
          X12_attendant_b33 i0   p2.2
        else
          (X12_in  x3.toInt64 (0 : Int64) (255 : Int64) p2.2).bind (fun p3 =>
            if p3.1 = 0 then
              X12_attendant_b33 i0   p3.2
            else
              mw (mI p3.2 i0 3 x1) (fun N4 =>
                mw (mI N4 i0 4 x2) (fun N5 =>
                  mw (mI N5 i0 5 x3) (fun N6 =>
                    some ((p3.2.1 i0 3), N6)))))))
set_option maxHeartbeats 4000000 in
set_option maxRecDepth 100000 in
theorem t_X12_attendant_b33 {X : Scr} {i0 : Nat} (h0 : KD[i0]? = some (.inl 12))  (M : Mem) : T X eI (X12_attendant_b33 i0   M) md_X12_attendant 33 [] [] M := by
  unfold X12_attendant_b33
  refine T_bipush (v := (-2 : Int32)) (by decide) dX12_attendant_33 ?_
  exact T_iret dX12_attendant_35 rfl
set_option maxHeartbeats 4000000 in
set_option maxRecDepth 100000 in
theorem t_X12_attendant {X : Scr} {i0 : Nat} (h0 : KD[i0]? = some (.inl 12)) (x1 : Int32) (x2 : Int32) (x3 : Int32) (M : Mem) : T X eI (X12_attendant i0  x1 x2 x3 M) md_X12_attendant 0 [(0, .ref i0), (1, .int x1), (2, .int x2), (3, .int x3)] [] M := by
  unfold X12_attendant
  refine T_iload_n 1 dX12_attendant_0 rfl rfl ?_
  refine T_callSI md_X12_isCabin [.int x1] [] dX12_attendant_1 rfl ok_X12_isCabin tb_812 tb_813 (by decide) (Nat.le_of_ble_eq_true rfl) (fun _ _ h9 => C_X12_isCabin  _ h9) (fun r1 M1 => ?_)
  dsimp only
  refine T_if_ne 9 dX12_attendant_4 (by decide) ?_ ?_
  ·
    refine T_iconst (v := (-1 : Int32)) (by decide) dX12_attendant_7 ?_
    exact T_iret dX12_attendant_8 rfl
  ·
    refine T_iload_n 2 dX12_attendant_9 rfl rfl ?_
    refine T_i2l dX12_attendant_10 ?_
    refine T_lconst (v := (0 : Int64)) (by decide) dX12_attendant_11 ?_
    refine T_ldc2 (v := (255 : Int64)) dX12_attendant_12 tb_819 ?_
    refine T_callSI md_X12_in [.long x2.toInt64, .long (0 : Int64), .long (255 : Int64)] [] dX12_attendant_15 rfl ok_X12_in tb_816 tb_817 (by decide) (Nat.le_of_ble_eq_true rfl) (fun _ _ h9 => C_X12_in  _ _ _ h9) (fun r2 M2 => ?_)
    dsimp only
    refine T_if_eq 33 dX12_attendant_18 (by decide) ?_ ?_
    ·
      refine T_sub [] (lv' := []) rfl ?_
      exact t_X12_attendant_b33 h0   _
    ·
      refine T_iload_n 3 dX12_attendant_21 rfl rfl ?_
      refine T_i2l dX12_attendant_22 ?_
      refine T_lconst (v := (0 : Int64)) (by decide) dX12_attendant_23 ?_
      refine T_ldc2 (v := (255 : Int64)) dX12_attendant_24 tb_819 ?_
      refine T_callSI md_X12_in [.long x3.toInt64, .long (0 : Int64), .long (255 : Int64)] [] dX12_attendant_27 rfl ok_X12_in tb_816 tb_817 (by decide) (Nat.le_of_ble_eq_true rfl) (fun _ _ h9 => C_X12_in  _ _ _ h9) (fun r3 M3 => ?_)
      dsimp only
      refine T_if_ne 36 dX12_attendant_30 (by decide) ?_ ?_
      ·
        refine T_sub [] (lv' := []) rfl ?_
        exact t_X12_attendant_b33 h0   _
      ·
        refine T_aload_n 0 dX12_attendant_36 rfl rfl ?_
        refine T_getI 3 FOk_12 h0 (by decide) (by decide) dX12_attendant_37 tb_716 ?_
        refine T_istore [(4, .int (M3.1 i0 3)), (0, .ref i0), (1, .int x1), (2, .int x2), (3, .int x3)] dX12_attendant_40 (by decide) rfl ?_
        refine T_aload_n 1 dX12_attendant_42 rfl rfl ?_
        refine T_iload_n 2 dX12_attendant_43 rfl rfl ?_
        refine T_putI (ty := .int) 3 FOk_12 h0 (by decide) (by decide) rfl (by decide +kernel) rfl rfl dX12_attendant_44 tb_716 ?_
        refine T_mw (fun N4 => ?_)
        try dsimp only
        refine T_aload_n 1 dX12_attendant_47 rfl rfl ?_
        refine T_iload_n 3 dX12_attendant_48 rfl rfl ?_
        refine T_putI (ty := .int) 4 FOk_12 h0 (by decide) (by decide) rfl (by decide +kernel) rfl rfl dX12_attendant_49 tb_717 ?_
        refine T_mw (fun N5 => ?_)
        try dsimp only
        refine T_aload_n 1 dX12_attendant_52 rfl rfl ?_
        refine T_iload_n 4 dX12_attendant_53 rfl rfl ?_
        refine T_putI (ty := .int) 5 FOk_12 h0 (by decide) (by decide) rfl (by decide +kernel) rfl rfl dX12_attendant_54 tb_718 ?_
        refine T_mw (fun N6 => ?_)
        try dsimp only
        refine T_iload 0 dX12_attendant_57 rfl ?_
        exact T_iret dX12_attendant_59 rfl
theorem C_X12_attendant {X : Scr} {i0 : Nat} (h0 : KD[i0]? = some (.inl 12)) (x1 : Int32) (x2 : Int32) (x3 : Int32) {M : Mem} {r : Int32} {M' : Mem} (h : X12_attendant i0 x1 x2 x3 M = some (r, M')) : Ct X md_X12_attendant [.ref i0, .int x1, .int x2, .int x3] M (eI r) M' := Ct_of (by decide +kernel) (Nat.le_of_ble_eq_true rfl) (t_X12_attendant h0 _ _ _ M) r M' h
-- X12_say
def X12_say (i0 : Nat)  (x1 : Int32) (M : Mem) : Option (Int32 × Mem) :=
  (X12_in  x1.toInt64 (33 : Int64) (126 : Int64) M).bind (fun p1 =>
    if p1.1 = 0 then
      some ((-2 : Int32), p1.2)
    else
      if (p1.2.1 i0 12) = (60 : Int32) then
        some ((-4 : Int32), p1.2)
      else
        gd (ib (p1.2.1 i0 12) 60) (
          some (((mI (mI p1.2 (rf i0 11) (p1.2.1 i0 12).toNatClampNeg x1) i0 12 (((mI p1.2 (rf i0 11) (p1.2.1 i0 12).toNatClampNeg x1).1 i0 12) + (1 : Int32))).1 i0 12), (mI (mI p1.2 (rf i0 11) (p1.2.1 i0 12).toNatClampNeg x1) i0 12 (((mI p1.2 (rf i0 11) (p1.2.1 i0 12).toNatClampNeg x1).1 i0 12) + (1 : Int32))))))
set_option maxHeartbeats 4000000 in
set_option maxRecDepth 100000 in
theorem t_X12_say {X : Scr} {i0 : Nat} (h0 : KD[i0]? = some (.inl 12)) (x1 : Int32) (M : Mem) : T X eI (X12_say i0  x1 M) md_X12_say 0 [(0, .ref i0), (1, .int x1)] [] M := by
  unfold X12_say
  refine T_iload_n 1 dX12_say_0 rfl rfl ?_
  refine T_i2l dX12_say_1 ?_
  refine T_ldc2 (v := (33 : Int64)) dX12_say_2 tb_841 ?_
  refine T_ldc2 (v := (126 : Int64)) dX12_say_5 tb_842 ?_
  refine T_callSI md_X12_in [.long x1.toInt64, .long (33 : Int64), .long (126 : Int64)] [] dX12_say_8 rfl ok_X12_in tb_816 tb_817 (by decide) (Nat.le_of_ble_eq_true rfl) (fun _ _ h9 => C_X12_in  _ _ _ h9) (fun r1 M1 => ?_)
  dsimp only
  refine T_if_ne 17 dX12_say_11 (by decide) ?_ ?_
  ·
    refine T_bipush (v := (-2 : Int32)) (by decide) dX12_say_14 ?_
    exact T_iret dX12_say_16 rfl
  ·
    refine T_aload_n 0 dX12_say_17 rfl rfl ?_
    refine T_getI 12 FOk_12 h0 (by decide) (by decide) dX12_say_18 tb_725 ?_
    refine T_bipush (v := (60 : Int32)) (by decide) dX12_say_21 ?_
    refine T_icmp_ne 29 dX12_say_23 (by decide) ?_ ?_
    ·
      refine T_bipush (v := (-4 : Int32)) (by decide) dX12_say_26 ?_
      exact T_iret dX12_say_28 rfl
    ·
      refine T_aload_n 0 dX12_say_29 rfl rfl ?_
      refine T_getR 11 FOk_12 h0 (by decide) (by decide) dX12_say_30 tb_724 ?_
      refine T_aload_n 0 dX12_say_33 rfl rfl ?_
      refine T_getI 12 FOk_12 h0 (by decide) (by decide) dX12_say_34 tb_725 ?_
      refine T_iload_n 1 dX12_say_37 rfl rfl ?_
      refine T_iast (kf_12_11 h0) dX12_say_38 ?_
      refine T_aload_n 0 dX12_say_39 rfl rfl ?_
      refine T_dup rfl dX12_say_40 ?_
      refine T_getI 12 FOk_12 h0 (by decide) (by decide) dX12_say_41 tb_725 ?_
      refine T_iconst (v := (1 : Int32)) (by decide) dX12_say_44 ?_
      refine T_iadd dX12_say_45 ?_
      refine T_putI (ty := .int) 12 FOk_12 h0 (by decide) (by decide) rfl (by decide +kernel) rfl rfl dX12_say_46 tb_725 ?_
      refine T_aload_n 0 dX12_say_49 rfl rfl ?_
      refine T_getI 12 FOk_12 h0 (by decide) (by decide) dX12_say_50 tb_725 ?_
      exact T_iret dX12_say_53 rfl
theorem C_X12_say {X : Scr} {i0 : Nat} (h0 : KD[i0]? = some (.inl 12)) (x1 : Int32) {M : Mem} {r : Int32} {M' : Mem} (h : X12_say i0 x1 M = some (r, M')) : Ct X md_X12_say [.ref i0, .int x1] M (eI r) M' := Ct_of (by decide +kernel) (Nat.le_of_ble_eq_true rfl) (t_X12_say h0 _ M) r M' h
-- X12_wipe
def X12_wipe (i0 : Nat)   (M : Mem) : Option (Int32 × Mem) :=
  some ((M.1 i0 12), (mI M i0 12 (0 : Int32)))
set_option maxHeartbeats 4000000 in
set_option maxRecDepth 100000 in
theorem t_X12_wipe {X : Scr} {i0 : Nat} (h0 : KD[i0]? = some (.inl 12))  (M : Mem) : T X eI (X12_wipe i0   M) md_X12_wipe 0 [(0, .ref i0)] [] M := by
  unfold X12_wipe
  refine T_aload_n 0 dX12_wipe_0 rfl rfl ?_
  refine T_getI 12 FOk_12 h0 (by decide) (by decide) dX12_wipe_1 tb_725 ?_
  refine T_istore_n [(1, .int (M.1 i0 12)), (0, .ref i0)] dX12_wipe_4 rfl (by decide) rfl ?_
  refine T_aload_n 1 dX12_wipe_5 rfl rfl ?_
  refine T_iconst (v := (0 : Int32)) (by decide) dX12_wipe_6 ?_
  refine T_putI (ty := .int) 12 FOk_12 h0 (by decide) (by decide) rfl (by decide +kernel) rfl rfl dX12_wipe_7 tb_725 ?_
  refine T_iload_n 0 dX12_wipe_10 rfl rfl ?_
  exact T_iret dX12_wipe_11 rfl
theorem C_X12_wipe {X : Scr} {i0 : Nat} (h0 : KD[i0]? = some (.inl 12))  {M : Mem} {r : Int32} {M' : Mem} (h : X12_wipe i0  M = some (r, M')) : Ct X md_X12_wipe [.ref i0] M (eI r) M' := Ct_of (by decide +kernel) (Nat.le_of_ble_eq_true rfl) (t_X12_wipe h0  M) r M' h
-- X12_close
def X12_close (i0 : Nat)  (x1 : Int32) (x2 : Int32) (M : Mem) : Option (Int32 × Mem) :=
  gd (ib (M.1 i0 15) 60) (
    mw (mI M (rf i0 13) (M.1 i0 15).toNatClampNeg x1) (fun N1 =>
      gd (ib (N1.1 i0 15) 60) (
        mw (mI N1 (rf i0 14) (N1.1 i0 15).toNatClampNeg x2) (fun N2 =>
          mw (mI N2 i0 15 ((N2.1 i0 15) + (1 : Int32))) (fun N3 =>
            some ((0 : Int32), N3))))))
set_option maxHeartbeats 4000000 in
set_option maxRecDepth 100000 in
theorem t_X12_close {X : Scr} {i0 : Nat} (h0 : KD[i0]? = some (.inl 12)) (x1 : Int32) (x2 : Int32) (M : Mem) : T X eI (X12_close i0  x1 x2 M) md_X12_close 0 [(0, .ref i0), (1, .int x1), (2, .int x2)] [] M := by
  unfold X12_close
  refine T_aload_n 0 dX12_close_0 rfl rfl ?_
  refine T_getR 13 FOk_12 h0 (by decide) (by decide) dX12_close_1 tb_726 ?_
  refine T_aload_n 0 dX12_close_4 rfl rfl ?_
  refine T_getI 15 FOk_12 h0 (by decide) (by decide) dX12_close_5 tb_728 ?_
  refine T_iload_n 1 dX12_close_8 rfl rfl ?_
  refine T_iast (kf_12_13 h0) dX12_close_9 ?_
  refine T_mw (fun N1 => ?_)
  try dsimp only
  refine T_aload_n 0 dX12_close_10 rfl rfl ?_
  refine T_getR 14 FOk_12 h0 (by decide) (by decide) dX12_close_11 tb_727 ?_
  refine T_aload_n 0 dX12_close_14 rfl rfl ?_
  refine T_getI 15 FOk_12 h0 (by decide) (by decide) dX12_close_15 tb_728 ?_
  refine T_iload_n 2 dX12_close_18 rfl rfl ?_
  refine T_iast (kf_12_14 h0) dX12_close_19 ?_
  refine T_mw (fun N2 => ?_)
  try dsimp only
  refine T_aload_n 0 dX12_close_20 rfl rfl ?_
  refine T_dup rfl dX12_close_21 ?_
  refine T_getI 15 FOk_12 h0 (by decide) (by decide) dX12_close_22 tb_728 ?_
  refine T_iconst (v := (1 : Int32)) (by decide) dX12_close_25 ?_
  refine T_iadd dX12_close_26 ?_
  refine T_putI (ty := .int) 15 FOk_12 h0 (by decide) (by decide) rfl (by decide +kernel) rfl rfl dX12_close_27 tb_728 ?_
  refine T_mw (fun N3 => ?_)
  try dsimp only
  refine T_iconst (v := (0 : Int32)) (by decide) dX12_close_30 ?_
  exact T_iret dX12_close_31 rfl
theorem C_X12_close {X : Scr} {i0 : Nat} (h0 : KD[i0]? = some (.inl 12)) (x1 : Int32) (x2 : Int32) {M : Mem} {r : Int32} {M' : Mem} (h : X12_close i0 x1 x2 M = some (r, M')) : Ct X md_X12_close [.ref i0, .int x1, .int x2] M (eI r) M' := Ct_of (by decide +kernel) (Nat.le_of_ble_eq_true rfl) (t_X12_close h0 _ _ M) r M' h
-- X12_isLetter
def X12_isLetter   (x0 : Int32) (M : Mem) : Option (Int32 × Mem) :=
  (X12_in  x0.toInt64 (65 : Int64) (74 : Int64) M).bind (fun p1 =>
    gd (p1.1 == 0 || p1.1 == 1) (some (p1.1, p1.2)))
set_option maxHeartbeats 4000000 in
set_option maxRecDepth 100000 in
theorem t_X12_isLetter {X : Scr}   (x0 : Int32) (M : Mem) : T X eI (X12_isLetter   x0 M) md_X12_isLetter 0 [(0, .int x0)] [] M := by
  unfold X12_isLetter
  refine T_iload_n 0 dX12_isLetter_0 rfl rfl ?_
  refine T_i2l dX12_isLetter_1 ?_
  refine T_ldc2 (v := (65 : Int64)) dX12_isLetter_2 tb_866 ?_
  refine T_ldc2 (v := (74 : Int64)) dX12_isLetter_5 tb_867 ?_
  refine T_callSI md_X12_in [.long x0.toInt64, .long (65 : Int64), .long (74 : Int64)] [] dX12_isLetter_8 rfl ok_X12_in tb_816 tb_817 (by decide) (Nat.le_of_ble_eq_true rfl) (fun _ _ h9 => C_X12_in  _ _ _ h9) (fun r1 M1 => ?_)
  dsimp only
  exact T_zret dX12_isLetter_11 rfl
theorem C_X12_isLetter {X : Scr}   (x0 : Int32) {M : Mem} {r : Int32} {M' : Mem} (h : X12_isLetter  x0 M = some (r, M')) : Ct X md_X12_isLetter [.int x0] M (eI r) M' := Ct_of (by decide +kernel) (Nat.le_of_ble_eq_true rfl) (t_X12_isLetter  _ M) r M' h
-- X12_begin
def X12_begin_b93 (i0 : Nat)  (s0 : Int32) (M : Mem) : Option (Int32 × Mem) :=
  some (s0, M)
def X12_begin (i0 : Nat)  (x1 : Int32) (M : Mem) : Option (Int32 × Mem) :=
  if x1 = (43 : Int32) then
    some ((1 : Int32), M)
  else if x1 = (45 : Int32) then
    some ((2 : Int32), M)
  else if x1 = (46 : Int32) then
    (X12_close i0 (5 : Int32) (0 : Int32) M).bind (fun p2 =>
      some (p2.1, p2.2))
  else if x1 = (61 : Int32) then
    some ((3 : Int32), M)
  else if x1 = (63 : Int32) then
    (X12_close i0 (1 : Int32) (0 : Int32) M).bind (fun p3 =>
      some (p3.1, p3.2))
  else 
    (X12_isLetter  x1 M).bind (fun p4 =>
      if p4.1 = 0 then
        X12_begin_b93 i0  (-6 : Int32) p4.2
      else
        (X12_close i0 (0 : Int32) (x1 - (65 : Int32)) p4.2).bind (fun p5 =>
          X12_begin_b93 i0  p5.1 p5.2))
set_option maxHeartbeats 4000000 in
set_option maxRecDepth 100000 in
theorem t_X12_begin_b93 {X : Scr} {i0 : Nat} (h0 : KD[i0]? = some (.inl 12)) (s0 : Int32) (M : Mem) : T X eI (X12_begin_b93 i0  s0 M) md_X12_begin 93 [] [.int s0] M := by
  unfold X12_begin_b93
  exact T_iret dX12_begin_93 rfl
set_option maxHeartbeats 4000000 in
set_option maxRecDepth 100000 in
theorem t_X12_begin {X : Scr} {i0 : Nat} (h0 : KD[i0]? = some (.inl 12)) (x1 : Int32) (M : Mem) : T X eI (X12_begin i0  x1 M) md_X12_begin 0 [(0, .ref i0), (1, .int x1)] [] M := by
  unfold X12_begin
  refine T_iload_n 1 dX12_begin_0 rfl rfl ?_
  refine T_ite (fun hx0_0 => ?_) (fun hx0_0 => ?_)
  ·
    refine T_look (off := 65) 66 dX12_begin_1 (by decide) (by rw [hx0_0]; decide) (by decide) ?_
    refine T_iconst (v := (1 : Int32)) (by decide) dX12_begin_66 ?_
    exact T_iret dX12_begin_67 rfl
  refine T_ite (fun hx0_1 => ?_) (fun hx0_1 => ?_)
  ·
    refine T_look (off := 67) 68 dX12_begin_1 (by decide) (by rw [hx0_1]; decide) (by decide) ?_
    refine T_iconst (v := (2 : Int32)) (by decide) dX12_begin_68 ?_
    exact T_iret dX12_begin_69 rfl
  refine T_ite (fun hx0_2 => ?_) (fun hx0_2 => ?_)
  ·
    refine T_look (off := 58) 59 dX12_begin_1 (by decide) (by rw [hx0_2]; decide) (by decide) ?_
    refine T_aload_n 0 dX12_begin_59 rfl rfl ?_
    refine T_iconst (v := (5 : Int32)) (by decide) dX12_begin_60 ?_
    refine T_iconst (v := (0 : Int32)) (by decide) dX12_begin_61 ?_
    refine T_callVI md_X12_close [.int (5 : Int32), .int (0 : Int32)] [] dX12_begin_62 h0 rfl rfl ok_X12_close tb_859 tb_861 tb_16 (by decide) (Nat.le_of_ble_eq_true rfl) (fun _ _ h9 => C_X12_close h0 _ _ h9) (fun r2 M2 => ?_)
    dsimp only
    exact T_iret dX12_begin_65 rfl
  refine T_ite (fun hx0_3 => ?_) (fun hx0_3 => ?_)
  ·
    refine T_look (off := 69) 70 dX12_begin_1 (by decide) (by rw [hx0_3]; decide) (by decide) ?_
    refine T_iconst (v := (3 : Int32)) (by decide) dX12_begin_70 ?_
    exact T_iret dX12_begin_71 rfl
  refine T_ite (fun hx0_4 => ?_) (fun hx0_4 => ?_)
  ·
    refine T_look (off := 51) 52 dX12_begin_1 (by decide) (by rw [hx0_4]; decide) (by decide) ?_
    refine T_aload_n 0 dX12_begin_52 rfl rfl ?_
    refine T_iconst (v := (1 : Int32)) (by decide) dX12_begin_53 ?_
    refine T_iconst (v := (0 : Int32)) (by decide) dX12_begin_54 ?_
    refine T_callVI md_X12_close [.int (1 : Int32), .int (0 : Int32)] [] dX12_begin_55 h0 rfl rfl ok_X12_close tb_859 tb_861 tb_16 (by decide) (Nat.le_of_ble_eq_true rfl) (fun _ _ h9 => C_X12_close h0 _ _ h9) (fun r3 M3 => ?_)
    dsimp only
    exact T_iret dX12_begin_58 rfl
  refine T_look (off := 71) 72 dX12_begin_1 (by decide) ((lv_osw hx0_0 (by decide)).trans ((lv_osw hx0_1 (by decide)).trans ((lv_osw hx0_2 (by decide)).trans ((lv_osw hx0_3 (by decide)).trans ((lv_osw hx0_4 (by decide)).trans (rfl)))))) (by decide) ?_
  refine T_iload_n 1 dX12_begin_72 rfl rfl ?_
  refine T_callSI md_X12_isLetter [.int x1] [] dX12_begin_73 rfl ok_X12_isLetter tb_863 tb_864 (by decide) (Nat.le_of_ble_eq_true rfl) (fun _ _ h9 => C_X12_isLetter  _ h9) (fun r4 M4 => ?_)
  dsimp only
  refine T_if_eq 91 dX12_begin_76 (by decide) ?_ ?_
  ·
    refine T_bipush (v := (-6 : Int32)) (by decide) dX12_begin_91 ?_
    refine T_sub [] (lv' := []) rfl ?_
    exact t_X12_begin_b93 h0  _ _
  ·
    refine T_aload_n 0 dX12_begin_79 rfl rfl ?_
    refine T_iconst (v := (0 : Int32)) (by decide) dX12_begin_80 ?_
    refine T_iload_n 1 dX12_begin_81 rfl rfl ?_
    refine T_bipush (v := (65 : Int32)) (by decide) dX12_begin_82 ?_
    refine T_isub dX12_begin_84 ?_
    refine T_callVI md_X12_close [.int (0 : Int32), .int (x1 - (65 : Int32))] [] dX12_begin_85 h0 rfl rfl ok_X12_close tb_859 tb_861 tb_16 (by decide) (Nat.le_of_ble_eq_true rfl) (fun _ _ h9 => C_X12_close h0 _ _ h9) (fun r5 M5 => ?_)
    dsimp only
    refine T_goto 93 dX12_begin_88 (by decide) ?_
    refine T_sub [] (lv' := []) rfl ?_
    exact t_X12_begin_b93 h0  _ _
theorem C_X12_begin {X : Scr} {i0 : Nat} (h0 : KD[i0]? = some (.inl 12)) (x1 : Int32) {M : Mem} {r : Int32} {M' : Mem} (h : X12_begin i0 x1 M = some (r, M')) : Ct X md_X12_begin [.ref i0, .int x1] M (eI r) M' := Ct_of (by decide +kernel) (Nat.le_of_ble_eq_true rfl) (t_X12_begin h0 _ M) r M' h
-- X12_readOn
def X12_readOn_b36 (i0 : Nat)  (s0 : Int32) (M : Mem) : Option (Int32 × Mem) :=
  some (s0, M)
def X12_readOn_b74 (i0 : Nat)  (s0 : Int32) (M : Mem) : Option (Int32 × Mem) :=
  some (s0, M)
def X12_readOn_b62 (i0 : Nat)  (x2 : Int32) (s0 : Int32) (M : Mem) : Option (Int32 × Mem) :=
  (X12_close i0 s0 (x2 - (48 : Int32)) M).bind (fun p1 =>
    X12_readOn_b74 i0  p1.1 p1.2)
def X12_readOn (i0 : Nat)  (x1 : Int32) (x2 : Int32) (M : Mem) : Option (Int32 × Mem) :=
  if x1 = 0 then
    (X12_begin i0 x2 M).bind (fun p1 =>
      some (p1.1, p1.2))
  else
    if x1 = (3 : Int32) then
      (X12_isLetter  x2 M).bind (fun p2 =>
        if p2.1 = 0 then
          X12_readOn_b36 i0  (-6 : Int32) p2.2
        else
          (X12_close i0 (4 : Int32) (x2 - (65 : Int32)) p2.2).bind (fun p3 =>
            X12_readOn_b36 i0  p3.1 p3.2))
    else
      (X12_in  x2.toInt64 (48 : Int64) (55 : Int64) M).bind (fun p4 =>
        if p4.1 = 0 then
          X12_readOn_b74 i0  (-6 : Int32) p4.2
        else
          if x1 = (1 : Int32) then
            X12_readOn_b62 i0  x2 (2 : Int32) p4.2
          else
            X12_readOn_b62 i0  x2 (3 : Int32) p4.2)
set_option maxHeartbeats 4000000 in
set_option maxRecDepth 100000 in
theorem t_X12_readOn_b36 {X : Scr} {i0 : Nat} (h0 : KD[i0]? = some (.inl 12)) (s0 : Int32) (M : Mem) : T X eI (X12_readOn_b36 i0  s0 M) md_X12_readOn 36 [] [.int s0] M := by
  unfold X12_readOn_b36
  exact T_iret dX12_readOn_36 rfl
set_option maxHeartbeats 4000000 in
set_option maxRecDepth 100000 in
theorem t_X12_readOn_b74 {X : Scr} {i0 : Nat} (h0 : KD[i0]? = some (.inl 12)) (s0 : Int32) (M : Mem) : T X eI (X12_readOn_b74 i0  s0 M) md_X12_readOn 74 [] [.int s0] M := by
  unfold X12_readOn_b74
  exact T_iret dX12_readOn_74 rfl
set_option maxHeartbeats 4000000 in
set_option maxRecDepth 100000 in
theorem t_X12_readOn_b62 {X : Scr} {i0 : Nat} (h0 : KD[i0]? = some (.inl 12)) (x2 : Int32) (s0 : Int32) (M : Mem) : T X eI (X12_readOn_b62 i0  x2 s0 M) md_X12_readOn 62 [(2, .int x2)] [.int s0, .ref i0] M := by
  unfold X12_readOn_b62
  refine T_iload_n 0 dX12_readOn_62 rfl rfl ?_
  refine T_bipush (v := (48 : Int32)) (by decide) dX12_readOn_63 ?_
  refine T_isub dX12_readOn_65 ?_
  refine T_callVI md_X12_close [.int s0, .int (x2 - (48 : Int32))] [] dX12_readOn_66 h0 rfl rfl ok_X12_close tb_859 tb_861 tb_16 (by decide) (Nat.le_of_ble_eq_true rfl) (fun _ _ h9 => C_X12_close h0 _ _ h9) (fun r1 M1 => ?_)
  dsimp only
  refine T_goto 74 dX12_readOn_69 (by decide) ?_
  refine T_sub [] (lv' := []) rfl ?_
  exact t_X12_readOn_b74 h0  _ _
set_option maxHeartbeats 4000000 in
set_option maxRecDepth 100000 in
theorem t_X12_readOn {X : Scr} {i0 : Nat} (h0 : KD[i0]? = some (.inl 12)) (x1 : Int32) (x2 : Int32) (M : Mem) : T X eI (X12_readOn i0  x1 x2 M) md_X12_readOn 0 [(0, .ref i0), (1, .int x1), (2, .int x2)] [] M := by
  unfold X12_readOn
  refine T_iload_n 1 dX12_readOn_0 rfl rfl ?_
  refine T_if_ne 10 dX12_readOn_1 (by decide) ?_ ?_
  ·
    refine T_aload_n 0 dX12_readOn_4 rfl rfl ?_
    refine T_iload_n 2 dX12_readOn_5 rfl rfl ?_
    refine T_callVI md_X12_begin [.int x2] [] dX12_readOn_6 h0 rfl rfl ok_X12_begin tb_855 tb_857 tb_15 (by decide) (Nat.le_of_ble_eq_true rfl) (fun _ _ h9 => C_X12_begin h0 _ h9) (fun r1 M1 => ?_)
    dsimp only
    exact T_iret dX12_readOn_9 rfl
  ·
    refine T_iload_n 1 dX12_readOn_10 rfl rfl ?_
    refine T_iconst (v := (3 : Int32)) (by decide) dX12_readOn_11 ?_
    refine T_icmp_ne 37 dX12_readOn_12 (by decide) ?_ ?_
    ·
      refine T_iload_n 2 dX12_readOn_15 rfl rfl ?_
      refine T_callSI md_X12_isLetter [.int x2] [] dX12_readOn_16 rfl ok_X12_isLetter tb_863 tb_864 (by decide) (Nat.le_of_ble_eq_true rfl) (fun _ _ h9 => C_X12_isLetter  _ h9) (fun r2 M2 => ?_)
      dsimp only
      refine T_if_eq 34 dX12_readOn_19 (by decide) ?_ ?_
      ·
        refine T_bipush (v := (-6 : Int32)) (by decide) dX12_readOn_34 ?_
        refine T_sub [] (lv' := []) rfl ?_
        exact t_X12_readOn_b36 h0  _ _
      ·
        refine T_aload_n 0 dX12_readOn_22 rfl rfl ?_
        refine T_iconst (v := (4 : Int32)) (by decide) dX12_readOn_23 ?_
        refine T_iload_n 2 dX12_readOn_24 rfl rfl ?_
        refine T_bipush (v := (65 : Int32)) (by decide) dX12_readOn_25 ?_
        refine T_isub dX12_readOn_27 ?_
        refine T_callVI md_X12_close [.int (4 : Int32), .int (x2 - (65 : Int32))] [] dX12_readOn_28 h0 rfl rfl ok_X12_close tb_859 tb_861 tb_16 (by decide) (Nat.le_of_ble_eq_true rfl) (fun _ _ h9 => C_X12_close h0 _ _ h9) (fun r3 M3 => ?_)
        dsimp only
        refine T_goto 36 dX12_readOn_31 (by decide) ?_
        refine T_sub [] (lv' := []) rfl ?_
        exact t_X12_readOn_b36 h0  _ _
    ·
      refine T_iload_n 2 dX12_readOn_37 rfl rfl ?_
      refine T_i2l dX12_readOn_38 ?_
      refine T_ldc2 (v := (48 : Int64)) dX12_readOn_39 tb_868 ?_
      refine T_ldc2 (v := (55 : Int64)) dX12_readOn_42 tb_869 ?_
      refine T_callSI md_X12_in [.long x2.toInt64, .long (48 : Int64), .long (55 : Int64)] [] dX12_readOn_45 rfl ok_X12_in tb_816 tb_817 (by decide) (Nat.le_of_ble_eq_true rfl) (fun _ _ h9 => C_X12_in  _ _ _ h9) (fun r4 M4 => ?_)
      dsimp only
      refine T_if_eq 72 dX12_readOn_48 (by decide) ?_ ?_
      ·
        refine T_bipush (v := (-6 : Int32)) (by decide) dX12_readOn_72 ?_
        refine T_sub [] (lv' := []) rfl ?_
        exact t_X12_readOn_b74 h0  _ _
      ·
        refine T_aload_n 0 dX12_readOn_51 rfl rfl ?_
        refine T_iload_n 1 dX12_readOn_52 rfl rfl ?_
        refine T_iconst (v := (1 : Int32)) (by decide) dX12_readOn_53 ?_
        refine T_icmp_ne 61 dX12_readOn_54 (by decide) ?_ ?_
        ·
          refine T_iconst (v := (2 : Int32)) (by decide) dX12_readOn_57 ?_
          refine T_goto 62 dX12_readOn_58 (by decide) ?_
          refine T_sub [2] (lv' := [(2, .int x2)]) rfl ?_
          exact t_X12_readOn_b62 h0  _ _ _
        ·
          refine T_iconst (v := (3 : Int32)) (by decide) dX12_readOn_61 ?_
          refine T_sub [2] (lv' := [(2, .int x2)]) rfl ?_
          exact t_X12_readOn_b62 h0  _ _ _
theorem C_X12_readOn {X : Scr} {i0 : Nat} (h0 : KD[i0]? = some (.inl 12)) (x1 : Int32) (x2 : Int32) {M : Mem} {r : Int32} {M' : Mem} (h : X12_readOn i0 x1 x2 M = some (r, M')) : Ct X md_X12_readOn [.ref i0, .int x1, .int x2] M (eI r) M' := Ct_of (by decide +kernel) (Nat.le_of_ble_eq_true rfl) (t_X12_readOn h0 _ _ M) r M' h
-- X12_fault
def X12_fault_b54 (i0 : Nat)  (s0 : Int32) (M : Mem) : Option (Int32 × Mem) :=
  some (s0, M)
def X12_fault_b9 (i0 : Nat) (k9 : Int32 → Int32 → Mem → Option (Int32 × Mem)) (x1 : Int32) (x2 : Int32) (M : Mem) : Option (Int32 × Mem) :=
  if (M.1 i0 12) ≤ x2 then
    if x1 = 0 then
      X12_fault_b54 i0  (-6 : Int32) M
    else
      X12_fault_b54 i0  (M.1 i0 12) M
  else
    gd (ib x2 60) (
      (X12_readOn i0 x1 (M.1 (rf i0 11) x2.toNatClampNeg) M).bind (fun p1 =>
        if 0 ≤ p1.1 then
          k9 p1.1 (x2 + (1 : Int32)) p1.2
        else
          some (x2, p1.2)))
def X12_fault_l9 (i0 : Nat)  : Nat → Int32 → Int32 → Mem → Option (Int32 × Mem)
  | 0 => fun _ _ _ => none
  | n + 1 => X12_fault_b9 i0 (X12_fault_l9 i0  n)
def X12_fault (i0 : Nat)   (M : Mem) : Option (Int32 × Mem) :=
  X12_fault_l9 i0  FU (0 : Int32) (0 : Int32) (mI M i0 15 (0 : Int32))
set_option maxHeartbeats 4000000 in
set_option maxRecDepth 100000 in
theorem t_X12_fault_b54 {X : Scr} {i0 : Nat} (h0 : KD[i0]? = some (.inl 12)) (s0 : Int32) (M : Mem) : T X eI (X12_fault_b54 i0  s0 M) md_X12_fault 54 [] [.int s0] M := by
  unfold X12_fault_b54
  exact T_iret dX12_fault_54 rfl
set_option maxHeartbeats 4000000 in
set_option maxRecDepth 100000 in
theorem t_X12_fault_b9 {X : Scr} {i0 : Nat} (h0 : KD[i0]? = some (.inl 12)) {k9 : Int32 → Int32 → Mem → Option (Int32 × Mem)} (hk9 : ∀ (x1 : Int32) (x2 : Int32) (M : Mem), T X eI (k9 x1 x2 M) md_X12_fault 9 [(0, .ref i0), (1, .int x1), (2, .int x2)] [] M) (x1 : Int32) (x2 : Int32) (M : Mem) : T X eI (X12_fault_b9 i0 k9 x1 x2 M) md_X12_fault 9 [(0, .ref i0), (1, .int x1), (2, .int x2)] [] M := by
  unfold X12_fault_b9
  refine T_iload_n 2 dX12_fault_9 rfl rfl ?_
  refine T_aload_n 0 dX12_fault_10 rfl rfl ?_
  refine T_getI 12 FOk_12 h0 (by decide) (by decide) dX12_fault_11 tb_725 ?_
  refine T_icmp_ge 41 dX12_fault_14 (by decide) ?_ ?_
  ·
    refine T_iload_n 1 dX12_fault_41 rfl rfl ?_
    refine T_if_ne 50 dX12_fault_42 (by decide) ?_ ?_
    ·
      refine T_bipush (v := (-6 : Int32)) (by decide) dX12_fault_45 ?_
      refine T_goto 54 dX12_fault_47 (by decide) ?_
      refine T_sub [] (lv' := []) rfl ?_
      exact t_X12_fault_b54 h0  _ _
    ·
      refine T_aload_n 0 dX12_fault_50 rfl rfl ?_
      refine T_getI 12 FOk_12 h0 (by decide) (by decide) dX12_fault_51 tb_725 ?_
      refine T_sub [] (lv' := []) rfl ?_
      exact t_X12_fault_b54 h0  _ _
  ·
    refine T_aload_n 0 dX12_fault_17 rfl rfl ?_
    refine T_iload_n 1 dX12_fault_18 rfl rfl ?_
    refine T_aload_n 0 dX12_fault_19 rfl rfl ?_
    refine T_getR 11 FOk_12 h0 (by decide) (by decide) dX12_fault_20 tb_724 ?_
    refine T_iload_n 2 dX12_fault_23 rfl rfl ?_
    refine T_iald (kf_12_11 h0) dX12_fault_24 ?_
    refine T_callVI md_X12_readOn [.int x1, .int (M.1 (rf i0 11) x2.toNatClampNeg)] [] dX12_fault_25 h0 rfl rfl ok_X12_readOn tb_851 tb_853 tb_14 (by decide) (Nat.le_of_ble_eq_true rfl) (fun _ _ h9 => C_X12_readOn h0 _ _ h9) (fun r1 M1 => ?_)
    dsimp only
    refine T_istore_n [(1, .int r1), (0, .ref i0), (2, .int x2)] dX12_fault_28 rfl (by decide) rfl ?_
    refine T_iload_n 0 dX12_fault_29 rfl rfl ?_
    refine T_if_ge 35 dX12_fault_30 (by decide) ?_ ?_
    ·
      refine T_iinc 2 [(2, .int (x2 + (1 : Int32))), (1, .int r1), (0, .ref i0)] (v := (1 : Int32)) dX12_fault_35 rfl (by decide) (by decide) rfl ?_
      refine T_goto 9 dX12_fault_38 (by decide) ?_
      refine T_sub [2, 1, 0] (lv' := [(0, .ref i0), (1, .int r1), (2, .int (x2 + (1 : Int32)))]) rfl ?_
      exact hk9 _ _ _
    ·
      refine T_iload_n 2 dX12_fault_33 rfl rfl ?_
      exact T_iret dX12_fault_34 rfl
theorem t_X12_fault_l9 {X : Scr} {i0 : Nat} (h0 : KD[i0]? = some (.inl 12)) (n : Nat) : ∀ (x1 : Int32) (x2 : Int32) (M : Mem), T X eI (X12_fault_l9 i0  n x1 x2 M) md_X12_fault 9 [(0, .ref i0), (1, .int x1), (2, .int x2)] [] M := by
  induction n with
  | zero => intro x1 x2 M; exact T_none
  | succ n ih => intro x1 x2 M; exact t_X12_fault_b9 h0 ih x1 x2 M
set_option maxHeartbeats 4000000 in
set_option maxRecDepth 100000 in
theorem t_X12_fault {X : Scr} {i0 : Nat} (h0 : KD[i0]? = some (.inl 12))  (M : Mem) : T X eI (X12_fault i0   M) md_X12_fault 0 [(0, .ref i0)] [] M := by
  unfold X12_fault
  refine T_aload_n 0 dX12_fault_0 rfl rfl ?_
  refine T_iconst (v := (0 : Int32)) (by decide) dX12_fault_1 ?_
  refine T_putI (ty := .int) 15 FOk_12 h0 (by decide) (by decide) rfl (by decide +kernel) rfl rfl dX12_fault_2 tb_728 ?_
  refine T_iconst (v := (0 : Int32)) (by decide) dX12_fault_5 ?_
  refine T_istore_n [(1, .int (0 : Int32)), (0, .ref i0)] dX12_fault_6 rfl (by decide) rfl ?_
  refine T_iconst (v := (0 : Int32)) (by decide) dX12_fault_7 ?_
  refine T_istore_n [(2, .int (0 : Int32)), (1, .int (0 : Int32)), (0, .ref i0)] dX12_fault_8 rfl (by decide) rfl ?_
  refine T_sub [2, 1, 0] (lv' := [(0, .ref i0), (1, .int (0 : Int32)), (2, .int (0 : Int32))]) rfl ?_
  exact t_X12_fault_l9 h0  _ _ _ _
theorem C_X12_fault {X : Scr} {i0 : Nat} (h0 : KD[i0]? = some (.inl 12))  {M : Mem} {r : Int32} {M' : Mem} (h : X12_fault i0  M = some (r, M')) : Ct X md_X12_fault [.ref i0] M (eI r) M' := Ct_of (by decide +kernel) (Nat.le_of_ble_eq_true rfl) (t_X12_fault h0  M) r M' h
-- X12_inHere
def X12_inHere (i0 : Nat)   (M : Mem) : Option (Int32 × Mem) :=
  gd (ib (M.1 i0 3) 10) (
    gd (ib (M.1 (rf i0 0) (M.1 i0 3).toNatClampNeg) 10) (
      some ((M.1 (rf i0 1) (M.1 (rf i0 0) (M.1 i0 3).toNatClampNeg).toNatClampNeg), M)))
set_option maxHeartbeats 4000000 in
set_option maxRecDepth 100000 in
theorem t_X12_inHere {X : Scr} {i0 : Nat} (h0 : KD[i0]? = some (.inl 12))  (M : Mem) : T X eI (X12_inHere i0   M) md_X12_inHere 0 [(0, .ref i0)] [] M := by
  unfold X12_inHere
  refine T_aload_n 0 dX12_inHere_0 rfl rfl ?_
  refine T_getR 1 FOk_12 h0 (by decide) (by decide) dX12_inHere_1 tb_714 ?_
  refine T_aload_n 0 dX12_inHere_4 rfl rfl ?_
  refine T_getR 0 FOk_12 h0 (by decide) (by decide) dX12_inHere_5 tb_713 ?_
  refine T_aload_n 0 dX12_inHere_8 rfl rfl ?_
  refine T_getI 3 FOk_12 h0 (by decide) (by decide) dX12_inHere_9 tb_716 ?_
  refine T_iald (kf_12_0 h0) dX12_inHere_12 ?_
  refine T_iald (kf_12_1 h0) dX12_inHere_13 ?_
  exact T_iret dX12_inHere_14 rfl
theorem C_X12_inHere {X : Scr} {i0 : Nat} (h0 : KD[i0]? = some (.inl 12))  {M : Mem} {r : Int32} {M' : Mem} (h : X12_inHere i0  M = some (r, M')) : Ct X md_X12_inHere [.ref i0] M (eI r) M' := Ct_of (by decide +kernel) (Nat.le_of_ble_eq_true rfl) (t_X12_inHere h0  M) r M' h
-- X12_whyNot
def X12_whyNot_b73 (i0 : Nat)  (s0 : Int32) (M : Mem) : Option (Int32 × Mem) :=
  some (s0, M)
def X12_whyNot_b105 (i0 : Nat)  (s0 : Int32) (M : Mem) : Option (Int32 × Mem) :=
  some (s0, M)
def X12_whyNot_b137 (i0 : Nat)  (s0 : Int32) (M : Mem) : Option (Int32 × Mem) :=
  some (s0, M)
def X12_whyNot_b169 (i0 : Nat)  (s0 : Int32) (M : Mem) : Option (Int32 × Mem) :=
  some (s0, M)
def X12_whyNot_b183 (i0 : Nat)  (s0 : Int32) (M : Mem) : Option (Int32 × Mem) :=
  some (s0, M)
def X12_whyNot_b202 (i0 : Nat)  (s0 : Int32) (M : Mem) : Option (Int32 × Mem) :=
  some (s0, M)
def X12_whyNot (i0 : Nat)  (x1 : Int32) (x2 : Int32) (M : Mem) : Option (Int32 × Mem) :=
  if x1 = (0 : Int32) then
    if x2 = (M.1 i0 3) then
      X12_whyNot_b73 i0  (1 : Int32) M
    else
      (X12_apart  x2 (M.1 i0 3) M).bind (fun p2 =>
        if ((M.1 i0 6) + p2.1) ≤ (p2.2.1 i0 7) then
          X12_whyNot_b73 i0  (0 : Int32) p2.2
        else
          X12_whyNot_b73 i0  (4 : Int32) p2.2)
  else if x1 = (1 : Int32) then
    gd (ib (M.1 i0 3) 10) (
      gd (ib (M.1 (rf i0 0) (M.1 i0 3).toNatClampNeg) 10) (
        if ((M.1 i0 6) + (M.1 (rf i0 2) (M.1 (rf i0 0) (M.1 i0 3).toNatClampNeg).toNatClampNeg)) ≤ (M.1 i0 7) then
          X12_whyNot_b105 i0  (0 : Int32) M
        else
          X12_whyNot_b105 i0  (4 : Int32) M))
  else if x1 = (2 : Int32) then
    (X12_isIn  (M.1 i0 4) x2 M).bind (fun p3 =>
      if p3.1 = 0 then
        X12_whyNot_b137 i0  (2 : Int32) p3.2
      else
        (X12_inHere i0  p3.2).bind (fun p4 =>
          (X12_isIn  p4.1 x2 p4.2).bind (fun p5 =>
            if p5.1 = 0 then
              X12_whyNot_b137 i0  (0 : Int32) p5.2
            else
              X12_whyNot_b137 i0  (3 : Int32) p5.2)))
  else if x1 = (3 : Int32) then
    (X12_inHere i0  M).bind (fun p6 =>
      (X12_isIn  p6.1 x2 p6.2).bind (fun p7 =>
        if p7.1 = 0 then
          X12_whyNot_b169 i0  (2 : Int32) p7.2
        else
          (X12_isIn  (p7.2.1 i0 4) x2 p7.2).bind (fun p8 =>
            if p8.1 = 0 then
              X12_whyNot_b169 i0  (0 : Int32) p8.2
            else
              X12_whyNot_b169 i0  (3 : Int32) p8.2)))
  else if x1 = (4 : Int32) then
    if x2 = (M.1 i0 3) then
      X12_whyNot_b183 i0  (1 : Int32) M
    else
      X12_whyNot_b183 i0  (0 : Int32) M
  else 
    if ((M.1 i0 6) + (1 : Int32)) ≤ (M.1 i0 7) then
      X12_whyNot_b202 i0  (0 : Int32) M
    else
      X12_whyNot_b202 i0  (4 : Int32) M
set_option maxHeartbeats 4000000 in
set_option maxRecDepth 100000 in
theorem t_X12_whyNot_b73 {X : Scr} {i0 : Nat} (h0 : KD[i0]? = some (.inl 12)) (s0 : Int32) (M : Mem) : T X eI (X12_whyNot_b73 i0  s0 M) md_X12_whyNot 73 [] [.int s0] M := by
  unfold X12_whyNot_b73
  exact T_iret dX12_whyNot_73 rfl
set_option maxHeartbeats 4000000 in
set_option maxRecDepth 100000 in
theorem t_X12_whyNot_b105 {X : Scr} {i0 : Nat} (h0 : KD[i0]? = some (.inl 12)) (s0 : Int32) (M : Mem) : T X eI (X12_whyNot_b105 i0  s0 M) md_X12_whyNot 105 [] [.int s0] M := by
  unfold X12_whyNot_b105
  exact T_iret dX12_whyNot_105 rfl
set_option maxHeartbeats 4000000 in
set_option maxRecDepth 100000 in
theorem t_X12_whyNot_b137 {X : Scr} {i0 : Nat} (h0 : KD[i0]? = some (.inl 12)) (s0 : Int32) (M : Mem) : T X eI (X12_whyNot_b137 i0  s0 M) md_X12_whyNot 137 [] [.int s0] M := by
  unfold X12_whyNot_b137
  exact T_iret dX12_whyNot_137 rfl
set_option maxHeartbeats 4000000 in
set_option maxRecDepth 100000 in
theorem t_X12_whyNot_b169 {X : Scr} {i0 : Nat} (h0 : KD[i0]? = some (.inl 12)) (s0 : Int32) (M : Mem) : T X eI (X12_whyNot_b169 i0  s0 M) md_X12_whyNot 169 [] [.int s0] M := by
  unfold X12_whyNot_b169
  exact T_iret dX12_whyNot_169 rfl
set_option maxHeartbeats 4000000 in
set_option maxRecDepth 100000 in
theorem t_X12_whyNot_b183 {X : Scr} {i0 : Nat} (h0 : KD[i0]? = some (.inl 12)) (s0 : Int32) (M : Mem) : T X eI (X12_whyNot_b183 i0  s0 M) md_X12_whyNot 183 [] [.int s0] M := by
  unfold X12_whyNot_b183
  exact T_iret dX12_whyNot_183 rfl
set_option maxHeartbeats 4000000 in
set_option maxRecDepth 100000 in
theorem t_X12_whyNot_b202 {X : Scr} {i0 : Nat} (h0 : KD[i0]? = some (.inl 12)) (s0 : Int32) (M : Mem) : T X eI (X12_whyNot_b202 i0  s0 M) md_X12_whyNot 202 [] [.int s0] M := by
  unfold X12_whyNot_b202
  exact T_iret dX12_whyNot_202 rfl
set_option maxHeartbeats 4000000 in
set_option maxRecDepth 100000 in
theorem t_X12_whyNot {X : Scr} {i0 : Nat} (h0 : KD[i0]? = some (.inl 12)) (x1 : Int32) (x2 : Int32) (M : Mem) : T X eI (X12_whyNot i0  x1 x2 M) md_X12_whyNot 0 [(0, .ref i0), (1, .int x1), (2, .int x2)] [] M := by
  unfold X12_whyNot
  refine T_iload_n 1 dX12_whyNot_0 rfl rfl ?_
  refine T_ite (fun hx0_0 => ?_) (fun hx0_0 => ?_)
  ·
    refine T_tabIn (off := 35) 36 dX12_whyNot_1 (by rw [hx0_0]; decide) (by rw [hx0_0]; decide) (by rw [hx0_0]; decide) (by decide) ?_
    refine T_iload_n 2 dX12_whyNot_36 rfl rfl ?_
    refine T_aload_n 0 dX12_whyNot_37 rfl rfl ?_
    refine T_getI 3 FOk_12 h0 (by decide) (by decide) dX12_whyNot_38 tb_716 ?_
    refine T_icmp_ne 48 dX12_whyNot_41 (by decide) ?_ ?_
    ·
      refine T_iconst (v := (1 : Int32)) (by decide) dX12_whyNot_44 ?_
      refine T_goto 73 dX12_whyNot_45 (by decide) ?_
      refine T_sub [] (lv' := []) rfl ?_
      exact t_X12_whyNot_b73 h0  _ _
    ·
      refine T_aload_n 0 dX12_whyNot_48 rfl rfl ?_
      refine T_getI 6 FOk_12 h0 (by decide) (by decide) dX12_whyNot_49 tb_719 ?_
      refine T_iload_n 2 dX12_whyNot_52 rfl rfl ?_
      refine T_aload_n 0 dX12_whyNot_53 rfl rfl ?_
      refine T_getI 3 FOk_12 h0 (by decide) (by decide) dX12_whyNot_54 tb_716 ?_
      refine T_callSI md_X12_apart [.int x2, .int (M.1 i0 3)] [.int (M.1 i0 6)] dX12_whyNot_57 rfl ok_X12_apart tb_892 tb_893 (by decide) (Nat.le_of_ble_eq_true rfl) (fun _ _ h9 => C_X12_apart  _ _ h9) (fun r2 M2 => ?_)
      dsimp only
      refine T_iadd dX12_whyNot_60 ?_
      refine T_aload_n 0 dX12_whyNot_61 rfl rfl ?_
      refine T_getI 7 FOk_12 h0 (by decide) (by decide) dX12_whyNot_62 tb_720 ?_
      refine T_icmp_le 72 dX12_whyNot_65 (by decide) ?_ ?_
      ·
        refine T_iconst (v := (0 : Int32)) (by decide) dX12_whyNot_72 ?_
        refine T_sub [] (lv' := []) rfl ?_
        exact t_X12_whyNot_b73 h0  _ _
      ·
        refine T_iconst (v := (4 : Int32)) (by decide) dX12_whyNot_68 ?_
        refine T_goto 73 dX12_whyNot_69 (by decide) ?_
        refine T_sub [] (lv' := []) rfl ?_
        exact t_X12_whyNot_b73 h0  _ _
  refine T_ite (fun hx0_1 => ?_) (fun hx0_1 => ?_)
  ·
    refine T_tabIn (off := 73) 74 dX12_whyNot_1 (by rw [hx0_1]; decide) (by rw [hx0_1]; decide) (by rw [hx0_1]; decide) (by decide) ?_
    refine T_aload_n 0 dX12_whyNot_74 rfl rfl ?_
    refine T_getI 6 FOk_12 h0 (by decide) (by decide) dX12_whyNot_75 tb_719 ?_
    refine T_aload_n 0 dX12_whyNot_78 rfl rfl ?_
    refine T_getR 2 FOk_12 h0 (by decide) (by decide) dX12_whyNot_79 tb_715 ?_
    refine T_aload_n 0 dX12_whyNot_82 rfl rfl ?_
    refine T_getR 0 FOk_12 h0 (by decide) (by decide) dX12_whyNot_83 tb_713 ?_
    refine T_aload_n 0 dX12_whyNot_86 rfl rfl ?_
    refine T_getI 3 FOk_12 h0 (by decide) (by decide) dX12_whyNot_87 tb_716 ?_
    refine T_iald (kf_12_0 h0) dX12_whyNot_90 ?_
    refine T_iald (kf_12_2 h0) dX12_whyNot_91 ?_
    refine T_iadd dX12_whyNot_92 ?_
    refine T_aload_n 0 dX12_whyNot_93 rfl rfl ?_
    refine T_getI 7 FOk_12 h0 (by decide) (by decide) dX12_whyNot_94 tb_720 ?_
    refine T_icmp_le 104 dX12_whyNot_97 (by decide) ?_ ?_
    ·
      refine T_iconst (v := (0 : Int32)) (by decide) dX12_whyNot_104 ?_
      refine T_sub [] (lv' := []) rfl ?_
      exact t_X12_whyNot_b105 h0  _ _
    ·
      refine T_iconst (v := (4 : Int32)) (by decide) dX12_whyNot_100 ?_
      refine T_goto 105 dX12_whyNot_101 (by decide) ?_
      refine T_sub [] (lv' := []) rfl ?_
      exact t_X12_whyNot_b105 h0  _ _
  refine T_ite (fun hx0_2 => ?_) (fun hx0_2 => ?_)
  ·
    refine T_tabIn (off := 105) 106 dX12_whyNot_1 (by rw [hx0_2]; decide) (by rw [hx0_2]; decide) (by rw [hx0_2]; decide) (by decide) ?_
    refine T_aload_n 0 dX12_whyNot_106 rfl rfl ?_
    refine T_getI 4 FOk_12 h0 (by decide) (by decide) dX12_whyNot_107 tb_717 ?_
    refine T_iload_n 2 dX12_whyNot_110 rfl rfl ?_
    refine T_callSI md_X12_isIn [.int (M.1 i0 4), .int x2] [] dX12_whyNot_111 rfl ok_X12_isIn tb_895 tb_896 (by decide) (Nat.le_of_ble_eq_true rfl) (fun _ _ h9 => C_X12_isIn  _ _ h9) (fun r3 M3 => ?_)
    dsimp only
    refine T_if_ne 121 dX12_whyNot_114 (by decide) ?_ ?_
    ·
      refine T_iconst (v := (2 : Int32)) (by decide) dX12_whyNot_117 ?_
      refine T_goto 137 dX12_whyNot_118 (by decide) ?_
      refine T_sub [] (lv' := []) rfl ?_
      exact t_X12_whyNot_b137 h0  _ _
    ·
      refine T_aload_n 0 dX12_whyNot_121 rfl rfl ?_
      refine T_callVI md_X12_inHere [] [] dX12_whyNot_122 h0 rfl rfl ok_X12_inHere tb_898 tb_900 tb_21 (by decide) (Nat.le_of_ble_eq_true rfl) (fun _ _ h9 => C_X12_inHere h0  h9) (fun r4 M4 => ?_)
      dsimp only
      refine T_iload_n 2 dX12_whyNot_125 rfl rfl ?_
      refine T_callSI md_X12_isIn [.int r4, .int x2] [] dX12_whyNot_126 rfl ok_X12_isIn tb_895 tb_896 (by decide) (Nat.le_of_ble_eq_true rfl) (fun _ _ h9 => C_X12_isIn  _ _ h9) (fun r5 M5 => ?_)
      dsimp only
      refine T_if_eq 136 dX12_whyNot_129 (by decide) ?_ ?_
      ·
        refine T_iconst (v := (0 : Int32)) (by decide) dX12_whyNot_136 ?_
        refine T_sub [] (lv' := []) rfl ?_
        exact t_X12_whyNot_b137 h0  _ _
      ·
        refine T_iconst (v := (3 : Int32)) (by decide) dX12_whyNot_132 ?_
        refine T_goto 137 dX12_whyNot_133 (by decide) ?_
        refine T_sub [] (lv' := []) rfl ?_
        exact t_X12_whyNot_b137 h0  _ _
  refine T_ite (fun hx0_3 => ?_) (fun hx0_3 => ?_)
  ·
    refine T_tabIn (off := 137) 138 dX12_whyNot_1 (by rw [hx0_3]; decide) (by rw [hx0_3]; decide) (by rw [hx0_3]; decide) (by decide) ?_
    refine T_aload_n 0 dX12_whyNot_138 rfl rfl ?_
    refine T_callVI md_X12_inHere [] [] dX12_whyNot_139 h0 rfl rfl ok_X12_inHere tb_898 tb_900 tb_21 (by decide) (Nat.le_of_ble_eq_true rfl) (fun _ _ h9 => C_X12_inHere h0  h9) (fun r6 M6 => ?_)
    dsimp only
    refine T_iload_n 2 dX12_whyNot_142 rfl rfl ?_
    refine T_callSI md_X12_isIn [.int r6, .int x2] [] dX12_whyNot_143 rfl ok_X12_isIn tb_895 tb_896 (by decide) (Nat.le_of_ble_eq_true rfl) (fun _ _ h9 => C_X12_isIn  _ _ h9) (fun r7 M7 => ?_)
    dsimp only
    refine T_if_ne 153 dX12_whyNot_146 (by decide) ?_ ?_
    ·
      refine T_iconst (v := (2 : Int32)) (by decide) dX12_whyNot_149 ?_
      refine T_goto 169 dX12_whyNot_150 (by decide) ?_
      refine T_sub [] (lv' := []) rfl ?_
      exact t_X12_whyNot_b169 h0  _ _
    ·
      refine T_aload_n 0 dX12_whyNot_153 rfl rfl ?_
      refine T_getI 4 FOk_12 h0 (by decide) (by decide) dX12_whyNot_154 tb_717 ?_
      refine T_iload_n 2 dX12_whyNot_157 rfl rfl ?_
      refine T_callSI md_X12_isIn [.int (M7.1 i0 4), .int x2] [] dX12_whyNot_158 rfl ok_X12_isIn tb_895 tb_896 (by decide) (Nat.le_of_ble_eq_true rfl) (fun _ _ h9 => C_X12_isIn  _ _ h9) (fun r8 M8 => ?_)
      dsimp only
      refine T_if_eq 168 dX12_whyNot_161 (by decide) ?_ ?_
      ·
        refine T_iconst (v := (0 : Int32)) (by decide) dX12_whyNot_168 ?_
        refine T_sub [] (lv' := []) rfl ?_
        exact t_X12_whyNot_b169 h0  _ _
      ·
        refine T_iconst (v := (3 : Int32)) (by decide) dX12_whyNot_164 ?_
        refine T_goto 169 dX12_whyNot_165 (by decide) ?_
        refine T_sub [] (lv' := []) rfl ?_
        exact t_X12_whyNot_b169 h0  _ _
  refine T_ite (fun hx0_4 => ?_) (fun hx0_4 => ?_)
  ·
    refine T_tabIn (off := 169) 170 dX12_whyNot_1 (by rw [hx0_4]; decide) (by rw [hx0_4]; decide) (by rw [hx0_4]; decide) (by decide) ?_
    refine T_iload_n 2 dX12_whyNot_170 rfl rfl ?_
    refine T_aload_n 0 dX12_whyNot_171 rfl rfl ?_
    refine T_getI 3 FOk_12 h0 (by decide) (by decide) dX12_whyNot_172 tb_716 ?_
    refine T_icmp_ne 182 dX12_whyNot_175 (by decide) ?_ ?_
    ·
      refine T_iconst (v := (1 : Int32)) (by decide) dX12_whyNot_178 ?_
      refine T_goto 183 dX12_whyNot_179 (by decide) ?_
      refine T_sub [] (lv' := []) rfl ?_
      exact t_X12_whyNot_b183 h0  _ _
    ·
      refine T_iconst (v := (0 : Int32)) (by decide) dX12_whyNot_182 ?_
      refine T_sub [] (lv' := []) rfl ?_
      exact t_X12_whyNot_b183 h0  _ _
  refine T_tabOut 184 dX12_whyNot_1 (tab_out (n := 5) (by decide) (lt_s (lt_s (lt_s (lt_s (lt_s lt_0 (lv_neT hx0_0 (by decide))) (lv_neT hx0_1 (by decide))) (lv_neT hx0_2 (by decide))) (lv_neT hx0_3 (by decide))) (lv_neT hx0_4 (by decide)))) (by decide) ?_
  refine T_aload_n 0 dX12_whyNot_184 rfl rfl ?_
  refine T_getI 6 FOk_12 h0 (by decide) (by decide) dX12_whyNot_185 tb_719 ?_
  refine T_iconst (v := (1 : Int32)) (by decide) dX12_whyNot_188 ?_
  refine T_iadd dX12_whyNot_189 ?_
  refine T_aload_n 0 dX12_whyNot_190 rfl rfl ?_
  refine T_getI 7 FOk_12 h0 (by decide) (by decide) dX12_whyNot_191 tb_720 ?_
  refine T_icmp_le 201 dX12_whyNot_194 (by decide) ?_ ?_
  ·
    refine T_iconst (v := (0 : Int32)) (by decide) dX12_whyNot_201 ?_
    refine T_sub [] (lv' := []) rfl ?_
    exact t_X12_whyNot_b202 h0  _ _
  ·
    refine T_iconst (v := (4 : Int32)) (by decide) dX12_whyNot_197 ?_
    refine T_goto 202 dX12_whyNot_198 (by decide) ?_
    refine T_sub [] (lv' := []) rfl ?_
    exact t_X12_whyNot_b202 h0  _ _
theorem C_X12_whyNot {X : Scr} {i0 : Nat} (h0 : KD[i0]? = some (.inl 12)) (x1 : Int32) (x2 : Int32) {M : Mem} {r : Int32} {M' : Mem} (h : X12_whyNot i0 x1 x2 M = some (r, M')) : Ct X md_X12_whyNot [.ref i0, .int x1, .int x2] M (eI r) M' := Ct_of (by decide +kernel) (Nat.le_of_ble_eq_true rfl) (t_X12_whyNot h0 _ _ M) r M' h
-- X12_go
def X12_go (i0 : Nat)  (x1 : Int32) (M : Mem) : Option (Unit × Mem) :=
  (X12_apart  x1 (M.1 i0 3) M).bind (fun p1 =>
    some ((), (mI (mI p1.2 i0 6 ((M.1 i0 6) + p1.1)) i0 3 x1)))
set_option maxHeartbeats 4000000 in
set_option maxRecDepth 100000 in
theorem t_X12_go {X : Scr} {i0 : Nat} (h0 : KD[i0]? = some (.inl 12)) (x1 : Int32) (M : Mem) : T X eV (X12_go i0  x1 M) md_X12_go 0 [(0, .ref i0), (1, .int x1)] [] M := by
  unfold X12_go
  refine T_aload_n 0 dX12_go_0 rfl rfl ?_
  refine T_dup rfl dX12_go_1 ?_
  refine T_getI 6 FOk_12 h0 (by decide) (by decide) dX12_go_2 tb_719 ?_
  refine T_iload_n 1 dX12_go_5 rfl rfl ?_
  refine T_aload_n 0 dX12_go_6 rfl rfl ?_
  refine T_getI 3 FOk_12 h0 (by decide) (by decide) dX12_go_7 tb_716 ?_
  refine T_callSI md_X12_apart [.int x1, .int (M.1 i0 3)] [.int (M.1 i0 6), .ref i0] dX12_go_10 rfl ok_X12_apart tb_892 tb_893 (by decide) (Nat.le_of_ble_eq_true rfl) (fun _ _ h9 => C_X12_apart  _ _ h9) (fun r1 M1 => ?_)
  dsimp only
  refine T_iadd dX12_go_13 ?_
  refine T_putI (ty := .int) 6 FOk_12 h0 (by decide) (by decide) rfl (by decide +kernel) rfl rfl dX12_go_14 tb_719 ?_
  refine T_aload_n 0 dX12_go_17 rfl rfl ?_
  refine T_iload_n 1 dX12_go_18 rfl rfl ?_
  refine T_putI (ty := .int) 3 FOk_12 h0 (by decide) (by decide) rfl (by decide +kernel) rfl rfl dX12_go_19 tb_716 ?_
  exact T_vret dX12_go_22 rfl
theorem C_X12_go {X : Scr} {i0 : Nat} (h0 : KD[i0]? = some (.inl 12)) (x1 : Int32) {M : Mem} {r : Unit} {M' : Mem} (h : X12_go i0 x1 M = some (r, M')) : Ct X md_X12_go [.ref i0, .int x1] M (eV r) M' := Ct_of (by decide +kernel) (Nat.le_of_ble_eq_true rfl) (t_X12_go h0 _ M) r M' h
-- X12_look
def X12_look (i0 : Nat)   (M : Mem) : Option (Unit × Mem) :=
  gd (ib (M.1 i0 3) 10) (
    gd (ib (M.1 (rf i0 0) (M.1 i0 3).toNatClampNeg) 10) (
      mw (mI M i0 6 ((M.1 i0 6) + (M.1 (rf i0 2) (M.1 (rf i0 0) (M.1 i0 3).toNatClampNeg).toNatClampNeg))) (fun N1 =>
        (X12_inHere i0  N1).bind (fun p2 =>
          mw (mI p2.2 i0 5 ((N1.1 i0 5) ||| p2.1)) (fun N3 =>
            gd (ib (N3.1 i0 3) 10) (
              mw (mI N3 i0 16 ((N3.1 i0 16) ||| ((1 : Int32) <<< ((N3.1 (rf i0 0) (N3.1 i0 3).toNatClampNeg) &&& 31)))) (fun N4 =>
                some ((), N4))))))))
set_option maxHeartbeats 4000000 in
set_option maxRecDepth 100000 in
theorem t_X12_look {X : Scr} {i0 : Nat} (h0 : KD[i0]? = some (.inl 12))  (M : Mem) : T X eV (X12_look i0   M) md_X12_look 0 [(0, .ref i0)] [] M := by
  unfold X12_look
  refine T_aload_n 0 dX12_look_0 rfl rfl ?_
  refine T_dup rfl dX12_look_1 ?_
  refine T_getI 6 FOk_12 h0 (by decide) (by decide) dX12_look_2 tb_719 ?_
  refine T_aload_n 0 dX12_look_5 rfl rfl ?_
  refine T_getR 2 FOk_12 h0 (by decide) (by decide) dX12_look_6 tb_715 ?_
  refine T_aload_n 0 dX12_look_9 rfl rfl ?_
  refine T_getR 0 FOk_12 h0 (by decide) (by decide) dX12_look_10 tb_713 ?_
  refine T_aload_n 0 dX12_look_13 rfl rfl ?_
  refine T_getI 3 FOk_12 h0 (by decide) (by decide) dX12_look_14 tb_716 ?_
  refine T_iald (kf_12_0 h0) dX12_look_17 ?_
  refine T_iald (kf_12_2 h0) dX12_look_18 ?_
  refine T_iadd dX12_look_19 ?_
  refine T_putI (ty := .int) 6 FOk_12 h0 (by decide) (by decide) rfl (by decide +kernel) rfl rfl dX12_look_20 tb_719 ?_
  refine T_mw (fun N1 => ?_)
  try dsimp only
  refine T_aload_n 0 dX12_look_23 rfl rfl ?_
  refine T_dup rfl dX12_look_24 ?_
  refine T_getI 5 FOk_12 h0 (by decide) (by decide) dX12_look_25 tb_718 ?_
  refine T_aload_n 0 dX12_look_28 rfl rfl ?_
  refine T_callVI md_X12_inHere [] [.int (N1.1 i0 5), .ref i0] dX12_look_29 h0 rfl rfl ok_X12_inHere tb_898 tb_900 tb_21 (by decide) (Nat.le_of_ble_eq_true rfl) (fun _ _ h9 => C_X12_inHere h0  h9) (fun r2 M2 => ?_)
  dsimp only
  refine T_ior dX12_look_32 ?_
  refine T_putI (ty := .int) 5 FOk_12 h0 (by decide) (by decide) rfl (by decide +kernel) rfl rfl dX12_look_33 tb_718 ?_
  refine T_mw (fun N3 => ?_)
  try dsimp only
  refine T_aload_n 0 dX12_look_36 rfl rfl ?_
  refine T_dup rfl dX12_look_37 ?_
  refine T_getI 16 FOk_12 h0 (by decide) (by decide) dX12_look_38 tb_729 ?_
  refine T_iconst (v := (1 : Int32)) (by decide) dX12_look_41 ?_
  refine T_aload_n 0 dX12_look_42 rfl rfl ?_
  refine T_getR 0 FOk_12 h0 (by decide) (by decide) dX12_look_43 tb_713 ?_
  refine T_aload_n 0 dX12_look_46 rfl rfl ?_
  refine T_getI 3 FOk_12 h0 (by decide) (by decide) dX12_look_47 tb_716 ?_
  refine T_iald (kf_12_0 h0) dX12_look_50 ?_
  refine T_ishl dX12_look_51 ?_
  refine T_ior dX12_look_52 ?_
  refine T_putI (ty := .int) 16 FOk_12 h0 (by decide) (by decide) rfl (by decide +kernel) rfl rfl dX12_look_53 tb_729 ?_
  refine T_mw (fun N4 => ?_)
  try dsimp only
  exact T_vret dX12_look_56 rfl
theorem C_X12_look {X : Scr} {i0 : Nat} (h0 : KD[i0]? = some (.inl 12))  {M : Mem} {r : Unit} {M' : Mem} (h : X12_look i0  M = some (r, M')) : Ct X md_X12_look [.ref i0] M (eV r) M' := Ct_of (by decide +kernel) (Nat.le_of_ble_eq_true rfl) (t_X12_look h0  M) r M' h
-- X12_take
def X12_take (i0 : Nat)  (x1 : Int32) (M : Mem) : Option (Unit × Mem) :=
  gd (ib (M.1 i0 3) 10) (
    gd (ib (M.1 (rf i0 0) (M.1 i0 3).toNatClampNeg) 10) (
      gd (ib (M.1 (rf i0 0) (M.1 i0 3).toNatClampNeg) 10) (
        mw (mI M (rf i0 1) (M.1 (rf i0 0) (M.1 i0 3).toNatClampNeg).toNatClampNeg ((M.1 (rf i0 1) (M.1 (rf i0 0) (M.1 i0 3).toNatClampNeg).toNatClampNeg) &&& (((1 : Int32) <<< (x1 &&& 31)) ^^^ (-1 : Int32)))) (fun N1 =>
          mw (mI N1 i0 4 ((N1.1 i0 4) ||| ((1 : Int32) <<< (x1 &&& 31)))) (fun N2 =>
            mw (mI N2 i0 5 ((N2.1 i0 5) ||| ((1 : Int32) <<< (x1 &&& 31)))) (fun N3 =>
              some ((), N3)))))))
set_option maxHeartbeats 4000000 in
set_option maxRecDepth 100000 in
theorem t_X12_take {X : Scr} {i0 : Nat} (h0 : KD[i0]? = some (.inl 12)) (x1 : Int32) (M : Mem) : T X eV (X12_take i0  x1 M) md_X12_take 0 [(0, .ref i0), (1, .int x1)] [] M := by
  unfold X12_take
  refine T_aload_n 0 dX12_take_0 rfl rfl ?_
  refine T_getR 1 FOk_12 h0 (by decide) (by decide) dX12_take_1 tb_714 ?_
  refine T_aload_n 0 dX12_take_4 rfl rfl ?_
  refine T_getR 0 FOk_12 h0 (by decide) (by decide) dX12_take_5 tb_713 ?_
  refine T_aload_n 0 dX12_take_8 rfl rfl ?_
  refine T_getI 3 FOk_12 h0 (by decide) (by decide) dX12_take_9 tb_716 ?_
  refine T_iald (kf_12_0 h0) dX12_take_12 ?_
  refine T_dup2 rfl rfl dX12_take_13 ?_
  refine T_iald (kf_12_1 h0) dX12_take_14 ?_
  refine T_iconst (v := (1 : Int32)) (by decide) dX12_take_15 ?_
  refine T_iload_n 1 dX12_take_16 rfl rfl ?_
  refine T_ishl dX12_take_17 ?_
  refine T_iconst (v := (-1 : Int32)) (by decide) dX12_take_18 ?_
  refine T_ixor dX12_take_19 ?_
  refine T_iand dX12_take_20 ?_
  refine T_iast (kf_12_1 h0) dX12_take_21 ?_
  refine T_mw (fun N1 => ?_)
  try dsimp only
  refine T_aload_n 0 dX12_take_22 rfl rfl ?_
  refine T_dup rfl dX12_take_23 ?_
  refine T_getI 4 FOk_12 h0 (by decide) (by decide) dX12_take_24 tb_717 ?_
  refine T_iconst (v := (1 : Int32)) (by decide) dX12_take_27 ?_
  refine T_iload_n 1 dX12_take_28 rfl rfl ?_
  refine T_ishl dX12_take_29 ?_
  refine T_ior dX12_take_30 ?_
  refine T_putI (ty := .int) 4 FOk_12 h0 (by decide) (by decide) rfl (by decide +kernel) rfl rfl dX12_take_31 tb_717 ?_
  refine T_mw (fun N2 => ?_)
  try dsimp only
  refine T_aload_n 0 dX12_take_34 rfl rfl ?_
  refine T_dup rfl dX12_take_35 ?_
  refine T_getI 5 FOk_12 h0 (by decide) (by decide) dX12_take_36 tb_718 ?_
  refine T_iconst (v := (1 : Int32)) (by decide) dX12_take_39 ?_
  refine T_iload_n 1 dX12_take_40 rfl rfl ?_
  refine T_ishl dX12_take_41 ?_
  refine T_ior dX12_take_42 ?_
  refine T_putI (ty := .int) 5 FOk_12 h0 (by decide) (by decide) rfl (by decide +kernel) rfl rfl dX12_take_43 tb_718 ?_
  refine T_mw (fun N3 => ?_)
  try dsimp only
  exact T_vret dX12_take_46 rfl
theorem C_X12_take {X : Scr} {i0 : Nat} (h0 : KD[i0]? = some (.inl 12)) (x1 : Int32) {M : Mem} {r : Unit} {M' : Mem} (h : X12_take i0 x1 M = some (r, M')) : Ct X md_X12_take [.ref i0, .int x1] M (eV r) M' := Ct_of (by decide +kernel) (Nat.le_of_ble_eq_true rfl) (t_X12_take h0 _ M) r M' h
-- X12_lay
def X12_lay (i0 : Nat)  (x1 : Int32) (M : Mem) : Option (Unit × Mem) :=
  gd (ib (M.1 i0 3) 10) (
    gd (ib (M.1 (rf i0 0) (M.1 i0 3).toNatClampNeg) 10) (
      gd (ib (M.1 (rf i0 0) (M.1 i0 3).toNatClampNeg) 10) (
        some ((), (mI (mI M (rf i0 1) (M.1 (rf i0 0) (M.1 i0 3).toNatClampNeg).toNatClampNeg ((M.1 (rf i0 1) (M.1 (rf i0 0) (M.1 i0 3).toNatClampNeg).toNatClampNeg) ||| ((1 : Int32) <<< (x1 &&& 31)))) i0 4 (((mI M (rf i0 1) (M.1 (rf i0 0) (M.1 i0 3).toNatClampNeg).toNatClampNeg ((M.1 (rf i0 1) (M.1 (rf i0 0) (M.1 i0 3).toNatClampNeg).toNatClampNeg) ||| ((1 : Int32) <<< (x1 &&& 31)))).1 i0 4) &&& (((1 : Int32) <<< (x1 &&& 31)) ^^^ (-1 : Int32))))))))
set_option maxHeartbeats 4000000 in
set_option maxRecDepth 100000 in
theorem t_X12_lay {X : Scr} {i0 : Nat} (h0 : KD[i0]? = some (.inl 12)) (x1 : Int32) (M : Mem) : T X eV (X12_lay i0  x1 M) md_X12_lay 0 [(0, .ref i0), (1, .int x1)] [] M := by
  unfold X12_lay
  refine T_aload_n 0 dX12_lay_0 rfl rfl ?_
  refine T_getR 1 FOk_12 h0 (by decide) (by decide) dX12_lay_1 tb_714 ?_
  refine T_aload_n 0 dX12_lay_4 rfl rfl ?_
  refine T_getR 0 FOk_12 h0 (by decide) (by decide) dX12_lay_5 tb_713 ?_
  refine T_aload_n 0 dX12_lay_8 rfl rfl ?_
  refine T_getI 3 FOk_12 h0 (by decide) (by decide) dX12_lay_9 tb_716 ?_
  refine T_iald (kf_12_0 h0) dX12_lay_12 ?_
  refine T_dup2 rfl rfl dX12_lay_13 ?_
  refine T_iald (kf_12_1 h0) dX12_lay_14 ?_
  refine T_iconst (v := (1 : Int32)) (by decide) dX12_lay_15 ?_
  refine T_iload_n 1 dX12_lay_16 rfl rfl ?_
  refine T_ishl dX12_lay_17 ?_
  refine T_ior dX12_lay_18 ?_
  refine T_iast (kf_12_1 h0) dX12_lay_19 ?_
  refine T_aload_n 0 dX12_lay_20 rfl rfl ?_
  refine T_dup rfl dX12_lay_21 ?_
  refine T_getI 4 FOk_12 h0 (by decide) (by decide) dX12_lay_22 tb_717 ?_
  refine T_iconst (v := (1 : Int32)) (by decide) dX12_lay_25 ?_
  refine T_iload_n 1 dX12_lay_26 rfl rfl ?_
  refine T_ishl dX12_lay_27 ?_
  refine T_iconst (v := (-1 : Int32)) (by decide) dX12_lay_28 ?_
  refine T_ixor dX12_lay_29 ?_
  refine T_iand dX12_lay_30 ?_
  refine T_putI (ty := .int) 4 FOk_12 h0 (by decide) (by decide) rfl (by decide +kernel) rfl rfl dX12_lay_31 tb_717 ?_
  exact T_vret dX12_lay_34 rfl
theorem C_X12_lay {X : Scr} {i0 : Nat} (h0 : KD[i0]? = some (.inl 12)) (x1 : Int32) {M : Mem} {r : Unit} {M' : Mem} (h : X12_lay i0 x1 M = some (r, M')) : Ct X md_X12_lay [.ref i0, .int x1] M (eV r) M' := Ct_of (by decide +kernel) (Nat.le_of_ble_eq_true rfl) (t_X12_lay h0 _ M) r M' h
