-- X11_basket
def X11_basket_b26 (i0 : Nat)   (M : Mem) : Option (Int32 × Mem) :=
  some ((-2 : Int32), M)
def X11_basket (i0 : Nat)  (x1 : Int32) (x2 : Int32) (x3 : Int32) (M : Mem) : Option (Int32 × Mem) :=
  (X11_isCabin  x1 M).bind (fun p1 =>
    if p1.1 = 0 then
      some ((-1 : Int32), p1.2)
    else
      (X11_isThingSet  x2 p1.2).bind (fun p2 =>
        if p2.1 = 0 then
          X11_basket_b26 i0   p2.2
        else
          (X11_isWithin  x3 (1 : Int32) (9 : Int32) p2.2).bind (fun p3 =>
            if p3.1 = 0 then
              X11_basket_b26 i0   p3.2
            else
              gd (ib x1 10) (
                gd (ib x1 10) (
                  gd (ib x1 10) (
                    gd (ib x1 10) (
                      some ((((10 : Int32) * (p3.2.1 (rf (rf i0 0) 1) x1.toNatClampNeg)) + (p3.2.1 (rf (rf i0 0) 2) x1.toNatClampNeg)), (mI (mI p3.2 (rf (rf i0 0) 1) x1.toNatClampNeg x2) (rf (rf i0 0) 2) x1.toNatClampNeg x3)))))))))
set_option maxHeartbeats 4000000 in
set_option maxRecDepth 100000 in
theorem t_X11_basket_b26 {X : Scr} {i0 : Nat} (h0 : KD[i0]? = some (.inl 11))  (M : Mem) : T X eI (X11_basket_b26 i0   M) md_X11_basket 26 [] [] M := by
  unfold X11_basket_b26
  refine T_bipush (v := (-2 : Int32)) (by decide) dX11_basket_26 ?_
  exact T_iret dX11_basket_28 rfl
set_option maxHeartbeats 4000000 in
set_option maxRecDepth 100000 in
theorem t_X11_basket {X : Scr} {i0 : Nat} (h0 : KD[i0]? = some (.inl 11)) (x1 : Int32) (x2 : Int32) (x3 : Int32) (M : Mem) : T X eI (X11_basket i0  x1 x2 x3 M) md_X11_basket 0 [(0, .ref i0), (1, .int x1), (2, .int x2), (3, .int x3)] [] M := by
  unfold X11_basket
  refine T_iload_n 1 dX11_basket_0 rfl rfl ?_
  refine T_callSI md_X11_isCabin [.int x1] [] dX11_basket_1 rfl ok_X11_isCabin tb_358 tb_359 (by decide) (Nat.le_of_ble_eq_true rfl) (fun _ _ h9 => C_X11_isCabin  _ h9) (fun r1 M1 => ?_)
  dsimp only
  refine T_if_ne 9 dX11_basket_4 (by decide) ?_ ?_
  ·
    refine T_iconst (v := (-1 : Int32)) (by decide) dX11_basket_7 ?_
    exact T_iret dX11_basket_8 rfl
  ·
    refine T_iload_n 2 dX11_basket_9 rfl rfl ?_
    refine T_callSI md_X11_isThingSet [.int x2] [] dX11_basket_10 rfl ok_X11_isThingSet tb_364 tb_365 (by decide) (Nat.le_of_ble_eq_true rfl) (fun _ _ h9 => C_X11_isThingSet  _ h9) (fun r2 M2 => ?_)
    dsimp only
    refine T_if_eq 26 dX11_basket_13 (by decide) ?_ ?_
    ·
      refine T_sub [] (lv' := []) rfl ?_
      exact t_X11_basket_b26 h0   _
    ·
      refine T_iload_n 3 dX11_basket_16 rfl rfl ?_
      refine T_iconst (v := (1 : Int32)) (by decide) dX11_basket_17 ?_
      refine T_bipush (v := (9 : Int32)) (by decide) dX11_basket_18 ?_
      refine T_callSI md_X11_isWithin [.int x3, .int (1 : Int32), .int (9 : Int32)] [] dX11_basket_20 rfl ok_X11_isWithin tb_361 tb_362 (by decide) (Nat.le_of_ble_eq_true rfl) (fun _ _ h9 => C_X11_isWithin  _ _ _ h9) (fun r3 M3 => ?_)
      dsimp only
      refine T_if_ne 29 dX11_basket_23 (by decide) ?_ ?_
      ·
        refine T_sub [] (lv' := []) rfl ?_
        exact t_X11_basket_b26 h0   _
      ·
        refine T_bipush (v := (10 : Int32)) (by decide) dX11_basket_29 ?_
        refine T_aload_n 0 dX11_basket_31 rfl rfl ?_
        refine T_getR 0 FOk_11 h0 (by decide) (by decide) dX11_basket_32 tb_317 ?_
        refine T_getR 1 FOk_0 (kf_11_0 h0) (by decide) (by decide) dX11_basket_35 tb_79 ?_
        refine T_iload_n 1 dX11_basket_38 rfl rfl ?_
        refine T_iald (kf_0_1 (kf_11_0 h0)) dX11_basket_39 ?_
        refine T_imul dX11_basket_40 ?_
        refine T_aload_n 0 dX11_basket_41 rfl rfl ?_
        refine T_getR 0 FOk_11 h0 (by decide) (by decide) dX11_basket_42 tb_317 ?_
        refine T_getR 2 FOk_0 (kf_11_0 h0) (by decide) (by decide) dX11_basket_45 tb_83 ?_
        refine T_iload_n 1 dX11_basket_48 rfl rfl ?_
        refine T_iald (kf_0_2 (kf_11_0 h0)) dX11_basket_49 ?_
        refine T_iadd dX11_basket_50 ?_
        refine T_istore [(4, .int (((10 : Int32) * (M3.1 (rf (rf i0 0) 1) x1.toNatClampNeg)) + (M3.1 (rf (rf i0 0) 2) x1.toNatClampNeg))), (0, .ref i0), (1, .int x1), (2, .int x2), (3, .int x3)] dX11_basket_51 (by decide) rfl ?_
        refine T_aload_n 1 dX11_basket_53 rfl rfl ?_
        refine T_getR 0 FOk_11 h0 (by decide) (by decide) dX11_basket_54 tb_317 ?_
        refine T_getR 1 FOk_0 (kf_11_0 h0) (by decide) (by decide) dX11_basket_57 tb_79 ?_
        refine T_iload_n 2 dX11_basket_60 rfl rfl ?_
        refine T_iload_n 3 dX11_basket_61 rfl rfl ?_
        refine T_iast (kf_0_1 (kf_11_0 h0)) dX11_basket_62 ?_
        refine T_aload_n 1 dX11_basket_63 rfl rfl ?_
        refine T_getR 0 FOk_11 h0 (by decide) (by decide) dX11_basket_64 tb_317 ?_
        refine T_getR 2 FOk_0 (kf_11_0 h0) (by decide) (by decide) dX11_basket_67 tb_83 ?_
        refine T_iload_n 2 dX11_basket_70 rfl rfl ?_
        refine T_iload_n 4 dX11_basket_71 rfl rfl ?_
        refine T_iast (kf_0_2 (kf_11_0 h0)) dX11_basket_72 ?_
        refine T_iload 0 dX11_basket_73 rfl ?_
        exact T_iret dX11_basket_75 rfl
theorem C_X11_basket {X : Scr} {i0 : Nat} (h0 : KD[i0]? = some (.inl 11)) (x1 : Int32) (x2 : Int32) (x3 : Int32) {M : Mem} {r : Int32} {M' : Mem} (h : X11_basket i0 x1 x2 x3 M = some (r, M')) : Ct X md_X11_basket [.ref i0, .int x1, .int x2, .int x3] M (eI r) M' := Ct_of (by decide +kernel) (Nat.le_of_ble_eq_true rfl) (t_X11_basket h0 _ _ _ M) r M' h
-- X11_right
def X11_right (i0 : Nat)   (M : Mem) : Option (Int32 × Mem) :=
  (X0_strangers (rf i0 0)  M).bind (fun p1 =>
    (X0_putRight (rf i0 0)  p1.2).bind (fun p2 =>
      some (p1.1, p2.2)))
set_option maxHeartbeats 4000000 in
set_option maxRecDepth 100000 in
theorem t_X11_right {X : Scr} {i0 : Nat} (h0 : KD[i0]? = some (.inl 11))  (M : Mem) : T X eI (X11_right i0   M) md_X11_right 0 [(0, .ref i0)] [] M := by
  unfold X11_right
  refine T_aload_n 0 dX11_right_0 rfl rfl ?_
  refine T_getR 0 FOk_11 h0 (by decide) (by decide) dX11_right_1 tb_317 ?_
  refine T_callVI md_X0_strangers [] [] dX11_right_4 (kf_11_0 h0) rfl rfl ok_X0_strangers tb_371 tb_372 tb_373 (by decide) (Nat.le_of_ble_eq_true rfl) (fun _ _ h9 => C_X0_strangers (kf_11_0 h0)  h9) (fun r1 M1 => ?_)
  dsimp only
  refine T_istore_n [(1, .int r1), (0, .ref i0)] dX11_right_7 rfl (by decide) rfl ?_
  refine T_aload_n 1 dX11_right_8 rfl rfl ?_
  refine T_getR 0 FOk_11 h0 (by decide) (by decide) dX11_right_9 tb_317 ?_
  refine T_callVU md_X0_putRight [] [] dX11_right_12 (kf_11_0 h0) rfl rfl ok_X0_putRight tb_375 tb_376 tb_377 (by decide) (Nat.le_of_ble_eq_true rfl) (fun _ _ h9 => C_X0_putRight (kf_11_0 h0)  h9) (fun r2 M2 => ?_)
  dsimp only
  refine T_iload_n 0 dX11_right_15 rfl rfl ?_
  exact T_iret dX11_right_16 rfl
theorem C_X11_right {X : Scr} {i0 : Nat} (h0 : KD[i0]? = some (.inl 11))  {M : Mem} {r : Int32} {M' : Mem} (h : X11_right i0  M = some (r, M')) : Ct X md_X11_right [.ref i0] M (eI r) M' := Ct_of (by decide +kernel) (Nat.le_of_ble_eq_true rfl) (t_X11_right h0  M) r M' h
-- X11_clock
def X11_clock_b20 (i0 : Nat)   (M : Mem) : Option (Int32 × Mem) :=
  some ((-2 : Int32), M)
def X11_clock (i0 : Nat)  (x1 : Int32) (x2 : Int32) (M : Mem) : Option (Int32 × Mem) :=
  (X11_isWithin  x1 (0 : Int32) (99 : Int32) M).bind (fun p1 =>
    if p1.1 = 0 then
      X11_clock_b20 i0   p1.2
    else
      (X11_isWithin  x2 (0 : Int32) (99 : Int32) p1.2).bind (fun p2 =>
        if p2.1 = 0 then
          X11_clock_b20 i0   p2.2
        else
          some ((((100 : Int32) * (p2.2.1 (rf i0 0) 6)) + (p2.2.1 (rf i0 0) 7)), (mI (mI p2.2 (rf i0 0) 6 x1) (rf i0 0) 7 x2))))
set_option maxHeartbeats 4000000 in
set_option maxRecDepth 100000 in
theorem t_X11_clock_b20 {X : Scr} {i0 : Nat} (h0 : KD[i0]? = some (.inl 11))  (M : Mem) : T X eI (X11_clock_b20 i0   M) md_X11_clock 20 [] [] M := by
  unfold X11_clock_b20
  refine T_bipush (v := (-2 : Int32)) (by decide) dX11_clock_20 ?_
  exact T_iret dX11_clock_22 rfl
set_option maxHeartbeats 4000000 in
set_option maxRecDepth 100000 in
theorem t_X11_clock {X : Scr} {i0 : Nat} (h0 : KD[i0]? = some (.inl 11)) (x1 : Int32) (x2 : Int32) (M : Mem) : T X eI (X11_clock i0  x1 x2 M) md_X11_clock 0 [(0, .ref i0), (1, .int x1), (2, .int x2)] [] M := by
  unfold X11_clock
  refine T_iload_n 1 dX11_clock_0 rfl rfl ?_
  refine T_iconst (v := (0 : Int32)) (by decide) dX11_clock_1 ?_
  refine T_bipush (v := (99 : Int32)) (by decide) dX11_clock_2 ?_
  refine T_callSI md_X11_isWithin [.int x1, .int (0 : Int32), .int (99 : Int32)] [] dX11_clock_4 rfl ok_X11_isWithin tb_361 tb_362 (by decide) (Nat.le_of_ble_eq_true rfl) (fun _ _ h9 => C_X11_isWithin  _ _ _ h9) (fun r1 M1 => ?_)
  dsimp only
  refine T_if_eq 20 dX11_clock_7 (by decide) ?_ ?_
  ·
    refine T_sub [] (lv' := []) rfl ?_
    exact t_X11_clock_b20 h0   _
  ·
    refine T_iload_n 2 dX11_clock_10 rfl rfl ?_
    refine T_iconst (v := (0 : Int32)) (by decide) dX11_clock_11 ?_
    refine T_bipush (v := (99 : Int32)) (by decide) dX11_clock_12 ?_
    refine T_callSI md_X11_isWithin [.int x2, .int (0 : Int32), .int (99 : Int32)] [] dX11_clock_14 rfl ok_X11_isWithin tb_361 tb_362 (by decide) (Nat.le_of_ble_eq_true rfl) (fun _ _ h9 => C_X11_isWithin  _ _ _ h9) (fun r2 M2 => ?_)
    dsimp only
    refine T_if_ne 23 dX11_clock_17 (by decide) ?_ ?_
    ·
      refine T_sub [] (lv' := []) rfl ?_
      exact t_X11_clock_b20 h0   _
    ·
      refine T_bipush (v := (100 : Int32)) (by decide) dX11_clock_23 ?_
      refine T_aload_n 0 dX11_clock_25 rfl rfl ?_
      refine T_getR 0 FOk_11 h0 (by decide) (by decide) dX11_clock_26 tb_317 ?_
      refine T_getI 6 FOk_0 (kf_11_0 h0) (by decide) (by decide) dX11_clock_29 tb_96 ?_
      refine T_imul dX11_clock_32 ?_
      refine T_aload_n 0 dX11_clock_33 rfl rfl ?_
      refine T_getR 0 FOk_11 h0 (by decide) (by decide) dX11_clock_34 tb_317 ?_
      refine T_getI 7 FOk_0 (kf_11_0 h0) (by decide) (by decide) dX11_clock_37 tb_99 ?_
      refine T_iadd dX11_clock_40 ?_
      refine T_istore_n [(3, .int (((100 : Int32) * (M2.1 (rf i0 0) 6)) + (M2.1 (rf i0 0) 7))), (0, .ref i0), (1, .int x1), (2, .int x2)] dX11_clock_41 rfl (by decide) rfl ?_
      refine T_aload_n 1 dX11_clock_42 rfl rfl ?_
      refine T_getR 0 FOk_11 h0 (by decide) (by decide) dX11_clock_43 tb_317 ?_
      refine T_iload_n 2 dX11_clock_46 rfl rfl ?_
      refine T_putI (ty := .int) 6 FOk_0 (kf_11_0 h0) (by decide) (by decide) rfl (by decide +kernel) rfl rfl dX11_clock_47 tb_96 ?_
      refine T_aload_n 1 dX11_clock_50 rfl rfl ?_
      refine T_getR 0 FOk_11 h0 (by decide) (by decide) dX11_clock_51 tb_317 ?_
      refine T_iload_n 3 dX11_clock_54 rfl rfl ?_
      refine T_putI (ty := .int) 7 FOk_0 (kf_11_0 h0) (by decide) (by decide) rfl (by decide +kernel) rfl rfl dX11_clock_55 tb_99 ?_
      refine T_iload_n 0 dX11_clock_58 rfl rfl ?_
      exact T_iret dX11_clock_59 rfl
theorem C_X11_clock {X : Scr} {i0 : Nat} (h0 : KD[i0]? = some (.inl 11)) (x1 : Int32) (x2 : Int32) {M : Mem} {r : Int32} {M' : Mem} (h : X11_clock i0 x1 x2 M = some (r, M')) : Ct X md_X11_clock [.ref i0, .int x1, .int x2] M (eI r) M' := Ct_of (by decide +kernel) (Nat.le_of_ble_eq_true rfl) (t_X11_clock h0 _ _ M) r M' h
-- X11_attendant
def X11_attendant_b23 (i0 : Nat)   (M : Mem) : Option (Int32 × Mem) :=
  some ((-2 : Int32), M)
def X11_attendant (i0 : Nat)  (x1 : Int32) (x2 : Int32) (x3 : Int32) (M : Mem) : Option (Int32 × Mem) :=
  (X11_isCabin  x1 M).bind (fun p1 =>
    if p1.1 = 0 then
      some ((-1 : Int32), p1.2)
    else
      (X11_isThingSet  x2 p1.2).bind (fun p2 =>
        if p2.1 = 0 then
          X11_attendant_b23 i0   p2.2
        else
          (X11_isThingSet  x3 p2.2).bind (fun p3 =>
            if p3.1 = 0 then
              X11_attendant_b23 i0   p3.2
            else
              some ((p3.2.1 (rf i0 0) 3), (mI (mI (mI p3.2 (rf i0 0) 3 x1) (rf i0 0) 4 x2) (rf i0 0) 5 x3)))))
set_option maxHeartbeats 4000000 in
set_option maxRecDepth 100000 in
theorem t_X11_attendant_b23 {X : Scr} {i0 : Nat} (h0 : KD[i0]? = some (.inl 11))  (M : Mem) : T X eI (X11_attendant_b23 i0   M) md_X11_attendant 23 [] [] M := by
  unfold X11_attendant_b23
  refine T_bipush (v := (-2 : Int32)) (by decide) dX11_attendant_23 ?_
  exact T_iret dX11_attendant_25 rfl
set_option maxHeartbeats 4000000 in
set_option maxRecDepth 100000 in
theorem t_X11_attendant {X : Scr} {i0 : Nat} (h0 : KD[i0]? = some (.inl 11)) (x1 : Int32) (x2 : Int32) (x3 : Int32) (M : Mem) : T X eI (X11_attendant i0  x1 x2 x3 M) md_X11_attendant 0 [(0, .ref i0), (1, .int x1), (2, .int x2), (3, .int x3)] [] M := by
  unfold X11_attendant
  refine T_iload_n 1 dX11_attendant_0 rfl rfl ?_
  refine T_callSI md_X11_isCabin [.int x1] [] dX11_attendant_1 rfl ok_X11_isCabin tb_358 tb_359 (by decide) (Nat.le_of_ble_eq_true rfl) (fun _ _ h9 => C_X11_isCabin  _ h9) (fun r1 M1 => ?_)
  dsimp only
  refine T_if_ne 9 dX11_attendant_4 (by decide) ?_ ?_
  ·
    refine T_iconst (v := (-1 : Int32)) (by decide) dX11_attendant_7 ?_
    exact T_iret dX11_attendant_8 rfl
  ·
    refine T_iload_n 2 dX11_attendant_9 rfl rfl ?_
    refine T_callSI md_X11_isThingSet [.int x2] [] dX11_attendant_10 rfl ok_X11_isThingSet tb_364 tb_365 (by decide) (Nat.le_of_ble_eq_true rfl) (fun _ _ h9 => C_X11_isThingSet  _ h9) (fun r2 M2 => ?_)
    dsimp only
    refine T_if_eq 23 dX11_attendant_13 (by decide) ?_ ?_
    ·
      refine T_sub [] (lv' := []) rfl ?_
      exact t_X11_attendant_b23 h0   _
    ·
      refine T_iload_n 3 dX11_attendant_16 rfl rfl ?_
      refine T_callSI md_X11_isThingSet [.int x3] [] dX11_attendant_17 rfl ok_X11_isThingSet tb_364 tb_365 (by decide) (Nat.le_of_ble_eq_true rfl) (fun _ _ h9 => C_X11_isThingSet  _ h9) (fun r3 M3 => ?_)
      dsimp only
      refine T_if_ne 26 dX11_attendant_20 (by decide) ?_ ?_
      ·
        refine T_sub [] (lv' := []) rfl ?_
        exact t_X11_attendant_b23 h0   _
      ·
        refine T_aload_n 0 dX11_attendant_26 rfl rfl ?_
        refine T_getR 0 FOk_11 h0 (by decide) (by decide) dX11_attendant_27 tb_317 ?_
        refine T_getI 3 FOk_0 (kf_11_0 h0) (by decide) (by decide) dX11_attendant_30 tb_88 ?_
        refine T_istore [(4, .int (M3.1 (rf i0 0) 3)), (0, .ref i0), (1, .int x1), (2, .int x2), (3, .int x3)] dX11_attendant_33 (by decide) rfl ?_
        refine T_aload_n 1 dX11_attendant_35 rfl rfl ?_
        refine T_getR 0 FOk_11 h0 (by decide) (by decide) dX11_attendant_36 tb_317 ?_
        refine T_iload_n 2 dX11_attendant_39 rfl rfl ?_
        refine T_putI (ty := .int) 3 FOk_0 (kf_11_0 h0) (by decide) (by decide) rfl (by decide +kernel) rfl rfl dX11_attendant_40 tb_88 ?_
        refine T_aload_n 1 dX11_attendant_43 rfl rfl ?_
        refine T_getR 0 FOk_11 h0 (by decide) (by decide) dX11_attendant_44 tb_317 ?_
        refine T_iload_n 3 dX11_attendant_47 rfl rfl ?_
        refine T_putI (ty := .int) 4 FOk_0 (kf_11_0 h0) (by decide) (by decide) rfl (by decide +kernel) rfl rfl dX11_attendant_48 tb_90 ?_
        refine T_aload_n 1 dX11_attendant_51 rfl rfl ?_
        refine T_getR 0 FOk_11 h0 (by decide) (by decide) dX11_attendant_52 tb_317 ?_
        refine T_iload_n 4 dX11_attendant_55 rfl rfl ?_
        refine T_putI (ty := .int) 5 FOk_0 (kf_11_0 h0) (by decide) (by decide) rfl (by decide +kernel) rfl rfl dX11_attendant_56 tb_93 ?_
        refine T_iload 0 dX11_attendant_59 rfl ?_
        exact T_iret dX11_attendant_61 rfl
theorem C_X11_attendant {X : Scr} {i0 : Nat} (h0 : KD[i0]? = some (.inl 11)) (x1 : Int32) (x2 : Int32) (x3 : Int32) {M : Mem} {r : Int32} {M' : Mem} (h : X11_attendant i0 x1 x2 x3 M = some (r, M')) : Ct X md_X11_attendant [.ref i0, .int x1, .int x2, .int x3] M (eI r) M' := Ct_of (by decide +kernel) (Nat.le_of_ble_eq_true rfl) (t_X11_attendant h0 _ _ _ M) r M' h
-- X11_say
def X11_say_b37 (i0 : Nat)  (s0 : Int32) (M : Mem) : Option (Int32 × Mem) :=
  some (s0, M)
def X11_say (i0 : Nat)  (x1 : Int32) (M : Mem) : Option (Int32 × Mem) :=
  (X11_isWithin  x1 (33 : Int32) (126 : Int32) M).bind (fun p1 =>
    if p1.1 = 0 then
      some ((-2 : Int32), p1.2)
    else
      (X8_write (rf i0 2) x1 p1.2).bind (fun p2 =>
        if p2.1 = 0 then
          X11_say_b37 i0  (-4 : Int32) p2.2
        else
          X11_say_b37 i0  (p2.2.1 (rf i0 2) 1) p2.2))
set_option maxHeartbeats 4000000 in
set_option maxRecDepth 100000 in
theorem t_X11_say_b37 {X : Scr} {i0 : Nat} (h0 : KD[i0]? = some (.inl 11)) (s0 : Int32) (M : Mem) : T X eI (X11_say_b37 i0  s0 M) md_X11_say 37 [] [.int s0] M := by
  unfold X11_say_b37
  exact T_iret dX11_say_37 rfl
set_option maxHeartbeats 4000000 in
set_option maxRecDepth 100000 in
theorem t_X11_say {X : Scr} {i0 : Nat} (h0 : KD[i0]? = some (.inl 11)) (x1 : Int32) (M : Mem) : T X eI (X11_say i0  x1 M) md_X11_say 0 [(0, .ref i0), (1, .int x1)] [] M := by
  unfold X11_say
  refine T_iload_n 1 dX11_say_0 rfl rfl ?_
  refine T_bipush (v := (33 : Int32)) (by decide) dX11_say_1 ?_
  refine T_bipush (v := (126 : Int32)) (by decide) dX11_say_3 ?_
  refine T_callSI md_X11_isWithin [.int x1, .int (33 : Int32), .int (126 : Int32)] [] dX11_say_5 rfl ok_X11_isWithin tb_361 tb_362 (by decide) (Nat.le_of_ble_eq_true rfl) (fun _ _ h9 => C_X11_isWithin  _ _ _ h9) (fun r1 M1 => ?_)
  dsimp only
  refine T_if_ne 14 dX11_say_8 (by decide) ?_ ?_
  ·
    refine T_bipush (v := (-2 : Int32)) (by decide) dX11_say_11 ?_
    exact T_iret dX11_say_13 rfl
  ·
    refine T_aload_n 0 dX11_say_14 rfl rfl ?_
    refine T_getR 2 FOk_11 h0 (by decide) (by decide) dX11_say_15 tb_319 ?_
    refine T_iload_n 1 dX11_say_18 rfl rfl ?_
    refine T_callVI md_X8_write [.int x1] [] dX11_say_19 (kf_11_2 h0) rfl rfl ok_X8_write tb_391 tb_392 tb_393 (by decide) (Nat.le_of_ble_eq_true rfl) (fun _ _ h9 => C_X8_write (kf_11_2 h0) _ h9) (fun r2 M2 => ?_)
    dsimp only
    refine T_if_eq 35 dX11_say_22 (by decide) ?_ ?_
    ·
      refine T_bipush (v := (-4 : Int32)) (by decide) dX11_say_35 ?_
      refine T_sub [] (lv' := []) rfl ?_
      exact t_X11_say_b37 h0  _ _
    ·
      refine T_aload_n 0 dX11_say_25 rfl rfl ?_
      refine T_getR 2 FOk_11 h0 (by decide) (by decide) dX11_say_26 tb_319 ?_
      refine T_getI 1 FOk_8 (kf_11_2 h0) (by decide) (by decide) dX11_say_29 tb_147 ?_
      refine T_goto 37 dX11_say_32 (by decide) ?_
      refine T_sub [] (lv' := []) rfl ?_
      exact t_X11_say_b37 h0  _ _
theorem C_X11_say {X : Scr} {i0 : Nat} (h0 : KD[i0]? = some (.inl 11)) (x1 : Int32) {M : Mem} {r : Int32} {M' : Mem} (h : X11_say i0 x1 M = some (r, M')) : Ct X md_X11_say [.ref i0, .int x1] M (eI r) M' := Ct_of (by decide +kernel) (Nat.le_of_ble_eq_true rfl) (t_X11_say h0 _ M) r M' h
-- X11_wipe
def X11_wipe (i0 : Nat)   (M : Mem) : Option (Int32 × Mem) :=
  some ((M.1 (rf i0 2) 1), (mI M (rf i0 2) 1 (0 : Int32)))
set_option maxHeartbeats 4000000 in
set_option maxRecDepth 100000 in
theorem t_X11_wipe {X : Scr} {i0 : Nat} (h0 : KD[i0]? = some (.inl 11))  (M : Mem) : T X eI (X11_wipe i0   M) md_X11_wipe 0 [(0, .ref i0)] [] M := by
  unfold X11_wipe
  refine T_aload_n 0 dX11_wipe_0 rfl rfl ?_
  refine T_getR 2 FOk_11 h0 (by decide) (by decide) dX11_wipe_1 tb_319 ?_
  refine T_getI 1 FOk_8 (kf_11_2 h0) (by decide) (by decide) dX11_wipe_4 tb_147 ?_
  refine T_istore_n [(1, .int (M.1 (rf i0 2) 1)), (0, .ref i0)] dX11_wipe_7 rfl (by decide) rfl ?_
  refine T_aload_n 1 dX11_wipe_8 rfl rfl ?_
  refine T_getR 2 FOk_11 h0 (by decide) (by decide) dX11_wipe_9 tb_319 ?_
  refine T_iconst (v := (0 : Int32)) (by decide) dX11_wipe_12 ?_
  refine T_putI (ty := .int) 1 FOk_8 (kf_11_2 h0) (by decide) (by decide) rfl (by decide +kernel) rfl rfl dX11_wipe_13 tb_147 ?_
  refine T_iload_n 0 dX11_wipe_16 rfl rfl ?_
  exact T_iret dX11_wipe_17 rfl
theorem C_X11_wipe {X : Scr} {i0 : Nat} (h0 : KD[i0]? = some (.inl 11))  {M : Mem} {r : Int32} {M' : Mem} (h : X11_wipe i0  M = some (r, M')) : Ct X md_X11_wipe [.ref i0] M (eI r) M' := Ct_of (by decide +kernel) (Nat.le_of_ble_eq_true rfl) (t_X11_wipe h0  M) r M' h
-- X11_fault
def X11_fault (i0 : Nat)   (M : Mem) : Option (Int32 × Mem) :=
  (X8_faultPlace (rf i0 2)  M).bind (fun p1 =>
    some (p1.1, p1.2))
set_option maxHeartbeats 4000000 in
set_option maxRecDepth 100000 in
theorem t_X11_fault {X : Scr} {i0 : Nat} (h0 : KD[i0]? = some (.inl 11))  (M : Mem) : T X eI (X11_fault i0   M) md_X11_fault 0 [(0, .ref i0)] [] M := by
  unfold X11_fault
  refine T_aload_n 0 dX11_fault_0 rfl rfl ?_
  refine T_getR 2 FOk_11 h0 (by decide) (by decide) dX11_fault_1 tb_319 ?_
  refine T_callVI md_X8_faultPlace [] [] dX11_fault_4 (kf_11_2 h0) rfl rfl ok_X8_faultPlace tb_403 tb_404 tb_405 (by decide) (Nat.le_of_ble_eq_true rfl) (fun _ _ h9 => C_X8_faultPlace (kf_11_2 h0)  h9) (fun r1 M1 => ?_)
  dsimp only
  exact T_iret dX11_fault_7 rfl
theorem C_X11_fault {X : Scr} {i0 : Nat} (h0 : KD[i0]? = some (.inl 11))  {M : Mem} {r : Int32} {M' : Mem} (h : X11_fault i0  M = some (r, M')) : Ct X md_X11_fault [.ref i0] M (eI r) M' := Ct_of (by decide +kernel) (Nat.le_of_ble_eq_true rfl) (t_X11_fault h0  M) r M' h
-- X11_playEvening
def X11_playEvening_b48 (i0 : Nat)  (s0 : Int32) (M : Mem) : Option (Int32 × Mem) :=
  some (s0, M)
def X11_playEvening (i0 : Nat)   (M : Mem) : Option (Int32 × Mem) :=
  (X8_faultPlace (rf i0 2)  M).bind (fun p1 =>
    if p1.1 = (-6 : Int32) then
      (X2_play (rf i0 5) (rf i0 0) (rf i0 2)  p1.2).bind (fun p2 =>
        if (p2.2.1 (rf i0 5) 2) = (-6 : Int32) then
          X11_playEvening_b48 i0  (0 : Int32) p2.2
        else
          X11_playEvening_b48 i0  (-3 : Int32) p2.2)
    else
      some ((-5 : Int32), p1.2))
set_option maxHeartbeats 4000000 in
set_option maxRecDepth 100000 in
theorem t_X11_playEvening_b48 {X : Scr} {i0 : Nat} (h0 : KD[i0]? = some (.inl 11)) (s0 : Int32) (M : Mem) : T X eI (X11_playEvening_b48 i0  s0 M) md_X11_playEvening 48 [] [.int s0] M := by
  unfold X11_playEvening_b48
  exact T_iret dX11_playEvening_48 rfl
set_option maxHeartbeats 4000000 in
set_option maxRecDepth 100000 in
theorem t_X11_playEvening {X : Scr} {i0 : Nat} (h0 : KD[i0]? = some (.inl 11))  (M : Mem) : T X eI (X11_playEvening i0   M) md_X11_playEvening 0 [(0, .ref i0)] [] M := by
  unfold X11_playEvening
  refine T_aload_n 0 dX11_playEvening_0 rfl rfl ?_
  refine T_getR 2 FOk_11 h0 (by decide) (by decide) dX11_playEvening_1 tb_319 ?_
  refine T_callVI md_X8_faultPlace [] [] dX11_playEvening_4 (kf_11_2 h0) rfl rfl ok_X8_faultPlace tb_403 tb_404 tb_405 (by decide) (Nat.le_of_ble_eq_true rfl) (fun _ _ h9 => C_X8_faultPlace (kf_11_2 h0)  h9) (fun r1 M1 => ?_)
  dsimp only
  refine T_bipush (v := (-6 : Int32)) (by decide) dX11_playEvening_7 ?_
  refine T_icmp_eq 15 dX11_playEvening_9 (by decide) ?_ ?_
  ·
    refine T_aload_n 0 dX11_playEvening_15 rfl rfl ?_
    refine T_getR 5 FOk_11 h0 (by decide) (by decide) dX11_playEvening_16 tb_322 ?_
    refine T_aload_n 0 dX11_playEvening_19 rfl rfl ?_
    refine T_getR 0 FOk_11 h0 (by decide) (by decide) dX11_playEvening_20 tb_317 ?_
    refine T_aload_n 0 dX11_playEvening_23 rfl rfl ?_
    refine T_getR 2 FOk_11 h0 (by decide) (by decide) dX11_playEvening_24 tb_319 ?_
    refine T_callVU md_X2_play [.ref (rf i0 0), .ref (rf i0 2)] [] dX11_playEvening_27 (kf_11_5 h0) rfl rfl ok_X2_play tb_431 tb_432 tb_433 (by decide) (Nat.le_of_ble_eq_true rfl) (fun _ _ h9 => C_X2_play (kf_11_5 h0) (kf_11_0 h0) (kf_11_2 h0)  h9) (fun r2 M2 => ?_)
    dsimp only
    refine T_aload_n 0 dX11_playEvening_30 rfl rfl ?_
    refine T_getR 5 FOk_11 h0 (by decide) (by decide) dX11_playEvening_31 tb_322 ?_
    refine T_getI 2 FOk_2 (kf_11_5 h0) (by decide) (by decide) dX11_playEvening_34 tb_188 ?_
    refine T_bipush (v := (-6 : Int32)) (by decide) dX11_playEvening_37 ?_
    refine T_icmp_ne 46 dX11_playEvening_39 (by decide) ?_ ?_
    ·
      refine T_iconst (v := (0 : Int32)) (by decide) dX11_playEvening_42 ?_
      refine T_goto 48 dX11_playEvening_43 (by decide) ?_
      refine T_sub [] (lv' := []) rfl ?_
      exact t_X11_playEvening_b48 h0  _ _
    ·
      refine T_bipush (v := (-3 : Int32)) (by decide) dX11_playEvening_46 ?_
      refine T_sub [] (lv' := []) rfl ?_
      exact t_X11_playEvening_b48 h0  _ _
  ·
    refine T_bipush (v := (-5 : Int32)) (by decide) dX11_playEvening_12 ?_
    exact T_iret dX11_playEvening_14 rfl
theorem C_X11_playEvening {X : Scr} {i0 : Nat} (h0 : KD[i0]? = some (.inl 11))  {M : Mem} {r : Int32} {M' : Mem} (h : X11_playEvening i0  M = some (r, M')) : Ct X md_X11_playEvening [.ref i0] M (eI r) M' := Ct_of (by decide +kernel) (Nat.le_of_ble_eq_true rfl) (t_X11_playEvening h0  M) r M' h
-- X11_judge
def X11_judge_b34 (i0 : Nat)  (x2 : Int32) (M : Mem) : Option (Int32 × Mem) :=
  some (x2, M)
def X11_judge_b70 (i0 : Nat)  (s0 : Int32) (M : Mem) : Option (Int32 × Mem) :=
  some (s0, M)
def X11_judge_b36 (i0 : Nat)  (x1 : Int32) (M : Mem) : Option (Int32 × Mem) :=
  if x1 = (2 : Int32) then
    some ((M.1 (rf i0 5) 4), M)
  else
    if x1 = 0 then
      X11_judge_b70 i0  (M.1 (rf i0 5) 2) M
    else
      X11_judge_b70 i0  (M.1 (rf i0 5) 3) M
def X11_judge (i0 : Nat)  (x1 : Int32) (M : Mem) : Option (Int32 × Mem) :=
  (X11_isWithin  x1 (0 : Int32) (2 : Int32) M).bind (fun p1 =>
    if p1.1 = 0 then
      some ((-2 : Int32), p1.2)
    else
      (X11_playEvening i0  p1.2).bind (fun p2 =>
        if p2.1 = (-5 : Int32) then
          X11_judge_b34 i0  p2.1 p2.2
        else
          if x1 = (2 : Int32) then
            if p2.1 = (-3 : Int32) then
              X11_judge_b34 i0  p2.1 p2.2
            else
              X11_judge_b36 i0  x1 p2.2
          else
            X11_judge_b36 i0  x1 p2.2))
set_option maxHeartbeats 4000000 in
set_option maxRecDepth 100000 in
theorem t_X11_judge_b34 {X : Scr} {i0 : Nat} (h0 : KD[i0]? = some (.inl 11)) (x2 : Int32) (M : Mem) : T X eI (X11_judge_b34 i0  x2 M) md_X11_judge 34 [(2, .int x2)] [] M := by
  unfold X11_judge_b34
  refine T_iload_n 0 dX11_judge_34 rfl rfl ?_
  exact T_iret dX11_judge_35 rfl
set_option maxHeartbeats 4000000 in
set_option maxRecDepth 100000 in
theorem t_X11_judge_b70 {X : Scr} {i0 : Nat} (h0 : KD[i0]? = some (.inl 11)) (s0 : Int32) (M : Mem) : T X eI (X11_judge_b70 i0  s0 M) md_X11_judge 70 [] [.int s0] M := by
  unfold X11_judge_b70
  exact T_iret dX11_judge_70 rfl
set_option maxHeartbeats 4000000 in
set_option maxRecDepth 100000 in
theorem t_X11_judge_b36 {X : Scr} {i0 : Nat} (h0 : KD[i0]? = some (.inl 11)) (x1 : Int32) (M : Mem) : T X eI (X11_judge_b36 i0  x1 M) md_X11_judge 36 [(0, .ref i0), (1, .int x1)] [] M := by
  unfold X11_judge_b36
  refine T_iload_n 1 dX11_judge_36 rfl rfl ?_
  refine T_iconst (v := (2 : Int32)) (by decide) dX11_judge_37 ?_
  refine T_icmp_ne 49 dX11_judge_38 (by decide) ?_ ?_
  ·
    refine T_aload_n 0 dX11_judge_41 rfl rfl ?_
    refine T_getR 5 FOk_11 h0 (by decide) (by decide) dX11_judge_42 tb_322 ?_
    refine T_getI 4 FOk_2 (kf_11_5 h0) (by decide) (by decide) dX11_judge_45 tb_192 ?_
    exact T_iret dX11_judge_48 rfl
  ·
    refine T_iload_n 1 dX11_judge_49 rfl rfl ?_
    refine T_if_ne 63 dX11_judge_50 (by decide) ?_ ?_
    ·
      refine T_aload_n 0 dX11_judge_53 rfl rfl ?_
      refine T_getR 5 FOk_11 h0 (by decide) (by decide) dX11_judge_54 tb_322 ?_
      refine T_getI 2 FOk_2 (kf_11_5 h0) (by decide) (by decide) dX11_judge_57 tb_188 ?_
      refine T_goto 70 dX11_judge_60 (by decide) ?_
      refine T_sub [] (lv' := []) rfl ?_
      exact t_X11_judge_b70 h0  _ _
    ·
      refine T_aload_n 0 dX11_judge_63 rfl rfl ?_
      refine T_getR 5 FOk_11 h0 (by decide) (by decide) dX11_judge_64 tb_322 ?_
      refine T_getI 3 FOk_2 (kf_11_5 h0) (by decide) (by decide) dX11_judge_67 tb_190 ?_
      refine T_sub [] (lv' := []) rfl ?_
      exact t_X11_judge_b70 h0  _ _
set_option maxHeartbeats 4000000 in
set_option maxRecDepth 100000 in
theorem t_X11_judge {X : Scr} {i0 : Nat} (h0 : KD[i0]? = some (.inl 11)) (x1 : Int32) (M : Mem) : T X eI (X11_judge i0  x1 M) md_X11_judge 0 [(0, .ref i0), (1, .int x1)] [] M := by
  unfold X11_judge
  refine T_iload_n 1 dX11_judge_0 rfl rfl ?_
  refine T_iconst (v := (0 : Int32)) (by decide) dX11_judge_1 ?_
  refine T_iconst (v := (2 : Int32)) (by decide) dX11_judge_2 ?_
  refine T_callSI md_X11_isWithin [.int x1, .int (0 : Int32), .int (2 : Int32)] [] dX11_judge_3 rfl ok_X11_isWithin tb_361 tb_362 (by decide) (Nat.le_of_ble_eq_true rfl) (fun _ _ h9 => C_X11_isWithin  _ _ _ h9) (fun r1 M1 => ?_)
  dsimp only
  refine T_if_ne 12 dX11_judge_6 (by decide) ?_ ?_
  ·
    refine T_bipush (v := (-2 : Int32)) (by decide) dX11_judge_9 ?_
    exact T_iret dX11_judge_11 rfl
  ·
    refine T_aload_n 0 dX11_judge_12 rfl rfl ?_
    refine T_callVI md_X11_playEvening [] [] dX11_judge_13 h0 rfl rfl ok_X11_playEvening tb_427 tb_429 tb_0 (by decide) (Nat.le_of_ble_eq_true rfl) (fun _ _ h9 => C_X11_playEvening h0  h9) (fun r2 M2 => ?_)
    dsimp only
    refine T_istore_n [(2, .int r2), (0, .ref i0), (1, .int x1)] dX11_judge_16 rfl (by decide) rfl ?_
    refine T_iload_n 0 dX11_judge_17 rfl rfl ?_
    refine T_bipush (v := (-5 : Int32)) (by decide) dX11_judge_18 ?_
    refine T_icmp_eq 34 dX11_judge_20 (by decide) ?_ ?_
    ·
      refine T_sub [0] (lv' := [(2, .int r2)]) rfl ?_
      exact t_X11_judge_b34 h0  _ _
    ·
      refine T_iload_n 2 dX11_judge_23 rfl rfl ?_
      refine T_iconst (v := (2 : Int32)) (by decide) dX11_judge_24 ?_
      refine T_icmp_ne 36 dX11_judge_25 (by decide) ?_ ?_
      ·
        refine T_iload_n 0 dX11_judge_28 rfl rfl ?_
        refine T_bipush (v := (-3 : Int32)) (by decide) dX11_judge_29 ?_
        refine T_icmp_ne 36 dX11_judge_31 (by decide) ?_ ?_
        ·
          refine T_sub [0] (lv' := [(2, .int r2)]) rfl ?_
          exact t_X11_judge_b34 h0  _ _
        ·
          refine T_sub [1, 2] (lv' := [(0, .ref i0), (1, .int x1)]) rfl ?_
          exact t_X11_judge_b36 h0  _ _
      ·
        refine T_sub [1, 2] (lv' := [(0, .ref i0), (1, .int x1)]) rfl ?_
        exact t_X11_judge_b36 h0  _ _
theorem C_X11_judge {X : Scr} {i0 : Nat} (h0 : KD[i0]? = some (.inl 11)) (x1 : Int32) {M : Mem} {r : Int32} {M' : Mem} (h : X11_judge i0 x1 M = some (r, M')) : Ct X md_X11_judge [.ref i0, .int x1] M (eI r) M' := Ct_of (by decide +kernel) (Nat.le_of_ble_eq_true rfl) (t_X11_judge h0 _ M) r M' h
-- X11_behind
def X11_behind_b68 (i0 : Nat)  (s0 : Int32) (M : Mem) : Option (Int32 × Mem) :=
  some (s0, M)
def X11_behind (i0 : Nat)  (x1 : Int32) (x2 : Int32) (M : Mem) : Option (Int32 × Mem) :=
  (X11_isCabin  x1 M).bind (fun p1 =>
    if p1.1 = 0 then
      some ((-1 : Int32), p1.2)
    else
      (X11_isWithin  x2 (0 : Int32) (1 : Int32) p1.2).bind (fun p2 =>
        if p2.1 = 0 then
          some ((-2 : Int32), p2.2)
        else
          (X11_playEvening i0  p2.2).bind (fun p3 =>
            if p3.1 = 0 then
              gd (ib x1 10) (
                if x2 = 0 then
                  X11_behind_b68 i0  (p3.2.1 (rf (rf (rf i0 5) 0) 0) x1.toNatClampNeg) p3.2
                else
                  gd (ib (p3.2.1 (rf (rf (rf i0 5) 0) 0) x1.toNatClampNeg) 10) (
                    X11_behind_b68 i0  (p3.2.1 (rf (rf (rf i0 5) 0) 1) (p3.2.1 (rf (rf (rf i0 5) 0) 0) x1.toNatClampNeg).toNatClampNeg) p3.2))
            else
              some (p3.1, p3.2))))
set_option maxHeartbeats 4000000 in
set_option maxRecDepth 100000 in
theorem t_X11_behind_b68 {X : Scr} {i0 : Nat} (h0 : KD[i0]? = some (.inl 11)) (s0 : Int32) (M : Mem) : T X eI (X11_behind_b68 i0  s0 M) md_X11_behind 68 [] [.int s0] M := by
  unfold X11_behind_b68
  exact T_iret dX11_behind_68 rfl
set_option maxHeartbeats 4000000 in
set_option maxRecDepth 100000 in
theorem t_X11_behind {X : Scr} {i0 : Nat} (h0 : KD[i0]? = some (.inl 11)) (x1 : Int32) (x2 : Int32) (M : Mem) : T X eI (X11_behind i0  x1 x2 M) md_X11_behind 0 [(0, .ref i0), (1, .int x1), (2, .int x2)] [] M := by
  unfold X11_behind
  refine T_iload_n 1 dX11_behind_0 rfl rfl ?_
  refine T_callSI md_X11_isCabin [.int x1] [] dX11_behind_1 rfl ok_X11_isCabin tb_358 tb_359 (by decide) (Nat.le_of_ble_eq_true rfl) (fun _ _ h9 => C_X11_isCabin  _ h9) (fun r1 M1 => ?_)
  dsimp only
  refine T_if_ne 9 dX11_behind_4 (by decide) ?_ ?_
  ·
    refine T_iconst (v := (-1 : Int32)) (by decide) dX11_behind_7 ?_
    exact T_iret dX11_behind_8 rfl
  ·
    refine T_iload_n 2 dX11_behind_9 rfl rfl ?_
    refine T_iconst (v := (0 : Int32)) (by decide) dX11_behind_10 ?_
    refine T_iconst (v := (1 : Int32)) (by decide) dX11_behind_11 ?_
    refine T_callSI md_X11_isWithin [.int x2, .int (0 : Int32), .int (1 : Int32)] [] dX11_behind_12 rfl ok_X11_isWithin tb_361 tb_362 (by decide) (Nat.le_of_ble_eq_true rfl) (fun _ _ h9 => C_X11_isWithin  _ _ _ h9) (fun r2 M2 => ?_)
    dsimp only
    refine T_if_ne 21 dX11_behind_15 (by decide) ?_ ?_
    ·
      refine T_bipush (v := (-2 : Int32)) (by decide) dX11_behind_18 ?_
      exact T_iret dX11_behind_20 rfl
    ·
      refine T_aload_n 0 dX11_behind_21 rfl rfl ?_
      refine T_callVI md_X11_playEvening [] [] dX11_behind_22 h0 rfl rfl ok_X11_playEvening tb_427 tb_429 tb_0 (by decide) (Nat.le_of_ble_eq_true rfl) (fun _ _ h9 => C_X11_playEvening h0  h9) (fun r3 M3 => ?_)
      dsimp only
      refine T_istore_n [(3, .int r3), (0, .ref i0), (1, .int x1), (2, .int x2)] dX11_behind_25 rfl (by decide) rfl ?_
      refine T_iload_n 0 dX11_behind_26 rfl rfl ?_
      refine T_if_eq 32 dX11_behind_27 (by decide) ?_ ?_
      ·
        refine T_aload_n 1 dX11_behind_32 rfl rfl ?_
        refine T_getR 5 FOk_11 h0 (by decide) (by decide) dX11_behind_33 tb_322 ?_
        refine T_getR 0 FOk_2 (kf_11_5 h0) (by decide) (by decide) dX11_behind_36 tb_184 ?_
        refine T_getR 0 FOk_0 (kf_2_0 (kf_11_5 h0)) (by decide) (by decide) dX11_behind_39 tb_77 ?_
        refine T_iload_n 2 dX11_behind_42 rfl rfl ?_
        refine T_iald (kf_0_0 (kf_2_0 (kf_11_5 h0))) dX11_behind_43 ?_
        refine T_istore [(4, .int (M3.1 (rf (rf (rf i0 5) 0) 0) x1.toNatClampNeg)), (3, .int r3), (0, .ref i0), (1, .int x1), (2, .int x2)] dX11_behind_44 (by decide) rfl ?_
        refine T_iload_n 4 dX11_behind_46 rfl rfl ?_
        refine T_if_ne 55 dX11_behind_47 (by decide) ?_ ?_
        ·
          refine T_iload 0 dX11_behind_50 rfl ?_
          refine T_goto 68 dX11_behind_52 (by decide) ?_
          refine T_sub [] (lv' := []) rfl ?_
          exact t_X11_behind_b68 h0  _ _
        ·
          refine T_aload_n 2 dX11_behind_55 rfl rfl ?_
          refine T_getR 5 FOk_11 h0 (by decide) (by decide) dX11_behind_56 tb_322 ?_
          refine T_getR 0 FOk_2 (kf_11_5 h0) (by decide) (by decide) dX11_behind_59 tb_184 ?_
          refine T_getR 1 FOk_0 (kf_2_0 (kf_11_5 h0)) (by decide) (by decide) dX11_behind_62 tb_79 ?_
          refine T_iload 0 dX11_behind_65 rfl ?_
          refine T_iald (kf_0_1 (kf_2_0 (kf_11_5 h0))) dX11_behind_67 ?_
          refine T_sub [] (lv' := []) rfl ?_
          exact t_X11_behind_b68 h0  _ _
      ·
        refine T_iload_n 0 dX11_behind_30 rfl rfl ?_
        exact T_iret dX11_behind_31 rfl
theorem C_X11_behind {X : Scr} {i0 : Nat} (h0 : KD[i0]? = some (.inl 11)) (x1 : Int32) (x2 : Int32) {M : Mem} {r : Int32} {M' : Mem} (h : X11_behind i0 x1 x2 M = some (r, M')) : Ct X md_X11_behind [.ref i0, .int x1, .int x2] M (eI r) M' := Ct_of (by decide +kernel) (Nat.le_of_ble_eq_true rfl) (t_X11_behind h0 _ _ M) r M' h
-- X11_his
def X11_his (i0 : Nat)  (x1 : Int32) (M : Mem) : Option (Int32 × Mem) :=
  (X11_isWithin  x1 (0 : Int32) (3 : Int32) M).bind (fun p1 =>
    if p1.1 = 0 then
      some ((-2 : Int32), p1.2)
    else
      (X11_playEvening i0  p1.2).bind (fun p2 =>
        if p2.1 = 0 then
          if x1 = (0 : Int32) then
            some ((p2.2.1 (rf (rf i0 5) 0) 3), p2.2)
          else if x1 = (1 : Int32) then
            some ((p2.2.1 (rf (rf i0 5) 0) 4), p2.2)
          else if x1 = (2 : Int32) then
            some ((p2.2.1 (rf (rf i0 5) 0) 5), p2.2)
          else 
            some ((p2.2.1 (rf (rf i0 5) 0) 6), p2.2)
        else
          some (p2.1, p2.2)))
set_option maxHeartbeats 4000000 in
set_option maxRecDepth 100000 in
theorem t_X11_his {X : Scr} {i0 : Nat} (h0 : KD[i0]? = some (.inl 11)) (x1 : Int32) (M : Mem) : T X eI (X11_his i0  x1 M) md_X11_his 0 [(0, .ref i0), (1, .int x1)] [] M := by
  unfold X11_his
  refine T_iload_n 1 dX11_his_0 rfl rfl ?_
  refine T_iconst (v := (0 : Int32)) (by decide) dX11_his_1 ?_
  refine T_iconst (v := (3 : Int32)) (by decide) dX11_his_2 ?_
  refine T_callSI md_X11_isWithin [.int x1, .int (0 : Int32), .int (3 : Int32)] [] dX11_his_3 rfl ok_X11_isWithin tb_361 tb_362 (by decide) (Nat.le_of_ble_eq_true rfl) (fun _ _ h9 => C_X11_isWithin  _ _ _ h9) (fun r1 M1 => ?_)
  dsimp only
  refine T_if_ne 12 dX11_his_6 (by decide) ?_ ?_
  ·
    refine T_bipush (v := (-2 : Int32)) (by decide) dX11_his_9 ?_
    exact T_iret dX11_his_11 rfl
  ·
    refine T_aload_n 0 dX11_his_12 rfl rfl ?_
    refine T_callVI md_X11_playEvening [] [] dX11_his_13 h0 rfl rfl ok_X11_playEvening tb_427 tb_429 tb_0 (by decide) (Nat.le_of_ble_eq_true rfl) (fun _ _ h9 => C_X11_playEvening h0  h9) (fun r2 M2 => ?_)
    dsimp only
    refine T_istore_n [(2, .int r2), (0, .ref i0), (1, .int x1)] dX11_his_16 rfl (by decide) rfl ?_
    refine T_iload_n 0 dX11_his_17 rfl rfl ?_
    refine T_if_eq 23 dX11_his_18 (by decide) ?_ ?_
    ·
      refine T_iload_n 2 dX11_his_23 rfl rfl ?_
      refine T_ite (fun hx2_0 => ?_) (fun hx2_0 => ?_)
      ·
        refine T_tabIn (off := 28) 52 dX11_his_24 (by rw [hx2_0]; decide) (by rw [hx2_0]; decide) (by rw [hx2_0]; decide) (by decide) ?_
        refine T_aload_n 1 dX11_his_52 rfl rfl ?_
        refine T_getR 5 FOk_11 h0 (by decide) (by decide) dX11_his_53 tb_322 ?_
        refine T_getR 0 FOk_2 (kf_11_5 h0) (by decide) (by decide) dX11_his_56 tb_184 ?_
        refine T_getI 3 FOk_0 (kf_2_0 (kf_11_5 h0)) (by decide) (by decide) dX11_his_59 tb_88 ?_
        exact T_iret dX11_his_62 rfl
      refine T_ite (fun hx2_1 => ?_) (fun hx2_1 => ?_)
      ·
        refine T_tabIn (off := 39) 63 dX11_his_24 (by rw [hx2_1]; decide) (by rw [hx2_1]; decide) (by rw [hx2_1]; decide) (by decide) ?_
        refine T_aload_n 1 dX11_his_63 rfl rfl ?_
        refine T_getR 5 FOk_11 h0 (by decide) (by decide) dX11_his_64 tb_322 ?_
        refine T_getR 0 FOk_2 (kf_11_5 h0) (by decide) (by decide) dX11_his_67 tb_184 ?_
        refine T_getI 4 FOk_0 (kf_2_0 (kf_11_5 h0)) (by decide) (by decide) dX11_his_70 tb_90 ?_
        exact T_iret dX11_his_73 rfl
      refine T_ite (fun hx2_2 => ?_) (fun hx2_2 => ?_)
      ·
        refine T_tabIn (off := 50) 74 dX11_his_24 (by rw [hx2_2]; decide) (by rw [hx2_2]; decide) (by rw [hx2_2]; decide) (by decide) ?_
        refine T_aload_n 1 dX11_his_74 rfl rfl ?_
        refine T_getR 5 FOk_11 h0 (by decide) (by decide) dX11_his_75 tb_322 ?_
        refine T_getR 0 FOk_2 (kf_11_5 h0) (by decide) (by decide) dX11_his_78 tb_184 ?_
        refine T_getI 5 FOk_0 (kf_2_0 (kf_11_5 h0)) (by decide) (by decide) dX11_his_81 tb_93 ?_
        exact T_iret dX11_his_84 rfl
      refine T_tabOut 85 dX11_his_24 (tab_out (n := 3) (by decide) (lt_s (lt_s (lt_s lt_0 (lv_neT hx2_0 (by decide))) (lv_neT hx2_1 (by decide))) (lv_neT hx2_2 (by decide)))) (by decide) ?_
      refine T_aload_n 1 dX11_his_85 rfl rfl ?_
      refine T_getR 5 FOk_11 h0 (by decide) (by decide) dX11_his_86 tb_322 ?_
      refine T_getR 0 FOk_2 (kf_11_5 h0) (by decide) (by decide) dX11_his_89 tb_184 ?_
      refine T_getI 6 FOk_0 (kf_2_0 (kf_11_5 h0)) (by decide) (by decide) dX11_his_92 tb_96 ?_
      exact T_iret dX11_his_95 rfl
    ·
      refine T_iload_n 0 dX11_his_21 rfl rfl ?_
      exact T_iret dX11_his_22 rfl
theorem C_X11_his {X : Scr} {i0 : Nat} (h0 : KD[i0]? = some (.inl 11)) (x1 : Int32) {M : Mem} {r : Int32} {M' : Mem} (h : X11_his i0 x1 M = some (r, M')) : Ct X md_X11_his [.ref i0, .int x1] M (eI r) M' := Ct_of (by decide +kernel) (Nat.le_of_ble_eq_true rfl) (t_X11_his h0 _ M) r M' h
-- X11_wrong
def X11_wrong_b60 (i0 : Nat)  (s0 : Int32) (M : Mem) : Option (Int32 × Mem) :=
  some (s0, M)
def X11_wrong (i0 : Nat)  (x1 : Int32) (M : Mem) : Option (Int32 × Mem) :=
  (X11_isWithin  x1 (0 : Int32) (2 : Int32) M).bind (fun p1 =>
    if p1.1 = 0 then
      some ((-2 : Int32), p1.2)
    else
      (X11_playEvening i0  p1.2).bind (fun p2 =>
        if p2.1 = 0 then
          if x1 = 0 then
            (X0_strangers (rf (rf i0 5) 0)  p2.2).bind (fun p3 =>
              some (p3.1, p3.2))
          else
            if x1 = (1 : Int32) then
              X11_wrong_b60 i0  (p2.2.1 (rf i0 5) 5) p2.2
            else
              X11_wrong_b60 i0  (p2.2.1 (rf i0 5) 6) p2.2
        else
          some (p2.1, p2.2)))
set_option maxHeartbeats 4000000 in
set_option maxRecDepth 100000 in
theorem t_X11_wrong_b60 {X : Scr} {i0 : Nat} (h0 : KD[i0]? = some (.inl 11)) (s0 : Int32) (M : Mem) : T X eI (X11_wrong_b60 i0  s0 M) md_X11_wrong 60 [] [.int s0] M := by
  unfold X11_wrong_b60
  exact T_iret dX11_wrong_60 rfl
set_option maxHeartbeats 4000000 in
set_option maxRecDepth 100000 in
theorem t_X11_wrong {X : Scr} {i0 : Nat} (h0 : KD[i0]? = some (.inl 11)) (x1 : Int32) (M : Mem) : T X eI (X11_wrong i0  x1 M) md_X11_wrong 0 [(0, .ref i0), (1, .int x1)] [] M := by
  unfold X11_wrong
  refine T_iload_n 1 dX11_wrong_0 rfl rfl ?_
  refine T_iconst (v := (0 : Int32)) (by decide) dX11_wrong_1 ?_
  refine T_iconst (v := (2 : Int32)) (by decide) dX11_wrong_2 ?_
  refine T_callSI md_X11_isWithin [.int x1, .int (0 : Int32), .int (2 : Int32)] [] dX11_wrong_3 rfl ok_X11_isWithin tb_361 tb_362 (by decide) (Nat.le_of_ble_eq_true rfl) (fun _ _ h9 => C_X11_isWithin  _ _ _ h9) (fun r1 M1 => ?_)
  dsimp only
  refine T_if_ne 12 dX11_wrong_6 (by decide) ?_ ?_
  ·
    refine T_bipush (v := (-2 : Int32)) (by decide) dX11_wrong_9 ?_
    exact T_iret dX11_wrong_11 rfl
  ·
    refine T_aload_n 0 dX11_wrong_12 rfl rfl ?_
    refine T_callVI md_X11_playEvening [] [] dX11_wrong_13 h0 rfl rfl ok_X11_playEvening tb_427 tb_429 tb_0 (by decide) (Nat.le_of_ble_eq_true rfl) (fun _ _ h9 => C_X11_playEvening h0  h9) (fun r2 M2 => ?_)
    dsimp only
    refine T_istore_n [(2, .int r2), (0, .ref i0), (1, .int x1)] dX11_wrong_16 rfl (by decide) rfl ?_
    refine T_iload_n 0 dX11_wrong_17 rfl rfl ?_
    refine T_if_eq 23 dX11_wrong_18 (by decide) ?_ ?_
    ·
      refine T_iload_n 2 dX11_wrong_23 rfl rfl ?_
      refine T_if_ne 38 dX11_wrong_24 (by decide) ?_ ?_
      ·
        refine T_aload_n 1 dX11_wrong_27 rfl rfl ?_
        refine T_getR 5 FOk_11 h0 (by decide) (by decide) dX11_wrong_28 tb_322 ?_
        refine T_getR 0 FOk_2 (kf_11_5 h0) (by decide) (by decide) dX11_wrong_31 tb_184 ?_
        refine T_callVI md_X0_strangers [] [] dX11_wrong_34 (kf_2_0 (kf_11_5 h0)) rfl rfl ok_X0_strangers tb_371 tb_372 tb_373 (by decide) (Nat.le_of_ble_eq_true rfl) (fun _ _ h9 => C_X0_strangers (kf_2_0 (kf_11_5 h0))  h9) (fun r3 M3 => ?_)
        dsimp only
        exact T_iret dX11_wrong_37 rfl
      ·
        refine T_iload_n 2 dX11_wrong_38 rfl rfl ?_
        refine T_iconst (v := (1 : Int32)) (by decide) dX11_wrong_39 ?_
        refine T_icmp_ne 53 dX11_wrong_40 (by decide) ?_ ?_
        ·
          refine T_aload_n 1 dX11_wrong_43 rfl rfl ?_
          refine T_getR 5 FOk_11 h0 (by decide) (by decide) dX11_wrong_44 tb_322 ?_
          refine T_getI 5 FOk_2 (kf_11_5 h0) (by decide) (by decide) dX11_wrong_47 tb_194 ?_
          refine T_goto 60 dX11_wrong_50 (by decide) ?_
          refine T_sub [] (lv' := []) rfl ?_
          exact t_X11_wrong_b60 h0  _ _
        ·
          refine T_aload_n 1 dX11_wrong_53 rfl rfl ?_
          refine T_getR 5 FOk_11 h0 (by decide) (by decide) dX11_wrong_54 tb_322 ?_
          refine T_getI 6 FOk_2 (kf_11_5 h0) (by decide) (by decide) dX11_wrong_57 tb_196 ?_
          refine T_sub [] (lv' := []) rfl ?_
          exact t_X11_wrong_b60 h0  _ _
    ·
      refine T_iload_n 0 dX11_wrong_21 rfl rfl ?_
      exact T_iret dX11_wrong_22 rfl
theorem C_X11_wrong {X : Scr} {i0 : Nat} (h0 : KD[i0]? = some (.inl 11)) (x1 : Int32) {M : Mem} {r : Int32} {M' : Mem} (h : X11_wrong i0 x1 M = some (r, M')) : Ct X md_X11_wrong [.ref i0, .int x1] M (eI r) M' := Ct_of (by decide +kernel) (Nat.le_of_ble_eq_true rfl) (t_X11_wrong h0 _ M) r M' h
-- X11_done
def X11_done (i0 : Nat)   (M : Mem) : Option (Int32 × Mem) :=
  (X11_playEvening i0  M).bind (fun p1 =>
    if p1.1 = 0 then
      (X0_takeOver (rf i0 0) (rf (rf i0 5) 0)  p1.2).bind (fun p2 =>
        some (((mI p2.2 (rf i0 2) 1 (0 : Int32)).1 (rf i0 5) 1), (mI p2.2 (rf i0 2) 1 (0 : Int32))))
    else
      some (p1.1, p1.2))
set_option maxHeartbeats 4000000 in
set_option maxRecDepth 100000 in
theorem t_X11_done {X : Scr} {i0 : Nat} (h0 : KD[i0]? = some (.inl 11))  (M : Mem) : T X eI (X11_done i0   M) md_X11_done 0 [(0, .ref i0)] [] M := by
  unfold X11_done
  refine T_aload_n 0 dX11_done_0 rfl rfl ?_
  refine T_callVI md_X11_playEvening [] [] dX11_done_1 h0 rfl rfl ok_X11_playEvening tb_427 tb_429 tb_0 (by decide) (Nat.le_of_ble_eq_true rfl) (fun _ _ h9 => C_X11_playEvening h0  h9) (fun r1 M1 => ?_)
  dsimp only
  refine T_istore_n [(1, .int r1), (0, .ref i0)] dX11_done_4 rfl (by decide) rfl ?_
  refine T_iload_n 0 dX11_done_5 rfl rfl ?_
  refine T_if_eq 11 dX11_done_6 (by decide) ?_ ?_
  ·
    refine T_aload_n 1 dX11_done_11 rfl rfl ?_
    refine T_getR 0 FOk_11 h0 (by decide) (by decide) dX11_done_12 tb_317 ?_
    refine T_aload_n 1 dX11_done_15 rfl rfl ?_
    refine T_getR 5 FOk_11 h0 (by decide) (by decide) dX11_done_16 tb_322 ?_
    refine T_getR 0 FOk_2 (kf_11_5 h0) (by decide) (by decide) dX11_done_19 tb_184 ?_
    refine T_callVU md_X0_takeOver [.ref (rf (rf i0 5) 0)] [] dX11_done_22 (kf_11_0 h0) rfl rfl ok_X0_takeOver tb_511 tb_436 tb_437 (by decide) (Nat.le_of_ble_eq_true rfl) (fun _ _ h9 => C_X0_takeOver (kf_11_0 h0) (kf_2_0 (kf_11_5 h0))  h9) (fun r2 M2 => ?_)
    dsimp only
    refine T_aload_n 1 dX11_done_25 rfl rfl ?_
    refine T_getR 2 FOk_11 h0 (by decide) (by decide) dX11_done_26 tb_319 ?_
    refine T_iconst (v := (0 : Int32)) (by decide) dX11_done_29 ?_
    refine T_putI (ty := .int) 1 FOk_8 (kf_11_2 h0) (by decide) (by decide) rfl (by decide +kernel) rfl rfl dX11_done_30 tb_147 ?_
    refine T_aload_n 1 dX11_done_33 rfl rfl ?_
    refine T_getR 5 FOk_11 h0 (by decide) (by decide) dX11_done_34 tb_322 ?_
    refine T_getI 1 FOk_2 (kf_11_5 h0) (by decide) (by decide) dX11_done_37 tb_186 ?_
    exact T_iret dX11_done_40 rfl
  ·
    refine T_iload_n 0 dX11_done_9 rfl rfl ?_
    exact T_iret dX11_done_10 rfl
theorem C_X11_done {X : Scr} {i0 : Nat} (h0 : KD[i0]? = some (.inl 11))  {M : Mem} {r : Int32} {M' : Mem} (h : X11_done i0  M = some (r, M')) : Ct X md_X11_done [.ref i0] M (eI r) M' := Ct_of (by decide +kernel) (Nat.le_of_ble_eq_true rfl) (t_X11_done h0  M) r M' h
-- X11_round
def X11_round_b54 (i0 : Nat)  (s0 : Int32) (M : Mem) : Option (Int32 × Mem) :=
  some (s0, M)
def X11_round (i0 : Nat)  (x1 : Int32) (x2 : Int32) (M : Mem) : Option (Int32 × Mem) :=
  (X11_isCabin  x1 M).bind (fun p1 =>
    if p1.1 = 0 then
      some ((-1 : Int32), p1.2)
    else
      (X11_isWithin  x2 (0 : Int32) (1 : Int32) p1.2).bind (fun p2 =>
        if p2.1 = 0 then
          some ((-2 : Int32), p2.2)
        else
          (X1_planRound (rf i0 6) (rf i0 0) x1 p2.2).bind (fun p3 =>
            if x2 = 0 then
              X11_round_b54 i0  (p3.2.1 (rf i0 6) 1) p3.2
            else
              X11_round_b54 i0  (p3.2.1 (rf i0 6) 2) p3.2)))
set_option maxHeartbeats 4000000 in
set_option maxRecDepth 100000 in
theorem t_X11_round_b54 {X : Scr} {i0 : Nat} (h0 : KD[i0]? = some (.inl 11)) (s0 : Int32) (M : Mem) : T X eI (X11_round_b54 i0  s0 M) md_X11_round 54 [] [.int s0] M := by
  unfold X11_round_b54
  exact T_iret dX11_round_54 rfl
set_option maxHeartbeats 4000000 in
set_option maxRecDepth 100000 in
theorem t_X11_round {X : Scr} {i0 : Nat} (h0 : KD[i0]? = some (.inl 11)) (x1 : Int32) (x2 : Int32) (M : Mem) : T X eI (X11_round i0  x1 x2 M) md_X11_round 0 [(0, .ref i0), (1, .int x1), (2, .int x2)] [] M := by
  unfold X11_round
  refine T_iload_n 1 dX11_round_0 rfl rfl ?_
  refine T_callSI md_X11_isCabin [.int x1] [] dX11_round_1 rfl ok_X11_isCabin tb_358 tb_359 (by decide) (Nat.le_of_ble_eq_true rfl) (fun _ _ h9 => C_X11_isCabin  _ h9) (fun r1 M1 => ?_)
  dsimp only
  refine T_if_ne 9 dX11_round_4 (by decide) ?_ ?_
  ·
    refine T_iconst (v := (-1 : Int32)) (by decide) dX11_round_7 ?_
    exact T_iret dX11_round_8 rfl
  ·
    refine T_iload_n 2 dX11_round_9 rfl rfl ?_
    refine T_iconst (v := (0 : Int32)) (by decide) dX11_round_10 ?_
    refine T_iconst (v := (1 : Int32)) (by decide) dX11_round_11 ?_
    refine T_callSI md_X11_isWithin [.int x2, .int (0 : Int32), .int (1 : Int32)] [] dX11_round_12 rfl ok_X11_isWithin tb_361 tb_362 (by decide) (Nat.le_of_ble_eq_true rfl) (fun _ _ h9 => C_X11_isWithin  _ _ _ h9) (fun r2 M2 => ?_)
    dsimp only
    refine T_if_ne 21 dX11_round_15 (by decide) ?_ ?_
    ·
      refine T_bipush (v := (-2 : Int32)) (by decide) dX11_round_18 ?_
      exact T_iret dX11_round_20 rfl
    ·
      refine T_aload_n 0 dX11_round_21 rfl rfl ?_
      refine T_getR 6 FOk_11 h0 (by decide) (by decide) dX11_round_22 tb_323 ?_
      refine T_aload_n 0 dX11_round_25 rfl rfl ?_
      refine T_getR 0 FOk_11 h0 (by decide) (by decide) dX11_round_26 tb_317 ?_
      refine T_iload_n 1 dX11_round_29 rfl rfl ?_
      refine T_callVU md_X1_planRound [.ref (rf i0 0), .int x1] [] dX11_round_30 (kf_11_6 h0) rfl rfl ok_X1_planRound tb_516 tb_517 tb_518 (by decide) (Nat.le_of_ble_eq_true rfl) (fun _ _ h9 => C_X1_planRound (kf_11_6 h0) (kf_11_0 h0) _ h9) (fun r3 M3 => ?_)
      dsimp only
      refine T_iload_n 2 dX11_round_33 rfl rfl ?_
      refine T_if_ne 47 dX11_round_34 (by decide) ?_ ?_
      ·
        refine T_aload_n 0 dX11_round_37 rfl rfl ?_
        refine T_getR 6 FOk_11 h0 (by decide) (by decide) dX11_round_38 tb_323 ?_
        refine T_getI 1 FOk_1 (kf_11_6 h0) (by decide) (by decide) dX11_round_41 tb_220 ?_
        refine T_goto 54 dX11_round_44 (by decide) ?_
        refine T_sub [] (lv' := []) rfl ?_
        exact t_X11_round_b54 h0  _ _
      ·
        refine T_aload_n 0 dX11_round_47 rfl rfl ?_
        refine T_getR 6 FOk_11 h0 (by decide) (by decide) dX11_round_48 tb_323 ?_
        refine T_getI 2 FOk_1 (kf_11_6 h0) (by decide) (by decide) dX11_round_51 tb_222 ?_
        refine T_sub [] (lv' := []) rfl ?_
        exact t_X11_round_b54 h0  _ _
theorem C_X11_round {X : Scr} {i0 : Nat} (h0 : KD[i0]? = some (.inl 11)) (x1 : Int32) (x2 : Int32) {M : Mem} {r : Int32} {M' : Mem} (h : X11_round i0 x1 x2 M = some (r, M')) : Ct X md_X11_round [.ref i0, .int x1, .int x2] M (eI r) M' := Ct_of (by decide +kernel) (Nat.le_of_ble_eq_true rfl) (t_X11_round h0 _ _ M) r M' h
-- X11_show
def X11_show_b16 (i0 : Nat)   (M : Mem) : Option (Int32 × Mem) :=
  some ((-2 : Int32), M)
def X11_show_b52 (i0 : Nat)  (s0 : Int32) (M : Mem) : Option (Int32 × Mem) :=
  some (s0, M)
def X11_show (i0 : Nat)  (x1 : Int32) (x2 : Int32) (M : Mem) : Option (Int32 × Mem) :=
  (X11_isThingSet  x1 M).bind (fun p1 =>
    if p1.1 = 0 then
      X11_show_b16 i0   p1.2
    else
      (X11_isWithin  x2 (0 : Int32) (1 : Int32) p1.2).bind (fun p2 =>
        if p2.1 = 0 then
          X11_show_b16 i0   p2.2
        else
          (X1_uncover (rf i0 6) (rf i0 0) x1 p2.2).bind (fun p3 =>
            if x2 = 0 then
              X11_show_b52 i0  (p3.2.1 (rf i0 6) 1) p3.2
            else
              X11_show_b52 i0  (p3.2.1 (rf i0 6) 2) p3.2)))
set_option maxHeartbeats 4000000 in
set_option maxRecDepth 100000 in
theorem t_X11_show_b16 {X : Scr} {i0 : Nat} (h0 : KD[i0]? = some (.inl 11))  (M : Mem) : T X eI (X11_show_b16 i0   M) md_X11_show 16 [] [] M := by
  unfold X11_show_b16
  refine T_bipush (v := (-2 : Int32)) (by decide) dX11_show_16 ?_
  exact T_iret dX11_show_18 rfl
set_option maxHeartbeats 4000000 in
set_option maxRecDepth 100000 in
theorem t_X11_show_b52 {X : Scr} {i0 : Nat} (h0 : KD[i0]? = some (.inl 11)) (s0 : Int32) (M : Mem) : T X eI (X11_show_b52 i0  s0 M) md_X11_show 52 [] [.int s0] M := by
  unfold X11_show_b52
  exact T_iret dX11_show_52 rfl
set_option maxHeartbeats 4000000 in
set_option maxRecDepth 100000 in
theorem t_X11_show {X : Scr} {i0 : Nat} (h0 : KD[i0]? = some (.inl 11)) (x1 : Int32) (x2 : Int32) (M : Mem) : T X eI (X11_show i0  x1 x2 M) md_X11_show 0 [(0, .ref i0), (1, .int x1), (2, .int x2)] [] M := by
  unfold X11_show
  refine T_iload_n 1 dX11_show_0 rfl rfl ?_
  refine T_callSI md_X11_isThingSet [.int x1] [] dX11_show_1 rfl ok_X11_isThingSet tb_364 tb_365 (by decide) (Nat.le_of_ble_eq_true rfl) (fun _ _ h9 => C_X11_isThingSet  _ h9) (fun r1 M1 => ?_)
  dsimp only
  refine T_if_eq 16 dX11_show_4 (by decide) ?_ ?_
  ·
    refine T_sub [] (lv' := []) rfl ?_
    exact t_X11_show_b16 h0   _
  ·
    refine T_iload_n 2 dX11_show_7 rfl rfl ?_
    refine T_iconst (v := (0 : Int32)) (by decide) dX11_show_8 ?_
    refine T_iconst (v := (1 : Int32)) (by decide) dX11_show_9 ?_
    refine T_callSI md_X11_isWithin [.int x2, .int (0 : Int32), .int (1 : Int32)] [] dX11_show_10 rfl ok_X11_isWithin tb_361 tb_362 (by decide) (Nat.le_of_ble_eq_true rfl) (fun _ _ h9 => C_X11_isWithin  _ _ _ h9) (fun r2 M2 => ?_)
    dsimp only
    refine T_if_ne 19 dX11_show_13 (by decide) ?_ ?_
    ·
      refine T_sub [] (lv' := []) rfl ?_
      exact t_X11_show_b16 h0   _
    ·
      refine T_aload_n 0 dX11_show_19 rfl rfl ?_
      refine T_getR 6 FOk_11 h0 (by decide) (by decide) dX11_show_20 tb_323 ?_
      refine T_aload_n 0 dX11_show_23 rfl rfl ?_
      refine T_getR 0 FOk_11 h0 (by decide) (by decide) dX11_show_24 tb_317 ?_
      refine T_iload_n 1 dX11_show_27 rfl rfl ?_
      refine T_callVU md_X1_uncover [.ref (rf i0 0), .int x1] [] dX11_show_28 (kf_11_6 h0) rfl rfl ok_X1_uncover tb_539 tb_540 tb_541 (by decide) (Nat.le_of_ble_eq_true rfl) (fun _ _ h9 => C_X1_uncover (kf_11_6 h0) (kf_11_0 h0) _ h9) (fun r3 M3 => ?_)
      dsimp only
      refine T_iload_n 2 dX11_show_31 rfl rfl ?_
      refine T_if_ne 45 dX11_show_32 (by decide) ?_ ?_
      ·
        refine T_aload_n 0 dX11_show_35 rfl rfl ?_
        refine T_getR 6 FOk_11 h0 (by decide) (by decide) dX11_show_36 tb_323 ?_
        refine T_getI 1 FOk_1 (kf_11_6 h0) (by decide) (by decide) dX11_show_39 tb_220 ?_
        refine T_goto 52 dX11_show_42 (by decide) ?_
        refine T_sub [] (lv' := []) rfl ?_
        exact t_X11_show_b52 h0  _ _
      ·
        refine T_aload_n 0 dX11_show_45 rfl rfl ?_
        refine T_getR 6 FOk_11 h0 (by decide) (by decide) dX11_show_46 tb_323 ?_
        refine T_getI 2 FOk_1 (kf_11_6 h0) (by decide) (by decide) dX11_show_49 tb_222 ?_
        refine T_sub [] (lv' := []) rfl ?_
        exact t_X11_show_b52 h0  _ _
theorem C_X11_show {X : Scr} {i0 : Nat} (h0 : KD[i0]? = some (.inl 11)) (x1 : Int32) (x2 : Int32) {M : Mem} {r : Int32} {M' : Mem} (h : X11_show i0 x1 x2 M = some (r, M')) : Ct X md_X11_show [.ref i0, .int x1, .int x2] M (eI r) M' := Ct_of (by decide +kernel) (Nat.le_of_ble_eq_true rfl) (t_X11_show h0 _ _ M) r M' h
-- X11_owners
def X11_owners_b60 (i0 : Nat)  (s0 : Int32) (M : Mem) : Option (Int32 × Mem) :=
  some (s0, M)
def X11_owners_b14 (i0 : Nat)  (x1 : Int32) (x2 : Int32) (M : Mem) : Option (Int32 × Mem) :=
  (X11_isThingSet  x1 M).bind (fun p1 =>
    if p1.1 = 0 then
      some ((-2 : Int32), p1.2)
    else
      (X6_pair (rf i0 7) (rf i0 0) x1 p1.2).bind (fun p2 =>
        if x2 = (-1 : Int32) then
          X11_owners_b60 i0  (p2.2.1 (rf i0 7) 2) p2.2
        else
          gd (ib x2 8) (
            X11_owners_b60 i0  (p2.2.1 (rf (rf i0 7) 1) x2.toNatClampNeg) p2.2)))
def X11_owners (i0 : Nat)  (x1 : Int32) (x2 : Int32) (M : Mem) : Option (Int32 × Mem) :=
  if x2 = (-1 : Int32) then
    X11_owners_b14 i0  x1 x2 M
  else
    (X11_isThing  x2 M).bind (fun p1 =>
      if p1.1 = 0 then
        some ((-1 : Int32), p1.2)
      else
        X11_owners_b14 i0  x1 x2 p1.2)
set_option maxHeartbeats 4000000 in
set_option maxRecDepth 100000 in
theorem t_X11_owners_b60 {X : Scr} {i0 : Nat} (h0 : KD[i0]? = some (.inl 11)) (s0 : Int32) (M : Mem) : T X eI (X11_owners_b60 i0  s0 M) md_X11_owners 60 [] [.int s0] M := by
  unfold X11_owners_b60
  exact T_iret dX11_owners_60 rfl
set_option maxHeartbeats 4000000 in
set_option maxRecDepth 100000 in
theorem t_X11_owners_b14 {X : Scr} {i0 : Nat} (h0 : KD[i0]? = some (.inl 11)) (x1 : Int32) (x2 : Int32) (M : Mem) : T X eI (X11_owners_b14 i0  x1 x2 M) md_X11_owners 14 [(0, .ref i0), (1, .int x1), (2, .int x2)] [] M := by
  unfold X11_owners_b14
  refine T_iload_n 1 dX11_owners_14 rfl rfl ?_
  refine T_callSI md_X11_isThingSet [.int x1] [] dX11_owners_15 rfl ok_X11_isThingSet tb_364 tb_365 (by decide) (Nat.le_of_ble_eq_true rfl) (fun _ _ h9 => C_X11_isThingSet  _ h9) (fun r1 M1 => ?_)
  dsimp only
  refine T_if_ne 24 dX11_owners_18 (by decide) ?_ ?_
  ·
    refine T_bipush (v := (-2 : Int32)) (by decide) dX11_owners_21 ?_
    exact T_iret dX11_owners_23 rfl
  ·
    refine T_aload_n 0 dX11_owners_24 rfl rfl ?_
    refine T_getR 7 FOk_11 h0 (by decide) (by decide) dX11_owners_25 tb_324 ?_
    refine T_aload_n 0 dX11_owners_28 rfl rfl ?_
    refine T_getR 0 FOk_11 h0 (by decide) (by decide) dX11_owners_29 tb_317 ?_
    refine T_iload_n 1 dX11_owners_32 rfl rfl ?_
    refine T_callVU md_X6_pair [.ref (rf i0 0), .int x1] [] dX11_owners_33 (kf_11_7 h0) rfl rfl ok_X6_pair tb_552 tb_553 tb_554 (by decide) (Nat.le_of_ble_eq_true rfl) (fun _ _ h9 => C_X6_pair (kf_11_7 h0) (kf_11_0 h0) _ h9) (fun r2 M2 => ?_)
    dsimp only
    refine T_iload_n 2 dX11_owners_36 rfl rfl ?_
    refine T_iconst (v := (-1 : Int32)) (by decide) dX11_owners_37 ?_
    refine T_icmp_ne 51 dX11_owners_38 (by decide) ?_ ?_
    ·
      refine T_aload_n 0 dX11_owners_41 rfl rfl ?_
      refine T_getR 7 FOk_11 h0 (by decide) (by decide) dX11_owners_42 tb_324 ?_
      refine T_getI 2 FOk_6 (kf_11_7 h0) (by decide) (by decide) dX11_owners_45 tb_240 ?_
      refine T_goto 60 dX11_owners_48 (by decide) ?_
      refine T_sub [] (lv' := []) rfl ?_
      exact t_X11_owners_b60 h0  _ _
    ·
      refine T_aload_n 0 dX11_owners_51 rfl rfl ?_
      refine T_getR 7 FOk_11 h0 (by decide) (by decide) dX11_owners_52 tb_324 ?_
      refine T_getR 1 FOk_6 (kf_11_7 h0) (by decide) (by decide) dX11_owners_55 tb_238 ?_
      refine T_iload_n 2 dX11_owners_58 rfl rfl ?_
      refine T_iald (kf_6_1 (kf_11_7 h0)) dX11_owners_59 ?_
      refine T_sub [] (lv' := []) rfl ?_
      exact t_X11_owners_b60 h0  _ _
set_option maxHeartbeats 4000000 in
set_option maxRecDepth 100000 in
theorem t_X11_owners {X : Scr} {i0 : Nat} (h0 : KD[i0]? = some (.inl 11)) (x1 : Int32) (x2 : Int32) (M : Mem) : T X eI (X11_owners i0  x1 x2 M) md_X11_owners 0 [(0, .ref i0), (1, .int x1), (2, .int x2)] [] M := by
  unfold X11_owners
  refine T_iload_n 2 dX11_owners_0 rfl rfl ?_
  refine T_iconst (v := (-1 : Int32)) (by decide) dX11_owners_1 ?_
  refine T_icmp_eq 14 dX11_owners_2 (by decide) ?_ ?_
  ·
    exact t_X11_owners_b14 h0  _ _ _
  ·
    refine T_iload_n 2 dX11_owners_5 rfl rfl ?_
    refine T_callSI md_X11_isThing [.int x2] [] dX11_owners_6 rfl ok_X11_isThing tb_551 tb_415 (by decide) (Nat.le_of_ble_eq_true rfl) (fun _ _ h9 => C_X11_isThing  _ h9) (fun r1 M1 => ?_)
    dsimp only
    refine T_if_ne 14 dX11_owners_9 (by decide) ?_ ?_
    ·
      refine T_iconst (v := (-1 : Int32)) (by decide) dX11_owners_12 ?_
      exact T_iret dX11_owners_13 rfl
    ·
      exact t_X11_owners_b14 h0  _ _ _
theorem C_X11_owners {X : Scr} {i0 : Nat} (h0 : KD[i0]? = some (.inl 11)) (x1 : Int32) (x2 : Int32) {M : Mem} {r : Int32} {M' : Mem} (h : X11_owners i0 x1 x2 M = some (r, M')) : Ct X md_X11_owners [.ref i0, .int x1, .int x2] M (eI r) M' := Ct_of (by decide +kernel) (Nat.le_of_ble_eq_true rfl) (t_X11_owners h0 _ _ M) r M' h
