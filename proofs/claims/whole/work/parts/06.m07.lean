-- X11_year
def X11_year_b30 (i0 : Nat)   (M : Mem) : Option (Int32 × Mem) :=
  some ((-2 : Int32), M)
def X11_year_b92 (i0 : Nat)  (s0 : Int32) (M : Mem) : Option (Int32 × Mem) :=
  some (s0, M)
def X11_year (i0 : Nat)  (x1 : Int32) (x2 : Int32) (x3 : Int32) (M : Mem) : Option (Int32 × Mem) :=
  (X11_isWithin  x1 (0 : Int32) (9999 : Int32) M).bind (fun p1 =>
    if p1.1 = 0 then
      X11_year_b30 i0   p1.2
    else
      (X11_isWithin  x2 (1 : Int32) (99 : Int32) p1.2).bind (fun p2 =>
        if p2.1 = 0 then
          X11_year_b30 i0   p2.2
        else
          (X11_isWithin  x3 (0 : Int32) (2 : Int32) p2.2).bind (fun p3 =>
            if p3.1 = 0 then
              X11_year_b30 i0   p3.2
            else
              (X2_draw (rf i0 5) (rf i0 0) x1 x2 p3.2).bind (fun p4 =>
                if x3 = 0 then
                  some ((p4.2.1 (rf (rf i0 5) 0) 6), p4.2)
                else
                  if x3 = (1 : Int32) then
                    (J6_bitCount_0f7a4  (p4.2.1 (rf (rf i0 5) 0) 5) p4.2).bind (fun p5 =>
                      X11_year_b92 i0  p5.1 p5.2)
                  else
                    (X0_strangers (rf (rf i0 5) 0)  p4.2).bind (fun p6 =>
                      X11_year_b92 i0  p6.1 p6.2)))))
set_option maxHeartbeats 4000000 in
set_option maxRecDepth 100000 in
theorem t_X11_year_b30 {X : Scr} {i0 : Nat} (h0 : KD[i0]? = some (.inl 11))  (M : Mem) : T X eI (X11_year_b30 i0   M) md_X11_year 30 [] [] M := by
  unfold X11_year_b30
  refine T_bipush (v := (-2 : Int32)) (by decide) dX11_year_30 ?_
  exact T_iret dX11_year_32 rfl
set_option maxHeartbeats 4000000 in
set_option maxRecDepth 100000 in
theorem t_X11_year_b92 {X : Scr} {i0 : Nat} (h0 : KD[i0]? = some (.inl 11)) (s0 : Int32) (M : Mem) : T X eI (X11_year_b92 i0  s0 M) md_X11_year 92 [] [.int s0] M := by
  unfold X11_year_b92
  exact T_iret dX11_year_92 rfl
set_option maxHeartbeats 4000000 in
set_option maxRecDepth 100000 in
theorem t_X11_year {X : Scr} {i0 : Nat} (h0 : KD[i0]? = some (.inl 11)) (x1 : Int32) (x2 : Int32) (x3 : Int32) (M : Mem) : T X eI (X11_year i0  x1 x2 x3 M) md_X11_year 0 [(0, .ref i0), (1, .int x1), (2, .int x2), (3, .int x3)] [] M := by
  unfold X11_year
  refine T_iload_n 1 dX11_year_0 rfl rfl ?_
  refine T_iconst (v := (0 : Int32)) (by decide) dX11_year_1 ?_
  refine T_sipush (v := (9999 : Int32)) (by decide) dX11_year_2 ?_
  refine T_callSI md_X11_isWithin [.int x1, .int (0 : Int32), .int (9999 : Int32)] [] dX11_year_5 rfl ok_X11_isWithin tb_361 tb_362 (by decide) (Nat.le_of_ble_eq_true rfl) (fun _ _ h9 => C_X11_isWithin  _ _ _ h9) (fun r1 M1 => ?_)
  dsimp only
  refine T_if_eq 30 dX11_year_8 (by decide) ?_ ?_
  ·
    refine T_sub [] (lv' := []) rfl ?_
    exact t_X11_year_b30 h0   _
  ·
    refine T_iload_n 2 dX11_year_11 rfl rfl ?_
    refine T_iconst (v := (1 : Int32)) (by decide) dX11_year_12 ?_
    refine T_bipush (v := (99 : Int32)) (by decide) dX11_year_13 ?_
    refine T_callSI md_X11_isWithin [.int x2, .int (1 : Int32), .int (99 : Int32)] [] dX11_year_15 rfl ok_X11_isWithin tb_361 tb_362 (by decide) (Nat.le_of_ble_eq_true rfl) (fun _ _ h9 => C_X11_isWithin  _ _ _ h9) (fun r2 M2 => ?_)
    dsimp only
    refine T_if_eq 30 dX11_year_18 (by decide) ?_ ?_
    ·
      refine T_sub [] (lv' := []) rfl ?_
      exact t_X11_year_b30 h0   _
    ·
      refine T_iload_n 3 dX11_year_21 rfl rfl ?_
      refine T_iconst (v := (0 : Int32)) (by decide) dX11_year_22 ?_
      refine T_iconst (v := (2 : Int32)) (by decide) dX11_year_23 ?_
      refine T_callSI md_X11_isWithin [.int x3, .int (0 : Int32), .int (2 : Int32)] [] dX11_year_24 rfl ok_X11_isWithin tb_361 tb_362 (by decide) (Nat.le_of_ble_eq_true rfl) (fun _ _ h9 => C_X11_isWithin  _ _ _ h9) (fun r3 M3 => ?_)
      dsimp only
      refine T_if_ne 33 dX11_year_27 (by decide) ?_ ?_
      ·
        refine T_sub [] (lv' := []) rfl ?_
        exact t_X11_year_b30 h0   _
      ·
        refine T_aload_n 0 dX11_year_33 rfl rfl ?_
        refine T_getR 5 FOk_11 h0 (by decide) (by decide) dX11_year_34 tb_322 ?_
        refine T_aload_n 0 dX11_year_37 rfl rfl ?_
        refine T_getR 0 FOk_11 h0 (by decide) (by decide) dX11_year_38 tb_317 ?_
        refine T_iload_n 1 dX11_year_41 rfl rfl ?_
        refine T_iload_n 2 dX11_year_42 rfl rfl ?_
        refine T_callVU md_X2_draw [.ref (rf i0 0), .int x1, .int x2] [] dX11_year_43 (kf_11_5 h0) rfl rfl ok_X2_draw tb_668 tb_669 tb_670 (by decide) (Nat.le_of_ble_eq_true rfl) (fun _ _ h9 => C_X2_draw (kf_11_5 h0) (kf_11_0 h0) _ _ h9) (fun r4 M4 => ?_)
        dsimp only
        refine T_iload_n 3 dX11_year_46 rfl rfl ?_
        refine T_if_ne 61 dX11_year_47 (by decide) ?_ ?_
        ·
          refine T_aload_n 0 dX11_year_50 rfl rfl ?_
          refine T_getR 5 FOk_11 h0 (by decide) (by decide) dX11_year_51 tb_322 ?_
          refine T_getR 0 FOk_2 (kf_11_5 h0) (by decide) (by decide) dX11_year_54 tb_184 ?_
          refine T_getI 6 FOk_0 (kf_2_0 (kf_11_5 h0)) (by decide) (by decide) dX11_year_57 tb_96 ?_
          exact T_iret dX11_year_60 rfl
        ·
          refine T_iload_n 3 dX11_year_61 rfl rfl ?_
          refine T_iconst (v := (1 : Int32)) (by decide) dX11_year_62 ?_
          refine T_icmp_ne 82 dX11_year_63 (by decide) ?_ ?_
          ·
            refine T_aload_n 0 dX11_year_66 rfl rfl ?_
            refine T_getR 5 FOk_11 h0 (by decide) (by decide) dX11_year_67 tb_322 ?_
            refine T_getR 0 FOk_2 (kf_11_5 h0) (by decide) (by decide) dX11_year_70 tb_184 ?_
            refine T_getI 5 FOk_0 (kf_2_0 (kf_11_5 h0)) (by decide) (by decide) dX11_year_73 tb_93 ?_
            refine T_callSI md_J6_bitCount_0f7a4 [.int (M4.1 (rf (rf i0 5) 0) 5)] [] dX11_year_76 rfl ok_J6_bitCount_0f7a4 tb_675 tb_525 (by decide) (Nat.le_of_ble_eq_true rfl) (fun _ _ h9 => C_J6_bitCount_0f7a4  _ h9) (fun r5 M5 => ?_)
            dsimp only
            refine T_goto 92 dX11_year_79 (by decide) ?_
            refine T_sub [] (lv' := []) rfl ?_
            exact t_X11_year_b92 h0  _ _
          ·
            refine T_aload_n 0 dX11_year_82 rfl rfl ?_
            refine T_getR 5 FOk_11 h0 (by decide) (by decide) dX11_year_83 tb_322 ?_
            refine T_getR 0 FOk_2 (kf_11_5 h0) (by decide) (by decide) dX11_year_86 tb_184 ?_
            refine T_callVI md_X0_strangers [] [] dX11_year_89 (kf_2_0 (kf_11_5 h0)) rfl rfl ok_X0_strangers tb_371 tb_372 tb_373 (by decide) (Nat.le_of_ble_eq_true rfl) (fun _ _ h9 => C_X0_strangers (kf_2_0 (kf_11_5 h0))  h9) (fun r6 M6 => ?_)
            dsimp only
            refine T_sub [] (lv' := []) rfl ?_
            exact t_X11_year_b92 h0  _ _
theorem C_X11_year {X : Scr} {i0 : Nat} (h0 : KD[i0]? = some (.inl 11)) (x1 : Int32) (x2 : Int32) (x3 : Int32) {M : Mem} {r : Int32} {M' : Mem} (h : X11_year i0 x1 x2 x3 M = some (r, M')) : Ct X md_X11_year [.ref i0, .int x1, .int x2, .int x3] M (eI r) M' := Ct_of (by decide +kernel) (Nat.le_of_ble_eq_true rfl) (t_X11_year h0 _ _ _ M) r M' h
-- X11_imageOf
def X11_imageOf_b15 (i0 : Nat)  (s0 : Nat) (M : Mem) : Option (Nat × Mem) :=
  some (s0, M)
def X11_imageOf (i0 : Nat)  (x1 : Int32) (M : Mem) : Option (Nat × Mem) :=
  if x1 = 0 then
    X11_imageOf_b15 i0  (rf i0 3) M
  else
    X11_imageOf_b15 i0  (rf i0 4) M
set_option maxHeartbeats 4000000 in
set_option maxRecDepth 100000 in
theorem t_X11_imageOf_b15 {X : Scr} {i0 : Nat} (h0 : KD[i0]? = some (.inl 11)) (s0 : Nat) (M : Mem) : T X eR (X11_imageOf_b15 i0  s0 M) md_X11_imageOf 15 [] [.ref s0] M := by
  unfold X11_imageOf_b15
  exact T_aret dX11_imageOf_15 rfl
set_option maxHeartbeats 4000000 in
set_option maxRecDepth 100000 in
theorem t_X11_imageOf {X : Scr} {i0 : Nat} (h0 : KD[i0]? = some (.inl 11)) (x1 : Int32) (M : Mem) : T X eR (X11_imageOf i0  x1 M) md_X11_imageOf 0 [(0, .ref i0), (1, .int x1)] [] M := by
  unfold X11_imageOf
  refine T_iload_n 1 dX11_imageOf_0 rfl rfl ?_
  refine T_if_ne 11 dX11_imageOf_1 (by decide) ?_ ?_
  ·
    refine T_aload_n 0 dX11_imageOf_4 rfl rfl ?_
    refine T_getR 3 FOk_11 h0 (by decide) (by decide) dX11_imageOf_5 tb_320 ?_
    refine T_goto 15 dX11_imageOf_8 (by decide) ?_
    refine T_sub [] (lv' := []) rfl ?_
    exact t_X11_imageOf_b15 h0  _ _
  ·
    refine T_aload_n 0 dX11_imageOf_11 rfl rfl ?_
    refine T_getR 4 FOk_11 h0 (by decide) (by decide) dX11_imageOf_12 tb_321 ?_
    refine T_sub [] (lv' := []) rfl ?_
    exact t_X11_imageOf_b15 h0  _ _
theorem C_X11_imageOf {X : Scr} {i0 : Nat} (h0 : KD[i0]? = some (.inl 11)) (x1 : Int32) {M : Mem} {r : Nat} {M' : Mem} (h : X11_imageOf i0 x1 M = some (r, M')) : Ct X md_X11_imageOf [.ref i0, .int x1] M (eR r) M' := Ct_of (by decide +kernel) (Nat.le_of_ble_eq_true rfl) (t_X11_imageOf h0 _ M) r M' h
-- X11_image
def X11_image (i0 : Nat)  (x1 : Int32) (M : Mem) : Option (Int32 × Mem) :=
  (X11_isWithin  x1 (0 : Int32) (1 : Int32) M).bind (fun p1 =>
    if p1.1 = 0 then
      some ((-2 : Int32), p1.2)
    else
      (X11_imageOf i0 x1 p1.2).bind (fun p2 =>
        gd (decide (KD[p2.1]? = some (.inl 4))) (
          (X0_takeOver (rf p2.1 0) (rf i0 0)  p2.2).bind (fun p3 =>
            (X7_takeOver (rf p2.1 1) (rf i0 1)  p3.2).bind (fun p4 =>
              some ((1 : Int32), (mI p4.2 p2.1 2 (1 : Int32))))))))
set_option maxHeartbeats 4000000 in
set_option maxRecDepth 100000 in
theorem t_X11_image {X : Scr} {i0 : Nat} (h0 : KD[i0]? = some (.inl 11)) (x1 : Int32) (M : Mem) : T X eI (X11_image i0  x1 M) md_X11_image 0 [(0, .ref i0), (1, .int x1)] [] M := by
  unfold X11_image
  refine T_iload_n 1 dX11_image_0 rfl rfl ?_
  refine T_iconst (v := (0 : Int32)) (by decide) dX11_image_1 ?_
  refine T_iconst (v := (1 : Int32)) (by decide) dX11_image_2 ?_
  refine T_callSI md_X11_isWithin [.int x1, .int (0 : Int32), .int (1 : Int32)] [] dX11_image_3 rfl ok_X11_isWithin tb_361 tb_362 (by decide) (Nat.le_of_ble_eq_true rfl) (fun _ _ h9 => C_X11_isWithin  _ _ _ h9) (fun r1 M1 => ?_)
  dsimp only
  refine T_if_ne 12 dX11_image_6 (by decide) ?_ ?_
  ·
    refine T_bipush (v := (-2 : Int32)) (by decide) dX11_image_9 ?_
    exact T_iret dX11_image_11 rfl
  ·
    refine T_aload_n 0 dX11_image_12 rfl rfl ?_
    refine T_iload_n 1 dX11_image_13 rfl rfl ?_
    refine T_callVR md_X11_imageOf [.int x1] [] dX11_image_14 h0 rfl rfl ok_X11_imageOf tb_680 tb_682 tb_11 (by decide) (Nat.le_of_ble_eq_true rfl) (fun _ _ h9 => C_X11_imageOf h0 _ h9) (fun r2 M2 => ?_)
    dsimp only
    refine T_gd (fun hr2 => ?_)
    have hr2 := of_decide_eq_true hr2
    refine T_astore_n [(2, .ref r2), (0, .ref i0), (1, .int x1)] dX11_image_17 rfl (by decide) rfl ?_
    refine T_aload_n 0 dX11_image_18 rfl rfl ?_
    refine T_getR 0 FOk_4 hr2 (by decide) (by decide) dX11_image_19 tb_164 ?_
    refine T_aload_n 1 dX11_image_22 rfl rfl ?_
    refine T_getR 0 FOk_11 h0 (by decide) (by decide) dX11_image_23 tb_317 ?_
    refine T_callVU md_X0_takeOver [.ref (rf i0 0)] [] dX11_image_26 (kf_4_0 hr2) rfl rfl ok_X0_takeOver tb_511 tb_436 tb_437 (by decide) (Nat.le_of_ble_eq_true rfl) (fun _ _ h9 => C_X0_takeOver (kf_4_0 hr2) (kf_11_0 h0)  h9) (fun r3 M3 => ?_)
    dsimp only
    refine T_aload_n 0 dX11_image_29 rfl rfl ?_
    refine T_getR 1 FOk_4 hr2 (by decide) (by decide) dX11_image_30 tb_166 ?_
    refine T_aload_n 1 dX11_image_33 rfl rfl ?_
    refine T_getR 1 FOk_11 h0 (by decide) (by decide) dX11_image_34 tb_318 ?_
    refine T_callVU md_X7_takeOver [.ref (rf i0 1)] [] dX11_image_37 (kf_4_1 hr2) rfl rfl ok_X7_takeOver tb_684 tb_685 tb_686 (by decide) (Nat.le_of_ble_eq_true rfl) (fun _ _ h9 => C_X7_takeOver (kf_4_1 hr2) (kf_11_1 h0)  h9) (fun r4 M4 => ?_)
    dsimp only
    refine T_aload_n 0 dX11_image_40 rfl rfl ?_
    refine T_iconst (v := (1 : Int32)) (by decide) dX11_image_41 ?_
    refine T_putI (ty := .boolean) 2 FOk_4 hr2 (by decide) (by decide) rfl (by decide +kernel) rfl rfl dX11_image_42 tb_167 ?_
    refine T_iconst (v := (1 : Int32)) (by decide) dX11_image_45 ?_
    exact T_iret dX11_image_46 rfl
theorem C_X11_image {X : Scr} {i0 : Nat} (h0 : KD[i0]? = some (.inl 11)) (x1 : Int32) {M : Mem} {r : Int32} {M' : Mem} (h : X11_image i0 x1 M = some (r, M')) : Ct X md_X11_image [.ref i0, .int x1] M (eI r) M' := Ct_of (by decide +kernel) (Nat.le_of_ble_eq_true rfl) (t_X11_image h0 _ M) r M' h
-- X11_restore
def X11_restore (i0 : Nat)  (x1 : Int32) (M : Mem) : Option (Int32 × Mem) :=
  (X11_isWithin  x1 (0 : Int32) (1 : Int32) M).bind (fun p1 =>
    if p1.1 = 0 then
      some ((-2 : Int32), p1.2)
    else
      (X11_imageOf i0 x1 p1.2).bind (fun p2 =>
        gd (decide (KD[p2.1]? = some (.inl 4))) (
          if (p2.2.1 p2.1 2) = 0 then
            some ((-3 : Int32), p2.2)
          else
            (X0_takeOver (rf i0 0) (rf p2.1 0)  p2.2).bind (fun p3 =>
              (X7_takeOver (rf i0 1) (rf p2.1 1)  p3.2).bind (fun p4 =>
                some ((1 : Int32), p4.2))))))
set_option maxHeartbeats 4000000 in
set_option maxRecDepth 100000 in
theorem t_X11_restore {X : Scr} {i0 : Nat} (h0 : KD[i0]? = some (.inl 11)) (x1 : Int32) (M : Mem) : T X eI (X11_restore i0  x1 M) md_X11_restore 0 [(0, .ref i0), (1, .int x1)] [] M := by
  unfold X11_restore
  refine T_iload_n 1 dX11_restore_0 rfl rfl ?_
  refine T_iconst (v := (0 : Int32)) (by decide) dX11_restore_1 ?_
  refine T_iconst (v := (1 : Int32)) (by decide) dX11_restore_2 ?_
  refine T_callSI md_X11_isWithin [.int x1, .int (0 : Int32), .int (1 : Int32)] [] dX11_restore_3 rfl ok_X11_isWithin tb_361 tb_362 (by decide) (Nat.le_of_ble_eq_true rfl) (fun _ _ h9 => C_X11_isWithin  _ _ _ h9) (fun r1 M1 => ?_)
  dsimp only
  refine T_if_ne 12 dX11_restore_6 (by decide) ?_ ?_
  ·
    refine T_bipush (v := (-2 : Int32)) (by decide) dX11_restore_9 ?_
    exact T_iret dX11_restore_11 rfl
  ·
    refine T_aload_n 0 dX11_restore_12 rfl rfl ?_
    refine T_iload_n 1 dX11_restore_13 rfl rfl ?_
    refine T_callVR md_X11_imageOf [.int x1] [] dX11_restore_14 h0 rfl rfl ok_X11_imageOf tb_680 tb_682 tb_11 (by decide) (Nat.le_of_ble_eq_true rfl) (fun _ _ h9 => C_X11_imageOf h0 _ h9) (fun r2 M2 => ?_)
    dsimp only
    refine T_gd (fun hr2 => ?_)
    have hr2 := of_decide_eq_true hr2
    refine T_astore_n [(2, .ref r2), (0, .ref i0), (1, .int x1)] dX11_restore_17 rfl (by decide) rfl ?_
    refine T_aload_n 0 dX11_restore_18 rfl rfl ?_
    refine T_getI 2 FOk_4 hr2 (by decide) (by decide) dX11_restore_19 tb_167 ?_
    refine T_if_ne 28 dX11_restore_22 (by decide) ?_ ?_
    ·
      refine T_bipush (v := (-3 : Int32)) (by decide) dX11_restore_25 ?_
      exact T_iret dX11_restore_27 rfl
    ·
      refine T_aload_n 1 dX11_restore_28 rfl rfl ?_
      refine T_getR 0 FOk_11 h0 (by decide) (by decide) dX11_restore_29 tb_317 ?_
      refine T_aload_n 0 dX11_restore_32 rfl rfl ?_
      refine T_getR 0 FOk_4 hr2 (by decide) (by decide) dX11_restore_33 tb_164 ?_
      refine T_callVU md_X0_takeOver [.ref (rf r2 0)] [] dX11_restore_36 (kf_11_0 h0) rfl rfl ok_X0_takeOver tb_511 tb_436 tb_437 (by decide) (Nat.le_of_ble_eq_true rfl) (fun _ _ h9 => C_X0_takeOver (kf_11_0 h0) (kf_4_0 hr2)  h9) (fun r3 M3 => ?_)
      dsimp only
      refine T_aload_n 1 dX11_restore_39 rfl rfl ?_
      refine T_getR 1 FOk_11 h0 (by decide) (by decide) dX11_restore_40 tb_318 ?_
      refine T_aload_n 0 dX11_restore_43 rfl rfl ?_
      refine T_getR 1 FOk_4 hr2 (by decide) (by decide) dX11_restore_44 tb_166 ?_
      refine T_callVU md_X7_takeOver [.ref (rf r2 1)] [] dX11_restore_47 (kf_11_1 h0) rfl rfl ok_X7_takeOver tb_684 tb_685 tb_686 (by decide) (Nat.le_of_ble_eq_true rfl) (fun _ _ h9 => C_X7_takeOver (kf_11_1 h0) (kf_4_1 hr2)  h9) (fun r4 M4 => ?_)
      dsimp only
      refine T_iconst (v := (1 : Int32)) (by decide) dX11_restore_50 ?_
      exact T_iret dX11_restore_51 rfl
theorem C_X11_restore {X : Scr} {i0 : Nat} (h0 : KD[i0]? = some (.inl 11)) (x1 : Int32) {M : Mem} {r : Int32} {M' : Mem} (h : X11_restore i0 x1 M = some (r, M')) : Ct X md_X11_restore [.ref i0, .int x1] M (eI r) M' := Ct_of (by decide +kernel) (Nat.le_of_ble_eq_true rfl) (t_X11_restore h0 _ M) r M' h
-- J9_floorDiv_7cf53
def J9_floorDiv_7cf53_b21   (x2 : Int32) (M : Mem) : Option (Int32 × Mem) :=
  some (x2, M)
def J9_floorDiv_7cf53   (x0 : Int32) (x1 : Int32) (M : Mem) : Option (Int32 × Mem) :=
  gd (!(x1 == 0)) (
    if 0 ≤ (x0 ^^^ x1) then
      J9_floorDiv_7cf53_b21   (x0 / x1) M
    else
      if ((x0 / x1) * x1) = x0 then
        J9_floorDiv_7cf53_b21   (x0 / x1) M
      else
        some (((x0 / x1) - (1 : Int32)), M))
set_option maxHeartbeats 4000000 in
set_option maxRecDepth 100000 in
theorem t_J9_floorDiv_7cf53_b21 {X : Scr}   (x2 : Int32) (M : Mem) : T X eI (J9_floorDiv_7cf53_b21   x2 M) md_J9_floorDiv_7cf53 21 [(2, .int x2)] [] M := by
  unfold J9_floorDiv_7cf53_b21
  refine T_iload_n 0 dJ9_floorDiv_7cf53_21 rfl rfl ?_
  exact T_iret dJ9_floorDiv_7cf53_22 rfl
set_option maxHeartbeats 4000000 in
set_option maxRecDepth 100000 in
theorem t_J9_floorDiv_7cf53 {X : Scr}   (x0 : Int32) (x1 : Int32) (M : Mem) : T X eI (J9_floorDiv_7cf53   x0 x1 M) md_J9_floorDiv_7cf53 0 [(0, .int x0), (1, .int x1)] [] M := by
  unfold J9_floorDiv_7cf53
  refine T_iload_n 0 dJ9_floorDiv_7cf53_0 rfl rfl ?_
  refine T_iload_n 1 dJ9_floorDiv_7cf53_1 rfl rfl ?_
  refine T_idiv dJ9_floorDiv_7cf53_2 ?_
  refine T_istore_n [(2, .int (x0 / x1)), (0, .int x0), (1, .int x1)] dJ9_floorDiv_7cf53_3 rfl (by decide) rfl ?_
  refine T_iload_n 1 dJ9_floorDiv_7cf53_4 rfl rfl ?_
  refine T_iload_n 2 dJ9_floorDiv_7cf53_5 rfl rfl ?_
  refine T_ixor dJ9_floorDiv_7cf53_6 ?_
  refine T_if_ge 21 dJ9_floorDiv_7cf53_7 (by decide) ?_ ?_
  ·
    refine T_sub [0] (lv' := [(2, .int (x0 / x1))]) rfl ?_
    exact t_J9_floorDiv_7cf53_b21   _ _
  ·
    refine T_iload_n 0 dJ9_floorDiv_7cf53_10 rfl rfl ?_
    refine T_iload_n 2 dJ9_floorDiv_7cf53_11 rfl rfl ?_
    refine T_imul dJ9_floorDiv_7cf53_12 ?_
    refine T_iload_n 1 dJ9_floorDiv_7cf53_13 rfl rfl ?_
    refine T_icmp_eq 21 dJ9_floorDiv_7cf53_14 (by decide) ?_ ?_
    ·
      refine T_sub [0] (lv' := [(2, .int (x0 / x1))]) rfl ?_
      exact t_J9_floorDiv_7cf53_b21   _ _
    ·
      refine T_iload_n 0 dJ9_floorDiv_7cf53_17 rfl rfl ?_
      refine T_iconst (v := (1 : Int32)) (by decide) dJ9_floorDiv_7cf53_18 ?_
      refine T_isub dJ9_floorDiv_7cf53_19 ?_
      exact T_iret dJ9_floorDiv_7cf53_20 rfl
theorem C_J9_floorDiv_7cf53 {X : Scr}   (x0 : Int32) (x1 : Int32) {M : Mem} {r : Int32} {M' : Mem} (h : J9_floorDiv_7cf53  x0 x1 M = some (r, M')) : Ct X md_J9_floorDiv_7cf53 [.int x0, .int x1] M (eI r) M' := Ct_of (by decide +kernel) (Nat.le_of_ble_eq_true rfl) (t_J9_floorDiv_7cf53  _ _ M) r M' h
-- J9_floorMod_7cf53
def J9_floorMod_7cf53_b18   (x2 : Int32) (M : Mem) : Option (Int32 × Mem) :=
  some (x2, M)
def J9_floorMod_7cf53   (x0 : Int32) (x1 : Int32) (M : Mem) : Option (Int32 × Mem) :=
  gd (!(x1 == 0)) (
    if 0 ≤ (x0 ^^^ x1) then
      J9_floorMod_7cf53_b18   (x0 - x0 / x1 * x1) M
    else
      if (x0 - x0 / x1 * x1) = 0 then
        J9_floorMod_7cf53_b18   (x0 - x0 / x1 * x1) M
      else
        some (((x0 - x0 / x1 * x1) + x1), M))
set_option maxHeartbeats 4000000 in
set_option maxRecDepth 100000 in
theorem t_J9_floorMod_7cf53_b18 {X : Scr}   (x2 : Int32) (M : Mem) : T X eI (J9_floorMod_7cf53_b18   x2 M) md_J9_floorMod_7cf53 18 [(2, .int x2)] [] M := by
  unfold J9_floorMod_7cf53_b18
  refine T_iload_n 0 dJ9_floorMod_7cf53_18 rfl rfl ?_
  exact T_iret dJ9_floorMod_7cf53_19 rfl
set_option maxHeartbeats 4000000 in
set_option maxRecDepth 100000 in
theorem t_J9_floorMod_7cf53 {X : Scr}   (x0 : Int32) (x1 : Int32) (M : Mem) : T X eI (J9_floorMod_7cf53   x0 x1 M) md_J9_floorMod_7cf53 0 [(0, .int x0), (1, .int x1)] [] M := by
  unfold J9_floorMod_7cf53
  refine T_iload_n 0 dJ9_floorMod_7cf53_0 rfl rfl ?_
  refine T_iload_n 1 dJ9_floorMod_7cf53_1 rfl rfl ?_
  refine T_irem dJ9_floorMod_7cf53_2 ?_
  refine T_istore_n [(2, .int (x0 - x0 / x1 * x1)), (0, .int x0), (1, .int x1)] dJ9_floorMod_7cf53_3 rfl (by decide) rfl ?_
  refine T_iload_n 1 dJ9_floorMod_7cf53_4 rfl rfl ?_
  refine T_iload_n 2 dJ9_floorMod_7cf53_5 rfl rfl ?_
  refine T_ixor dJ9_floorMod_7cf53_6 ?_
  refine T_if_ge 18 dJ9_floorMod_7cf53_7 (by decide) ?_ ?_
  ·
    refine T_sub [0] (lv' := [(2, .int (x0 - x0 / x1 * x1))]) rfl ?_
    exact t_J9_floorMod_7cf53_b18   _ _
  ·
    refine T_iload_n 0 dJ9_floorMod_7cf53_10 rfl rfl ?_
    refine T_if_eq 18 dJ9_floorMod_7cf53_11 (by decide) ?_ ?_
    ·
      refine T_sub [0] (lv' := [(2, .int (x0 - x0 / x1 * x1))]) rfl ?_
      exact t_J9_floorMod_7cf53_b18   _ _
    ·
      refine T_iload_n 0 dJ9_floorMod_7cf53_14 rfl rfl ?_
      refine T_iload_n 2 dJ9_floorMod_7cf53_15 rfl rfl ?_
      refine T_iadd dJ9_floorMod_7cf53_16 ?_
      exact T_iret dJ9_floorMod_7cf53_17 rfl
theorem C_J9_floorMod_7cf53 {X : Scr}   (x0 : Int32) (x1 : Int32) {M : Mem} {r : Int32} {M' : Mem} (h : J9_floorMod_7cf53  x0 x1 M = some (r, M')) : Ct X md_J9_floorMod_7cf53 [.int x0, .int x1] M (eI r) M' := Ct_of (by decide +kernel) (Nat.le_of_ble_eq_true rfl) (t_J9_floorMod_7cf53  _ _ M) r M' h
-- X11_toldPlainly
def X11_toldPlainly (i0 : Nat)  (x1 : Int32) (M : Mem) : Option (Int32 × Mem) :=
  if x1 = (0 : Int32) then
    some ((M.1 (rf i0 2) 1), M)
  else if x1 = (1 : Int32) then
    some ((M.1 (rf i0 0) 3), M)
  else if x1 = (2 : Int32) then
    some ((M.1 (rf i0 0) 4), M)
  else if x1 = (3 : Int32) then
    some ((M.1 (rf i0 0) 5), M)
  else if x1 = (4 : Int32) then
    some ((M.1 (rf i0 0) 6), M)
  else if x1 = (5 : Int32) then
    some ((M.1 (rf i0 0) 7), M)
  else 
    some ((M.1 (rf i0 1) 2), M)
set_option maxHeartbeats 4000000 in
set_option maxRecDepth 100000 in
theorem t_X11_toldPlainly {X : Scr} {i0 : Nat} (h0 : KD[i0]? = some (.inl 11)) (x1 : Int32) (M : Mem) : T X eI (X11_toldPlainly i0  x1 M) md_X11_toldPlainly 0 [(0, .ref i0), (1, .int x1)] [] M := by
  unfold X11_toldPlainly
  refine T_iload_n 1 dX11_toldPlainly_0 rfl rfl ?_
  refine T_ite (fun hx0_0 => ?_) (fun hx0_0 => ?_)
  ·
    refine T_tabIn (off := 39) 40 dX11_toldPlainly_1 (by rw [hx0_0]; decide) (by rw [hx0_0]; decide) (by rw [hx0_0]; decide) (by decide) ?_
    refine T_aload_n 0 dX11_toldPlainly_40 rfl rfl ?_
    refine T_getR 2 FOk_11 h0 (by decide) (by decide) dX11_toldPlainly_41 tb_319 ?_
    refine T_getI 1 FOk_8 (kf_11_2 h0) (by decide) (by decide) dX11_toldPlainly_44 tb_147 ?_
    exact T_iret dX11_toldPlainly_47 rfl
  refine T_ite (fun hx0_1 => ?_) (fun hx0_1 => ?_)
  ·
    refine T_tabIn (off := 47) 48 dX11_toldPlainly_1 (by rw [hx0_1]; decide) (by rw [hx0_1]; decide) (by rw [hx0_1]; decide) (by decide) ?_
    refine T_aload_n 0 dX11_toldPlainly_48 rfl rfl ?_
    refine T_getR 0 FOk_11 h0 (by decide) (by decide) dX11_toldPlainly_49 tb_317 ?_
    refine T_getI 3 FOk_0 (kf_11_0 h0) (by decide) (by decide) dX11_toldPlainly_52 tb_88 ?_
    exact T_iret dX11_toldPlainly_55 rfl
  refine T_ite (fun hx0_2 => ?_) (fun hx0_2 => ?_)
  ·
    refine T_tabIn (off := 55) 56 dX11_toldPlainly_1 (by rw [hx0_2]; decide) (by rw [hx0_2]; decide) (by rw [hx0_2]; decide) (by decide) ?_
    refine T_aload_n 0 dX11_toldPlainly_56 rfl rfl ?_
    refine T_getR 0 FOk_11 h0 (by decide) (by decide) dX11_toldPlainly_57 tb_317 ?_
    refine T_getI 4 FOk_0 (kf_11_0 h0) (by decide) (by decide) dX11_toldPlainly_60 tb_90 ?_
    exact T_iret dX11_toldPlainly_63 rfl
  refine T_ite (fun hx0_3 => ?_) (fun hx0_3 => ?_)
  ·
    refine T_tabIn (off := 63) 64 dX11_toldPlainly_1 (by rw [hx0_3]; decide) (by rw [hx0_3]; decide) (by rw [hx0_3]; decide) (by decide) ?_
    refine T_aload_n 0 dX11_toldPlainly_64 rfl rfl ?_
    refine T_getR 0 FOk_11 h0 (by decide) (by decide) dX11_toldPlainly_65 tb_317 ?_
    refine T_getI 5 FOk_0 (kf_11_0 h0) (by decide) (by decide) dX11_toldPlainly_68 tb_93 ?_
    exact T_iret dX11_toldPlainly_71 rfl
  refine T_ite (fun hx0_4 => ?_) (fun hx0_4 => ?_)
  ·
    refine T_tabIn (off := 71) 72 dX11_toldPlainly_1 (by rw [hx0_4]; decide) (by rw [hx0_4]; decide) (by rw [hx0_4]; decide) (by decide) ?_
    refine T_aload_n 0 dX11_toldPlainly_72 rfl rfl ?_
    refine T_getR 0 FOk_11 h0 (by decide) (by decide) dX11_toldPlainly_73 tb_317 ?_
    refine T_getI 6 FOk_0 (kf_11_0 h0) (by decide) (by decide) dX11_toldPlainly_76 tb_96 ?_
    exact T_iret dX11_toldPlainly_79 rfl
  refine T_ite (fun hx0_5 => ?_) (fun hx0_5 => ?_)
  ·
    refine T_tabIn (off := 79) 80 dX11_toldPlainly_1 (by rw [hx0_5]; decide) (by rw [hx0_5]; decide) (by rw [hx0_5]; decide) (by decide) ?_
    refine T_aload_n 0 dX11_toldPlainly_80 rfl rfl ?_
    refine T_getR 0 FOk_11 h0 (by decide) (by decide) dX11_toldPlainly_81 tb_317 ?_
    refine T_getI 7 FOk_0 (kf_11_0 h0) (by decide) (by decide) dX11_toldPlainly_84 tb_99 ?_
    exact T_iret dX11_toldPlainly_87 rfl
  refine T_tabOut 88 dX11_toldPlainly_1 (tab_out (n := 6) (by decide) (lt_s (lt_s (lt_s (lt_s (lt_s (lt_s lt_0 (lv_neT hx0_0 (by decide))) (lv_neT hx0_1 (by decide))) (lv_neT hx0_2 (by decide))) (lv_neT hx0_3 (by decide))) (lv_neT hx0_4 (by decide))) (lv_neT hx0_5 (by decide)))) (by decide) ?_
  refine T_aload_n 0 dX11_toldPlainly_88 rfl rfl ?_
  refine T_getR 1 FOk_11 h0 (by decide) (by decide) dX11_toldPlainly_89 tb_318 ?_
  refine T_getI 2 FOk_7 (kf_11_1 h0) (by decide) (by decide) dX11_toldPlainly_92 tb_130 ?_
  exact T_iret dX11_toldPlainly_95 rfl
theorem C_X11_toldPlainly {X : Scr} {i0 : Nat} (h0 : KD[i0]? = some (.inl 11)) (x1 : Int32) {M : Mem} {r : Int32} {M' : Mem} (h : X11_toldPlainly i0 x1 M = some (r, M')) : Ct X md_X11_toldPlainly [.ref i0, .int x1] M (eI r) M' := Ct_of (by decide +kernel) (Nat.le_of_ble_eq_true rfl) (t_X11_toldPlainly h0 _ M) r M' h
-- X11_told
def X11_told_b69 (i0 : Nat)   (M : Mem) : Option (Int32 × Mem) :=
  some ((-2 : Int32), M)
def X11_told_b97 (i0 : Nat)  (s0 : Int32) (M : Mem) : Option (Int32 × Mem) :=
  some (s0, M)
def X11_told (i0 : Nat)  (x1 : Int32) (M : Mem) : Option (Int32 × Mem) :=
  (X11_isWithin  x1 (0 : Int32) (6 : Int32) M).bind (fun p1 =>
    if p1.1 = 0 then
      (X11_isWithin  x1 (10 : Int32) (19 : Int32) p1.2).bind (fun p2 =>
        if p2.1 = 0 then
          (J9_floorDiv_7cf53  x1 (10 : Int32) p2.2).bind (fun p3 =>
            (J9_floorMod_7cf53  x1 (10 : Int32) p3.2).bind (fun p4 =>
              (X11_isCabin  (p3.1 - (10 : Int32)) p4.2).bind (fun p5 =>
                if p5.1 = 0 then
                  X11_told_b69 i0   p5.2
                else
                  if p4.1 ≤ (1 : Int32) then
                    if p4.1 = 0 then
                      gd (ib (p3.1 - (10 : Int32)) 10) (
                        X11_told_b97 i0  (p5.2.1 (rf (rf i0 0) 1) (p3.1 - (10 : Int32)).toNatClampNeg) p5.2)
                    else
                      gd (ib (p3.1 - (10 : Int32)) 10) (
                        X11_told_b97 i0  (p5.2.1 (rf (rf i0 0) 2) (p3.1 - (10 : Int32)).toNatClampNeg) p5.2)
                  else
                    X11_told_b69 i0   p5.2)))
        else
          gd (ib (x1 - (10 : Int32)) 10) (
            some ((p2.2.1 (rf (rf i0 0) 0) (x1 - (10 : Int32)).toNatClampNeg), p2.2)))
    else
      (X11_toldPlainly i0 x1 p1.2).bind (fun p6 =>
        some (p6.1, p6.2)))
set_option maxHeartbeats 4000000 in
set_option maxRecDepth 100000 in
theorem t_X11_told_b69 {X : Scr} {i0 : Nat} (h0 : KD[i0]? = some (.inl 11))  (M : Mem) : T X eI (X11_told_b69 i0   M) md_X11_told 69 [] [] M := by
  unfold X11_told_b69
  refine T_bipush (v := (-2 : Int32)) (by decide) dX11_told_69 ?_
  exact T_iret dX11_told_71 rfl
set_option maxHeartbeats 4000000 in
set_option maxRecDepth 100000 in
theorem t_X11_told_b97 {X : Scr} {i0 : Nat} (h0 : KD[i0]? = some (.inl 11)) (s0 : Int32) (M : Mem) : T X eI (X11_told_b97 i0  s0 M) md_X11_told 97 [] [.int s0] M := by
  unfold X11_told_b97
  exact T_iret dX11_told_97 rfl
set_option maxHeartbeats 4000000 in
set_option maxRecDepth 100000 in
theorem t_X11_told {X : Scr} {i0 : Nat} (h0 : KD[i0]? = some (.inl 11)) (x1 : Int32) (M : Mem) : T X eI (X11_told i0  x1 M) md_X11_told 0 [(0, .ref i0), (1, .int x1)] [] M := by
  unfold X11_told
  refine T_iload_n 1 dX11_told_0 rfl rfl ?_
  refine T_iconst (v := (0 : Int32)) (by decide) dX11_told_1 ?_
  refine T_bipush (v := (6 : Int32)) (by decide) dX11_told_2 ?_
  refine T_callSI md_X11_isWithin [.int x1, .int (0 : Int32), .int (6 : Int32)] [] dX11_told_4 rfl ok_X11_isWithin tb_361 tb_362 (by decide) (Nat.le_of_ble_eq_true rfl) (fun _ _ h9 => C_X11_isWithin  _ _ _ h9) (fun r1 M1 => ?_)
  dsimp only
  refine T_if_eq 16 dX11_told_7 (by decide) ?_ ?_
  ·
    refine T_iload_n 1 dX11_told_16 rfl rfl ?_
    refine T_bipush (v := (10 : Int32)) (by decide) dX11_told_17 ?_
    refine T_bipush (v := (19 : Int32)) (by decide) dX11_told_19 ?_
    refine T_callSI md_X11_isWithin [.int x1, .int (10 : Int32), .int (19 : Int32)] [] dX11_told_21 rfl ok_X11_isWithin tb_361 tb_362 (by decide) (Nat.le_of_ble_eq_true rfl) (fun _ _ h9 => C_X11_isWithin  _ _ _ h9) (fun r2 M2 => ?_)
    dsimp only
    refine T_if_eq 40 dX11_told_24 (by decide) ?_ ?_
    ·
      refine T_iload_n 1 dX11_told_40 rfl rfl ?_
      refine T_bipush (v := (10 : Int32)) (by decide) dX11_told_41 ?_
      refine T_callSI md_J9_floorDiv_7cf53 [.int x1, .int (10 : Int32)] [] dX11_told_43 rfl ok_J9_floorDiv_7cf53 tb_701 tb_702 (by decide) (Nat.le_of_ble_eq_true rfl) (fun _ _ h9 => C_J9_floorDiv_7cf53  _ _ h9) (fun r3 M3 => ?_)
      dsimp only
      refine T_bipush (v := (10 : Int32)) (by decide) dX11_told_46 ?_
      refine T_isub dX11_told_48 ?_
      refine T_istore_n [(2, .int (r3 - (10 : Int32))), (0, .ref i0), (1, .int x1)] dX11_told_49 rfl (by decide) rfl ?_
      refine T_iload_n 2 dX11_told_50 rfl rfl ?_
      refine T_bipush (v := (10 : Int32)) (by decide) dX11_told_51 ?_
      refine T_callSI md_J9_floorMod_7cf53 [.int x1, .int (10 : Int32)] [] dX11_told_53 rfl ok_J9_floorMod_7cf53 tb_704 tb_705 (by decide) (Nat.le_of_ble_eq_true rfl) (fun _ _ h9 => C_J9_floorMod_7cf53  _ _ h9) (fun r4 M4 => ?_)
      dsimp only
      refine T_istore_n [(3, .int r4), (2, .int (r3 - (10 : Int32))), (0, .ref i0), (1, .int x1)] dX11_told_56 rfl (by decide) rfl ?_
      refine T_iload_n 1 dX11_told_57 rfl rfl ?_
      refine T_callSI md_X11_isCabin [.int (r3 - (10 : Int32))] [] dX11_told_58 rfl ok_X11_isCabin tb_358 tb_359 (by decide) (Nat.le_of_ble_eq_true rfl) (fun _ _ h9 => C_X11_isCabin  _ h9) (fun r5 M5 => ?_)
      dsimp only
      refine T_if_eq 69 dX11_told_61 (by decide) ?_ ?_
      ·
        refine T_sub [] (lv' := []) rfl ?_
        exact t_X11_told_b69 h0   _
      ·
        refine T_iload_n 0 dX11_told_64 rfl rfl ?_
        refine T_iconst (v := (1 : Int32)) (by decide) dX11_told_65 ?_
        refine T_icmp_le 72 dX11_told_66 (by decide) ?_ ?_
        ·
          refine T_iload_n 0 dX11_told_72 rfl rfl ?_
          refine T_if_ne 88 dX11_told_73 (by decide) ?_ ?_
          ·
            refine T_aload_n 2 dX11_told_76 rfl rfl ?_
            refine T_getR 0 FOk_11 h0 (by decide) (by decide) dX11_told_77 tb_317 ?_
            refine T_getR 1 FOk_0 (kf_11_0 h0) (by decide) (by decide) dX11_told_80 tb_79 ?_
            refine T_iload_n 1 dX11_told_83 rfl rfl ?_
            refine T_iald (kf_0_1 (kf_11_0 h0)) dX11_told_84 ?_
            refine T_goto 97 dX11_told_85 (by decide) ?_
            refine T_sub [] (lv' := []) rfl ?_
            exact t_X11_told_b97 h0  _ _
          ·
            refine T_aload_n 2 dX11_told_88 rfl rfl ?_
            refine T_getR 0 FOk_11 h0 (by decide) (by decide) dX11_told_89 tb_317 ?_
            refine T_getR 2 FOk_0 (kf_11_0 h0) (by decide) (by decide) dX11_told_92 tb_83 ?_
            refine T_iload_n 1 dX11_told_95 rfl rfl ?_
            refine T_iald (kf_0_2 (kf_11_0 h0)) dX11_told_96 ?_
            refine T_sub [] (lv' := []) rfl ?_
            exact t_X11_told_b97 h0  _ _
        ·
          refine T_sub [] (lv' := []) rfl ?_
          exact t_X11_told_b69 h0   _
    ·
      refine T_aload_n 0 dX11_told_27 rfl rfl ?_
      refine T_getR 0 FOk_11 h0 (by decide) (by decide) dX11_told_28 tb_317 ?_
      refine T_getR 0 FOk_0 (kf_11_0 h0) (by decide) (by decide) dX11_told_31 tb_77 ?_
      refine T_iload_n 1 dX11_told_34 rfl rfl ?_
      refine T_bipush (v := (10 : Int32)) (by decide) dX11_told_35 ?_
      refine T_isub dX11_told_37 ?_
      refine T_iald (kf_0_0 (kf_11_0 h0)) dX11_told_38 ?_
      exact T_iret dX11_told_39 rfl
  ·
    refine T_aload_n 0 dX11_told_10 rfl rfl ?_
    refine T_iload_n 1 dX11_told_11 rfl rfl ?_
    refine T_callVI md_X11_toldPlainly [.int x1] [] dX11_told_12 h0 rfl rfl ok_X11_toldPlainly tb_697 tb_699 tb_12 (by decide) (Nat.le_of_ble_eq_true rfl) (fun _ _ h9 => C_X11_toldPlainly h0 _ h9) (fun r6 M6 => ?_)
    dsimp only
    exact T_iret dX11_told_15 rfl
theorem C_X11_told {X : Scr} {i0 : Nat} (h0 : KD[i0]? = some (.inl 11)) (x1 : Int32) {M : Mem} {r : Int32} {M' : Mem} (h : X11_told i0 x1 M = some (r, M')) : Ct X md_X11_told [.ref i0, .int x1] M (eI r) M' := Ct_of (by decide +kernel) (Nat.le_of_ble_eq_true rfl) (t_X11_told h0 _ M) r M' h
-- X12_in
def X12_in_b18   (s0 : Int32) (M : Mem) : Option (Int32 × Mem) :=
  gd (s0 == 0 || s0 == 1) (some (s0, M))
def X12_in_b17    (M : Mem) : Option (Int32 × Mem) :=
  X12_in_b18   (0 : Int32) M
def X12_in   (x0 : Int64) (x2 : Int64) (x4 : Int64) (M : Mem) : Option (Int32 × Mem) :=
  if (lg_cmp x0 x2) < 0 then
    X12_in_b17    M
  else
    if 0 < (lg_cmp x0 x4) then
      X12_in_b17    M
    else
      X12_in_b18   (1 : Int32) M
set_option maxHeartbeats 4000000 in
set_option maxRecDepth 100000 in
theorem t_X12_in_b18 {X : Scr}   (s0 : Int32) (M : Mem) : T X eI (X12_in_b18   s0 M) md_X12_in 18 [] [.int s0] M := by
  unfold X12_in_b18
  exact T_zret dX12_in_18 rfl
set_option maxHeartbeats 4000000 in
set_option maxRecDepth 100000 in
theorem t_X12_in_b17 {X : Scr}    (M : Mem) : T X eI (X12_in_b17    M) md_X12_in 17 [] [] M := by
  unfold X12_in_b17
  refine T_iconst (v := (0 : Int32)) (by decide) dX12_in_17 ?_
  exact t_X12_in_b18   _ _
set_option maxHeartbeats 4000000 in
set_option maxRecDepth 100000 in
theorem t_X12_in {X : Scr}   (x0 : Int64) (x2 : Int64) (x4 : Int64) (M : Mem) : T X eI (X12_in   x0 x2 x4 M) md_X12_in 0 [(0, .long x0), (2, .long x2), (4, .long x4)] [] M := by
  unfold X12_in
  refine T_lload_n 0 dX12_in_0 rfl rfl ?_
  refine T_lload_n 1 dX12_in_1 rfl rfl ?_
  refine T_lcmp dX12_in_2 ?_
  refine T_if_lt 17 dX12_in_3 (by decide) ?_ ?_
  ·
    refine T_sub [] (lv' := []) rfl ?_
    exact t_X12_in_b17    _
  ·
    refine T_lload_n 0 dX12_in_6 rfl rfl ?_
    refine T_lload 2 dX12_in_7 rfl ?_
    refine T_lcmp dX12_in_9 ?_
    refine T_if_gt 17 dX12_in_10 (by decide) ?_ ?_
    ·
      refine T_sub [] (lv' := []) rfl ?_
      exact t_X12_in_b17    _
    ·
      refine T_iconst (v := (1 : Int32)) (by decide) dX12_in_13 ?_
      refine T_goto 18 dX12_in_14 (by decide) ?_
      refine T_sub [] (lv' := []) rfl ?_
      exact t_X12_in_b18   _ _
theorem C_X12_in {X : Scr}   (x0 : Int64) (x2 : Int64) (x4 : Int64) {M : Mem} {r : Int32} {M' : Mem} (h : X12_in  x0 x2 x4 M = some (r, M')) : Ct X md_X12_in [.long x0, .long x2, .long x4] M (eI r) M' := Ct_of (by decide +kernel) (Nat.le_of_ble_eq_true rfl) (t_X12_in  _ _ _ M) r M' h
-- X12_ones
def X12_ones_b4  (k4 : Int32 → Int32 → Mem → Option (Int32 × Mem)) (x1 : Int32) (x2 : Int32) (M : Mem) : Option (Int32 × Mem) :=
  if x2 = 0 then
    some (x1, M)
  else
    k4 (x1 + (1 : Int32)) (x2 &&& (x2 - (1 : Int32))) M
def X12_ones_l4   : Nat → Int32 → Int32 → Mem → Option (Int32 × Mem)
  | 0 => fun _ _ _ => none
  | n + 1 => X12_ones_b4  (X12_ones_l4   n)
def X12_ones   (x0 : Int32) (M : Mem) : Option (Int32 × Mem) :=
  X12_ones_l4   FU (0 : Int32) x0 M
set_option maxHeartbeats 4000000 in
set_option maxRecDepth 100000 in
theorem t_X12_ones_b4 {X : Scr}   {k4 : Int32 → Int32 → Mem → Option (Int32 × Mem)} (hk4 : ∀ (x1 : Int32) (x2 : Int32) (M : Mem), T X eI (k4 x1 x2 M) md_X12_ones 4 [(1, .int x1), (2, .int x2)] [] M) (x1 : Int32) (x2 : Int32) (M : Mem) : T X eI (X12_ones_b4  k4 x1 x2 M) md_X12_ones 4 [(1, .int x1), (2, .int x2)] [] M := by
  unfold X12_ones_b4
  refine T_iload_n 1 dX12_ones_4 rfl rfl ?_
  refine T_if_eq 20 dX12_ones_5 (by decide) ?_ ?_
  ·
    refine T_iload_n 0 dX12_ones_20 rfl rfl ?_
    exact T_iret dX12_ones_21 rfl
  ·
    refine T_iinc 0 [(1, .int (x1 + (1 : Int32))), (2, .int x2)] (v := (1 : Int32)) dX12_ones_8 rfl (by decide) (by decide) rfl ?_
    refine T_iload_n 1 dX12_ones_11 rfl rfl ?_
    refine T_iload_n 1 dX12_ones_12 rfl rfl ?_
    refine T_iconst (v := (1 : Int32)) (by decide) dX12_ones_13 ?_
    refine T_isub dX12_ones_14 ?_
    refine T_iand dX12_ones_15 ?_
    refine T_istore_n [(2, .int (x2 &&& (x2 - (1 : Int32)))), (1, .int (x1 + (1 : Int32)))] dX12_ones_16 rfl (by decide) rfl ?_
    refine T_goto 4 dX12_ones_17 (by decide) ?_
    refine T_sub [1, 0] (lv' := [(1, .int (x1 + (1 : Int32))), (2, .int (x2 &&& (x2 - (1 : Int32))))]) rfl ?_
    exact hk4 _ _ _
theorem t_X12_ones_l4 {X : Scr}   (n : Nat) : ∀ (x1 : Int32) (x2 : Int32) (M : Mem), T X eI (X12_ones_l4   n x1 x2 M) md_X12_ones 4 [(1, .int x1), (2, .int x2)] [] M := by
  induction n with
  | zero => intro x1 x2 M; exact T_none
  | succ n ih => intro x1 x2 M; exact t_X12_ones_b4  ih x1 x2 M
set_option maxHeartbeats 4000000 in
set_option maxRecDepth 100000 in
theorem t_X12_ones {X : Scr}   (x0 : Int32) (M : Mem) : T X eI (X12_ones   x0 M) md_X12_ones 0 [(0, .int x0)] [] M := by
  unfold X12_ones
  refine T_iconst (v := (0 : Int32)) (by decide) dX12_ones_0 ?_
  refine T_istore_n [(1, .int (0 : Int32)), (0, .int x0)] dX12_ones_1 rfl (by decide) rfl ?_
  refine T_iload_n 1 dX12_ones_2 rfl rfl ?_
  refine T_istore_n [(2, .int x0), (1, .int (0 : Int32)), (0, .int x0)] dX12_ones_3 rfl (by decide) rfl ?_
  refine T_sub [1, 0] (lv' := [(1, .int (0 : Int32)), (2, .int x0)]) rfl ?_
  exact t_X12_ones_l4   _ _ _ _
theorem C_X12_ones {X : Scr}   (x0 : Int32) {M : Mem} {r : Int32} {M' : Mem} (h : X12_ones  x0 M = some (r, M')) : Ct X md_X12_ones [.int x0] M (eI r) M' := Ct_of (by decide +kernel) (Nat.le_of_ble_eq_true rfl) (t_X12_ones  _ M) r M' h
-- X12_isCabin
def X12_isCabin   (x0 : Int32) (M : Mem) : Option (Int32 × Mem) :=
  (X12_in  x0.toInt64 (0 : Int64) (9 : Int64) M).bind (fun p1 =>
    gd (p1.1 == 0 || p1.1 == 1) (some (p1.1, p1.2)))
set_option maxHeartbeats 4000000 in
set_option maxRecDepth 100000 in
theorem t_X12_isCabin {X : Scr}   (x0 : Int32) (M : Mem) : T X eI (X12_isCabin   x0 M) md_X12_isCabin 0 [(0, .int x0)] [] M := by
  unfold X12_isCabin
  refine T_iload_n 0 dX12_isCabin_0 rfl rfl ?_
  refine T_i2l dX12_isCabin_1 ?_
  refine T_lconst (v := (0 : Int64)) (by decide) dX12_isCabin_2 ?_
  refine T_ldc2 (v := (9 : Int64)) dX12_isCabin_3 tb_815 ?_
  refine T_callSI md_X12_in [.long x0.toInt64, .long (0 : Int64), .long (9 : Int64)] [] dX12_isCabin_6 rfl ok_X12_in tb_816 tb_817 (by decide) (Nat.le_of_ble_eq_true rfl) (fun _ _ h9 => C_X12_in  _ _ _ h9) (fun r1 M1 => ?_)
  dsimp only
  exact T_zret dX12_isCabin_9 rfl
theorem C_X12_isCabin {X : Scr}   (x0 : Int32) {M : Mem} {r : Int32} {M' : Mem} (h : X12_isCabin  x0 M = some (r, M')) : Ct X md_X12_isCabin [.int x0] M (eI r) M' := Ct_of (by decide +kernel) (Nat.le_of_ble_eq_true rfl) (t_X12_isCabin  _ M) r M' h
-- X12_isThing
def X12_isThing   (x0 : Int32) (M : Mem) : Option (Int32 × Mem) :=
  (X12_in  x0.toInt64 (0 : Int64) (7 : Int64) M).bind (fun p1 =>
    gd (p1.1 == 0 || p1.1 == 1) (some (p1.1, p1.2)))
set_option maxHeartbeats 4000000 in
set_option maxRecDepth 100000 in
theorem t_X12_isThing {X : Scr}   (x0 : Int32) (M : Mem) : T X eI (X12_isThing   x0 M) md_X12_isThing 0 [(0, .int x0)] [] M := by
  unfold X12_isThing
  refine T_iload_n 0 dX12_isThing_0 rfl rfl ?_
  refine T_i2l dX12_isThing_1 ?_
  refine T_lconst (v := (0 : Int64)) (by decide) dX12_isThing_2 ?_
  refine T_ldc2 (v := (7 : Int64)) dX12_isThing_3 tb_981 ?_
  refine T_callSI md_X12_in [.long x0.toInt64, .long (0 : Int64), .long (7 : Int64)] [] dX12_isThing_6 rfl ok_X12_in tb_816 tb_817 (by decide) (Nat.le_of_ble_eq_true rfl) (fun _ _ h9 => C_X12_in  _ _ _ h9) (fun r1 M1 => ?_)
  dsimp only
  exact T_zret dX12_isThing_9 rfl
theorem C_X12_isThing {X : Scr}   (x0 : Int32) {M : Mem} {r : Int32} {M' : Mem} (h : X12_isThing  x0 M = some (r, M')) : Ct X md_X12_isThing [.int x0] M (eI r) M' := Ct_of (by decide +kernel) (Nat.le_of_ble_eq_true rfl) (t_X12_isThing  _ M) r M' h
-- X12_isIn
def X12_isIn_b14   (s0 : Int32) (M : Mem) : Option (Int32 × Mem) :=
  gd (s0 == 0 || s0 == 1) (some (s0, M))
def X12_isIn   (x0 : Int32) (x1 : Int32) (M : Mem) : Option (Int32 × Mem) :=
  if ((x0 >>> (x1 &&& 31)) &&& (1 : Int32)) = (1 : Int32) then
    X12_isIn_b14   (1 : Int32) M
  else
    X12_isIn_b14   (0 : Int32) M
set_option maxHeartbeats 4000000 in
set_option maxRecDepth 100000 in
theorem t_X12_isIn_b14 {X : Scr}   (s0 : Int32) (M : Mem) : T X eI (X12_isIn_b14   s0 M) md_X12_isIn 14 [] [.int s0] M := by
  unfold X12_isIn_b14
  exact T_zret dX12_isIn_14 rfl
set_option maxHeartbeats 4000000 in
set_option maxRecDepth 100000 in
theorem t_X12_isIn {X : Scr}   (x0 : Int32) (x1 : Int32) (M : Mem) : T X eI (X12_isIn   x0 x1 M) md_X12_isIn 0 [(0, .int x0), (1, .int x1)] [] M := by
  unfold X12_isIn
  refine T_iload_n 0 dX12_isIn_0 rfl rfl ?_
  refine T_iload_n 1 dX12_isIn_1 rfl rfl ?_
  refine T_ishr dX12_isIn_2 ?_
  refine T_iconst (v := (1 : Int32)) (by decide) dX12_isIn_3 ?_
  refine T_iand dX12_isIn_4 ?_
  refine T_iconst (v := (1 : Int32)) (by decide) dX12_isIn_5 ?_
  refine T_icmp_ne 13 dX12_isIn_6 (by decide) ?_ ?_
  ·
    refine T_iconst (v := (1 : Int32)) (by decide) dX12_isIn_9 ?_
    refine T_goto 14 dX12_isIn_10 (by decide) ?_
    refine T_sub [] (lv' := []) rfl ?_
    exact t_X12_isIn_b14   _ _
  ·
    refine T_iconst (v := (0 : Int32)) (by decide) dX12_isIn_13 ?_
    refine T_sub [] (lv' := []) rfl ?_
    exact t_X12_isIn_b14   _ _
theorem C_X12_isIn {X : Scr}   (x0 : Int32) (x1 : Int32) {M : Mem} {r : Int32} {M' : Mem} (h : X12_isIn  x0 x1 M = some (r, M')) : Ct X md_X12_isIn [.int x0, .int x1] M (eI r) M' := Ct_of (by decide +kernel) (Nat.le_of_ble_eq_true rfl) (t_X12_isIn  _ _ M) r M' h
-- X12_apart
def X12_apart_b14   (s0 : Int32) (M : Mem) : Option (Int32 × Mem) :=
  some (s0, M)
def X12_apart   (x0 : Int32) (x1 : Int32) (M : Mem) : Option (Int32 × Mem) :=
  if x0 ≤ x1 then
    X12_apart_b14   (x1 - x0) M
  else
    X12_apart_b14   (x0 - x1) M
set_option maxHeartbeats 4000000 in
set_option maxRecDepth 100000 in
theorem t_X12_apart_b14 {X : Scr}   (s0 : Int32) (M : Mem) : T X eI (X12_apart_b14   s0 M) md_X12_apart 14 [] [.int s0] M := by
  unfold X12_apart_b14
  exact T_iret dX12_apart_14 rfl
set_option maxHeartbeats 4000000 in
set_option maxRecDepth 100000 in
theorem t_X12_apart {X : Scr}   (x0 : Int32) (x1 : Int32) (M : Mem) : T X eI (X12_apart   x0 x1 M) md_X12_apart 0 [(0, .int x0), (1, .int x1)] [] M := by
  unfold X12_apart
  refine T_iload_n 0 dX12_apart_0 rfl rfl ?_
  refine T_iload_n 1 dX12_apart_1 rfl rfl ?_
  refine T_icmp_le 11 dX12_apart_2 (by decide) ?_ ?_
  ·
    refine T_iload_n 1 dX12_apart_11 rfl rfl ?_
    refine T_iload_n 0 dX12_apart_12 rfl rfl ?_
    refine T_isub dX12_apart_13 ?_
    refine T_sub [] (lv' := []) rfl ?_
    exact t_X12_apart_b14   _ _
  ·
    refine T_iload_n 0 dX12_apart_5 rfl rfl ?_
    refine T_iload_n 1 dX12_apart_6 rfl rfl ?_
    refine T_isub dX12_apart_7 ?_
    refine T_goto 14 dX12_apart_8 (by decide) ?_
    refine T_sub [] (lv' := []) rfl ?_
    exact t_X12_apart_b14   _ _
theorem C_X12_apart {X : Scr}   (x0 : Int32) (x1 : Int32) {M : Mem} {r : Int32} {M' : Mem} (h : X12_apart  x0 x1 M = some (r, M')) : Ct X md_X12_apart [.int x0, .int x1] M (eI r) M' := Ct_of (by decide +kernel) (Nat.le_of_ble_eq_true rfl) (t_X12_apart  _ _ M) r M' h
-- X12_basket
def X12_basket_b33 (i0 : Nat)   (M : Mem) : Option (Int32 × Mem) :=
  some ((-2 : Int32), M)
def X12_basket (i0 : Nat)  (x1 : Int32) (x2 : Int32) (x3 : Int32) (M : Mem) : Option (Int32 × Mem) :=
  (X12_isCabin  x1 M).bind (fun p1 =>
    if p1.1 = 0 then
      some ((-1 : Int32), p1.2)
    else
      (X12_in  x2.toInt64 (0 : Int64) (255 : Int64) p1.2).bind (fun p2 =>
        if p2.1 = 0 then
          X12_basket_b33 i0   p2.2
        else
          (X12_in  x3.toInt64 (1 : Int64) (9 : Int64) p2.2).bind (fun p3 =>
            if p3.1 = 0 then
              X12_basket_b33 i0   p3.2
            else
              gd (ib x1 10) (
                gd (ib x1 10) (
                  iw (((10 : Int32) * (p3.2.1 (rf i0 1) x1.toNatClampNeg)) + (p3.2.1 (rf i0 2) x1.toNatClampNeg)) (fun v4 =>
                    gd (ib x1 10) (
                      gd (ib x1 10) (
                        some (v4, (mI (mI p3.2 (rf i0 1) x1.toNatClampNeg x2) (rf i0 2) x1.toNatClampNeg x3))))))))))
set_option maxHeartbeats 4000000 in
set_option maxRecDepth 100000 in
theorem t_X12_basket_b33 {X : Scr} {i0 : Nat} (h0 : KD[i0]? = some (.inl 12))  (M : Mem) : T X eI (X12_basket_b33 i0   M) md_X12_basket 33 [] [] M := by
  unfold X12_basket_b33
  refine T_bipush (v := (-2 : Int32)) (by decide) dX12_basket_33 ?_
  exact T_iret dX12_basket_35 rfl
set_option maxHeartbeats 4000000 in
set_option maxRecDepth 100000 in
theorem t_X12_basket {X : Scr} {i0 : Nat} (h0 : KD[i0]? = some (.inl 12)) (x1 : Int32) (x2 : Int32) (x3 : Int32) (M : Mem) : T X eI (X12_basket i0  x1 x2 x3 M) md_X12_basket 0 [(0, .ref i0), (1, .int x1), (2, .int x2), (3, .int x3)] [] M := by
  unfold X12_basket
  refine T_iload_n 1 dX12_basket_0 rfl rfl ?_
  refine T_callSI md_X12_isCabin [.int x1] [] dX12_basket_1 rfl ok_X12_isCabin tb_812 tb_813 (by decide) (Nat.le_of_ble_eq_true rfl) (fun _ _ h9 => C_X12_isCabin  _ h9) (fun r1 M1 => ?_)
  dsimp only
  refine T_if_ne 9 dX12_basket_4 (by decide) ?_ ?_
  ·
    refine T_iconst (v := (-1 : Int32)) (by decide) dX12_basket_7 ?_
    exact T_iret dX12_basket_8 rfl
  ·
    refine T_iload_n 2 dX12_basket_9 rfl rfl ?_
    refine T_i2l dX12_basket_10 ?_
    refine T_lconst (v := (0 : Int64)) (by decide) dX12_basket_11 ?_
    refine T_ldc2 (v := (255 : Int64)) dX12_basket_12 tb_819 ?_
    refine T_callSI md_X12_in [.long x2.toInt64, .long (0 : Int64), .long (255 : Int64)] [] dX12_basket_15 rfl ok_X12_in tb_816 tb_817 (by decide) (Nat.le_of_ble_eq_true rfl) (fun _ _ h9 => C_X12_in  _ _ _ h9) (fun r2 M2 => ?_)
    dsimp only
    refine T_if_eq 33 dX12_basket_18 (by decide) ?_ ?_
    ·
      refine T_sub [] (lv' := []) rfl ?_
      exact t_X12_basket_b33 h0   _
    ·
      refine T_iload_n 3 dX12_basket_21 rfl rfl ?_
      refine T_i2l dX12_basket_22 ?_
      refine T_lconst (v := (1 : Int64)) (by decide) dX12_basket_23 ?_
      refine T_ldc2 (v := (9 : Int64)) dX12_basket_24 tb_815 ?_
      refine T_callSI md_X12_in [.long x3.toInt64, .long (1 : Int64), .long (9 : Int64)] [] dX12_basket_27 rfl ok_X12_in tb_816 tb_817 (by decide) (Nat.le_of_ble_eq_true rfl) (fun _ _ h9 => C_X12_in  _ _ _ h9) (fun r3 M3 => ?_)
      dsimp only
      refine T_if_ne 36 dX12_basket_30 (by decide) ?_ ?_
      ·
        refine T_sub [] (lv' := []) rfl ?_
        exact t_X12_basket_b33 h0   _
      ·
        refine T_bipush (v := (10 : Int32)) (by decide) dX12_basket_36 ?_
        refine T_aload_n 0 dX12_basket_38 rfl rfl ?_
        refine T_getR 1 FOk_12 h0 (by decide) (by decide) dX12_basket_39 tb_714 ?_
        refine T_iload_n 1 dX12_basket_42 rfl rfl ?_
        refine T_iald (kf_12_1 h0) dX12_basket_43 ?_
        refine T_imul dX12_basket_44 ?_
        refine T_aload_n 0 dX12_basket_45 rfl rfl ?_
        refine T_getR 2 FOk_12 h0 (by decide) (by decide) dX12_basket_46 tb_715 ?_
        refine T_iload_n 1 dX12_basket_49 rfl rfl ?_
        refine T_iald (kf_12_2 h0) dX12_basket_50 ?_
        refine T_iadd dX12_basket_51 ?_
        refine T_iw (fun v4 => ?_)
        try dsimp only
        refine T_istore [(4, .int v4), (0, .ref i0), (1, .int x1), (2, .int x2), (3, .int x3)] dX12_basket_52 (by decide) rfl ?_
        refine T_aload_n 1 dX12_basket_54 rfl rfl ?_
        refine T_getR 1 FOk_12 h0 (by decide) (by decide) dX12_basket_55 tb_714 ?_
        refine T_iload_n 2 dX12_basket_58 rfl rfl ?_
        refine T_iload_n 3 dX12_basket_59 rfl rfl ?_
        refine T_iast (kf_12_1 h0) dX12_basket_60 ?_
        refine T_aload_n 1 dX12_basket_61 rfl rfl ?_
        refine T_getR 2 FOk_12 h0 (by decide) (by decide) dX12_basket_62 tb_715 ?_
        refine T_iload_n 2 dX12_basket_65 rfl rfl ?_
        refine T_iload_n 4 dX12_basket_66 rfl rfl ?_
        refine T_iast (kf_12_2 h0) dX12_basket_67 ?_
        refine T_iload 0 dX12_basket_68 rfl ?_
        exact T_iret dX12_basket_70 rfl
theorem C_X12_basket {X : Scr} {i0 : Nat} (h0 : KD[i0]? = some (.inl 12)) (x1 : Int32) (x2 : Int32) (x3 : Int32) {M : Mem} {r : Int32} {M' : Mem} (h : X12_basket i0 x1 x2 x3 M = some (r, M')) : Ct X md_X12_basket [.ref i0, .int x1, .int x2, .int x3] M (eI r) M' := Ct_of (by decide +kernel) (Nat.le_of_ble_eq_true rfl) (t_X12_basket h0 _ _ _ M) r M' h
-- X12_wrongMany
def X12_wrongMany_b26 (i0 : Nat) (k4 : Int32 → Int32 → Mem → Option (Int32 × Mem)) (x2 : Int32) (s0 : Int32) (s1 : Int32) (M : Mem) : Option (Int32 × Mem) :=
  k4 (s1 + s0) (x2 + (1 : Int32)) M
def X12_wrongMany_b4 (i0 : Nat) (k4 : Int32 → Int32 → Mem → Option (Int32 × Mem)) (x1 : Int32) (x2 : Int32) (M : Mem) : Option (Int32 × Mem) :=
  if (10 : Int32) ≤ x2 then
    some (x1, M)
  else
    gd (ib x2 10) (
      if (M.1 (rf i0 0) x2.toNatClampNeg) = x2 then
        X12_wrongMany_b26 i0 k4 x2 (0 : Int32) x1 M
      else
        X12_wrongMany_b26 i0 k4 x2 (1 : Int32) x1 M)
def X12_wrongMany_l4 (i0 : Nat)  : Nat → Int32 → Int32 → Mem → Option (Int32 × Mem)
  | 0 => fun _ _ _ => none
  | n + 1 => X12_wrongMany_b4 i0 (X12_wrongMany_l4 i0  n)
def X12_wrongMany (i0 : Nat)   (M : Mem) : Option (Int32 × Mem) :=
  X12_wrongMany_l4 i0  FU (0 : Int32) (0 : Int32) M
set_option maxHeartbeats 4000000 in
set_option maxRecDepth 100000 in
theorem t_X12_wrongMany_b26 {X : Scr} {i0 : Nat} (h0 : KD[i0]? = some (.inl 12)) {k4 : Int32 → Int32 → Mem → Option (Int32 × Mem)} (hk4 : ∀ (x1 : Int32) (x2 : Int32) (M : Mem), T X eI (k4 x1 x2 M) md_X12_wrongMany 4 [(0, .ref i0), (1, .int x1), (2, .int x2)] [] M) (x2 : Int32) (s0 : Int32) (s1 : Int32) (M : Mem) : T X eI (X12_wrongMany_b26 i0 k4 x2 s0 s1 M) md_X12_wrongMany 26 [(0, .ref i0), (2, .int x2)] [.int s0, .int s1] M := by
  unfold X12_wrongMany_b26
  refine T_iadd dX12_wrongMany_26 ?_
  refine T_istore_n [(1, .int (s1 + s0)), (0, .ref i0), (2, .int x2)] dX12_wrongMany_27 rfl (by decide) rfl ?_
  refine T_iinc 2 [(2, .int (x2 + (1 : Int32))), (1, .int (s1 + s0)), (0, .ref i0)] (v := (1 : Int32)) dX12_wrongMany_28 rfl (by decide) (by decide) rfl ?_
  refine T_goto 4 dX12_wrongMany_31 (by decide) ?_
  refine T_sub [2, 1, 0] (lv' := [(0, .ref i0), (1, .int (s1 + s0)), (2, .int (x2 + (1 : Int32)))]) rfl ?_
  exact hk4 _ _ _
set_option maxHeartbeats 4000000 in
set_option maxRecDepth 100000 in
theorem t_X12_wrongMany_b4 {X : Scr} {i0 : Nat} (h0 : KD[i0]? = some (.inl 12)) {k4 : Int32 → Int32 → Mem → Option (Int32 × Mem)} (hk4 : ∀ (x1 : Int32) (x2 : Int32) (M : Mem), T X eI (k4 x1 x2 M) md_X12_wrongMany 4 [(0, .ref i0), (1, .int x1), (2, .int x2)] [] M) (x1 : Int32) (x2 : Int32) (M : Mem) : T X eI (X12_wrongMany_b4 i0 k4 x1 x2 M) md_X12_wrongMany 4 [(0, .ref i0), (1, .int x1), (2, .int x2)] [] M := by
  unfold X12_wrongMany_b4
  refine T_iload_n 2 dX12_wrongMany_4 rfl rfl ?_
  refine T_bipush (v := (10 : Int32)) (by decide) dX12_wrongMany_5 ?_
  refine T_icmp_ge 34 dX12_wrongMany_7 (by decide) ?_ ?_
  ·
    refine T_iload_n 1 dX12_wrongMany_34 rfl rfl ?_
    exact T_iret dX12_wrongMany_35 rfl
  ·
    refine T_iload_n 1 dX12_wrongMany_10 rfl rfl ?_
    refine T_aload_n 0 dX12_wrongMany_11 rfl rfl ?_
    refine T_getR 0 FOk_12 h0 (by decide) (by decide) dX12_wrongMany_12 tb_713 ?_
    refine T_iload_n 2 dX12_wrongMany_15 rfl rfl ?_
    refine T_iald (kf_12_0 h0) dX12_wrongMany_16 ?_
    refine T_iload_n 2 dX12_wrongMany_17 rfl rfl ?_
    refine T_icmp_ne 25 dX12_wrongMany_18 (by decide) ?_ ?_
    ·
      refine T_iconst (v := (0 : Int32)) (by decide) dX12_wrongMany_21 ?_
      refine T_goto 26 dX12_wrongMany_22 (by decide) ?_
      refine T_sub [0, 2] (lv' := [(0, .ref i0), (2, .int x2)]) rfl ?_
      exact t_X12_wrongMany_b26 h0 hk4 _ _ _ _
    ·
      refine T_iconst (v := (1 : Int32)) (by decide) dX12_wrongMany_25 ?_
      refine T_sub [0, 2] (lv' := [(0, .ref i0), (2, .int x2)]) rfl ?_
      exact t_X12_wrongMany_b26 h0 hk4 _ _ _ _
theorem t_X12_wrongMany_l4 {X : Scr} {i0 : Nat} (h0 : KD[i0]? = some (.inl 12)) (n : Nat) : ∀ (x1 : Int32) (x2 : Int32) (M : Mem), T X eI (X12_wrongMany_l4 i0  n x1 x2 M) md_X12_wrongMany 4 [(0, .ref i0), (1, .int x1), (2, .int x2)] [] M := by
  induction n with
  | zero => intro x1 x2 M; exact T_none
  | succ n ih => intro x1 x2 M; exact t_X12_wrongMany_b4 h0 ih x1 x2 M
set_option maxHeartbeats 4000000 in
set_option maxRecDepth 100000 in
theorem t_X12_wrongMany {X : Scr} {i0 : Nat} (h0 : KD[i0]? = some (.inl 12))  (M : Mem) : T X eI (X12_wrongMany i0   M) md_X12_wrongMany 0 [(0, .ref i0)] [] M := by
  unfold X12_wrongMany
  refine T_iconst (v := (0 : Int32)) (by decide) dX12_wrongMany_0 ?_
  refine T_istore_n [(1, .int (0 : Int32)), (0, .ref i0)] dX12_wrongMany_1 rfl (by decide) rfl ?_
  refine T_iconst (v := (0 : Int32)) (by decide) dX12_wrongMany_2 ?_
  refine T_istore_n [(2, .int (0 : Int32)), (1, .int (0 : Int32)), (0, .ref i0)] dX12_wrongMany_3 rfl (by decide) rfl ?_
  refine T_sub [2, 1, 0] (lv' := [(0, .ref i0), (1, .int (0 : Int32)), (2, .int (0 : Int32))]) rfl ?_
  exact t_X12_wrongMany_l4 h0  _ _ _ _
theorem C_X12_wrongMany {X : Scr} {i0 : Nat} (h0 : KD[i0]? = some (.inl 12))  {M : Mem} {r : Int32} {M' : Mem} (h : X12_wrongMany i0  M = some (r, M')) : Ct X md_X12_wrongMany [.ref i0] M (eI r) M' := Ct_of (by decide +kernel) (Nat.le_of_ble_eq_true rfl) (t_X12_wrongMany h0  M) r M' h
-- X12_right
def X12_right_b7 (i0 : Nat) (k7 : Int32 → Int32 → Mem → Option (Int32 × Mem)) (x1 : Int32) (x2 : Int32) (M : Mem) : Option (Int32 × Mem) :=
  if (10 : Int32) ≤ x2 then
    some (x1, M)
  else
    gd (ib x2 10) (
      k7 x1 (x2 + (1 : Int32)) (mI M (rf i0 0) x2.toNatClampNeg x2))
def X12_right_l7 (i0 : Nat)  : Nat → Int32 → Int32 → Mem → Option (Int32 × Mem)
  | 0 => fun _ _ _ => none
  | n + 1 => X12_right_b7 i0 (X12_right_l7 i0  n)
def X12_right (i0 : Nat)   (M : Mem) : Option (Int32 × Mem) :=
  (X12_wrongMany i0  M).bind (fun p1 =>
    X12_right_l7 i0  FU p1.1 (0 : Int32) p1.2)
set_option maxHeartbeats 4000000 in
set_option maxRecDepth 100000 in
theorem t_X12_right_b7 {X : Scr} {i0 : Nat} (h0 : KD[i0]? = some (.inl 12)) {k7 : Int32 → Int32 → Mem → Option (Int32 × Mem)} (hk7 : ∀ (x1 : Int32) (x2 : Int32) (M : Mem), T X eI (k7 x1 x2 M) md_X12_right 7 [(0, .ref i0), (1, .int x1), (2, .int x2)] [] M) (x1 : Int32) (x2 : Int32) (M : Mem) : T X eI (X12_right_b7 i0 k7 x1 x2 M) md_X12_right 7 [(0, .ref i0), (1, .int x1), (2, .int x2)] [] M := by
  unfold X12_right_b7
  refine T_iload_n 2 dX12_right_7 rfl rfl ?_
  refine T_bipush (v := (10 : Int32)) (by decide) dX12_right_8 ?_
  refine T_icmp_ge 26 dX12_right_10 (by decide) ?_ ?_
  ·
    refine T_iload_n 1 dX12_right_26 rfl rfl ?_
    exact T_iret dX12_right_27 rfl
  ·
    refine T_aload_n 0 dX12_right_13 rfl rfl ?_
    refine T_getR 0 FOk_12 h0 (by decide) (by decide) dX12_right_14 tb_713 ?_
    refine T_iload_n 2 dX12_right_17 rfl rfl ?_
    refine T_iload_n 2 dX12_right_18 rfl rfl ?_
    refine T_iast (kf_12_0 h0) dX12_right_19 ?_
    refine T_iinc 2 [(2, .int (x2 + (1 : Int32))), (0, .ref i0), (1, .int x1)] (v := (1 : Int32)) dX12_right_20 rfl (by decide) (by decide) rfl ?_
    refine T_goto 7 dX12_right_23 (by decide) ?_
    refine T_sub [1, 2, 0] (lv' := [(0, .ref i0), (1, .int x1), (2, .int (x2 + (1 : Int32)))]) rfl ?_
    exact hk7 _ _ _
theorem t_X12_right_l7 {X : Scr} {i0 : Nat} (h0 : KD[i0]? = some (.inl 12)) (n : Nat) : ∀ (x1 : Int32) (x2 : Int32) (M : Mem), T X eI (X12_right_l7 i0  n x1 x2 M) md_X12_right 7 [(0, .ref i0), (1, .int x1), (2, .int x2)] [] M := by
  induction n with
  | zero => intro x1 x2 M; exact T_none
  | succ n ih => intro x1 x2 M; exact t_X12_right_b7 h0 ih x1 x2 M
set_option maxHeartbeats 4000000 in
set_option maxRecDepth 100000 in
theorem t_X12_right {X : Scr} {i0 : Nat} (h0 : KD[i0]? = some (.inl 12))  (M : Mem) : T X eI (X12_right i0   M) md_X12_right 0 [(0, .ref i0)] [] M := by
  unfold X12_right
  refine T_aload_n 0 dX12_right_0 rfl rfl ?_
  refine T_callVI md_X12_wrongMany [] [] dX12_right_1 h0 rfl rfl ok_X12_wrongMany tb_824 tb_826 tb_13 (by decide) (Nat.le_of_ble_eq_true rfl) (fun _ _ h9 => C_X12_wrongMany h0  h9) (fun r1 M1 => ?_)
  dsimp only
  refine T_istore_n [(1, .int r1), (0, .ref i0)] dX12_right_4 rfl (by decide) rfl ?_
  refine T_iconst (v := (0 : Int32)) (by decide) dX12_right_5 ?_
  refine T_istore_n [(2, .int (0 : Int32)), (1, .int r1), (0, .ref i0)] dX12_right_6 rfl (by decide) rfl ?_
  refine T_sub [2, 1, 0] (lv' := [(0, .ref i0), (1, .int r1), (2, .int (0 : Int32))]) rfl ?_
  exact t_X12_right_l7 h0  _ _ _ _
theorem C_X12_right {X : Scr} {i0 : Nat} (h0 : KD[i0]? = some (.inl 12))  {M : Mem} {r : Int32} {M' : Mem} (h : X12_right i0  M = some (r, M')) : Ct X md_X12_right [.ref i0] M (eI r) M' := Ct_of (by decide +kernel) (Nat.le_of_ble_eq_true rfl) (t_X12_right h0  M) r M' h
