-- X11_playEvening
def X11_playEvening_b48 (i0 : Nat)  (s0 : Int32) (M : Mem) : Option (Int32 × Mem) :=
  some (s0, M)
def X11_playEvening (i0 : Nat)   (M : Mem) : Option (Int32 × Mem) :=
  (X8_faultPlace (rf i0 2)  M).bind (fun p1 =>
    if p1.1 = (-6 : Int32) then
      (X2_play (rf i0 5) (rf i0 0) (rf i0 2)  p1.2).bind (fun p2 =>
        if (p2.2.1 (rf i0 5) 2) = (-6 : Int32) then
          X11_playEvening_b48 i0  (0 : Int32) p2.2
        else
          X11_playEvening_b48 i0  (-3 : Int32) p2.2)
    else
      some ((-5 : Int32), p1.2))
set_option maxHeartbeats 4000000 in
set_option maxRecDepth 100000 in
theorem t_X11_playEvening_b48 {X : Scr} {i0 : Nat} (h0 : KD[i0]? = some (.inl 11)) (s0 : Int32) (M : Mem) : T X eI (X11_playEvening_b48 i0  s0 M) md_X11_playEvening 48 [] [.int s0] M := by
  unfold X11_playEvening_b48
  exact T_iret dX11_playEvening_48 rfl
set_option maxHeartbeats 4000000 in
set_option maxRecDepth 100000 in
theorem t_X11_playEvening {X : Scr} {i0 : Nat} (h0 : KD[i0]? = some (.inl 11))  (M : Mem) : T X eI (X11_playEvening i0   M) md_X11_playEvening 0 [(0, .ref i0)] [] M := by
  unfold X11_playEvening
  refine T_aload_n 0 dX11_playEvening_0 rfl rfl ?_
  refine T_getR 2 FOk_11 h0 (by decide) (by decide) dX11_playEvening_1 tb_319 ?_
  refine T_callVI md_X8_faultPlace [] [] dX11_playEvening_4 (kf_11_2 h0) rfl rfl ok_X8_faultPlace tb_403 tb_404 tb_405 (by decide) (Nat.le_of_ble_eq_true rfl) (fun _ _ h9 => C_X8_faultPlace (kf_11_2 h0)  h9) (fun r1 M1 => ?_)
  dsimp only
  refine T_bipush (v := (-6 : Int32)) (by decide) dX11_playEvening_7 ?_
  refine T_icmp_eq 15 dX11_playEvening_9 (by decide) ?_ ?_
  ·
    refine T_aload_n 0 dX11_playEvening_15 rfl rfl ?_
    refine T_getR 5 FOk_11 h0 (by decide) (by decide) dX11_playEvening_16 tb_322 ?_
    refine T_aload_n 0 dX11_playEvening_19 rfl rfl ?_
    refine T_getR 0 FOk_11 h0 (by decide) (by decide) dX11_playEvening_20 tb_317 ?_
    refine T_aload_n 0 dX11_playEvening_23 rfl rfl ?_
    refine T_getR 2 FOk_11 h0 (by decide) (by decide) dX11_playEvening_24 tb_319 ?_
    refine T_callVU md_X2_play [.ref (rf i0 0), .ref (rf i0 2)] [] dX11_playEvening_27 (kf_11_5 h0) rfl rfl ok_X2_play tb_431 tb_432 tb_433 (by decide) (Nat.le_of_ble_eq_true rfl) (fun _ _ h9 => C_X2_play (kf_11_5 h0) (kf_11_0 h0) (kf_11_2 h0)  h9) (fun r2 M2 => ?_)
    dsimp only
    refine T_aload_n 0 dX11_playEvening_30 rfl rfl ?_
    refine T_getR 5 FOk_11 h0 (by decide) (by decide) dX11_playEvening_31 tb_322 ?_
    refine T_getI 2 FOk_2 (kf_11_5 h0) (by decide) (by decide) dX11_playEvening_34 tb_188 ?_
    refine T_bipush (v := (-6 : Int32)) (by decide) dX11_playEvening_37 ?_
    refine T_icmp_ne 46 dX11_playEvening_39 (by decide) ?_ ?_
    ·
      refine T_iconst (v := (0 : Int32)) (by decide) dX11_playEvening_42 ?_
      refine T_goto 48 dX11_playEvening_43 (by decide) ?_
      refine T_sub [] (lv' := []) rfl ?_
      exact t_X11_playEvening_b48 h0  _ _
    ·
      refine T_bipush (v := (-3 : Int32)) (by decide) dX11_playEvening_46 ?_
      refine T_sub [] (lv' := []) rfl ?_
      exact t_X11_playEvening_b48 h0  _ _
  ·
    refine T_bipush (v := (-5 : Int32)) (by decide) dX11_playEvening_12 ?_
    exact T_iret dX11_playEvening_14 rfl
theorem C_X11_playEvening {X : Scr} {i0 : Nat} (h0 : KD[i0]? = some (.inl 11))  {M : Mem} {r : Int32} {M' : Mem} (h : X11_playEvening i0  M = some (r, M')) : Ct X md_X11_playEvening [.ref i0] M (eI r) M' := Ct_of (by decide +kernel) (Nat.le_of_ble_eq_true rfl) (t_X11_playEvening h0  M) r M' h
-- X11_judge
def X11_judge_b34 (i0 : Nat)  (x2 : Int32) (M : Mem) : Option (Int32 × Mem) :=
  some (x2, M)
def X11_judge_b70 (i0 : Nat)  (s0 : Int32) (M : Mem) : Option (Int32 × Mem) :=
  some (s0, M)
def X11_judge_b36 (i0 : Nat)  (x1 : Int32) (M : Mem) : Option (Int32 × Mem) :=
  if x1 = (2 : Int32) then
    some ((M.1 (rf i0 5) 4), M)
  else
    if x1 = 0 then
      X11_judge_b70 i0  (M.1 (rf i0 5) 2) M
    else
      X11_judge_b70 i0  (M.1 (rf i0 5) 3) M
def X11_judge (i0 : Nat)  (x1 : Int32) (M : Mem) : Option (Int32 × Mem) :=
  (X11_isWithin  x1 (0 : Int32) (2 : Int32) M).bind (fun p1 =>
    if p1.1 = 0 then
      some ((-2 : Int32), p1.2)
    else
      (X11_playEvening i0  p1.2).bind (fun p2 =>
        if p2.1 = (-5 : Int32) then
          X11_judge_b34 i0  p2.1 p2.2
        else
          if x1 = (2 : Int32) then
            if p2.1 = (-3 : Int32) then
              X11_judge_b34 i0  p2.1 p2.2
            else
              X11_judge_b36 i0  x1 p2.2
          else
            X11_judge_b36 i0  x1 p2.2))
set_option maxHeartbeats 4000000 in
set_option maxRecDepth 100000 in
theorem t_X11_judge_b34 {X : Scr} {i0 : Nat} (h0 : KD[i0]? = some (.inl 11)) (x2 : Int32) (M : Mem) : T X eI (X11_judge_b34 i0  x2 M) md_X11_judge 34 [(2, .int x2)] [] M := by
  unfold X11_judge_b34
  refine T_iload_n 0 dX11_judge_34 rfl rfl ?_
  exact T_iret dX11_judge_35 rfl
set_option maxHeartbeats 4000000 in
set_option maxRecDepth 100000 in
theorem t_X11_judge_b70 {X : Scr} {i0 : Nat} (h0 : KD[i0]? = some (.inl 11)) (s0 : Int32) (M : Mem) : T X eI (X11_judge_b70 i0  s0 M) md_X11_judge 70 [] [.int s0] M := by
  unfold X11_judge_b70
  exact T_iret dX11_judge_70 rfl
set_option maxHeartbeats 4000000 in
set_option maxRecDepth 100000 in
theorem t_X11_judge_b36 {X : Scr} {i0 : Nat} (h0 : KD[i0]? = some (.inl 11)) (x1 : Int32) (M : Mem) : T X eI (X11_judge_b36 i0  x1 M) md_X11_judge 36 [(0, .ref i0), (1, .int x1)] [] M := by
  unfold X11_judge_b36
  refine T_iload_n 1 dX11_judge_36 rfl rfl ?_
  refine T_iconst (v := (2 : Int32)) (by decide) dX11_judge_37 ?_
  refine T_icmp_ne 49 dX11_judge_38 (by decide) ?_ ?_
  ·
    refine T_aload_n 0 dX11_judge_41 rfl rfl ?_
    refine T_getR 5 FOk_11 h0 (by decide) (by decide) dX11_judge_42 tb_322 ?_
    refine T_getI 4 FOk_2 (kf_11_5 h0) (by decide) (by decide) dX11_judge_45 tb_192 ?_
    exact T_iret dX11_judge_48 rfl
  ·
    refine T_iload_n 1 dX11_judge_49 rfl rfl ?_
    refine T_if_ne 63 dX11_judge_50 (by decide) ?_ ?_
    ·
      refine T_aload_n 0 dX11_judge_53 rfl rfl ?_
      refine T_getR 5 FOk_11 h0 (by decide) (by decide) dX11_judge_54 tb_322 ?_
      refine T_getI 2 FOk_2 (kf_11_5 h0) (by decide) (by decide) dX11_judge_57 tb_188 ?_
      refine T_goto 70 dX11_judge_60 (by decide) ?_
      refine T_sub [] (lv' := []) rfl ?_
      exact t_X11_judge_b70 h0  _ _
    ·
      refine T_aload_n 0 dX11_judge_63 rfl rfl ?_
      refine T_getR 5 FOk_11 h0 (by decide) (by decide) dX11_judge_64 tb_322 ?_
      refine T_getI 3 FOk_2 (kf_11_5 h0) (by decide) (by decide) dX11_judge_67 tb_190 ?_
      refine T_sub [] (lv' := []) rfl ?_
      exact t_X11_judge_b70 h0  _ _
set_option maxHeartbeats 4000000 in
set_option maxRecDepth 100000 in
theorem t_X11_judge {X : Scr} {i0 : Nat} (h0 : KD[i0]? = some (.inl 11)) (x1 : Int32) (M : Mem) : T X eI (X11_judge i0  x1 M) md_X11_judge 0 [(0, .ref i0), (1, .int x1)] [] M := by
  unfold X11_judge
  refine T_iload_n 1 dX11_judge_0 rfl rfl ?_
  refine T_iconst (v := (0 : Int32)) (by decide) dX11_judge_1 ?_
  refine T_iconst (v := (2 : Int32)) (by decide) dX11_judge_2 ?_
  refine T_callSI md_X11_isWithin [.int x1, .int (0 : Int32), .int (2 : Int32)] [] dX11_judge_3 rfl ok_X11_isWithin tb_361 tb_362 (by decide) (Nat.le_of_ble_eq_true rfl) (fun _ _ h9 => C_X11_isWithin  _ _ _ h9) (fun r1 M1 => ?_)
  dsimp only
  refine T_if_ne 12 dX11_judge_6 (by decide) ?_ ?_
  ·
    refine T_bipush (v := (-2 : Int32)) (by decide) dX11_judge_9 ?_
    exact T_iret dX11_judge_11 rfl
  ·
    refine T_aload_n 0 dX11_judge_12 rfl rfl ?_
    refine T_callVI md_X11_playEvening [] [] dX11_judge_13 h0 rfl rfl ok_X11_playEvening tb_427 tb_429 tb_0 (by decide) (Nat.le_of_ble_eq_true rfl) (fun _ _ h9 => C_X11_playEvening h0  h9) (fun r2 M2 => ?_)
    dsimp only
    refine T_istore_n [(2, .int r2), (0, .ref i0), (1, .int x1)] dX11_judge_16 rfl (by decide) rfl ?_
    refine T_iload_n 0 dX11_judge_17 rfl rfl ?_
    refine T_bipush (v := (-5 : Int32)) (by decide) dX11_judge_18 ?_
    refine T_icmp_eq 34 dX11_judge_20 (by decide) ?_ ?_
    ·
      refine T_sub [0] (lv' := [(2, .int r2)]) rfl ?_
      exact t_X11_judge_b34 h0  _ _
    ·
      refine T_iload_n 2 dX11_judge_23 rfl rfl ?_
      refine T_iconst (v := (2 : Int32)) (by decide) dX11_judge_24 ?_
      refine T_icmp_ne 36 dX11_judge_25 (by decide) ?_ ?_
      ·
        refine T_iload_n 0 dX11_judge_28 rfl rfl ?_
        refine T_bipush (v := (-3 : Int32)) (by decide) dX11_judge_29 ?_
        refine T_icmp_ne 36 dX11_judge_31 (by decide) ?_ ?_
        ·
          refine T_sub [0] (lv' := [(2, .int r2)]) rfl ?_
          exact t_X11_judge_b34 h0  _ _
        ·
          refine T_sub [1, 2] (lv' := [(0, .ref i0), (1, .int x1)]) rfl ?_
          exact t_X11_judge_b36 h0  _ _
      ·
        refine T_sub [1, 2] (lv' := [(0, .ref i0), (1, .int x1)]) rfl ?_
        exact t_X11_judge_b36 h0  _ _
theorem C_X11_judge {X : Scr} {i0 : Nat} (h0 : KD[i0]? = some (.inl 11)) (x1 : Int32) {M : Mem} {r : Int32} {M' : Mem} (h : X11_judge i0 x1 M = some (r, M')) : Ct X md_X11_judge [.ref i0, .int x1] M (eI r) M' := Ct_of (by decide +kernel) (Nat.le_of_ble_eq_true rfl) (t_X11_judge h0 _ M) r M' h
-- X11_behind
def X11_behind_b68 (i0 : Nat)  (s0 : Int32) (M : Mem) : Option (Int32 × Mem) :=
  some (s0, M)
def X11_behind (i0 : Nat)  (x1 : Int32) (x2 : Int32) (M : Mem) : Option (Int32 × Mem) :=
  (X11_isCabin  x1 M).bind (fun p1 =>
    if p1.1 = 0 then
      some ((-1 : Int32), p1.2)
    else
      (X11_isWithin  x2 (0 : Int32) (1 : Int32) p1.2).bind (fun p2 =>
        if p2.1 = 0 then
          some ((-2 : Int32), p2.2)
        else
          (X11_playEvening i0  p2.2).bind (fun p3 =>
            if p3.1 = 0 then
              gd (ib x1 10) (
                if x2 = 0 then
                  X11_behind_b68 i0  (p3.2.1 (rf (rf (rf i0 5) 0) 0) x1.toNatClampNeg) p3.2
                else
                  gd (ib (p3.2.1 (rf (rf (rf i0 5) 0) 0) x1.toNatClampNeg) 10) (
                    X11_behind_b68 i0  (p3.2.1 (rf (rf (rf i0 5) 0) 1) (p3.2.1 (rf (rf (rf i0 5) 0) 0) x1.toNatClampNeg).toNatClampNeg) p3.2))
            else
              some (p3.1, p3.2))))
set_option maxHeartbeats 4000000 in
set_option maxRecDepth 100000 in
theorem t_X11_behind_b68 {X : Scr} {i0 : Nat} (h0 : KD[i0]? = some (.inl 11)) (s0 : Int32) (M : Mem) : T X eI (X11_behind_b68 i0  s0 M) md_X11_behind 68 [] [.int s0] M := by
  unfold X11_behind_b68
  exact T_iret dX11_behind_68 rfl
set_option maxHeartbeats 4000000 in
set_option maxRecDepth 100000 in
theorem t_X11_behind {X : Scr} {i0 : Nat} (h0 : KD[i0]? = some (.inl 11)) (x1 : Int32) (x2 : Int32) (M : Mem) : T X eI (X11_behind i0  x1 x2 M) md_X11_behind 0 [(0, .ref i0), (1, .int x1), (2, .int x2)] [] M := by
  unfold X11_behind
  refine T_iload_n 1 dX11_behind_0 rfl rfl ?_
  refine T_callSI md_X11_isCabin [.int x1] [] dX11_behind_1 rfl ok_X11_isCabin tb_358 tb_359 (by decide) (Nat.le_of_ble_eq_true rfl) (fun _ _ h9 => C_X11_isCabin  _ h9) (fun r1 M1 => ?_)
  dsimp only
  refine T_if_ne 9 dX11_behind_4 (by decide) ?_ ?_
  ·
    refine T_iconst (v := (-1 : Int32)) (by decide) dX11_behind_7 ?_
    exact T_iret dX11_behind_8 rfl
  ·
    refine T_iload_n 2 dX11_behind_9 rfl rfl ?_
    refine T_iconst (v := (0 : Int32)) (by decide) dX11_behind_10 ?_
    refine T_iconst (v := (1 : Int32)) (by decide) dX11_behind_11 ?_
    refine T_callSI md_X11_isWithin [.int x2, .int (0 : Int32), .int (1 : Int32)] [] dX11_behind_12 rfl ok_X11_isWithin tb_361 tb_362 (by decide) (Nat.le_of_ble_eq_true rfl) (fun _ _ h9 => C_X11_isWithin  _ _ _ h9) (fun r2 M2 => ?_)
    dsimp only
    refine T_if_ne 21 dX11_behind_15 (by decide) ?_ ?_
    ·
      refine T_bipush (v := (-2 : Int32)) (by decide) dX11_behind_18 ?_
      exact T_iret dX11_behind_20 rfl
    ·
      refine T_aload_n 0 dX11_behind_21 rfl rfl ?_
      refine T_callVI md_X11_playEvening [] [] dX11_behind_22 h0 rfl rfl ok_X11_playEvening tb_427 tb_429 tb_0 (by decide) (Nat.le_of_ble_eq_true rfl) (fun _ _ h9 => C_X11_playEvening h0  h9) (fun r3 M3 => ?_)
      dsimp only
      refine T_istore_n [(3, .int r3), (0, .ref i0), (1, .int x1), (2, .int x2)] dX11_behind_25 rfl (by decide) rfl ?_
      refine T_iload_n 0 dX11_behind_26 rfl rfl ?_
      refine T_if_eq 32 dX11_behind_27 (by decide) ?_ ?_
      ·
        refine T_aload_n 1 dX11_behind_32 rfl rfl ?_
        refine T_getR 5 FOk_11 h0 (by decide) (by decide) dX11_behind_33 tb_322 ?_
        refine T_getR 0 FOk_2 (kf_11_5 h0) (by decide) (by decide) dX11_behind_36 tb_184 ?_
        refine T_getR 0 FOk_0 (kf_2_0 (kf_11_5 h0)) (by decide) (by decide) dX11_behind_39 tb_77 ?_
        refine T_iload_n 2 dX11_behind_42 rfl rfl ?_
        refine T_iald (kf_0_0 (kf_2_0 (kf_11_5 h0))) dX11_behind_43 ?_
        refine T_istore [(4, .int (M3.1 (rf (rf (rf i0 5) 0) 0) x1.toNatClampNeg)), (3, .int r3), (0, .ref i0), (1, .int x1), (2, .int x2)] dX11_behind_44 (by decide) rfl ?_
        refine T_iload_n 4 dX11_behind_46 rfl rfl ?_
        refine T_if_ne 55 dX11_behind_47 (by decide) ?_ ?_
        ·
          refine T_iload 0 dX11_behind_50 rfl ?_
          refine T_goto 68 dX11_behind_52 (by decide) ?_
          refine T_sub [] (lv' := []) rfl ?_
          exact t_X11_behind_b68 h0  _ _
        ·
          refine T_aload_n 2 dX11_behind_55 rfl rfl ?_
          refine T_getR 5 FOk_11 h0 (by decide) (by decide) dX11_behind_56 tb_322 ?_
          refine T_getR 0 FOk_2 (kf_11_5 h0) (by decide) (by decide) dX11_behind_59 tb_184 ?_
          refine T_getR 1 FOk_0 (kf_2_0 (kf_11_5 h0)) (by decide) (by decide) dX11_behind_62 tb_79 ?_
          refine T_iload 0 dX11_behind_65 rfl ?_
          refine T_iald (kf_0_1 (kf_2_0 (kf_11_5 h0))) dX11_behind_67 ?_
          refine T_sub [] (lv' := []) rfl ?_
          exact t_X11_behind_b68 h0  _ _
      ·
        refine T_iload_n 0 dX11_behind_30 rfl rfl ?_
        exact T_iret dX11_behind_31 rfl
theorem C_X11_behind {X : Scr} {i0 : Nat} (h0 : KD[i0]? = some (.inl 11)) (x1 : Int32) (x2 : Int32) {M : Mem} {r : Int32} {M' : Mem} (h : X11_behind i0 x1 x2 M = some (r, M')) : Ct X md_X11_behind [.ref i0, .int x1, .int x2] M (eI r) M' := Ct_of (by decide +kernel) (Nat.le_of_ble_eq_true rfl) (t_X11_behind h0 _ _ M) r M' h
-- X11_his
def X11_his (i0 : Nat)  (x1 : Int32) (M : Mem) : Option (Int32 × Mem) :=
  (X11_isWithin  x1 (0 : Int32) (3 : Int32) M).bind (fun p1 =>
    if p1.1 = 0 then
      some ((-2 : Int32), p1.2)
    else
      (X11_playEvening i0  p1.2).bind (fun p2 =>
        if p2.1 = 0 then
          if x1 = (0 : Int32) then
            some ((p2.2.1 (rf (rf i0 5) 0) 3), p2.2)
          else if x1 = (1 : Int32) then
            some ((p2.2.1 (rf (rf i0 5) 0) 4), p2.2)
          else if x1 = (2 : Int32) then
            some ((p2.2.1 (rf (rf i0 5) 0) 5), p2.2)
          else 
            some ((p2.2.1 (rf (rf i0 5) 0) 6), p2.2)
        else
          some (p2.1, p2.2)))
set_option maxHeartbeats 4000000 in
set_option maxRecDepth 100000 in
theorem t_X11_his {X : Scr} {i0 : Nat} (h0 : KD[i0]? = some (.inl 11)) (x1 : Int32) (M : Mem) : T X eI (X11_his i0  x1 M) md_X11_his 0 [(0, .ref i0), (1, .int x1)] [] M := by
  unfold X11_his
  refine T_iload_n 1 dX11_his_0 rfl rfl ?_
  refine T_iconst (v := (0 : Int32)) (by decide) dX11_his_1 ?_
  refine T_iconst (v := (3 : Int32)) (by decide) dX11_his_2 ?_
  refine T_callSI md_X11_isWithin [.int x1, .int (0 : Int32), .int (3 : Int32)] [] dX11_his_3 rfl ok_X11_isWithin tb_361 tb_362 (by decide) (Nat.le_of_ble_eq_true rfl) (fun _ _ h9 => C_X11_isWithin  _ _ _ h9) (fun r1 M1 => ?_)
  dsimp only
  refine T_if_ne 12 dX11_his_6 (by decide) ?_ ?_
  ·
    refine T_bipush (v := (-2 : Int32)) (by decide) dX11_his_9 ?_
    exact T_iret dX11_his_11 rfl
  ·
    refine T_aload_n 0 dX11_his_12 rfl rfl ?_
    refine T_callVI md_X11_playEvening [] [] dX11_his_13 h0 rfl rfl ok_X11_playEvening tb_427 tb_429 tb_0 (by decide) (Nat.le_of_ble_eq_true rfl) (fun _ _ h9 => C_X11_playEvening h0  h9) (fun r2 M2 => ?_)
    dsimp only
    refine T_istore_n [(2, .int r2), (0, .ref i0), (1, .int x1)] dX11_his_16 rfl (by decide) rfl ?_
    refine T_iload_n 0 dX11_his_17 rfl rfl ?_
    refine T_if_eq 23 dX11_his_18 (by decide) ?_ ?_
    ·
      refine T_iload_n 2 dX11_his_23 rfl rfl ?_
      refine T_ite (fun hx2_0 => ?_) (fun hx2_0 => ?_)
      ·
        refine T_tabIn (off := 28) 52 dX11_his_24 (by rw [hx2_0]; decide) (by rw [hx2_0]; decide) (by rw [hx2_0]; decide) (by decide) ?_
        refine T_aload_n 1 dX11_his_52 rfl rfl ?_
        refine T_getR 5 FOk_11 h0 (by decide) (by decide) dX11_his_53 tb_322 ?_
        refine T_getR 0 FOk_2 (kf_11_5 h0) (by decide) (by decide) dX11_his_56 tb_184 ?_
        refine T_getI 3 FOk_0 (kf_2_0 (kf_11_5 h0)) (by decide) (by decide) dX11_his_59 tb_88 ?_
        exact T_iret dX11_his_62 rfl
      refine T_ite (fun hx2_1 => ?_) (fun hx2_1 => ?_)
      ·
        refine T_tabIn (off := 39) 63 dX11_his_24 (by rw [hx2_1]; decide) (by rw [hx2_1]; decide) (by rw [hx2_1]; decide) (by decide) ?_
        refine T_aload_n 1 dX11_his_63 rfl rfl ?_
        refine T_getR 5 FOk_11 h0 (by decide) (by decide) dX11_his_64 tb_322 ?_
        refine T_getR 0 FOk_2 (kf_11_5 h0) (by decide) (by decide) dX11_his_67 tb_184 ?_
        refine T_getI 4 FOk_0 (kf_2_0 (kf_11_5 h0)) (by decide) (by decide) dX11_his_70 tb_90 ?_
        exact T_iret dX11_his_73 rfl
      refine T_ite (fun hx2_2 => ?_) (fun hx2_2 => ?_)
      ·
        refine T_tabIn (off := 50) 74 dX11_his_24 (by rw [hx2_2]; decide) (by rw [hx2_2]; decide) (by rw [hx2_2]; decide) (by decide) ?_
        refine T_aload_n 1 dX11_his_74 rfl rfl ?_
        refine T_getR 5 FOk_11 h0 (by decide) (by decide) dX11_his_75 tb_322 ?_
        refine T_getR 0 FOk_2 (kf_11_5 h0) (by decide) (by decide) dX11_his_78 tb_184 ?_
        refine T_getI 5 FOk_0 (kf_2_0 (kf_11_5 h0)) (by decide) (by decide) dX11_his_81 tb_93 ?_
        exact T_iret dX11_his_84 rfl
      refine T_tabOut 85 dX11_his_24 (tab_out (n := 3) (by decide) (lt_s (lt_s (lt_s lt_0 (lv_neT hx2_0 (by decide))) (lv_neT hx2_1 (by decide))) (lv_neT hx2_2 (by decide)))) (by decide) ?_
      refine T_aload_n 1 dX11_his_85 rfl rfl ?_
      refine T_getR 5 FOk_11 h0 (by decide) (by decide) dX11_his_86 tb_322 ?_
      refine T_getR 0 FOk_2 (kf_11_5 h0) (by decide) (by decide) dX11_his_89 tb_184 ?_
      refine T_getI 6 FOk_0 (kf_2_0 (kf_11_5 h0)) (by decide) (by decide) dX11_his_92 tb_96 ?_
      exact T_iret dX11_his_95 rfl
    ·
      refine T_iload_n 0 dX11_his_21 rfl rfl ?_
      exact T_iret dX11_his_22 rfl
theorem C_X11_his {X : Scr} {i0 : Nat} (h0 : KD[i0]? = some (.inl 11)) (x1 : Int32) {M : Mem} {r : Int32} {M' : Mem} (h : X11_his i0 x1 M = some (r, M')) : Ct X md_X11_his [.ref i0, .int x1] M (eI r) M' := Ct_of (by decide +kernel) (Nat.le_of_ble_eq_true rfl) (t_X11_his h0 _ M) r M' h
-- X11_wrong
def X11_wrong_b60 (i0 : Nat)  (s0 : Int32) (M : Mem) : Option (Int32 × Mem) :=
  some (s0, M)
def X11_wrong (i0 : Nat)  (x1 : Int32) (M : Mem) : Option (Int32 × Mem) :=
  (X11_isWithin  x1 (0 : Int32) (2 : Int32) M).bind (fun p1 =>
    if p1.1 = 0 then
      some ((-2 : Int32), p1.2)
    else
      (X11_playEvening i0  p1.2).bind (fun p2 =>
        if p2.1 = 0 then
          if x1 = 0 then
            (X0_strangers (rf (rf i0 5) 0)  p2.2).bind (fun p3 =>
              some (p3.1, p3.2))
          else
            if x1 = (1 : Int32) then
              X11_wrong_b60 i0  (p2.2.1 (rf i0 5) 5) p2.2
            else
              X11_wrong_b60 i0  (p2.2.1 (rf i0 5) 6) p2.2
        else
          some (p2.1, p2.2)))
set_option maxHeartbeats 4000000 in
set_option maxRecDepth 100000 in
theorem t_X11_wrong_b60 {X : Scr} {i0 : Nat} (h0 : KD[i0]? = some (.inl 11)) (s0 : Int32) (M : Mem) : T X eI (X11_wrong_b60 i0  s0 M) md_X11_wrong 60 [] [.int s0] M := by
  unfold X11_wrong_b60
  exact T_iret dX11_wrong_60 rfl
set_option maxHeartbeats 4000000 in
set_option maxRecDepth 100000 in
theorem t_X11_wrong {X : Scr} {i0 : Nat} (h0 : KD[i0]? = some (.inl 11)) (x1 : Int32) (M : Mem) : T X eI (X11_wrong i0  x1 M) md_X11_wrong 0 [(0, .ref i0), (1, .int x1)] [] M := by
  unfold X11_wrong
  refine T_iload_n 1 dX11_wrong_0 rfl rfl ?_
  refine T_iconst (v := (0 : Int32)) (by decide) dX11_wrong_1 ?_
  refine T_iconst (v := (2 : Int32)) (by decide) dX11_wrong_2 ?_
  refine T_callSI md_X11_isWithin [.int x1, .int (0 : Int32), .int (2 : Int32)] [] dX11_wrong_3 rfl ok_X11_isWithin tb_361 tb_362 (by decide) (Nat.le_of_ble_eq_true rfl) (fun _ _ h9 => C_X11_isWithin  _ _ _ h9) (fun r1 M1 => ?_)
  dsimp only
  refine T_if_ne 12 dX11_wrong_6 (by decide) ?_ ?_
  ·
    refine T_bipush (v := (-2 : Int32)) (by decide) dX11_wrong_9 ?_
    exact T_iret dX11_wrong_11 rfl
  ·
    refine T_aload_n 0 dX11_wrong_12 rfl rfl ?_
    refine T_callVI md_X11_playEvening [] [] dX11_wrong_13 h0 rfl rfl ok_X11_playEvening tb_427 tb_429 tb_0 (by decide) (Nat.le_of_ble_eq_true rfl) (fun _ _ h9 => C_X11_playEvening h0  h9) (fun r2 M2 => ?_)
    dsimp only
    refine T_istore_n [(2, .int r2), (0, .ref i0), (1, .int x1)] dX11_wrong_16 rfl (by decide) rfl ?_
    refine T_iload_n 0 dX11_wrong_17 rfl rfl ?_
    refine T_if_eq 23 dX11_wrong_18 (by decide) ?_ ?_
    ·
      refine T_iload_n 2 dX11_wrong_23 rfl rfl ?_
      refine T_if_ne 38 dX11_wrong_24 (by decide) ?_ ?_
      ·
        refine T_aload_n 1 dX11_wrong_27 rfl rfl ?_
        refine T_getR 5 FOk_11 h0 (by decide) (by decide) dX11_wrong_28 tb_322 ?_
        refine T_getR 0 FOk_2 (kf_11_5 h0) (by decide) (by decide) dX11_wrong_31 tb_184 ?_
        refine T_callVI md_X0_strangers [] [] dX11_wrong_34 (kf_2_0 (kf_11_5 h0)) rfl rfl ok_X0_strangers tb_371 tb_372 tb_373 (by decide) (Nat.le_of_ble_eq_true rfl) (fun _ _ h9 => C_X0_strangers (kf_2_0 (kf_11_5 h0))  h9) (fun r3 M3 => ?_)
        dsimp only
        exact T_iret dX11_wrong_37 rfl
      ·
        refine T_iload_n 2 dX11_wrong_38 rfl rfl ?_
        refine T_iconst (v := (1 : Int32)) (by decide) dX11_wrong_39 ?_
        refine T_icmp_ne 53 dX11_wrong_40 (by decide) ?_ ?_
        ·
          refine T_aload_n 1 dX11_wrong_43 rfl rfl ?_
          refine T_getR 5 FOk_11 h0 (by decide) (by decide) dX11_wrong_44 tb_322 ?_
          refine T_getI 5 FOk_2 (kf_11_5 h0) (by decide) (by decide) dX11_wrong_47 tb_194 ?_
          refine T_goto 60 dX11_wrong_50 (by decide) ?_
          refine T_sub [] (lv' := []) rfl ?_
          exact t_X11_wrong_b60 h0  _ _
        ·
          refine T_aload_n 1 dX11_wrong_53 rfl rfl ?_
          refine T_getR 5 FOk_11 h0 (by decide) (by decide) dX11_wrong_54 tb_322 ?_
          refine T_getI 6 FOk_2 (kf_11_5 h0) (by decide) (by decide) dX11_wrong_57 tb_196 ?_
          refine T_sub [] (lv' := []) rfl ?_
          exact t_X11_wrong_b60 h0  _ _
    ·
      refine T_iload_n 0 dX11_wrong_21 rfl rfl ?_
      exact T_iret dX11_wrong_22 rfl
theorem C_X11_wrong {X : Scr} {i0 : Nat} (h0 : KD[i0]? = some (.inl 11)) (x1 : Int32) {M : Mem} {r : Int32} {M' : Mem} (h : X11_wrong i0 x1 M = some (r, M')) : Ct X md_X11_wrong [.ref i0, .int x1] M (eI r) M' := Ct_of (by decide +kernel) (Nat.le_of_ble_eq_true rfl) (t_X11_wrong h0 _ M) r M' h
-- X11_done
def X11_done (i0 : Nat)   (M : Mem) : Option (Int32 × Mem) :=
  (X11_playEvening i0  M).bind (fun p1 =>
    if p1.1 = 0 then
      (X0_takeOver (rf i0 0) (rf (rf i0 5) 0)  p1.2).bind (fun p2 =>
        some (((mI p2.2 (rf i0 2) 1 (0 : Int32)).1 (rf i0 5) 1), (mI p2.2 (rf i0 2) 1 (0 : Int32))))
    else
      some (p1.1, p1.2))
set_option maxHeartbeats 4000000 in
set_option maxRecDepth 100000 in
theorem t_X11_done {X : Scr} {i0 : Nat} (h0 : KD[i0]? = some (.inl 11))  (M : Mem) : T X eI (X11_done i0   M) md_X11_done 0 [(0, .ref i0)] [] M := by
  unfold X11_done
  refine T_aload_n 0 dX11_done_0 rfl rfl ?_
  refine T_callVI md_X11_playEvening [] [] dX11_done_1 h0 rfl rfl ok_X11_playEvening tb_427 tb_429 tb_0 (by decide) (Nat.le_of_ble_eq_true rfl) (fun _ _ h9 => C_X11_playEvening h0  h9) (fun r1 M1 => ?_)
  dsimp only
  refine T_istore_n [(1, .int r1), (0, .ref i0)] dX11_done_4 rfl (by decide) rfl ?_
  refine T_iload_n 0 dX11_done_5 rfl rfl ?_
  refine T_if_eq 11 dX11_done_6 (by decide) ?_ ?_
  ·
    refine T_aload_n 1 dX11_done_11 rfl rfl ?_
    refine T_getR 0 FOk_11 h0 (by decide) (by decide) dX11_done_12 tb_317 ?_
    refine T_aload_n 1 dX11_done_15 rfl rfl ?_
    refine T_getR 5 FOk_11 h0 (by decide) (by decide) dX11_done_16 tb_322 ?_
    refine T_getR 0 FOk_2 (kf_11_5 h0) (by decide) (by decide) dX11_done_19 tb_184 ?_
    refine T_callVU md_X0_takeOver [.ref (rf (rf i0 5) 0)] [] dX11_done_22 (kf_11_0 h0) rfl rfl ok_X0_takeOver tb_511 tb_436 tb_437 (by decide) (Nat.le_of_ble_eq_true rfl) (fun _ _ h9 => C_X0_takeOver (kf_11_0 h0) (kf_2_0 (kf_11_5 h0))  h9) (fun r2 M2 => ?_)
    dsimp only
    refine T_aload_n 1 dX11_done_25 rfl rfl ?_
    refine T_getR 2 FOk_11 h0 (by decide) (by decide) dX11_done_26 tb_319 ?_
    refine T_iconst (v := (0 : Int32)) (by decide) dX11_done_29 ?_
    refine T_putI (ty := .int) 1 FOk_8 (kf_11_2 h0) (by decide) (by decide) rfl (by decide +kernel) rfl rfl dX11_done_30 tb_147 ?_
    refine T_aload_n 1 dX11_done_33 rfl rfl ?_
    refine T_getR 5 FOk_11 h0 (by decide) (by decide) dX11_done_34 tb_322 ?_
    refine T_getI 1 FOk_2 (kf_11_5 h0) (by decide) (by decide) dX11_done_37 tb_186 ?_
    exact T_iret dX11_done_40 rfl
  ·
    refine T_iload_n 0 dX11_done_9 rfl rfl ?_
    exact T_iret dX11_done_10 rfl
theorem C_X11_done {X : Scr} {i0 : Nat} (h0 : KD[i0]? = some (.inl 11))  {M : Mem} {r : Int32} {M' : Mem} (h : X11_done i0  M = some (r, M')) : Ct X md_X11_done [.ref i0] M (eI r) M' := Ct_of (by decide +kernel) (Nat.le_of_ble_eq_true rfl) (t_X11_done h0  M) r M' h
-- X11_round
def X11_round_b54 (i0 : Nat)  (s0 : Int32) (M : Mem) : Option (Int32 × Mem) :=
  some (s0, M)
def X11_round (i0 : Nat)  (x1 : Int32) (x2 : Int32) (M : Mem) : Option (Int32 × Mem) :=
  (X11_isCabin  x1 M).bind (fun p1 =>
    if p1.1 = 0 then
      some ((-1 : Int32), p1.2)
    else
      (X11_isWithin  x2 (0 : Int32) (1 : Int32) p1.2).bind (fun p2 =>
        if p2.1 = 0 then
          some ((-2 : Int32), p2.2)
        else
          (X1_planRound (rf i0 6) (rf i0 0) x1 p2.2).bind (fun p3 =>
            if x2 = 0 then
              X11_round_b54 i0  (p3.2.1 (rf i0 6) 1) p3.2
            else
              X11_round_b54 i0  (p3.2.1 (rf i0 6) 2) p3.2)))
set_option maxHeartbeats 4000000 in
set_option maxRecDepth 100000 in
theorem t_X11_round_b54 {X : Scr} {i0 : Nat} (h0 : KD[i0]? = some (.inl 11)) (s0 : Int32) (M : Mem) : T X eI (X11_round_b54 i0  s0 M) md_X11_round 54 [] [.int s0] M := by
  unfold X11_round_b54
  exact T_iret dX11_round_54 rfl
set_option maxHeartbeats 4000000 in
set_option maxRecDepth 100000 in
theorem t_X11_round {X : Scr} {i0 : Nat} (h0 : KD[i0]? = some (.inl 11)) (x1 : Int32) (x2 : Int32) (M : Mem) : T X eI (X11_round i0  x1 x2 M) md_X11_round 0 [(0, .ref i0), (1, .int x1), (2, .int x2)] [] M := by
  unfold X11_round
  refine T_iload_n 1 dX11_round_0 rfl rfl ?_
  refine T_callSI md_X11_isCabin [.int x1] [] dX11_round_1 rfl ok_X11_isCabin tb_358 tb_359 (by decide) (Nat.le_of_ble_eq_true rfl) (fun _ _ h9 => C_X11_isCabin  _ h9) (fun r1 M1 => ?_)
  dsimp only
  refine T_if_ne 9 dX11_round_4 (by decide) ?_ ?_
  ·
    refine T_iconst (v := (-1 : Int32)) (by decide) dX11_round_7 ?_
    exact T_iret dX11_round_8 rfl
  ·
    refine T_iload_n 2 dX11_round_9 rfl rfl ?_
    refine T_iconst (v := (0 : Int32)) (by decide) dX11_round_10 ?_
    refine T_iconst (v := (1 : Int32)) (by decide) dX11_round_11 ?_
    refine T_callSI md_X11_isWithin [.int x2, .int (0 : Int32), .int (1 : Int32)] [] dX11_round_12 rfl ok_X11_isWithin tb_361 tb_362 (by decide) (Nat.le_of_ble_eq_true rfl) (fun _ _ h9 => C_X11_isWithin  _ _ _ h9) (fun r2 M2 => ?_)
    dsimp only
    refine T_if_ne 21 dX11_round_15 (by decide) ?_ ?_
    ·
      refine T_bipush (v := (-2 : Int32)) (by decide) dX11_round_18 ?_
      exact T_iret dX11_round_20 rfl
    ·
      refine T_aload_n 0 dX11_round_21 rfl rfl ?_
      refine T_getR 6 FOk_11 h0 (by decide) (by decide) dX11_round_22 tb_323 ?_
      refine T_aload_n 0 dX11_round_25 rfl rfl ?_
      refine T_getR 0 FOk_11 h0 (by decide) (by decide) dX11_round_26 tb_317 ?_
      refine T_iload_n 1 dX11_round_29 rfl rfl ?_
      refine T_callVU md_X1_planRound [.ref (rf i0 0), .int x1] [] dX11_round_30 (kf_11_6 h0) rfl rfl ok_X1_planRound tb_516 tb_517 tb_518 (by decide) (Nat.le_of_ble_eq_true rfl) (fun _ _ h9 => C_X1_planRound (kf_11_6 h0) (kf_11_0 h0) _ h9) (fun r3 M3 => ?_)
      dsimp only
      refine T_iload_n 2 dX11_round_33 rfl rfl ?_
      refine T_if_ne 47 dX11_round_34 (by decide) ?_ ?_
      ·
        refine T_aload_n 0 dX11_round_37 rfl rfl ?_
        refine T_getR 6 FOk_11 h0 (by decide) (by decide) dX11_round_38 tb_323 ?_
        refine T_getI 1 FOk_1 (kf_11_6 h0) (by decide) (by decide) dX11_round_41 tb_220 ?_
        refine T_goto 54 dX11_round_44 (by decide) ?_
        refine T_sub [] (lv' := []) rfl ?_
        exact t_X11_round_b54 h0  _ _
      ·
        refine T_aload_n 0 dX11_round_47 rfl rfl ?_
        refine T_getR 6 FOk_11 h0 (by decide) (by decide) dX11_round_48 tb_323 ?_
        refine T_getI 2 FOk_1 (kf_11_6 h0) (by decide) (by decide) dX11_round_51 tb_222 ?_
        refine T_sub [] (lv' := []) rfl ?_
        exact t_X11_round_b54 h0  _ _
theorem C_X11_round {X : Scr} {i0 : Nat} (h0 : KD[i0]? = some (.inl 11)) (x1 : Int32) (x2 : Int32) {M : Mem} {r : Int32} {M' : Mem} (h : X11_round i0 x1 x2 M = some (r, M')) : Ct X md_X11_round [.ref i0, .int x1, .int x2] M (eI r) M' := Ct_of (by decide +kernel) (Nat.le_of_ble_eq_true rfl) (t_X11_round h0 _ _ M) r M' h
-- X11_show
def X11_show_b16 (i0 : Nat)   (M : Mem) : Option (Int32 × Mem) :=
  some ((-2 : Int32), M)
def X11_show_b52 (i0 : Nat)  (s0 : Int32) (M : Mem) : Option (Int32 × Mem) :=
  some (s0, M)
def X11_show (i0 : Nat)  (x1 : Int32) (x2 : Int32) (M : Mem) : Option (Int32 × Mem) :=
  (X11_isThingSet  x1 M).bind (fun p1 =>
    if p1.1 = 0 then
      X11_show_b16 i0   p1.2
    else
      (X11_isWithin  x2 (0 : Int32) (1 : Int32) p1.2).bind (fun p2 =>
        if p2.1 = 0 then
          X11_show_b16 i0   p2.2
        else
          (X1_uncover (rf i0 6) (rf i0 0) x1 p2.2).bind (fun p3 =>
            if x2 = 0 then
              X11_show_b52 i0  (p3.2.1 (rf i0 6) 1) p3.2
            else
              X11_show_b52 i0  (p3.2.1 (rf i0 6) 2) p3.2)))
set_option maxHeartbeats 4000000 in
set_option maxRecDepth 100000 in
theorem t_X11_show_b16 {X : Scr} {i0 : Nat} (h0 : KD[i0]? = some (.inl 11))  (M : Mem) : T X eI (X11_show_b16 i0   M) md_X11_show 16 [] [] M := by
  unfold X11_show_b16
  refine T_bipush (v := (-2 : Int32)) (by decide) dX11_show_16 ?_
  exact T_iret dX11_show_18 rfl
set_option maxHeartbeats 4000000 in
set_option maxRecDepth 100000 in
theorem t_X11_show_b52 {X : Scr} {i0 : Nat} (h0 : KD[i0]? = some (.inl 11)) (s0 : Int32) (M : Mem) : T X eI (X11_show_b52 i0  s0 M) md_X11_show 52 [] [.int s0] M := by
  unfold X11_show_b52
  exact T_iret dX11_show_52 rfl
set_option maxHeartbeats 4000000 in
set_option maxRecDepth 100000 in
theorem t_X11_show {X : Scr} {i0 : Nat} (h0 : KD[i0]? = some (.inl 11)) (x1 : Int32) (x2 : Int32) (M : Mem) : T X eI (X11_show i0  x1 x2 M) md_X11_show 0 [(0, .ref i0), (1, .int x1), (2, .int x2)] [] M := by
  unfold X11_show
  refine T_iload_n 1 dX11_show_0 rfl rfl ?_
  refine T_callSI md_X11_isThingSet [.int x1] [] dX11_show_1 rfl ok_X11_isThingSet tb_364 tb_365 (by decide) (Nat.le_of_ble_eq_true rfl) (fun _ _ h9 => C_X11_isThingSet  _ h9) (fun r1 M1 => ?_)
  dsimp only
  refine T_if_eq 16 dX11_show_4 (by decide) ?_ ?_
  ·
    refine T_sub [] (lv' := []) rfl ?_
    exact t_X11_show_b16 h0   _
  ·
    refine T_iload_n 2 dX11_show_7 rfl rfl ?_
    refine T_iconst (v := (0 : Int32)) (by decide) dX11_show_8 ?_
    refine T_iconst (v := (1 : Int32)) (by decide) dX11_show_9 ?_
    refine T_callSI md_X11_isWithin [.int x2, .int (0 : Int32), .int (1 : Int32)] [] dX11_show_10 rfl ok_X11_isWithin tb_361 tb_362 (by decide) (Nat.le_of_ble_eq_true rfl) (fun _ _ h9 => C_X11_isWithin  _ _ _ h9) (fun r2 M2 => ?_)
    dsimp only
    refine T_if_ne 19 dX11_show_13 (by decide) ?_ ?_
    ·
      refine T_sub [] (lv' := []) rfl ?_
      exact t_X11_show_b16 h0   _
    ·
      refine T_aload_n 0 dX11_show_19 rfl rfl ?_
      refine T_getR 6 FOk_11 h0 (by decide) (by decide) dX11_show_20 tb_323 ?_
      refine T_aload_n 0 dX11_show_23 rfl rfl ?_
      refine T_getR 0 FOk_11 h0 (by decide) (by decide) dX11_show_24 tb_317 ?_
      refine T_iload_n 1 dX11_show_27 rfl rfl ?_
      refine T_callVU md_X1_uncover [.ref (rf i0 0), .int x1] [] dX11_show_28 (kf_11_6 h0) rfl rfl ok_X1_uncover tb_539 tb_540 tb_541 (by decide) (Nat.le_of_ble_eq_true rfl) (fun _ _ h9 => C_X1_uncover (kf_11_6 h0) (kf_11_0 h0) _ h9) (fun r3 M3 => ?_)
      dsimp only
      refine T_iload_n 2 dX11_show_31 rfl rfl ?_
      refine T_if_ne 45 dX11_show_32 (by decide) ?_ ?_
      ·
        refine T_aload_n 0 dX11_show_35 rfl rfl ?_
        refine T_getR 6 FOk_11 h0 (by decide) (by decide) dX11_show_36 tb_323 ?_
        refine T_getI 1 FOk_1 (kf_11_6 h0) (by decide) (by decide) dX11_show_39 tb_220 ?_
        refine T_goto 52 dX11_show_42 (by decide) ?_
        refine T_sub [] (lv' := []) rfl ?_
        exact t_X11_show_b52 h0  _ _
      ·
        refine T_aload_n 0 dX11_show_45 rfl rfl ?_
        refine T_getR 6 FOk_11 h0 (by decide) (by decide) dX11_show_46 tb_323 ?_
        refine T_getI 2 FOk_1 (kf_11_6 h0) (by decide) (by decide) dX11_show_49 tb_222 ?_
        refine T_sub [] (lv' := []) rfl ?_
        exact t_X11_show_b52 h0  _ _
theorem C_X11_show {X : Scr} {i0 : Nat} (h0 : KD[i0]? = some (.inl 11)) (x1 : Int32) (x2 : Int32) {M : Mem} {r : Int32} {M' : Mem} (h : X11_show i0 x1 x2 M = some (r, M')) : Ct X md_X11_show [.ref i0, .int x1, .int x2] M (eI r) M' := Ct_of (by decide +kernel) (Nat.le_of_ble_eq_true rfl) (t_X11_show h0 _ _ M) r M' h
-- X11_owners
def X11_owners_b60 (i0 : Nat)  (s0 : Int32) (M : Mem) : Option (Int32 × Mem) :=
  some (s0, M)
def X11_owners_b14 (i0 : Nat)  (x1 : Int32) (x2 : Int32) (M : Mem) : Option (Int32 × Mem) :=
  (X11_isThingSet  x1 M).bind (fun p1 =>
    if p1.1 = 0 then
      some ((-2 : Int32), p1.2)
    else
      (X6_pair (rf i0 7) (rf i0 0) x1 p1.2).bind (fun p2 =>
        if x2 = (-1 : Int32) then
          X11_owners_b60 i0  (p2.2.1 (rf i0 7) 2) p2.2
        else
          gd (ib x2 8) (
            X11_owners_b60 i0  (p2.2.1 (rf (rf i0 7) 1) x2.toNatClampNeg) p2.2)))
def X11_owners (i0 : Nat)  (x1 : Int32) (x2 : Int32) (M : Mem) : Option (Int32 × Mem) :=
  if x2 = (-1 : Int32) then
    X11_owners_b14 i0  x1 x2 M
  else
    (X11_isThing  x2 M).bind (fun p1 =>
      if p1.1 = 0 then
        some ((-1 : Int32), p1.2)
      else
        X11_owners_b14 i0  x1 x2 p1.2)
set_option maxHeartbeats 4000000 in
set_option maxRecDepth 100000 in
theorem t_X11_owners_b60 {X : Scr} {i0 : Nat} (h0 : KD[i0]? = some (.inl 11)) (s0 : Int32) (M : Mem) : T X eI (X11_owners_b60 i0  s0 M) md_X11_owners 60 [] [.int s0] M := by
  unfold X11_owners_b60
  exact T_iret dX11_owners_60 rfl
set_option maxHeartbeats 4000000 in
set_option maxRecDepth 100000 in
theorem t_X11_owners_b14 {X : Scr} {i0 : Nat} (h0 : KD[i0]? = some (.inl 11)) (x1 : Int32) (x2 : Int32) (M : Mem) : T X eI (X11_owners_b14 i0  x1 x2 M) md_X11_owners 14 [(0, .ref i0), (1, .int x1), (2, .int x2)] [] M := by
  unfold X11_owners_b14
  refine T_iload_n 1 dX11_owners_14 rfl rfl ?_
  refine T_callSI md_X11_isThingSet [.int x1] [] dX11_owners_15 rfl ok_X11_isThingSet tb_364 tb_365 (by decide) (Nat.le_of_ble_eq_true rfl) (fun _ _ h9 => C_X11_isThingSet  _ h9) (fun r1 M1 => ?_)
  dsimp only
  refine T_if_ne 24 dX11_owners_18 (by decide) ?_ ?_
  ·
    refine T_bipush (v := (-2 : Int32)) (by decide) dX11_owners_21 ?_
    exact T_iret dX11_owners_23 rfl
  ·
    refine T_aload_n 0 dX11_owners_24 rfl rfl ?_
    refine T_getR 7 FOk_11 h0 (by decide) (by decide) dX11_owners_25 tb_324 ?_
    refine T_aload_n 0 dX11_owners_28 rfl rfl ?_
    refine T_getR 0 FOk_11 h0 (by decide) (by decide) dX11_owners_29 tb_317 ?_
    refine T_iload_n 1 dX11_owners_32 rfl rfl ?_
    refine T_callVU md_X6_pair [.ref (rf i0 0), .int x1] [] dX11_owners_33 (kf_11_7 h0) rfl rfl ok_X6_pair tb_552 tb_553 tb_554 (by decide) (Nat.le_of_ble_eq_true rfl) (fun _ _ h9 => C_X6_pair (kf_11_7 h0) (kf_11_0 h0) _ h9) (fun r2 M2 => ?_)
    dsimp only
    refine T_iload_n 2 dX11_owners_36 rfl rfl ?_
    refine T_iconst (v := (-1 : Int32)) (by decide) dX11_owners_37 ?_
    refine T_icmp_ne 51 dX11_owners_38 (by decide) ?_ ?_
    ·
      refine T_aload_n 0 dX11_owners_41 rfl rfl ?_
      refine T_getR 7 FOk_11 h0 (by decide) (by decide) dX11_owners_42 tb_324 ?_
      refine T_getI 2 FOk_6 (kf_11_7 h0) (by decide) (by decide) dX11_owners_45 tb_240 ?_
      refine T_goto 60 dX11_owners_48 (by decide) ?_
      refine T_sub [] (lv' := []) rfl ?_
      exact t_X11_owners_b60 h0  _ _
    ·
      refine T_aload_n 0 dX11_owners_51 rfl rfl ?_
      refine T_getR 7 FOk_11 h0 (by decide) (by decide) dX11_owners_52 tb_324 ?_
      refine T_getR 1 FOk_6 (kf_11_7 h0) (by decide) (by decide) dX11_owners_55 tb_238 ?_
      refine T_iload_n 2 dX11_owners_58 rfl rfl ?_
      refine T_iald (kf_6_1 (kf_11_7 h0)) dX11_owners_59 ?_
      refine T_sub [] (lv' := []) rfl ?_
      exact t_X11_owners_b60 h0  _ _
set_option maxHeartbeats 4000000 in
set_option maxRecDepth 100000 in
theorem t_X11_owners {X : Scr} {i0 : Nat} (h0 : KD[i0]? = some (.inl 11)) (x1 : Int32) (x2 : Int32) (M : Mem) : T X eI (X11_owners i0  x1 x2 M) md_X11_owners 0 [(0, .ref i0), (1, .int x1), (2, .int x2)] [] M := by
  unfold X11_owners
  refine T_iload_n 2 dX11_owners_0 rfl rfl ?_
  refine T_iconst (v := (-1 : Int32)) (by decide) dX11_owners_1 ?_
  refine T_icmp_eq 14 dX11_owners_2 (by decide) ?_ ?_
  ·
    exact t_X11_owners_b14 h0  _ _ _
  ·
    refine T_iload_n 2 dX11_owners_5 rfl rfl ?_
    refine T_callSI md_X11_isThing [.int x2] [] dX11_owners_6 rfl ok_X11_isThing tb_551 tb_415 (by decide) (Nat.le_of_ble_eq_true rfl) (fun _ _ h9 => C_X11_isThing  _ h9) (fun r1 M1 => ?_)
    dsimp only
    refine T_if_ne 14 dX11_owners_9 (by decide) ?_ ?_
    ·
      refine T_iconst (v := (-1 : Int32)) (by decide) dX11_owners_12 ?_
      exact T_iret dX11_owners_13 rfl
    ·
      exact t_X11_owners_b14 h0  _ _ _
theorem C_X11_owners {X : Scr} {i0 : Nat} (h0 : KD[i0]? = some (.inl 11)) (x1 : Int32) (x2 : Int32) {M : Mem} {r : Int32} {M' : Mem} (h : X11_owners i0 x1 x2 M = some (r, M')) : Ct X md_X11_owners [.ref i0, .int x1, .int x2] M (eI r) M' := Ct_of (by decide +kernel) (Nat.le_of_ble_eq_true rfl) (t_X11_owners h0 _ _ M) r M' h
-- X11_towels
def X11_towels_b20 (i0 : Nat)   (M : Mem) : Option (Int32 × Mem) :=
  some ((-2 : Int32), M)
def X11_towels_b51 (i0 : Nat)  (s0 : Int32) (M : Mem) : Option (Int32 × Mem) :=
  some (s0, M)
def X11_towels (i0 : Nat)  (x1 : Int32) (x2 : Int32) (M : Mem) : Option (Int32 × Mem) :=
  (X11_isWithin  x2 (0 : Int32) (1 : Int32) M).bind (fun p1 =>
    if p1.1 = 0 then
      X11_towels_b20 i0   p1.2
    else
      (X3_hang (rf i0 8) x1 p1.2).bind (fun p2 =>
        if p2.1 = 0 then
          X11_towels_b20 i0   p2.2
        else
          (X3_follow (rf i0 8)  p2.2).bind (fun p3 =>
            if x2 = 0 then
              X11_towels_b51 i0  (p3.2.1 (rf i0 8) 1) p3.2
            else
              X11_towels_b51 i0  (p3.2.1 (rf i0 8) 2) p3.2)))
set_option maxHeartbeats 4000000 in
set_option maxRecDepth 100000 in
theorem t_X11_towels_b20 {X : Scr} {i0 : Nat} (h0 : KD[i0]? = some (.inl 11))  (M : Mem) : T X eI (X11_towels_b20 i0   M) md_X11_towels 20 [] [] M := by
  unfold X11_towels_b20
  refine T_bipush (v := (-2 : Int32)) (by decide) dX11_towels_20 ?_
  exact T_iret dX11_towels_22 rfl
set_option maxHeartbeats 4000000 in
set_option maxRecDepth 100000 in
theorem t_X11_towels_b51 {X : Scr} {i0 : Nat} (h0 : KD[i0]? = some (.inl 11)) (s0 : Int32) (M : Mem) : T X eI (X11_towels_b51 i0  s0 M) md_X11_towels 51 [] [.int s0] M := by
  unfold X11_towels_b51
  exact T_iret dX11_towels_51 rfl
set_option maxHeartbeats 4000000 in
set_option maxRecDepth 100000 in
theorem t_X11_towels {X : Scr} {i0 : Nat} (h0 : KD[i0]? = some (.inl 11)) (x1 : Int32) (x2 : Int32) (M : Mem) : T X eI (X11_towels i0  x1 x2 M) md_X11_towels 0 [(0, .ref i0), (1, .int x1), (2, .int x2)] [] M := by
  unfold X11_towels
  refine T_iload_n 2 dX11_towels_0 rfl rfl ?_
  refine T_iconst (v := (0 : Int32)) (by decide) dX11_towels_1 ?_
  refine T_iconst (v := (1 : Int32)) (by decide) dX11_towels_2 ?_
  refine T_callSI md_X11_isWithin [.int x2, .int (0 : Int32), .int (1 : Int32)] [] dX11_towels_3 rfl ok_X11_isWithin tb_361 tb_362 (by decide) (Nat.le_of_ble_eq_true rfl) (fun _ _ h9 => C_X11_isWithin  _ _ _ h9) (fun r1 M1 => ?_)
  dsimp only
  refine T_if_eq 20 dX11_towels_6 (by decide) ?_ ?_
  ·
    refine T_sub [] (lv' := []) rfl ?_
    exact t_X11_towels_b20 h0   _
  ·
    refine T_aload_n 0 dX11_towels_9 rfl rfl ?_
    refine T_getR 8 FOk_11 h0 (by decide) (by decide) dX11_towels_10 tb_325 ?_
    refine T_iload_n 1 dX11_towels_13 rfl rfl ?_
    refine T_callVI md_X3_hang [.int x1] [] dX11_towels_14 (kf_11_8 h0) rfl rfl ok_X3_hang tb_575 tb_576 tb_577 (by decide) (Nat.le_of_ble_eq_true rfl) (fun _ _ h9 => C_X3_hang (kf_11_8 h0) _ h9) (fun r2 M2 => ?_)
    dsimp only
    refine T_if_ne 23 dX11_towels_17 (by decide) ?_ ?_
    ·
      refine T_sub [] (lv' := []) rfl ?_
      exact t_X11_towels_b20 h0   _
    ·
      refine T_aload_n 0 dX11_towels_23 rfl rfl ?_
      refine T_getR 8 FOk_11 h0 (by decide) (by decide) dX11_towels_24 tb_325 ?_
      refine T_callVU md_X3_follow [] [] dX11_towels_27 (kf_11_8 h0) rfl rfl ok_X3_follow tb_581 tb_582 tb_583 (by decide) (Nat.le_of_ble_eq_true rfl) (fun _ _ h9 => C_X3_follow (kf_11_8 h0)  h9) (fun r3 M3 => ?_)
      dsimp only
      refine T_iload_n 2 dX11_towels_30 rfl rfl ?_
      refine T_if_ne 44 dX11_towels_31 (by decide) ?_ ?_
      ·
        refine T_aload_n 0 dX11_towels_34 rfl rfl ?_
        refine T_getR 8 FOk_11 h0 (by decide) (by decide) dX11_towels_35 tb_325 ?_
        refine T_getI 1 FOk_3 (kf_11_8 h0) (by decide) (by decide) dX11_towels_38 tb_256 ?_
        refine T_goto 51 dX11_towels_41 (by decide) ?_
        refine T_sub [] (lv' := []) rfl ?_
        exact t_X11_towels_b51 h0  _ _
      ·
        refine T_aload_n 0 dX11_towels_44 rfl rfl ?_
        refine T_getR 8 FOk_11 h0 (by decide) (by decide) dX11_towels_45 tb_325 ?_
        refine T_getI 2 FOk_3 (kf_11_8 h0) (by decide) (by decide) dX11_towels_48 tb_258 ?_
        refine T_sub [] (lv' := []) rfl ?_
        exact t_X11_towels_b51 h0  _ _
theorem C_X11_towels {X : Scr} {i0 : Nat} (h0 : KD[i0]? = some (.inl 11)) (x1 : Int32) (x2 : Int32) {M : Mem} {r : Int32} {M' : Mem} (h : X11_towels i0 x1 x2 M = some (r, M')) : Ct X md_X11_towels [.ref i0, .int x1, .int x2] M (eI r) M' := Ct_of (by decide +kernel) (Nat.le_of_ble_eq_true rfl) (t_X11_towels h0 _ _ M) r M' h
-- X11_found
def X11_found_b46 (i0 : Nat)  (s0 : Int32) (M : Mem) : Option (Int32 × Mem) :=
  some (s0, M)
def X11_found (i0 : Nat)  (x1 : Int32) (x2 : Int32) (M : Mem) : Option (Int32 × Mem) :=
  (X11_isThing  x2 M).bind (fun p1 =>
    if p1.1 = 0 then
      some ((-1 : Int32), p1.2)
    else
      (X11_isWithin  x1 (0 : Int32) (60 : Int32) p1.2).bind (fun p2 =>
        if p2.1 = 0 then
          some ((-2 : Int32), p2.2)
        else
          (X7_write (rf i0 1) x1 x2 p2.2).bind (fun p3 =>
            if p3.1 = 0 then
              X11_found_b46 i0  (-4 : Int32) p3.2
            else
              X11_found_b46 i0  (p3.2.1 (rf i0 1) 2) p3.2)))
set_option maxHeartbeats 4000000 in
set_option maxRecDepth 100000 in
theorem t_X11_found_b46 {X : Scr} {i0 : Nat} (h0 : KD[i0]? = some (.inl 11)) (s0 : Int32) (M : Mem) : T X eI (X11_found_b46 i0  s0 M) md_X11_found 46 [] [.int s0] M := by
  unfold X11_found_b46
  exact T_iret dX11_found_46 rfl
set_option maxHeartbeats 4000000 in
set_option maxRecDepth 100000 in
theorem t_X11_found {X : Scr} {i0 : Nat} (h0 : KD[i0]? = some (.inl 11)) (x1 : Int32) (x2 : Int32) (M : Mem) : T X eI (X11_found i0  x1 x2 M) md_X11_found 0 [(0, .ref i0), (1, .int x1), (2, .int x2)] [] M := by
  unfold X11_found
  refine T_iload_n 2 dX11_found_0 rfl rfl ?_
  refine T_callSI md_X11_isThing [.int x2] [] dX11_found_1 rfl ok_X11_isThing tb_551 tb_415 (by decide) (Nat.le_of_ble_eq_true rfl) (fun _ _ h9 => C_X11_isThing  _ h9) (fun r1 M1 => ?_)
  dsimp only
  refine T_if_ne 9 dX11_found_4 (by decide) ?_ ?_
  ·
    refine T_iconst (v := (-1 : Int32)) (by decide) dX11_found_7 ?_
    exact T_iret dX11_found_8 rfl
  ·
    refine T_iload_n 1 dX11_found_9 rfl rfl ?_
    refine T_iconst (v := (0 : Int32)) (by decide) dX11_found_10 ?_
    refine T_bipush (v := (60 : Int32)) (by decide) dX11_found_11 ?_
    refine T_callSI md_X11_isWithin [.int x1, .int (0 : Int32), .int (60 : Int32)] [] dX11_found_13 rfl ok_X11_isWithin tb_361 tb_362 (by decide) (Nat.le_of_ble_eq_true rfl) (fun _ _ h9 => C_X11_isWithin  _ _ _ h9) (fun r2 M2 => ?_)
    dsimp only
    refine T_if_ne 22 dX11_found_16 (by decide) ?_ ?_
    ·
      refine T_bipush (v := (-2 : Int32)) (by decide) dX11_found_19 ?_
      exact T_iret dX11_found_21 rfl
    ·
      refine T_aload_n 0 dX11_found_22 rfl rfl ?_
      refine T_getR 1 FOk_11 h0 (by decide) (by decide) dX11_found_23 tb_318 ?_
      refine T_iload_n 1 dX11_found_26 rfl rfl ?_
      refine T_iload_n 2 dX11_found_27 rfl rfl ?_
      refine T_callVI md_X7_write [.int x1, .int x2] [] dX11_found_28 (kf_11_1 h0) rfl rfl ok_X7_write tb_592 tb_593 tb_594 (by decide) (Nat.le_of_ble_eq_true rfl) (fun _ _ h9 => C_X7_write (kf_11_1 h0) _ _ h9) (fun r3 M3 => ?_)
      dsimp only
      refine T_if_eq 44 dX11_found_31 (by decide) ?_ ?_
      ·
        refine T_bipush (v := (-4 : Int32)) (by decide) dX11_found_44 ?_
        refine T_sub [] (lv' := []) rfl ?_
        exact t_X11_found_b46 h0  _ _
      ·
        refine T_aload_n 0 dX11_found_34 rfl rfl ?_
        refine T_getR 1 FOk_11 h0 (by decide) (by decide) dX11_found_35 tb_318 ?_
        refine T_getI 2 FOk_7 (kf_11_1 h0) (by decide) (by decide) dX11_found_38 tb_130 ?_
        refine T_goto 46 dX11_found_41 (by decide) ?_
        refine T_sub [] (lv' := []) rfl ?_
        exact t_X11_found_b46 h0  _ _
theorem C_X11_found {X : Scr} {i0 : Nat} (h0 : KD[i0]? = some (.inl 11)) (x1 : Int32) (x2 : Int32) {M : Mem} {r : Int32} {M' : Mem} (h : X11_found i0 x1 x2 M = some (r, M')) : Ct X md_X11_found [.ref i0, .int x1, .int x2] M (eI r) M' := Ct_of (by decide +kernel) (Nat.le_of_ble_eq_true rfl) (t_X11_found h0 _ _ M) r M' h
-- X11_forget
def X11_forget (i0 : Nat)   (M : Mem) : Option (Int32 × Mem) :=
  some ((M.1 (rf i0 1) 2), (mI M (rf i0 1) 2 (0 : Int32)))
set_option maxHeartbeats 4000000 in
set_option maxRecDepth 100000 in
theorem t_X11_forget {X : Scr} {i0 : Nat} (h0 : KD[i0]? = some (.inl 11))  (M : Mem) : T X eI (X11_forget i0   M) md_X11_forget 0 [(0, .ref i0)] [] M := by
  unfold X11_forget
  refine T_aload_n 0 dX11_forget_0 rfl rfl ?_
  refine T_getR 1 FOk_11 h0 (by decide) (by decide) dX11_forget_1 tb_318 ?_
  refine T_getI 2 FOk_7 (kf_11_1 h0) (by decide) (by decide) dX11_forget_4 tb_130 ?_
  refine T_istore_n [(1, .int (M.1 (rf i0 1) 2)), (0, .ref i0)] dX11_forget_7 rfl (by decide) rfl ?_
  refine T_aload_n 1 dX11_forget_8 rfl rfl ?_
  refine T_getR 1 FOk_11 h0 (by decide) (by decide) dX11_forget_9 tb_318 ?_
  refine T_iconst (v := (0 : Int32)) (by decide) dX11_forget_12 ?_
  refine T_putI (ty := .int) 2 FOk_7 (kf_11_1 h0) (by decide) (by decide) rfl (by decide +kernel) rfl rfl dX11_forget_13 tb_130 ?_
  refine T_iload_n 0 dX11_forget_16 rfl rfl ?_
  exact T_iret dX11_forget_17 rfl
theorem C_X11_forget {X : Scr} {i0 : Nat} (h0 : KD[i0]? = some (.inl 11))  {M : Mem} {r : Int32} {M' : Mem} (h : X11_forget i0  M = some (r, M')) : Ct X md_X11_forget [.ref i0] M (eI r) M' := Ct_of (by decide +kernel) (Nat.le_of_ble_eq_true rfl) (t_X11_forget h0  M) r M' h
-- X11_fits
def X11_fits_b55 (i0 : Nat)  (s0 : Int32) (M : Mem) : Option (Int32 × Mem) :=
  some (s0, M)
def X11_fits (i0 : Nat)  (x1 : Int32) (M : Mem) : Option (Int32 × Mem) :=
  (X5_gather (rf i0 9) (rf i0 1)  M).bind (fun p1 =>
    if x1 = (-1 : Int32) then
      some ((p1.2.1 (rf i0 9) 2), p1.2)
    else
      (X11_isWithin  x1 (0 : Int32) ((p1.2.1 (rf i0 9) 2) - (1 : Int32)) p1.2).bind (fun p2 =>
        if p2.1 = 0 then
          X11_fits_b55 i0  (-6 : Int32) p2.2
        else
          gd (ib x1 64) (
            X11_fits_b55 i0  (p2.2.1 (rf (rf i0 9) 0) x1.toNatClampNeg) p2.2)))
set_option maxHeartbeats 4000000 in
set_option maxRecDepth 100000 in
theorem t_X11_fits_b55 {X : Scr} {i0 : Nat} (h0 : KD[i0]? = some (.inl 11)) (s0 : Int32) (M : Mem) : T X eI (X11_fits_b55 i0  s0 M) md_X11_fits 55 [] [.int s0] M := by
  unfold X11_fits_b55
  exact T_iret dX11_fits_55 rfl
set_option maxHeartbeats 4000000 in
set_option maxRecDepth 100000 in
theorem t_X11_fits {X : Scr} {i0 : Nat} (h0 : KD[i0]? = some (.inl 11)) (x1 : Int32) (M : Mem) : T X eI (X11_fits i0  x1 M) md_X11_fits 0 [(0, .ref i0), (1, .int x1)] [] M := by
  unfold X11_fits
  refine T_aload_n 0 dX11_fits_0 rfl rfl ?_
  refine T_getR 9 FOk_11 h0 (by decide) (by decide) dX11_fits_1 tb_326 ?_
  refine T_aload_n 0 dX11_fits_4 rfl rfl ?_
  refine T_getR 1 FOk_11 h0 (by decide) (by decide) dX11_fits_5 tb_318 ?_
  refine T_callVU md_X5_gather [.ref (rf i0 1)] [] dX11_fits_8 (kf_11_9 h0) rfl rfl ok_X5_gather tb_604 tb_605 tb_606 (by decide) (Nat.le_of_ble_eq_true rfl) (fun _ _ h9 => C_X5_gather (kf_11_9 h0) (kf_11_1 h0)  h9) (fun r1 M1 => ?_)
  dsimp only
  refine T_iload_n 1 dX11_fits_11 rfl rfl ?_
  refine T_iconst (v := (-1 : Int32)) (by decide) dX11_fits_12 ?_
  refine T_icmp_ne 24 dX11_fits_13 (by decide) ?_ ?_
  ·
    refine T_aload_n 0 dX11_fits_16 rfl rfl ?_
    refine T_getR 9 FOk_11 h0 (by decide) (by decide) dX11_fits_17 tb_326 ?_
    refine T_getI 2 FOk_5 (kf_11_9 h0) (by decide) (by decide) dX11_fits_20 tb_276 ?_
    exact T_iret dX11_fits_23 rfl
  ·
    refine T_iload_n 1 dX11_fits_24 rfl rfl ?_
    refine T_iconst (v := (0 : Int32)) (by decide) dX11_fits_25 ?_
    refine T_aload_n 0 dX11_fits_26 rfl rfl ?_
    refine T_getR 9 FOk_11 h0 (by decide) (by decide) dX11_fits_27 tb_326 ?_
    refine T_getI 2 FOk_5 (kf_11_9 h0) (by decide) (by decide) dX11_fits_30 tb_276 ?_
    refine T_iconst (v := (1 : Int32)) (by decide) dX11_fits_33 ?_
    refine T_isub dX11_fits_34 ?_
    refine T_callSI md_X11_isWithin [.int x1, .int (0 : Int32), .int ((M1.1 (rf i0 9) 2) - (1 : Int32))] [] dX11_fits_35 rfl ok_X11_isWithin tb_361 tb_362 (by decide) (Nat.le_of_ble_eq_true rfl) (fun _ _ h9 => C_X11_isWithin  _ _ _ h9) (fun r2 M2 => ?_)
    dsimp only
    refine T_if_eq 53 dX11_fits_38 (by decide) ?_ ?_
    ·
      refine T_bipush (v := (-6 : Int32)) (by decide) dX11_fits_53 ?_
      refine T_sub [] (lv' := []) rfl ?_
      exact t_X11_fits_b55 h0  _ _
    ·
      refine T_aload_n 0 dX11_fits_41 rfl rfl ?_
      refine T_getR 9 FOk_11 h0 (by decide) (by decide) dX11_fits_42 tb_326 ?_
      refine T_getR 0 FOk_5 (kf_11_9 h0) (by decide) (by decide) dX11_fits_45 tb_273 ?_
      refine T_iload_n 1 dX11_fits_48 rfl rfl ?_
      refine T_iald (kf_5_0 (kf_11_9 h0)) dX11_fits_49 ?_
      refine T_goto 55 dX11_fits_50 (by decide) ?_
      refine T_sub [] (lv' := []) rfl ?_
      exact t_X11_fits_b55 h0  _ _
theorem C_X11_fits {X : Scr} {i0 : Nat} (h0 : KD[i0]? = some (.inl 11)) (x1 : Int32) {M : Mem} {r : Int32} {M' : Mem} (h : X11_fits i0 x1 M = some (r, M')) : Ct X md_X11_fits [.ref i0, .int x1] M (eI r) M' := Ct_of (by decide +kernel) (Nat.le_of_ble_eq_true rfl) (t_X11_fits h0 _ M) r M' h
-- X11_ask
def X11_ask_b51 (i0 : Nat)  (s0 : Int32) (M : Mem) : Option (Int32 × Mem) :=
  some (s0, M)
def X11_ask (i0 : Nat)  (x1 : Int32) (M : Mem) : Option (Int32 × Mem) :=
  (X11_isWithin  x1 (0 : Int32) (1 : Int32) M).bind (fun p1 =>
    if p1.1 = 0 then
      some ((-2 : Int32), p1.2)
    else
      (X5_gather (rf i0 9) (rf i0 1)  p1.2).bind (fun p2 =>
        (X5_chooseDay (rf i0 9)  p2.2).bind (fun p3 =>
          if x1 = 0 then
            X11_ask_b51 i0  (p3.2.1 (rf i0 9) 3) p3.2
          else
            X11_ask_b51 i0  (p3.2.1 (rf i0 9) 4) p3.2)))
set_option maxHeartbeats 4000000 in
set_option maxRecDepth 100000 in
theorem t_X11_ask_b51 {X : Scr} {i0 : Nat} (h0 : KD[i0]? = some (.inl 11)) (s0 : Int32) (M : Mem) : T X eI (X11_ask_b51 i0  s0 M) md_X11_ask 51 [] [.int s0] M := by
  unfold X11_ask_b51
  exact T_iret dX11_ask_51 rfl
set_option maxHeartbeats 4000000 in
set_option maxRecDepth 100000 in
theorem t_X11_ask {X : Scr} {i0 : Nat} (h0 : KD[i0]? = some (.inl 11)) (x1 : Int32) (M : Mem) : T X eI (X11_ask i0  x1 M) md_X11_ask 0 [(0, .ref i0), (1, .int x1)] [] M := by
  unfold X11_ask
  refine T_iload_n 1 dX11_ask_0 rfl rfl ?_
  refine T_iconst (v := (0 : Int32)) (by decide) dX11_ask_1 ?_
  refine T_iconst (v := (1 : Int32)) (by decide) dX11_ask_2 ?_
  refine T_callSI md_X11_isWithin [.int x1, .int (0 : Int32), .int (1 : Int32)] [] dX11_ask_3 rfl ok_X11_isWithin tb_361 tb_362 (by decide) (Nat.le_of_ble_eq_true rfl) (fun _ _ h9 => C_X11_isWithin  _ _ _ h9) (fun r1 M1 => ?_)
  dsimp only
  refine T_if_ne 12 dX11_ask_6 (by decide) ?_ ?_
  ·
    refine T_bipush (v := (-2 : Int32)) (by decide) dX11_ask_9 ?_
    exact T_iret dX11_ask_11 rfl
  ·
    refine T_aload_n 0 dX11_ask_12 rfl rfl ?_
    refine T_getR 9 FOk_11 h0 (by decide) (by decide) dX11_ask_13 tb_326 ?_
    refine T_aload_n 0 dX11_ask_16 rfl rfl ?_
    refine T_getR 1 FOk_11 h0 (by decide) (by decide) dX11_ask_17 tb_318 ?_
    refine T_callVU md_X5_gather [.ref (rf i0 1)] [] dX11_ask_20 (kf_11_9 h0) rfl rfl ok_X5_gather tb_604 tb_605 tb_606 (by decide) (Nat.le_of_ble_eq_true rfl) (fun _ _ h9 => C_X5_gather (kf_11_9 h0) (kf_11_1 h0)  h9) (fun r2 M2 => ?_)
    dsimp only
    refine T_aload_n 0 dX11_ask_23 rfl rfl ?_
    refine T_getR 9 FOk_11 h0 (by decide) (by decide) dX11_ask_24 tb_326 ?_
    refine T_callVU md_X5_chooseDay [] [] dX11_ask_27 (kf_11_9 h0) rfl rfl ok_X5_chooseDay tb_618 tb_619 tb_620 (by decide) (Nat.le_of_ble_eq_true rfl) (fun _ _ h9 => C_X5_chooseDay (kf_11_9 h0)  h9) (fun r3 M3 => ?_)
    dsimp only
    refine T_iload_n 1 dX11_ask_30 rfl rfl ?_
    refine T_if_ne 44 dX11_ask_31 (by decide) ?_ ?_
    ·
      refine T_aload_n 0 dX11_ask_34 rfl rfl ?_
      refine T_getR 9 FOk_11 h0 (by decide) (by decide) dX11_ask_35 tb_326 ?_
      refine T_getI 3 FOk_5 (kf_11_9 h0) (by decide) (by decide) dX11_ask_38 tb_278 ?_
      refine T_goto 51 dX11_ask_41 (by decide) ?_
      refine T_sub [] (lv' := []) rfl ?_
      exact t_X11_ask_b51 h0  _ _
    ·
      refine T_aload_n 0 dX11_ask_44 rfl rfl ?_
      refine T_getR 9 FOk_11 h0 (by decide) (by decide) dX11_ask_45 tb_326 ?_
      refine T_getI 4 FOk_5 (kf_11_9 h0) (by decide) (by decide) dX11_ask_48 tb_280 ?_
      refine T_sub [] (lv' := []) rfl ?_
      exact t_X11_ask_b51 h0  _ _
theorem C_X11_ask {X : Scr} {i0 : Nat} (h0 : KD[i0]? = some (.inl 11)) (x1 : Int32) {M : Mem} {r : Int32} {M' : Mem} (h : X11_ask i0 x1 M = some (r, M')) : Ct X md_X11_ask [.ref i0, .int x1] M (eI r) M' := Ct_of (by decide +kernel) (Nat.le_of_ble_eq_true rfl) (t_X11_ask h0 _ M) r M' h
