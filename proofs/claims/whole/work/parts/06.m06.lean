-- X11_done
def X11_done (i0 : Nat)   (M : Mem) : Option (Int32 × Mem) :=
  (X11_playEvening i0  M).bind (fun p1 =>
    if p1.1 = 0 then
      (X0_takeOver (rf i0 0) (rf (rf i0 5) 0)  p1.2).bind (fun p2 =>
        some (((mI p2.2 (rf i0 2) 1 (0 : Int32)).1 (rf i0 5) 1), (mI p2.2 (rf i0 2) 1 (0 : Int32))))
    else
      some (p1.1, p1.2))
set_option maxHeartbeats 4000000 in
set_option maxRecDepth 100000 in
theorem t_X11_done {X : Scr} {i0 : Nat} (h0 : KD[i0]? = some (.inl 11))  (M : Mem) : T X eI (X11_done i0   M) md_X11_done 0 [(0, .ref i0)] [] M := by
  unfold X11_done
  refine T_aload_n 0 dX11_done_0 rfl rfl ?_
  refine T_callVI md_X11_playEvening [] [] dX11_done_1 h0 rfl rfl ok_X11_playEvening tb_427 tb_429 tb_0 (by decide) (Nat.le_of_ble_eq_true rfl) (fun _ _ h9 => C_X11_playEvening h0  h9) (fun r1 M1 => ?_)
  dsimp only
  refine T_istore_n [(1, .int r1), (0, .ref i0)] dX11_done_4 rfl (by decide) rfl ?_
  refine T_iload_n 0 dX11_done_5 rfl rfl ?_
  refine T_if_eq 11 dX11_done_6 (by decide) ?_ ?_
  ·
    refine T_aload_n 1 dX11_done_11 rfl rfl ?_
    refine T_getR 0 FOk_11 h0 (by decide) (by decide) dX11_done_12 tb_317 ?_
    refine T_aload_n 1 dX11_done_15 rfl rfl ?_
    refine T_getR 5 FOk_11 h0 (by decide) (by decide) dX11_done_16 tb_322 ?_
    refine T_getR 0 FOk_2 (kf_11_5 h0) (by decide) (by decide) dX11_done_19 tb_184 ?_
    refine T_callVU md_X0_takeOver [.ref (rf (rf i0 5) 0)] [] dX11_done_22 (kf_11_0 h0) rfl rfl ok_X0_takeOver tb_511 tb_436 tb_437 (by decide) (Nat.le_of_ble_eq_true rfl) (fun _ _ h9 => C_X0_takeOver (kf_11_0 h0) (kf_2_0 (kf_11_5 h0))  h9) (fun r2 M2 => ?_)
    dsimp only
    refine T_aload_n 1 dX11_done_25 rfl rfl ?_
    refine T_getR 2 FOk_11 h0 (by decide) (by decide) dX11_done_26 tb_319 ?_
    refine T_iconst (v := (0 : Int32)) (by decide) dX11_done_29 ?_
    refine T_putI (ty := .int) 1 FOk_8 (kf_11_2 h0) (by decide) (by decide) rfl (by decide +kernel) rfl rfl dX11_done_30 tb_147 ?_
    refine T_aload_n 1 dX11_done_33 rfl rfl ?_
    refine T_getR 5 FOk_11 h0 (by decide) (by decide) dX11_done_34 tb_322 ?_
    refine T_getI 1 FOk_2 (kf_11_5 h0) (by decide) (by decide) dX11_done_37 tb_186 ?_
    exact T_iret dX11_done_40 rfl
  ·
    refine T_iload_n 0 dX11_done_9 rfl rfl ?_
    exact T_iret dX11_done_10 rfl
theorem C_X11_done {X : Scr} {i0 : Nat} (h0 : KD[i0]? = some (.inl 11))  {M : Mem} {r : Int32} {M' : Mem} (h : X11_done i0  M = some (r, M')) : Ct X md_X11_done [.ref i0] M (eI r) M' := Ct_of (by decide +kernel) (Nat.le_of_ble_eq_true rfl) (t_X11_done h0  M) r M' h
-- X11_round
def X11_round_b54 (i0 : Nat)  (s0 : Int32) (M : Mem) : Option (Int32 × Mem) :=
  some (s0, M)
def X11_round (i0 : Nat)  (x1 : Int32) (x2 : Int32) (M : Mem) : Option (Int32 × Mem) :=
  (X11_isCabin  x1 M).bind (fun p1 =>
    if p1.1 = 0 then
      some ((-1 : Int32), p1.2)
    else
      (X11_isWithin  x2 (0 : Int32) (1 : Int32) p1.2).bind (fun p2 =>
        if p2.1 = 0 then
          some ((-2 : Int32), p2.2)
        else
          (X1_planRound (rf i0 6) (rf i0 0) x1 p2.2).bind (fun p3 =>
            if x2 = 0 then
              X11_round_b54 i0  (p3.2.1 (rf i0 6) 1) p3.2
            else
              X11_round_b54 i0  (p3.2.1 (rf i0 6) 2) p3.2)))
set_option maxHeartbeats 4000000 in
set_option maxRecDepth 100000 in
theorem t_X11_round_b54 {X : Scr} {i0 : Nat} (h0 : KD[i0]? = some (.inl 11)) (s0 : Int32) (M : Mem) : T X eI (X11_round_b54 i0  s0 M) md_X11_round 54 [] [.int s0] M := by
  unfold X11_round_b54
  exact T_iret dX11_round_54 rfl
set_option maxHeartbeats 4000000 in
set_option maxRecDepth 100000 in
theorem t_X11_round {X : Scr} {i0 : Nat} (h0 : KD[i0]? = some (.inl 11)) (x1 : Int32) (x2 : Int32) (M : Mem) : T X eI (X11_round i0  x1 x2 M) md_X11_round 0 [(0, .ref i0), (1, .int x1), (2, .int x2)] [] M := by
  unfold X11_round
  refine T_iload_n 1 dX11_round_0 rfl rfl ?_
  refine T_callSI md_X11_isCabin [.int x1] [] dX11_round_1 rfl ok_X11_isCabin tb_358 tb_359 (by decide) (Nat.le_of_ble_eq_true rfl) (fun _ _ h9 => C_X11_isCabin  _ h9) (fun r1 M1 => ?_)
  dsimp only
  refine T_if_ne 9 dX11_round_4 (by decide) ?_ ?_
  ·
    refine T_iconst (v := (-1 : Int32)) (by decide) dX11_round_7 ?_
    exact T_iret dX11_round_8 rfl
  ·
    refine T_iload_n 2 dX11_round_9 rfl rfl ?_
    refine T_iconst (v := (0 : Int32)) (by decide) dX11_round_10 ?_
    refine T_iconst (v := (1 : Int32)) (by decide) dX11_round_11 ?_
    refine T_callSI md_X11_isWithin [.int x2, .int (0 : Int32), .int (1 : Int32)] [] dX11_round_12 rfl ok_X11_isWithin tb_361 tb_362 (by decide) (Nat.le_of_ble_eq_true rfl) (fun _ _ h9 => C_X11_isWithin  _ _ _ h9) (fun r2 M2 => ?_)
    dsimp only
    refine T_if_ne 21 dX11_round_15 (by decide) ?_ ?_
    ·
      refine T_bipush (v := (-2 : Int32)) (by decide) dX11_round_18 ?_
      exact T_iret dX11_round_20 rfl
    ·
      refine T_aload_n 0 dX11_round_21 rfl rfl ?_
      refine T_getR 6 FOk_11 h0 (by decide) (by decide) dX11_round_22 tb_323 ?_
      refine T_aload_n 0 dX11_round_25 rfl rfl ?_
      refine T_getR 0 FOk_11 h0 (by decide) (by decide) dX11_round_26 tb_317 ?_
      refine T_iload_n 1 dX11_round_29 rfl rfl ?_
      refine T_callVU md_X1_planRound [.ref (rf i0 0), .int x1] [] dX11_round_30 (kf_11_6 h0) rfl rfl ok_X1_planRound tb_516 tb_517 tb_518 (by decide) (Nat.le_of_ble_eq_true rfl) (fun _ _ h9 => C_X1_planRound (kf_11_6 h0) (kf_11_0 h0) _ h9) (fun r3 M3 => ?_)
      dsimp only
      refine T_iload_n 2 dX11_round_33 rfl rfl ?_
      refine T_if_ne 47 dX11_round_34 (by decide) ?_ ?_
      ·
        refine T_aload_n 0 dX11_round_37 rfl rfl ?_
        refine T_getR 6 FOk_11 h0 (by decide) (by decide) dX11_round_38 tb_323 ?_
        refine T_getI 1 FOk_1 (kf_11_6 h0) (by decide) (by decide) dX11_round_41 tb_220 ?_
        refine T_goto 54 dX11_round_44 (by decide) ?_
        refine T_sub [] (lv' := []) rfl ?_
        exact t_X11_round_b54 h0  _ _
      ·
        refine T_aload_n 0 dX11_round_47 rfl rfl ?_
        refine T_getR 6 FOk_11 h0 (by decide) (by decide) dX11_round_48 tb_323 ?_
        refine T_getI 2 FOk_1 (kf_11_6 h0) (by decide) (by decide) dX11_round_51 tb_222 ?_
        refine T_sub [] (lv' := []) rfl ?_
        exact t_X11_round_b54 h0  _ _
theorem C_X11_round {X : Scr} {i0 : Nat} (h0 : KD[i0]? = some (.inl 11)) (x1 : Int32) (x2 : Int32) {M : Mem} {r : Int32} {M' : Mem} (h : X11_round i0 x1 x2 M = some (r, M')) : Ct X md_X11_round [.ref i0, .int x1, .int x2] M (eI r) M' := Ct_of (by decide +kernel) (Nat.le_of_ble_eq_true rfl) (t_X11_round h0 _ _ M) r M' h
-- X11_show
def X11_show_b16 (i0 : Nat)   (M : Mem) : Option (Int32 × Mem) :=
  some ((-2 : Int32), M)
def X11_show_b52 (i0 : Nat)  (s0 : Int32) (M : Mem) : Option (Int32 × Mem) :=
  some (s0, M)
def X11_show (i0 : Nat)  (x1 : Int32) (x2 : Int32) (M : Mem) : Option (Int32 × Mem) :=
  (X11_isThingSet  x1 M).bind (fun p1 =>
    if p1.1 = 0 then
      X11_show_b16 i0   p1.2
    else
      (X11_isWithin  x2 (0 : Int32) (1 : Int32) p1.2).bind (fun p2 =>
        if p2.1 = 0 then
          X11_show_b16 i0   p2.2
        else
          (X1_uncover (rf i0 6) (rf i0 0) x1 p2.2).bind (fun p3 =>
            if x2 = 0 then
              X11_show_b52 i0  (p3.2.1 (rf i0 6) 1) p3.2
            else
              X11_show_b52 i0  (p3.2.1 (rf i0 6) 2) p3.2)))
set_option maxHeartbeats 4000000 in
set_option maxRecDepth 100000 in
theorem t_X11_show_b16 {X : Scr} {i0 : Nat} (h0 : KD[i0]? = some (.inl 11))  (M : Mem) : T X eI (X11_show_b16 i0   M) md_X11_show 16 [] [] M := by
  unfold X11_show_b16
  refine T_bipush (v := (-2 : Int32)) (by decide) dX11_show_16 ?_
  exact T_iret dX11_show_18 rfl
set_option maxHeartbeats 4000000 in
set_option maxRecDepth 100000 in
theorem t_X11_show_b52 {X : Scr} {i0 : Nat} (h0 : KD[i0]? = some (.inl 11)) (s0 : Int32) (M : Mem) : T X eI (X11_show_b52 i0  s0 M) md_X11_show 52 [] [.int s0] M := by
  unfold X11_show_b52
  exact T_iret dX11_show_52 rfl
set_option maxHeartbeats 4000000 in
set_option maxRecDepth 100000 in
theorem t_X11_show {X : Scr} {i0 : Nat} (h0 : KD[i0]? = some (.inl 11)) (x1 : Int32) (x2 : Int32) (M : Mem) : T X eI (X11_show i0  x1 x2 M) md_X11_show 0 [(0, .ref i0), (1, .int x1), (2, .int x2)] [] M := by
  unfold X11_show
  refine T_iload_n 1 dX11_show_0 rfl rfl ?_
  refine T_callSI md_X11_isThingSet [.int x1] [] dX11_show_1 rfl ok_X11_isThingSet tb_364 tb_365 (by decide) (Nat.le_of_ble_eq_true rfl) (fun _ _ h9 => C_X11_isThingSet  _ h9) (fun r1 M1 => ?_)
  dsimp only
  refine T_if_eq 16 dX11_show_4 (by decide) ?_ ?_
  ·
    refine T_sub [] (lv' := []) rfl ?_
    exact t_X11_show_b16 h0   _
  ·
    refine T_iload_n 2 dX11_show_7 rfl rfl ?_
    refine T_iconst (v := (0 : Int32)) (by decide) dX11_show_8 ?_
    refine T_iconst (v := (1 : Int32)) (by decide) dX11_show_9 ?_
    refine T_callSI md_X11_isWithin [.int x2, .int (0 : Int32), .int (1 : Int32)] [] dX11_show_10 rfl ok_X11_isWithin tb_361 tb_362 (by decide) (Nat.le_of_ble_eq_true rfl) (fun _ _ h9 => C_X11_isWithin  _ _ _ h9) (fun r2 M2 => ?_)
    dsimp only
    refine T_if_ne 19 dX11_show_13 (by decide) ?_ ?_
    ·
      refine T_sub [] (lv' := []) rfl ?_
      exact t_X11_show_b16 h0   _
    ·
      refine T_aload_n 0 dX11_show_19 rfl rfl ?_
      refine T_getR 6 FOk_11 h0 (by decide) (by decide) dX11_show_20 tb_323 ?_
      refine T_aload_n 0 dX11_show_23 rfl rfl ?_
      refine T_getR 0 FOk_11 h0 (by decide) (by decide) dX11_show_24 tb_317 ?_
      refine T_iload_n 1 dX11_show_27 rfl rfl ?_
      refine T_callVU md_X1_uncover [.ref (rf i0 0), .int x1] [] dX11_show_28 (kf_11_6 h0) rfl rfl ok_X1_uncover tb_539 tb_540 tb_541 (by decide) (Nat.le_of_ble_eq_true rfl) (fun _ _ h9 => C_X1_uncover (kf_11_6 h0) (kf_11_0 h0) _ h9) (fun r3 M3 => ?_)
      dsimp only
      refine T_iload_n 2 dX11_show_31 rfl rfl ?_
      refine T_if_ne 45 dX11_show_32 (by decide) ?_ ?_
      ·
        refine T_aload_n 0 dX11_show_35 rfl rfl ?_
        refine T_getR 6 FOk_11 h0 (by decide) (by decide) dX11_show_36 tb_323 ?_
        refine T_getI 1 FOk_1 (kf_11_6 h0) (by decide) (by decide) dX11_show_39 tb_220 ?_
        refine T_goto 52 dX11_show_42 (by decide) ?_
        refine T_sub [] (lv' := []) rfl ?_
        exact t_X11_show_b52 h0  _ _
      ·
        refine T_aload_n 0 dX11_show_45 rfl rfl ?_
        refine T_getR 6 FOk_11 h0 (by decide) (by decide) dX11_show_46 tb_323 ?_
        refine T_getI 2 FOk_1 (kf_11_6 h0) (by decide) (by decide) dX11_show_49 tb_222 ?_
        refine T_sub [] (lv' := []) rfl ?_
        exact t_X11_show_b52 h0  _ _
theorem C_X11_show {X : Scr} {i0 : Nat} (h0 : KD[i0]? = some (.inl 11)) (x1 : Int32) (x2 : Int32) {M : Mem} {r : Int32} {M' : Mem} (h : X11_show i0 x1 x2 M = some (r, M')) : Ct X md_X11_show [.ref i0, .int x1, .int x2] M (eI r) M' := Ct_of (by decide +kernel) (Nat.le_of_ble_eq_true rfl) (t_X11_show h0 _ _ M) r M' h
-- X11_owners
def X11_owners_b60 (i0 : Nat)  (s0 : Int32) (M : Mem) : Option (Int32 × Mem) :=
  some (s0, M)
def X11_owners_b14 (i0 : Nat)  (x1 : Int32) (x2 : Int32) (M : Mem) : Option (Int32 × Mem) :=
  (X11_isThingSet  x1 M).bind (fun p1 =>
    if p1.1 = 0 then
      some ((-2 : Int32), p1.2)
    else
      (X6_pair (rf i0 7) (rf i0 0) x1 p1.2).bind (fun p2 =>
        if x2 = (-1 : Int32) then
          X11_owners_b60 i0  (p2.2.1 (rf i0 7) 2) p2.2
        else
          gd (ib x2 8) (
            X11_owners_b60 i0  (p2.2.1 (rf (rf i0 7) 1) x2.toNatClampNeg) p2.2)))
def X11_owners (i0 : Nat)  (x1 : Int32) (x2 : Int32) (M : Mem) : Option (Int32 × Mem) :=
  if x2 = (-1 : Int32) then
    X11_owners_b14 i0  x1 x2 M
  else
    (X11_isThing  x2 M).bind (fun p1 =>
      if p1.1 = 0 then
        some ((-1 : Int32), p1.2)
      else
        X11_owners_b14 i0  x1 x2 p1.2)
set_option maxHeartbeats 4000000 in
set_option maxRecDepth 100000 in
theorem t_X11_owners_b60 {X : Scr} {i0 : Nat} (h0 : KD[i0]? = some (.inl 11)) (s0 : Int32) (M : Mem) : T X eI (X11_owners_b60 i0  s0 M) md_X11_owners 60 [] [.int s0] M := by
  unfold X11_owners_b60
  exact T_iret dX11_owners_60 rfl
set_option maxHeartbeats 4000000 in
set_option maxRecDepth 100000 in
theorem t_X11_owners_b14 {X : Scr} {i0 : Nat} (h0 : KD[i0]? = some (.inl 11)) (x1 : Int32) (x2 : Int32) (M : Mem) : T X eI (X11_owners_b14 i0  x1 x2 M) md_X11_owners 14 [(0, .ref i0), (1, .int x1), (2, .int x2)] [] M := by
  unfold X11_owners_b14
  refine T_iload_n 1 dX11_owners_14 rfl rfl ?_
  refine T_callSI md_X11_isThingSet [.int x1] [] dX11_owners_15 rfl ok_X11_isThingSet tb_364 tb_365 (by decide) (Nat.le_of_ble_eq_true rfl) (fun _ _ h9 => C_X11_isThingSet  _ h9) (fun r1 M1 => ?_)
  dsimp only
  refine T_if_ne 24 dX11_owners_18 (by decide) ?_ ?_
  ·
    refine T_bipush (v := (-2 : Int32)) (by decide) dX11_owners_21 ?_
    exact T_iret dX11_owners_23 rfl
  ·
    refine T_aload_n 0 dX11_owners_24 rfl rfl ?_
    refine T_getR 7 FOk_11 h0 (by decide) (by decide) dX11_owners_25 tb_324 ?_
    refine T_aload_n 0 dX11_owners_28 rfl rfl ?_
    refine T_getR 0 FOk_11 h0 (by decide) (by decide) dX11_owners_29 tb_317 ?_
    refine T_iload_n 1 dX11_owners_32 rfl rfl ?_
    refine T_callVU md_X6_pair [.ref (rf i0 0), .int x1] [] dX11_owners_33 (kf_11_7 h0) rfl rfl ok_X6_pair tb_552 tb_553 tb_554 (by decide) (Nat.le_of_ble_eq_true rfl) (fun _ _ h9 => C_X6_pair (kf_11_7 h0) (kf_11_0 h0) _ h9) (fun r2 M2 => ?_)
    dsimp only
    refine T_iload_n 2 dX11_owners_36 rfl rfl ?_
    refine T_iconst (v := (-1 : Int32)) (by decide) dX11_owners_37 ?_
    refine T_icmp_ne 51 dX11_owners_38 (by decide) ?_ ?_
    ·
      refine T_aload_n 0 dX11_owners_41 rfl rfl ?_
      refine T_getR 7 FOk_11 h0 (by decide) (by decide) dX11_owners_42 tb_324 ?_
      refine T_getI 2 FOk_6 (kf_11_7 h0) (by decide) (by decide) dX11_owners_45 tb_240 ?_
      refine T_goto 60 dX11_owners_48 (by decide) ?_
      refine T_sub [] (lv' := []) rfl ?_
      exact t_X11_owners_b60 h0  _ _
    ·
      refine T_aload_n 0 dX11_owners_51 rfl rfl ?_
      refine T_getR 7 FOk_11 h0 (by decide) (by decide) dX11_owners_52 tb_324 ?_
      refine T_getR 1 FOk_6 (kf_11_7 h0) (by decide) (by decide) dX11_owners_55 tb_238 ?_
      refine T_iload_n 2 dX11_owners_58 rfl rfl ?_
      refine T_iald (kf_6_1 (kf_11_7 h0)) dX11_owners_59 ?_
      refine T_sub [] (lv' := []) rfl ?_
      exact t_X11_owners_b60 h0  _ _
set_option maxHeartbeats 4000000 in
set_option maxRecDepth 100000 in
theorem t_X11_owners {X : Scr} {i0 : Nat} (h0 : KD[i0]? = some (.inl 11)) (x1 : Int32) (x2 : Int32) (M : Mem) : T X eI (X11_owners i0  x1 x2 M) md_X11_owners 0 [(0, .ref i0), (1, .int x1), (2, .int x2)] [] M := by
  unfold X11_owners
  refine T_iload_n 2 dX11_owners_0 rfl rfl ?_
  refine T_iconst (v := (-1 : Int32)) (by decide) dX11_owners_1 ?_
  refine T_icmp_eq 14 dX11_owners_2 (by decide) ?_ ?_
  ·
    exact t_X11_owners_b14 h0  _ _ _
  ·
    refine T_iload_n 2 dX11_owners_5 rfl rfl ?_
    refine T_callSI md_X11_isThing [.int x2] [] dX11_owners_6 rfl ok_X11_isThing tb_551 tb_415 (by decide) (Nat.le_of_ble_eq_true rfl) (fun _ _ h9 => C_X11_isThing  _ h9) (fun r1 M1 => ?_)
    dsimp only
    refine T_if_ne 14 dX11_owners_9 (by decide) ?_ ?_
    ·
      refine T_iconst (v := (-1 : Int32)) (by decide) dX11_owners_12 ?_
      exact T_iret dX11_owners_13 rfl
    ·
      exact t_X11_owners_b14 h0  _ _ _
theorem C_X11_owners {X : Scr} {i0 : Nat} (h0 : KD[i0]? = some (.inl 11)) (x1 : Int32) (x2 : Int32) {M : Mem} {r : Int32} {M' : Mem} (h : X11_owners i0 x1 x2 M = some (r, M')) : Ct X md_X11_owners [.ref i0, .int x1, .int x2] M (eI r) M' := Ct_of (by decide +kernel) (Nat.le_of_ble_eq_true rfl) (t_X11_owners h0 _ _ M) r M' h
-- X11_towels
def X11_towels_b20 (i0 : Nat)   (M : Mem) : Option (Int32 × Mem) :=
  some ((-2 : Int32), M)
def X11_towels_b51 (i0 : Nat)  (s0 : Int32) (M : Mem) : Option (Int32 × Mem) :=
  some (s0, M)
def X11_towels (i0 : Nat)  (x1 : Int32) (x2 : Int32) (M : Mem) : Option (Int32 × Mem) :=
  (X11_isWithin  x2 (0 : Int32) (1 : Int32) M).bind (fun p1 =>
    if p1.1 = 0 then
      X11_towels_b20 i0   p1.2
    else
      (X3_hang (rf i0 8) x1 p1.2).bind (fun p2 =>
        if p2.1 = 0 then
          X11_towels_b20 i0   p2.2
        else
          (X3_follow (rf i0 8)  p2.2).bind (fun p3 =>
            if x2 = 0 then
              X11_towels_b51 i0  (p3.2.1 (rf i0 8) 1) p3.2
            else
              X11_towels_b51 i0  (p3.2.1 (rf i0 8) 2) p3.2)))
set_option maxHeartbeats 4000000 in
set_option maxRecDepth 100000 in
theorem t_X11_towels_b20 {X : Scr} {i0 : Nat} (h0 : KD[i0]? = some (.inl 11))  (M : Mem) : T X eI (X11_towels_b20 i0   M) md_X11_towels 20 [] [] M := by
  unfold X11_towels_b20
  refine T_bipush (v := (-2 : Int32)) (by decide) dX11_towels_20 ?_
  exact T_iret dX11_towels_22 rfl
set_option maxHeartbeats 4000000 in
set_option maxRecDepth 100000 in
theorem t_X11_towels_b51 {X : Scr} {i0 : Nat} (h0 : KD[i0]? = some (.inl 11)) (s0 : Int32) (M : Mem) : T X eI (X11_towels_b51 i0  s0 M) md_X11_towels 51 [] [.int s0] M := by
  unfold X11_towels_b51
  exact T_iret dX11_towels_51 rfl
set_option maxHeartbeats 4000000 in
set_option maxRecDepth 100000 in
theorem t_X11_towels {X : Scr} {i0 : Nat} (h0 : KD[i0]? = some (.inl 11)) (x1 : Int32) (x2 : Int32) (M : Mem) : T X eI (X11_towels i0  x1 x2 M) md_X11_towels 0 [(0, .ref i0), (1, .int x1), (2, .int x2)] [] M := by
  unfold X11_towels
  refine T_iload_n 2 dX11_towels_0 rfl rfl ?_
  refine T_iconst (v := (0 : Int32)) (by decide) dX11_towels_1 ?_
  refine T_iconst (v := (1 : Int32)) (by decide) dX11_towels_2 ?_
  refine T_callSI md_X11_isWithin [.int x2, .int (0 : Int32), .int (1 : Int32)] [] dX11_towels_3 rfl ok_X11_isWithin tb_361 tb_362 (by decide) (Nat.le_of_ble_eq_true rfl) (fun _ _ h9 => C_X11_isWithin  _ _ _ h9) (fun r1 M1 => ?_)
  dsimp only
  refine T_if_eq 20 dX11_towels_6 (by decide) ?_ ?_
  ·
    refine T_sub [] (lv' := []) rfl ?_
    exact t_X11_towels_b20 h0   _
  ·
    refine T_aload_n 0 dX11_towels_9 rfl rfl ?_
    refine T_getR 8 FOk_11 h0 (by decide) (by decide) dX11_towels_10 tb_325 ?_
    refine T_iload_n 1 dX11_towels_13 rfl rfl ?_
    refine T_callVI md_X3_hang [.int x1] [] dX11_towels_14 (kf_11_8 h0) rfl rfl ok_X3_hang tb_575 tb_576 tb_577 (by decide) (Nat.le_of_ble_eq_true rfl) (fun _ _ h9 => C_X3_hang (kf_11_8 h0) _ h9) (fun r2 M2 => ?_)
    dsimp only
    refine T_if_ne 23 dX11_towels_17 (by decide) ?_ ?_
    ·
      refine T_sub [] (lv' := []) rfl ?_
      exact t_X11_towels_b20 h0   _
    ·
      refine T_aload_n 0 dX11_towels_23 rfl rfl ?_
      refine T_getR 8 FOk_11 h0 (by decide) (by decide) dX11_towels_24 tb_325 ?_
      refine T_callVU md_X3_follow [] [] dX11_towels_27 (kf_11_8 h0) rfl rfl ok_X3_follow tb_581 tb_582 tb_583 (by decide) (Nat.le_of_ble_eq_true rfl) (fun _ _ h9 => C_X3_follow (kf_11_8 h0)  h9) (fun r3 M3 => ?_)
      dsimp only
      refine T_iload_n 2 dX11_towels_30 rfl rfl ?_
      refine T_if_ne 44 dX11_towels_31 (by decide) ?_ ?_
      ·
        refine T_aload_n 0 dX11_towels_34 rfl rfl ?_
        refine T_getR 8 FOk_11 h0 (by decide) (by decide) dX11_towels_35 tb_325 ?_
        refine T_getI 1 FOk_3 (kf_11_8 h0) (by decide) (by decide) dX11_towels_38 tb_256 ?_
        refine T_goto 51 dX11_towels_41 (by decide) ?_
        refine T_sub [] (lv' := []) rfl ?_
        exact t_X11_towels_b51 h0  _ _
      ·
        refine T_aload_n 0 dX11_towels_44 rfl rfl ?_
        refine T_getR 8 FOk_11 h0 (by decide) (by decide) dX11_towels_45 tb_325 ?_
        refine T_getI 2 FOk_3 (kf_11_8 h0) (by decide) (by decide) dX11_towels_48 tb_258 ?_
        refine T_sub [] (lv' := []) rfl ?_
        exact t_X11_towels_b51 h0  _ _
theorem C_X11_towels {X : Scr} {i0 : Nat} (h0 : KD[i0]? = some (.inl 11)) (x1 : Int32) (x2 : Int32) {M : Mem} {r : Int32} {M' : Mem} (h : X11_towels i0 x1 x2 M = some (r, M')) : Ct X md_X11_towels [.ref i0, .int x1, .int x2] M (eI r) M' := Ct_of (by decide +kernel) (Nat.le_of_ble_eq_true rfl) (t_X11_towels h0 _ _ M) r M' h
-- X11_found
def X11_found_b46 (i0 : Nat)  (s0 : Int32) (M : Mem) : Option (Int32 × Mem) :=
  some (s0, M)
def X11_found (i0 : Nat)  (x1 : Int32) (x2 : Int32) (M : Mem) : Option (Int32 × Mem) :=
  (X11_isThing  x2 M).bind (fun p1 =>
    if p1.1 = 0 then
      some ((-1 : Int32), p1.2)
    else
      (X11_isWithin  x1 (0 : Int32) (60 : Int32) p1.2).bind (fun p2 =>
        if p2.1 = 0 then
          some ((-2 : Int32), p2.2)
        else
          (X7_write (rf i0 1) x1 x2 p2.2).bind (fun p3 =>
            if p3.1 = 0 then
              X11_found_b46 i0  (-4 : Int32) p3.2
            else
              X11_found_b46 i0  (p3.2.1 (rf i0 1) 2) p3.2)))
set_option maxHeartbeats 4000000 in
set_option maxRecDepth 100000 in
theorem t_X11_found_b46 {X : Scr} {i0 : Nat} (h0 : KD[i0]? = some (.inl 11)) (s0 : Int32) (M : Mem) : T X eI (X11_found_b46 i0  s0 M) md_X11_found 46 [] [.int s0] M := by
  unfold X11_found_b46
  exact T_iret dX11_found_46 rfl
set_option maxHeartbeats 4000000 in
set_option maxRecDepth 100000 in
theorem t_X11_found {X : Scr} {i0 : Nat} (h0 : KD[i0]? = some (.inl 11)) (x1 : Int32) (x2 : Int32) (M : Mem) : T X eI (X11_found i0  x1 x2 M) md_X11_found 0 [(0, .ref i0), (1, .int x1), (2, .int x2)] [] M := by
  unfold X11_found
  refine T_iload_n 2 dX11_found_0 rfl rfl ?_
  refine T_callSI md_X11_isThing [.int x2] [] dX11_found_1 rfl ok_X11_isThing tb_551 tb_415 (by decide) (Nat.le_of_ble_eq_true rfl) (fun _ _ h9 => C_X11_isThing  _ h9) (fun r1 M1 => ?_)
  dsimp only
  refine T_if_ne 9 dX11_found_4 (by decide) ?_ ?_
  ·
    refine T_iconst (v := (-1 : Int32)) (by decide) dX11_found_7 ?_
    exact T_iret dX11_found_8 rfl
  ·
    refine T_iload_n 1 dX11_found_9 rfl rfl ?_
    refine T_iconst (v := (0 : Int32)) (by decide) dX11_found_10 ?_
    refine T_bipush (v := (60 : Int32)) (by decide) dX11_found_11 ?_
    refine T_callSI md_X11_isWithin [.int x1, .int (0 : Int32), .int (60 : Int32)] [] dX11_found_13 rfl ok_X11_isWithin tb_361 tb_362 (by decide) (Nat.le_of_ble_eq_true rfl) (fun _ _ h9 => C_X11_isWithin  _ _ _ h9) (fun r2 M2 => ?_)
    dsimp only
    refine T_if_ne 22 dX11_found_16 (by decide) ?_ ?_
    ·
      refine T_bipush (v := (-2 : Int32)) (by decide) dX11_found_19 ?_
      exact T_iret dX11_found_21 rfl
    ·
      refine T_aload_n 0 dX11_found_22 rfl rfl ?_
      refine T_getR 1 FOk_11 h0 (by decide) (by decide) dX11_found_23 tb_318 ?_
      refine T_iload_n 1 dX11_found_26 rfl rfl ?_
      refine T_iload_n 2 dX11_found_27 rfl rfl ?_
      refine T_callVI md_X7_write [.int x1, .int x2] [] dX11_found_28 (kf_11_1 h0) rfl rfl ok_X7_write tb_592 tb_593 tb_594 (by decide) (Nat.le_of_ble_eq_true rfl) (fun _ _ h9 => C_X7_write (kf_11_1 h0) _ _ h9) (fun r3 M3 => ?_)
      dsimp only
      refine T_if_eq 44 dX11_found_31 (by decide) ?_ ?_
      ·
        refine T_bipush (v := (-4 : Int32)) (by decide) dX11_found_44 ?_
        refine T_sub [] (lv' := []) rfl ?_
        exact t_X11_found_b46 h0  _ _
      ·
        refine T_aload_n 0 dX11_found_34 rfl rfl ?_
        refine T_getR 1 FOk_11 h0 (by decide) (by decide) dX11_found_35 tb_318 ?_
        refine T_getI 2 FOk_7 (kf_11_1 h0) (by decide) (by decide) dX11_found_38 tb_130 ?_
        refine T_goto 46 dX11_found_41 (by decide) ?_
        refine T_sub [] (lv' := []) rfl ?_
        exact t_X11_found_b46 h0  _ _
theorem C_X11_found {X : Scr} {i0 : Nat} (h0 : KD[i0]? = some (.inl 11)) (x1 : Int32) (x2 : Int32) {M : Mem} {r : Int32} {M' : Mem} (h : X11_found i0 x1 x2 M = some (r, M')) : Ct X md_X11_found [.ref i0, .int x1, .int x2] M (eI r) M' := Ct_of (by decide +kernel) (Nat.le_of_ble_eq_true rfl) (t_X11_found h0 _ _ M) r M' h
-- X11_forget
def X11_forget (i0 : Nat)   (M : Mem) : Option (Int32 × Mem) :=
  some ((M.1 (rf i0 1) 2), (mI M (rf i0 1) 2 (0 : Int32)))
set_option maxHeartbeats 4000000 in
set_option maxRecDepth 100000 in
theorem t_X11_forget {X : Scr} {i0 : Nat} (h0 : KD[i0]? = some (.inl 11))  (M : Mem) : T X eI (X11_forget i0   M) md_X11_forget 0 [(0, .ref i0)] [] M := by
  unfold X11_forget
  refine T_aload_n 0 dX11_forget_0 rfl rfl ?_
  refine T_getR 1 FOk_11 h0 (by decide) (by decide) dX11_forget_1 tb_318 ?_
  refine T_getI 2 FOk_7 (kf_11_1 h0) (by decide) (by decide) dX11_forget_4 tb_130 ?_
  refine T_istore_n [(1, .int (M.1 (rf i0 1) 2)), (0, .ref i0)] dX11_forget_7 rfl (by decide) rfl ?_
  refine T_aload_n 1 dX11_forget_8 rfl rfl ?_
  refine T_getR 1 FOk_11 h0 (by decide) (by decide) dX11_forget_9 tb_318 ?_
  refine T_iconst (v := (0 : Int32)) (by decide) dX11_forget_12 ?_
  refine T_putI (ty := .int) 2 FOk_7 (kf_11_1 h0) (by decide) (by decide) rfl (by decide +kernel) rfl rfl dX11_forget_13 tb_130 ?_
  refine T_iload_n 0 dX11_forget_16 rfl rfl ?_
  exact T_iret dX11_forget_17 rfl
theorem C_X11_forget {X : Scr} {i0 : Nat} (h0 : KD[i0]? = some (.inl 11))  {M : Mem} {r : Int32} {M' : Mem} (h : X11_forget i0  M = some (r, M')) : Ct X md_X11_forget [.ref i0] M (eI r) M' := Ct_of (by decide +kernel) (Nat.le_of_ble_eq_true rfl) (t_X11_forget h0  M) r M' h
-- X11_fits
def X11_fits_b55 (i0 : Nat)  (s0 : Int32) (M : Mem) : Option (Int32 × Mem) :=
  some (s0, M)
def X11_fits (i0 : Nat)  (x1 : Int32) (M : Mem) : Option (Int32 × Mem) :=
  (X5_gather (rf i0 9) (rf i0 1)  M).bind (fun p1 =>
    if x1 = (-1 : Int32) then
      some ((p1.2.1 (rf i0 9) 2), p1.2)
    else
      (X11_isWithin  x1 (0 : Int32) ((p1.2.1 (rf i0 9) 2) - (1 : Int32)) p1.2).bind (fun p2 =>
        if p2.1 = 0 then
          X11_fits_b55 i0  (-6 : Int32) p2.2
        else
          gd (ib x1 64) (
            X11_fits_b55 i0  (p2.2.1 (rf (rf i0 9) 0) x1.toNatClampNeg) p2.2)))
set_option maxHeartbeats 4000000 in
set_option maxRecDepth 100000 in
theorem t_X11_fits_b55 {X : Scr} {i0 : Nat} (h0 : KD[i0]? = some (.inl 11)) (s0 : Int32) (M : Mem) : T X eI (X11_fits_b55 i0  s0 M) md_X11_fits 55 [] [.int s0] M := by
  unfold X11_fits_b55
  exact T_iret dX11_fits_55 rfl
set_option maxHeartbeats 4000000 in
set_option maxRecDepth 100000 in
theorem t_X11_fits {X : Scr} {i0 : Nat} (h0 : KD[i0]? = some (.inl 11)) (x1 : Int32) (M : Mem) : T X eI (X11_fits i0  x1 M) md_X11_fits 0 [(0, .ref i0), (1, .int x1)] [] M := by
  unfold X11_fits
  refine T_aload_n 0 dX11_fits_0 rfl rfl ?_
  refine T_getR 9 FOk_11 h0 (by decide) (by decide) dX11_fits_1 tb_326 ?_
  refine T_aload_n 0 dX11_fits_4 rfl rfl ?_
  refine T_getR 1 FOk_11 h0 (by decide) (by decide) dX11_fits_5 tb_318 ?_
  refine T_callVU md_X5_gather [.ref (rf i0 1)] [] dX11_fits_8 (kf_11_9 h0) rfl rfl ok_X5_gather tb_604 tb_605 tb_606 (by decide) (Nat.le_of_ble_eq_true rfl) (fun _ _ h9 => C_X5_gather (kf_11_9 h0) (kf_11_1 h0)  h9) (fun r1 M1 => ?_)
  dsimp only
  refine T_iload_n 1 dX11_fits_11 rfl rfl ?_
  refine T_iconst (v := (-1 : Int32)) (by decide) dX11_fits_12 ?_
  refine T_icmp_ne 24 dX11_fits_13 (by decide) ?_ ?_
  ·
    refine T_aload_n 0 dX11_fits_16 rfl rfl ?_
    refine T_getR 9 FOk_11 h0 (by decide) (by decide) dX11_fits_17 tb_326 ?_
    refine T_getI 2 FOk_5 (kf_11_9 h0) (by decide) (by decide) dX11_fits_20 tb_276 ?_
    exact T_iret dX11_fits_23 rfl
  ·
    refine T_iload_n 1 dX11_fits_24 rfl rfl ?_
    refine T_iconst (v := (0 : Int32)) (by decide) dX11_fits_25 ?_
    refine T_aload_n 0 dX11_fits_26 rfl rfl ?_
    refine T_getR 9 FOk_11 h0 (by decide) (by decide) dX11_fits_27 tb_326 ?_
    refine T_getI 2 FOk_5 (kf_11_9 h0) (by decide) (by decide) dX11_fits_30 tb_276 ?_
    refine T_iconst (v := (1 : Int32)) (by decide) dX11_fits_33 ?_
    refine T_isub dX11_fits_34 ?_
    refine T_callSI md_X11_isWithin [.int x1, .int (0 : Int32), .int ((M1.1 (rf i0 9) 2) - (1 : Int32))] [] dX11_fits_35 rfl ok_X11_isWithin tb_361 tb_362 (by decide) (Nat.le_of_ble_eq_true rfl) (fun _ _ h9 => C_X11_isWithin  _ _ _ h9) (fun r2 M2 => ?_)
    dsimp only
    refine T_if_eq 53 dX11_fits_38 (by decide) ?_ ?_
    ·
      refine T_bipush (v := (-6 : Int32)) (by decide) dX11_fits_53 ?_
      refine T_sub [] (lv' := []) rfl ?_
      exact t_X11_fits_b55 h0  _ _
    ·
      refine T_aload_n 0 dX11_fits_41 rfl rfl ?_
      refine T_getR 9 FOk_11 h0 (by decide) (by decide) dX11_fits_42 tb_326 ?_
      refine T_getR 0 FOk_5 (kf_11_9 h0) (by decide) (by decide) dX11_fits_45 tb_273 ?_
      refine T_iload_n 1 dX11_fits_48 rfl rfl ?_
      refine T_iald (kf_5_0 (kf_11_9 h0)) dX11_fits_49 ?_
      refine T_goto 55 dX11_fits_50 (by decide) ?_
      refine T_sub [] (lv' := []) rfl ?_
      exact t_X11_fits_b55 h0  _ _
theorem C_X11_fits {X : Scr} {i0 : Nat} (h0 : KD[i0]? = some (.inl 11)) (x1 : Int32) {M : Mem} {r : Int32} {M' : Mem} (h : X11_fits i0 x1 M = some (r, M')) : Ct X md_X11_fits [.ref i0, .int x1] M (eI r) M' := Ct_of (by decide +kernel) (Nat.le_of_ble_eq_true rfl) (t_X11_fits h0 _ M) r M' h
-- X11_ask
def X11_ask_b51 (i0 : Nat)  (s0 : Int32) (M : Mem) : Option (Int32 × Mem) :=
  some (s0, M)
def X11_ask (i0 : Nat)  (x1 : Int32) (M : Mem) : Option (Int32 × Mem) :=
  (X11_isWithin  x1 (0 : Int32) (1 : Int32) M).bind (fun p1 =>
    if p1.1 = 0 then
      some ((-2 : Int32), p1.2)
    else
      (X5_gather (rf i0 9) (rf i0 1)  p1.2).bind (fun p2 =>
        (X5_chooseDay (rf i0 9)  p2.2).bind (fun p3 =>
          if x1 = 0 then
            X11_ask_b51 i0  (p3.2.1 (rf i0 9) 3) p3.2
          else
            X11_ask_b51 i0  (p3.2.1 (rf i0 9) 4) p3.2)))
set_option maxHeartbeats 4000000 in
set_option maxRecDepth 100000 in
theorem t_X11_ask_b51 {X : Scr} {i0 : Nat} (h0 : KD[i0]? = some (.inl 11)) (s0 : Int32) (M : Mem) : T X eI (X11_ask_b51 i0  s0 M) md_X11_ask 51 [] [.int s0] M := by
  unfold X11_ask_b51
  exact T_iret dX11_ask_51 rfl
set_option maxHeartbeats 4000000 in
set_option maxRecDepth 100000 in
theorem t_X11_ask {X : Scr} {i0 : Nat} (h0 : KD[i0]? = some (.inl 11)) (x1 : Int32) (M : Mem) : T X eI (X11_ask i0  x1 M) md_X11_ask 0 [(0, .ref i0), (1, .int x1)] [] M := by
  unfold X11_ask
  refine T_iload_n 1 dX11_ask_0 rfl rfl ?_
  refine T_iconst (v := (0 : Int32)) (by decide) dX11_ask_1 ?_
  refine T_iconst (v := (1 : Int32)) (by decide) dX11_ask_2 ?_
  refine T_callSI md_X11_isWithin [.int x1, .int (0 : Int32), .int (1 : Int32)] [] dX11_ask_3 rfl ok_X11_isWithin tb_361 tb_362 (by decide) (Nat.le_of_ble_eq_true rfl) (fun _ _ h9 => C_X11_isWithin  _ _ _ h9) (fun r1 M1 => ?_)
  dsimp only
  refine T_if_ne 12 dX11_ask_6 (by decide) ?_ ?_
  ·
    refine T_bipush (v := (-2 : Int32)) (by decide) dX11_ask_9 ?_
    exact T_iret dX11_ask_11 rfl
  ·
    refine T_aload_n 0 dX11_ask_12 rfl rfl ?_
    refine T_getR 9 FOk_11 h0 (by decide) (by decide) dX11_ask_13 tb_326 ?_
    refine T_aload_n 0 dX11_ask_16 rfl rfl ?_
    refine T_getR 1 FOk_11 h0 (by decide) (by decide) dX11_ask_17 tb_318 ?_
    refine T_callVU md_X5_gather [.ref (rf i0 1)] [] dX11_ask_20 (kf_11_9 h0) rfl rfl ok_X5_gather tb_604 tb_605 tb_606 (by decide) (Nat.le_of_ble_eq_true rfl) (fun _ _ h9 => C_X5_gather (kf_11_9 h0) (kf_11_1 h0)  h9) (fun r2 M2 => ?_)
    dsimp only
    refine T_aload_n 0 dX11_ask_23 rfl rfl ?_
    refine T_getR 9 FOk_11 h0 (by decide) (by decide) dX11_ask_24 tb_326 ?_
    refine T_callVU md_X5_chooseDay [] [] dX11_ask_27 (kf_11_9 h0) rfl rfl ok_X5_chooseDay tb_618 tb_619 tb_620 (by decide) (Nat.le_of_ble_eq_true rfl) (fun _ _ h9 => C_X5_chooseDay (kf_11_9 h0)  h9) (fun r3 M3 => ?_)
    dsimp only
    refine T_iload_n 1 dX11_ask_30 rfl rfl ?_
    refine T_if_ne 44 dX11_ask_31 (by decide) ?_ ?_
    ·
      refine T_aload_n 0 dX11_ask_34 rfl rfl ?_
      refine T_getR 9 FOk_11 h0 (by decide) (by decide) dX11_ask_35 tb_326 ?_
      refine T_getI 3 FOk_5 (kf_11_9 h0) (by decide) (by decide) dX11_ask_38 tb_278 ?_
      refine T_goto 51 dX11_ask_41 (by decide) ?_
      refine T_sub [] (lv' := []) rfl ?_
      exact t_X11_ask_b51 h0  _ _
    ·
      refine T_aload_n 0 dX11_ask_44 rfl rfl ?_
      refine T_getR 9 FOk_11 h0 (by decide) (by decide) dX11_ask_45 tb_326 ?_
      refine T_getI 4 FOk_5 (kf_11_9 h0) (by decide) (by decide) dX11_ask_48 tb_280 ?_
      refine T_sub [] (lv' := []) rfl ?_
      exact t_X11_ask_b51 h0  _ _
theorem C_X11_ask {X : Scr} {i0 : Nat} (h0 : KD[i0]? = some (.inl 11)) (x1 : Int32) {M : Mem} {r : Int32} {M' : Mem} (h : X11_ask i0 x1 M = some (r, M')) : Ct X md_X11_ask [.ref i0, .int x1] M (eI r) M' := Ct_of (by decide +kernel) (Nat.le_of_ble_eq_true rfl) (t_X11_ask h0 _ M) r M' h
-- X11_piles
def X11_piles_b29 (i0 : Nat)   (M : Mem) : Option (Int32 × Mem) :=
  some ((-2 : Int32), M)
def X11_piles_b64 (i0 : Nat)  (s0 : Int32) (M : Mem) : Option (Int32 × Mem) :=
  some (s0, M)
def X11_piles (i0 : Nat)  (x1 : Int32) (x2 : Int32) (x3 : Int32) (M : Mem) : Option (Int32 × Mem) :=
  (X11_isWithin  x1 (0 : Int32) (20 : Int32) M).bind (fun p1 =>
    if p1.1 = 0 then
      X11_piles_b29 i0   p1.2
    else
      (X11_isWithin  x2 (0 : Int32) (20 : Int32) p1.2).bind (fun p2 =>
        if p2.1 = 0 then
          X11_piles_b29 i0   p2.2
        else
          (X11_isWithin  x3 (0 : Int32) (1 : Int32) p2.2).bind (fun p3 =>
            if p3.1 = 0 then
              X11_piles_b29 i0   p3.2
            else
              if x3 = (1 : Int32) then
                (X10_winningTake (rf i0 10) x1 x2 p3.2).bind (fun p4 =>
                  some (p4.1, p4.2))
              else
                (X10_isLost (rf i0 10) x1 x2 p3.2).bind (fun p5 =>
                  if p5.1 = 0 then
                    X11_piles_b64 i0  (1 : Int32) p5.2
                  else
                    X11_piles_b64 i0  (0 : Int32) p5.2))))
set_option maxHeartbeats 4000000 in
set_option maxRecDepth 100000 in
theorem t_X11_piles_b29 {X : Scr} {i0 : Nat} (h0 : KD[i0]? = some (.inl 11))  (M : Mem) : T X eI (X11_piles_b29 i0   M) md_X11_piles 29 [] [] M := by
  unfold X11_piles_b29
  refine T_bipush (v := (-2 : Int32)) (by decide) dX11_piles_29 ?_
  exact T_iret dX11_piles_31 rfl
set_option maxHeartbeats 4000000 in
set_option maxRecDepth 100000 in
theorem t_X11_piles_b64 {X : Scr} {i0 : Nat} (h0 : KD[i0]? = some (.inl 11)) (s0 : Int32) (M : Mem) : T X eI (X11_piles_b64 i0  s0 M) md_X11_piles 64 [] [.int s0] M := by
  unfold X11_piles_b64
  exact T_iret dX11_piles_64 rfl
set_option maxHeartbeats 4000000 in
set_option maxRecDepth 100000 in
theorem t_X11_piles {X : Scr} {i0 : Nat} (h0 : KD[i0]? = some (.inl 11)) (x1 : Int32) (x2 : Int32) (x3 : Int32) (M : Mem) : T X eI (X11_piles i0  x1 x2 x3 M) md_X11_piles 0 [(0, .ref i0), (1, .int x1), (2, .int x2), (3, .int x3)] [] M := by
  unfold X11_piles
  refine T_iload_n 1 dX11_piles_0 rfl rfl ?_
  refine T_iconst (v := (0 : Int32)) (by decide) dX11_piles_1 ?_
  refine T_bipush (v := (20 : Int32)) (by decide) dX11_piles_2 ?_
  refine T_callSI md_X11_isWithin [.int x1, .int (0 : Int32), .int (20 : Int32)] [] dX11_piles_4 rfl ok_X11_isWithin tb_361 tb_362 (by decide) (Nat.le_of_ble_eq_true rfl) (fun _ _ h9 => C_X11_isWithin  _ _ _ h9) (fun r1 M1 => ?_)
  dsimp only
  refine T_if_eq 29 dX11_piles_7 (by decide) ?_ ?_
  ·
    refine T_sub [] (lv' := []) rfl ?_
    exact t_X11_piles_b29 h0   _
  ·
    refine T_iload_n 2 dX11_piles_10 rfl rfl ?_
    refine T_iconst (v := (0 : Int32)) (by decide) dX11_piles_11 ?_
    refine T_bipush (v := (20 : Int32)) (by decide) dX11_piles_12 ?_
    refine T_callSI md_X11_isWithin [.int x2, .int (0 : Int32), .int (20 : Int32)] [] dX11_piles_14 rfl ok_X11_isWithin tb_361 tb_362 (by decide) (Nat.le_of_ble_eq_true rfl) (fun _ _ h9 => C_X11_isWithin  _ _ _ h9) (fun r2 M2 => ?_)
    dsimp only
    refine T_if_eq 29 dX11_piles_17 (by decide) ?_ ?_
    ·
      refine T_sub [] (lv' := []) rfl ?_
      exact t_X11_piles_b29 h0   _
    ·
      refine T_iload_n 3 dX11_piles_20 rfl rfl ?_
      refine T_iconst (v := (0 : Int32)) (by decide) dX11_piles_21 ?_
      refine T_iconst (v := (1 : Int32)) (by decide) dX11_piles_22 ?_
      refine T_callSI md_X11_isWithin [.int x3, .int (0 : Int32), .int (1 : Int32)] [] dX11_piles_23 rfl ok_X11_isWithin tb_361 tb_362 (by decide) (Nat.le_of_ble_eq_true rfl) (fun _ _ h9 => C_X11_isWithin  _ _ _ h9) (fun r3 M3 => ?_)
      dsimp only
      refine T_if_ne 32 dX11_piles_26 (by decide) ?_ ?_
      ·
        refine T_sub [] (lv' := []) rfl ?_
        exact t_X11_piles_b29 h0   _
      ·
        refine T_iload_n 3 dX11_piles_32 rfl rfl ?_
        refine T_iconst (v := (1 : Int32)) (by decide) dX11_piles_33 ?_
        refine T_icmp_ne 47 dX11_piles_34 (by decide) ?_ ?_
        ·
          refine T_aload_n 0 dX11_piles_37 rfl rfl ?_
          refine T_getR 10 FOk_11 h0 (by decide) (by decide) dX11_piles_38 tb_327 ?_
          refine T_iload_n 1 dX11_piles_41 rfl rfl ?_
          refine T_iload_n 2 dX11_piles_42 rfl rfl ?_
          refine T_callVI md_X10_winningTake [.int x1, .int x2] [] dX11_piles_43 (kf_11_10 h0) rfl rfl ok_X10_winningTake tb_631 tb_632 tb_633 (by decide) (Nat.le_of_ble_eq_true rfl) (fun _ _ h9 => C_X10_winningTake (kf_11_10 h0) _ _ h9) (fun r4 M4 => ?_)
          dsimp only
          exact T_iret dX11_piles_46 rfl
        ·
          refine T_aload_n 0 dX11_piles_47 rfl rfl ?_
          refine T_getR 10 FOk_11 h0 (by decide) (by decide) dX11_piles_48 tb_327 ?_
          refine T_iload_n 1 dX11_piles_51 rfl rfl ?_
          refine T_iload_n 2 dX11_piles_52 rfl rfl ?_
          refine T_callVI md_X10_isLost [.int x1, .int x2] [] dX11_piles_53 (kf_11_10 h0) rfl rfl ok_X10_isLost tb_635 tb_636 tb_637 (by decide) (Nat.le_of_ble_eq_true rfl) (fun _ _ h9 => C_X10_isLost (kf_11_10 h0) _ _ h9) (fun r5 M5 => ?_)
          dsimp only
          refine T_if_eq 63 dX11_piles_56 (by decide) ?_ ?_
          ·
            refine T_iconst (v := (1 : Int32)) (by decide) dX11_piles_63 ?_
            refine T_sub [] (lv' := []) rfl ?_
            exact t_X11_piles_b64 h0  _ _
          ·
            refine T_iconst (v := (0 : Int32)) (by decide) dX11_piles_59 ?_
            refine T_goto 64 dX11_piles_60 (by decide) ?_
            refine T_sub [] (lv' := []) rfl ?_
            exact t_X11_piles_b64 h0  _ _
theorem C_X11_piles {X : Scr} {i0 : Nat} (h0 : KD[i0]? = some (.inl 11)) (x1 : Int32) (x2 : Int32) (x3 : Int32) {M : Mem} {r : Int32} {M' : Mem} (h : X11_piles i0 x1 x2 x3 M = some (r, M')) : Ct X md_X11_piles [.ref i0, .int x1, .int x2, .int x3] M (eI r) M' := Ct_of (by decide +kernel) (Nat.le_of_ble_eq_true rfl) (t_X11_piles h0 _ _ _ M) r M' h
-- X11_greatestDivisor
def X11_greatestDivisor_b44   (x4 : Int64) (M : Mem) : Option (Int64 × Mem) :=
  some (x4, M)
def X11_greatestDivisor_b9  (k9 : Int64 → Int64 → Int32 → Mem → Option (Int64 × Mem)) (x4 : Int64) (x6 : Int64) (x8 : Int32) (M : Mem) : Option (Int64 × Mem) :=
  if (100 : Int32) ≤ x8 then
    X11_greatestDivisor_b44   x4 M
  else
    if (lg_cmp x6 (0 : Int64)) = 0 then
      X11_greatestDivisor_b44   x4 M
    else
      gd (!(x6 == 0)) (
        k9 x6 (x4 - x4 / x6 * x6) (x8 + (1 : Int32)) M)
def X11_greatestDivisor_l9   : Nat → Int64 → Int64 → Int32 → Mem → Option (Int64 × Mem)
  | 0 => fun _ _ _ _ => none
  | n + 1 => X11_greatestDivisor_b9  (X11_greatestDivisor_l9   n)
def X11_greatestDivisor   (x0 : Int64) (x2 : Int64) (M : Mem) : Option (Int64 × Mem) :=
  X11_greatestDivisor_l9   FU x0 x2 (0 : Int32) M
set_option maxHeartbeats 4000000 in
set_option maxRecDepth 100000 in
theorem t_X11_greatestDivisor_b44 {X : Scr}   (x4 : Int64) (M : Mem) : T X eL (X11_greatestDivisor_b44   x4 M) md_X11_greatestDivisor 44 [(4, .long x4)] [] M := by
  unfold X11_greatestDivisor_b44
  refine T_lload 0 dX11_greatestDivisor_44 rfl ?_
  exact T_lret dX11_greatestDivisor_46 rfl
set_option maxHeartbeats 4000000 in
set_option maxRecDepth 100000 in
theorem t_X11_greatestDivisor_b9 {X : Scr}   {k9 : Int64 → Int64 → Int32 → Mem → Option (Int64 × Mem)} (hk9 : ∀ (x4 : Int64) (x6 : Int64) (x8 : Int32) (M : Mem), T X eL (k9 x4 x6 x8 M) md_X11_greatestDivisor 9 [(4, .long x4), (6, .long x6), (8, .int x8)] [] M) (x4 : Int64) (x6 : Int64) (x8 : Int32) (M : Mem) : T X eL (X11_greatestDivisor_b9  k9 x4 x6 x8 M) md_X11_greatestDivisor 9 [(4, .long x4), (6, .long x6), (8, .int x8)] [] M := by
  unfold X11_greatestDivisor_b9
  refine T_iload 2 dX11_greatestDivisor_9 rfl ?_
  refine T_bipush (v := (100 : Int32)) (by decide) dX11_greatestDivisor_11 ?_
  refine T_icmp_ge 44 dX11_greatestDivisor_13 (by decide) ?_ ?_
  ·
    refine T_sub [0] (lv' := [(4, .long x4)]) rfl ?_
    exact t_X11_greatestDivisor_b44   _ _
  ·
    refine T_lload 1 dX11_greatestDivisor_16 rfl ?_
    refine T_lconst (v := (0 : Int64)) (by decide) dX11_greatestDivisor_18 ?_
    refine T_lcmp dX11_greatestDivisor_19 ?_
    refine T_if_eq 44 dX11_greatestDivisor_20 (by decide) ?_ ?_
    ·
      refine T_sub [0] (lv' := [(4, .long x4)]) rfl ?_
      exact t_X11_greatestDivisor_b44   _ _
    ·
      refine T_lload 0 dX11_greatestDivisor_23 rfl ?_
      refine T_lload 1 dX11_greatestDivisor_25 rfl ?_
      refine T_lrem dX11_greatestDivisor_27 ?_
      refine T_lstore [(9, .long (x4 - x4 / x6 * x6)), (4, .long x4), (6, .long x6), (8, .int x8)] dX11_greatestDivisor_28 (by decide) rfl ?_
      refine T_lload 2 dX11_greatestDivisor_30 rfl ?_
      refine T_lstore [(4, .long x6), (9, .long (x4 - x4 / x6 * x6)), (6, .long x6), (8, .int x8)] dX11_greatestDivisor_32 (by decide) rfl ?_
      refine T_lload 1 dX11_greatestDivisor_34 rfl ?_
      refine T_lstore [(6, .long (x4 - x4 / x6 * x6)), (4, .long x6), (9, .long (x4 - x4 / x6 * x6)), (8, .int x8)] dX11_greatestDivisor_36 (by decide) rfl ?_
      refine T_iinc 3 [(8, .int (x8 + (1 : Int32))), (6, .long (x4 - x4 / x6 * x6)), (4, .long x6), (9, .long (x4 - x4 / x6 * x6))] (v := (1 : Int32)) dX11_greatestDivisor_38 rfl (by decide) (by decide) rfl ?_
      refine T_goto 9 dX11_greatestDivisor_41 (by decide) ?_
      refine T_sub [2, 1, 0] (lv' := [(4, .long x6), (6, .long (x4 - x4 / x6 * x6)), (8, .int (x8 + (1 : Int32)))]) rfl ?_
      exact hk9 _ _ _ _
theorem t_X11_greatestDivisor_l9 {X : Scr}   (n : Nat) : ∀ (x4 : Int64) (x6 : Int64) (x8 : Int32) (M : Mem), T X eL (X11_greatestDivisor_l9   n x4 x6 x8 M) md_X11_greatestDivisor 9 [(4, .long x4), (6, .long x6), (8, .int x8)] [] M := by
  induction n with
  | zero => intro x4 x6 x8 M; exact T_none
  | succ n ih => intro x4 x6 x8 M; exact t_X11_greatestDivisor_b9  ih x4 x6 x8 M
set_option maxHeartbeats 4000000 in
set_option maxRecDepth 100000 in
theorem t_X11_greatestDivisor {X : Scr}   (x0 : Int64) (x2 : Int64) (M : Mem) : T X eL (X11_greatestDivisor   x0 x2 M) md_X11_greatestDivisor 0 [(0, .long x0), (2, .long x2)] [] M := by
  unfold X11_greatestDivisor
  refine T_lload_n 0 dX11_greatestDivisor_0 rfl rfl ?_
  refine T_lstore [(4, .long x0), (0, .long x0), (2, .long x2)] dX11_greatestDivisor_1 (by decide) rfl ?_
  refine T_lload_n 2 dX11_greatestDivisor_3 rfl rfl ?_
  refine T_lstore [(6, .long x2), (4, .long x0), (0, .long x0), (2, .long x2)] dX11_greatestDivisor_4 (by decide) rfl ?_
  refine T_iconst (v := (0 : Int32)) (by decide) dX11_greatestDivisor_6 ?_
  refine T_istore [(8, .int (0 : Int32)), (6, .long x2), (4, .long x0), (0, .long x0), (2, .long x2)] dX11_greatestDivisor_7 (by decide) rfl ?_
  refine T_sub [2, 1, 0] (lv' := [(4, .long x0), (6, .long x2), (8, .int (0 : Int32))]) rfl ?_
  exact t_X11_greatestDivisor_l9   _ _ _ _ _
theorem C_X11_greatestDivisor {X : Scr}   (x0 : Int64) (x2 : Int64) {M : Mem} {r : Int64} {M' : Mem} (h : X11_greatestDivisor  x0 x2 M = some (r, M')) : Ct X md_X11_greatestDivisor [.long x0, .long x2] M (eL r) M' := Ct_of (by decide +kernel) (Nat.le_of_ble_eq_true rfl) (t_X11_greatestDivisor  _ _ M) r M' h
-- J9_max_f86c9
def J9_max_f86c9_b11   (s0 : Int64) (M : Mem) : Option (Int64 × Mem) :=
  some (s0, M)
def J9_max_f86c9   (x0 : Int64) (x2 : Int64) (M : Mem) : Option (Int64 × Mem) :=
  if (lg_cmp x0 x2) < 0 then
    J9_max_f86c9_b11   x2 M
  else
    J9_max_f86c9_b11   x0 M
set_option maxHeartbeats 4000000 in
set_option maxRecDepth 100000 in
theorem t_J9_max_f86c9_b11 {X : Scr}   (s0 : Int64) (M : Mem) : T X eL (J9_max_f86c9_b11   s0 M) md_J9_max_f86c9 11 [] [.long s0] M := by
  unfold J9_max_f86c9_b11
  exact T_lret dJ9_max_f86c9_11 rfl
set_option maxHeartbeats 4000000 in
set_option maxRecDepth 100000 in
theorem t_J9_max_f86c9 {X : Scr}   (x0 : Int64) (x2 : Int64) (M : Mem) : T X eL (J9_max_f86c9   x0 x2 M) md_J9_max_f86c9 0 [(0, .long x0), (2, .long x2)] [] M := by
  unfold J9_max_f86c9
  refine T_lload_n 0 dJ9_max_f86c9_0 rfl rfl ?_
  refine T_lload_n 1 dJ9_max_f86c9_1 rfl rfl ?_
  refine T_lcmp dJ9_max_f86c9_2 ?_
  refine T_if_lt 10 dJ9_max_f86c9_3 (by decide) ?_ ?_
  ·
    refine T_lload_n 1 dJ9_max_f86c9_10 rfl rfl ?_
    refine T_sub [] (lv' := []) rfl ?_
    exact t_J9_max_f86c9_b11   _ _
  ·
    refine T_lload_n 0 dJ9_max_f86c9_6 rfl rfl ?_
    refine T_goto 11 dJ9_max_f86c9_7 (by decide) ?_
    refine T_sub [] (lv' := []) rfl ?_
    exact t_J9_max_f86c9_b11   _ _
theorem C_J9_max_f86c9 {X : Scr}   (x0 : Int64) (x2 : Int64) {M : Mem} {r : Int64} {M' : Mem} (h : J9_max_f86c9  x0 x2 M = some (r, M')) : Ct X md_J9_max_f86c9 [.long x0, .long x2] M (eL r) M' := Ct_of (by decide +kernel) (Nat.le_of_ble_eq_true rfl) (t_J9_max_f86c9  _ _ M) r M' h
-- X11_lengths
def X11_lengths_b50 (i0 : Nat)   (M : Mem) : Option (Int64 × Mem) :=
  some ((-1000000000000000002 : Int64), M)
def X11_lengths_b124 (i0 : Nat)  (x8 : Int64) (s0 : Int64) (M : Mem) : Option (Int64 × Mem) :=
  gd (!(x8 == 0)) (
    some ((s0 / x8), M))
def X11_lengths_b87 (i0 : Nat)  (x5 : Int32) (s0 : Int64) (M : Mem) : Option (Int64 × Mem) :=
  (X11_greatestDivisor  s0 (M.2 (rf i0 11) 1) M).bind (fun p1 =>
    (J9_max_f86c9  (1 : Int64) p1.1 p1.2).bind (fun p2 =>
      if x5 = 0 then
        X11_lengths_b124 i0  p2.1 s0 p2.2
      else
        X11_lengths_b124 i0  p2.1 (p2.2.2 (rf i0 11) 1) p2.2))
def X11_lengths (i0 : Nat)  (x1 : Int32) (x2 : Int32) (x3 : Int32) (x4 : Int32) (x5 : Int32) (M : Mem) : Option (Int64 × Mem) :=
  (X11_isWithin  x1 (0 : Int32) (12 : Int32) M).bind (fun p1 =>
    if p1.1 = 0 then
      X11_lengths_b50 i0   p1.2
    else
      (X11_isWithin  x2 (0 : Int32) (12 : Int32) p1.2).bind (fun p2 =>
        if p2.1 = 0 then
          X11_lengths_b50 i0   p2.2
        else
          (X11_isWithin  x3 (0 : Int32) (10 : Int32) p2.2).bind (fun p3 =>
            if p3.1 = 0 then
              X11_lengths_b50 i0   p3.2
            else
              (X11_isWithin  x4 (0 : Int32) (1 : Int32) p3.2).bind (fun p4 =>
                if p4.1 = 0 then
                  X11_lengths_b50 i0   p4.2
                else
                  (X11_isWithin  x5 (0 : Int32) (1 : Int32) p4.2).bind (fun p5 =>
                    if p5.1 = 0 then
                      X11_lengths_b50 i0   p5.2
                    else
                      (X9_spread (rf i0 11) x2 x3 p5.2).bind (fun p6 =>
                        if x4 = 0 then
                          (X9_waysToReach (rf i0 11) x1 p6.2).bind (fun p7 =>
                            X11_lengths_b87 i0  x5 p7.1 p7.2)
                        else
                          (X9_lengthsUpTo (rf i0 11) x1 p6.2).bind (fun p8 =>
                            X11_lengths_b87 i0  x5 p8.1 p8.2)))))))
set_option maxHeartbeats 4000000 in
set_option maxRecDepth 100000 in
theorem t_X11_lengths_b50 {X : Scr} {i0 : Nat} (h0 : KD[i0]? = some (.inl 11))  (M : Mem) : T X eL (X11_lengths_b50 i0   M) md_X11_lengths 50 [] [] M := by
  unfold X11_lengths_b50
  refine T_ldc2 (v := (-1000000000000000002 : Int64)) dX11_lengths_50 tb_643 ?_
  exact T_lret dX11_lengths_53 rfl
set_option maxHeartbeats 4000000 in
set_option maxRecDepth 100000 in
theorem t_X11_lengths_b124 {X : Scr} {i0 : Nat} (h0 : KD[i0]? = some (.inl 11)) (x8 : Int64) (s0 : Int64) (M : Mem) : T X eL (X11_lengths_b124 i0  x8 s0 M) md_X11_lengths 124 [(8, .long x8)] [.long s0] M := by
  unfold X11_lengths_b124
  refine T_lload 0 dX11_lengths_124 rfl ?_
  refine T_ldiv dX11_lengths_126 ?_
  exact T_lret dX11_lengths_127 rfl
set_option maxHeartbeats 4000000 in
set_option maxRecDepth 100000 in
theorem t_X11_lengths_b87 {X : Scr} {i0 : Nat} (h0 : KD[i0]? = some (.inl 11)) (x5 : Int32) (s0 : Int64) (M : Mem) : T X eL (X11_lengths_b87 i0  x5 s0 M) md_X11_lengths 87 [(0, .ref i0), (5, .int x5)] [.long s0] M := by
  unfold X11_lengths_b87
  refine T_lstore [(6, .long s0), (0, .ref i0), (5, .int x5)] dX11_lengths_87 (by decide) rfl ?_
  refine T_lconst (v := (1 : Int64)) (by decide) dX11_lengths_89 ?_
  refine T_lload 0 dX11_lengths_90 rfl ?_
  refine T_aload_n 1 dX11_lengths_92 rfl rfl ?_
  refine T_getR 11 FOk_11 h0 (by decide) (by decide) dX11_lengths_93 tb_328 ?_
  refine T_getL 1 FOk_9 (kf_11_11 h0) (by decide) (by decide) dX11_lengths_96 tb_310 ?_
  refine T_callSL md_X11_greatestDivisor [.long s0, .long (M.2 (rf i0 11) 1)] [.long (1 : Int64)] dX11_lengths_99 rfl ok_X11_greatestDivisor tb_658 tb_659 (by decide) (Nat.le_of_ble_eq_true rfl) (fun _ _ h9 => C_X11_greatestDivisor  _ _ h9) (fun r1 M1 => ?_)
  dsimp only
  refine T_callSL md_J9_max_f86c9 [.long (1 : Int64), .long r1] [] dX11_lengths_102 rfl ok_J9_max_f86c9 tb_661 tb_662 (by decide) (Nat.le_of_ble_eq_true rfl) (fun _ _ h9 => C_J9_max_f86c9  _ _ h9) (fun r2 M2 => ?_)
  dsimp only
  refine T_lstore [(8, .long r2), (6, .long s0), (0, .ref i0), (5, .int x5)] dX11_lengths_105 (by decide) rfl ?_
  refine T_iload 3 dX11_lengths_107 rfl ?_
  refine T_if_ne 117 dX11_lengths_109 (by decide) ?_ ?_
  ·
    refine T_lload 1 dX11_lengths_112 rfl ?_
    refine T_goto 124 dX11_lengths_114 (by decide) ?_
    refine T_sub [0] (lv' := [(8, .long r2)]) rfl ?_
    exact t_X11_lengths_b124 h0  _ _ _
  ·
    refine T_aload_n 2 dX11_lengths_117 rfl rfl ?_
    refine T_getR 11 FOk_11 h0 (by decide) (by decide) dX11_lengths_118 tb_328 ?_
    refine T_getL 1 FOk_9 (kf_11_11 h0) (by decide) (by decide) dX11_lengths_121 tb_310 ?_
    refine T_sub [0] (lv' := [(8, .long r2)]) rfl ?_
    exact t_X11_lengths_b124 h0  _ _ _
set_option maxHeartbeats 4000000 in
set_option maxRecDepth 100000 in
theorem t_X11_lengths {X : Scr} {i0 : Nat} (h0 : KD[i0]? = some (.inl 11)) (x1 : Int32) (x2 : Int32) (x3 : Int32) (x4 : Int32) (x5 : Int32) (M : Mem) : T X eL (X11_lengths i0  x1 x2 x3 x4 x5 M) md_X11_lengths 0 [(0, .ref i0), (1, .int x1), (2, .int x2), (3, .int x3), (4, .int x4), (5, .int x5)] [] M := by
  unfold X11_lengths
  refine T_iload_n 1 dX11_lengths_0 rfl rfl ?_
  refine T_iconst (v := (0 : Int32)) (by decide) dX11_lengths_1 ?_
  refine T_bipush (v := (12 : Int32)) (by decide) dX11_lengths_2 ?_
  refine T_callSI md_X11_isWithin [.int x1, .int (0 : Int32), .int (12 : Int32)] [] dX11_lengths_4 rfl ok_X11_isWithin tb_361 tb_362 (by decide) (Nat.le_of_ble_eq_true rfl) (fun _ _ h9 => C_X11_isWithin  _ _ _ h9) (fun r1 M1 => ?_)
  dsimp only
  refine T_if_eq 50 dX11_lengths_7 (by decide) ?_ ?_
  ·
    refine T_sub [] (lv' := []) rfl ?_
    exact t_X11_lengths_b50 h0   _
  ·
    refine T_iload_n 2 dX11_lengths_10 rfl rfl ?_
    refine T_iconst (v := (0 : Int32)) (by decide) dX11_lengths_11 ?_
    refine T_bipush (v := (12 : Int32)) (by decide) dX11_lengths_12 ?_
    refine T_callSI md_X11_isWithin [.int x2, .int (0 : Int32), .int (12 : Int32)] [] dX11_lengths_14 rfl ok_X11_isWithin tb_361 tb_362 (by decide) (Nat.le_of_ble_eq_true rfl) (fun _ _ h9 => C_X11_isWithin  _ _ _ h9) (fun r2 M2 => ?_)
    dsimp only
    refine T_if_eq 50 dX11_lengths_17 (by decide) ?_ ?_
    ·
      refine T_sub [] (lv' := []) rfl ?_
      exact t_X11_lengths_b50 h0   _
    ·
      refine T_iload_n 3 dX11_lengths_20 rfl rfl ?_
      refine T_iconst (v := (0 : Int32)) (by decide) dX11_lengths_21 ?_
      refine T_bipush (v := (10 : Int32)) (by decide) dX11_lengths_22 ?_
      refine T_callSI md_X11_isWithin [.int x3, .int (0 : Int32), .int (10 : Int32)] [] dX11_lengths_24 rfl ok_X11_isWithin tb_361 tb_362 (by decide) (Nat.le_of_ble_eq_true rfl) (fun _ _ h9 => C_X11_isWithin  _ _ _ h9) (fun r3 M3 => ?_)
      dsimp only
      refine T_if_eq 50 dX11_lengths_27 (by decide) ?_ ?_
      ·
        refine T_sub [] (lv' := []) rfl ?_
        exact t_X11_lengths_b50 h0   _
      ·
        refine T_iload 4 dX11_lengths_30 rfl ?_
        refine T_iconst (v := (0 : Int32)) (by decide) dX11_lengths_32 ?_
        refine T_iconst (v := (1 : Int32)) (by decide) dX11_lengths_33 ?_
        refine T_callSI md_X11_isWithin [.int x4, .int (0 : Int32), .int (1 : Int32)] [] dX11_lengths_34 rfl ok_X11_isWithin tb_361 tb_362 (by decide) (Nat.le_of_ble_eq_true rfl) (fun _ _ h9 => C_X11_isWithin  _ _ _ h9) (fun r4 M4 => ?_)
        dsimp only
        refine T_if_eq 50 dX11_lengths_37 (by decide) ?_ ?_
        ·
          refine T_sub [] (lv' := []) rfl ?_
          exact t_X11_lengths_b50 h0   _
        ·
          refine T_iload 5 dX11_lengths_40 rfl ?_
          refine T_iconst (v := (0 : Int32)) (by decide) dX11_lengths_42 ?_
          refine T_iconst (v := (1 : Int32)) (by decide) dX11_lengths_43 ?_
          refine T_callSI md_X11_isWithin [.int x5, .int (0 : Int32), .int (1 : Int32)] [] dX11_lengths_44 rfl ok_X11_isWithin tb_361 tb_362 (by decide) (Nat.le_of_ble_eq_true rfl) (fun _ _ h9 => C_X11_isWithin  _ _ _ h9) (fun r5 M5 => ?_)
          dsimp only
          refine T_if_ne 54 dX11_lengths_47 (by decide) ?_ ?_
          ·
            refine T_sub [] (lv' := []) rfl ?_
            exact t_X11_lengths_b50 h0   _
          ·
            refine T_aload_n 0 dX11_lengths_54 rfl rfl ?_
            refine T_getR 11 FOk_11 h0 (by decide) (by decide) dX11_lengths_55 tb_328 ?_
            refine T_iload_n 2 dX11_lengths_58 rfl rfl ?_
            refine T_iload_n 3 dX11_lengths_59 rfl rfl ?_
            refine T_callVU md_X9_spread [.int x2, .int x3] [] dX11_lengths_60 (kf_11_11 h0) rfl rfl ok_X9_spread tb_644 tb_645 tb_646 (by decide) (Nat.le_of_ble_eq_true rfl) (fun _ _ h9 => C_X9_spread (kf_11_11 h0) _ _ h9) (fun r6 M6 => ?_)
            dsimp only
            refine T_iload 4 dX11_lengths_63 rfl ?_
            refine T_if_ne 79 dX11_lengths_65 (by decide) ?_ ?_
            ·
              refine T_aload_n 0 dX11_lengths_68 rfl rfl ?_
              refine T_getR 11 FOk_11 h0 (by decide) (by decide) dX11_lengths_69 tb_328 ?_
              refine T_iload_n 1 dX11_lengths_72 rfl rfl ?_
              refine T_callVL md_X9_waysToReach [.int x1] [] dX11_lengths_73 (kf_11_11 h0) rfl rfl ok_X9_waysToReach tb_649 tb_650 tb_651 (by decide) (Nat.le_of_ble_eq_true rfl) (fun _ _ h9 => C_X9_waysToReach (kf_11_11 h0) _ h9) (fun r7 M7 => ?_)
              dsimp only
              refine T_goto 87 dX11_lengths_76 (by decide) ?_
              refine T_sub [0, 5] (lv' := [(0, .ref i0), (5, .int x5)]) rfl ?_
              exact t_X11_lengths_b87 h0  _ _ _
            ·
              refine T_aload_n 0 dX11_lengths_79 rfl rfl ?_
              refine T_getR 11 FOk_11 h0 (by decide) (by decide) dX11_lengths_80 tb_328 ?_
              refine T_iload_n 1 dX11_lengths_83 rfl rfl ?_
              refine T_callVL md_X9_lengthsUpTo [.int x1] [] dX11_lengths_84 (kf_11_11 h0) rfl rfl ok_X9_lengthsUpTo tb_653 tb_654 tb_655 (by decide) (Nat.le_of_ble_eq_true rfl) (fun _ _ h9 => C_X9_lengthsUpTo (kf_11_11 h0) _ h9) (fun r8 M8 => ?_)
              dsimp only
              refine T_sub [0, 5] (lv' := [(0, .ref i0), (5, .int x5)]) rfl ?_
              exact t_X11_lengths_b87 h0  _ _ _
theorem C_X11_lengths {X : Scr} {i0 : Nat} (h0 : KD[i0]? = some (.inl 11)) (x1 : Int32) (x2 : Int32) (x3 : Int32) (x4 : Int32) (x5 : Int32) {M : Mem} {r : Int64} {M' : Mem} (h : X11_lengths i0 x1 x2 x3 x4 x5 M = some (r, M')) : Ct X md_X11_lengths [.ref i0, .int x1, .int x2, .int x3, .int x4, .int x5] M (eL r) M' := Ct_of (by decide +kernel) (Nat.le_of_ble_eq_true rfl) (t_X11_lengths h0 _ _ _ _ _ M) r M' h
