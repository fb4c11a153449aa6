-- X2_playAct
def X2_playAct_b93 (i0 : Nat)  (x1 : Int32) (x2 : Int32) (M : Mem) : Option (Unit × Mem) :=
  (X0_perform (rf i0 0) x1 x2 M).bind (fun p1 =>
    mw (mI p1.2 i0 1 ((p1.2.1 i0 1) + (1 : Int32))) (fun N2 =>
      some ((), N2)))
def X2_playAct_b52 (i0 : Nat)  (x1 : Int32) (x2 : Int32) (M : Mem) : Option (Unit × Mem) :=
  if x1 = (61 : Int32) then
    if (M.1 i0 5) = (-6 : Int32) then
      (J9_min_7cf53  (M.1 (rf i0 0) 3) x2 M).bind (fun p1 =>
        (J9_max_7cf53  (p1.2.1 (rf i0 0) 3) x2 p1.2).bind (fun p2 =>
          (X2_noteLoss i0 p1.1 p2.1 p2.2).bind (fun p3 =>
            X2_playAct_b93 i0  x1 x2 p3.2)))
    else
      X2_playAct_b93 i0  x1 x2 M
  else
    X2_playAct_b93 i0  x1 x2 M
def X2_playAct (i0 : Nat)  (x1 : Int32) (x2 : Int32) (M : Mem) : Option (Unit × Mem) :=
  (X0_whyNot (rf i0 0) x1 x2 M).bind (fun p1 =>
    if p1.1 = 0 then
      if x1 = (63 : Int32) then
        (X0_basketHere (rf i0 0)  p1.2).bind (fun p2 =>
          mw (mI p2.2 i0 4 ((p1.2.1 i0 4) ||| ((1 : Int32) <<< (p2.1 &&& 31)))) (fun N3 =>
            X2_playAct_b52 i0  x1 x2 N3))
      else
        X2_playAct_b52 i0  x1 x2 p1.2
    else
      mw (mI p1.2 i0 2 (p1.2.1 i0 1)) (fun N4 =>
        mw (mI N4 i0 3 p1.1) (fun N5 =>
          some ((), N5))))
set_option maxHeartbeats 4000000 in
set_option maxRecDepth 100000 in
theorem t_X2_playAct_b93 {X : Scr} {i0 : Nat} (h0 : KD[i0]? = some (.inl 2)) (x1 : Int32) (x2 : Int32) (M : Mem) : T X eV (X2_playAct_b93 i0  x1 x2 M) md_X2_playAct 93 [(0, .ref i0), (1, .int x1), (2, .int x2)] [] M := by
  unfold X2_playAct_b93
  refine T_aload_n 0 dX2_playAct_93 rfl rfl ?_
  refine T_getR 0 FOk_2 h0 (by decide) (by decide) dX2_playAct_94 tb_183 ?_
  refine T_iload_n 1 dX2_playAct_97 rfl rfl ?_
  refine T_iload_n 2 dX2_playAct_98 rfl rfl ?_
  refine T_callVU md_X0_perform [.int x1, .int x2] [] dX2_playAct_99 (kf_2_0 h0) rfl rfl ok_X0_perform tb_487 tb_488 tb_489 (by decide) (Nat.le_of_ble_eq_true rfl) (fun _ _ h9 => C_X0_perform (kf_2_0 h0) _ _ h9) (fun r1 M1 => ?_)
  dsimp only
  refine T_aload_n 0 dX2_playAct_102 rfl rfl ?_
  refine T_dup rfl dX2_playAct_103 ?_
  refine T_getI 1 FOk_2 h0 (by decide) (by decide) dX2_playAct_104 tb_185 ?_
  refine T_iconst (v := (1 : Int32)) (by decide) dX2_playAct_107 ?_
  refine T_iadd dX2_playAct_108 ?_
  refine T_putI (ty := .int) 1 FOk_2 h0 (by decide) (by decide) rfl (by decide +kernel) rfl rfl dX2_playAct_109 tb_185 ?_
  refine T_mw (fun N2 => ?_)
  try dsimp only
  exact T_vret dX2_playAct_112 rfl
set_option maxHeartbeats 4000000 in
set_option maxRecDepth 100000 in
theorem t_X2_playAct_b52 {X : Scr} {i0 : Nat} (h0 : KD[i0]? = some (.inl 2)) (x1 : Int32) (x2 : Int32) (M : Mem) : T X eV (X2_playAct_b52 i0  x1 x2 M) md_X2_playAct 52 [(0, .ref i0), (1, .int x1), (2, .int x2)] [] M := by
  unfold X2_playAct_b52
  refine T_iload_n 1 dX2_playAct_52 rfl rfl ?_
  refine T_bipush (v := (61 : Int32)) (by decide) dX2_playAct_53 ?_
  refine T_icmp_ne 93 dX2_playAct_55 (by decide) ?_ ?_
  ·
    refine T_aload_n 0 dX2_playAct_58 rfl rfl ?_
    refine T_getI 5 FOk_2 h0 (by decide) (by decide) dX2_playAct_59 tb_193 ?_
    refine T_bipush (v := (-6 : Int32)) (by decide) dX2_playAct_62 ?_
    refine T_icmp_ne 93 dX2_playAct_64 (by decide) ?_ ?_
    ·
      refine T_aload_n 0 dX2_playAct_67 rfl rfl ?_
      refine T_aload_n 0 dX2_playAct_68 rfl rfl ?_
      refine T_getR 0 FOk_2 h0 (by decide) (by decide) dX2_playAct_69 tb_183 ?_
      refine T_getI 3 FOk_0 (kf_2_0 h0) (by decide) (by decide) dX2_playAct_72 tb_87 ?_
      refine T_iload_n 2 dX2_playAct_75 rfl rfl ?_
      refine T_callSI md_J9_min_7cf53 [.int (M.1 (rf i0 0) 3), .int x2] [.ref i0] dX2_playAct_76 rfl ok_J9_min_7cf53 tb_477 tb_478 (by decide) (Nat.le_of_ble_eq_true rfl) (fun _ _ h9 => C_J9_min_7cf53  _ _ h9) (fun r1 M1 => ?_)
      dsimp only
      refine T_aload_n 0 dX2_playAct_79 rfl rfl ?_
      refine T_getR 0 FOk_2 h0 (by decide) (by decide) dX2_playAct_80 tb_183 ?_
      refine T_getI 3 FOk_0 (kf_2_0 h0) (by decide) (by decide) dX2_playAct_83 tb_87 ?_
      refine T_iload_n 2 dX2_playAct_86 rfl rfl ?_
      refine T_callSI md_J9_max_7cf53 [.int (M1.1 (rf i0 0) 3), .int x2] [.int r1, .ref i0] dX2_playAct_87 rfl ok_J9_max_7cf53 tb_480 tb_481 (by decide) (Nat.le_of_ble_eq_true rfl) (fun _ _ h9 => C_J9_max_7cf53  _ _ h9) (fun r2 M2 => ?_)
      dsimp only
      refine T_callVU md_X2_noteLoss [.int r1, .int r2] [] dX2_playAct_90 h0 rfl rfl ok_X2_noteLoss tb_483 tb_485 tb_4 (by decide) (Nat.le_of_ble_eq_true rfl) (fun _ _ h9 => C_X2_noteLoss h0 _ _ h9) (fun r3 M3 => ?_)
      dsimp only
      exact t_X2_playAct_b93 h0  _ _ _
    ·
      exact t_X2_playAct_b93 h0  _ _ _
  ·
    exact t_X2_playAct_b93 h0  _ _ _
set_option maxHeartbeats 4000000 in
set_option maxRecDepth 100000 in
theorem t_X2_playAct {X : Scr} {i0 : Nat} (h0 : KD[i0]? = some (.inl 2)) (x1 : Int32) (x2 : Int32) (M : Mem) : T X eV (X2_playAct i0  x1 x2 M) md_X2_playAct 0 [(0, .ref i0), (1, .int x1), (2, .int x2)] [] M := by
  unfold X2_playAct
  refine T_aload_n 0 dX2_playAct_0 rfl rfl ?_
  refine T_getR 0 FOk_2 h0 (by decide) (by decide) dX2_playAct_1 tb_183 ?_
  refine T_iload_n 1 dX2_playAct_4 rfl rfl ?_
  refine T_iload_n 2 dX2_playAct_5 rfl rfl ?_
  refine T_callVI md_X0_whyNot [.int x1, .int x2] [] dX2_playAct_6 (kf_2_0 h0) rfl rfl ok_X0_whyNot tb_454 tb_455 tb_456 (by decide) (Nat.le_of_ble_eq_true rfl) (fun _ _ h9 => C_X0_whyNot (kf_2_0 h0) _ _ h9) (fun r1 M1 => ?_)
  dsimp only
  refine T_istore_n [(3, .int r1), (0, .ref i0), (1, .int x1), (2, .int x2)] dX2_playAct_9 rfl (by decide) rfl ?_
  refine T_iload_n 0 dX2_playAct_10 rfl rfl ?_
  refine T_if_eq 28 dX2_playAct_11 (by decide) ?_ ?_
  ·
    refine T_iload_n 2 dX2_playAct_28 rfl rfl ?_
    refine T_bipush (v := (63 : Int32)) (by decide) dX2_playAct_29 ?_
    refine T_icmp_ne 52 dX2_playAct_31 (by decide) ?_ ?_
    ·
      refine T_aload_n 1 dX2_playAct_34 rfl rfl ?_
      refine T_dup rfl dX2_playAct_35 ?_
      refine T_getI 4 FOk_2 h0 (by decide) (by decide) dX2_playAct_36 tb_191 ?_
      refine T_iconst (v := (1 : Int32)) (by decide) dX2_playAct_39 ?_
      refine T_aload_n 1 dX2_playAct_40 rfl rfl ?_
      refine T_getR 0 FOk_2 h0 (by decide) (by decide) dX2_playAct_41 tb_183 ?_
      refine T_callVI md_X0_basketHere [] [.int (1 : Int32), .int (M1.1 i0 4), .ref i0] dX2_playAct_44 (kf_2_0 h0) rfl rfl ok_X0_basketHere tb_476 tb_466 tb_467 (by decide) (Nat.le_of_ble_eq_true rfl) (fun _ _ h9 => C_X0_basketHere (kf_2_0 h0)  h9) (fun r2 M2 => ?_)
      dsimp only
      refine T_ishl dX2_playAct_47 ?_
      refine T_ior dX2_playAct_48 ?_
      refine T_putI (ty := .int) 4 FOk_2 h0 (by decide) (by decide) rfl (by decide +kernel) rfl rfl dX2_playAct_49 tb_191 ?_
      refine T_mw (fun N3 => ?_)
      try dsimp only
      refine T_sub [1, 2, 3] (lv' := [(0, .ref i0), (1, .int x1), (2, .int x2)]) rfl ?_
      exact t_X2_playAct_b52 h0  _ _ _
    ·
      refine T_sub [1, 2, 3] (lv' := [(0, .ref i0), (1, .int x1), (2, .int x2)]) rfl ?_
      exact t_X2_playAct_b52 h0  _ _ _
  ·
    refine T_aload_n 1 dX2_playAct_14 rfl rfl ?_
    refine T_aload_n 1 dX2_playAct_15 rfl rfl ?_
    refine T_getI 1 FOk_2 h0 (by decide) (by decide) dX2_playAct_16 tb_185 ?_
    refine T_putI (ty := .int) 2 FOk_2 h0 (by decide) (by decide) rfl (by decide +kernel) rfl rfl dX2_playAct_19 tb_187 ?_
    refine T_mw (fun N4 => ?_)
    try dsimp only
    refine T_aload_n 1 dX2_playAct_22 rfl rfl ?_
    refine T_iload_n 0 dX2_playAct_23 rfl rfl ?_
    refine T_putI (ty := .int) 3 FOk_2 h0 (by decide) (by decide) rfl (by decide +kernel) rfl rfl dX2_playAct_24 tb_189 ?_
    refine T_mw (fun N5 => ?_)
    try dsimp only
    exact T_vret dX2_playAct_27 rfl
theorem C_X2_playAct {X : Scr} {i0 : Nat} (h0 : KD[i0]? = some (.inl 2)) (x1 : Int32) (x2 : Int32) {M : Mem} {r : Unit} {M' : Mem} (h : X2_playAct i0 x1 x2 M = some (r, M')) : Ct X md_X2_playAct [.ref i0, .int x1, .int x2] M (eV r) M' := Ct_of (by decide +kernel) (Nat.le_of_ble_eq_true rfl) (t_X2_playAct h0 _ _ M) r M' h
-- X8_widthAt
def X8_widthAt_b17 (i0 : Nat)  (s0 : Int32) (M : Mem) : Option (Int32 × Mem) :=
  some (s0, M)
def X8_widthAt (i0 : Nat)  (x1 : Int32) (M : Mem) : Option (Int32 × Mem) :=
  gd (ib x1 60) (
    (X8_isOfTwo  (M.1 (rf i0 0) x1.toNatClampNeg) M).bind (fun p1 =>
      if p1.1 = 0 then
        X8_widthAt_b17 i0  (1 : Int32) p1.2
      else
        X8_widthAt_b17 i0  (2 : Int32) p1.2))
set_option maxHeartbeats 4000000 in
set_option maxRecDepth 100000 in
theorem t_X8_widthAt_b17 {X : Scr} {i0 : Nat} (h0 : KD[i0]? = some (.inl 8)) (s0 : Int32) (M : Mem) : T X eI (X8_widthAt_b17 i0  s0 M) md_X8_widthAt 17 [] [.int s0] M := by
  unfold X8_widthAt_b17
  exact T_iret dX8_widthAt_17 rfl
set_option maxHeartbeats 4000000 in
set_option maxRecDepth 100000 in
theorem t_X8_widthAt {X : Scr} {i0 : Nat} (h0 : KD[i0]? = some (.inl 8)) (x1 : Int32) (M : Mem) : T X eI (X8_widthAt i0  x1 M) md_X8_widthAt 0 [(0, .ref i0), (1, .int x1)] [] M := by
  unfold X8_widthAt
  refine T_aload_n 0 dX8_widthAt_0 rfl rfl ?_
  refine T_getR 0 FOk_8 h0 (by decide) (by decide) dX8_widthAt_1 tb_144 ?_
  refine T_iload_n 1 dX8_widthAt_4 rfl rfl ?_
  refine T_iald (kf_8_0 h0) dX8_widthAt_5 ?_
  refine T_callSI md_X8_isOfTwo [.int (M.1 (rf i0 0) x1.toNatClampNeg)] [] dX8_widthAt_6 rfl ok_X8_isOfTwo tb_420 tb_421 (by decide) (Nat.le_of_ble_eq_true rfl) (fun _ _ h9 => C_X8_isOfTwo  _ h9) (fun r1 M1 => ?_)
  dsimp only
  refine T_if_eq 16 dX8_widthAt_9 (by decide) ?_ ?_
  ·
    refine T_iconst (v := (1 : Int32)) (by decide) dX8_widthAt_16 ?_
    refine T_sub [] (lv' := []) rfl ?_
    exact t_X8_widthAt_b17 h0  _ _
  ·
    refine T_iconst (v := (2 : Int32)) (by decide) dX8_widthAt_12 ?_
    refine T_goto 17 dX8_widthAt_13 (by decide) ?_
    refine T_sub [] (lv' := []) rfl ?_
    exact t_X8_widthAt_b17 h0  _ _
theorem C_X8_widthAt {X : Scr} {i0 : Nat} (h0 : KD[i0]? = some (.inl 8)) (x1 : Int32) {M : Mem} {r : Int32} {M' : Mem} (h : X8_widthAt i0 x1 M = some (r, M')) : Ct X md_X8_widthAt [.ref i0, .int x1] M (eI r) M' := Ct_of (by decide +kernel) (Nat.le_of_ble_eq_true rfl) (t_X8_widthAt h0 _ M) r M' h
-- X2_play
def X2_play_b86 (i0 : Nat) (i1 : Nat) (i2 : Nat)   (M : Mem) : Option (Unit × Mem) :=
  some ((), M)
def X2_play_b44 (i0 : Nat) (i1 : Nat) (i2 : Nat) (k44 : Int32 → Mem → Option (Unit × Mem)) (x3 : Int32) (M : Mem) : Option (Unit × Mem) :=
  if (M.1 i2 1) ≤ x3 then
    X2_play_b86 i0 i1 i2   M
  else
    if (M.1 i0 2) = (-6 : Int32) then
      (X8_kindAt i2 x3 M).bind (fun p1 =>
        (X8_operandAt i2 x3 p1.2).bind (fun p2 =>
          (X2_playAct i0 p1.1 p2.1 p2.2).bind (fun p3 =>
            (X8_widthAt i2 x3 p3.2).bind (fun p4 =>
              k44 (x3 + p4.1) p4.2))))
    else
      X2_play_b86 i0 i1 i2   M
def X2_play_l44 (i0 : Nat) (i1 : Nat) (i2 : Nat)  : Nat → Int32 → Mem → Option (Unit × Mem)
  | 0 => fun _ _ => none
  | n + 1 => X2_play_b44 i0 i1 i2 (X2_play_l44 i0 i1 i2  n)
def X2_play (i0 : Nat) (i1 : Nat) (i2 : Nat)   (M : Mem) : Option (Unit × Mem) :=
  (X0_takeOver (rf i0 0) i1  M).bind (fun p1 =>
    mw (mI p1.2 i0 1 (0 : Int32)) (fun N2 =>
      mw (mI N2 i0 2 (-6 : Int32)) (fun N3 =>
        mw (mI N3 i0 3 (-6 : Int32)) (fun N4 =>
          mw (mI N4 i0 4 (0 : Int32)) (fun N5 =>
            mw (mI N5 i0 5 (-6 : Int32)) (fun N6 =>
              mw (mI N6 i0 6 (-6 : Int32)) (fun N7 =>
                X2_play_l44 i0 i1 i2  FU (0 : Int32) N7)))))))
set_option maxHeartbeats 4000000 in
set_option maxRecDepth 100000 in
theorem t_X2_play_b86 {X : Scr} {i0 : Nat} {i1 : Nat} {i2 : Nat} (h0 : KD[i0]? = some (.inl 2)) (h1 : KD[i1]? = some (.inl 0)) (h2 : KD[i2]? = some (.inl 8))  (M : Mem) : T X eV (X2_play_b86 i0 i1 i2   M) md_X2_play 86 [] [] M := by
  unfold X2_play_b86
  exact T_vret dX2_play_86 rfl
set_option maxHeartbeats 4000000 in
set_option maxRecDepth 100000 in
theorem t_X2_play_b44 {X : Scr} {i0 : Nat} {i1 : Nat} {i2 : Nat} (h0 : KD[i0]? = some (.inl 2)) (h1 : KD[i1]? = some (.inl 0)) (h2 : KD[i2]? = some (.inl 8)) {k44 : Int32 → Mem → Option (Unit × Mem)} (hk44 : ∀ (x3 : Int32) (M : Mem), T X eV (k44 x3 M) md_X2_play 44 [(0, .ref i0), (2, .ref i2), (3, .int x3)] [] M) (x3 : Int32) (M : Mem) : T X eV (X2_play_b44 i0 i1 i2 k44 x3 M) md_X2_play 44 [(0, .ref i0), (2, .ref i2), (3, .int x3)] [] M := by
  unfold X2_play_b44
  refine T_iload_n 2 dX2_play_44 rfl rfl ?_
  refine T_aload_n 1 dX2_play_45 rfl rfl ?_
  refine T_getI 1 FOk_8 h2 (by decide) (by decide) dX2_play_46 tb_146 ?_
  refine T_icmp_ge 86 dX2_play_49 (by decide) ?_ ?_
  ·
    refine T_sub [] (lv' := []) rfl ?_
    exact t_X2_play_b86 h0 h1 h2   _
  ·
    refine T_aload_n 0 dX2_play_52 rfl rfl ?_
    refine T_getI 2 FOk_2 h0 (by decide) (by decide) dX2_play_53 tb_187 ?_
    refine T_bipush (v := (-6 : Int32)) (by decide) dX2_play_56 ?_
    refine T_icmp_ne 86 dX2_play_58 (by decide) ?_ ?_
    ·
      refine T_aload_n 0 dX2_play_61 rfl rfl ?_
      refine T_aload_n 1 dX2_play_62 rfl rfl ?_
      refine T_iload_n 2 dX2_play_63 rfl rfl ?_
      refine T_callVI md_X8_kindAt [.int x3] [.ref i0] dX2_play_64 h2 rfl rfl ok_X8_kindAt tb_442 tb_443 tb_444 (by decide) (Nat.le_of_ble_eq_true rfl) (fun _ _ h9 => C_X8_kindAt h2 _ h9) (fun r1 M1 => ?_)
      dsimp only
      refine T_aload_n 1 dX2_play_67 rfl rfl ?_
      refine T_iload_n 2 dX2_play_68 rfl rfl ?_
      refine T_callVI md_X8_operandAt [.int x3] [.int r1, .ref i0] dX2_play_69 h2 rfl rfl ok_X8_operandAt tb_446 tb_447 tb_448 (by decide) (Nat.le_of_ble_eq_true rfl) (fun _ _ h9 => C_X8_operandAt h2 _ h9) (fun r2 M2 => ?_)
      dsimp only
      refine T_callVU md_X2_playAct [.int r1, .int r2] [] dX2_play_72 h0 rfl rfl ok_X2_playAct tb_450 tb_452 tb_1 (by decide) (Nat.le_of_ble_eq_true rfl) (fun _ _ h9 => C_X2_playAct h0 _ _ h9) (fun r3 M3 => ?_)
      dsimp only
      refine T_iload_n 2 dX2_play_75 rfl rfl ?_
      refine T_aload_n 1 dX2_play_76 rfl rfl ?_
      refine T_iload_n 2 dX2_play_77 rfl rfl ?_
      refine T_callVI md_X8_widthAt [.int x3] [.int x3] dX2_play_78 h2 rfl rfl ok_X8_widthAt tb_491 tb_492 tb_493 (by decide) (Nat.le_of_ble_eq_true rfl) (fun _ _ h9 => C_X8_widthAt h2 _ h9) (fun r4 M4 => ?_)
      dsimp only
      refine T_iadd dX2_play_81 ?_
      refine T_istore_n [(3, .int (x3 + r4)), (0, .ref i0), (2, .ref i2)] dX2_play_82 rfl (by decide) rfl ?_
      refine T_goto 44 dX2_play_83 (by decide) ?_
      refine T_sub [1, 2, 0] (lv' := [(0, .ref i0), (2, .ref i2), (3, .int (x3 + r4))]) rfl ?_
      exact hk44 _ _
    ·
      refine T_sub [] (lv' := []) rfl ?_
      exact t_X2_play_b86 h0 h1 h2   _
theorem t_X2_play_l44 {X : Scr} {i0 : Nat} {i1 : Nat} {i2 : Nat} (h0 : KD[i0]? = some (.inl 2)) (h1 : KD[i1]? = some (.inl 0)) (h2 : KD[i2]? = some (.inl 8)) (n : Nat) : ∀ (x3 : Int32) (M : Mem), T X eV (X2_play_l44 i0 i1 i2  n x3 M) md_X2_play 44 [(0, .ref i0), (2, .ref i2), (3, .int x3)] [] M := by
  induction n with
  | zero => intro x3 M; exact T_none
  | succ n ih => intro x3 M; exact t_X2_play_b44 h0 h1 h2 ih x3 M
set_option maxHeartbeats 4000000 in
set_option maxRecDepth 100000 in
theorem t_X2_play {X : Scr} {i0 : Nat} {i1 : Nat} {i2 : Nat} (h0 : KD[i0]? = some (.inl 2)) (h1 : KD[i1]? = some (.inl 0)) (h2 : KD[i2]? = some (.inl 8))  (M : Mem) : T X eV (X2_play i0 i1 i2   M) md_X2_play 0 [(0, .ref i0), (1, .ref i1), (2, .ref i2)] [] M := by
  unfold X2_play
  refine T_aload_n 0 dX2_play_0 rfl rfl ?_
  refine T_getR 0 FOk_2 h0 (by decide) (by decide) dX2_play_1 tb_183 ?_
  refine T_aload_n 1 dX2_play_4 rfl rfl ?_
  refine T_callVU md_X0_takeOver [.ref i1] [] dX2_play_5 (kf_2_0 h0) rfl rfl ok_X0_takeOver tb_435 tb_436 tb_437 (by decide) (Nat.le_of_ble_eq_true rfl) (fun _ _ h9 => C_X0_takeOver (kf_2_0 h0) h1  h9) (fun r1 M1 => ?_)
  dsimp only
  refine T_aload_n 0 dX2_play_8 rfl rfl ?_
  refine T_iconst (v := (0 : Int32)) (by decide) dX2_play_9 ?_
  refine T_putI (ty := .int) 1 FOk_2 h0 (by decide) (by decide) rfl (by decide +kernel) rfl rfl dX2_play_10 tb_185 ?_
  refine T_mw (fun N2 => ?_)
  try dsimp only
  refine T_aload_n 0 dX2_play_13 rfl rfl ?_
  refine T_bipush (v := (-6 : Int32)) (by decide) dX2_play_14 ?_
  refine T_putI (ty := .int) 2 FOk_2 h0 (by decide) (by decide) rfl (by decide +kernel) rfl rfl dX2_play_16 tb_187 ?_
  refine T_mw (fun N3 => ?_)
  try dsimp only
  refine T_aload_n 0 dX2_play_19 rfl rfl ?_
  refine T_bipush (v := (-6 : Int32)) (by decide) dX2_play_20 ?_
  refine T_putI (ty := .int) 3 FOk_2 h0 (by decide) (by decide) rfl (by decide +kernel) rfl rfl dX2_play_22 tb_189 ?_
  refine T_mw (fun N4 => ?_)
  try dsimp only
  refine T_aload_n 0 dX2_play_25 rfl rfl ?_
  refine T_iconst (v := (0 : Int32)) (by decide) dX2_play_26 ?_
  refine T_putI (ty := .int) 4 FOk_2 h0 (by decide) (by decide) rfl (by decide +kernel) rfl rfl dX2_play_27 tb_191 ?_
  refine T_mw (fun N5 => ?_)
  try dsimp only
  refine T_aload_n 0 dX2_play_30 rfl rfl ?_
  refine T_bipush (v := (-6 : Int32)) (by decide) dX2_play_31 ?_
  refine T_putI (ty := .int) 5 FOk_2 h0 (by decide) (by decide) rfl (by decide +kernel) rfl rfl dX2_play_33 tb_193 ?_
  refine T_mw (fun N6 => ?_)
  try dsimp only
  refine T_aload_n 0 dX2_play_36 rfl rfl ?_
  refine T_bipush (v := (-6 : Int32)) (by decide) dX2_play_37 ?_
  refine T_putI (ty := .int) 6 FOk_2 h0 (by decide) (by decide) rfl (by decide +kernel) rfl rfl dX2_play_39 tb_195 ?_
  refine T_mw (fun N7 => ?_)
  try dsimp only
  refine T_iconst (v := (0 : Int32)) (by decide) dX2_play_42 ?_
  refine T_istore_n [(3, .int (0 : Int32)), (0, .ref i0), (1, .ref i1), (2, .ref i2)] dX2_play_43 rfl (by decide) rfl ?_
  refine T_sub [1, 3, 0] (lv' := [(0, .ref i0), (2, .ref i2), (3, .int (0 : Int32))]) rfl ?_
  exact t_X2_play_l44 h0 h1 h2  _ _ _
theorem C_X2_play {X : Scr} {i0 : Nat} {i1 : Nat} {i2 : Nat} (h0 : KD[i0]? = some (.inl 2)) (h1 : KD[i1]? = some (.inl 0)) (h2 : KD[i2]? = some (.inl 8))  {M : Mem} {r : Unit} {M' : Mem} (h : X2_play i0 i1 i2  M = some (r, M')) : Ct X md_X2_play [.ref i0, .ref i1, .ref i2] M (eV r) M' := Ct_of (by decide +kernel) (Nat.le_of_ble_eq_true rfl) (t_X2_play h0 h1 h2  M) r M' h
-- X2_draw
def X2_draw_b105 (i0 : Nat) (i1 : Nat) (k14 : Int32 → Int32 → Int32 → Mem → Option (Unit × Mem)) (x3 : Int32) (x4 : Int32) (x5 : Int32) (M : Mem) : Option (Unit × Mem) :=
  k14 x3 x4 (x5 + (1 : Int32)) M
def X2_draw_b78 (i0 : Nat) (i1 : Nat) (k14 : Int32 → Int32 → Int32 → Mem → Option (Unit × Mem)) (x3 : Int32) (x4 : Int32) (x5 : Int32) (x6 : Int32) (s0 : Int32) (M : Mem) : Option (Unit × Mem) :=
  (X0_whyNot (rf i0 0) x6 s0 M).bind (fun p1 =>
    if p1.1 = 0 then
      (X0_perform (rf i0 0) x6 s0 p1.2).bind (fun p2 =>
        X2_draw_b105 i0 i1 k14 x3 x4 x5 p2.2)
    else
      X2_draw_b105 i0 i1 k14 x3 x4 x5 p1.2)
def X2_draw_b65 (i0 : Nat) (i1 : Nat) (k14 : Int32 → Int32 → Int32 → Mem → Option (Unit × Mem)) (x3 : Int32) (x4 : Int32) (x5 : Int32) (x6 : Int32) (x7 : Int32) (M : Mem) : Option (Unit × Mem) :=
  gd (!((8 : Int32) == 0)) (
    X2_draw_b78 i0 i1 k14 x3 x4 x5 x6 (x7 - x7 / (8 : Int32) * (8 : Int32)) M)
def X2_draw_b14 (i0 : Nat) (i1 : Nat) (k14 : Int32 → Int32 → Int32 → Mem → Option (Unit × Mem)) (x3 : Int32) (x4 : Int32) (x5 : Int32) (M : Mem) : Option (Unit × Mem) :=
  if x3 ≤ x5 then
    some ((), M)
  else
    gd (!((65537 : Int32) == 0)) (
      iw ((((75 : Int32) * x4) + (74 : Int32)) - (((75 : Int32) * x4) + (74 : Int32)) / (65537 : Int32) * (65537 : Int32)) (fun v1 =>
        gd (!((8 : Int32) == 0)) (
          gd (ib (v1 - v1 / (8 : Int32) * (8 : Int32)) 8) (
            iw (dk (v1 - v1 / (8 : Int32) * (8 : Int32)).toNatClampNeg) (fun v2 =>
              gd (!((8 : Int32) == 0)) (
                if v2 = (43 : Int32) then
                  X2_draw_b65 i0 i1 k14 x3 v1 x5 v2 (v1 / (8 : Int32)) M
                else
                  if v2 = (45 : Int32) then
                    X2_draw_b65 i0 i1 k14 x3 v1 x5 v2 (v1 / (8 : Int32)) M
                  else
                    gd (!((10 : Int32) == 0)) (
                      X2_draw_b78 i0 i1 k14 x3 v1 x5 v2 ((v1 / (8 : Int32)) - (v1 / (8 : Int32)) / (10 : Int32) * (10 : Int32)) M)))))))
def X2_draw_l14 (i0 : Nat) (i1 : Nat)  : Nat → Int32 → Int32 → Int32 → Mem → Option (Unit × Mem)
  | 0 => fun _ _ _ _ => none
  | n + 1 => X2_draw_b14 i0 i1 (X2_draw_l14 i0 i1  n)
def X2_draw (i0 : Nat) (i1 : Nat)  (x2 : Int32) (x3 : Int32) (M : Mem) : Option (Unit × Mem) :=
  (X0_takeOver (rf i0 0) i1  M).bind (fun p1 =>
    X2_draw_l14 i0 i1  FU x3 x2 (0 : Int32) p1.2)
set_option maxHeartbeats 4000000 in
set_option maxRecDepth 100000 in
theorem t_X2_draw_b105 {X : Scr} {i0 : Nat} {i1 : Nat} (h0 : KD[i0]? = some (.inl 2)) (h1 : KD[i1]? = some (.inl 0)) {k14 : Int32 → Int32 → Int32 → Mem → Option (Unit × Mem)} (hk14 : ∀ (x3 : Int32) (x4 : Int32) (x5 : Int32) (M : Mem), T X eV (k14 x3 x4 x5 M) md_X2_draw 14 [(0, .ref i0), (3, .int x3), (4, .int x4), (5, .int x5)] [] M) (x3 : Int32) (x4 : Int32) (x5 : Int32) (M : Mem) : T X eV (X2_draw_b105 i0 i1 k14 x3 x4 x5 M) md_X2_draw 105 [(0, .ref i0), (3, .int x3), (4, .int x4), (5, .int x5)] [] M := by
  unfold X2_draw_b105
  refine T_iinc 3 [(5, .int (x5 + (1 : Int32))), (0, .ref i0), (3, .int x3), (4, .int x4)] (v := (1 : Int32)) dX2_draw_105 rfl (by decide) (by decide) rfl ?_
  refine T_goto 14 dX2_draw_108 (by decide) ?_
  refine T_sub [1, 2, 3, 0] (lv' := [(0, .ref i0), (3, .int x3), (4, .int x4), (5, .int (x5 + (1 : Int32)))]) rfl ?_
  exact hk14 _ _ _ _
set_option maxHeartbeats 4000000 in
set_option maxRecDepth 100000 in
theorem t_X2_draw_b78 {X : Scr} {i0 : Nat} {i1 : Nat} (h0 : KD[i0]? = some (.inl 2)) (h1 : KD[i1]? = some (.inl 0)) {k14 : Int32 → Int32 → Int32 → Mem → Option (Unit × Mem)} (hk14 : ∀ (x3 : Int32) (x4 : Int32) (x5 : Int32) (M : Mem), T X eV (k14 x3 x4 x5 M) md_X2_draw 14 [(0, .ref i0), (3, .int x3), (4, .int x4), (5, .int x5)] [] M) (x3 : Int32) (x4 : Int32) (x5 : Int32) (x6 : Int32) (s0 : Int32) (M : Mem) : T X eV (X2_draw_b78 i0 i1 k14 x3 x4 x5 x6 s0 M) md_X2_draw 78 [(0, .ref i0), (3, .int x3), (4, .int x4), (5, .int x5), (6, .int x6)] [.int s0] M := by
  unfold X2_draw_b78
  refine T_istore [(8, .int s0), (0, .ref i0), (3, .int x3), (4, .int x4), (5, .int x5), (6, .int x6)] dX2_draw_78 (by decide) rfl ?_
  refine T_aload_n 1 dX2_draw_80 rfl rfl ?_
  refine T_getR 0 FOk_2 h0 (by decide) (by decide) dX2_draw_81 tb_183 ?_
  refine T_iload 5 dX2_draw_84 rfl ?_
  refine T_iload 0 dX2_draw_86 rfl ?_
  refine T_callVI md_X0_whyNot [.int x6, .int s0] [] dX2_draw_88 (kf_2_0 h0) rfl rfl ok_X0_whyNot tb_454 tb_455 tb_456 (by decide) (Nat.le_of_ble_eq_true rfl) (fun _ _ h9 => C_X0_whyNot (kf_2_0 h0) _ _ h9) (fun r1 M1 => ?_)
  dsimp only
  refine T_if_ne 105 dX2_draw_91 (by decide) ?_ ?_
  ·
    refine T_aload_n 1 dX2_draw_94 rfl rfl ?_
    refine T_getR 0 FOk_2 h0 (by decide) (by decide) dX2_draw_95 tb_183 ?_
    refine T_iload 5 dX2_draw_98 rfl ?_
    refine T_iload 0 dX2_draw_100 rfl ?_
    refine T_callVU md_X0_perform [.int x6, .int s0] [] dX2_draw_102 (kf_2_0 h0) rfl rfl ok_X0_perform tb_487 tb_488 tb_489 (by decide) (Nat.le_of_ble_eq_true rfl) (fun _ _ h9 => C_X0_perform (kf_2_0 h0) _ _ h9) (fun r2 M2 => ?_)
    dsimp only
    refine T_sub [1, 2, 3, 4] (lv' := [(0, .ref i0), (3, .int x3), (4, .int x4), (5, .int x5)]) rfl ?_
    exact t_X2_draw_b105 h0 h1 hk14 _ _ _ _
  ·
    refine T_sub [1, 2, 3, 4] (lv' := [(0, .ref i0), (3, .int x3), (4, .int x4), (5, .int x5)]) rfl ?_
    exact t_X2_draw_b105 h0 h1 hk14 _ _ _ _
set_option maxHeartbeats 4000000 in
set_option maxRecDepth 100000 in
theorem t_X2_draw_b65 {X : Scr} {i0 : Nat} {i1 : Nat} (h0 : KD[i0]? = some (.inl 2)) (h1 : KD[i1]? = some (.inl 0)) {k14 : Int32 → Int32 → Int32 → Mem → Option (Unit × Mem)} (hk14 : ∀ (x3 : Int32) (x4 : Int32) (x5 : Int32) (M : Mem), T X eV (k14 x3 x4 x5 M) md_X2_draw 14 [(0, .ref i0), (3, .int x3), (4, .int x4), (5, .int x5)] [] M) (x3 : Int32) (x4 : Int32) (x5 : Int32) (x6 : Int32) (x7 : Int32) (M : Mem) : T X eV (X2_draw_b65 i0 i1 k14 x3 x4 x5 x6 x7 M) md_X2_draw 65 [(0, .ref i0), (3, .int x3), (4, .int x4), (5, .int x5), (6, .int x6), (7, .int x7)] [] M := by
  unfold X2_draw_b65
  refine T_iload 5 dX2_draw_65 rfl ?_
  refine T_bipush (v := (8 : Int32)) (by decide) dX2_draw_67 ?_
  refine T_irem dX2_draw_69 ?_
  refine T_goto 78 dX2_draw_70 (by decide) ?_
  refine T_sub [0, 1, 2, 3, 4] (lv' := [(0, .ref i0), (3, .int x3), (4, .int x4), (5, .int x5), (6, .int x6)]) rfl ?_
  exact t_X2_draw_b78 h0 h1 hk14 _ _ _ _ _ _
set_option maxHeartbeats 4000000 in
set_option maxRecDepth 100000 in
theorem t_X2_draw_b14 {X : Scr} {i0 : Nat} {i1 : Nat} (h0 : KD[i0]? = some (.inl 2)) (h1 : KD[i1]? = some (.inl 0)) {k14 : Int32 → Int32 → Int32 → Mem → Option (Unit × Mem)} (hk14 : ∀ (x3 : Int32) (x4 : Int32) (x5 : Int32) (M : Mem), T X eV (k14 x3 x4 x5 M) md_X2_draw 14 [(0, .ref i0), (3, .int x3), (4, .int x4), (5, .int x5)] [] M) (x3 : Int32) (x4 : Int32) (x5 : Int32) (M : Mem) : T X eV (X2_draw_b14 i0 i1 k14 x3 x4 x5 M) md_X2_draw 14 [(0, .ref i0), (3, .int x3), (4, .int x4), (5, .int x5)] [] M := by
  unfold X2_draw_b14
  refine T_iload 3 dX2_draw_14 rfl ?_
  refine T_iload_n 1 dX2_draw_16 rfl rfl ?_
  refine T_icmp_ge 111 dX2_draw_17 (by decide) ?_ ?_
  ·
    exact T_vret dX2_draw_111 rfl
  ·
    refine T_bipush (v := (75 : Int32)) (by decide) dX2_draw_20 ?_
    refine T_iload 2 dX2_draw_22 rfl ?_
    refine T_imul dX2_draw_24 ?_
    refine T_bipush (v := (74 : Int32)) (by decide) dX2_draw_25 ?_
    refine T_iadd dX2_draw_27 ?_
    refine T_ldc (v := (65537 : Int32)) dX2_draw_28 tb_672 ?_
    refine T_irem dX2_draw_30 ?_
    refine T_iw (fun v1 => ?_)
    try dsimp only
    refine T_istore [(4, .int v1), (0, .ref i0), (3, .int x3), (5, .int x5)] dX2_draw_31 (by decide) rfl ?_
    refine T_gets dX2_draw_33 tb_673 ?_
    refine T_iload 0 dX2_draw_36 rfl ?_
    refine T_bipush (v := (8 : Int32)) (by decide) dX2_draw_38 ?_
    refine T_irem dX2_draw_40 ?_
    refine T_dld dX2_draw_41 ?_
    refine T_iw (fun v2 => ?_)
    try dsimp only
    refine T_istore [(6, .int v2), (4, .int v1), (0, .ref i0), (3, .int x3), (5, .int x5)] dX2_draw_42 (by decide) rfl ?_
    refine T_iload 1 dX2_draw_44 rfl ?_
    refine T_bipush (v := (8 : Int32)) (by decide) dX2_draw_46 ?_
    refine T_idiv dX2_draw_48 ?_
    refine T_istore [(7, .int (v1 / (8 : Int32))), (6, .int v2), (4, .int v1), (0, .ref i0), (3, .int x3), (5, .int x5)] dX2_draw_49 (by decide) rfl ?_
    refine T_iload 1 dX2_draw_51 rfl ?_
    refine T_bipush (v := (43 : Int32)) (by decide) dX2_draw_53 ?_
    refine T_icmp_eq 65 dX2_draw_55 (by decide) ?_ ?_
    ·
      refine T_sub [3, 4, 2, 5, 1, 0] (lv' := [(0, .ref i0), (3, .int x3), (4, .int v1), (5, .int x5), (6, .int v2), (7, .int (v1 / (8 : Int32)))]) rfl ?_
      exact t_X2_draw_b65 h0 h1 hk14 _ _ _ _ _ _
    ·
      refine T_iload 1 dX2_draw_58 rfl ?_
      refine T_bipush (v := (45 : Int32)) (by decide) dX2_draw_60 ?_
      refine T_icmp_ne 73 dX2_draw_62 (by decide) ?_ ?_
      ·
        refine T_sub [3, 4, 2, 5, 1, 0] (lv' := [(0, .ref i0), (3, .int x3), (4, .int v1), (5, .int x5), (6, .int v2), (7, .int (v1 / (8 : Int32)))]) rfl ?_
        exact t_X2_draw_b65 h0 h1 hk14 _ _ _ _ _ _
      ·
        refine T_iload 0 dX2_draw_73 rfl ?_
        refine T_bipush (v := (10 : Int32)) (by decide) dX2_draw_75 ?_
        refine T_irem dX2_draw_77 ?_
        refine T_sub [3, 4, 2, 5, 1] (lv' := [(0, .ref i0), (3, .int x3), (4, .int v1), (5, .int x5), (6, .int v2)]) rfl ?_
        exact t_X2_draw_b78 h0 h1 hk14 _ _ _ _ _ _
theorem t_X2_draw_l14 {X : Scr} {i0 : Nat} {i1 : Nat} (h0 : KD[i0]? = some (.inl 2)) (h1 : KD[i1]? = some (.inl 0)) (n : Nat) : ∀ (x3 : Int32) (x4 : Int32) (x5 : Int32) (M : Mem), T X eV (X2_draw_l14 i0 i1  n x3 x4 x5 M) md_X2_draw 14 [(0, .ref i0), (3, .int x3), (4, .int x4), (5, .int x5)] [] M := by
  induction n with
  | zero => intro x3 x4 x5 M; exact T_none
  | succ n ih => intro x3 x4 x5 M; exact t_X2_draw_b14 h0 h1 ih x3 x4 x5 M
set_option maxHeartbeats 4000000 in
set_option maxRecDepth 100000 in
theorem t_X2_draw {X : Scr} {i0 : Nat} {i1 : Nat} (h0 : KD[i0]? = some (.inl 2)) (h1 : KD[i1]? = some (.inl 0)) (x2 : Int32) (x3 : Int32) (M : Mem) : T X eV (X2_draw i0 i1  x2 x3 M) md_X2_draw 0 [(0, .ref i0), (1, .ref i1), (2, .int x2), (3, .int x3)] [] M := by
  unfold X2_draw
  refine T_aload_n 0 dX2_draw_0 rfl rfl ?_
  refine T_getR 0 FOk_2 h0 (by decide) (by decide) dX2_draw_1 tb_183 ?_
  refine T_aload_n 1 dX2_draw_4 rfl rfl ?_
  refine T_callVU md_X0_takeOver [.ref i1] [] dX2_draw_5 (kf_2_0 h0) rfl rfl ok_X0_takeOver tb_435 tb_436 tb_437 (by decide) (Nat.le_of_ble_eq_true rfl) (fun _ _ h9 => C_X0_takeOver (kf_2_0 h0) h1  h9) (fun r1 M1 => ?_)
  dsimp only
  refine T_iload_n 2 dX2_draw_8 rfl rfl ?_
  refine T_istore [(4, .int x2), (0, .ref i0), (1, .ref i1), (2, .int x2), (3, .int x3)] dX2_draw_9 (by decide) rfl ?_
  refine T_iconst (v := (0 : Int32)) (by decide) dX2_draw_11 ?_
  refine T_istore [(5, .int (0 : Int32)), (4, .int x2), (0, .ref i0), (1, .ref i1), (2, .int x2), (3, .int x3)] dX2_draw_12 (by decide) rfl ?_
  refine T_sub [2, 5, 1, 0] (lv' := [(0, .ref i0), (3, .int x3), (4, .int x2), (5, .int (0 : Int32))]) rfl ?_
  exact t_X2_draw_l14 h0 h1  _ _ _ _ _
theorem C_X2_draw {X : Scr} {i0 : Nat} {i1 : Nat} (h0 : KD[i0]? = some (.inl 2)) (h1 : KD[i1]? = some (.inl 0)) (x2 : Int32) (x3 : Int32) {M : Mem} {r : Unit} {M' : Mem} (h : X2_draw i0 i1 x2 x3 M = some (r, M')) : Ct X md_X2_draw [.ref i0, .ref i1, .int x2, .int x3] M (eV r) M' := Ct_of (by decide +kernel) (Nat.le_of_ble_eq_true rfl) (t_X2_draw h0 h1 _ _ M) r M' h
-- X3_hang
def X3_hang_b49 (i0 : Nat)   (M : Mem) : Option (Int32 × Mem) :=
  some ((0 : Int32), M)
def X3_hang_b87 (i0 : Nat)  (s0 : Int32) (M : Mem) : Option (Int32 × Mem) :=
  gd (s0 == 0 || s0 == 1) (some (s0, M))
def X3_hang_b13 (i0 : Nat) (k13 : Int32 → Int32 → Int32 → Mem → Option (Int32 × Mem)) (x2 : Int32) (x3 : Int32) (x4 : Int32) (M : Mem) : Option (Int32 × Mem) :=
  if x4 < 0 then
    if x2 = 0 then
      X3_hang_b87 i0  (1 : Int32) M
    else
      X3_hang_b87 i0  (0 : Int32) M
  else
    gd (!((10 : Int32) == 0)) (
      iw (x2 - x2 / (10 : Int32) * (10 : Int32)) (fun v1 =>
        (X11_isWithin  v1 (0 : Int32) ((6 : Int32) - (1 : Int32)) M).bind (fun p2 =>
          if p2.1 = 0 then
            X3_hang_b49 i0   p2.2
          else
            (X11_isIn  x3 v1 p2.2).bind (fun p3 =>
              if p3.1 = 0 then
                iw (x3 ||| ((1 : Int32) <<< (v1 &&& 31))) (fun v4 =>
                  gd (ib x4 6) (
                    gd (!((10 : Int32) == 0)) (
                      k13 (x2 / (10 : Int32)) v4 (x4 + (-1 : Int32)) (mI p3.2 (rf i0 0) x4.toNatClampNeg v1))))
              else
                X3_hang_b49 i0   p3.2))))
def X3_hang_l13 (i0 : Nat)  : Nat → Int32 → Int32 → Int32 → Mem → Option (Int32 × Mem)
  | 0 => fun _ _ _ _ => none
  | n + 1 => X3_hang_b13 i0 (X3_hang_l13 i0  n)
def X3_hang (i0 : Nat)  (x1 : Int32) (M : Mem) : Option (Int32 × Mem) :=
  X3_hang_l13 i0  FU x1 (0 : Int32) ((6 : Int32) - (1 : Int32)) M
set_option maxHeartbeats 4000000 in
set_option maxRecDepth 100000 in
theorem t_X3_hang_b49 {X : Scr} {i0 : Nat} (h0 : KD[i0]? = some (.inl 3))  (M : Mem) : T X eI (X3_hang_b49 i0   M) md_X3_hang 49 [] [] M := by
  unfold X3_hang_b49
  refine T_iconst (v := (0 : Int32)) (by decide) dX3_hang_49 ?_
  exact T_zret0 dX3_hang_50 rfl
set_option maxHeartbeats 4000000 in
set_option maxRecDepth 100000 in
theorem t_X3_hang_b87 {X : Scr} {i0 : Nat} (h0 : KD[i0]? = some (.inl 3)) (s0 : Int32) (M : Mem) : T X eI (X3_hang_b87 i0  s0 M) md_X3_hang 87 [] [.int s0] M := by
  unfold X3_hang_b87
  exact T_zret dX3_hang_87 rfl
set_option maxHeartbeats 4000000 in
set_option maxRecDepth 100000 in
theorem t_X3_hang_b13 {X : Scr} {i0 : Nat} (h0 : KD[i0]? = some (.inl 3)) {k13 : Int32 → Int32 → Int32 → Mem → Option (Int32 × Mem)} (hk13 : ∀ (x2 : Int32) (x3 : Int32) (x4 : Int32) (M : Mem), T X eI (k13 x2 x3 x4 M) md_X3_hang 13 [(0, .ref i0), (2, .int x2), (3, .int x3), (4, .int x4)] [] M) (x2 : Int32) (x3 : Int32) (x4 : Int32) (M : Mem) : T X eI (X3_hang_b13 i0 k13 x2 x3 x4 M) md_X3_hang 13 [(0, .ref i0), (2, .int x2), (3, .int x3), (4, .int x4)] [] M := by
  unfold X3_hang_b13
  refine T_iload 3 dX3_hang_13 rfl ?_
  refine T_if_lt 78 dX3_hang_15 (by decide) ?_ ?_
  ·
    refine T_iload_n 1 dX3_hang_78 rfl rfl ?_
    refine T_if_ne 86 dX3_hang_79 (by decide) ?_ ?_
    ·
      refine T_iconst (v := (1 : Int32)) (by decide) dX3_hang_82 ?_
      refine T_goto 87 dX3_hang_83 (by decide) ?_
      refine T_sub [] (lv' := []) rfl ?_
      exact t_X3_hang_b87 h0  _ _
    ·
      refine T_iconst (v := (0 : Int32)) (by decide) dX3_hang_86 ?_
      refine T_sub [] (lv' := []) rfl ?_
      exact t_X3_hang_b87 h0  _ _
  ·
    refine T_iload_n 1 dX3_hang_18 rfl rfl ?_
    refine T_bipush (v := (10 : Int32)) (by decide) dX3_hang_19 ?_
    refine T_irem dX3_hang_21 ?_
    refine T_iw (fun v1 => ?_)
    try dsimp only
    refine T_istore [(5, .int v1), (0, .ref i0), (2, .int x2), (3, .int x3), (4, .int x4)] dX3_hang_22 (by decide) rfl ?_
    refine T_iload 0 dX3_hang_24 rfl ?_
    refine T_iconst (v := (0 : Int32)) (by decide) dX3_hang_26 ?_
    refine T_aload_n 1 dX3_hang_27 rfl rfl ?_
    refine T_getR 0 FOk_3 h0 (by decide) (by decide) dX3_hang_28 tb_254 ?_
    refine T_alen (v := (6 : Int32)) (t := 0) (kf_3_0 h0) (by decide) dX3_hang_31 ?_
    refine T_iconst (v := (1 : Int32)) (by decide) dX3_hang_32 ?_
    refine T_isub dX3_hang_33 ?_
    refine T_callSNI md_X11_isWithin [.int v1, .int (0 : Int32), .int ((6 : Int32) - (1 : Int32))] [] dX3_hang_34 rfl ok_X11_isWithin tb_579 tb_362 (by decide) (Nat.le_of_ble_eq_true rfl) (fun _ _ h9 => C_X11_isWithin  _ _ _ h9) (fun r2 M2 => ?_)
    dsimp only
    refine T_if_eq 49 dX3_hang_37 (by decide) ?_ ?_
    ·
      refine T_sub [] (lv' := []) rfl ?_
      exact t_X3_hang_b49 h0   _
    ·
      refine T_iload_n 3 dX3_hang_40 rfl rfl ?_
      refine T_iload 0 dX3_hang_41 rfl ?_
      refine T_callSNI md_X11_isIn [.int x3, .int v1] [] dX3_hang_43 rfl ok_X11_isIn tb_580 tb_474 (by decide) (Nat.le_of_ble_eq_true rfl) (fun _ _ h9 => C_X11_isIn  _ _ h9) (fun r3 M3 => ?_)
      dsimp only
      refine T_if_eq 51 dX3_hang_46 (by decide) ?_ ?_
      ·
        refine T_iload_n 3 dX3_hang_51 rfl rfl ?_
        refine T_iconst (v := (1 : Int32)) (by decide) dX3_hang_52 ?_
        refine T_iload 0 dX3_hang_53 rfl ?_
        refine T_ishl dX3_hang_55 ?_
        refine T_ior dX3_hang_56 ?_
        refine T_iw (fun v4 => ?_)
        try dsimp only
        refine T_istore_n [(3, .int v4), (5, .int v1), (0, .ref i0), (2, .int x2), (4, .int x4)] dX3_hang_57 rfl (by decide) rfl ?_
        refine T_aload_n 2 dX3_hang_58 rfl rfl ?_
        refine T_getR 0 FOk_3 h0 (by decide) (by decide) dX3_hang_59 tb_254 ?_
        refine T_iload 4 dX3_hang_62 rfl ?_
        refine T_iload 1 dX3_hang_64 rfl ?_
        refine T_iast (kf_3_0 h0) dX3_hang_66 ?_
        refine T_iload_n 3 dX3_hang_67 rfl rfl ?_
        refine T_bipush (v := (10 : Int32)) (by decide) dX3_hang_68 ?_
        refine T_idiv dX3_hang_70 ?_
        refine T_istore_n [(2, .int (x2 / (10 : Int32))), (3, .int v4), (5, .int v1), (0, .ref i0), (4, .int x4)] dX3_hang_71 rfl (by decide) rfl ?_
        refine T_iinc 4 [(4, .int (x4 + (-1 : Int32))), (2, .int (x2 / (10 : Int32))), (3, .int v4), (5, .int v1), (0, .ref i0)] (v := (-1 : Int32)) dX3_hang_72 rfl (by decide) (by decide) rfl ?_
        refine T_goto 13 dX3_hang_75 (by decide) ?_
        refine T_sub [4, 1, 2, 0] (lv' := [(0, .ref i0), (2, .int (x2 / (10 : Int32))), (3, .int v4), (4, .int (x4 + (-1 : Int32)))]) rfl ?_
        exact hk13 _ _ _ _
      ·
        refine T_sub [] (lv' := []) rfl ?_
        exact t_X3_hang_b49 h0   _
theorem t_X3_hang_l13 {X : Scr} {i0 : Nat} (h0 : KD[i0]? = some (.inl 3)) (n : Nat) : ∀ (x2 : Int32) (x3 : Int32) (x4 : Int32) (M : Mem), T X eI (X3_hang_l13 i0  n x2 x3 x4 M) md_X3_hang 13 [(0, .ref i0), (2, .int x2), (3, .int x3), (4, .int x4)] [] M := by
  induction n with
  | zero => intro x2 x3 x4 M; exact T_none
  | succ n ih => intro x2 x3 x4 M; exact t_X3_hang_b13 h0 ih x2 x3 x4 M
set_option maxHeartbeats 4000000 in
set_option maxRecDepth 100000 in
theorem t_X3_hang {X : Scr} {i0 : Nat} (h0 : KD[i0]? = some (.inl 3)) (x1 : Int32) (M : Mem) : T X eI (X3_hang i0  x1 M) md_X3_hang 0 [(0, .ref i0), (1, .int x1)] [] M := by
  unfold X3_hang
  refine T_iload_n 1 dX3_hang_0 rfl rfl ?_
  refine T_istore_n [(2, .int x1), (0, .ref i0), (1, .int x1)] dX3_hang_1 rfl (by decide) rfl ?_
  refine T_iconst (v := (0 : Int32)) (by decide) dX3_hang_2 ?_
  refine T_istore_n [(3, .int (0 : Int32)), (2, .int x1), (0, .ref i0), (1, .int x1)] dX3_hang_3 rfl (by decide) rfl ?_
  refine T_aload_n 2 dX3_hang_4 rfl rfl ?_
  refine T_getR 0 FOk_3 h0 (by decide) (by decide) dX3_hang_5 tb_254 ?_
  refine T_alen (v := (6 : Int32)) (t := 0) (kf_3_0 h0) (by decide) dX3_hang_8 ?_
  refine T_iconst (v := (1 : Int32)) (by decide) dX3_hang_9 ?_
  refine T_isub dX3_hang_10 ?_
  refine T_istore [(4, .int ((6 : Int32) - (1 : Int32))), (3, .int (0 : Int32)), (2, .int x1), (0, .ref i0), (1, .int x1)] dX3_hang_11 (by decide) rfl ?_
  refine T_sub [3, 2, 1, 0] (lv' := [(0, .ref i0), (2, .int x1), (3, .int (0 : Int32)), (4, .int ((6 : Int32) - (1 : Int32)))]) rfl ?_
  exact t_X3_hang_l13 h0  _ _ _ _ _
theorem C_X3_hang {X : Scr} {i0 : Nat} (h0 : KD[i0]? = some (.inl 3)) (x1 : Int32) {M : Mem} {r : Int32} {M' : Mem} (h : X3_hang i0 x1 M = some (r, M')) : Ct X md_X3_hang [.ref i0, .int x1] M (eI r) M' := Ct_of (by decide +kernel) (Nat.le_of_ble_eq_true rfl) (t_X3_hang h0 _ M) r M' h
-- X3_leastMultiple
def X3_leastMultiple_b25   (x2 : Int32) (M : Mem) : Option (Int32 × Mem) :=
  some (x2, M)
def X3_leastMultiple_b4  (k4 : Int32 → Int32 → Int32 → Int32 → Mem → Option (Int32 × Mem)) (x0 : Int32) (x1 : Int32) (x2 : Int32) (x3 : Int32) (M : Mem) : Option (Int32 × Mem) :=
  if x1 ≤ x3 then
    X3_leastMultiple_b25   x2 M
  else
    gd (!(x1 == 0)) (
      if (x2 - x2 / x1 * x1) = 0 then
        X3_leastMultiple_b25   x2 M
      else
        k4 x0 x1 (x2 + x0) (x3 + (1 : Int32)) M)
def X3_leastMultiple_l4   : Nat → Int32 → Int32 → Int32 → Int32 → Mem → Option (Int32 × Mem)
  | 0 => fun _ _ _ _ _ => none
  | n + 1 => X3_leastMultiple_b4  (X3_leastMultiple_l4   n)
def X3_leastMultiple   (x0 : Int32) (x1 : Int32) (M : Mem) : Option (Int32 × Mem) :=
  X3_leastMultiple_l4   FU x0 x1 x0 (1 : Int32) M
set_option maxHeartbeats 4000000 in
set_option maxRecDepth 100000 in
theorem t_X3_leastMultiple_b25 {X : Scr}   (x2 : Int32) (M : Mem) : T X eI (X3_leastMultiple_b25   x2 M) md_X3_leastMultiple 25 [(2, .int x2)] [] M := by
  unfold X3_leastMultiple_b25
  refine T_iload_n 0 dX3_leastMultiple_25 rfl rfl ?_
  exact T_iret dX3_leastMultiple_26 rfl
set_option maxHeartbeats 4000000 in
set_option maxRecDepth 100000 in
theorem t_X3_leastMultiple_b4 {X : Scr}   {k4 : Int32 → Int32 → Int32 → Int32 → Mem → Option (Int32 × Mem)} (hk4 : ∀ (x0 : Int32) (x1 : Int32) (x2 : Int32) (x3 : Int32) (M : Mem), T X eI (k4 x0 x1 x2 x3 M) md_X3_leastMultiple 4 [(0, .int x0), (1, .int x1), (2, .int x2), (3, .int x3)] [] M) (x0 : Int32) (x1 : Int32) (x2 : Int32) (x3 : Int32) (M : Mem) : T X eI (X3_leastMultiple_b4  k4 x0 x1 x2 x3 M) md_X3_leastMultiple 4 [(0, .int x0), (1, .int x1), (2, .int x2), (3, .int x3)] [] M := by
  unfold X3_leastMultiple_b4
  refine T_iload_n 3 dX3_leastMultiple_4 rfl rfl ?_
  refine T_iload_n 1 dX3_leastMultiple_5 rfl rfl ?_
  refine T_icmp_ge 25 dX3_leastMultiple_6 (by decide) ?_ ?_
  ·
    refine T_sub [2] (lv' := [(2, .int x2)]) rfl ?_
    exact t_X3_leastMultiple_b25   _ _
  ·
    refine T_iload_n 2 dX3_leastMultiple_9 rfl rfl ?_
    refine T_iload_n 1 dX3_leastMultiple_10 rfl rfl ?_
    refine T_irem dX3_leastMultiple_11 ?_
    refine T_if_eq 25 dX3_leastMultiple_12 (by decide) ?_ ?_
    ·
      refine T_sub [2] (lv' := [(2, .int x2)]) rfl ?_
      exact t_X3_leastMultiple_b25   _ _
    ·
      refine T_iload_n 2 dX3_leastMultiple_15 rfl rfl ?_
      refine T_iload_n 0 dX3_leastMultiple_16 rfl rfl ?_
      refine T_iadd dX3_leastMultiple_17 ?_
      refine T_istore_n [(2, .int (x2 + x0)), (0, .int x0), (1, .int x1), (3, .int x3)] dX3_leastMultiple_18 rfl (by decide) rfl ?_
      refine T_iinc 3 [(3, .int (x3 + (1 : Int32))), (2, .int (x2 + x0)), (0, .int x0), (1, .int x1)] (v := (1 : Int32)) dX3_leastMultiple_19 rfl (by decide) (by decide) rfl ?_
      refine T_goto 4 dX3_leastMultiple_22 (by decide) ?_
      refine T_sub [2, 3, 1, 0] (lv' := [(0, .int x0), (1, .int x1), (2, .int (x2 + x0)), (3, .int (x3 + (1 : Int32)))]) rfl ?_
      exact hk4 _ _ _ _ _
theorem t_X3_leastMultiple_l4 {X : Scr}   (n : Nat) : ∀ (x0 : Int32) (x1 : Int32) (x2 : Int32) (x3 : Int32) (M : Mem), T X eI (X3_leastMultiple_l4   n x0 x1 x2 x3 M) md_X3_leastMultiple 4 [(0, .int x0), (1, .int x1), (2, .int x2), (3, .int x3)] [] M := by
  induction n with
  | zero => intro x0 x1 x2 x3 M; exact T_none
  | succ n ih => intro x0 x1 x2 x3 M; exact t_X3_leastMultiple_b4  ih x0 x1 x2 x3 M
set_option maxHeartbeats 4000000 in
set_option maxRecDepth 100000 in
theorem t_X3_leastMultiple {X : Scr}   (x0 : Int32) (x1 : Int32) (M : Mem) : T X eI (X3_leastMultiple   x0 x1 M) md_X3_leastMultiple 0 [(0, .int x0), (1, .int x1)] [] M := by
  unfold X3_leastMultiple
  refine T_iload_n 0 dX3_leastMultiple_0 rfl rfl ?_
  refine T_istore_n [(2, .int x0), (0, .int x0), (1, .int x1)] dX3_leastMultiple_1 rfl (by decide) rfl ?_
  refine T_iconst (v := (1 : Int32)) (by decide) dX3_leastMultiple_2 ?_
  refine T_istore_n [(3, .int (1 : Int32)), (2, .int x0), (0, .int x0), (1, .int x1)] dX3_leastMultiple_3 rfl (by decide) rfl ?_
  refine T_sub [2, 3, 1, 0] (lv' := [(0, .int x0), (1, .int x1), (2, .int x0), (3, .int (1 : Int32))]) rfl ?_
  exact t_X3_leastMultiple_l4   _ _ _ _ _ _
theorem C_X3_leastMultiple {X : Scr}   (x0 : Int32) (x1 : Int32) {M : Mem} {r : Int32} {M' : Mem} (h : X3_leastMultiple  x0 x1 M = some (r, M')) : Ct X md_X3_leastMultiple [.int x0, .int x1] M (eI r) M' := Ct_of (by decide +kernel) (Nat.le_of_ble_eq_true rfl) (t_X3_leastMultiple  _ _ M) r M' h
-- X3_follow
def X3_follow_b96 (i0 : Nat) (k14 : Int32 → Int32 → Mem → Option (Unit × Mem)) (x1 : Int32) (x2 : Int32) (M : Mem) : Option (Unit × Mem) :=
  k14 x1 (x2 + (1 : Int32)) M
def X3_follow_b68 (i0 : Nat) (k14 : Int32 → Int32 → Mem → Option (Unit × Mem)) (x1 : Int32) (x2 : Int32) (x3 : Int32) (M : Mem) : Option (Unit × Mem) :=
  if x3 ≤ 0 then
    X3_follow_b96 i0 k14 x1 x2 M
  else
    mw (mI M i0 1 ((M.1 i0 1) + (x3 - (1 : Int32)))) (fun N1 =>
      (X3_leastMultiple  (N1.1 i0 2) x3 N1).bind (fun p2 =>
        mw (mI p2.2 i0 2 p2.1) (fun N3 =>
          X3_follow_b96 i0 k14 x1 x2 N3)))
def X3_follow_b28 (i0 : Nat) (k14 : Int32 → Int32 → Mem → Option (Unit × Mem)) (k28 : Int32 → Int32 → Int32 → Int32 → Mem → Option (Unit × Mem)) (x1 : Int32) (x2 : Int32) (x3 : Int32) (x4 : Int32) (M : Mem) : Option (Unit × Mem) :=
  if (6 : Int32) ≤ x3 then
    X3_follow_b68 i0 k14 x1 x2 x3 M
  else
    (X11_isIn  x1 x4 M).bind (fun p1 =>
      if p1.1 = 0 then
        iw (x1 ||| ((1 : Int32) <<< (x4 &&& 31))) (fun v2 =>
          gd (ib x4 6) (
            iw (p1.2.1 (rf i0 0) x4.toNatClampNeg) (fun v3 =>
              k28 v2 x2 (x3 + (1 : Int32)) v3 p1.2)))
      else
        X3_follow_b68 i0 k14 x1 x2 x3 p1.2)
def X3_follow_l28 (i0 : Nat) (k14 : Int32 → Int32 → Mem → Option (Unit × Mem)) : Nat → Int32 → Int32 → Int32 → Int32 → Mem → Option (Unit × Mem)
  | 0 => fun _ _ _ _ _ => none
  | n + 1 => X3_follow_b28 i0 k14 (X3_follow_l28 i0 k14 n)
def X3_follow_b14 (i0 : Nat) (k14 : Int32 → Int32 → Mem → Option (Unit × Mem)) (x1 : Int32) (x2 : Int32) (M : Mem) : Option (Unit × Mem) :=
  if (6 : Int32) ≤ x2 then
    some ((), M)
  else
    X3_follow_l28 i0 k14 FU x1 x2 (0 : Int32) x2 M
def X3_follow_l14 (i0 : Nat)  : Nat → Int32 → Int32 → Mem → Option (Unit × Mem)
  | 0 => fun _ _ _ => none
  | n + 1 => X3_follow_b14 i0 (X3_follow_l14 i0  n)
def X3_follow (i0 : Nat)   (M : Mem) : Option (Unit × Mem) :=
  mw (mI M i0 1 (0 : Int32)) (fun N1 =>
    mw (mI N1 i0 2 (1 : Int32)) (fun N2 =>
      X3_follow_l14 i0  FU (0 : Int32) (0 : Int32) N2))
set_option maxHeartbeats 4000000 in
set_option maxRecDepth 100000 in
theorem t_X3_follow_b96 {X : Scr} {i0 : Nat} (h0 : KD[i0]? = some (.inl 3)) {k14 : Int32 → Int32 → Mem → Option (Unit × Mem)} (hk14 : ∀ (x1 : Int32) (x2 : Int32) (M : Mem), T X eV (k14 x1 x2 M) md_X3_follow 14 [(0, .ref i0), (1, .int x1), (2, .int x2)] [] M) (x1 : Int32) (x2 : Int32) (M : Mem) : T X eV (X3_follow_b96 i0 k14 x1 x2 M) md_X3_follow 96 [(0, .ref i0), (1, .int x1), (2, .int x2)] [] M := by
  unfold X3_follow_b96
  refine T_iinc 2 [(2, .int (x2 + (1 : Int32))), (0, .ref i0), (1, .int x1)] (v := (1 : Int32)) dX3_follow_96 rfl (by decide) (by decide) rfl ?_
  refine T_goto 14 dX3_follow_99 (by decide) ?_
  refine T_sub [1, 2, 0] (lv' := [(0, .ref i0), (1, .int x1), (2, .int (x2 + (1 : Int32)))]) rfl ?_
  exact hk14 _ _ _
set_option maxHeartbeats 4000000 in
set_option maxRecDepth 100000 in
theorem t_X3_follow_b68 {X : Scr} {i0 : Nat} (h0 : KD[i0]? = some (.inl 3)) {k14 : Int32 → Int32 → Mem → Option (Unit × Mem)} (hk14 : ∀ (x1 : Int32) (x2 : Int32) (M : Mem), T X eV (k14 x1 x2 M) md_X3_follow 14 [(0, .ref i0), (1, .int x1), (2, .int x2)] [] M) (x1 : Int32) (x2 : Int32) (x3 : Int32) (M : Mem) : T X eV (X3_follow_b68 i0 k14 x1 x2 x3 M) md_X3_follow 68 [(0, .ref i0), (1, .int x1), (2, .int x2), (3, .int x3)] [] M := by
  unfold X3_follow_b68
  refine T_iload_n 3 dX3_follow_68 rfl rfl ?_
  refine T_if_le 96 dX3_follow_69 (by decide) ?_ ?_
  ·
    refine T_sub [0, 1, 2] (lv' := [(0, .ref i0), (1, .int x1), (2, .int x2)]) rfl ?_
    exact t_X3_follow_b96 h0 hk14 _ _ _
  ·
    refine T_aload_n 0 dX3_follow_72 rfl rfl ?_
    refine T_dup rfl dX3_follow_73 ?_
    refine T_getI 1 FOk_3 h0 (by decide) (by decide) dX3_follow_74 tb_255 ?_
    refine T_iload_n 3 dX3_follow_77 rfl rfl ?_
    refine T_iconst (v := (1 : Int32)) (by decide) dX3_follow_78 ?_
    refine T_isub dX3_follow_79 ?_
    refine T_iadd dX3_follow_80 ?_
    refine T_putI (ty := .int) 1 FOk_3 h0 (by decide) (by decide) rfl (by decide +kernel) rfl rfl dX3_follow_81 tb_255 ?_
    refine T_mw (fun N1 => ?_)
    try dsimp only
    refine T_aload_n 0 dX3_follow_84 rfl rfl ?_
    refine T_aload_n 0 dX3_follow_85 rfl rfl ?_
    refine T_getI 2 FOk_3 h0 (by decide) (by decide) dX3_follow_86 tb_257 ?_
    refine T_iload_n 3 dX3_follow_89 rfl rfl ?_
    refine T_callSI md_X3_leastMultiple [.int (N1.1 i0 2), .int x3] [.ref i0] dX3_follow_90 rfl ok_X3_leastMultiple tb_585 tb_586 (by decide) (Nat.le_of_ble_eq_true rfl) (fun _ _ h9 => C_X3_leastMultiple  _ _ h9) (fun r2 M2 => ?_)
    dsimp only
    refine T_putI (ty := .int) 2 FOk_3 h0 (by decide) (by decide) rfl (by decide +kernel) rfl rfl dX3_follow_93 tb_257 ?_
    refine T_mw (fun N3 => ?_)
    try dsimp only
    refine T_sub [0, 1, 2] (lv' := [(0, .ref i0), (1, .int x1), (2, .int x2)]) rfl ?_
    exact t_X3_follow_b96 h0 hk14 _ _ _
set_option maxHeartbeats 4000000 in
set_option maxRecDepth 100000 in
theorem t_X3_follow_b28 {X : Scr} {i0 : Nat} (h0 : KD[i0]? = some (.inl 3)) {k14 : Int32 → Int32 → Mem → Option (Unit × Mem)} (hk14 : ∀ (x1 : Int32) (x2 : Int32) (M : Mem), T X eV (k14 x1 x2 M) md_X3_follow 14 [(0, .ref i0), (1, .int x1), (2, .int x2)] [] M) {k28 : Int32 → Int32 → Int32 → Int32 → Mem → Option (Unit × Mem)} (hk28 : ∀ (x1 : Int32) (x2 : Int32) (x3 : Int32) (x4 : Int32) (M : Mem), T X eV (k28 x1 x2 x3 x4 M) md_X3_follow 28 [(0, .ref i0), (1, .int x1), (2, .int x2), (3, .int x3), (4, .int x4)] [] M) (x1 : Int32) (x2 : Int32) (x3 : Int32) (x4 : Int32) (M : Mem) : T X eV (X3_follow_b28 i0 k14 k28 x1 x2 x3 x4 M) md_X3_follow 28 [(0, .ref i0), (1, .int x1), (2, .int x2), (3, .int x3), (4, .int x4)] [] M := by
  unfold X3_follow_b28
  refine T_iload_n 3 dX3_follow_28 rfl rfl ?_
  refine T_aload_n 0 dX3_follow_29 rfl rfl ?_
  refine T_getR 0 FOk_3 h0 (by decide) (by decide) dX3_follow_30 tb_254 ?_
  refine T_alen (v := (6 : Int32)) (t := 0) (kf_3_0 h0) (by decide) dX3_follow_33 ?_
  refine T_icmp_ge 68 dX3_follow_34 (by decide) ?_ ?_
  ·
    refine T_sub [0, 1, 2, 3] (lv' := [(0, .ref i0), (1, .int x1), (2, .int x2), (3, .int x3)]) rfl ?_
    exact t_X3_follow_b68 h0 hk14 _ _ _ _
  ·
    refine T_iload_n 1 dX3_follow_37 rfl rfl ?_
    refine T_iload 4 dX3_follow_38 rfl ?_
    refine T_callSNI md_X11_isIn [.int x1, .int x4] [] dX3_follow_40 rfl ok_X11_isIn tb_580 tb_474 (by decide) (Nat.le_of_ble_eq_true rfl) (fun _ _ h9 => C_X11_isIn  _ _ h9) (fun r1 M1 => ?_)
    dsimp only
    refine T_if_ne 68 dX3_follow_43 (by decide) ?_ ?_
    ·
      refine T_iload_n 1 dX3_follow_46 rfl rfl ?_
      refine T_iconst (v := (1 : Int32)) (by decide) dX3_follow_47 ?_
      refine T_iload 4 dX3_follow_48 rfl ?_
      refine T_ishl dX3_follow_50 ?_
      refine T_ior dX3_follow_51 ?_
      refine T_iw (fun v2 => ?_)
      try dsimp only
      refine T_istore_n [(1, .int v2), (0, .ref i0), (2, .int x2), (3, .int x3), (4, .int x4)] dX3_follow_52 rfl (by decide) rfl ?_
      refine T_aload_n 1 dX3_follow_53 rfl rfl ?_
      refine T_getR 0 FOk_3 h0 (by decide) (by decide) dX3_follow_54 tb_254 ?_
      refine T_iload 4 dX3_follow_57 rfl ?_
      refine T_iald (kf_3_0 h0) dX3_follow_59 ?_
      refine T_iw (fun v3 => ?_)
      try dsimp only
      refine T_istore [(4, .int v3), (1, .int v2), (0, .ref i0), (2, .int x2), (3, .int x3)] dX3_follow_60 (by decide) rfl ?_
      refine T_iinc 4 [(3, .int (x3 + (1 : Int32))), (4, .int v3), (1, .int v2), (0, .ref i0), (2, .int x2)] (v := (1 : Int32)) dX3_follow_62 rfl (by decide) (by decide) rfl ?_
      refine T_goto 28 dX3_follow_65 (by decide) ?_
      refine T_sub [3, 2, 4, 0, 1] (lv' := [(0, .ref i0), (1, .int v2), (2, .int x2), (3, .int (x3 + (1 : Int32))), (4, .int v3)]) rfl ?_
      exact hk28 _ _ _ _ _
    ·
      refine T_sub [0, 1, 2, 3] (lv' := [(0, .ref i0), (1, .int x1), (2, .int x2), (3, .int x3)]) rfl ?_
      exact t_X3_follow_b68 h0 hk14 _ _ _ _
theorem t_X3_follow_l28 {X : Scr} {i0 : Nat} (h0 : KD[i0]? = some (.inl 3)) {k14 : Int32 → Int32 → Mem → Option (Unit × Mem)} (hk14 : ∀ (x1 : Int32) (x2 : Int32) (M : Mem), T X eV (k14 x1 x2 M) md_X3_follow 14 [(0, .ref i0), (1, .int x1), (2, .int x2)] [] M) (n : Nat) : ∀ (x1 : Int32) (x2 : Int32) (x3 : Int32) (x4 : Int32) (M : Mem), T X eV (X3_follow_l28 i0 k14 n x1 x2 x3 x4 M) md_X3_follow 28 [(0, .ref i0), (1, .int x1), (2, .int x2), (3, .int x3), (4, .int x4)] [] M := by
  induction n with
  | zero => intro x1 x2 x3 x4 M; exact T_none
  | succ n ih => intro x1 x2 x3 x4 M; exact t_X3_follow_b28 h0 hk14 ih x1 x2 x3 x4 M
set_option maxHeartbeats 4000000 in
set_option maxRecDepth 100000 in
theorem t_X3_follow_b14 {X : Scr} {i0 : Nat} (h0 : KD[i0]? = some (.inl 3)) {k14 : Int32 → Int32 → Mem → Option (Unit × Mem)} (hk14 : ∀ (x1 : Int32) (x2 : Int32) (M : Mem), T X eV (k14 x1 x2 M) md_X3_follow 14 [(0, .ref i0), (1, .int x1), (2, .int x2)] [] M) (x1 : Int32) (x2 : Int32) (M : Mem) : T X eV (X3_follow_b14 i0 k14 x1 x2 M) md_X3_follow 14 [(0, .ref i0), (1, .int x1), (2, .int x2)] [] M := by
  unfold X3_follow_b14
  refine T_iload_n 2 dX3_follow_14 rfl rfl ?_
  refine T_aload_n 0 dX3_follow_15 rfl rfl ?_
  refine T_getR 0 FOk_3 h0 (by decide) (by decide) dX3_follow_16 tb_254 ?_
  refine T_alen (v := (6 : Int32)) (t := 0) (kf_3_0 h0) (by decide) dX3_follow_19 ?_
  refine T_icmp_ge 102 dX3_follow_20 (by decide) ?_ ?_
  ·
    exact T_vret dX3_follow_102 rfl
  ·
    refine T_iconst (v := (0 : Int32)) (by decide) dX3_follow_23 ?_
    refine T_istore_n [(3, .int (0 : Int32)), (0, .ref i0), (1, .int x1), (2, .int x2)] dX3_follow_24 rfl (by decide) rfl ?_
    refine T_iload_n 3 dX3_follow_25 rfl rfl ?_
    refine T_istore [(4, .int x2), (3, .int (0 : Int32)), (0, .ref i0), (1, .int x1), (2, .int x2)] dX3_follow_26 (by decide) rfl ?_
    refine T_sub [2, 3, 4, 1, 0] (lv' := [(0, .ref i0), (1, .int x1), (2, .int x2), (3, .int (0 : Int32)), (4, .int x2)]) rfl ?_
    exact t_X3_follow_l28 h0 hk14 _ _ _ _ _ _
theorem t_X3_follow_l14 {X : Scr} {i0 : Nat} (h0 : KD[i0]? = some (.inl 3)) (n : Nat) : ∀ (x1 : Int32) (x2 : Int32) (M : Mem), T X eV (X3_follow_l14 i0  n x1 x2 M) md_X3_follow 14 [(0, .ref i0), (1, .int x1), (2, .int x2)] [] M := by
  induction n with
  | zero => intro x1 x2 M; exact T_none
  | succ n ih => intro x1 x2 M; exact t_X3_follow_b14 h0 ih x1 x2 M
set_option maxHeartbeats 4000000 in
set_option maxRecDepth 100000 in
theorem t_X3_follow {X : Scr} {i0 : Nat} (h0 : KD[i0]? = some (.inl 3))  (M : Mem) : T X eV (X3_follow i0   M) md_X3_follow 0 [(0, .ref i0)] [] M := by
  unfold X3_follow
  refine T_aload_n 0 dX3_follow_0 rfl rfl ?_
  refine T_iconst (v := (0 : Int32)) (by decide) dX3_follow_1 ?_
  refine T_putI (ty := .int) 1 FOk_3 h0 (by decide) (by decide) rfl (by decide +kernel) rfl rfl dX3_follow_2 tb_255 ?_
  refine T_mw (fun N1 => ?_)
  try dsimp only
  refine T_aload_n 0 dX3_follow_5 rfl rfl ?_
  refine T_iconst (v := (1 : Int32)) (by decide) dX3_follow_6 ?_
  refine T_putI (ty := .int) 2 FOk_3 h0 (by decide) (by decide) rfl (by decide +kernel) rfl rfl dX3_follow_7 tb_257 ?_
  refine T_mw (fun N2 => ?_)
  try dsimp only
  refine T_iconst (v := (0 : Int32)) (by decide) dX3_follow_10 ?_
  refine T_istore_n [(1, .int (0 : Int32)), (0, .ref i0)] dX3_follow_11 rfl (by decide) rfl ?_
  refine T_iconst (v := (0 : Int32)) (by decide) dX3_follow_12 ?_
  refine T_istore_n [(2, .int (0 : Int32)), (1, .int (0 : Int32)), (0, .ref i0)] dX3_follow_13 rfl (by decide) rfl ?_
  refine T_sub [2, 1, 0] (lv' := [(0, .ref i0), (1, .int (0 : Int32)), (2, .int (0 : Int32))]) rfl ?_
  exact t_X3_follow_l14 h0  _ _ _ _
theorem C_X3_follow {X : Scr} {i0 : Nat} (h0 : KD[i0]? = some (.inl 3))  {M : Mem} {r : Unit} {M' : Mem} (h : X3_follow i0  M = some (r, M')) : Ct X md_X3_follow [.ref i0] M (eV r) M' := Ct_of (by decide +kernel) (Nat.le_of_ble_eq_true rfl) (t_X3_follow h0  M) r M' h
-- X5_thingOn
def X5_thingOn   (x0 : Int32) (x1 : Int32) (x2 : Int32) (M : Mem) : Option (Int32 × Mem) :=
  gd (!((8 : Int32) == 0)) (
    some ((((x1 * x0) + x2) - ((x1 * x0) + x2) / (8 : Int32) * (8 : Int32)), M))
set_option maxHeartbeats 4000000 in
set_option maxRecDepth 100000 in
theorem t_X5_thingOn {X : Scr}   (x0 : Int32) (x1 : Int32) (x2 : Int32) (M : Mem) : T X eI (X5_thingOn   x0 x1 x2 M) md_X5_thingOn 0 [(0, .int x0), (1, .int x1), (2, .int x2)] [] M := by
  unfold X5_thingOn
  refine T_iload_n 1 dX5_thingOn_0 rfl rfl ?_
  refine T_iload_n 0 dX5_thingOn_1 rfl rfl ?_
  refine T_imul dX5_thingOn_2 ?_
  refine T_iload_n 2 dX5_thingOn_3 rfl rfl ?_
  refine T_iadd dX5_thingOn_4 ?_
  refine T_bipush (v := (8 : Int32)) (by decide) dX5_thingOn_5 ?_
  refine T_irem dX5_thingOn_7 ?_
  exact T_iret dX5_thingOn_8 rfl
theorem C_X5_thingOn {X : Scr}   (x0 : Int32) (x1 : Int32) (x2 : Int32) {M : Mem} {r : Int32} {M' : Mem} (h : X5_thingOn  x0 x1 x2 M = some (r, M')) : Ct X md_X5_thingOn [.int x0, .int x1, .int x2] M (eI r) M' := Ct_of (by decide +kernel) (Nat.le_of_ble_eq_true rfl) (t_X5_thingOn  _ _ _ M) r M' h
-- X5_agree
def X5_agree_b2 (i0 : Nat) (k2 : Int32 → Int32 → Int32 → Mem → Option (Int32 × Mem)) (x1 : Int32) (x2 : Int32) (x3 : Int32) (M : Mem) : Option (Int32 × Mem) :=
  if (M.1 i0 2) ≤ x3 then
    some ((1 : Int32), M)
  else
    gd (ib x3 8) (
      (X5_thingOn  (M.1 (rf i0 0) x3.toNatClampNeg) x1 x2 M).bind (fun p1 =>
        gd (ib x3 8) (
          if p1.1 = (p1.2.1 (rf i0 1) x3.toNatClampNeg) then
            k2 x1 x2 (x3 + (1 : Int32)) p1.2
          else
            some ((0 : Int32), p1.2))))
def X5_agree_l2 (i0 : Nat)  : Nat → Int32 → Int32 → Int32 → Mem → Option (Int32 × Mem)
  | 0 => fun _ _ _ _ => none
  | n + 1 => X5_agree_b2 i0 (X5_agree_l2 i0  n)
def X5_agree (i0 : Nat)  (x1 : Int32) (x2 : Int32) (M : Mem) : Option (Int32 × Mem) :=
  X5_agree_l2 i0  FU x1 x2 (0 : Int32) M
set_option maxHeartbeats 4000000 in
set_option maxRecDepth 100000 in
theorem t_X5_agree_b2 {X : Scr} {i0 : Nat} (h0 : KD[i0]? = some (.inl 7)) {k2 : Int32 → Int32 → Int32 → Mem → Option (Int32 × Mem)} (hk2 : ∀ (x1 : Int32) (x2 : Int32) (x3 : Int32) (M : Mem), T X eI (k2 x1 x2 x3 M) md_X5_agree 2 [(0, .ref i0), (1, .int x1), (2, .int x2), (3, .int x3)] [] M) (x1 : Int32) (x2 : Int32) (x3 : Int32) (M : Mem) : T X eI (X5_agree_b2 i0 k2 x1 x2 x3 M) md_X5_agree 2 [(0, .ref i0), (1, .int x1), (2, .int x2), (3, .int x3)] [] M := by
  unfold X5_agree_b2
  refine T_iload_n 3 dX5_agree_2 rfl rfl ?_
  refine T_aload_n 0 dX5_agree_3 rfl rfl ?_
  refine T_getI 2 FOk_7 h0 (by decide) (by decide) dX5_agree_4 tb_129 ?_
  refine T_icmp_ge 38 dX5_agree_7 (by decide) ?_ ?_
  ·
    refine T_iconst (v := (1 : Int32)) (by decide) dX5_agree_38 ?_
    exact T_zret1 dX5_agree_39 rfl
  ·
    refine T_aload_n 0 dX5_agree_10 rfl rfl ?_
    refine T_getR 0 FOk_7 h0 (by decide) (by decide) dX5_agree_11 tb_125 ?_
    refine T_iload_n 3 dX5_agree_14 rfl rfl ?_
    refine T_iald (kf_7_0 h0) dX5_agree_15 ?_
    refine T_iload_n 1 dX5_agree_16 rfl rfl ?_
    refine T_iload_n 2 dX5_agree_17 rfl rfl ?_
    refine T_callSI md_X5_thingOn [.int (M.1 (rf i0 0) x3.toNatClampNeg), .int x1, .int x2] [] dX5_agree_18 rfl ok_X5_thingOn tb_611 tb_612 (by decide) (Nat.le_of_ble_eq_true rfl) (fun _ _ h9 => C_X5_thingOn  _ _ _ h9) (fun r1 M1 => ?_)
    dsimp only
    refine T_aload_n 0 dX5_agree_21 rfl rfl ?_
    refine T_getR 1 FOk_7 h0 (by decide) (by decide) dX5_agree_22 tb_127 ?_
    refine T_iload_n 3 dX5_agree_25 rfl rfl ?_
    refine T_iald (kf_7_1 h0) dX5_agree_26 ?_
    refine T_icmp_eq 32 dX5_agree_27 (by decide) ?_ ?_
    ·
      refine T_iinc 3 [(3, .int (x3 + (1 : Int32))), (0, .ref i0), (1, .int x1), (2, .int x2)] (v := (1 : Int32)) dX5_agree_32 rfl (by decide) (by decide) rfl ?_
      refine T_goto 2 dX5_agree_35 (by decide) ?_
      refine T_sub [1, 2, 3, 0] (lv' := [(0, .ref i0), (1, .int x1), (2, .int x2), (3, .int (x3 + (1 : Int32)))]) rfl ?_
      exact hk2 _ _ _ _
    ·
      refine T_iconst (v := (0 : Int32)) (by decide) dX5_agree_30 ?_
      exact T_zret0 dX5_agree_31 rfl
theorem t_X5_agree_l2 {X : Scr} {i0 : Nat} (h0 : KD[i0]? = some (.inl 7)) (n : Nat) : ∀ (x1 : Int32) (x2 : Int32) (x3 : Int32) (M : Mem), T X eI (X5_agree_l2 i0  n x1 x2 x3 M) md_X5_agree 2 [(0, .ref i0), (1, .int x1), (2, .int x2), (3, .int x3)] [] M := by
  induction n with
  | zero => intro x1 x2 x3 M; exact T_none
  | succ n ih => intro x1 x2 x3 M; exact t_X5_agree_b2 h0 ih x1 x2 x3 M
set_option maxHeartbeats 4000000 in
set_option maxRecDepth 100000 in
theorem t_X5_agree {X : Scr} {i0 : Nat} (h0 : KD[i0]? = some (.inl 7)) (x1 : Int32) (x2 : Int32) (M : Mem) : T X eI (X5_agree i0  x1 x2 M) md_X5_agree 0 [(0, .ref i0), (1, .int x1), (2, .int x2)] [] M := by
  unfold X5_agree
  refine T_iconst (v := (0 : Int32)) (by decide) dX5_agree_0 ?_
  refine T_istore_n [(3, .int (0 : Int32)), (0, .ref i0), (1, .int x1), (2, .int x2)] dX5_agree_1 rfl (by decide) rfl ?_
  refine T_sub [1, 2, 3, 0] (lv' := [(0, .ref i0), (1, .int x1), (2, .int x2), (3, .int (0 : Int32))]) rfl ?_
  exact t_X5_agree_l2 h0  _ _ _ _ _
theorem C_X5_agree {X : Scr} {i0 : Nat} (h0 : KD[i0]? = some (.inl 7)) (x1 : Int32) (x2 : Int32) {M : Mem} {r : Int32} {M' : Mem} (h : X5_agree i0 x1 x2 M = some (r, M')) : Ct X md_X5_agree [.ref i0, .int x1, .int x2] M (eI r) M' := Ct_of (by decide +kernel) (Nat.le_of_ble_eq_true rfl) (t_X5_agree h0 _ _ M) r M' h
