-- X1_walk
def X1_walk_b59   (x1 : Int32) (x2 : Int32) (x4 : Int32) (x5 : Int32) (M : Mem) : Option (Int32 × Mem) :=
  (J9_min_7cf53  (((x1 - x4) + x5) - x2) (((x5 - x1) + x2) - x4) M).bind (fun p1 =>
    some (((x5 - x4) + p1.1), p1.2))
def X1_walk_b39  (k39 : Int32 → Int32 → Int32 → Int32 → Int32 → Mem → Option (Int32 × Mem)) (x1 : Int32) (x2 : Int32) (x3 : Int32) (x4 : Int32) (x5 : Int32) (M : Mem) : Option (Int32 × Mem) :=
  if x5 ≤ 0 then
    X1_walk_b59   x1 x2 x4 x5 M
  else
    (X11_isIn  x3 x5 M).bind (fun p1 =>
      if p1.1 = 0 then
        k39 x1 x2 x3 x4 (x5 + (-1 : Int32)) p1.2
      else
        X1_walk_b59   x1 x2 x4 x5 p1.2)
def X1_walk_l39   : Nat → Int32 → Int32 → Int32 → Int32 → Int32 → Mem → Option (Int32 × Mem)
  | 0 => fun _ _ _ _ _ _ => none
  | n + 1 => X1_walk_b39  (X1_walk_l39   n)
def X1_walk_b35   (x1 : Int32) (x2 : Int32) (x3 : Int32) (x4 : Int32) (M : Mem) : Option (Int32 × Mem) :=
  X1_walk_l39   FU x1 x2 x3 x4 (9 : Int32) M
def X1_walk_b13  (k13 : Int32 → Int32 → Int32 → Int32 → Mem → Option (Int32 × Mem)) (x1 : Int32) (x2 : Int32) (x3 : Int32) (x4 : Int32) (M : Mem) : Option (Int32 × Mem) :=
  if (10 : Int32) ≤ x4 then
    X1_walk_b35   x1 x2 x3 x4 M
  else
    (X11_isIn  x3 x4 M).bind (fun p1 =>
      if p1.1 = 0 then
        k13 x1 x2 x3 (x4 + (1 : Int32)) p1.2
      else
        X1_walk_b35   x1 x2 x3 x4 p1.2)
def X1_walk_l13   : Nat → Int32 → Int32 → Int32 → Int32 → Mem → Option (Int32 × Mem)
  | 0 => fun _ _ _ _ _ => none
  | n + 1 => X1_walk_b13  (X1_walk_l13   n)
def X1_walk   (x0 : Int32) (x1 : Int32) (x2 : Int32) (M : Mem) : Option (Int32 × Mem) :=
  iw ((x0 ||| ((1 : Int32) <<< (x1 &&& 31))) ||| ((1 : Int32) <<< (x2 &&& 31))) (fun v1 =>
    X1_walk_l13   FU x1 x2 v1 (0 : Int32) M)
set_option maxHeartbeats 4000000 in
set_option maxRecDepth 100000 in
theorem t_X1_walk_b59 {X : Scr}   (x1 : Int32) (x2 : Int32) (x4 : Int32) (x5 : Int32) (M : Mem) : T X eI (X1_walk_b59   x1 x2 x4 x5 M) md_X1_walk 59 [(1, .int x1), (2, .int x2), (4, .int x4), (5, .int x5)] [] M := by
  unfold X1_walk_b59
  refine T_iload_n 0 dX1_walk_59 rfl rfl ?_
  refine T_iload 2 dX1_walk_60 rfl ?_
  refine T_isub dX1_walk_62 ?_
  refine T_iload 3 dX1_walk_63 rfl ?_
  refine T_iadd dX1_walk_65 ?_
  refine T_iload_n 1 dX1_walk_66 rfl rfl ?_
  refine T_isub dX1_walk_67 ?_
  refine T_istore [(6, .int (((x1 - x4) + x5) - x2)), (1, .int x1), (2, .int x2), (4, .int x4), (5, .int x5)] dX1_walk_68 (by decide) rfl ?_
  refine T_iload 4 dX1_walk_70 rfl ?_
  refine T_iload_n 1 dX1_walk_72 rfl rfl ?_
  refine T_isub dX1_walk_73 ?_
  refine T_iload_n 2 dX1_walk_74 rfl rfl ?_
  refine T_iadd dX1_walk_75 ?_
  refine T_iload 3 dX1_walk_76 rfl ?_
  refine T_isub dX1_walk_78 ?_
  refine T_istore [(7, .int (((x5 - x1) + x2) - x4)), (6, .int (((x1 - x4) + x5) - x2)), (1, .int x1), (2, .int x2), (4, .int x4), (5, .int x5)] dX1_walk_79 (by decide) rfl ?_
  refine T_iload 5 dX1_walk_81 rfl ?_
  refine T_iload 4 dX1_walk_83 rfl ?_
  refine T_isub dX1_walk_85 ?_
  refine T_iload 1 dX1_walk_86 rfl ?_
  refine T_iload 0 dX1_walk_88 rfl ?_
  refine T_callSI md_J9_min_7cf53 [.int (((x1 - x4) + x5) - x2), .int (((x5 - x1) + x2) - x4)] [.int (x5 - x4)] dX1_walk_90 rfl ok_J9_min_7cf53 tb_534 tb_478 (by decide) (Nat.le_of_ble_eq_true rfl) (fun _ _ h9 => C_J9_min_7cf53  _ _ h9) (fun r1 M1 => ?_)
  dsimp only
  refine T_iadd dX1_walk_93 ?_
  exact T_iret dX1_walk_94 rfl
set_option maxHeartbeats 4000000 in
set_option maxRecDepth 100000 in
theorem t_X1_walk_b39 {X : Scr}   {k39 : Int32 → Int32 → Int32 → Int32 → Int32 → Mem → Option (Int32 × Mem)} (hk39 : ∀ (x1 : Int32) (x2 : Int32) (x3 : Int32) (x4 : Int32) (x5 : Int32) (M : Mem), T X eI (k39 x1 x2 x3 x4 x5 M) md_X1_walk 39 [(1, .int x1), (2, .int x2), (3, .int x3), (4, .int x4), (5, .int x5)] [] M) (x1 : Int32) (x2 : Int32) (x3 : Int32) (x4 : Int32) (x5 : Int32) (M : Mem) : T X eI (X1_walk_b39  k39 x1 x2 x3 x4 x5 M) md_X1_walk 39 [(1, .int x1), (2, .int x2), (3, .int x3), (4, .int x4), (5, .int x5)] [] M := by
  unfold X1_walk_b39
  refine T_iload 4 dX1_walk_39 rfl ?_
  refine T_if_le 59 dX1_walk_41 (by decide) ?_ ?_
  ·
    refine T_sub [0, 1, 3, 4] (lv' := [(1, .int x1), (2, .int x2), (4, .int x4), (5, .int x5)]) rfl ?_
    exact t_X1_walk_b59   _ _ _ _ _
  ·
    refine T_iload_n 2 dX1_walk_44 rfl rfl ?_
    refine T_iload 4 dX1_walk_45 rfl ?_
    refine T_callSNI md_X11_isIn [.int x3, .int x5] [] dX1_walk_47 rfl ok_X11_isIn tb_533 tb_474 (by decide) (Nat.le_of_ble_eq_true rfl) (fun _ _ h9 => C_X11_isIn  _ _ h9) (fun r1 M1 => ?_)
    dsimp only
    refine T_if_ne 59 dX1_walk_50 (by decide) ?_ ?_
    ·
      refine T_iinc 4 [(5, .int (x5 + (-1 : Int32))), (1, .int x1), (2, .int x2), (3, .int x3), (4, .int x4)] (v := (-1 : Int32)) dX1_walk_53 rfl (by decide) (by decide) rfl ?_
      refine T_goto 39 dX1_walk_56 (by decide) ?_
      refine T_sub [1, 2, 3, 4, 0] (lv' := [(1, .int x1), (2, .int x2), (3, .int x3), (4, .int x4), (5, .int (x5 + (-1 : Int32)))]) rfl ?_
      exact hk39 _ _ _ _ _ _
    ·
      refine T_sub [0, 1, 3, 4] (lv' := [(1, .int x1), (2, .int x2), (4, .int x4), (5, .int x5)]) rfl ?_
      exact t_X1_walk_b59   _ _ _ _ _
theorem t_X1_walk_l39 {X : Scr}   (n : Nat) : ∀ (x1 : Int32) (x2 : Int32) (x3 : Int32) (x4 : Int32) (x5 : Int32) (M : Mem), T X eI (X1_walk_l39   n x1 x2 x3 x4 x5 M) md_X1_walk 39 [(1, .int x1), (2, .int x2), (3, .int x3), (4, .int x4), (5, .int x5)] [] M := by
  induction n with
  | zero => intro x1 x2 x3 x4 x5 M; exact T_none
  | succ n ih => intro x1 x2 x3 x4 x5 M; exact t_X1_walk_b39  ih x1 x2 x3 x4 x5 M
set_option maxHeartbeats 4000000 in
set_option maxRecDepth 100000 in
theorem t_X1_walk_b35 {X : Scr}   (x1 : Int32) (x2 : Int32) (x3 : Int32) (x4 : Int32) (M : Mem) : T X eI (X1_walk_b35   x1 x2 x3 x4 M) md_X1_walk 35 [(1, .int x1), (2, .int x2), (3, .int x3), (4, .int x4)] [] M := by
  unfold X1_walk_b35
  refine T_bipush (v := (9 : Int32)) (by decide) dX1_walk_35 ?_
  refine T_istore [(5, .int (9 : Int32)), (1, .int x1), (2, .int x2), (3, .int x3), (4, .int x4)] dX1_walk_37 (by decide) rfl ?_
  refine T_sub [1, 2, 3, 4, 0] (lv' := [(1, .int x1), (2, .int x2), (3, .int x3), (4, .int x4), (5, .int (9 : Int32))]) rfl ?_
  exact t_X1_walk_l39   _ _ _ _ _ _ _
set_option maxHeartbeats 4000000 in
set_option maxRecDepth 100000 in
theorem t_X1_walk_b13 {X : Scr}   {k13 : Int32 → Int32 → Int32 → Int32 → Mem → Option (Int32 × Mem)} (hk13 : ∀ (x1 : Int32) (x2 : Int32) (x3 : Int32) (x4 : Int32) (M : Mem), T X eI (k13 x1 x2 x3 x4 M) md_X1_walk 13 [(1, .int x1), (2, .int x2), (3, .int x3), (4, .int x4)] [] M) (x1 : Int32) (x2 : Int32) (x3 : Int32) (x4 : Int32) (M : Mem) : T X eI (X1_walk_b13  k13 x1 x2 x3 x4 M) md_X1_walk 13 [(1, .int x1), (2, .int x2), (3, .int x3), (4, .int x4)] [] M := by
  unfold X1_walk_b13
  refine T_iload 3 dX1_walk_13 rfl ?_
  refine T_bipush (v := (10 : Int32)) (by decide) dX1_walk_15 ?_
  refine T_icmp_ge 35 dX1_walk_17 (by decide) ?_ ?_
  ·
    exact t_X1_walk_b35   _ _ _ _ _
  ·
    refine T_iload_n 2 dX1_walk_20 rfl rfl ?_
    refine T_iload 3 dX1_walk_21 rfl ?_
    refine T_callSNI md_X11_isIn [.int x3, .int x4] [] dX1_walk_23 rfl ok_X11_isIn tb_533 tb_474 (by decide) (Nat.le_of_ble_eq_true rfl) (fun _ _ h9 => C_X11_isIn  _ _ h9) (fun r1 M1 => ?_)
    dsimp only
    refine T_if_ne 35 dX1_walk_26 (by decide) ?_ ?_
    ·
      refine T_iinc 3 [(4, .int (x4 + (1 : Int32))), (1, .int x1), (2, .int x2), (3, .int x3)] (v := (1 : Int32)) dX1_walk_29 rfl (by decide) (by decide) rfl ?_
      refine T_goto 13 dX1_walk_32 (by decide) ?_
      refine T_sub [1, 2, 3, 0] (lv' := [(1, .int x1), (2, .int x2), (3, .int x3), (4, .int (x4 + (1 : Int32)))]) rfl ?_
      exact hk13 _ _ _ _ _
    ·
      exact t_X1_walk_b35   _ _ _ _ _
theorem t_X1_walk_l13 {X : Scr}   (n : Nat) : ∀ (x1 : Int32) (x2 : Int32) (x3 : Int32) (x4 : Int32) (M : Mem), T X eI (X1_walk_l13   n x1 x2 x3 x4 M) md_X1_walk 13 [(1, .int x1), (2, .int x2), (3, .int x3), (4, .int x4)] [] M := by
  induction n with
  | zero => intro x1 x2 x3 x4 M; exact T_none
  | succ n ih => intro x1 x2 x3 x4 M; exact t_X1_walk_b13  ih x1 x2 x3 x4 M
set_option maxHeartbeats 4000000 in
set_option maxRecDepth 100000 in
theorem t_X1_walk {X : Scr}   (x0 : Int32) (x1 : Int32) (x2 : Int32) (M : Mem) : T X eI (X1_walk   x0 x1 x2 M) md_X1_walk 0 [(0, .int x0), (1, .int x1), (2, .int x2)] [] M := by
  unfold X1_walk
  refine T_iload_n 0 dX1_walk_0 rfl rfl ?_
  refine T_iconst (v := (1 : Int32)) (by decide) dX1_walk_1 ?_
  refine T_iload_n 1 dX1_walk_2 rfl rfl ?_
  refine T_ishl dX1_walk_3 ?_
  refine T_ior dX1_walk_4 ?_
  refine T_iconst (v := (1 : Int32)) (by decide) dX1_walk_5 ?_
  refine T_iload_n 2 dX1_walk_6 rfl rfl ?_
  refine T_ishl dX1_walk_7 ?_
  refine T_ior dX1_walk_8 ?_
  refine T_iw (fun v1 => ?_)
  try dsimp only
  refine T_istore_n [(3, .int v1), (0, .int x0), (1, .int x1), (2, .int x2)] dX1_walk_9 rfl (by decide) rfl ?_
  refine T_iconst (v := (0 : Int32)) (by decide) dX1_walk_10 ?_
  refine T_istore [(4, .int (0 : Int32)), (3, .int v1), (0, .int x0), (1, .int x1), (2, .int x2)] dX1_walk_11 (by decide) rfl ?_
  refine T_sub [3, 4, 1, 0] (lv' := [(1, .int x1), (2, .int x2), (3, .int v1), (4, .int (0 : Int32))]) rfl ?_
  exact t_X1_walk_l13   _ _ _ _ _ _
theorem C_X1_walk {X : Scr}   (x0 : Int32) (x1 : Int32) (x2 : Int32) {M : Mem} {r : Int32} {M' : Mem} (h : X1_walk  x0 x1 x2 M = some (r, M')) : Ct X md_X1_walk [.int x0, .int x1, .int x2] M (eI r) M' := Ct_of (by decide +kernel) (Nat.le_of_ble_eq_true rfl) (t_X1_walk  _ _ _ M) r M' h
-- X1_planRound
def X1_planRound_b88 (i0 : Nat) (i1 : Nat) (k30 : Int32 → Int32 → Int32 → Mem → Option (Unit × Mem)) (x2 : Int32) (x3 : Int32) (x4 : Int32) (M : Mem) : Option (Unit × Mem) :=
  k30 x2 x3 (x4 + (1 : Int32)) M
def X1_planRound_b30 (i0 : Nat) (i1 : Nat) (k30 : Int32 → Int32 → Int32 → Mem → Option (Unit × Mem)) (x2 : Int32) (x3 : Int32) (x4 : Int32) (M : Mem) : Option (Unit × Mem) :=
  if (1024 : Int32) ≤ x4 then
    some ((), M)
  else
    (J6_bitCount_0f7a4  x4 M).bind (fun p1 =>
      if p1.1 ≤ (p1.2.1 i0 1) then
        X1_planRound_b88 i0 i1 k30 x2 x3 x4 p1.2
      else
        gd (ib x4 1024) (
          (X1_walk  x4 (p1.2.1 i1 3) x2 p1.2).bind (fun p2 =>
            if x3 < ((p1.2.1 (rf i0 0) x4.toNatClampNeg) + p2.1) then
              X1_planRound_b88 i0 i1 k30 x2 x3 x4 p2.2
            else
              mw (mI p2.2 i0 1 p1.1) (fun N3 =>
                mw (mI N3 i0 2 x4) (fun N4 =>
                  X1_planRound_b88 i0 i1 k30 x2 x3 x4 N4)))))
def X1_planRound_l30 (i0 : Nat) (i1 : Nat)  : Nat → Int32 → Int32 → Int32 → Mem → Option (Unit × Mem)
  | 0 => fun _ _ _ _ => none
  | n + 1 => X1_planRound_b30 i0 i1 (X1_planRound_l30 i0 i1  n)
def X1_planRound (i0 : Nat) (i1 : Nat)  (x2 : Int32) (M : Mem) : Option (Unit × Mem) :=
  (X1_sumMinutes i0 i1  M).bind (fun p1 =>
    mw (mI p1.2 i0 1 (-6 : Int32)) (fun N2 =>
      mw (mI N2 i0 2 (-6 : Int32)) (fun N3 =>
        X1_planRound_l30 i0 i1  FU x2 ((N3.1 i1 7) - (N3.1 i1 6)) (0 : Int32) N3)))
set_option maxHeartbeats 4000000 in
set_option maxRecDepth 100000 in
theorem t_X1_planRound_b88 {X : Scr} {i0 : Nat} {i1 : Nat} (h0 : KD[i0]? = some (.inl 1)) (h1 : KD[i1]? = some (.inl 0)) {k30 : Int32 → Int32 → Int32 → Mem → Option (Unit × Mem)} (hk30 : ∀ (x2 : Int32) (x3 : Int32) (x4 : Int32) (M : Mem), T X eV (k30 x2 x3 x4 M) md_X1_planRound 30 [(0, .ref i0), (1, .ref i1), (2, .int x2), (3, .int x3), (4, .int x4)] [] M) (x2 : Int32) (x3 : Int32) (x4 : Int32) (M : Mem) : T X eV (X1_planRound_b88 i0 i1 k30 x2 x3 x4 M) md_X1_planRound 88 [(0, .ref i0), (1, .ref i1), (2, .int x2), (3, .int x3), (4, .int x4)] [] M := by
  unfold X1_planRound_b88
  refine T_iinc 4 [(4, .int (x4 + (1 : Int32))), (0, .ref i0), (1, .ref i1), (2, .int x2), (3, .int x3)] (v := (1 : Int32)) dX1_planRound_88 rfl (by decide) (by decide) rfl ?_
  refine T_goto 30 dX1_planRound_91 (by decide) ?_
  refine T_sub [1, 2, 3, 4, 0] (lv' := [(0, .ref i0), (1, .ref i1), (2, .int x2), (3, .int x3), (4, .int (x4 + (1 : Int32)))]) rfl ?_
  exact hk30 _ _ _ _
set_option maxHeartbeats 4000000 in
set_option maxRecDepth 100000 in
theorem t_X1_planRound_b30 {X : Scr} {i0 : Nat} {i1 : Nat} (h0 : KD[i0]? = some (.inl 1)) (h1 : KD[i1]? = some (.inl 0)) {k30 : Int32 → Int32 → Int32 → Mem → Option (Unit × Mem)} (hk30 : ∀ (x2 : Int32) (x3 : Int32) (x4 : Int32) (M : Mem), T X eV (k30 x2 x3 x4 M) md_X1_planRound 30 [(0, .ref i0), (1, .ref i1), (2, .int x2), (3, .int x3), (4, .int x4)] [] M) (x2 : Int32) (x3 : Int32) (x4 : Int32) (M : Mem) : T X eV (X1_planRound_b30 i0 i1 k30 x2 x3 x4 M) md_X1_planRound 30 [(0, .ref i0), (1, .ref i1), (2, .int x2), (3, .int x3), (4, .int x4)] [] M := by
  unfold X1_planRound_b30
  refine T_iload 4 dX1_planRound_30 rfl ?_
  refine T_sipush (v := (1024 : Int32)) (by decide) dX1_planRound_32 ?_
  refine T_icmp_ge 94 dX1_planRound_35 (by decide) ?_ ?_
  ·
    exact T_vret dX1_planRound_94 rfl
  ·
    refine T_iload 4 dX1_planRound_38 rfl ?_
    refine T_callSI md_J6_bitCount_0f7a4 [.int x4] [] dX1_planRound_40 rfl ok_J6_bitCount_0f7a4 tb_524 tb_525 (by decide) (Nat.le_of_ble_eq_true rfl) (fun _ _ h9 => C_J6_bitCount_0f7a4  _ h9) (fun r1 M1 => ?_)
    dsimp only
    refine T_istore [(5, .int r1), (0, .ref i0), (1, .ref i1), (2, .int x2), (3, .int x3), (4, .int x4)] dX1_planRound_43 (by decide) rfl ?_
    refine T_iload 0 dX1_planRound_45 rfl ?_
    refine T_aload_n 1 dX1_planRound_47 rfl rfl ?_
    refine T_getI 1 FOk_1 h0 (by decide) (by decide) dX1_planRound_48 tb_219 ?_
    refine T_icmp_le 88 dX1_planRound_51 (by decide) ?_ ?_
    ·
      refine T_sub [1, 2, 3, 4, 5] (lv' := [(0, .ref i0), (1, .ref i1), (2, .int x2), (3, .int x3), (4, .int x4)]) rfl ?_
      exact t_X1_planRound_b88 h0 h1 hk30 _ _ _ _
    ·
      refine T_aload_n 1 dX1_planRound_54 rfl rfl ?_
      refine T_getR 0 FOk_1 h0 (by decide) (by decide) dX1_planRound_55 tb_218 ?_
      refine T_iload 5 dX1_planRound_58 rfl ?_
      refine T_iald (kf_1_0 h0) dX1_planRound_60 ?_
      refine T_iload 5 dX1_planRound_61 rfl ?_
      refine T_aload_n 2 dX1_planRound_63 rfl rfl ?_
      refine T_getI 3 FOk_0 h1 (by decide) (by decide) dX1_planRound_64 tb_86 ?_
      refine T_iload_n 3 dX1_planRound_67 rfl rfl ?_
      refine T_callSI md_X1_walk [.int x4, .int (M1.1 i1 3), .int x2] [.int (M1.1 (rf i0 0) x4.toNatClampNeg)] dX1_planRound_68 rfl ok_X1_walk tb_530 tb_531 (by decide) (Nat.le_of_ble_eq_true rfl) (fun _ _ h9 => C_X1_walk  _ _ _ h9) (fun r2 M2 => ?_)
      dsimp only
      refine T_iadd dX1_planRound_71 ?_
      refine T_iload_n 4 dX1_planRound_72 rfl rfl ?_
      refine T_icmp_gt 88 dX1_planRound_73 (by decide) ?_ ?_
      ·
        refine T_sub [1, 2, 3, 4, 5] (lv' := [(0, .ref i0), (1, .ref i1), (2, .int x2), (3, .int x3), (4, .int x4)]) rfl ?_
        exact t_X1_planRound_b88 h0 h1 hk30 _ _ _ _
      ·
        refine T_aload_n 1 dX1_planRound_76 rfl rfl ?_
        refine T_iload 0 dX1_planRound_77 rfl ?_
        refine T_putI (ty := .int) 1 FOk_1 h0 (by decide) (by decide) rfl (by decide +kernel) rfl rfl dX1_planRound_79 tb_219 ?_
        refine T_mw (fun N3 => ?_)
        try dsimp only
        refine T_aload_n 1 dX1_planRound_82 rfl rfl ?_
        refine T_iload 5 dX1_planRound_83 rfl ?_
        refine T_putI (ty := .int) 2 FOk_1 h0 (by decide) (by decide) rfl (by decide +kernel) rfl rfl dX1_planRound_85 tb_221 ?_
        refine T_mw (fun N4 => ?_)
        try dsimp only
        refine T_sub [1, 2, 3, 4, 5] (lv' := [(0, .ref i0), (1, .ref i1), (2, .int x2), (3, .int x3), (4, .int x4)]) rfl ?_
        exact t_X1_planRound_b88 h0 h1 hk30 _ _ _ _
theorem t_X1_planRound_l30 {X : Scr} {i0 : Nat} {i1 : Nat} (h0 : KD[i0]? = some (.inl 1)) (h1 : KD[i1]? = some (.inl 0)) (n : Nat) : ∀ (x2 : Int32) (x3 : Int32) (x4 : Int32) (M : Mem), T X eV (X1_planRound_l30 i0 i1  n x2 x3 x4 M) md_X1_planRound 30 [(0, .ref i0), (1, .ref i1), (2, .int x2), (3, .int x3), (4, .int x4)] [] M := by
  induction n with
  | zero => intro x2 x3 x4 M; exact T_none
  | succ n ih => intro x2 x3 x4 M; exact t_X1_planRound_b30 h0 h1 ih x2 x3 x4 M
set_option maxHeartbeats 4000000 in
set_option maxRecDepth 100000 in
theorem t_X1_planRound {X : Scr} {i0 : Nat} {i1 : Nat} (h0 : KD[i0]? = some (.inl 1)) (h1 : KD[i1]? = some (.inl 0)) (x2 : Int32) (M : Mem) : T X eV (X1_planRound i0 i1  x2 M) md_X1_planRound 0 [(0, .ref i0), (1, .ref i1), (2, .int x2)] [] M := by
  unfold X1_planRound
  refine T_aload_n 0 dX1_planRound_0 rfl rfl ?_
  refine T_aload_n 1 dX1_planRound_1 rfl rfl ?_
  refine T_callVU md_X1_sumMinutes [.ref i1] [] dX1_planRound_2 h0 rfl rfl ok_X1_sumMinutes tb_520 tb_522 tb_5 (by decide) (Nat.le_of_ble_eq_true rfl) (fun _ _ h9 => C_X1_sumMinutes h0 h1  h9) (fun r1 M1 => ?_)
  dsimp only
  refine T_aload_n 0 dX1_planRound_5 rfl rfl ?_
  refine T_bipush (v := (-6 : Int32)) (by decide) dX1_planRound_6 ?_
  refine T_putI (ty := .int) 1 FOk_1 h0 (by decide) (by decide) rfl (by decide +kernel) rfl rfl dX1_planRound_8 tb_219 ?_
  refine T_mw (fun N2 => ?_)
  try dsimp only
  refine T_aload_n 0 dX1_planRound_11 rfl rfl ?_
  refine T_bipush (v := (-6 : Int32)) (by decide) dX1_planRound_12 ?_
  refine T_putI (ty := .int) 2 FOk_1 h0 (by decide) (by decide) rfl (by decide +kernel) rfl rfl dX1_planRound_14 tb_221 ?_
  refine T_mw (fun N3 => ?_)
  try dsimp only
  refine T_aload_n 1 dX1_planRound_17 rfl rfl ?_
  refine T_getI 7 FOk_0 h1 (by decide) (by decide) dX1_planRound_18 tb_98 ?_
  refine T_aload_n 1 dX1_planRound_21 rfl rfl ?_
  refine T_getI 6 FOk_0 h1 (by decide) (by decide) dX1_planRound_22 tb_94 ?_
  refine T_isub dX1_planRound_25 ?_
  refine T_istore_n [(3, .int ((N3.1 i1 7) - (N3.1 i1 6))), (0, .ref i0), (1, .ref i1), (2, .int x2)] dX1_planRound_26 rfl (by decide) rfl ?_
  refine T_iconst (v := (0 : Int32)) (by decide) dX1_planRound_27 ?_
  refine T_istore [(4, .int (0 : Int32)), (3, .int ((N3.1 i1 7) - (N3.1 i1 6))), (0, .ref i0), (1, .ref i1), (2, .int x2)] dX1_planRound_28 (by decide) rfl ?_
  refine T_sub [2, 3, 4, 1, 0] (lv' := [(0, .ref i0), (1, .ref i1), (2, .int x2), (3, .int ((N3.1 i1 7) - (N3.1 i1 6))), (4, .int (0 : Int32))]) rfl ?_
  exact t_X1_planRound_l30 h0 h1  _ _ _ _ _
theorem C_X1_planRound {X : Scr} {i0 : Nat} {i1 : Nat} (h0 : KD[i0]? = some (.inl 1)) (h1 : KD[i1]? = some (.inl 0)) (x2 : Int32) {M : Mem} {r : Unit} {M' : Mem} (h : X1_planRound i0 i1 x2 M = some (r, M')) : Ct X md_X1_planRound [.ref i0, .ref i1, .int x2] M (eV r) M' := Ct_of (by decide +kernel) (Nat.le_of_ble_eq_true rfl) (t_X1_planRound h0 h1 _ M) r M' h
-- X1_joinThings
def X1_joinThings_b22 (i0 : Nat) (i1 : Nat) (k9 : Int32 → Mem → Option (Unit × Mem)) (k22 : Int32 → Int32 → Int32 → Mem → Option (Unit × Mem)) (x2 : Int32) (x3 : Int32) (x4 : Int32) (M : Mem) : Option (Unit × Mem) :=
  if x3 ≤ x4 then
    k9 (x2 + (1 : Int32)) M
  else
    gd (ib x4 1024) (
      gd (ib x2 10) (
        gd (ib (x3 ||| x4) 1024) (
          k22 x2 x3 (x4 + (1 : Int32)) (mI M (rf i0 0) (x3 ||| x4).toNatClampNeg ((M.1 (rf i0 0) x4.toNatClampNeg) ||| (M.1 (rf i1 1) x2.toNatClampNeg))))))
def X1_joinThings_l22 (i0 : Nat) (i1 : Nat) (k9 : Int32 → Mem → Option (Unit × Mem)) : Nat → Int32 → Int32 → Int32 → Mem → Option (Unit × Mem)
  | 0 => fun _ _ _ _ => none
  | n + 1 => X1_joinThings_b22 i0 i1 k9 (X1_joinThings_l22 i0 i1 k9 n)
def X1_joinThings_b9 (i0 : Nat) (i1 : Nat) (k9 : Int32 → Mem → Option (Unit × Mem)) (x2 : Int32) (M : Mem) : Option (Unit × Mem) :=
  if (10 : Int32) ≤ x2 then
    some ((), M)
  else
    X1_joinThings_l22 i0 i1 k9 FU x2 ((1 : Int32) <<< (x2 &&& 31)) (0 : Int32) M
def X1_joinThings_l9 (i0 : Nat) (i1 : Nat)  : Nat → Int32 → Mem → Option (Unit × Mem)
  | 0 => fun _ _ => none
  | n + 1 => X1_joinThings_b9 i0 i1 (X1_joinThings_l9 i0 i1  n)
def X1_joinThings (i0 : Nat) (i1 : Nat)   (M : Mem) : Option (Unit × Mem) :=
  gd (ib (0 : Int32) 1024) (
    X1_joinThings_l9 i0 i1  FU (0 : Int32) (mI M (rf i0 0) (0 : Int32).toNatClampNeg (0 : Int32)))
set_option maxHeartbeats 4000000 in
set_option maxRecDepth 100000 in
theorem t_X1_joinThings_b22 {X : Scr} {i0 : Nat} {i1 : Nat} (h0 : KD[i0]? = some (.inl 1)) (h1 : KD[i1]? = some (.inl 0)) {k9 : Int32 → Mem → Option (Unit × Mem)} (hk9 : ∀ (x2 : Int32) (M : Mem), T X eV (k9 x2 M) md_X1_joinThings 9 [(0, .ref i0), (1, .ref i1), (2, .int x2)] [] M) {k22 : Int32 → Int32 → Int32 → Mem → Option (Unit × Mem)} (hk22 : ∀ (x2 : Int32) (x3 : Int32) (x4 : Int32) (M : Mem), T X eV (k22 x2 x3 x4 M) md_X1_joinThings 22 [(0, .ref i0), (1, .ref i1), (2, .int x2), (3, .int x3), (4, .int x4)] [] M) (x2 : Int32) (x3 : Int32) (x4 : Int32) (M : Mem) : T X eV (X1_joinThings_b22 i0 i1 k9 k22 x2 x3 x4 M) md_X1_joinThings 22 [(0, .ref i0), (1, .ref i1), (2, .int x2), (3, .int x3), (4, .int x4)] [] M := by
  unfold X1_joinThings_b22
  refine T_iload 4 dX1_joinThings_22 rfl ?_
  refine T_iload_n 3 dX1_joinThings_24 rfl rfl ?_
  refine T_icmp_ge 57 dX1_joinThings_25 (by decide) ?_ ?_
  ·
    refine T_iinc 2 [(2, .int (x2 + (1 : Int32))), (0, .ref i0), (1, .ref i1), (3, .int x3), (4, .int x4)] (v := (1 : Int32)) dX1_joinThings_57 rfl (by decide) (by decide) rfl ?_
    refine T_goto 9 dX1_joinThings_60 (by decide) ?_
    refine T_sub [1, 2, 0] (lv' := [(0, .ref i0), (1, .ref i1), (2, .int (x2 + (1 : Int32)))]) rfl ?_
    exact hk9 _ _
  ·
    refine T_aload_n 0 dX1_joinThings_28 rfl rfl ?_
    refine T_getR 0 FOk_1 h0 (by decide) (by decide) dX1_joinThings_29 tb_218 ?_
    refine T_iload_n 3 dX1_joinThings_32 rfl rfl ?_
    refine T_iload 4 dX1_joinThings_33 rfl ?_
    refine T_ior dX1_joinThings_35 ?_
    refine T_aload_n 0 dX1_joinThings_36 rfl rfl ?_
    refine T_getR 0 FOk_1 h0 (by decide) (by decide) dX1_joinThings_37 tb_218 ?_
    refine T_iload 4 dX1_joinThings_40 rfl ?_
    refine T_iald (kf_1_0 h0) dX1_joinThings_42 ?_
    refine T_aload_n 1 dX1_joinThings_43 rfl rfl ?_
    refine T_getR 1 FOk_0 h1 (by decide) (by decide) dX1_joinThings_44 tb_81 ?_
    refine T_iload_n 2 dX1_joinThings_47 rfl rfl ?_
    refine T_iald (kf_0_1 h1) dX1_joinThings_48 ?_
    refine T_ior dX1_joinThings_49 ?_
    refine T_iast (kf_1_0 h0) dX1_joinThings_50 ?_
    refine T_iinc 4 [(4, .int (x4 + (1 : Int32))), (0, .ref i0), (1, .ref i1), (2, .int x2), (3, .int x3)] (v := (1 : Int32)) dX1_joinThings_51 rfl (by decide) (by decide) rfl ?_
    refine T_goto 22 dX1_joinThings_54 (by decide) ?_
    refine T_sub [1, 2, 3, 4, 0] (lv' := [(0, .ref i0), (1, .ref i1), (2, .int x2), (3, .int x3), (4, .int (x4 + (1 : Int32)))]) rfl ?_
    exact hk22 _ _ _ _
theorem t_X1_joinThings_l22 {X : Scr} {i0 : Nat} {i1 : Nat} (h0 : KD[i0]? = some (.inl 1)) (h1 : KD[i1]? = some (.inl 0)) {k9 : Int32 → Mem → Option (Unit × Mem)} (hk9 : ∀ (x2 : Int32) (M : Mem), T X eV (k9 x2 M) md_X1_joinThings 9 [(0, .ref i0), (1, .ref i1), (2, .int x2)] [] M) (n : Nat) : ∀ (x2 : Int32) (x3 : Int32) (x4 : Int32) (M : Mem), T X eV (X1_joinThings_l22 i0 i1 k9 n x2 x3 x4 M) md_X1_joinThings 22 [(0, .ref i0), (1, .ref i1), (2, .int x2), (3, .int x3), (4, .int x4)] [] M := by
  induction n with
  | zero => intro x2 x3 x4 M; exact T_none
  | succ n ih => intro x2 x3 x4 M; exact t_X1_joinThings_b22 h0 h1 hk9 ih x2 x3 x4 M
set_option maxHeartbeats 4000000 in
set_option maxRecDepth 100000 in
theorem t_X1_joinThings_b9 {X : Scr} {i0 : Nat} {i1 : Nat} (h0 : KD[i0]? = some (.inl 1)) (h1 : KD[i1]? = some (.inl 0)) {k9 : Int32 → Mem → Option (Unit × Mem)} (hk9 : ∀ (x2 : Int32) (M : Mem), T X eV (k9 x2 M) md_X1_joinThings 9 [(0, .ref i0), (1, .ref i1), (2, .int x2)] [] M) (x2 : Int32) (M : Mem) : T X eV (X1_joinThings_b9 i0 i1 k9 x2 M) md_X1_joinThings 9 [(0, .ref i0), (1, .ref i1), (2, .int x2)] [] M := by
  unfold X1_joinThings_b9
  refine T_iload_n 2 dX1_joinThings_9 rfl rfl ?_
  refine T_bipush (v := (10 : Int32)) (by decide) dX1_joinThings_10 ?_
  refine T_icmp_ge 63 dX1_joinThings_12 (by decide) ?_ ?_
  ·
    exact T_vret dX1_joinThings_63 rfl
  ·
    refine T_iconst (v := (1 : Int32)) (by decide) dX1_joinThings_15 ?_
    refine T_iload_n 2 dX1_joinThings_16 rfl rfl ?_
    refine T_ishl dX1_joinThings_17 ?_
    refine T_istore_n [(3, .int ((1 : Int32) <<< (x2 &&& 31))), (0, .ref i0), (1, .ref i1), (2, .int x2)] dX1_joinThings_18 rfl (by decide) rfl ?_
    refine T_iconst (v := (0 : Int32)) (by decide) dX1_joinThings_19 ?_
    refine T_istore [(4, .int (0 : Int32)), (3, .int ((1 : Int32) <<< (x2 &&& 31))), (0, .ref i0), (1, .ref i1), (2, .int x2)] dX1_joinThings_20 (by decide) rfl ?_
    refine T_sub [2, 3, 4, 1, 0] (lv' := [(0, .ref i0), (1, .ref i1), (2, .int x2), (3, .int ((1 : Int32) <<< (x2 &&& 31))), (4, .int (0 : Int32))]) rfl ?_
    exact t_X1_joinThings_l22 h0 h1 hk9 _ _ _ _ _
theorem t_X1_joinThings_l9 {X : Scr} {i0 : Nat} {i1 : Nat} (h0 : KD[i0]? = some (.inl 1)) (h1 : KD[i1]? = some (.inl 0)) (n : Nat) : ∀ (x2 : Int32) (M : Mem), T X eV (X1_joinThings_l9 i0 i1  n x2 M) md_X1_joinThings 9 [(0, .ref i0), (1, .ref i1), (2, .int x2)] [] M := by
  induction n with
  | zero => intro x2 M; exact T_none
  | succ n ih => intro x2 M; exact t_X1_joinThings_b9 h0 h1 ih x2 M
set_option maxHeartbeats 4000000 in
set_option maxRecDepth 100000 in
theorem t_X1_joinThings {X : Scr} {i0 : Nat} {i1 : Nat} (h0 : KD[i0]? = some (.inl 1)) (h1 : KD[i1]? = some (.inl 0))  (M : Mem) : T X eV (X1_joinThings i0 i1   M) md_X1_joinThings 0 [(0, .ref i0), (1, .ref i1)] [] M := by
  unfold X1_joinThings
  refine T_aload_n 0 dX1_joinThings_0 rfl rfl ?_
  refine T_getR 0 FOk_1 h0 (by decide) (by decide) dX1_joinThings_1 tb_218 ?_
  refine T_iconst (v := (0 : Int32)) (by decide) dX1_joinThings_4 ?_
  refine T_iconst (v := (0 : Int32)) (by decide) dX1_joinThings_5 ?_
  refine T_iast (kf_1_0 h0) dX1_joinThings_6 ?_
  refine T_iconst (v := (0 : Int32)) (by decide) dX1_joinThings_7 ?_
  refine T_istore_n [(2, .int (0 : Int32)), (0, .ref i0), (1, .ref i1)] dX1_joinThings_8 rfl (by decide) rfl ?_
  refine T_sub [1, 2, 0] (lv' := [(0, .ref i0), (1, .ref i1), (2, .int (0 : Int32))]) rfl ?_
  exact t_X1_joinThings_l9 h0 h1  _ _ _
theorem C_X1_joinThings {X : Scr} {i0 : Nat} {i1 : Nat} (h0 : KD[i0]? = some (.inl 1)) (h1 : KD[i1]? = some (.inl 0))  {M : Mem} {r : Unit} {M' : Mem} (h : X1_joinThings i0 i1  M = some (r, M')) : Ct X md_X1_joinThings [.ref i0, .ref i1] M (eV r) M' := Ct_of (by decide +kernel) (Nat.le_of_ble_eq_true rfl) (t_X1_joinThings h0 h1  M) r M' h
-- X1_uncover
def X1_uncover_b88 (i0 : Nat) (i1 : Nat) (k29 : Int32 → Int32 → Mem → Option (Unit × Mem)) (x3 : Int32) (x4 : Int32) (M : Mem) : Option (Unit × Mem) :=
  k29 x3 (x4 + (1 : Int32)) M
def X1_uncover_b76 (i0 : Nat) (i1 : Nat) (k29 : Int32 → Int32 → Mem → Option (Unit × Mem)) (x3 : Int32) (x4 : Int32) (x5 : Int32) (M : Mem) : Option (Unit × Mem) :=
  mw (mI M i0 1 x5) (fun N1 =>
    mw (mI N1 i0 2 x4) (fun N2 =>
      X1_uncover_b88 i0 i1 k29 x3 x4 N2))
def X1_uncover_b29 (i0 : Nat) (i1 : Nat) (k29 : Int32 → Int32 → Mem → Option (Unit × Mem)) (x3 : Int32) (x4 : Int32) (M : Mem) : Option (Unit × Mem) :=
  if (1024 : Int32) ≤ x4 then
    some ((), M)
  else
    gd (ib x4 1024) (
      if (x3 &&& ((M.1 (rf i0 0) x4.toNatClampNeg) ^^^ (-1 : Int32))) = 0 then
        (J6_bitCount_0f7a4  x4 M).bind (fun p1 =>
          if (p1.2.1 i0 1) = (-6 : Int32) then
            X1_uncover_b76 i0 i1 k29 x3 x4 p1.1 p1.2
          else
            if (p1.2.1 i0 1) ≤ p1.1 then
              X1_uncover_b88 i0 i1 k29 x3 x4 p1.2
            else
              X1_uncover_b76 i0 i1 k29 x3 x4 p1.1 p1.2)
      else
        X1_uncover_b88 i0 i1 k29 x3 x4 M)
def X1_uncover_l29 (i0 : Nat) (i1 : Nat)  : Nat → Int32 → Int32 → Mem → Option (Unit × Mem)
  | 0 => fun _ _ _ => none
  | n + 1 => X1_uncover_b29 i0 i1 (X1_uncover_l29 i0 i1  n)
def X1_uncover (i0 : Nat) (i1 : Nat)  (x2 : Int32) (M : Mem) : Option (Unit × Mem) :=
  (X1_joinThings i0 i1  M).bind (fun p1 =>
    mw (mI p1.2 i0 1 (-6 : Int32)) (fun N2 =>
      mw (mI N2 i0 2 (-6 : Int32)) (fun N3 =>
        iw (x2 &&& ((N3.1 i1 5) ^^^ (-1 : Int32))) (fun v4 =>
          X1_uncover_l29 i0 i1  FU v4 (0 : Int32) N3))))
set_option maxHeartbeats 4000000 in
set_option maxRecDepth 100000 in
theorem t_X1_uncover_b88 {X : Scr} {i0 : Nat} {i1 : Nat} (h0 : KD[i0]? = some (.inl 1)) (h1 : KD[i1]? = some (.inl 0)) {k29 : Int32 → Int32 → Mem → Option (Unit × Mem)} (hk29 : ∀ (x3 : Int32) (x4 : Int32) (M : Mem), T X eV (k29 x3 x4 M) md_X1_uncover 29 [(0, .ref i0), (3, .int x3), (4, .int x4)] [] M) (x3 : Int32) (x4 : Int32) (M : Mem) : T X eV (X1_uncover_b88 i0 i1 k29 x3 x4 M) md_X1_uncover 88 [(0, .ref i0), (3, .int x3), (4, .int x4)] [] M := by
  unfold X1_uncover_b88
  refine T_iinc 2 [(4, .int (x4 + (1 : Int32))), (0, .ref i0), (3, .int x3)] (v := (1 : Int32)) dX1_uncover_88 rfl (by decide) (by decide) rfl ?_
  refine T_goto 29 dX1_uncover_91 (by decide) ?_
  refine T_sub [1, 2, 0] (lv' := [(0, .ref i0), (3, .int x3), (4, .int (x4 + (1 : Int32)))]) rfl ?_
  exact hk29 _ _ _
set_option maxHeartbeats 4000000 in
set_option maxRecDepth 100000 in
theorem t_X1_uncover_b76 {X : Scr} {i0 : Nat} {i1 : Nat} (h0 : KD[i0]? = some (.inl 1)) (h1 : KD[i1]? = some (.inl 0)) {k29 : Int32 → Int32 → Mem → Option (Unit × Mem)} (hk29 : ∀ (x3 : Int32) (x4 : Int32) (M : Mem), T X eV (k29 x3 x4 M) md_X1_uncover 29 [(0, .ref i0), (3, .int x3), (4, .int x4)] [] M) (x3 : Int32) (x4 : Int32) (x5 : Int32) (M : Mem) : T X eV (X1_uncover_b76 i0 i1 k29 x3 x4 x5 M) md_X1_uncover 76 [(0, .ref i0), (3, .int x3), (4, .int x4), (5, .int x5)] [] M := by
  unfold X1_uncover_b76
  refine T_aload_n 0 dX1_uncover_76 rfl rfl ?_
  refine T_iload 3 dX1_uncover_77 rfl ?_
  refine T_putI (ty := .int) 1 FOk_1 h0 (by decide) (by decide) rfl (by decide +kernel) rfl rfl dX1_uncover_79 tb_219 ?_
  refine T_mw (fun N1 => ?_)
  try dsimp only
  refine T_aload_n 0 dX1_uncover_82 rfl rfl ?_
  refine T_iload 2 dX1_uncover_83 rfl ?_
  refine T_putI (ty := .int) 2 FOk_1 h0 (by decide) (by decide) rfl (by decide +kernel) rfl rfl dX1_uncover_85 tb_221 ?_
  refine T_mw (fun N2 => ?_)
  try dsimp only
  refine T_sub [0, 1, 2] (lv' := [(0, .ref i0), (3, .int x3), (4, .int x4)]) rfl ?_
  exact t_X1_uncover_b88 h0 h1 hk29 _ _ _
set_option maxHeartbeats 4000000 in
set_option maxRecDepth 100000 in
theorem t_X1_uncover_b29 {X : Scr} {i0 : Nat} {i1 : Nat} (h0 : KD[i0]? = some (.inl 1)) (h1 : KD[i1]? = some (.inl 0)) {k29 : Int32 → Int32 → Mem → Option (Unit × Mem)} (hk29 : ∀ (x3 : Int32) (x4 : Int32) (M : Mem), T X eV (k29 x3 x4 M) md_X1_uncover 29 [(0, .ref i0), (3, .int x3), (4, .int x4)] [] M) (x3 : Int32) (x4 : Int32) (M : Mem) : T X eV (X1_uncover_b29 i0 i1 k29 x3 x4 M) md_X1_uncover 29 [(0, .ref i0), (3, .int x3), (4, .int x4)] [] M := by
  unfold X1_uncover_b29
  refine T_iload 2 dX1_uncover_29 rfl ?_
  refine T_sipush (v := (1024 : Int32)) (by decide) dX1_uncover_31 ?_
  refine T_icmp_ge 94 dX1_uncover_34 (by decide) ?_ ?_
  ·
    exact T_vret dX1_uncover_94 rfl
  ·
    refine T_iload_n 1 dX1_uncover_37 rfl rfl ?_
    refine T_aload_n 0 dX1_uncover_38 rfl rfl ?_
    refine T_getR 0 FOk_1 h0 (by decide) (by decide) dX1_uncover_39 tb_218 ?_
    refine T_iload 2 dX1_uncover_42 rfl ?_
    refine T_iald (kf_1_0 h0) dX1_uncover_44 ?_
    refine T_iconst (v := (-1 : Int32)) (by decide) dX1_uncover_45 ?_
    refine T_ixor dX1_uncover_46 ?_
    refine T_iand dX1_uncover_47 ?_
    refine T_if_ne 88 dX1_uncover_48 (by decide) ?_ ?_
    ·
      refine T_iload 2 dX1_uncover_51 rfl ?_
      refine T_callSI md_J6_bitCount_0f7a4 [.int x4] [] dX1_uncover_53 rfl ok_J6_bitCount_0f7a4 tb_524 tb_525 (by decide) (Nat.le_of_ble_eq_true rfl) (fun _ _ h9 => C_J6_bitCount_0f7a4  _ h9) (fun r1 M1 => ?_)
      dsimp only
      refine T_istore [(5, .int r1), (0, .ref i0), (3, .int x3), (4, .int x4)] dX1_uncover_56 (by decide) rfl ?_
      refine T_aload_n 1 dX1_uncover_58 rfl rfl ?_
      refine T_getI 1 FOk_1 h0 (by decide) (by decide) dX1_uncover_59 tb_219 ?_
      refine T_bipush (v := (-6 : Int32)) (by decide) dX1_uncover_62 ?_
      refine T_icmp_eq 76 dX1_uncover_64 (by decide) ?_ ?_
      ·
        refine T_sub [1, 2, 3, 0] (lv' := [(0, .ref i0), (3, .int x3), (4, .int x4), (5, .int r1)]) rfl ?_
        exact t_X1_uncover_b76 h0 h1 hk29 _ _ _ _
      ·
        refine T_iload 0 dX1_uncover_67 rfl ?_
        refine T_aload_n 1 dX1_uncover_69 rfl rfl ?_
        refine T_getI 1 FOk_1 h0 (by decide) (by decide) dX1_uncover_70 tb_219 ?_
        refine T_icmp_ge 88 dX1_uncover_73 (by decide) ?_ ?_
        ·
          refine T_sub [1, 2, 3] (lv' := [(0, .ref i0), (3, .int x3), (4, .int x4)]) rfl ?_
          exact t_X1_uncover_b88 h0 h1 hk29 _ _ _
        ·
          refine T_sub [1, 2, 3, 0] (lv' := [(0, .ref i0), (3, .int x3), (4, .int x4), (5, .int r1)]) rfl ?_
          exact t_X1_uncover_b76 h0 h1 hk29 _ _ _ _
    ·
      exact t_X1_uncover_b88 h0 h1 hk29 _ _ _
theorem t_X1_uncover_l29 {X : Scr} {i0 : Nat} {i1 : Nat} (h0 : KD[i0]? = some (.inl 1)) (h1 : KD[i1]? = some (.inl 0)) (n : Nat) : ∀ (x3 : Int32) (x4 : Int32) (M : Mem), T X eV (X1_uncover_l29 i0 i1  n x3 x4 M) md_X1_uncover 29 [(0, .ref i0), (3, .int x3), (4, .int x4)] [] M := by
  induction n with
  | zero => intro x3 x4 M; exact T_none
  | succ n ih => intro x3 x4 M; exact t_X1_uncover_b29 h0 h1 ih x3 x4 M
set_option maxHeartbeats 4000000 in
set_option maxRecDepth 100000 in
theorem t_X1_uncover {X : Scr} {i0 : Nat} {i1 : Nat} (h0 : KD[i0]? = some (.inl 1)) (h1 : KD[i1]? = some (.inl 0)) (x2 : Int32) (M : Mem) : T X eV (X1_uncover i0 i1  x2 M) md_X1_uncover 0 [(0, .ref i0), (1, .ref i1), (2, .int x2)] [] M := by
  unfold X1_uncover
  refine T_aload_n 0 dX1_uncover_0 rfl rfl ?_
  refine T_aload_n 1 dX1_uncover_1 rfl rfl ?_
  refine T_callVU md_X1_joinThings [.ref i1] [] dX1_uncover_2 h0 rfl rfl ok_X1_joinThings tb_543 tb_545 tb_6 (by decide) (Nat.le_of_ble_eq_true rfl) (fun _ _ h9 => C_X1_joinThings h0 h1  h9) (fun r1 M1 => ?_)
  dsimp only
  refine T_aload_n 0 dX1_uncover_5 rfl rfl ?_
  refine T_bipush (v := (-6 : Int32)) (by decide) dX1_uncover_6 ?_
  refine T_putI (ty := .int) 1 FOk_1 h0 (by decide) (by decide) rfl (by decide +kernel) rfl rfl dX1_uncover_8 tb_219 ?_
  refine T_mw (fun N2 => ?_)
  try dsimp only
  refine T_aload_n 0 dX1_uncover_11 rfl rfl ?_
  refine T_bipush (v := (-6 : Int32)) (by decide) dX1_uncover_12 ?_
  refine T_putI (ty := .int) 2 FOk_1 h0 (by decide) (by decide) rfl (by decide +kernel) rfl rfl dX1_uncover_14 tb_221 ?_
  refine T_mw (fun N3 => ?_)
  try dsimp only
  refine T_iload_n 2 dX1_uncover_17 rfl rfl ?_
  refine T_aload_n 1 dX1_uncover_18 rfl rfl ?_
  refine T_getI 5 FOk_0 h1 (by decide) (by decide) dX1_uncover_19 tb_92 ?_
  refine T_iconst (v := (-1 : Int32)) (by decide) dX1_uncover_22 ?_
  refine T_ixor dX1_uncover_23 ?_
  refine T_iand dX1_uncover_24 ?_
  refine T_iw (fun v4 => ?_)
  try dsimp only
  refine T_istore_n [(3, .int v4), (0, .ref i0), (1, .ref i1), (2, .int x2)] dX1_uncover_25 rfl (by decide) rfl ?_
  refine T_iconst (v := (0 : Int32)) (by decide) dX1_uncover_26 ?_
  refine T_istore [(4, .int (0 : Int32)), (3, .int v4), (0, .ref i0), (1, .ref i1), (2, .int x2)] dX1_uncover_27 (by decide) rfl ?_
  refine T_sub [2, 1, 0] (lv' := [(0, .ref i0), (3, .int v4), (4, .int (0 : Int32))]) rfl ?_
  exact t_X1_uncover_l29 h0 h1  _ _ _ _
theorem C_X1_uncover {X : Scr} {i0 : Nat} {i1 : Nat} (h0 : KD[i0]? = some (.inl 1)) (h1 : KD[i1]? = some (.inl 0)) (x2 : Int32) {M : Mem} {r : Unit} {M' : Mem} (h : X1_uncover i0 i1 x2 M = some (r, M')) : Ct X md_X1_uncover [.ref i0, .ref i1, .int x2] M (eV r) M' := Ct_of (by decide +kernel) (Nat.le_of_ble_eq_true rfl) (t_X1_uncover h0 h1 _ M) r M' h
-- X11_isWithin
def X11_isWithin_b15   (s0 : Int32) (M : Mem) : Option (Int32 × Mem) :=
  gd (s0 == 0 || s0 == 1) (some (s0, M))
def X11_isWithin_b14    (M : Mem) : Option (Int32 × Mem) :=
  X11_isWithin_b15   (0 : Int32) M
def X11_isWithin   (x0 : Int32) (x1 : Int32) (x2 : Int32) (M : Mem) : Option (Int32 × Mem) :=
  if x0 < x1 then
    X11_isWithin_b14    M
  else
    if x2 < x0 then
      X11_isWithin_b14    M
    else
      X11_isWithin_b15   (1 : Int32) M
set_option maxHeartbeats 4000000 in
set_option maxRecDepth 100000 in
theorem t_X11_isWithin_b15 {X : Scr}   (s0 : Int32) (M : Mem) : T X eI (X11_isWithin_b15   s0 M) md_X11_isWithin 15 [] [.int s0] M := by
  unfold X11_isWithin_b15
  exact T_zret dX11_isWithin_15 rfl
set_option maxHeartbeats 4000000 in
set_option maxRecDepth 100000 in
theorem t_X11_isWithin_b14 {X : Scr}    (M : Mem) : T X eI (X11_isWithin_b14    M) md_X11_isWithin 14 [] [] M := by
  unfold X11_isWithin_b14
  refine T_iconst (v := (0 : Int32)) (by decide) dX11_isWithin_14 ?_
  exact t_X11_isWithin_b15   _ _
set_option maxHeartbeats 4000000 in
set_option maxRecDepth 100000 in
theorem t_X11_isWithin {X : Scr}   (x0 : Int32) (x1 : Int32) (x2 : Int32) (M : Mem) : T X eI (X11_isWithin   x0 x1 x2 M) md_X11_isWithin 0 [(0, .int x0), (1, .int x1), (2, .int x2)] [] M := by
  unfold X11_isWithin
  refine T_iload_n 0 dX11_isWithin_0 rfl rfl ?_
  refine T_iload_n 1 dX11_isWithin_1 rfl rfl ?_
  refine T_icmp_lt 14 dX11_isWithin_2 (by decide) ?_ ?_
  ·
    refine T_sub [] (lv' := []) rfl ?_
    exact t_X11_isWithin_b14    _
  ·
    refine T_iload_n 0 dX11_isWithin_5 rfl rfl ?_
    refine T_iload_n 2 dX11_isWithin_6 rfl rfl ?_
    refine T_icmp_gt 14 dX11_isWithin_7 (by decide) ?_ ?_
    ·
      refine T_sub [] (lv' := []) rfl ?_
      exact t_X11_isWithin_b14    _
    ·
      refine T_iconst (v := (1 : Int32)) (by decide) dX11_isWithin_10 ?_
      refine T_goto 15 dX11_isWithin_11 (by decide) ?_
      refine T_sub [] (lv' := []) rfl ?_
      exact t_X11_isWithin_b15   _ _
theorem C_X11_isWithin {X : Scr}   (x0 : Int32) (x1 : Int32) (x2 : Int32) {M : Mem} {r : Int32} {M' : Mem} (h : X11_isWithin  x0 x1 x2 M = some (r, M')) : Ct X md_X11_isWithin [.int x0, .int x1, .int x2] M (eI r) M' := Ct_of (by decide +kernel) (Nat.le_of_ble_eq_true rfl) (t_X11_isWithin  _ _ _ M) r M' h
-- X11_isCabin
def X11_isCabin   (x0 : Int32) (M : Mem) : Option (Int32 × Mem) :=
  (X11_isWithin  x0 (0 : Int32) (9 : Int32) M).bind (fun p1 =>
    gd (p1.1 == 0 || p1.1 == 1) (some (p1.1, p1.2)))
set_option maxHeartbeats 4000000 in
set_option maxRecDepth 100000 in
theorem t_X11_isCabin {X : Scr}   (x0 : Int32) (M : Mem) : T X eI (X11_isCabin   x0 M) md_X11_isCabin 0 [(0, .int x0)] [] M := by
  unfold X11_isCabin
  refine T_iload_n 0 dX11_isCabin_0 rfl rfl ?_
  refine T_iconst (v := (0 : Int32)) (by decide) dX11_isCabin_1 ?_
  refine T_bipush (v := (9 : Int32)) (by decide) dX11_isCabin_2 ?_
  refine T_callSI md_X11_isWithin [.int x0, .int (0 : Int32), .int (9 : Int32)] [] dX11_isCabin_4 rfl ok_X11_isWithin tb_361 tb_362 (by decide) (Nat.le_of_ble_eq_true rfl) (fun _ _ h9 => C_X11_isWithin  _ _ _ h9) (fun r1 M1 => ?_)
  dsimp only
  exact T_zret dX11_isCabin_7 rfl
theorem C_X11_isCabin {X : Scr}   (x0 : Int32) {M : Mem} {r : Int32} {M' : Mem} (h : X11_isCabin  x0 M = some (r, M')) : Ct X md_X11_isCabin [.int x0] M (eI r) M' := Ct_of (by decide +kernel) (Nat.le_of_ble_eq_true rfl) (t_X11_isCabin  _ M) r M' h
-- X8_isLetter
def X8_isLetter   (x0 : Int32) (M : Mem) : Option (Int32 × Mem) :=
  (X11_isCabin  (x0 - (65 : Int32)) M).bind (fun p1 =>
    gd (p1.1 == 0 || p1.1 == 1) (some (p1.1, p1.2)))
set_option maxHeartbeats 4000000 in
set_option maxRecDepth 100000 in
theorem t_X8_isLetter {X : Scr}   (x0 : Int32) (M : Mem) : T X eI (X8_isLetter   x0 M) md_X8_isLetter 0 [(0, .int x0)] [] M := by
  unfold X8_isLetter
  refine T_iload_n 0 dX8_isLetter_0 rfl rfl ?_
  refine T_bipush (v := (65 : Int32)) (by decide) dX8_isLetter_1 ?_
  refine T_isub dX8_isLetter_3 ?_
  refine T_callSNI md_X11_isCabin [.int (x0 - (65 : Int32))] [] dX8_isLetter_4 rfl ok_X11_isCabin tb_413 tb_359 (by decide) (Nat.le_of_ble_eq_true rfl) (fun _ _ h9 => C_X11_isCabin  _ h9) (fun r1 M1 => ?_)
  dsimp only
  exact T_zret dX8_isLetter_7 rfl
theorem C_X8_isLetter {X : Scr}   (x0 : Int32) {M : Mem} {r : Int32} {M' : Mem} (h : X8_isLetter  x0 M = some (r, M')) : Ct X md_X8_isLetter [.int x0] M (eI r) M' := Ct_of (by decide +kernel) (Nat.le_of_ble_eq_true rfl) (t_X8_isLetter  _ M) r M' h
-- X8_kindAt
def X8_kindAt_b23 (i0 : Nat)  (s0 : Int32) (M : Mem) : Option (Int32 × Mem) :=
  some (s0, M)
def X8_kindAt (i0 : Nat)  (x1 : Int32) (M : Mem) : Option (Int32 × Mem) :=
  gd (ib x1 60) (
    (X8_isLetter  (M.1 (rf i0 0) x1.toNatClampNeg) M).bind (fun p1 =>
      if p1.1 = 0 then
        gd (ib x1 60) (
          X8_kindAt_b23 i0  (p1.2.1 (rf i0 0) x1.toNatClampNeg) p1.2)
      else
        X8_kindAt_b23 i0  (65 : Int32) p1.2))
set_option maxHeartbeats 4000000 in
set_option maxRecDepth 100000 in
theorem t_X8_kindAt_b23 {X : Scr} {i0 : Nat} (h0 : KD[i0]? = some (.inl 8)) (s0 : Int32) (M : Mem) : T X eI (X8_kindAt_b23 i0  s0 M) md_X8_kindAt 23 [] [.int s0] M := by
  unfold X8_kindAt_b23
  exact T_iret dX8_kindAt_23 rfl
set_option maxHeartbeats 4000000 in
set_option maxRecDepth 100000 in
theorem t_X8_kindAt {X : Scr} {i0 : Nat} (h0 : KD[i0]? = some (.inl 8)) (x1 : Int32) (M : Mem) : T X eI (X8_kindAt i0  x1 M) md_X8_kindAt 0 [(0, .ref i0), (1, .int x1)] [] M := by
  unfold X8_kindAt
  refine T_aload_n 0 dX8_kindAt_0 rfl rfl ?_
  refine T_getR 0 FOk_8 h0 (by decide) (by decide) dX8_kindAt_1 tb_144 ?_
  refine T_iload_n 1 dX8_kindAt_4 rfl rfl ?_
  refine T_iald (kf_8_0 h0) dX8_kindAt_5 ?_
  refine T_callSI md_X8_isLetter [.int (M.1 (rf i0 0) x1.toNatClampNeg)] [] dX8_kindAt_6 rfl ok_X8_isLetter tb_410 tb_411 (by decide) (Nat.le_of_ble_eq_true rfl) (fun _ _ h9 => C_X8_isLetter  _ h9) (fun r1 M1 => ?_)
  dsimp only
  refine T_if_eq 17 dX8_kindAt_9 (by decide) ?_ ?_
  ·
    refine T_aload_n 0 dX8_kindAt_17 rfl rfl ?_
    refine T_getR 0 FOk_8 h0 (by decide) (by decide) dX8_kindAt_18 tb_144 ?_
    refine T_iload_n 1 dX8_kindAt_21 rfl rfl ?_
    refine T_iald (kf_8_0 h0) dX8_kindAt_22 ?_
    refine T_sub [] (lv' := []) rfl ?_
    exact t_X8_kindAt_b23 h0  _ _
  ·
    refine T_bipush (v := (65 : Int32)) (by decide) dX8_kindAt_12 ?_
    refine T_goto 23 dX8_kindAt_14 (by decide) ?_
    refine T_sub [] (lv' := []) rfl ?_
    exact t_X8_kindAt_b23 h0  _ _
theorem C_X8_kindAt {X : Scr} {i0 : Nat} (h0 : KD[i0]? = some (.inl 8)) (x1 : Int32) {M : Mem} {r : Int32} {M' : Mem} (h : X8_kindAt i0 x1 M = some (r, M')) : Ct X md_X8_kindAt [.ref i0, .int x1] M (eI r) M' := Ct_of (by decide +kernel) (Nat.le_of_ble_eq_true rfl) (t_X8_kindAt h0 _ M) r M' h
-- X8_isOfTwo
def X8_isOfTwo_b23   (s0 : Int32) (M : Mem) : Option (Int32 × Mem) :=
  gd (s0 == 0 || s0 == 1) (some (s0, M))
def X8_isOfTwo_b18    (M : Mem) : Option (Int32 × Mem) :=
  X8_isOfTwo_b23   (1 : Int32) M
def X8_isOfTwo   (x0 : Int32) (M : Mem) : Option (Int32 × Mem) :=
  if x0 = (43 : Int32) then
    X8_isOfTwo_b18    M
  else
    if x0 = (45 : Int32) then
      X8_isOfTwo_b18    M
    else
      if x0 = (61 : Int32) then
        X8_isOfTwo_b18    M
      else
        X8_isOfTwo_b23   (0 : Int32) M
set_option maxHeartbeats 4000000 in
set_option maxRecDepth 100000 in
theorem t_X8_isOfTwo_b23 {X : Scr}   (s0 : Int32) (M : Mem) : T X eI (X8_isOfTwo_b23   s0 M) md_X8_isOfTwo 23 [] [.int s0] M := by
  unfold X8_isOfTwo_b23
  exact T_zret dX8_isOfTwo_23 rfl
set_option maxHeartbeats 4000000 in
set_option maxRecDepth 100000 in
theorem t_X8_isOfTwo_b18 {X : Scr}    (M : Mem) : T X eI (X8_isOfTwo_b18    M) md_X8_isOfTwo 18 [] [] M := by
  unfold X8_isOfTwo_b18
  refine T_iconst (v := (1 : Int32)) (by decide) dX8_isOfTwo_18 ?_
  refine T_goto 23 dX8_isOfTwo_19 (by decide) ?_
  exact t_X8_isOfTwo_b23   _ _
set_option maxHeartbeats 4000000 in
set_option maxRecDepth 100000 in
theorem t_X8_isOfTwo {X : Scr}   (x0 : Int32) (M : Mem) : T X eI (X8_isOfTwo   x0 M) md_X8_isOfTwo 0 [(0, .int x0)] [] M := by
  unfold X8_isOfTwo
  refine T_iload_n 0 dX8_isOfTwo_0 rfl rfl ?_
  refine T_bipush (v := (43 : Int32)) (by decide) dX8_isOfTwo_1 ?_
  refine T_icmp_eq 18 dX8_isOfTwo_3 (by decide) ?_ ?_
  ·
    refine T_sub [] (lv' := []) rfl ?_
    exact t_X8_isOfTwo_b18    _
  ·
    refine T_iload_n 0 dX8_isOfTwo_6 rfl rfl ?_
    refine T_bipush (v := (45 : Int32)) (by decide) dX8_isOfTwo_7 ?_
    refine T_icmp_eq 18 dX8_isOfTwo_9 (by decide) ?_ ?_
    ·
      refine T_sub [] (lv' := []) rfl ?_
      exact t_X8_isOfTwo_b18    _
    ·
      refine T_iload_n 0 dX8_isOfTwo_12 rfl rfl ?_
      refine T_bipush (v := (61 : Int32)) (by decide) dX8_isOfTwo_13 ?_
      refine T_icmp_ne 22 dX8_isOfTwo_15 (by decide) ?_ ?_
      ·
        refine T_sub [] (lv' := []) rfl ?_
        exact t_X8_isOfTwo_b18    _
      ·
        refine T_iconst (v := (0 : Int32)) (by decide) dX8_isOfTwo_22 ?_
        refine T_sub [] (lv' := []) rfl ?_
        exact t_X8_isOfTwo_b23   _ _
theorem C_X8_isOfTwo {X : Scr}   (x0 : Int32) {M : Mem} {r : Int32} {M' : Mem} (h : X8_isOfTwo  x0 M = some (r, M')) : Ct X md_X8_isOfTwo [.int x0] M (eI r) M' := Ct_of (by decide +kernel) (Nat.le_of_ble_eq_true rfl) (t_X8_isOfTwo  _ M) r M' h
-- X8_operandAt
def X8_operandAt_b64 (i0 : Nat)  (s0 : Int32) (M : Mem) : Option (Int32 × Mem) :=
  some (s0, M)
def X8_operandAt_b45 (i0 : Nat)  (s0 : Int32) (M : Mem) : Option (Int32 × Mem) :=
  (X8_isLetter  s0 M).bind (fun p1 =>
    if p1.1 = 0 then
      X8_operandAt_b64 i0  (s0 - (48 : Int32)) p1.2
    else
      X8_operandAt_b64 i0  (s0 - (65 : Int32)) p1.2)
def X8_operandAt (i0 : Nat)  (x1 : Int32) (M : Mem) : Option (Int32 × Mem) :=
  gd (ib x1 60) (
    (X8_isOfTwo  (M.1 (rf i0 0) x1.toNatClampNeg) M).bind (fun p1 =>
      if p1.1 = 0 then
        gd (ib x1 60) (
          some (((p1.2.1 (rf i0 0) x1.toNatClampNeg) - (65 : Int32)), p1.2))
      else
        if (p1.2.1 i0 1) ≤ (x1 + (1 : Int32)) then
          X8_operandAt_b45 i0  (65 : Int32) p1.2
        else
          gd (ib (x1 + (1 : Int32)) 60) (
            X8_operandAt_b45 i0  (p1.2.1 (rf i0 0) (x1 + (1 : Int32)).toNatClampNeg) p1.2)))
set_option maxHeartbeats 4000000 in
set_option maxRecDepth 100000 in
theorem t_X8_operandAt_b64 {X : Scr} {i0 : Nat} (h0 : KD[i0]? = some (.inl 8)) (s0 : Int32) (M : Mem) : T X eI (X8_operandAt_b64 i0  s0 M) md_X8_operandAt 64 [] [.int s0] M := by
  unfold X8_operandAt_b64
  exact T_iret dX8_operandAt_64 rfl
set_option maxHeartbeats 4000000 in
set_option maxRecDepth 100000 in
theorem t_X8_operandAt_b45 {X : Scr} {i0 : Nat} (h0 : KD[i0]? = some (.inl 8)) (s0 : Int32) (M : Mem) : T X eI (X8_operandAt_b45 i0  s0 M) md_X8_operandAt 45 [] [.int s0] M := by
  unfold X8_operandAt_b45
  refine T_istore_n [(2, .int s0)] dX8_operandAt_45 rfl (by decide) rfl ?_
  refine T_iload_n 0 dX8_operandAt_46 rfl rfl ?_
  refine T_callSI md_X8_isLetter [.int s0] [] dX8_operandAt_47 rfl ok_X8_isLetter tb_410 tb_411 (by decide) (Nat.le_of_ble_eq_true rfl) (fun _ _ h9 => C_X8_isLetter  _ h9) (fun r1 M1 => ?_)
  dsimp only
  refine T_if_eq 60 dX8_operandAt_50 (by decide) ?_ ?_
  ·
    refine T_iload_n 0 dX8_operandAt_60 rfl rfl ?_
    refine T_bipush (v := (48 : Int32)) (by decide) dX8_operandAt_61 ?_
    refine T_isub dX8_operandAt_63 ?_
    refine T_sub [] (lv' := []) rfl ?_
    exact t_X8_operandAt_b64 h0  _ _
  ·
    refine T_iload_n 0 dX8_operandAt_53 rfl rfl ?_
    refine T_bipush (v := (65 : Int32)) (by decide) dX8_operandAt_54 ?_
    refine T_isub dX8_operandAt_56 ?_
    refine T_goto 64 dX8_operandAt_57 (by decide) ?_
    refine T_sub [] (lv' := []) rfl ?_
    exact t_X8_operandAt_b64 h0  _ _
set_option maxHeartbeats 4000000 in
set_option maxRecDepth 100000 in
theorem t_X8_operandAt {X : Scr} {i0 : Nat} (h0 : KD[i0]? = some (.inl 8)) (x1 : Int32) (M : Mem) : T X eI (X8_operandAt i0  x1 M) md_X8_operandAt 0 [(0, .ref i0), (1, .int x1)] [] M := by
  unfold X8_operandAt
  refine T_aload_n 0 dX8_operandAt_0 rfl rfl ?_
  refine T_getR 0 FOk_8 h0 (by decide) (by decide) dX8_operandAt_1 tb_144 ?_
  refine T_iload_n 1 dX8_operandAt_4 rfl rfl ?_
  refine T_iald (kf_8_0 h0) dX8_operandAt_5 ?_
  refine T_callSI md_X8_isOfTwo [.int (M.1 (rf i0 0) x1.toNatClampNeg)] [] dX8_operandAt_6 rfl ok_X8_isOfTwo tb_420 tb_421 (by decide) (Nat.le_of_ble_eq_true rfl) (fun _ _ h9 => C_X8_isOfTwo  _ h9) (fun r1 M1 => ?_)
  dsimp only
  refine T_if_ne 22 dX8_operandAt_9 (by decide) ?_ ?_
  ·
    refine T_aload_n 0 dX8_operandAt_12 rfl rfl ?_
    refine T_getR 0 FOk_8 h0 (by decide) (by decide) dX8_operandAt_13 tb_144 ?_
    refine T_iload_n 1 dX8_operandAt_16 rfl rfl ?_
    refine T_iald (kf_8_0 h0) dX8_operandAt_17 ?_
    refine T_bipush (v := (65 : Int32)) (by decide) dX8_operandAt_18 ?_
    refine T_isub dX8_operandAt_20 ?_
    exact T_iret dX8_operandAt_21 rfl
  ·
    refine T_iload_n 1 dX8_operandAt_22 rfl rfl ?_
    refine T_iconst (v := (1 : Int32)) (by decide) dX8_operandAt_23 ?_
    refine T_iadd dX8_operandAt_24 ?_
    refine T_aload_n 0 dX8_operandAt_25 rfl rfl ?_
    refine T_getI 1 FOk_8 h0 (by decide) (by decide) dX8_operandAt_26 tb_145 ?_
    refine T_icmp_ge 43 dX8_operandAt_29 (by decide) ?_ ?_
    ·
      refine T_bipush (v := (65 : Int32)) (by decide) dX8_operandAt_43 ?_
      refine T_sub [] (lv' := []) rfl ?_
      exact t_X8_operandAt_b45 h0  _ _
    ·
      refine T_aload_n 0 dX8_operandAt_32 rfl rfl ?_
      refine T_getR 0 FOk_8 h0 (by decide) (by decide) dX8_operandAt_33 tb_144 ?_
      refine T_iload_n 1 dX8_operandAt_36 rfl rfl ?_
      refine T_iconst (v := (1 : Int32)) (by decide) dX8_operandAt_37 ?_
      refine T_iadd dX8_operandAt_38 ?_
      refine T_iald (kf_8_0 h0) dX8_operandAt_39 ?_
      refine T_goto 45 dX8_operandAt_40 (by decide) ?_
      refine T_sub [] (lv' := []) rfl ?_
      exact t_X8_operandAt_b45 h0  _ _
theorem C_X8_operandAt {X : Scr} {i0 : Nat} (h0 : KD[i0]? = some (.inl 8)) (x1 : Int32) {M : Mem} {r : Int32} {M' : Mem} (h : X8_operandAt i0 x1 M = some (r, M')) : Ct X md_X8_operandAt [.ref i0, .int x1] M (eI r) M' := Ct_of (by decide +kernel) (Nat.le_of_ble_eq_true rfl) (t_X8_operandAt h0 _ M) r M' h
-- J9_max_7cf53
def J9_max_7cf53_b10   (s0 : Int32) (M : Mem) : Option (Int32 × Mem) :=
  some (s0, M)
def J9_max_7cf53   (x0 : Int32) (x1 : Int32) (M : Mem) : Option (Int32 × Mem) :=
  if x0 < x1 then
    J9_max_7cf53_b10   x1 M
  else
    J9_max_7cf53_b10   x0 M
set_option maxHeartbeats 4000000 in
set_option maxRecDepth 100000 in
theorem t_J9_max_7cf53_b10 {X : Scr}   (s0 : Int32) (M : Mem) : T X eI (J9_max_7cf53_b10   s0 M) md_J9_max_7cf53 10 [] [.int s0] M := by
  unfold J9_max_7cf53_b10
  exact T_iret dJ9_max_7cf53_10 rfl
set_option maxHeartbeats 4000000 in
set_option maxRecDepth 100000 in
theorem t_J9_max_7cf53 {X : Scr}   (x0 : Int32) (x1 : Int32) (M : Mem) : T X eI (J9_max_7cf53   x0 x1 M) md_J9_max_7cf53 0 [(0, .int x0), (1, .int x1)] [] M := by
  unfold J9_max_7cf53
  refine T_iload_n 0 dJ9_max_7cf53_0 rfl rfl ?_
  refine T_iload_n 1 dJ9_max_7cf53_1 rfl rfl ?_
  refine T_icmp_lt 9 dJ9_max_7cf53_2 (by decide) ?_ ?_
  ·
    refine T_iload_n 1 dJ9_max_7cf53_9 rfl rfl ?_
    refine T_sub [] (lv' := []) rfl ?_
    exact t_J9_max_7cf53_b10   _ _
  ·
    refine T_iload_n 0 dJ9_max_7cf53_5 rfl rfl ?_
    refine T_goto 10 dJ9_max_7cf53_6 (by decide) ?_
    refine T_sub [] (lv' := []) rfl ?_
    exact t_J9_max_7cf53_b10   _ _
theorem C_J9_max_7cf53 {X : Scr}   (x0 : Int32) (x1 : Int32) {M : Mem} {r : Int32} {M' : Mem} (h : J9_max_7cf53  x0 x1 M = some (r, M')) : Ct X md_J9_max_7cf53 [.int x0, .int x1] M (eI r) M' := Ct_of (by decide +kernel) (Nat.le_of_ble_eq_true rfl) (t_J9_max_7cf53  _ _ M) r M' h
-- X2_noteLoss
def X2_noteLoss_b55 (i0 : Nat)   (M : Mem) : Option (Unit × Mem) :=
  some ((), M)
def X2_noteLoss (i0 : Nat)  (x1 : Int32) (x2 : Int32) (M : Mem) : Option (Unit × Mem) :=
  gd (ib x1 10) (
    if (M.1 (rf (rf i0 0) 0) x1.toNatClampNeg) = x1 then
      mw (mI M i0 5 (M.1 i0 1)) (fun N1 =>
        mw (mI N1 i0 6 x1) (fun N2 =>
          X2_noteLoss_b55 i0   N2))
    else
      gd (ib x2 10) (
        if (M.1 (rf (rf i0 0) 0) x2.toNatClampNeg) = x2 then
          mw (mI M i0 5 (M.1 i0 1)) (fun N3 =>
            mw (mI N3 i0 6 x2) (fun N4 =>
              X2_noteLoss_b55 i0   N4))
        else
          X2_noteLoss_b55 i0   M))
set_option maxHeartbeats 4000000 in
set_option maxRecDepth 100000 in
theorem t_X2_noteLoss_b55 {X : Scr} {i0 : Nat} (h0 : KD[i0]? = some (.inl 2))  (M : Mem) : T X eV (X2_noteLoss_b55 i0   M) md_X2_noteLoss 55 [] [] M := by
  unfold X2_noteLoss_b55
  exact T_vret dX2_noteLoss_55 rfl
set_option maxHeartbeats 4000000 in
set_option maxRecDepth 100000 in
theorem t_X2_noteLoss {X : Scr} {i0 : Nat} (h0 : KD[i0]? = some (.inl 2)) (x1 : Int32) (x2 : Int32) (M : Mem) : T X eV (X2_noteLoss i0  x1 x2 M) md_X2_noteLoss 0 [(0, .ref i0), (1, .int x1), (2, .int x2)] [] M := by
  unfold X2_noteLoss
  refine T_aload_n 0 dX2_noteLoss_0 rfl rfl ?_
  refine T_getR 0 FOk_2 h0 (by decide) (by decide) dX2_noteLoss_1 tb_183 ?_
  refine T_getR 0 FOk_0 (kf_2_0 h0) (by decide) (by decide) dX2_noteLoss_4 tb_76 ?_
  refine T_iload_n 1 dX2_noteLoss_7 rfl rfl ?_
  refine T_iald (kf_0_0 (kf_2_0 h0)) dX2_noteLoss_8 ?_
  refine T_iload_n 1 dX2_noteLoss_9 rfl rfl ?_
  refine T_icmp_ne 29 dX2_noteLoss_10 (by decide) ?_ ?_
  ·
    refine T_aload_n 0 dX2_noteLoss_13 rfl rfl ?_
    refine T_aload_n 0 dX2_noteLoss_14 rfl rfl ?_
    refine T_getI 1 FOk_2 h0 (by decide) (by decide) dX2_noteLoss_15 tb_185 ?_
    refine T_putI (ty := .int) 5 FOk_2 h0 (by decide) (by decide) rfl (by decide +kernel) rfl rfl dX2_noteLoss_18 tb_193 ?_
    refine T_mw (fun N1 => ?_)
    try dsimp only
    refine T_aload_n 0 dX2_noteLoss_21 rfl rfl ?_
    refine T_iload_n 1 dX2_noteLoss_22 rfl rfl ?_
    refine T_putI (ty := .int) 6 FOk_2 h0 (by decide) (by decide) rfl (by decide +kernel) rfl rfl dX2_noteLoss_23 tb_195 ?_
    refine T_mw (fun N2 => ?_)
    try dsimp only
    refine T_goto 55 dX2_noteLoss_26 (by decide) ?_
    refine T_sub [] (lv' := []) rfl ?_
    exact t_X2_noteLoss_b55 h0   _
  ·
    refine T_aload_n 0 dX2_noteLoss_29 rfl rfl ?_
    refine T_getR 0 FOk_2 h0 (by decide) (by decide) dX2_noteLoss_30 tb_183 ?_
    refine T_getR 0 FOk_0 (kf_2_0 h0) (by decide) (by decide) dX2_noteLoss_33 tb_76 ?_
    refine T_iload_n 2 dX2_noteLoss_36 rfl rfl ?_
    refine T_iald (kf_0_0 (kf_2_0 h0)) dX2_noteLoss_37 ?_
    refine T_iload_n 2 dX2_noteLoss_38 rfl rfl ?_
    refine T_icmp_ne 55 dX2_noteLoss_39 (by decide) ?_ ?_
    ·
      refine T_aload_n 0 dX2_noteLoss_42 rfl rfl ?_
      refine T_aload_n 0 dX2_noteLoss_43 rfl rfl ?_
      refine T_getI 1 FOk_2 h0 (by decide) (by decide) dX2_noteLoss_44 tb_185 ?_
      refine T_putI (ty := .int) 5 FOk_2 h0 (by decide) (by decide) rfl (by decide +kernel) rfl rfl dX2_noteLoss_47 tb_193 ?_
      refine T_mw (fun N3 => ?_)
      try dsimp only
      refine T_aload_n 0 dX2_noteLoss_50 rfl rfl ?_
      refine T_iload_n 2 dX2_noteLoss_51 rfl rfl ?_
      refine T_putI (ty := .int) 6 FOk_2 h0 (by decide) (by decide) rfl (by decide +kernel) rfl rfl dX2_noteLoss_52 tb_195 ?_
      refine T_mw (fun N4 => ?_)
      try dsimp only
      refine T_sub [] (lv' := []) rfl ?_
      exact t_X2_noteLoss_b55 h0   _
    ·
      refine T_sub [] (lv' := []) rfl ?_
      exact t_X2_noteLoss_b55 h0   _
theorem C_X2_noteLoss {X : Scr} {i0 : Nat} (h0 : KD[i0]? = some (.inl 2)) (x1 : Int32) (x2 : Int32) {M : Mem} {r : Unit} {M' : Mem} (h : X2_noteLoss i0 x1 x2 M = some (r, M')) : Ct X md_X2_noteLoss [.ref i0, .int x1, .int x2] M (eV r) M' := Ct_of (by decide +kernel) (Nat.le_of_ble_eq_true rfl) (t_X2_noteLoss h0 _ _ M) r M' h
