-- X6_pair
def X6_pair_b119 (i0 : Nat) (i1 : Nat) (k31 : Int32 → Int32 → Int32 → Int32 → Int32 → Mem → Option (Unit × Mem)) (x2 : Int32) (x3 : Int32) (x4 : Int32) (x5 : Int32) (x6 : Int32) (M : Mem) : Option (Unit × Mem) :=
  k31 x2 x3 x4 x5 (x6 + (1 : Int32)) M
def X6_pair_b89 (i0 : Nat) (i1 : Nat) (k31 : Int32 → Int32 → Int32 → Int32 → Int32 → Mem → Option (Unit × Mem)) (x2 : Int32) (x3 : Int32) (x4 : Int32) (x5 : Int32) (x6 : Int32) (s0 : Int32) (s1 : Int32) (M : Mem) : Option (Unit × Mem) :=
  gd (ib s1 8) (
    gd (ib x6 8) (
      if ((mI M (rf i0 1) s1.toNatClampNeg s0).1 (rf i0 1) x6.toNatClampNeg) = (-6 : Int32) then
        X6_pair_b119 i0 i1 k31 x2 x3 x4 x5 x6 (mI M (rf i0 1) s1.toNatClampNeg s0)
      else
        gd (ib x6 8) (
          iw (x3 &&& (((1 : Int32) <<< (((mI M (rf i0 1) s1.toNatClampNeg s0).1 (rf i0 1) x6.toNatClampNeg) &&& 31)) ^^^ (-1 : Int32))) (fun v1 =>
            X6_pair_b119 i0 i1 k31 x2 v1 x4 (x5 + (-1 : Int32)) x6 (mI M (rf i0 1) s1.toNatClampNeg s0)))))
def X6_pair_b31 (i0 : Nat) (i1 : Nat) (k31 : Int32 → Int32 → Int32 → Int32 → Int32 → Mem → Option (Unit × Mem)) (x2 : Int32) (x3 : Int32) (x4 : Int32) (x5 : Int32) (x6 : Int32) (M : Mem) : Option (Unit × Mem) :=
  if (8 : Int32) ≤ x6 then
    some ((), M)
  else
    iw (x4 &&& (((1 : Int32) <<< (x6 &&& 31)) ^^^ (-1 : Int32))) (fun v1 =>
      (X11_isIn  x2 x6 M).bind (fun p2 =>
        if p2.1 = 0 then
          X6_pair_b89 i0 i1 k31 x2 x3 v1 x5 x6 (-6 : Int32) x6 p2.2
        else
          gd (ib ((1 : Int32) <<< (x6 &&& 31)) 256) (
            (X6_leastBasket i0 ((p2.2.1 (rf i0 0) ((1 : Int32) <<< (x6 &&& 31)).toNatClampNeg) &&& x3) v1 x3 x5 p2.2).bind (fun p3 =>
              X6_pair_b89 i0 i1 k31 x2 x3 v1 x5 x6 p3.1 x6 p3.2))))
def X6_pair_l31 (i0 : Nat) (i1 : Nat)  : Nat → Int32 → Int32 → Int32 → Int32 → Int32 → Mem → Option (Unit × Mem)
  | 0 => fun _ _ _ _ _ _ => none
  | n + 1 => X6_pair_b31 i0 i1 (X6_pair_l31 i0 i1  n)
def X6_pair (i0 : Nat) (i1 : Nat)  (x2 : Int32) (M : Mem) : Option (Unit × Mem) :=
  (X6_joinHomes i0 i1  M).bind (fun p1 =>
    (X6_mostAtOnce i0 x2 (1023 : Int32) p1.2).bind (fun p2 =>
      X6_pair_l31 i0 i1  FU x2 (1023 : Int32) x2 ((mI p2.2 i0 2 p2.1).1 i0 2) (0 : Int32) (mI p2.2 i0 2 p2.1)))
set_option maxHeartbeats 4000000 in
set_option maxRecDepth 100000 in
theorem t_X6_pair_b119 {X : Scr} {i0 : Nat} {i1 : Nat} (h0 : KD[i0]? = some (.inl 6)) (h1 : KD[i1]? = some (.inl 0)) {k31 : Int32 → Int32 → Int32 → Int32 → Int32 → Mem → Option (Unit × Mem)} (hk31 : ∀ (x2 : Int32) (x3 : Int32) (x4 : Int32) (x5 : Int32) (x6 : Int32) (M : Mem), T X eV (k31 x2 x3 x4 x5 x6 M) md_X6_pair 31 [(0, .ref i0), (2, .int x2), (3, .int x3), (4, .int x4), (5, .int x5), (6, .int x6)] [] M) (x2 : Int32) (x3 : Int32) (x4 : Int32) (x5 : Int32) (x6 : Int32) (M : Mem) : T X eV (X6_pair_b119 i0 i1 k31 x2 x3 x4 x5 x6 M) md_X6_pair 119 [(0, .ref i0), (2, .int x2), (3, .int x3), (4, .int x4), (5, .int x5), (6, .int x6)] [] M := by
  unfold X6_pair_b119
  refine T_iinc 5 [(6, .int (x6 + (1 : Int32))), (0, .ref i0), (2, .int x2), (3, .int x3), (4, .int x4), (5, .int x5)] (v := (1 : Int32)) dX6_pair_119 rfl (by decide) (by decide) rfl ?_
  refine T_goto 31 dX6_pair_122 (by decide) ?_
  refine T_sub [1, 2, 3, 4, 5, 0] (lv' := [(0, .ref i0), (2, .int x2), (3, .int x3), (4, .int x4), (5, .int x5), (6, .int (x6 + (1 : Int32)))]) rfl ?_
  exact hk31 _ _ _ _ _ _
set_option maxHeartbeats 4000000 in
set_option maxRecDepth 100000 in
theorem t_X6_pair_b89 {X : Scr} {i0 : Nat} {i1 : Nat} (h0 : KD[i0]? = some (.inl 6)) (h1 : KD[i1]? = some (.inl 0)) {k31 : Int32 → Int32 → Int32 → Int32 → Int32 → Mem → Option (Unit × Mem)} (hk31 : ∀ (x2 : Int32) (x3 : Int32) (x4 : Int32) (x5 : Int32) (x6 : Int32) (M : Mem), T X eV (k31 x2 x3 x4 x5 x6 M) md_X6_pair 31 [(0, .ref i0), (2, .int x2), (3, .int x3), (4, .int x4), (5, .int x5), (6, .int x6)] [] M) (x2 : Int32) (x3 : Int32) (x4 : Int32) (x5 : Int32) (x6 : Int32) (s0 : Int32) (s1 : Int32) (M : Mem) : T X eV (X6_pair_b89 i0 i1 k31 x2 x3 x4 x5 x6 s0 s1 M) md_X6_pair 89 [(0, .ref i0), (2, .int x2), (3, .int x3), (4, .int x4), (5, .int x5), (6, .int x6)] [.int s0, .int s1, .ref (rf i0 1)] M := by
  unfold X6_pair_b89
  refine T_iast (kf_6_1 h0) dX6_pair_89 ?_
  refine T_aload_n 0 dX6_pair_90 rfl rfl ?_
  refine T_getR 1 FOk_6 h0 (by decide) (by decide) dX6_pair_91 tb_237 ?_
  refine T_iload 5 dX6_pair_94 rfl ?_
  refine T_iald (kf_6_1 h0) dX6_pair_96 ?_
  refine T_bipush (v := (-6 : Int32)) (by decide) dX6_pair_97 ?_
  refine T_icmp_eq 119 dX6_pair_99 (by decide) ?_ ?_
  ·
    exact t_X6_pair_b119 h0 h1 hk31 _ _ _ _ _ _
  ·
    refine T_iload_n 2 dX6_pair_102 rfl rfl ?_
    refine T_iconst (v := (1 : Int32)) (by decide) dX6_pair_103 ?_
    refine T_aload_n 0 dX6_pair_104 rfl rfl ?_
    refine T_getR 1 FOk_6 h0 (by decide) (by decide) dX6_pair_105 tb_237 ?_
    refine T_iload 5 dX6_pair_108 rfl ?_
    refine T_iald (kf_6_1 h0) dX6_pair_110 ?_
    refine T_ishl dX6_pair_111 ?_
    refine T_iconst (v := (-1 : Int32)) (by decide) dX6_pair_112 ?_
    refine T_ixor dX6_pair_113 ?_
    refine T_iand dX6_pair_114 ?_
    refine T_iw (fun v1 => ?_)
    try dsimp only
    refine T_istore_n [(3, .int v1), (0, .ref i0), (2, .int x2), (4, .int x4), (5, .int x5), (6, .int x6)] dX6_pair_115 rfl (by decide) rfl ?_
    refine T_iinc 4 [(5, .int (x5 + (-1 : Int32))), (3, .int v1), (0, .ref i0), (2, .int x2), (4, .int x4), (6, .int x6)] (v := (-1 : Int32)) dX6_pair_116 rfl (by decide) (by decide) rfl ?_
    refine T_sub [2, 3, 1, 4, 0, 5] (lv' := [(0, .ref i0), (2, .int x2), (3, .int v1), (4, .int x4), (5, .int (x5 + (-1 : Int32))), (6, .int x6)]) rfl ?_
    exact t_X6_pair_b119 h0 h1 hk31 _ _ _ _ _ _
set_option maxHeartbeats 4000000 in
set_option maxRecDepth 100000 in
theorem t_X6_pair_b31 {X : Scr} {i0 : Nat} {i1 : Nat} (h0 : KD[i0]? = some (.inl 6)) (h1 : KD[i1]? = some (.inl 0)) {k31 : Int32 → Int32 → Int32 → Int32 → Int32 → Mem → Option (Unit × Mem)} (hk31 : ∀ (x2 : Int32) (x3 : Int32) (x4 : Int32) (x5 : Int32) (x6 : Int32) (M : Mem), T X eV (k31 x2 x3 x4 x5 x6 M) md_X6_pair 31 [(0, .ref i0), (2, .int x2), (3, .int x3), (4, .int x4), (5, .int x5), (6, .int x6)] [] M) (x2 : Int32) (x3 : Int32) (x4 : Int32) (x5 : Int32) (x6 : Int32) (M : Mem) : T X eV (X6_pair_b31 i0 i1 k31 x2 x3 x4 x5 x6 M) md_X6_pair 31 [(0, .ref i0), (2, .int x2), (3, .int x3), (4, .int x4), (5, .int x5), (6, .int x6)] [] M := by
  unfold X6_pair_b31
  refine T_iload 5 dX6_pair_31 rfl ?_
  refine T_bipush (v := (8 : Int32)) (by decide) dX6_pair_33 ?_
  refine T_icmp_ge 125 dX6_pair_35 (by decide) ?_ ?_
  ·
    exact T_vret dX6_pair_125 rfl
  ·
    refine T_iload 3 dX6_pair_38 rfl ?_
    refine T_iconst (v := (1 : Int32)) (by decide) dX6_pair_40 ?_
    refine T_iload 5 dX6_pair_41 rfl ?_
    refine T_ishl dX6_pair_43 ?_
    refine T_iconst (v := (-1 : Int32)) (by decide) dX6_pair_44 ?_
    refine T_ixor dX6_pair_45 ?_
    refine T_iand dX6_pair_46 ?_
    refine T_iw (fun v1 => ?_)
    try dsimp only
    refine T_istore [(4, .int v1), (0, .ref i0), (2, .int x2), (3, .int x3), (5, .int x5), (6, .int x6)] dX6_pair_47 (by decide) rfl ?_
    refine T_aload_n 1 dX6_pair_49 rfl rfl ?_
    refine T_getR 1 FOk_6 h0 (by decide) (by decide) dX6_pair_50 tb_237 ?_
    refine T_iload 5 dX6_pair_53 rfl ?_
    refine T_iload_n 2 dX6_pair_55 rfl rfl ?_
    refine T_iload 5 dX6_pair_56 rfl ?_
    refine T_callSNI md_X11_isIn [.int x2, .int x6] [.int x6, .ref (rf i0 1)] dX6_pair_58 rfl ok_X11_isIn tb_560 tb_474 (by decide) (Nat.le_of_ble_eq_true rfl) (fun _ _ h9 => C_X11_isIn  _ _ h9) (fun r2 M2 => ?_)
    dsimp only
    refine T_if_eq 87 dX6_pair_61 (by decide) ?_ ?_
    ·
      refine T_bipush (v := (-6 : Int32)) (by decide) dX6_pair_87 ?_
      refine T_sub [1, 2, 3, 0, 4, 5] (lv' := [(0, .ref i0), (2, .int x2), (3, .int x3), (4, .int v1), (5, .int x5), (6, .int x6)]) rfl ?_
      exact t_X6_pair_b89 h0 h1 hk31 _ _ _ _ _ _ _ _
    ·
      refine T_aload_n 1 dX6_pair_64 rfl rfl ?_
      refine T_aload_n 1 dX6_pair_65 rfl rfl ?_
      refine T_getR 0 FOk_6 h0 (by decide) (by decide) dX6_pair_66 tb_236 ?_
      refine T_iconst (v := (1 : Int32)) (by decide) dX6_pair_69 ?_
      refine T_iload 5 dX6_pair_70 rfl ?_
      refine T_ishl dX6_pair_72 ?_
      refine T_iald (kf_6_0 h0) dX6_pair_73 ?_
      refine T_iload_n 3 dX6_pair_74 rfl rfl ?_
      refine T_iand dX6_pair_75 ?_
      refine T_iload 0 dX6_pair_76 rfl ?_
      refine T_iload_n 3 dX6_pair_78 rfl rfl ?_
      refine T_iload 4 dX6_pair_79 rfl ?_
      refine T_callVI md_X6_leastBasket [.int ((M2.1 (rf i0 0) ((1 : Int32) <<< (x6 &&& 31)).toNatClampNeg) &&& x3), .int v1, .int x3, .int x5] [.int x6, .ref (rf i0 1)] dX6_pair_81 h0 rfl rfl ok_X6_leastBasket tb_567 tb_569 tb_9 (by decide) (Nat.le_of_ble_eq_true rfl) (fun _ _ h9 => C_X6_leastBasket h0 _ _ _ _ h9) (fun r3 M3 => ?_)
      dsimp only
      refine T_goto 89 dX6_pair_84 (by decide) ?_
      refine T_sub [1, 2, 3, 0, 4, 5] (lv' := [(0, .ref i0), (2, .int x2), (3, .int x3), (4, .int v1), (5, .int x5), (6, .int x6)]) rfl ?_
      exact t_X6_pair_b89 h0 h1 hk31 _ _ _ _ _ _ _ _
theorem t_X6_pair_l31 {X : Scr} {i0 : Nat} {i1 : Nat} (h0 : KD[i0]? = some (.inl 6)) (h1 : KD[i1]? = some (.inl 0)) (n : Nat) : ∀ (x2 : Int32) (x3 : Int32) (x4 : Int32) (x5 : Int32) (x6 : Int32) (M : Mem), T X eV (X6_pair_l31 i0 i1  n x2 x3 x4 x5 x6 M) md_X6_pair 31 [(0, .ref i0), (2, .int x2), (3, .int x3), (4, .int x4), (5, .int x5), (6, .int x6)] [] M := by
  induction n with
  | zero => intro x2 x3 x4 x5 x6 M; exact T_none
  | succ n ih => intro x2 x3 x4 x5 x6 M; exact t_X6_pair_b31 h0 h1 ih x2 x3 x4 x5 x6 M
set_option maxHeartbeats 4000000 in
set_option maxRecDepth 100000 in
theorem t_X6_pair {X : Scr} {i0 : Nat} {i1 : Nat} (h0 : KD[i0]? = some (.inl 6)) (h1 : KD[i1]? = some (.inl 0)) (x2 : Int32) (M : Mem) : T X eV (X6_pair i0 i1  x2 M) md_X6_pair 0 [(0, .ref i0), (1, .ref i1), (2, .int x2)] [] M := by
  unfold X6_pair
  refine T_aload_n 0 dX6_pair_0 rfl rfl ?_
  refine T_aload_n 1 dX6_pair_1 rfl rfl ?_
  refine T_callVU md_X6_joinHomes [.ref i1] [] dX6_pair_2 h0 rfl rfl ok_X6_joinHomes tb_556 tb_558 tb_7 (by decide) (Nat.le_of_ble_eq_true rfl) (fun _ _ h9 => C_X6_joinHomes h0 h1  h9) (fun r1 M1 => ?_)
  dsimp only
  refine T_sipush (v := (1023 : Int32)) (by decide) dX6_pair_5 ?_
  refine T_istore_n [(3, .int (1023 : Int32)), (0, .ref i0), (1, .ref i1), (2, .int x2)] dX6_pair_8 rfl (by decide) rfl ?_
  refine T_iload_n 3 dX6_pair_9 rfl rfl ?_
  refine T_istore [(4, .int x2), (3, .int (1023 : Int32)), (0, .ref i0), (1, .ref i1), (2, .int x2)] dX6_pair_10 (by decide) rfl ?_
  refine T_aload_n 2 dX6_pair_12 rfl rfl ?_
  refine T_aload_n 2 dX6_pair_13 rfl rfl ?_
  refine T_iload_n 4 dX6_pair_14 rfl rfl ?_
  refine T_iload_n 1 dX6_pair_15 rfl rfl ?_
  refine T_callVI md_X6_mostAtOnce [.int x2, .int (1023 : Int32)] [.ref i0] dX6_pair_16 h0 rfl rfl ok_X6_mostAtOnce tb_561 tb_563 tb_8 (by decide) (Nat.le_of_ble_eq_true rfl) (fun _ _ h9 => C_X6_mostAtOnce h0 _ _ h9) (fun r2 M2 => ?_)
  dsimp only
  refine T_putI (ty := .int) 2 FOk_6 h0 (by decide) (by decide) rfl (by decide +kernel) rfl rfl dX6_pair_19 tb_239 ?_
  refine T_aload_n 2 dX6_pair_22 rfl rfl ?_
  refine T_getI 2 FOk_6 h0 (by decide) (by decide) dX6_pair_23 tb_239 ?_
  refine T_istore [(5, .int ((mI M2 i0 2 r2).1 i0 2)), (4, .int x2), (3, .int (1023 : Int32)), (0, .ref i0), (1, .ref i1), (2, .int x2)] dX6_pair_26 (by decide) rfl ?_
  refine T_iconst (v := (0 : Int32)) (by decide) dX6_pair_28 ?_
  refine T_istore [(6, .int (0 : Int32)), (5, .int ((mI M2 i0 2 r2).1 i0 2)), (4, .int x2), (3, .int (1023 : Int32)), (0, .ref i0), (1, .ref i1), (2, .int x2)] dX6_pair_29 (by decide) rfl ?_
  refine T_sub [4, 6, 3, 2, 1, 0] (lv' := [(0, .ref i0), (2, .int x2), (3, .int (1023 : Int32)), (4, .int x2), (5, .int ((mI M2 i0 2 r2).1 i0 2)), (6, .int (0 : Int32))]) rfl ?_
  exact t_X6_pair_l31 h0 h1  _ _ _ _ _ _ _
theorem C_X6_pair {X : Scr} {i0 : Nat} {i1 : Nat} (h0 : KD[i0]? = some (.inl 6)) (h1 : KD[i1]? = some (.inl 0)) (x2 : Int32) {M : Mem} {r : Unit} {M' : Mem} (h : X6_pair i0 i1 x2 M = some (r, M')) : Ct X md_X6_pair [.ref i0, .ref i1, .int x2] M (eV r) M' := Ct_of (by decide +kernel) (Nat.le_of_ble_eq_true rfl) (t_X6_pair h0 h1 _ M) r M' h
-- X7_takeOver
def X7_takeOver (i0 : Nat) (i1 : Nat)   (M : Mem) : Option (Unit × Mem) :=
  mw (mR M (rf i0 0) (va_cpy (M.1 (rf i1 0)) (M.1 (rf i0 0)) 0 0 8)) (fun N1 =>
    mw (mR N1 (rf i0 1) (va_cpy (N1.1 (rf i1 1)) (N1.1 (rf i0 1)) 0 0 8)) (fun N2 =>
      mw (mI N2 i0 2 (N2.1 i1 2)) (fun N3 =>
        some ((), N3))))
set_option maxHeartbeats 4000000 in
set_option maxRecDepth 100000 in
theorem t_X7_takeOver {X : Scr} {i0 : Nat} {i1 : Nat} (h0 : KD[i0]? = some (.inl 7)) (h1 : KD[i1]? = some (.inl 7))  (M : Mem) : T X eV (X7_takeOver i0 i1   M) md_X7_takeOver 0 [(0, .ref i0), (1, .ref i1)] [] M := by
  unfold X7_takeOver
  refine T_aload_n 1 dX7_takeOver_0 rfl rfl ?_
  refine T_getR 0 FOk_7 h1 (by decide) (by decide) dX7_takeOver_1 tb_124 ?_
  refine T_iconst (v := (0 : Int32)) (by decide) dX7_takeOver_4 ?_
  refine T_aload_n 0 dX7_takeOver_5 rfl rfl ?_
  refine T_getR 0 FOk_7 h0 (by decide) (by decide) dX7_takeOver_6 tb_124 ?_
  refine T_iconst (v := (0 : Int32)) (by decide) dX7_takeOver_9 ?_
  refine T_aload_n 0 dX7_takeOver_10 rfl rfl ?_
  refine T_getR 0 FOk_7 h0 (by decide) (by decide) dX7_takeOver_11 tb_124 ?_
  refine T_alen (v := (8 : Int32)) (t := 0) (kf_7_0 h0) (by decide) dX7_takeOver_14 ?_
  refine T_copyi (kf_7_0 h1) (kf_7_0 h0) dX7_takeOver_15 tb_688 tb_441 tb_440 tb_57 (by decide) (by decide) (by decide) (by decide) (by decide) (by decide) (by decide) ?_
  refine T_mw (fun N1 => ?_)
  try dsimp only
  refine T_aload_n 1 dX7_takeOver_18 rfl rfl ?_
  refine T_getR 1 FOk_7 h1 (by decide) (by decide) dX7_takeOver_19 tb_126 ?_
  refine T_iconst (v := (0 : Int32)) (by decide) dX7_takeOver_22 ?_
  refine T_aload_n 0 dX7_takeOver_23 rfl rfl ?_
  refine T_getR 1 FOk_7 h0 (by decide) (by decide) dX7_takeOver_24 tb_126 ?_
  refine T_iconst (v := (0 : Int32)) (by decide) dX7_takeOver_27 ?_
  refine T_aload_n 0 dX7_takeOver_28 rfl rfl ?_
  refine T_getR 1 FOk_7 h0 (by decide) (by decide) dX7_takeOver_29 tb_126 ?_
  refine T_alen (v := (8 : Int32)) (t := 0) (kf_7_1 h0) (by decide) dX7_takeOver_32 ?_
  refine T_copyi (kf_7_1 h1) (kf_7_1 h0) dX7_takeOver_33 tb_688 tb_441 tb_440 tb_57 (by decide) (by decide) (by decide) (by decide) (by decide) (by decide) (by decide) ?_
  refine T_mw (fun N2 => ?_)
  try dsimp only
  refine T_aload_n 0 dX7_takeOver_36 rfl rfl ?_
  refine T_aload_n 1 dX7_takeOver_37 rfl rfl ?_
  refine T_getI 2 FOk_7 h1 (by decide) (by decide) dX7_takeOver_38 tb_128 ?_
  refine T_putI (ty := .int) 2 FOk_7 h0 (by decide) (by decide) rfl (by decide +kernel) rfl rfl dX7_takeOver_41 tb_128 ?_
  refine T_mw (fun N3 => ?_)
  try dsimp only
  exact T_vret dX7_takeOver_44 rfl
theorem C_X7_takeOver {X : Scr} {i0 : Nat} {i1 : Nat} (h0 : KD[i0]? = some (.inl 7)) (h1 : KD[i1]? = some (.inl 7))  {M : Mem} {r : Unit} {M' : Mem} (h : X7_takeOver i0 i1  M = some (r, M')) : Ct X md_X7_takeOver [.ref i0, .ref i1] M (eV r) M' := Ct_of (by decide +kernel) (Nat.le_of_ble_eq_true rfl) (t_X7_takeOver h0 h1  M) r M' h
-- X7_write
def X7_write (i0 : Nat)  (x1 : Int32) (x2 : Int32) (M : Mem) : Option (Int32 × Mem) :=
  if (M.1 i0 2) < (8 : Int32) then
    gd (ib (M.1 i0 2) 8) (
      mw (mI M (rf i0 0) (M.1 i0 2).toNatClampNeg x1) (fun N1 =>
        gd (ib (N1.1 i0 2) 8) (
          mw (mI N1 (rf i0 1) (N1.1 i0 2).toNatClampNeg x2) (fun N2 =>
            mw (mI N2 i0 2 ((N2.1 i0 2) + (1 : Int32))) (fun N3 =>
              some ((1 : Int32), N3))))))
  else
    some ((0 : Int32), M)
set_option maxHeartbeats 4000000 in
set_option maxRecDepth 100000 in
theorem t_X7_write {X : Scr} {i0 : Nat} (h0 : KD[i0]? = some (.inl 7)) (x1 : Int32) (x2 : Int32) (M : Mem) : T X eI (X7_write i0  x1 x2 M) md_X7_write 0 [(0, .ref i0), (1, .int x1), (2, .int x2)] [] M := by
  unfold X7_write
  refine T_aload_n 0 dX7_write_0 rfl rfl ?_
  refine T_getI 2 FOk_7 h0 (by decide) (by decide) dX7_write_1 tb_128 ?_
  refine T_aload_n 0 dX7_write_4 rfl rfl ?_
  refine T_getR 0 FOk_7 h0 (by decide) (by decide) dX7_write_5 tb_124 ?_
  refine T_alen (v := (8 : Int32)) (t := 0) (kf_7_0 h0) (by decide) dX7_write_8 ?_
  refine T_icmp_lt 14 dX7_write_9 (by decide) ?_ ?_
  ·
    refine T_aload_n 0 dX7_write_14 rfl rfl ?_
    refine T_getR 0 FOk_7 h0 (by decide) (by decide) dX7_write_15 tb_124 ?_
    refine T_aload_n 0 dX7_write_18 rfl rfl ?_
    refine T_getI 2 FOk_7 h0 (by decide) (by decide) dX7_write_19 tb_128 ?_
    refine T_iload_n 1 dX7_write_22 rfl rfl ?_
    refine T_iast (kf_7_0 h0) dX7_write_23 ?_
    refine T_mw (fun N1 => ?_)
    try dsimp only
    refine T_aload_n 0 dX7_write_24 rfl rfl ?_
    refine T_getR 1 FOk_7 h0 (by decide) (by decide) dX7_write_25 tb_126 ?_
    refine T_aload_n 0 dX7_write_28 rfl rfl ?_
    refine T_getI 2 FOk_7 h0 (by decide) (by decide) dX7_write_29 tb_128 ?_
    refine T_iload_n 2 dX7_write_32 rfl rfl ?_
    refine T_iast (kf_7_1 h0) dX7_write_33 ?_
    refine T_mw (fun N2 => ?_)
    try dsimp only
    refine T_aload_n 0 dX7_write_34 rfl rfl ?_
    refine T_dup rfl dX7_write_35 ?_
    refine T_getI 2 FOk_7 h0 (by decide) (by decide) dX7_write_36 tb_128 ?_
    refine T_iconst (v := (1 : Int32)) (by decide) dX7_write_39 ?_
    refine T_iadd dX7_write_40 ?_
    refine T_putI (ty := .int) 2 FOk_7 h0 (by decide) (by decide) rfl (by decide +kernel) rfl rfl dX7_write_41 tb_128 ?_
    refine T_mw (fun N3 => ?_)
    try dsimp only
    refine T_iconst (v := (1 : Int32)) (by decide) dX7_write_44 ?_
    exact T_zret1 dX7_write_45 rfl
  ·
    refine T_iconst (v := (0 : Int32)) (by decide) dX7_write_12 ?_
    exact T_zret0 dX7_write_13 rfl
theorem C_X7_write {X : Scr} {i0 : Nat} (h0 : KD[i0]? = some (.inl 7)) (x1 : Int32) (x2 : Int32) {M : Mem} {r : Int32} {M' : Mem} (h : X7_write i0 x1 x2 M = some (r, M')) : Ct X md_X7_write [.ref i0, .int x1, .int x2] M (eI r) M' := Ct_of (by decide +kernel) (Nat.le_of_ble_eq_true rfl) (t_X7_write h0 _ _ M) r M' h
-- X8_write
def X8_write (i0 : Nat)  (x1 : Int32) (M : Mem) : Option (Int32 × Mem) :=
  if (M.1 i0 1) < (60 : Int32) then
    gd (ib (M.1 i0 1) 60) (
      some ((1 : Int32), (mI (mI M (rf i0 0) (M.1 i0 1).toNatClampNeg x1) i0 1 (((mI M (rf i0 0) (M.1 i0 1).toNatClampNeg x1).1 i0 1) + (1 : Int32)))))
  else
    some ((0 : Int32), M)
set_option maxHeartbeats 4000000 in
set_option maxRecDepth 100000 in
theorem t_X8_write {X : Scr} {i0 : Nat} (h0 : KD[i0]? = some (.inl 8)) (x1 : Int32) (M : Mem) : T X eI (X8_write i0  x1 M) md_X8_write 0 [(0, .ref i0), (1, .int x1)] [] M := by
  unfold X8_write
  refine T_aload_n 0 dX8_write_0 rfl rfl ?_
  refine T_getI 1 FOk_8 h0 (by decide) (by decide) dX8_write_1 tb_145 ?_
  refine T_aload_n 0 dX8_write_4 rfl rfl ?_
  refine T_getR 0 FOk_8 h0 (by decide) (by decide) dX8_write_5 tb_144 ?_
  refine T_alen (v := (60 : Int32)) (t := 0) (kf_8_0 h0) (by decide) dX8_write_8 ?_
  refine T_icmp_lt 14 dX8_write_9 (by decide) ?_ ?_
  ·
    refine T_aload_n 0 dX8_write_14 rfl rfl ?_
    refine T_getR 0 FOk_8 h0 (by decide) (by decide) dX8_write_15 tb_144 ?_
    refine T_aload_n 0 dX8_write_18 rfl rfl ?_
    refine T_getI 1 FOk_8 h0 (by decide) (by decide) dX8_write_19 tb_145 ?_
    refine T_iload_n 1 dX8_write_22 rfl rfl ?_
    refine T_iast (kf_8_0 h0) dX8_write_23 ?_
    refine T_aload_n 0 dX8_write_24 rfl rfl ?_
    refine T_dup rfl dX8_write_25 ?_
    refine T_getI 1 FOk_8 h0 (by decide) (by decide) dX8_write_26 tb_145 ?_
    refine T_iconst (v := (1 : Int32)) (by decide) dX8_write_29 ?_
    refine T_iadd dX8_write_30 ?_
    refine T_putI (ty := .int) 1 FOk_8 h0 (by decide) (by decide) rfl (by decide +kernel) rfl rfl dX8_write_31 tb_145 ?_
    refine T_iconst (v := (1 : Int32)) (by decide) dX8_write_34 ?_
    exact T_zret1 dX8_write_35 rfl
  ·
    refine T_iconst (v := (0 : Int32)) (by decide) dX8_write_12 ?_
    exact T_zret0 dX8_write_13 rfl
theorem C_X8_write {X : Scr} {i0 : Nat} (h0 : KD[i0]? = some (.inl 8)) (x1 : Int32) {M : Mem} {r : Int32} {M' : Mem} (h : X8_write i0 x1 M = some (r, M')) : Ct X md_X8_write [.ref i0, .int x1] M (eI r) M' := Ct_of (by decide +kernel) (Nat.le_of_ble_eq_true rfl) (t_X8_write h0 _ M) r M' h
-- X8_begins
def X8_begins_b31   (s0 : Int32) (M : Mem) : Option (Int32 × Mem) :=
  gd (s0 == 0 || s0 == 1) (some (s0, M))
def X8_begins_b26    (M : Mem) : Option (Int32 × Mem) :=
  X8_begins_b31   (1 : Int32) M
def X8_begins   (x0 : Int32) (M : Mem) : Option (Int32 × Mem) :=
  (X8_isLetter  x0 M).bind (fun p1 =>
    if p1.1 = 0 then
      if x0 = (63 : Int32) then
        X8_begins_b26    p1.2
      else
        if x0 = (46 : Int32) then
          X8_begins_b26    p1.2
        else
          (X8_isOfTwo  x0 p1.2).bind (fun p2 =>
            if p2.1 = 0 then
              X8_begins_b31   (0 : Int32) p2.2
            else
              X8_begins_b26    p2.2)
    else
      X8_begins_b26    p1.2)
set_option maxHeartbeats 4000000 in
set_option maxRecDepth 100000 in
theorem t_X8_begins_b31 {X : Scr}   (s0 : Int32) (M : Mem) : T X eI (X8_begins_b31   s0 M) md_X8_begins 31 [] [.int s0] M := by
  unfold X8_begins_b31
  exact T_zret dX8_begins_31 rfl
set_option maxHeartbeats 4000000 in
set_option maxRecDepth 100000 in
theorem t_X8_begins_b26 {X : Scr}    (M : Mem) : T X eI (X8_begins_b26    M) md_X8_begins 26 [] [] M := by
  unfold X8_begins_b26
  refine T_iconst (v := (1 : Int32)) (by decide) dX8_begins_26 ?_
  refine T_goto 31 dX8_begins_27 (by decide) ?_
  exact t_X8_begins_b31   _ _
set_option maxHeartbeats 4000000 in
set_option maxRecDepth 100000 in
theorem t_X8_begins {X : Scr}   (x0 : Int32) (M : Mem) : T X eI (X8_begins   x0 M) md_X8_begins 0 [(0, .int x0)] [] M := by
  unfold X8_begins
  refine T_iload_n 0 dX8_begins_0 rfl rfl ?_
  refine T_callSI md_X8_isLetter [.int x0] [] dX8_begins_1 rfl ok_X8_isLetter tb_410 tb_411 (by decide) (Nat.le_of_ble_eq_true rfl) (fun _ _ h9 => C_X8_isLetter  _ h9) (fun r1 M1 => ?_)
  dsimp only
  refine T_if_ne 26 dX8_begins_4 (by decide) ?_ ?_
  ·
    refine T_iload_n 0 dX8_begins_7 rfl rfl ?_
    refine T_bipush (v := (63 : Int32)) (by decide) dX8_begins_8 ?_
    refine T_icmp_eq 26 dX8_begins_10 (by decide) ?_ ?_
    ·
      refine T_sub [] (lv' := []) rfl ?_
      exact t_X8_begins_b26    _
    ·
      refine T_iload_n 0 dX8_begins_13 rfl rfl ?_
      refine T_bipush (v := (46 : Int32)) (by decide) dX8_begins_14 ?_
      refine T_icmp_eq 26 dX8_begins_16 (by decide) ?_ ?_
      ·
        refine T_sub [] (lv' := []) rfl ?_
        exact t_X8_begins_b26    _
      ·
        refine T_iload_n 0 dX8_begins_19 rfl rfl ?_
        refine T_callSI md_X8_isOfTwo [.int x0] [] dX8_begins_20 rfl ok_X8_isOfTwo tb_420 tb_421 (by decide) (Nat.le_of_ble_eq_true rfl) (fun _ _ h9 => C_X8_isOfTwo  _ h9) (fun r2 M2 => ?_)
        dsimp only
        refine T_if_eq 30 dX8_begins_23 (by decide) ?_ ?_
        ·
          refine T_iconst (v := (0 : Int32)) (by decide) dX8_begins_30 ?_
          refine T_sub [] (lv' := []) rfl ?_
          exact t_X8_begins_b31   _ _
        ·
          refine T_sub [] (lv' := []) rfl ?_
          exact t_X8_begins_b26    _
  ·
    refine T_sub [] (lv' := []) rfl ?_
    exact t_X8_begins_b26    _
theorem C_X8_begins {X : Scr}   (x0 : Int32) {M : Mem} {r : Int32} {M' : Mem} (h : X8_begins  x0 M = some (r, M')) : Ct X md_X8_begins [.int x0] M (eI r) M' := Ct_of (by decide +kernel) (Nat.le_of_ble_eq_true rfl) (t_X8_begins  _ M) r M' h
-- X11_isThing
def X11_isThing   (x0 : Int32) (M : Mem) : Option (Int32 × Mem) :=
  (X11_isWithin  x0 (0 : Int32) (7 : Int32) M).bind (fun p1 =>
    gd (p1.1 == 0 || p1.1 == 1) (some (p1.1, p1.2)))
set_option maxHeartbeats 4000000 in
set_option maxRecDepth 100000 in
theorem t_X11_isThing {X : Scr}   (x0 : Int32) (M : Mem) : T X eI (X11_isThing   x0 M) md_X11_isThing 0 [(0, .int x0)] [] M := by
  unfold X11_isThing
  refine T_iload_n 0 dX11_isThing_0 rfl rfl ?_
  refine T_iconst (v := (0 : Int32)) (by decide) dX11_isThing_1 ?_
  refine T_bipush (v := (7 : Int32)) (by decide) dX11_isThing_2 ?_
  refine T_callSI md_X11_isWithin [.int x0, .int (0 : Int32), .int (7 : Int32)] [] dX11_isThing_4 rfl ok_X11_isWithin tb_361 tb_362 (by decide) (Nat.le_of_ble_eq_true rfl) (fun _ _ h9 => C_X11_isWithin  _ _ _ h9) (fun r1 M1 => ?_)
  dsimp only
  exact T_zret dX11_isThing_7 rfl
theorem C_X11_isThing {X : Scr}   (x0 : Int32) {M : Mem} {r : Int32} {M' : Mem} (h : X11_isThing  x0 M = some (r, M')) : Ct X md_X11_isThing [.int x0] M (eI r) M' := Ct_of (by decide +kernel) (Nat.le_of_ble_eq_true rfl) (t_X11_isThing  _ M) r M' h
-- X8_ends
def X8_ends_b20   (s0 : Int32) (M : Mem) : Option (Int32 × Mem) :=
  gd (s0 == 0 || s0 == 1) (some (s0, M))
def X8_ends   (x0 : Int32) (x1 : Int32) (M : Mem) : Option (Int32 × Mem) :=
  if x0 = (61 : Int32) then
    (X8_isLetter  x1 M).bind (fun p1 =>
      X8_ends_b20   p1.1 p1.2)
  else
    (X11_isThing  (x1 - (48 : Int32)) M).bind (fun p2 =>
      X8_ends_b20   p2.1 p2.2)
set_option maxHeartbeats 4000000 in
set_option maxRecDepth 100000 in
theorem t_X8_ends_b20 {X : Scr}   (s0 : Int32) (M : Mem) : T X eI (X8_ends_b20   s0 M) md_X8_ends 20 [] [.int s0] M := by
  unfold X8_ends_b20
  exact T_zret dX8_ends_20 rfl
set_option maxHeartbeats 4000000 in
set_option maxRecDepth 100000 in
theorem t_X8_ends {X : Scr}   (x0 : Int32) (x1 : Int32) (M : Mem) : T X eI (X8_ends   x0 x1 M) md_X8_ends 0 [(0, .int x0), (1, .int x1)] [] M := by
  unfold X8_ends
  refine T_iload_n 0 dX8_ends_0 rfl rfl ?_
  refine T_bipush (v := (61 : Int32)) (by decide) dX8_ends_1 ?_
  refine T_icmp_ne 13 dX8_ends_3 (by decide) ?_ ?_
  ·
    refine T_iload_n 1 dX8_ends_6 rfl rfl ?_
    refine T_callSI md_X8_isLetter [.int x1] [] dX8_ends_7 rfl ok_X8_isLetter tb_410 tb_411 (by decide) (Nat.le_of_ble_eq_true rfl) (fun _ _ h9 => C_X8_isLetter  _ h9) (fun r1 M1 => ?_)
    dsimp only
    refine T_goto 20 dX8_ends_10 (by decide) ?_
    refine T_sub [] (lv' := []) rfl ?_
    exact t_X8_ends_b20   _ _
  ·
    refine T_iload_n 1 dX8_ends_13 rfl rfl ?_
    refine T_bipush (v := (48 : Int32)) (by decide) dX8_ends_14 ?_
    refine T_isub dX8_ends_16 ?_
    refine T_callSNI md_X11_isThing [.int (x1 - (48 : Int32))] [] dX8_ends_17 rfl ok_X11_isThing tb_414 tb_415 (by decide) (Nat.le_of_ble_eq_true rfl) (fun _ _ h9 => C_X11_isThing  _ h9) (fun r2 M2 => ?_)
    dsimp only
    refine T_sub [] (lv' := []) rfl ?_
    exact t_X8_ends_b20   _ _
theorem C_X8_ends {X : Scr}   (x0 : Int32) (x1 : Int32) {M : Mem} {r : Int32} {M' : Mem} (h : X8_ends  x0 x1 M = some (r, M')) : Ct X md_X8_ends [.int x0, .int x1] M (eI r) M' := Ct_of (by decide +kernel) (Nat.le_of_ble_eq_true rfl) (t_X8_ends  _ _ M) r M' h
-- X8_faultPlace
def X8_faultPlace_b51 (i0 : Nat)  (x2 : Int32) (M : Mem) : Option (Int32 × Mem) :=
  some (x2, M)
def X8_faultPlace_b74 (i0 : Nat) (k4 : Int32 → Int32 → Mem → Option (Int32 × Mem)) (x2 : Int32) (s0 : Int32) (M : Mem) : Option (Int32 × Mem) :=
  k4 s0 (x2 + (1 : Int32)) M
def X8_faultPlace_b73 (i0 : Nat) (k4 : Int32 → Int32 → Mem → Option (Int32 × Mem)) (x2 : Int32) (M : Mem) : Option (Int32 × Mem) :=
  X8_faultPlace_b74 i0 k4 x2 (0 : Int32) M
def X8_faultPlace_b53 (i0 : Nat) (k4 : Int32 → Int32 → Mem → Option (Int32 × Mem)) (x1 : Int32) (x2 : Int32) (M : Mem) : Option (Int32 × Mem) :=
  if x1 = 0 then
    gd (ib x2 60) (
      (X8_isOfTwo  (M.1 (rf i0 0) x2.toNatClampNeg) M).bind (fun p1 =>
        if p1.1 = 0 then
          X8_faultPlace_b73 i0 k4 x2 p1.2
        else
          X8_faultPlace_b74 i0 k4 x2 (1 : Int32) p1.2))
  else
    X8_faultPlace_b73 i0 k4 x2 M
def X8_faultPlace_b94 (i0 : Nat)  (s0 : Int32) (M : Mem) : Option (Int32 × Mem) :=
  some (s0, M)
def X8_faultPlace_b4 (i0 : Nat) (k4 : Int32 → Int32 → Mem → Option (Int32 × Mem)) (x1 : Int32) (x2 : Int32) (M : Mem) : Option (Int32 × Mem) :=
  if (M.1 i0 1) ≤ x2 then
    if x1 = 0 then
      X8_faultPlace_b94 i0  (-6 : Int32) M
    else
      X8_faultPlace_b94 i0  (M.1 i0 1) M
  else
    if x1 = 0 then
      gd (ib x2 60) (
        (X8_begins  (M.1 (rf i0 0) x2.toNatClampNeg) M).bind (fun p1 =>
          if p1.1 = 0 then
            X8_faultPlace_b51 i0  x2 p1.2
          else
            X8_faultPlace_b53 i0 k4 x1 x2 p1.2))
    else
      gd (ib (x2 - (1 : Int32)) 60) (
        gd (ib x2 60) (
          (X8_ends  (M.1 (rf i0 0) (x2 - (1 : Int32)).toNatClampNeg) (M.1 (rf i0 0) x2.toNatClampNeg) M).bind (fun p2 =>
            if p2.1 = 0 then
              X8_faultPlace_b51 i0  x2 p2.2
            else
              X8_faultPlace_b53 i0 k4 x1 x2 p2.2)))
def X8_faultPlace_l4 (i0 : Nat)  : Nat → Int32 → Int32 → Mem → Option (Int32 × Mem)
  | 0 => fun _ _ _ => none
  | n + 1 => X8_faultPlace_b4 i0 (X8_faultPlace_l4 i0  n)
def X8_faultPlace (i0 : Nat)   (M : Mem) : Option (Int32 × Mem) :=
  X8_faultPlace_l4 i0  FU (0 : Int32) (0 : Int32) M
set_option maxHeartbeats 4000000 in
set_option maxRecDepth 100000 in
theorem t_X8_faultPlace_b51 {X : Scr} {i0 : Nat} (h0 : KD[i0]? = some (.inl 8)) (x2 : Int32) (M : Mem) : T X eI (X8_faultPlace_b51 i0  x2 M) md_X8_faultPlace 51 [(2, .int x2)] [] M := by
  unfold X8_faultPlace_b51
  refine T_iload_n 0 dX8_faultPlace_51 rfl rfl ?_
  exact T_iret dX8_faultPlace_52 rfl
set_option maxHeartbeats 4000000 in
set_option maxRecDepth 100000 in
theorem t_X8_faultPlace_b74 {X : Scr} {i0 : Nat} (h0 : KD[i0]? = some (.inl 8)) {k4 : Int32 → Int32 → Mem → Option (Int32 × Mem)} (hk4 : ∀ (x1 : Int32) (x2 : Int32) (M : Mem), T X eI (k4 x1 x2 M) md_X8_faultPlace 4 [(0, .ref i0), (1, .int x1), (2, .int x2)] [] M) (x2 : Int32) (s0 : Int32) (M : Mem) : T X eI (X8_faultPlace_b74 i0 k4 x2 s0 M) md_X8_faultPlace 74 [(0, .ref i0), (2, .int x2)] [.int s0] M := by
  unfold X8_faultPlace_b74
  refine T_istore_n [(1, .int s0), (0, .ref i0), (2, .int x2)] dX8_faultPlace_74 rfl (by decide) rfl ?_
  refine T_iinc 2 [(2, .int (x2 + (1 : Int32))), (1, .int s0), (0, .ref i0)] (v := (1 : Int32)) dX8_faultPlace_75 rfl (by decide) (by decide) rfl ?_
  refine T_goto 4 dX8_faultPlace_78 (by decide) ?_
  refine T_sub [2, 1, 0] (lv' := [(0, .ref i0), (1, .int s0), (2, .int (x2 + (1 : Int32)))]) rfl ?_
  exact hk4 _ _ _
set_option maxHeartbeats 4000000 in
set_option maxRecDepth 100000 in
theorem t_X8_faultPlace_b73 {X : Scr} {i0 : Nat} (h0 : KD[i0]? = some (.inl 8)) {k4 : Int32 → Int32 → Mem → Option (Int32 × Mem)} (hk4 : ∀ (x1 : Int32) (x2 : Int32) (M : Mem), T X eI (k4 x1 x2 M) md_X8_faultPlace 4 [(0, .ref i0), (1, .int x1), (2, .int x2)] [] M) (x2 : Int32) (M : Mem) : T X eI (X8_faultPlace_b73 i0 k4 x2 M) md_X8_faultPlace 73 [(0, .ref i0), (2, .int x2)] [] M := by
  unfold X8_faultPlace_b73
  refine T_iconst (v := (0 : Int32)) (by decide) dX8_faultPlace_73 ?_
  exact t_X8_faultPlace_b74 h0 hk4 _ _ _
set_option maxHeartbeats 4000000 in
set_option maxRecDepth 100000 in
theorem t_X8_faultPlace_b53 {X : Scr} {i0 : Nat} (h0 : KD[i0]? = some (.inl 8)) {k4 : Int32 → Int32 → Mem → Option (Int32 × Mem)} (hk4 : ∀ (x1 : Int32) (x2 : Int32) (M : Mem), T X eI (k4 x1 x2 M) md_X8_faultPlace 4 [(0, .ref i0), (1, .int x1), (2, .int x2)] [] M) (x1 : Int32) (x2 : Int32) (M : Mem) : T X eI (X8_faultPlace_b53 i0 k4 x1 x2 M) md_X8_faultPlace 53 [(0, .ref i0), (1, .int x1), (2, .int x2)] [] M := by
  unfold X8_faultPlace_b53
  refine T_iload_n 1 dX8_faultPlace_53 rfl rfl ?_
  refine T_if_ne 73 dX8_faultPlace_54 (by decide) ?_ ?_
  ·
    refine T_aload_n 0 dX8_faultPlace_57 rfl rfl ?_
    refine T_getR 0 FOk_8 h0 (by decide) (by decide) dX8_faultPlace_58 tb_144 ?_
    refine T_iload_n 2 dX8_faultPlace_61 rfl rfl ?_
    refine T_iald (kf_8_0 h0) dX8_faultPlace_62 ?_
    refine T_callSI md_X8_isOfTwo [.int (M.1 (rf i0 0) x2.toNatClampNeg)] [] dX8_faultPlace_63 rfl ok_X8_isOfTwo tb_420 tb_421 (by decide) (Nat.le_of_ble_eq_true rfl) (fun _ _ h9 => C_X8_isOfTwo  _ h9) (fun r1 M1 => ?_)
    dsimp only
    refine T_if_eq 73 dX8_faultPlace_66 (by decide) ?_ ?_
    ·
      refine T_sub [0, 2] (lv' := [(0, .ref i0), (2, .int x2)]) rfl ?_
      exact t_X8_faultPlace_b73 h0 hk4 _ _
    ·
      refine T_iconst (v := (1 : Int32)) (by decide) dX8_faultPlace_69 ?_
      refine T_goto 74 dX8_faultPlace_70 (by decide) ?_
      refine T_sub [0, 2] (lv' := [(0, .ref i0), (2, .int x2)]) rfl ?_
      exact t_X8_faultPlace_b74 h0 hk4 _ _ _
  ·
    refine T_sub [0, 2] (lv' := [(0, .ref i0), (2, .int x2)]) rfl ?_
    exact t_X8_faultPlace_b73 h0 hk4 _ _
set_option maxHeartbeats 4000000 in
set_option maxRecDepth 100000 in
theorem t_X8_faultPlace_b94 {X : Scr} {i0 : Nat} (h0 : KD[i0]? = some (.inl 8)) (s0 : Int32) (M : Mem) : T X eI (X8_faultPlace_b94 i0  s0 M) md_X8_faultPlace 94 [] [.int s0] M := by
  unfold X8_faultPlace_b94
  exact T_iret dX8_faultPlace_94 rfl
set_option maxHeartbeats 4000000 in
set_option maxRecDepth 100000 in
theorem t_X8_faultPlace_b4 {X : Scr} {i0 : Nat} (h0 : KD[i0]? = some (.inl 8)) {k4 : Int32 → Int32 → Mem → Option (Int32 × Mem)} (hk4 : ∀ (x1 : Int32) (x2 : Int32) (M : Mem), T X eI (k4 x1 x2 M) md_X8_faultPlace 4 [(0, .ref i0), (1, .int x1), (2, .int x2)] [] M) (x1 : Int32) (x2 : Int32) (M : Mem) : T X eI (X8_faultPlace_b4 i0 k4 x1 x2 M) md_X8_faultPlace 4 [(0, .ref i0), (1, .int x1), (2, .int x2)] [] M := by
  unfold X8_faultPlace_b4
  refine T_iload_n 2 dX8_faultPlace_4 rfl rfl ?_
  refine T_aload_n 0 dX8_faultPlace_5 rfl rfl ?_
  refine T_getI 1 FOk_8 h0 (by decide) (by decide) dX8_faultPlace_6 tb_145 ?_
  refine T_icmp_ge 81 dX8_faultPlace_9 (by decide) ?_ ?_
  ·
    refine T_iload_n 1 dX8_faultPlace_81 rfl rfl ?_
    refine T_if_eq 92 dX8_faultPlace_82 (by decide) ?_ ?_
    ·
      refine T_bipush (v := (-6 : Int32)) (by decide) dX8_faultPlace_92 ?_
      refine T_sub [] (lv' := []) rfl ?_
      exact t_X8_faultPlace_b94 h0  _ _
    ·
      refine T_aload_n 0 dX8_faultPlace_85 rfl rfl ?_
      refine T_getI 1 FOk_8 h0 (by decide) (by decide) dX8_faultPlace_86 tb_145 ?_
      refine T_goto 94 dX8_faultPlace_89 (by decide) ?_
      refine T_sub [] (lv' := []) rfl ?_
      exact t_X8_faultPlace_b94 h0  _ _
  ·
    refine T_iload_n 1 dX8_faultPlace_12 rfl rfl ?_
    refine T_if_eq 39 dX8_faultPlace_13 (by decide) ?_ ?_
    ·
      refine T_aload_n 0 dX8_faultPlace_39 rfl rfl ?_
      refine T_getR 0 FOk_8 h0 (by decide) (by decide) dX8_faultPlace_40 tb_144 ?_
      refine T_iload_n 2 dX8_faultPlace_43 rfl rfl ?_
      refine T_iald (kf_8_0 h0) dX8_faultPlace_44 ?_
      refine T_callSI md_X8_begins [.int (M.1 (rf i0 0) x2.toNatClampNeg)] [] dX8_faultPlace_45 rfl ok_X8_begins tb_417 tb_418 (by decide) (Nat.le_of_ble_eq_true rfl) (fun _ _ h9 => C_X8_begins  _ h9) (fun r1 M1 => ?_)
      dsimp only
      refine T_if_ne 53 dX8_faultPlace_48 (by decide) ?_ ?_
      ·
        refine T_sub [2] (lv' := [(2, .int x2)]) rfl ?_
        exact t_X8_faultPlace_b51 h0  _ _
      ·
        exact t_X8_faultPlace_b53 h0 hk4 _ _ _
    ·
      refine T_aload_n 0 dX8_faultPlace_16 rfl rfl ?_
      refine T_getR 0 FOk_8 h0 (by decide) (by decide) dX8_faultPlace_17 tb_144 ?_
      refine T_iload_n 2 dX8_faultPlace_20 rfl rfl ?_
      refine T_iconst (v := (1 : Int32)) (by decide) dX8_faultPlace_21 ?_
      refine T_isub dX8_faultPlace_22 ?_
      refine T_iald (kf_8_0 h0) dX8_faultPlace_23 ?_
      refine T_aload_n 0 dX8_faultPlace_24 rfl rfl ?_
      refine T_getR 0 FOk_8 h0 (by decide) (by decide) dX8_faultPlace_25 tb_144 ?_
      refine T_iload_n 2 dX8_faultPlace_28 rfl rfl ?_
      refine T_iald (kf_8_0 h0) dX8_faultPlace_29 ?_
      refine T_callSI md_X8_ends [.int (M.1 (rf i0 0) (x2 - (1 : Int32)).toNatClampNeg), .int (M.1 (rf i0 0) x2.toNatClampNeg)] [] dX8_faultPlace_30 rfl ok_X8_ends tb_407 tb_408 (by decide) (Nat.le_of_ble_eq_true rfl) (fun _ _ h9 => C_X8_ends  _ _ h9) (fun r2 M2 => ?_)
      dsimp only
      refine T_if_ne 53 dX8_faultPlace_33 (by decide) ?_ ?_
      ·
        refine T_goto 51 dX8_faultPlace_36 (by decide) ?_
        refine T_sub [2] (lv' := [(2, .int x2)]) rfl ?_
        exact t_X8_faultPlace_b51 h0  _ _
      ·
        exact t_X8_faultPlace_b53 h0 hk4 _ _ _
theorem t_X8_faultPlace_l4 {X : Scr} {i0 : Nat} (h0 : KD[i0]? = some (.inl 8)) (n : Nat) : ∀ (x1 : Int32) (x2 : Int32) (M : Mem), T X eI (X8_faultPlace_l4 i0  n x1 x2 M) md_X8_faultPlace 4 [(0, .ref i0), (1, .int x1), (2, .int x2)] [] M := by
  induction n with
  | zero => intro x1 x2 M; exact T_none
  | succ n ih => intro x1 x2 M; exact t_X8_faultPlace_b4 h0 ih x1 x2 M
set_option maxHeartbeats 4000000 in
set_option maxRecDepth 100000 in
theorem t_X8_faultPlace {X : Scr} {i0 : Nat} (h0 : KD[i0]? = some (.inl 8))  (M : Mem) : T X eI (X8_faultPlace i0   M) md_X8_faultPlace 0 [(0, .ref i0)] [] M := by
  unfold X8_faultPlace
  refine T_iconst (v := (0 : Int32)) (by decide) dX8_faultPlace_0 ?_
  refine T_istore_n [(1, .int (0 : Int32)), (0, .ref i0)] dX8_faultPlace_1 rfl (by decide) rfl ?_
  refine T_iconst (v := (0 : Int32)) (by decide) dX8_faultPlace_2 ?_
  refine T_istore_n [(2, .int (0 : Int32)), (1, .int (0 : Int32)), (0, .ref i0)] dX8_faultPlace_3 rfl (by decide) rfl ?_
  refine T_sub [2, 1, 0] (lv' := [(0, .ref i0), (1, .int (0 : Int32)), (2, .int (0 : Int32))]) rfl ?_
  exact t_X8_faultPlace_l4 h0  _ _ _ _
theorem C_X8_faultPlace {X : Scr} {i0 : Nat} (h0 : KD[i0]? = some (.inl 8))  {M : Mem} {r : Int32} {M' : Mem} (h : X8_faultPlace i0  M = some (r, M')) : Ct X md_X8_faultPlace [.ref i0] M (eI r) M' := Ct_of (by decide +kernel) (Nat.le_of_ble_eq_true rfl) (t_X8_faultPlace h0  M) r M' h
-- X9_spread
def X9_spread_b44 (i0 : Nat) (k35 : Int32 → Int32 → Int32 → Mem → Option (Unit × Mem)) (k44 : Int32 → Int32 → Int32 → Int32 → Mem → Option (Unit × Mem)) (x1 : Int32) (x2 : Int32) (x3 : Int32) (x4 : Int32) (M : Mem) : Option (Unit × Mem) :=
  if x4 ≤ 0 then
    gd (ib (0 : Int32) 13) (
      gd (ib (0 : Int32) 13) (
        mw (mL M (rf i0 0) (0 : Int32).toNatClampNeg ((M.2 (rf i0 0) (0 : Int32).toNatClampNeg) * ((10 : Int32) - x2).toInt64)) (fun N1 =>
          mw (mL N1 i0 1 ((N1.2 i0 1) * (10 : Int64))) (fun N2 =>
            k35 x1 x2 (x3 + (1 : Int32)) N2))))
  else
    gd (ib x4 13) (
      gd (ib (x4 - (1 : Int32)) 13) (
        gd (ib x4 13) (
          mw (mL M (rf i0 0) x4.toNatClampNeg (((M.2 (rf i0 0) x4.toNatClampNeg) * ((10 : Int32) - x2).toInt64) + ((M.2 (rf i0 0) (x4 - (1 : Int32)).toNatClampNeg) * x2.toInt64))) (fun N3 =>
            k44 x1 x2 x3 (x4 + (-1 : Int32)) N3))))
def X9_spread_l44 (i0 : Nat) (k35 : Int32 → Int32 → Int32 → Mem → Option (Unit × Mem)) : Nat → Int32 → Int32 → Int32 → Int32 → Mem → Option (Unit × Mem)
  | 0 => fun _ _ _ _ _ => none
  | n + 1 => X9_spread_b44 i0 k35 (X9_spread_l44 i0 k35 n)
def X9_spread_b35 (i0 : Nat) (k35 : Int32 → Int32 → Int32 → Mem → Option (Unit × Mem)) (x1 : Int32) (x2 : Int32) (x3 : Int32) (M : Mem) : Option (Unit × Mem) :=
  if x1 ≤ x3 then
    some ((), M)
  else
    X9_spread_l44 i0 k35 FU x1 x2 x3 (12 : Int32) M
def X9_spread_l35 (i0 : Nat)  : Nat → Int32 → Int32 → Int32 → Mem → Option (Unit × Mem)
  | 0 => fun _ _ _ _ => none
  | n + 1 => X9_spread_b35 i0 (X9_spread_l35 i0  n)
def X9_spread_b2 (i0 : Nat) (k2 : Int32 → Int32 → Int32 → Mem → Option (Unit × Mem)) (x1 : Int32) (x2 : Int32) (x3 : Int32) (M : Mem) : Option (Unit × Mem) :=
  if (12 : Int32) < x3 then
    gd (ib (0 : Int32) 13) (
      mw (mL M (rf i0 0) (0 : Int32).toNatClampNeg (1 : Int64)) (fun N1 =>
        mw (mL N1 i0 1 (1 : Int64)) (fun N2 =>
          X9_spread_l35 i0  FU x1 x2 (0 : Int32) N2)))
  else
    gd (ib x3 13) (
      mw (mL M (rf i0 0) x3.toNatClampNeg (0 : Int64)) (fun N3 =>
        k2 x1 x2 (x3 + (1 : Int32)) N3))
def X9_spread_l2 (i0 : Nat)  : Nat → Int32 → Int32 → Int32 → Mem → Option (Unit × Mem)
  | 0 => fun _ _ _ _ => none
  | n + 1 => X9_spread_b2 i0 (X9_spread_l2 i0  n)
def X9_spread (i0 : Nat)  (x1 : Int32) (x2 : Int32) (M : Mem) : Option (Unit × Mem) :=
  X9_spread_l2 i0  FU x1 x2 (0 : Int32) M
set_option maxHeartbeats 4000000 in
set_option maxRecDepth 100000 in
theorem t_X9_spread_b44 {X : Scr} {i0 : Nat} (h0 : KD[i0]? = some (.inl 9)) {k35 : Int32 → Int32 → Int32 → Mem → Option (Unit × Mem)} (hk35 : ∀ (x1 : Int32) (x2 : Int32) (x3 : Int32) (M : Mem), T X eV (k35 x1 x2 x3 M) md_X9_spread 35 [(0, .ref i0), (1, .int x1), (2, .int x2), (3, .int x3)] [] M) {k44 : Int32 → Int32 → Int32 → Int32 → Mem → Option (Unit × Mem)} (hk44 : ∀ (x1 : Int32) (x2 : Int32) (x3 : Int32) (x4 : Int32) (M : Mem), T X eV (k44 x1 x2 x3 x4 M) md_X9_spread 44 [(0, .ref i0), (1, .int x1), (2, .int x2), (3, .int x3), (4, .int x4)] [] M) (x1 : Int32) (x2 : Int32) (x3 : Int32) (x4 : Int32) (M : Mem) : T X eV (X9_spread_b44 i0 k35 k44 x1 x2 x3 x4 M) md_X9_spread 44 [(0, .ref i0), (1, .int x1), (2, .int x2), (3, .int x3), (4, .int x4)] [] M := by
  unfold X9_spread_b44
  refine T_iload 4 dX9_spread_44 rfl ?_
  refine T_if_le 88 dX9_spread_46 (by decide) ?_ ?_
  ·
    refine T_aload_n 0 dX9_spread_88 rfl rfl ?_
    refine T_getR 0 FOk_9 h0 (by decide) (by decide) dX9_spread_89 tb_308 ?_
    refine T_iconst (v := (0 : Int32)) (by decide) dX9_spread_92 ?_
    refine T_dup2 rfl rfl dX9_spread_93 ?_
    refine T_lald (kf_9_0 h0) dX9_spread_94 ?_
    refine T_bipush (v := (10 : Int32)) (by decide) dX9_spread_95 ?_
    refine T_iload_n 2 dX9_spread_97 rfl rfl ?_
    refine T_isub dX9_spread_98 ?_
    refine T_i2l dX9_spread_99 ?_
    refine T_lmul dX9_spread_100 ?_
    refine T_last (kf_9_0 h0) dX9_spread_101 ?_
    refine T_mw (fun N1 => ?_)
    try dsimp only
    refine T_aload_n 0 dX9_spread_102 rfl rfl ?_
    refine T_dup rfl dX9_spread_103 ?_
    refine T_getL 1 FOk_9 h0 (by decide) (by decide) dX9_spread_104 tb_309 ?_
    refine T_ldc2 (v := (10 : Int64)) dX9_spread_107 tb_648 ?_
    refine T_lmul dX9_spread_110 ?_
    refine T_putL 1 FOk_9 h0 (by decide) (by decide) rfl (by decide +kernel) dX9_spread_111 tb_309 ?_
    refine T_mw (fun N2 => ?_)
    try dsimp only
    refine T_iinc 3 [(3, .int (x3 + (1 : Int32))), (0, .ref i0), (1, .int x1), (2, .int x2), (4, .int x4)] (v := (1 : Int32)) dX9_spread_114 rfl (by decide) (by decide) rfl ?_
    refine T_goto 35 dX9_spread_117 (by decide) ?_
    refine T_sub [1, 2, 3, 0] (lv' := [(0, .ref i0), (1, .int x1), (2, .int x2), (3, .int (x3 + (1 : Int32)))]) rfl ?_
    exact hk35 _ _ _ _
  ·
    refine T_aload_n 0 dX9_spread_49 rfl rfl ?_
    refine T_getR 0 FOk_9 h0 (by decide) (by decide) dX9_spread_50 tb_308 ?_
    refine T_iload 4 dX9_spread_53 rfl ?_
    refine T_aload_n 0 dX9_spread_55 rfl rfl ?_
    refine T_getR 0 FOk_9 h0 (by decide) (by decide) dX9_spread_56 tb_308 ?_
    refine T_iload 4 dX9_spread_59 rfl ?_
    refine T_lald (kf_9_0 h0) dX9_spread_61 ?_
    refine T_bipush (v := (10 : Int32)) (by decide) dX9_spread_62 ?_
    refine T_iload_n 2 dX9_spread_64 rfl rfl ?_
    refine T_isub dX9_spread_65 ?_
    refine T_i2l dX9_spread_66 ?_
    refine T_lmul dX9_spread_67 ?_
    refine T_aload_n 0 dX9_spread_68 rfl rfl ?_
    refine T_getR 0 FOk_9 h0 (by decide) (by decide) dX9_spread_69 tb_308 ?_
    refine T_iload 4 dX9_spread_72 rfl ?_
    refine T_iconst (v := (1 : Int32)) (by decide) dX9_spread_74 ?_
    refine T_isub dX9_spread_75 ?_
    refine T_lald (kf_9_0 h0) dX9_spread_76 ?_
    refine T_iload_n 2 dX9_spread_77 rfl rfl ?_
    refine T_i2l dX9_spread_78 ?_
    refine T_lmul dX9_spread_79 ?_
    refine T_ladd dX9_spread_80 ?_
    refine T_last (kf_9_0 h0) dX9_spread_81 ?_
    refine T_mw (fun N3 => ?_)
    try dsimp only
    refine T_iinc 4 [(4, .int (x4 + (-1 : Int32))), (0, .ref i0), (1, .int x1), (2, .int x2), (3, .int x3)] (v := (-1 : Int32)) dX9_spread_82 rfl (by decide) (by decide) rfl ?_
    refine T_goto 44 dX9_spread_85 (by decide) ?_
    refine T_sub [1, 2, 3, 4, 0] (lv' := [(0, .ref i0), (1, .int x1), (2, .int x2), (3, .int x3), (4, .int (x4 + (-1 : Int32)))]) rfl ?_
    exact hk44 _ _ _ _ _
theorem t_X9_spread_l44 {X : Scr} {i0 : Nat} (h0 : KD[i0]? = some (.inl 9)) {k35 : Int32 → Int32 → Int32 → Mem → Option (Unit × Mem)} (hk35 : ∀ (x1 : Int32) (x2 : Int32) (x3 : Int32) (M : Mem), T X eV (k35 x1 x2 x3 M) md_X9_spread 35 [(0, .ref i0), (1, .int x1), (2, .int x2), (3, .int x3)] [] M) (n : Nat) : ∀ (x1 : Int32) (x2 : Int32) (x3 : Int32) (x4 : Int32) (M : Mem), T X eV (X9_spread_l44 i0 k35 n x1 x2 x3 x4 M) md_X9_spread 44 [(0, .ref i0), (1, .int x1), (2, .int x2), (3, .int x3), (4, .int x4)] [] M := by
  induction n with
  | zero => intro x1 x2 x3 x4 M; exact T_none
  | succ n ih => intro x1 x2 x3 x4 M; exact t_X9_spread_b44 h0 hk35 ih x1 x2 x3 x4 M
set_option maxHeartbeats 4000000 in
set_option maxRecDepth 100000 in
theorem t_X9_spread_b35 {X : Scr} {i0 : Nat} (h0 : KD[i0]? = some (.inl 9)) {k35 : Int32 → Int32 → Int32 → Mem → Option (Unit × Mem)} (hk35 : ∀ (x1 : Int32) (x2 : Int32) (x3 : Int32) (M : Mem), T X eV (k35 x1 x2 x3 M) md_X9_spread 35 [(0, .ref i0), (1, .int x1), (2, .int x2), (3, .int x3)] [] M) (x1 : Int32) (x2 : Int32) (x3 : Int32) (M : Mem) : T X eV (X9_spread_b35 i0 k35 x1 x2 x3 M) md_X9_spread 35 [(0, .ref i0), (1, .int x1), (2, .int x2), (3, .int x3)] [] M := by
  unfold X9_spread_b35
  refine T_iload_n 3 dX9_spread_35 rfl rfl ?_
  refine T_iload_n 1 dX9_spread_36 rfl rfl ?_
  refine T_icmp_ge 120 dX9_spread_37 (by decide) ?_ ?_
  ·
    exact T_vret dX9_spread_120 rfl
  ·
    refine T_bipush (v := (12 : Int32)) (by decide) dX9_spread_40 ?_
    refine T_istore [(4, .int (12 : Int32)), (0, .ref i0), (1, .int x1), (2, .int x2), (3, .int x3)] dX9_spread_42 (by decide) rfl ?_
    refine T_sub [1, 2, 3, 4, 0] (lv' := [(0, .ref i0), (1, .int x1), (2, .int x2), (3, .int x3), (4, .int (12 : Int32))]) rfl ?_
    exact t_X9_spread_l44 h0 hk35 _ _ _ _ _ _
theorem t_X9_spread_l35 {X : Scr} {i0 : Nat} (h0 : KD[i0]? = some (.inl 9)) (n : Nat) : ∀ (x1 : Int32) (x2 : Int32) (x3 : Int32) (M : Mem), T X eV (X9_spread_l35 i0  n x1 x2 x3 M) md_X9_spread 35 [(0, .ref i0), (1, .int x1), (2, .int x2), (3, .int x3)] [] M := by
  induction n with
  | zero => intro x1 x2 x3 M; exact T_none
  | succ n ih => intro x1 x2 x3 M; exact t_X9_spread_b35 h0 ih x1 x2 x3 M
set_option maxHeartbeats 4000000 in
set_option maxRecDepth 100000 in
theorem t_X9_spread_b2 {X : Scr} {i0 : Nat} (h0 : KD[i0]? = some (.inl 9)) {k2 : Int32 → Int32 → Int32 → Mem → Option (Unit × Mem)} (hk2 : ∀ (x1 : Int32) (x2 : Int32) (x3 : Int32) (M : Mem), T X eV (k2 x1 x2 x3 M) md_X9_spread 2 [(0, .ref i0), (1, .int x1), (2, .int x2), (3, .int x3)] [] M) (x1 : Int32) (x2 : Int32) (x3 : Int32) (M : Mem) : T X eV (X9_spread_b2 i0 k2 x1 x2 x3 M) md_X9_spread 2 [(0, .ref i0), (1, .int x1), (2, .int x2), (3, .int x3)] [] M := by
  unfold X9_spread_b2
  refine T_iload_n 3 dX9_spread_2 rfl rfl ?_
  refine T_bipush (v := (12 : Int32)) (by decide) dX9_spread_3 ?_
  refine T_icmp_gt 21 dX9_spread_5 (by decide) ?_ ?_
  ·
    refine T_aload_n 0 dX9_spread_21 rfl rfl ?_
    refine T_getR 0 FOk_9 h0 (by decide) (by decide) dX9_spread_22 tb_308 ?_
    refine T_iconst (v := (0 : Int32)) (by decide) dX9_spread_25 ?_
    refine T_lconst (v := (1 : Int64)) (by decide) dX9_spread_26 ?_
    refine T_last (kf_9_0 h0) dX9_spread_27 ?_
    refine T_mw (fun N1 => ?_)
    try dsimp only
    refine T_aload_n 0 dX9_spread_28 rfl rfl ?_
    refine T_lconst (v := (1 : Int64)) (by decide) dX9_spread_29 ?_
    refine T_putL 1 FOk_9 h0 (by decide) (by decide) rfl (by decide +kernel) dX9_spread_30 tb_309 ?_
    refine T_mw (fun N2 => ?_)
    try dsimp only
    refine T_iconst (v := (0 : Int32)) (by decide) dX9_spread_33 ?_
    refine T_istore_n [(3, .int (0 : Int32)), (0, .ref i0), (1, .int x1), (2, .int x2)] dX9_spread_34 rfl (by decide) rfl ?_
    refine T_sub [1, 2, 3, 0] (lv' := [(0, .ref i0), (1, .int x1), (2, .int x2), (3, .int (0 : Int32))]) rfl ?_
    exact t_X9_spread_l35 h0  _ _ _ _ _
  ·
    refine T_aload_n 0 dX9_spread_8 rfl rfl ?_
    refine T_getR 0 FOk_9 h0 (by decide) (by decide) dX9_spread_9 tb_308 ?_
    refine T_iload_n 3 dX9_spread_12 rfl rfl ?_
    refine T_lconst (v := (0 : Int64)) (by decide) dX9_spread_13 ?_
    refine T_last (kf_9_0 h0) dX9_spread_14 ?_
    refine T_mw (fun N3 => ?_)
    try dsimp only
    refine T_iinc 3 [(3, .int (x3 + (1 : Int32))), (0, .ref i0), (1, .int x1), (2, .int x2)] (v := (1 : Int32)) dX9_spread_15 rfl (by decide) (by decide) rfl ?_
    refine T_goto 2 dX9_spread_18 (by decide) ?_
    refine T_sub [1, 2, 3, 0] (lv' := [(0, .ref i0), (1, .int x1), (2, .int x2), (3, .int (x3 + (1 : Int32)))]) rfl ?_
    exact hk2 _ _ _ _
theorem t_X9_spread_l2 {X : Scr} {i0 : Nat} (h0 : KD[i0]? = some (.inl 9)) (n : Nat) : ∀ (x1 : Int32) (x2 : Int32) (x3 : Int32) (M : Mem), T X eV (X9_spread_l2 i0  n x1 x2 x3 M) md_X9_spread 2 [(0, .ref i0), (1, .int x1), (2, .int x2), (3, .int x3)] [] M := by
  induction n with
  | zero => intro x1 x2 x3 M; exact T_none
  | succ n ih => intro x1 x2 x3 M; exact t_X9_spread_b2 h0 ih x1 x2 x3 M
set_option maxHeartbeats 4000000 in
set_option maxRecDepth 100000 in
theorem t_X9_spread {X : Scr} {i0 : Nat} (h0 : KD[i0]? = some (.inl 9)) (x1 : Int32) (x2 : Int32) (M : Mem) : T X eV (X9_spread i0  x1 x2 M) md_X9_spread 0 [(0, .ref i0), (1, .int x1), (2, .int x2)] [] M := by
  unfold X9_spread
  refine T_iconst (v := (0 : Int32)) (by decide) dX9_spread_0 ?_
  refine T_istore_n [(3, .int (0 : Int32)), (0, .ref i0), (1, .int x1), (2, .int x2)] dX9_spread_1 rfl (by decide) rfl ?_
  refine T_sub [1, 2, 3, 0] (lv' := [(0, .ref i0), (1, .int x1), (2, .int x2), (3, .int (0 : Int32))]) rfl ?_
  exact t_X9_spread_l2 h0  _ _ _ _ _
theorem C_X9_spread {X : Scr} {i0 : Nat} (h0 : KD[i0]? = some (.inl 9)) (x1 : Int32) (x2 : Int32) {M : Mem} {r : Unit} {M' : Mem} (h : X9_spread i0 x1 x2 M = some (r, M')) : Ct X md_X9_spread [.ref i0, .int x1, .int x2] M (eV r) M' := Ct_of (by decide +kernel) (Nat.le_of_ble_eq_true rfl) (t_X9_spread h0 _ _ M) r M' h
-- X9_waysToReach
def X9_waysToReach_b5 (i0 : Nat) (k5 : Int64 → Int32 → Mem → Option (Int64 × Mem)) (x2 : Int64) (x4 : Int32) (M : Mem) : Option (Int64 × Mem) :=
  if (12 : Int32) < x4 then
    some (x2, M)
  else
    gd (ib x4 13) (
      lw (x2 + (M.2 (rf i0 0) x4.toNatClampNeg)) (fun v1 =>
        k5 v1 (x4 + (1 : Int32)) M))
def X9_waysToReach_l5 (i0 : Nat)  : Nat → Int64 → Int32 → Mem → Option (Int64 × Mem)
  | 0 => fun _ _ _ => none
  | n + 1 => X9_waysToReach_b5 i0 (X9_waysToReach_l5 i0  n)
def X9_waysToReach (i0 : Nat)  (x1 : Int32) (M : Mem) : Option (Int64 × Mem) :=
  X9_waysToReach_l5 i0  FU (0 : Int64) x1 M
set_option maxHeartbeats 4000000 in
set_option maxRecDepth 100000 in
theorem t_X9_waysToReach_b5 {X : Scr} {i0 : Nat} (h0 : KD[i0]? = some (.inl 9)) {k5 : Int64 → Int32 → Mem → Option (Int64 × Mem)} (hk5 : ∀ (x2 : Int64) (x4 : Int32) (M : Mem), T X eL (k5 x2 x4 M) md_X9_waysToReach 5 [(0, .ref i0), (2, .long x2), (4, .int x4)] [] M) (x2 : Int64) (x4 : Int32) (M : Mem) : T X eL (X9_waysToReach_b5 i0 k5 x2 x4 M) md_X9_waysToReach 5 [(0, .ref i0), (2, .long x2), (4, .int x4)] [] M := by
  unfold X9_waysToReach_b5
  refine T_iload 2 dX9_waysToReach_5 rfl ?_
  refine T_bipush (v := (12 : Int32)) (by decide) dX9_waysToReach_7 ?_
  refine T_icmp_gt 28 dX9_waysToReach_9 (by decide) ?_ ?_
  ·
    refine T_lload_n 1 dX9_waysToReach_28 rfl rfl ?_
    exact T_lret dX9_waysToReach_29 rfl
  ·
    refine T_lload_n 1 dX9_waysToReach_12 rfl rfl ?_
    refine T_aload_n 0 dX9_waysToReach_13 rfl rfl ?_
    refine T_getR 0 FOk_9 h0 (by decide) (by decide) dX9_waysToReach_14 tb_308 ?_
    refine T_iload 2 dX9_waysToReach_17 rfl ?_
    refine T_lald (kf_9_0 h0) dX9_waysToReach_19 ?_
    refine T_ladd dX9_waysToReach_20 ?_
    refine T_lw (fun v1 => ?_)
    try dsimp only
    refine T_lstore_n [(2, .long v1), (0, .ref i0), (4, .int x4)] dX9_waysToReach_21 rfl (by decide) rfl ?_
    refine T_iinc 2 [(4, .int (x4 + (1 : Int32))), (2, .long v1), (0, .ref i0)] (v := (1 : Int32)) dX9_waysToReach_22 rfl (by decide) (by decide) rfl ?_
    refine T_goto 5 dX9_waysToReach_25 (by decide) ?_
    refine T_sub [2, 1, 0] (lv' := [(0, .ref i0), (2, .long v1), (4, .int (x4 + (1 : Int32)))]) rfl ?_
    exact hk5 _ _ _
theorem t_X9_waysToReach_l5 {X : Scr} {i0 : Nat} (h0 : KD[i0]? = some (.inl 9)) (n : Nat) : ∀ (x2 : Int64) (x4 : Int32) (M : Mem), T X eL (X9_waysToReach_l5 i0  n x2 x4 M) md_X9_waysToReach 5 [(0, .ref i0), (2, .long x2), (4, .int x4)] [] M := by
  induction n with
  | zero => intro x2 x4 M; exact T_none
  | succ n ih => intro x2 x4 M; exact t_X9_waysToReach_b5 h0 ih x2 x4 M
set_option maxHeartbeats 4000000 in
set_option maxRecDepth 100000 in
theorem t_X9_waysToReach {X : Scr} {i0 : Nat} (h0 : KD[i0]? = some (.inl 9)) (x1 : Int32) (M : Mem) : T X eL (X9_waysToReach i0  x1 M) md_X9_waysToReach 0 [(0, .ref i0), (1, .int x1)] [] M := by
  unfold X9_waysToReach
  refine T_lconst (v := (0 : Int64)) (by decide) dX9_waysToReach_0 ?_
  refine T_lstore_n [(2, .long (0 : Int64)), (0, .ref i0), (1, .int x1)] dX9_waysToReach_1 rfl (by decide) rfl ?_
  refine T_iload_n 2 dX9_waysToReach_2 rfl rfl ?_
  refine T_istore [(4, .int x1), (2, .long (0 : Int64)), (0, .ref i0), (1, .int x1)] dX9_waysToReach_3 (by decide) rfl ?_
  refine T_sub [2, 1, 0] (lv' := [(0, .ref i0), (2, .long (0 : Int64)), (4, .int x1)]) rfl ?_
  exact t_X9_waysToReach_l5 h0  _ _ _ _
theorem C_X9_waysToReach {X : Scr} {i0 : Nat} (h0 : KD[i0]? = some (.inl 9)) (x1 : Int32) {M : Mem} {r : Int64} {M' : Mem} (h : X9_waysToReach i0 x1 M = some (r, M')) : Ct X md_X9_waysToReach [.ref i0, .int x1] M (eL r) M' := Ct_of (by decide +kernel) (Nat.le_of_ble_eq_true rfl) (t_X9_waysToReach h0 _ M) r M' h
-- X9_lengthsUpTo
def X9_lengthsUpTo_b5 (i0 : Nat) (k5 : Int32 → Int64 → Int32 → Mem → Option (Int64 × Mem)) (x1 : Int32) (x2 : Int64) (x4 : Int32) (M : Mem) : Option (Int64 × Mem) :=
  if (12 : Int32) < x4 then
    some (x2, M)
  else
    (J9_min_7cf53  x4 x1 M).bind (fun p1 =>
      gd (ib x4 13) (
        lw (x2 + (p1.1.toInt64 * (p1.2.2 (rf i0 0) x4.toNatClampNeg))) (fun v2 =>
          k5 x1 v2 (x4 + (1 : Int32)) p1.2)))
def X9_lengthsUpTo_l5 (i0 : Nat)  : Nat → Int32 → Int64 → Int32 → Mem → Option (Int64 × Mem)
  | 0 => fun _ _ _ _ => none
  | n + 1 => X9_lengthsUpTo_b5 i0 (X9_lengthsUpTo_l5 i0  n)
def X9_lengthsUpTo (i0 : Nat)  (x1 : Int32) (M : Mem) : Option (Int64 × Mem) :=
  X9_lengthsUpTo_l5 i0  FU x1 (0 : Int64) (1 : Int32) M
set_option maxHeartbeats 4000000 in
set_option maxRecDepth 100000 in
theorem t_X9_lengthsUpTo_b5 {X : Scr} {i0 : Nat} (h0 : KD[i0]? = some (.inl 9)) {k5 : Int32 → Int64 → Int32 → Mem → Option (Int64 × Mem)} (hk5 : ∀ (x1 : Int32) (x2 : Int64) (x4 : Int32) (M : Mem), T X eL (k5 x1 x2 x4 M) md_X9_lengthsUpTo 5 [(0, .ref i0), (1, .int x1), (2, .long x2), (4, .int x4)] [] M) (x1 : Int32) (x2 : Int64) (x4 : Int32) (M : Mem) : T X eL (X9_lengthsUpTo_b5 i0 k5 x1 x2 x4 M) md_X9_lengthsUpTo 5 [(0, .ref i0), (1, .int x1), (2, .long x2), (4, .int x4)] [] M := by
  unfold X9_lengthsUpTo_b5
  refine T_iload 3 dX9_lengthsUpTo_5 rfl ?_
  refine T_bipush (v := (12 : Int32)) (by decide) dX9_lengthsUpTo_7 ?_
  refine T_icmp_gt 36 dX9_lengthsUpTo_9 (by decide) ?_ ?_
  ·
    refine T_lload_n 2 dX9_lengthsUpTo_36 rfl rfl ?_
    exact T_lret dX9_lengthsUpTo_37 rfl
  ·
    refine T_lload_n 2 dX9_lengthsUpTo_12 rfl rfl ?_
    refine T_iload 3 dX9_lengthsUpTo_13 rfl ?_
    refine T_iload_n 1 dX9_lengthsUpTo_15 rfl rfl ?_
    refine T_callSI md_J9_min_7cf53 [.int x4, .int x1] [.long x2] dX9_lengthsUpTo_16 rfl ok_J9_min_7cf53 tb_657 tb_478 (by decide) (Nat.le_of_ble_eq_true rfl) (fun _ _ h9 => C_J9_min_7cf53  _ _ h9) (fun r1 M1 => ?_)
    dsimp only
    refine T_i2l dX9_lengthsUpTo_19 ?_
    refine T_aload_n 0 dX9_lengthsUpTo_20 rfl rfl ?_
    refine T_getR 0 FOk_9 h0 (by decide) (by decide) dX9_lengthsUpTo_21 tb_308 ?_
    refine T_iload 3 dX9_lengthsUpTo_24 rfl ?_
    refine T_lald (kf_9_0 h0) dX9_lengthsUpTo_26 ?_
    refine T_lmul dX9_lengthsUpTo_27 ?_
    refine T_ladd dX9_lengthsUpTo_28 ?_
    refine T_lw (fun v2 => ?_)
    try dsimp only
    refine T_lstore_n [(2, .long v2), (0, .ref i0), (1, .int x1), (4, .int x4)] dX9_lengthsUpTo_29 rfl (by decide) rfl ?_
    refine T_iinc 3 [(4, .int (x4 + (1 : Int32))), (2, .long v2), (0, .ref i0), (1, .int x1)] (v := (1 : Int32)) dX9_lengthsUpTo_30 rfl (by decide) (by decide) rfl ?_
    refine T_goto 5 dX9_lengthsUpTo_33 (by decide) ?_
    refine T_sub [2, 3, 1, 0] (lv' := [(0, .ref i0), (1, .int x1), (2, .long v2), (4, .int (x4 + (1 : Int32)))]) rfl ?_
    exact hk5 _ _ _ _
theorem t_X9_lengthsUpTo_l5 {X : Scr} {i0 : Nat} (h0 : KD[i0]? = some (.inl 9)) (n : Nat) : ∀ (x1 : Int32) (x2 : Int64) (x4 : Int32) (M : Mem), T X eL (X9_lengthsUpTo_l5 i0  n x1 x2 x4 M) md_X9_lengthsUpTo 5 [(0, .ref i0), (1, .int x1), (2, .long x2), (4, .int x4)] [] M := by
  induction n with
  | zero => intro x1 x2 x4 M; exact T_none
  | succ n ih => intro x1 x2 x4 M; exact t_X9_lengthsUpTo_b5 h0 ih x1 x2 x4 M
set_option maxHeartbeats 4000000 in
set_option maxRecDepth 100000 in
theorem t_X9_lengthsUpTo {X : Scr} {i0 : Nat} (h0 : KD[i0]? = some (.inl 9)) (x1 : Int32) (M : Mem) : T X eL (X9_lengthsUpTo i0  x1 M) md_X9_lengthsUpTo 0 [(0, .ref i0), (1, .int x1)] [] M := by
  unfold X9_lengthsUpTo
  refine T_lconst (v := (0 : Int64)) (by decide) dX9_lengthsUpTo_0 ?_
  refine T_lstore_n [(2, .long (0 : Int64)), (0, .ref i0), (1, .int x1)] dX9_lengthsUpTo_1 rfl (by decide) rfl ?_
  refine T_iconst (v := (1 : Int32)) (by decide) dX9_lengthsUpTo_2 ?_
  refine T_istore [(4, .int (1 : Int32)), (2, .long (0 : Int64)), (0, .ref i0), (1, .int x1)] dX9_lengthsUpTo_3 (by decide) rfl ?_
  refine T_sub [2, 3, 1, 0] (lv' := [(0, .ref i0), (1, .int x1), (2, .long (0 : Int64)), (4, .int (1 : Int32))]) rfl ?_
  exact t_X9_lengthsUpTo_l5 h0  _ _ _ _ _
theorem C_X9_lengthsUpTo {X : Scr} {i0 : Nat} (h0 : KD[i0]? = some (.inl 9)) (x1 : Int32) {M : Mem} {r : Int64} {M' : Mem} (h : X9_lengthsUpTo i0 x1 M = some (r, M')) : Ct X md_X9_lengthsUpTo [.ref i0, .int x1] M (eL r) M' := Ct_of (by decide +kernel) (Nat.le_of_ble_eq_true rfl) (t_X9_lengthsUpTo h0 _ M) r M' h
-- X10_isLost
def X10_isLost_b15 (i0 : Nat)  (s0 : Int32) (M : Mem) : Option (Int32 × Mem) :=
  gd (s0 == 0 || s0 == 1) (some (s0, M))
def X10_isLost (i0 : Nat)  (x1 : Int32) (x2 : Int32) (M : Mem) : Option (Int32 × Mem) :=
  gd (ib x1 21) (
    if (M.1 (rf i0 0) x1.toNatClampNeg) = x2 then
      X10_isLost_b15 i0  (1 : Int32) M
    else
      X10_isLost_b15 i0  (0 : Int32) M)
set_option maxHeartbeats 4000000 in
set_option maxRecDepth 100000 in
theorem t_X10_isLost_b15 {X : Scr} {i0 : Nat} (h0 : KD[i0]? = some (.inl 10)) (s0 : Int32) (M : Mem) : T X eI (X10_isLost_b15 i0  s0 M) md_X10_isLost 15 [] [.int s0] M := by
  unfold X10_isLost_b15
  exact T_zret dX10_isLost_15 rfl
set_option maxHeartbeats 4000000 in
set_option maxRecDepth 100000 in
theorem t_X10_isLost {X : Scr} {i0 : Nat} (h0 : KD[i0]? = some (.inl 10)) (x1 : Int32) (x2 : Int32) (M : Mem) : T X eI (X10_isLost i0  x1 x2 M) md_X10_isLost 0 [(0, .ref i0), (1, .int x1), (2, .int x2)] [] M := by
  unfold X10_isLost
  refine T_aload_n 0 dX10_isLost_0 rfl rfl ?_
  refine T_getR 0 FOk_10 h0 (by decide) (by decide) dX10_isLost_1 tb_298 ?_
  refine T_iload_n 1 dX10_isLost_4 rfl rfl ?_
  refine T_iald (kf_10_0 h0) dX10_isLost_5 ?_
  refine T_iload_n 2 dX10_isLost_6 rfl rfl ?_
  refine T_icmp_ne 14 dX10_isLost_7 (by decide) ?_ ?_
  ·
    refine T_iconst (v := (1 : Int32)) (by decide) dX10_isLost_10 ?_
    refine T_goto 15 dX10_isLost_11 (by decide) ?_
    refine T_sub [] (lv' := []) rfl ?_
    exact t_X10_isLost_b15 h0  _ _
  ·
    refine T_iconst (v := (0 : Int32)) (by decide) dX10_isLost_14 ?_
    refine T_sub [] (lv' := []) rfl ?_
    exact t_X10_isLost_b15 h0  _ _
theorem C_X10_isLost {X : Scr} {i0 : Nat} (h0 : KD[i0]? = some (.inl 10)) (x1 : Int32) (x2 : Int32) {M : Mem} {r : Int32} {M' : Mem} (h : X10_isLost i0 x1 x2 M = some (r, M')) : Ct X md_X10_isLost [.ref i0, .int x1, .int x2] M (eI r) M' := Ct_of (by decide +kernel) (Nat.le_of_ble_eq_true rfl) (t_X10_isLost h0 _ _ M) r M' h
