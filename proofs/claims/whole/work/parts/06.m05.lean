-- X9_spread
def X9_spread_b44 (i0 : Nat) (k35 : Int32 → Int32 → Int32 → Mem → Option (Unit × Mem)) (k44 : Int32 → Int32 → Int32 → Int32 → Mem → Option (Unit × Mem)) (x1 : Int32) (x2 : Int32) (x3 : Int32) (x4 : Int32) (M : Mem) : Option (Unit × Mem) :=
  if x4 ≤ 0 then
    gd (ib (0 : Int32) 13) (
      gd (ib (0 : Int32) 13) (
        mw (mL M (rf i0 0) (0 : Int32).toNatClampNeg ((M.2 (rf i0 0) (0 : Int32).toNatClampNeg) * ((10 : Int32) - x2).toInt64)) (fun N1 =>
          mw (mL N1 i0 1 ((N1.2 i0 1) * (10 : Int64))) (fun N2 =>
            k35 x1 x2 (x3 + (1 : Int32)) N2))))
  else
    gd (ib x4 13) (
      gd (ib (x4 - (1 : Int32)) 13) (
        gd (ib x4 13) (
          mw (mL M (rf i0 0) x4.toNatClampNeg (((M.2 (rf i0 0) x4.toNatClampNeg) * ((10 : Int32) - x2).toInt64) + ((M.2 (rf i0 0) (x4 - (1 : Int32)).toNatClampNeg) * x2.toInt64))) (fun N3 =>
            k44 x1 x2 x3 (x4 + (-1 : Int32)) N3))))
def X9_spread_l44 (i0 : Nat) (k35 : Int32 → Int32 → Int32 → Mem → Option (Unit × Mem)) : Nat → Int32 → Int32 → Int32 → Int32 → Mem → Option (Unit × Mem)
  | 0 => fun _ _ _ _ _ => none
  | n + 1 => X9_spread_b44 i0 k35 (X9_spread_l44 i0 k35 n)
def X9_spread_b35 (i0 : Nat) (k35 : Int32 → Int32 → Int32 → Mem → Option (Unit × Mem)) (x1 : Int32) (x2 : Int32) (x3 : Int32) (M : Mem) : Option (Unit × Mem) :=
  if x1 ≤ x3 then
    some ((), M)
  else
    X9_spread_l44 i0 k35 FU x1 x2 x3 (12 : Int32) M
def X9_spread_l35 (i0 : Nat)  : Nat → Int32 → Int32 → Int32 → Mem → Option (Unit × Mem)
  | 0 => fun _ _ _ _ => none
  | n + 1 => X9_spread_b35 i0 (X9_spread_l35 i0  n)
def X9_spread_b2 (i0 : Nat) (k2 : Int32 → Int32 → Int32 → Mem → Option (Unit × Mem)) (x1 : Int32) (x2 : Int32) (x3 : Int32) (M : Mem) : Option (Unit × Mem) :=
  if (12 : Int32) < x3 then
    gd (ib (0 : Int32) 13) (
      mw (mL M (rf i0 0) (0 : Int32).toNatClampNeg (1 : Int64)) (fun N1 =>
        mw (mL N1 i0 1 (1 : Int64)) (fun N2 =>
          X9_spread_l35 i0  FU x1 x2 (0 : Int32) N2)))
  else
    gd (ib x3 13) (
      mw (mL M (rf i0 0) x3.toNatClampNeg (0 : Int64)) (fun N3 =>
        k2 x1 x2 (x3 + (1 : Int32)) N3))
def X9_spread_l2 (i0 : Nat)  : Nat → Int32 → Int32 → Int32 → Mem → Option (Unit × Mem)
  | 0 => fun _ _ _ _ => none
  | n + 1 => X9_spread_b2 i0 (X9_spread_l2 i0  n)
def X9_spread (i0 : Nat)  (x1 : Int32) (x2 : Int32) (M : Mem) : Option (Unit × Mem) :=
  X9_spread_l2 i0  FU x1 x2 (0 : Int32) M
set_option maxHeartbeats 4000000 in
set_option maxRecDepth 100000 in
theorem t_X9_spread_b44 {X : Scr} {i0 : Nat} (h0 : KD[i0]? = some (.inl 9)) {k35 : Int32 → Int32 → Int32 → Mem → Option (Unit × Mem)} (hk35 : ∀ (x1 : Int32) (x2 : Int32) (x3 : Int32) (M : Mem), T X eV (k35 x1 x2 x3 M) md_X9_spread 35 [(0, .ref i0), (1, .int x1), (2, .int x2), (3, .int x3)] [] M) {k44 : Int32 → Int32 → Int32 → Int32 → Mem → Option (Unit × Mem)} (hk44 : ∀ (x1 : Int32) (x2 : Int32) (x3 : Int32) (x4 : Int32) (M : Mem), T X eV (k44 x1 x2 x3 x4 M) md_X9_spread 44 [(0, .ref i0), (1, .int x1), (2, .int x2), (3, .int x3), (4, .int x4)] [] M) (x1 : Int32) (x2 : Int32) (x3 : Int32) (x4 : Int32) (M : Mem) : T X eV (X9_spread_b44 i0 k35 k44 x1 x2 x3 x4 M) md_X9_spread 44 [(0, .ref i0), (1, .int x1), (2, .int x2), (3, .int x3), (4, .int x4)] [] M := by
  unfold X9_spread_b44
  refine T_iload 4 dX9_spread_44 rfl ?_
  refine T_if_le 88 dX9_spread_46 (by decide) ?_ ?_
  ·
    refine T_aload_n 0 dX9_spread_88 rfl rfl ?_
    refine T_getR 0 FOk_9 h0 (by decide) (by decide) dX9_spread_89 tb_308 ?_
    refine T_iconst (v := (0 : Int32)) (by decide) dX9_spread_92 ?_
    refine T_dup2 rfl rfl dX9_spread_93 ?_
    refine T_lald (kf_9_0 h0) dX9_spread_94 ?_
    refine T_bipush (v := (10 : Int32)) (by decide) dX9_spread_95 ?_
    refine T_iload_n 2 dX9_spread_97 rfl rfl ?_
    refine T_isub dX9_spread_98 ?_
    refine T_i2l dX9_spread_99 ?_
    refine T_lmul dX9_spread_100 ?_
    refine T_last (kf_9_0 h0) dX9_spread_101 ?_
    refine T_mw (fun N1 => ?_)
    try dsimp only
    refine T_aload_n 0 dX9_spread_102 rfl rfl ?_
    refine T_dup rfl dX9_spread_103 ?_
    refine T_getL 1 FOk_9 h0 (by decide) (by decide) dX9_spread_104 tb_309 ?_
    refine T_ldc2 (v := (10 : Int64)) dX9_spread_107 tb_648 ?_
    refine T_lmul dX9_spread_110 ?_
    refine T_putL 1 FOk_9 h0 (by decide) (by decide) rfl (by decide +kernel) dX9_spread_111 tb_309 ?_
    refine T_mw (fun N2 => ?_)
    try dsimp only
    refine T_iinc 3 [(3, .int (x3 + (1 : Int32))), (0, .ref i0), (1, .int x1), (2, .int x2), (4, .int x4)] (v := (1 : Int32)) dX9_spread_114 rfl (by decide) (by decide) rfl ?_
    refine T_goto 35 dX9_spread_117 (by decide) ?_
    refine T_sub [1, 2, 3, 0] (lv' := [(0, .ref i0), (1, .int x1), (2, .int x2), (3, .int (x3 + (1 : Int32)))]) rfl ?_
    exact hk35 _ _ _ _
  ·
    refine T_aload_n 0 dX9_spread_49 rfl rfl ?_
    refine T_getR 0 FOk_9 h0 (by decide) (by decide) dX9_spread_50 tb_308 ?_
    refine T_iload 4 dX9_spread_53 rfl ?_
    refine T_aload_n 0 dX9_spread_55 rfl rfl ?_
    refine T_getR 0 FOk_9 h0 (by decide) (by decide) dX9_spread_56 tb_308 ?_
    refine T_iload 4 dX9_spread_59 rfl ?_
    refine T_lald (kf_9_0 h0) dX9_spread_61 ?_
    refine T_bipush (v := (10 : Int32)) (by decide) dX9_spread_62 ?_
    refine T_iload_n 2 dX9_spread_64 rfl rfl ?_
    refine T_isub dX9_spread_65 ?_
    refine T_i2l dX9_spread_66 ?_
    refine T_lmul dX9_spread_67 ?_
    refine T_aload_n 0 dX9_spread_68 rfl rfl ?_
    refine T_getR 0 FOk_9 h0 (by decide) (by decide) dX9_spread_69 tb_308 ?_
    refine T_iload 4 dX9_spread_72 rfl ?_
    refine T_iconst (v := (1 : Int32)) (by decide) dX9_spread_74 ?_
    refine T_isub dX9_spread_75 ?_
    refine T_lald (kf_9_0 h0) dX9_spread_76 ?_
    refine T_iload_n 2 dX9_spread_77 rfl rfl ?_
    refine T_i2l dX9_spread_78 ?_
    refine T_lmul dX9_spread_79 ?_
    refine T_ladd dX9_spread_80 ?_
    refine T_last (kf_9_0 h0) dX9_spread_81 ?_
    refine T_mw (fun N3 => ?_)
    try dsimp only
    refine T_iinc 4 [(4, .int (x4 + (-1 : Int32))), (0, .ref i0), (1, .int x1), (2, .int x2), (3, .int x3)] (v := (-1 : Int32)) dX9_spread_82 rfl (by decide) (by decide) rfl ?_
    refine T_goto 44 dX9_spread_85 (by decide) ?_
    refine T_sub [1, 2, 3, 4, 0] (lv' := [(0, .ref i0), (1, .int x1), (2, .int x2), (3, .int x3), (4, .int (x4 + (-1 : Int32)))]) rfl ?_
    exact hk44 _ _ _ _ _
theorem t_X9_spread_l44 {X : Scr} {i0 : Nat} (h0 : KD[i0]? = some (.inl 9)) {k35 : Int32 → Int32 → Int32 → Mem → Option (Unit × Mem)} (hk35 : ∀ (x1 : Int32) (x2 : Int32) (x3 : Int32) (M : Mem), T X eV (k35 x1 x2 x3 M) md_X9_spread 35 [(0, .ref i0), (1, .int x1), (2, .int x2), (3, .int x3)] [] M) (n : Nat) : ∀ (x1 : Int32) (x2 : Int32) (x3 : Int32) (x4 : Int32) (M : Mem), T X eV (X9_spread_l44 i0 k35 n x1 x2 x3 x4 M) md_X9_spread 44 [(0, .ref i0), (1, .int x1), (2, .int x2), (3, .int x3), (4, .int x4)] [] M := by
  induction n with
  | zero => intro x1 x2 x3 x4 M; exact T_none
  | succ n ih => intro x1 x2 x3 x4 M; exact t_X9_spread_b44 h0 hk35 ih x1 x2 x3 x4 M
set_option maxHeartbeats 4000000 in
set_option maxRecDepth 100000 in
theorem t_X9_spread_b35 {X : Scr} {i0 : Nat} (h0 : KD[i0]? = some (.inl 9)) {k35 : Int32 → Int32 → Int32 → Mem → Option (Unit × Mem)} (hk35 : ∀ (x1 : Int32) (x2 : Int32) (x3 : Int32) (M : Mem), T X eV (k35 x1 x2 x3 M) md_X9_spread 35 [(0, .ref i0), (1, .int x1), (2, .int x2), (3, .int x3)] [] M) (x1 : Int32) (x2 : Int32) (x3 : Int32) (M : Mem) : T X eV (X9_spread_b35 i0 k35 x1 x2 x3 M) md_X9_spread 35 [(0, .ref i0), (1, .int x1), (2, .int x2), (3, .int x3)] [] M := by
  unfold X9_spread_b35
  refine T_iload_n 3 dX9_spread_35 rfl rfl ?_
  refine T_iload_n 1 dX9_spread_36 rfl rfl ?_
  refine T_icmp_ge 120 dX9_spread_37 (by decide) ?_ ?_
  ·
    exact T_vret dX9_spread_120 rfl
  ·
    refine T_bipush (v := (12 : Int32)) (by decide) dX9_spread_40 ?_
    refine T_istore [(4, .int (12 : Int32)), (0, .ref i0), (1, .int x1), (2, .int x2), (3, .int x3)] dX9_spread_42 (by decide) rfl ?_
    refine T_sub [1, 2, 3, 4, 0] (lv' := [(0, .ref i0), (1, .int x1), (2, .int x2), (3, .int x3), (4, .int (12 : Int32))]) rfl ?_
    exact t_X9_spread_l44 h0 hk35 _ _ _ _ _ _
theorem t_X9_spread_l35 {X : Scr} {i0 : Nat} (h0 : KD[i0]? = some (.inl 9)) (n : Nat) : ∀ (x1 : Int32) (x2 : Int32) (x3 : Int32) (M : Mem), T X eV (X9_spread_l35 i0  n x1 x2 x3 M) md_X9_spread 35 [(0, .ref i0), (1, .int x1), (2, .int x2), (3, .int x3)] [] M := by
  induction n with
  | zero => intro x1 x2 x3 M; exact T_none
  | succ n ih => intro x1 x2 x3 M; exact t_X9_spread_b35 h0 ih x1 x2 x3 M
set_option maxHeartbeats 4000000 in
set_option maxRecDepth 100000 in
theorem t_X9_spread_b2 {X : Scr} {i0 : Nat} (h0 : KD[i0]? = some (.inl 9)) {k2 : Int32 → Int32 → Int32 → Mem → Option (Unit × Mem)} (hk2 : ∀ (x1 : Int32) (x2 : Int32) (x3 : Int32) (M : Mem), T X eV (k2 x1 x2 x3 M) md_X9_spread 2 [(0, .ref i0), (1, .int x1), (2, .int x2), (3, .int x3)] [] M) (x1 : Int32) (x2 : Int32) (x3 : Int32) (M : Mem) : T X eV (X9_spread_b2 i0 k2 x1 x2 x3 M) md_X9_spread 2 [(0, .ref i0), (1, .int x1), (2, .int x2), (3, .int x3)] [] M := by
  unfold X9_spread_b2
  refine T_iload_n 3 dX9_spread_2 rfl rfl ?_
  refine T_bipush (v := (12 : Int32)) (by decide) dX9_spread_3 ?_
  refine T_icmp_gt 21 dX9_spread_5 (by decide) ?_ ?_
  ·
    refine T_aload_n 0 dX9_spread_21 rfl rfl ?_
    refine T_getR 0 FOk_9 h0 (by decide) (by decide) dX9_spread_22 tb_308 ?_
    refine T_iconst (v := (0 : Int32)) (by decide) dX9_spread_25 ?_
    refine T_lconst (v := (1 : Int64)) (by decide) dX9_spread_26 ?_
    refine T_last (kf_9_0 h0) dX9_spread_27 ?_
    refine T_mw (fun N1 => ?_)
    try dsimp only
    refine T_aload_n 0 dX9_spread_28 rfl rfl ?_
    refine T_lconst (v := (1 : Int64)) (by decide) dX9_spread_29 ?_
    refine T_putL 1 FOk_9 h0 (by decide) (by decide) rfl (by decide +kernel) dX9_spread_30 tb_309 ?_
    refine T_mw (fun N2 => ?_)
    try dsimp only
    refine T_iconst (v := (0 : Int32)) (by decide) dX9_spread_33 ?_
    refine T_istore_n [(3, .int (0 : Int32)), (0, .ref i0), (1, .int x1), (2, .int x2)] dX9_spread_34 rfl (by decide) rfl ?_
    refine T_sub [1, 2, 3, 0] (lv' := [(0, .ref i0), (1, .int x1), (2, .int x2), (3, .int (0 : Int32))]) rfl ?_
    exact t_X9_spread_l35 h0  _ _ _ _ _
  ·
    refine T_aload_n 0 dX9_spread_8 rfl rfl ?_
    refine T_getR 0 FOk_9 h0 (by decide) (by decide) dX9_spread_9 tb_308 ?_
    refine T_iload_n 3 dX9_spread_12 rfl rfl ?_
    refine T_lconst (v := (0 : Int64)) (by decide) dX9_spread_13 ?_
    refine T_last (kf_9_0 h0) dX9_spread_14 ?_
    refine T_mw (fun N3 => ?_)
    try dsimp only
    refine T_iinc 3 [(3, .int (x3 + (1 : Int32))), (0, .ref i0), (1, .int x1), (2, .int x2)] (v := (1 : Int32)) dX9_spread_15 rfl (by decide) (by decide) rfl ?_
    refine T_goto 2 dX9_spread_18 (by decide) ?_
    refine T_sub [1, 2, 3, 0] (lv' := [(0, .ref i0), (1, .int x1), (2, .int x2), (3, .int (x3 + (1 : Int32)))]) rfl ?_
    exact hk2 _ _ _ _
theorem t_X9_spread_l2 {X : Scr} {i0 : Nat} (h0 : KD[i0]? = some (.inl 9)) (n : Nat) : ∀ (x1 : Int32) (x2 : Int32) (x3 : Int32) (M : Mem), T X eV (X9_spread_l2 i0  n x1 x2 x3 M) md_X9_spread 2 [(0, .ref i0), (1, .int x1), (2, .int x2), (3, .int x3)] [] M := by
  induction n with
  | zero => intro x1 x2 x3 M; exact T_none
  | succ n ih => intro x1 x2 x3 M; exact t_X9_spread_b2 h0 ih x1 x2 x3 M
set_option maxHeartbeats 4000000 in
set_option maxRecDepth 100000 in
theorem t_X9_spread {X : Scr} {i0 : Nat} (h0 : KD[i0]? = some (.inl 9)) (x1 : Int32) (x2 : Int32) (M : Mem) : T X eV (X9_spread i0  x1 x2 M) md_X9_spread 0 [(0, .ref i0), (1, .int x1), (2, .int x2)] [] M := by
  unfold X9_spread
  refine T_iconst (v := (0 : Int32)) (by decide) dX9_spread_0 ?_
  refine T_istore_n [(3, .int (0 : Int32)), (0, .ref i0), (1, .int x1), (2, .int x2)] dX9_spread_1 rfl (by decide) rfl ?_
  refine T_sub [1, 2, 3, 0] (lv' := [(0, .ref i0), (1, .int x1), (2, .int x2), (3, .int (0 : Int32))]) rfl ?_
  exact t_X9_spread_l2 h0  _ _ _ _ _
theorem C_X9_spread {X : Scr} {i0 : Nat} (h0 : KD[i0]? = some (.inl 9)) (x1 : Int32) (x2 : Int32) {M : Mem} {r : Unit} {M' : Mem} (h : X9_spread i0 x1 x2 M = some (r, M')) : Ct X md_X9_spread [.ref i0, .int x1, .int x2] M (eV r) M' := Ct_of (by decide +kernel) (Nat.le_of_ble_eq_true rfl) (t_X9_spread h0 _ _ M) r M' h
-- X9_waysToReach
def X9_waysToReach_b5 (i0 : Nat) (k5 : Int64 → Int32 → Mem → Option (Int64 × Mem)) (x2 : Int64) (x4 : Int32) (M : Mem) : Option (Int64 × Mem) :=
  if (12 : Int32) < x4 then
    some (x2, M)
  else
    gd (ib x4 13) (
      k5 (x2 + (M.2 (rf i0 0) x4.toNatClampNeg)) (x4 + (1 : Int32)) M)
def X9_waysToReach_l5 (i0 : Nat)  : Nat → Int64 → Int32 → Mem → Option (Int64 × Mem)
  | 0 => fun _ _ _ => none
  | n + 1 => X9_waysToReach_b5 i0 (X9_waysToReach_l5 i0  n)
def X9_waysToReach (i0 : Nat)  (x1 : Int32) (M : Mem) : Option (Int64 × Mem) :=
  X9_waysToReach_l5 i0  FU (0 : Int64) x1 M
set_option maxHeartbeats 4000000 in
set_option maxRecDepth 100000 in
theorem t_X9_waysToReach_b5 {X : Scr} {i0 : Nat} (h0 : KD[i0]? = some (.inl 9)) {k5 : Int64 → Int32 → Mem → Option (Int64 × Mem)} (hk5 : ∀ (x2 : Int64) (x4 : Int32) (M : Mem), T X eL (k5 x2 x4 M) md_X9_waysToReach 5 [(0, .ref i0), (2, .long x2), (4, .int x4)] [] M) (x2 : Int64) (x4 : Int32) (M : Mem) : T X eL (X9_waysToReach_b5 i0 k5 x2 x4 M) md_X9_waysToReach 5 [(0, .ref i0), (2, .long x2), (4, .int x4)] [] M := by
  unfold X9_waysToReach_b5
  refine T_iload 2 dX9_waysToReach_5 rfl ?_
  refine T_bipush (v := (12 : Int32)) (by decide) dX9_waysToReach_7 ?_
  refine T_icmp_gt 28 dX9_waysToReach_9 (by decide) ?_ ?_
  ·
    refine T_lload_n 1 dX9_waysToReach_28 rfl rfl ?_
    exact T_lret dX9_waysToReach_29 rfl
  ·
    refine T_lload_n 1 dX9_waysToReach_12 rfl rfl ?_
    refine T_aload_n 0 dX9_waysToReach_13 rfl rfl ?_
    refine T_getR 0 FOk_9 h0 (by decide) (by decide) dX9_waysToReach_14 tb_308 ?_
    refine T_iload 2 dX9_waysToReach_17 rfl ?_
    refine T_lald (kf_9_0 h0) dX9_waysToReach_19 ?_
    refine T_ladd dX9_waysToReach_20 ?_
    refine T_lstore_n [(2, .long (x2 + (M.2 (rf i0 0) x4.toNatClampNeg))), (0, .ref i0), (4, .int x4)] dX9_waysToReach_21 rfl (by decide) rfl ?_
    refine T_iinc 2 [(4, .int (x4 + (1 : Int32))), (2, .long (x2 + (M.2 (rf i0 0) x4.toNatClampNeg))), (0, .ref i0)] (v := (1 : Int32)) dX9_waysToReach_22 rfl (by decide) (by decide) rfl ?_
    refine T_goto 5 dX9_waysToReach_25 (by decide) ?_
    refine T_sub [2, 1, 0] (lv' := [(0, .ref i0), (2, .long (x2 + (M.2 (rf i0 0) x4.toNatClampNeg))), (4, .int (x4 + (1 : Int32)))]) rfl ?_
    exact hk5 _ _ _
theorem t_X9_waysToReach_l5 {X : Scr} {i0 : Nat} (h0 : KD[i0]? = some (.inl 9)) (n : Nat) : ∀ (x2 : Int64) (x4 : Int32) (M : Mem), T X eL (X9_waysToReach_l5 i0  n x2 x4 M) md_X9_waysToReach 5 [(0, .ref i0), (2, .long x2), (4, .int x4)] [] M := by
  induction n with
  | zero => intro x2 x4 M; exact T_none
  | succ n ih => intro x2 x4 M; exact t_X9_waysToReach_b5 h0 ih x2 x4 M
set_option maxHeartbeats 4000000 in
set_option maxRecDepth 100000 in
theorem t_X9_waysToReach {X : Scr} {i0 : Nat} (h0 : KD[i0]? = some (.inl 9)) (x1 : Int32) (M : Mem) : T X eL (X9_waysToReach i0  x1 M) md_X9_waysToReach 0 [(0, .ref i0), (1, .int x1)] [] M := by
  unfold X9_waysToReach
  refine T_lconst (v := (0 : Int64)) (by decide) dX9_waysToReach_0 ?_
  refine T_lstore_n [(2, .long (0 : Int64)), (0, .ref i0), (1, .int x1)] dX9_waysToReach_1 rfl (by decide) rfl ?_
  refine T_iload_n 2 dX9_waysToReach_2 rfl rfl ?_
  refine T_istore [(4, .int x1), (2, .long (0 : Int64)), (0, .ref i0), (1, .int x1)] dX9_waysToReach_3 (by decide) rfl ?_
  refine T_sub [2, 1, 0] (lv' := [(0, .ref i0), (2, .long (0 : Int64)), (4, .int x1)]) rfl ?_
  exact t_X9_waysToReach_l5 h0  _ _ _ _
theorem C_X9_waysToReach {X : Scr} {i0 : Nat} (h0 : KD[i0]? = some (.inl 9)) (x1 : Int32) {M : Mem} {r : Int64} {M' : Mem} (h : X9_waysToReach i0 x1 M = some (r, M')) : Ct X md_X9_waysToReach [.ref i0, .int x1] M (eL r) M' := Ct_of (by decide +kernel) (Nat.le_of_ble_eq_true rfl) (t_X9_waysToReach h0 _ M) r M' h
-- X9_lengthsUpTo
def X9_lengthsUpTo_b5 (i0 : Nat) (k5 : Int32 → Int64 → Int32 → Mem → Option (Int64 × Mem)) (x1 : Int32) (x2 : Int64) (x4 : Int32) (M : Mem) : Option (Int64 × Mem) :=
  if (12 : Int32) < x4 then
    some (x2, M)
  else
    (J9_min_7cf53  x4 x1 M).bind (fun p1 =>
      gd (ib x4 13) (
        k5 x1 (x2 + (p1.1.toInt64 * (p1.2.2 (rf i0 0) x4.toNatClampNeg))) (x4 + (1 : Int32)) p1.2))
def X9_lengthsUpTo_l5 (i0 : Nat)  : Nat → Int32 → Int64 → Int32 → Mem → Option (Int64 × Mem)
  | 0 => fun _ _ _ _ => none
  | n + 1 => X9_lengthsUpTo_b5 i0 (X9_lengthsUpTo_l5 i0  n)
def X9_lengthsUpTo (i0 : Nat)  (x1 : Int32) (M : Mem) : Option (Int64 × Mem) :=
  X9_lengthsUpTo_l5 i0  FU x1 (0 : Int64) (1 : Int32) M
set_option maxHeartbeats 4000000 in
set_option maxRecDepth 100000 in
theorem t_X9_lengthsUpTo_b5 {X : Scr} {i0 : Nat} (h0 : KD[i0]? = some (.inl 9)) {k5 : Int32 → Int64 → Int32 → Mem → Option (Int64 × Mem)} (hk5 : ∀ (x1 : Int32) (x2 : Int64) (x4 : Int32) (M : Mem), T X eL (k5 x1 x2 x4 M) md_X9_lengthsUpTo 5 [(0, .ref i0), (1, .int x1), (2, .long x2), (4, .int x4)] [] M) (x1 : Int32) (x2 : Int64) (x4 : Int32) (M : Mem) : T X eL (X9_lengthsUpTo_b5 i0 k5 x1 x2 x4 M) md_X9_lengthsUpTo 5 [(0, .ref i0), (1, .int x1), (2, .long x2), (4, .int x4)] [] M := by
  unfold X9_lengthsUpTo_b5
  refine T_iload 3 dX9_lengthsUpTo_5 rfl ?_
  refine T_bipush (v := (12 : Int32)) (by decide) dX9_lengthsUpTo_7 ?_
  refine T_icmp_gt 36 dX9_lengthsUpTo_9 (by decide) ?_ ?_
  ·
    refine T_lload_n 2 dX9_lengthsUpTo_36 rfl rfl ?_
    exact T_lret dX9_lengthsUpTo_37 rfl
  ·
    refine T_lload_n 2 dX9_lengthsUpTo_12 rfl rfl ?_
    refine T_iload 3 dX9_lengthsUpTo_13 rfl ?_
    refine T_iload_n 1 dX9_lengthsUpTo_15 rfl rfl ?_
    refine T_callSI md_J9_min_7cf53 [.int x4, .int x1] [.long x2] dX9_lengthsUpTo_16 rfl ok_J9_min_7cf53 tb_657 tb_478 (by decide) (Nat.le_of_ble_eq_true rfl) (fun _ _ h9 => C_J9_min_7cf53  _ _ h9) (fun r1 M1 => ?_)
    dsimp only
    refine T_i2l dX9_lengthsUpTo_19 ?_
    refine T_aload_n 0 dX9_lengthsUpTo_20 rfl rfl ?_
    refine T_getR 0 FOk_9 h0 (by decide) (by decide) dX9_lengthsUpTo_21 tb_308 ?_
    refine T_iload 3 dX9_lengthsUpTo_24 rfl ?_
    refine T_lald (kf_9_0 h0) dX9_lengthsUpTo_26 ?_
    refine T_lmul dX9_lengthsUpTo_27 ?_
    refine T_ladd dX9_lengthsUpTo_28 ?_
    refine T_lstore_n [(2, .long (x2 + (r1.toInt64 * (M1.2 (rf i0 0) x4.toNatClampNeg)))), (0, .ref i0), (1, .int x1), (4, .int x4)] dX9_lengthsUpTo_29 rfl (by decide) rfl ?_
    refine T_iinc 3 [(4, .int (x4 + (1 : Int32))), (2, .long (x2 + (r1.toInt64 * (M1.2 (rf i0 0) x4.toNatClampNeg)))), (0, .ref i0), (1, .int x1)] (v := (1 : Int32)) dX9_lengthsUpTo_30 rfl (by decide) (by decide) rfl ?_
    refine T_goto 5 dX9_lengthsUpTo_33 (by decide) ?_
    refine T_sub [2, 3, 1, 0] (lv' := [(0, .ref i0), (1, .int x1), (2, .long (x2 + (r1.toInt64 * (M1.2 (rf i0 0) x4.toNatClampNeg)))), (4, .int (x4 + (1 : Int32)))]) rfl ?_
    exact hk5 _ _ _ _
theorem t_X9_lengthsUpTo_l5 {X : Scr} {i0 : Nat} (h0 : KD[i0]? = some (.inl 9)) (n : Nat) : ∀ (x1 : Int32) (x2 : Int64) (x4 : Int32) (M : Mem), T X eL (X9_lengthsUpTo_l5 i0  n x1 x2 x4 M) md_X9_lengthsUpTo 5 [(0, .ref i0), (1, .int x1), (2, .long x2), (4, .int x4)] [] M := by
  induction n with
  | zero => intro x1 x2 x4 M; exact T_none
  | succ n ih => intro x1 x2 x4 M; exact t_X9_lengthsUpTo_b5 h0 ih x1 x2 x4 M
set_option maxHeartbeats 4000000 in
set_option maxRecDepth 100000 in
theorem t_X9_lengthsUpTo {X : Scr} {i0 : Nat} (h0 : KD[i0]? = some (.inl 9)) (x1 : Int32) (M : Mem) : T X eL (X9_lengthsUpTo i0  x1 M) md_X9_lengthsUpTo 0 [(0, .ref i0), (1, .int x1)] [] M := by
  unfold X9_lengthsUpTo
  refine T_lconst (v := (0 : Int64)) (by decide) dX9_lengthsUpTo_0 ?_
  refine T_lstore_n [(2, .long (0 : Int64)), (0, .ref i0), (1, .int x1)] dX9_lengthsUpTo_1 rfl (by decide) rfl ?_
  refine T_iconst (v := (1 : Int32)) (by decide) dX9_lengthsUpTo_2 ?_
  refine T_istore [(4, .int (1 : Int32)), (2, .long (0 : Int64)), (0, .ref i0), (1, .int x1)] dX9_lengthsUpTo_3 (by decide) rfl ?_
  refine T_sub [2, 3, 1, 0] (lv' := [(0, .ref i0), (1, .int x1), (2, .long (0 : Int64)), (4, .int (1 : Int32))]) rfl ?_
  exact t_X9_lengthsUpTo_l5 h0  _ _ _ _ _
theorem C_X9_lengthsUpTo {X : Scr} {i0 : Nat} (h0 : KD[i0]? = some (.inl 9)) (x1 : Int32) {M : Mem} {r : Int64} {M' : Mem} (h : X9_lengthsUpTo i0 x1 M = some (r, M')) : Ct X md_X9_lengthsUpTo [.ref i0, .int x1] M (eL r) M' := Ct_of (by decide +kernel) (Nat.le_of_ble_eq_true rfl) (t_X9_lengthsUpTo h0 _ M) r M' h
-- X10_isLost
def X10_isLost_b15 (i0 : Nat)  (s0 : Int32) (M : Mem) : Option (Int32 × Mem) :=
  gd (s0 == 0 || s0 == 1) (some (s0, M))
def X10_isLost (i0 : Nat)  (x1 : Int32) (x2 : Int32) (M : Mem) : Option (Int32 × Mem) :=
  gd (ib x1 21) (
    if (M.1 (rf i0 0) x1.toNatClampNeg) = x2 then
      X10_isLost_b15 i0  (1 : Int32) M
    else
      X10_isLost_b15 i0  (0 : Int32) M)
set_option maxHeartbeats 4000000 in
set_option maxRecDepth 100000 in
theorem t_X10_isLost_b15 {X : Scr} {i0 : Nat} (h0 : KD[i0]? = some (.inl 10)) (s0 : Int32) (M : Mem) : T X eI (X10_isLost_b15 i0  s0 M) md_X10_isLost 15 [] [.int s0] M := by
  unfold X10_isLost_b15
  exact T_zret dX10_isLost_15 rfl
set_option maxHeartbeats 4000000 in
set_option maxRecDepth 100000 in
theorem t_X10_isLost {X : Scr} {i0 : Nat} (h0 : KD[i0]? = some (.inl 10)) (x1 : Int32) (x2 : Int32) (M : Mem) : T X eI (X10_isLost i0  x1 x2 M) md_X10_isLost 0 [(0, .ref i0), (1, .int x1), (2, .int x2)] [] M := by
  unfold X10_isLost
  refine T_aload_n 0 dX10_isLost_0 rfl rfl ?_
  refine T_getR 0 FOk_10 h0 (by decide) (by decide) dX10_isLost_1 tb_298 ?_
  refine T_iload_n 1 dX10_isLost_4 rfl rfl ?_
  refine T_iald (kf_10_0 h0) dX10_isLost_5 ?_
  refine T_iload_n 2 dX10_isLost_6 rfl rfl ?_
  refine T_icmp_ne 14 dX10_isLost_7 (by decide) ?_ ?_
  ·
    refine T_iconst (v := (1 : Int32)) (by decide) dX10_isLost_10 ?_
    refine T_goto 15 dX10_isLost_11 (by decide) ?_
    refine T_sub [] (lv' := []) rfl ?_
    exact t_X10_isLost_b15 h0  _ _
  ·
    refine T_iconst (v := (0 : Int32)) (by decide) dX10_isLost_14 ?_
    refine T_sub [] (lv' := []) rfl ?_
    exact t_X10_isLost_b15 h0  _ _
theorem C_X10_isLost {X : Scr} {i0 : Nat} (h0 : KD[i0]? = some (.inl 10)) (x1 : Int32) (x2 : Int32) {M : Mem} {r : Int32} {M' : Mem} (h : X10_isLost i0 x1 x2 M = some (r, M')) : Ct X md_X10_isLost [.ref i0, .int x1, .int x2] M (eI r) M' := Ct_of (by decide +kernel) (Nat.le_of_ble_eq_true rfl) (t_X10_isLost h0 _ _ M) r M' h
-- X10_winningTake
def X10_winningTake_b80 (i0 : Nat)  (x3 : Int32) (x4 : Int32) (M : Mem) : Option (Int32 × Mem) :=
  some ((((100 : Int32) * x3) + x4), M)
def X10_winningTake_b88 (i0 : Nat) (k2 : Int32 → Int32 → Int32 → Mem → Option (Int32 × Mem)) (x1 : Int32) (x2 : Int32) (x3 : Int32) (M : Mem) : Option (Int32 × Mem) :=
  k2 x1 x2 (x3 + (1 : Int32)) M
def X10_winningTake_b63 (i0 : Nat) (k2 : Int32 → Int32 → Int32 → Mem → Option (Int32 × Mem)) (x1 : Int32) (x2 : Int32) (x3 : Int32) (x4 : Int32) (x5 : Int32) (s0 : Int32) (M : Mem) : Option (Int32 × Mem) :=
  if x4 < 0 then
    X10_winningTake_b88 i0 k2 x1 x2 x3 M
  else
    if x5 = 0 then
      if s0 = 0 then
        X10_winningTake_b88 i0 k2 x1 x2 x3 M
      else
        X10_winningTake_b80 i0  x3 x4 M
    else
      X10_winningTake_b80 i0  x3 x4 M
def X10_winningTake_b62 (i0 : Nat) (k2 : Int32 → Int32 → Int32 → Mem → Option (Int32 × Mem)) (x1 : Int32) (x2 : Int32) (x3 : Int32) (x4 : Int32) (x5 : Int32) (M : Mem) : Option (Int32 × Mem) :=
  X10_winningTake_b63 i0 k2 x1 x2 x3 x4 x5 (0 : Int32) M
def X10_winningTake_b46 (i0 : Nat) (k2 : Int32 → Int32 → Int32 → Mem → Option (Int32 × Mem)) (x1 : Int32) (x2 : Int32) (x3 : Int32) (x4 : Int32) (s0 : Int32) (M : Mem) : Option (Int32 × Mem) :=
  if x3 = x4 then
    if x3 ≤ 0 then
      X10_winningTake_b62 i0 k2 x1 x2 x3 x4 s0 M
    else
      X10_winningTake_b63 i0 k2 x1 x2 x3 x4 s0 (1 : Int32) M
  else
    X10_winningTake_b62 i0 k2 x1 x2 x3 x4 s0 M
def X10_winningTake_b38 (i0 : Nat) (k2 : Int32 → Int32 → Int32 → Mem → Option (Int32 × Mem)) (x1 : Int32) (x2 : Int32) (x3 : Int32) (x4 : Int32) (s0 : Int32) (s1 : Int32) (M : Mem) : Option (Int32 × Mem) :=
  if s1 = s0 then
    X10_winningTake_b46 i0 k2 x1 x2 x3 x4 (0 : Int32) M
  else
    X10_winningTake_b46 i0 k2 x1 x2 x3 x4 (1 : Int32) M
def X10_winningTake_b28 (i0 : Nat) (k2 : Int32 → Int32 → Int32 → Mem → Option (Int32 × Mem)) (x1 : Int32) (x2 : Int32) (x3 : Int32) (x4 : Int32) (s0 : Int32) (M : Mem) : Option (Int32 × Mem) :=
  if x4 = 0 then
    X10_winningTake_b38 i0 k2 x1 x2 x3 x4 (1 : Int32) s0 M
  else
    X10_winningTake_b38 i0 k2 x1 x2 x3 x4 (0 : Int32) s0 M
def X10_winningTake_b2 (i0 : Nat) (k2 : Int32 → Int32 → Int32 → Mem → Option (Int32 × Mem)) (x1 : Int32) (x2 : Int32) (x3 : Int32) (M : Mem) : Option (Int32 × Mem) :=
  if x1 < x3 then
    some ((-6 : Int32), M)
  else
    gd (ib (x1 - x3) 21) (
      if x3 = 0 then
        X10_winningTake_b28 i0 k2 x1 x2 x3 (x2 - (M.1 (rf i0 0) (x1 - x3).toNatClampNeg)) (1 : Int32) M
      else
        X10_winningTake_b28 i0 k2 x1 x2 x3 (x2 - (M.1 (rf i0 0) (x1 - x3).toNatClampNeg)) (0 : Int32) M)
def X10_winningTake_l2 (i0 : Nat)  : Nat → Int32 → Int32 → Int32 → Mem → Option (Int32 × Mem)
  | 0 => fun _ _ _ _ => none
  | n + 1 => X10_winningTake_b2 i0 (X10_winningTake_l2 i0  n)
def X10_winningTake (i0 : Nat)  (x1 : Int32) (x2 : Int32) (M : Mem) : Option (Int32 × Mem) :=
  X10_winningTake_l2 i0  FU x1 x2 (0 : Int32) M
set_option maxHeartbeats 4000000 in
set_option maxRecDepth 100000 in
theorem t_X10_winningTake_b80 {X : Scr} {i0 : Nat} (h0 : KD[i0]? = some (.inl 10)) (x3 : Int32) (x4 : Int32) (M : Mem) : T X eI (X10_winningTake_b80 i0  x3 x4 M) md_X10_winningTake 80 [(3, .int x3), (4, .int x4)] [] M := by
  unfold X10_winningTake_b80
  refine T_bipush (v := (100 : Int32)) (by decide) dX10_winningTake_80 ?_
  refine T_iload_n 0 dX10_winningTake_82 rfl rfl ?_
  refine T_imul dX10_winningTake_83 ?_
  refine T_iload 1 dX10_winningTake_84 rfl ?_
  refine T_iadd dX10_winningTake_86 ?_
  exact T_iret dX10_winningTake_87 rfl
set_option maxHeartbeats 4000000 in
set_option maxRecDepth 100000 in
theorem t_X10_winningTake_b88 {X : Scr} {i0 : Nat} (h0 : KD[i0]? = some (.inl 10)) {k2 : Int32 → Int32 → Int32 → Mem → Option (Int32 × Mem)} (hk2 : ∀ (x1 : Int32) (x2 : Int32) (x3 : Int32) (M : Mem), T X eI (k2 x1 x2 x3 M) md_X10_winningTake 2 [(0, .ref i0), (1, .int x1), (2, .int x2), (3, .int x3)] [] M) (x1 : Int32) (x2 : Int32) (x3 : Int32) (M : Mem) : T X eI (X10_winningTake_b88 i0 k2 x1 x2 x3 M) md_X10_winningTake 88 [(0, .ref i0), (1, .int x1), (2, .int x2), (3, .int x3)] [] M := by
  unfold X10_winningTake_b88
  refine T_iinc 3 [(3, .int (x3 + (1 : Int32))), (0, .ref i0), (1, .int x1), (2, .int x2)] (v := (1 : Int32)) dX10_winningTake_88 rfl (by decide) (by decide) rfl ?_
  refine T_goto 2 dX10_winningTake_91 (by decide) ?_
  refine T_sub [1, 2, 3, 0] (lv' := [(0, .ref i0), (1, .int x1), (2, .int x2), (3, .int (x3 + (1 : Int32)))]) rfl ?_
  exact hk2 _ _ _ _
set_option maxHeartbeats 4000000 in
set_option maxRecDepth 100000 in
theorem t_X10_winningTake_b63 {X : Scr} {i0 : Nat} (h0 : KD[i0]? = some (.inl 10)) {k2 : Int32 → Int32 → Int32 → Mem → Option (Int32 × Mem)} (hk2 : ∀ (x1 : Int32) (x2 : Int32) (x3 : Int32) (M : Mem), T X eI (k2 x1 x2 x3 M) md_X10_winningTake 2 [(0, .ref i0), (1, .int x1), (2, .int x2), (3, .int x3)] [] M) (x1 : Int32) (x2 : Int32) (x3 : Int32) (x4 : Int32) (x5 : Int32) (s0 : Int32) (M : Mem) : T X eI (X10_winningTake_b63 i0 k2 x1 x2 x3 x4 x5 s0 M) md_X10_winningTake 63 [(0, .ref i0), (1, .int x1), (2, .int x2), (3, .int x3), (4, .int x4), (5, .int x5)] [.int s0] M := by
  unfold X10_winningTake_b63
  refine T_istore [(6, .int s0), (0, .ref i0), (1, .int x1), (2, .int x2), (3, .int x3), (4, .int x4), (5, .int x5)] dX10_winningTake_63 (by decide) rfl ?_
  refine T_iload 5 dX10_winningTake_65 rfl ?_
  refine T_if_lt 88 dX10_winningTake_67 (by decide) ?_ ?_
  ·
    refine T_sub [1, 2, 3, 4] (lv' := [(0, .ref i0), (1, .int x1), (2, .int x2), (3, .int x3)]) rfl ?_
    exact t_X10_winningTake_b88 h0 hk2 _ _ _ _
  ·
    refine T_iload 6 dX10_winningTake_70 rfl ?_
    refine T_if_ne 80 dX10_winningTake_72 (by decide) ?_ ?_
    ·
      refine T_iload 0 dX10_winningTake_75 rfl ?_
      refine T_if_eq 88 dX10_winningTake_77 (by decide) ?_ ?_
      ·
        refine T_sub [1, 2, 3, 4] (lv' := [(0, .ref i0), (1, .int x1), (2, .int x2), (3, .int x3)]) rfl ?_
        exact t_X10_winningTake_b88 h0 hk2 _ _ _ _
      ·
        refine T_sub [4, 5] (lv' := [(3, .int x3), (4, .int x4)]) rfl ?_
        exact t_X10_winningTake_b80 h0  _ _ _
    ·
      refine T_sub [4, 5] (lv' := [(3, .int x3), (4, .int x4)]) rfl ?_
      exact t_X10_winningTake_b80 h0  _ _ _
set_option maxHeartbeats 4000000 in
set_option maxRecDepth 100000 in
theorem t_X10_winningTake_b62 {X : Scr} {i0 : Nat} (h0 : KD[i0]? = some (.inl 10)) {k2 : Int32 → Int32 → Int32 → Mem → Option (Int32 × Mem)} (hk2 : ∀ (x1 : Int32) (x2 : Int32) (x3 : Int32) (M : Mem), T X eI (k2 x1 x2 x3 M) md_X10_winningTake 2 [(0, .ref i0), (1, .int x1), (2, .int x2), (3, .int x3)] [] M) (x1 : Int32) (x2 : Int32) (x3 : Int32) (x4 : Int32) (x5 : Int32) (M : Mem) : T X eI (X10_winningTake_b62 i0 k2 x1 x2 x3 x4 x5 M) md_X10_winningTake 62 [(0, .ref i0), (1, .int x1), (2, .int x2), (3, .int x3), (4, .int x4), (5, .int x5)] [] M := by
  unfold X10_winningTake_b62
  refine T_iconst (v := (0 : Int32)) (by decide) dX10_winningTake_62 ?_
  exact t_X10_winningTake_b63 h0 hk2 _ _ _ _ _ _ _
set_option maxHeartbeats 4000000 in
set_option maxRecDepth 100000 in
theorem t_X10_winningTake_b46 {X : Scr} {i0 : Nat} (h0 : KD[i0]? = some (.inl 10)) {k2 : Int32 → Int32 → Int32 → Mem → Option (Int32 × Mem)} (hk2 : ∀ (x1 : Int32) (x2 : Int32) (x3 : Int32) (M : Mem), T X eI (k2 x1 x2 x3 M) md_X10_winningTake 2 [(0, .ref i0), (1, .int x1), (2, .int x2), (3, .int x3)] [] M) (x1 : Int32) (x2 : Int32) (x3 : Int32) (x4 : Int32) (s0 : Int32) (M : Mem) : T X eI (X10_winningTake_b46 i0 k2 x1 x2 x3 x4 s0 M) md_X10_winningTake 46 [(0, .ref i0), (1, .int x1), (2, .int x2), (3, .int x3), (4, .int x4)] [.int s0] M := by
  unfold X10_winningTake_b46
  refine T_istore [(5, .int s0), (0, .ref i0), (1, .int x1), (2, .int x2), (3, .int x3), (4, .int x4)] dX10_winningTake_46 (by decide) rfl ?_
  refine T_iload_n 4 dX10_winningTake_48 rfl rfl ?_
  refine T_iload 5 dX10_winningTake_49 rfl ?_
  refine T_icmp_ne 62 dX10_winningTake_51 (by decide) ?_ ?_
  ·
    refine T_iload_n 4 dX10_winningTake_54 rfl rfl ?_
    refine T_if_le 62 dX10_winningTake_55 (by decide) ?_ ?_
    ·
      refine T_sub [1, 2, 3, 4, 5, 0] (lv' := [(0, .ref i0), (1, .int x1), (2, .int x2), (3, .int x3), (4, .int x4), (5, .int s0)]) rfl ?_
      exact t_X10_winningTake_b62 h0 hk2 _ _ _ _ _ _
    ·
      refine T_iconst (v := (1 : Int32)) (by decide) dX10_winningTake_58 ?_
      refine T_goto 63 dX10_winningTake_59 (by decide) ?_
      refine T_sub [1, 2, 3, 4, 5, 0] (lv' := [(0, .ref i0), (1, .int x1), (2, .int x2), (3, .int x3), (4, .int x4), (5, .int s0)]) rfl ?_
      exact t_X10_winningTake_b63 h0 hk2 _ _ _ _ _ _ _
  ·
    refine T_sub [1, 2, 3, 4, 5, 0] (lv' := [(0, .ref i0), (1, .int x1), (2, .int x2), (3, .int x3), (4, .int x4), (5, .int s0)]) rfl ?_
    exact t_X10_winningTake_b62 h0 hk2 _ _ _ _ _ _
set_option maxHeartbeats 4000000 in
set_option maxRecDepth 100000 in
theorem t_X10_winningTake_b38 {X : Scr} {i0 : Nat} (h0 : KD[i0]? = some (.inl 10)) {k2 : Int32 → Int32 → Int32 → Mem → Option (Int32 × Mem)} (hk2 : ∀ (x1 : Int32) (x2 : Int32) (x3 : Int32) (M : Mem), T X eI (k2 x1 x2 x3 M) md_X10_winningTake 2 [(0, .ref i0), (1, .int x1), (2, .int x2), (3, .int x3)] [] M) (x1 : Int32) (x2 : Int32) (x3 : Int32) (x4 : Int32) (s0 : Int32) (s1 : Int32) (M : Mem) : T X eI (X10_winningTake_b38 i0 k2 x1 x2 x3 x4 s0 s1 M) md_X10_winningTake 38 [(0, .ref i0), (1, .int x1), (2, .int x2), (3, .int x3), (4, .int x4)] [.int s0, .int s1] M := by
  unfold X10_winningTake_b38
  refine T_icmp_eq 45 dX10_winningTake_38 (by decide) ?_ ?_
  ·
    refine T_iconst (v := (0 : Int32)) (by decide) dX10_winningTake_45 ?_
    exact t_X10_winningTake_b46 h0 hk2 _ _ _ _ _ _
  ·
    refine T_iconst (v := (1 : Int32)) (by decide) dX10_winningTake_41 ?_
    refine T_goto 46 dX10_winningTake_42 (by decide) ?_
    exact t_X10_winningTake_b46 h0 hk2 _ _ _ _ _ _
set_option maxHeartbeats 4000000 in
set_option maxRecDepth 100000 in
theorem t_X10_winningTake_b28 {X : Scr} {i0 : Nat} (h0 : KD[i0]? = some (.inl 10)) {k2 : Int32 → Int32 → Int32 → Mem → Option (Int32 × Mem)} (hk2 : ∀ (x1 : Int32) (x2 : Int32) (x3 : Int32) (M : Mem), T X eI (k2 x1 x2 x3 M) md_X10_winningTake 2 [(0, .ref i0), (1, .int x1), (2, .int x2), (3, .int x3)] [] M) (x1 : Int32) (x2 : Int32) (x3 : Int32) (x4 : Int32) (s0 : Int32) (M : Mem) : T X eI (X10_winningTake_b28 i0 k2 x1 x2 x3 x4 s0 M) md_X10_winningTake 28 [(0, .ref i0), (1, .int x1), (2, .int x2), (3, .int x3), (4, .int x4)] [.int s0] M := by
  unfold X10_winningTake_b28
  refine T_iload 4 dX10_winningTake_28 rfl ?_
  refine T_if_ne 37 dX10_winningTake_30 (by decide) ?_ ?_
  ·
    refine T_iconst (v := (1 : Int32)) (by decide) dX10_winningTake_33 ?_
    refine T_goto 38 dX10_winningTake_34 (by decide) ?_
    exact t_X10_winningTake_b38 h0 hk2 _ _ _ _ _ _ _
  ·
    refine T_iconst (v := (0 : Int32)) (by decide) dX10_winningTake_37 ?_
    exact t_X10_winningTake_b38 h0 hk2 _ _ _ _ _ _ _
set_option maxHeartbeats 4000000 in
set_option maxRecDepth 100000 in
theorem t_X10_winningTake_b2 {X : Scr} {i0 : Nat} (h0 : KD[i0]? = some (.inl 10)) {k2 : Int32 → Int32 → Int32 → Mem → Option (Int32 × Mem)} (hk2 : ∀ (x1 : Int32) (x2 : Int32) (x3 : Int32) (M : Mem), T X eI (k2 x1 x2 x3 M) md_X10_winningTake 2 [(0, .ref i0), (1, .int x1), (2, .int x2), (3, .int x3)] [] M) (x1 : Int32) (x2 : Int32) (x3 : Int32) (M : Mem) : T X eI (X10_winningTake_b2 i0 k2 x1 x2 x3 M) md_X10_winningTake 2 [(0, .ref i0), (1, .int x1), (2, .int x2), (3, .int x3)] [] M := by
  unfold X10_winningTake_b2
  refine T_iload_n 3 dX10_winningTake_2 rfl rfl ?_
  refine T_iload_n 1 dX10_winningTake_3 rfl rfl ?_
  refine T_icmp_gt 94 dX10_winningTake_4 (by decide) ?_ ?_
  ·
    refine T_bipush (v := (-6 : Int32)) (by decide) dX10_winningTake_94 ?_
    exact T_iret dX10_winningTake_96 rfl
  ·
    refine T_iload_n 2 dX10_winningTake_7 rfl rfl ?_
    refine T_aload_n 0 dX10_winningTake_8 rfl rfl ?_
    refine T_getR 0 FOk_10 h0 (by decide) (by decide) dX10_winningTake_9 tb_298 ?_
    refine T_iload_n 1 dX10_winningTake_12 rfl rfl ?_
    refine T_iload_n 3 dX10_winningTake_13 rfl rfl ?_
    refine T_isub dX10_winningTake_14 ?_
    refine T_iald (kf_10_0 h0) dX10_winningTake_15 ?_
    refine T_isub dX10_winningTake_16 ?_
    refine T_istore [(4, .int (x2 - (M.1 (rf i0 0) (x1 - x3).toNatClampNeg))), (0, .ref i0), (1, .int x1), (2, .int x2), (3, .int x3)] dX10_winningTake_17 (by decide) rfl ?_
    refine T_iload_n 4 dX10_winningTake_19 rfl rfl ?_
    refine T_if_ne 27 dX10_winningTake_20 (by decide) ?_ ?_
    ·
      refine T_iconst (v := (1 : Int32)) (by decide) dX10_winningTake_23 ?_
      refine T_goto 28 dX10_winningTake_24 (by decide) ?_
      refine T_sub [1, 2, 3, 4, 0] (lv' := [(0, .ref i0), (1, .int x1), (2, .int x2), (3, .int x3), (4, .int (x2 - (M.1 (rf i0 0) (x1 - x3).toNatClampNeg)))]) rfl ?_
      exact t_X10_winningTake_b28 h0 hk2 _ _ _ _ _ _
    ·
      refine T_iconst (v := (0 : Int32)) (by decide) dX10_winningTake_27 ?_
      refine T_sub [1, 2, 3, 4, 0] (lv' := [(0, .ref i0), (1, .int x1), (2, .int x2), (3, .int x3), (4, .int (x2 - (M.1 (rf i0 0) (x1 - x3).toNatClampNeg)))]) rfl ?_
      exact t_X10_winningTake_b28 h0 hk2 _ _ _ _ _ _
theorem t_X10_winningTake_l2 {X : Scr} {i0 : Nat} (h0 : KD[i0]? = some (.inl 10)) (n : Nat) : ∀ (x1 : Int32) (x2 : Int32) (x3 : Int32) (M : Mem), T X eI (X10_winningTake_l2 i0  n x1 x2 x3 M) md_X10_winningTake 2 [(0, .ref i0), (1, .int x1), (2, .int x2), (3, .int x3)] [] M := by
  induction n with
  | zero => intro x1 x2 x3 M; exact T_none
  | succ n ih => intro x1 x2 x3 M; exact t_X10_winningTake_b2 h0 ih x1 x2 x3 M
set_option maxHeartbeats 4000000 in
set_option maxRecDepth 100000 in
theorem t_X10_winningTake {X : Scr} {i0 : Nat} (h0 : KD[i0]? = some (.inl 10)) (x1 : Int32) (x2 : Int32) (M : Mem) : T X eI (X10_winningTake i0  x1 x2 M) md_X10_winningTake 0 [(0, .ref i0), (1, .int x1), (2, .int x2)] [] M := by
  unfold X10_winningTake
  refine T_iconst (v := (0 : Int32)) (by decide) dX10_winningTake_0 ?_
  refine T_istore_n [(3, .int (0 : Int32)), (0, .ref i0), (1, .int x1), (2, .int x2)] dX10_winningTake_1 rfl (by decide) rfl ?_
  refine T_sub [1, 2, 3, 0] (lv' := [(0, .ref i0), (1, .int x1), (2, .int x2), (3, .int (0 : Int32))]) rfl ?_
  exact t_X10_winningTake_l2 h0  _ _ _ _ _
theorem C_X10_winningTake {X : Scr} {i0 : Nat} (h0 : KD[i0]? = some (.inl 10)) (x1 : Int32) (x2 : Int32) {M : Mem} {r : Int32} {M' : Mem} (h : X10_winningTake i0 x1 x2 M = some (r, M')) : Ct X md_X10_winningTake [.ref i0, .int x1, .int x2] M (eI r) M' := Ct_of (by decide +kernel) (Nat.le_of_ble_eq_true rfl) (t_X10_winningTake h0 _ _ M) r M' h
-- X11_isThingSet
def X11_isThingSet   (x0 : Int32) (M : Mem) : Option (Int32 × Mem) :=
  (X11_isWithin  x0 (0 : Int32) (255 : Int32) M).bind (fun p1 =>
    gd (p1.1 == 0 || p1.1 == 1) (some (p1.1, p1.2)))
set_option maxHeartbeats 4000000 in
set_option maxRecDepth 100000 in
theorem t_X11_isThingSet {X : Scr}   (x0 : Int32) (M : Mem) : T X eI (X11_isThingSet   x0 M) md_X11_isThingSet 0 [(0, .int x0)] [] M := by
  unfold X11_isThingSet
  refine T_iload_n 0 dX11_isThingSet_0 rfl rfl ?_
  refine T_iconst (v := (0 : Int32)) (by decide) dX11_isThingSet_1 ?_
  refine T_sipush (v := (255 : Int32)) (by decide) dX11_isThingSet_2 ?_
  refine T_callSI md_X11_isWithin [.int x0, .int (0 : Int32), .int (255 : Int32)] [] dX11_isThingSet_5 rfl ok_X11_isWithin tb_361 tb_362 (by decide) (Nat.le_of_ble_eq_true rfl) (fun _ _ h9 => C_X11_isWithin  _ _ _ h9) (fun r1 M1 => ?_)
  dsimp only
  exact T_zret dX11_isThingSet_8 rfl
theorem C_X11_isThingSet {X : Scr}   (x0 : Int32) {M : Mem} {r : Int32} {M' : Mem} (h : X11_isThingSet  x0 M = some (r, M')) : Ct X md_X11_isThingSet [.int x0] M (eI r) M' := Ct_of (by decide +kernel) (Nat.le_of_ble_eq_true rfl) (t_X11_isThingSet  _ M) r M' h
-- X11_basket
def X11_basket_b26 (i0 : Nat)   (M : Mem) : Option (Int32 × Mem) :=
  some ((-2 : Int32), M)
def X11_basket (i0 : Nat)  (x1 : Int32) (x2 : Int32) (x3 : Int32) (M : Mem) : Option (Int32 × Mem) :=
  (X11_isCabin  x1 M).bind (fun p1 =>
    if p1.1 = 0 then
      some ((-1 : Int32), p1.2)
    else
      (X11_isThingSet  x2 p1.2).bind (fun p2 =>
        if p2.1 = 0 then
          X11_basket_b26 i0   p2.2
        else
          (X11_isWithin  x3 (1 : Int32) (9 : Int32) p2.2).bind (fun p3 =>
            if p3.1 = 0 then
              X11_basket_b26 i0   p3.2
            else
              gd (ib x1 10) (
                gd (ib x1 10) (
                  gd (ib x1 10) (
                    gd (ib x1 10) (
                      some ((((10 : Int32) * (p3.2.1 (rf (rf i0 0) 1) x1.toNatClampNeg)) + (p3.2.1 (rf (rf i0 0) 2) x1.toNatClampNeg)), (mI (mI p3.2 (rf (rf i0 0) 1) x1.toNatClampNeg x2) (rf (rf i0 0) 2) x1.toNatClampNeg x3)))))))))
set_option maxHeartbeats 4000000 in
set_option maxRecDepth 100000 in
theorem t_X11_basket_b26 {X : Scr} {i0 : Nat} (h0 : KD[i0]? = some (.inl 11))  (M : Mem) : T X eI (X11_basket_b26 i0   M) md_X11_basket 26 [] [] M := by
  unfold X11_basket_b26
  refine T_bipush (v := (-2 : Int32)) (by decide) dX11_basket_26 ?_
  exact T_iret dX11_basket_28 rfl
set_option maxHeartbeats 4000000 in
set_option maxRecDepth 100000 in
theorem t_X11_basket {X : Scr} {i0 : Nat} (h0 : KD[i0]? = some (.inl 11)) (x1 : Int32) (x2 : Int32) (x3 : Int32) (M : Mem) : T X eI (X11_basket i0  x1 x2 x3 M) md_X11_basket 0 [(0, .ref i0), (1, .int x1), (2, .int x2), (3, .int x3)] [] M := by
  unfold X11_basket
  refine T_iload_n 1 dX11_basket_0 rfl rfl ?_
  refine T_callSI md_X11_isCabin [.int x1] [] dX11_basket_1 rfl ok_X11_isCabin tb_358 tb_359 (by decide) (Nat.le_of_ble_eq_true rfl) (fun _ _ h9 => C_X11_isCabin  _ h9) (fun r1 M1 => ?_)
  dsimp only
  refine T_if_ne 9 dX11_basket_4 (by decide) ?_ ?_
  ·
    refine T_iconst (v := (-1 : Int32)) (by decide) dX11_basket_7 ?_
    exact T_iret dX11_basket_8 rfl
  ·
    refine T_iload_n 2 dX11_basket_9 rfl rfl ?_
    refine T_callSI md_X11_isThingSet [.int x2] [] dX11_basket_10 rfl ok_X11_isThingSet tb_364 tb_365 (by decide) (Nat.le_of_ble_eq_true rfl) (fun _ _ h9 => C_X11_isThingSet  _ h9) (fun r2 M2 => ?_)
    dsimp only
    refine T_if_eq 26 dX11_basket_13 (by decide) ?_ ?_
    ·
      refine T_sub [] (lv' := []) rfl ?_
      exact t_X11_basket_b26 h0   _
    ·
      refine T_iload_n 3 dX11_basket_16 rfl rfl ?_
      refine T_iconst (v := (1 : Int32)) (by decide) dX11_basket_17 ?_
      refine T_bipush (v := (9 : Int32)) (by decide) dX11_basket_18 ?_
      refine T_callSI md_X11_isWithin [.int x3, .int (1 : Int32), .int (9 : Int32)] [] dX11_basket_20 rfl ok_X11_isWithin tb_361 tb_362 (by decide) (Nat.le_of_ble_eq_true rfl) (fun _ _ h9 => C_X11_isWithin  _ _ _ h9) (fun r3 M3 => ?_)
      dsimp only
      refine T_if_ne 29 dX11_basket_23 (by decide) ?_ ?_
      ·
        refine T_sub [] (lv' := []) rfl ?_
        exact t_X11_basket_b26 h0   _
      ·
        refine T_bipush (v := (10 : Int32)) (by decide) dX11_basket_29 ?_
        refine T_aload_n 0 dX11_basket_31 rfl rfl ?_
        refine T_getR 0 FOk_11 h0 (by decide) (by decide) dX11_basket_32 tb_317 ?_
        refine T_getR 1 FOk_0 (kf_11_0 h0) (by decide) (by decide) dX11_basket_35 tb_79 ?_
        refine T_iload_n 1 dX11_basket_38 rfl rfl ?_
        refine T_iald (kf_0_1 (kf_11_0 h0)) dX11_basket_39 ?_
        refine T_imul dX11_basket_40 ?_
        refine T_aload_n 0 dX11_basket_41 rfl rfl ?_
        refine T_getR 0 FOk_11 h0 (by decide) (by decide) dX11_basket_42 tb_317 ?_
        refine T_getR 2 FOk_0 (kf_11_0 h0) (by decide) (by decide) dX11_basket_45 tb_83 ?_
        refine T_iload_n 1 dX11_basket_48 rfl rfl ?_
        refine T_iald (kf_0_2 (kf_11_0 h0)) dX11_basket_49 ?_
        refine T_iadd dX11_basket_50 ?_
        refine T_istore [(4, .int (((10 : Int32) * (M3.1 (rf (rf i0 0) 1) x1.toNatClampNeg)) + (M3.1 (rf (rf i0 0) 2) x1.toNatClampNeg))), (0, .ref i0), (1, .int x1), (2, .int x2), (3, .int x3)] dX11_basket_51 (by decide) rfl ?_
        refine T_aload_n 1 dX11_basket_53 rfl rfl ?_
        refine T_getR 0 FOk_11 h0 (by decide) (by decide) dX11_basket_54 tb_317 ?_
        refine T_getR 1 FOk_0 (kf_11_0 h0) (by decide) (by decide) dX11_basket_57 tb_79 ?_
        refine T_iload_n 2 dX11_basket_60 rfl rfl ?_
        refine T_iload_n 3 dX11_basket_61 rfl rfl ?_
        refine T_iast (kf_0_1 (kf_11_0 h0)) dX11_basket_62 ?_
        refine T_aload_n 1 dX11_basket_63 rfl rfl ?_
        refine T_getR 0 FOk_11 h0 (by decide) (by decide) dX11_basket_64 tb_317 ?_
        refine T_getR 2 FOk_0 (kf_11_0 h0) (by decide) (by decide) dX11_basket_67 tb_83 ?_
        refine T_iload_n 2 dX11_basket_70 rfl rfl ?_
        refine T_iload_n 4 dX11_basket_71 rfl rfl ?_
        refine T_iast (kf_0_2 (kf_11_0 h0)) dX11_basket_72 ?_
        refine T_iload 0 dX11_basket_73 rfl ?_
        exact T_iret dX11_basket_75 rfl
theorem C_X11_basket {X : Scr} {i0 : Nat} (h0 : KD[i0]? = some (.inl 11)) (x1 : Int32) (x2 : Int32) (x3 : Int32) {M : Mem} {r : Int32} {M' : Mem} (h : X11_basket i0 x1 x2 x3 M = some (r, M')) : Ct X md_X11_basket [.ref i0, .int x1, .int x2, .int x3] M (eI r) M' := Ct_of (by decide +kernel) (Nat.le_of_ble_eq_true rfl) (t_X11_basket h0 _ _ _ M) r M' h
-- X11_right
def X11_right (i0 : Nat)   (M : Mem) : Option (Int32 × Mem) :=
  (X0_strangers (rf i0 0)  M).bind (fun p1 =>
    (X0_putRight (rf i0 0)  p1.2).bind (fun p2 =>
      some (p1.1, p2.2)))
set_option maxHeartbeats 4000000 in
set_option maxRecDepth 100000 in
theorem t_X11_right {X : Scr} {i0 : Nat} (h0 : KD[i0]? = some (.inl 11))  (M : Mem) : T X eI (X11_right i0   M) md_X11_right 0 [(0, .ref i0)] [] M := by
  unfold X11_right
  refine T_aload_n 0 dX11_right_0 rfl rfl ?_
  refine T_getR 0 FOk_11 h0 (by decide) (by decide) dX11_right_1 tb_317 ?_
  refine T_callVI md_X0_strangers [] [] dX11_right_4 (kf_11_0 h0) rfl rfl ok_X0_strangers tb_371 tb_372 tb_373 (by decide) (Nat.le_of_ble_eq_true rfl) (fun _ _ h9 => C_X0_strangers (kf_11_0 h0)  h9) (fun r1 M1 => ?_)
  dsimp only
  refine T_istore_n [(1, .int r1), (0, .ref i0)] dX11_right_7 rfl (by decide) rfl ?_
  refine T_aload_n 1 dX11_right_8 rfl rfl ?_
  refine T_getR 0 FOk_11 h0 (by decide) (by decide) dX11_right_9 tb_317 ?_
  refine T_callVU md_X0_putRight [] [] dX11_right_12 (kf_11_0 h0) rfl rfl ok_X0_putRight tb_375 tb_376 tb_377 (by decide) (Nat.le_of_ble_eq_true rfl) (fun _ _ h9 => C_X0_putRight (kf_11_0 h0)  h9) (fun r2 M2 => ?_)
  dsimp only
  refine T_iload_n 0 dX11_right_15 rfl rfl ?_
  exact T_iret dX11_right_16 rfl
theorem C_X11_right {X : Scr} {i0 : Nat} (h0 : KD[i0]? = some (.inl 11))  {M : Mem} {r : Int32} {M' : Mem} (h : X11_right i0  M = some (r, M')) : Ct X md_X11_right [.ref i0] M (eI r) M' := Ct_of (by decide +kernel) (Nat.le_of_ble_eq_true rfl) (t_X11_right h0  M) r M' h
-- X11_clock
def X11_clock_b20 (i0 : Nat)   (M : Mem) : Option (Int32 × Mem) :=
  some ((-2 : Int32), M)
def X11_clock (i0 : Nat)  (x1 : Int32) (x2 : Int32) (M : Mem) : Option (Int32 × Mem) :=
  (X11_isWithin  x1 (0 : Int32) (99 : Int32) M).bind (fun p1 =>
    if p1.1 = 0 then
      X11_clock_b20 i0   p1.2
    else
      (X11_isWithin  x2 (0 : Int32) (99 : Int32) p1.2).bind (fun p2 =>
        if p2.1 = 0 then
          X11_clock_b20 i0   p2.2
        else
          some ((((100 : Int32) * (p2.2.1 (rf i0 0) 6)) + (p2.2.1 (rf i0 0) 7)), (mI (mI p2.2 (rf i0 0) 6 x1) (rf i0 0) 7 x2))))
set_option maxHeartbeats 4000000 in
set_option maxRecDepth 100000 in
theorem t_X11_clock_b20 {X : Scr} {i0 : Nat} (h0 : KD[i0]? = some (.inl 11))  (M : Mem) : T X eI (X11_clock_b20 i0   M) md_X11_clock 20 [] [] M := by
  unfold X11_clock_b20
  refine T_bipush (v := (-2 : Int32)) (by decide) dX11_clock_20 ?_
  exact T_iret dX11_clock_22 rfl
set_option maxHeartbeats 4000000 in
set_option maxRecDepth 100000 in
theorem t_X11_clock {X : Scr} {i0 : Nat} (h0 : KD[i0]? = some (.inl 11)) (x1 : Int32) (x2 : Int32) (M : Mem) : T X eI (X11_clock i0  x1 x2 M) md_X11_clock 0 [(0, .ref i0), (1, .int x1), (2, .int x2)] [] M := by
  unfold X11_clock
  refine T_iload_n 1 dX11_clock_0 rfl rfl ?_
  refine T_iconst (v := (0 : Int32)) (by decide) dX11_clock_1 ?_
  refine T_bipush (v := (99 : Int32)) (by decide) dX11_clock_2 ?_
  refine T_callSI md_X11_isWithin [.int x1, .int (0 : Int32), .int (99 : Int32)] [] dX11_clock_4 rfl ok_X11_isWithin tb_361 tb_362 (by decide) (Nat.le_of_ble_eq_true rfl) (fun _ _ h9 => C_X11_isWithin  _ _ _ h9) (fun r1 M1 => ?_)
  dsimp only
  refine T_if_eq 20 dX11_clock_7 (by decide) ?_ ?_
  ·
    refine T_sub [] (lv' := []) rfl ?_
    exact t_X11_clock_b20 h0   _
  ·
    refine T_iload_n 2 dX11_clock_10 rfl rfl ?_
    refine T_iconst (v := (0 : Int32)) (by decide) dX11_clock_11 ?_
    refine T_bipush (v := (99 : Int32)) (by decide) dX11_clock_12 ?_
    refine T_callSI md_X11_isWithin [.int x2, .int (0 : Int32), .int (99 : Int32)] [] dX11_clock_14 rfl ok_X11_isWithin tb_361 tb_362 (by decide) (Nat.le_of_ble_eq_true rfl) (fun _ _ h9 => C_X11_isWithin  _ _ _ h9) (fun r2 M2 => ?_)
    dsimp only
    refine T_if_ne 23 dX11_clock_17 (by decide) ?_ ?_
    ·
      refine T_sub [] (lv' := []) rfl ?_
      exact t_X11_clock_b20 h0   _
    ·
      refine T_bipush (v := (100 : Int32)) (by decide) dX11_clock_23 ?_
      refine T_aload_n 0 dX11_clock_25 rfl rfl ?_
      refine T_getR 0 FOk_11 h0 (by decide) (by decide) dX11_clock_26 tb_317 ?_
      refine T_getI 6 FOk_0 (kf_11_0 h0) (by decide) (by decide) dX11_clock_29 tb_96 ?_
      refine T_imul dX11_clock_32 ?_
      refine T_aload_n 0 dX11_clock_33 rfl rfl ?_
      refine T_getR 0 FOk_11 h0 (by decide) (by decide) dX11_clock_34 tb_317 ?_
      refine T_getI 7 FOk_0 (kf_11_0 h0) (by decide) (by decide) dX11_clock_37 tb_99 ?_
      refine T_iadd dX11_clock_40 ?_
      refine T_istore_n [(3, .int (((100 : Int32) * (M2.1 (rf i0 0) 6)) + (M2.1 (rf i0 0) 7))), (0, .ref i0), (1, .int x1), (2, .int x2)] dX11_clock_41 rfl (by decide) rfl ?_
      refine T_aload_n 1 dX11_clock_42 rfl rfl ?_
      refine T_getR 0 FOk_11 h0 (by decide) (by decide) dX11_clock_43 tb_317 ?_
      refine T_iload_n 2 dX11_clock_46 rfl rfl ?_
      refine T_putI (ty := .int) 6 FOk_0 (kf_11_0 h0) (by decide) (by decide) rfl (by decide +kernel) rfl rfl dX11_clock_47 tb_96 ?_
      refine T_aload_n 1 dX11_clock_50 rfl rfl ?_
      refine T_getR 0 FOk_11 h0 (by decide) (by decide) dX11_clock_51 tb_317 ?_
      refine T_iload_n 3 dX11_clock_54 rfl rfl ?_
      refine T_putI (ty := .int) 7 FOk_0 (kf_11_0 h0) (by decide) (by decide) rfl (by decide +kernel) rfl rfl dX11_clock_55 tb_99 ?_
      refine T_iload_n 0 dX11_clock_58 rfl rfl ?_
      exact T_iret dX11_clock_59 rfl
theorem C_X11_clock {X : Scr} {i0 : Nat} (h0 : KD[i0]? = some (.inl 11)) (x1 : Int32) (x2 : Int32) {M : Mem} {r : Int32} {M' : Mem} (h : X11_clock i0 x1 x2 M = some (r, M')) : Ct X md_X11_clock [.ref i0, .int x1, .int x2] M (eI r) M' := Ct_of (by decide +kernel) (Nat.le_of_ble_eq_true rfl) (t_X11_clock h0 _ _ M) r M' h
-- X11_attendant
def X11_attendant_b23 (i0 : Nat)   (M : Mem) : Option (Int32 × Mem) :=
  some ((-2 : Int32), M)
def X11_attendant (i0 : Nat)  (x1 : Int32) (x2 : Int32) (x3 : Int32) (M : Mem) : Option (Int32 × Mem) :=
  (X11_isCabin  x1 M).bind (fun p1 =>
    if p1.1 = 0 then
      some ((-1 : Int32), p1.2)
    else
      (X11_isThingSet  x2 p1.2).bind (fun p2 =>
        if p2.1 = 0 then
          X11_attendant_b23 i0   p2.2
        else
          (X11_isThingSet  x3 p2.2).bind (fun p3 =>
            if p3.1 = 0 then
              X11_attendant_b23 i0   p3.2
            else
              mw (mI p3.2 (rf i0 0) 3 x1) (fun N4 =>
                mw (mI N4 (rf i0 0) 4 x2) (fun N5 =>
                  mw (mI N5 (rf i0 0) 5 x3) (fun N6 =>
                    some ((p3.2.1 (rf i0 0) 3), N6)))))))
set_option maxHeartbeats 4000000 in
set_option maxRecDepth 100000 in
theorem t_X11_attendant_b23 {X : Scr} {i0 : Nat} (h0 : KD[i0]? = some (.inl 11))  (M : Mem) : T X eI (X11_attendant_b23 i0   M) md_X11_attendant 23 [] [] M := by
  unfold X11_attendant_b23
  refine T_bipush (v := (-2 : Int32)) (by decide) dX11_attendant_23 ?_
  exact T_iret dX11_attendant_25 rfl
set_option maxHeartbeats 4000000 in
set_option maxRecDepth 100000 in
theorem t_X11_attendant {X : Scr} {i0 : Nat} (h0 : KD[i0]? = some (.inl 11)) (x1 : Int32) (x2 : Int32) (x3 : Int32) (M : Mem) : T X eI (X11_attendant i0  x1 x2 x3 M) md_X11_attendant 0 [(0, .ref i0), (1, .int x1), (2, .int x2), (3, .int x3)] [] M := by
  unfold X11_attendant
  refine T_iload_n 1 dX11_attendant_0 rfl rfl ?_
  refine T_callSI md_X11_isCabin [.int x1] [] dX11_attendant_1 rfl ok_X11_isCabin tb_358 tb_359 (by decide) (Nat.le_of_ble_eq_true rfl) (fun _ _ h9 => C_X11_isCabin  _ h9) (fun r1 M1 => ?_)
  dsimp only
  refine T_if_ne 9 dX11_attendant_4 (by decide) ?_ ?_
  ·
    refine T_iconst (v := (-1 : Int32)) (by decide) dX11_attendant_7 ?_
    exact T_iret dX11_attendant_8 rfl
  ·
    refine T_iload_n 2 dX11_attendant_9 rfl rfl ?_
    refine T_callSI md_X11_isThingSet [.int x2] [] dX11_attendant_10 rfl ok_X11_isThingSet tb_364 tb_365 (by decide) (Nat.le_of_ble_eq_true rfl) (fun _ _ h9 => C_X11_isThingSet  _ h9) (fun r2 M2 => ?_)
    dsimp only
    refine T_if_eq 23 dX11_attendant_13 (by decide) ?_ ?_
    ·
      refine T_sub [] (lv' := []) rfl ?_
      exact t_X11_attendant_b23 h0   _
    ·
      refine T_iload_n 3 dX11_attendant_16 rfl rfl ?_
      refine T_callSI md_X11_isThingSet [.int x3] [] dX11_attendant_17 rfl ok_X11_isThingSet tb_364 tb_365 (by decide) (Nat.le_of_ble_eq_true rfl) (fun _ _ h9 => C_X11_isThingSet  _ h9) (fun r3 M3 => ?_)
      dsimp only
      refine T_if_ne 26 dX11_attendant_20 (by decide) ?_ ?_
      ·
        refine T_sub [] (lv' := []) rfl ?_
        exact t_X11_attendant_b23 h0   _
      ·
        refine T_aload_n 0 dX11_attendant_26 rfl rfl ?_
        refine T_getR 0 FOk_11 h0 (by decide) (by decide) dX11_attendant_27 tb_317 ?_
        refine T_getI 3 FOk_0 (kf_11_0 h0) (by decide) (by decide) dX11_attendant_30 tb_88 ?_
        refine T_istore [(4, .int (M3.1 (rf i0 0) 3)), (0, .ref i0), (1, .int x1), (2, .int x2), (3, .int x3)] dX11_attendant_33 (by decide) rfl ?_
        refine T_aload_n 1 dX11_attendant_35 rfl rfl ?_
        refine T_getR 0 FOk_11 h0 (by decide) (by decide) dX11_attendant_36 tb_317 ?_
        refine T_iload_n 2 dX11_attendant_39 rfl rfl ?_
        refine T_putI (ty := .int) 3 FOk_0 (kf_11_0 h0) (by decide) (by decide) rfl (by decide +kernel) rfl rfl dX11_attendant_40 tb_88 ?_
        refine T_mw (fun N4 => ?_)
        try dsimp only
        refine T_aload_n 1 dX11_attendant_43 rfl rfl ?_
        refine T_getR 0 FOk_11 h0 (by decide) (by decide) dX11_attendant_44 tb_317 ?_
        refine T_iload_n 3 dX11_attendant_47 rfl rfl ?_
        refine T_putI (ty := .int) 4 FOk_0 (kf_11_0 h0) (by decide) (by decide) rfl (by decide +kernel) rfl rfl dX11_attendant_48 tb_90 ?_
        refine T_mw (fun N5 => ?_)
        try dsimp only
        refine T_aload_n 1 dX11_attendant_51 rfl rfl ?_
        refine T_getR 0 FOk_11 h0 (by decide) (by decide) dX11_attendant_52 tb_317 ?_
        refine T_iload_n 4 dX11_attendant_55 rfl rfl ?_
        refine T_putI (ty := .int) 5 FOk_0 (kf_11_0 h0) (by decide) (by decide) rfl (by decide +kernel) rfl rfl dX11_attendant_56 tb_93 ?_
        refine T_mw (fun N6 => ?_)
        try dsimp only
        refine T_iload 0 dX11_attendant_59 rfl ?_
        exact T_iret dX11_attendant_61 rfl
theorem C_X11_attendant {X : Scr} {i0 : Nat} (h0 : KD[i0]? = some (.inl 11)) (x1 : Int32) (x2 : Int32) (x3 : Int32) {M : Mem} {r : Int32} {M' : Mem} (h : X11_attendant i0 x1 x2 x3 M = some (r, M')) : Ct X md_X11_attendant [.ref i0, .int x1, .int x2, .int x3] M (eI r) M' := Ct_of (by decide +kernel) (Nat.le_of_ble_eq_true rfl) (t_X11_attendant h0 _ _ _ M) r M' h
-- X11_say
def X11_say_b37 (i0 : Nat)  (s0 : Int32) (M : Mem) : Option (Int32 × Mem) :=
  some (s0, M)
def X11_say (i0 : Nat)  (x1 : Int32) (M : Mem) : Option (Int32 × Mem) :=
  (X11_isWithin  x1 (33 : Int32) (126 : Int32) M).bind (fun p1 =>
    if p1.1 = 0 then
      some ((-2 : Int32), p1.2)
    else
      (X8_write (rf i0 2) x1 p1.2).bind (fun p2 =>
        if p2.1 = 0 then
          X11_say_b37 i0  (-4 : Int32) p2.2
        else
          X11_say_b37 i0  (p2.2.1 (rf i0 2) 1) p2.2))
set_option maxHeartbeats 4000000 in
set_option maxRecDepth 100000 in
theorem t_X11_say_b37 {X : Scr} {i0 : Nat} (h0 : KD[i0]? = some (.inl 11)) (s0 : Int32) (M : Mem) : T X eI (X11_say_b37 i0  s0 M) md_X11_say 37 [] [.int s0] M := by
  unfold X11_say_b37
  exact T_iret dX11_say_37 rfl
set_option maxHeartbeats 4000000 in
set_option maxRecDepth 100000 in
theorem t_X11_say {X : Scr} {i0 : Nat} (h0 : KD[i0]? = some (.inl 11)) (x1 : Int32) (M : Mem) : T X eI (X11_say i0  x1 M) md_X11_say 0 [(0, .ref i0), (1, .int x1)] [] M := by
  unfold X11_say
  refine T_iload_n 1 dX11_say_0 rfl rfl ?_
  refine T_bipush (v := (33 : Int32)) (by decide) dX11_say_1 ?_
  refine T_bipush (v := (126 : Int32)) (by decide) dX11_say_3 ?_
  refine T_callSI md_X11_isWithin [.int x1, .int (33 : Int32), .int (126 : Int32)] [] dX11_say_5 rfl ok_X11_isWithin tb_361 tb_362 (by decide) (Nat.le_of_ble_eq_true rfl) (fun _ _ h9 => C_X11_isWithin  _ _ _ h9) (fun r1 M1 => ?_)
  dsimp only
  refine T_if_ne 14 dX11_say_8 (by decide) ?_ ?_
  ·
    refine T_bipush (v := (-2 : Int32)) (by decide) dX11_say_11 ?_
    exact T_iret dX11_say_13 rfl
  ·
    refine T_aload_n 0 dX11_say_14 rfl rfl ?_
    refine T_getR 2 FOk_11 h0 (by decide) (by decide) dX11_say_15 tb_319 ?_
    refine T_iload_n 1 dX11_say_18 rfl rfl ?_
    refine T_callVI md_X8_write [.int x1] [] dX11_say_19 (kf_11_2 h0) rfl rfl ok_X8_write tb_391 tb_392 tb_393 (by decide) (Nat.le_of_ble_eq_true rfl) (fun _ _ h9 => C_X8_write (kf_11_2 h0) _ h9) (fun r2 M2 => ?_)
    dsimp only
    refine T_if_eq 35 dX11_say_22 (by decide) ?_ ?_
    ·
      refine T_bipush (v := (-4 : Int32)) (by decide) dX11_say_35 ?_
      refine T_sub [] (lv' := []) rfl ?_
      exact t_X11_say_b37 h0  _ _
    ·
      refine T_aload_n 0 dX11_say_25 rfl rfl ?_
      refine T_getR 2 FOk_11 h0 (by decide) (by decide) dX11_say_26 tb_319 ?_
      refine T_getI 1 FOk_8 (kf_11_2 h0) (by decide) (by decide) dX11_say_29 tb_147 ?_
      refine T_goto 37 dX11_say_32 (by decide) ?_
      refine T_sub [] (lv' := []) rfl ?_
      exact t_X11_say_b37 h0  _ _
theorem C_X11_say {X : Scr} {i0 : Nat} (h0 : KD[i0]? = some (.inl 11)) (x1 : Int32) {M : Mem} {r : Int32} {M' : Mem} (h : X11_say i0 x1 M = some (r, M')) : Ct X md_X11_say [.ref i0, .int x1] M (eI r) M' := Ct_of (by decide +kernel) (Nat.le_of_ble_eq_true rfl) (t_X11_say h0 _ M) r M' h
-- X11_wipe
def X11_wipe (i0 : Nat)   (M : Mem) : Option (Int32 × Mem) :=
  some ((M.1 (rf i0 2) 1), (mI M (rf i0 2) 1 (0 : Int32)))
set_option maxHeartbeats 4000000 in
set_option maxRecDepth 100000 in
theorem t_X11_wipe {X : Scr} {i0 : Nat} (h0 : KD[i0]? = some (.inl 11))  (M : Mem) : T X eI (X11_wipe i0   M) md_X11_wipe 0 [(0, .ref i0)] [] M := by
  unfold X11_wipe
  refine T_aload_n 0 dX11_wipe_0 rfl rfl ?_
  refine T_getR 2 FOk_11 h0 (by decide) (by decide) dX11_wipe_1 tb_319 ?_
  refine T_getI 1 FOk_8 (kf_11_2 h0) (by decide) (by decide) dX11_wipe_4 tb_147 ?_
  refine T_istore_n [(1, .int (M.1 (rf i0 2) 1)), (0, .ref i0)] dX11_wipe_7 rfl (by decide) rfl ?_
  refine T_aload_n 1 dX11_wipe_8 rfl rfl ?_
  refine T_getR 2 FOk_11 h0 (by decide) (by decide) dX11_wipe_9 tb_319 ?_
  refine T_iconst (v := (0 : Int32)) (by decide) dX11_wipe_12 ?_
  refine T_putI (ty := .int) 1 FOk_8 (kf_11_2 h0) (by decide) (by decide) rfl (by decide +kernel) rfl rfl dX11_wipe_13 tb_147 ?_
  refine T_iload_n 0 dX11_wipe_16 rfl rfl ?_
  exact T_iret dX11_wipe_17 rfl
theorem C_X11_wipe {X : Scr} {i0 : Nat} (h0 : KD[i0]? = some (.inl 11))  {M : Mem} {r : Int32} {M' : Mem} (h : X11_wipe i0  M = some (r, M')) : Ct X md_X11_wipe [.ref i0] M (eI r) M' := Ct_of (by decide +kernel) (Nat.le_of_ble_eq_true rfl) (t_X11_wipe h0  M) r M' h
-- X11_fault
def X11_fault (i0 : Nat)   (M : Mem) : Option (Int32 × Mem) :=
  (X8_faultPlace (rf i0 2)  M).bind (fun p1 =>
    some (p1.1, p1.2))
set_option maxHeartbeats 4000000 in
set_option maxRecDepth 100000 in
theorem t_X11_fault {X : Scr} {i0 : Nat} (h0 : KD[i0]? = some (.inl 11))  (M : Mem) : T X eI (X11_fault i0   M) md_X11_fault 0 [(0, .ref i0)] [] M := by
  unfold X11_fault
  refine T_aload_n 0 dX11_fault_0 rfl rfl ?_
  refine T_getR 2 FOk_11 h0 (by decide) (by decide) dX11_fault_1 tb_319 ?_
  refine T_callVI md_X8_faultPlace [] [] dX11_fault_4 (kf_11_2 h0) rfl rfl ok_X8_faultPlace tb_403 tb_404 tb_405 (by decide) (Nat.le_of_ble_eq_true rfl) (fun _ _ h9 => C_X8_faultPlace (kf_11_2 h0)  h9) (fun r1 M1 => ?_)
  dsimp only
  exact T_iret dX11_fault_7 rfl
theorem C_X11_fault {X : Scr} {i0 : Nat} (h0 : KD[i0]? = some (.inl 11))  {M : Mem} {r : Int32} {M' : Mem} (h : X11_fault i0  M = some (r, M')) : Ct X md_X11_fault [.ref i0] M (eI r) M' := Ct_of (by decide +kernel) (Nat.le_of_ble_eq_true rfl) (t_X11_fault h0  M) r M' h
