-- X10_winningTake
def X10_winningTake_b80 (i0 : Nat)  (x3 : Int32) (x4 : Int32) (M : Mem) : Option (Int32 × Mem) :=
  some ((((100 : Int32) * x3) + x4), M)
def X10_winningTake_b88 (i0 : Nat) (k2 : Int32 → Int32 → Int32 → Mem → Option (Int32 × Mem)) (x1 : Int32) (x2 : Int32) (x3 : Int32) (M : Mem) : Option (Int32 × Mem) :=
  k2 x1 x2 (x3 + (1 : Int32)) M
def X10_winningTake_b63 (i0 : Nat) (k2 : Int32 → Int32 → Int32 → Mem → Option (Int32 × Mem)) (x1 : Int32) (x2 : Int32) (x3 : Int32) (x4 : Int32) (x5 : Int32) (s0 : Int32) (M : Mem) : Option (Int32 × Mem) :=
  if x4 < 0 then
    X10_winningTake_b88 i0 k2 x1 x2 x3 M
  else
    if x5 = 0 then
      if s0 = 0 then
        X10_winningTake_b88 i0 k2 x1 x2 x3 M
      else
        X10_winningTake_b80 i0  x3 x4 M
    else
      X10_winningTake_b80 i0  x3 x4 M
def X10_winningTake_b62 (i0 : Nat) (k2 : Int32 → Int32 → Int32 → Mem → Option (Int32 × Mem)) (x1 : Int32) (x2 : Int32) (x3 : Int32) (x4 : Int32) (x5 : Int32) (M : Mem) : Option (Int32 × Mem) :=
  X10_winningTake_b63 i0 k2 x1 x2 x3 x4 x5 (0 : Int32) M
def X10_winningTake_b46 (i0 : Nat) (k2 : Int32 → Int32 → Int32 → Mem → Option (Int32 × Mem)) (x1 : Int32) (x2 : Int32) (x3 : Int32) (x4 : Int32) (s0 : Int32) (M : Mem) : Option (Int32 × Mem) :=
  if x3 = x4 then
    if x3 ≤ 0 then
      X10_winningTake_b62 i0 k2 x1 x2 x3 x4 s0 M
    else
      X10_winningTake_b63 i0 k2 x1 x2 x3 x4 s0 (1 : Int32) M
  else
    X10_winningTake_b62 i0 k2 x1 x2 x3 x4 s0 M
def X10_winningTake_b38 (i0 : Nat) (k2 : Int32 → Int32 → Int32 → Mem → Option (Int32 × Mem)) (x1 : Int32) (x2 : Int32) (x3 : Int32) (x4 : Int32) (s0 : Int32) (s1 : Int32) (M : Mem) : Option (Int32 × Mem) :=
  if s1 = s0 then
    X10_winningTake_b46 i0 k2 x1 x2 x3 x4 (0 : Int32) M
  else
    X10_winningTake_b46 i0 k2 x1 x2 x3 x4 (1 : Int32) M
def X10_winningTake_b28 (i0 : Nat) (k2 : Int32 → Int32 → Int32 → Mem → Option (Int32 × Mem)) (x1 : Int32) (x2 : Int32) (x3 : Int32) (x4 : Int32) (s0 : Int32) (M : Mem) : Option (Int32 × Mem) :=
  if x4 = 0 then
    X10_winningTake_b38 i0 k2 x1 x2 x3 x4 (1 : Int32) s0 M
  else
    X10_winningTake_b38 i0 k2 x1 x2 x3 x4 (0 : Int32) s0 M
def X10_winningTake_b2 (i0 : Nat) (k2 : Int32 → Int32 → Int32 → Mem → Option (Int32 × Mem)) (x1 : Int32) (x2 : Int32) (x3 : Int32) (M : Mem) : Option (Int32 × Mem) :=
  if x1 < x3 then
    some ((-6 : Int32), M)
  else
    gd (ib (x1 - x3) 21) (
      iw (x2 - (M.1 (rf i0 0) (x1 - x3).toNatClampNeg)) (fun v1 =>
        if x3 = 0 then
          X10_winningTake_b28 i0 k2 x1 x2 x3 v1 (1 : Int32) M
        else
          X10_winningTake_b28 i0 k2 x1 x2 x3 v1 (0 : Int32) M))
def X10_winningTake_l2 (i0 : Nat)  : Nat → Int32 → Int32 → Int32 → Mem → Option (Int32 × Mem)
  | 0 => fun _ _ _ _ => none
  | n + 1 => X10_winningTake_b2 i0 (X10_winningTake_l2 i0  n)
def X10_winningTake (i0 : Nat)  (x1 : Int32) (x2 : Int32) (M : Mem) : Option (Int32 × Mem) :=
  X10_winningTake_l2 i0  FU x1 x2 (0 : Int32) M
set_option maxHeartbeats 4000000 in
set_option maxRecDepth 100000 in
theorem t_X10_winningTake_b80 {X : Scr} {i0 : Nat} (h0 : KD[i0]? = some (.inl 10)) (x3 : Int32) (x4 : Int32) (M : Mem) : T X eI (X10_winningTake_b80 i0  x3 x4 M) md_X10_winningTake 80 [(3, .int x3), (4, .int x4)] [] M := by
  unfold X10_winningTake_b80
  refine T_bipush (v := (100 : Int32)) (by decide) dX10_winningTake_80 ?_
  refine T_iload_n 0 dX10_winningTake_82 rfl rfl ?_
  refine T_imul dX10_winningTake_83 ?_
  refine T_iload 1 dX10_winningTake_84 rfl ?_
  refine T_iadd dX10_winningTake_86 ?_
  exact T_iret dX10_winningTake_87 rfl
set_option maxHeartbeats 4000000 in
set_option maxRecDepth 100000 in
theorem t_X10_winningTake_b88 {X : Scr} {i0 : Nat} (h0 : KD[i0]? = some (.inl 10)) {k2 : Int32 → Int32 → Int32 → Mem → Option (Int32 × Mem)} (hk2 : ∀ (x1 : Int32) (x2 : Int32) (x3 : Int32) (M : Mem), T X eI (k2 x1 x2 x3 M) md_X10_winningTake 2 [(0, .ref i0), (1, .int x1), (2, .int x2), (3, .int x3)] [] M) (x1 : Int32) (x2 : Int32) (x3 : Int32) (M : Mem) : T X eI (X10_winningTake_b88 i0 k2 x1 x2 x3 M) md_X10_winningTake 88 [(0, .ref i0), (1, .int x1), (2, .int x2), (3, .int x3)] [] M := by
  unfold X10_winningTake_b88
  refine T_iinc 3 [(3, .int (x3 + (1 : Int32))), (0, .ref i0), (1, .int x1), (2, .int x2)] (v := (1 : Int32)) dX10_winningTake_88 rfl (by decide) (by decide) rfl ?_
  refine T_goto 2 dX10_winningTake_91 (by decide) ?_
  refine T_sub [1, 2, 3, 0] (lv' := [(0, .ref i0), (1, .int x1), (2, .int x2), (3, .int (x3 + (1 : Int32)))]) rfl ?_
  exact hk2 _ _ _ _
set_option maxHeartbeats 4000000 in
set_option maxRecDepth 100000 in
theorem t_X10_winningTake_b63 {X : Scr} {i0 : Nat} (h0 : KD[i0]? = some (.inl 10)) {k2 : Int32 → Int32 → Int32 → Mem → Option (Int32 × Mem)} (hk2 : ∀ (x1 : Int32) (x2 : Int32) (x3 : Int32) (M : Mem), T X eI (k2 x1 x2 x3 M) md_X10_winningTake 2 [(0, .ref i0), (1, .int x1), (2, .int x2), (3, .int x3)] [] M) (x1 : Int32) (x2 : Int32) (x3 : Int32) (x4 : Int32) (x5 : Int32) (s0 : Int32) (M : Mem) : T X eI (X10_winningTake_b63 i0 k2 x1 x2 x3 x4 x5 s0 M) md_X10_winningTake 63 [(0, .ref i0), (1, .int x1), (2, .int x2), (3, .int x3), (4, .int x4), (5, .int x5)] [.int s0] M := by
  unfold X10_winningTake_b63
  refine T_istore [(6, .int s0), (0, .ref i0), (1, .int x1), (2, .int x2), (3, .int x3), (4, .int x4), (5, .int x5)] dX10_winningTake_63 (by decide) rfl ?_
  refine T_iload 5 dX10_winningTake_65 rfl ?_
  refine T_if_lt 88 dX10_winningTake_67 (by decide) ?_ ?_
  ·
    refine T_sub [1, 2, 3, 4] (lv' := [(0, .ref i0), (1, .int x1), (2, .int x2), (3, .int x3)]) rfl ?_
    exact t_X10_winningTake_b88 h0 hk2 _ _ _ _
  ·
    refine T_iload 6 dX10_winningTake_70 rfl ?_
    refine T_if_ne 80 dX10_winningTake_72 (by decide) ?_ ?_
    ·
      refine T_iload 0 dX10_winningTake_75 rfl ?_
      refine T_if_eq 88 dX10_winningTake_77 (by decide) ?_ ?_
      ·
        refine T_sub [1, 2, 3, 4] (lv' := [(0, .ref i0), (1, .int x1), (2, .int x2), (3, .int x3)]) rfl ?_
        exact t_X10_winningTake_b88 h0 hk2 _ _ _ _
      ·
        refine T_sub [4, 5] (lv' := [(3, .int x3), (4, .int x4)]) rfl ?_
        exact t_X10_winningTake_b80 h0  _ _ _
    ·
      refine T_sub [4, 5] (lv' := [(3, .int x3), (4, .int x4)]) rfl ?_
      exact t_X10_winningTake_b80 h0  _ _ _
set_option maxHeartbeats 4000000 in
set_option maxRecDepth 100000 in
theorem t_X10_winningTake_b62 {X : Scr} {i0 : Nat} (h0 : KD[i0]? = some (.inl 10)) {k2 : Int32 → Int32 → Int32 → Mem → Option (Int32 × Mem)} (hk2 : ∀ (x1 : Int32) (x2 : Int32) (x3 : Int32) (M : Mem), T X eI (k2 x1 x2 x3 M) md_X10_winningTake 2 [(0, .ref i0), (1, .int x1), (2, .int x2), (3, .int x3)] [] M) (x1 : Int32) (x2 : Int32) (x3 : Int32) (x4 : Int32) (x5 : Int32) (M : Mem) : T X eI (X10_winningTake_b62 i0 k2 x1 x2 x3 x4 x5 M) md_X10_winningTake 62 [(0, .ref i0), (1, .int x1), (2, .int x2), (3, .int x3), (4, .int x4), (5, .int x5)] [] M := by
  unfold X10_winningTake_b62
  refine T_iconst (v := (0 : Int32)) (by decide) dX10_winningTake_62 ?_
  exact t_X10_winningTake_b63 h0 hk2 _ _ _ _ _ _ _
set_option maxHeartbeats 4000000 in
set_option maxRecDepth 100000 in
theorem t_X10_winningTake_b46 {X : Scr} {i0 : Nat} (h0 : KD[i0]? = some (.inl 10)) {k2 : Int32 → Int32 → Int32 → Mem → Option (Int32 × Mem)} (hk2 : ∀ (x1 : Int32) (x2 : Int32) (x3 : Int32) (M : Mem), T X eI (k2 x1 x2 x3 M) md_X10_winningTake 2 [(0, .ref i0), (1, .int x1), (2, .int x2), (3, .int x3)] [] M) (x1 : Int32) (x2 : Int32) (x3 : Int32) (x4 : Int32) (s0 : Int32) (M : Mem) : T X eI (X10_winningTake_b46 i0 k2 x1 x2 x3 x4 s0 M) md_X10_winningTake 46 [(0, .ref i0), (1, .int x1), (2, .int x2), (3, .int x3), (4, .int x4)] [.int s0] M := by
  unfold X10_winningTake_b46
  refine T_istore [(5, .int s0), (0, .ref i0), (1, .int x1), (2, .int x2), (3, .int x3), (4, .int x4)] dX10_winningTake_46 (by decide) rfl ?_
  refine T_iload_n 4 dX10_winningTake_48 rfl rfl ?_
  refine T_iload 5 dX10_winningTake_49 rfl ?_
  refine T_icmp_ne 62 dX10_winningTake_51 (by decide) ?_ ?_
  ·
    refine T_iload_n 4 dX10_winningTake_54 rfl rfl ?_
    refine T_if_le 62 dX10_winningTake_55 (by decide) ?_ ?_
    ·
      refine T_sub [1, 2, 3, 4, 5, 0] (lv' := [(0, .ref i0), (1, .int x1), (2, .int x2), (3, .int x3), (4, .int x4), (5, .int s0)]) rfl ?_
      exact t_X10_winningTake_b62 h0 hk2 _ _ _ _ _ _
    ·
      refine T_iconst (v := (1 : Int32)) (by decide) dX10_winningTake_58 ?_
      refine T_goto 63 dX10_winningTake_59 (by decide) ?_
      refine T_sub [1, 2, 3, 4, 5, 0] (lv' := [(0, .ref i0), (1, .int x1), (2, .int x2), (3, .int x3), (4, .int x4), (5, .int s0)]) rfl ?_
      exact t_X10_winningTake_b63 h0 hk2 _ _ _ _ _ _ _
  ·
    refine T_sub [1, 2, 3, 4, 5, 0] (lv' := [(0, .ref i0), (1, .int x1), (2, .int x2), (3, .int x3), (4, .int x4), (5, .int s0)]) rfl ?_
    exact t_X10_winningTake_b62 h0 hk2 _ _ _ _ _ _
set_option maxHeartbeats 4000000 in
set_option maxRecDepth 100000 in
theorem t_X10_winningTake_b38 {X : Scr} {i0 : Nat} (h0 : KD[i0]? = some (.inl 10)) {k2 : Int32 → Int32 → Int32 → Mem → Option (Int32 × Mem)} (hk2 : ∀ (x1 : Int32) (x2 : Int32) (x3 : Int32) (M : Mem), T X eI (k2 x1 x2 x3 M) md_X10_winningTake 2 [(0, .ref i0), (1, .int x1), (2, .int x2), (3, .int x3)] [] M) (x1 : Int32) (x2 : Int32) (x3 : Int32) (x4 : Int32) (s0 : Int32) (s1 : Int32) (M : Mem) : T X eI (X10_winningTake_b38 i0 k2 x1 x2 x3 x4 s0 s1 M) md_X10_winningTake 38 [(0, .ref i0), (1, .int x1), (2, .int x2), (3, .int x3), (4, .int x4)] [.int s0, .int s1] M := by
  unfold X10_winningTake_b38
  refine T_icmp_eq 45 dX10_winningTake_38 (by decide) ?_ ?_
  ·
    refine T_iconst (v := (0 : Int32)) (by decide) dX10_winningTake_45 ?_
    exact t_X10_winningTake_b46 h0 hk2 _ _ _ _ _ _
  ·
    refine T_iconst (v := (1 : Int32)) (by decide) dX10_winningTake_41 ?_
    refine T_goto 46 dX10_winningTake_42 (by decide) ?_
    exact t_X10_winningTake_b46 h0 hk2 _ _ _ _ _ _
set_option maxHeartbeats 4000000 in
set_option maxRecDepth 100000 in
theorem t_X10_winningTake_b28 {X : Scr} {i0 : Nat} (h0 : KD[i0]? = some (.inl 10)) {k2 : Int32 → Int32 → Int32 → Mem → Option (Int32 × Mem)} (hk2 : ∀ (x1 : Int32) (x2 : Int32) (x3 : Int32) (M : Mem), T X eI (k2 x1 x2 x3 M) md_X10_winningTake 2 [(0, .ref i0), (1, .int x1), (2, .int x2), (3, .int x3)] [] M) (x1 : Int32) (x2 : Int32) (x3 : Int32) (x4 : Int32) (s0 : Int32) (M : Mem) : T X eI (X10_winningTake_b28 i0 k2 x1 x2 x3 x4 s0 M) md_X10_winningTake 28 [(0, .ref i0), (1, .int x1), (2, .int x2), (3, .int x3), (4, .int x4)] [.int s0] M := by
  unfold X10_winningTake_b28
  refine T_iload 4 dX10_winningTake_28 rfl ?_
  refine T_if_ne 37 dX10_winningTake_30 (by decide) ?_ ?_
  ·
    refine T_iconst (v := (1 : Int32)) (by decide) dX10_winningTake_33 ?_
    refine T_goto 38 dX10_winningTake_34 (by decide) ?_
    exact t_X10_winningTake_b38 h0 hk2 _ _ _ _ _ _ _
  ·
    refine T_iconst (v := (0 : Int32)) (by decide) dX10_winningTake_37 ?_
    exact t_X10_winningTake_b38 h0 hk2 _ _ _ _ _ _ _
set_option maxHeartbeats 4000000 in
set_option maxRecDepth 100000 in
theorem t_X10_winningTake_b2 {X : Scr} {i0 : Nat} (h0 : KD[i0]? = some (.inl 10)) {k2 : Int32 → Int32 → Int32 → Mem → Option (Int32 × Mem)} (hk2 : ∀ (x1 : Int32) (x2 : Int32) (x3 : Int32) (M : Mem), T X eI (k2 x1 x2 x3 M) md_X10_winningTake 2 [(0, .ref i0), (1, .int x1), (2, .int x2), (3, .int x3)] [] M) (x1 : Int32) (x2 : Int32) (x3 : Int32) (M : Mem) : T X eI (X10_winningTake_b2 i0 k2 x1 x2 x3 M) md_X10_winningTake 2 [(0, .ref i0), (1, .int x1), (2, .int x2), (3, .int x3)] [] M := by
  unfold X10_winningTake_b2
  refine T_iload_n 3 dX10_winningTake_2 rfl rfl ?_
  refine T_iload_n 1 dX10_winningTake_3 rfl rfl ?_
  refine T_icmp_gt 94 dX10_winningTake_4 (by decide) ?_ ?_
  ·
    refine T_bipush (v := (-6 : Int32)) (by decide) dX10_winningTake_94 ?_
    exact T_iret dX10_winningTake_96 rfl
  ·
    refine T_iload_n 2 dX10_winningTake_7 rfl rfl ?_
    refine T_aload_n 0 dX10_winningTake_8 rfl rfl ?_
    refine T_getR 0 FOk_10 h0 (by decide) (by decide) dX10_winningTake_9 tb_298 ?_
    refine T_iload_n 1 dX10_winningTake_12 rfl rfl ?_
    refine T_iload_n 3 dX10_winningTake_13 rfl rfl ?_
    refine T_isub dX10_winningTake_14 ?_
    refine T_iald (kf_10_0 h0) dX10_winningTake_15 ?_
    refine T_isub dX10_winningTake_16 ?_
    refine T_iw (fun v1 => ?_)
    try dsimp only
    refine T_istore [(4, .int v1), (0, .ref i0), (1, .int x1), (2, .int x2), (3, .int x3)] dX10_winningTake_17 (by decide) rfl ?_
    refine T_iload_n 4 dX10_winningTake_19 rfl rfl ?_
    refine T_if_ne 27 dX10_winningTake_20 (by decide) ?_ ?_
    ·
      refine T_iconst (v := (1 : Int32)) (by decide) dX10_winningTake_23 ?_
      refine T_goto 28 dX10_winningTake_24 (by decide) ?_
      refine T_sub [1, 2, 3, 4, 0] (lv' := [(0, .ref i0), (1, .int x1), (2, .int x2), (3, .int x3), (4, .int v1)]) rfl ?_
      exact t_X10_winningTake_b28 h0 hk2 _ _ _ _ _ _
    ·
      refine T_iconst (v := (0 : Int32)) (by decide) dX10_winningTake_27 ?_
      refine T_sub [1, 2, 3, 4, 0] (lv' := [(0, .ref i0), (1, .int x1), (2, .int x2), (3, .int x3), (4, .int v1)]) rfl ?_
      exact t_X10_winningTake_b28 h0 hk2 _ _ _ _ _ _
theorem t_X10_winningTake_l2 {X : Scr} {i0 : Nat} (h0 : KD[i0]? = some (.inl 10)) (n : Nat) : ∀ (x1 : Int32) (x2 : Int32) (x3 : Int32) (M : Mem), T X eI (X10_winningTake_l2 i0  n x1 x2 x3 M) md_X10_winningTake 2 [(0, .ref i0), (1, .int x1), (2, .int x2), (3, .int x3)] [] M := by
  induction n with
  | zero => intro x1 x2 x3 M; exact T_none
  | succ n ih => intro x1 x2 x3 M; exact t_X10_winningTake_b2 h0 ih x1 x2 x3 M
set_option maxHeartbeats 4000000 in
set_option maxRecDepth 100000 in
theorem t_X10_winningTake {X : Scr} {i0 : Nat} (h0 : KD[i0]? = some (.inl 10)) (x1 : Int32) (x2 : Int32) (M : Mem) : T X eI (X10_winningTake i0  x1 x2 M) md_X10_winningTake 0 [(0, .ref i0), (1, .int x1), (2, .int x2)] [] M := by
  unfold X10_winningTake
  refine T_iconst (v := (0 : Int32)) (by decide) dX10_winningTake_0 ?_
  refine T_istore_n [(3, .int (0 : Int32)), (0, .ref i0), (1, .int x1), (2, .int x2)] dX10_winningTake_1 rfl (by decide) rfl ?_
  refine T_sub [1, 2, 3, 0] (lv' := [(0, .ref i0), (1, .int x1), (2, .int x2), (3, .int (0 : Int32))]) rfl ?_
  exact t_X10_winningTake_l2 h0  _ _ _ _ _
theorem C_X10_winningTake {X : Scr} {i0 : Nat} (h0 : KD[i0]? = some (.inl 10)) (x1 : Int32) (x2 : Int32) {M : Mem} {r : Int32} {M' : Mem} (h : X10_winningTake i0 x1 x2 M = some (r, M')) : Ct X md_X10_winningTake [.ref i0, .int x1, .int x2] M (eI r) M' := Ct_of (by decide +kernel) (Nat.le_of_ble_eq_true rfl) (t_X10_winningTake h0 _ _ M) r M' h
-- X11_isThingSet
def X11_isThingSet   (x0 : Int32) (M : Mem) : Option (Int32 × Mem) :=
  (X11_isWithin  x0 (0 : Int32) (255 : Int32) M).bind (fun p1 =>
    gd (p1.1 == 0 || p1.1 == 1) (some (p1.1, p1.2)))
set_option maxHeartbeats 4000000 in
set_option maxRecDepth 100000 in
theorem t_X11_isThingSet {X : Scr}   (x0 : Int32) (M : Mem) : T X eI (X11_isThingSet   x0 M) md_X11_isThingSet 0 [(0, .int x0)] [] M := by
  unfold X11_isThingSet
  refine T_iload_n 0 dX11_isThingSet_0 rfl rfl ?_
  refine T_iconst (v := (0 : Int32)) (by decide) dX11_isThingSet_1 ?_
  refine T_sipush (v := (255 : Int32)) (by decide) dX11_isThingSet_2 ?_
  refine T_callSI md_X11_isWithin [.int x0, .int (0 : Int32), .int (255 : Int32)] [] dX11_isThingSet_5 rfl ok_X11_isWithin tb_361 tb_362 (by decide) (Nat.le_of_ble_eq_true rfl) (fun _ _ h9 => C_X11_isWithin  _ _ _ h9) (fun r1 M1 => ?_)
  dsimp only
  exact T_zret dX11_isThingSet_8 rfl
theorem C_X11_isThingSet {X : Scr}   (x0 : Int32) {M : Mem} {r : Int32} {M' : Mem} (h : X11_isThingSet  x0 M = some (r, M')) : Ct X md_X11_isThingSet [.int x0] M (eI r) M' := Ct_of (by decide +kernel) (Nat.le_of_ble_eq_true rfl) (t_X11_isThingSet  _ M) r M' h
-- X11_basket
def X11_basket_b26 (i0 : Nat)   (M : Mem) : Option (Int32 × Mem) :=
  some ((-2 : Int32), M)
def X11_basket (i0 : Nat)  (x1 : Int32) (x2 : Int32) (x3 : Int32) (M : Mem) : Option (Int32 × Mem) :=
  (X11_isCabin  x1 M).bind (fun p1 =>
    if p1.1 = 0 then
      some ((-1 : Int32), p1.2)
    else
      (X11_isThingSet  x2 p1.2).bind (fun p2 =>
        if p2.1 = 0 then
          X11_basket_b26 i0   p2.2
        else
          (X11_isWithin  x3 (1 : Int32) (9 : Int32) p2.2).bind (fun p3 =>
            if p3.1 = 0 then
              X11_basket_b26 i0   p3.2
            else
              gd (ib x1 10) (
                gd (ib x1 10) (
                  iw (((10 : Int32) * (p3.2.1 (rf (rf i0 0) 1) x1.toNatClampNeg)) + (p3.2.1 (rf (rf i0 0) 2) x1.toNatClampNeg)) (fun v4 =>
                    gd (ib x1 10) (
                      gd (ib x1 10) (
                        some (v4, (mI (mI p3.2 (rf (rf i0 0) 1) x1.toNatClampNeg x2) (rf (rf i0 0) 2) x1.toNatClampNeg x3))))))))))
set_option maxHeartbeats 4000000 in
set_option maxRecDepth 100000 in
theorem t_X11_basket_b26 {X : Scr} {i0 : Nat} (h0 : KD[i0]? = some (.inl 11))  (M : Mem) : T X eI (X11_basket_b26 i0   M) md_X11_basket 26 [] [] M := by
  unfold X11_basket_b26
  refine T_bipush (v := (-2 : Int32)) (by decide) dX11_basket_26 ?_
  exact T_iret dX11_basket_28 rfl
set_option maxHeartbeats 4000000 in
set_option maxRecDepth 100000 in
theorem t_X11_basket {X : Scr} {i0 : Nat} (h0 : KD[i0]? = some (.inl 11)) (x1 : Int32) (x2 : Int32) (x3 : Int32) (M : Mem) : T X eI (X11_basket i0  x1 x2 x3 M) md_X11_basket 0 [(0, .ref i0), (1, .int x1), (2, .int x2), (3, .int x3)] [] M := by
  unfold X11_basket
  refine T_iload_n 1 dX11_basket_0 rfl rfl ?_
  refine T_callSI md_X11_isCabin [.int x1] [] dX11_basket_1 rfl ok_X11_isCabin tb_358 tb_359 (by decide) (Nat.le_of_ble_eq_true rfl) (fun _ _ h9 => C_X11_isCabin  _ h9) (fun r1 M1 => ?_)
  dsimp only
  refine T_if_ne 9 dX11_basket_4 (by decide) ?_ ?_
  ·
    refine T_iconst (v := (-1 : Int32)) (by decide) dX11_basket_7 ?_
    exact T_iret dX11_basket_8 rfl
  ·
    refine T_iload_n 2 dX11_basket_9 rfl rfl ?_
    refine T_callSI md_X11_isThingSet [.int x2] [] dX11_basket_10 rfl ok_X11_isThingSet tb_364 tb_365 (by decide) (Nat.le_of_ble_eq_true rfl) (fun _ _ h9 => C_X11_isThingSet  _ h9) (fun r2 M2 => ?_)
    dsimp only
    refine T_if_eq 26 dX11_basket_13 (by decide) ?_ ?_
    ·
      refine T_sub [] (lv' := []) rfl ?_
      exact t_X11_basket_b26 h0   _
    ·
      refine T_iload_n 3 dX11_basket_16 rfl rfl ?_
      refine T_iconst (v := (1 : Int32)) (by decide) dX11_basket_17 ?_
      refine T_bipush (v := (9 : Int32)) (by decide) dX11_basket_18 ?_
      refine T_callSI md_X11_isWithin [.int x3, .int (1 : Int32), .int (9 : Int32)] [] dX11_basket_20 rfl ok_X11_isWithin tb_361 tb_362 (by decide) (Nat.le_of_ble_eq_true rfl) (fun _ _ h9 => C_X11_isWithin  _ _ _ h9) (fun r3 M3 => ?_)
      dsimp only
      refine T_if_ne 29 dX11_basket_23 (by decide) ?_ ?_
      ·
        refine T_sub [] (lv' := []) rfl ?_
        exact t_X11_basket_b26 h0   _
      ·
        refine T_bipush (v := (10 : Int32)) (by decide) dX11_basket_29 ?_
        refine T_aload_n 0 dX11_basket_31 rfl rfl ?_
        refine T_getR 0 FOk_11 h0 (by decide) (by decide) dX11_basket_32 tb_317 ?_
        refine T_getR 1 FOk_0 (kf_11_0 h0) (by decide) (by decide) dX11_basket_35 tb_79 ?_
        refine T_iload_n 1 dX11_basket_38 rfl rfl ?_
        refine T_iald (kf_0_1 (kf_11_0 h0)) dX11_basket_39 ?_
        refine T_imul dX11_basket_40 ?_
        refine T_aload_n 0 dX11_basket_41 rfl rfl ?_
        refine T_getR 0 FOk_11 h0 (by decide) (by decide) dX11_basket_42 tb_317 ?_
        refine T_getR 2 FOk_0 (kf_11_0 h0) (by decide) (by decide) dX11_basket_45 tb_83 ?_
        refine T_iload_n 1 dX11_basket_48 rfl rfl ?_
        refine T_iald (kf_0_2 (kf_11_0 h0)) dX11_basket_49 ?_
        refine T_iadd dX11_basket_50 ?_
        refine T_iw (fun v4 => ?_)
        try dsimp only
        refine T_istore [(4, .int v4), (0, .ref i0), (1, .int x1), (2, .int x2), (3, .int x3)] dX11_basket_51 (by decide) rfl ?_
        refine T_aload_n 1 dX11_basket_53 rfl rfl ?_
        refine T_getR 0 FOk_11 h0 (by decide) (by decide) dX11_basket_54 tb_317 ?_
        refine T_getR 1 FOk_0 (kf_11_0 h0) (by decide) (by decide) dX11_basket_57 tb_79 ?_
        refine T_iload_n 2 dX11_basket_60 rfl rfl ?_
        refine T_iload_n 3 dX11_basket_61 rfl rfl ?_
        refine T_iast (kf_0_1 (kf_11_0 h0)) dX11_basket_62 ?_
        refine T_aload_n 1 dX11_basket_63 rfl rfl ?_
        refine T_getR 0 FOk_11 h0 (by decide) (by decide) dX11_basket_64 tb_317 ?_
        refine T_getR 2 FOk_0 (kf_11_0 h0) (by decide) (by decide) dX11_basket_67 tb_83 ?_
        refine T_iload_n 2 dX11_basket_70 rfl rfl ?_
        refine T_iload_n 4 dX11_basket_71 rfl rfl ?_
        refine T_iast (kf_0_2 (kf_11_0 h0)) dX11_basket_72 ?_
        refine T_iload 0 dX11_basket_73 rfl ?_
        exact T_iret dX11_basket_75 rfl
theorem C_X11_basket {X : Scr} {i0 : Nat} (h0 : KD[i0]? = some (.inl 11)) (x1 : Int32) (x2 : Int32) (x3 : Int32) {M : Mem} {r : Int32} {M' : Mem} (h : X11_basket i0 x1 x2 x3 M = some (r, M')) : Ct X md_X11_basket [.ref i0, .int x1, .int x2, .int x3] M (eI r) M' := Ct_of (by decide +kernel) (Nat.le_of_ble_eq_true rfl) (t_X11_basket h0 _ _ _ M) r M' h
-- X11_right
def X11_right (i0 : Nat)   (M : Mem) : Option (Int32 × Mem) :=
  (X0_strangers (rf i0 0)  M).bind (fun p1 =>
    (X0_putRight (rf i0 0)  p1.2).bind (fun p2 =>
      some (p1.1, p2.2)))
set_option maxHeartbeats 4000000 in
set_option maxRecDepth 100000 in
theorem t_X11_right {X : Scr} {i0 : Nat} (h0 : KD[i0]? = some (.inl 11))  (M : Mem) : T X eI (X11_right i0   M) md_X11_right 0 [(0, .ref i0)] [] M := by
  unfold X11_right
  refine T_aload_n 0 dX11_right_0 rfl rfl ?_
  refine T_getR 0 FOk_11 h0 (by decide) (by decide) dX11_right_1 tb_317 ?_
  refine T_callVI md_X0_strangers [] [] dX11_right_4 (kf_11_0 h0) rfl rfl ok_X0_strangers tb_371 tb_372 tb_373 (by decide) (Nat.le_of_ble_eq_true rfl) (fun _ _ h9 => C_X0_strangers (kf_11_0 h0)  h9) (fun r1 M1 => ?_)
  dsimp only
  refine T_istore_n [(1, .int r1), (0, .ref i0)] dX11_right_7 rfl (by decide) rfl ?_
  refine T_aload_n 1 dX11_right_8 rfl rfl ?_
  refine T_getR 0 FOk_11 h0 (by decide) (by decide) dX11_right_9 tb_317 ?_
  refine T_callVU md_X0_putRight [] [] dX11_right_12 (kf_11_0 h0) rfl rfl ok_X0_putRight tb_375 tb_376 tb_377 (by decide) (Nat.le_of_ble_eq_true rfl) (fun _ _ h9 => C_X0_putRight (kf_11_0 h0)  h9) (fun r2 M2 => ?_)
  dsimp only
  refine T_iload_n 0 dX11_right_15 rfl rfl ?_
  exact T_iret dX11_right_16 rfl
theorem C_X11_right {X : Scr} {i0 : Nat} (h0 : KD[i0]? = some (.inl 11))  {M : Mem} {r : Int32} {M' : Mem} (h : X11_right i0  M = some (r, M')) : Ct X md_X11_right [.ref i0] M (eI r) M' := Ct_of (by decide +kernel) (Nat.le_of_ble_eq_true rfl) (t_X11_right h0  M) r M' h
-- X11_clock
def X11_clock_b20 (i0 : Nat)   (M : Mem) : Option (Int32 × Mem) :=
  some ((-2 : Int32), M)
def X11_clock (i0 : Nat)  (x1 : Int32) (x2 : Int32) (M : Mem) : Option (Int32 × Mem) :=
  (X11_isWithin  x1 (0 : Int32) (99 : Int32) M).bind (fun p1 =>
    if p1.1 = 0 then
      X11_clock_b20 i0   p1.2
    else
      (X11_isWithin  x2 (0 : Int32) (99 : Int32) p1.2).bind (fun p2 =>
        if p2.1 = 0 then
          X11_clock_b20 i0   p2.2
        else
          iw (((100 : Int32) * (p2.2.1 (rf i0 0) 6)) + (p2.2.1 (rf i0 0) 7)) (fun v3 =>
            some (v3, (mI (mI p2.2 (rf i0 0) 6 x1) (rf i0 0) 7 x2)))))
set_option maxHeartbeats 4000000 in
set_option maxRecDepth 100000 in
theorem t_X11_clock_b20 {X : Scr} {i0 : Nat} (h0 : KD[i0]? = some (.inl 11))  (M : Mem) : T X eI (X11_clock_b20 i0   M) md_X11_clock 20 [] [] M := by
  unfold X11_clock_b20
  refine T_bipush (v := (-2 : Int32)) (by decide) dX11_clock_20 ?_
  exact T_iret dX11_clock_22 rfl
set_option maxHeartbeats 4000000 in
set_option maxRecDepth 100000 in
theorem t_X11_clock {X : Scr} {i0 : Nat} (h0 : KD[i0]? = some (.inl 11)) (x1 : Int32) (x2 : Int32) (M : Mem) : T X eI (X11_clock i0  x1 x2 M) md_X11_clock 0 [(0, .ref i0), (1, .int x1), (2, .int x2)] [] M := by
  unfold X11_clock
  refine T_iload_n 1 dX11_clock_0 rfl rfl ?_
  refine T_iconst (v := (0 : Int32)) (by decide) dX11_clock_1 ?_
  refine T_bipush (v := (99 : Int32)) (by decide) dX11_clock_2 ?_
  refine T_callSI md_X11_isWithin [.int x1, .int (0 : Int32), .int (99 : Int32)] [] dX11_clock_4 rfl ok_X11_isWithin tb_361 tb_362 (by decide) (Nat.le_of_ble_eq_true rfl) (fun _ _ h9 => C_X11_isWithin  _ _ _ h9) (fun r1 M1 => ?_)
  dsimp only
  refine T_if_eq 20 dX11_clock_7 (by decide) ?_ ?_
  ·
    refine T_sub [] (lv' := []) rfl ?_
    exact t_X11_clock_b20 h0   _
  ·
    refine T_iload_n 2 dX11_clock_10 rfl rfl ?_
    refine T_iconst (v := (0 : Int32)) (by decide) dX11_clock_11 ?_
    refine T_bipush (v := (99 : Int32)) (by decide) dX11_clock_12 ?_
    refine T_callSI md_X11_isWithin [.int x2, .int (0 : Int32), .int (99 : Int32)] [] dX11_clock_14 rfl ok_X11_isWithin tb_361 tb_362 (by decide) (Nat.le_of_ble_eq_true rfl) (fun _ _ h9 => C_X11_isWithin  _ _ _ h9) (fun r2 M2 => ?_)
    dsimp only
    refine T_if_ne 23 dX11_clock_17 (by decide) ?_ ?_
    ·
      refine T_sub [] (lv' := []) rfl ?_
      exact t_X11_clock_b20 h0   _
    ·
      refine T_bipush (v := (100 : Int32)) (by decide) dX11_clock_23 ?_
      refine T_aload_n 0 dX11_clock_25 rfl rfl ?_
      refine T_getR 0 FOk_11 h0 (by decide) (by decide) dX11_clock_26 tb_317 ?_
      refine T_getI 6 FOk_0 (kf_11_0 h0) (by decide) (by decide) dX11_clock_29 tb_96 ?_
      refine T_imul dX11_clock_32 ?_
      refine T_aload_n 0 dX11_clock_33 rfl rfl ?_
      refine T_getR 0 FOk_11 h0 (by decide) (by decide) dX11_clock_34 tb_317 ?_
      refine T_getI 7 FOk_0 (kf_11_0 h0) (by decide) (by decide) dX11_clock_37 tb_99 ?_
      refine T_iadd dX11_clock_40 ?_
      refine T_iw (fun v3 => ?_)
      try dsimp only
      refine T_istore_n [(3, .int v3), (0, .ref i0), (1, .int x1), (2, .int x2)] dX11_clock_41 rfl (by decide) rfl ?_
      refine T_aload_n 1 dX11_clock_42 rfl rfl ?_
      refine T_getR 0 FOk_11 h0 (by decide) (by decide) dX11_clock_43 tb_317 ?_
      refine T_iload_n 2 dX11_clock_46 rfl rfl ?_
      refine T_putI (ty := .int) 6 FOk_0 (kf_11_0 h0) (by decide) (by decide) rfl (by decide +kernel) rfl rfl dX11_clock_47 tb_96 ?_
      refine T_aload_n 1 dX11_clock_50 rfl rfl ?_
      refine T_getR 0 FOk_11 h0 (by decide) (by decide) dX11_clock_51 tb_317 ?_
      refine T_iload_n 3 dX11_clock_54 rfl rfl ?_
      refine T_putI (ty := .int) 7 FOk_0 (kf_11_0 h0) (by decide) (by decide) rfl (by decide +kernel) rfl rfl dX11_clock_55 tb_99 ?_
      refine T_iload_n 0 dX11_clock_58 rfl rfl ?_
      exact T_iret dX11_clock_59 rfl
theorem C_X11_clock {X : Scr} {i0 : Nat} (h0 : KD[i0]? = some (.inl 11)) (x1 : Int32) (x2 : Int32) {M : Mem} {r : Int32} {M' : Mem} (h : X11_clock i0 x1 x2 M = some (r, M')) : Ct X md_X11_clock [.ref i0, .int x1, .int x2] M (eI r) M' := Ct_of (by decide +kernel) (Nat.le_of_ble_eq_true rfl) (t_X11_clock h0 _ _ M) r M' h
-- X11_attendant
def X11_attendant_b23 (i0 : Nat)   (M : Mem) : Option (Int32 × Mem) :=
  some ((-2 : Int32), M)
def X11_attendant (i0 : Nat)  (x1 : Int32) (x2 : Int32) (x3 : Int32) (M : Mem) : Option (Int32 × Mem) :=
  (X11_isCabin  x1 M).bind (fun p1 =>
    if p1.1 = 0 then
      some ((-1 : Int32), p1.2)
    else
      (X11_isThingSet  x2 p1.2).bind (fun p2 =>
        if p2.1 = 0 then
          X11_attendant_b23 i0   p2.2
        else
          (X11_isThingSet  x3 p2.2).bind (fun p3 =>
            if p3.1 = 0 then
              X11_attendant_b23 i0   p3.2
            else
              mw (mI p3.2 (rf i0 0) 3 x1) (fun N4 =>
                mw (mI N4 (rf i0 0) 4 x2) (fun N5 =>
                  mw (mI N5 (rf i0 0) 5 x3) (fun N6 =>
                    some ((p3.2.1 (rf i0 0) 3), N6)))))))
set_option maxHeartbeats 4000000 in
set_option maxRecDepth 100000 in
theorem t_X11_attendant_b23 {X : Scr} {i0 : Nat} (h0 : KD[i0]? = some (.inl 11))  (M : Mem) : T X eI (X11_attendant_b23 i0   M) md_X11_attendant 23 [] [] M := by
  unfold X11_attendant_b23
  refine T_bipush (v := (-2 : Int32)) (by decide) dX11_attendant_23 ?_
  exact T_iret dX11_attendant_25 rfl
set_option maxHeartbeats 4000000 in
set_option maxRecDepth 100000 in
theorem t_X11_attendant {X : Scr} {i0 : Nat} (h0 : KD[i0]? = some (.inl 11)) (x1 : Int32) (x2 : Int32) (x3 : Int32) (M : Mem) : T X eI (X11_attendant i0  x1 x2 x3 M) md_X11_attendant 0 [(0, .ref i0), (1, .int x1), (2, .int x2), (3, .int x3)] [] M := by
  unfold X11_attendant
  refine T_iload_n 1 dX11_attendant_0 rfl rfl ?_
  refine T_callSI md_X11_isCabin [.int x1] [] dX11_attendant_1 rfl ok_X11_isCabin tb_358 tb_359 (by decide) (Nat.le_of_ble_eq_true rfl) (fun _ _ h9 => C_X11_isCabin  _ h9) (fun r1 M1 => ?_)
  dsimp only
  refine T_if_ne 9 dX11_attendant_4 (by decide) ?_ ?_
  ·
    refine T_iconst (v := (-1 : Int32)) (by decide) dX11_attendant_7 ?_
    exact T_iret dX11_attendant_8 rfl
  ·
    refine T_iload_n 2 dX11_attendant_9 rfl rfl ?_
    refine T_callSI md_X11_isThingSet [.int x2] [] dX11_attendant_10 rfl ok_X11_isThingSet tb_364 tb_365 (by decide) (Nat.le_of_ble_eq_true rfl) (fun _ _ h9 => C_X11_isThingSet  _ h9) (fun r2 M2 => ?_)
    dsimp only
    refine T_if_eq 23 dX11_attendant_13 (by decide) ?_ ?_
    ·
      refine T_sub [] (lv' := []) rfl ?_
      exact t_X11_attendant_b23 h0   _
    ·
      refine T_iload_n 3 dX11_attendant_16 rfl rfl ?_
      refine T_callSI md_X11_isThingSet [.int x3] [] dX11_attendant_17 rfl ok_X11_isThingSet tb_364 tb_365 (by decide) (Nat.le_of_ble_eq_true rfl) (fun _ _ h9 => C_X11_isThingSet  _ h9) (fun r3 M3 => ?_)
      dsimp only
      refine T_if_ne 26 dX11_attendant_20 (by decide) ?_ ?_
      ·
        refine T_sub [] (lv' := []) rfl ?_
        exact t_X11_attendant_b23 h0   _
      ·
        refine T_aload_n 0 dX11_attendant_26 rfl rfl ?_
        refine T_getR 0 FOk_11 h0 (by decide) (by decide) dX11_attendant_27 tb_317 ?_
        refine T_getI 3 FOk_0 (kf_11_0 h0) (by decide) (by decide) dX11_attendant_30 tb_88 ?_
        refine T_istore [(4, .int (M3.1 (rf i0 0) 3)), (0, .ref i0), (1, .int x1), (2, .int x2), (3, .int x3)] dX11_attendant_33 (by decide) rfl ?_
        refine T_aload_n 1 dX11_attendant_35 rfl rfl ?_
        refine T_getR 0 FOk_11 h0 (by decide) (by decide) dX11_attendant_36 tb_317 ?_
        refine T_iload_n 2 dX11_attendant_39 rfl rfl ?_
        refine T_putI (ty := .int) 3 FOk_0 (kf_11_0 h0) (by decide) (by decide) rfl (by decide +kernel) rfl rfl dX11_attendant_40 tb_88 ?_
        refine T_mw (fun N4 => ?_)
        try dsimp only
        refine T_aload_n 1 dX11_attendant_43 rfl rfl ?_
        refine T_getR 0 FOk_11 h0 (by decide) (by decide) dX11_attendant_44 tb_317 ?_
        refine T_iload_n 3 dX11_attendant_47 rfl rfl ?_
        refine T_putI (ty := .int) 4 FOk_0 (kf_11_0 h0) (by decide) (by decide) rfl (by decide +kernel) rfl rfl dX11_attendant_48 tb_90 ?_
        refine T_mw (fun N5 => ?_)
        try dsimp only
        refine T_aload_n 1 dX11_attendant_51 rfl rfl ?_
        refine T_getR 0 FOk_11 h0 (by decide) (by decide) dX11_attendant_52 tb_317 ?_
        refine T_iload_n 4 dX11_attendant_55 rfl rfl ?_
        refine T_putI (ty := .int) 5 FOk_0 (kf_11_0 h0) (by decide) (by decide) rfl (by decide +kernel) rfl rfl dX11_attendant_56 tb_93 ?_
        refine T_mw (fun N6 => ?_)
        try dsimp only
        refine T_iload 0 dX11_attendant_59 rfl ?_
        exact T_iret dX11_attendant_61 rfl
theorem C_X11_attendant {X : Scr} {i0 : Nat} (h0 : KD[i0]? = some (.inl 11)) (x1 : Int32) (x2 : Int32) (x3 : Int32) {M : Mem} {r : Int32} {M' : Mem} (h : X11_attendant i0 x1 x2 x3 M = some (r, M')) : Ct X md_X11_attendant [.ref i0, .int x1, .int x2, .int x3] M (eI r) M' := Ct_of (by decide +kernel) (Nat.le_of_ble_eq_true rfl) (t_X11_attendant h0 _ _ _ M) r M' h
-- X11_say
def X11_say_b37 (i0 : Nat)  (s0 : Int32) (M : Mem) : Option (Int32 × Mem) :=
  some (s0, M)
def X11_say (i0 : Nat)  (x1 : Int32) (M : Mem) : Option (Int32 × Mem) :=
  (X11_isWithin  x1 (33 : Int32) (126 : Int32) M).bind (fun p1 =>
    if p1.1 = 0 then
      some ((-2 : Int32), p1.2)
    else
      (X8_write (rf i0 2) x1 p1.2).bind (fun p2 =>
        if p2.1 = 0 then
          X11_say_b37 i0  (-4 : Int32) p2.2
        else
          X11_say_b37 i0  (p2.2.1 (rf i0 2) 1) p2.2))
set_option maxHeartbeats 4000000 in
set_option maxRecDepth 100000 in
theorem t_X11_say_b37 {X : Scr} {i0 : Nat} (h0 : KD[i0]? = some (.inl 11)) (s0 : Int32) (M : Mem) : T X eI (X11_say_b37 i0  s0 M) md_X11_say 37 [] [.int s0] M := by
  unfold X11_say_b37
  exact T_iret dX11_say_37 rfl
set_option maxHeartbeats 4000000 in
set_option maxRecDepth 100000 in
theorem t_X11_say {X : Scr} {i0 : Nat} (h0 : KD[i0]? = some (.inl 11)) (x1 : Int32) (M : Mem) : T X eI (X11_say i0  x1 M) md_X11_say 0 [(0, .ref i0), (1, .int x1)] [] M := by
  unfold X11_say
  refine T_iload_n 1 dX11_say_0 rfl rfl ?_
  refine T_bipush (v := (33 : Int32)) (by decide) dX11_say_1 ?_
  refine T_bipush (v := (126 : Int32)) (by decide) dX11_say_3 ?_
  refine T_callSI md_X11_isWithin [.int x1, .int (33 : Int32), .int (126 : Int32)] [] dX11_say_5 rfl ok_X11_isWithin tb_361 tb_362 (by decide) (Nat.le_of_ble_eq_true rfl) (fun _ _ h9 => C_X11_isWithin  _ _ _ h9) (fun r1 M1 => ?_)
  dsimp only
  refine T_if_ne 14 dX11_say_8 (by decide) ?_ ?_
  ·
    refine T_bipush (v := (-2 : Int32)) (by decide) dX11_say_11 ?_
    exact T_iret dX11_say_13 rfl
  ·
    refine T_aload_n 0 dX11_say_14 rfl rfl ?_
    refine T_getR 2 FOk_11 h0 (by decide) (by decide) dX11_say_15 tb_319 ?_
    refine T_iload_n 1 dX11_say_18 rfl rfl ?_
    refine T_callVI md_X8_write [.int x1] [] dX11_say_19 (kf_11_2 h0) rfl rfl ok_X8_write tb_391 tb_392 tb_393 (by decide) (Nat.le_of_ble_eq_true rfl) (fun _ _ h9 => C_X8_write (kf_11_2 h0) _ h9) (fun r2 M2 => ?_)
    dsimp only
    refine T_if_eq 35 dX11_say_22 (by decide) ?_ ?_
    ·
      refine T_bipush (v := (-4 : Int32)) (by decide) dX11_say_35 ?_
      refine T_sub [] (lv' := []) rfl ?_
      exact t_X11_say_b37 h0  _ _
    ·
      refine T_aload_n 0 dX11_say_25 rfl rfl ?_
      refine T_getR 2 FOk_11 h0 (by decide) (by decide) dX11_say_26 tb_319 ?_
      refine T_getI 1 FOk_8 (kf_11_2 h0) (by decide) (by decide) dX11_say_29 tb_147 ?_
      refine T_goto 37 dX11_say_32 (by decide) ?_
      refine T_sub [] (lv' := []) rfl ?_
      exact t_X11_say_b37 h0  _ _
theorem C_X11_say {X : Scr} {i0 : Nat} (h0 : KD[i0]? = some (.inl 11)) (x1 : Int32) {M : Mem} {r : Int32} {M' : Mem} (h : X11_say i0 x1 M = some (r, M')) : Ct X md_X11_say [.ref i0, .int x1] M (eI r) M' := Ct_of (by decide +kernel) (Nat.le_of_ble_eq_true rfl) (t_X11_say h0 _ M) r M' h
-- X11_wipe
def X11_wipe (i0 : Nat)   (M : Mem) : Option (Int32 × Mem) :=
  some ((M.1 (rf i0 2) 1), (mI M (rf i0 2) 1 (0 : Int32)))
set_option maxHeartbeats 4000000 in
set_option maxRecDepth 100000 in
theorem t_X11_wipe {X : Scr} {i0 : Nat} (h0 : KD[i0]? = some (.inl 11))  (M : Mem) : T X eI (X11_wipe i0   M) md_X11_wipe 0 [(0, .ref i0)] [] M := by
  unfold X11_wipe
  refine T_aload_n 0 dX11_wipe_0 rfl rfl ?_
  refine T_getR 2 FOk_11 h0 (by decide) (by decide) dX11_wipe_1 tb_319 ?_
  refine T_getI 1 FOk_8 (kf_11_2 h0) (by decide) (by decide) dX11_wipe_4 tb_147 ?_
  refine T_istore_n [(1, .int (M.1 (rf i0 2) 1)), (0, .ref i0)] dX11_wipe_7 rfl (by decide) rfl ?_
  refine T_aload_n 1 dX11_wipe_8 rfl rfl ?_
  refine T_getR 2 FOk_11 h0 (by decide) (by decide) dX11_wipe_9 tb_319 ?_
  refine T_iconst (v := (0 : Int32)) (by decide) dX11_wipe_12 ?_
  refine T_putI (ty := .int) 1 FOk_8 (kf_11_2 h0) (by decide) (by decide) rfl (by decide +kernel) rfl rfl dX11_wipe_13 tb_147 ?_
  refine T_iload_n 0 dX11_wipe_16 rfl rfl ?_
  exact T_iret dX11_wipe_17 rfl
theorem C_X11_wipe {X : Scr} {i0 : Nat} (h0 : KD[i0]? = some (.inl 11))  {M : Mem} {r : Int32} {M' : Mem} (h : X11_wipe i0  M = some (r, M')) : Ct X md_X11_wipe [.ref i0] M (eI r) M' := Ct_of (by decide +kernel) (Nat.le_of_ble_eq_true rfl) (t_X11_wipe h0  M) r M' h
-- X11_fault
def X11_fault (i0 : Nat)   (M : Mem) : Option (Int32 × Mem) :=
  (X8_faultPlace (rf i0 2)  M).bind (fun p1 =>
    some (p1.1, p1.2))
set_option maxHeartbeats 4000000 in
set_option maxRecDepth 100000 in
theorem t_X11_fault {X : Scr} {i0 : Nat} (h0 : KD[i0]? = some (.inl 11))  (M : Mem) : T X eI (X11_fault i0   M) md_X11_fault 0 [(0, .ref i0)] [] M := by
  unfold X11_fault
  refine T_aload_n 0 dX11_fault_0 rfl rfl ?_
  refine T_getR 2 FOk_11 h0 (by decide) (by decide) dX11_fault_1 tb_319 ?_
  refine T_callVI md_X8_faultPlace [] [] dX11_fault_4 (kf_11_2 h0) rfl rfl ok_X8_faultPlace tb_403 tb_404 tb_405 (by decide) (Nat.le_of_ble_eq_true rfl) (fun _ _ h9 => C_X8_faultPlace (kf_11_2 h0)  h9) (fun r1 M1 => ?_)
  dsimp only
  exact T_iret dX11_fault_7 rfl
theorem C_X11_fault {X : Scr} {i0 : Nat} (h0 : KD[i0]? = some (.inl 11))  {M : Mem} {r : Int32} {M' : Mem} (h : X11_fault i0  M = some (r, M')) : Ct X md_X11_fault [.ref i0] M (eI r) M' := Ct_of (by decide +kernel) (Nat.le_of_ble_eq_true rfl) (t_X11_fault h0  M) r M' h
-- X11_playEvening
def X11_playEvening_b48 (i0 : Nat)  (s0 : Int32) (M : Mem) : Option (Int32 × Mem) :=
  some (s0, M)
def X11_playEvening (i0 : Nat)   (M : Mem) : Option (Int32 × Mem) :=
  (X8_faultPlace (rf i0 2)  M).bind (fun p1 =>
    if p1.1 = (-6 : Int32) then
      (X2_play (rf i0 5) (rf i0 0) (rf i0 2)  p1.2).bind (fun p2 =>
        if (p2.2.1 (rf i0 5) 2) = (-6 : Int32) then
          X11_playEvening_b48 i0  (0 : Int32) p2.2
        else
          X11_playEvening_b48 i0  (-3 : Int32) p2.2)
    else
      some ((-5 : Int32), p1.2))
set_option maxHeartbeats 4000000 in
set_option maxRecDepth 100000 in
theorem t_X11_playEvening_b48 {X : Scr} {i0 : Nat} (h0 : KD[i0]? = some (.inl 11)) (s0 : Int32) (M : Mem) : T X eI (X11_playEvening_b48 i0  s0 M) md_X11_playEvening 48 [] [.int s0] M := by
  unfold X11_playEvening_b48
  exact T_iret dX11_playEvening_48 rfl
set_option maxHeartbeats 4000000 in
set_option maxRecDepth 100000 in
theorem t_X11_playEvening {X : Scr} {i0 : Nat} (h0 : KD[i0]? = some (.inl 11))  (M : Mem) : T X eI (X11_playEvening i0   M) md_X11_playEvening 0 [(0, .ref i0)] [] M := by
  unfold X11_playEvening
  refine T_aload_n 0 dX11_playEvening_0 rfl rfl ?_
  refine T_getR 2 FOk_11 h0 (by decide) (by decide) dX11_playEvening_1 tb_319 ?_
  refine T_callVI md_X8_faultPlace [] [] dX11_playEvening_4 (kf_11_2 h0) rfl rfl ok_X8_faultPlace tb_403 tb_404 tb_405 (by decide) (Nat.le_of_ble_eq_true rfl) (fun _ _ h9 => C_X8_faultPlace (kf_11_2 h0)  h9) (fun r1 M1 => ?_)
  dsimp only
  refine T_bipush (v := (-6 : Int32)) (by decide) dX11_playEvening_7 ?_
  refine T_icmp_eq 15 dX11_playEvening_9 (by decide) ?_ ?_
  ·
    refine T_aload_n 0 dX11_playEvening_15 rfl rfl ?_
    refine T_getR 5 FOk_11 h0 (by decide) (by decide) dX11_playEvening_16 tb_322 ?_
    refine T_aload_n 0 dX11_playEvening_19 rfl rfl ?_
    refine T_getR 0 FOk_11 h0 (by decide) (by decide) dX11_playEvening_20 tb_317 ?_
    refine T_aload_n 0 dX11_playEvening_23 rfl rfl ?_
    refine T_getR 2 FOk_11 h0 (by decide) (by decide) dX11_playEvening_24 tb_319 ?_
    refine T_callVU md_X2_play [.ref (rf i0 0), .ref (rf i0 2)] [] dX11_playEvening_27 (kf_11_5 h0) rfl rfl ok_X2_play tb_431 tb_432 tb_433 (by decide) (Nat.le_of_ble_eq_true rfl) (fun _ _ h9 => C_X2_play (kf_11_5 h0) (kf_11_0 h0) (kf_11_2 h0)  h9) (fun r2 M2 => ?_)
    dsimp only
    refine T_aload_n 0 dX11_playEvening_30 rfl rfl ?_
    refine T_getR 5 FOk_11 h0 (by decide) (by decide) dX11_playEvening_31 tb_322 ?_
    refine T_getI 2 FOk_2 (kf_11_5 h0) (by decide) (by decide) dX11_playEvening_34 tb_188 ?_
    refine T_bipush (v := (-6 : Int32)) (by decide) dX11_playEvening_37 ?_
    refine T_icmp_ne 46 dX11_playEvening_39 (by decide) ?_ ?_
    ·
      refine T_iconst (v := (0 : Int32)) (by decide) dX11_playEvening_42 ?_
      refine T_goto 48 dX11_playEvening_43 (by decide) ?_
      refine T_sub [] (lv' := []) rfl ?_
      exact t_X11_playEvening_b48 h0  _ _
    ·
      refine T_bipush (v := (-3 : Int32)) (by decide) dX11_playEvening_46 ?_
      refine T_sub [] (lv' := []) rfl ?_
      exact t_X11_playEvening_b48 h0  _ _
  ·
    refine T_bipush (v := (-5 : Int32)) (by decide) dX11_playEvening_12 ?_
    exact T_iret dX11_playEvening_14 rfl
theorem C_X11_playEvening {X : Scr} {i0 : Nat} (h0 : KD[i0]? = some (.inl 11))  {M : Mem} {r : Int32} {M' : Mem} (h : X11_playEvening i0  M = some (r, M')) : Ct X md_X11_playEvening [.ref i0] M (eI r) M' := Ct_of (by decide +kernel) (Nat.le_of_ble_eq_true rfl) (t_X11_playEvening h0  M) r M' h
-- X11_judge
def X11_judge_b34 (i0 : Nat)  (x2 : Int32) (M : Mem) : Option (Int32 × Mem) :=
  some (x2, M)
def X11_judge_b70 (i0 : Nat)  (s0 : Int32) (M : Mem) : Option (Int32 × Mem) :=
  some (s0, M)
def X11_judge_b36 (i0 : Nat)  (x1 : Int32) (M : Mem) : Option (Int32 × Mem) :=
  if x1 = (2 : Int32) then
    some ((M.1 (rf i0 5) 4), M)
  else
    if x1 = 0 then
      X11_judge_b70 i0  (M.1 (rf i0 5) 2) M
    else
      X11_judge_b70 i0  (M.1 (rf i0 5) 3) M
def X11_judge (i0 : Nat)  (x1 : Int32) (M : Mem) : Option (Int32 × Mem) :=
  (X11_isWithin  x1 (0 : Int32) (2 : Int32) M).bind (fun p1 =>
    if p1.1 = 0 then
      some ((-2 : Int32), p1.2)
    else
      (X11_playEvening i0  p1.2).bind (fun p2 =>
        if p2.1 = (-5 : Int32) then
          X11_judge_b34 i0  p2.1 p2.2
        else
          if x1 = (2 : Int32) then
            if p2.1 = (-3 : Int32) then
              X11_judge_b34 i0  p2.1 p2.2
            else
              X11_judge_b36 i0  x1 p2.2
          else
            X11_judge_b36 i0  x1 p2.2))
set_option maxHeartbeats 4000000 in
set_option maxRecDepth 100000 in
theorem t_X11_judge_b34 {X : Scr} {i0 : Nat} (h0 : KD[i0]? = some (.inl 11)) (x2 : Int32) (M : Mem) : T X eI (X11_judge_b34 i0  x2 M) md_X11_judge 34 [(2, .int x2)] [] M := by
  unfold X11_judge_b34
  refine T_iload_n 0 dX11_judge_34 rfl rfl ?_
  exact T_iret dX11_judge_35 rfl
set_option maxHeartbeats 4000000 in
set_option maxRecDepth 100000 in
theorem t_X11_judge_b70 {X : Scr} {i0 : Nat} (h0 : KD[i0]? = some (.inl 11)) (s0 : Int32) (M : Mem) : T X eI (X11_judge_b70 i0  s0 M) md_X11_judge 70 [] [.int s0] M := by
  unfold X11_judge_b70
  exact T_iret dX11_judge_70 rfl
set_option maxHeartbeats 4000000 in
set_option maxRecDepth 100000 in
theorem t_X11_judge_b36 {X : Scr} {i0 : Nat} (h0 : KD[i0]? = some (.inl 11)) (x1 : Int32) (M : Mem) : T X eI (X11_judge_b36 i0  x1 M) md_X11_judge 36 [(0, .ref i0), (1, .int x1)] [] M := by
  unfold X11_judge_b36
  refine T_iload_n 1 dX11_judge_36 rfl rfl ?_
  refine T_iconst (v := (2 : Int32)) (by decide) dX11_judge_37 ?_
  refine T_icmp_ne 49 dX11_judge_38 (by decide) ?_ ?_
  ·
    refine T_aload_n 0 dX11_judge_41 rfl rfl ?_
    refine T_getR 5 FOk_11 h0 (by decide) (by decide) dX11_judge_42 tb_322 ?_
    refine T_getI 4 FOk_2 (kf_11_5 h0) (by decide) (by decide) dX11_judge_45 tb_192 ?_
    exact T_iret dX11_judge_48 rfl
  ·
    refine T_iload_n 1 dX11_judge_49 rfl rfl ?_
    refine T_if_ne 63 dX11_judge_50 (by decide) ?_ ?_
    ·
      refine T_aload_n 0 dX11_judge_53 rfl rfl ?_
      refine T_getR 5 FOk_11 h0 (by decide) (by decide) dX11_judge_54 tb_322 ?_
      refine T_getI 2 FOk_2 (kf_11_5 h0) (by decide) (by decide) dX11_judge_57 tb_188 ?_
      refine T_goto 70 dX11_judge_60 (by decide) ?_
      refine T_sub [] (lv' := []) rfl ?_
      exact t_X11_judge_b70 h0  _ _
    ·
      refine T_aload_n 0 dX11_judge_63 rfl rfl ?_
      refine T_getR 5 FOk_11 h0 (by decide) (by decide) dX11_judge_64 tb_322 ?_
      refine T_getI 3 FOk_2 (kf_11_5 h0) (by decide) (by decide) dX11_judge_67 tb_190 ?_
      refine T_sub [] (lv' := []) rfl ?_
      exact t_X11_judge_b70 h0  _ _
set_option maxHeartbeats 4000000 in
set_option maxRecDepth 100000 in
theorem t_X11_judge {X : Scr} {i0 : Nat} (h0 : KD[i0]? = some (.inl 11)) (x1 : Int32) (M : Mem) : T X eI (X11_judge i0  x1 M) md_X11_judge 0 [(0, .ref i0), (1, .int x1)] [] M := by
  unfold X11_judge
  refine T_iload_n 1 dX11_judge_0 rfl rfl ?_
  refine T_iconst (v := (0 : Int32)) (by decide) dX11_judge_1 ?_
  refine T_iconst (v := (2 : Int32)) (by decide) dX11_judge_2 ?_
  refine T_callSI md_X11_isWithin [.int x1, .int (0 : Int32), .int (2 : Int32)] [] dX11_judge_3 rfl ok_X11_isWithin tb_361 tb_362 (by decide) (Nat.le_of_ble_eq_true rfl) (fun _ _ h9 => C_X11_isWithin  _ _ _ h9) (fun r1 M1 => ?_)
  dsimp only
  refine T_if_ne 12 dX11_judge_6 (by decide) ?_ ?_
  ·
    refine T_bipush (v := (-2 : Int32)) (by decide) dX11_judge_9 ?_
    exact T_iret dX11_judge_11 rfl
  ·
    refine T_aload_n 0 dX11_judge_12 rfl rfl ?_
    refine T_callVI md_X11_playEvening [] [] dX11_judge_13 h0 rfl rfl ok_X11_playEvening tb_427 tb_429 tb_0 (by decide) (Nat.le_of_ble_eq_true rfl) (fun _ _ h9 => C_X11_playEvening h0  h9) (fun r2 M2 => ?_)
    dsimp only
    refine T_istore_n [(2, .int r2), (0, .ref i0), (1, .int x1)] dX11_judge_16 rfl (by decide) rfl ?_
    refine T_iload_n 0 dX11_judge_17 rfl rfl ?_
    refine T_bipush (v := (-5 : Int32)) (by decide) dX11_judge_18 ?_
    refine T_icmp_eq 34 dX11_judge_20 (by decide) ?_ ?_
    ·
      refine T_sub [0] (lv' := [(2, .int r2)]) rfl ?_
      exact t_X11_judge_b34 h0  _ _
    ·
      refine T_iload_n 2 dX11_judge_23 rfl rfl ?_
      refine T_iconst (v := (2 : Int32)) (by decide) dX11_judge_24 ?_
      refine T_icmp_ne 36 dX11_judge_25 (by decide) ?_ ?_
      ·
        refine T_iload_n 0 dX11_judge_28 rfl rfl ?_
        refine T_bipush (v := (-3 : Int32)) (by decide) dX11_judge_29 ?_
        refine T_icmp_ne 36 dX11_judge_31 (by decide) ?_ ?_
        ·
          refine T_sub [0] (lv' := [(2, .int r2)]) rfl ?_
          exact t_X11_judge_b34 h0  _ _
        ·
          refine T_sub [1, 2] (lv' := [(0, .ref i0), (1, .int x1)]) rfl ?_
          exact t_X11_judge_b36 h0  _ _
      ·
        refine T_sub [1, 2] (lv' := [(0, .ref i0), (1, .int x1)]) rfl ?_
        exact t_X11_judge_b36 h0  _ _
theorem C_X11_judge {X : Scr} {i0 : Nat} (h0 : KD[i0]? = some (.inl 11)) (x1 : Int32) {M : Mem} {r : Int32} {M' : Mem} (h : X11_judge i0 x1 M = some (r, M')) : Ct X md_X11_judge [.ref i0, .int x1] M (eI r) M' := Ct_of (by decide +kernel) (Nat.le_of_ble_eq_true rfl) (t_X11_judge h0 _ M) r M' h
-- X11_behind
def X11_behind_b68 (i0 : Nat)  (s0 : Int32) (M : Mem) : Option (Int32 × Mem) :=
  some (s0, M)
def X11_behind (i0 : Nat)  (x1 : Int32) (x2 : Int32) (M : Mem) : Option (Int32 × Mem) :=
  (X11_isCabin  x1 M).bind (fun p1 =>
    if p1.1 = 0 then
      some ((-1 : Int32), p1.2)
    else
      (X11_isWithin  x2 (0 : Int32) (1 : Int32) p1.2).bind (fun p2 =>
        if p2.1 = 0 then
          some ((-2 : Int32), p2.2)
        else
          (X11_playEvening i0  p2.2).bind (fun p3 =>
            if p3.1 = 0 then
              gd (ib x1 10) (
                iw (p3.2.1 (rf (rf (rf i0 5) 0) 0) x1.toNatClampNeg) (fun v4 =>
                  if x2 = 0 then
                    X11_behind_b68 i0  v4 p3.2
                  else
                    gd (ib v4 10) (
                      X11_behind_b68 i0  (p3.2.1 (rf (rf (rf i0 5) 0) 1) v4.toNatClampNeg) p3.2)))
            else
              some (p3.1, p3.2))))
set_option maxHeartbeats 4000000 in
set_option maxRecDepth 100000 in
theorem t_X11_behind_b68 {X : Scr} {i0 : Nat} (h0 : KD[i0]? = some (.inl 11)) (s0 : Int32) (M : Mem) : T X eI (X11_behind_b68 i0  s0 M) md_X11_behind 68 [] [.int s0] M := by
  unfold X11_behind_b68
  exact T_iret dX11_behind_68 rfl
set_option maxHeartbeats 4000000 in
set_option maxRecDepth 100000 in
theorem t_X11_behind {X : Scr} {i0 : Nat} (h0 : KD[i0]? = some (.inl 11)) (x1 : Int32) (x2 : Int32) (M : Mem) : T X eI (X11_behind i0  x1 x2 M) md_X11_behind 0 [(0, .ref i0), (1, .int x1), (2, .int x2)] [] M := by
  unfold X11_behind
  refine T_iload_n 1 dX11_behind_0 rfl rfl ?_
  refine T_callSI md_X11_isCabin [.int x1] [] dX11_behind_1 rfl ok_X11_isCabin tb_358 tb_359 (by decide) (Nat.le_of_ble_eq_true rfl) (fun _ _ h9 => C_X11_isCabin  _ h9) (fun r1 M1 => ?_)
  dsimp only
  refine T_if_ne 9 dX11_behind_4 (by decide) ?_ ?_
  ·
    refine T_iconst (v := (-1 : Int32)) (by decide) dX11_behind_7 ?_
    exact T_iret dX11_behind_8 rfl
  ·
    refine T_iload_n 2 dX11_behind_9 rfl rfl ?_
    refine T_iconst (v := (0 : Int32)) (by decide) dX11_behind_10 ?_
    refine T_iconst (v := (1 : Int32)) (by decide) dX11_behind_11 ?_
    refine T_callSI md_X11_isWithin [.int x2, .int (0 : Int32), .int (1 : Int32)] [] dX11_behind_12 rfl ok_X11_isWithin tb_361 tb_362 (by decide) (Nat.le_of_ble_eq_true rfl) (fun _ _ h9 => C_X11_isWithin  _ _ _ h9) (fun r2 M2 => ?_)
    dsimp only
    refine T_if_ne 21 dX11_behind_15 (by decide) ?_ ?_
    ·
      refine T_bipush (v := (-2 : Int32)) (by decide) dX11_behind_18 ?_
      exact T_iret dX11_behind_20 rfl
    ·
      refine T_aload_n 0 dX11_behind_21 rfl rfl ?_
      refine T_callVI md_X11_playEvening [] [] dX11_behind_22 h0 rfl rfl ok_X11_playEvening tb_427 tb_429 tb_0 (by decide) (Nat.le_of_ble_eq_true rfl) (fun _ _ h9 => C_X11_playEvening h0  h9) (fun r3 M3 => ?_)
      dsimp only
      refine T_istore_n [(3, .int r3), (0, .ref i0), (1, .int x1), (2, .int x2)] dX11_behind_25 rfl (by decide) rfl ?_
      refine T_iload_n 0 dX11_behind_26 rfl rfl ?_
      refine T_if_eq 32 dX11_behind_27 (by decide) ?_ ?_
      ·
        refine T_aload_n 1 dX11_behind_32 rfl rfl ?_
        refine T_getR 5 FOk_11 h0 (by decide) (by decide) dX11_behind_33 tb_322 ?_
        refine T_getR 0 FOk_2 (kf_11_5 h0) (by decide) (by decide) dX11_behind_36 tb_184 ?_
        refine T_getR 0 FOk_0 (kf_2_0 (kf_11_5 h0)) (by decide) (by decide) dX11_behind_39 tb_77 ?_
        refine T_iload_n 2 dX11_behind_42 rfl rfl ?_
        refine T_iald (kf_0_0 (kf_2_0 (kf_11_5 h0))) dX11_behind_43 ?_
        refine T_iw (fun v4 => ?_)
        try dsimp only
        refine T_istore [(4, .int v4), (3, .int r3), (0, .ref i0), (1, .int x1), (2, .int x2)] dX11_behind_44 (by decide) rfl ?_
        refine T_iload_n 4 dX11_behind_46 rfl rfl ?_
        refine T_if_ne 55 dX11_behind_47 (by decide) ?_ ?_
        ·
          refine T_iload 0 dX11_behind_50 rfl ?_
          refine T_goto 68 dX11_behind_52 (by decide) ?_
          refine T_sub [] (lv' := []) rfl ?_
          exact t_X11_behind_b68 h0  _ _
        ·
          refine T_aload_n 2 dX11_behind_55 rfl rfl ?_
          refine T_getR 5 FOk_11 h0 (by decide) (by decide) dX11_behind_56 tb_322 ?_
          refine T_getR 0 FOk_2 (kf_11_5 h0) (by decide) (by decide) dX11_behind_59 tb_184 ?_
          refine T_getR 1 FOk_0 (kf_2_0 (kf_11_5 h0)) (by decide) (by decide) dX11_behind_62 tb_79 ?_
          refine T_iload 0 dX11_behind_65 rfl ?_
          refine T_iald (kf_0_1 (kf_2_0 (kf_11_5 h0))) dX11_behind_67 ?_
          refine T_sub [] (lv' := []) rfl ?_
          exact t_X11_behind_b68 h0  _ _
      ·
        refine T_iload_n 0 dX11_behind_30 rfl rfl ?_
        exact T_iret dX11_behind_31 rfl
theorem C_X11_behind {X : Scr} {i0 : Nat} (h0 : KD[i0]? = some (.inl 11)) (x1 : Int32) (x2 : Int32) {M : Mem} {r : Int32} {M' : Mem} (h : X11_behind i0 x1 x2 M = some (r, M')) : Ct X md_X11_behind [.ref i0, .int x1, .int x2] M (eI r) M' := Ct_of (by decide +kernel) (Nat.le_of_ble_eq_true rfl) (t_X11_behind h0 _ _ M) r M' h
-- X11_his
def X11_his (i0 : Nat)  (x1 : Int32) (M : Mem) : Option (Int32 × Mem) :=
  (X11_isWithin  x1 (0 : Int32) (3 : Int32) M).bind (fun p1 =>
    if p1.1 = 0 then
      some ((-2 : Int32), p1.2)
    else
      (X11_playEvening i0  p1.2).bind (fun p2 =>
        if p2.1 = 0 then
          if x1 = (0 : Int32) then
            some ((p2.2.1 (rf (rf i0 5) 0) 3), p2.2)
          else if x1 = (1 : Int32) then
            some ((p2.2.1 (rf (rf i0 5) 0) 4), p2.2)
          else if x1 = (2 : Int32) then
            some ((p2.2.1 (rf (rf i0 5) 0) 5), p2.2)
          else 
            some ((p2.2.1 (rf (rf i0 5) 0) 6), p2.2)
        else
          some (p2.1, p2.2)))
set_option maxHeartbeats 4000000 in
set_option maxRecDepth 100000 in
theorem t_X11_his {X : Scr} {i0 : Nat} (h0 : KD[i0]? = some (.inl 11)) (x1 : Int32) (M : Mem) : T X eI (X11_his i0  x1 M) md_X11_his 0 [(0, .ref i0), (1, .int x1)] [] M := by
  unfold X11_his
  refine T_iload_n 1 dX11_his_0 rfl rfl ?_
  refine T_iconst (v := (0 : Int32)) (by decide) dX11_his_1 ?_
  refine T_iconst (v := (3 : Int32)) (by decide) dX11_his_2 ?_
  refine T_callSI md_X11_isWithin [.int x1, .int (0 : Int32), .int (3 : Int32)] [] dX11_his_3 rfl ok_X11_isWithin tb_361 tb_362 (by decide) (Nat.le_of_ble_eq_true rfl) (fun _ _ h9 => C_X11_isWithin  _ _ _ h9) (fun r1 M1 => ?_)
  dsimp only
  refine T_if_ne 12 dX11_his_6 (by decide) ?_ ?_
  ·
    refine T_bipush (v := (-2 : Int32)) (by decide) dX11_his_9 ?_
    exact T_iret dX11_his_11 rfl
  ·
    refine T_aload_n 0 dX11_his_12 rfl rfl ?_
    refine T_callVI md_X11_playEvening [] [] dX11_his_13 h0 rfl rfl ok_X11_playEvening tb_427 tb_429 tb_0 (by decide) (Nat.le_of_ble_eq_true rfl) (fun _ _ h9 => C_X11_playEvening h0  h9) (fun r2 M2 => ?_)
    dsimp only
    refine T_istore_n [(2, .int r2), (0, .ref i0), (1, .int x1)] dX11_his_16 rfl (by decide) rfl ?_
    refine T_iload_n 0 dX11_his_17 rfl rfl ?_
    refine T_if_eq 23 dX11_his_18 (by decide) ?_ ?_
    ·
      refine T_iload_n 2 dX11_his_23 rfl rfl ?_
      refine T_ite (fun hx2_0 => ?_) (fun hx2_0 => ?_)
      ·
        refine T_tabIn (off := 28) 52 dX11_his_24 (by rw [hx2_0]; decide) (by rw [hx2_0]; decide) (by rw [hx2_0]; decide) (by decide) ?_
        refine T_aload_n 1 dX11_his_52 rfl rfl ?_
        refine T_getR 5 FOk_11 h0 (by decide) (by decide) dX11_his_53 tb_322 ?_
        refine T_getR 0 FOk_2 (kf_11_5 h0) (by decide) (by decide) dX11_his_56 tb_184 ?_
        refine T_getI 3 FOk_0 (kf_2_0 (kf_11_5 h0)) (by decide) (by decide) dX11_his_59 tb_88 ?_
        exact T_iret dX11_his_62 rfl
      refine T_ite (fun hx2_1 => ?_) (fun hx2_1 => ?_)
      ·
        refine T_tabIn (off := 39) 63 dX11_his_24 (by rw [hx2_1]; decide) (by rw [hx2_1]; decide) (by rw [hx2_1]; decide) (by decide) ?_
        refine T_aload_n 1 dX11_his_63 rfl rfl ?_
        refine T_getR 5 FOk_11 h0 (by decide) (by decide) dX11_his_64 tb_322 ?_
        refine T_getR 0 FOk_2 (kf_11_5 h0) (by decide) (by decide) dX11_his_67 tb_184 ?_
        refine T_getI 4 FOk_0 (kf_2_0 (kf_11_5 h0)) (by decide) (by decide) dX11_his_70 tb_90 ?_
        exact T_iret dX11_his_73 rfl
      refine T_ite (fun hx2_2 => ?_) (fun hx2_2 => ?_)
      ·
        refine T_tabIn (off := 50) 74 dX11_his_24 (by rw [hx2_2]; decide) (by rw [hx2_2]; decide) (by rw [hx2_2]; decide) (by decide) ?_
        refine T_aload_n 1 dX11_his_74 rfl rfl ?_
        refine T_getR 5 FOk_11 h0 (by decide) (by decide) dX11_his_75 tb_322 ?_
        refine T_getR 0 FOk_2 (kf_11_5 h0) (by decide) (by decide) dX11_his_78 tb_184 ?_
        refine T_getI 5 FOk_0 (kf_2_0 (kf_11_5 h0)) (by decide) (by decide) dX11_his_81 tb_93 ?_
        exact T_iret dX11_his_84 rfl
      refine T_tabOut 85 dX11_his_24 (tab_out (n := 3) (by decide) (lt_s (lt_s (lt_s lt_0 (lv_neT hx2_0 (by decide))) (lv_neT hx2_1 (by decide))) (lv_neT hx2_2 (by decide)))) (by decide) ?_
      refine T_aload_n 1 dX11_his_85 rfl rfl ?_
      refine T_getR 5 FOk_11 h0 (by decide) (by decide) dX11_his_86 tb_322 ?_
      refine T_getR 0 FOk_2 (kf_11_5 h0) (by decide) (by decide) dX11_his_89 tb_184 ?_
      refine T_getI 6 FOk_0 (kf_2_0 (kf_11_5 h0)) (by decide) (by decide) dX11_his_92 tb_96 ?_
      exact T_iret dX11_his_95 rfl
    ·
      refine T_iload_n 0 dX11_his_21 rfl rfl ?_
      exact T_iret dX11_his_22 rfl
theorem C_X11_his {X : Scr} {i0 : Nat} (h0 : KD[i0]? = some (.inl 11)) (x1 : Int32) {M : Mem} {r : Int32} {M' : Mem} (h : X11_his i0 x1 M = some (r, M')) : Ct X md_X11_his [.ref i0, .int x1] M (eI r) M' := Ct_of (by decide +kernel) (Nat.le_of_ble_eq_true rfl) (t_X11_his h0 _ M) r M' h
-- X11_wrong
def X11_wrong_b60 (i0 : Nat)  (s0 : Int32) (M : Mem) : Option (Int32 × Mem) :=
  some (s0, M)
def X11_wrong (i0 : Nat)  (x1 : Int32) (M : Mem) : Option (Int32 × Mem) :=
  (X11_isWithin  x1 (0 : Int32) (2 : Int32) M).bind (fun p1 =>
    if p1.1 = 0 then
      some ((-2 : Int32), p1.2)
    else
      (X11_playEvening i0  p1.2).bind (fun p2 =>
        if p2.1 = 0 then
          if x1 = 0 then
            (X0_strangers (rf (rf i0 5) 0)  p2.2).bind (fun p3 =>
              some (p3.1, p3.2))
          else
            if x1 = (1 : Int32) then
              X11_wrong_b60 i0  (p2.2.1 (rf i0 5) 5) p2.2
            else
              X11_wrong_b60 i0  (p2.2.1 (rf i0 5) 6) p2.2
        else
          some (p2.1, p2.2)))
set_option maxHeartbeats 4000000 in
set_option maxRecDepth 100000 in
theorem t_X11_wrong_b60 {X : Scr} {i0 : Nat} (h0 : KD[i0]? = some (.inl 11)) (s0 : Int32) (M : Mem) : T X eI (X11_wrong_b60 i0  s0 M) md_X11_wrong 60 [] [.int s0] M := by
  unfold X11_wrong_b60
  exact T_iret dX11_wrong_60 rfl
set_option maxHeartbeats 4000000 in
set_option maxRecDepth 100000 in
theorem t_X11_wrong {X : Scr} {i0 : Nat} (h0 : KD[i0]? = some (.inl 11)) (x1 : Int32) (M : Mem) : T X eI (X11_wrong i0  x1 M) md_X11_wrong 0 [(0, .ref i0), (1, .int x1)] [] M := by
  unfold X11_wrong
  refine T_iload_n 1 dX11_wrong_0 rfl rfl ?_
  refine T_iconst (v := (0 : Int32)) (by decide) dX11_wrong_1 ?_
  refine T_iconst (v := (2 : Int32)) (by decide) dX11_wrong_2 ?_
  refine T_callSI md_X11_isWithin [.int x1, .int (0 : Int32), .int (2 : Int32)] [] dX11_wrong_3 rfl ok_X11_isWithin tb_361 tb_362 (by decide) (Nat.le_of_ble_eq_true rfl) (fun _ _ h9 => C_X11_isWithin  _ _ _ h9) (fun r1 M1 => ?_)
  dsimp only
  refine T_if_ne 12 dX11_wrong_6 (by decide) ?_ ?_
  ·
    refine T_bipush (v := (-2 : Int32)) (by decide) dX11_wrong_9 ?_
    exact T_iret dX11_wrong_11 rfl
  ·
    refine T_aload_n 0 dX11_wrong_12 rfl rfl ?_
    refine T_callVI md_X11_playEvening [] [] dX11_wrong_13 h0 rfl rfl ok_X11_playEvening tb_427 tb_429 tb_0 (by decide) (Nat.le_of_ble_eq_true rfl) (fun _ _ h9 => C_X11_playEvening h0  h9) (fun r2 M2 => ?_)
    dsimp only
    refine T_istore_n [(2, .int r2), (0, .ref i0), (1, .int x1)] dX11_wrong_16 rfl (by decide) rfl ?_
    refine T_iload_n 0 dX11_wrong_17 rfl rfl ?_
    refine T_if_eq 23 dX11_wrong_18 (by decide) ?_ ?_
    ·
      refine T_iload_n 2 dX11_wrong_23 rfl rfl ?_
      refine T_if_ne 38 dX11_wrong_24 (by decide) ?_ ?_
      ·
        refine T_aload_n 1 dX11_wrong_27 rfl rfl ?_
        refine T_getR 5 FOk_11 h0 (by decide) (by decide) dX11_wrong_28 tb_322 ?_
        refine T_getR 0 FOk_2 (kf_11_5 h0) (by decide) (by decide) dX11_wrong_31 tb_184 ?_
        refine T_callVI md_X0_strangers [] [] dX11_wrong_34 (kf_2_0 (kf_11_5 h0)) rfl rfl ok_X0_strangers tb_371 tb_372 tb_373 (by decide) (Nat.le_of_ble_eq_true rfl) (fun _ _ h9 => C_X0_strangers (kf_2_0 (kf_11_5 h0))  h9) (fun r3 M3 => ?_)
        dsimp only
        exact T_iret dX11_wrong_37 rfl
      ·
        refine T_iload_n 2 dX11_wrong_38 rfl rfl ?_
        refine T_iconst (v := (1 : Int32)) (by decide) dX11_wrong_39 ?_
        refine T_icmp_ne 53 dX11_wrong_40 (by decide) ?_ ?_
        ·
          refine T_aload_n 1 dX11_wrong_43 rfl rfl ?_
          refine T_getR 5 FOk_11 h0 (by decide) (by decide) dX11_wrong_44 tb_322 ?_
          refine T_getI 5 FOk_2 (kf_11_5 h0) (by decide) (by decide) dX11_wrong_47 tb_194 ?_
          refine T_goto 60 dX11_wrong_50 (by decide) ?_
          refine T_sub [] (lv' := []) rfl ?_
          exact t_X11_wrong_b60 h0  _ _
        ·
          refine T_aload_n 1 dX11_wrong_53 rfl rfl ?_
          refine T_getR 5 FOk_11 h0 (by decide) (by decide) dX11_wrong_54 tb_322 ?_
          refine T_getI 6 FOk_2 (kf_11_5 h0) (by decide) (by decide) dX11_wrong_57 tb_196 ?_
          refine T_sub [] (lv' := []) rfl ?_
          exact t_X11_wrong_b60 h0  _ _
    ·
      refine T_iload_n 0 dX11_wrong_21 rfl rfl ?_
      exact T_iret dX11_wrong_22 rfl
theorem C_X11_wrong {X : Scr} {i0 : Nat} (h0 : KD[i0]? = some (.inl 11)) (x1 : Int32) {M : Mem} {r : Int32} {M' : Mem} (h : X11_wrong i0 x1 M = some (r, M')) : Ct X md_X11_wrong [.ref i0, .int x1] M (eI r) M' := Ct_of (by decide +kernel) (Nat.le_of_ble_eq_true rfl) (t_X11_wrong h0 _ M) r M' h
