-- X12_leastTake
def X12_leastTake_b88 (i0 : Nat) (k6 : Int32 → Int32 → Int32 → Int32 → Mem → Option (Int32 × Mem)) (k14 : Int32 → Int32 → Int32 → Int32 → Int32 → Mem → Option (Int32 × Mem)) (x1 : Int32) (x2 : Int32) (x4 : Int32) (x5 : Int32) (s0 : Int32) (M : Mem) : Option (Int32 × Mem) :=
  k14 x1 x2 s0 x4 (x5 + (-1 : Int32)) M
def X12_leastTake_b87 (i0 : Nat) (k6 : Int32 → Int32 → Int32 → Int32 → Mem → Option (Int32 × Mem)) (k14 : Int32 → Int32 → Int32 → Int32 → Int32 → Mem → Option (Int32 × Mem)) (x1 : Int32) (x2 : Int32) (x3 : Int32) (x4 : Int32) (x5 : Int32) (M : Mem) : Option (Int32 × Mem) :=
  X12_leastTake_b88 i0 k6 k14 x1 x2 x4 x5 x3 M
def X12_leastTake_b49 (i0 : Nat) (k6 : Int32 → Int32 → Int32 → Int32 → Mem → Option (Int32 × Mem)) (k14 : Int32 → Int32 → Int32 → Int32 → Int32 → Mem → Option (Int32 × Mem)) (x1 : Int32) (x2 : Int32) (x3 : Int32) (x4 : Int32) (x5 : Int32) (s0 : Int32) (M : Mem) : Option (Int32 × Mem) :=
  if s0 = 0 then
    X12_leastTake_b87 i0 k6 k14 x1 x2 x3 x4 x5 M
  else
    gd (ib ((((21 : Int32) * (x1 - x4)) + x2) - x5) 441) (
      if (M.1 (rf i0 25) ((((21 : Int32) * (x1 - x4)) + x2) - x5).toNatClampNeg) = 0 then
        X12_leastTake_b88 i0 k6 k14 x1 x2 x4 x5 (((100 : Int32) * x4) + x5) M
      else
        X12_leastTake_b87 i0 k6 k14 x1 x2 x3 x4 x5 M)
def X12_leastTake_b44 (i0 : Nat) (k6 : Int32 → Int32 → Int32 → Int32 → Mem → Option (Int32 × Mem)) (k14 : Int32 → Int32 → Int32 → Int32 → Int32 → Mem → Option (Int32 × Mem)) (x1 : Int32) (x2 : Int32) (x3 : Int32) (x4 : Int32) (x5 : Int32) (M : Mem) : Option (Int32 × Mem) :=
  X12_leastTake_b49 i0 k6 k14 x1 x2 x3 x4 x5 (1 : Int32) M
def X12_leastTake_b48 (i0 : Nat) (k6 : Int32 → Int32 → Int32 → Int32 → Mem → Option (Int32 × Mem)) (k14 : Int32 → Int32 → Int32 → Int32 → Int32 → Mem → Option (Int32 × Mem)) (x1 : Int32) (x2 : Int32) (x3 : Int32) (x4 : Int32) (x5 : Int32) (M : Mem) : Option (Int32 × Mem) :=
  X12_leastTake_b49 i0 k6 k14 x1 x2 x3 x4 x5 (0 : Int32) M
def X12_leastTake_b14 (i0 : Nat) (k6 : Int32 → Int32 → Int32 → Int32 → Mem → Option (Int32 × Mem)) (k14 : Int32 → Int32 → Int32 → Int32 → Int32 → Mem → Option (Int32 × Mem)) (x1 : Int32) (x2 : Int32) (x3 : Int32) (x4 : Int32) (x5 : Int32) (M : Mem) : Option (Int32 × Mem) :=
  if x5 < 0 then
    k6 x1 x2 x3 (x4 + (-1 : Int32)) M
  else
    if (x4 + x5) ≤ 0 then
      X12_leastTake_b48 i0 k6 k14 x1 x2 x3 x4 x5 M
    else
      if x4 = 0 then
        X12_leastTake_b44 i0 k6 k14 x1 x2 x3 x4 x5 M
      else
        if x5 = 0 then
          X12_leastTake_b44 i0 k6 k14 x1 x2 x3 x4 x5 M
        else
          if x4 = x5 then
            X12_leastTake_b44 i0 k6 k14 x1 x2 x3 x4 x5 M
          else
            X12_leastTake_b48 i0 k6 k14 x1 x2 x3 x4 x5 M
def X12_leastTake_l14 (i0 : Nat) (k6 : Int32 → Int32 → Int32 → Int32 → Mem → Option (Int32 × Mem)) : Nat → Int32 → Int32 → Int32 → Int32 → Int32 → Mem → Option (Int32 × Mem)
  | 0 => fun _ _ _ _ _ _ => none
  | n + 1 => X12_leastTake_b14 i0 k6 (X12_leastTake_l14 i0 k6 n)
def X12_leastTake_b6 (i0 : Nat) (k6 : Int32 → Int32 → Int32 → Int32 → Mem → Option (Int32 × Mem)) (x1 : Int32) (x2 : Int32) (x3 : Int32) (x4 : Int32) (M : Mem) : Option (Int32 × Mem) :=
  if x4 < 0 then
    some (x3, M)
  else
    X12_leastTake_l14 i0 k6 FU x1 x2 x3 x4 x2 M
def X12_leastTake_l6 (i0 : Nat)  : Nat → Int32 → Int32 → Int32 → Int32 → Mem → Option (Int32 × Mem)
  | 0 => fun _ _ _ _ _ => none
  | n + 1 => X12_leastTake_b6 i0 (X12_leastTake_l6 i0  n)
def X12_leastTake (i0 : Nat)  (x1 : Int32) (x2 : Int32) (M : Mem) : Option (Int32 × Mem) :=
  X12_leastTake_l6 i0  FU x1 x2 (-6 : Int32) x1 M
set_option maxHeartbeats 4000000 in
set_option maxRecDepth 100000 in
theorem t_X12_leastTake_b88 {X : Scr} {i0 : Nat} (h0 : KD[i0]? = some (.inl 12)) {k6 : Int32 → Int32 → Int32 → Int32 → Mem → Option (Int32 × Mem)} (hk6 : ∀ (x1 : Int32) (x2 : Int32) (x3 : Int32) (x4 : Int32) (M : Mem), T X eI (k6 x1 x2 x3 x4 M) md_X12_leastTake 6 [(0, .ref i0), (1, .int x1), (2, .int x2), (3, .int x3), (4, .int x4)] [] M) {k14 : Int32 → Int32 → Int32 → Int32 → Int32 → Mem → Option (Int32 × Mem)} (hk14 : ∀ (x1 : Int32) (x2 : Int32) (x3 : Int32) (x4 : Int32) (x5 : Int32) (M : Mem), T X eI (k14 x1 x2 x3 x4 x5 M) md_X12_leastTake 14 [(0, .ref i0), (1, .int x1), (2, .int x2), (3, .int x3), (4, .int x4), (5, .int x5)] [] M) (x1 : Int32) (x2 : Int32) (x4 : Int32) (x5 : Int32) (s0 : Int32) (M : Mem) : T X eI (X12_leastTake_b88 i0 k6 k14 x1 x2 x4 x5 s0 M) md_X12_leastTake 88 [(0, .ref i0), (1, .int x1), (2, .int x2), (4, .int x4), (5, .int x5)] [.int s0] M := by
  unfold X12_leastTake_b88
  refine T_istore_n [(3, .int s0), (0, .ref i0), (1, .int x1), (2, .int x2), (4, .int x4), (5, .int x5)] dX12_leastTake_88 rfl (by decide) rfl ?_
  refine T_iinc 5 [(5, .int (x5 + (-1 : Int32))), (3, .int s0), (0, .ref i0), (1, .int x1), (2, .int x2), (4, .int x4)] (v := (-1 : Int32)) dX12_leastTake_89 rfl (by decide) (by decide) rfl ?_
  refine T_goto 14 dX12_leastTake_92 (by decide) ?_
  refine T_sub [2, 3, 4, 1, 5, 0] (lv' := [(0, .ref i0), (1, .int x1), (2, .int x2), (3, .int s0), (4, .int x4), (5, .int (x5 + (-1 : Int32)))]) rfl ?_
  exact hk14 _ _ _ _ _ _
set_option maxHeartbeats 4000000 in
set_option maxRecDepth 100000 in
theorem t_X12_leastTake_b87 {X : Scr} {i0 : Nat} (h0 : KD[i0]? = some (.inl 12)) {k6 : Int32 → Int32 → Int32 → Int32 → Mem → Option (Int32 × Mem)} (hk6 : ∀ (x1 : Int32) (x2 : Int32) (x3 : Int32) (x4 : Int32) (M : Mem), T X eI (k6 x1 x2 x3 x4 M) md_X12_leastTake 6 [(0, .ref i0), (1, .int x1), (2, .int x2), (3, .int x3), (4, .int x4)] [] M) {k14 : Int32 → Int32 → Int32 → Int32 → Int32 → Mem → Option (Int32 × Mem)} (hk14 : ∀ (x1 : Int32) (x2 : Int32) (x3 : Int32) (x4 : Int32) (x5 : Int32) (M : Mem), T X eI (k14 x1 x2 x3 x4 x5 M) md_X12_leastTake 14 [(0, .ref i0), (1, .int x1), (2, .int x2), (3, .int x3), (4, .int x4), (5, .int x5)] [] M) (x1 : Int32) (x2 : Int32) (x3 : Int32) (x4 : Int32) (x5 : Int32) (M : Mem) : T X eI (X12_leastTake_b87 i0 k6 k14 x1 x2 x3 x4 x5 M) md_X12_leastTake 87 [(0, .ref i0), (1, .int x1), (2, .int x2), (3, .int x3), (4, .int x4), (5, .int x5)] [] M := by
  unfold X12_leastTake_b87
  refine T_iload_n 3 dX12_leastTake_87 rfl rfl ?_
  refine T_sub [0, 1, 2, 4, 5] (lv' := [(0, .ref i0), (1, .int x1), (2, .int x2), (4, .int x4), (5, .int x5)]) rfl ?_
  exact t_X12_leastTake_b88 h0 hk6 hk14 _ _ _ _ _ _
set_option maxHeartbeats 4000000 in
set_option maxRecDepth 100000 in
theorem t_X12_leastTake_b49 {X : Scr} {i0 : Nat} (h0 : KD[i0]? = some (.inl 12)) {k6 : Int32 → Int32 → Int32 → Int32 → Mem → Option (Int32 × Mem)} (hk6 : ∀ (x1 : Int32) (x2 : Int32) (x3 : Int32) (x4 : Int32) (M : Mem), T X eI (k6 x1 x2 x3 x4 M) md_X12_leastTake 6 [(0, .ref i0), (1, .int x1), (2, .int x2), (3, .int x3), (4, .int x4)] [] M) {k14 : Int32 → Int32 → Int32 → Int32 → Int32 → Mem → Option (Int32 × Mem)} (hk14 : ∀ (x1 : Int32) (x2 : Int32) (x3 : Int32) (x4 : Int32) (x5 : Int32) (M : Mem), T X eI (k14 x1 x2 x3 x4 x5 M) md_X12_leastTake 14 [(0, .ref i0), (1, .int x1), (2, .int x2), (3, .int x3), (4, .int x4), (5, .int x5)] [] M) (x1 : Int32) (x2 : Int32) (x3 : Int32) (x4 : Int32) (x5 : Int32) (s0 : Int32) (M : Mem) : T X eI (X12_leastTake_b49 i0 k6 k14 x1 x2 x3 x4 x5 s0 M) md_X12_leastTake 49 [(0, .ref i0), (1, .int x1), (2, .int x2), (3, .int x3), (4, .int x4), (5, .int x5)] [.int s0] M := by
  unfold X12_leastTake_b49
  refine T_istore [(6, .int s0), (0, .ref i0), (1, .int x1), (2, .int x2), (3, .int x3), (4, .int x4), (5, .int x5)] dX12_leastTake_49 (by decide) rfl ?_
  refine T_iload 0 dX12_leastTake_51 rfl ?_
  refine T_if_eq 87 dX12_leastTake_53 (by decide) ?_ ?_
  ·
    refine T_sub [1, 2, 3, 4, 5, 6] (lv' := [(0, .ref i0), (1, .int x1), (2, .int x2), (3, .int x3), (4, .int x4), (5, .int x5)]) rfl ?_
    exact t_X12_leastTake_b87 h0 hk6 hk14 _ _ _ _ _ _
  ·
    refine T_aload_n 1 dX12_leastTake_56 rfl rfl ?_
    refine T_getR 25 FOk_12 h0 (by decide) (by decide) dX12_leastTake_57 tb_738 ?_
    refine T_bipush (v := (21 : Int32)) (by decide) dX12_leastTake_60 ?_
    refine T_iload_n 2 dX12_leastTake_62 rfl rfl ?_
    refine T_iload 5 dX12_leastTake_63 rfl ?_
    refine T_isub dX12_leastTake_65 ?_
    refine T_imul dX12_leastTake_66 ?_
    refine T_iload_n 3 dX12_leastTake_67 rfl rfl ?_
    refine T_iadd dX12_leastTake_68 ?_
    refine T_iload 6 dX12_leastTake_69 rfl ?_
    refine T_isub dX12_leastTake_71 ?_
    refine T_zald (kf_12_25 h0) dX12_leastTake_72 ?_
    refine T_if_ne 87 dX12_leastTake_73 (by decide) ?_ ?_
    ·
      refine T_bipush (v := (100 : Int32)) (by decide) dX12_leastTake_76 ?_
      refine T_iload 5 dX12_leastTake_78 rfl ?_
      refine T_imul dX12_leastTake_80 ?_
      refine T_iload 6 dX12_leastTake_81 rfl ?_
      refine T_iadd dX12_leastTake_83 ?_
      refine T_goto 88 dX12_leastTake_84 (by decide) ?_
      refine T_sub [1, 2, 3, 5, 6] (lv' := [(0, .ref i0), (1, .int x1), (2, .int x2), (4, .int x4), (5, .int x5)]) rfl ?_
      exact t_X12_leastTake_b88 h0 hk6 hk14 _ _ _ _ _ _
    ·
      refine T_sub [1, 2, 3, 4, 5, 6] (lv' := [(0, .ref i0), (1, .int x1), (2, .int x2), (3, .int x3), (4, .int x4), (5, .int x5)]) rfl ?_
      exact t_X12_leastTake_b87 h0 hk6 hk14 _ _ _ _ _ _
set_option maxHeartbeats 4000000 in
set_option maxRecDepth 100000 in
theorem t_X12_leastTake_b44 {X : Scr} {i0 : Nat} (h0 : KD[i0]? = some (.inl 12)) {k6 : Int32 → Int32 → Int32 → Int32 → Mem → Option (Int32 × Mem)} (hk6 : ∀ (x1 : Int32) (x2 : Int32) (x3 : Int32) (x4 : Int32) (M : Mem), T X eI (k6 x1 x2 x3 x4 M) md_X12_leastTake 6 [(0, .ref i0), (1, .int x1), (2, .int x2), (3, .int x3), (4, .int x4)] [] M) {k14 : Int32 → Int32 → Int32 → Int32 → Int32 → Mem → Option (Int32 × Mem)} (hk14 : ∀ (x1 : Int32) (x2 : Int32) (x3 : Int32) (x4 : Int32) (x5 : Int32) (M : Mem), T X eI (k14 x1 x2 x3 x4 x5 M) md_X12_leastTake 14 [(0, .ref i0), (1, .int x1), (2, .int x2), (3, .int x3), (4, .int x4), (5, .int x5)] [] M) (x1 : Int32) (x2 : Int32) (x3 : Int32) (x4 : Int32) (x5 : Int32) (M : Mem) : T X eI (X12_leastTake_b44 i0 k6 k14 x1 x2 x3 x4 x5 M) md_X12_leastTake 44 [(0, .ref i0), (1, .int x1), (2, .int x2), (3, .int x3), (4, .int x4), (5, .int x5)] [] M := by
  unfold X12_leastTake_b44
  refine T_iconst (v := (1 : Int32)) (by decide) dX12_leastTake_44 ?_
  refine T_goto 49 dX12_leastTake_45 (by decide) ?_
  exact t_X12_leastTake_b49 h0 hk6 hk14 _ _ _ _ _ _ _
set_option maxHeartbeats 4000000 in
set_option maxRecDepth 100000 in
theorem t_X12_leastTake_b48 {X : Scr} {i0 : Nat} (h0 : KD[i0]? = some (.inl 12)) {k6 : Int32 → Int32 → Int32 → Int32 → Mem → Option (Int32 × Mem)} (hk6 : ∀ (x1 : Int32) (x2 : Int32) (x3 : Int32) (x4 : Int32) (M : Mem), T X eI (k6 x1 x2 x3 x4 M) md_X12_leastTake 6 [(0, .ref i0), (1, .int x1), (2, .int x2), (3, .int x3), (4, .int x4)] [] M) {k14 : Int32 → Int32 → Int32 → Int32 → Int32 → Mem → Option (Int32 × Mem)} (hk14 : ∀ (x1 : Int32) (x2 : Int32) (x3 : Int32) (x4 : Int32) (x5 : Int32) (M : Mem), T X eI (k14 x1 x2 x3 x4 x5 M) md_X12_leastTake 14 [(0, .ref i0), (1, .int x1), (2, .int x2), (3, .int x3), (4, .int x4), (5, .int x5)] [] M) (x1 : Int32) (x2 : Int32) (x3 : Int32) (x4 : Int32) (x5 : Int32) (M : Mem) : T X eI (X12_leastTake_b48 i0 k6 k14 x1 x2 x3 x4 x5 M) md_X12_leastTake 48 [(0, .ref i0), (1, .int x1), (2, .int x2), (3, .int x3), (4, .int x4), (5, .int x5)] [] M := by
  unfold X12_leastTake_b48
  refine T_iconst (v := (0 : Int32)) (by decide) dX12_leastTake_48 ?_
  exact t_X12_leastTake_b49 h0 hk6 hk14 _ _ _ _ _ _ _
set_option maxHeartbeats 4000000 in
set_option maxRecDepth 100000 in
theorem t_X12_leastTake_b14 {X : Scr} {i0 : Nat} (h0 : KD[i0]? = some (.inl 12)) {k6 : Int32 → Int32 → Int32 → Int32 → Mem → Option (Int32 × Mem)} (hk6 : ∀ (x1 : Int32) (x2 : Int32) (x3 : Int32) (x4 : Int32) (M : Mem), T X eI (k6 x1 x2 x3 x4 M) md_X12_leastTake 6 [(0, .ref i0), (1, .int x1), (2, .int x2), (3, .int x3), (4, .int x4)] [] M) {k14 : Int32 → Int32 → Int32 → Int32 → Int32 → Mem → Option (Int32 × Mem)} (hk14 : ∀ (x1 : Int32) (x2 : Int32) (x3 : Int32) (x4 : Int32) (x5 : Int32) (M : Mem), T X eI (k14 x1 x2 x3 x4 x5 M) md_X12_leastTake 14 [(0, .ref i0), (1, .int x1), (2, .int x2), (3, .int x3), (4, .int x4), (5, .int x5)] [] M) (x1 : Int32) (x2 : Int32) (x3 : Int32) (x4 : Int32) (x5 : Int32) (M : Mem) : T X eI (X12_leastTake_b14 i0 k6 k14 x1 x2 x3 x4 x5 M) md_X12_leastTake 14 [(0, .ref i0), (1, .int x1), (2, .int x2), (3, .int x3), (4, .int x4), (5, .int x5)] [] M := by
  unfold X12_leastTake_b14
  refine T_iload 5 dX12_leastTake_14 rfl ?_
  refine T_if_lt 95 dX12_leastTake_16 (by decide) ?_ ?_
  ·
    refine T_iinc 4 [(4, .int (x4 + (-1 : Int32))), (0, .ref i0), (1, .int x1), (2, .int x2), (3, .int x3), (5, .int x5)] (v := (-1 : Int32)) dX12_leastTake_95 rfl (by decide) (by decide) rfl ?_
    refine T_goto 6 dX12_leastTake_98 (by decide) ?_
    refine T_sub [1, 2, 3, 4, 0] (lv' := [(0, .ref i0), (1, .int x1), (2, .int x2), (3, .int x3), (4, .int (x4 + (-1 : Int32)))]) rfl ?_
    exact hk6 _ _ _ _ _
  ·
    refine T_iload 4 dX12_leastTake_19 rfl ?_
    refine T_iload 5 dX12_leastTake_21 rfl ?_
    refine T_iadd dX12_leastTake_23 ?_
    refine T_if_le 48 dX12_leastTake_24 (by decide) ?_ ?_
    ·
      exact t_X12_leastTake_b48 h0 hk6 hk14 _ _ _ _ _ _
    ·
      refine T_iload 4 dX12_leastTake_27 rfl ?_
      refine T_if_eq 44 dX12_leastTake_29 (by decide) ?_ ?_
      ·
        exact t_X12_leastTake_b44 h0 hk6 hk14 _ _ _ _ _ _
      ·
        refine T_iload 5 dX12_leastTake_32 rfl ?_
        refine T_if_eq 44 dX12_leastTake_34 (by decide) ?_ ?_
        ·
          exact t_X12_leastTake_b44 h0 hk6 hk14 _ _ _ _ _ _
        ·
          refine T_iload 4 dX12_leastTake_37 rfl ?_
          refine T_iload 5 dX12_leastTake_39 rfl ?_
          refine T_icmp_ne 48 dX12_leastTake_41 (by decide) ?_ ?_
          ·
            exact t_X12_leastTake_b44 h0 hk6 hk14 _ _ _ _ _ _
          ·
            exact t_X12_leastTake_b48 h0 hk6 hk14 _ _ _ _ _ _
theorem t_X12_leastTake_l14 {X : Scr} {i0 : Nat} (h0 : KD[i0]? = some (.inl 12)) {k6 : Int32 → Int32 → Int32 → Int32 → Mem → Option (Int32 × Mem)} (hk6 : ∀ (x1 : Int32) (x2 : Int32) (x3 : Int32) (x4 : Int32) (M : Mem), T X eI (k6 x1 x2 x3 x4 M) md_X12_leastTake 6 [(0, .ref i0), (1, .int x1), (2, .int x2), (3, .int x3), (4, .int x4)] [] M) (n : Nat) : ∀ (x1 : Int32) (x2 : Int32) (x3 : Int32) (x4 : Int32) (x5 : Int32) (M : Mem), T X eI (X12_leastTake_l14 i0 k6 n x1 x2 x3 x4 x5 M) md_X12_leastTake 14 [(0, .ref i0), (1, .int x1), (2, .int x2), (3, .int x3), (4, .int x4), (5, .int x5)] [] M := by
  induction n with
  | zero => intro x1 x2 x3 x4 x5 M; exact T_none
  | succ n ih => intro x1 x2 x3 x4 x5 M; exact t_X12_leastTake_b14 h0 hk6 ih x1 x2 x3 x4 x5 M
set_option maxHeartbeats 4000000 in
set_option maxRecDepth 100000 in
theorem t_X12_leastTake_b6 {X : Scr} {i0 : Nat} (h0 : KD[i0]? = some (.inl 12)) {k6 : Int32 → Int32 → Int32 → Int32 → Mem → Option (Int32 × Mem)} (hk6 : ∀ (x1 : Int32) (x2 : Int32) (x3 : Int32) (x4 : Int32) (M : Mem), T X eI (k6 x1 x2 x3 x4 M) md_X12_leastTake 6 [(0, .ref i0), (1, .int x1), (2, .int x2), (3, .int x3), (4, .int x4)] [] M) (x1 : Int32) (x2 : Int32) (x3 : Int32) (x4 : Int32) (M : Mem) : T X eI (X12_leastTake_b6 i0 k6 x1 x2 x3 x4 M) md_X12_leastTake 6 [(0, .ref i0), (1, .int x1), (2, .int x2), (3, .int x3), (4, .int x4)] [] M := by
  unfold X12_leastTake_b6
  refine T_iload 4 dX12_leastTake_6 rfl ?_
  refine T_if_lt 101 dX12_leastTake_8 (by decide) ?_ ?_
  ·
    refine T_iload_n 3 dX12_leastTake_101 rfl rfl ?_
    exact T_iret dX12_leastTake_102 rfl
  ·
    refine T_iload_n 2 dX12_leastTake_11 rfl rfl ?_
    refine T_istore [(5, .int x2), (0, .ref i0), (1, .int x1), (2, .int x2), (3, .int x3), (4, .int x4)] dX12_leastTake_12 (by decide) rfl ?_
    refine T_sub [1, 2, 3, 4, 5, 0] (lv' := [(0, .ref i0), (1, .int x1), (2, .int x2), (3, .int x3), (4, .int x4), (5, .int x2)]) rfl ?_
    exact t_X12_leastTake_l14 h0 hk6 _ _ _ _ _ _ _
theorem t_X12_leastTake_l6 {X : Scr} {i0 : Nat} (h0 : KD[i0]? = some (.inl 12)) (n : Nat) : ∀ (x1 : Int32) (x2 : Int32) (x3 : Int32) (x4 : Int32) (M : Mem), T X eI (X12_leastTake_l6 i0  n x1 x2 x3 x4 M) md_X12_leastTake 6 [(0, .ref i0), (1, .int x1), (2, .int x2), (3, .int x3), (4, .int x4)] [] M := by
  induction n with
  | zero => intro x1 x2 x3 x4 M; exact T_none
  | succ n ih => intro x1 x2 x3 x4 M; exact t_X12_leastTake_b6 h0 ih x1 x2 x3 x4 M
set_option maxHeartbeats 4000000 in
set_option maxRecDepth 100000 in
theorem t_X12_leastTake {X : Scr} {i0 : Nat} (h0 : KD[i0]? = some (.inl 12)) (x1 : Int32) (x2 : Int32) (M : Mem) : T X eI (X12_leastTake i0  x1 x2 M) md_X12_leastTake 0 [(0, .ref i0), (1, .int x1), (2, .int x2)] [] M := by
  unfold X12_leastTake
  refine T_bipush (v := (-6 : Int32)) (by decide) dX12_leastTake_0 ?_
  refine T_istore_n [(3, .int (-6 : Int32)), (0, .ref i0), (1, .int x1), (2, .int x2)] dX12_leastTake_2 rfl (by decide) rfl ?_
  refine T_iload_n 2 dX12_leastTake_3 rfl rfl ?_
  refine T_istore [(4, .int x1), (3, .int (-6 : Int32)), (0, .ref i0), (1, .int x1), (2, .int x2)] dX12_leastTake_4 (by decide) rfl ?_
  refine T_sub [2, 3, 4, 1, 0] (lv' := [(0, .ref i0), (1, .int x1), (2, .int x2), (3, .int (-6 : Int32)), (4, .int x1)]) rfl ?_
  exact t_X12_leastTake_l6 h0  _ _ _ _ _ _
theorem C_X12_leastTake {X : Scr} {i0 : Nat} (h0 : KD[i0]? = some (.inl 12)) (x1 : Int32) (x2 : Int32) {M : Mem} {r : Int32} {M' : Mem} (h : X12_leastTake i0 x1 x2 M = some (r, M')) : Ct X md_X12_leastTake [.ref i0, .int x1, .int x2] M (eI r) M' := Ct_of (by decide +kernel) (Nat.le_of_ble_eq_true rfl) (t_X12_leastTake h0 _ _ M) r M' h
-- X12_leastTakeWins
def X12_leastTakeWins_b86 (i0 : Nat) (k5 : Int32 → Int32 → Int32 → Int32 → Mem → Option (Int32 × Mem)) (k14 : Int32 → Int32 → Int32 → Int32 → Int32 → Mem → Option (Int32 × Mem)) (x1 : Int32) (x2 : Int32) (x4 : Int32) (x5 : Int32) (s0 : Int32) (M : Mem) : Option (Int32 × Mem) :=
  k14 x1 x2 s0 x4 (x5 + (1 : Int32)) M
def X12_leastTakeWins_b81 (i0 : Nat) (k5 : Int32 → Int32 → Int32 → Int32 → Mem → Option (Int32 × Mem)) (k14 : Int32 → Int32 → Int32 → Int32 → Int32 → Mem → Option (Int32 × Mem)) (x1 : Int32) (x2 : Int32) (x4 : Int32) (x5 : Int32) (M : Mem) : Option (Int32 × Mem) :=
  X12_leastTakeWins_b86 i0 k5 k14 x1 x2 x4 x5 (1 : Int32) M
def X12_leastTakeWins_b85 (i0 : Nat) (k5 : Int32 → Int32 → Int32 → Int32 → Mem → Option (Int32 × Mem)) (k14 : Int32 → Int32 → Int32 → Int32 → Int32 → Mem → Option (Int32 × Mem)) (x1 : Int32) (x2 : Int32) (x4 : Int32) (x5 : Int32) (M : Mem) : Option (Int32 × Mem) :=
  X12_leastTakeWins_b86 i0 k5 k14 x1 x2 x4 x5 (0 : Int32) M
def X12_leastTakeWins_b50 (i0 : Nat) (k5 : Int32 → Int32 → Int32 → Int32 → Mem → Option (Int32 × Mem)) (k14 : Int32 → Int32 → Int32 → Int32 → Int32 → Mem → Option (Int32 × Mem)) (x1 : Int32) (x2 : Int32) (x3 : Int32) (x4 : Int32) (x5 : Int32) (s0 : Int32) (M : Mem) : Option (Int32 × Mem) :=
  if x3 = 0 then
    if s0 = 0 then
      X12_leastTakeWins_b85 i0 k5 k14 x1 x2 x4 x5 M
    else
      gd (ib ((((21 : Int32) * (x1 - x4)) + x2) - x5) 441) (
        if (M.1 (rf i0 25) ((((21 : Int32) * (x1 - x4)) + x2) - x5).toNatClampNeg) = 0 then
          X12_leastTakeWins_b81 i0 k5 k14 x1 x2 x4 x5 M
        else
          X12_leastTakeWins_b85 i0 k5 k14 x1 x2 x4 x5 M)
  else
    X12_leastTakeWins_b81 i0 k5 k14 x1 x2 x4 x5 M
def X12_leastTakeWins_b45 (i0 : Nat) (k5 : Int32 → Int32 → Int32 → Int32 → Mem → Option (Int32 × Mem)) (k14 : Int32 → Int32 → Int32 → Int32 → Int32 → Mem → Option (Int32 × Mem)) (x1 : Int32) (x2 : Int32) (x3 : Int32) (x4 : Int32) (x5 : Int32) (M : Mem) : Option (Int32 × Mem) :=
  X12_leastTakeWins_b50 i0 k5 k14 x1 x2 x3 x4 x5 (1 : Int32) M
def X12_leastTakeWins_b49 (i0 : Nat) (k5 : Int32 → Int32 → Int32 → Int32 → Mem → Option (Int32 × Mem)) (k14 : Int32 → Int32 → Int32 → Int32 → Int32 → Mem → Option (Int32 × Mem)) (x1 : Int32) (x2 : Int32) (x3 : Int32) (x4 : Int32) (x5 : Int32) (M : Mem) : Option (Int32 × Mem) :=
  X12_leastTakeWins_b50 i0 k5 k14 x1 x2 x3 x4 x5 (0 : Int32) M
def X12_leastTakeWins_b14 (i0 : Nat) (k5 : Int32 → Int32 → Int32 → Int32 → Mem → Option (Int32 × Mem)) (k14 : Int32 → Int32 → Int32 → Int32 → Int32 → Mem → Option (Int32 × Mem)) (x1 : Int32) (x2 : Int32) (x3 : Int32) (x4 : Int32) (x5 : Int32) (M : Mem) : Option (Int32 × Mem) :=
  if x2 < x5 then
    k5 x1 x2 x3 (x4 + (1 : Int32)) M
  else
    if (x4 + x5) ≤ 0 then
      X12_leastTakeWins_b49 i0 k5 k14 x1 x2 x3 x4 x5 M
    else
      if x4 = 0 then
        X12_leastTakeWins_b45 i0 k5 k14 x1 x2 x3 x4 x5 M
      else
        if x5 = 0 then
          X12_leastTakeWins_b45 i0 k5 k14 x1 x2 x3 x4 x5 M
        else
          if x4 = x5 then
            X12_leastTakeWins_b45 i0 k5 k14 x1 x2 x3 x4 x5 M
          else
            X12_leastTakeWins_b49 i0 k5 k14 x1 x2 x3 x4 x5 M
def X12_leastTakeWins_l14 (i0 : Nat) (k5 : Int32 → Int32 → Int32 → Int32 → Mem → Option (Int32 × Mem)) : Nat → Int32 → Int32 → Int32 → Int32 → Int32 → Mem → Option (Int32 × Mem)
  | 0 => fun _ _ _ _ _ _ => none
  | n + 1 => X12_leastTakeWins_b14 i0 k5 (X12_leastTakeWins_l14 i0 k5 n)
def X12_leastTakeWins_b5 (i0 : Nat) (k5 : Int32 → Int32 → Int32 → Int32 → Mem → Option (Int32 × Mem)) (x1 : Int32) (x2 : Int32) (x3 : Int32) (x4 : Int32) (M : Mem) : Option (Int32 × Mem) :=
  if x1 < x4 then
    gd (x3 == 0 || x3 == 1) (some (x3, M))
  else
    X12_leastTakeWins_l14 i0 k5 FU x1 x2 x3 x4 (0 : Int32) M
def X12_leastTakeWins_l5 (i0 : Nat)  : Nat → Int32 → Int32 → Int32 → Int32 → Mem → Option (Int32 × Mem)
  | 0 => fun _ _ _ _ _ => none
  | n + 1 => X12_leastTakeWins_b5 i0 (X12_leastTakeWins_l5 i0  n)
def X12_leastTakeWins (i0 : Nat)  (x1 : Int32) (x2 : Int32) (M : Mem) : Option (Int32 × Mem) :=
  X12_leastTakeWins_l5 i0  FU x1 x2 (0 : Int32) (0 : Int32) M
set_option maxHeartbeats 4000000 in
set_option maxRecDepth 100000 in
theorem t_X12_leastTakeWins_b86 {X : Scr} {i0 : Nat} (h0 : KD[i0]? = some (.inl 12)) {k5 : Int32 → Int32 → Int32 → Int32 → Mem → Option (Int32 × Mem)} (hk5 : ∀ (x1 : Int32) (x2 : Int32) (x3 : Int32) (x4 : Int32) (M : Mem), T X eI (k5 x1 x2 x3 x4 M) md_X12_leastTakeWins 5 [(0, .ref i0), (1, .int x1), (2, .int x2), (3, .int x3), (4, .int x4)] [] M) {k14 : Int32 → Int32 → Int32 → Int32 → Int32 → Mem → Option (Int32 × Mem)} (hk14 : ∀ (x1 : Int32) (x2 : Int32) (x3 : Int32) (x4 : Int32) (x5 : Int32) (M : Mem), T X eI (k14 x1 x2 x3 x4 x5 M) md_X12_leastTakeWins 14 [(0, .ref i0), (1, .int x1), (2, .int x2), (3, .int x3), (4, .int x4), (5, .int x5)] [] M) (x1 : Int32) (x2 : Int32) (x4 : Int32) (x5 : Int32) (s0 : Int32) (M : Mem) : T X eI (X12_leastTakeWins_b86 i0 k5 k14 x1 x2 x4 x5 s0 M) md_X12_leastTakeWins 86 [(0, .ref i0), (1, .int x1), (2, .int x2), (4, .int x4), (5, .int x5)] [.int s0] M := by
  unfold X12_leastTakeWins_b86
  refine T_istore_n [(3, .int s0), (0, .ref i0), (1, .int x1), (2, .int x2), (4, .int x4), (5, .int x5)] dX12_leastTakeWins_86 rfl (by decide) rfl ?_
  refine T_iinc 5 [(5, .int (x5 + (1 : Int32))), (3, .int s0), (0, .ref i0), (1, .int x1), (2, .int x2), (4, .int x4)] (v := (1 : Int32)) dX12_leastTakeWins_87 rfl (by decide) (by decide) rfl ?_
  refine T_goto 14 dX12_leastTakeWins_90 (by decide) ?_
  refine T_sub [2, 3, 4, 1, 5, 0] (lv' := [(0, .ref i0), (1, .int x1), (2, .int x2), (3, .int s0), (4, .int x4), (5, .int (x5 + (1 : Int32)))]) rfl ?_
  exact hk14 _ _ _ _ _ _
set_option maxHeartbeats 4000000 in
set_option maxRecDepth 100000 in
theorem t_X12_leastTakeWins_b81 {X : Scr} {i0 : Nat} (h0 : KD[i0]? = some (.inl 12)) {k5 : Int32 → Int32 → Int32 → Int32 → Mem → Option (Int32 × Mem)} (hk5 : ∀ (x1 : Int32) (x2 : Int32) (x3 : Int32) (x4 : Int32) (M : Mem), T X eI (k5 x1 x2 x3 x4 M) md_X12_leastTakeWins 5 [(0, .ref i0), (1, .int x1), (2, .int x2), (3, .int x3), (4, .int x4)] [] M) {k14 : Int32 → Int32 → Int32 → Int32 → Int32 → Mem → Option (Int32 × Mem)} (hk14 : ∀ (x1 : Int32) (x2 : Int32) (x3 : Int32) (x4 : Int32) (x5 : Int32) (M : Mem), T X eI (k14 x1 x2 x3 x4 x5 M) md_X12_leastTakeWins 14 [(0, .ref i0), (1, .int x1), (2, .int x2), (3, .int x3), (4, .int x4), (5, .int x5)] [] M) (x1 : Int32) (x2 : Int32) (x4 : Int32) (x5 : Int32) (M : Mem) : T X eI (X12_leastTakeWins_b81 i0 k5 k14 x1 x2 x4 x5 M) md_X12_leastTakeWins 81 [(0, .ref i0), (1, .int x1), (2, .int x2), (4, .int x4), (5, .int x5)] [] M := by
  unfold X12_leastTakeWins_b81
  refine T_iconst (v := (1 : Int32)) (by decide) dX12_leastTakeWins_81 ?_
  refine T_goto 86 dX12_leastTakeWins_82 (by decide) ?_
  exact t_X12_leastTakeWins_b86 h0 hk5 hk14 _ _ _ _ _ _
set_option maxHeartbeats 4000000 in
set_option maxRecDepth 100000 in
theorem t_X12_leastTakeWins_b85 {X : Scr} {i0 : Nat} (h0 : KD[i0]? = some (.inl 12)) {k5 : Int32 → Int32 → Int32 → Int32 → Mem → Option (Int32 × Mem)} (hk5 : ∀ (x1 : Int32) (x2 : Int32) (x3 : Int32) (x4 : Int32) (M : Mem), T X eI (k5 x1 x2 x3 x4 M) md_X12_leastTakeWins 5 [(0, .ref i0), (1, .int x1), (2, .int x2), (3, .int x3), (4, .int x4)] [] M) {k14 : Int32 → Int32 → Int32 → Int32 → Int32 → Mem → Option (Int32 × Mem)} (hk14 : ∀ (x1 : Int32) (x2 : Int32) (x3 : Int32) (x4 : Int32) (x5 : Int32) (M : Mem), T X eI (k14 x1 x2 x3 x4 x5 M) md_X12_leastTakeWins 14 [(0, .ref i0), (1, .int x1), (2, .int x2), (3, .int x3), (4, .int x4), (5, .int x5)] [] M) (x1 : Int32) (x2 : Int32) (x4 : Int32) (x5 : Int32) (M : Mem) : T X eI (X12_leastTakeWins_b85 i0 k5 k14 x1 x2 x4 x5 M) md_X12_leastTakeWins 85 [(0, .ref i0), (1, .int x1), (2, .int x2), (4, .int x4), (5, .int x5)] [] M := by
  unfold X12_leastTakeWins_b85
  refine T_iconst (v := (0 : Int32)) (by decide) dX12_leastTakeWins_85 ?_
  exact t_X12_leastTakeWins_b86 h0 hk5 hk14 _ _ _ _ _ _
set_option maxHeartbeats 4000000 in
set_option maxRecDepth 100000 in
theorem t_X12_leastTakeWins_b50 {X : Scr} {i0 : Nat} (h0 : KD[i0]? = some (.inl 12)) {k5 : Int32 → Int32 → Int32 → Int32 → Mem → Option (Int32 × Mem)} (hk5 : ∀ (x1 : Int32) (x2 : Int32) (x3 : Int32) (x4 : Int32) (M : Mem), T X eI (k5 x1 x2 x3 x4 M) md_X12_leastTakeWins 5 [(0, .ref i0), (1, .int x1), (2, .int x2), (3, .int x3), (4, .int x4)] [] M) {k14 : Int32 → Int32 → Int32 → Int32 → Int32 → Mem → Option (Int32 × Mem)} (hk14 : ∀ (x1 : Int32) (x2 : Int32) (x3 : Int32) (x4 : Int32) (x5 : Int32) (M : Mem), T X eI (k14 x1 x2 x3 x4 x5 M) md_X12_leastTakeWins 14 [(0, .ref i0), (1, .int x1), (2, .int x2), (3, .int x3), (4, .int x4), (5, .int x5)] [] M) (x1 : Int32) (x2 : Int32) (x3 : Int32) (x4 : Int32) (x5 : Int32) (s0 : Int32) (M : Mem) : T X eI (X12_leastTakeWins_b50 i0 k5 k14 x1 x2 x3 x4 x5 s0 M) md_X12_leastTakeWins 50 [(0, .ref i0), (1, .int x1), (2, .int x2), (3, .int x3), (4, .int x4), (5, .int x5)] [.int s0] M := by
  unfold X12_leastTakeWins_b50
  refine T_istore [(6, .int s0), (0, .ref i0), (1, .int x1), (2, .int x2), (3, .int x3), (4, .int x4), (5, .int x5)] dX12_leastTakeWins_50 (by decide) rfl ?_
  refine T_iload_n 4 dX12_leastTakeWins_52 rfl rfl ?_
  refine T_if_ne 81 dX12_leastTakeWins_53 (by decide) ?_ ?_
  ·
    refine T_iload 0 dX12_leastTakeWins_56 rfl ?_
    refine T_if_eq 85 dX12_leastTakeWins_58 (by decide) ?_ ?_
    ·
      refine T_sub [1, 2, 3, 5, 6] (lv' := [(0, .ref i0), (1, .int x1), (2, .int x2), (4, .int x4), (5, .int x5)]) rfl ?_
      exact t_X12_leastTakeWins_b85 h0 hk5 hk14 _ _ _ _ _
    ·
      refine T_aload_n 1 dX12_leastTakeWins_61 rfl rfl ?_
      refine T_getR 25 FOk_12 h0 (by decide) (by decide) dX12_leastTakeWins_62 tb_738 ?_
      refine T_bipush (v := (21 : Int32)) (by decide) dX12_leastTakeWins_65 ?_
      refine T_iload_n 2 dX12_leastTakeWins_67 rfl rfl ?_
      refine T_iload 5 dX12_leastTakeWins_68 rfl ?_
      refine T_isub dX12_leastTakeWins_70 ?_
      refine T_imul dX12_leastTakeWins_71 ?_
      refine T_iload_n 3 dX12_leastTakeWins_72 rfl rfl ?_
      refine T_iadd dX12_leastTakeWins_73 ?_
      refine T_iload 6 dX12_leastTakeWins_74 rfl ?_
      refine T_isub dX12_leastTakeWins_76 ?_
      refine T_zald (kf_12_25 h0) dX12_leastTakeWins_77 ?_
      refine T_if_ne 85 dX12_leastTakeWins_78 (by decide) ?_ ?_
      ·
        refine T_sub [1, 2, 3, 5, 6] (lv' := [(0, .ref i0), (1, .int x1), (2, .int x2), (4, .int x4), (5, .int x5)]) rfl ?_
        exact t_X12_leastTakeWins_b81 h0 hk5 hk14 _ _ _ _ _
      ·
        refine T_sub [1, 2, 3, 5, 6] (lv' := [(0, .ref i0), (1, .int x1), (2, .int x2), (4, .int x4), (5, .int x5)]) rfl ?_
        exact t_X12_leastTakeWins_b85 h0 hk5 hk14 _ _ _ _ _
  ·
    refine T_sub [1, 2, 3, 5, 6] (lv' := [(0, .ref i0), (1, .int x1), (2, .int x2), (4, .int x4), (5, .int x5)]) rfl ?_
    exact t_X12_leastTakeWins_b81 h0 hk5 hk14 _ _ _ _ _
set_option maxHeartbeats 4000000 in
set_option maxRecDepth 100000 in
theorem t_X12_leastTakeWins_b45 {X : Scr} {i0 : Nat} (h0 : KD[i0]? = some (.inl 12)) {k5 : Int32 → Int32 → Int32 → Int32 → Mem → Option (Int32 × Mem)} (hk5 : ∀ (x1 : Int32) (x2 : Int32) (x3 : Int32) (x4 : Int32) (M : Mem), T X eI (k5 x1 x2 x3 x4 M) md_X12_leastTakeWins 5 [(0, .ref i0), (1, .int x1), (2, .int x2), (3, .int x3), (4, .int x4)] [] M) {k14 : Int32 → Int32 → Int32 → Int32 → Int32 → Mem → Option (Int32 × Mem)} (hk14 : ∀ (x1 : Int32) (x2 : Int32) (x3 : Int32) (x4 : Int32) (x5 : Int32) (M : Mem), T X eI (k14 x1 x2 x3 x4 x5 M) md_X12_leastTakeWins 14 [(0, .ref i0), (1, .int x1), (2, .int x2), (3, .int x3), (4, .int x4), (5, .int x5)] [] M) (x1 : Int32) (x2 : Int32) (x3 : Int32) (x4 : Int32) (x5 : Int32) (M : Mem) : T X eI (X12_leastTakeWins_b45 i0 k5 k14 x1 x2 x3 x4 x5 M) md_X12_leastTakeWins 45 [(0, .ref i0), (1, .int x1), (2, .int x2), (3, .int x3), (4, .int x4), (5, .int x5)] [] M := by
  unfold X12_leastTakeWins_b45
  refine T_iconst (v := (1 : Int32)) (by decide) dX12_leastTakeWins_45 ?_
  refine T_goto 50 dX12_leastTakeWins_46 (by decide) ?_
  exact t_X12_leastTakeWins_b50 h0 hk5 hk14 _ _ _ _ _ _ _
set_option maxHeartbeats 4000000 in
set_option maxRecDepth 100000 in
theorem t_X12_leastTakeWins_b49 {X : Scr} {i0 : Nat} (h0 : KD[i0]? = some (.inl 12)) {k5 : Int32 → Int32 → Int32 → Int32 → Mem → Option (Int32 × Mem)} (hk5 : ∀ (x1 : Int32) (x2 : Int32) (x3 : Int32) (x4 : Int32) (M : Mem), T X eI (k5 x1 x2 x3 x4 M) md_X12_leastTakeWins 5 [(0, .ref i0), (1, .int x1), (2, .int x2), (3, .int x3), (4, .int x4)] [] M) {k14 : Int32 → Int32 → Int32 → Int32 → Int32 → Mem → Option (Int32 × Mem)} (hk14 : ∀ (x1 : Int32) (x2 : Int32) (x3 : Int32) (x4 : Int32) (x5 : Int32) (M : Mem), T X eI (k14 x1 x2 x3 x4 x5 M) md_X12_leastTakeWins 14 [(0, .ref i0), (1, .int x1), (2, .int x2), (3, .int x3), (4, .int x4), (5, .int x5)] [] M) (x1 : Int32) (x2 : Int32) (x3 : Int32) (x4 : Int32) (x5 : Int32) (M : Mem) : T X eI (X12_leastTakeWins_b49 i0 k5 k14 x1 x2 x3 x4 x5 M) md_X12_leastTakeWins 49 [(0, .ref i0), (1, .int x1), (2, .int x2), (3, .int x3), (4, .int x4), (5, .int x5)] [] M := by
  unfold X12_leastTakeWins_b49
  refine T_iconst (v := (0 : Int32)) (by decide) dX12_leastTakeWins_49 ?_
  exact t_X12_leastTakeWins_b50 h0 hk5 hk14 _ _ _ _ _ _ _
set_option maxHeartbeats 4000000 in
set_option maxRecDepth 100000 in
theorem t_X12_leastTakeWins_b14 {X : Scr} {i0 : Nat} (h0 : KD[i0]? = some (.inl 12)) {k5 : Int32 → Int32 → Int32 → Int32 → Mem → Option (Int32 × Mem)} (hk5 : ∀ (x1 : Int32) (x2 : Int32) (x3 : Int32) (x4 : Int32) (M : Mem), T X eI (k5 x1 x2 x3 x4 M) md_X12_leastTakeWins 5 [(0, .ref i0), (1, .int x1), (2, .int x2), (3, .int x3), (4, .int x4)] [] M) {k14 : Int32 → Int32 → Int32 → Int32 → Int32 → Mem → Option (Int32 × Mem)} (hk14 : ∀ (x1 : Int32) (x2 : Int32) (x3 : Int32) (x4 : Int32) (x5 : Int32) (M : Mem), T X eI (k14 x1 x2 x3 x4 x5 M) md_X12_leastTakeWins 14 [(0, .ref i0), (1, .int x1), (2, .int x2), (3, .int x3), (4, .int x4), (5, .int x5)] [] M) (x1 : Int32) (x2 : Int32) (x3 : Int32) (x4 : Int32) (x5 : Int32) (M : Mem) : T X eI (X12_leastTakeWins_b14 i0 k5 k14 x1 x2 x3 x4 x5 M) md_X12_leastTakeWins 14 [(0, .ref i0), (1, .int x1), (2, .int x2), (3, .int x3), (4, .int x4), (5, .int x5)] [] M := by
  unfold X12_leastTakeWins_b14
  refine T_iload 5 dX12_leastTakeWins_14 rfl ?_
  refine T_iload_n 2 dX12_leastTakeWins_16 rfl rfl ?_
  refine T_icmp_gt 93 dX12_leastTakeWins_17 (by decide) ?_ ?_
  ·
    refine T_iinc 4 [(4, .int (x4 + (1 : Int32))), (0, .ref i0), (1, .int x1), (2, .int x2), (3, .int x3), (5, .int x5)] (v := (1 : Int32)) dX12_leastTakeWins_93 rfl (by decide) (by decide) rfl ?_
    refine T_goto 5 dX12_leastTakeWins_96 (by decide) ?_
    refine T_sub [1, 2, 3, 4, 0] (lv' := [(0, .ref i0), (1, .int x1), (2, .int x2), (3, .int x3), (4, .int (x4 + (1 : Int32)))]) rfl ?_
    exact hk5 _ _ _ _ _
  ·
    refine T_iload 4 dX12_leastTakeWins_20 rfl ?_
    refine T_iload 5 dX12_leastTakeWins_22 rfl ?_
    refine T_iadd dX12_leastTakeWins_24 ?_
    refine T_if_le 49 dX12_leastTakeWins_25 (by decide) ?_ ?_
    ·
      exact t_X12_leastTakeWins_b49 h0 hk5 hk14 _ _ _ _ _ _
    ·
      refine T_iload 4 dX12_leastTakeWins_28 rfl ?_
      refine T_if_eq 45 dX12_leastTakeWins_30 (by decide) ?_ ?_
      ·
        exact t_X12_leastTakeWins_b45 h0 hk5 hk14 _ _ _ _ _ _
      ·
        refine T_iload 5 dX12_leastTakeWins_33 rfl ?_
        refine T_if_eq 45 dX12_leastTakeWins_35 (by decide) ?_ ?_
        ·
          exact t_X12_leastTakeWins_b45 h0 hk5 hk14 _ _ _ _ _ _
        ·
          refine T_iload 4 dX12_leastTakeWins_38 rfl ?_
          refine T_iload 5 dX12_leastTakeWins_40 rfl ?_
          refine T_icmp_ne 49 dX12_leastTakeWins_42 (by decide) ?_ ?_
          ·
            exact t_X12_leastTakeWins_b45 h0 hk5 hk14 _ _ _ _ _ _
          ·
            exact t_X12_leastTakeWins_b49 h0 hk5 hk14 _ _ _ _ _ _
theorem t_X12_leastTakeWins_l14 {X : Scr} {i0 : Nat} (h0 : KD[i0]? = some (.inl 12)) {k5 : Int32 → Int32 → Int32 → Int32 → Mem → Option (Int32 × Mem)} (hk5 : ∀ (x1 : Int32) (x2 : Int32) (x3 : Int32) (x4 : Int32) (M : Mem), T X eI (k5 x1 x2 x3 x4 M) md_X12_leastTakeWins 5 [(0, .ref i0), (1, .int x1), (2, .int x2), (3, .int x3), (4, .int x4)] [] M) (n : Nat) : ∀ (x1 : Int32) (x2 : Int32) (x3 : Int32) (x4 : Int32) (x5 : Int32) (M : Mem), T X eI (X12_leastTakeWins_l14 i0 k5 n x1 x2 x3 x4 x5 M) md_X12_leastTakeWins 14 [(0, .ref i0), (1, .int x1), (2, .int x2), (3, .int x3), (4, .int x4), (5, .int x5)] [] M := by
  induction n with
  | zero => intro x1 x2 x3 x4 x5 M; exact T_none
  | succ n ih => intro x1 x2 x3 x4 x5 M; exact t_X12_leastTakeWins_b14 h0 hk5 ih x1 x2 x3 x4 x5 M
set_option maxHeartbeats 4000000 in
set_option maxRecDepth 100000 in
theorem t_X12_leastTakeWins_b5 {X : Scr} {i0 : Nat} (h0 : KD[i0]? = some (.inl 12)) {k5 : Int32 → Int32 → Int32 → Int32 → Mem → Option (Int32 × Mem)} (hk5 : ∀ (x1 : Int32) (x2 : Int32) (x3 : Int32) (x4 : Int32) (M : Mem), T X eI (k5 x1 x2 x3 x4 M) md_X12_leastTakeWins 5 [(0, .ref i0), (1, .int x1), (2, .int x2), (3, .int x3), (4, .int x4)] [] M) (x1 : Int32) (x2 : Int32) (x3 : Int32) (x4 : Int32) (M : Mem) : T X eI (X12_leastTakeWins_b5 i0 k5 x1 x2 x3 x4 M) md_X12_leastTakeWins 5 [(0, .ref i0), (1, .int x1), (2, .int x2), (3, .int x3), (4, .int x4)] [] M := by
  unfold X12_leastTakeWins_b5
  refine T_iload 4 dX12_leastTakeWins_5 rfl ?_
  refine T_iload_n 1 dX12_leastTakeWins_7 rfl rfl ?_
  refine T_icmp_gt 99 dX12_leastTakeWins_8 (by decide) ?_ ?_
  ·
    refine T_iload_n 3 dX12_leastTakeWins_99 rfl rfl ?_
    exact T_zret dX12_leastTakeWins_100 rfl
  ·
    refine T_iconst (v := (0 : Int32)) (by decide) dX12_leastTakeWins_11 ?_
    refine T_istore [(5, .int (0 : Int32)), (0, .ref i0), (1, .int x1), (2, .int x2), (3, .int x3), (4, .int x4)] dX12_leastTakeWins_12 (by decide) rfl ?_
    refine T_sub [1, 2, 3, 4, 5, 0] (lv' := [(0, .ref i0), (1, .int x1), (2, .int x2), (3, .int x3), (4, .int x4), (5, .int (0 : Int32))]) rfl ?_
    exact t_X12_leastTakeWins_l14 h0 hk5 _ _ _ _ _ _ _
theorem t_X12_leastTakeWins_l5 {X : Scr} {i0 : Nat} (h0 : KD[i0]? = some (.inl 12)) (n : Nat) : ∀ (x1 : Int32) (x2 : Int32) (x3 : Int32) (x4 : Int32) (M : Mem), T X eI (X12_leastTakeWins_l5 i0  n x1 x2 x3 x4 M) md_X12_leastTakeWins 5 [(0, .ref i0), (1, .int x1), (2, .int x2), (3, .int x3), (4, .int x4)] [] M := by
  induction n with
  | zero => intro x1 x2 x3 x4 M; exact T_none
  | succ n ih => intro x1 x2 x3 x4 M; exact t_X12_leastTakeWins_b5 h0 ih x1 x2 x3 x4 M
set_option maxHeartbeats 4000000 in
set_option maxRecDepth 100000 in
theorem t_X12_leastTakeWins {X : Scr} {i0 : Nat} (h0 : KD[i0]? = some (.inl 12)) (x1 : Int32) (x2 : Int32) (M : Mem) : T X eI (X12_leastTakeWins i0  x1 x2 M) md_X12_leastTakeWins 0 [(0, .ref i0), (1, .int x1), (2, .int x2)] [] M := by
  unfold X12_leastTakeWins
  refine T_iconst (v := (0 : Int32)) (by decide) dX12_leastTakeWins_0 ?_
  refine T_istore_n [(3, .int (0 : Int32)), (0, .ref i0), (1, .int x1), (2, .int x2)] dX12_leastTakeWins_1 rfl (by decide) rfl ?_
  refine T_iconst (v := (0 : Int32)) (by decide) dX12_leastTakeWins_2 ?_
  refine T_istore [(4, .int (0 : Int32)), (3, .int (0 : Int32)), (0, .ref i0), (1, .int x1), (2, .int x2)] dX12_leastTakeWins_3 (by decide) rfl ?_
  refine T_sub [2, 3, 4, 1, 0] (lv' := [(0, .ref i0), (1, .int x1), (2, .int x2), (3, .int (0 : Int32)), (4, .int (0 : Int32))]) rfl ?_
  exact t_X12_leastTakeWins_l5 h0  _ _ _ _ _ _
theorem C_X12_leastTakeWins {X : Scr} {i0 : Nat} (h0 : KD[i0]? = some (.inl 12)) (x1 : Int32) (x2 : Int32) {M : Mem} {r : Int32} {M' : Mem} (h : X12_leastTakeWins i0 x1 x2 M = some (r, M')) : Ct X md_X12_leastTakeWins [.ref i0, .int x1, .int x2] M (eI r) M' := Ct_of (by decide +kernel) (Nat.le_of_ble_eq_true rfl) (t_X12_leastTakeWins h0 _ _ M) r M' h
-- X12_piles
def X12_piles_b34 (i0 : Nat)   (M : Mem) : Option (Int32 × Mem) :=
  some ((-2 : Int32), M)
def X12_piles_b49 (i0 : Nat) (k40 : Int32 → Int32 → Int32 → Int32 → Mem → Option (Int32 × Mem)) (k49 : Int32 → Int32 → Int32 → Int32 → Int32 → Mem → Option (Int32 × Mem)) (x1 : Int32) (x2 : Int32) (x3 : Int32) (x4 : Int32) (x5 : Int32) (M : Mem) : Option (Int32 × Mem) :=
  if x2 < x5 then
    k40 x1 x2 x3 (x4 + (1 : Int32)) M
  else
    gd (ib (((21 : Int32) * x4) + x5) 441) (
      (X12_leastTakeWins i0 x4 x5 (mI M (rf i0 25) (((21 : Int32) * x4) + x5).toNatClampNeg (vp_nar .boolean (0 : Int32)))).bind (fun p1 =>
        gd (ib (((21 : Int32) * x4) + x5) 441) (
          k49 x1 x2 x3 x4 (x5 + (1 : Int32)) (mI p1.2 (rf i0 25) (((21 : Int32) * x4) + x5).toNatClampNeg (vp_nar .boolean p1.1)))))
def X12_piles_l49 (i0 : Nat) (k40 : Int32 → Int32 → Int32 → Int32 → Mem → Option (Int32 × Mem)) : Nat → Int32 → Int32 → Int32 → Int32 → Int32 → Mem → Option (Int32 × Mem)
  | 0 => fun _ _ _ _ _ _ => none
  | n + 1 => X12_piles_b49 i0 k40 (X12_piles_l49 i0 k40 n)
def X12_piles_b135 (i0 : Nat)  (s0 : Int32) (M : Mem) : Option (Int32 × Mem) :=
  some (s0, M)
def X12_piles_b40 (i0 : Nat) (k40 : Int32 → Int32 → Int32 → Int32 → Mem → Option (Int32 × Mem)) (x1 : Int32) (x2 : Int32) (x3 : Int32) (x4 : Int32) (M : Mem) : Option (Int32 × Mem) :=
  if x1 < x4 then
    if x3 = (1 : Int32) then
      (X12_leastTake i0 x1 x2 M).bind (fun p1 =>
        X12_piles_b135 i0  p1.1 p1.2)
    else
      gd (ib (((21 : Int32) * x1) + x2) 441) (
        if (M.1 (rf i0 25) (((21 : Int32) * x1) + x2).toNatClampNeg) = 0 then
          X12_piles_b135 i0  (0 : Int32) M
        else
          X12_piles_b135 i0  (1 : Int32) M)
  else
    X12_piles_l49 i0 k40 FU x1 x2 x3 x4 (0 : Int32) M
def X12_piles_l40 (i0 : Nat)  : Nat → Int32 → Int32 → Int32 → Int32 → Mem → Option (Int32 × Mem)
  | 0 => fun _ _ _ _ _ => none
  | n + 1 => X12_piles_b40 i0 (X12_piles_l40 i0  n)
def X12_piles (i0 : Nat)  (x1 : Int32) (x2 : Int32) (x3 : Int32) (M : Mem) : Option (Int32 × Mem) :=
  (X12_in  x1.toInt64 (0 : Int64) (20 : Int64) M).bind (fun p1 =>
    if p1.1 = 0 then
      X12_piles_b34 i0   p1.2
    else
      (X12_in  x2.toInt64 (0 : Int64) (20 : Int64) p1.2).bind (fun p2 =>
        if p2.1 = 0 then
          X12_piles_b34 i0   p2.2
        else
          (X12_in  x3.toInt64 (0 : Int64) (1 : Int64) p2.2).bind (fun p3 =>
            if p3.1 = 0 then
              X12_piles_b34 i0   p3.2
            else
              X12_piles_l40 i0  FU x1 x2 x3 (0 : Int32) p3.2)))
set_option maxHeartbeats 4000000 in
set_option maxRecDepth 100000 in
theorem t_X12_piles_b34 {X : Scr} {i0 : Nat} (h0 : KD[i0]? = some (.inl 12))  (M : Mem) : T X eI (X12_piles_b34 i0   M) md_X12_piles 34 [] [] M := by
  unfold X12_piles_b34
  refine T_bipush (v := (-2 : Int32)) (by decide) dX12_piles_34 ?_
  exact T_iret dX12_piles_36 rfl
set_option maxHeartbeats 4000000 in
set_option maxRecDepth 100000 in
theorem t_X12_piles_b49 {X : Scr} {i0 : Nat} (h0 : KD[i0]? = some (.inl 12)) {k40 : Int32 → Int32 → Int32 → Int32 → Mem → Option (Int32 × Mem)} (hk40 : ∀ (x1 : Int32) (x2 : Int32) (x3 : Int32) (x4 : Int32) (M : Mem), T X eI (k40 x1 x2 x3 x4 M) md_X12_piles 40 [(0, .ref i0), (1, .int x1), (2, .int x2), (3, .int x3), (4, .int x4)] [] M) {k49 : Int32 → Int32 → Int32 → Int32 → Int32 → Mem → Option (Int32 × Mem)} (hk49 : ∀ (x1 : Int32) (x2 : Int32) (x3 : Int32) (x4 : Int32) (x5 : Int32) (M : Mem), T X eI (k49 x1 x2 x3 x4 x5 M) md_X12_piles 49 [(0, .ref i0), (1, .int x1), (2, .int x2), (3, .int x3), (4, .int x4), (5, .int x5)] [] M) (x1 : Int32) (x2 : Int32) (x3 : Int32) (x4 : Int32) (x5 : Int32) (M : Mem) : T X eI (X12_piles_b49 i0 k40 k49 x1 x2 x3 x4 x5 M) md_X12_piles 49 [(0, .ref i0), (1, .int x1), (2, .int x2), (3, .int x3), (4, .int x4), (5, .int x5)] [] M := by
  unfold X12_piles_b49
  refine T_iload 5 dX12_piles_49 rfl ?_
  refine T_iload_n 2 dX12_piles_51 rfl rfl ?_
  refine T_icmp_gt 96 dX12_piles_52 (by decide) ?_ ?_
  ·
    refine T_iinc 4 [(4, .int (x4 + (1 : Int32))), (0, .ref i0), (1, .int x1), (2, .int x2), (3, .int x3), (5, .int x5)] (v := (1 : Int32)) dX12_piles_96 rfl (by decide) (by decide) rfl ?_
    refine T_goto 40 dX12_piles_99 (by decide) ?_
    refine T_sub [1, 2, 3, 4, 0] (lv' := [(0, .ref i0), (1, .int x1), (2, .int x2), (3, .int x3), (4, .int (x4 + (1 : Int32)))]) rfl ?_
    exact hk40 _ _ _ _ _
  ·
    refine T_aload_n 0 dX12_piles_55 rfl rfl ?_
    refine T_getR 25 FOk_12 h0 (by decide) (by decide) dX12_piles_56 tb_738 ?_
    refine T_bipush (v := (21 : Int32)) (by decide) dX12_piles_59 ?_
    refine T_iload 4 dX12_piles_61 rfl ?_
    refine T_imul dX12_piles_63 ?_
    refine T_iload 5 dX12_piles_64 rfl ?_
    refine T_iadd dX12_piles_66 ?_
    refine T_iconst (v := (0 : Int32)) (by decide) dX12_piles_67 ?_
    refine T_zast (kf_12_25 h0) dX12_piles_68 ?_
    refine T_aload_n 0 dX12_piles_69 rfl rfl ?_
    refine T_getR 25 FOk_12 h0 (by decide) (by decide) dX12_piles_70 tb_738 ?_
    refine T_bipush (v := (21 : Int32)) (by decide) dX12_piles_73 ?_
    refine T_iload 4 dX12_piles_75 rfl ?_
    refine T_imul dX12_piles_77 ?_
    refine T_iload 5 dX12_piles_78 rfl ?_
    refine T_iadd dX12_piles_80 ?_
    refine T_aload_n 0 dX12_piles_81 rfl rfl ?_
    refine T_iload 4 dX12_piles_82 rfl ?_
    refine T_iload 5 dX12_piles_84 rfl ?_
    refine T_callVI md_X12_leastTakeWins [.int x4, .int x5] [.int (((21 : Int32) * x4) + x5), .ref (rf i0 25)] dX12_piles_86 h0 rfl rfl ok_X12_leastTakeWins tb_1042 tb_1044 tb_38 (by decide) (Nat.le_of_ble_eq_true rfl) (fun _ _ h9 => C_X12_leastTakeWins h0 _ _ h9) (fun r1 M1 => ?_)
    dsimp only
    refine T_zast (kf_12_25 h0) dX12_piles_89 ?_
    refine T_iinc 5 [(5, .int (x5 + (1 : Int32))), (0, .ref i0), (1, .int x1), (2, .int x2), (3, .int x3), (4, .int x4)] (v := (1 : Int32)) dX12_piles_90 rfl (by decide) (by decide) rfl ?_
    refine T_goto 49 dX12_piles_93 (by decide) ?_
    refine T_sub [1, 2, 3, 4, 5, 0] (lv' := [(0, .ref i0), (1, .int x1), (2, .int x2), (3, .int x3), (4, .int x4), (5, .int (x5 + (1 : Int32)))]) rfl ?_
    exact hk49 _ _ _ _ _ _
theorem t_X12_piles_l49 {X : Scr} {i0 : Nat} (h0 : KD[i0]? = some (.inl 12)) {k40 : Int32 → Int32 → Int32 → Int32 → Mem → Option (Int32 × Mem)} (hk40 : ∀ (x1 : Int32) (x2 : Int32) (x3 : Int32) (x4 : Int32) (M : Mem), T X eI (k40 x1 x2 x3 x4 M) md_X12_piles 40 [(0, .ref i0), (1, .int x1), (2, .int x2), (3, .int x3), (4, .int x4)] [] M) (n : Nat) : ∀ (x1 : Int32) (x2 : Int32) (x3 : Int32) (x4 : Int32) (x5 : Int32) (M : Mem), T X eI (X12_piles_l49 i0 k40 n x1 x2 x3 x4 x5 M) md_X12_piles 49 [(0, .ref i0), (1, .int x1), (2, .int x2), (3, .int x3), (4, .int x4), (5, .int x5)] [] M := by
  induction n with
  | zero => intro x1 x2 x3 x4 x5 M; exact T_none
  | succ n ih => intro x1 x2 x3 x4 x5 M; exact t_X12_piles_b49 h0 hk40 ih x1 x2 x3 x4 x5 M
set_option maxHeartbeats 4000000 in
set_option maxRecDepth 100000 in
theorem t_X12_piles_b135 {X : Scr} {i0 : Nat} (h0 : KD[i0]? = some (.inl 12)) (s0 : Int32) (M : Mem) : T X eI (X12_piles_b135 i0  s0 M) md_X12_piles 135 [] [.int s0] M := by
  unfold X12_piles_b135
  exact T_iret dX12_piles_135 rfl
set_option maxHeartbeats 4000000 in
set_option maxRecDepth 100000 in
theorem t_X12_piles_b40 {X : Scr} {i0 : Nat} (h0 : KD[i0]? = some (.inl 12)) {k40 : Int32 → Int32 → Int32 → Int32 → Mem → Option (Int32 × Mem)} (hk40 : ∀ (x1 : Int32) (x2 : Int32) (x3 : Int32) (x4 : Int32) (M : Mem), T X eI (k40 x1 x2 x3 x4 M) md_X12_piles 40 [(0, .ref i0), (1, .int x1), (2, .int x2), (3, .int x3), (4, .int x4)] [] M) (x1 : Int32) (x2 : Int32) (x3 : Int32) (x4 : Int32) (M : Mem) : T X eI (X12_piles_b40 i0 k40 x1 x2 x3 x4 M) md_X12_piles 40 [(0, .ref i0), (1, .int x1), (2, .int x2), (3, .int x3), (4, .int x4)] [] M := by
  unfold X12_piles_b40
  refine T_iload 4 dX12_piles_40 rfl ?_
  refine T_iload_n 1 dX12_piles_42 rfl rfl ?_
  refine T_icmp_gt 102 dX12_piles_43 (by decide) ?_ ?_
  ·
    refine T_iload_n 3 dX12_piles_102 rfl rfl ?_
    refine T_iconst (v := (1 : Int32)) (by decide) dX12_piles_103 ?_
    refine T_icmp_ne 116 dX12_piles_104 (by decide) ?_ ?_
    ·
      refine T_aload_n 0 dX12_piles_107 rfl rfl ?_
      refine T_iload_n 1 dX12_piles_108 rfl rfl ?_
      refine T_iload_n 2 dX12_piles_109 rfl rfl ?_
      refine T_callVI md_X12_leastTake [.int x1, .int x2] [] dX12_piles_110 h0 rfl rfl ok_X12_leastTake tb_1046 tb_1048 tb_39 (by decide) (Nat.le_of_ble_eq_true rfl) (fun _ _ h9 => C_X12_leastTake h0 _ _ h9) (fun r1 M1 => ?_)
      dsimp only
      refine T_goto 135 dX12_piles_113 (by decide) ?_
      refine T_sub [] (lv' := []) rfl ?_
      exact t_X12_piles_b135 h0  _ _
    ·
      refine T_aload_n 0 dX12_piles_116 rfl rfl ?_
      refine T_getR 25 FOk_12 h0 (by decide) (by decide) dX12_piles_117 tb_738 ?_
      refine T_bipush (v := (21 : Int32)) (by decide) dX12_piles_120 ?_
      refine T_iload_n 1 dX12_piles_122 rfl rfl ?_
      refine T_imul dX12_piles_123 ?_
      refine T_iload_n 2 dX12_piles_124 rfl rfl ?_
      refine T_iadd dX12_piles_125 ?_
      refine T_zald (kf_12_25 h0) dX12_piles_126 ?_
      refine T_if_eq 134 dX12_piles_127 (by decide) ?_ ?_
      ·
        refine T_iconst (v := (0 : Int32)) (by decide) dX12_piles_134 ?_
        refine T_sub [] (lv' := []) rfl ?_
        exact t_X12_piles_b135 h0  _ _
      ·
        refine T_iconst (v := (1 : Int32)) (by decide) dX12_piles_130 ?_
        refine T_goto 135 dX12_piles_131 (by decide) ?_
        refine T_sub [] (lv' := []) rfl ?_
        exact t_X12_piles_b135 h0  _ _
  ·
    refine T_iconst (v := (0 : Int32)) (by decide) dX12_piles_46 ?_
    refine T_istore [(5, .int (0 : Int32)), (0, .ref i0), (1, .int x1), (2, .int x2), (3, .int x3), (4, .int x4)] dX12_piles_47 (by decide) rfl ?_
    refine T_sub [1, 2, 3, 4, 5, 0] (lv' := [(0, .ref i0), (1, .int x1), (2, .int x2), (3, .int x3), (4, .int x4), (5, .int (0 : Int32))]) rfl ?_
    exact t_X12_piles_l49 h0 hk40 _ _ _ _ _ _ _
theorem t_X12_piles_l40 {X : Scr} {i0 : Nat} (h0 : KD[i0]? = some (.inl 12)) (n : Nat) : ∀ (x1 : Int32) (x2 : Int32) (x3 : Int32) (x4 : Int32) (M : Mem), T X eI (X12_piles_l40 i0  n x1 x2 x3 x4 M) md_X12_piles 40 [(0, .ref i0), (1, .int x1), (2, .int x2), (3, .int x3), (4, .int x4)] [] M := by
  induction n with
  | zero => intro x1 x2 x3 x4 M; exact T_none
  | succ n ih => intro x1 x2 x3 x4 M; exact t_X12_piles_b40 h0 ih x1 x2 x3 x4 M
set_option maxHeartbeats 4000000 in
set_option maxRecDepth 100000 in
theorem t_X12_piles {X : Scr} {i0 : Nat} (h0 : KD[i0]? = some (.inl 12)) (x1 : Int32) (x2 : Int32) (x3 : Int32) (M : Mem) : T X eI (X12_piles i0  x1 x2 x3 M) md_X12_piles 0 [(0, .ref i0), (1, .int x1), (2, .int x2), (3, .int x3)] [] M := by
  unfold X12_piles
  refine T_iload_n 1 dX12_piles_0 rfl rfl ?_
  refine T_i2l dX12_piles_1 ?_
  refine T_lconst (v := (0 : Int64)) (by decide) dX12_piles_2 ?_
  refine T_ldc2 (v := (20 : Int64)) dX12_piles_3 tb_1041 ?_
  refine T_callSI md_X12_in [.long x1.toInt64, .long (0 : Int64), .long (20 : Int64)] [] dX12_piles_6 rfl ok_X12_in tb_816 tb_817 (by decide) (Nat.le_of_ble_eq_true rfl) (fun _ _ h9 => C_X12_in  _ _ _ h9) (fun r1 M1 => ?_)
  dsimp only
  refine T_if_eq 34 dX12_piles_9 (by decide) ?_ ?_
  ·
    refine T_sub [] (lv' := []) rfl ?_
    exact t_X12_piles_b34 h0   _
  ·
    refine T_iload_n 2 dX12_piles_12 rfl rfl ?_
    refine T_i2l dX12_piles_13 ?_
    refine T_lconst (v := (0 : Int64)) (by decide) dX12_piles_14 ?_
    refine T_ldc2 (v := (20 : Int64)) dX12_piles_15 tb_1041 ?_
    refine T_callSI md_X12_in [.long x2.toInt64, .long (0 : Int64), .long (20 : Int64)] [] dX12_piles_18 rfl ok_X12_in tb_816 tb_817 (by decide) (Nat.le_of_ble_eq_true rfl) (fun _ _ h9 => C_X12_in  _ _ _ h9) (fun r2 M2 => ?_)
    dsimp only
    refine T_if_eq 34 dX12_piles_21 (by decide) ?_ ?_
    ·
      refine T_sub [] (lv' := []) rfl ?_
      exact t_X12_piles_b34 h0   _
    ·
      refine T_iload_n 3 dX12_piles_24 rfl rfl ?_
      refine T_i2l dX12_piles_25 ?_
      refine T_lconst (v := (0 : Int64)) (by decide) dX12_piles_26 ?_
      refine T_lconst (v := (1 : Int64)) (by decide) dX12_piles_27 ?_
      refine T_callSI md_X12_in [.long x3.toInt64, .long (0 : Int64), .long (1 : Int64)] [] dX12_piles_28 rfl ok_X12_in tb_816 tb_817 (by decide) (Nat.le_of_ble_eq_true rfl) (fun _ _ h9 => C_X12_in  _ _ _ h9) (fun r3 M3 => ?_)
      dsimp only
      refine T_if_ne 37 dX12_piles_31 (by decide) ?_ ?_
      ·
        refine T_sub [] (lv' := []) rfl ?_
        exact t_X12_piles_b34 h0   _
      ·
        refine T_iconst (v := (0 : Int32)) (by decide) dX12_piles_37 ?_
        refine T_istore [(4, .int (0 : Int32)), (0, .ref i0), (1, .int x1), (2, .int x2), (3, .int x3)] dX12_piles_38 (by decide) rfl ?_
        refine T_sub [1, 2, 3, 4, 0] (lv' := [(0, .ref i0), (1, .int x1), (2, .int x2), (3, .int x3), (4, .int (0 : Int32))]) rfl ?_
        exact t_X12_piles_l40 h0  _ _ _ _ _ _
theorem C_X12_piles {X : Scr} {i0 : Nat} (h0 : KD[i0]? = some (.inl 12)) (x1 : Int32) (x2 : Int32) (x3 : Int32) {M : Mem} {r : Int32} {M' : Mem} (h : X12_piles i0 x1 x2 x3 M = some (r, M')) : Ct X md_X12_piles [.ref i0, .int x1, .int x2, .int x3] M (eI r) M' := Ct_of (by decide +kernel) (Nat.le_of_ble_eq_true rfl) (t_X12_piles h0 _ _ _ M) r M' h
-- X12_lowest
def X12_lowest_b47   (s0 : Int64) (M : Mem) : Option (Int64 × Mem) :=
  some (s0, M)
def X12_lowest_b6  (k6 : Int64 → Int64 → Int32 → Int64 → Int64 → Mem → Option (Int64 × Mem)) (x0 : Int64) (x2 : Int64) (x4 : Int32) (x5 : Int64) (x7 : Int64) (M : Mem) : Option (Int64 × Mem) :=
  if (lg_cmp x7 (0 : Int64)) = 0 then
    if x4 = 0 then
      gd (!(x5 == 0)) (
        X12_lowest_b47   (x0 / x5) M)
    else
      gd (!(x5 == 0)) (
        X12_lowest_b47   (x2 / x5) M)
  else
    gd (!(x7 == 0)) (
      k6 x0 x2 x4 x7 (x5 - x5 / x7 * x7) M)
def X12_lowest_l6   : Nat → Int64 → Int64 → Int32 → Int64 → Int64 → Mem → Option (Int64 × Mem)
  | 0 => fun _ _ _ _ _ _ => none
  | n + 1 => X12_lowest_b6  (X12_lowest_l6   n)
def X12_lowest   (x0 : Int64) (x2 : Int64) (x4 : Int32) (M : Mem) : Option (Int64 × Mem) :=
  X12_lowest_l6   FU x0 x2 x4 x2 x0 M
set_option maxHeartbeats 4000000 in
set_option maxRecDepth 100000 in
theorem t_X12_lowest_b47 {X : Scr}   (s0 : Int64) (M : Mem) : T X eL (X12_lowest_b47   s0 M) md_X12_lowest 47 [] [.long s0] M := by
  unfold X12_lowest_b47
  exact T_lret dX12_lowest_47 rfl
set_option maxHeartbeats 4000000 in
set_option maxRecDepth 100000 in
theorem t_X12_lowest_b6 {X : Scr}   {k6 : Int64 → Int64 → Int32 → Int64 → Int64 → Mem → Option (Int64 × Mem)} (hk6 : ∀ (x0 : Int64) (x2 : Int64) (x4 : Int32) (x5 : Int64) (x7 : Int64) (M : Mem), T X eL (k6 x0 x2 x4 x5 x7 M) md_X12_lowest 6 [(0, .long x0), (2, .long x2), (4, .int x4), (5, .long x5), (7, .long x7)] [] M) (x0 : Int64) (x2 : Int64) (x4 : Int32) (x5 : Int64) (x7 : Int64) (M : Mem) : T X eL (X12_lowest_b6  k6 x0 x2 x4 x5 x7 M) md_X12_lowest 6 [(0, .long x0), (2, .long x2), (4, .int x4), (5, .long x5), (7, .long x7)] [] M := by
  unfold X12_lowest_b6
  refine T_lload 4 dX12_lowest_6 rfl ?_
  refine T_lconst (v := (0 : Int64)) (by decide) dX12_lowest_8 ?_
  refine T_lcmp dX12_lowest_9 ?_
  refine T_if_eq 31 dX12_lowest_10 (by decide) ?_ ?_
  ·
    refine T_iload 2 dX12_lowest_31 rfl ?_
    refine T_if_ne 43 dX12_lowest_33 (by decide) ?_ ?_
    ·
      refine T_lload_n 0 dX12_lowest_36 rfl rfl ?_
      refine T_lload 3 dX12_lowest_37 rfl ?_
      refine T_ldiv dX12_lowest_39 ?_
      refine T_goto 47 dX12_lowest_40 (by decide) ?_
      refine T_sub [] (lv' := []) rfl ?_
      exact t_X12_lowest_b47   _ _
    ·
      refine T_lload_n 1 dX12_lowest_43 rfl rfl ?_
      refine T_lload 3 dX12_lowest_44 rfl ?_
      refine T_ldiv dX12_lowest_46 ?_
      refine T_sub [] (lv' := []) rfl ?_
      exact t_X12_lowest_b47   _ _
  ·
    refine T_lload 3 dX12_lowest_13 rfl ?_
    refine T_lload 4 dX12_lowest_15 rfl ?_
    refine T_lrem dX12_lowest_17 ?_
    refine T_lstore [(9, .long (x5 - x5 / x7 * x7)), (0, .long x0), (2, .long x2), (4, .int x4), (5, .long x5), (7, .long x7)] dX12_lowest_18 (by decide) rfl ?_
    refine T_lload 5 dX12_lowest_20 rfl ?_
    refine T_lstore [(5, .long x7), (9, .long (x5 - x5 / x7 * x7)), (0, .long x0), (2, .long x2), (4, .int x4), (7, .long x7)] dX12_lowest_22 (by decide) rfl ?_
    refine T_lload 1 dX12_lowest_24 rfl ?_
    refine T_lstore [(7, .long (x5 - x5 / x7 * x7)), (5, .long x7), (9, .long (x5 - x5 / x7 * x7)), (0, .long x0), (2, .long x2), (4, .int x4)] dX12_lowest_26 (by decide) rfl ?_
    refine T_goto 6 dX12_lowest_28 (by decide) ?_
    refine T_sub [3, 4, 5, 1, 0] (lv' := [(0, .long x0), (2, .long x2), (4, .int x4), (5, .long x7), (7, .long (x5 - x5 / x7 * x7))]) rfl ?_
    exact hk6 _ _ _ _ _ _
theorem t_X12_lowest_l6 {X : Scr}   (n : Nat) : ∀ (x0 : Int64) (x2 : Int64) (x4 : Int32) (x5 : Int64) (x7 : Int64) (M : Mem), T X eL (X12_lowest_l6   n x0 x2 x4 x5 x7 M) md_X12_lowest 6 [(0, .long x0), (2, .long x2), (4, .int x4), (5, .long x5), (7, .long x7)] [] M := by
  induction n with
  | zero => intro x0 x2 x4 x5 x7 M; exact T_none
  | succ n ih => intro x0 x2 x4 x5 x7 M; exact t_X12_lowest_b6  ih x0 x2 x4 x5 x7 M
set_option maxHeartbeats 4000000 in
set_option maxRecDepth 100000 in
theorem t_X12_lowest {X : Scr}   (x0 : Int64) (x2 : Int64) (x4 : Int32) (M : Mem) : T X eL (X12_lowest   x0 x2 x4 M) md_X12_lowest 0 [(0, .long x0), (2, .long x2), (4, .int x4)] [] M := by
  unfold X12_lowest
  refine T_lload_n 1 dX12_lowest_0 rfl rfl ?_
  refine T_lstore [(5, .long x2), (0, .long x0), (2, .long x2), (4, .int x4)] dX12_lowest_1 (by decide) rfl ?_
  refine T_lload_n 1 dX12_lowest_3 rfl rfl ?_
  refine T_lstore [(7, .long x0), (5, .long x2), (0, .long x0), (2, .long x2), (4, .int x4)] dX12_lowest_4 (by decide) rfl ?_
  refine T_sub [2, 3, 4, 1, 0] (lv' := [(0, .long x0), (2, .long x2), (4, .int x4), (5, .long x2), (7, .long x0)]) rfl ?_
  exact t_X12_lowest_l6   _ _ _ _ _ _ _
theorem C_X12_lowest {X : Scr}   (x0 : Int64) (x2 : Int64) (x4 : Int32) {M : Mem} {r : Int64} {M' : Mem} (h : X12_lowest  x0 x2 x4 M = some (r, M')) : Ct X md_X12_lowest [.long x0, .long x2, .int x4] M (eL r) M' := Ct_of (by decide +kernel) (Nat.le_of_ble_eq_true rfl) (t_X12_lowest  _ _ _ M) r M' h
