-- X12_owners
def X12_owners_b67 (i0 : Nat) (k60 : Int32 → Int32 → Int32 → Mem → Option (Int32 × Mem)) (k67 : Int32 → Int32 → Int32 → Int32 → Mem → Option (Int32 × Mem)) (x1 : Int32) (x2 : Int32) (x3 : Int32) (x4 : Int32) (M : Mem) : Option (Int32 × Mem) :=
  if (1024 : Int32) ≤ x4 then
    k60 x1 x2 (x3 + (-1 : Int32)) M
  else
    (X12_mostFrom i0 x1 x3 x4 M).bind (fun p1 =>
      gd (ib (((1024 : Int32) * x3) + x4) 9216) (
        k67 x1 x2 x3 (x4 + (1 : Int32)) (mI p1.2 (rf i0 22) (((1024 : Int32) * x3) + x4).toNatClampNeg p1.1)))
def X12_owners_l67 (i0 : Nat) (k60 : Int32 → Int32 → Int32 → Mem → Option (Int32 × Mem)) : Nat → Int32 → Int32 → Int32 → Int32 → Mem → Option (Int32 × Mem)
  | 0 => fun _ _ _ _ _ => none
  | n + 1 => X12_owners_b67 i0 k60 (X12_owners_l67 i0 k60 n)
def X12_owners_b154 (i0 : Nat) (k124 : Int32 → Int32 → Int32 → Int32 → Mem → Option (Int32 × Mem)) (x1 : Int32) (x2 : Int32) (x4 : Int32) (s0 : Int32) (s1 : Int32) (M : Mem) : Option (Int32 × Mem) :=
  k124 x1 x2 (s1 ||| s0) (x4 + (1 : Int32)) M
def X12_owners_b124 (i0 : Nat) (k124 : Int32 → Int32 → Int32 → Int32 → Mem → Option (Int32 × Mem)) (x1 : Int32) (x2 : Int32) (x3 : Int32) (x4 : Int32) (M : Mem) : Option (Int32 × Mem) :=
  if x2 ≤ x4 then
    (X12_ownerOf i0 x1 x2 x3 M).bind (fun p1 =>
      some (p1.1, p1.2))
  else
    (X12_ownerOf i0 x1 x4 x3 M).bind (fun p2 =>
      if 0 ≤ p2.1 then
        X12_owners_b154 i0 k124 x1 x2 x4 ((1 : Int32) <<< (p2.1 &&& 31)) x3 p2.2
      else
        X12_owners_b154 i0 k124 x1 x2 x4 (0 : Int32) x3 p2.2)
def X12_owners_l124 (i0 : Nat)  : Nat → Int32 → Int32 → Int32 → Int32 → Mem → Option (Int32 × Mem)
  | 0 => fun _ _ _ _ _ => none
  | n + 1 => X12_owners_b124 i0 (X12_owners_l124 i0  n)
def X12_owners_b60 (i0 : Nat) (k60 : Int32 → Int32 → Int32 → Mem → Option (Int32 × Mem)) (x1 : Int32) (x2 : Int32) (x3 : Int32) (M : Mem) : Option (Int32 × Mem) :=
  if x3 < 0 then
    if 0 ≤ x2 then
      X12_owners_l124 i0  FU x1 x2 (0 : Int32) (0 : Int32) M
    else
      gd (ib (0 : Int32) 9216) (
        some ((M.1 (rf i0 22) (0 : Int32).toNatClampNeg), M))
  else
    X12_owners_l67 i0 k60 FU x1 x2 x3 (0 : Int32) M
def X12_owners_l60 (i0 : Nat)  : Nat → Int32 → Int32 → Int32 → Mem → Option (Int32 × Mem)
  | 0 => fun _ _ _ _ => none
  | n + 1 => X12_owners_b60 i0 (X12_owners_l60 i0  n)
def X12_owners_b33 (i0 : Nat) (k33 : Int32 → Int32 → Int32 → Mem → Option (Int32 × Mem)) (x1 : Int32) (x2 : Int32) (x3 : Int32) (M : Mem) : Option (Int32 × Mem) :=
  if (1024 : Int32) ≤ x3 then
    X12_owners_l60 i0  FU x1 x2 (7 : Int32) M
  else
    gd (ib ((8192 : Int32) + x3) 9216) (
      k33 x1 x2 (x3 + (1 : Int32)) (mI M (rf i0 22) ((8192 : Int32) + x3).toNatClampNeg (0 : Int32)))
def X12_owners_l33 (i0 : Nat)  : Nat → Int32 → Int32 → Int32 → Mem → Option (Int32 × Mem)
  | 0 => fun _ _ _ _ => none
  | n + 1 => X12_owners_b33 i0 (X12_owners_l33 i0  n)
def X12_owners (i0 : Nat)  (x1 : Int32) (x2 : Int32) (M : Mem) : Option (Int32 × Mem) :=
  (X12_in  x2.toInt64 (-1 : Int64) (7 : Int64) M).bind (fun p1 =>
    if p1.1 = 0 then
      some ((-1 : Int32), p1.2)
    else
      (X12_in  x1.toInt64 (0 : Int64) (255 : Int64) p1.2).bind (fun p2 =>
        if p2.1 = 0 then
          some ((-2 : Int32), p2.2)
        else
          X12_owners_l33 i0  FU x1 x2 (0 : Int32) p2.2))
set_option maxHeartbeats 4000000 in
set_option maxRecDepth 100000 in
theorem t_X12_owners_b67 {X : Scr} {i0 : Nat} (h0 : KD[i0]? = some (.inl 12)) {k60 : Int32 → Int32 → Int32 → Mem → Option (Int32 × Mem)} (hk60 : ∀ (x1 : Int32) (x2 : Int32) (x3 : Int32) (M : Mem), T X eI (k60 x1 x2 x3 M) md_X12_owners 60 [(0, .ref i0), (1, .int x1), (2, .int x2), (3, .int x3)] [] M) {k67 : Int32 → Int32 → Int32 → Int32 → Mem → Option (Int32 × Mem)} (hk67 : ∀ (x1 : Int32) (x2 : Int32) (x3 : Int32) (x4 : Int32) (M : Mem), T X eI (k67 x1 x2 x3 x4 M) md_X12_owners 67 [(0, .ref i0), (1, .int x1), (2, .int x2), (3, .int x3), (4, .int x4)] [] M) (x1 : Int32) (x2 : Int32) (x3 : Int32) (x4 : Int32) (M : Mem) : T X eI (X12_owners_b67 i0 k60 k67 x1 x2 x3 x4 M) md_X12_owners 67 [(0, .ref i0), (1, .int x1), (2, .int x2), (3, .int x3), (4, .int x4)] [] M := by
  unfold X12_owners_b67
  refine T_iload 4 dX12_owners_67 rfl ?_
  refine T_sipush (v := (1024 : Int32)) (by decide) dX12_owners_69 ?_
  refine T_icmp_ge 102 dX12_owners_72 (by decide) ?_ ?_
  ·
    refine T_iinc 3 [(3, .int (x3 + (-1 : Int32))), (0, .ref i0), (1, .int x1), (2, .int x2), (4, .int x4)] (v := (-1 : Int32)) dX12_owners_102 rfl (by decide) (by decide) rfl ?_
    refine T_goto 60 dX12_owners_105 (by decide) ?_
    refine T_sub [1, 2, 3, 0] (lv' := [(0, .ref i0), (1, .int x1), (2, .int x2), (3, .int (x3 + (-1 : Int32)))]) rfl ?_
    exact hk60 _ _ _ _
  ·
    refine T_aload_n 0 dX12_owners_75 rfl rfl ?_
    refine T_getR 22 FOk_12 h0 (by decide) (by decide) dX12_owners_76 tb_735 ?_
    refine T_sipush (v := (1024 : Int32)) (by decide) dX12_owners_79 ?_
    refine T_iload_n 3 dX12_owners_82 rfl rfl ?_
    refine T_imul dX12_owners_83 ?_
    refine T_iload 4 dX12_owners_84 rfl ?_
    refine T_iadd dX12_owners_86 ?_
    refine T_aload_n 0 dX12_owners_87 rfl rfl ?_
    refine T_iload_n 1 dX12_owners_88 rfl rfl ?_
    refine T_iload_n 3 dX12_owners_89 rfl rfl ?_
    refine T_iload 4 dX12_owners_90 rfl ?_
    refine T_callVI md_X12_mostFrom [.int x1, .int x3, .int x4] [.int (((1024 : Int32) * x3) + x4), .ref (rf i0 22)] dX12_owners_92 h0 rfl rfl ok_X12_mostFrom tb_982 tb_984 tb_32 (by decide) (Nat.le_of_ble_eq_true rfl) (fun _ _ h9 => C_X12_mostFrom h0 _ _ _ h9) (fun r1 M1 => ?_)
    dsimp only
    refine T_iast (kf_12_22 h0) dX12_owners_95 ?_
    refine T_iinc 4 [(4, .int (x4 + (1 : Int32))), (0, .ref i0), (1, .int x1), (2, .int x2), (3, .int x3)] (v := (1 : Int32)) dX12_owners_96 rfl (by decide) (by decide) rfl ?_
    refine T_goto 67 dX12_owners_99 (by decide) ?_
    refine T_sub [1, 2, 3, 4, 0] (lv' := [(0, .ref i0), (1, .int x1), (2, .int x2), (3, .int x3), (4, .int (x4 + (1 : Int32)))]) rfl ?_
    exact hk67 _ _ _ _ _
theorem t_X12_owners_l67 {X : Scr} {i0 : Nat} (h0 : KD[i0]? = some (.inl 12)) {k60 : Int32 → Int32 → Int32 → Mem → Option (Int32 × Mem)} (hk60 : ∀ (x1 : Int32) (x2 : Int32) (x3 : Int32) (M : Mem), T X eI (k60 x1 x2 x3 M) md_X12_owners 60 [(0, .ref i0), (1, .int x1), (2, .int x2), (3, .int x3)] [] M) (n : Nat) : ∀ (x1 : Int32) (x2 : Int32) (x3 : Int32) (x4 : Int32) (M : Mem), T X eI (X12_owners_l67 i0 k60 n x1 x2 x3 x4 M) md_X12_owners 67 [(0, .ref i0), (1, .int x1), (2, .int x2), (3, .int x3), (4, .int x4)] [] M := by
  induction n with
  | zero => intro x1 x2 x3 x4 M; exact T_none
  | succ n ih => intro x1 x2 x3 x4 M; exact t_X12_owners_b67 h0 hk60 ih x1 x2 x3 x4 M
set_option maxHeartbeats 4000000 in
set_option maxRecDepth 100000 in
theorem t_X12_owners_b154 {X : Scr} {i0 : Nat} (h0 : KD[i0]? = some (.inl 12)) {k124 : Int32 → Int32 → Int32 → Int32 → Mem → Option (Int32 × Mem)} (hk124 : ∀ (x1 : Int32) (x2 : Int32) (x3 : Int32) (x4 : Int32) (M : Mem), T X eI (k124 x1 x2 x3 x4 M) md_X12_owners 124 [(0, .ref i0), (1, .int x1), (2, .int x2), (3, .int x3), (4, .int x4)] [] M) (x1 : Int32) (x2 : Int32) (x4 : Int32) (s0 : Int32) (s1 : Int32) (M : Mem) : T X eI (X12_owners_b154 i0 k124 x1 x2 x4 s0 s1 M) md_X12_owners 154 [(0, .ref i0), (1, .int x1), (2, .int x2), (4, .int x4)] [.int s0, .int s1] M := by
  unfold X12_owners_b154
  refine T_ior dX12_owners_154 ?_
  refine T_istore_n [(3, .int (s1 ||| s0)), (0, .ref i0), (1, .int x1), (2, .int x2), (4, .int x4)] dX12_owners_155 rfl (by decide) rfl ?_
  refine T_iinc 4 [(4, .int (x4 + (1 : Int32))), (3, .int (s1 ||| s0)), (0, .ref i0), (1, .int x1), (2, .int x2)] (v := (1 : Int32)) dX12_owners_156 rfl (by decide) (by decide) rfl ?_
  refine T_goto 124 dX12_owners_159 (by decide) ?_
  refine T_sub [2, 3, 4, 1, 0] (lv' := [(0, .ref i0), (1, .int x1), (2, .int x2), (3, .int (s1 ||| s0)), (4, .int (x4 + (1 : Int32)))]) rfl ?_
  exact hk124 _ _ _ _ _
set_option maxHeartbeats 4000000 in
set_option maxRecDepth 100000 in
theorem t_X12_owners_b124 {X : Scr} {i0 : Nat} (h0 : KD[i0]? = some (.inl 12)) {k124 : Int32 → Int32 → Int32 → Int32 → Mem → Option (Int32 × Mem)} (hk124 : ∀ (x1 : Int32) (x2 : Int32) (x3 : Int32) (x4 : Int32) (M : Mem), T X eI (k124 x1 x2 x3 x4 M) md_X12_owners 124 [(0, .ref i0), (1, .int x1), (2, .int x2), (3, .int x3), (4, .int x4)] [] M) (x1 : Int32) (x2 : Int32) (x3 : Int32) (x4 : Int32) (M : Mem) : T X eI (X12_owners_b124 i0 k124 x1 x2 x3 x4 M) md_X12_owners 124 [(0, .ref i0), (1, .int x1), (2, .int x2), (3, .int x3), (4, .int x4)] [] M := by
  unfold X12_owners_b124
  refine T_iload 4 dX12_owners_124 rfl ?_
  refine T_iload_n 2 dX12_owners_126 rfl rfl ?_
  refine T_icmp_ge 162 dX12_owners_127 (by decide) ?_ ?_
  ·
    refine T_aload_n 0 dX12_owners_162 rfl rfl ?_
    refine T_iload_n 1 dX12_owners_163 rfl rfl ?_
    refine T_iload_n 2 dX12_owners_164 rfl rfl ?_
    refine T_iload_n 3 dX12_owners_165 rfl rfl ?_
    refine T_callVI md_X12_ownerOf [.int x1, .int x2, .int x3] [] dX12_owners_166 h0 rfl rfl ok_X12_ownerOf tb_990 tb_992 tb_34 (by decide) (Nat.le_of_ble_eq_true rfl) (fun _ _ h9 => C_X12_ownerOf h0 _ _ _ h9) (fun r1 M1 => ?_)
    dsimp only
    exact T_iret dX12_owners_169 rfl
  ·
    refine T_aload_n 0 dX12_owners_130 rfl rfl ?_
    refine T_iload_n 1 dX12_owners_131 rfl rfl ?_
    refine T_iload 4 dX12_owners_132 rfl ?_
    refine T_iload_n 3 dX12_owners_134 rfl rfl ?_
    refine T_callVI md_X12_ownerOf [.int x1, .int x4, .int x3] [] dX12_owners_135 h0 rfl rfl ok_X12_ownerOf tb_990 tb_992 tb_34 (by decide) (Nat.le_of_ble_eq_true rfl) (fun _ _ h9 => C_X12_ownerOf h0 _ _ _ h9) (fun r2 M2 => ?_)
    dsimp only
    refine T_istore [(5, .int r2), (0, .ref i0), (1, .int x1), (2, .int x2), (3, .int x3), (4, .int x4)] dX12_owners_138 (by decide) rfl ?_
    refine T_iload_n 4 dX12_owners_140 rfl rfl ?_
    refine T_iload 0 dX12_owners_141 rfl ?_
    refine T_if_ge 150 dX12_owners_143 (by decide) ?_ ?_
    ·
      refine T_iconst (v := (1 : Int32)) (by decide) dX12_owners_150 ?_
      refine T_iload 0 dX12_owners_151 rfl ?_
      refine T_ishl dX12_owners_153 ?_
      refine T_sub [1, 2, 3, 5] (lv' := [(0, .ref i0), (1, .int x1), (2, .int x2), (4, .int x4)]) rfl ?_
      exact t_X12_owners_b154 h0 hk124 _ _ _ _ _ _
    ·
      refine T_iconst (v := (0 : Int32)) (by decide) dX12_owners_146 ?_
      refine T_goto 154 dX12_owners_147 (by decide) ?_
      refine T_sub [1, 2, 3, 5] (lv' := [(0, .ref i0), (1, .int x1), (2, .int x2), (4, .int x4)]) rfl ?_
      exact t_X12_owners_b154 h0 hk124 _ _ _ _ _ _
theorem t_X12_owners_l124 {X : Scr} {i0 : Nat} (h0 : KD[i0]? = some (.inl 12)) (n : Nat) : ∀ (x1 : Int32) (x2 : Int32) (x3 : Int32) (x4 : Int32) (M : Mem), T X eI (X12_owners_l124 i0  n x1 x2 x3 x4 M) md_X12_owners 124 [(0, .ref i0), (1, .int x1), (2, .int x2), (3, .int x3), (4, .int x4)] [] M := by
  induction n with
  | zero => intro x1 x2 x3 x4 M; exact T_none
  | succ n ih => intro x1 x2 x3 x4 M; exact t_X12_owners_b124 h0 ih x1 x2 x3 x4 M
set_option maxHeartbeats 4000000 in
set_option maxRecDepth 100000 in
theorem t_X12_owners_b60 {X : Scr} {i0 : Nat} (h0 : KD[i0]? = some (.inl 12)) {k60 : Int32 → Int32 → Int32 → Mem → Option (Int32 × Mem)} (hk60 : ∀ (x1 : Int32) (x2 : Int32) (x3 : Int32) (M : Mem), T X eI (k60 x1 x2 x3 M) md_X12_owners 60 [(0, .ref i0), (1, .int x1), (2, .int x2), (3, .int x3)] [] M) (x1 : Int32) (x2 : Int32) (x3 : Int32) (M : Mem) : T X eI (X12_owners_b60 i0 k60 x1 x2 x3 M) md_X12_owners 60 [(0, .ref i0), (1, .int x1), (2, .int x2), (3, .int x3)] [] M := by
  unfold X12_owners_b60
  refine T_iload_n 3 dX12_owners_60 rfl rfl ?_
  refine T_if_lt 108 dX12_owners_61 (by decide) ?_ ?_
  ·
    refine T_iload_n 2 dX12_owners_108 rfl rfl ?_
    refine T_if_ge 119 dX12_owners_109 (by decide) ?_ ?_
    ·
      refine T_iconst (v := (0 : Int32)) (by decide) dX12_owners_119 ?_
      refine T_istore_n [(3, .int (0 : Int32)), (0, .ref i0), (1, .int x1), (2, .int x2)] dX12_owners_120 rfl (by decide) rfl ?_
      refine T_iconst (v := (0 : Int32)) (by decide) dX12_owners_121 ?_
      refine T_istore [(4, .int (0 : Int32)), (3, .int (0 : Int32)), (0, .ref i0), (1, .int x1), (2, .int x2)] dX12_owners_122 (by decide) rfl ?_
      refine T_sub [2, 3, 4, 1, 0] (lv' := [(0, .ref i0), (1, .int x1), (2, .int x2), (3, .int (0 : Int32)), (4, .int (0 : Int32))]) rfl ?_
      exact t_X12_owners_l124 h0  _ _ _ _ _ _
    ·
      refine T_aload_n 0 dX12_owners_112 rfl rfl ?_
      refine T_getR 22 FOk_12 h0 (by decide) (by decide) dX12_owners_113 tb_735 ?_
      refine T_iconst (v := (0 : Int32)) (by decide) dX12_owners_116 ?_
      refine T_iald (kf_12_22 h0) dX12_owners_117 ?_
      exact T_iret dX12_owners_118 rfl
  ·
    refine T_iconst (v := (0 : Int32)) (by decide) dX12_owners_64 ?_
    refine T_istore [(4, .int (0 : Int32)), (0, .ref i0), (1, .int x1), (2, .int x2), (3, .int x3)] dX12_owners_65 (by decide) rfl ?_
    refine T_sub [1, 2, 3, 4, 0] (lv' := [(0, .ref i0), (1, .int x1), (2, .int x2), (3, .int x3), (4, .int (0 : Int32))]) rfl ?_
    exact t_X12_owners_l67 h0 hk60 _ _ _ _ _ _
theorem t_X12_owners_l60 {X : Scr} {i0 : Nat} (h0 : KD[i0]? = some (.inl 12)) (n : Nat) : ∀ (x1 : Int32) (x2 : Int32) (x3 : Int32) (M : Mem), T X eI (X12_owners_l60 i0  n x1 x2 x3 M) md_X12_owners 60 [(0, .ref i0), (1, .int x1), (2, .int x2), (3, .int x3)] [] M := by
  induction n with
  | zero => intro x1 x2 x3 M; exact T_none
  | succ n ih => intro x1 x2 x3 M; exact t_X12_owners_b60 h0 ih x1 x2 x3 M
set_option maxHeartbeats 4000000 in
set_option maxRecDepth 100000 in
theorem t_X12_owners_b33 {X : Scr} {i0 : Nat} (h0 : KD[i0]? = some (.inl 12)) {k33 : Int32 → Int32 → Int32 → Mem → Option (Int32 × Mem)} (hk33 : ∀ (x1 : Int32) (x2 : Int32) (x3 : Int32) (M : Mem), T X eI (k33 x1 x2 x3 M) md_X12_owners 33 [(0, .ref i0), (1, .int x1), (2, .int x2), (3, .int x3)] [] M) (x1 : Int32) (x2 : Int32) (x3 : Int32) (M : Mem) : T X eI (X12_owners_b33 i0 k33 x1 x2 x3 M) md_X12_owners 33 [(0, .ref i0), (1, .int x1), (2, .int x2), (3, .int x3)] [] M := by
  unfold X12_owners_b33
  refine T_iload_n 3 dX12_owners_33 rfl rfl ?_
  refine T_sipush (v := (1024 : Int32)) (by decide) dX12_owners_34 ?_
  refine T_icmp_ge 57 dX12_owners_37 (by decide) ?_ ?_
  ·
    refine T_bipush (v := (7 : Int32)) (by decide) dX12_owners_57 ?_
    refine T_istore_n [(3, .int (7 : Int32)), (0, .ref i0), (1, .int x1), (2, .int x2)] dX12_owners_59 rfl (by decide) rfl ?_
    refine T_sub [1, 2, 3, 0] (lv' := [(0, .ref i0), (1, .int x1), (2, .int x2), (3, .int (7 : Int32))]) rfl ?_
    exact t_X12_owners_l60 h0  _ _ _ _ _
  ·
    refine T_aload_n 0 dX12_owners_40 rfl rfl ?_
    refine T_getR 22 FOk_12 h0 (by decide) (by decide) dX12_owners_41 tb_735 ?_
    refine T_sipush (v := (8192 : Int32)) (by decide) dX12_owners_44 ?_
    refine T_iload_n 3 dX12_owners_47 rfl rfl ?_
    refine T_iadd dX12_owners_48 ?_
    refine T_iconst (v := (0 : Int32)) (by decide) dX12_owners_49 ?_
    refine T_iast (kf_12_22 h0) dX12_owners_50 ?_
    refine T_iinc 3 [(3, .int (x3 + (1 : Int32))), (0, .ref i0), (1, .int x1), (2, .int x2)] (v := (1 : Int32)) dX12_owners_51 rfl (by decide) (by decide) rfl ?_
    refine T_goto 33 dX12_owners_54 (by decide) ?_
    refine T_sub [1, 2, 3, 0] (lv' := [(0, .ref i0), (1, .int x1), (2, .int x2), (3, .int (x3 + (1 : Int32)))]) rfl ?_
    exact hk33 _ _ _ _
theorem t_X12_owners_l33 {X : Scr} {i0 : Nat} (h0 : KD[i0]? = some (.inl 12)) (n : Nat) : ∀ (x1 : Int32) (x2 : Int32) (x3 : Int32) (M : Mem), T X eI (X12_owners_l33 i0  n x1 x2 x3 M) md_X12_owners 33 [(0, .ref i0), (1, .int x1), (2, .int x2), (3, .int x3)] [] M := by
  induction n with
  | zero => intro x1 x2 x3 M; exact T_none
  | succ n ih => intro x1 x2 x3 M; exact t_X12_owners_b33 h0 ih x1 x2 x3 M
set_option maxHeartbeats 4000000 in
set_option maxRecDepth 100000 in
theorem t_X12_owners {X : Scr} {i0 : Nat} (h0 : KD[i0]? = some (.inl 12)) (x1 : Int32) (x2 : Int32) (M : Mem) : T X eI (X12_owners i0  x1 x2 M) md_X12_owners 0 [(0, .ref i0), (1, .int x1), (2, .int x2)] [] M := by
  unfold X12_owners
  refine T_iload_n 2 dX12_owners_0 rfl rfl ?_
  refine T_i2l dX12_owners_1 ?_
  refine T_ldc2 (v := (-1 : Int64)) dX12_owners_2 tb_980 ?_
  refine T_ldc2 (v := (7 : Int64)) dX12_owners_5 tb_981 ?_
  refine T_callSI md_X12_in [.long x2.toInt64, .long (-1 : Int64), .long (7 : Int64)] [] dX12_owners_8 rfl ok_X12_in tb_816 tb_817 (by decide) (Nat.le_of_ble_eq_true rfl) (fun _ _ h9 => C_X12_in  _ _ _ h9) (fun r1 M1 => ?_)
  dsimp only
  refine T_if_ne 16 dX12_owners_11 (by decide) ?_ ?_
  ·
    refine T_iconst (v := (-1 : Int32)) (by decide) dX12_owners_14 ?_
    exact T_iret dX12_owners_15 rfl
  ·
    refine T_iload_n 1 dX12_owners_16 rfl rfl ?_
    refine T_i2l dX12_owners_17 ?_
    refine T_lconst (v := (0 : Int64)) (by decide) dX12_owners_18 ?_
    refine T_ldc2 (v := (255 : Int64)) dX12_owners_19 tb_819 ?_
    refine T_callSI md_X12_in [.long x1.toInt64, .long (0 : Int64), .long (255 : Int64)] [] dX12_owners_22 rfl ok_X12_in tb_816 tb_817 (by decide) (Nat.le_of_ble_eq_true rfl) (fun _ _ h9 => C_X12_in  _ _ _ h9) (fun r2 M2 => ?_)
    dsimp only
    refine T_if_ne 31 dX12_owners_25 (by decide) ?_ ?_
    ·
      refine T_bipush (v := (-2 : Int32)) (by decide) dX12_owners_28 ?_
      exact T_iret dX12_owners_30 rfl
    ·
      refine T_iconst (v := (0 : Int32)) (by decide) dX12_owners_31 ?_
      refine T_istore_n [(3, .int (0 : Int32)), (0, .ref i0), (1, .int x1), (2, .int x2)] dX12_owners_32 rfl (by decide) rfl ?_
      refine T_sub [1, 2, 3, 0] (lv' := [(0, .ref i0), (1, .int x1), (2, .int x2), (3, .int (0 : Int32))]) rfl ?_
      exact t_X12_owners_l33 h0  _ _ _ _ _
theorem C_X12_owners {X : Scr} {i0 : Nat} (h0 : KD[i0]? = some (.inl 12)) (x1 : Int32) (x2 : Int32) {M : Mem} {r : Int32} {M' : Mem} (h : X12_owners i0 x1 x2 M = some (r, M')) : Ct X md_X12_owners [.ref i0, .int x1, .int x2] M (eI r) M' := Ct_of (by decide +kernel) (Nat.le_of_ble_eq_true rfl) (t_X12_owners h0 _ _ M) r M' h
-- X12_readHooks
def X12_readHooks_b61 (i0 : Nat)  (s0 : Int32) (M : Mem) : Option (Int32 × Mem) :=
  gd (s0 == 0 || s0 == 1) (some (s0, M))
def X12_readHooks_b60 (i0 : Nat)   (M : Mem) : Option (Int32 × Mem) :=
  X12_readHooks_b61 i0  (0 : Int32) M
def X12_readHooks_b7 (i0 : Nat) (k7 : Int32 → Int32 → Int32 → Mem → Option (Int32 × Mem)) (x2 : Int32) (x3 : Int32) (x4 : Int32) (M : Mem) : Option (Int32 × Mem) :=
  if x4 < 0 then
    if x2 = 0 then
      if x3 = (63 : Int32) then
        X12_readHooks_b61 i0  (1 : Int32) M
      else
        X12_readHooks_b60 i0   M
    else
      X12_readHooks_b60 i0   M
  else
    gd (!((10 : Int32) == 0)) (
      gd (ib x4 6) (
        gd (ib x4 6) (
          gd (!((10 : Int32) == 0)) (
            k7 (x2 / (10 : Int32)) (x3 ||| ((1 : Int32) <<< (((mI M (rf i0 23) x4.toNatClampNeg (x2 - x2 / (10 : Int32) * (10 : Int32))).1 (rf i0 23) x4.toNatClampNeg) &&& 31))) (x4 + (-1 : Int32)) (mI M (rf i0 23) x4.toNatClampNeg (x2 - x2 / (10 : Int32) * (10 : Int32)))))))
def X12_readHooks_l7 (i0 : Nat)  : Nat → Int32 → Int32 → Int32 → Mem → Option (Int32 × Mem)
  | 0 => fun _ _ _ _ => none
  | n + 1 => X12_readHooks_b7 i0 (X12_readHooks_l7 i0  n)
def X12_readHooks (i0 : Nat)  (x1 : Int32) (M : Mem) : Option (Int32 × Mem) :=
  X12_readHooks_l7 i0  FU x1 (0 : Int32) (5 : Int32) M
set_option maxHeartbeats 4000000 in
set_option maxRecDepth 100000 in
theorem t_X12_readHooks_b61 {X : Scr} {i0 : Nat} (h0 : KD[i0]? = some (.inl 12)) (s0 : Int32) (M : Mem) : T X eI (X12_readHooks_b61 i0  s0 M) md_X12_readHooks 61 [] [.int s0] M := by
  unfold X12_readHooks_b61
  exact T_zret dX12_readHooks_61 rfl
set_option maxHeartbeats 4000000 in
set_option maxRecDepth 100000 in
theorem t_X12_readHooks_b60 {X : Scr} {i0 : Nat} (h0 : KD[i0]? = some (.inl 12))  (M : Mem) : T X eI (X12_readHooks_b60 i0   M) md_X12_readHooks 60 [] [] M := by
  unfold X12_readHooks_b60
  refine T_iconst (v := (0 : Int32)) (by decide) dX12_readHooks_60 ?_
  exact t_X12_readHooks_b61 h0  _ _
set_option maxHeartbeats 4000000 in
set_option maxRecDepth 100000 in
theorem t_X12_readHooks_b7 {X : Scr} {i0 : Nat} (h0 : KD[i0]? = some (.inl 12)) {k7 : Int32 → Int32 → Int32 → Mem → Option (Int32 × Mem)} (hk7 : ∀ (x2 : Int32) (x3 : Int32) (x4 : Int32) (M : Mem), T X eI (k7 x2 x3 x4 M) md_X12_readHooks 7 [(0, .ref i0), (2, .int x2), (3, .int x3), (4, .int x4)] [] M) (x2 : Int32) (x3 : Int32) (x4 : Int32) (M : Mem) : T X eI (X12_readHooks_b7 i0 k7 x2 x3 x4 M) md_X12_readHooks 7 [(0, .ref i0), (2, .int x2), (3, .int x3), (4, .int x4)] [] M := by
  unfold X12_readHooks_b7
  refine T_iload 3 dX12_readHooks_7 rfl ?_
  refine T_if_lt 46 dX12_readHooks_9 (by decide) ?_ ?_
  ·
    refine T_iload_n 1 dX12_readHooks_46 rfl rfl ?_
    refine T_if_ne 60 dX12_readHooks_47 (by decide) ?_ ?_
    ·
      refine T_iload_n 2 dX12_readHooks_50 rfl rfl ?_
      refine T_bipush (v := (63 : Int32)) (by decide) dX12_readHooks_51 ?_
      refine T_icmp_ne 60 dX12_readHooks_53 (by decide) ?_ ?_
      ·
        refine T_iconst (v := (1 : Int32)) (by decide) dX12_readHooks_56 ?_
        refine T_goto 61 dX12_readHooks_57 (by decide) ?_
        refine T_sub [] (lv' := []) rfl ?_
        exact t_X12_readHooks_b61 h0  _ _
      ·
        refine T_sub [] (lv' := []) rfl ?_
        exact t_X12_readHooks_b60 h0   _
    ·
      refine T_sub [] (lv' := []) rfl ?_
      exact t_X12_readHooks_b60 h0   _
  ·
    refine T_aload_n 0 dX12_readHooks_12 rfl rfl ?_
    refine T_getR 23 FOk_12 h0 (by decide) (by decide) dX12_readHooks_13 tb_736 ?_
    refine T_iload 3 dX12_readHooks_16 rfl ?_
    refine T_iload_n 1 dX12_readHooks_18 rfl rfl ?_
    refine T_bipush (v := (10 : Int32)) (by decide) dX12_readHooks_19 ?_
    refine T_irem dX12_readHooks_21 ?_
    refine T_iast (kf_12_23 h0) dX12_readHooks_22 ?_
    refine T_iload_n 2 dX12_readHooks_23 rfl rfl ?_
    refine T_iconst (v := (1 : Int32)) (by decide) dX12_readHooks_24 ?_
    refine T_aload_n 0 dX12_readHooks_25 rfl rfl ?_
    refine T_getR 23 FOk_12 h0 (by decide) (by decide) dX12_readHooks_26 tb_736 ?_
    refine T_iload 3 dX12_readHooks_29 rfl ?_
    refine T_iald (kf_12_23 h0) dX12_readHooks_31 ?_
    refine T_ishl dX12_readHooks_32 ?_
    refine T_ior dX12_readHooks_33 ?_
    refine T_istore_n [(3, .int (x3 ||| ((1 : Int32) <<< (((mI M (rf i0 23) x4.toNatClampNeg (x2 - x2 / (10 : Int32) * (10 : Int32))).1 (rf i0 23) x4.toNatClampNeg) &&& 31)))), (0, .ref i0), (2, .int x2), (4, .int x4)] dX12_readHooks_34 rfl (by decide) rfl ?_
    refine T_iload_n 2 dX12_readHooks_35 rfl rfl ?_
    refine T_bipush (v := (10 : Int32)) (by decide) dX12_readHooks_36 ?_
    refine T_idiv dX12_readHooks_38 ?_
    refine T_istore_n [(2, .int (x2 / (10 : Int32))), (3, .int (x3 ||| ((1 : Int32) <<< (((mI M (rf i0 23) x4.toNatClampNeg (x2 - x2 / (10 : Int32) * (10 : Int32))).1 (rf i0 23) x4.toNatClampNeg) &&& 31)))), (0, .ref i0), (4, .int x4)] dX12_readHooks_39 rfl (by decide) rfl ?_
    refine T_iinc 3 [(4, .int (x4 + (-1 : Int32))), (2, .int (x2 / (10 : Int32))), (3, .int (x3 ||| ((1 : Int32) <<< (((mI M (rf i0 23) x4.toNatClampNeg (x2 - x2 / (10 : Int32) * (10 : Int32))).1 (rf i0 23) x4.toNatClampNeg) &&& 31)))), (0, .ref i0)] (v := (-1 : Int32)) dX12_readHooks_40 rfl (by decide) (by decide) rfl ?_
    refine T_goto 7 dX12_readHooks_43 (by decide) ?_
    refine T_sub [3, 1, 2, 0] (lv' := [(0, .ref i0), (2, .int (x2 / (10 : Int32))), (3, .int (x3 ||| ((1 : Int32) <<< (((mI M (rf i0 23) x4.toNatClampNeg (x2 - x2 / (10 : Int32) * (10 : Int32))).1 (rf i0 23) x4.toNatClampNeg) &&& 31)))), (4, .int (x4 + (-1 : Int32)))]) rfl ?_
    exact hk7 _ _ _ _
theorem t_X12_readHooks_l7 {X : Scr} {i0 : Nat} (h0 : KD[i0]? = some (.inl 12)) (n : Nat) : ∀ (x2 : Int32) (x3 : Int32) (x4 : Int32) (M : Mem), T X eI (X12_readHooks_l7 i0  n x2 x3 x4 M) md_X12_readHooks 7 [(0, .ref i0), (2, .int x2), (3, .int x3), (4, .int x4)] [] M := by
  induction n with
  | zero => intro x2 x3 x4 M; exact T_none
  | succ n ih => intro x2 x3 x4 M; exact t_X12_readHooks_b7 h0 ih x2 x3 x4 M
set_option maxHeartbeats 4000000 in
set_option maxRecDepth 100000 in
theorem t_X12_readHooks {X : Scr} {i0 : Nat} (h0 : KD[i0]? = some (.inl 12)) (x1 : Int32) (M : Mem) : T X eI (X12_readHooks i0  x1 M) md_X12_readHooks 0 [(0, .ref i0), (1, .int x1)] [] M := by
  unfold X12_readHooks
  refine T_iload_n 1 dX12_readHooks_0 rfl rfl ?_
  refine T_istore_n [(2, .int x1), (0, .ref i0), (1, .int x1)] dX12_readHooks_1 rfl (by decide) rfl ?_
  refine T_iconst (v := (0 : Int32)) (by decide) dX12_readHooks_2 ?_
  refine T_istore_n [(3, .int (0 : Int32)), (2, .int x1), (0, .ref i0), (1, .int x1)] dX12_readHooks_3 rfl (by decide) rfl ?_
  refine T_iconst (v := (5 : Int32)) (by decide) dX12_readHooks_4 ?_
  refine T_istore [(4, .int (5 : Int32)), (3, .int (0 : Int32)), (2, .int x1), (0, .ref i0), (1, .int x1)] dX12_readHooks_5 (by decide) rfl ?_
  refine T_sub [3, 2, 1, 0] (lv' := [(0, .ref i0), (2, .int x1), (3, .int (0 : Int32)), (4, .int (5 : Int32))]) rfl ?_
  exact t_X12_readHooks_l7 h0  _ _ _ _ _
theorem C_X12_readHooks {X : Scr} {i0 : Nat} (h0 : KD[i0]? = some (.inl 12)) (x1 : Int32) {M : Mem} {r : Int32} {M' : Mem} (h : X12_readHooks i0 x1 M = some (r, M')) : Ct X md_X12_readHooks [.ref i0, .int x1] M (eI r) M' := Ct_of (by decide +kernel) (Nat.le_of_ble_eq_true rfl) (t_X12_readHooks h0 _ M) r M' h
-- X12_common
def X12_common_b4  (k4 : Int32 → Int32 → Mem → Option (Int32 × Mem)) (x2 : Int32) (x3 : Int32) (M : Mem) : Option (Int32 × Mem) :=
  if x3 = 0 then
    some (x2, M)
  else
    gd (!(x3 == 0)) (
      k4 x3 (x2 - x2 / x3 * x3) M)
def X12_common_l4   : Nat → Int32 → Int32 → Mem → Option (Int32 × Mem)
  | 0 => fun _ _ _ => none
  | n + 1 => X12_common_b4  (X12_common_l4   n)
def X12_common   (x0 : Int32) (x1 : Int32) (M : Mem) : Option (Int32 × Mem) :=
  X12_common_l4   FU x0 x1 M
set_option maxHeartbeats 4000000 in
set_option maxRecDepth 100000 in
theorem t_X12_common_b4 {X : Scr}   {k4 : Int32 → Int32 → Mem → Option (Int32 × Mem)} (hk4 : ∀ (x2 : Int32) (x3 : Int32) (M : Mem), T X eI (k4 x2 x3 M) md_X12_common 4 [(2, .int x2), (3, .int x3)] [] M) (x2 : Int32) (x3 : Int32) (M : Mem) : T X eI (X12_common_b4  k4 x2 x3 M) md_X12_common 4 [(2, .int x2), (3, .int x3)] [] M := by
  unfold X12_common_b4
  refine T_iload_n 1 dX12_common_4 rfl rfl ?_
  refine T_if_eq 21 dX12_common_5 (by decide) ?_ ?_
  ·
    refine T_iload_n 0 dX12_common_21 rfl rfl ?_
    exact T_iret dX12_common_22 rfl
  ·
    refine T_iload_n 0 dX12_common_8 rfl rfl ?_
    refine T_iload_n 1 dX12_common_9 rfl rfl ?_
    refine T_irem dX12_common_10 ?_
    refine T_istore [(4, .int (x2 - x2 / x3 * x3)), (2, .int x2), (3, .int x3)] dX12_common_11 (by decide) rfl ?_
    refine T_iload_n 2 dX12_common_13 rfl rfl ?_
    refine T_istore_n [(2, .int x3), (4, .int (x2 - x2 / x3 * x3)), (3, .int x3)] dX12_common_14 rfl (by decide) rfl ?_
    refine T_iload 1 dX12_common_15 rfl ?_
    refine T_istore_n [(3, .int (x2 - x2 / x3 * x3)), (2, .int x3), (4, .int (x2 - x2 / x3 * x3))] dX12_common_17 rfl (by decide) rfl ?_
    refine T_goto 4 dX12_common_18 (by decide) ?_
    refine T_sub [1, 0] (lv' := [(2, .int x3), (3, .int (x2 - x2 / x3 * x3))]) rfl ?_
    exact hk4 _ _ _
theorem t_X12_common_l4 {X : Scr}   (n : Nat) : ∀ (x2 : Int32) (x3 : Int32) (M : Mem), T X eI (X12_common_l4   n x2 x3 M) md_X12_common 4 [(2, .int x2), (3, .int x3)] [] M := by
  induction n with
  | zero => intro x2 x3 M; exact T_none
  | succ n ih => intro x2 x3 M; exact t_X12_common_b4  ih x2 x3 M
set_option maxHeartbeats 4000000 in
set_option maxRecDepth 100000 in
theorem t_X12_common {X : Scr}   (x0 : Int32) (x1 : Int32) (M : Mem) : T X eI (X12_common   x0 x1 M) md_X12_common 0 [(0, .int x0), (1, .int x1)] [] M := by
  unfold X12_common
  refine T_iload_n 0 dX12_common_0 rfl rfl ?_
  refine T_istore_n [(2, .int x0), (0, .int x0), (1, .int x1)] dX12_common_1 rfl (by decide) rfl ?_
  refine T_iload_n 2 dX12_common_2 rfl rfl ?_
  refine T_istore_n [(3, .int x1), (2, .int x0), (0, .int x0), (1, .int x1)] dX12_common_3 rfl (by decide) rfl ?_
  refine T_sub [1, 0] (lv' := [(2, .int x0), (3, .int x1)]) rfl ?_
  exact t_X12_common_l4   _ _ _ _
theorem C_X12_common {X : Scr}   (x0 : Int32) (x1 : Int32) {M : Mem} {r : Int32} {M' : Mem} (h : X12_common  x0 x1 M = some (r, M')) : Ct X md_X12_common [.int x0, .int x1] M (eI r) M' := Ct_of (by decide +kernel) (Nat.le_of_ble_eq_true rfl) (t_X12_common  _ _ M) r M' h
-- X12_towels
def X12_towels_b30 (i0 : Nat)   (M : Mem) : Option (Int32 × Mem) :=
  some ((-2 : Int32), M)
def X12_towels_b127 (i0 : Nat) (k44 : Int32 → Int32 → Int32 → Int32 → Int32 → Mem → Option (Int32 × Mem)) (x2 : Int32) (x3 : Int32) (x4 : Int32) (x6 : Int32) (s0 : Int32) (M : Mem) : Option (Int32 × Mem) :=
  k44 x2 x3 x4 s0 (x6 + (1 : Int32)) M
def X12_towels_b101 (i0 : Nat) (k44 : Int32 → Int32 → Int32 → Int32 → Int32 → Mem → Option (Int32 × Mem)) (x2 : Int32) (x3 : Int32) (x5 : Int32) (x6 : Int32) (x7 : Int32) (s0 : Int32) (s1 : Int32) (M : Mem) : Option (Int32 × Mem) :=
  if x7 ≤ 0 then
    X12_towels_b127 i0 k44 x2 x3 (s1 + s0) x6 x5 M
  else
    (X12_common  x5 x7 M).bind (fun p1 =>
      gd (!(p1.1 == 0)) (
        X12_towels_b127 i0 k44 x2 x3 (s1 + s0) x6 ((x5 / p1.1) * x7) p1.2))
def X12_towels_b58 (i0 : Nat) (k44 : Int32 → Int32 → Int32 → Int32 → Int32 → Mem → Option (Int32 × Mem)) (k58 : Int32 → Int32 → Int32 → Int32 → Int32 → Int32 → Int32 → Mem → Option (Int32 × Mem)) (x2 : Int32) (x3 : Int32) (x4 : Int32) (x5 : Int32) (x6 : Int32) (x7 : Int32) (x8 : Int32) (M : Mem) : Option (Int32 × Mem) :=
  (X12_isIn  x3 x8 M).bind (fun p1 =>
    if p1.1 = 0 then
      gd (ib x8 6) (
        k58 x2 (x3 ||| ((1 : Int32) <<< (x8 &&& 31))) x4 x5 x6 (x7 + (1 : Int32)) (p1.2.1 (rf i0 23) x8.toNatClampNeg) p1.2)
    else
      if x7 ≤ 0 then
        X12_towels_b101 i0 k44 x2 x3 x5 x6 x7 (0 : Int32) x4 p1.2
      else
        X12_towels_b101 i0 k44 x2 x3 x5 x6 x7 (1 : Int32) x4 p1.2)
def X12_towels_l58 (i0 : Nat) (k44 : Int32 → Int32 → Int32 → Int32 → Int32 → Mem → Option (Int32 × Mem)) : Nat → Int32 → Int32 → Int32 → Int32 → Int32 → Int32 → Int32 → Mem → Option (Int32 × Mem)
  | 0 => fun _ _ _ _ _ _ _ _ => none
  | n + 1 => X12_towels_b58 i0 k44 (X12_towels_l58 i0 k44 n)
def X12_towels_b149 (i0 : Nat)  (s0 : Int32) (M : Mem) : Option (Int32 × Mem) :=
  some (s0, M)
def X12_towels_b44 (i0 : Nat) (k44 : Int32 → Int32 → Int32 → Int32 → Int32 → Mem → Option (Int32 × Mem)) (x2 : Int32) (x3 : Int32) (x4 : Int32) (x5 : Int32) (x6 : Int32) (M : Mem) : Option (Int32 × Mem) :=
  if (6 : Int32) ≤ x6 then
    if x2 = 0 then
      X12_towels_b149 i0  ((6 : Int32) - x4) M
    else
      X12_towels_b149 i0  x5 M
  else
    X12_towels_l58 i0 k44 FU x2 x3 x4 x5 x6 (0 : Int32) x6 M
def X12_towels_l44 (i0 : Nat)  : Nat → Int32 → Int32 → Int32 → Int32 → Int32 → Mem → Option (Int32 × Mem)
  | 0 => fun _ _ _ _ _ _ => none
  | n + 1 => X12_towels_b44 i0 (X12_towels_l44 i0  n)
def X12_towels (i0 : Nat)  (x1 : Int32) (x2 : Int32) (M : Mem) : Option (Int32 × Mem) :=
  (X12_in  x1.toInt64 (0 : Int64) (999999 : Int64) M).bind (fun p1 =>
    if p1.1 = 0 then
      X12_towels_b30 i0   p1.2
    else
      (X12_readHooks i0 x1 p1.2).bind (fun p2 =>
        if p2.1 = 0 then
          X12_towels_b30 i0   p2.2
        else
          (X12_in  x2.toInt64 (0 : Int64) (1 : Int64) p2.2).bind (fun p3 =>
            if p3.1 = 0 then
              X12_towels_b30 i0   p3.2
            else
              X12_towels_l44 i0  FU x2 (0 : Int32) (0 : Int32) (1 : Int32) (0 : Int32) p3.2)))
set_option maxHeartbeats 4000000 in
set_option maxRecDepth 100000 in
theorem t_X12_towels_b30 {X : Scr} {i0 : Nat} (h0 : KD[i0]? = some (.inl 12))  (M : Mem) : T X eI (X12_towels_b30 i0   M) md_X12_towels 30 [] [] M := by
  unfold X12_towels_b30
  refine T_bipush (v := (-2 : Int32)) (by decide) dX12_towels_30 ?_
  exact T_iret dX12_towels_32 rfl
set_option maxHeartbeats 4000000 in
set_option maxRecDepth 100000 in
theorem t_X12_towels_b127 {X : Scr} {i0 : Nat} (h0 : KD[i0]? = some (.inl 12)) {k44 : Int32 → Int32 → Int32 → Int32 → Int32 → Mem → Option (Int32 × Mem)} (hk44 : ∀ (x2 : Int32) (x3 : Int32) (x4 : Int32) (x5 : Int32) (x6 : Int32) (M : Mem), T X eI (k44 x2 x3 x4 x5 x6 M) md_X12_towels 44 [(0, .ref i0), (2, .int x2), (3, .int x3), (4, .int x4), (5, .int x5), (6, .int x6)] [] M) (x2 : Int32) (x3 : Int32) (x4 : Int32) (x6 : Int32) (s0 : Int32) (M : Mem) : T X eI (X12_towels_b127 i0 k44 x2 x3 x4 x6 s0 M) md_X12_towels 127 [(0, .ref i0), (2, .int x2), (3, .int x3), (4, .int x4), (6, .int x6)] [.int s0] M := by
  unfold X12_towels_b127
  refine T_istore [(5, .int s0), (0, .ref i0), (2, .int x2), (3, .int x3), (4, .int x4), (6, .int x6)] dX12_towels_127 (by decide) rfl ?_
  refine T_iinc 5 [(6, .int (x6 + (1 : Int32))), (5, .int s0), (0, .ref i0), (2, .int x2), (3, .int x3), (4, .int x4)] (v := (1 : Int32)) dX12_towels_129 rfl (by decide) (by decide) rfl ?_
  refine T_goto 44 dX12_towels_132 (by decide) ?_
  refine T_sub [2, 3, 4, 5, 1, 0] (lv' := [(0, .ref i0), (2, .int x2), (3, .int x3), (4, .int x4), (5, .int s0), (6, .int (x6 + (1 : Int32)))]) rfl ?_
  exact hk44 _ _ _ _ _ _
set_option maxHeartbeats 4000000 in
set_option maxRecDepth 100000 in
theorem t_X12_towels_b101 {X : Scr} {i0 : Nat} (h0 : KD[i0]? = some (.inl 12)) {k44 : Int32 → Int32 → Int32 → Int32 → Int32 → Mem → Option (Int32 × Mem)} (hk44 : ∀ (x2 : Int32) (x3 : Int32) (x4 : Int32) (x5 : Int32) (x6 : Int32) (M : Mem), T X eI (k44 x2 x3 x4 x5 x6 M) md_X12_towels 44 [(0, .ref i0), (2, .int x2), (3, .int x3), (4, .int x4), (5, .int x5), (6, .int x6)] [] M) (x2 : Int32) (x3 : Int32) (x5 : Int32) (x6 : Int32) (x7 : Int32) (s0 : Int32) (s1 : Int32) (M : Mem) : T X eI (X12_towels_b101 i0 k44 x2 x3 x5 x6 x7 s0 s1 M) md_X12_towels 101 [(0, .ref i0), (2, .int x2), (3, .int x3), (5, .int x5), (6, .int x6), (7, .int x7)] [.int s0, .int s1] M := by
  unfold X12_towels_b101
  refine T_iadd dX12_towels_101 ?_
  refine T_istore [(4, .int (s1 + s0)), (0, .ref i0), (2, .int x2), (3, .int x3), (5, .int x5), (6, .int x6), (7, .int x7)] dX12_towels_102 (by decide) rfl ?_
  refine T_iload 6 dX12_towels_104 rfl ?_
  refine T_if_le 125 dX12_towels_106 (by decide) ?_ ?_
  ·
    refine T_iload 4 dX12_towels_125 rfl ?_
    refine T_sub [1, 2, 3, 0, 5] (lv' := [(0, .ref i0), (2, .int x2), (3, .int x3), (4, .int (s1 + s0)), (6, .int x6)]) rfl ?_
    exact t_X12_towels_b127 h0 hk44 _ _ _ _ _ _
  ·
    refine T_iload 4 dX12_towels_109 rfl ?_
    refine T_iload 4 dX12_towels_111 rfl ?_
    refine T_iload 6 dX12_towels_113 rfl ?_
    refine T_callSI md_X12_common [.int x5, .int x7] [.int x5] dX12_towels_115 rfl ok_X12_common tb_1003 tb_1004 (by decide) (Nat.le_of_ble_eq_true rfl) (fun _ _ h9 => C_X12_common  _ _ h9) (fun r1 M1 => ?_)
    dsimp only
    refine T_idiv dX12_towels_118 ?_
    refine T_iload 6 dX12_towels_119 rfl ?_
    refine T_imul dX12_towels_121 ?_
    refine T_goto 127 dX12_towels_122 (by decide) ?_
    refine T_sub [1, 2, 3, 0, 5] (lv' := [(0, .ref i0), (2, .int x2), (3, .int x3), (4, .int (s1 + s0)), (6, .int x6)]) rfl ?_
    exact t_X12_towels_b127 h0 hk44 _ _ _ _ _ _
set_option maxHeartbeats 4000000 in
set_option maxRecDepth 100000 in
theorem t_X12_towels_b58 {X : Scr} {i0 : Nat} (h0 : KD[i0]? = some (.inl 12)) {k44 : Int32 → Int32 → Int32 → Int32 → Int32 → Mem → Option (Int32 × Mem)} (hk44 : ∀ (x2 : Int32) (x3 : Int32) (x4 : Int32) (x5 : Int32) (x6 : Int32) (M : Mem), T X eI (k44 x2 x3 x4 x5 x6 M) md_X12_towels 44 [(0, .ref i0), (2, .int x2), (3, .int x3), (4, .int x4), (5, .int x5), (6, .int x6)] [] M) {k58 : Int32 → Int32 → Int32 → Int32 → Int32 → Int32 → Int32 → Mem → Option (Int32 × Mem)} (hk58 : ∀ (x2 : Int32) (x3 : Int32) (x4 : Int32) (x5 : Int32) (x6 : Int32) (x7 : Int32) (x8 : Int32) (M : Mem), T X eI (k58 x2 x3 x4 x5 x6 x7 x8 M) md_X12_towels 58 [(0, .ref i0), (2, .int x2), (3, .int x3), (4, .int x4), (5, .int x5), (6, .int x6), (7, .int x7), (8, .int x8)] [] M) (x2 : Int32) (x3 : Int32) (x4 : Int32) (x5 : Int32) (x6 : Int32) (x7 : Int32) (x8 : Int32) (M : Mem) : T X eI (X12_towels_b58 i0 k44 k58 x2 x3 x4 x5 x6 x7 x8 M) md_X12_towels 58 [(0, .ref i0), (2, .int x2), (3, .int x3), (4, .int x4), (5, .int x5), (6, .int x6), (7, .int x7), (8, .int x8)] [] M := by
  unfold X12_towels_b58
  refine T_iload_n 2 dX12_towels_58 rfl rfl ?_
  refine T_iload 7 dX12_towels_59 rfl ?_
  refine T_callSI md_X12_isIn [.int x3, .int x8] [] dX12_towels_61 rfl ok_X12_isIn tb_895 tb_896 (by decide) (Nat.le_of_ble_eq_true rfl) (fun _ _ h9 => C_X12_isIn  _ _ h9) (fun r1 M1 => ?_)
  dsimp only
  refine T_if_ne 89 dX12_towels_64 (by decide) ?_ ?_
  ·
    refine T_iload_n 2 dX12_towels_67 rfl rfl ?_
    refine T_iconst (v := (1 : Int32)) (by decide) dX12_towels_68 ?_
    refine T_iload 7 dX12_towels_69 rfl ?_
    refine T_ishl dX12_towels_71 ?_
    refine T_ior dX12_towels_72 ?_
    refine T_istore_n [(3, .int (x3 ||| ((1 : Int32) <<< (x8 &&& 31)))), (0, .ref i0), (2, .int x2), (4, .int x4), (5, .int x5), (6, .int x6), (7, .int x7), (8, .int x8)] dX12_towels_73 rfl (by decide) rfl ?_
    refine T_iinc 6 [(7, .int (x7 + (1 : Int32))), (3, .int (x3 ||| ((1 : Int32) <<< (x8 &&& 31)))), (0, .ref i0), (2, .int x2), (4, .int x4), (5, .int x5), (6, .int x6), (8, .int x8)] (v := (1 : Int32)) dX12_towels_74 rfl (by decide) (by decide) rfl ?_
    refine T_aload_n 2 dX12_towels_77 rfl rfl ?_
    refine T_getR 23 FOk_12 h0 (by decide) (by decide) dX12_towels_78 tb_736 ?_
    refine T_iload 7 dX12_towels_81 rfl ?_
    refine T_iald (kf_12_23 h0) dX12_towels_83 ?_
    refine T_istore [(8, .int (M1.1 (rf i0 23) x8.toNatClampNeg)), (7, .int (x7 + (1 : Int32))), (3, .int (x3 ||| ((1 : Int32) <<< (x8 &&& 31)))), (0, .ref i0), (2, .int x2), (4, .int x4), (5, .int x5), (6, .int x6)] dX12_towels_84 (by decide) rfl ?_
    refine T_goto 58 dX12_towels_86 (by decide) ?_
    refine T_sub [3, 4, 2, 5, 6, 7, 1, 0] (lv' := [(0, .ref i0), (2, .int x2), (3, .int (x3 ||| ((1 : Int32) <<< (x8 &&& 31)))), (4, .int x4), (5, .int x5), (6, .int x6), (7, .int (x7 + (1 : Int32))), (8, .int (M1.1 (rf i0 23) x8.toNatClampNeg))]) rfl ?_
    exact hk58 _ _ _ _ _ _ _ _
  ·
    refine T_iload 3 dX12_towels_89 rfl ?_
    refine T_iload 6 dX12_towels_91 rfl ?_
    refine T_if_le 100 dX12_towels_93 (by decide) ?_ ?_
    ·
      refine T_iconst (v := (0 : Int32)) (by decide) dX12_towels_100 ?_
      refine T_sub [0, 1, 2, 4, 5, 6] (lv' := [(0, .ref i0), (2, .int x2), (3, .int x3), (5, .int x5), (6, .int x6), (7, .int x7)]) rfl ?_
      exact t_X12_towels_b101 h0 hk44 _ _ _ _ _ _ _ _
    ·
      refine T_iconst (v := (1 : Int32)) (by decide) dX12_towels_96 ?_
      refine T_goto 101 dX12_towels_97 (by decide) ?_
      refine T_sub [0, 1, 2, 4, 5, 6] (lv' := [(0, .ref i0), (2, .int x2), (3, .int x3), (5, .int x5), (6, .int x6), (7, .int x7)]) rfl ?_
      exact t_X12_towels_b101 h0 hk44 _ _ _ _ _ _ _ _
theorem t_X12_towels_l58 {X : Scr} {i0 : Nat} (h0 : KD[i0]? = some (.inl 12)) {k44 : Int32 → Int32 → Int32 → Int32 → Int32 → Mem → Option (Int32 × Mem)} (hk44 : ∀ (x2 : Int32) (x3 : Int32) (x4 : Int32) (x5 : Int32) (x6 : Int32) (M : Mem), T X eI (k44 x2 x3 x4 x5 x6 M) md_X12_towels 44 [(0, .ref i0), (2, .int x2), (3, .int x3), (4, .int x4), (5, .int x5), (6, .int x6)] [] M) (n : Nat) : ∀ (x2 : Int32) (x3 : Int32) (x4 : Int32) (x5 : Int32) (x6 : Int32) (x7 : Int32) (x8 : Int32) (M : Mem), T X eI (X12_towels_l58 i0 k44 n x2 x3 x4 x5 x6 x7 x8 M) md_X12_towels 58 [(0, .ref i0), (2, .int x2), (3, .int x3), (4, .int x4), (5, .int x5), (6, .int x6), (7, .int x7), (8, .int x8)] [] M := by
  induction n with
  | zero => intro x2 x3 x4 x5 x6 x7 x8 M; exact T_none
  | succ n ih => intro x2 x3 x4 x5 x6 x7 x8 M; exact t_X12_towels_b58 h0 hk44 ih x2 x3 x4 x5 x6 x7 x8 M
set_option maxHeartbeats 4000000 in
set_option maxRecDepth 100000 in
theorem t_X12_towels_b149 {X : Scr} {i0 : Nat} (h0 : KD[i0]? = some (.inl 12)) (s0 : Int32) (M : Mem) : T X eI (X12_towels_b149 i0  s0 M) md_X12_towels 149 [] [.int s0] M := by
  unfold X12_towels_b149
  exact T_iret dX12_towels_149 rfl
set_option maxHeartbeats 4000000 in
set_option maxRecDepth 100000 in
theorem t_X12_towels_b44 {X : Scr} {i0 : Nat} (h0 : KD[i0]? = some (.inl 12)) {k44 : Int32 → Int32 → Int32 → Int32 → Int32 → Mem → Option (Int32 × Mem)} (hk44 : ∀ (x2 : Int32) (x3 : Int32) (x4 : Int32) (x5 : Int32) (x6 : Int32) (M : Mem), T X eI (k44 x2 x3 x4 x5 x6 M) md_X12_towels 44 [(0, .ref i0), (2, .int x2), (3, .int x3), (4, .int x4), (5, .int x5), (6, .int x6)] [] M) (x2 : Int32) (x3 : Int32) (x4 : Int32) (x5 : Int32) (x6 : Int32) (M : Mem) : T X eI (X12_towels_b44 i0 k44 x2 x3 x4 x5 x6 M) md_X12_towels 44 [(0, .ref i0), (2, .int x2), (3, .int x3), (4, .int x4), (5, .int x5), (6, .int x6)] [] M := by
  unfold X12_towels_b44
  refine T_iload 5 dX12_towels_44 rfl ?_
  refine T_bipush (v := (6 : Int32)) (by decide) dX12_towels_46 ?_
  refine T_icmp_ge 135 dX12_towels_48 (by decide) ?_ ?_
  ·
    refine T_iload_n 1 dX12_towels_135 rfl rfl ?_
    refine T_if_ne 147 dX12_towels_136 (by decide) ?_ ?_
    ·
      refine T_bipush (v := (6 : Int32)) (by decide) dX12_towels_139 ?_
      refine T_iload 3 dX12_towels_141 rfl ?_
      refine T_isub dX12_towels_143 ?_
      refine T_goto 149 dX12_towels_144 (by decide) ?_
      refine T_sub [] (lv' := []) rfl ?_
      exact t_X12_towels_b149 h0  _ _
    ·
      refine T_iload 4 dX12_towels_147 rfl ?_
      refine T_sub [] (lv' := []) rfl ?_
      exact t_X12_towels_b149 h0  _ _
  ·
    refine T_iconst (v := (0 : Int32)) (by decide) dX12_towels_51 ?_
    refine T_istore [(7, .int (0 : Int32)), (0, .ref i0), (2, .int x2), (3, .int x3), (4, .int x4), (5, .int x5), (6, .int x6)] dX12_towels_52 (by decide) rfl ?_
    refine T_iload 6 dX12_towels_54 rfl ?_
    refine T_istore [(8, .int x6), (7, .int (0 : Int32)), (0, .ref i0), (2, .int x2), (3, .int x3), (4, .int x4), (5, .int x5), (6, .int x6)] dX12_towels_56 (by decide) rfl ?_
    refine T_sub [2, 3, 4, 5, 6, 7, 1, 0] (lv' := [(0, .ref i0), (2, .int x2), (3, .int x3), (4, .int x4), (5, .int x5), (6, .int x6), (7, .int (0 : Int32)), (8, .int x6)]) rfl ?_
    exact t_X12_towels_l58 h0 hk44 _ _ _ _ _ _ _ _ _
theorem t_X12_towels_l44 {X : Scr} {i0 : Nat} (h0 : KD[i0]? = some (.inl 12)) (n : Nat) : ∀ (x2 : Int32) (x3 : Int32) (x4 : Int32) (x5 : Int32) (x6 : Int32) (M : Mem), T X eI (X12_towels_l44 i0  n x2 x3 x4 x5 x6 M) md_X12_towels 44 [(0, .ref i0), (2, .int x2), (3, .int x3), (4, .int x4), (5, .int x5), (6, .int x6)] [] M := by
  induction n with
  | zero => intro x2 x3 x4 x5 x6 M; exact T_none
  | succ n ih => intro x2 x3 x4 x5 x6 M; exact t_X12_towels_b44 h0 ih x2 x3 x4 x5 x6 M
set_option maxHeartbeats 4000000 in
set_option maxRecDepth 100000 in
theorem t_X12_towels {X : Scr} {i0 : Nat} (h0 : KD[i0]? = some (.inl 12)) (x1 : Int32) (x2 : Int32) (M : Mem) : T X eI (X12_towels i0  x1 x2 M) md_X12_towels 0 [(0, .ref i0), (1, .int x1), (2, .int x2)] [] M := by
  unfold X12_towels
  refine T_iload_n 1 dX12_towels_0 rfl rfl ?_
  refine T_i2l dX12_towels_1 ?_
  refine T_lconst (v := (0 : Int64)) (by decide) dX12_towels_2 ?_
  refine T_ldc2 (v := (999999 : Int64)) dX12_towels_3 tb_998 ?_
  refine T_callSI md_X12_in [.long x1.toInt64, .long (0 : Int64), .long (999999 : Int64)] [] dX12_towels_6 rfl ok_X12_in tb_816 tb_817 (by decide) (Nat.le_of_ble_eq_true rfl) (fun _ _ h9 => C_X12_in  _ _ _ h9) (fun r1 M1 => ?_)
  dsimp only
  refine T_if_eq 30 dX12_towels_9 (by decide) ?_ ?_
  ·
    refine T_sub [] (lv' := []) rfl ?_
    exact t_X12_towels_b30 h0   _
  ·
    refine T_aload_n 0 dX12_towels_12 rfl rfl ?_
    refine T_iload_n 1 dX12_towels_13 rfl rfl ?_
    refine T_callVI md_X12_readHooks [.int x1] [] dX12_towels_14 h0 rfl rfl ok_X12_readHooks tb_999 tb_1001 tb_35 (by decide) (Nat.le_of_ble_eq_true rfl) (fun _ _ h9 => C_X12_readHooks h0 _ h9) (fun r2 M2 => ?_)
    dsimp only
    refine T_if_eq 30 dX12_towels_17 (by decide) ?_ ?_
    ·
      refine T_sub [] (lv' := []) rfl ?_
      exact t_X12_towels_b30 h0   _
    ·
      refine T_iload_n 2 dX12_towels_20 rfl rfl ?_
      refine T_i2l dX12_towels_21 ?_
      refine T_lconst (v := (0 : Int64)) (by decide) dX12_towels_22 ?_
      refine T_lconst (v := (1 : Int64)) (by decide) dX12_towels_23 ?_
      refine T_callSI md_X12_in [.long x2.toInt64, .long (0 : Int64), .long (1 : Int64)] [] dX12_towels_24 rfl ok_X12_in tb_816 tb_817 (by decide) (Nat.le_of_ble_eq_true rfl) (fun _ _ h9 => C_X12_in  _ _ _ h9) (fun r3 M3 => ?_)
      dsimp only
      refine T_if_ne 33 dX12_towels_27 (by decide) ?_ ?_
      ·
        refine T_sub [] (lv' := []) rfl ?_
        exact t_X12_towels_b30 h0   _
      ·
        refine T_iconst (v := (0 : Int32)) (by decide) dX12_towels_33 ?_
        refine T_istore_n [(3, .int (0 : Int32)), (0, .ref i0), (1, .int x1), (2, .int x2)] dX12_towels_34 rfl (by decide) rfl ?_
        refine T_iconst (v := (0 : Int32)) (by decide) dX12_towels_35 ?_
        refine T_istore [(4, .int (0 : Int32)), (3, .int (0 : Int32)), (0, .ref i0), (1, .int x1), (2, .int x2)] dX12_towels_36 (by decide) rfl ?_
        refine T_iconst (v := (1 : Int32)) (by decide) dX12_towels_38 ?_
        refine T_istore [(5, .int (1 : Int32)), (4, .int (0 : Int32)), (3, .int (0 : Int32)), (0, .ref i0), (1, .int x1), (2, .int x2)] dX12_towels_39 (by decide) rfl ?_
        refine T_iconst (v := (0 : Int32)) (by decide) dX12_towels_41 ?_
        refine T_istore [(6, .int (0 : Int32)), (5, .int (1 : Int32)), (4, .int (0 : Int32)), (3, .int (0 : Int32)), (0, .ref i0), (1, .int x1), (2, .int x2)] dX12_towels_42 (by decide) rfl ?_
        refine T_sub [4, 6, 3, 2, 1, 0] (lv' := [(0, .ref i0), (2, .int x2), (3, .int (0 : Int32)), (4, .int (0 : Int32)), (5, .int (1 : Int32)), (6, .int (0 : Int32))]) rfl ?_
        exact t_X12_towels_l44 h0  _ _ _ _ _ _ _
theorem C_X12_towels {X : Scr} {i0 : Nat} (h0 : KD[i0]? = some (.inl 12)) (x1 : Int32) (x2 : Int32) {M : Mem} {r : Int32} {M' : Mem} (h : X12_towels i0 x1 x2 M = some (r, M')) : Ct X md_X12_towels [.ref i0, .int x1, .int x2] M (eI r) M' := Ct_of (by decide +kernel) (Nat.le_of_ble_eq_true rfl) (t_X12_towels h0 _ _ M) r M' h
-- X12_found
def X12_found (i0 : Nat)  (x1 : Int32) (x2 : Int32) (M : Mem) : Option (Int32 × Mem) :=
  (X12_isThing  x2 M).bind (fun p1 =>
    if p1.1 = 0 then
      some ((-1 : Int32), p1.2)
    else
      (X12_in  x1.toInt64 (0 : Int64) (60 : Int64) p1.2).bind (fun p2 =>
        if p2.1 = 0 then
          some ((-2 : Int32), p2.2)
        else
          if (p2.2.1 i0 10) = (8 : Int32) then
            some ((-4 : Int32), p2.2)
          else
            gd (ib (p2.2.1 i0 10) 8) (
              mw (mI p2.2 (rf i0 8) (p2.2.1 i0 10).toNatClampNeg x1) (fun N3 =>
                gd (ib (N3.1 i0 10) 8) (
                  mw (mI N3 (rf i0 9) (N3.1 i0 10).toNatClampNeg x2) (fun N4 =>
                    mw (mI N4 i0 10 ((N4.1 i0 10) + (1 : Int32))) (fun N5 =>
                      some ((N5.1 i0 10), N5))))))))
set_option maxHeartbeats 4000000 in
set_option maxRecDepth 100000 in
theorem t_X12_found {X : Scr} {i0 : Nat} (h0 : KD[i0]? = some (.inl 12)) (x1 : Int32) (x2 : Int32) (M : Mem) : T X eI (X12_found i0  x1 x2 M) md_X12_found 0 [(0, .ref i0), (1, .int x1), (2, .int x2)] [] M := by
  unfold X12_found
  refine T_iload_n 2 dX12_found_0 rfl rfl ?_
  refine T_callSI md_X12_isThing [.int x2] [] dX12_found_1 rfl ok_X12_isThing tb_1010 tb_1011 (by decide) (Nat.le_of_ble_eq_true rfl) (fun _ _ h9 => C_X12_isThing  _ h9) (fun r1 M1 => ?_)
  dsimp only
  refine T_if_ne 9 dX12_found_4 (by decide) ?_ ?_
  ·
    refine T_iconst (v := (-1 : Int32)) (by decide) dX12_found_7 ?_
    exact T_iret dX12_found_8 rfl
  ·
    refine T_iload_n 1 dX12_found_9 rfl rfl ?_
    refine T_i2l dX12_found_10 ?_
    refine T_lconst (v := (0 : Int64)) (by decide) dX12_found_11 ?_
    refine T_ldc2 (v := (60 : Int64)) dX12_found_12 tb_1013 ?_
    refine T_callSI md_X12_in [.long x1.toInt64, .long (0 : Int64), .long (60 : Int64)] [] dX12_found_15 rfl ok_X12_in tb_816 tb_817 (by decide) (Nat.le_of_ble_eq_true rfl) (fun _ _ h9 => C_X12_in  _ _ _ h9) (fun r2 M2 => ?_)
    dsimp only
    refine T_if_ne 24 dX12_found_18 (by decide) ?_ ?_
    ·
      refine T_bipush (v := (-2 : Int32)) (by decide) dX12_found_21 ?_
      exact T_iret dX12_found_23 rfl
    ·
      refine T_aload_n 0 dX12_found_24 rfl rfl ?_
      refine T_getI 10 FOk_12 h0 (by decide) (by decide) dX12_found_25 tb_723 ?_
      refine T_bipush (v := (8 : Int32)) (by decide) dX12_found_28 ?_
      refine T_icmp_ne 36 dX12_found_30 (by decide) ?_ ?_
      ·
        refine T_bipush (v := (-4 : Int32)) (by decide) dX12_found_33 ?_
        exact T_iret dX12_found_35 rfl
      ·
        refine T_aload_n 0 dX12_found_36 rfl rfl ?_
        refine T_getR 8 FOk_12 h0 (by decide) (by decide) dX12_found_37 tb_721 ?_
        refine T_aload_n 0 dX12_found_40 rfl rfl ?_
        refine T_getI 10 FOk_12 h0 (by decide) (by decide) dX12_found_41 tb_723 ?_
        refine T_iload_n 1 dX12_found_44 rfl rfl ?_
        refine T_iast (kf_12_8 h0) dX12_found_45 ?_
        refine T_mw (fun N3 => ?_)
        try dsimp only
        refine T_aload_n 0 dX12_found_46 rfl rfl ?_
        refine T_getR 9 FOk_12 h0 (by decide) (by decide) dX12_found_47 tb_722 ?_
        refine T_aload_n 0 dX12_found_50 rfl rfl ?_
        refine T_getI 10 FOk_12 h0 (by decide) (by decide) dX12_found_51 tb_723 ?_
        refine T_iload_n 2 dX12_found_54 rfl rfl ?_
        refine T_iast (kf_12_9 h0) dX12_found_55 ?_
        refine T_mw (fun N4 => ?_)
        try dsimp only
        refine T_aload_n 0 dX12_found_56 rfl rfl ?_
        refine T_dup rfl dX12_found_57 ?_
        refine T_getI 10 FOk_12 h0 (by decide) (by decide) dX12_found_58 tb_723 ?_
        refine T_iconst (v := (1 : Int32)) (by decide) dX12_found_61 ?_
        refine T_iadd dX12_found_62 ?_
        refine T_putI (ty := .int) 10 FOk_12 h0 (by decide) (by decide) rfl (by decide +kernel) rfl rfl dX12_found_63 tb_723 ?_
        refine T_mw (fun N5 => ?_)
        try dsimp only
        refine T_aload_n 0 dX12_found_66 rfl rfl ?_
        refine T_getI 10 FOk_12 h0 (by decide) (by decide) dX12_found_67 tb_723 ?_
        exact T_iret dX12_found_70 rfl
theorem C_X12_found {X : Scr} {i0 : Nat} (h0 : KD[i0]? = some (.inl 12)) (x1 : Int32) (x2 : Int32) {M : Mem} {r : Int32} {M' : Mem} (h : X12_found i0 x1 x2 M = some (r, M')) : Ct X md_X12_found [.ref i0, .int x1, .int x2] M (eI r) M' := Ct_of (by decide +kernel) (Nat.le_of_ble_eq_true rfl) (t_X12_found h0 _ _ M) r M' h
-- X12_forget
def X12_forget (i0 : Nat)   (M : Mem) : Option (Int32 × Mem) :=
  some ((M.1 i0 10), (mI M i0 10 (0 : Int32)))
set_option maxHeartbeats 4000000 in
set_option maxRecDepth 100000 in
theorem t_X12_forget {X : Scr} {i0 : Nat} (h0 : KD[i0]? = some (.inl 12))  (M : Mem) : T X eI (X12_forget i0   M) md_X12_forget 0 [(0, .ref i0)] [] M := by
  unfold X12_forget
  refine T_aload_n 0 dX12_forget_0 rfl rfl ?_
  refine T_getI 10 FOk_12 h0 (by decide) (by decide) dX12_forget_1 tb_723 ?_
  refine T_istore_n [(1, .int (M.1 i0 10)), (0, .ref i0)] dX12_forget_4 rfl (by decide) rfl ?_
  refine T_aload_n 1 dX12_forget_5 rfl rfl ?_
  refine T_iconst (v := (0 : Int32)) (by decide) dX12_forget_6 ?_
  refine T_putI (ty := .int) 10 FOk_12 h0 (by decide) (by decide) rfl (by decide +kernel) rfl rfl dX12_forget_7 tb_723 ?_
  refine T_iload_n 0 dX12_forget_10 rfl rfl ?_
  exact T_iret dX12_forget_11 rfl
theorem C_X12_forget {X : Scr} {i0 : Nat} (h0 : KD[i0]? = some (.inl 12))  {M : Mem} {r : Int32} {M' : Mem} (h : X12_forget i0  M = some (r, M')) : Ct X md_X12_forget [.ref i0] M (eI r) M' := Ct_of (by decide +kernel) (Nat.le_of_ble_eq_true rfl) (t_X12_forget h0  M) r M' h
-- X12_foundBy
def X12_foundBy   (x0 : Int32) (x1 : Int32) (M : Mem) : Option (Int32 × Mem) :=
  gd (!((10 : Int32) == 0)) (
    gd (!((10 : Int32) == 0)) (
      gd (!((8 : Int32) == 0)) (
        some (((((x0 / (10 : Int32)) * x1) + (x0 - x0 / (10 : Int32) * (10 : Int32))) - (((x0 / (10 : Int32)) * x1) + (x0 - x0 / (10 : Int32) * (10 : Int32))) / (8 : Int32) * (8 : Int32)), M))))
set_option maxHeartbeats 4000000 in
set_option maxRecDepth 100000 in
theorem t_X12_foundBy {X : Scr}   (x0 : Int32) (x1 : Int32) (M : Mem) : T X eI (X12_foundBy   x0 x1 M) md_X12_foundBy 0 [(0, .int x0), (1, .int x1)] [] M := by
  unfold X12_foundBy
  refine T_iload_n 0 dX12_foundBy_0 rfl rfl ?_
  refine T_bipush (v := (10 : Int32)) (by decide) dX12_foundBy_1 ?_
  refine T_idiv dX12_foundBy_3 ?_
  refine T_iload_n 1 dX12_foundBy_4 rfl rfl ?_
  refine T_imul dX12_foundBy_5 ?_
  refine T_iload_n 0 dX12_foundBy_6 rfl rfl ?_
  refine T_bipush (v := (10 : Int32)) (by decide) dX12_foundBy_7 ?_
  refine T_irem dX12_foundBy_9 ?_
  refine T_iadd dX12_foundBy_10 ?_
  refine T_bipush (v := (8 : Int32)) (by decide) dX12_foundBy_11 ?_
  refine T_irem dX12_foundBy_13 ?_
  exact T_iret dX12_foundBy_14 rfl
theorem C_X12_foundBy {X : Scr}   (x0 : Int32) (x1 : Int32) {M : Mem} {r : Int32} {M' : Mem} (h : X12_foundBy  x0 x1 M = some (r, M')) : Ct X md_X12_foundBy [.int x0, .int x1] M (eI r) M' := Ct_of (by decide +kernel) (Nat.le_of_ble_eq_true rfl) (t_X12_foundBy  _ _ M) r M' h
