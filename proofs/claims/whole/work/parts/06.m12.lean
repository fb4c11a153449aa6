-- X12_towels
def X12_towels_b30 (i0 : Nat)   (M : Mem) : Option (Int32 × Mem) :=
  some ((-2 : Int32), M)
def X12_towels_b127 (i0 : Nat) (k44 : Int32 → Int32 → Int32 → Int32 → Int32 → Mem → Option (Int32 × Mem)) (x2 : Int32) (x3 : Int32) (x4 : Int32) (x6 : Int32) (s0 : Int32) (M : Mem) : Option (Int32 × Mem) :=
  k44 x2 x3 x4 s0 (x6 + (1 : Int32)) M
def X12_towels_b101 (i0 : Nat) (k44 : Int32 → Int32 → Int32 → Int32 → Int32 → Mem → Option (Int32 × Mem)) (x2 : Int32) (x3 : Int32) (x5 : Int32) (x6 : Int32) (x7 : Int32) (s0 : Int32) (s1 : Int32) (M : Mem) : Option (Int32 × Mem) :=
  if x7 ≤ 0 then
    X12_towels_b127 i0 k44 x2 x3 (s1 + s0) x6 x5 M
  else
    (X12_common  x5 x7 M).bind (fun p1 =>
      gd (!(p1.1 == 0)) (
        X12_towels_b127 i0 k44 x2 x3 (s1 + s0) x6 ((x5 / p1.1) * x7) p1.2))
def X12_towels_b58 (i0 : Nat) (k44 : Int32 → Int32 → Int32 → Int32 → Int32 → Mem → Option (Int32 × Mem)) (k58 : Int32 → Int32 → Int32 → Int32 → Int32 → Int32 → Int32 → Mem → Option (Int32 × Mem)) (x2 : Int32) (x3 : Int32) (x4 : Int32) (x5 : Int32) (x6 : Int32) (x7 : Int32) (x8 : Int32) (M : Mem) : Option (Int32 × Mem) :=
  (X12_isIn  x3 x8 M).bind (fun p1 =>
    if p1.1 = 0 then
      iw (x3 ||| ((1 : Int32) <<< (x8 &&& 31))) (fun v2 =>
        gd (ib x8 6) (
          iw (p1.2.1 (rf i0 23) x8.toNatClampNeg) (fun v3 =>
            k58 x2 v2 x4 x5 x6 (x7 + (1 : Int32)) v3 p1.2)))
    else
      if x7 ≤ 0 then
        X12_towels_b101 i0 k44 x2 x3 x5 x6 x7 (0 : Int32) x4 p1.2
      else
        X12_towels_b101 i0 k44 x2 x3 x5 x6 x7 (1 : Int32) x4 p1.2)
def X12_towels_l58 (i0 : Nat) (k44 : Int32 → Int32 → Int32 → Int32 → Int32 → Mem → Option (Int32 × Mem)) : Nat → Int32 → Int32 → Int32 → Int32 → Int32 → Int32 → Int32 → Mem → Option (Int32 × Mem)
  | 0 => fun _ _ _ _ _ _ _ _ => none
  | n + 1 => X12_towels_b58 i0 k44 (X12_towels_l58 i0 k44 n)
def X12_towels_b149 (i0 : Nat)  (s0 : Int32) (M : Mem) : Option (Int32 × Mem) :=
  some (s0, M)
def X12_towels_b44 (i0 : Nat) (k44 : Int32 → Int32 → Int32 → Int32 → Int32 → Mem → Option (Int32 × Mem)) (x2 : Int32) (x3 : Int32) (x4 : Int32) (x5 : Int32) (x6 : Int32) (M : Mem) : Option (Int32 × Mem) :=
  if (6 : Int32) ≤ x6 then
    if x2 = 0 then
      X12_towels_b149 i0  ((6 : Int32) - x4) M
    else
      X12_towels_b149 i0  x5 M
  else
    X12_towels_l58 i0 k44 FU x2 x3 x4 x5 x6 (0 : Int32) x6 M
def X12_towels_l44 (i0 : Nat)  : Nat → Int32 → Int32 → Int32 → Int32 → Int32 → Mem → Option (Int32 × Mem)
  | 0 => fun _ _ _ _ _ _ => none
  | n + 1 => X12_towels_b44 i0 (X12_towels_l44 i0  n)
def X12_towels (i0 : Nat)  (x1 : Int32) (x2 : Int32) (M : Mem) : Option (Int32 × Mem) :=
  (X12_in  x1.toInt64 (0 : Int64) (999999 : Int64) M).bind (fun p1 =>
    if p1.1 = 0 then
      X12_towels_b30 i0   p1.2
    else
      (X12_readHooks i0 x1 p1.2).bind (fun p2 =>
        if p2.1 = 0 then
          X12_towels_b30 i0   p2.2
        else
          (X12_in  x2.toInt64 (0 : Int64) (1 : Int64) p2.2).bind (fun p3 =>
            if p3.1 = 0 then
              X12_towels_b30 i0   p3.2
            else
              X12_towels_l44 i0  FU x2 (0 : Int32) (0 : Int32) (1 : Int32) (0 : Int32) p3.2)))
set_option maxHeartbeats 4000000 in
set_option maxRecDepth 100000 in
theorem t_X12_towels_b30 {X : Scr} {i0 : Nat} (h0 : KD[i0]? = some (.inl 12))  (M : Mem) : T X eI (X12_towels_b30 i0   M) md_X12_towels 30 [] [] M := by
  unfold X12_towels_b30
  refine T_bipush (v := (-2 : Int32)) (by decide) dX12_towels_30 ?_
  exact T_iret dX12_towels_32 rfl
set_option maxHeartbeats 4000000 in
set_option maxRecDepth 100000 in
theorem t_X12_towels_b127 {X : Scr} {i0 : Nat} (h0 : KD[i0]? = some (.inl 12)) {k44 : Int32 → Int32 → Int32 → Int32 → Int32 → Mem → Option (Int32 × Mem)} (hk44 : ∀ (x2 : Int32) (x3 : Int32) (x4 : Int32) (x5 : Int32) (x6 : Int32) (M : Mem), T X eI (k44 x2 x3 x4 x5 x6 M) md_X12_towels 44 [(0, .ref i0), (2, .int x2), (3, .int x3), (4, .int x4), (5, .int x5), (6, .int x6)] [] M) (x2 : Int32) (x3 : Int32) (x4 : Int32) (x6 : Int32) (s0 : Int32) (M : Mem) : T X eI (X12_towels_b127 i0 k44 x2 x3 x4 x6 s0 M) md_X12_towels 127 [(0, .ref i0), (2, .int x2), (3, .int x3), (4, .int x4), (6, .int x6)] [.int s0] M := by
  unfold X12_towels_b127
  refine T_istore [(5, .int s0), (0, .ref i0), (2, .int x2), (3, .int x3), (4, .int x4), (6, .int x6)] dX12_towels_127 (by decide) rfl ?_
  refine T_iinc 5 [(6, .int (x6 + (1 : Int32))), (5, .int s0), (0, .ref i0), (2, .int x2), (3, .int x3), (4, .int x4)] (v := (1 : Int32)) dX12_towels_129 rfl (by decide) (by decide) rfl ?_
  refine T_goto 44 dX12_towels_132 (by decide) ?_
  refine T_sub [2, 3, 4, 5, 1, 0] (lv' := [(0, .ref i0), (2, .int x2), (3, .int x3), (4, .int x4), (5, .int s0), (6, .int (x6 + (1 : Int32)))]) rfl ?_
  exact hk44 _ _ _ _ _ _
set_option maxHeartbeats 4000000 in
set_option maxRecDepth 100000 in
theorem t_X12_towels_b101 {X : Scr} {i0 : Nat} (h0 : KD[i0]? = some (.inl 12)) {k44 : Int32 → Int32 → Int32 → Int32 → Int32 → Mem → Option (Int32 × Mem)} (hk44 : ∀ (x2 : Int32) (x3 : Int32) (x4 : Int32) (x5 : Int32) (x6 : Int32) (M : Mem), T X eI (k44 x2 x3 x4 x5 x6 M) md_X12_towels 44 [(0, .ref i0), (2, .int x2), (3, .int x3), (4, .int x4), (5, .int x5), (6, .int x6)] [] M) (x2 : Int32) (x3 : Int32) (x5 : Int32) (x6 : Int32) (x7 : Int32) (s0 : Int32) (s1 : Int32) (M : Mem) : T X eI (X12_towels_b101 i0 k44 x2 x3 x5 x6 x7 s0 s1 M) md_X12_towels 101 [(0, .ref i0), (2, .int x2), (3, .int x3), (5, .int x5), (6, .int x6), (7, .int x7)] [.int s0, .int s1] M := by
  unfold X12_towels_b101
  refine T_iadd dX12_towels_101 ?_
  refine T_istore [(4, .int (s1 + s0)), (0, .ref i0), (2, .int x2), (3, .int x3), (5, .int x5), (6, .int x6), (7, .int x7)] dX12_towels_102 (by decide) rfl ?_
  refine T_iload 6 dX12_towels_104 rfl ?_
  refine T_if_le 125 dX12_towels_106 (by decide) ?_ ?_
  ·
    refine T_iload 4 dX12_towels_125 rfl ?_
    refine T_sub [1, 2, 3, 0, 5] (lv' := [(0, .ref i0), (2, .int x2), (3, .int x3), (4, .int (s1 + s0)), (6, .int x6)]) rfl ?_
    exact t_X12_towels_b127 h0 hk44 _ _ _ _ _ _
  ·
    refine T_iload 4 dX12_towels_109 rfl ?_
    refine T_iload 4 dX12_towels_111 rfl ?_
    refine T_iload 6 dX12_towels_113 rfl ?_
    refine T_callSI md_X12_common [.int x5, .int x7] [.int x5] dX12_towels_115 rfl ok_X12_common tb_1003 tb_1004 (by decide) (Nat.le_of_ble_eq_true rfl) (fun _ _ h9 => C_X12_common  _ _ h9) (fun r1 M1 => ?_)
    dsimp only
    refine T_idiv dX12_towels_118 ?_
    refine T_iload 6 dX12_towels_119 rfl ?_
    refine T_imul dX12_towels_121 ?_
    refine T_goto 127 dX12_towels_122 (by decide) ?_
    refine T_sub [1, 2, 3, 0, 5] (lv' := [(0, .ref i0), (2, .int x2), (3, .int x3), (4, .int (s1 + s0)), (6, .int x6)]) rfl ?_
    exact t_X12_towels_b127 h0 hk44 _ _ _ _ _ _
set_option maxHeartbeats 4000000 in
set_option maxRecDepth 100000 in
theorem t_X12_towels_b58 {X : Scr} {i0 : Nat} (h0 : KD[i0]? = some (.inl 12)) {k44 : Int32 → Int32 → Int32 → Int32 → Int32 → Mem → Option (Int32 × Mem)} (hk44 : ∀ (x2 : Int32) (x3 : Int32) (x4 : Int32) (x5 : Int32) (x6 : Int32) (M : Mem), T X eI (k44 x2 x3 x4 x5 x6 M) md_X12_towels 44 [(0, .ref i0), (2, .int x2), (3, .int x3), (4, .int x4), (5, .int x5), (6, .int x6)] [] M) {k58 : Int32 → Int32 → Int32 → Int32 → Int32 → Int32 → Int32 → Mem → Option (Int32 × Mem)} (hk58 : ∀ (x2 : Int32) (x3 : Int32) (x4 : Int32) (x5 : Int32) (x6 : Int32) (x7 : Int32) (x8 : Int32) (M : Mem), T X eI (k58 x2 x3 x4 x5 x6 x7 x8 M) md_X12_towels 58 [(0, .ref i0), (2, .int x2), (3, .int x3), (4, .int x4), (5, .int x5), (6, .int x6), (7, .int x7), (8, .int x8)] [] M) (x2 : Int32) (x3 : Int32) (x4 : Int32) (x5 : Int32) (x6 : Int32) (x7 : Int32) (x8 : Int32) (M : Mem) : T X eI (X12_towels_b58 i0 k44 k58 x2 x3 x4 x5 x6 x7 x8 M) md_X12_towels 58 [(0, .ref i0), (2, .int x2), (3, .int x3), (4, .int x4), (5, .int x5), (6, .int x6), (7, .int x7), (8, .int x8)] [] M := by
  unfold X12_towels_b58
  refine T_iload_n 2 dX12_towels_58 rfl rfl ?_
  refine T_iload 7 dX12_towels_59 rfl ?_
  refine T_callSI md_X12_isIn [.int x3, .int x8] [] dX12_towels_61 rfl ok_X12_isIn tb_895 tb_896 (by decide) (Nat.le_of_ble_eq_true rfl) (fun _ _ h9 => C_X12_isIn  _ _ h9) (fun r1 M1 => ?_)
  dsimp only
  refine T_if_ne 89 dX12_towels_64 (by decide) ?_ ?_
  ·
    refine T_iload_n 2 dX12_towels_67 rfl rfl ?_
    refine T_iconst (v := (1 : Int32)) (by decide) dX12_towels_68 ?_
    refine T_iload 7 dX12_towels_69 rfl ?_
    refine T_ishl dX12_towels_71 ?_
    refine T_ior dX12_towels_72 ?_
    refine T_iw (fun v2 => ?_)
    try dsimp only
    refine T_istore_n [(3, .int v2), (0, .ref i0), (2, .int x2), (4, .int x4), (5, .int x5), (6, .int x6), (7, .int x7), (8, .int x8)] dX12_towels_73 rfl (by decide) rfl ?_
    refine T_iinc 6 [(7, .int (x7 + (1 : Int32))), (3, .int v2), (0, .ref i0), (2, .int x2), (4, .int x4), (5, .int x5), (6, .int x6), (8, .int x8)] (v := (1 : Int32)) dX12_towels_74 rfl (by decide) (by decide) rfl ?_
    refine T_aload_n 2 dX12_towels_77 rfl rfl ?_
    refine T_getR 23 FOk_12 h0 (by decide) (by decide) dX12_towels_78 tb_736 ?_
    refine T_iload 7 dX12_towels_81 rfl ?_
    refine T_iald (kf_12_23 h0) dX12_towels_83 ?_
    refine T_iw (fun v3 => ?_)
    try dsimp only
    refine T_istore [(8, .int v3), (7, .int (x7 + (1 : Int32))), (3, .int v2), (0, .ref i0), (2, .int x2), (4, .int x4), (5, .int x5), (6, .int x6)] dX12_towels_84 (by decide) rfl ?_
    refine T_goto 58 dX12_towels_86 (by decide) ?_
    refine T_sub [3, 4, 2, 5, 6, 7, 1, 0] (lv' := [(0, .ref i0), (2, .int x2), (3, .int v2), (4, .int x4), (5, .int x5), (6, .int x6), (7, .int (x7 + (1 : Int32))), (8, .int v3)]) rfl ?_
    exact hk58 _ _ _ _ _ _ _ _
  ·
    refine T_iload 3 dX12_towels_89 rfl ?_
    refine T_iload 6 dX12_towels_91 rfl ?_
    refine T_if_le 100 dX12_towels_93 (by decide) ?_ ?_
    ·
      refine T_iconst (v := (0 : Int32)) (by decide) dX12_towels_100 ?_
      refine T_sub [0, 1, 2, 4, 5, 6] (lv' := [(0, .ref i0), (2, .int x2), (3, .int x3), (5, .int x5), (6, .int x6), (7, .int x7)]) rfl ?_
      exact t_X12_towels_b101 h0 hk44 _ _ _ _ _ _ _ _
    ·
      refine T_iconst (v := (1 : Int32)) (by decide) dX12_towels_96 ?_
      refine T_goto 101 dX12_towels_97 (by decide) ?_
      refine T_sub [0, 1, 2, 4, 5, 6] (lv' := [(0, .ref i0), (2, .int x2), (3, .int x3), (5, .int x5), (6, .int x6), (7, .int x7)]) rfl ?_
      exact t_X12_towels_b101 h0 hk44 _ _ _ _ _ _ _ _
theorem t_X12_towels_l58 {X : Scr} {i0 : Nat} (h0 : KD[i0]? = some (.inl 12)) {k44 : Int32 → Int32 → Int32 → Int32 → Int32 → Mem → Option (Int32 × Mem)} (hk44 : ∀ (x2 : Int32) (x3 : Int32) (x4 : Int32) (x5 : Int32) (x6 : Int32) (M : Mem), T X eI (k44 x2 x3 x4 x5 x6 M) md_X12_towels 44 [(0, .ref i0), (2, .int x2), (3, .int x3), (4, .int x4), (5, .int x5), (6, .int x6)] [] M) (n : Nat) : ∀ (x2 : Int32) (x3 : Int32) (x4 : Int32) (x5 : Int32) (x6 : Int32) (x7 : Int32) (x8 : Int32) (M : Mem), T X eI (X12_towels_l58 i0 k44 n x2 x3 x4 x5 x6 x7 x8 M) md_X12_towels 58 [(0, .ref i0), (2, .int x2), (3, .int x3), (4, .int x4), (5, .int x5), (6, .int x6), (7, .int x7), (8, .int x8)] [] M := by
  induction n with
  | zero => intro x2 x3 x4 x5 x6 x7 x8 M; exact T_none
  | succ n ih => intro x2 x3 x4 x5 x6 x7 x8 M; exact t_X12_towels_b58 h0 hk44 ih x2 x3 x4 x5 x6 x7 x8 M
set_option maxHeartbeats 4000000 in
set_option maxRecDepth 100000 in
theorem t_X12_towels_b149 {X : Scr} {i0 : Nat} (h0 : KD[i0]? = some (.inl 12)) (s0 : Int32) (M : Mem) : T X eI (X12_towels_b149 i0  s0 M) md_X12_towels 149 [] [.int s0] M := by
  unfold X12_towels_b149
  exact T_iret dX12_towels_149 rfl
set_option maxHeartbeats 4000000 in
set_option maxRecDepth 100000 in
theorem t_X12_towels_b44 {X : Scr} {i0 : Nat} (h0 : KD[i0]? = some (.inl 12)) {k44 : Int32 → Int32 → Int32 → Int32 → Int32 → Mem → Option (Int32 × Mem)} (hk44 : ∀ (x2 : Int32) (x3 : Int32) (x4 : Int32) (x5 : Int32) (x6 : Int32) (M : Mem), T X eI (k44 x2 x3 x4 x5 x6 M) md_X12_towels 44 [(0, .ref i0), (2, .int x2), (3, .int x3), (4, .int x4), (5, .int x5), (6, .int x6)] [] M) (x2 : Int32) (x3 : Int32) (x4 : Int32) (x5 : Int32) (x6 : Int32) (M : Mem) : T X eI (X12_towels_b44 i0 k44 x2 x3 x4 x5 x6 M) md_X12_towels 44 [(0, .ref i0), (2, .int x2), (3, .int x3), (4, .int x4), (5, .int x5), (6, .int x6)] [] M := by
  unfold X12_towels_b44
  refine T_iload 5 dX12_towels_44 rfl ?_
  refine T_bipush (v := (6 : Int32)) (by decide) dX12_towels_46 ?_
  refine T_icmp_ge 135 dX12_towels_48 (by decide) ?_ ?_
  ·
    refine T_iload_n 1 dX12_towels_135 rfl rfl ?_
    refine T_if_ne 147 dX12_towels_136 (by decide) ?_ ?_
    ·
      refine T_bipush (v := (6 : Int32)) (by decide) dX12_towels_139 ?_
      refine T_iload 3 dX12_towels_141 rfl ?_
      refine T_isub dX12_towels_143 ?_
      refine T_goto 149 dX12_towels_144 (by decide) ?_
      refine T_sub [] (lv' := []) rfl ?_
      exact t_X12_towels_b149 h0  _ _
    ·
      refine T_iload 4 dX12_towels_147 rfl ?_
      refine T_sub [] (lv' := []) rfl ?_
      exact t_X12_towels_b149 h0  _ _
  ·
    refine T_iconst (v := (0 : Int32)) (by decide) dX12_towels_51 ?_
    refine T_istore [(7, .int (0 : Int32)), (0, .ref i0), (2, .int x2), (3, .int x3), (4, .int x4), (5, .int x5), (6, .int x6)] dX12_towels_52 (by decide) rfl ?_
    refine T_iload 6 dX12_towels_54 rfl ?_
    refine T_istore [(8, .int x6), (7, .int (0 : Int32)), (0, .ref i0), (2, .int x2), (3, .int x3), (4, .int x4), (5, .int x5), (6, .int x6)] dX12_towels_56 (by decide) rfl ?_
    refine T_sub [2, 3, 4, 5, 6, 7, 1, 0] (lv' := [(0, .ref i0), (2, .int x2), (3, .int x3), (4, .int x4), (5, .int x5), (6, .int x6), (7, .int (0 : Int32)), (8, .int x6)]) rfl ?_
    exact t_X12_towels_l58 h0 hk44 _ _ _ _ _ _ _ _ _
theorem t_X12_towels_l44 {X : Scr} {i0 : Nat} (h0 : KD[i0]? = some (.inl 12)) (n : Nat) : ∀ (x2 : Int32) (x3 : Int32) (x4 : Int32) (x5 : Int32) (x6 : Int32) (M : Mem), T X eI (X12_towels_l44 i0  n x2 x3 x4 x5 x6 M) md_X12_towels 44 [(0, .ref i0), (2, .int x2), (3, .int x3), (4, .int x4), (5, .int x5), (6, .int x6)] [] M := by
  induction n with
  | zero => intro x2 x3 x4 x5 x6 M; exact T_none
  | succ n ih => intro x2 x3 x4 x5 x6 M; exact t_X12_towels_b44 h0 ih x2 x3 x4 x5 x6 M
set_option maxHeartbeats 4000000 in
set_option maxRecDepth 100000 in
theorem t_X12_towels {X : Scr} {i0 : Nat} (h0 : KD[i0]? = some (.inl 12)) (x1 : Int32) (x2 : Int32) (M : Mem) : T X eI (X12_towels i0  x1 x2 M) md_X12_towels 0 [(0, .ref i0), (1, .int x1), (2, .int x2)] [] M := by
  unfold X12_towels
  refine T_iload_n 1 dX12_towels_0 rfl rfl ?_
  refine T_i2l dX12_towels_1 ?_
  refine T_lconst (v := (0 : Int64)) (by decide) dX12_towels_2 ?_
  refine T_ldc2 (v := (999999 : Int64)) dX12_towels_3 tb_998 ?_
  refine T_callSI md_X12_in [.long x1.toInt64, .long (0 : Int64), .long (999999 : Int64)] [] dX12_towels_6 rfl ok_X12_in tb_816 tb_817 (by decide) (Nat.le_of_ble_eq_true rfl) (fun _ _ h9 => C_X12_in  _ _ _ h9) (fun r1 M1 => ?_)
  dsimp only
  refine T_if_eq 30 dX12_towels_9 (by decide) ?_ ?_
  ·
    refine T_sub [] (lv' := []) rfl ?_
    exact t_X12_towels_b30 h0   _
  ·
    refine T_aload_n 0 dX12_towels_12 rfl rfl ?_
    refine T_iload_n 1 dX12_towels_13 rfl rfl ?_
    refine T_callVI md_X12_readHooks [.int x1] [] dX12_towels_14 h0 rfl rfl ok_X12_readHooks tb_999 tb_1001 tb_35 (by decide) (Nat.le_of_ble_eq_true rfl) (fun _ _ h9 => C_X12_readHooks h0 _ h9) (fun r2 M2 => ?_)
    dsimp only
    refine T_if_eq 30 dX12_towels_17 (by decide) ?_ ?_
    ·
      refine T_sub [] (lv' := []) rfl ?_
      exact t_X12_towels_b30 h0   _
    ·
      refine T_iload_n 2 dX12_towels_20 rfl rfl ?_
      refine T_i2l dX12_towels_21 ?_
      refine T_lconst (v := (0 : Int64)) (by decide) dX12_towels_22 ?_
      refine T_lconst (v := (1 : Int64)) (by decide) dX12_towels_23 ?_
      refine T_callSI md_X12_in [.long x2.toInt64, .long (0 : Int64), .long (1 : Int64)] [] dX12_towels_24 rfl ok_X12_in tb_816 tb_817 (by decide) (Nat.le_of_ble_eq_true rfl) (fun _ _ h9 => C_X12_in  _ _ _ h9) (fun r3 M3 => ?_)
      dsimp only
      refine T_if_ne 33 dX12_towels_27 (by decide) ?_ ?_
      ·
        refine T_sub [] (lv' := []) rfl ?_
        exact t_X12_towels_b30 h0   _
      ·
        refine T_iconst (v := (0 : Int32)) (by decide) dX12_towels_33 ?_
        refine T_istore_n [(3, .int (0 : Int32)), (0, .ref i0), (1, .int x1), (2, .int x2)] dX12_towels_34 rfl (by decide) rfl ?_
        refine T_iconst (v := (0 : Int32)) (by decide) dX12_towels_35 ?_
        refine T_istore [(4, .int (0 : Int32)), (3, .int (0 : Int32)), (0, .ref i0), (1, .int x1), (2, .int x2)] dX12_towels_36 (by decide) rfl ?_
        refine T_iconst (v := (1 : Int32)) (by decide) dX12_towels_38 ?_
        refine T_istore [(5, .int (1 : Int32)), (4, .int (0 : Int32)), (3, .int (0 : Int32)), (0, .ref i0), (1, .int x1), (2, .int x2)] dX12_towels_39 (by decide) rfl ?_
        refine T_iconst (v := (0 : Int32)) (by decide) dX12_towels_41 ?_
        refine T_istore [(6, .int (0 : Int32)), (5, .int (1 : Int32)), (4, .int (0 : Int32)), (3, .int (0 : Int32)), (0, .ref i0), (1, .int x1), (2, .int x2)] dX12_towels_42 (by decide) rfl ?_
        refine T_sub [4, 6, 3, 2, 1, 0] (lv' := [(0, .ref i0), (2, .int x2), (3, .int (0 : Int32)), (4, .int (0 : Int32)), (5, .int (1 : Int32)), (6, .int (0 : Int32))]) rfl ?_
        exact t_X12_towels_l44 h0  _ _ _ _ _ _ _
theorem C_X12_towels {X : Scr} {i0 : Nat} (h0 : KD[i0]? = some (.inl 12)) (x1 : Int32) (x2 : Int32) {M : Mem} {r : Int32} {M' : Mem} (h : X12_towels i0 x1 x2 M = some (r, M')) : Ct X md_X12_towels [.ref i0, .int x1, .int x2] M (eI r) M' := Ct_of (by decide +kernel) (Nat.le_of_ble_eq_true rfl) (t_X12_towels h0 _ _ M) r M' h
-- X12_found
def X12_found (i0 : Nat)  (x1 : Int32) (x2 : Int32) (M : Mem) : Option (Int32 × Mem) :=
  (X12_isThing  x2 M).bind (fun p1 =>
    if p1.1 = 0 then
      some ((-1 : Int32), p1.2)
    else
      (X12_in  x1.toInt64 (0 : Int64) (60 : Int64) p1.2).bind (fun p2 =>
        if p2.1 = 0 then
          some ((-2 : Int32), p2.2)
        else
          if (p2.2.1 i0 10) = (8 : Int32) then
            some ((-4 : Int32), p2.2)
          else
            gd (ib (p2.2.1 i0 10) 8) (
              mw (mI p2.2 (rf i0 8) (p2.2.1 i0 10).toNatClampNeg x1) (fun N3 =>
                gd (ib (N3.1 i0 10) 8) (
                  mw (mI N3 (rf i0 9) (N3.1 i0 10).toNatClampNeg x2) (fun N4 =>
                    mw (mI N4 i0 10 ((N4.1 i0 10) + (1 : Int32))) (fun N5 =>
                      some ((N5.1 i0 10), N5))))))))
set_option maxHeartbeats 4000000 in
set_option maxRecDepth 100000 in
theorem t_X12_found {X : Scr} {i0 : Nat} (h0 : KD[i0]? = some (.inl 12)) (x1 : Int32) (x2 : Int32) (M : Mem) : T X eI (X12_found i0  x1 x2 M) md_X12_found 0 [(0, .ref i0), (1, .int x1), (2, .int x2)] [] M := by
  unfold X12_found
  refine T_iload_n 2 dX12_found_0 rfl rfl ?_
  refine T_callSI md_X12_isThing [.int x2] [] dX12_found_1 rfl ok_X12_isThing tb_1010 tb_1011 (by decide) (Nat.le_of_ble_eq_true rfl) (fun _ _ h9 => C_X12_isThing  _ h9) (fun r1 M1 => ?_)
  dsimp only
  refine T_if_ne 9 dX12_found_4 (by decide) ?_ ?_
  ·
    refine T_iconst (v := (-1 : Int32)) (by decide) dX12_found_7 ?_
    exact T_iret dX12_found_8 rfl
  ·
    refine T_iload_n 1 dX12_found_9 rfl rfl ?_
    refine T_i2l dX12_found_10 ?_
    refine T_lconst (v := (0 : Int64)) (by decide) dX12_found_11 ?_
    refine T_ldc2 (v := (60 : Int64)) dX12_found_12 tb_1013 ?_
    refine T_callSI md_X12_in [.long x1.toInt64, .long (0 : Int64), .long (60 : Int64)] [] dX12_found_15 rfl ok_X12_in tb_816 tb_817 (by decide) (Nat.le_of_ble_eq_true rfl) (fun _ _ h9 => C_X12_in  _ _ _ h9) (fun r2 M2 => ?_)
    dsimp only
    refine T_if_ne 24 dX12_found_18 (by decide) ?_ ?_
    ·
      refine T_bipush (v := (-2 : Int32)) (by decide) dX12_found_21 ?_
      exact T_iret dX12_found_23 rfl
    ·
      refine T_aload_n 0 dX12_found_24 rfl rfl ?_
      refine T_getI 10 FOk_12 h0 (by decide) (by decide) dX12_found_25 tb_723 ?_
      refine T_bipush (v := (8 : Int32)) (by decide) dX12_found_28 ?_
      refine T_icmp_ne 36 dX12_found_30 (by decide) ?_ ?_
      ·
        refine T_bipush (v := (-4 : Int32)) (by decide) dX12_found_33 ?_
        exact T_iret dX12_found_35 rfl
      ·
        refine T_aload_n 0 dX12_found_36 rfl rfl ?_
        refine T_getR 8 FOk_12 h0 (by decide) (by decide) dX12_found_37 tb_721 ?_
        refine T_aload_n 0 dX12_found_40 rfl rfl ?_
        refine T_getI 10 FOk_12 h0 (by decide) (by decide) dX12_found_41 tb_723 ?_
        refine T_iload_n 1 dX12_found_44 rfl rfl ?_
        refine T_iast (kf_12_8 h0) dX12_found_45 ?_
        refine T_mw (fun N3 => ?_)
        try dsimp only
        refine T_aload_n 0 dX12_found_46 rfl rfl ?_
        refine T_getR 9 FOk_12 h0 (by decide) (by decide) dX12_found_47 tb_722 ?_
        refine T_aload_n 0 dX12_found_50 rfl rfl ?_
        refine T_getI 10 FOk_12 h0 (by decide) (by decide) dX12_found_51 tb_723 ?_
        refine T_iload_n 2 dX12_found_54 rfl rfl ?_
        refine T_iast (kf_12_9 h0) dX12_found_55 ?_
        refine T_mw (fun N4 => ?_)
        try dsimp only
        refine T_aload_n 0 dX12_found_56 rfl rfl ?_
        refine T_dup rfl dX12_found_57 ?_
        refine T_getI 10 FOk_12 h0 (by decide) (by decide) dX12_found_58 tb_723 ?_
        refine T_iconst (v := (1 : Int32)) (by decide) dX12_found_61 ?_
        refine T_iadd dX12_found_62 ?_
        refine T_putI (ty := .int) 10 FOk_12 h0 (by decide) (by decide) rfl (by decide +kernel) rfl rfl dX12_found_63 tb_723 ?_
        refine T_mw (fun N5 => ?_)
        try dsimp only
        refine T_aload_n 0 dX12_found_66 rfl rfl ?_
        refine T_getI 10 FOk_12 h0 (by decide) (by decide) dX12_found_67 tb_723 ?_
        exact T_iret dX12_found_70 rfl
theorem C_X12_found {X : Scr} {i0 : Nat} (h0 : KD[i0]? = some (.inl 12)) (x1 : Int32) (x2 : Int32) {M : Mem} {r : Int32} {M' : Mem} (h : X12_found i0 x1 x2 M = some (r, M')) : Ct X md_X12_found [.ref i0, .int x1, .int x2] M (eI r) M' := Ct_of (by decide +kernel) (Nat.le_of_ble_eq_true rfl) (t_X12_found h0 _ _ M) r M' h
-- X12_forget
def X12_forget (i0 : Nat)   (M : Mem) : Option (Int32 × Mem) :=
  some ((M.1 i0 10), (mI M i0 10 (0 : Int32)))
set_option maxHeartbeats 4000000 in
set_option maxRecDepth 100000 in
theorem t_X12_forget {X : Scr} {i0 : Nat} (h0 : KD[i0]? = some (.inl 12))  (M : Mem) : T X eI (X12_forget i0   M) md_X12_forget 0 [(0, .ref i0)] [] M := by
  unfold X12_forget
  refine T_aload_n 0 dX12_forget_0 rfl rfl ?_
  refine T_getI 10 FOk_12 h0 (by decide) (by decide) dX12_forget_1 tb_723 ?_
  refine T_istore_n [(1, .int (M.1 i0 10)), (0, .ref i0)] dX12_forget_4 rfl (by decide) rfl ?_
  refine T_aload_n 1 dX12_forget_5 rfl rfl ?_
  refine T_iconst (v := (0 : Int32)) (by decide) dX12_forget_6 ?_
  refine T_putI (ty := .int) 10 FOk_12 h0 (by decide) (by decide) rfl (by decide +kernel) rfl rfl dX12_forget_7 tb_723 ?_
  refine T_iload_n 0 dX12_forget_10 rfl rfl ?_
  exact T_iret dX12_forget_11 rfl
theorem C_X12_forget {X : Scr} {i0 : Nat} (h0 : KD[i0]? = some (.inl 12))  {M : Mem} {r : Int32} {M' : Mem} (h : X12_forget i0  M = some (r, M')) : Ct X md_X12_forget [.ref i0] M (eI r) M' := Ct_of (by decide +kernel) (Nat.le_of_ble_eq_true rfl) (t_X12_forget h0  M) r M' h
-- X12_foundBy
def X12_foundBy   (x0 : Int32) (x1 : Int32) (M : Mem) : Option (Int32 × Mem) :=
  gd (!((10 : Int32) == 0)) (
    gd (!((10 : Int32) == 0)) (
      gd (!((8 : Int32) == 0)) (
        some (((((x0 / (10 : Int32)) * x1) + (x0 - x0 / (10 : Int32) * (10 : Int32))) - (((x0 / (10 : Int32)) * x1) + (x0 - x0 / (10 : Int32) * (10 : Int32))) / (8 : Int32) * (8 : Int32)), M))))
set_option maxHeartbeats 4000000 in
set_option maxRecDepth 100000 in
theorem t_X12_foundBy {X : Scr}   (x0 : Int32) (x1 : Int32) (M : Mem) : T X eI (X12_foundBy   x0 x1 M) md_X12_foundBy 0 [(0, .int x0), (1, .int x1)] [] M := by
  unfold X12_foundBy
  refine T_iload_n 0 dX12_foundBy_0 rfl rfl ?_
  refine T_bipush (v := (10 : Int32)) (by decide) dX12_foundBy_1 ?_
  refine T_idiv dX12_foundBy_3 ?_
  refine T_iload_n 1 dX12_foundBy_4 rfl rfl ?_
  refine T_imul dX12_foundBy_5 ?_
  refine T_iload_n 0 dX12_foundBy_6 rfl rfl ?_
  refine T_bipush (v := (10 : Int32)) (by decide) dX12_foundBy_7 ?_
  refine T_irem dX12_foundBy_9 ?_
  refine T_iadd dX12_foundBy_10 ?_
  refine T_bipush (v := (8 : Int32)) (by decide) dX12_foundBy_11 ?_
  refine T_irem dX12_foundBy_13 ?_
  exact T_iret dX12_foundBy_14 rfl
theorem C_X12_foundBy {X : Scr}   (x0 : Int32) (x1 : Int32) {M : Mem} {r : Int32} {M' : Mem} (h : X12_foundBy  x0 x1 M = some (r, M')) : Ct X md_X12_foundBy [.int x0, .int x1] M (eI r) M' := Ct_of (by decide +kernel) (Nat.le_of_ble_eq_true rfl) (t_X12_foundBy  _ _ M) r M' h
-- X12_isFit
def X12_isFit_b53 (i0 : Nat) (k17 : Int32 → Int32 → Int32 → Mem → Option (Int32 × Mem)) (x1 : Int32) (x3 : Int32) (s0 : Int32) (M : Mem) : Option (Int32 × Mem) :=
  k17 x1 s0 (x3 + (1 : Int32)) M
def X12_isFit_b52 (i0 : Nat) (k17 : Int32 → Int32 → Int32 → Mem → Option (Int32 × Mem)) (x1 : Int32) (x3 : Int32) (M : Mem) : Option (Int32 × Mem) :=
  X12_isFit_b53 i0 k17 x1 x3 (0 : Int32) M
def X12_isFit_b17 (i0 : Nat) (k17 : Int32 → Int32 → Int32 → Mem → Option (Int32 × Mem)) (x1 : Int32) (x2 : Int32) (x3 : Int32) (M : Mem) : Option (Int32 × Mem) :=
  if (M.1 i0 10) ≤ x3 then
    gd (x2 == 0 || x2 == 1) (some (x2, M))
  else
    if x2 = 0 then
      X12_isFit_b52 i0 k17 x1 x3 M
    else
      gd (ib x3 8) (
        (X12_foundBy  x1 (M.1 (rf i0 8) x3.toNatClampNeg) M).bind (fun p1 =>
          gd (ib x3 8) (
            if p1.1 = (p1.2.1 (rf i0 9) x3.toNatClampNeg) then
              X12_isFit_b53 i0 k17 x1 x3 (1 : Int32) p1.2
            else
              X12_isFit_b52 i0 k17 x1 x3 p1.2)))
def X12_isFit_l17 (i0 : Nat)  : Nat → Int32 → Int32 → Int32 → Mem → Option (Int32 × Mem)
  | 0 => fun _ _ _ _ => none
  | n + 1 => X12_isFit_b17 i0 (X12_isFit_l17 i0  n)
def X12_isFit_b14 (i0 : Nat)  (x1 : Int32) (s0 : Int32) (M : Mem) : Option (Int32 × Mem) :=
  X12_isFit_l17 i0  FU x1 s0 (0 : Int32) M
def X12_isFit (i0 : Nat)  (x1 : Int32) (M : Mem) : Option (Int32 × Mem) :=
  gd (!((10 : Int32) == 0)) (
    if (8 : Int32) ≤ (x1 - x1 / (10 : Int32) * (10 : Int32)) then
      X12_isFit_b14 i0  x1 (0 : Int32) M
    else
      X12_isFit_b14 i0  x1 (1 : Int32) M)
set_option maxHeartbeats 4000000 in
set_option maxRecDepth 100000 in
theorem t_X12_isFit_b53 {X : Scr} {i0 : Nat} (h0 : KD[i0]? = some (.inl 12)) {k17 : Int32 → Int32 → Int32 → Mem → Option (Int32 × Mem)} (hk17 : ∀ (x1 : Int32) (x2 : Int32) (x3 : Int32) (M : Mem), T X eI (k17 x1 x2 x3 M) md_X12_isFit 17 [(0, .ref i0), (1, .int x1), (2, .int x2), (3, .int x3)] [] M) (x1 : Int32) (x3 : Int32) (s0 : Int32) (M : Mem) : T X eI (X12_isFit_b53 i0 k17 x1 x3 s0 M) md_X12_isFit 53 [(0, .ref i0), (1, .int x1), (3, .int x3)] [.int s0] M := by
  unfold X12_isFit_b53
  refine T_istore_n [(2, .int s0), (0, .ref i0), (1, .int x1), (3, .int x3)] dX12_isFit_53 rfl (by decide) rfl ?_
  refine T_iinc 3 [(3, .int (x3 + (1 : Int32))), (2, .int s0), (0, .ref i0), (1, .int x1)] (v := (1 : Int32)) dX12_isFit_54 rfl (by decide) (by decide) rfl ?_
  refine T_goto 17 dX12_isFit_57 (by decide) ?_
  refine T_sub [2, 3, 1, 0] (lv' := [(0, .ref i0), (1, .int x1), (2, .int s0), (3, .int (x3 + (1 : Int32)))]) rfl ?_
  exact hk17 _ _ _ _
set_option maxHeartbeats 4000000 in
set_option maxRecDepth 100000 in
theorem t_X12_isFit_b52 {X : Scr} {i0 : Nat} (h0 : KD[i0]? = some (.inl 12)) {k17 : Int32 → Int32 → Int32 → Mem → Option (Int32 × Mem)} (hk17 : ∀ (x1 : Int32) (x2 : Int32) (x3 : Int32) (M : Mem), T X eI (k17 x1 x2 x3 M) md_X12_isFit 17 [(0, .ref i0), (1, .int x1), (2, .int x2), (3, .int x3)] [] M) (x1 : Int32) (x3 : Int32) (M : Mem) : T X eI (X12_isFit_b52 i0 k17 x1 x3 M) md_X12_isFit 52 [(0, .ref i0), (1, .int x1), (3, .int x3)] [] M := by
  unfold X12_isFit_b52
  refine T_iconst (v := (0 : Int32)) (by decide) dX12_isFit_52 ?_
  exact t_X12_isFit_b53 h0 hk17 _ _ _ _
set_option maxHeartbeats 4000000 in
set_option maxRecDepth 100000 in
theorem t_X12_isFit_b17 {X : Scr} {i0 : Nat} (h0 : KD[i0]? = some (.inl 12)) {k17 : Int32 → Int32 → Int32 → Mem → Option (Int32 × Mem)} (hk17 : ∀ (x1 : Int32) (x2 : Int32) (x3 : Int32) (M : Mem), T X eI (k17 x1 x2 x3 M) md_X12_isFit 17 [(0, .ref i0), (1, .int x1), (2, .int x2), (3, .int x3)] [] M) (x1 : Int32) (x2 : Int32) (x3 : Int32) (M : Mem) : T X eI (X12_isFit_b17 i0 k17 x1 x2 x3 M) md_X12_isFit 17 [(0, .ref i0), (1, .int x1), (2, .int x2), (3, .int x3)] [] M := by
  unfold X12_isFit_b17
  refine T_iload_n 3 dX12_isFit_17 rfl rfl ?_
  refine T_aload_n 0 dX12_isFit_18 rfl rfl ?_
  refine T_getI 10 FOk_12 h0 (by decide) (by decide) dX12_isFit_19 tb_723 ?_
  refine T_icmp_ge 60 dX12_isFit_22 (by decide) ?_ ?_
  ·
    refine T_iload_n 2 dX12_isFit_60 rfl rfl ?_
    exact T_zret dX12_isFit_61 rfl
  ·
    refine T_iload_n 2 dX12_isFit_25 rfl rfl ?_
    refine T_if_eq 52 dX12_isFit_26 (by decide) ?_ ?_
    ·
      refine T_sub [0, 1, 3] (lv' := [(0, .ref i0), (1, .int x1), (3, .int x3)]) rfl ?_
      exact t_X12_isFit_b52 h0 hk17 _ _ _
    ·
      refine T_iload_n 1 dX12_isFit_29 rfl rfl ?_
      refine T_aload_n 0 dX12_isFit_30 rfl rfl ?_
      refine T_getR 8 FOk_12 h0 (by decide) (by decide) dX12_isFit_31 tb_721 ?_
      refine T_iload_n 3 dX12_isFit_34 rfl rfl ?_
      refine T_iald (kf_12_8 h0) dX12_isFit_35 ?_
      refine T_callSI md_X12_foundBy [.int x1, .int (M.1 (rf i0 8) x3.toNatClampNeg)] [] dX12_isFit_36 rfl ok_X12_foundBy tb_1026 tb_1027 (by decide) (Nat.le_of_ble_eq_true rfl) (fun _ _ h9 => C_X12_foundBy  _ _ h9) (fun r1 M1 => ?_)
      dsimp only
      refine T_aload_n 0 dX12_isFit_39 rfl rfl ?_
      refine T_getR 9 FOk_12 h0 (by decide) (by decide) dX12_isFit_40 tb_722 ?_
      refine T_iload_n 3 dX12_isFit_43 rfl rfl ?_
      refine T_iald (kf_12_9 h0) dX12_isFit_44 ?_
      refine T_icmp_ne 52 dX12_isFit_45 (by decide) ?_ ?_
      ·
        refine T_iconst (v := (1 : Int32)) (by decide) dX12_isFit_48 ?_
        refine T_goto 53 dX12_isFit_49 (by decide) ?_
        refine T_sub [0, 1, 3] (lv' := [(0, .ref i0), (1, .int x1), (3, .int x3)]) rfl ?_
        exact t_X12_isFit_b53 h0 hk17 _ _ _ _
      ·
        refine T_sub [0, 1, 3] (lv' := [(0, .ref i0), (1, .int x1), (3, .int x3)]) rfl ?_
        exact t_X12_isFit_b52 h0 hk17 _ _ _
theorem t_X12_isFit_l17 {X : Scr} {i0 : Nat} (h0 : KD[i0]? = some (.inl 12)) (n : Nat) : ∀ (x1 : Int32) (x2 : Int32) (x3 : Int32) (M : Mem), T X eI (X12_isFit_l17 i0  n x1 x2 x3 M) md_X12_isFit 17 [(0, .ref i0), (1, .int x1), (2, .int x2), (3, .int x3)] [] M := by
  induction n with
  | zero => intro x1 x2 x3 M; exact T_none
  | succ n ih => intro x1 x2 x3 M; exact t_X12_isFit_b17 h0 ih x1 x2 x3 M
set_option maxHeartbeats 4000000 in
set_option maxRecDepth 100000 in
theorem t_X12_isFit_b14 {X : Scr} {i0 : Nat} (h0 : KD[i0]? = some (.inl 12)) (x1 : Int32) (s0 : Int32) (M : Mem) : T X eI (X12_isFit_b14 i0  x1 s0 M) md_X12_isFit 14 [(0, .ref i0), (1, .int x1)] [.int s0] M := by
  unfold X12_isFit_b14
  refine T_istore_n [(2, .int s0), (0, .ref i0), (1, .int x1)] dX12_isFit_14 rfl (by decide) rfl ?_
  refine T_iconst (v := (0 : Int32)) (by decide) dX12_isFit_15 ?_
  refine T_istore_n [(3, .int (0 : Int32)), (2, .int s0), (0, .ref i0), (1, .int x1)] dX12_isFit_16 rfl (by decide) rfl ?_
  refine T_sub [2, 3, 1, 0] (lv' := [(0, .ref i0), (1, .int x1), (2, .int s0), (3, .int (0 : Int32))]) rfl ?_
  exact t_X12_isFit_l17 h0  _ _ _ _ _
set_option maxHeartbeats 4000000 in
set_option maxRecDepth 100000 in
theorem t_X12_isFit {X : Scr} {i0 : Nat} (h0 : KD[i0]? = some (.inl 12)) (x1 : Int32) (M : Mem) : T X eI (X12_isFit i0  x1 M) md_X12_isFit 0 [(0, .ref i0), (1, .int x1)] [] M := by
  unfold X12_isFit
  refine T_iload_n 1 dX12_isFit_0 rfl rfl ?_
  refine T_bipush (v := (10 : Int32)) (by decide) dX12_isFit_1 ?_
  refine T_irem dX12_isFit_3 ?_
  refine T_bipush (v := (8 : Int32)) (by decide) dX12_isFit_4 ?_
  refine T_icmp_ge 13 dX12_isFit_6 (by decide) ?_ ?_
  ·
    refine T_iconst (v := (0 : Int32)) (by decide) dX12_isFit_13 ?_
    exact t_X12_isFit_b14 h0  _ _ _
  ·
    refine T_iconst (v := (1 : Int32)) (by decide) dX12_isFit_9 ?_
    refine T_goto 14 dX12_isFit_10 (by decide) ?_
    exact t_X12_isFit_b14 h0  _ _ _
theorem C_X12_isFit {X : Scr} {i0 : Nat} (h0 : KD[i0]? = some (.inl 12)) (x1 : Int32) {M : Mem} {r : Int32} {M' : Mem} (h : X12_isFit i0 x1 M = some (r, M')) : Ct X md_X12_isFit [.ref i0, .int x1] M (eI r) M' := Ct_of (by decide +kernel) (Nat.le_of_ble_eq_true rfl) (t_X12_isFit h0 _ M) r M' h
-- X12_fits
def X12_fits_b28 (i0 : Nat) (k4 : Int32 → Int32 → Int32 → Mem → Option (Int32 × Mem)) (x1 : Int32) (x2 : Int32) (x3 : Int32) (M : Mem) : Option (Int32 × Mem) :=
  k4 x1 x2 (x3 + (1 : Int32)) M
def X12_fits_b45 (i0 : Nat)  (s0 : Int32) (M : Mem) : Option (Int32 × Mem) :=
  some (s0, M)
def X12_fits_b4 (i0 : Nat) (k4 : Int32 → Int32 → Int32 → Mem → Option (Int32 × Mem)) (x1 : Int32) (x2 : Int32) (x3 : Int32) (M : Mem) : Option (Int32 × Mem) :=
  if (80 : Int32) ≤ x3 then
    if x1 = (-1 : Int32) then
      X12_fits_b45 i0  x2 M
    else
      X12_fits_b45 i0  (-6 : Int32) M
  else
    (X12_isFit i0 x3 M).bind (fun p1 =>
      if p1.1 = 0 then
        X12_fits_b28 i0 k4 x1 x2 x3 p1.2
      else
        if x2 = x1 then
          some (x3, p1.2)
        else
          X12_fits_b28 i0 k4 x1 (x2 + (1 : Int32)) x3 p1.2)
def X12_fits_l4 (i0 : Nat)  : Nat → Int32 → Int32 → Int32 → Mem → Option (Int32 × Mem)
  | 0 => fun _ _ _ _ => none
  | n + 1 => X12_fits_b4 i0 (X12_fits_l4 i0  n)
def X12_fits (i0 : Nat)  (x1 : Int32) (M : Mem) : Option (Int32 × Mem) :=
  X12_fits_l4 i0  FU x1 (0 : Int32) (0 : Int32) M
set_option maxHeartbeats 4000000 in
set_option maxRecDepth 100000 in
theorem t_X12_fits_b28 {X : Scr} {i0 : Nat} (h0 : KD[i0]? = some (.inl 12)) {k4 : Int32 → Int32 → Int32 → Mem → Option (Int32 × Mem)} (hk4 : ∀ (x1 : Int32) (x2 : Int32) (x3 : Int32) (M : Mem), T X eI (k4 x1 x2 x3 M) md_X12_fits 4 [(0, .ref i0), (1, .int x1), (2, .int x2), (3, .int x3)] [] M) (x1 : Int32) (x2 : Int32) (x3 : Int32) (M : Mem) : T X eI (X12_fits_b28 i0 k4 x1 x2 x3 M) md_X12_fits 28 [(0, .ref i0), (1, .int x1), (2, .int x2), (3, .int x3)] [] M := by
  unfold X12_fits_b28
  refine T_iinc 3 [(3, .int (x3 + (1 : Int32))), (0, .ref i0), (1, .int x1), (2, .int x2)] (v := (1 : Int32)) dX12_fits_28 rfl (by decide) (by decide) rfl ?_
  refine T_goto 4 dX12_fits_31 (by decide) ?_
  refine T_sub [1, 2, 3, 0] (lv' := [(0, .ref i0), (1, .int x1), (2, .int x2), (3, .int (x3 + (1 : Int32)))]) rfl ?_
  exact hk4 _ _ _ _
set_option maxHeartbeats 4000000 in
set_option maxRecDepth 100000 in
theorem t_X12_fits_b45 {X : Scr} {i0 : Nat} (h0 : KD[i0]? = some (.inl 12)) (s0 : Int32) (M : Mem) : T X eI (X12_fits_b45 i0  s0 M) md_X12_fits 45 [] [.int s0] M := by
  unfold X12_fits_b45
  exact T_iret dX12_fits_45 rfl
set_option maxHeartbeats 4000000 in
set_option maxRecDepth 100000 in
theorem t_X12_fits_b4 {X : Scr} {i0 : Nat} (h0 : KD[i0]? = some (.inl 12)) {k4 : Int32 → Int32 → Int32 → Mem → Option (Int32 × Mem)} (hk4 : ∀ (x1 : Int32) (x2 : Int32) (x3 : Int32) (M : Mem), T X eI (k4 x1 x2 x3 M) md_X12_fits 4 [(0, .ref i0), (1, .int x1), (2, .int x2), (3, .int x3)] [] M) (x1 : Int32) (x2 : Int32) (x3 : Int32) (M : Mem) : T X eI (X12_fits_b4 i0 k4 x1 x2 x3 M) md_X12_fits 4 [(0, .ref i0), (1, .int x1), (2, .int x2), (3, .int x3)] [] M := by
  unfold X12_fits_b4
  refine T_iload_n 3 dX12_fits_4 rfl rfl ?_
  refine T_bipush (v := (80 : Int32)) (by decide) dX12_fits_5 ?_
  refine T_icmp_ge 34 dX12_fits_7 (by decide) ?_ ?_
  ·
    refine T_iload_n 1 dX12_fits_34 rfl rfl ?_
    refine T_iconst (v := (-1 : Int32)) (by decide) dX12_fits_35 ?_
    refine T_icmp_ne 43 dX12_fits_36 (by decide) ?_ ?_
    ·
      refine T_iload_n 2 dX12_fits_39 rfl rfl ?_
      refine T_goto 45 dX12_fits_40 (by decide) ?_
      refine T_sub [] (lv' := []) rfl ?_
      exact t_X12_fits_b45 h0  _ _
    ·
      refine T_bipush (v := (-6 : Int32)) (by decide) dX12_fits_43 ?_
      refine T_sub [] (lv' := []) rfl ?_
      exact t_X12_fits_b45 h0  _ _
  ·
    refine T_aload_n 0 dX12_fits_10 rfl rfl ?_
    refine T_iload_n 3 dX12_fits_11 rfl rfl ?_
    refine T_callVI md_X12_isFit [.int x3] [] dX12_fits_12 h0 rfl rfl ok_X12_isFit tb_1022 tb_1024 tb_36 (by decide) (Nat.le_of_ble_eq_true rfl) (fun _ _ h9 => C_X12_isFit h0 _ h9) (fun r1 M1 => ?_)
    dsimp only
    refine T_if_eq 28 dX12_fits_15 (by decide) ?_ ?_
    ·
      exact t_X12_fits_b28 h0 hk4 _ _ _ _
    ·
      refine T_iload_n 2 dX12_fits_18 rfl rfl ?_
      refine T_iload_n 1 dX12_fits_19 rfl rfl ?_
      refine T_icmp_ne 25 dX12_fits_20 (by decide) ?_ ?_
      ·
        refine T_iload_n 3 dX12_fits_23 rfl rfl ?_
        exact T_iret dX12_fits_24 rfl
      ·
        refine T_iinc 2 [(2, .int (x2 + (1 : Int32))), (0, .ref i0), (1, .int x1), (3, .int x3)] (v := (1 : Int32)) dX12_fits_25 rfl (by decide) (by decide) rfl ?_
        refine T_sub [1, 2, 0, 3] (lv' := [(0, .ref i0), (1, .int x1), (2, .int (x2 + (1 : Int32))), (3, .int x3)]) rfl ?_
        exact t_X12_fits_b28 h0 hk4 _ _ _ _
theorem t_X12_fits_l4 {X : Scr} {i0 : Nat} (h0 : KD[i0]? = some (.inl 12)) (n : Nat) : ∀ (x1 : Int32) (x2 : Int32) (x3 : Int32) (M : Mem), T X eI (X12_fits_l4 i0  n x1 x2 x3 M) md_X12_fits 4 [(0, .ref i0), (1, .int x1), (2, .int x2), (3, .int x3)] [] M := by
  induction n with
  | zero => intro x1 x2 x3 M; exact T_none
  | succ n ih => intro x1 x2 x3 M; exact t_X12_fits_b4 h0 ih x1 x2 x3 M
set_option maxHeartbeats 4000000 in
set_option maxRecDepth 100000 in
theorem t_X12_fits {X : Scr} {i0 : Nat} (h0 : KD[i0]? = some (.inl 12)) (x1 : Int32) (M : Mem) : T X eI (X12_fits i0  x1 M) md_X12_fits 0 [(0, .ref i0), (1, .int x1)] [] M := by
  unfold X12_fits
  refine T_iconst (v := (0 : Int32)) (by decide) dX12_fits_0 ?_
  refine T_istore_n [(2, .int (0 : Int32)), (0, .ref i0), (1, .int x1)] dX12_fits_1 rfl (by decide) rfl ?_
  refine T_iconst (v := (0 : Int32)) (by decide) dX12_fits_2 ?_
  refine T_istore_n [(3, .int (0 : Int32)), (2, .int (0 : Int32)), (0, .ref i0), (1, .int x1)] dX12_fits_3 rfl (by decide) rfl ?_
  refine T_sub [2, 3, 1, 0] (lv' := [(0, .ref i0), (1, .int x1), (2, .int (0 : Int32)), (3, .int (0 : Int32))]) rfl ?_
  exact t_X12_fits_l4 h0  _ _ _ _ _
theorem C_X12_fits {X : Scr} {i0 : Nat} (h0 : KD[i0]? = some (.inl 12)) (x1 : Int32) {M : Mem} {r : Int32} {M' : Mem} (h : X12_fits i0 x1 M = some (r, M')) : Ct X md_X12_fits [.ref i0, .int x1] M (eI r) M' := Ct_of (by decide +kernel) (Nat.le_of_ble_eq_true rfl) (t_X12_fits h0 _ M) r M' h
-- X12_mostLeft
def X12_mostLeft_b68 (i0 : Nat) (k25 : Int32 → Int32 → Int32 → Mem → Option (Int32 × Mem)) (x1 : Int32) (x2 : Int32) (x3 : Int32) (M : Mem) : Option (Int32 × Mem) :=
  k25 x1 x2 (x3 + (1 : Int32)) M
def X12_mostLeft_b25 (i0 : Nat) (k25 : Int32 → Int32 → Int32 → Mem → Option (Int32 × Mem)) (x1 : Int32) (x2 : Int32) (x3 : Int32) (M : Mem) : Option (Int32 × Mem) :=
  if (80 : Int32) ≤ x3 then
    some (x2, M)
  else
    (X12_isFit i0 x3 M).bind (fun p1 =>
      if p1.1 = 0 then
        X12_mostLeft_b68 i0 k25 x1 x2 x3 p1.2
      else
        (X12_foundBy  x3 x1 p1.2).bind (fun p2 =>
          gd (ib p2.1 8) (
            gd (ib p2.1 8) (
              (X12_foundBy  x3 x1 (mI p2.2 (rf i0 24) p2.1.toNatClampNeg ((p2.2.1 (rf i0 24) p2.1.toNatClampNeg) + (1 : Int32)))).bind (fun p3 =>
                gd (ib p3.1 8) (
                  (X12_more  x2 (p3.2.1 (rf i0 24) p3.1.toNatClampNeg) p3.2).bind (fun p4 =>
                    X12_mostLeft_b68 i0 k25 x1 p4.1 x3 p4.2)))))))
def X12_mostLeft_l25 (i0 : Nat)  : Nat → Int32 → Int32 → Int32 → Mem → Option (Int32 × Mem)
  | 0 => fun _ _ _ _ => none
  | n + 1 => X12_mostLeft_b25 i0 (X12_mostLeft_l25 i0  n)
def X12_mostLeft_b4 (i0 : Nat) (k4 : Int32 → Int32 → Int32 → Mem → Option (Int32 × Mem)) (x1 : Int32) (x2 : Int32) (x3 : Int32) (M : Mem) : Option (Int32 × Mem) :=
  if (8 : Int32) ≤ x3 then
    X12_mostLeft_l25 i0  FU x1 x2 (0 : Int32) M
  else
    gd (ib x3 8) (
      k4 x1 x2 (x3 + (1 : Int32)) (mI M (rf i0 24) x3.toNatClampNeg (0 : Int32)))
def X12_mostLeft_l4 (i0 : Nat)  : Nat → Int32 → Int32 → Int32 → Mem → Option (Int32 × Mem)
  | 0 => fun _ _ _ _ => none
  | n + 1 => X12_mostLeft_b4 i0 (X12_mostLeft_l4 i0  n)
def X12_mostLeft (i0 : Nat)  (x1 : Int32) (M : Mem) : Option (Int32 × Mem) :=
  X12_mostLeft_l4 i0  FU x1 (0 : Int32) (0 : Int32) M
set_option maxHeartbeats 4000000 in
set_option maxRecDepth 100000 in
theorem t_X12_mostLeft_b68 {X : Scr} {i0 : Nat} (h0 : KD[i0]? = some (.inl 12)) {k25 : Int32 → Int32 → Int32 → Mem → Option (Int32 × Mem)} (hk25 : ∀ (x1 : Int32) (x2 : Int32) (x3 : Int32) (M : Mem), T X eI (k25 x1 x2 x3 M) md_X12_mostLeft 25 [(0, .ref i0), (1, .int x1), (2, .int x2), (3, .int x3)] [] M) (x1 : Int32) (x2 : Int32) (x3 : Int32) (M : Mem) : T X eI (X12_mostLeft_b68 i0 k25 x1 x2 x3 M) md_X12_mostLeft 68 [(0, .ref i0), (1, .int x1), (2, .int x2), (3, .int x3)] [] M := by
  unfold X12_mostLeft_b68
  refine T_iinc 3 [(3, .int (x3 + (1 : Int32))), (0, .ref i0), (1, .int x1), (2, .int x2)] (v := (1 : Int32)) dX12_mostLeft_68 rfl (by decide) (by decide) rfl ?_
  refine T_goto 25 dX12_mostLeft_71 (by decide) ?_
  refine T_sub [1, 2, 3, 0] (lv' := [(0, .ref i0), (1, .int x1), (2, .int x2), (3, .int (x3 + (1 : Int32)))]) rfl ?_
  exact hk25 _ _ _ _
set_option maxHeartbeats 4000000 in
set_option maxRecDepth 100000 in
theorem t_X12_mostLeft_b25 {X : Scr} {i0 : Nat} (h0 : KD[i0]? = some (.inl 12)) {k25 : Int32 → Int32 → Int32 → Mem → Option (Int32 × Mem)} (hk25 : ∀ (x1 : Int32) (x2 : Int32) (x3 : Int32) (M : Mem), T X eI (k25 x1 x2 x3 M) md_X12_mostLeft 25 [(0, .ref i0), (1, .int x1), (2, .int x2), (3, .int x3)] [] M) (x1 : Int32) (x2 : Int32) (x3 : Int32) (M : Mem) : T X eI (X12_mostLeft_b25 i0 k25 x1 x2 x3 M) md_X12_mostLeft 25 [(0, .ref i0), (1, .int x1), (2, .int x2), (3, .int x3)] [] M := by
  unfold X12_mostLeft_b25
  refine T_iload_n 3 dX12_mostLeft_25 rfl rfl ?_
  refine T_bipush (v := (80 : Int32)) (by decide) dX12_mostLeft_26 ?_
  refine T_icmp_ge 74 dX12_mostLeft_28 (by decide) ?_ ?_
  ·
    refine T_iload_n 2 dX12_mostLeft_74 rfl rfl ?_
    exact T_iret dX12_mostLeft_75 rfl
  ·
    refine T_aload_n 0 dX12_mostLeft_31 rfl rfl ?_
    refine T_iload_n 3 dX12_mostLeft_32 rfl rfl ?_
    refine T_callVI md_X12_isFit [.int x3] [] dX12_mostLeft_33 h0 rfl rfl ok_X12_isFit tb_1022 tb_1024 tb_36 (by decide) (Nat.le_of_ble_eq_true rfl) (fun _ _ h9 => C_X12_isFit h0 _ h9) (fun r1 M1 => ?_)
    dsimp only
    refine T_if_eq 68 dX12_mostLeft_36 (by decide) ?_ ?_
    ·
      exact t_X12_mostLeft_b68 h0 hk25 _ _ _ _
    ·
      refine T_aload_n 0 dX12_mostLeft_39 rfl rfl ?_
      refine T_getR 24 FOk_12 h0 (by decide) (by decide) dX12_mostLeft_40 tb_737 ?_
      refine T_iload_n 3 dX12_mostLeft_43 rfl rfl ?_
      refine T_iload_n 1 dX12_mostLeft_44 rfl rfl ?_
      refine T_callSI md_X12_foundBy [.int x3, .int x1] [.ref (rf i0 24)] dX12_mostLeft_45 rfl ok_X12_foundBy tb_1026 tb_1027 (by decide) (Nat.le_of_ble_eq_true rfl) (fun _ _ h9 => C_X12_foundBy  _ _ h9) (fun r2 M2 => ?_)
      dsimp only
      refine T_dup2 rfl rfl dX12_mostLeft_48 ?_
      refine T_iald (kf_12_24 h0) dX12_mostLeft_49 ?_
      refine T_iconst (v := (1 : Int32)) (by decide) dX12_mostLeft_50 ?_
      refine T_iadd dX12_mostLeft_51 ?_
      refine T_iast (kf_12_24 h0) dX12_mostLeft_52 ?_
      refine T_iload_n 2 dX12_mostLeft_53 rfl rfl ?_
      refine T_aload_n 0 dX12_mostLeft_54 rfl rfl ?_
      refine T_getR 24 FOk_12 h0 (by decide) (by decide) dX12_mostLeft_55 tb_737 ?_
      refine T_iload_n 3 dX12_mostLeft_58 rfl rfl ?_
      refine T_iload_n 1 dX12_mostLeft_59 rfl rfl ?_
      refine T_callSI md_X12_foundBy [.int x3, .int x1] [.ref (rf i0 24), .int x2] dX12_mostLeft_60 rfl ok_X12_foundBy tb_1026 tb_1027 (by decide) (Nat.le_of_ble_eq_true rfl) (fun _ _ h9 => C_X12_foundBy  _ _ h9) (fun r3 M3 => ?_)
      dsimp only
      refine T_iald (kf_12_24 h0) dX12_mostLeft_63 ?_
      refine T_callSI md_X12_more [.int x2, .int (M3.1 (rf i0 24) r3.toNatClampNeg)] [] dX12_mostLeft_64 rfl ok_X12_more tb_965 tb_966 (by decide) (Nat.le_of_ble_eq_true rfl) (fun _ _ h9 => C_X12_more  _ _ h9) (fun r4 M4 => ?_)
      dsimp only
      refine T_istore_n [(2, .int r4), (0, .ref i0), (1, .int x1), (3, .int x3)] dX12_mostLeft_67 rfl (by decide) rfl ?_
      refine T_sub [1, 2, 0, 3] (lv' := [(0, .ref i0), (1, .int x1), (2, .int r4), (3, .int x3)]) rfl ?_
      exact t_X12_mostLeft_b68 h0 hk25 _ _ _ _
theorem t_X12_mostLeft_l25 {X : Scr} {i0 : Nat} (h0 : KD[i0]? = some (.inl 12)) (n : Nat) : ∀ (x1 : Int32) (x2 : Int32) (x3 : Int32) (M : Mem), T X eI (X12_mostLeft_l25 i0  n x1 x2 x3 M) md_X12_mostLeft 25 [(0, .ref i0), (1, .int x1), (2, .int x2), (3, .int x3)] [] M := by
  induction n with
  | zero => intro x1 x2 x3 M; exact T_none
  | succ n ih => intro x1 x2 x3 M; exact t_X12_mostLeft_b25 h0 ih x1 x2 x3 M
set_option maxHeartbeats 4000000 in
set_option maxRecDepth 100000 in
theorem t_X12_mostLeft_b4 {X : Scr} {i0 : Nat} (h0 : KD[i0]? = some (.inl 12)) {k4 : Int32 → Int32 → Int32 → Mem → Option (Int32 × Mem)} (hk4 : ∀ (x1 : Int32) (x2 : Int32) (x3 : Int32) (M : Mem), T X eI (k4 x1 x2 x3 M) md_X12_mostLeft 4 [(0, .ref i0), (1, .int x1), (2, .int x2), (3, .int x3)] [] M) (x1 : Int32) (x2 : Int32) (x3 : Int32) (M : Mem) : T X eI (X12_mostLeft_b4 i0 k4 x1 x2 x3 M) md_X12_mostLeft 4 [(0, .ref i0), (1, .int x1), (2, .int x2), (3, .int x3)] [] M := by
  unfold X12_mostLeft_b4
  refine T_iload_n 3 dX12_mostLeft_4 rfl rfl ?_
  refine T_bipush (v := (8 : Int32)) (by decide) dX12_mostLeft_5 ?_
  refine T_icmp_ge 23 dX12_mostLeft_7 (by decide) ?_ ?_
  ·
    refine T_iconst (v := (0 : Int32)) (by decide) dX12_mostLeft_23 ?_
    refine T_istore_n [(3, .int (0 : Int32)), (0, .ref i0), (1, .int x1), (2, .int x2)] dX12_mostLeft_24 rfl (by decide) rfl ?_
    refine T_sub [1, 2, 3, 0] (lv' := [(0, .ref i0), (1, .int x1), (2, .int x2), (3, .int (0 : Int32))]) rfl ?_
    exact t_X12_mostLeft_l25 h0  _ _ _ _ _
  ·
    refine T_aload_n 0 dX12_mostLeft_10 rfl rfl ?_
    refine T_getR 24 FOk_12 h0 (by decide) (by decide) dX12_mostLeft_11 tb_737 ?_
    refine T_iload_n 3 dX12_mostLeft_14 rfl rfl ?_
    refine T_iconst (v := (0 : Int32)) (by decide) dX12_mostLeft_15 ?_
    refine T_iast (kf_12_24 h0) dX12_mostLeft_16 ?_
    refine T_iinc 3 [(3, .int (x3 + (1 : Int32))), (0, .ref i0), (1, .int x1), (2, .int x2)] (v := (1 : Int32)) dX12_mostLeft_17 rfl (by decide) (by decide) rfl ?_
    refine T_goto 4 dX12_mostLeft_20 (by decide) ?_
    refine T_sub [1, 2, 3, 0] (lv' := [(0, .ref i0), (1, .int x1), (2, .int x2), (3, .int (x3 + (1 : Int32)))]) rfl ?_
    exact hk4 _ _ _ _
theorem t_X12_mostLeft_l4 {X : Scr} {i0 : Nat} (h0 : KD[i0]? = some (.inl 12)) (n : Nat) : ∀ (x1 : Int32) (x2 : Int32) (x3 : Int32) (M : Mem), T X eI (X12_mostLeft_l4 i0  n x1 x2 x3 M) md_X12_mostLeft 4 [(0, .ref i0), (1, .int x1), (2, .int x2), (3, .int x3)] [] M := by
  induction n with
  | zero => intro x1 x2 x3 M; exact T_none
  | succ n ih => intro x1 x2 x3 M; exact t_X12_mostLeft_b4 h0 ih x1 x2 x3 M
set_option maxHeartbeats 4000000 in
set_option maxRecDepth 100000 in
theorem t_X12_mostLeft {X : Scr} {i0 : Nat} (h0 : KD[i0]? = some (.inl 12)) (x1 : Int32) (M : Mem) : T X eI (X12_mostLeft i0  x1 M) md_X12_mostLeft 0 [(0, .ref i0), (1, .int x1)] [] M := by
  unfold X12_mostLeft
  refine T_iconst (v := (0 : Int32)) (by decide) dX12_mostLeft_0 ?_
  refine T_istore_n [(2, .int (0 : Int32)), (0, .ref i0), (1, .int x1)] dX12_mostLeft_1 rfl (by decide) rfl ?_
  refine T_iconst (v := (0 : Int32)) (by decide) dX12_mostLeft_2 ?_
  refine T_istore_n [(3, .int (0 : Int32)), (2, .int (0 : Int32)), (0, .ref i0), (1, .int x1)] dX12_mostLeft_3 rfl (by decide) rfl ?_
  refine T_sub [2, 3, 1, 0] (lv' := [(0, .ref i0), (1, .int x1), (2, .int (0 : Int32)), (3, .int (0 : Int32))]) rfl ?_
  exact t_X12_mostLeft_l4 h0  _ _ _ _ _
theorem C_X12_mostLeft {X : Scr} {i0 : Nat} (h0 : KD[i0]? = some (.inl 12)) (x1 : Int32) {M : Mem} {r : Int32} {M' : Mem} (h : X12_mostLeft i0 x1 M = some (r, M')) : Ct X md_X12_mostLeft [.ref i0, .int x1] M (eI r) M' := Ct_of (by decide +kernel) (Nat.le_of_ble_eq_true rfl) (t_X12_mostLeft h0 _ M) r M' h
-- X12_ask
def X12_ask_b51 (i0 : Nat) (k24 : Int32 → Int32 → Int32 → Int32 → Mem → Option (Int32 × Mem)) (x1 : Int32) (x3 : Int32) (x4 : Int32) (x5 : Int32) (s0 : Int32) (M : Mem) : Option (Int32 × Mem) :=
  (X12_less  x3 x5 M).bind (fun p1 =>
    k24 x1 s0 p1.1 (x4 + (1 : Int32)) p1.2)
def X12_ask_b83 (i0 : Nat)  (s0 : Int32) (M : Mem) : Option (Int32 × Mem) :=
  some (s0, M)
def X12_ask_b24 (i0 : Nat) (k24 : Int32 → Int32 → Int32 → Int32 → Mem → Option (Int32 × Mem)) (x1 : Int32) (x2 : Int32) (x3 : Int32) (x4 : Int32) (M : Mem) : Option (Int32 × Mem) :=
  if (60 : Int32) < x4 then
    if x3 = 0 then
      X12_ask_b83 i0  (-6 : Int32) M
    else
      if x1 = 0 then
        X12_ask_b83 i0  x2 M
      else
        X12_ask_b83 i0  x3 M
  else
    (X12_mostLeft i0 x4 M).bind (fun p1 =>
      if x3 ≤ p1.1 then
        X12_ask_b51 i0 k24 x1 x3 x4 p1.1 x2 p1.2
      else
        X12_ask_b51 i0 k24 x1 x3 x4 p1.1 x4 p1.2)
def X12_ask_l24 (i0 : Nat)  : Nat → Int32 → Int32 → Int32 → Int32 → Mem → Option (Int32 × Mem)
  | 0 => fun _ _ _ _ _ => none
  | n + 1 => X12_ask_b24 i0 (X12_ask_l24 i0  n)
def X12_ask (i0 : Nat)  (x1 : Int32) (M : Mem) : Option (Int32 × Mem) :=
  (X12_in  x1.toInt64 (0 : Int64) (1 : Int64) M).bind (fun p1 =>
    if p1.1 = 0 then
      some ((-2 : Int32), p1.2)
    else
      (X12_mostLeft i0 (0 : Int32) p1.2).bind (fun p2 =>
        X12_ask_l24 i0  FU x1 (0 : Int32) p2.1 (1 : Int32) p2.2))
set_option maxHeartbeats 4000000 in
set_option maxRecDepth 100000 in
theorem t_X12_ask_b51 {X : Scr} {i0 : Nat} (h0 : KD[i0]? = some (.inl 12)) {k24 : Int32 → Int32 → Int32 → Int32 → Mem → Option (Int32 × Mem)} (hk24 : ∀ (x1 : Int32) (x2 : Int32) (x3 : Int32) (x4 : Int32) (M : Mem), T X eI (k24 x1 x2 x3 x4 M) md_X12_ask 24 [(0, .ref i0), (1, .int x1), (2, .int x2), (3, .int x3), (4, .int x4)] [] M) (x1 : Int32) (x3 : Int32) (x4 : Int32) (x5 : Int32) (s0 : Int32) (M : Mem) : T X eI (X12_ask_b51 i0 k24 x1 x3 x4 x5 s0 M) md_X12_ask 51 [(0, .ref i0), (1, .int x1), (3, .int x3), (4, .int x4), (5, .int x5)] [.int s0] M := by
  unfold X12_ask_b51
  refine T_istore_n [(2, .int s0), (0, .ref i0), (1, .int x1), (3, .int x3), (4, .int x4), (5, .int x5)] dX12_ask_51 rfl (by decide) rfl ?_
  refine T_iload_n 3 dX12_ask_52 rfl rfl ?_
  refine T_iload 5 dX12_ask_53 rfl ?_
  refine T_callSI md_X12_less [.int x3, .int x5] [] dX12_ask_55 rfl ok_X12_less tb_962 tb_963 (by decide) (Nat.le_of_ble_eq_true rfl) (fun _ _ h9 => C_X12_less  _ _ h9) (fun r1 M1 => ?_)
  dsimp only
  refine T_istore_n [(3, .int r1), (2, .int s0), (0, .ref i0), (1, .int x1), (4, .int x4), (5, .int x5)] dX12_ask_58 rfl (by decide) rfl ?_
  refine T_iinc 4 [(4, .int (x4 + (1 : Int32))), (3, .int r1), (2, .int s0), (0, .ref i0), (1, .int x1), (5, .int x5)] (v := (1 : Int32)) dX12_ask_59 rfl (by decide) (by decide) rfl ?_
  refine T_goto 24 dX12_ask_62 (by decide) ?_
  refine T_sub [3, 4, 2, 1, 0] (lv' := [(0, .ref i0), (1, .int x1), (2, .int s0), (3, .int r1), (4, .int (x4 + (1 : Int32)))]) rfl ?_
  exact hk24 _ _ _ _ _
set_option maxHeartbeats 4000000 in
set_option maxRecDepth 100000 in
theorem t_X12_ask_b83 {X : Scr} {i0 : Nat} (h0 : KD[i0]? = some (.inl 12)) (s0 : Int32) (M : Mem) : T X eI (X12_ask_b83 i0  s0 M) md_X12_ask 83 [] [.int s0] M := by
  unfold X12_ask_b83
  exact T_iret dX12_ask_83 rfl
set_option maxHeartbeats 4000000 in
set_option maxRecDepth 100000 in
theorem t_X12_ask_b24 {X : Scr} {i0 : Nat} (h0 : KD[i0]? = some (.inl 12)) {k24 : Int32 → Int32 → Int32 → Int32 → Mem → Option (Int32 × Mem)} (hk24 : ∀ (x1 : Int32) (x2 : Int32) (x3 : Int32) (x4 : Int32) (M : Mem), T X eI (k24 x1 x2 x3 x4 M) md_X12_ask 24 [(0, .ref i0), (1, .int x1), (2, .int x2), (3, .int x3), (4, .int x4)] [] M) (x1 : Int32) (x2 : Int32) (x3 : Int32) (x4 : Int32) (M : Mem) : T X eI (X12_ask_b24 i0 k24 x1 x2 x3 x4 M) md_X12_ask 24 [(0, .ref i0), (1, .int x1), (2, .int x2), (3, .int x3), (4, .int x4)] [] M := by
  unfold X12_ask_b24
  refine T_iload 4 dX12_ask_24 rfl ?_
  refine T_bipush (v := (60 : Int32)) (by decide) dX12_ask_26 ?_
  refine T_icmp_gt 65 dX12_ask_28 (by decide) ?_ ?_
  ·
    refine T_iload_n 3 dX12_ask_65 rfl rfl ?_
    refine T_if_ne 74 dX12_ask_66 (by decide) ?_ ?_
    ·
      refine T_bipush (v := (-6 : Int32)) (by decide) dX12_ask_69 ?_
      refine T_goto 83 dX12_ask_71 (by decide) ?_
      refine T_sub [] (lv' := []) rfl ?_
      exact t_X12_ask_b83 h0  _ _
    ·
      refine T_iload_n 1 dX12_ask_74 rfl rfl ?_
      refine T_if_ne 82 dX12_ask_75 (by decide) ?_ ?_
      ·
        refine T_iload_n 2 dX12_ask_78 rfl rfl ?_
        refine T_goto 83 dX12_ask_79 (by decide) ?_
        refine T_sub [] (lv' := []) rfl ?_
        exact t_X12_ask_b83 h0  _ _
      ·
        refine T_iload_n 3 dX12_ask_82 rfl rfl ?_
        refine T_sub [] (lv' := []) rfl ?_
        exact t_X12_ask_b83 h0  _ _
  ·
    refine T_aload_n 0 dX12_ask_31 rfl rfl ?_
    refine T_iload 4 dX12_ask_32 rfl ?_
    refine T_callVI md_X12_mostLeft [.int x4] [] dX12_ask_34 h0 rfl rfl ok_X12_mostLeft tb_1033 tb_1035 tb_37 (by decide) (Nat.le_of_ble_eq_true rfl) (fun _ _ h9 => C_X12_mostLeft h0 _ h9) (fun r1 M1 => ?_)
    dsimp only
    refine T_istore [(5, .int r1), (0, .ref i0), (1, .int x1), (2, .int x2), (3, .int x3), (4, .int x4)] dX12_ask_37 (by decide) rfl ?_
    refine T_iload 0 dX12_ask_39 rfl ?_
    refine T_iload_n 4 dX12_ask_41 rfl rfl ?_
    refine T_icmp_ge 50 dX12_ask_42 (by decide) ?_ ?_
    ·
      refine T_iload_n 3 dX12_ask_50 rfl rfl ?_
      refine T_sub [1, 2, 4, 5, 0] (lv' := [(0, .ref i0), (1, .int x1), (3, .int x3), (4, .int x4), (5, .int r1)]) rfl ?_
      exact t_X12_ask_b51 h0 hk24 _ _ _ _ _ _
    ·
      refine T_iload 5 dX12_ask_45 rfl ?_
      refine T_goto 51 dX12_ask_47 (by decide) ?_
      refine T_sub [1, 2, 4, 5, 0] (lv' := [(0, .ref i0), (1, .int x1), (3, .int x3), (4, .int x4), (5, .int r1)]) rfl ?_
      exact t_X12_ask_b51 h0 hk24 _ _ _ _ _ _
theorem t_X12_ask_l24 {X : Scr} {i0 : Nat} (h0 : KD[i0]? = some (.inl 12)) (n : Nat) : ∀ (x1 : Int32) (x2 : Int32) (x3 : Int32) (x4 : Int32) (M : Mem), T X eI (X12_ask_l24 i0  n x1 x2 x3 x4 M) md_X12_ask 24 [(0, .ref i0), (1, .int x1), (2, .int x2), (3, .int x3), (4, .int x4)] [] M := by
  induction n with
  | zero => intro x1 x2 x3 x4 M; exact T_none
  | succ n ih => intro x1 x2 x3 x4 M; exact t_X12_ask_b24 h0 ih x1 x2 x3 x4 M
set_option maxHeartbeats 4000000 in
set_option maxRecDepth 100000 in
theorem t_X12_ask {X : Scr} {i0 : Nat} (h0 : KD[i0]? = some (.inl 12)) (x1 : Int32) (M : Mem) : T X eI (X12_ask i0  x1 M) md_X12_ask 0 [(0, .ref i0), (1, .int x1)] [] M := by
  unfold X12_ask
  refine T_iload_n 1 dX12_ask_0 rfl rfl ?_
  refine T_i2l dX12_ask_1 ?_
  refine T_lconst (v := (0 : Int64)) (by decide) dX12_ask_2 ?_
  refine T_lconst (v := (1 : Int64)) (by decide) dX12_ask_3 ?_
  refine T_callSI md_X12_in [.long x1.toInt64, .long (0 : Int64), .long (1 : Int64)] [] dX12_ask_4 rfl ok_X12_in tb_816 tb_817 (by decide) (Nat.le_of_ble_eq_true rfl) (fun _ _ h9 => C_X12_in  _ _ _ h9) (fun r1 M1 => ?_)
  dsimp only
  refine T_if_ne 13 dX12_ask_7 (by decide) ?_ ?_
  ·
    refine T_bipush (v := (-2 : Int32)) (by decide) dX12_ask_10 ?_
    exact T_iret dX12_ask_12 rfl
  ·
    refine T_iconst (v := (0 : Int32)) (by decide) dX12_ask_13 ?_
    refine T_istore_n [(2, .int (0 : Int32)), (0, .ref i0), (1, .int x1)] dX12_ask_14 rfl (by decide) rfl ?_
    refine T_aload_n 1 dX12_ask_15 rfl rfl ?_
    refine T_iconst (v := (0 : Int32)) (by decide) dX12_ask_16 ?_
    refine T_callVI md_X12_mostLeft [.int (0 : Int32)] [] dX12_ask_17 h0 rfl rfl ok_X12_mostLeft tb_1033 tb_1035 tb_37 (by decide) (Nat.le_of_ble_eq_true rfl) (fun _ _ h9 => C_X12_mostLeft h0 _ h9) (fun r2 M2 => ?_)
    dsimp only
    refine T_istore_n [(3, .int r2), (2, .int (0 : Int32)), (0, .ref i0), (1, .int x1)] dX12_ask_20 rfl (by decide) rfl ?_
    refine T_iconst (v := (1 : Int32)) (by decide) dX12_ask_21 ?_
    refine T_istore [(4, .int (1 : Int32)), (3, .int r2), (2, .int (0 : Int32)), (0, .ref i0), (1, .int x1)] dX12_ask_22 (by decide) rfl ?_
    refine T_sub [3, 4, 2, 1, 0] (lv' := [(0, .ref i0), (1, .int x1), (2, .int (0 : Int32)), (3, .int r2), (4, .int (1 : Int32))]) rfl ?_
    exact t_X12_ask_l24 h0  _ _ _ _ _ _
theorem C_X12_ask {X : Scr} {i0 : Nat} (h0 : KD[i0]? = some (.inl 12)) (x1 : Int32) {M : Mem} {r : Int32} {M' : Mem} (h : X12_ask i0 x1 M = some (r, M')) : Ct X md_X12_ask [.ref i0, .int x1] M (eI r) M' := Ct_of (by decide +kernel) (Nat.le_of_ble_eq_true rfl) (t_X12_ask h0 _ M) r M' h
