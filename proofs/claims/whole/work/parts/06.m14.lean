-- X12_lengths
def X12_lengths_b58 (i0 : Nat)   (M : Mem) : Option (Int64 × Mem) :=
  some ((-1000000000000000002 : Int64), M)
def X12_lengths_b88 (i0 : Nat) (k65 : Int32 → Int32 → Int32 → Int32 → Int32 → Int32 → Mem → Option (Int64 × Mem)) (x1 : Int32) (x2 : Int32) (x3 : Int32) (x4 : Int32) (x5 : Int32) (x6 : Int32) (s0 : Int64) (s1 : Int32) (M : Mem) : Option (Int64 × Mem) :=
  gd (ib s1 14) (
    k65 x1 x2 x3 x4 x5 (x6 + (1 : Int32)) (mL M (rf i0 26) s1.toNatClampNeg s0))
def X12_lengths_b165 (i0 : Nat) (k101 : Int32 → Int32 → Int32 → Int32 → Int32 → Int64 → Int32 → Mem → Option (Int64 × Mem)) (k119 : Int32 → Int32 → Int32 → Int32 → Int32 → Int64 → Int32 → Int32 → Mem → Option (Int64 × Mem)) (x1 : Int32) (x2 : Int32) (x3 : Int32) (x4 : Int32) (x5 : Int32) (x6 : Int64) (x8 : Int32) (x9 : Int32) (s0 : Int64) (s1 : Int64) (s2 : Int32) (M : Mem) : Option (Int64 × Mem) :=
  gd (ib s2 14) (
    k119 x1 x2 x3 x4 x5 x6 x8 (x9 + (-1 : Int32)) (mL M (rf i0 26) s2.toNatClampNeg (s1 + s0)))
def X12_lengths_b119 (i0 : Nat) (k101 : Int32 → Int32 → Int32 → Int32 → Int32 → Int64 → Int32 → Mem → Option (Int64 × Mem)) (k119 : Int32 → Int32 → Int32 → Int32 → Int32 → Int64 → Int32 → Int32 → Mem → Option (Int64 × Mem)) (x1 : Int32) (x2 : Int32) (x3 : Int32) (x4 : Int32) (x5 : Int32) (x6 : Int64) (x8 : Int32) (x9 : Int32) (M : Mem) : Option (Int64 × Mem) :=
  if x9 < 0 then
    k101 x1 x2 x3 x4 x5 x6 (x8 + (1 : Int32)) M
  else
    gd (ib x9 14) (
      if x9 ≤ 0 then
        X12_lengths_b165 i0 k101 k119 x1 x2 x3 x4 x5 x6 x8 x9 (0 : Int64) (((10 : Int64) - x3.toInt64) * (M.2 (rf i0 26) x9.toNatClampNeg)) x9 M
      else
        gd (ib (x9 - (1 : Int32)) 14) (
          X12_lengths_b165 i0 k101 k119 x1 x2 x3 x4 x5 x6 x8 x9 (x3.toInt64 * (M.2 (rf i0 26) (x9 - (1 : Int32)).toNatClampNeg)) (((10 : Int64) - x3.toInt64) * (M.2 (rf i0 26) x9.toNatClampNeg)) x9 M))
def X12_lengths_l119 (i0 : Nat) (k101 : Int32 → Int32 → Int32 → Int32 → Int32 → Int64 → Int32 → Mem → Option (Int64 × Mem)) : Nat → Int32 → Int32 → Int32 → Int32 → Int32 → Int64 → Int32 → Int32 → Mem → Option (Int64 × Mem)
  | 0 => fun _ _ _ _ _ _ _ _ _ => none
  | n + 1 => X12_lengths_b119 i0 k101 (X12_lengths_l119 i0 k101 n)
def X12_lengths_b213 (i0 : Nat) (k188 : Int32 → Int32 → Int32 → Int32 → Int64 → Int64 → Int64 → Int32 → Mem → Option (Int64 × Mem)) (x1 : Int32) (x2 : Int32) (x4 : Int32) (x5 : Int32) (x6 : Int64) (x10 : Int64) (x12 : Int32) (s0 : Int64) (s1 : Int64) (M : Mem) : Option (Int64 × Mem) :=
  (X12_less  x12 x1 M).bind (fun p1 =>
    gd (ib x12 14) (
      lw (x10 + (p1.1.toInt64 * (p1.2.2 (rf i0 26) x12.toNatClampNeg))) (fun v2 =>
        k188 x1 x2 x4 x5 x6 (s1 + s0) v2 (x12 + (1 : Int32)) p1.2)))
def X12_lengths_b254 (i0 : Nat)  (x5 : Int32) (x6 : Int64) (s0 : Int64) (M : Mem) : Option (Int64 × Mem) :=
  (X12_lowest  s0 x6 x5 M).bind (fun p1 =>
    some (p1.1, p1.2))
def X12_lengths_b188 (i0 : Nat) (k188 : Int32 → Int32 → Int32 → Int32 → Int64 → Int64 → Int64 → Int32 → Mem → Option (Int64 × Mem)) (x1 : Int32) (x2 : Int32) (x4 : Int32) (x5 : Int32) (x6 : Int64) (x8 : Int64) (x10 : Int64) (x12 : Int32) (M : Mem) : Option (Int64 × Mem) :=
  if x2 < x12 then
    if x4 = 0 then
      X12_lengths_b254 i0  x5 x6 x8 M
    else
      X12_lengths_b254 i0  x5 x6 x10 M
  else
    if x12 < x1 then
      X12_lengths_b213 i0 k188 x1 x2 x4 x5 x6 x10 x12 (0 : Int64) x8 M
    else
      gd (ib x12 14) (
        X12_lengths_b213 i0 k188 x1 x2 x4 x5 x6 x10 x12 (M.2 (rf i0 26) x12.toNatClampNeg) x8 M)
def X12_lengths_l188 (i0 : Nat)  : Nat → Int32 → Int32 → Int32 → Int32 → Int64 → Int64 → Int64 → Int32 → Mem → Option (Int64 × Mem)
  | 0 => fun _ _ _ _ _ _ _ _ _ => none
  | n + 1 => X12_lengths_b188 i0 (X12_lengths_l188 i0  n)
def X12_lengths_b101 (i0 : Nat) (k101 : Int32 → Int32 → Int32 → Int32 → Int32 → Int64 → Int32 → Mem → Option (Int64 × Mem)) (x1 : Int32) (x2 : Int32) (x3 : Int32) (x4 : Int32) (x5 : Int32) (x6 : Int64) (x8 : Int32) (M : Mem) : Option (Int64 × Mem) :=
  if x2 ≤ x8 then
    X12_lengths_l188 i0  FU x1 x2 x4 x5 x6 (0 : Int64) (0 : Int64) (0 : Int32) M
  else
    X12_lengths_l119 i0 k101 FU x1 x2 x3 x4 x5 (x6 * (10 : Int64)) x8 (13 : Int32) M
def X12_lengths_l101 (i0 : Nat)  : Nat → Int32 → Int32 → Int32 → Int32 → Int32 → Int64 → Int32 → Mem → Option (Int64 × Mem)
  | 0 => fun _ _ _ _ _ _ _ _ => none
  | n + 1 => X12_lengths_b101 i0 (X12_lengths_l101 i0  n)
def X12_lengths_b65 (i0 : Nat) (k65 : Int32 → Int32 → Int32 → Int32 → Int32 → Int32 → Mem → Option (Int64 × Mem)) (x1 : Int32) (x2 : Int32) (x3 : Int32) (x4 : Int32) (x5 : Int32) (x6 : Int32) (M : Mem) : Option (Int64 × Mem) :=
  if (14 : Int32) ≤ x6 then
    X12_lengths_l101 i0  FU x1 x2 x3 x4 x5 (1 : Int64) (0 : Int32) M
  else
    if x6 = 0 then
      X12_lengths_b88 i0 k65 x1 x2 x3 x4 x5 x6 (1 : Int64) x6 M
    else
      X12_lengths_b88 i0 k65 x1 x2 x3 x4 x5 x6 (0 : Int64) x6 M
def X12_lengths_l65 (i0 : Nat)  : Nat → Int32 → Int32 → Int32 → Int32 → Int32 → Int32 → Mem → Option (Int64 × Mem)
  | 0 => fun _ _ _ _ _ _ _ => none
  | n + 1 => X12_lengths_b65 i0 (X12_lengths_l65 i0  n)
def X12_lengths (i0 : Nat)  (x1 : Int32) (x2 : Int32) (x3 : Int32) (x4 : Int32) (x5 : Int32) (M : Mem) : Option (Int64 × Mem) :=
  (X12_in  x1.toInt64 (0 : Int64) (12 : Int64) M).bind (fun p1 =>
    if p1.1 = 0 then
      X12_lengths_b58 i0   p1.2
    else
      (X12_in  x2.toInt64 (0 : Int64) (12 : Int64) p1.2).bind (fun p2 =>
        if p2.1 = 0 then
          X12_lengths_b58 i0   p2.2
        else
          (X12_in  x3.toInt64 (0 : Int64) (10 : Int64) p2.2).bind (fun p3 =>
            if p3.1 = 0 then
              X12_lengths_b58 i0   p3.2
            else
              (X12_in  x4.toInt64 (0 : Int64) (1 : Int64) p3.2).bind (fun p4 =>
                if p4.1 = 0 then
                  X12_lengths_b58 i0   p4.2
                else
                  (X12_in  x5.toInt64 (0 : Int64) (1 : Int64) p4.2).bind (fun p5 =>
                    if p5.1 = 0 then
                      X12_lengths_b58 i0   p5.2
                    else
                      X12_lengths_l65 i0  FU x1 x2 x3 x4 x5 (0 : Int32) p5.2)))))
set_option maxHeartbeats 4000000 in
set_option maxRecDepth 100000 in
theorem t_X12_lengths_b58 {X : Scr} {i0 : Nat} (h0 : KD[i0]? = some (.inl 12))  (M : Mem) : T X eL (X12_lengths_b58 i0   M) md_X12_lengths 58 [] [] M := by
  unfold X12_lengths_b58
  refine T_ldc2 (v := (-1000000000000000002 : Int64)) dX12_lengths_58 tb_1056 ?_
  exact T_lret dX12_lengths_61 rfl
set_option maxHeartbeats 4000000 in
set_option maxRecDepth 100000 in
theorem t_X12_lengths_b88 {X : Scr} {i0 : Nat} (h0 : KD[i0]? = some (.inl 12)) {k65 : Int32 → Int32 → Int32 → Int32 → Int32 → Int32 → Mem → Option (Int64 × Mem)} (hk65 : ∀ (x1 : Int32) (x2 : Int32) (x3 : Int32) (x4 : Int32) (x5 : Int32) (x6 : Int32) (M : Mem), T X eL (k65 x1 x2 x3 x4 x5 x6 M) md_X12_lengths 65 [(0, .ref i0), (1, .int x1), (2, .int x2), (3, .int x3), (4, .int x4), (5, .int x5), (6, .int x6)] [] M) (x1 : Int32) (x2 : Int32) (x3 : Int32) (x4 : Int32) (x5 : Int32) (x6 : Int32) (s0 : Int64) (s1 : Int32) (M : Mem) : T X eL (X12_lengths_b88 i0 k65 x1 x2 x3 x4 x5 x6 s0 s1 M) md_X12_lengths 88 [(0, .ref i0), (1, .int x1), (2, .int x2), (3, .int x3), (4, .int x4), (5, .int x5), (6, .int x6)] [.long s0, .int s1, .ref (rf i0 26)] M := by
  unfold X12_lengths_b88
  refine T_last (kf_12_26 h0) dX12_lengths_88 ?_
  refine T_iinc 6 [(6, .int (x6 + (1 : Int32))), (0, .ref i0), (1, .int x1), (2, .int x2), (3, .int x3), (4, .int x4), (5, .int x5)] (v := (1 : Int32)) dX12_lengths_89 rfl (by decide) (by decide) rfl ?_
  refine T_goto 65 dX12_lengths_92 (by decide) ?_
  refine T_sub [1, 2, 3, 4, 5, 6, 0] (lv' := [(0, .ref i0), (1, .int x1), (2, .int x2), (3, .int x3), (4, .int x4), (5, .int x5), (6, .int (x6 + (1 : Int32)))]) rfl ?_
  exact hk65 _ _ _ _ _ _ _
set_option maxHeartbeats 4000000 in
set_option maxRecDepth 100000 in
theorem t_X12_lengths_b165 {X : Scr} {i0 : Nat} (h0 : KD[i0]? = some (.inl 12)) {k101 : Int32 → Int32 → Int32 → Int32 → Int32 → Int64 → Int32 → Mem → Option (Int64 × Mem)} (hk101 : ∀ (x1 : Int32) (x2 : Int32) (x3 : Int32) (x4 : Int32) (x5 : Int32) (x6 : Int64) (x8 : Int32) (M : Mem), T X eL (k101 x1 x2 x3 x4 x5 x6 x8 M) md_X12_lengths 101 [(0, .ref i0), (1, .int x1), (2, .int x2), (3, .int x3), (4, .int x4), (5, .int x5), (6, .long x6), (8, .int x8)] [] M) {k119 : Int32 → Int32 → Int32 → Int32 → Int32 → Int64 → Int32 → Int32 → Mem → Option (Int64 × Mem)} (hk119 : ∀ (x1 : Int32) (x2 : Int32) (x3 : Int32) (x4 : Int32) (x5 : Int32) (x6 : Int64) (x8 : Int32) (x9 : Int32) (M : Mem), T X eL (k119 x1 x2 x3 x4 x5 x6 x8 x9 M) md_X12_lengths 119 [(0, .ref i0), (1, .int x1), (2, .int x2), (3, .int x3), (4, .int x4), (5, .int x5), (6, .long x6), (8, .int x8), (9, .int x9)] [] M) (x1 : Int32) (x2 : Int32) (x3 : Int32) (x4 : Int32) (x5 : Int32) (x6 : Int64) (x8 : Int32) (x9 : Int32) (s0 : Int64) (s1 : Int64) (s2 : Int32) (M : Mem) : T X eL (X12_lengths_b165 i0 k101 k119 x1 x2 x3 x4 x5 x6 x8 x9 s0 s1 s2 M) md_X12_lengths 165 [(0, .ref i0), (1, .int x1), (2, .int x2), (3, .int x3), (4, .int x4), (5, .int x5), (6, .long x6), (8, .int x8), (9, .int x9)] [.long s0, .long s1, .int s2, .ref (rf i0 26)] M := by
  unfold X12_lengths_b165
  refine T_ladd dX12_lengths_165 ?_
  refine T_last (kf_12_26 h0) dX12_lengths_166 ?_
  refine T_iinc 8 [(9, .int (x9 + (-1 : Int32))), (0, .ref i0), (1, .int x1), (2, .int x2), (3, .int x3), (4, .int x4), (5, .int x5), (6, .long x6), (8, .int x8)] (v := (-1 : Int32)) dX12_lengths_167 rfl (by decide) (by decide) rfl ?_
  refine T_goto 119 dX12_lengths_170 (by decide) ?_
  refine T_sub [1, 2, 3, 4, 5, 6, 7, 8, 0] (lv' := [(0, .ref i0), (1, .int x1), (2, .int x2), (3, .int x3), (4, .int x4), (5, .int x5), (6, .long x6), (8, .int x8), (9, .int (x9 + (-1 : Int32)))]) rfl ?_
  exact hk119 _ _ _ _ _ _ _ _ _
set_option maxHeartbeats 4000000 in
set_option maxRecDepth 100000 in
theorem t_X12_lengths_b119 {X : Scr} {i0 : Nat} (h0 : KD[i0]? = some (.inl 12)) {k101 : Int32 → Int32 → Int32 → Int32 → Int32 → Int64 → Int32 → Mem → Option (Int64 × Mem)} (hk101 : ∀ (x1 : Int32) (x2 : Int32) (x3 : Int32) (x4 : Int32) (x5 : Int32) (x6 : Int64) (x8 : Int32) (M : Mem), T X eL (k101 x1 x2 x3 x4 x5 x6 x8 M) md_X12_lengths 101 [(0, .ref i0), (1, .int x1), (2, .int x2), (3, .int x3), (4, .int x4), (5, .int x5), (6, .long x6), (8, .int x8)] [] M) {k119 : Int32 → Int32 → Int32 → Int32 → Int32 → Int64 → Int32 → Int32 → Mem → Option (Int64 × Mem)} (hk119 : ∀ (x1 : Int32) (x2 : Int32) (x3 : Int32) (x4 : Int32) (x5 : Int32) (x6 : Int64) (x8 : Int32) (x9 : Int32) (M : Mem), T X eL (k119 x1 x2 x3 x4 x5 x6 x8 x9 M) md_X12_lengths 119 [(0, .ref i0), (1, .int x1), (2, .int x2), (3, .int x3), (4, .int x4), (5, .int x5), (6, .long x6), (8, .int x8), (9, .int x9)] [] M) (x1 : Int32) (x2 : Int32) (x3 : Int32) (x4 : Int32) (x5 : Int32) (x6 : Int64) (x8 : Int32) (x9 : Int32) (M : Mem) : T X eL (X12_lengths_b119 i0 k101 k119 x1 x2 x3 x4 x5 x6 x8 x9 M) md_X12_lengths 119 [(0, .ref i0), (1, .int x1), (2, .int x2), (3, .int x3), (4, .int x4), (5, .int x5), (6, .long x6), (8, .int x8), (9, .int x9)] [] M := by
  unfold X12_lengths_b119
  refine T_iload 8 dX12_lengths_119 rfl ?_
  refine T_if_lt 173 dX12_lengths_121 (by decide) ?_ ?_
  ·
    refine T_iinc 7 [(8, .int (x8 + (1 : Int32))), (0, .ref i0), (1, .int x1), (2, .int x2), (3, .int x3), (4, .int x4), (5, .int x5), (6, .long x6), (9, .int x9)] (v := (1 : Int32)) dX12_lengths_173 rfl (by decide) (by decide) rfl ?_
    refine T_goto 101 dX12_lengths_176 (by decide) ?_
    refine T_sub [1, 2, 3, 4, 5, 6, 7, 0] (lv' := [(0, .ref i0), (1, .int x1), (2, .int x2), (3, .int x3), (4, .int x4), (5, .int x5), (6, .long x6), (8, .int (x8 + (1 : Int32)))]) rfl ?_
    exact hk101 _ _ _ _ _ _ _ _
  ·
    refine T_aload_n 0 dX12_lengths_124 rfl rfl ?_
    refine T_getR 26 FOk_12 h0 (by decide) (by decide) dX12_lengths_125 tb_739 ?_
    refine T_iload 8 dX12_lengths_128 rfl ?_
    refine T_ldc2 (v := (10 : Int64)) dX12_lengths_130 tb_1055 ?_
    refine T_iload_n 3 dX12_lengths_133 rfl rfl ?_
    refine T_i2l dX12_lengths_134 ?_
    refine T_lsub dX12_lengths_135 ?_
    refine T_aload_n 0 dX12_lengths_136 rfl rfl ?_
    refine T_getR 26 FOk_12 h0 (by decide) (by decide) dX12_lengths_137 tb_739 ?_
    refine T_iload 8 dX12_lengths_140 rfl ?_
    refine T_lald (kf_12_26 h0) dX12_lengths_142 ?_
    refine T_lmul dX12_lengths_143 ?_
    refine T_iload 8 dX12_lengths_144 rfl ?_
    refine T_if_le 164 dX12_lengths_146 (by decide) ?_ ?_
    ·
      refine T_lconst (v := (0 : Int64)) (by decide) dX12_lengths_164 ?_
      exact t_X12_lengths_b165 h0 hk101 hk119 _ _ _ _ _ _ _ _ _ _ _ _
    ·
      refine T_iload_n 3 dX12_lengths_149 rfl rfl ?_
      refine T_i2l dX12_lengths_150 ?_
      refine T_aload_n 0 dX12_lengths_151 rfl rfl ?_
      refine T_getR 26 FOk_12 h0 (by decide) (by decide) dX12_lengths_152 tb_739 ?_
      refine T_iload 8 dX12_lengths_155 rfl ?_
      refine T_iconst (v := (1 : Int32)) (by decide) dX12_lengths_157 ?_
      refine T_isub dX12_lengths_158 ?_
      refine T_lald (kf_12_26 h0) dX12_lengths_159 ?_
      refine T_lmul dX12_lengths_160 ?_
      refine T_goto 165 dX12_lengths_161 (by decide) ?_
      exact t_X12_lengths_b165 h0 hk101 hk119 _ _ _ _ _ _ _ _ _ _ _ _
theorem t_X12_lengths_l119 {X : Scr} {i0 : Nat} (h0 : KD[i0]? = some (.inl 12)) {k101 : Int32 → Int32 → Int32 → Int32 → Int32 → Int64 → Int32 → Mem → Option (Int64 × Mem)} (hk101 : ∀ (x1 : Int32) (x2 : Int32) (x3 : Int32) (x4 : Int32) (x5 : Int32) (x6 : Int64) (x8 : Int32) (M : Mem), T X eL (k101 x1 x2 x3 x4 x5 x6 x8 M) md_X12_lengths 101 [(0, .ref i0), (1, .int x1), (2, .int x2), (3, .int x3), (4, .int x4), (5, .int x5), (6, .long x6), (8, .int x8)] [] M) (n : Nat) : ∀ (x1 : Int32) (x2 : Int32) (x3 : Int32) (x4 : Int32) (x5 : Int32) (x6 : Int64) (x8 : Int32) (x9 : Int32) (M : Mem), T X eL (X12_lengths_l119 i0 k101 n x1 x2 x3 x4 x5 x6 x8 x9 M) md_X12_lengths 119 [(0, .ref i0), (1, .int x1), (2, .int x2), (3, .int x3), (4, .int x4), (5, .int x5), (6, .long x6), (8, .int x8), (9, .int x9)] [] M := by
  induction n with
  | zero => intro x1 x2 x3 x4 x5 x6 x8 x9 M; exact T_none
  | succ n ih => intro x1 x2 x3 x4 x5 x6 x8 x9 M; exact t_X12_lengths_b119 h0 hk101 ih x1 x2 x3 x4 x5 x6 x8 x9 M
set_option maxHeartbeats 4000000 in
set_option maxRecDepth 100000 in
theorem t_X12_lengths_b213 {X : Scr} {i0 : Nat} (h0 : KD[i0]? = some (.inl 12)) {k188 : Int32 → Int32 → Int32 → Int32 → Int64 → Int64 → Int64 → Int32 → Mem → Option (Int64 × Mem)} (hk188 : ∀ (x1 : Int32) (x2 : Int32) (x4 : Int32) (x5 : Int32) (x6 : Int64) (x8 : Int64) (x10 : Int64) (x12 : Int32) (M : Mem), T X eL (k188 x1 x2 x4 x5 x6 x8 x10 x12 M) md_X12_lengths 188 [(0, .ref i0), (1, .int x1), (2, .int x2), (4, .int x4), (5, .int x5), (6, .long x6), (8, .long x8), (10, .long x10), (12, .int x12)] [] M) (x1 : Int32) (x2 : Int32) (x4 : Int32) (x5 : Int32) (x6 : Int64) (x10 : Int64) (x12 : Int32) (s0 : Int64) (s1 : Int64) (M : Mem) : T X eL (X12_lengths_b213 i0 k188 x1 x2 x4 x5 x6 x10 x12 s0 s1 M) md_X12_lengths 213 [(0, .ref i0), (1, .int x1), (2, .int x2), (4, .int x4), (5, .int x5), (6, .long x6), (10, .long x10), (12, .int x12)] [.long s0, .long s1] M := by
  unfold X12_lengths_b213
  refine T_ladd dX12_lengths_213 ?_
  refine T_lstore [(8, .long (s1 + s0)), (0, .ref i0), (1, .int x1), (2, .int x2), (4, .int x4), (5, .int x5), (6, .long x6), (10, .long x10), (12, .int x12)] dX12_lengths_214 (by decide) rfl ?_
  refine T_lload 7 dX12_lengths_216 rfl ?_
  refine T_iload 8 dX12_lengths_218 rfl ?_
  refine T_iload_n 2 dX12_lengths_220 rfl rfl ?_
  refine T_callSI md_X12_less [.int x12, .int x1] [.long x10] dX12_lengths_221 rfl ok_X12_less tb_962 tb_963 (by decide) (Nat.le_of_ble_eq_true rfl) (fun _ _ h9 => C_X12_less  _ _ h9) (fun r1 M1 => ?_)
  dsimp only
  refine T_i2l dX12_lengths_224 ?_
  refine T_aload_n 1 dX12_lengths_225 rfl rfl ?_
  refine T_getR 26 FOk_12 h0 (by decide) (by decide) dX12_lengths_226 tb_739 ?_
  refine T_iload 8 dX12_lengths_229 rfl ?_
  refine T_lald (kf_12_26 h0) dX12_lengths_231 ?_
  refine T_lmul dX12_lengths_232 ?_
  refine T_ladd dX12_lengths_233 ?_
  refine T_lw (fun v2 => ?_)
  try dsimp only
  refine T_lstore [(10, .long v2), (8, .long (s1 + s0)), (0, .ref i0), (1, .int x1), (2, .int x2), (4, .int x4), (5, .int x5), (6, .long x6), (12, .int x12)] dX12_lengths_234 (by decide) rfl ?_
  refine T_iinc 8 [(12, .int (x12 + (1 : Int32))), (10, .long v2), (8, .long (s1 + s0)), (0, .ref i0), (1, .int x1), (2, .int x2), (4, .int x4), (5, .int x5), (6, .long x6)] (v := (1 : Int32)) dX12_lengths_236 rfl (by decide) (by decide) rfl ?_
  refine T_goto 188 dX12_lengths_239 (by decide) ?_
  refine T_sub [3, 4, 5, 6, 7, 8, 2, 1, 0] (lv' := [(0, .ref i0), (1, .int x1), (2, .int x2), (4, .int x4), (5, .int x5), (6, .long x6), (8, .long (s1 + s0)), (10, .long v2), (12, .int (x12 + (1 : Int32)))]) rfl ?_
  exact hk188 _ _ _ _ _ _ _ _ _
set_option maxHeartbeats 4000000 in
set_option maxRecDepth 100000 in
theorem t_X12_lengths_b254 {X : Scr} {i0 : Nat} (h0 : KD[i0]? = some (.inl 12)) (x5 : Int32) (x6 : Int64) (s0 : Int64) (M : Mem) : T X eL (X12_lengths_b254 i0  x5 x6 s0 M) md_X12_lengths 254 [(5, .int x5), (6, .long x6)] [.long s0] M := by
  unfold X12_lengths_b254
  refine T_lload 1 dX12_lengths_254 rfl ?_
  refine T_iload 0 dX12_lengths_256 rfl ?_
  refine T_callSL md_X12_lowest [.long s0, .long x6, .int x5] [] dX12_lengths_258 rfl ok_X12_lowest tb_1057 tb_1058 (by decide) (Nat.le_of_ble_eq_true rfl) (fun _ _ h9 => C_X12_lowest  _ _ _ h9) (fun r1 M1 => ?_)
  dsimp only
  exact T_lret dX12_lengths_261 rfl
set_option maxHeartbeats 4000000 in
set_option maxRecDepth 100000 in
theorem t_X12_lengths_b188 {X : Scr} {i0 : Nat} (h0 : KD[i0]? = some (.inl 12)) {k188 : Int32 → Int32 → Int32 → Int32 → Int64 → Int64 → Int64 → Int32 → Mem → Option (Int64 × Mem)} (hk188 : ∀ (x1 : Int32) (x2 : Int32) (x4 : Int32) (x5 : Int32) (x6 : Int64) (x8 : Int64) (x10 : Int64) (x12 : Int32) (M : Mem), T X eL (k188 x1 x2 x4 x5 x6 x8 x10 x12 M) md_X12_lengths 188 [(0, .ref i0), (1, .int x1), (2, .int x2), (4, .int x4), (5, .int x5), (6, .long x6), (8, .long x8), (10, .long x10), (12, .int x12)] [] M) (x1 : Int32) (x2 : Int32) (x4 : Int32) (x5 : Int32) (x6 : Int64) (x8 : Int64) (x10 : Int64) (x12 : Int32) (M : Mem) : T X eL (X12_lengths_b188 i0 k188 x1 x2 x4 x5 x6 x8 x10 x12 M) md_X12_lengths 188 [(0, .ref i0), (1, .int x1), (2, .int x2), (4, .int x4), (5, .int x5), (6, .long x6), (8, .long x8), (10, .long x10), (12, .int x12)] [] M := by
  unfold X12_lengths_b188
  refine T_iload 8 dX12_lengths_188 rfl ?_
  refine T_iload_n 2 dX12_lengths_190 rfl rfl ?_
  refine T_icmp_gt 242 dX12_lengths_191 (by decide) ?_ ?_
  ·
    refine T_iload 3 dX12_lengths_242 rfl ?_
    refine T_if_ne 252 dX12_lengths_244 (by decide) ?_ ?_
    ·
      refine T_lload 6 dX12_lengths_247 rfl ?_
      refine T_goto 254 dX12_lengths_249 (by decide) ?_
      refine T_sub [4, 5] (lv' := [(5, .int x5), (6, .long x6)]) rfl ?_
      exact t_X12_lengths_b254 h0  _ _ _ _
    ·
      refine T_lload 7 dX12_lengths_252 rfl ?_
      refine T_sub [4, 5] (lv' := [(5, .int x5), (6, .long x6)]) rfl ?_
      exact t_X12_lengths_b254 h0  _ _ _ _
  ·
    refine T_lload 6 dX12_lengths_194 rfl ?_
    refine T_iload 8 dX12_lengths_196 rfl ?_
    refine T_iload_n 1 dX12_lengths_198 rfl rfl ?_
    refine T_icmp_lt 212 dX12_lengths_199 (by decide) ?_ ?_
    ·
      refine T_lconst (v := (0 : Int64)) (by decide) dX12_lengths_212 ?_
      refine T_sub [0, 1, 2, 3, 4, 5, 7, 8] (lv' := [(0, .ref i0), (1, .int x1), (2, .int x2), (4, .int x4), (5, .int x5), (6, .long x6), (10, .long x10), (12, .int x12)]) rfl ?_
      exact t_X12_lengths_b213 h0 hk188 _ _ _ _ _ _ _ _ _ _
    ·
      refine T_aload_n 0 dX12_lengths_202 rfl rfl ?_
      refine T_getR 26 FOk_12 h0 (by decide) (by decide) dX12_lengths_203 tb_739 ?_
      refine T_iload 8 dX12_lengths_206 rfl ?_
      refine T_lald (kf_12_26 h0) dX12_lengths_208 ?_
      refine T_goto 213 dX12_lengths_209 (by decide) ?_
      refine T_sub [0, 1, 2, 3, 4, 5, 7, 8] (lv' := [(0, .ref i0), (1, .int x1), (2, .int x2), (4, .int x4), (5, .int x5), (6, .long x6), (10, .long x10), (12, .int x12)]) rfl ?_
      exact t_X12_lengths_b213 h0 hk188 _ _ _ _ _ _ _ _ _ _
theorem t_X12_lengths_l188 {X : Scr} {i0 : Nat} (h0 : KD[i0]? = some (.inl 12)) (n : Nat) : ∀ (x1 : Int32) (x2 : Int32) (x4 : Int32) (x5 : Int32) (x6 : Int64) (x8 : Int64) (x10 : Int64) (x12 : Int32) (M : Mem), T X eL (X12_lengths_l188 i0  n x1 x2 x4 x5 x6 x8 x10 x12 M) md_X12_lengths 188 [(0, .ref i0), (1, .int x1), (2, .int x2), (4, .int x4), (5, .int x5), (6, .long x6), (8, .long x8), (10, .long x10), (12, .int x12)] [] M := by
  induction n with
  | zero => intro x1 x2 x4 x5 x6 x8 x10 x12 M; exact T_none
  | succ n ih => intro x1 x2 x4 x5 x6 x8 x10 x12 M; exact t_X12_lengths_b188 h0 ih x1 x2 x4 x5 x6 x8 x10 x12 M
set_option maxHeartbeats 4000000 in
set_option maxRecDepth 100000 in
theorem t_X12_lengths_b101 {X : Scr} {i0 : Nat} (h0 : KD[i0]? = some (.inl 12)) {k101 : Int32 → Int32 → Int32 → Int32 → Int32 → Int64 → Int32 → Mem → Option (Int64 × Mem)} (hk101 : ∀ (x1 : Int32) (x2 : Int32) (x3 : Int32) (x4 : Int32) (x5 : Int32) (x6 : Int64) (x8 : Int32) (M : Mem), T X eL (k101 x1 x2 x3 x4 x5 x6 x8 M) md_X12_lengths 101 [(0, .ref i0), (1, .int x1), (2, .int x2), (3, .int x3), (4, .int x4), (5, .int x5), (6, .long x6), (8, .int x8)] [] M) (x1 : Int32) (x2 : Int32) (x3 : Int32) (x4 : Int32) (x5 : Int32) (x6 : Int64) (x8 : Int32) (M : Mem) : T X eL (X12_lengths_b101 i0 k101 x1 x2 x3 x4 x5 x6 x8 M) md_X12_lengths 101 [(0, .ref i0), (1, .int x1), (2, .int x2), (3, .int x3), (4, .int x4), (5, .int x5), (6, .long x6), (8, .int x8)] [] M := by
  unfold X12_lengths_b101
  refine T_iload 7 dX12_lengths_101 rfl ?_
  refine T_iload_n 2 dX12_lengths_103 rfl rfl ?_
  refine T_icmp_ge 179 dX12_lengths_104 (by decide) ?_ ?_
  ·
    refine T_lconst (v := (0 : Int64)) (by decide) dX12_lengths_179 ?_
    refine T_lstore [(8, .long (0 : Int64)), (0, .ref i0), (1, .int x1), (2, .int x2), (3, .int x3), (4, .int x4), (5, .int x5), (6, .long x6)] dX12_lengths_180 (by decide) rfl ?_
    refine T_lconst (v := (0 : Int64)) (by decide) dX12_lengths_182 ?_
    refine T_lstore [(10, .long (0 : Int64)), (8, .long (0 : Int64)), (0, .ref i0), (1, .int x1), (2, .int x2), (3, .int x3), (4, .int x4), (5, .int x5), (6, .long x6)] dX12_lengths_183 (by decide) rfl ?_
    refine T_iconst (v := (0 : Int32)) (by decide) dX12_lengths_185 ?_
    refine T_istore [(12, .int (0 : Int32)), (10, .long (0 : Int64)), (8, .long (0 : Int64)), (0, .ref i0), (1, .int x1), (2, .int x2), (3, .int x3), (4, .int x4), (5, .int x5), (6, .long x6)] dX12_lengths_186 (by decide) rfl ?_
    refine T_sub [3, 4, 5, 7, 8, 9, 2, 1, 0] (lv' := [(0, .ref i0), (1, .int x1), (2, .int x2), (4, .int x4), (5, .int x5), (6, .long x6), (8, .long (0 : Int64)), (10, .long (0 : Int64)), (12, .int (0 : Int32))]) rfl ?_
    exact t_X12_lengths_l188 h0  _ _ _ _ _ _ _ _ _ _
  ·
    refine T_lload 6 dX12_lengths_107 rfl ?_
    refine T_ldc2 (v := (10 : Int64)) dX12_lengths_109 tb_1055 ?_
    refine T_lmul dX12_lengths_112 ?_
    refine T_lstore [(6, .long (x6 * (10 : Int64))), (0, .ref i0), (1, .int x1), (2, .int x2), (3, .int x3), (4, .int x4), (5, .int x5), (8, .int x8)] dX12_lengths_113 (by decide) rfl ?_
    refine T_bipush (v := (13 : Int32)) (by decide) dX12_lengths_115 ?_
    refine T_istore [(9, .int (13 : Int32)), (6, .long (x6 * (10 : Int64))), (0, .ref i0), (1, .int x1), (2, .int x2), (3, .int x3), (4, .int x4), (5, .int x5), (8, .int x8)] dX12_lengths_117 (by decide) rfl ?_
    refine T_sub [2, 3, 4, 5, 6, 7, 1, 8, 0] (lv' := [(0, .ref i0), (1, .int x1), (2, .int x2), (3, .int x3), (4, .int x4), (5, .int x5), (6, .long (x6 * (10 : Int64))), (8, .int x8), (9, .int (13 : Int32))]) rfl ?_
    exact t_X12_lengths_l119 h0 hk101 _ _ _ _ _ _ _ _ _ _
theorem t_X12_lengths_l101 {X : Scr} {i0 : Nat} (h0 : KD[i0]? = some (.inl 12)) (n : Nat) : ∀ (x1 : Int32) (x2 : Int32) (x3 : Int32) (x4 : Int32) (x5 : Int32) (x6 : Int64) (x8 : Int32) (M : Mem), T X eL (X12_lengths_l101 i0  n x1 x2 x3 x4 x5 x6 x8 M) md_X12_lengths 101 [(0, .ref i0), (1, .int x1), (2, .int x2), (3, .int x3), (4, .int x4), (5, .int x5), (6, .long x6), (8, .int x8)] [] M := by
  induction n with
  | zero => intro x1 x2 x3 x4 x5 x6 x8 M; exact T_none
  | succ n ih => intro x1 x2 x3 x4 x5 x6 x8 M; exact t_X12_lengths_b101 h0 ih x1 x2 x3 x4 x5 x6 x8 M
set_option maxHeartbeats 4000000 in
set_option maxRecDepth 100000 in
theorem t_X12_lengths_b65 {X : Scr} {i0 : Nat} (h0 : KD[i0]? = some (.inl 12)) {k65 : Int32 → Int32 → Int32 → Int32 → Int32 → Int32 → Mem → Option (Int64 × Mem)} (hk65 : ∀ (x1 : Int32) (x2 : Int32) (x3 : Int32) (x4 : Int32) (x5 : Int32) (x6 : Int32) (M : Mem), T X eL (k65 x1 x2 x3 x4 x5 x6 M) md_X12_lengths 65 [(0, .ref i0), (1, .int x1), (2, .int x2), (3, .int x3), (4, .int x4), (5, .int x5), (6, .int x6)] [] M) (x1 : Int32) (x2 : Int32) (x3 : Int32) (x4 : Int32) (x5 : Int32) (x6 : Int32) (M : Mem) : T X eL (X12_lengths_b65 i0 k65 x1 x2 x3 x4 x5 x6 M) md_X12_lengths 65 [(0, .ref i0), (1, .int x1), (2, .int x2), (3, .int x3), (4, .int x4), (5, .int x5), (6, .int x6)] [] M := by
  unfold X12_lengths_b65
  refine T_iload 6 dX12_lengths_65 rfl ?_
  refine T_bipush (v := (14 : Int32)) (by decide) dX12_lengths_67 ?_
  refine T_icmp_ge 95 dX12_lengths_69 (by decide) ?_ ?_
  ·
    refine T_lconst (v := (1 : Int64)) (by decide) dX12_lengths_95 ?_
    refine T_lstore [(6, .long (1 : Int64)), (0, .ref i0), (1, .int x1), (2, .int x2), (3, .int x3), (4, .int x4), (5, .int x5)] dX12_lengths_96 (by decide) rfl ?_
    refine T_iconst (v := (0 : Int32)) (by decide) dX12_lengths_98 ?_
    refine T_istore [(8, .int (0 : Int32)), (6, .long (1 : Int64)), (0, .ref i0), (1, .int x1), (2, .int x2), (3, .int x3), (4, .int x4), (5, .int x5)] dX12_lengths_99 (by decide) rfl ?_
    refine T_sub [2, 3, 4, 5, 6, 7, 1, 0] (lv' := [(0, .ref i0), (1, .int x1), (2, .int x2), (3, .int x3), (4, .int x4), (5, .int x5), (6, .long (1 : Int64)), (8, .int (0 : Int32))]) rfl ?_
    exact t_X12_lengths_l101 h0  _ _ _ _ _ _ _ _ _
  ·
    refine T_aload_n 0 dX12_lengths_72 rfl rfl ?_
    refine T_getR 26 FOk_12 h0 (by decide) (by decide) dX12_lengths_73 tb_739 ?_
    refine T_iload 6 dX12_lengths_76 rfl ?_
    refine T_iload 6 dX12_lengths_78 rfl ?_
    refine T_if_ne 87 dX12_lengths_80 (by decide) ?_ ?_
    ·
      refine T_lconst (v := (1 : Int64)) (by decide) dX12_lengths_83 ?_
      refine T_goto 88 dX12_lengths_84 (by decide) ?_
      exact t_X12_lengths_b88 h0 hk65 _ _ _ _ _ _ _ _ _
    ·
      refine T_lconst (v := (0 : Int64)) (by decide) dX12_lengths_87 ?_
      exact t_X12_lengths_b88 h0 hk65 _ _ _ _ _ _ _ _ _
theorem t_X12_lengths_l65 {X : Scr} {i0 : Nat} (h0 : KD[i0]? = some (.inl 12)) (n : Nat) : ∀ (x1 : Int32) (x2 : Int32) (x3 : Int32) (x4 : Int32) (x5 : Int32) (x6 : Int32) (M : Mem), T X eL (X12_lengths_l65 i0  n x1 x2 x3 x4 x5 x6 M) md_X12_lengths 65 [(0, .ref i0), (1, .int x1), (2, .int x2), (3, .int x3), (4, .int x4), (5, .int x5), (6, .int x6)] [] M := by
  induction n with
  | zero => intro x1 x2 x3 x4 x5 x6 M; exact T_none
  | succ n ih => intro x1 x2 x3 x4 x5 x6 M; exact t_X12_lengths_b65 h0 ih x1 x2 x3 x4 x5 x6 M
set_option maxHeartbeats 4000000 in
set_option maxRecDepth 100000 in
theorem t_X12_lengths {X : Scr} {i0 : Nat} (h0 : KD[i0]? = some (.inl 12)) (x1 : Int32) (x2 : Int32) (x3 : Int32) (x4 : Int32) (x5 : Int32) (M : Mem) : T X eL (X12_lengths i0  x1 x2 x3 x4 x5 M) md_X12_lengths 0 [(0, .ref i0), (1, .int x1), (2, .int x2), (3, .int x3), (4, .int x4), (5, .int x5)] [] M := by
  unfold X12_lengths
  refine T_iload_n 1 dX12_lengths_0 rfl rfl ?_
  refine T_i2l dX12_lengths_1 ?_
  refine T_lconst (v := (0 : Int64)) (by decide) dX12_lengths_2 ?_
  refine T_ldc2 (v := (12 : Int64)) dX12_lengths_3 tb_1054 ?_
  refine T_callSI md_X12_in [.long x1.toInt64, .long (0 : Int64), .long (12 : Int64)] [] dX12_lengths_6 rfl ok_X12_in tb_816 tb_817 (by decide) (Nat.le_of_ble_eq_true rfl) (fun _ _ h9 => C_X12_in  _ _ _ h9) (fun r1 M1 => ?_)
  dsimp only
  refine T_if_eq 58 dX12_lengths_9 (by decide) ?_ ?_
  ·
    refine T_sub [] (lv' := []) rfl ?_
    exact t_X12_lengths_b58 h0   _
  ·
    refine T_iload_n 2 dX12_lengths_12 rfl rfl ?_
    refine T_i2l dX12_lengths_13 ?_
    refine T_lconst (v := (0 : Int64)) (by decide) dX12_lengths_14 ?_
    refine T_ldc2 (v := (12 : Int64)) dX12_lengths_15 tb_1054 ?_
    refine T_callSI md_X12_in [.long x2.toInt64, .long (0 : Int64), .long (12 : Int64)] [] dX12_lengths_18 rfl ok_X12_in tb_816 tb_817 (by decide) (Nat.le_of_ble_eq_true rfl) (fun _ _ h9 => C_X12_in  _ _ _ h9) (fun r2 M2 => ?_)
    dsimp only
    refine T_if_eq 58 dX12_lengths_21 (by decide) ?_ ?_
    ·
      refine T_sub [] (lv' := []) rfl ?_
      exact t_X12_lengths_b58 h0   _
    ·
      refine T_iload_n 3 dX12_lengths_24 rfl rfl ?_
      refine T_i2l dX12_lengths_25 ?_
      refine T_lconst (v := (0 : Int64)) (by decide) dX12_lengths_26 ?_
      refine T_ldc2 (v := (10 : Int64)) dX12_lengths_27 tb_1055 ?_
      refine T_callSI md_X12_in [.long x3.toInt64, .long (0 : Int64), .long (10 : Int64)] [] dX12_lengths_30 rfl ok_X12_in tb_816 tb_817 (by decide) (Nat.le_of_ble_eq_true rfl) (fun _ _ h9 => C_X12_in  _ _ _ h9) (fun r3 M3 => ?_)
      dsimp only
      refine T_if_eq 58 dX12_lengths_33 (by decide) ?_ ?_
      ·
        refine T_sub [] (lv' := []) rfl ?_
        exact t_X12_lengths_b58 h0   _
      ·
        refine T_iload 4 dX12_lengths_36 rfl ?_
        refine T_i2l dX12_lengths_38 ?_
        refine T_lconst (v := (0 : Int64)) (by decide) dX12_lengths_39 ?_
        refine T_lconst (v := (1 : Int64)) (by decide) dX12_lengths_40 ?_
        refine T_callSI md_X12_in [.long x4.toInt64, .long (0 : Int64), .long (1 : Int64)] [] dX12_lengths_41 rfl ok_X12_in tb_816 tb_817 (by decide) (Nat.le_of_ble_eq_true rfl) (fun _ _ h9 => C_X12_in  _ _ _ h9) (fun r4 M4 => ?_)
        dsimp only
        refine T_if_eq 58 dX12_lengths_44 (by decide) ?_ ?_
        ·
          refine T_sub [] (lv' := []) rfl ?_
          exact t_X12_lengths_b58 h0   _
        ·
          refine T_iload 5 dX12_lengths_47 rfl ?_
          refine T_i2l dX12_lengths_49 ?_
          refine T_lconst (v := (0 : Int64)) (by decide) dX12_lengths_50 ?_
          refine T_lconst (v := (1 : Int64)) (by decide) dX12_lengths_51 ?_
          refine T_callSI md_X12_in [.long x5.toInt64, .long (0 : Int64), .long (1 : Int64)] [] dX12_lengths_52 rfl ok_X12_in tb_816 tb_817 (by decide) (Nat.le_of_ble_eq_true rfl) (fun _ _ h9 => C_X12_in  _ _ _ h9) (fun r5 M5 => ?_)
          dsimp only
          refine T_if_ne 62 dX12_lengths_55 (by decide) ?_ ?_
          ·
            refine T_sub [] (lv' := []) rfl ?_
            exact t_X12_lengths_b58 h0   _
          ·
            refine T_iconst (v := (0 : Int32)) (by decide) dX12_lengths_62 ?_
            refine T_istore [(6, .int (0 : Int32)), (0, .ref i0), (1, .int x1), (2, .int x2), (3, .int x3), (4, .int x4), (5, .int x5)] dX12_lengths_63 (by decide) rfl ?_
            refine T_sub [1, 2, 3, 4, 5, 6, 0] (lv' := [(0, .ref i0), (1, .int x1), (2, .int x2), (3, .int x3), (4, .int x4), (5, .int x5), (6, .int (0 : Int32))]) rfl ?_
            exact t_X12_lengths_l65 h0  _ _ _ _ _ _ _ _
theorem C_X12_lengths {X : Scr} {i0 : Nat} (h0 : KD[i0]? = some (.inl 12)) (x1 : Int32) (x2 : Int32) (x3 : Int32) (x4 : Int32) (x5 : Int32) {M : Mem} {r : Int64} {M' : Mem} (h : X12_lengths i0 x1 x2 x3 x4 x5 M = some (r, M')) : Ct X md_X12_lengths [.ref i0, .int x1, .int x2, .int x3, .int x4, .int x5] M (eL r) M' := Ct_of (by decide +kernel) (Nat.le_of_ble_eq_true rfl) (t_X12_lengths h0 _ _ _ _ _ M) r M' h
-- X12_actBy
def X12_actBy_b44    (M : Mem) : Option (Int32 × Mem) :=
  some ((0 : Int32), M)
def X12_actBy_b46    (M : Mem) : Option (Int32 × Mem) :=
  some ((1 : Int32), M)
def X12_actBy   (x0 : Int32) (M : Mem) : Option (Int32 × Mem) :=
  if x0 = (0 : Int32) then
    X12_actBy_b44    M
  else if x0 = (1 : Int32) then
    X12_actBy_b44    M
  else if x0 = (2 : Int32) then
    X12_actBy_b46    M
  else if x0 = (3 : Int32) then
    X12_actBy_b46    M
  else if x0 = (4 : Int32) then
    some ((2 : Int32), M)
  else if x0 = (5 : Int32) then
    some ((3 : Int32), M)
  else if x0 = (6 : Int32) then
    some ((4 : Int32), M)
  else 
    some ((5 : Int32), M)
set_option maxHeartbeats 4000000 in
set_option maxRecDepth 100000 in
theorem t_X12_actBy_b44 {X : Scr}    (M : Mem) : T X eI (X12_actBy_b44    M) md_X12_actBy 44 [] [] M := by
  unfold X12_actBy_b44
  refine T_iconst (v := (0 : Int32)) (by decide) dX12_actBy_44 ?_
  exact T_iret dX12_actBy_45 rfl
set_option maxHeartbeats 4000000 in
set_option maxRecDepth 100000 in
theorem t_X12_actBy_b46 {X : Scr}    (M : Mem) : T X eI (X12_actBy_b46    M) md_X12_actBy 46 [] [] M := by
  unfold X12_actBy_b46
  refine T_iconst (v := (1 : Int32)) (by decide) dX12_actBy_46 ?_
  exact T_iret dX12_actBy_47 rfl
set_option maxHeartbeats 4000000 in
set_option maxRecDepth 100000 in
theorem t_X12_actBy {X : Scr}   (x0 : Int32) (M : Mem) : T X eI (X12_actBy   x0 M) md_X12_actBy 0 [(0, .int x0)] [] M := by
  unfold X12_actBy
  refine T_iload_n 0 dX12_actBy_0 rfl rfl ?_
  refine T_ite (fun hx0_0 => ?_) (fun hx0_0 => ?_)
  ·
    refine T_tabIn (off := 43) 44 dX12_actBy_1 (by rw [hx0_0]; decide) (by rw [hx0_0]; decide) (by rw [hx0_0]; decide) (by decide) ?_
    refine T_sub [] (lv' := []) rfl ?_
    exact t_X12_actBy_b44    _
  refine T_ite (fun hx0_1 => ?_) (fun hx0_1 => ?_)
  ·
    refine T_tabIn (off := 43) 44 dX12_actBy_1 (by rw [hx0_1]; decide) (by rw [hx0_1]; decide) (by rw [hx0_1]; decide) (by decide) ?_
    refine T_sub [] (lv' := []) rfl ?_
    exact t_X12_actBy_b44    _
  refine T_ite (fun hx0_2 => ?_) (fun hx0_2 => ?_)
  ·
    refine T_tabIn (off := 45) 46 dX12_actBy_1 (by rw [hx0_2]; decide) (by rw [hx0_2]; decide) (by rw [hx0_2]; decide) (by decide) ?_
    refine T_sub [] (lv' := []) rfl ?_
    exact t_X12_actBy_b46    _
  refine T_ite (fun hx0_3 => ?_) (fun hx0_3 => ?_)
  ·
    refine T_tabIn (off := 45) 46 dX12_actBy_1 (by rw [hx0_3]; decide) (by rw [hx0_3]; decide) (by rw [hx0_3]; decide) (by decide) ?_
    refine T_sub [] (lv' := []) rfl ?_
    exact t_X12_actBy_b46    _
  refine T_ite (fun hx0_4 => ?_) (fun hx0_4 => ?_)
  ·
    refine T_tabIn (off := 47) 48 dX12_actBy_1 (by rw [hx0_4]; decide) (by rw [hx0_4]; decide) (by rw [hx0_4]; decide) (by decide) ?_
    refine T_iconst (v := (2 : Int32)) (by decide) dX12_actBy_48 ?_
    exact T_iret dX12_actBy_49 rfl
  refine T_ite (fun hx0_5 => ?_) (fun hx0_5 => ?_)
  ·
    refine T_tabIn (off := 49) 50 dX12_actBy_1 (by rw [hx0_5]; decide) (by rw [hx0_5]; decide) (by rw [hx0_5]; decide) (by decide) ?_
    refine T_iconst (v := (3 : Int32)) (by decide) dX12_actBy_50 ?_
    exact T_iret dX12_actBy_51 rfl
  refine T_ite (fun hx0_6 => ?_) (fun hx0_6 => ?_)
  ·
    refine T_tabIn (off := 51) 52 dX12_actBy_1 (by rw [hx0_6]; decide) (by rw [hx0_6]; decide) (by rw [hx0_6]; decide) (by decide) ?_
    refine T_iconst (v := (4 : Int32)) (by decide) dX12_actBy_52 ?_
    exact T_iret dX12_actBy_53 rfl
  refine T_tabOut 54 dX12_actBy_1 (tab_out (n := 7) (by decide) (lt_s (lt_s (lt_s (lt_s (lt_s (lt_s (lt_s lt_0 (lv_neT hx0_0 (by decide))) (lv_neT hx0_1 (by decide))) (lv_neT hx0_2 (by decide))) (lv_neT hx0_3 (by decide))) (lv_neT hx0_4 (by decide))) (lv_neT hx0_5 (by decide))) (lv_neT hx0_6 (by decide)))) (by decide) ?_
  refine T_iconst (v := (5 : Int32)) (by decide) dX12_actBy_54 ?_
  exact T_iret dX12_actBy_55 rfl
theorem C_X12_actBy {X : Scr}   (x0 : Int32) {M : Mem} {r : Int32} {M' : Mem} (h : X12_actBy  x0 M = some (r, M')) : Ct X md_X12_actBy [.int x0] M (eI r) M' := Ct_of (by decide +kernel) (Nat.le_of_ble_eq_true rfl) (t_X12_actBy  _ M) r M' h
-- X12_year
def X12_year_b36 (i0 : Nat)   (M : Mem) : Option (Int32 × Mem) :=
  some ((-2 : Int32), M)
def X12_year_b129 (i0 : Nat) (k49 : Int32 → Int32 → Int32 → Int32 → Mem → Option (Int32 × Mem)) (x2 : Int32) (x3 : Int32) (x4 : Int32) (x5 : Int32) (M : Mem) : Option (Int32 × Mem) :=
  k49 x2 x3 x4 (x5 + (1 : Int32)) M
def X12_year_b107 (i0 : Nat) (k49 : Int32 → Int32 → Int32 → Int32 → Mem → Option (Int32 × Mem)) (x2 : Int32) (x3 : Int32) (x4 : Int32) (x5 : Int32) (x6 : Int32) (s0 : Int32) (s1 : Int32) (M : Mem) : Option (Int32 × Mem) :=
  gd (!(s0 == 0)) (
    (X12_whyNot i0 x6 (s1 - s1 / s0 * s0) M).bind (fun p1 =>
      if p1.1 = 0 then
        (X12_happen i0 x6 (s1 - s1 / s0 * s0) p1.2).bind (fun p2 =>
          X12_year_b129 i0 k49 x2 x3 x4 x5 p2.2)
      else
        X12_year_b129 i0 k49 x2 x3 x4 x5 p1.2))
def X12_year_b100 (i0 : Nat) (k49 : Int32 → Int32 → Int32 → Int32 → Mem → Option (Int32 × Mem)) (x2 : Int32) (x3 : Int32) (x4 : Int32) (x5 : Int32) (x6 : Int32) (s0 : Int32) (M : Mem) : Option (Int32 × Mem) :=
  X12_year_b107 i0 k49 x2 x3 x4 x5 x6 (8 : Int32) s0 M
def X12_year_b165 (i0 : Nat)  (s0 : Int32) (M : Mem) : Option (Int32 × Mem) :=
  (X12_back i0 s0 M).bind (fun p1 =>
    some (p1.1, p1.2))
def X12_year_b49 (i0 : Nat) (k49 : Int32 → Int32 → Int32 → Int32 → Mem → Option (Int32 × Mem)) (x2 : Int32) (x3 : Int32) (x4 : Int32) (x5 : Int32) (M : Mem) : Option (Int32 × Mem) :=
  if x2 ≤ x5 then
    if x3 = 0 then
      X12_year_b165 i0  (M.1 i0 6) M
    else
      if x3 = (1 : Int32) then
        (X12_ones  (M.1 i0 5) M).bind (fun p1 =>
          X12_year_b165 i0  p1.1 p1.2)
      else
        (X12_wrongMany i0  M).bind (fun p2 =>
          X12_year_b165 i0  p2.1 p2.2)
  else
    gd (!((65537 : Int64) == 0)) (
      iw ((((75 : Int64) * x4.toInt64) + (74 : Int64)) - (((75 : Int64) * x4.toInt64) + (74 : Int64)) / (65537 : Int64) * (65537 : Int64)).toInt32 (fun v3 =>
        gd (!((8 : Int32) == 0)) (
          (X12_actBy  (v3 - v3 / (8 : Int32) * (8 : Int32)) M).bind (fun p4 =>
            gd (!((8 : Int32) == 0)) (
              if p4.1 = (2 : Int32) then
                X12_year_b100 i0 k49 x2 x3 v3 x5 p4.1 (v3 / (8 : Int32)) p4.2
              else
                if p4.1 = (3 : Int32) then
                  X12_year_b100 i0 k49 x2 x3 v3 x5 p4.1 (v3 / (8 : Int32)) p4.2
                else
                  X12_year_b107 i0 k49 x2 x3 v3 x5 p4.1 (10 : Int32) (v3 / (8 : Int32)) p4.2)))))
def X12_year_l49 (i0 : Nat)  : Nat → Int32 → Int32 → Int32 → Int32 → Mem → Option (Int32 × Mem)
  | 0 => fun _ _ _ _ _ => none
  | n + 1 => X12_year_b49 i0 (X12_year_l49 i0  n)
def X12_year (i0 : Nat)  (x1 : Int32) (x2 : Int32) (x3 : Int32) (M : Mem) : Option (Int32 × Mem) :=
  (X12_in  x1.toInt64 (0 : Int64) (9999 : Int64) M).bind (fun p1 =>
    if p1.1 = 0 then
      X12_year_b36 i0   p1.2
    else
      (X12_in  x2.toInt64 (1 : Int64) (99 : Int64) p1.2).bind (fun p2 =>
        if p2.1 = 0 then
          X12_year_b36 i0   p2.2
        else
          (X12_in  x3.toInt64 (0 : Int64) (2 : Int64) p2.2).bind (fun p3 =>
            if p3.1 = 0 then
              X12_year_b36 i0   p3.2
            else
              (X12_keepNow i0  p3.2).bind (fun p4 =>
                X12_year_l49 i0  FU x2 x3 x1 (0 : Int32) p4.2))))
set_option maxHeartbeats 4000000 in
set_option maxRecDepth 100000 in
theorem t_X12_year_b36 {X : Scr} {i0 : Nat} (h0 : KD[i0]? = some (.inl 12))  (M : Mem) : T X eI (X12_year_b36 i0   M) md_X12_year 36 [] [] M := by
  unfold X12_year_b36
  refine T_bipush (v := (-2 : Int32)) (by decide) dX12_year_36 ?_
  exact T_iret dX12_year_38 rfl
set_option maxHeartbeats 4000000 in
set_option maxRecDepth 100000 in
theorem t_X12_year_b129 {X : Scr} {i0 : Nat} (h0 : KD[i0]? = some (.inl 12)) {k49 : Int32 → Int32 → Int32 → Int32 → Mem → Option (Int32 × Mem)} (hk49 : ∀ (x2 : Int32) (x3 : Int32) (x4 : Int32) (x5 : Int32) (M : Mem), T X eI (k49 x2 x3 x4 x5 M) md_X12_year 49 [(0, .ref i0), (2, .int x2), (3, .int x3), (4, .int x4), (5, .int x5)] [] M) (x2 : Int32) (x3 : Int32) (x4 : Int32) (x5 : Int32) (M : Mem) : T X eI (X12_year_b129 i0 k49 x2 x3 x4 x5 M) md_X12_year 129 [(0, .ref i0), (2, .int x2), (3, .int x3), (4, .int x4), (5, .int x5)] [] M := by
  unfold X12_year_b129
  refine T_iinc 4 [(5, .int (x5 + (1 : Int32))), (0, .ref i0), (2, .int x2), (3, .int x3), (4, .int x4)] (v := (1 : Int32)) dX12_year_129 rfl (by decide) (by decide) rfl ?_
  refine T_goto 49 dX12_year_132 (by decide) ?_
  refine T_sub [1, 2, 3, 4, 0] (lv' := [(0, .ref i0), (2, .int x2), (3, .int x3), (4, .int x4), (5, .int (x5 + (1 : Int32)))]) rfl ?_
  exact hk49 _ _ _ _ _
set_option maxHeartbeats 4000000 in
set_option maxRecDepth 100000 in
theorem t_X12_year_b107 {X : Scr} {i0 : Nat} (h0 : KD[i0]? = some (.inl 12)) {k49 : Int32 → Int32 → Int32 → Int32 → Mem → Option (Int32 × Mem)} (hk49 : ∀ (x2 : Int32) (x3 : Int32) (x4 : Int32) (x5 : Int32) (M : Mem), T X eI (k49 x2 x3 x4 x5 M) md_X12_year 49 [(0, .ref i0), (2, .int x2), (3, .int x3), (4, .int x4), (5, .int x5)] [] M) (x2 : Int32) (x3 : Int32) (x4 : Int32) (x5 : Int32) (x6 : Int32) (s0 : Int32) (s1 : Int32) (M : Mem) : T X eI (X12_year_b107 i0 k49 x2 x3 x4 x5 x6 s0 s1 M) md_X12_year 107 [(0, .ref i0), (2, .int x2), (3, .int x3), (4, .int x4), (5, .int x5), (6, .int x6)] [.int s0, .int s1] M := by
  unfold X12_year_b107
  refine T_irem dX12_year_107 ?_
  refine T_istore [(7, .int (s1 - s1 / s0 * s0)), (0, .ref i0), (2, .int x2), (3, .int x3), (4, .int x4), (5, .int x5), (6, .int x6)] dX12_year_108 (by decide) rfl ?_
  refine T_aload_n 1 dX12_year_110 rfl rfl ?_
  refine T_iload 6 dX12_year_111 rfl ?_
  refine T_iload 0 dX12_year_113 rfl ?_
  refine T_callVI md_X12_whyNot [.int x6, .int (s1 - s1 / s0 * s0)] [] dX12_year_115 h0 rfl rfl ok_X12_whyNot tb_888 tb_890 tb_20 (by decide) (Nat.le_of_ble_eq_true rfl) (fun _ _ h9 => C_X12_whyNot h0 _ _ h9) (fun r1 M1 => ?_)
  dsimp only
  refine T_if_ne 129 dX12_year_118 (by decide) ?_ ?_
  ·
    refine T_aload_n 1 dX12_year_121 rfl rfl ?_
    refine T_iload 6 dX12_year_122 rfl ?_
    refine T_iload 0 dX12_year_124 rfl ?_
    refine T_callVU md_X12_happen [.int x6, .int (s1 - s1 / s0 * s0)] [] dX12_year_126 h0 rfl rfl ok_X12_happen tb_906 tb_908 tb_23 (by decide) (Nat.le_of_ble_eq_true rfl) (fun _ _ h9 => C_X12_happen h0 _ _ h9) (fun r2 M2 => ?_)
    dsimp only
    refine T_sub [1, 2, 3, 4, 5] (lv' := [(0, .ref i0), (2, .int x2), (3, .int x3), (4, .int x4), (5, .int x5)]) rfl ?_
    exact t_X12_year_b129 h0 hk49 _ _ _ _ _
  ·
    refine T_sub [1, 2, 3, 4, 5] (lv' := [(0, .ref i0), (2, .int x2), (3, .int x3), (4, .int x4), (5, .int x5)]) rfl ?_
    exact t_X12_year_b129 h0 hk49 _ _ _ _ _
set_option maxHeartbeats 4000000 in
set_option maxRecDepth 100000 in
theorem t_X12_year_b100 {X : Scr} {i0 : Nat} (h0 : KD[i0]? = some (.inl 12)) {k49 : Int32 → Int32 → Int32 → Int32 → Mem → Option (Int32 × Mem)} (hk49 : ∀ (x2 : Int32) (x3 : Int32) (x4 : Int32) (x5 : Int32) (M : Mem), T X eI (k49 x2 x3 x4 x5 M) md_X12_year 49 [(0, .ref i0), (2, .int x2), (3, .int x3), (4, .int x4), (5, .int x5)] [] M) (x2 : Int32) (x3 : Int32) (x4 : Int32) (x5 : Int32) (x6 : Int32) (s0 : Int32) (M : Mem) : T X eI (X12_year_b100 i0 k49 x2 x3 x4 x5 x6 s0 M) md_X12_year 100 [(0, .ref i0), (2, .int x2), (3, .int x3), (4, .int x4), (5, .int x5), (6, .int x6)] [.int s0] M := by
  unfold X12_year_b100
  refine T_bipush (v := (8 : Int32)) (by decide) dX12_year_100 ?_
  refine T_goto 107 dX12_year_102 (by decide) ?_
  exact t_X12_year_b107 h0 hk49 _ _ _ _ _ _ _ _
set_option maxHeartbeats 4000000 in
set_option maxRecDepth 100000 in
theorem t_X12_year_b165 {X : Scr} {i0 : Nat} (h0 : KD[i0]? = some (.inl 12)) (s0 : Int32) (M : Mem) : T X eI (X12_year_b165 i0  s0 M) md_X12_year 165 [(0, .ref i0)] [.int s0] M := by
  unfold X12_year_b165
  refine T_istore [(5, .int s0), (0, .ref i0)] dX12_year_165 (by decide) rfl ?_
  refine T_aload_n 1 dX12_year_167 rfl rfl ?_
  refine T_iload 0 dX12_year_168 rfl ?_
  refine T_callVI md_X12_back [.int s0] [] dX12_year_170 h0 rfl rfl ok_X12_back tb_930 tb_932 tb_29 (by decide) (Nat.le_of_ble_eq_true rfl) (fun _ _ h9 => C_X12_back h0 _ h9) (fun r1 M1 => ?_)
  dsimp only
  exact T_iret dX12_year_173 rfl
set_option maxHeartbeats 4000000 in
set_option maxRecDepth 100000 in
theorem t_X12_year_b49 {X : Scr} {i0 : Nat} (h0 : KD[i0]? = some (.inl 12)) {k49 : Int32 → Int32 → Int32 → Int32 → Mem → Option (Int32 × Mem)} (hk49 : ∀ (x2 : Int32) (x3 : Int32) (x4 : Int32) (x5 : Int32) (M : Mem), T X eI (k49 x2 x3 x4 x5 M) md_X12_year 49 [(0, .ref i0), (2, .int x2), (3, .int x3), (4, .int x4), (5, .int x5)] [] M) (x2 : Int32) (x3 : Int32) (x4 : Int32) (x5 : Int32) (M : Mem) : T X eI (X12_year_b49 i0 k49 x2 x3 x4 x5 M) md_X12_year 49 [(0, .ref i0), (2, .int x2), (3, .int x3), (4, .int x4), (5, .int x5)] [] M := by
  unfold X12_year_b49
  refine T_iload 4 dX12_year_49 rfl ?_
  refine T_iload_n 1 dX12_year_51 rfl rfl ?_
  refine T_icmp_ge 135 dX12_year_52 (by decide) ?_ ?_
  ·
    refine T_iload_n 2 dX12_year_135 rfl rfl ?_
    refine T_if_ne 146 dX12_year_136 (by decide) ?_ ?_
    ·
      refine T_aload_n 0 dX12_year_139 rfl rfl ?_
      refine T_getI 6 FOk_12 h0 (by decide) (by decide) dX12_year_140 tb_719 ?_
      refine T_goto 165 dX12_year_143 (by decide) ?_
      refine T_sub [0] (lv' := [(0, .ref i0)]) rfl ?_
      exact t_X12_year_b165 h0  _ _
    ·
      refine T_iload_n 2 dX12_year_146 rfl rfl ?_
      refine T_iconst (v := (1 : Int32)) (by decide) dX12_year_147 ?_
      refine T_icmp_ne 161 dX12_year_148 (by decide) ?_ ?_
      ·
        refine T_aload_n 0 dX12_year_151 rfl rfl ?_
        refine T_getI 5 FOk_12 h0 (by decide) (by decide) dX12_year_152 tb_718 ?_
        refine T_callSI md_X12_ones [.int (M.1 i0 5)] [] dX12_year_155 rfl ok_X12_ones tb_955 tb_956 (by decide) (Nat.le_of_ble_eq_true rfl) (fun _ _ h9 => C_X12_ones  _ h9) (fun r1 M1 => ?_)
        dsimp only
        refine T_goto 165 dX12_year_158 (by decide) ?_
        refine T_sub [0] (lv' := [(0, .ref i0)]) rfl ?_
        exact t_X12_year_b165 h0  _ _
      ·
        refine T_aload_n 0 dX12_year_161 rfl rfl ?_
        refine T_callVI md_X12_wrongMany [] [] dX12_year_162 h0 rfl rfl ok_X12_wrongMany tb_824 tb_826 tb_13 (by decide) (Nat.le_of_ble_eq_true rfl) (fun _ _ h9 => C_X12_wrongMany h0  h9) (fun r2 M2 => ?_)
        dsimp only
        refine T_sub [0] (lv' := [(0, .ref i0)]) rfl ?_
        exact t_X12_year_b165 h0  _ _
  ·
    refine T_ldc2 (v := (75 : Int64)) dX12_year_55 tb_1065 ?_
    refine T_iload 3 dX12_year_58 rfl ?_
    refine T_i2l dX12_year_60 ?_
    refine T_lmul dX12_year_61 ?_
    refine T_ldc2 (v := (74 : Int64)) dX12_year_62 tb_867 ?_
    refine T_ladd dX12_year_65 ?_
    refine T_ldc2 (v := (65537 : Int64)) dX12_year_66 tb_1066 ?_
    refine T_lrem dX12_year_69 ?_
    refine T_l2i dX12_year_70 ?_
    refine T_iw (fun v3 => ?_)
    try dsimp only
    refine T_istore [(4, .int v3), (0, .ref i0), (2, .int x2), (3, .int x3), (5, .int x5)] dX12_year_71 (by decide) rfl ?_
    refine T_iload 0 dX12_year_73 rfl ?_
    refine T_bipush (v := (8 : Int32)) (by decide) dX12_year_75 ?_
    refine T_irem dX12_year_77 ?_
    refine T_callSI md_X12_actBy [.int (v3 - v3 / (8 : Int32) * (8 : Int32))] [] dX12_year_78 rfl ok_X12_actBy tb_1067 tb_1068 (by decide) (Nat.le_of_ble_eq_true rfl) (fun _ _ h9 => C_X12_actBy  _ h9) (fun r4 M4 => ?_)
    dsimp only
    refine T_istore [(6, .int r4), (4, .int v3), (0, .ref i0), (2, .int x2), (3, .int x3), (5, .int x5)] dX12_year_81 (by decide) rfl ?_
    refine T_iload 1 dX12_year_83 rfl ?_
    refine T_bipush (v := (8 : Int32)) (by decide) dX12_year_85 ?_
    refine T_idiv dX12_year_87 ?_
    refine T_iload 0 dX12_year_88 rfl ?_
    refine T_iconst (v := (2 : Int32)) (by decide) dX12_year_90 ?_
    refine T_icmp_eq 100 dX12_year_91 (by decide) ?_ ?_
    ·
      refine T_sub [2, 3, 4, 1, 5, 0] (lv' := [(0, .ref i0), (2, .int x2), (3, .int x3), (4, .int v3), (5, .int x5), (6, .int r4)]) rfl ?_
      exact t_X12_year_b100 h0 hk49 _ _ _ _ _ _ _
    ·
      refine T_iload 0 dX12_year_94 rfl ?_
      refine T_iconst (v := (3 : Int32)) (by decide) dX12_year_96 ?_
      refine T_icmp_ne 105 dX12_year_97 (by decide) ?_ ?_
      ·
        refine T_sub [2, 3, 4, 1, 5, 0] (lv' := [(0, .ref i0), (2, .int x2), (3, .int x3), (4, .int v3), (5, .int x5), (6, .int r4)]) rfl ?_
        exact t_X12_year_b100 h0 hk49 _ _ _ _ _ _ _
      ·
        refine T_bipush (v := (10 : Int32)) (by decide) dX12_year_105 ?_
        refine T_sub [2, 3, 4, 1, 5, 0] (lv' := [(0, .ref i0), (2, .int x2), (3, .int x3), (4, .int v3), (5, .int x5), (6, .int r4)]) rfl ?_
        exact t_X12_year_b107 h0 hk49 _ _ _ _ _ _ _ _
theorem t_X12_year_l49 {X : Scr} {i0 : Nat} (h0 : KD[i0]? = some (.inl 12)) (n : Nat) : ∀ (x2 : Int32) (x3 : Int32) (x4 : Int32) (x5 : Int32) (M : Mem), T X eI (X12_year_l49 i0  n x2 x3 x4 x5 M) md_X12_year 49 [(0, .ref i0), (2, .int x2), (3, .int x3), (4, .int x4), (5, .int x5)] [] M := by
  induction n with
  | zero => intro x2 x3 x4 x5 M; exact T_none
  | succ n ih => intro x2 x3 x4 x5 M; exact t_X12_year_b49 h0 ih x2 x3 x4 x5 M
set_option maxHeartbeats 4000000 in
set_option maxRecDepth 100000 in
theorem t_X12_year {X : Scr} {i0 : Nat} (h0 : KD[i0]? = some (.inl 12)) (x1 : Int32) (x2 : Int32) (x3 : Int32) (M : Mem) : T X eI (X12_year i0  x1 x2 x3 M) md_X12_year 0 [(0, .ref i0), (1, .int x1), (2, .int x2), (3, .int x3)] [] M := by
  unfold X12_year
  refine T_iload_n 1 dX12_year_0 rfl rfl ?_
  refine T_i2l dX12_year_1 ?_
  refine T_lconst (v := (0 : Int64)) (by decide) dX12_year_2 ?_
  refine T_ldc2 (v := (9999 : Int64)) dX12_year_3 tb_1064 ?_
  refine T_callSI md_X12_in [.long x1.toInt64, .long (0 : Int64), .long (9999 : Int64)] [] dX12_year_6 rfl ok_X12_in tb_816 tb_817 (by decide) (Nat.le_of_ble_eq_true rfl) (fun _ _ h9 => C_X12_in  _ _ _ h9) (fun r1 M1 => ?_)
  dsimp only
  refine T_if_eq 36 dX12_year_9 (by decide) ?_ ?_
  ·
    refine T_sub [] (lv' := []) rfl ?_
    exact t_X12_year_b36 h0   _
  ·
    refine T_iload_n 2 dX12_year_12 rfl rfl ?_
    refine T_i2l dX12_year_13 ?_
    refine T_lconst (v := (1 : Int64)) (by decide) dX12_year_14 ?_
    refine T_ldc2 (v := (99 : Int64)) dX12_year_15 tb_832 ?_
    refine T_callSI md_X12_in [.long x2.toInt64, .long (1 : Int64), .long (99 : Int64)] [] dX12_year_18 rfl ok_X12_in tb_816 tb_817 (by decide) (Nat.le_of_ble_eq_true rfl) (fun _ _ h9 => C_X12_in  _ _ _ h9) (fun r2 M2 => ?_)
    dsimp only
    refine T_if_eq 36 dX12_year_21 (by decide) ?_ ?_
    ·
      refine T_sub [] (lv' := []) rfl ?_
      exact t_X12_year_b36 h0   _
    ·
      refine T_iload_n 3 dX12_year_24 rfl rfl ?_
      refine T_i2l dX12_year_25 ?_
      refine T_lconst (v := (0 : Int64)) (by decide) dX12_year_26 ?_
      refine T_ldc2 (v := (2 : Int64)) dX12_year_27 tb_874 ?_
      refine T_callSI md_X12_in [.long x3.toInt64, .long (0 : Int64), .long (2 : Int64)] [] dX12_year_30 rfl ok_X12_in tb_816 tb_817 (by decide) (Nat.le_of_ble_eq_true rfl) (fun _ _ h9 => C_X12_in  _ _ _ h9) (fun r3 M3 => ?_)
      dsimp only
      refine T_if_ne 39 dX12_year_33 (by decide) ?_ ?_
      ·
        refine T_sub [] (lv' := []) rfl ?_
        exact t_X12_year_b36 h0   _
      ·
        refine T_aload_n 0 dX12_year_39 rfl rfl ?_
        refine T_callVU md_X12_keepNow [] [] dX12_year_40 h0 rfl rfl ok_X12_keepNow tb_879 tb_881 tb_18 (by decide) (Nat.le_of_ble_eq_true rfl) (fun _ _ h9 => C_X12_keepNow h0  h9) (fun r4 M4 => ?_)
        dsimp only
        refine T_iload_n 1 dX12_year_43 rfl rfl ?_
        refine T_istore [(4, .int x1), (0, .ref i0), (1, .int x1), (2, .int x2), (3, .int x3)] dX12_year_44 (by decide) rfl ?_
        refine T_iconst (v := (0 : Int32)) (by decide) dX12_year_46 ?_
        refine T_istore [(5, .int (0 : Int32)), (4, .int x1), (0, .ref i0), (1, .int x1), (2, .int x2), (3, .int x3)] dX12_year_47 (by decide) rfl ?_
        refine T_sub [2, 4, 5, 1, 0] (lv' := [(0, .ref i0), (2, .int x2), (3, .int x3), (4, .int x1), (5, .int (0 : Int32))]) rfl ?_
        exact t_X12_year_l49 h0  _ _ _ _ _ _
theorem C_X12_year {X : Scr} {i0 : Nat} (h0 : KD[i0]? = some (.inl 12)) (x1 : Int32) (x2 : Int32) (x3 : Int32) {M : Mem} {r : Int32} {M' : Mem} (h : X12_year i0 x1 x2 x3 M = some (r, M')) : Ct X md_X12_year [.ref i0, .int x1, .int x2, .int x3] M (eI r) M' := Ct_of (by decide +kernel) (Nat.le_of_ble_eq_true rfl) (t_X12_year h0 _ _ _ M) r M' h
-- X12_pass
def X12_pass_b20 (i0 : Nat)  (s0 : Int32) (M : Mem) : Option (Int32 × Mem) :=
  gd (ib (M.1 i0 29) 120) (
    some (s0, (mI (mI M (rf i0 27) (M.1 i0 29).toNatClampNeg s0) i0 29 (((mI M (rf i0 27) (M.1 i0 29).toNatClampNeg s0).1 i0 29) + (1 : Int32)))))
def X12_pass (i0 : Nat)  (x1 : Int32) (M : Mem) : Option (Int32 × Mem) :=
  if (M.1 i0 30) = 0 then
    gd (ib (M.1 i0 29) 120) (
      X12_pass_b20 i0  (M.1 (rf i0 27) (M.1 i0 29).toNatClampNeg) M)
  else
    X12_pass_b20 i0  x1 M
set_option maxHeartbeats 4000000 in
set_option maxRecDepth 100000 in
theorem t_X12_pass_b20 {X : Scr} {i0 : Nat} (h0 : KD[i0]? = some (.inl 12)) (s0 : Int32) (M : Mem) : T X eI (X12_pass_b20 i0  s0 M) md_X12_pass 20 [(0, .ref i0)] [.int s0] M := by
  unfold X12_pass_b20
  refine T_istore_n [(2, .int s0), (0, .ref i0)] dX12_pass_20 rfl (by decide) rfl ?_
  refine T_aload_n 1 dX12_pass_21 rfl rfl ?_
  refine T_getR 27 FOk_12 h0 (by decide) (by decide) dX12_pass_22 tb_740 ?_
  refine T_aload_n 1 dX12_pass_25 rfl rfl ?_
  refine T_getI 29 FOk_12 h0 (by decide) (by decide) dX12_pass_26 tb_742 ?_
  refine T_iload_n 0 dX12_pass_29 rfl rfl ?_
  refine T_iast (kf_12_27 h0) dX12_pass_30 ?_
  refine T_aload_n 1 dX12_pass_31 rfl rfl ?_
  refine T_dup rfl dX12_pass_32 ?_
  refine T_getI 29 FOk_12 h0 (by decide) (by decide) dX12_pass_33 tb_742 ?_
  refine T_iconst (v := (1 : Int32)) (by decide) dX12_pass_36 ?_
  refine T_iadd dX12_pass_37 ?_
  refine T_putI (ty := .int) 29 FOk_12 h0 (by decide) (by decide) rfl (by decide +kernel) rfl rfl dX12_pass_38 tb_742 ?_
  refine T_iload_n 0 dX12_pass_41 rfl rfl ?_
  exact T_iret dX12_pass_42 rfl
set_option maxHeartbeats 4000000 in
set_option maxRecDepth 100000 in
theorem t_X12_pass {X : Scr} {i0 : Nat} (h0 : KD[i0]? = some (.inl 12)) (x1 : Int32) (M : Mem) : T X eI (X12_pass i0  x1 M) md_X12_pass 0 [(0, .ref i0), (1, .int x1)] [] M := by
  unfold X12_pass
  refine T_aload_n 0 dX12_pass_0 rfl rfl ?_
  refine T_getI 30 FOk_12 h0 (by decide) (by decide) dX12_pass_1 tb_743 ?_
  refine T_if_eq 11 dX12_pass_4 (by decide) ?_ ?_
  ·
    refine T_aload_n 0 dX12_pass_11 rfl rfl ?_
    refine T_getR 27 FOk_12 h0 (by decide) (by decide) dX12_pass_12 tb_740 ?_
    refine T_aload_n 0 dX12_pass_15 rfl rfl ?_
    refine T_getI 29 FOk_12 h0 (by decide) (by decide) dX12_pass_16 tb_742 ?_
    refine T_iald (kf_12_27 h0) dX12_pass_19 ?_
    refine T_sub [0] (lv' := [(0, .ref i0)]) rfl ?_
    exact t_X12_pass_b20 h0  _ _
  ·
    refine T_iload_n 1 dX12_pass_7 rfl rfl ?_
    refine T_goto 20 dX12_pass_8 (by decide) ?_
    refine T_sub [0] (lv' := [(0, .ref i0)]) rfl ?_
    exact t_X12_pass_b20 h0  _ _
theorem C_X12_pass {X : Scr} {i0 : Nat} (h0 : KD[i0]? = some (.inl 12)) (x1 : Int32) {M : Mem} {r : Int32} {M' : Mem} (h : X12_pass i0 x1 M = some (r, M')) : Ct X md_X12_pass [.ref i0, .int x1] M (eI r) M' := Ct_of (by decide +kernel) (Nat.le_of_ble_eq_true rfl) (t_X12_pass h0 _ M) r M' h
-- X12_passRow
def X12_passRow_b2 (i0 : Nat) (i1 n1 : Nat) (k2 : Int32 → Int32 → Mem → Option (Unit × Mem)) (x2 : Int32) (x3 : Int32) (M : Mem) : Option (Unit × Mem) :=
  if x2 ≤ x3 then
    some ((), M)
  else
    gd (ib x3 n1) (
      (X12_pass i0 (M.1 i1 x3.toNatClampNeg) M).bind (fun p1 =>
        gd (ib x3 n1) (
          k2 x2 (x3 + (1 : Int32)) (mI p1.2 i1 x3.toNatClampNeg p1.1))))
def X12_passRow_l2 (i0 : Nat) (i1 n1 : Nat)  : Nat → Int32 → Int32 → Mem → Option (Unit × Mem)
  | 0 => fun _ _ _ => none
  | n + 1 => X12_passRow_b2 i0 i1 n1 (X12_passRow_l2 i0 i1 n1  n)
def X12_passRow (i0 : Nat) (i1 n1 : Nat)  (x2 : Int32) (M : Mem) : Option (Unit × Mem) :=
  X12_passRow_l2 i0 i1 n1  FU x2 (0 : Int32) M
set_option maxHeartbeats 4000000 in
set_option maxRecDepth 100000 in
theorem t_X12_passRow_b2 {X : Scr} {i0 : Nat} {i1 n1 : Nat} (h0 : KD[i0]? = some (.inl 12)) (h1 : KD[i1]? = some (.inr (0, n1))) {k2 : Int32 → Int32 → Mem → Option (Unit × Mem)} (hk2 : ∀ (x2 : Int32) (x3 : Int32) (M : Mem), T X eV (k2 x2 x3 M) md_X12_passRow 2 [(0, .ref i0), (1, .ref i1), (2, .int x2), (3, .int x3)] [] M) (x2 : Int32) (x3 : Int32) (M : Mem) : T X eV (X12_passRow_b2 i0 i1 n1 k2 x2 x3 M) md_X12_passRow 2 [(0, .ref i0), (1, .ref i1), (2, .int x2), (3, .int x3)] [] M := by
  unfold X12_passRow_b2
  refine T_iload_n 3 dX12_passRow_2 rfl rfl ?_
  refine T_iload_n 2 dX12_passRow_3 rfl rfl ?_
  refine T_icmp_ge 23 dX12_passRow_4 (by decide) ?_ ?_
  ·
    exact T_vret dX12_passRow_23 rfl
  ·
    refine T_aload_n 1 dX12_passRow_7 rfl rfl ?_
    refine T_iload_n 3 dX12_passRow_8 rfl rfl ?_
    refine T_aload_n 0 dX12_passRow_9 rfl rfl ?_
    refine T_aload_n 1 dX12_passRow_10 rfl rfl ?_
    refine T_iload_n 3 dX12_passRow_11 rfl rfl ?_
    refine T_iald h1 dX12_passRow_12 ?_
    refine T_callVI md_X12_pass [.int (M.1 i1 x3.toNatClampNeg)] [.int x3, .ref i1] dX12_passRow_13 h0 rfl rfl ok_X12_pass tb_1078 tb_1080 tb_41 (by decide) (Nat.le_of_ble_eq_true rfl) (fun _ _ h9 => C_X12_pass h0 _ h9) (fun r1 M1 => ?_)
    dsimp only
    refine T_iast h1 dX12_passRow_16 ?_
    refine T_iinc 3 [(3, .int (x3 + (1 : Int32))), (0, .ref i0), (1, .ref i1), (2, .int x2)] (v := (1 : Int32)) dX12_passRow_17 rfl (by decide) (by decide) rfl ?_
    refine T_goto 2 dX12_passRow_20 (by decide) ?_
    refine T_sub [1, 2, 3, 0] (lv' := [(0, .ref i0), (1, .ref i1), (2, .int x2), (3, .int (x3 + (1 : Int32)))]) rfl ?_
    exact hk2 _ _ _
theorem t_X12_passRow_l2 {X : Scr} {i0 : Nat} {i1 n1 : Nat} (h0 : KD[i0]? = some (.inl 12)) (h1 : KD[i1]? = some (.inr (0, n1))) (n : Nat) : ∀ (x2 : Int32) (x3 : Int32) (M : Mem), T X eV (X12_passRow_l2 i0 i1 n1  n x2 x3 M) md_X12_passRow 2 [(0, .ref i0), (1, .ref i1), (2, .int x2), (3, .int x3)] [] M := by
  induction n with
  | zero => intro x2 x3 M; exact T_none
  | succ n ih => intro x2 x3 M; exact t_X12_passRow_b2 h0 h1 ih x2 x3 M
set_option maxHeartbeats 4000000 in
set_option maxRecDepth 100000 in
theorem t_X12_passRow {X : Scr} {i0 : Nat} {i1 n1 : Nat} (h0 : KD[i0]? = some (.inl 12)) (h1 : KD[i1]? = some (.inr (0, n1))) (x2 : Int32) (M : Mem) : T X eV (X12_passRow i0 i1 n1  x2 M) md_X12_passRow 0 [(0, .ref i0), (1, .ref i1), (2, .int x2)] [] M := by
  unfold X12_passRow
  refine T_iconst (v := (0 : Int32)) (by decide) dX12_passRow_0 ?_
  refine T_istore_n [(3, .int (0 : Int32)), (0, .ref i0), (1, .ref i1), (2, .int x2)] dX12_passRow_1 rfl (by decide) rfl ?_
  refine T_sub [1, 2, 3, 0] (lv' := [(0, .ref i0), (1, .ref i1), (2, .int x2), (3, .int (0 : Int32))]) rfl ?_
  exact t_X12_passRow_l2 h0 h1  _ _ _ _
theorem C_X12_passRow {X : Scr} {i0 : Nat} {i1 n1 : Nat} (h0 : KD[i0]? = some (.inl 12)) (h1 : KD[i1]? = some (.inr (0, n1))) (x2 : Int32) {M : Mem} {r : Unit} {M' : Mem} (h : X12_passRow i0 i1 n1 x2 M = some (r, M')) : Ct X md_X12_passRow [.ref i0, .ref i1, .int x2] M (eV r) M' := Ct_of (by decide +kernel) (Nat.le_of_ble_eq_true rfl) (t_X12_passRow h0 h1 _ M) r M' h
