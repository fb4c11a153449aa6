-- X12_round
def X12_round_b89 (i0 : Nat) (k28 : Int32 → Int32 → Int32 → Int32 → Mem → Option (Int32 × Mem)) (x1 : Int32) (x2 : Int32) (x4 : Int32) (s0 : Int32) (M : Mem) : Option (Int32 × Mem) :=
  k28 x1 x2 s0 (x4 + (1 : Int32)) M
def X12_round_b88 (i0 : Nat) (k28 : Int32 → Int32 → Int32 → Int32 → Mem → Option (Int32 × Mem)) (x1 : Int32) (x2 : Int32) (x3 : Int32) (x4 : Int32) (M : Mem) : Option (Int32 × Mem) :=
  X12_round_b89 i0 k28 x1 x2 x4 x3 M
def X12_round_b57 (i0 : Nat) (k28 : Int32 → Int32 → Int32 → Int32 → Mem → Option (Int32 × Mem)) (x1 : Int32) (x2 : Int32) (x3 : Int32) (x4 : Int32) (s0 : Int32) (M : Mem) : Option (Int32 × Mem) :=
  if s0 = 0 then
    X12_round_b88 i0 k28 x1 x2 x3 x4 M
  else
    (X12_minutesBy i0 x4 x1 M).bind (fun p1 =>
      if (p1.2.1 i0 7) < ((M.1 i0 6) + p1.1) then
        X12_round_b88 i0 k28 x1 x2 x3 x4 p1.2
      else
        X12_round_b89 i0 k28 x1 x2 x4 x4 p1.2)
def X12_round_b52 (i0 : Nat) (k28 : Int32 → Int32 → Int32 → Int32 → Mem → Option (Int32 × Mem)) (x1 : Int32) (x2 : Int32) (x3 : Int32) (x4 : Int32) (M : Mem) : Option (Int32 × Mem) :=
  X12_round_b57 i0 k28 x1 x2 x3 x4 (1 : Int32) M
def X12_round_b113 (i0 : Nat)  (s0 : Int32) (M : Mem) : Option (Int32 × Mem) :=
  some (s0, M)
def X12_round_b105 (i0 : Nat)  (x3 : Int32) (M : Mem) : Option (Int32 × Mem) :=
  X12_round_b113 i0  x3 M
def X12_round_b28 (i0 : Nat) (k28 : Int32 → Int32 → Int32 → Int32 → Mem → Option (Int32 × Mem)) (x1 : Int32) (x2 : Int32) (x3 : Int32) (x4 : Int32) (M : Mem) : Option (Int32 × Mem) :=
  if (1024 : Int32) ≤ x4 then
    if x3 < 0 then
      X12_round_b105 i0  x3 M
    else
      if x2 = (1 : Int32) then
        X12_round_b105 i0  x3 M
      else
        (X12_ones  x3 M).bind (fun p1 =>
          X12_round_b113 i0  p1.1 p1.2)
  else
    if x3 < 0 then
      X12_round_b52 i0 k28 x1 x2 x3 x4 M
    else
      (X12_ones  x4 M).bind (fun p2 =>
        (X12_ones  x3 p2.2).bind (fun p3 =>
          if p2.1 ≤ p3.1 then
            X12_round_b57 i0 k28 x1 x2 x3 x4 (0 : Int32) p3.2
          else
            X12_round_b52 i0 k28 x1 x2 x3 x4 p3.2))
def X12_round_l28 (i0 : Nat)  : Nat → Int32 → Int32 → Int32 → Int32 → Mem → Option (Int32 × Mem)
  | 0 => fun _ _ _ _ _ => none
  | n + 1 => X12_round_b28 i0 (X12_round_l28 i0  n)
def X12_round (i0 : Nat)  (x1 : Int32) (x2 : Int32) (M : Mem) : Option (Int32 × Mem) :=
  (X12_isCabin  x1 M).bind (fun p1 =>
    if p1.1 = 0 then
      some ((-1 : Int32), p1.2)
    else
      (X12_in  x2.toInt64 (0 : Int64) (1 : Int64) p1.2).bind (fun p2 =>
        if p2.1 = 0 then
          some ((-2 : Int32), p2.2)
        else
          X12_round_l28 i0  FU x1 x2 (-6 : Int32) (0 : Int32) p2.2))
set_option maxHeartbeats 4000000 in
set_option maxRecDepth 100000 in
theorem t_X12_round_b89 {X : Scr} {i0 : Nat} (h0 : KD[i0]? = some (.inl 12)) {k28 : Int32 → Int32 → Int32 → Int32 → Mem → Option (Int32 × Mem)} (hk28 : ∀ (x1 : Int32) (x2 : Int32) (x3 : Int32) (x4 : Int32) (M : Mem), T X eI (k28 x1 x2 x3 x4 M) md_X12_round 28 [(0, .ref i0), (1, .int x1), (2, .int x2), (3, .int x3), (4, .int x4)] [] M) (x1 : Int32) (x2 : Int32) (x4 : Int32) (s0 : Int32) (M : Mem) : T X eI (X12_round_b89 i0 k28 x1 x2 x4 s0 M) md_X12_round 89 [(0, .ref i0), (1, .int x1), (2, .int x2), (4, .int x4)] [.int s0] M := by
  unfold X12_round_b89
  refine T_istore_n [(3, .int s0), (0, .ref i0), (1, .int x1), (2, .int x2), (4, .int x4)] dX12_round_89 rfl (by decide) rfl ?_
  refine T_iinc 4 [(4, .int (x4 + (1 : Int32))), (3, .int s0), (0, .ref i0), (1, .int x1), (2, .int x2)] (v := (1 : Int32)) dX12_round_90 rfl (by decide) (by decide) rfl ?_
  refine T_goto 28 dX12_round_93 (by decide) ?_
  refine T_sub [2, 3, 4, 1, 0] (lv' := [(0, .ref i0), (1, .int x1), (2, .int x2), (3, .int s0), (4, .int (x4 + (1 : Int32)))]) rfl ?_
  exact hk28 _ _ _ _ _
set_option maxHeartbeats 4000000 in
set_option maxRecDepth 100000 in
theorem t_X12_round_b88 {X : Scr} {i0 : Nat} (h0 : KD[i0]? = some (.inl 12)) {k28 : Int32 → Int32 → Int32 → Int32 → Mem → Option (Int32 × Mem)} (hk28 : ∀ (x1 : Int32) (x2 : Int32) (x3 : Int32) (x4 : Int32) (M : Mem), T X eI (k28 x1 x2 x3 x4 M) md_X12_round 28 [(0, .ref i0), (1, .int x1), (2, .int x2), (3, .int x3), (4, .int x4)] [] M) (x1 : Int32) (x2 : Int32) (x3 : Int32) (x4 : Int32) (M : Mem) : T X eI (X12_round_b88 i0 k28 x1 x2 x3 x4 M) md_X12_round 88 [(0, .ref i0), (1, .int x1), (2, .int x2), (3, .int x3), (4, .int x4)] [] M := by
  unfold X12_round_b88
  refine T_iload_n 3 dX12_round_88 rfl rfl ?_
  refine T_sub [0, 1, 2, 4] (lv' := [(0, .ref i0), (1, .int x1), (2, .int x2), (4, .int x4)]) rfl ?_
  exact t_X12_round_b89 h0 hk28 _ _ _ _ _
set_option maxHeartbeats 4000000 in
set_option maxRecDepth 100000 in
theorem t_X12_round_b57 {X : Scr} {i0 : Nat} (h0 : KD[i0]? = some (.inl 12)) {k28 : Int32 → Int32 → Int32 → Int32 → Mem → Option (Int32 × Mem)} (hk28 : ∀ (x1 : Int32) (x2 : Int32) (x3 : Int32) (x4 : Int32) (M : Mem), T X eI (k28 x1 x2 x3 x4 M) md_X12_round 28 [(0, .ref i0), (1, .int x1), (2, .int x2), (3, .int x3), (4, .int x4)] [] M) (x1 : Int32) (x2 : Int32) (x3 : Int32) (x4 : Int32) (s0 : Int32) (M : Mem) : T X eI (X12_round_b57 i0 k28 x1 x2 x3 x4 s0 M) md_X12_round 57 [(0, .ref i0), (1, .int x1), (2, .int x2), (3, .int x3), (4, .int x4)] [.int s0] M := by
  unfold X12_round_b57
  refine T_istore [(5, .int s0), (0, .ref i0), (1, .int x1), (2, .int x2), (3, .int x3), (4, .int x4)] dX12_round_57 (by decide) rfl ?_
  refine T_iload 0 dX12_round_59 rfl ?_
  refine T_if_eq 88 dX12_round_61 (by decide) ?_ ?_
  ·
    refine T_sub [1, 2, 3, 4, 5] (lv' := [(0, .ref i0), (1, .int x1), (2, .int x2), (3, .int x3), (4, .int x4)]) rfl ?_
    exact t_X12_round_b88 h0 hk28 _ _ _ _ _
  ·
    refine T_aload_n 1 dX12_round_64 rfl rfl ?_
    refine T_getI 6 FOk_12 h0 (by decide) (by decide) dX12_round_65 tb_719 ?_
    refine T_aload_n 1 dX12_round_68 rfl rfl ?_
    refine T_iload 5 dX12_round_69 rfl ?_
    refine T_iload_n 2 dX12_round_71 rfl rfl ?_
    refine T_callVI md_X12_minutesBy [.int x4, .int x1] [.int (M.1 i0 6)] dX12_round_72 h0 rfl rfl ok_X12_minutesBy tb_958 tb_960 tb_30 (by decide) (Nat.le_of_ble_eq_true rfl) (fun _ _ h9 => C_X12_minutesBy h0 _ _ h9) (fun r1 M1 => ?_)
    dsimp only
    refine T_iadd dX12_round_75 ?_
    refine T_aload_n 1 dX12_round_76 rfl rfl ?_
    refine T_getI 7 FOk_12 h0 (by decide) (by decide) dX12_round_77 tb_720 ?_
    refine T_icmp_gt 88 dX12_round_80 (by decide) ?_ ?_
    ·
      refine T_sub [1, 2, 3, 4, 5] (lv' := [(0, .ref i0), (1, .int x1), (2, .int x2), (3, .int x3), (4, .int x4)]) rfl ?_
      exact t_X12_round_b88 h0 hk28 _ _ _ _ _
    ·
      refine T_iload 5 dX12_round_83 rfl ?_
      refine T_goto 89 dX12_round_85 (by decide) ?_
      refine T_sub [1, 2, 3, 5] (lv' := [(0, .ref i0), (1, .int x1), (2, .int x2), (4, .int x4)]) rfl ?_
      exact t_X12_round_b89 h0 hk28 _ _ _ _ _
set_option maxHeartbeats 4000000 in
set_option maxRecDepth 100000 in
theorem t_X12_round_b52 {X : Scr} {i0 : Nat} (h0 : KD[i0]? = some (.inl 12)) {k28 : Int32 → Int32 → Int32 → Int32 → Mem → Option (Int32 × Mem)} (hk28 : ∀ (x1 : Int32) (x2 : Int32) (x3 : Int32) (x4 : Int32) (M : Mem), T X eI (k28 x1 x2 x3 x4 M) md_X12_round 28 [(0, .ref i0), (1, .int x1), (2, .int x2), (3, .int x3), (4, .int x4)] [] M) (x1 : Int32) (x2 : Int32) (x3 : Int32) (x4 : Int32) (M : Mem) : T X eI (X12_round_b52 i0 k28 x1 x2 x3 x4 M) md_X12_round 52 [(0, .ref i0), (1, .int x1), (2, .int x2), (3, .int x3), (4, .int x4)] [] M := by
  unfold X12_round_b52
  refine T_iconst (v := (1 : Int32)) (by decide) dX12_round_52 ?_
  refine T_goto 57 dX12_round_53 (by decide) ?_
  exact t_X12_round_b57 h0 hk28 _ _ _ _ _ _
set_option maxHeartbeats 4000000 in
set_option maxRecDepth 100000 in
theorem t_X12_round_b113 {X : Scr} {i0 : Nat} (h0 : KD[i0]? = some (.inl 12)) (s0 : Int32) (M : Mem) : T X eI (X12_round_b113 i0  s0 M) md_X12_round 113 [] [.int s0] M := by
  unfold X12_round_b113
  exact T_iret dX12_round_113 rfl
set_option maxHeartbeats 4000000 in
set_option maxRecDepth 100000 in
theorem t_X12_round_b105 {X : Scr} {i0 : Nat} (h0 : KD[i0]? = some (.inl 12)) (x3 : Int32) (M : Mem) : T X eI (X12_round_b105 i0  x3 M) md_X12_round 105 [(3, .int x3)] [] M := by
  unfold X12_round_b105
  refine T_iload_n 0 dX12_round_105 rfl rfl ?_
  refine T_goto 113 dX12_round_106 (by decide) ?_
  refine T_sub [] (lv' := []) rfl ?_
  exact t_X12_round_b113 h0  _ _
set_option maxHeartbeats 4000000 in
set_option maxRecDepth 100000 in
theorem t_X12_round_b28 {X : Scr} {i0 : Nat} (h0 : KD[i0]? = some (.inl 12)) {k28 : Int32 → Int32 → Int32 → Int32 → Mem → Option (Int32 × Mem)} (hk28 : ∀ (x1 : Int32) (x2 : Int32) (x3 : Int32) (x4 : Int32) (M : Mem), T X eI (k28 x1 x2 x3 x4 M) md_X12_round 28 [(0, .ref i0), (1, .int x1), (2, .int x2), (3, .int x3), (4, .int x4)] [] M) (x1 : Int32) (x2 : Int32) (x3 : Int32) (x4 : Int32) (M : Mem) : T X eI (X12_round_b28 i0 k28 x1 x2 x3 x4 M) md_X12_round 28 [(0, .ref i0), (1, .int x1), (2, .int x2), (3, .int x3), (4, .int x4)] [] M := by
  unfold X12_round_b28
  refine T_iload 4 dX12_round_28 rfl ?_
  refine T_sipush (v := (1024 : Int32)) (by decide) dX12_round_30 ?_
  refine T_icmp_ge 96 dX12_round_33 (by decide) ?_ ?_
  ·
    refine T_iload_n 3 dX12_round_96 rfl rfl ?_
    refine T_if_lt 105 dX12_round_97 (by decide) ?_ ?_
    ·
      refine T_sub [3] (lv' := [(3, .int x3)]) rfl ?_
      exact t_X12_round_b105 h0  _ _
    ·
      refine T_iload_n 2 dX12_round_100 rfl rfl ?_
      refine T_iconst (v := (1 : Int32)) (by decide) dX12_round_101 ?_
      refine T_icmp_ne 109 dX12_round_102 (by decide) ?_ ?_
      ·
        refine T_sub [3] (lv' := [(3, .int x3)]) rfl ?_
        exact t_X12_round_b105 h0  _ _
      ·
        refine T_iload_n 3 dX12_round_109 rfl rfl ?_
        refine T_callSI md_X12_ones [.int x3] [] dX12_round_110 rfl ok_X12_ones tb_955 tb_956 (by decide) (Nat.le_of_ble_eq_true rfl) (fun _ _ h9 => C_X12_ones  _ h9) (fun r1 M1 => ?_)
        dsimp only
        refine T_sub [] (lv' := []) rfl ?_
        exact t_X12_round_b113 h0  _ _
  ·
    refine T_iload_n 3 dX12_round_36 rfl rfl ?_
    refine T_if_lt 52 dX12_round_37 (by decide) ?_ ?_
    ·
      exact t_X12_round_b52 h0 hk28 _ _ _ _ _
    ·
      refine T_iload 4 dX12_round_40 rfl ?_
      refine T_callSI md_X12_ones [.int x4] [] dX12_round_42 rfl ok_X12_ones tb_955 tb_956 (by decide) (Nat.le_of_ble_eq_true rfl) (fun _ _ h9 => C_X12_ones  _ h9) (fun r2 M2 => ?_)
      dsimp only
      refine T_iload_n 3 dX12_round_45 rfl rfl ?_
      refine T_callSI md_X12_ones [.int x3] [.int r2] dX12_round_46 rfl ok_X12_ones tb_955 tb_956 (by decide) (Nat.le_of_ble_eq_true rfl) (fun _ _ h9 => C_X12_ones  _ h9) (fun r3 M3 => ?_)
      dsimp only
      refine T_icmp_le 56 dX12_round_49 (by decide) ?_ ?_
      ·
        refine T_iconst (v := (0 : Int32)) (by decide) dX12_round_56 ?_
        exact t_X12_round_b57 h0 hk28 _ _ _ _ _ _
      ·
        exact t_X12_round_b52 h0 hk28 _ _ _ _ _
theorem t_X12_round_l28 {X : Scr} {i0 : Nat} (h0 : KD[i0]? = some (.inl 12)) (n : Nat) : ∀ (x1 : Int32) (x2 : Int32) (x3 : Int32) (x4 : Int32) (M : Mem), T X eI (X12_round_l28 i0  n x1 x2 x3 x4 M) md_X12_round 28 [(0, .ref i0), (1, .int x1), (2, .int x2), (3, .int x3), (4, .int x4)] [] M := by
  induction n with
  | zero => intro x1 x2 x3 x4 M; exact T_none
  | succ n ih => intro x1 x2 x3 x4 M; exact t_X12_round_b28 h0 ih x1 x2 x3 x4 M
set_option maxHeartbeats 4000000 in
set_option maxRecDepth 100000 in
theorem t_X12_round {X : Scr} {i0 : Nat} (h0 : KD[i0]? = some (.inl 12)) (x1 : Int32) (x2 : Int32) (M : Mem) : T X eI (X12_round i0  x1 x2 M) md_X12_round 0 [(0, .ref i0), (1, .int x1), (2, .int x2)] [] M := by
  unfold X12_round
  refine T_iload_n 1 dX12_round_0 rfl rfl ?_
  refine T_callSI md_X12_isCabin [.int x1] [] dX12_round_1 rfl ok_X12_isCabin tb_812 tb_813 (by decide) (Nat.le_of_ble_eq_true rfl) (fun _ _ h9 => C_X12_isCabin  _ h9) (fun r1 M1 => ?_)
  dsimp only
  refine T_if_ne 9 dX12_round_4 (by decide) ?_ ?_
  ·
    refine T_iconst (v := (-1 : Int32)) (by decide) dX12_round_7 ?_
    exact T_iret dX12_round_8 rfl
  ·
    refine T_iload_n 2 dX12_round_9 rfl rfl ?_
    refine T_i2l dX12_round_10 ?_
    refine T_lconst (v := (0 : Int64)) (by decide) dX12_round_11 ?_
    refine T_lconst (v := (1 : Int64)) (by decide) dX12_round_12 ?_
    refine T_callSI md_X12_in [.long x2.toInt64, .long (0 : Int64), .long (1 : Int64)] [] dX12_round_13 rfl ok_X12_in tb_816 tb_817 (by decide) (Nat.le_of_ble_eq_true rfl) (fun _ _ h9 => C_X12_in  _ _ _ h9) (fun r2 M2 => ?_)
    dsimp only
    refine T_if_ne 22 dX12_round_16 (by decide) ?_ ?_
    ·
      refine T_bipush (v := (-2 : Int32)) (by decide) dX12_round_19 ?_
      exact T_iret dX12_round_21 rfl
    ·
      refine T_bipush (v := (-6 : Int32)) (by decide) dX12_round_22 ?_
      refine T_istore_n [(3, .int (-6 : Int32)), (0, .ref i0), (1, .int x1), (2, .int x2)] dX12_round_24 rfl (by decide) rfl ?_
      refine T_iconst (v := (0 : Int32)) (by decide) dX12_round_25 ?_
      refine T_istore [(4, .int (0 : Int32)), (3, .int (-6 : Int32)), (0, .ref i0), (1, .int x1), (2, .int x2)] dX12_round_26 (by decide) rfl ?_
      refine T_sub [2, 3, 4, 1, 0] (lv' := [(0, .ref i0), (1, .int x1), (2, .int x2), (3, .int (-6 : Int32)), (4, .int (0 : Int32))]) rfl ?_
      exact t_X12_round_l28 h0  _ _ _ _ _ _
theorem C_X12_round {X : Scr} {i0 : Nat} (h0 : KD[i0]? = some (.inl 12)) (x1 : Int32) (x2 : Int32) {M : Mem} {r : Int32} {M' : Mem} (h : X12_round i0 x1 x2 M = some (r, M')) : Ct X md_X12_round [.ref i0, .int x1, .int x2] M (eI r) M' := Ct_of (by decide +kernel) (Nat.le_of_ble_eq_true rfl) (t_X12_round h0 _ _ M) r M' h
-- X12_shownBy
def X12_shownBy_b32 (i0 : Nat) (k7 : Int32 → Int32 → Int32 → Mem → Option (Int32 × Mem)) (x1 : Int32) (x3 : Int32) (s0 : Int32) (s1 : Int32) (M : Mem) : Option (Int32 × Mem) :=
  k7 x1 (s1 ||| s0) (x3 + (1 : Int32)) M
def X12_shownBy_b7 (i0 : Nat) (k7 : Int32 → Int32 → Int32 → Mem → Option (Int32 × Mem)) (x1 : Int32) (x2 : Int32) (x3 : Int32) (M : Mem) : Option (Int32 × Mem) :=
  if (10 : Int32) ≤ x3 then
    some (x2, M)
  else
    (X12_isIn  x1 x3 M).bind (fun p1 =>
      if p1.1 = 0 then
        X12_shownBy_b32 i0 k7 x1 x3 (0 : Int32) x2 p1.2
      else
        gd (ib x3 10) (
          X12_shownBy_b32 i0 k7 x1 x3 (p1.2.1 (rf i0 1) x3.toNatClampNeg) x2 p1.2))
def X12_shownBy_l7 (i0 : Nat)  : Nat → Int32 → Int32 → Int32 → Mem → Option (Int32 × Mem)
  | 0 => fun _ _ _ _ => none
  | n + 1 => X12_shownBy_b7 i0 (X12_shownBy_l7 i0  n)
def X12_shownBy (i0 : Nat)  (x1 : Int32) (M : Mem) : Option (Int32 × Mem) :=
  X12_shownBy_l7 i0  FU x1 (M.1 i0 5) (0 : Int32) M
set_option maxHeartbeats 4000000 in
set_option maxRecDepth 100000 in
theorem t_X12_shownBy_b32 {X : Scr} {i0 : Nat} (h0 : KD[i0]? = some (.inl 12)) {k7 : Int32 → Int32 → Int32 → Mem → Option (Int32 × Mem)} (hk7 : ∀ (x1 : Int32) (x2 : Int32) (x3 : Int32) (M : Mem), T X eI (k7 x1 x2 x3 M) md_X12_shownBy 7 [(0, .ref i0), (1, .int x1), (2, .int x2), (3, .int x3)] [] M) (x1 : Int32) (x3 : Int32) (s0 : Int32) (s1 : Int32) (M : Mem) : T X eI (X12_shownBy_b32 i0 k7 x1 x3 s0 s1 M) md_X12_shownBy 32 [(0, .ref i0), (1, .int x1), (3, .int x3)] [.int s0, .int s1] M := by
  unfold X12_shownBy_b32
  refine T_ior dX12_shownBy_32 ?_
  refine T_istore_n [(2, .int (s1 ||| s0)), (0, .ref i0), (1, .int x1), (3, .int x3)] dX12_shownBy_33 rfl (by decide) rfl ?_
  refine T_iinc 3 [(3, .int (x3 + (1 : Int32))), (2, .int (s1 ||| s0)), (0, .ref i0), (1, .int x1)] (v := (1 : Int32)) dX12_shownBy_34 rfl (by decide) (by decide) rfl ?_
  refine T_goto 7 dX12_shownBy_37 (by decide) ?_
  refine T_sub [2, 3, 1, 0] (lv' := [(0, .ref i0), (1, .int x1), (2, .int (s1 ||| s0)), (3, .int (x3 + (1 : Int32)))]) rfl ?_
  exact hk7 _ _ _ _
set_option maxHeartbeats 4000000 in
set_option maxRecDepth 100000 in
theorem t_X12_shownBy_b7 {X : Scr} {i0 : Nat} (h0 : KD[i0]? = some (.inl 12)) {k7 : Int32 → Int32 → Int32 → Mem → Option (Int32 × Mem)} (hk7 : ∀ (x1 : Int32) (x2 : Int32) (x3 : Int32) (M : Mem), T X eI (k7 x1 x2 x3 M) md_X12_shownBy 7 [(0, .ref i0), (1, .int x1), (2, .int x2), (3, .int x3)] [] M) (x1 : Int32) (x2 : Int32) (x3 : Int32) (M : Mem) : T X eI (X12_shownBy_b7 i0 k7 x1 x2 x3 M) md_X12_shownBy 7 [(0, .ref i0), (1, .int x1), (2, .int x2), (3, .int x3)] [] M := by
  unfold X12_shownBy_b7
  refine T_iload_n 3 dX12_shownBy_7 rfl rfl ?_
  refine T_bipush (v := (10 : Int32)) (by decide) dX12_shownBy_8 ?_
  refine T_icmp_ge 40 dX12_shownBy_10 (by decide) ?_ ?_
  ·
    refine T_iload_n 2 dX12_shownBy_40 rfl rfl ?_
    exact T_iret dX12_shownBy_41 rfl
  ·
    refine T_iload_n 2 dX12_shownBy_13 rfl rfl ?_
    refine T_iload_n 1 dX12_shownBy_14 rfl rfl ?_
    refine T_iload_n 3 dX12_shownBy_15 rfl rfl ?_
    refine T_callSI md_X12_isIn [.int x1, .int x3] [.int x2] dX12_shownBy_16 rfl ok_X12_isIn tb_895 tb_896 (by decide) (Nat.le_of_ble_eq_true rfl) (fun _ _ h9 => C_X12_isIn  _ _ h9) (fun r1 M1 => ?_)
    dsimp only
    refine T_if_eq 31 dX12_shownBy_19 (by decide) ?_ ?_
    ·
      refine T_iconst (v := (0 : Int32)) (by decide) dX12_shownBy_31 ?_
      refine T_sub [0, 1, 3] (lv' := [(0, .ref i0), (1, .int x1), (3, .int x3)]) rfl ?_
      exact t_X12_shownBy_b32 h0 hk7 _ _ _ _ _
    ·
      refine T_aload_n 0 dX12_shownBy_22 rfl rfl ?_
      refine T_getR 1 FOk_12 h0 (by decide) (by decide) dX12_shownBy_23 tb_714 ?_
      refine T_iload_n 3 dX12_shownBy_26 rfl rfl ?_
      refine T_iald (kf_12_1 h0) dX12_shownBy_27 ?_
      refine T_goto 32 dX12_shownBy_28 (by decide) ?_
      refine T_sub [0, 1, 3] (lv' := [(0, .ref i0), (1, .int x1), (3, .int x3)]) rfl ?_
      exact t_X12_shownBy_b32 h0 hk7 _ _ _ _ _
theorem t_X12_shownBy_l7 {X : Scr} {i0 : Nat} (h0 : KD[i0]? = some (.inl 12)) (n : Nat) : ∀ (x1 : Int32) (x2 : Int32) (x3 : Int32) (M : Mem), T X eI (X12_shownBy_l7 i0  n x1 x2 x3 M) md_X12_shownBy 7 [(0, .ref i0), (1, .int x1), (2, .int x2), (3, .int x3)] [] M := by
  induction n with
  | zero => intro x1 x2 x3 M; exact T_none
  | succ n ih => intro x1 x2 x3 M; exact t_X12_shownBy_b7 h0 ih x1 x2 x3 M
set_option maxHeartbeats 4000000 in
set_option maxRecDepth 100000 in
theorem t_X12_shownBy {X : Scr} {i0 : Nat} (h0 : KD[i0]? = some (.inl 12)) (x1 : Int32) (M : Mem) : T X eI (X12_shownBy i0  x1 M) md_X12_shownBy 0 [(0, .ref i0), (1, .int x1)] [] M := by
  unfold X12_shownBy
  refine T_aload_n 0 dX12_shownBy_0 rfl rfl ?_
  refine T_getI 5 FOk_12 h0 (by decide) (by decide) dX12_shownBy_1 tb_718 ?_
  refine T_istore_n [(2, .int (M.1 i0 5)), (0, .ref i0), (1, .int x1)] dX12_shownBy_4 rfl (by decide) rfl ?_
  refine T_iconst (v := (0 : Int32)) (by decide) dX12_shownBy_5 ?_
  refine T_istore_n [(3, .int (0 : Int32)), (2, .int (M.1 i0 5)), (0, .ref i0), (1, .int x1)] dX12_shownBy_6 rfl (by decide) rfl ?_
  refine T_sub [2, 3, 1, 0] (lv' := [(0, .ref i0), (1, .int x1), (2, .int (M.1 i0 5)), (3, .int (0 : Int32))]) rfl ?_
  exact t_X12_shownBy_l7 h0  _ _ _ _ _
theorem C_X12_shownBy {X : Scr} {i0 : Nat} (h0 : KD[i0]? = some (.inl 12)) (x1 : Int32) {M : Mem} {r : Int32} {M' : Mem} (h : X12_shownBy i0 x1 M = some (r, M')) : Ct X md_X12_shownBy [.ref i0, .int x1] M (eI r) M' := Ct_of (by decide +kernel) (Nat.le_of_ble_eq_true rfl) (t_X12_shownBy h0 _ M) r M' h
-- X12_show
def X12_show_b22 (i0 : Nat)   (M : Mem) : Option (Int32 × Mem) :=
  some ((-2 : Int32), M)
def X12_show_b86 (i0 : Nat) (k31 : Int32 → Int32 → Int32 → Int32 → Mem → Option (Int32 × Mem)) (x1 : Int32) (x2 : Int32) (x4 : Int32) (s0 : Int32) (M : Mem) : Option (Int32 × Mem) :=
  k31 x1 x2 s0 (x4 + (1 : Int32)) M
def X12_show_b85 (i0 : Nat) (k31 : Int32 → Int32 → Int32 → Int32 → Mem → Option (Int32 × Mem)) (x1 : Int32) (x2 : Int32) (x3 : Int32) (x4 : Int32) (M : Mem) : Option (Int32 × Mem) :=
  X12_show_b86 i0 k31 x1 x2 x4 x3 M
def X12_show_b60 (i0 : Nat) (k31 : Int32 → Int32 → Int32 → Int32 → Mem → Option (Int32 × Mem)) (x1 : Int32) (x2 : Int32) (x3 : Int32) (x4 : Int32) (s0 : Int32) (M : Mem) : Option (Int32 × Mem) :=
  if s0 = 0 then
    X12_show_b85 i0 k31 x1 x2 x3 x4 M
  else
    (X12_shownBy i0 x4 M).bind (fun p1 =>
      if (x1 &&& (p1.1 ^^^ (-1 : Int32))) = 0 then
        X12_show_b86 i0 k31 x1 x2 x4 x4 p1.2
      else
        X12_show_b85 i0 k31 x1 x2 x3 x4 p1.2)
def X12_show_b55 (i0 : Nat) (k31 : Int32 → Int32 → Int32 → Int32 → Mem → Option (Int32 × Mem)) (x1 : Int32) (x2 : Int32) (x3 : Int32) (x4 : Int32) (M : Mem) : Option (Int32 × Mem) :=
  X12_show_b60 i0 k31 x1 x2 x3 x4 (1 : Int32) M
def X12_show_b110 (i0 : Nat)  (s0 : Int32) (M : Mem) : Option (Int32 × Mem) :=
  some (s0, M)
def X12_show_b102 (i0 : Nat)  (x3 : Int32) (M : Mem) : Option (Int32 × Mem) :=
  X12_show_b110 i0  x3 M
def X12_show_b31 (i0 : Nat) (k31 : Int32 → Int32 → Int32 → Int32 → Mem → Option (Int32 × Mem)) (x1 : Int32) (x2 : Int32) (x3 : Int32) (x4 : Int32) (M : Mem) : Option (Int32 × Mem) :=
  if (1024 : Int32) ≤ x4 then
    if x3 < 0 then
      X12_show_b102 i0  x3 M
    else
      if x2 = (1 : Int32) then
        X12_show_b102 i0  x3 M
      else
        (X12_ones  x3 M).bind (fun p1 =>
          X12_show_b110 i0  p1.1 p1.2)
  else
    if x3 < 0 then
      X12_show_b55 i0 k31 x1 x2 x3 x4 M
    else
      (X12_ones  x4 M).bind (fun p2 =>
        (X12_ones  x3 p2.2).bind (fun p3 =>
          if p3.1 ≤ p2.1 then
            X12_show_b60 i0 k31 x1 x2 x3 x4 (0 : Int32) p3.2
          else
            X12_show_b55 i0 k31 x1 x2 x3 x4 p3.2))
def X12_show_l31 (i0 : Nat)  : Nat → Int32 → Int32 → Int32 → Int32 → Mem → Option (Int32 × Mem)
  | 0 => fun _ _ _ _ _ => none
  | n + 1 => X12_show_b31 i0 (X12_show_l31 i0  n)
def X12_show (i0 : Nat)  (x1 : Int32) (x2 : Int32) (M : Mem) : Option (Int32 × Mem) :=
  (X12_in  x1.toInt64 (0 : Int64) (255 : Int64) M).bind (fun p1 =>
    if p1.1 = 0 then
      X12_show_b22 i0   p1.2
    else
      (X12_in  x2.toInt64 (0 : Int64) (1 : Int64) p1.2).bind (fun p2 =>
        if p2.1 = 0 then
          X12_show_b22 i0   p2.2
        else
          X12_show_l31 i0  FU x1 x2 (-6 : Int32) (0 : Int32) p2.2))
set_option maxHeartbeats 4000000 in
set_option maxRecDepth 100000 in
theorem t_X12_show_b22 {X : Scr} {i0 : Nat} (h0 : KD[i0]? = some (.inl 12))  (M : Mem) : T X eI (X12_show_b22 i0   M) md_X12_show 22 [] [] M := by
  unfold X12_show_b22
  refine T_bipush (v := (-2 : Int32)) (by decide) dX12_show_22 ?_
  exact T_iret dX12_show_24 rfl
set_option maxHeartbeats 4000000 in
set_option maxRecDepth 100000 in
theorem t_X12_show_b86 {X : Scr} {i0 : Nat} (h0 : KD[i0]? = some (.inl 12)) {k31 : Int32 → Int32 → Int32 → Int32 → Mem → Option (Int32 × Mem)} (hk31 : ∀ (x1 : Int32) (x2 : Int32) (x3 : Int32) (x4 : Int32) (M : Mem), T X eI (k31 x1 x2 x3 x4 M) md_X12_show 31 [(0, .ref i0), (1, .int x1), (2, .int x2), (3, .int x3), (4, .int x4)] [] M) (x1 : Int32) (x2 : Int32) (x4 : Int32) (s0 : Int32) (M : Mem) : T X eI (X12_show_b86 i0 k31 x1 x2 x4 s0 M) md_X12_show 86 [(0, .ref i0), (1, .int x1), (2, .int x2), (4, .int x4)] [.int s0] M := by
  unfold X12_show_b86
  refine T_istore_n [(3, .int s0), (0, .ref i0), (1, .int x1), (2, .int x2), (4, .int x4)] dX12_show_86 rfl (by decide) rfl ?_
  refine T_iinc 4 [(4, .int (x4 + (1 : Int32))), (3, .int s0), (0, .ref i0), (1, .int x1), (2, .int x2)] (v := (1 : Int32)) dX12_show_87 rfl (by decide) (by decide) rfl ?_
  refine T_goto 31 dX12_show_90 (by decide) ?_
  refine T_sub [2, 3, 4, 1, 0] (lv' := [(0, .ref i0), (1, .int x1), (2, .int x2), (3, .int s0), (4, .int (x4 + (1 : Int32)))]) rfl ?_
  exact hk31 _ _ _ _ _
set_option maxHeartbeats 4000000 in
set_option maxRecDepth 100000 in
theorem t_X12_show_b85 {X : Scr} {i0 : Nat} (h0 : KD[i0]? = some (.inl 12)) {k31 : Int32 → Int32 → Int32 → Int32 → Mem → Option (Int32 × Mem)} (hk31 : ∀ (x1 : Int32) (x2 : Int32) (x3 : Int32) (x4 : Int32) (M : Mem), T X eI (k31 x1 x2 x3 x4 M) md_X12_show 31 [(0, .ref i0), (1, .int x1), (2, .int x2), (3, .int x3), (4, .int x4)] [] M) (x1 : Int32) (x2 : Int32) (x3 : Int32) (x4 : Int32) (M : Mem) : T X eI (X12_show_b85 i0 k31 x1 x2 x3 x4 M) md_X12_show 85 [(0, .ref i0), (1, .int x1), (2, .int x2), (3, .int x3), (4, .int x4)] [] M := by
  unfold X12_show_b85
  refine T_iload_n 3 dX12_show_85 rfl rfl ?_
  refine T_sub [0, 1, 2, 4] (lv' := [(0, .ref i0), (1, .int x1), (2, .int x2), (4, .int x4)]) rfl ?_
  exact t_X12_show_b86 h0 hk31 _ _ _ _ _
set_option maxHeartbeats 4000000 in
set_option maxRecDepth 100000 in
theorem t_X12_show_b60 {X : Scr} {i0 : Nat} (h0 : KD[i0]? = some (.inl 12)) {k31 : Int32 → Int32 → Int32 → Int32 → Mem → Option (Int32 × Mem)} (hk31 : ∀ (x1 : Int32) (x2 : Int32) (x3 : Int32) (x4 : Int32) (M : Mem), T X eI (k31 x1 x2 x3 x4 M) md_X12_show 31 [(0, .ref i0), (1, .int x1), (2, .int x2), (3, .int x3), (4, .int x4)] [] M) (x1 : Int32) (x2 : Int32) (x3 : Int32) (x4 : Int32) (s0 : Int32) (M : Mem) : T X eI (X12_show_b60 i0 k31 x1 x2 x3 x4 s0 M) md_X12_show 60 [(0, .ref i0), (1, .int x1), (2, .int x2), (3, .int x3), (4, .int x4)] [.int s0] M := by
  unfold X12_show_b60
  refine T_istore [(5, .int s0), (0, .ref i0), (1, .int x1), (2, .int x2), (3, .int x3), (4, .int x4)] dX12_show_60 (by decide) rfl ?_
  refine T_iload 0 dX12_show_62 rfl ?_
  refine T_if_eq 85 dX12_show_64 (by decide) ?_ ?_
  ·
    refine T_sub [1, 2, 3, 4, 5] (lv' := [(0, .ref i0), (1, .int x1), (2, .int x2), (3, .int x3), (4, .int x4)]) rfl ?_
    exact t_X12_show_b85 h0 hk31 _ _ _ _ _
  ·
    refine T_iload_n 2 dX12_show_67 rfl rfl ?_
    refine T_aload_n 1 dX12_show_68 rfl rfl ?_
    refine T_iload 5 dX12_show_69 rfl ?_
    refine T_callVI md_X12_shownBy [.int x4] [.int x1] dX12_show_71 h0 rfl rfl ok_X12_shownBy tb_972 tb_974 tb_31 (by decide) (Nat.le_of_ble_eq_true rfl) (fun _ _ h9 => C_X12_shownBy h0 _ h9) (fun r1 M1 => ?_)
    dsimp only
    refine T_iconst (v := (-1 : Int32)) (by decide) dX12_show_74 ?_
    refine T_ixor dX12_show_75 ?_
    refine T_iand dX12_show_76 ?_
    refine T_if_ne 85 dX12_show_77 (by decide) ?_ ?_
    ·
      refine T_iload 5 dX12_show_80 rfl ?_
      refine T_goto 86 dX12_show_82 (by decide) ?_
      refine T_sub [1, 2, 3, 5] (lv' := [(0, .ref i0), (1, .int x1), (2, .int x2), (4, .int x4)]) rfl ?_
      exact t_X12_show_b86 h0 hk31 _ _ _ _ _
    ·
      refine T_sub [1, 2, 3, 4, 5] (lv' := [(0, .ref i0), (1, .int x1), (2, .int x2), (3, .int x3), (4, .int x4)]) rfl ?_
      exact t_X12_show_b85 h0 hk31 _ _ _ _ _
set_option maxHeartbeats 4000000 in
set_option maxRecDepth 100000 in
theorem t_X12_show_b55 {X : Scr} {i0 : Nat} (h0 : KD[i0]? = some (.inl 12)) {k31 : Int32 → Int32 → Int32 → Int32 → Mem → Option (Int32 × Mem)} (hk31 : ∀ (x1 : Int32) (x2 : Int32) (x3 : Int32) (x4 : Int32) (M : Mem), T X eI (k31 x1 x2 x3 x4 M) md_X12_show 31 [(0, .ref i0), (1, .int x1), (2, .int x2), (3, .int x3), (4, .int x4)] [] M) (x1 : Int32) (x2 : Int32) (x3 : Int32) (x4 : Int32) (M : Mem) : T X eI (X12_show_b55 i0 k31 x1 x2 x3 x4 M) md_X12_show 55 [(0, .ref i0), (1, .int x1), (2, .int x2), (3, .int x3), (4, .int x4)] [] M := by
  unfold X12_show_b55
  refine T_iconst (v := (1 : Int32)) (by decide) dX12_show_55 ?_
  refine T_goto 60 dX12_show_56 (by decide) ?_
  exact t_X12_show_b60 h0 hk31 _ _ _ _ _ _
set_option maxHeartbeats 4000000 in
set_option maxRecDepth 100000 in
theorem t_X12_show_b110 {X : Scr} {i0 : Nat} (h0 : KD[i0]? = some (.inl 12)) (s0 : Int32) (M : Mem) : T X eI (X12_show_b110 i0  s0 M) md_X12_show 110 [] [.int s0] M := by
  unfold X12_show_b110
  exact T_iret dX12_show_110 rfl
set_option maxHeartbeats 4000000 in
set_option maxRecDepth 100000 in
theorem t_X12_show_b102 {X : Scr} {i0 : Nat} (h0 : KD[i0]? = some (.inl 12)) (x3 : Int32) (M : Mem) : T X eI (X12_show_b102 i0  x3 M) md_X12_show 102 [(3, .int x3)] [] M := by
  unfold X12_show_b102
  refine T_iload_n 0 dX12_show_102 rfl rfl ?_
  refine T_goto 110 dX12_show_103 (by decide) ?_
  refine T_sub [] (lv' := []) rfl ?_
  exact t_X12_show_b110 h0  _ _
set_option maxHeartbeats 4000000 in
set_option maxRecDepth 100000 in
theorem t_X12_show_b31 {X : Scr} {i0 : Nat} (h0 : KD[i0]? = some (.inl 12)) {k31 : Int32 → Int32 → Int32 → Int32 → Mem → Option (Int32 × Mem)} (hk31 : ∀ (x1 : Int32) (x2 : Int32) (x3 : Int32) (x4 : Int32) (M : Mem), T X eI (k31 x1 x2 x3 x4 M) md_X12_show 31 [(0, .ref i0), (1, .int x1), (2, .int x2), (3, .int x3), (4, .int x4)] [] M) (x1 : Int32) (x2 : Int32) (x3 : Int32) (x4 : Int32) (M : Mem) : T X eI (X12_show_b31 i0 k31 x1 x2 x3 x4 M) md_X12_show 31 [(0, .ref i0), (1, .int x1), (2, .int x2), (3, .int x3), (4, .int x4)] [] M := by
  unfold X12_show_b31
  refine T_iload 4 dX12_show_31 rfl ?_
  refine T_sipush (v := (1024 : Int32)) (by decide) dX12_show_33 ?_
  refine T_icmp_ge 93 dX12_show_36 (by decide) ?_ ?_
  ·
    refine T_iload_n 3 dX12_show_93 rfl rfl ?_
    refine T_if_lt 102 dX12_show_94 (by decide) ?_ ?_
    ·
      refine T_sub [3] (lv' := [(3, .int x3)]) rfl ?_
      exact t_X12_show_b102 h0  _ _
    ·
      refine T_iload_n 2 dX12_show_97 rfl rfl ?_
      refine T_iconst (v := (1 : Int32)) (by decide) dX12_show_98 ?_
      refine T_icmp_ne 106 dX12_show_99 (by decide) ?_ ?_
      ·
        refine T_sub [3] (lv' := [(3, .int x3)]) rfl ?_
        exact t_X12_show_b102 h0  _ _
      ·
        refine T_iload_n 3 dX12_show_106 rfl rfl ?_
        refine T_callSI md_X12_ones [.int x3] [] dX12_show_107 rfl ok_X12_ones tb_955 tb_956 (by decide) (Nat.le_of_ble_eq_true rfl) (fun _ _ h9 => C_X12_ones  _ h9) (fun r1 M1 => ?_)
        dsimp only
        refine T_sub [] (lv' := []) rfl ?_
        exact t_X12_show_b110 h0  _ _
  ·
    refine T_iload_n 3 dX12_show_39 rfl rfl ?_
    refine T_if_lt 55 dX12_show_40 (by decide) ?_ ?_
    ·
      exact t_X12_show_b55 h0 hk31 _ _ _ _ _
    ·
      refine T_iload 4 dX12_show_43 rfl ?_
      refine T_callSI md_X12_ones [.int x4] [] dX12_show_45 rfl ok_X12_ones tb_955 tb_956 (by decide) (Nat.le_of_ble_eq_true rfl) (fun _ _ h9 => C_X12_ones  _ h9) (fun r2 M2 => ?_)
      dsimp only
      refine T_iload_n 3 dX12_show_48 rfl rfl ?_
      refine T_callSI md_X12_ones [.int x3] [.int r2] dX12_show_49 rfl ok_X12_ones tb_955 tb_956 (by decide) (Nat.le_of_ble_eq_true rfl) (fun _ _ h9 => C_X12_ones  _ h9) (fun r3 M3 => ?_)
      dsimp only
      refine T_icmp_ge 59 dX12_show_52 (by decide) ?_ ?_
      ·
        refine T_iconst (v := (0 : Int32)) (by decide) dX12_show_59 ?_
        exact t_X12_show_b60 h0 hk31 _ _ _ _ _ _
      ·
        exact t_X12_show_b55 h0 hk31 _ _ _ _ _
theorem t_X12_show_l31 {X : Scr} {i0 : Nat} (h0 : KD[i0]? = some (.inl 12)) (n : Nat) : ∀ (x1 : Int32) (x2 : Int32) (x3 : Int32) (x4 : Int32) (M : Mem), T X eI (X12_show_l31 i0  n x1 x2 x3 x4 M) md_X12_show 31 [(0, .ref i0), (1, .int x1), (2, .int x2), (3, .int x3), (4, .int x4)] [] M := by
  induction n with
  | zero => intro x1 x2 x3 x4 M; exact T_none
  | succ n ih => intro x1 x2 x3 x4 M; exact t_X12_show_b31 h0 ih x1 x2 x3 x4 M
set_option maxHeartbeats 4000000 in
set_option maxRecDepth 100000 in
theorem t_X12_show {X : Scr} {i0 : Nat} (h0 : KD[i0]? = some (.inl 12)) (x1 : Int32) (x2 : Int32) (M : Mem) : T X eI (X12_show i0  x1 x2 M) md_X12_show 0 [(0, .ref i0), (1, .int x1), (2, .int x2)] [] M := by
  unfold X12_show
  refine T_iload_n 1 dX12_show_0 rfl rfl ?_
  refine T_i2l dX12_show_1 ?_
  refine T_lconst (v := (0 : Int64)) (by decide) dX12_show_2 ?_
  refine T_ldc2 (v := (255 : Int64)) dX12_show_3 tb_819 ?_
  refine T_callSI md_X12_in [.long x1.toInt64, .long (0 : Int64), .long (255 : Int64)] [] dX12_show_6 rfl ok_X12_in tb_816 tb_817 (by decide) (Nat.le_of_ble_eq_true rfl) (fun _ _ h9 => C_X12_in  _ _ _ h9) (fun r1 M1 => ?_)
  dsimp only
  refine T_if_eq 22 dX12_show_9 (by decide) ?_ ?_
  ·
    refine T_sub [] (lv' := []) rfl ?_
    exact t_X12_show_b22 h0   _
  ·
    refine T_iload_n 2 dX12_show_12 rfl rfl ?_
    refine T_i2l dX12_show_13 ?_
    refine T_lconst (v := (0 : Int64)) (by decide) dX12_show_14 ?_
    refine T_lconst (v := (1 : Int64)) (by decide) dX12_show_15 ?_
    refine T_callSI md_X12_in [.long x2.toInt64, .long (0 : Int64), .long (1 : Int64)] [] dX12_show_16 rfl ok_X12_in tb_816 tb_817 (by decide) (Nat.le_of_ble_eq_true rfl) (fun _ _ h9 => C_X12_in  _ _ _ h9) (fun r2 M2 => ?_)
    dsimp only
    refine T_if_ne 25 dX12_show_19 (by decide) ?_ ?_
    ·
      refine T_sub [] (lv' := []) rfl ?_
      exact t_X12_show_b22 h0   _
    ·
      refine T_bipush (v := (-6 : Int32)) (by decide) dX12_show_25 ?_
      refine T_istore_n [(3, .int (-6 : Int32)), (0, .ref i0), (1, .int x1), (2, .int x2)] dX12_show_27 rfl (by decide) rfl ?_
      refine T_iconst (v := (0 : Int32)) (by decide) dX12_show_28 ?_
      refine T_istore [(4, .int (0 : Int32)), (3, .int (-6 : Int32)), (0, .ref i0), (1, .int x1), (2, .int x2)] dX12_show_29 (by decide) rfl ?_
      refine T_sub [2, 3, 4, 1, 0] (lv' := [(0, .ref i0), (1, .int x1), (2, .int x2), (3, .int (-6 : Int32)), (4, .int (0 : Int32))]) rfl ?_
      exact t_X12_show_l31 h0  _ _ _ _ _ _
theorem C_X12_show {X : Scr} {i0 : Nat} (h0 : KD[i0]? = some (.inl 12)) (x1 : Int32) (x2 : Int32) {M : Mem} {r : Int32} {M' : Mem} (h : X12_show i0 x1 x2 M = some (r, M')) : Ct X md_X12_show [.ref i0, .int x1, .int x2] M (eI r) M' := Ct_of (by decide +kernel) (Nat.le_of_ble_eq_true rfl) (t_X12_show h0 _ _ M) r M' h
-- X12_canOwn
def X12_canOwn_b35 (i0 : Nat)  (s0 : Int32) (M : Mem) : Option (Int32 × Mem) :=
  gd (s0 == 0 || s0 == 1) (some (s0, M))
def X12_canOwn_b34 (i0 : Nat)   (M : Mem) : Option (Int32 × Mem) :=
  X12_canOwn_b35 i0  (0 : Int32) M
def X12_canOwn (i0 : Nat)  (x1 : Int32) (x2 : Int32) (x3 : Int32) (x4 : Int32) (M : Mem) : Option (Int32 × Mem) :=
  (X12_isIn  x1 x2 M).bind (fun p1 =>
    if p1.1 = 0 then
      X12_canOwn_b34 i0   p1.2
    else
      gd (ib x3 10) (
        (X12_isIn  (p1.2.1 (rf i0 1) x3.toNatClampNeg) x2 p1.2).bind (fun p2 =>
          if p2.1 = 0 then
            X12_canOwn_b34 i0   p2.2
          else
            (X12_isIn  x4 x3 p2.2).bind (fun p3 =>
              if p3.1 = 0 then
                X12_canOwn_b35 i0  (1 : Int32) p3.2
              else
                X12_canOwn_b34 i0   p3.2))))
set_option maxHeartbeats 4000000 in
set_option maxRecDepth 100000 in
theorem t_X12_canOwn_b35 {X : Scr} {i0 : Nat} (h0 : KD[i0]? = some (.inl 12)) (s0 : Int32) (M : Mem) : T X eI (X12_canOwn_b35 i0  s0 M) md_X12_canOwn 35 [] [.int s0] M := by
  unfold X12_canOwn_b35
  exact T_zret dX12_canOwn_35 rfl
set_option maxHeartbeats 4000000 in
set_option maxRecDepth 100000 in
theorem t_X12_canOwn_b34 {X : Scr} {i0 : Nat} (h0 : KD[i0]? = some (.inl 12))  (M : Mem) : T X eI (X12_canOwn_b34 i0   M) md_X12_canOwn 34 [] [] M := by
  unfold X12_canOwn_b34
  refine T_iconst (v := (0 : Int32)) (by decide) dX12_canOwn_34 ?_
  exact t_X12_canOwn_b35 h0  _ _
set_option maxHeartbeats 4000000 in
set_option maxRecDepth 100000 in
theorem t_X12_canOwn {X : Scr} {i0 : Nat} (h0 : KD[i0]? = some (.inl 12)) (x1 : Int32) (x2 : Int32) (x3 : Int32) (x4 : Int32) (M : Mem) : T X eI (X12_canOwn i0  x1 x2 x3 x4 M) md_X12_canOwn 0 [(0, .ref i0), (1, .int x1), (2, .int x2), (3, .int x3), (4, .int x4)] [] M := by
  unfold X12_canOwn
  refine T_iload_n 1 dX12_canOwn_0 rfl rfl ?_
  refine T_iload_n 2 dX12_canOwn_1 rfl rfl ?_
  refine T_callSI md_X12_isIn [.int x1, .int x2] [] dX12_canOwn_2 rfl ok_X12_isIn tb_895 tb_896 (by decide) (Nat.le_of_ble_eq_true rfl) (fun _ _ h9 => C_X12_isIn  _ _ h9) (fun r1 M1 => ?_)
  dsimp only
  refine T_if_eq 34 dX12_canOwn_5 (by decide) ?_ ?_
  ·
    refine T_sub [] (lv' := []) rfl ?_
    exact t_X12_canOwn_b34 h0   _
  ·
    refine T_aload_n 0 dX12_canOwn_8 rfl rfl ?_
    refine T_getR 1 FOk_12 h0 (by decide) (by decide) dX12_canOwn_9 tb_714 ?_
    refine T_iload_n 3 dX12_canOwn_12 rfl rfl ?_
    refine T_iald (kf_12_1 h0) dX12_canOwn_13 ?_
    refine T_iload_n 2 dX12_canOwn_14 rfl rfl ?_
    refine T_callSI md_X12_isIn [.int (M1.1 (rf i0 1) x3.toNatClampNeg), .int x2] [] dX12_canOwn_15 rfl ok_X12_isIn tb_895 tb_896 (by decide) (Nat.le_of_ble_eq_true rfl) (fun _ _ h9 => C_X12_isIn  _ _ h9) (fun r2 M2 => ?_)
    dsimp only
    refine T_if_eq 34 dX12_canOwn_18 (by decide) ?_ ?_
    ·
      refine T_sub [] (lv' := []) rfl ?_
      exact t_X12_canOwn_b34 h0   _
    ·
      refine T_iload 4 dX12_canOwn_21 rfl ?_
      refine T_iload_n 3 dX12_canOwn_23 rfl rfl ?_
      refine T_callSI md_X12_isIn [.int x4, .int x3] [] dX12_canOwn_24 rfl ok_X12_isIn tb_895 tb_896 (by decide) (Nat.le_of_ble_eq_true rfl) (fun _ _ h9 => C_X12_isIn  _ _ h9) (fun r3 M3 => ?_)
      dsimp only
      refine T_if_ne 34 dX12_canOwn_27 (by decide) ?_ ?_
      ·
        refine T_iconst (v := (1 : Int32)) (by decide) dX12_canOwn_30 ?_
        refine T_goto 35 dX12_canOwn_31 (by decide) ?_
        refine T_sub [] (lv' := []) rfl ?_
        exact t_X12_canOwn_b35 h0  _ _
      ·
        refine T_sub [] (lv' := []) rfl ?_
        exact t_X12_canOwn_b34 h0   _
theorem C_X12_canOwn {X : Scr} {i0 : Nat} (h0 : KD[i0]? = some (.inl 12)) (x1 : Int32) (x2 : Int32) (x3 : Int32) (x4 : Int32) {M : Mem} {r : Int32} {M' : Mem} (h : X12_canOwn i0 x1 x2 x3 x4 M = some (r, M')) : Ct X md_X12_canOwn [.ref i0, .int x1, .int x2, .int x3, .int x4] M (eI r) M' := Ct_of (by decide +kernel) (Nat.le_of_ble_eq_true rfl) (t_X12_canOwn h0 _ _ _ _ M) r M' h
-- X12_mostFrom
def X12_mostFrom_b63 (i0 : Nat) (k19 : Int32 → Int32 → Int32 → Int32 → Int32 → Mem → Option (Int32 × Mem)) (x1 : Int32) (x2 : Int32) (x3 : Int32) (x4 : Int32) (x5 : Int32) (s0 : Int32) (M : Mem) : Option (Int32 × Mem) :=
  (X12_more  x4 s0 M).bind (fun p1 =>
    k19 x1 x2 x3 p1.1 (x5 + (1 : Int32)) p1.2)
def X12_mostFrom_b19 (i0 : Nat) (k19 : Int32 → Int32 → Int32 → Int32 → Int32 → Mem → Option (Int32 × Mem)) (x1 : Int32) (x2 : Int32) (x3 : Int32) (x4 : Int32) (x5 : Int32) (M : Mem) : Option (Int32 × Mem) :=
  if (10 : Int32) ≤ x5 then
    some (x4, M)
  else
    (X12_canOwn i0 x1 x2 x5 x3 M).bind (fun p1 =>
      if p1.1 = 0 then
        X12_mostFrom_b63 i0 k19 x1 x2 x3 x4 x5 (0 : Int32) p1.2
      else
        gd (ib (((1024 : Int32) * (x2 + (1 : Int32))) + (x3 ||| ((1 : Int32) <<< (x5 &&& 31)))) 9216) (
          X12_mostFrom_b63 i0 k19 x1 x2 x3 x4 x5 ((p1.2.1 (rf i0 22) (((1024 : Int32) * (x2 + (1 : Int32))) + (x3 ||| ((1 : Int32) <<< (x5 &&& 31)))).toNatClampNeg) + (1 : Int32)) p1.2))
def X12_mostFrom_l19 (i0 : Nat)  : Nat → Int32 → Int32 → Int32 → Int32 → Int32 → Mem → Option (Int32 × Mem)
  | 0 => fun _ _ _ _ _ _ => none
  | n + 1 => X12_mostFrom_b19 i0 (X12_mostFrom_l19 i0  n)
def X12_mostFrom (i0 : Nat)  (x1 : Int32) (x2 : Int32) (x3 : Int32) (M : Mem) : Option (Int32 × Mem) :=
  gd (ib (((1024 : Int32) * (x2 + (1 : Int32))) + x3) 9216) (
    X12_mostFrom_l19 i0  FU x1 x2 x3 (M.1 (rf i0 22) (((1024 : Int32) * (x2 + (1 : Int32))) + x3).toNatClampNeg) (0 : Int32) M)
set_option maxHeartbeats 4000000 in
set_option maxRecDepth 100000 in
theorem t_X12_mostFrom_b63 {X : Scr} {i0 : Nat} (h0 : KD[i0]? = some (.inl 12)) {k19 : Int32 → Int32 → Int32 → Int32 → Int32 → Mem → Option (Int32 × Mem)} (hk19 : ∀ (x1 : Int32) (x2 : Int32) (x3 : Int32) (x4 : Int32) (x5 : Int32) (M : Mem), T X eI (k19 x1 x2 x3 x4 x5 M) md_X12_mostFrom 19 [(0, .ref i0), (1, .int x1), (2, .int x2), (3, .int x3), (4, .int x4), (5, .int x5)] [] M) (x1 : Int32) (x2 : Int32) (x3 : Int32) (x4 : Int32) (x5 : Int32) (s0 : Int32) (M : Mem) : T X eI (X12_mostFrom_b63 i0 k19 x1 x2 x3 x4 x5 s0 M) md_X12_mostFrom 63 [(0, .ref i0), (1, .int x1), (2, .int x2), (3, .int x3), (4, .int x4), (5, .int x5)] [.int s0] M := by
  unfold X12_mostFrom_b63
  refine T_istore [(6, .int s0), (0, .ref i0), (1, .int x1), (2, .int x2), (3, .int x3), (4, .int x4), (5, .int x5)] dX12_mostFrom_63 (by decide) rfl ?_
  refine T_iload 5 dX12_mostFrom_65 rfl ?_
  refine T_iload 0 dX12_mostFrom_67 rfl ?_
  refine T_callSI md_X12_more [.int x4, .int s0] [] dX12_mostFrom_69 rfl ok_X12_more tb_965 tb_966 (by decide) (Nat.le_of_ble_eq_true rfl) (fun _ _ h9 => C_X12_more  _ _ h9) (fun r1 M1 => ?_)
  dsimp only
  refine T_istore [(4, .int r1), (6, .int s0), (0, .ref i0), (1, .int x1), (2, .int x2), (3, .int x3), (5, .int x5)] dX12_mostFrom_72 (by decide) rfl ?_
  refine T_iinc 6 [(5, .int (x5 + (1 : Int32))), (4, .int r1), (6, .int s0), (0, .ref i0), (1, .int x1), (2, .int x2), (3, .int x3)] (v := (1 : Int32)) dX12_mostFrom_74 rfl (by decide) (by decide) rfl ?_
  refine T_goto 19 dX12_mostFrom_77 (by decide) ?_
  refine T_sub [3, 4, 5, 6, 1, 0] (lv' := [(0, .ref i0), (1, .int x1), (2, .int x2), (3, .int x3), (4, .int r1), (5, .int (x5 + (1 : Int32)))]) rfl ?_
  exact hk19 _ _ _ _ _ _
set_option maxHeartbeats 4000000 in
set_option maxRecDepth 100000 in
theorem t_X12_mostFrom_b19 {X : Scr} {i0 : Nat} (h0 : KD[i0]? = some (.inl 12)) {k19 : Int32 → Int32 → Int32 → Int32 → Int32 → Mem → Option (Int32 × Mem)} (hk19 : ∀ (x1 : Int32) (x2 : Int32) (x3 : Int32) (x4 : Int32) (x5 : Int32) (M : Mem), T X eI (k19 x1 x2 x3 x4 x5 M) md_X12_mostFrom 19 [(0, .ref i0), (1, .int x1), (2, .int x2), (3, .int x3), (4, .int x4), (5, .int x5)] [] M) (x1 : Int32) (x2 : Int32) (x3 : Int32) (x4 : Int32) (x5 : Int32) (M : Mem) : T X eI (X12_mostFrom_b19 i0 k19 x1 x2 x3 x4 x5 M) md_X12_mostFrom 19 [(0, .ref i0), (1, .int x1), (2, .int x2), (3, .int x3), (4, .int x4), (5, .int x5)] [] M := by
  unfold X12_mostFrom_b19
  refine T_iload 5 dX12_mostFrom_19 rfl ?_
  refine T_bipush (v := (10 : Int32)) (by decide) dX12_mostFrom_21 ?_
  refine T_icmp_ge 80 dX12_mostFrom_23 (by decide) ?_ ?_
  ·
    refine T_iload 4 dX12_mostFrom_80 rfl ?_
    exact T_iret dX12_mostFrom_82 rfl
  ·
    refine T_aload_n 0 dX12_mostFrom_26 rfl rfl ?_
    refine T_iload_n 1 dX12_mostFrom_27 rfl rfl ?_
    refine T_iload_n 2 dX12_mostFrom_28 rfl rfl ?_
    refine T_iload 5 dX12_mostFrom_29 rfl ?_
    refine T_iload_n 3 dX12_mostFrom_31 rfl rfl ?_
    refine T_callVI md_X12_canOwn [.int x1, .int x2, .int x5, .int x3] [] dX12_mostFrom_32 h0 rfl rfl ok_X12_canOwn tb_986 tb_988 tb_33 (by decide) (Nat.le_of_ble_eq_true rfl) (fun _ _ h9 => C_X12_canOwn h0 _ _ _ _ h9) (fun r1 M1 => ?_)
    dsimp only
    refine T_if_eq 62 dX12_mostFrom_35 (by decide) ?_ ?_
    ·
      refine T_iconst (v := (0 : Int32)) (by decide) dX12_mostFrom_62 ?_
      exact t_X12_mostFrom_b63 h0 hk19 _ _ _ _ _ _ _
    ·
      refine T_aload_n 0 dX12_mostFrom_38 rfl rfl ?_
      refine T_getR 22 FOk_12 h0 (by decide) (by decide) dX12_mostFrom_39 tb_735 ?_
      refine T_sipush (v := (1024 : Int32)) (by decide) dX12_mostFrom_42 ?_
      refine T_iload_n 2 dX12_mostFrom_45 rfl rfl ?_
      refine T_iconst (v := (1 : Int32)) (by decide) dX12_mostFrom_46 ?_
      refine T_iadd dX12_mostFrom_47 ?_
      refine T_imul dX12_mostFrom_48 ?_
      refine T_iload_n 3 dX12_mostFrom_49 rfl rfl ?_
      refine T_iconst (v := (1 : Int32)) (by decide) dX12_mostFrom_50 ?_
      refine T_iload 5 dX12_mostFrom_51 rfl ?_
      refine T_ishl dX12_mostFrom_53 ?_
      refine T_ior dX12_mostFrom_54 ?_
      refine T_iadd dX12_mostFrom_55 ?_
      refine T_iald (kf_12_22 h0) dX12_mostFrom_56 ?_
      refine T_iconst (v := (1 : Int32)) (by decide) dX12_mostFrom_57 ?_
      refine T_iadd dX12_mostFrom_58 ?_
      refine T_goto 63 dX12_mostFrom_59 (by decide) ?_
      exact t_X12_mostFrom_b63 h0 hk19 _ _ _ _ _ _ _
theorem t_X12_mostFrom_l19 {X : Scr} {i0 : Nat} (h0 : KD[i0]? = some (.inl 12)) (n : Nat) : ∀ (x1 : Int32) (x2 : Int32) (x3 : Int32) (x4 : Int32) (x5 : Int32) (M : Mem), T X eI (X12_mostFrom_l19 i0  n x1 x2 x3 x4 x5 M) md_X12_mostFrom 19 [(0, .ref i0), (1, .int x1), (2, .int x2), (3, .int x3), (4, .int x4), (5, .int x5)] [] M := by
  induction n with
  | zero => intro x1 x2 x3 x4 x5 M; exact T_none
  | succ n ih => intro x1 x2 x3 x4 x5 M; exact t_X12_mostFrom_b19 h0 ih x1 x2 x3 x4 x5 M
set_option maxHeartbeats 4000000 in
set_option maxRecDepth 100000 in
theorem t_X12_mostFrom {X : Scr} {i0 : Nat} (h0 : KD[i0]? = some (.inl 12)) (x1 : Int32) (x2 : Int32) (x3 : Int32) (M : Mem) : T X eI (X12_mostFrom i0  x1 x2 x3 M) md_X12_mostFrom 0 [(0, .ref i0), (1, .int x1), (2, .int x2), (3, .int x3)] [] M := by
  unfold X12_mostFrom
  refine T_aload_n 0 dX12_mostFrom_0 rfl rfl ?_
  refine T_getR 22 FOk_12 h0 (by decide) (by decide) dX12_mostFrom_1 tb_735 ?_
  refine T_sipush (v := (1024 : Int32)) (by decide) dX12_mostFrom_4 ?_
  refine T_iload_n 2 dX12_mostFrom_7 rfl rfl ?_
  refine T_iconst (v := (1 : Int32)) (by decide) dX12_mostFrom_8 ?_
  refine T_iadd dX12_mostFrom_9 ?_
  refine T_imul dX12_mostFrom_10 ?_
  refine T_iload_n 3 dX12_mostFrom_11 rfl rfl ?_
  refine T_iadd dX12_mostFrom_12 ?_
  refine T_iald (kf_12_22 h0) dX12_mostFrom_13 ?_
  refine T_istore [(4, .int (M.1 (rf i0 22) (((1024 : Int32) * (x2 + (1 : Int32))) + x3).toNatClampNeg)), (0, .ref i0), (1, .int x1), (2, .int x2), (3, .int x3)] dX12_mostFrom_14 (by decide) rfl ?_
  refine T_iconst (v := (0 : Int32)) (by decide) dX12_mostFrom_16 ?_
  refine T_istore [(5, .int (0 : Int32)), (4, .int (M.1 (rf i0 22) (((1024 : Int32) * (x2 + (1 : Int32))) + x3).toNatClampNeg)), (0, .ref i0), (1, .int x1), (2, .int x2), (3, .int x3)] dX12_mostFrom_17 (by decide) rfl ?_
  refine T_sub [2, 3, 4, 5, 1, 0] (lv' := [(0, .ref i0), (1, .int x1), (2, .int x2), (3, .int x3), (4, .int (M.1 (rf i0 22) (((1024 : Int32) * (x2 + (1 : Int32))) + x3).toNatClampNeg)), (5, .int (0 : Int32))]) rfl ?_
  exact t_X12_mostFrom_l19 h0  _ _ _ _ _ _ _
theorem C_X12_mostFrom {X : Scr} {i0 : Nat} (h0 : KD[i0]? = some (.inl 12)) (x1 : Int32) (x2 : Int32) (x3 : Int32) {M : Mem} {r : Int32} {M' : Mem} (h : X12_mostFrom i0 x1 x2 x3 M = some (r, M')) : Ct X md_X12_mostFrom [.ref i0, .int x1, .int x2, .int x3] M (eI r) M' := Ct_of (by decide +kernel) (Nat.le_of_ble_eq_true rfl) (t_X12_mostFrom h0 _ _ _ M) r M' h
-- X12_ownerOf
def X12_ownerOf_b84 (i0 : Nat) (k8 : Int32 → Int32 → Int32 → Int32 → Int32 → Mem → Option (Int32 × Mem)) (x1 : Int32) (x2 : Int32) (x3 : Int32) (x5 : Int32) (s0 : Int32) (M : Mem) : Option (Int32 × Mem) :=
  k8 x1 x2 x3 s0 (x5 + (-1 : Int32)) M
def X12_ownerOf_b70 (i0 : Nat) (k8 : Int32 → Int32 → Int32 → Int32 → Int32 → Mem → Option (Int32 × Mem)) (x1 : Int32) (x2 : Int32) (x3 : Int32) (x4 : Int32) (x5 : Int32) (s0 : Int32) (M : Mem) : Option (Int32 × Mem) :=
  if s0 = 0 then
    X12_ownerOf_b84 i0 k8 x1 x2 x3 x5 x4 M
  else
    X12_ownerOf_b84 i0 k8 x1 x2 x3 x5 x5 M
def X12_ownerOf_b69 (i0 : Nat) (k8 : Int32 → Int32 → Int32 → Int32 → Int32 → Mem → Option (Int32 × Mem)) (x1 : Int32) (x2 : Int32) (x3 : Int32) (x4 : Int32) (x5 : Int32) (M : Mem) : Option (Int32 × Mem) :=
  X12_ownerOf_b70 i0 k8 x1 x2 x3 x4 x5 (0 : Int32) M
def X12_ownerOf_b8 (i0 : Nat) (k8 : Int32 → Int32 → Int32 → Int32 → Int32 → Mem → Option (Int32 × Mem)) (x1 : Int32) (x2 : Int32) (x3 : Int32) (x4 : Int32) (x5 : Int32) (M : Mem) : Option (Int32 × Mem) :=
  if x5 < 0 then
    some (x4, M)
  else
    (X12_canOwn i0 x1 x2 x5 x3 M).bind (fun p1 =>
      if p1.1 = 0 then
        X12_ownerOf_b69 i0 k8 x1 x2 x3 x4 x5 p1.2
      else
        gd (ib (((1024 : Int32) * (x2 + (1 : Int32))) + (x3 ||| ((1 : Int32) <<< (x5 &&& 31)))) 9216) (
          gd (ib (((1024 : Int32) * x2) + x3) 9216) (
            if ((p1.2.1 (rf i0 22) (((1024 : Int32) * (x2 + (1 : Int32))) + (x3 ||| ((1 : Int32) <<< (x5 &&& 31)))).toNatClampNeg) + (1 : Int32)) = (p1.2.1 (rf i0 22) (((1024 : Int32) * x2) + x3).toNatClampNeg) then
              X12_ownerOf_b70 i0 k8 x1 x2 x3 x4 x5 (1 : Int32) p1.2
            else
              X12_ownerOf_b69 i0 k8 x1 x2 x3 x4 x5 p1.2)))
def X12_ownerOf_l8 (i0 : Nat)  : Nat → Int32 → Int32 → Int32 → Int32 → Int32 → Mem → Option (Int32 × Mem)
  | 0 => fun _ _ _ _ _ _ => none
  | n + 1 => X12_ownerOf_b8 i0 (X12_ownerOf_l8 i0  n)
def X12_ownerOf (i0 : Nat)  (x1 : Int32) (x2 : Int32) (x3 : Int32) (M : Mem) : Option (Int32 × Mem) :=
  X12_ownerOf_l8 i0  FU x1 x2 x3 (-6 : Int32) (9 : Int32) M
set_option maxHeartbeats 4000000 in
set_option maxRecDepth 100000 in
theorem t_X12_ownerOf_b84 {X : Scr} {i0 : Nat} (h0 : KD[i0]? = some (.inl 12)) {k8 : Int32 → Int32 → Int32 → Int32 → Int32 → Mem → Option (Int32 × Mem)} (hk8 : ∀ (x1 : Int32) (x2 : Int32) (x3 : Int32) (x4 : Int32) (x5 : Int32) (M : Mem), T X eI (k8 x1 x2 x3 x4 x5 M) md_X12_ownerOf 8 [(0, .ref i0), (1, .int x1), (2, .int x2), (3, .int x3), (4, .int x4), (5, .int x5)] [] M) (x1 : Int32) (x2 : Int32) (x3 : Int32) (x5 : Int32) (s0 : Int32) (M : Mem) : T X eI (X12_ownerOf_b84 i0 k8 x1 x2 x3 x5 s0 M) md_X12_ownerOf 84 [(0, .ref i0), (1, .int x1), (2, .int x2), (3, .int x3), (5, .int x5)] [.int s0] M := by
  unfold X12_ownerOf_b84
  refine T_istore [(4, .int s0), (0, .ref i0), (1, .int x1), (2, .int x2), (3, .int x3), (5, .int x5)] dX12_ownerOf_84 (by decide) rfl ?_
  refine T_iinc 5 [(5, .int (x5 + (-1 : Int32))), (4, .int s0), (0, .ref i0), (1, .int x1), (2, .int x2), (3, .int x3)] (v := (-1 : Int32)) dX12_ownerOf_86 rfl (by decide) (by decide) rfl ?_
  refine T_goto 8 dX12_ownerOf_89 (by decide) ?_
  refine T_sub [2, 3, 4, 5, 1, 0] (lv' := [(0, .ref i0), (1, .int x1), (2, .int x2), (3, .int x3), (4, .int s0), (5, .int (x5 + (-1 : Int32)))]) rfl ?_
  exact hk8 _ _ _ _ _ _
set_option maxHeartbeats 4000000 in
set_option maxRecDepth 100000 in
theorem t_X12_ownerOf_b70 {X : Scr} {i0 : Nat} (h0 : KD[i0]? = some (.inl 12)) {k8 : Int32 → Int32 → Int32 → Int32 → Int32 → Mem → Option (Int32 × Mem)} (hk8 : ∀ (x1 : Int32) (x2 : Int32) (x3 : Int32) (x4 : Int32) (x5 : Int32) (M : Mem), T X eI (k8 x1 x2 x3 x4 x5 M) md_X12_ownerOf 8 [(0, .ref i0), (1, .int x1), (2, .int x2), (3, .int x3), (4, .int x4), (5, .int x5)] [] M) (x1 : Int32) (x2 : Int32) (x3 : Int32) (x4 : Int32) (x5 : Int32) (s0 : Int32) (M : Mem) : T X eI (X12_ownerOf_b70 i0 k8 x1 x2 x3 x4 x5 s0 M) md_X12_ownerOf 70 [(0, .ref i0), (1, .int x1), (2, .int x2), (3, .int x3), (4, .int x4), (5, .int x5)] [.int s0] M := by
  unfold X12_ownerOf_b70
  refine T_istore [(7, .int s0), (0, .ref i0), (1, .int x1), (2, .int x2), (3, .int x3), (4, .int x4), (5, .int x5)] dX12_ownerOf_70 (by decide) rfl ?_
  refine T_iload 0 dX12_ownerOf_72 rfl ?_
  refine T_if_eq 82 dX12_ownerOf_74 (by decide) ?_ ?_
  ·
    refine T_iload 5 dX12_ownerOf_82 rfl ?_
    refine T_sub [1, 2, 3, 4, 6] (lv' := [(0, .ref i0), (1, .int x1), (2, .int x2), (3, .int x3), (5, .int x5)]) rfl ?_
    exact t_X12_ownerOf_b84 h0 hk8 _ _ _ _ _ _
  ·
    refine T_iload 6 dX12_ownerOf_77 rfl ?_
    refine T_goto 84 dX12_ownerOf_79 (by decide) ?_
    refine T_sub [1, 2, 3, 4, 6] (lv' := [(0, .ref i0), (1, .int x1), (2, .int x2), (3, .int x3), (5, .int x5)]) rfl ?_
    exact t_X12_ownerOf_b84 h0 hk8 _ _ _ _ _ _
set_option maxHeartbeats 4000000 in
set_option maxRecDepth 100000 in
theorem t_X12_ownerOf_b69 {X : Scr} {i0 : Nat} (h0 : KD[i0]? = some (.inl 12)) {k8 : Int32 → Int32 → Int32 → Int32 → Int32 → Mem → Option (Int32 × Mem)} (hk8 : ∀ (x1 : Int32) (x2 : Int32) (x3 : Int32) (x4 : Int32) (x5 : Int32) (M : Mem), T X eI (k8 x1 x2 x3 x4 x5 M) md_X12_ownerOf 8 [(0, .ref i0), (1, .int x1), (2, .int x2), (3, .int x3), (4, .int x4), (5, .int x5)] [] M) (x1 : Int32) (x2 : Int32) (x3 : Int32) (x4 : Int32) (x5 : Int32) (M : Mem) : T X eI (X12_ownerOf_b69 i0 k8 x1 x2 x3 x4 x5 M) md_X12_ownerOf 69 [(0, .ref i0), (1, .int x1), (2, .int x2), (3, .int x3), (4, .int x4), (5, .int x5)] [] M := by
  unfold X12_ownerOf_b69
  refine T_iconst (v := (0 : Int32)) (by decide) dX12_ownerOf_69 ?_
  exact t_X12_ownerOf_b70 h0 hk8 _ _ _ _ _ _ _
set_option maxHeartbeats 4000000 in
set_option maxRecDepth 100000 in
theorem t_X12_ownerOf_b8 {X : Scr} {i0 : Nat} (h0 : KD[i0]? = some (.inl 12)) {k8 : Int32 → Int32 → Int32 → Int32 → Int32 → Mem → Option (Int32 × Mem)} (hk8 : ∀ (x1 : Int32) (x2 : Int32) (x3 : Int32) (x4 : Int32) (x5 : Int32) (M : Mem), T X eI (k8 x1 x2 x3 x4 x5 M) md_X12_ownerOf 8 [(0, .ref i0), (1, .int x1), (2, .int x2), (3, .int x3), (4, .int x4), (5, .int x5)] [] M) (x1 : Int32) (x2 : Int32) (x3 : Int32) (x4 : Int32) (x5 : Int32) (M : Mem) : T X eI (X12_ownerOf_b8 i0 k8 x1 x2 x3 x4 x5 M) md_X12_ownerOf 8 [(0, .ref i0), (1, .int x1), (2, .int x2), (3, .int x3), (4, .int x4), (5, .int x5)] [] M := by
  unfold X12_ownerOf_b8
  refine T_iload 5 dX12_ownerOf_8 rfl ?_
  refine T_if_lt 92 dX12_ownerOf_10 (by decide) ?_ ?_
  ·
    refine T_iload 4 dX12_ownerOf_92 rfl ?_
    exact T_iret dX12_ownerOf_94 rfl
  ·
    refine T_aload_n 0 dX12_ownerOf_13 rfl rfl ?_
    refine T_iload_n 1 dX12_ownerOf_14 rfl rfl ?_
    refine T_iload_n 2 dX12_ownerOf_15 rfl rfl ?_
    refine T_iload 5 dX12_ownerOf_16 rfl ?_
    refine T_iload_n 3 dX12_ownerOf_18 rfl rfl ?_
    refine T_callVI md_X12_canOwn [.int x1, .int x2, .int x5, .int x3] [] dX12_ownerOf_19 h0 rfl rfl ok_X12_canOwn tb_986 tb_988 tb_33 (by decide) (Nat.le_of_ble_eq_true rfl) (fun _ _ h9 => C_X12_canOwn h0 _ _ _ _ h9) (fun r1 M1 => ?_)
    dsimp only
    refine T_istore [(6, .int r1), (0, .ref i0), (1, .int x1), (2, .int x2), (3, .int x3), (4, .int x4), (5, .int x5)] dX12_ownerOf_22 (by decide) rfl ?_
    refine T_iload 0 dX12_ownerOf_24 rfl ?_
    refine T_if_eq 69 dX12_ownerOf_26 (by decide) ?_ ?_
    ·
      refine T_sub [1, 2, 3, 4, 5, 6] (lv' := [(0, .ref i0), (1, .int x1), (2, .int x2), (3, .int x3), (4, .int x4), (5, .int x5)]) rfl ?_
      exact t_X12_ownerOf_b69 h0 hk8 _ _ _ _ _ _
    ·
      refine T_aload_n 1 dX12_ownerOf_29 rfl rfl ?_
      refine T_getR 22 FOk_12 h0 (by decide) (by decide) dX12_ownerOf_30 tb_735 ?_
      refine T_sipush (v := (1024 : Int32)) (by decide) dX12_ownerOf_33 ?_
      refine T_iload_n 3 dX12_ownerOf_36 rfl rfl ?_
      refine T_iconst (v := (1 : Int32)) (by decide) dX12_ownerOf_37 ?_
      refine T_iadd dX12_ownerOf_38 ?_
      refine T_imul dX12_ownerOf_39 ?_
      refine T_iload_n 4 dX12_ownerOf_40 rfl rfl ?_
      refine T_iconst (v := (1 : Int32)) (by decide) dX12_ownerOf_41 ?_
      refine T_iload 6 dX12_ownerOf_42 rfl ?_
      refine T_ishl dX12_ownerOf_44 ?_
      refine T_ior dX12_ownerOf_45 ?_
      refine T_iadd dX12_ownerOf_46 ?_
      refine T_iald (kf_12_22 h0) dX12_ownerOf_47 ?_
      refine T_iconst (v := (1 : Int32)) (by decide) dX12_ownerOf_48 ?_
      refine T_iadd dX12_ownerOf_49 ?_
      refine T_aload_n 1 dX12_ownerOf_50 rfl rfl ?_
      refine T_getR 22 FOk_12 h0 (by decide) (by decide) dX12_ownerOf_51 tb_735 ?_
      refine T_sipush (v := (1024 : Int32)) (by decide) dX12_ownerOf_54 ?_
      refine T_iload_n 3 dX12_ownerOf_57 rfl rfl ?_
      refine T_imul dX12_ownerOf_58 ?_
      refine T_iload_n 4 dX12_ownerOf_59 rfl rfl ?_
      refine T_iadd dX12_ownerOf_60 ?_
      refine T_iald (kf_12_22 h0) dX12_ownerOf_61 ?_
      refine T_icmp_ne 69 dX12_ownerOf_62 (by decide) ?_ ?_
      ·
        refine T_iconst (v := (1 : Int32)) (by decide) dX12_ownerOf_65 ?_
        refine T_goto 70 dX12_ownerOf_66 (by decide) ?_
        refine T_sub [1, 2, 3, 4, 5, 6] (lv' := [(0, .ref i0), (1, .int x1), (2, .int x2), (3, .int x3), (4, .int x4), (5, .int x5)]) rfl ?_
        exact t_X12_ownerOf_b70 h0 hk8 _ _ _ _ _ _ _
      ·
        refine T_sub [1, 2, 3, 4, 5, 6] (lv' := [(0, .ref i0), (1, .int x1), (2, .int x2), (3, .int x3), (4, .int x4), (5, .int x5)]) rfl ?_
        exact t_X12_ownerOf_b69 h0 hk8 _ _ _ _ _ _
theorem t_X12_ownerOf_l8 {X : Scr} {i0 : Nat} (h0 : KD[i0]? = some (.inl 12)) (n : Nat) : ∀ (x1 : Int32) (x2 : Int32) (x3 : Int32) (x4 : Int32) (x5 : Int32) (M : Mem), T X eI (X12_ownerOf_l8 i0  n x1 x2 x3 x4 x5 M) md_X12_ownerOf 8 [(0, .ref i0), (1, .int x1), (2, .int x2), (3, .int x3), (4, .int x4), (5, .int x5)] [] M := by
  induction n with
  | zero => intro x1 x2 x3 x4 x5 M; exact T_none
  | succ n ih => intro x1 x2 x3 x4 x5 M; exact t_X12_ownerOf_b8 h0 ih x1 x2 x3 x4 x5 M
set_option maxHeartbeats 4000000 in
set_option maxRecDepth 100000 in
theorem t_X12_ownerOf {X : Scr} {i0 : Nat} (h0 : KD[i0]? = some (.inl 12)) (x1 : Int32) (x2 : Int32) (x3 : Int32) (M : Mem) : T X eI (X12_ownerOf i0  x1 x2 x3 M) md_X12_ownerOf 0 [(0, .ref i0), (1, .int x1), (2, .int x2), (3, .int x3)] [] M := by
  unfold X12_ownerOf
  refine T_bipush (v := (-6 : Int32)) (by decide) dX12_ownerOf_0 ?_
  refine T_istore [(4, .int (-6 : Int32)), (0, .ref i0), (1, .int x1), (2, .int x2), (3, .int x3)] dX12_ownerOf_2 (by decide) rfl ?_
  refine T_bipush (v := (9 : Int32)) (by decide) dX12_ownerOf_4 ?_
  refine T_istore [(5, .int (9 : Int32)), (4, .int (-6 : Int32)), (0, .ref i0), (1, .int x1), (2, .int x2), (3, .int x3)] dX12_ownerOf_6 (by decide) rfl ?_
  refine T_sub [2, 3, 4, 5, 1, 0] (lv' := [(0, .ref i0), (1, .int x1), (2, .int x2), (3, .int x3), (4, .int (-6 : Int32)), (5, .int (9 : Int32))]) rfl ?_
  exact t_X12_ownerOf_l8 h0  _ _ _ _ _ _ _
theorem C_X12_ownerOf {X : Scr} {i0 : Nat} (h0 : KD[i0]? = some (.inl 12)) (x1 : Int32) (x2 : Int32) (x3 : Int32) {M : Mem} {r : Int32} {M' : Mem} (h : X12_ownerOf i0 x1 x2 x3 M = some (r, M')) : Ct X md_X12_ownerOf [.ref i0, .int x1, .int x2, .int x3] M (eI r) M' := Ct_of (by decide +kernel) (Nat.le_of_ble_eq_true rfl) (t_X12_ownerOf h0 _ _ _ M) r M' h
