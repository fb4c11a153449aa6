-- X12_goEvenings
def X12_goEvenings_b100 (i0 : Nat) (k31 : Int32 → Mem → Option (Unit × Mem)) (x1 : Int32) (M : Mem) : Option (Unit × Mem) :=
  k31 (x1 + (1 : Int32)) M
def X12_goEvenings_b88 (i0 : Nat) (k31 : Int32 → Mem → Option (Unit × Mem)) (x1 : Int32) (x2 : Int32) (s0 : Int32) (M : Mem) : Option (Unit × Mem) :=
  mw (mI M i0 19 s0) (fun N1 =>
    if x2 = 0 then
      (X12_goOne i0 x1 N1).bind (fun p2 =>
        X12_goEvenings_b100 i0 k31 x1 p2.2)
    else
      X12_goEvenings_b100 i0 k31 x1 N1)
def X12_goEvenings_b74 (i0 : Nat) (k31 : Int32 → Mem → Option (Unit × Mem)) (x1 : Int32) (x2 : Int32) (s0 : Int32) (M : Mem) : Option (Unit × Mem) :=
  mw (mI M i0 18 s0) (fun N1 =>
    if x2 ≤ 0 then
      X12_goEvenings_b88 i0 k31 x1 x2 (-6 : Int32) N1
    else
      X12_goEvenings_b88 i0 k31 x1 x2 x2 N1)
def X12_goEvenings_b106 (i0 : Nat)   (M : Mem) : Option (Unit × Mem) :=
  some ((), M)
def X12_goEvenings_b31 (i0 : Nat) (k31 : Int32 → Mem → Option (Unit × Mem)) (x1 : Int32) (M : Mem) : Option (Unit × Mem) :=
  if (M.1 i0 15) ≤ x1 then
    X12_goEvenings_b106 i0   M
  else
    if 0 ≤ (M.1 i0 18) then
      X12_goEvenings_b106 i0   M
    else
      gd (ib x1 60) (
        gd (ib x1 60) (
          (X12_whyNot i0 (M.1 (rf i0 13) x1.toNatClampNeg) (M.1 (rf i0 14) x1.toNatClampNeg) M).bind (fun p1 =>
            if p1.1 ≤ 0 then
              X12_goEvenings_b74 i0 k31 x1 p1.1 (-6 : Int32) p1.2
            else
              X12_goEvenings_b74 i0 k31 x1 p1.1 x1 p1.2)))
def X12_goEvenings_l31 (i0 : Nat)  : Nat → Int32 → Mem → Option (Unit × Mem)
  | 0 => fun _ _ => none
  | n + 1 => X12_goEvenings_b31 i0 (X12_goEvenings_l31 i0  n)
def X12_goEvenings (i0 : Nat)   (M : Mem) : Option (Unit × Mem) :=
  mw (mI M i0 18 (-6 : Int32)) (fun N1 =>
    mw (mI N1 i0 19 (-6 : Int32)) (fun N2 =>
      mw (mI N2 i0 16 (0 : Int32)) (fun N3 =>
        mw (mI N3 i0 20 (-6 : Int32)) (fun N4 =>
          mw (mI N4 i0 21 (-6 : Int32)) (fun N5 =>
            X12_goEvenings_l31 i0  FU (0 : Int32) N5)))))
set_option maxHeartbeats 4000000 in
set_option maxRecDepth 100000 in
theorem t_X12_goEvenings_b100 {X : Scr} {i0 : Nat} (h0 : KD[i0]? = some (.inl 12)) {k31 : Int32 → Mem → Option (Unit × Mem)} (hk31 : ∀ (x1 : Int32) (M : Mem), T X eV (k31 x1 M) md_X12_goEvenings 31 [(0, .ref i0), (1, .int x1)] [] M) (x1 : Int32) (M : Mem) : T X eV (X12_goEvenings_b100 i0 k31 x1 M) md_X12_goEvenings 100 [(0, .ref i0), (1, .int x1)] [] M := by
  unfold X12_goEvenings_b100
  refine T_iinc 1 [(1, .int (x1 + (1 : Int32))), (0, .ref i0)] (v := (1 : Int32)) dX12_goEvenings_100 rfl (by decide) (by decide) rfl ?_
  refine T_goto 31 dX12_goEvenings_103 (by decide) ?_
  refine T_sub [1, 0] (lv' := [(0, .ref i0), (1, .int (x1 + (1 : Int32)))]) rfl ?_
  exact hk31 _ _
set_option maxHeartbeats 4000000 in
set_option maxRecDepth 100000 in
theorem t_X12_goEvenings_b88 {X : Scr} {i0 : Nat} (h0 : KD[i0]? = some (.inl 12)) {k31 : Int32 → Mem → Option (Unit × Mem)} (hk31 : ∀ (x1 : Int32) (M : Mem), T X eV (k31 x1 M) md_X12_goEvenings 31 [(0, .ref i0), (1, .int x1)] [] M) (x1 : Int32) (x2 : Int32) (s0 : Int32) (M : Mem) : T X eV (X12_goEvenings_b88 i0 k31 x1 x2 s0 M) md_X12_goEvenings 88 [(0, .ref i0), (1, .int x1), (2, .int x2)] [.int s0, .ref i0] M := by
  unfold X12_goEvenings_b88
  refine T_putI (ty := .int) 19 FOk_12 h0 (by decide) (by decide) rfl (by decide +kernel) rfl rfl dX12_goEvenings_88 tb_732 ?_
  refine T_mw (fun N1 => ?_)
  try dsimp only
  refine T_iload_n 2 dX12_goEvenings_91 rfl rfl ?_
  refine T_if_ne 100 dX12_goEvenings_92 (by decide) ?_ ?_
  ·
    refine T_aload_n 0 dX12_goEvenings_95 rfl rfl ?_
    refine T_iload_n 1 dX12_goEvenings_96 rfl rfl ?_
    refine T_callVU md_X12_goOne [.int x1] [] dX12_goEvenings_97 h0 rfl rfl ok_X12_goOne tb_902 tb_904 tb_22 (by decide) (Nat.le_of_ble_eq_true rfl) (fun _ _ h9 => C_X12_goOne h0 _ h9) (fun r2 M2 => ?_)
    dsimp only
    refine T_sub [0, 1] (lv' := [(0, .ref i0), (1, .int x1)]) rfl ?_
    exact t_X12_goEvenings_b100 h0 hk31 _ _
  ·
    refine T_sub [0, 1] (lv' := [(0, .ref i0), (1, .int x1)]) rfl ?_
    exact t_X12_goEvenings_b100 h0 hk31 _ _
set_option maxHeartbeats 4000000 in
set_option maxRecDepth 100000 in
theorem t_X12_goEvenings_b74 {X : Scr} {i0 : Nat} (h0 : KD[i0]? = some (.inl 12)) {k31 : Int32 → Mem → Option (Unit × Mem)} (hk31 : ∀ (x1 : Int32) (M : Mem), T X eV (k31 x1 M) md_X12_goEvenings 31 [(0, .ref i0), (1, .int x1)] [] M) (x1 : Int32) (x2 : Int32) (s0 : Int32) (M : Mem) : T X eV (X12_goEvenings_b74 i0 k31 x1 x2 s0 M) md_X12_goEvenings 74 [(0, .ref i0), (1, .int x1), (2, .int x2)] [.int s0, .ref i0] M := by
  unfold X12_goEvenings_b74
  refine T_putI (ty := .int) 18 FOk_12 h0 (by decide) (by decide) rfl (by decide +kernel) rfl rfl dX12_goEvenings_74 tb_731 ?_
  refine T_mw (fun N1 => ?_)
  try dsimp only
  refine T_aload_n 0 dX12_goEvenings_77 rfl rfl ?_
  refine T_iload_n 2 dX12_goEvenings_78 rfl rfl ?_
  refine T_if_le 86 dX12_goEvenings_79 (by decide) ?_ ?_
  ·
    refine T_bipush (v := (-6 : Int32)) (by decide) dX12_goEvenings_86 ?_
    exact t_X12_goEvenings_b88 h0 hk31 _ _ _ _
  ·
    refine T_iload_n 2 dX12_goEvenings_82 rfl rfl ?_
    refine T_goto 88 dX12_goEvenings_83 (by decide) ?_
    exact t_X12_goEvenings_b88 h0 hk31 _ _ _ _
set_option maxHeartbeats 4000000 in
set_option maxRecDepth 100000 in
theorem t_X12_goEvenings_b106 {X : Scr} {i0 : Nat} (h0 : KD[i0]? = some (.inl 12))  (M : Mem) : T X eV (X12_goEvenings_b106 i0   M) md_X12_goEvenings 106 [] [] M := by
  unfold X12_goEvenings_b106
  exact T_vret dX12_goEvenings_106 rfl
set_option maxHeartbeats 4000000 in
set_option maxRecDepth 100000 in
theorem t_X12_goEvenings_b31 {X : Scr} {i0 : Nat} (h0 : KD[i0]? = some (.inl 12)) {k31 : Int32 → Mem → Option (Unit × Mem)} (hk31 : ∀ (x1 : Int32) (M : Mem), T X eV (k31 x1 M) md_X12_goEvenings 31 [(0, .ref i0), (1, .int x1)] [] M) (x1 : Int32) (M : Mem) : T X eV (X12_goEvenings_b31 i0 k31 x1 M) md_X12_goEvenings 31 [(0, .ref i0), (1, .int x1)] [] M := by
  unfold X12_goEvenings_b31
  refine T_iload_n 1 dX12_goEvenings_31 rfl rfl ?_
  refine T_aload_n 0 dX12_goEvenings_32 rfl rfl ?_
  refine T_getI 15 FOk_12 h0 (by decide) (by decide) dX12_goEvenings_33 tb_728 ?_
  refine T_icmp_ge 106 dX12_goEvenings_36 (by decide) ?_ ?_
  ·
    refine T_sub [] (lv' := []) rfl ?_
    exact t_X12_goEvenings_b106 h0   _
  ·
    refine T_aload_n 0 dX12_goEvenings_39 rfl rfl ?_
    refine T_getI 18 FOk_12 h0 (by decide) (by decide) dX12_goEvenings_40 tb_731 ?_
    refine T_if_ge 106 dX12_goEvenings_43 (by decide) ?_ ?_
    ·
      refine T_sub [] (lv' := []) rfl ?_
      exact t_X12_goEvenings_b106 h0   _
    ·
      refine T_aload_n 0 dX12_goEvenings_46 rfl rfl ?_
      refine T_aload_n 0 dX12_goEvenings_47 rfl rfl ?_
      refine T_getR 13 FOk_12 h0 (by decide) (by decide) dX12_goEvenings_48 tb_726 ?_
      refine T_iload_n 1 dX12_goEvenings_51 rfl rfl ?_
      refine T_iald (kf_12_13 h0) dX12_goEvenings_52 ?_
      refine T_aload_n 0 dX12_goEvenings_53 rfl rfl ?_
      refine T_getR 14 FOk_12 h0 (by decide) (by decide) dX12_goEvenings_54 tb_727 ?_
      refine T_iload_n 1 dX12_goEvenings_57 rfl rfl ?_
      refine T_iald (kf_12_14 h0) dX12_goEvenings_58 ?_
      refine T_callVI md_X12_whyNot [.int (M.1 (rf i0 13) x1.toNatClampNeg), .int (M.1 (rf i0 14) x1.toNatClampNeg)] [] dX12_goEvenings_59 h0 rfl rfl ok_X12_whyNot tb_888 tb_890 tb_20 (by decide) (Nat.le_of_ble_eq_true rfl) (fun _ _ h9 => C_X12_whyNot h0 _ _ h9) (fun r1 M1 => ?_)
      dsimp only
      refine T_istore_n [(2, .int r1), (0, .ref i0), (1, .int x1)] dX12_goEvenings_62 rfl (by decide) rfl ?_
      refine T_aload_n 1 dX12_goEvenings_63 rfl rfl ?_
      refine T_iload_n 0 dX12_goEvenings_64 rfl rfl ?_
      refine T_if_le 72 dX12_goEvenings_65 (by decide) ?_ ?_
      ·
        refine T_bipush (v := (-6 : Int32)) (by decide) dX12_goEvenings_72 ?_
        refine T_sub [1, 2, 0] (lv' := [(0, .ref i0), (1, .int x1), (2, .int r1)]) rfl ?_
        exact t_X12_goEvenings_b74 h0 hk31 _ _ _ _
      ·
        refine T_iload_n 2 dX12_goEvenings_68 rfl rfl ?_
        refine T_goto 74 dX12_goEvenings_69 (by decide) ?_
        refine T_sub [1, 2, 0] (lv' := [(0, .ref i0), (1, .int x1), (2, .int r1)]) rfl ?_
        exact t_X12_goEvenings_b74 h0 hk31 _ _ _ _
theorem t_X12_goEvenings_l31 {X : Scr} {i0 : Nat} (h0 : KD[i0]? = some (.inl 12)) (n : Nat) : ∀ (x1 : Int32) (M : Mem), T X eV (X12_goEvenings_l31 i0  n x1 M) md_X12_goEvenings 31 [(0, .ref i0), (1, .int x1)] [] M := by
  induction n with
  | zero => intro x1 M; exact T_none
  | succ n ih => intro x1 M; exact t_X12_goEvenings_b31 h0 ih x1 M
set_option maxHeartbeats 4000000 in
set_option maxRecDepth 100000 in
theorem t_X12_goEvenings {X : Scr} {i0 : Nat} (h0 : KD[i0]? = some (.inl 12))  (M : Mem) : T X eV (X12_goEvenings i0   M) md_X12_goEvenings 0 [(0, .ref i0)] [] M := by
  unfold X12_goEvenings
  refine T_aload_n 0 dX12_goEvenings_0 rfl rfl ?_
  refine T_bipush (v := (-6 : Int32)) (by decide) dX12_goEvenings_1 ?_
  refine T_putI (ty := .int) 18 FOk_12 h0 (by decide) (by decide) rfl (by decide +kernel) rfl rfl dX12_goEvenings_3 tb_731 ?_
  refine T_mw (fun N1 => ?_)
  try dsimp only
  refine T_aload_n 0 dX12_goEvenings_6 rfl rfl ?_
  refine T_bipush (v := (-6 : Int32)) (by decide) dX12_goEvenings_7 ?_
  refine T_putI (ty := .int) 19 FOk_12 h0 (by decide) (by decide) rfl (by decide +kernel) rfl rfl dX12_goEvenings_9 tb_732 ?_
  refine T_mw (fun N2 => ?_)
  try dsimp only
  refine T_aload_n 0 dX12_goEvenings_12 rfl rfl ?_
  refine T_iconst (v := (0 : Int32)) (by decide) dX12_goEvenings_13 ?_
  refine T_putI (ty := .int) 16 FOk_12 h0 (by decide) (by decide) rfl (by decide +kernel) rfl rfl dX12_goEvenings_14 tb_729 ?_
  refine T_mw (fun N3 => ?_)
  try dsimp only
  refine T_aload_n 0 dX12_goEvenings_17 rfl rfl ?_
  refine T_bipush (v := (-6 : Int32)) (by decide) dX12_goEvenings_18 ?_
  refine T_putI (ty := .int) 20 FOk_12 h0 (by decide) (by decide) rfl (by decide +kernel) rfl rfl dX12_goEvenings_20 tb_733 ?_
  refine T_mw (fun N4 => ?_)
  try dsimp only
  refine T_aload_n 0 dX12_goEvenings_23 rfl rfl ?_
  refine T_bipush (v := (-6 : Int32)) (by decide) dX12_goEvenings_24 ?_
  refine T_putI (ty := .int) 21 FOk_12 h0 (by decide) (by decide) rfl (by decide +kernel) rfl rfl dX12_goEvenings_26 tb_734 ?_
  refine T_mw (fun N5 => ?_)
  try dsimp only
  refine T_iconst (v := (0 : Int32)) (by decide) dX12_goEvenings_29 ?_
  refine T_istore_n [(1, .int (0 : Int32)), (0, .ref i0)] dX12_goEvenings_30 rfl (by decide) rfl ?_
  refine T_sub [1, 0] (lv' := [(0, .ref i0), (1, .int (0 : Int32))]) rfl ?_
  exact t_X12_goEvenings_l31 h0  _ _ _
theorem C_X12_goEvenings {X : Scr} {i0 : Nat} (h0 : KD[i0]? = some (.inl 12))  {M : Mem} {r : Unit} {M' : Mem} (h : X12_goEvenings i0  M = some (r, M')) : Ct X md_X12_goEvenings [.ref i0] M (eV r) M' := Ct_of (by decide +kernel) (Nat.le_of_ble_eq_true rfl) (t_X12_goEvenings h0  M) r M' h
-- X12_refusal
def X12_refusal_b32 (i0 : Nat)  (s0 : Int32) (M : Mem) : Option (Int32 × Mem) :=
  some (s0, M)
def X12_refusal (i0 : Nat)   (M : Mem) : Option (Int32 × Mem) :=
  (X12_keepNow i0  M).bind (fun p1 =>
    (X12_fault i0  p1.2).bind (fun p2 =>
      if p2.1 < 0 then
        (X12_goEvenings i0  p2.2).bind (fun p3 =>
          if (p3.2.1 i0 18) < 0 then
            X12_refusal_b32 i0  (-6 : Int32) p3.2
          else
            X12_refusal_b32 i0  (-3 : Int32) p3.2)
      else
        some ((-5 : Int32), p2.2)))
set_option maxHeartbeats 4000000 in
set_option maxRecDepth 100000 in
theorem t_X12_refusal_b32 {X : Scr} {i0 : Nat} (h0 : KD[i0]? = some (.inl 12)) (s0 : Int32) (M : Mem) : T X eI (X12_refusal_b32 i0  s0 M) md_X12_refusal 32 [] [.int s0] M := by
  unfold X12_refusal_b32
  exact T_iret dX12_refusal_32 rfl
set_option maxHeartbeats 4000000 in
set_option maxRecDepth 100000 in
theorem t_X12_refusal {X : Scr} {i0 : Nat} (h0 : KD[i0]? = some (.inl 12))  (M : Mem) : T X eI (X12_refusal i0   M) md_X12_refusal 0 [(0, .ref i0)] [] M := by
  unfold X12_refusal
  refine T_aload_n 0 dX12_refusal_0 rfl rfl ?_
  refine T_callVU md_X12_keepNow [] [] dX12_refusal_1 h0 rfl rfl ok_X12_keepNow tb_879 tb_881 tb_18 (by decide) (Nat.le_of_ble_eq_true rfl) (fun _ _ h9 => C_X12_keepNow h0  h9) (fun r1 M1 => ?_)
  dsimp only
  refine T_aload_n 0 dX12_refusal_4 rfl rfl ?_
  refine T_callVI md_X12_fault [] [] dX12_refusal_5 h0 rfl rfl ok_X12_fault tb_883 tb_848 tb_849 (by decide) (Nat.le_of_ble_eq_true rfl) (fun _ _ h9 => C_X12_fault h0  h9) (fun r2 M2 => ?_)
  dsimp only
  refine T_if_lt 14 dX12_refusal_8 (by decide) ?_ ?_
  ·
    refine T_aload_n 0 dX12_refusal_14 rfl rfl ?_
    refine T_callVU md_X12_goEvenings [] [] dX12_refusal_15 h0 rfl rfl ok_X12_goEvenings tb_884 tb_886 tb_19 (by decide) (Nat.le_of_ble_eq_true rfl) (fun _ _ h9 => C_X12_goEvenings h0  h9) (fun r3 M3 => ?_)
    dsimp only
    refine T_aload_n 0 dX12_refusal_18 rfl rfl ?_
    refine T_getI 18 FOk_12 h0 (by decide) (by decide) dX12_refusal_19 tb_731 ?_
    refine T_if_lt 30 dX12_refusal_22 (by decide) ?_ ?_
    ·
      refine T_bipush (v := (-6 : Int32)) (by decide) dX12_refusal_30 ?_
      refine T_sub [] (lv' := []) rfl ?_
      exact t_X12_refusal_b32 h0  _ _
    ·
      refine T_bipush (v := (-3 : Int32)) (by decide) dX12_refusal_25 ?_
      refine T_goto 32 dX12_refusal_27 (by decide) ?_
      refine T_sub [] (lv' := []) rfl ?_
      exact t_X12_refusal_b32 h0  _ _
  ·
    refine T_bipush (v := (-5 : Int32)) (by decide) dX12_refusal_11 ?_
    exact T_iret dX12_refusal_13 rfl
theorem C_X12_refusal {X : Scr} {i0 : Nat} (h0 : KD[i0]? = some (.inl 12))  {M : Mem} {r : Int32} {M' : Mem} (h : X12_refusal i0  M = some (r, M')) : Ct X md_X12_refusal [.ref i0] M (eI r) M' := Ct_of (by decide +kernel) (Nat.le_of_ble_eq_true rfl) (t_X12_refusal h0  M) r M' h
-- X12_judge
def X12_judge_b41 (i0 : Nat)  (x2 : Int32) (M : Mem) : Option (Int32 × Mem) :=
  some (x2, M)
def X12_judge_b70 (i0 : Nat)  (s0 : Int32) (M : Mem) : Option (Int32 × Mem) :=
  some (s0, M)
def X12_judge_b43 (i0 : Nat)  (x1 : Int32) (M : Mem) : Option (Int32 × Mem) :=
  if x1 = 0 then
    X12_judge_b70 i0  (M.1 i0 18) M
  else
    if x1 = (1 : Int32) then
      X12_judge_b70 i0  (M.1 i0 19) M
    else
      X12_judge_b70 i0  (M.1 i0 16) M
def X12_judge (i0 : Nat)  (x1 : Int32) (M : Mem) : Option (Int32 × Mem) :=
  (X12_in  x1.toInt64 (0 : Int64) (2 : Int64) M).bind (fun p1 =>
    if p1.1 = 0 then
      some ((-2 : Int32), p1.2)
    else
      (X12_refusal i0  p1.2).bind (fun p2 =>
        (X12_back i0 p2.1 p2.2).bind (fun p3 =>
          if p3.1 = (-5 : Int32) then
            X12_judge_b41 i0  p3.1 p3.2
          else
            if x1 ≤ (1 : Int32) then
              X12_judge_b43 i0  x1 p3.2
            else
              if p3.1 = (-3 : Int32) then
                X12_judge_b41 i0  p3.1 p3.2
              else
                X12_judge_b43 i0  x1 p3.2)))
set_option maxHeartbeats 4000000 in
set_option maxRecDepth 100000 in
theorem t_X12_judge_b41 {X : Scr} {i0 : Nat} (h0 : KD[i0]? = some (.inl 12)) (x2 : Int32) (M : Mem) : T X eI (X12_judge_b41 i0  x2 M) md_X12_judge 41 [(2, .int x2)] [] M := by
  unfold X12_judge_b41
  refine T_iload_n 0 dX12_judge_41 rfl rfl ?_
  exact T_iret dX12_judge_42 rfl
set_option maxHeartbeats 4000000 in
set_option maxRecDepth 100000 in
theorem t_X12_judge_b70 {X : Scr} {i0 : Nat} (h0 : KD[i0]? = some (.inl 12)) (s0 : Int32) (M : Mem) : T X eI (X12_judge_b70 i0  s0 M) md_X12_judge 70 [] [.int s0] M := by
  unfold X12_judge_b70
  exact T_iret dX12_judge_70 rfl
set_option maxHeartbeats 4000000 in
set_option maxRecDepth 100000 in
theorem t_X12_judge_b43 {X : Scr} {i0 : Nat} (h0 : KD[i0]? = some (.inl 12)) (x1 : Int32) (M : Mem) : T X eI (X12_judge_b43 i0  x1 M) md_X12_judge 43 [(0, .ref i0), (1, .int x1)] [] M := by
  unfold X12_judge_b43
  refine T_iload_n 1 dX12_judge_43 rfl rfl ?_
  refine T_if_ne 54 dX12_judge_44 (by decide) ?_ ?_
  ·
    refine T_aload_n 0 dX12_judge_47 rfl rfl ?_
    refine T_getI 18 FOk_12 h0 (by decide) (by decide) dX12_judge_48 tb_731 ?_
    refine T_goto 70 dX12_judge_51 (by decide) ?_
    refine T_sub [] (lv' := []) rfl ?_
    exact t_X12_judge_b70 h0  _ _
  ·
    refine T_iload_n 1 dX12_judge_54 rfl rfl ?_
    refine T_iconst (v := (1 : Int32)) (by decide) dX12_judge_55 ?_
    refine T_icmp_ne 66 dX12_judge_56 (by decide) ?_ ?_
    ·
      refine T_aload_n 0 dX12_judge_59 rfl rfl ?_
      refine T_getI 19 FOk_12 h0 (by decide) (by decide) dX12_judge_60 tb_732 ?_
      refine T_goto 70 dX12_judge_63 (by decide) ?_
      refine T_sub [] (lv' := []) rfl ?_
      exact t_X12_judge_b70 h0  _ _
    ·
      refine T_aload_n 0 dX12_judge_66 rfl rfl ?_
      refine T_getI 16 FOk_12 h0 (by decide) (by decide) dX12_judge_67 tb_729 ?_
      refine T_sub [] (lv' := []) rfl ?_
      exact t_X12_judge_b70 h0  _ _
set_option maxHeartbeats 4000000 in
set_option maxRecDepth 100000 in
theorem t_X12_judge {X : Scr} {i0 : Nat} (h0 : KD[i0]? = some (.inl 12)) (x1 : Int32) (M : Mem) : T X eI (X12_judge i0  x1 M) md_X12_judge 0 [(0, .ref i0), (1, .int x1)] [] M := by
  unfold X12_judge
  refine T_iload_n 1 dX12_judge_0 rfl rfl ?_
  refine T_i2l dX12_judge_1 ?_
  refine T_lconst (v := (0 : Int64)) (by decide) dX12_judge_2 ?_
  refine T_ldc2 (v := (2 : Int64)) dX12_judge_3 tb_874 ?_
  refine T_callSI md_X12_in [.long x1.toInt64, .long (0 : Int64), .long (2 : Int64)] [] dX12_judge_6 rfl ok_X12_in tb_816 tb_817 (by decide) (Nat.le_of_ble_eq_true rfl) (fun _ _ h9 => C_X12_in  _ _ _ h9) (fun r1 M1 => ?_)
  dsimp only
  refine T_if_ne 15 dX12_judge_9 (by decide) ?_ ?_
  ·
    refine T_bipush (v := (-2 : Int32)) (by decide) dX12_judge_12 ?_
    exact T_iret dX12_judge_14 rfl
  ·
    refine T_aload_n 0 dX12_judge_15 rfl rfl ?_
    refine T_aload_n 0 dX12_judge_16 rfl rfl ?_
    refine T_callVI md_X12_refusal [] [.ref i0] dX12_judge_17 h0 rfl rfl ok_X12_refusal tb_875 tb_877 tb_17 (by decide) (Nat.le_of_ble_eq_true rfl) (fun _ _ h9 => C_X12_refusal h0  h9) (fun r2 M2 => ?_)
    dsimp only
    refine T_callVI md_X12_back [.int r2] [] dX12_judge_20 h0 rfl rfl ok_X12_back tb_930 tb_932 tb_29 (by decide) (Nat.le_of_ble_eq_true rfl) (fun _ _ h9 => C_X12_back h0 _ h9) (fun r3 M3 => ?_)
    dsimp only
    refine T_istore_n [(2, .int r3), (0, .ref i0), (1, .int x1)] dX12_judge_23 rfl (by decide) rfl ?_
    refine T_iload_n 0 dX12_judge_24 rfl rfl ?_
    refine T_bipush (v := (-5 : Int32)) (by decide) dX12_judge_25 ?_
    refine T_icmp_eq 41 dX12_judge_27 (by decide) ?_ ?_
    ·
      refine T_sub [0] (lv' := [(2, .int r3)]) rfl ?_
      exact t_X12_judge_b41 h0  _ _
    ·
      refine T_iload_n 2 dX12_judge_30 rfl rfl ?_
      refine T_iconst (v := (1 : Int32)) (by decide) dX12_judge_31 ?_
      refine T_icmp_le 43 dX12_judge_32 (by decide) ?_ ?_
      ·
        refine T_sub [1, 2] (lv' := [(0, .ref i0), (1, .int x1)]) rfl ?_
        exact t_X12_judge_b43 h0  _ _
      ·
        refine T_iload_n 0 dX12_judge_35 rfl rfl ?_
        refine T_bipush (v := (-3 : Int32)) (by decide) dX12_judge_36 ?_
        refine T_icmp_ne 43 dX12_judge_38 (by decide) ?_ ?_
        ·
          refine T_sub [0] (lv' := [(2, .int r3)]) rfl ?_
          exact t_X12_judge_b41 h0  _ _
        ·
          refine T_sub [1, 2] (lv' := [(0, .ref i0), (1, .int x1)]) rfl ?_
          exact t_X12_judge_b43 h0  _ _
theorem C_X12_judge {X : Scr} {i0 : Nat} (h0 : KD[i0]? = some (.inl 12)) (x1 : Int32) {M : Mem} {r : Int32} {M' : Mem} (h : X12_judge i0 x1 M = some (r, M')) : Ct X md_X12_judge [.ref i0, .int x1] M (eI r) M' := Ct_of (by decide +kernel) (Nat.le_of_ble_eq_true rfl) (t_X12_judge h0 _ M) r M' h
-- X12_behind
def X12_behind_b62 (i0 : Nat)  (s0 : Int32) (M : Mem) : Option (Int32 × Mem) :=
  (X12_back i0 s0 M).bind (fun p1 =>
    some (p1.1, p1.2))
def X12_behind (i0 : Nat)  (x1 : Int32) (x2 : Int32) (M : Mem) : Option (Int32 × Mem) :=
  (X12_isCabin  x1 M).bind (fun p1 =>
    if p1.1 = 0 then
      some ((-1 : Int32), p1.2)
    else
      (X12_in  x2.toInt64 (0 : Int64) (1 : Int64) p1.2).bind (fun p2 =>
        if p2.1 = 0 then
          some ((-2 : Int32), p2.2)
        else
          (X12_refusal i0  p2.2).bind (fun p3 =>
            if p3.1 = (-6 : Int32) then
              if x2 = 0 then
                gd (ib x1 10) (
                  X12_behind_b62 i0  (p3.2.1 (rf i0 0) x1.toNatClampNeg) p3.2)
              else
                gd (ib x1 10) (
                  gd (ib (p3.2.1 (rf i0 0) x1.toNatClampNeg) 10) (
                    X12_behind_b62 i0  (p3.2.1 (rf i0 1) (p3.2.1 (rf i0 0) x1.toNatClampNeg).toNatClampNeg) p3.2))
            else
              X12_behind_b62 i0  p3.1 p3.2)))
set_option maxHeartbeats 4000000 in
set_option maxRecDepth 100000 in
theorem t_X12_behind_b62 {X : Scr} {i0 : Nat} (h0 : KD[i0]? = some (.inl 12)) (s0 : Int32) (M : Mem) : T X eI (X12_behind_b62 i0  s0 M) md_X12_behind 62 [] [.int s0, .ref i0] M := by
  unfold X12_behind_b62
  refine T_callVI md_X12_back [.int s0] [] dX12_behind_62 h0 rfl rfl ok_X12_back tb_930 tb_932 tb_29 (by decide) (Nat.le_of_ble_eq_true rfl) (fun _ _ h9 => C_X12_back h0 _ h9) (fun r1 M1 => ?_)
  dsimp only
  exact T_iret dX12_behind_65 rfl
set_option maxHeartbeats 4000000 in
set_option maxRecDepth 100000 in
theorem t_X12_behind {X : Scr} {i0 : Nat} (h0 : KD[i0]? = some (.inl 12)) (x1 : Int32) (x2 : Int32) (M : Mem) : T X eI (X12_behind i0  x1 x2 M) md_X12_behind 0 [(0, .ref i0), (1, .int x1), (2, .int x2)] [] M := by
  unfold X12_behind
  refine T_iload_n 1 dX12_behind_0 rfl rfl ?_
  refine T_callSI md_X12_isCabin [.int x1] [] dX12_behind_1 rfl ok_X12_isCabin tb_812 tb_813 (by decide) (Nat.le_of_ble_eq_true rfl) (fun _ _ h9 => C_X12_isCabin  _ h9) (fun r1 M1 => ?_)
  dsimp only
  refine T_if_ne 9 dX12_behind_4 (by decide) ?_ ?_
  ·
    refine T_iconst (v := (-1 : Int32)) (by decide) dX12_behind_7 ?_
    exact T_iret dX12_behind_8 rfl
  ·
    refine T_iload_n 2 dX12_behind_9 rfl rfl ?_
    refine T_i2l dX12_behind_10 ?_
    refine T_lconst (v := (0 : Int64)) (by decide) dX12_behind_11 ?_
    refine T_lconst (v := (1 : Int64)) (by decide) dX12_behind_12 ?_
    refine T_callSI md_X12_in [.long x2.toInt64, .long (0 : Int64), .long (1 : Int64)] [] dX12_behind_13 rfl ok_X12_in tb_816 tb_817 (by decide) (Nat.le_of_ble_eq_true rfl) (fun _ _ h9 => C_X12_in  _ _ _ h9) (fun r2 M2 => ?_)
    dsimp only
    refine T_if_ne 22 dX12_behind_16 (by decide) ?_ ?_
    ·
      refine T_bipush (v := (-2 : Int32)) (by decide) dX12_behind_19 ?_
      exact T_iret dX12_behind_21 rfl
    ·
      refine T_aload_n 0 dX12_behind_22 rfl rfl ?_
      refine T_callVI md_X12_refusal [] [] dX12_behind_23 h0 rfl rfl ok_X12_refusal tb_875 tb_877 tb_17 (by decide) (Nat.le_of_ble_eq_true rfl) (fun _ _ h9 => C_X12_refusal h0  h9) (fun r3 M3 => ?_)
      dsimp only
      refine T_istore_n [(3, .int r3), (0, .ref i0), (1, .int x1), (2, .int x2)] dX12_behind_26 rfl (by decide) rfl ?_
      refine T_aload_n 1 dX12_behind_27 rfl rfl ?_
      refine T_iload_n 0 dX12_behind_28 rfl rfl ?_
      refine T_bipush (v := (-6 : Int32)) (by decide) dX12_behind_29 ?_
      refine T_icmp_eq 38 dX12_behind_31 (by decide) ?_ ?_
      ·
        refine T_iload_n 3 dX12_behind_38 rfl rfl ?_
        refine T_if_ne 51 dX12_behind_39 (by decide) ?_ ?_
        ·
          refine T_aload_n 1 dX12_behind_42 rfl rfl ?_
          refine T_getR 0 FOk_12 h0 (by decide) (by decide) dX12_behind_43 tb_713 ?_
          refine T_iload_n 2 dX12_behind_46 rfl rfl ?_
          refine T_iald (kf_12_0 h0) dX12_behind_47 ?_
          refine T_goto 62 dX12_behind_48 (by decide) ?_
          refine T_sub [] (lv' := []) rfl ?_
          exact t_X12_behind_b62 h0  _ _
        ·
          refine T_aload_n 1 dX12_behind_51 rfl rfl ?_
          refine T_getR 1 FOk_12 h0 (by decide) (by decide) dX12_behind_52 tb_714 ?_
          refine T_aload_n 1 dX12_behind_55 rfl rfl ?_
          refine T_getR 0 FOk_12 h0 (by decide) (by decide) dX12_behind_56 tb_713 ?_
          refine T_iload_n 2 dX12_behind_59 rfl rfl ?_
          refine T_iald (kf_12_0 h0) dX12_behind_60 ?_
          refine T_iald (kf_12_1 h0) dX12_behind_61 ?_
          refine T_sub [] (lv' := []) rfl ?_
          exact t_X12_behind_b62 h0  _ _
      ·
        refine T_iload_n 0 dX12_behind_34 rfl rfl ?_
        refine T_goto 62 dX12_behind_35 (by decide) ?_
        refine T_sub [] (lv' := []) rfl ?_
        exact t_X12_behind_b62 h0  _ _
theorem C_X12_behind {X : Scr} {i0 : Nat} (h0 : KD[i0]? = some (.inl 12)) (x1 : Int32) (x2 : Int32) {M : Mem} {r : Int32} {M' : Mem} (h : X12_behind i0 x1 x2 M = some (r, M')) : Ct X md_X12_behind [.ref i0, .int x1, .int x2] M (eI r) M' := Ct_of (by decide +kernel) (Nat.le_of_ble_eq_true rfl) (t_X12_behind h0 _ _ M) r M' h
-- X12_his
def X12_his_b70 (i0 : Nat)  (s0 : Int32) (M : Mem) : Option (Int32 × Mem) :=
  (X12_back i0 s0 M).bind (fun p1 =>
    some (p1.1, p1.2))
def X12_his (i0 : Nat)  (x1 : Int32) (M : Mem) : Option (Int32 × Mem) :=
  (X12_in  x1.toInt64 (0 : Int64) (3 : Int64) M).bind (fun p1 =>
    if p1.1 = 0 then
      some ((-2 : Int32), p1.2)
    else
      (X12_refusal i0  p1.2).bind (fun p2 =>
        if p2.1 = (-6 : Int32) then
          if x1 = 0 then
            X12_his_b70 i0  (p2.2.1 i0 3) p2.2
          else
            if x1 = (1 : Int32) then
              X12_his_b70 i0  (p2.2.1 i0 4) p2.2
            else
              if x1 = (2 : Int32) then
                X12_his_b70 i0  (p2.2.1 i0 5) p2.2
              else
                X12_his_b70 i0  (p2.2.1 i0 6) p2.2
        else
          X12_his_b70 i0  p2.1 p2.2))
set_option maxHeartbeats 4000000 in
set_option maxRecDepth 100000 in
theorem t_X12_his_b70 {X : Scr} {i0 : Nat} (h0 : KD[i0]? = some (.inl 12)) (s0 : Int32) (M : Mem) : T X eI (X12_his_b70 i0  s0 M) md_X12_his 70 [] [.int s0, .ref i0] M := by
  unfold X12_his_b70
  refine T_callVI md_X12_back [.int s0] [] dX12_his_70 h0 rfl rfl ok_X12_back tb_930 tb_932 tb_29 (by decide) (Nat.le_of_ble_eq_true rfl) (fun _ _ h9 => C_X12_back h0 _ h9) (fun r1 M1 => ?_)
  dsimp only
  exact T_iret dX12_his_73 rfl
set_option maxHeartbeats 4000000 in
set_option maxRecDepth 100000 in
theorem t_X12_his {X : Scr} {i0 : Nat} (h0 : KD[i0]? = some (.inl 12)) (x1 : Int32) (M : Mem) : T X eI (X12_his i0  x1 M) md_X12_his 0 [(0, .ref i0), (1, .int x1)] [] M := by
  unfold X12_his
  refine T_iload_n 1 dX12_his_0 rfl rfl ?_
  refine T_i2l dX12_his_1 ?_
  refine T_lconst (v := (0 : Int64)) (by decide) dX12_his_2 ?_
  refine T_ldc2 (v := (3 : Int64)) dX12_his_3 tb_942 ?_
  refine T_callSI md_X12_in [.long x1.toInt64, .long (0 : Int64), .long (3 : Int64)] [] dX12_his_6 rfl ok_X12_in tb_816 tb_817 (by decide) (Nat.le_of_ble_eq_true rfl) (fun _ _ h9 => C_X12_in  _ _ _ h9) (fun r1 M1 => ?_)
  dsimp only
  refine T_if_ne 15 dX12_his_9 (by decide) ?_ ?_
  ·
    refine T_bipush (v := (-2 : Int32)) (by decide) dX12_his_12 ?_
    exact T_iret dX12_his_14 rfl
  ·
    refine T_aload_n 0 dX12_his_15 rfl rfl ?_
    refine T_callVI md_X12_refusal [] [] dX12_his_16 h0 rfl rfl ok_X12_refusal tb_875 tb_877 tb_17 (by decide) (Nat.le_of_ble_eq_true rfl) (fun _ _ h9 => C_X12_refusal h0  h9) (fun r2 M2 => ?_)
    dsimp only
    refine T_istore_n [(2, .int r2), (0, .ref i0), (1, .int x1)] dX12_his_19 rfl (by decide) rfl ?_
    refine T_aload_n 1 dX12_his_20 rfl rfl ?_
    refine T_iload_n 0 dX12_his_21 rfl rfl ?_
    refine T_bipush (v := (-6 : Int32)) (by decide) dX12_his_22 ?_
    refine T_icmp_eq 31 dX12_his_24 (by decide) ?_ ?_
    ·
      refine T_iload_n 2 dX12_his_31 rfl rfl ?_
      refine T_if_ne 42 dX12_his_32 (by decide) ?_ ?_
      ·
        refine T_aload_n 1 dX12_his_35 rfl rfl ?_
        refine T_getI 3 FOk_12 h0 (by decide) (by decide) dX12_his_36 tb_716 ?_
        refine T_goto 70 dX12_his_39 (by decide) ?_
        refine T_sub [] (lv' := []) rfl ?_
        exact t_X12_his_b70 h0  _ _
      ·
        refine T_iload_n 2 dX12_his_42 rfl rfl ?_
        refine T_iconst (v := (1 : Int32)) (by decide) dX12_his_43 ?_
        refine T_icmp_ne 54 dX12_his_44 (by decide) ?_ ?_
        ·
          refine T_aload_n 1 dX12_his_47 rfl rfl ?_
          refine T_getI 4 FOk_12 h0 (by decide) (by decide) dX12_his_48 tb_717 ?_
          refine T_goto 70 dX12_his_51 (by decide) ?_
          refine T_sub [] (lv' := []) rfl ?_
          exact t_X12_his_b70 h0  _ _
        ·
          refine T_iload_n 2 dX12_his_54 rfl rfl ?_
          refine T_iconst (v := (2 : Int32)) (by decide) dX12_his_55 ?_
          refine T_icmp_ne 66 dX12_his_56 (by decide) ?_ ?_
          ·
            refine T_aload_n 1 dX12_his_59 rfl rfl ?_
            refine T_getI 5 FOk_12 h0 (by decide) (by decide) dX12_his_60 tb_718 ?_
            refine T_goto 70 dX12_his_63 (by decide) ?_
            refine T_sub [] (lv' := []) rfl ?_
            exact t_X12_his_b70 h0  _ _
          ·
            refine T_aload_n 1 dX12_his_66 rfl rfl ?_
            refine T_getI 6 FOk_12 h0 (by decide) (by decide) dX12_his_67 tb_719 ?_
            refine T_sub [] (lv' := []) rfl ?_
            exact t_X12_his_b70 h0  _ _
    ·
      refine T_iload_n 0 dX12_his_27 rfl rfl ?_
      refine T_goto 70 dX12_his_28 (by decide) ?_
      refine T_sub [] (lv' := []) rfl ?_
      exact t_X12_his_b70 h0  _ _
theorem C_X12_his {X : Scr} {i0 : Nat} (h0 : KD[i0]? = some (.inl 12)) (x1 : Int32) {M : Mem} {r : Int32} {M' : Mem} (h : X12_his i0 x1 M = some (r, M')) : Ct X md_X12_his [.ref i0, .int x1] M (eI r) M' := Ct_of (by decide +kernel) (Nat.le_of_ble_eq_true rfl) (t_X12_his h0 _ M) r M' h
-- X12_wrong
def X12_wrong_b58 (i0 : Nat)  (s0 : Int32) (M : Mem) : Option (Int32 × Mem) :=
  (X12_back i0 s0 M).bind (fun p1 =>
    some (p1.1, p1.2))
def X12_wrong (i0 : Nat)  (x1 : Int32) (M : Mem) : Option (Int32 × Mem) :=
  (X12_in  x1.toInt64 (0 : Int64) (2 : Int64) M).bind (fun p1 =>
    if p1.1 = 0 then
      some ((-2 : Int32), p1.2)
    else
      (X12_refusal i0  p1.2).bind (fun p2 =>
        if p2.1 = (-6 : Int32) then
          if x1 = 0 then
            (X12_wrongMany i0  p2.2).bind (fun p3 =>
              X12_wrong_b58 i0  p3.1 p3.2)
          else
            if x1 = (1 : Int32) then
              X12_wrong_b58 i0  (p2.2.1 i0 20) p2.2
            else
              X12_wrong_b58 i0  (p2.2.1 i0 21) p2.2
        else
          X12_wrong_b58 i0  p2.1 p2.2))
set_option maxHeartbeats 4000000 in
set_option maxRecDepth 100000 in
theorem t_X12_wrong_b58 {X : Scr} {i0 : Nat} (h0 : KD[i0]? = some (.inl 12)) (s0 : Int32) (M : Mem) : T X eI (X12_wrong_b58 i0  s0 M) md_X12_wrong 58 [] [.int s0, .ref i0] M := by
  unfold X12_wrong_b58
  refine T_callVI md_X12_back [.int s0] [] dX12_wrong_58 h0 rfl rfl ok_X12_back tb_930 tb_932 tb_29 (by decide) (Nat.le_of_ble_eq_true rfl) (fun _ _ h9 => C_X12_back h0 _ h9) (fun r1 M1 => ?_)
  dsimp only
  exact T_iret dX12_wrong_61 rfl
set_option maxHeartbeats 4000000 in
set_option maxRecDepth 100000 in
theorem t_X12_wrong {X : Scr} {i0 : Nat} (h0 : KD[i0]? = some (.inl 12)) (x1 : Int32) (M : Mem) : T X eI (X12_wrong i0  x1 M) md_X12_wrong 0 [(0, .ref i0), (1, .int x1)] [] M := by
  unfold X12_wrong
  refine T_iload_n 1 dX12_wrong_0 rfl rfl ?_
  refine T_i2l dX12_wrong_1 ?_
  refine T_lconst (v := (0 : Int64)) (by decide) dX12_wrong_2 ?_
  refine T_ldc2 (v := (2 : Int64)) dX12_wrong_3 tb_874 ?_
  refine T_callSI md_X12_in [.long x1.toInt64, .long (0 : Int64), .long (2 : Int64)] [] dX12_wrong_6 rfl ok_X12_in tb_816 tb_817 (by decide) (Nat.le_of_ble_eq_true rfl) (fun _ _ h9 => C_X12_in  _ _ _ h9) (fun r1 M1 => ?_)
  dsimp only
  refine T_if_ne 15 dX12_wrong_9 (by decide) ?_ ?_
  ·
    refine T_bipush (v := (-2 : Int32)) (by decide) dX12_wrong_12 ?_
    exact T_iret dX12_wrong_14 rfl
  ·
    refine T_aload_n 0 dX12_wrong_15 rfl rfl ?_
    refine T_callVI md_X12_refusal [] [] dX12_wrong_16 h0 rfl rfl ok_X12_refusal tb_875 tb_877 tb_17 (by decide) (Nat.le_of_ble_eq_true rfl) (fun _ _ h9 => C_X12_refusal h0  h9) (fun r2 M2 => ?_)
    dsimp only
    refine T_istore_n [(2, .int r2), (0, .ref i0), (1, .int x1)] dX12_wrong_19 rfl (by decide) rfl ?_
    refine T_aload_n 1 dX12_wrong_20 rfl rfl ?_
    refine T_iload_n 0 dX12_wrong_21 rfl rfl ?_
    refine T_bipush (v := (-6 : Int32)) (by decide) dX12_wrong_22 ?_
    refine T_icmp_eq 31 dX12_wrong_24 (by decide) ?_ ?_
    ·
      refine T_iload_n 2 dX12_wrong_31 rfl rfl ?_
      refine T_if_ne 42 dX12_wrong_32 (by decide) ?_ ?_
      ·
        refine T_aload_n 1 dX12_wrong_35 rfl rfl ?_
        refine T_callVI md_X12_wrongMany [] [.ref i0] dX12_wrong_36 h0 rfl rfl ok_X12_wrongMany tb_824 tb_826 tb_13 (by decide) (Nat.le_of_ble_eq_true rfl) (fun _ _ h9 => C_X12_wrongMany h0  h9) (fun r3 M3 => ?_)
        dsimp only
        refine T_goto 58 dX12_wrong_39 (by decide) ?_
        refine T_sub [] (lv' := []) rfl ?_
        exact t_X12_wrong_b58 h0  _ _
      ·
        refine T_iload_n 2 dX12_wrong_42 rfl rfl ?_
        refine T_iconst (v := (1 : Int32)) (by decide) dX12_wrong_43 ?_
        refine T_icmp_ne 54 dX12_wrong_44 (by decide) ?_ ?_
        ·
          refine T_aload_n 1 dX12_wrong_47 rfl rfl ?_
          refine T_getI 20 FOk_12 h0 (by decide) (by decide) dX12_wrong_48 tb_733 ?_
          refine T_goto 58 dX12_wrong_51 (by decide) ?_
          refine T_sub [] (lv' := []) rfl ?_
          exact t_X12_wrong_b58 h0  _ _
        ·
          refine T_aload_n 1 dX12_wrong_54 rfl rfl ?_
          refine T_getI 21 FOk_12 h0 (by decide) (by decide) dX12_wrong_55 tb_734 ?_
          refine T_sub [] (lv' := []) rfl ?_
          exact t_X12_wrong_b58 h0  _ _
    ·
      refine T_iload_n 0 dX12_wrong_27 rfl rfl ?_
      refine T_goto 58 dX12_wrong_28 (by decide) ?_
      refine T_sub [] (lv' := []) rfl ?_
      exact t_X12_wrong_b58 h0  _ _
theorem C_X12_wrong {X : Scr} {i0 : Nat} (h0 : KD[i0]? = some (.inl 12)) (x1 : Int32) {M : Mem} {r : Int32} {M' : Mem} (h : X12_wrong i0 x1 M = some (r, M')) : Ct X md_X12_wrong [.ref i0, .int x1] M (eI r) M' := Ct_of (by decide +kernel) (Nat.le_of_ble_eq_true rfl) (t_X12_wrong h0 _ M) r M' h
-- X12_done
def X12_done (i0 : Nat)   (M : Mem) : Option (Int32 × Mem) :=
  (X12_refusal i0  M).bind (fun p1 =>
    if p1.1 = (-6 : Int32) then
      some (((mI p1.2 i0 12 (0 : Int32)).1 i0 15), (mI p1.2 i0 12 (0 : Int32)))
    else
      (X12_back i0 p1.1 p1.2).bind (fun p2 =>
        some (p2.1, p2.2)))
set_option maxHeartbeats 4000000 in
set_option maxRecDepth 100000 in
theorem t_X12_done {X : Scr} {i0 : Nat} (h0 : KD[i0]? = some (.inl 12))  (M : Mem) : T X eI (X12_done i0   M) md_X12_done 0 [(0, .ref i0)] [] M := by
  unfold X12_done
  refine T_aload_n 0 dX12_done_0 rfl rfl ?_
  refine T_callVI md_X12_refusal [] [] dX12_done_1 h0 rfl rfl ok_X12_refusal tb_875 tb_877 tb_17 (by decide) (Nat.le_of_ble_eq_true rfl) (fun _ _ h9 => C_X12_refusal h0  h9) (fun r1 M1 => ?_)
  dsimp only
  refine T_istore_n [(1, .int r1), (0, .ref i0)] dX12_done_4 rfl (by decide) rfl ?_
  refine T_iload_n 0 dX12_done_5 rfl rfl ?_
  refine T_bipush (v := (-6 : Int32)) (by decide) dX12_done_6 ?_
  refine T_icmp_eq 17 dX12_done_8 (by decide) ?_ ?_
  ·
    refine T_aload_n 1 dX12_done_17 rfl rfl ?_
    refine T_iconst (v := (0 : Int32)) (by decide) dX12_done_18 ?_
    refine T_putI (ty := .int) 12 FOk_12 h0 (by decide) (by decide) rfl (by decide +kernel) rfl rfl dX12_done_19 tb_725 ?_
    refine T_aload_n 1 dX12_done_22 rfl rfl ?_
    refine T_getI 15 FOk_12 h0 (by decide) (by decide) dX12_done_23 tb_728 ?_
    exact T_iret dX12_done_26 rfl
  ·
    refine T_aload_n 1 dX12_done_11 rfl rfl ?_
    refine T_iload_n 0 dX12_done_12 rfl rfl ?_
    refine T_callVI md_X12_back [.int r1] [] dX12_done_13 h0 rfl rfl ok_X12_back tb_930 tb_932 tb_29 (by decide) (Nat.le_of_ble_eq_true rfl) (fun _ _ h9 => C_X12_back h0 _ h9) (fun r2 M2 => ?_)
    dsimp only
    exact T_iret dX12_done_16 rfl
theorem C_X12_done {X : Scr} {i0 : Nat} (h0 : KD[i0]? = some (.inl 12))  {M : Mem} {r : Int32} {M' : Mem} (h : X12_done i0  M = some (r, M')) : Ct X md_X12_done [.ref i0] M (eI r) M' := Ct_of (by decide +kernel) (Nat.le_of_ble_eq_true rfl) (t_X12_done h0  M) r M' h
-- X12_less
def X12_less_b10   (s0 : Int32) (M : Mem) : Option (Int32 × Mem) :=
  some (s0, M)
def X12_less   (x0 : Int32) (x1 : Int32) (M : Mem) : Option (Int32 × Mem) :=
  if x1 ≤ x0 then
    X12_less_b10   x1 M
  else
    X12_less_b10   x0 M
set_option maxHeartbeats 4000000 in
set_option maxRecDepth 100000 in
theorem t_X12_less_b10 {X : Scr}   (s0 : Int32) (M : Mem) : T X eI (X12_less_b10   s0 M) md_X12_less 10 [] [.int s0] M := by
  unfold X12_less_b10
  exact T_iret dX12_less_10 rfl
set_option maxHeartbeats 4000000 in
set_option maxRecDepth 100000 in
theorem t_X12_less {X : Scr}   (x0 : Int32) (x1 : Int32) (M : Mem) : T X eI (X12_less   x0 x1 M) md_X12_less 0 [(0, .int x0), (1, .int x1)] [] M := by
  unfold X12_less
  refine T_iload_n 0 dX12_less_0 rfl rfl ?_
  refine T_iload_n 1 dX12_less_1 rfl rfl ?_
  refine T_icmp_ge 9 dX12_less_2 (by decide) ?_ ?_
  ·
    refine T_iload_n 1 dX12_less_9 rfl rfl ?_
    refine T_sub [] (lv' := []) rfl ?_
    exact t_X12_less_b10   _ _
  ·
    refine T_iload_n 0 dX12_less_5 rfl rfl ?_
    refine T_goto 10 dX12_less_6 (by decide) ?_
    refine T_sub [] (lv' := []) rfl ?_
    exact t_X12_less_b10   _ _
theorem C_X12_less {X : Scr}   (x0 : Int32) (x1 : Int32) {M : Mem} {r : Int32} {M' : Mem} (h : X12_less  x0 x1 M = some (r, M')) : Ct X md_X12_less [.int x0, .int x1] M (eI r) M' := Ct_of (by decide +kernel) (Nat.le_of_ble_eq_true rfl) (t_X12_less  _ _ M) r M' h
-- X12_more
def X12_more_b10   (s0 : Int32) (M : Mem) : Option (Int32 × Mem) :=
  some (s0, M)
def X12_more   (x0 : Int32) (x1 : Int32) (M : Mem) : Option (Int32 × Mem) :=
  if x0 ≤ x1 then
    X12_more_b10   x1 M
  else
    X12_more_b10   x0 M
set_option maxHeartbeats 4000000 in
set_option maxRecDepth 100000 in
theorem t_X12_more_b10 {X : Scr}   (s0 : Int32) (M : Mem) : T X eI (X12_more_b10   s0 M) md_X12_more 10 [] [.int s0] M := by
  unfold X12_more_b10
  exact T_iret dX12_more_10 rfl
set_option maxHeartbeats 4000000 in
set_option maxRecDepth 100000 in
theorem t_X12_more {X : Scr}   (x0 : Int32) (x1 : Int32) (M : Mem) : T X eI (X12_more   x0 x1 M) md_X12_more 0 [(0, .int x0), (1, .int x1)] [] M := by
  unfold X12_more
  refine T_iload_n 0 dX12_more_0 rfl rfl ?_
  refine T_iload_n 1 dX12_more_1 rfl rfl ?_
  refine T_icmp_le 9 dX12_more_2 (by decide) ?_ ?_
  ·
    refine T_iload_n 1 dX12_more_9 rfl rfl ?_
    refine T_sub [] (lv' := []) rfl ?_
    exact t_X12_more_b10   _ _
  ·
    refine T_iload_n 0 dX12_more_5 rfl rfl ?_
    refine T_goto 10 dX12_more_6 (by decide) ?_
    refine T_sub [] (lv' := []) rfl ?_
    exact t_X12_more_b10   _ _
theorem C_X12_more {X : Scr}   (x0 : Int32) (x1 : Int32) {M : Mem} {r : Int32} {M' : Mem} (h : X12_more  x0 x1 M = some (r, M')) : Ct X md_X12_more [.int x0, .int x1] M (eI r) M' := Ct_of (by decide +kernel) (Nat.le_of_ble_eq_true rfl) (t_X12_more  _ _ M) r M' h
-- X12_minutesBy
def X12_minutesBy_b74 (i0 : Nat) (k25 : Int32 → Int32 → Int32 → Int32 → Int32 → Int32 → Mem → Option (Int32 × Mem)) (x1 : Int32) (x2 : Int32) (x3 : Int32) (x4 : Int32) (x5 : Int32) (x6 : Int32) (M : Mem) : Option (Int32 × Mem) :=
  k25 x1 x2 x3 x4 x5 (x6 + (1 : Int32)) M
def X12_minutesBy_b25 (i0 : Nat) (k25 : Int32 → Int32 → Int32 → Int32 → Int32 → Int32 → Mem → Option (Int32 × Mem)) (x1 : Int32) (x2 : Int32) (x3 : Int32) (x4 : Int32) (x5 : Int32) (x6 : Int32) (M : Mem) : Option (Int32 × Mem) :=
  if (10 : Int32) ≤ x6 then
    (X12_less  ((((((M.1 i0 3) - x3) + x4) - x3) + x4) - x2) (((((x4 - (M.1 i0 3)) + x4) - x3) + x2) - x3) M).bind (fun p1 =>
      some ((x5 + p1.1), p1.2))
  else
    (X12_isIn  x1 x6 M).bind (fun p2 =>
      if p2.1 = 0 then
        X12_minutesBy_b74 i0 k25 x1 x2 x3 x4 x5 x6 p2.2
      else
        (X12_less  x3 x6 p2.2).bind (fun p3 =>
          (X12_more  x4 x6 p3.2).bind (fun p4 =>
            gd (ib x6 10) (
              gd (ib (p4.2.1 (rf i0 0) x6.toNatClampNeg) 10) (
                X12_minutesBy_b74 i0 k25 x1 x2 p3.1 p4.1 (x5 + (p4.2.1 (rf i0 2) (p4.2.1 (rf i0 0) x6.toNatClampNeg).toNatClampNeg)) x6 p4.2)))))
def X12_minutesBy_l25 (i0 : Nat)  : Nat → Int32 → Int32 → Int32 → Int32 → Int32 → Int32 → Mem → Option (Int32 × Mem)
  | 0 => fun _ _ _ _ _ _ _ => none
  | n + 1 => X12_minutesBy_b25 i0 (X12_minutesBy_l25 i0  n)
def X12_minutesBy (i0 : Nat)  (x1 : Int32) (x2 : Int32) (M : Mem) : Option (Int32 × Mem) :=
  (X12_less  (M.1 i0 3) x2 M).bind (fun p1 =>
    (X12_more  (p1.2.1 i0 3) x2 p1.2).bind (fun p2 =>
      X12_minutesBy_l25 i0  FU x1 x2 p1.1 p2.1 (0 : Int32) (0 : Int32) p2.2))
set_option maxHeartbeats 4000000 in
set_option maxRecDepth 100000 in
theorem t_X12_minutesBy_b74 {X : Scr} {i0 : Nat} (h0 : KD[i0]? = some (.inl 12)) {k25 : Int32 → Int32 → Int32 → Int32 → Int32 → Int32 → Mem → Option (Int32 × Mem)} (hk25 : ∀ (x1 : Int32) (x2 : Int32) (x3 : Int32) (x4 : Int32) (x5 : Int32) (x6 : Int32) (M : Mem), T X eI (k25 x1 x2 x3 x4 x5 x6 M) md_X12_minutesBy 25 [(0, .ref i0), (1, .int x1), (2, .int x2), (3, .int x3), (4, .int x4), (5, .int x5), (6, .int x6)] [] M) (x1 : Int32) (x2 : Int32) (x3 : Int32) (x4 : Int32) (x5 : Int32) (x6 : Int32) (M : Mem) : T X eI (X12_minutesBy_b74 i0 k25 x1 x2 x3 x4 x5 x6 M) md_X12_minutesBy 74 [(0, .ref i0), (1, .int x1), (2, .int x2), (3, .int x3), (4, .int x4), (5, .int x5), (6, .int x6)] [] M := by
  unfold X12_minutesBy_b74
  refine T_iinc 6 [(6, .int (x6 + (1 : Int32))), (0, .ref i0), (1, .int x1), (2, .int x2), (3, .int x3), (4, .int x4), (5, .int x5)] (v := (1 : Int32)) dX12_minutesBy_74 rfl (by decide) (by decide) rfl ?_
  refine T_goto 25 dX12_minutesBy_77 (by decide) ?_
  refine T_sub [1, 2, 3, 4, 5, 6, 0] (lv' := [(0, .ref i0), (1, .int x1), (2, .int x2), (3, .int x3), (4, .int x4), (5, .int x5), (6, .int (x6 + (1 : Int32)))]) rfl ?_
  exact hk25 _ _ _ _ _ _ _
set_option maxHeartbeats 4000000 in
set_option maxRecDepth 100000 in
theorem t_X12_minutesBy_b25 {X : Scr} {i0 : Nat} (h0 : KD[i0]? = some (.inl 12)) {k25 : Int32 → Int32 → Int32 → Int32 → Int32 → Int32 → Mem → Option (Int32 × Mem)} (hk25 : ∀ (x1 : Int32) (x2 : Int32) (x3 : Int32) (x4 : Int32) (x5 : Int32) (x6 : Int32) (M : Mem), T X eI (k25 x1 x2 x3 x4 x5 x6 M) md_X12_minutesBy 25 [(0, .ref i0), (1, .int x1), (2, .int x2), (3, .int x3), (4, .int x4), (5, .int x5), (6, .int x6)] [] M) (x1 : Int32) (x2 : Int32) (x3 : Int32) (x4 : Int32) (x5 : Int32) (x6 : Int32) (M : Mem) : T X eI (X12_minutesBy_b25 i0 k25 x1 x2 x3 x4 x5 x6 M) md_X12_minutesBy 25 [(0, .ref i0), (1, .int x1), (2, .int x2), (3, .int x3), (4, .int x4), (5, .int x5), (6, .int x6)] [] M := by
  unfold X12_minutesBy_b25
  refine T_iload 6 dX12_minutesBy_25 rfl ?_
  refine T_bipush (v := (10 : Int32)) (by decide) dX12_minutesBy_27 ?_
  refine T_icmp_ge 80 dX12_minutesBy_29 (by decide) ?_ ?_
  ·
    refine T_aload_n 0 dX12_minutesBy_80 rfl rfl ?_
    refine T_getI 3 FOk_12 h0 (by decide) (by decide) dX12_minutesBy_81 tb_716 ?_
    refine T_iload_n 3 dX12_minutesBy_84 rfl rfl ?_
    refine T_isub dX12_minutesBy_85 ?_
    refine T_iload 4 dX12_minutesBy_86 rfl ?_
    refine T_iadd dX12_minutesBy_88 ?_
    refine T_iload_n 3 dX12_minutesBy_89 rfl rfl ?_
    refine T_isub dX12_minutesBy_90 ?_
    refine T_iload 4 dX12_minutesBy_91 rfl ?_
    refine T_iadd dX12_minutesBy_93 ?_
    refine T_iload_n 2 dX12_minutesBy_94 rfl rfl ?_
    refine T_isub dX12_minutesBy_95 ?_
    refine T_istore [(6, .int ((((((M.1 i0 3) - x3) + x4) - x3) + x4) - x2)), (0, .ref i0), (1, .int x1), (2, .int x2), (3, .int x3), (4, .int x4), (5, .int x5)] dX12_minutesBy_96 (by decide) rfl ?_
    refine T_iload 5 dX12_minutesBy_98 rfl ?_
    refine T_aload_n 1 dX12_minutesBy_100 rfl rfl ?_
    refine T_getI 3 FOk_12 h0 (by decide) (by decide) dX12_minutesBy_101 tb_716 ?_
    refine T_isub dX12_minutesBy_104 ?_
    refine T_iload 5 dX12_minutesBy_105 rfl ?_
    refine T_iadd dX12_minutesBy_107 ?_
    refine T_iload_n 4 dX12_minutesBy_108 rfl rfl ?_
    refine T_isub dX12_minutesBy_109 ?_
    refine T_iload_n 3 dX12_minutesBy_110 rfl rfl ?_
    refine T_iadd dX12_minutesBy_111 ?_
    refine T_iload_n 4 dX12_minutesBy_112 rfl rfl ?_
    refine T_isub dX12_minutesBy_113 ?_
    refine T_istore [(7, .int (((((x4 - (M.1 i0 3)) + x4) - x3) + x2) - x3)), (6, .int ((((((M.1 i0 3) - x3) + x4) - x3) + x4) - x2)), (0, .ref i0), (1, .int x1), (2, .int x2), (3, .int x3), (4, .int x4), (5, .int x5)] dX12_minutesBy_114 (by decide) rfl ?_
    refine T_iload 7 dX12_minutesBy_116 rfl ?_
    refine T_iload 1 dX12_minutesBy_118 rfl ?_
    refine T_iload 0 dX12_minutesBy_120 rfl ?_
    refine T_callSI md_X12_less [.int ((((((M.1 i0 3) - x3) + x4) - x3) + x4) - x2), .int (((((x4 - (M.1 i0 3)) + x4) - x3) + x2) - x3)] [.int x5] dX12_minutesBy_122 rfl ok_X12_less tb_962 tb_963 (by decide) (Nat.le_of_ble_eq_true rfl) (fun _ _ h9 => C_X12_less  _ _ h9) (fun r1 M1 => ?_)
    dsimp only
    refine T_iadd dX12_minutesBy_125 ?_
    exact T_iret dX12_minutesBy_126 rfl
  ·
    refine T_iload_n 1 dX12_minutesBy_32 rfl rfl ?_
    refine T_iload 6 dX12_minutesBy_33 rfl ?_
    refine T_callSI md_X12_isIn [.int x1, .int x6] [] dX12_minutesBy_35 rfl ok_X12_isIn tb_895 tb_896 (by decide) (Nat.le_of_ble_eq_true rfl) (fun _ _ h9 => C_X12_isIn  _ _ h9) (fun r2 M2 => ?_)
    dsimp only
    refine T_if_eq 74 dX12_minutesBy_38 (by decide) ?_ ?_
    ·
      exact t_X12_minutesBy_b74 h0 hk25 _ _ _ _ _ _ _
    ·
      refine T_iload_n 3 dX12_minutesBy_41 rfl rfl ?_
      refine T_iload 6 dX12_minutesBy_42 rfl ?_
      refine T_callSI md_X12_less [.int x3, .int x6] [] dX12_minutesBy_44 rfl ok_X12_less tb_962 tb_963 (by decide) (Nat.le_of_ble_eq_true rfl) (fun _ _ h9 => C_X12_less  _ _ h9) (fun r3 M3 => ?_)
      dsimp only
      refine T_istore_n [(3, .int r3), (0, .ref i0), (1, .int x1), (2, .int x2), (4, .int x4), (5, .int x5), (6, .int x6)] dX12_minutesBy_47 rfl (by decide) rfl ?_
      refine T_iload 4 dX12_minutesBy_48 rfl ?_
      refine T_iload 6 dX12_minutesBy_50 rfl ?_
      refine T_callSI md_X12_more [.int x4, .int x6] [] dX12_minutesBy_52 rfl ok_X12_more tb_965 tb_966 (by decide) (Nat.le_of_ble_eq_true rfl) (fun _ _ h9 => C_X12_more  _ _ h9) (fun r4 M4 => ?_)
      dsimp only
      refine T_istore [(4, .int r4), (3, .int r3), (0, .ref i0), (1, .int x1), (2, .int x2), (5, .int x5), (6, .int x6)] dX12_minutesBy_55 (by decide) rfl ?_
      refine T_iload 5 dX12_minutesBy_57 rfl ?_
      refine T_aload_n 2 dX12_minutesBy_59 rfl rfl ?_
      refine T_getR 2 FOk_12 h0 (by decide) (by decide) dX12_minutesBy_60 tb_715 ?_
      refine T_aload_n 2 dX12_minutesBy_63 rfl rfl ?_
      refine T_getR 0 FOk_12 h0 (by decide) (by decide) dX12_minutesBy_64 tb_713 ?_
      refine T_iload 6 dX12_minutesBy_67 rfl ?_
      refine T_iald (kf_12_0 h0) dX12_minutesBy_69 ?_
      refine T_iald (kf_12_2 h0) dX12_minutesBy_70 ?_
      refine T_iadd dX12_minutesBy_71 ?_
      refine T_istore [(5, .int (x5 + (M4.1 (rf i0 2) (M4.1 (rf i0 0) x6.toNatClampNeg).toNatClampNeg))), (4, .int r4), (3, .int r3), (0, .ref i0), (1, .int x1), (2, .int x2), (6, .int x6)] dX12_minutesBy_72 (by decide) rfl ?_
      refine T_sub [3, 4, 5, 2, 1, 0, 6] (lv' := [(0, .ref i0), (1, .int x1), (2, .int x2), (3, .int r3), (4, .int r4), (5, .int (x5 + (M4.1 (rf i0 2) (M4.1 (rf i0 0) x6.toNatClampNeg).toNatClampNeg))), (6, .int x6)]) rfl ?_
      exact t_X12_minutesBy_b74 h0 hk25 _ _ _ _ _ _ _
theorem t_X12_minutesBy_l25 {X : Scr} {i0 : Nat} (h0 : KD[i0]? = some (.inl 12)) (n : Nat) : ∀ (x1 : Int32) (x2 : Int32) (x3 : Int32) (x4 : Int32) (x5 : Int32) (x6 : Int32) (M : Mem), T X eI (X12_minutesBy_l25 i0  n x1 x2 x3 x4 x5 x6 M) md_X12_minutesBy 25 [(0, .ref i0), (1, .int x1), (2, .int x2), (3, .int x3), (4, .int x4), (5, .int x5), (6, .int x6)] [] M := by
  induction n with
  | zero => intro x1 x2 x3 x4 x5 x6 M; exact T_none
  | succ n ih => intro x1 x2 x3 x4 x5 x6 M; exact t_X12_minutesBy_b25 h0 ih x1 x2 x3 x4 x5 x6 M
set_option maxHeartbeats 4000000 in
set_option maxRecDepth 100000 in
theorem t_X12_minutesBy {X : Scr} {i0 : Nat} (h0 : KD[i0]? = some (.inl 12)) (x1 : Int32) (x2 : Int32) (M : Mem) : T X eI (X12_minutesBy i0  x1 x2 M) md_X12_minutesBy 0 [(0, .ref i0), (1, .int x1), (2, .int x2)] [] M := by
  unfold X12_minutesBy
  refine T_aload_n 0 dX12_minutesBy_0 rfl rfl ?_
  refine T_getI 3 FOk_12 h0 (by decide) (by decide) dX12_minutesBy_1 tb_716 ?_
  refine T_iload_n 2 dX12_minutesBy_4 rfl rfl ?_
  refine T_callSI md_X12_less [.int (M.1 i0 3), .int x2] [] dX12_minutesBy_5 rfl ok_X12_less tb_962 tb_963 (by decide) (Nat.le_of_ble_eq_true rfl) (fun _ _ h9 => C_X12_less  _ _ h9) (fun r1 M1 => ?_)
  dsimp only
  refine T_istore_n [(3, .int r1), (0, .ref i0), (1, .int x1), (2, .int x2)] dX12_minutesBy_8 rfl (by decide) rfl ?_
  refine T_aload_n 1 dX12_minutesBy_9 rfl rfl ?_
  refine T_getI 3 FOk_12 h0 (by decide) (by decide) dX12_minutesBy_10 tb_716 ?_
  refine T_iload_n 3 dX12_minutesBy_13 rfl rfl ?_
  refine T_callSI md_X12_more [.int (M1.1 i0 3), .int x2] [] dX12_minutesBy_14 rfl ok_X12_more tb_965 tb_966 (by decide) (Nat.le_of_ble_eq_true rfl) (fun _ _ h9 => C_X12_more  _ _ h9) (fun r2 M2 => ?_)
  dsimp only
  refine T_istore [(4, .int r2), (3, .int r1), (0, .ref i0), (1, .int x1), (2, .int x2)] dX12_minutesBy_17 (by decide) rfl ?_
  refine T_iconst (v := (0 : Int32)) (by decide) dX12_minutesBy_19 ?_
  refine T_istore [(5, .int (0 : Int32)), (4, .int r2), (3, .int r1), (0, .ref i0), (1, .int x1), (2, .int x2)] dX12_minutesBy_20 (by decide) rfl ?_
  refine T_iconst (v := (0 : Int32)) (by decide) dX12_minutesBy_22 ?_
  refine T_istore [(6, .int (0 : Int32)), (5, .int (0 : Int32)), (4, .int r2), (3, .int r1), (0, .ref i0), (1, .int x1), (2, .int x2)] dX12_minutesBy_23 (by decide) rfl ?_
  refine T_sub [4, 5, 6, 3, 2, 1, 0] (lv' := [(0, .ref i0), (1, .int x1), (2, .int x2), (3, .int r1), (4, .int r2), (5, .int (0 : Int32)), (6, .int (0 : Int32))]) rfl ?_
  exact t_X12_minutesBy_l25 h0  _ _ _ _ _ _ _ _
theorem C_X12_minutesBy {X : Scr} {i0 : Nat} (h0 : KD[i0]? = some (.inl 12)) (x1 : Int32) (x2 : Int32) {M : Mem} {r : Int32} {M' : Mem} (h : X12_minutesBy i0 x1 x2 M = some (r, M')) : Ct X md_X12_minutesBy [.ref i0, .int x1, .int x2] M (eI r) M' := Ct_of (by decide +kernel) (Nat.le_of_ble_eq_true rfl) (t_X12_minutesBy h0 _ _ M) r M' h
