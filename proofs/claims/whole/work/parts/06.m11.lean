-- X12_canOwn
def X12_canOwn_b35 (i0 : Nat)  (s0 : Int32) (M : Mem) : Option (Int32 × Mem) :=
  gd (s0 == 0 || s0 == 1) (some (s0, M))
def X12_canOwn_b34 (i0 : Nat)   (M : Mem) : Option (Int32 × Mem) :=
  X12_canOwn_b35 i0  (0 : Int32) M
def X12_canOwn (i0 : Nat)  (x1 : Int32) (x2 : Int32) (x3 : Int32) (x4 : Int32) (M : Mem) : Option (Int32 × Mem) :=
  (X12_isIn  x1 x2 M).bind (fun p1 =>
    if p1.1 = 0 then
      X12_canOwn_b34 i0   p1.2
    else
      gd (ib x3 10) (
        (X12_isIn  (p1.2.1 (rf i0 1) x3.toNatClampNeg) x2 p1.2).bind (fun p2 =>
          if p2.1 = 0 then
            X12_canOwn_b34 i0   p2.2
          else
            (X12_isIn  x4 x3 p2.2).bind (fun p3 =>
              if p3.1 = 0 then
                X12_canOwn_b35 i0  (1 : Int32) p3.2
              else
                X12_canOwn_b34 i0   p3.2))))
set_option maxHeartbeats 4000000 in
set_option maxRecDepth 100000 in
theorem t_X12_canOwn_b35 {X : Scr} {i0 : Nat} (h0 : KD[i0]? = some (.inl 12)) (s0 : Int32) (M : Mem) : T X eI (X12_canOwn_b35 i0  s0 M) md_X12_canOwn 35 [] [.int s0] M := by
  unfold X12_canOwn_b35
  exact T_zret dX12_canOwn_35 rfl
set_option maxHeartbeats 4000000 in
set_option maxRecDepth 100000 in
theorem t_X12_canOwn_b34 {X : Scr} {i0 : Nat} (h0 : KD[i0]? = some (.inl 12))  (M : Mem) : T X eI (X12_canOwn_b34 i0   M) md_X12_canOwn 34 [] [] M := by
  unfold X12_canOwn_b34
  refine T_iconst (v := (0 : Int32)) (by decide) dX12_canOwn_34 ?_
  exact t_X12_canOwn_b35 h0  _ _
set_option maxHeartbeats 4000000 in
set_option maxRecDepth 100000 in
theorem t_X12_canOwn {X : Scr} {i0 : Nat} (h0 : KD[i0]? = some (.inl 12)) (x1 : Int32) (x2 : Int32) (x3 : Int32) (x4 : Int32) (M : Mem) : T X eI (X12_canOwn i0  x1 x2 x3 x4 M) md_X12_canOwn 0 [(0, .ref i0), (1, .int x1), (2, .int x2), (3, .int x3), (4, .int x4)] [] M := by
  unfold X12_canOwn
  refine T_iload_n 1 dX12_canOwn_0 rfl rfl ?_
  refine T_iload_n 2 dX12_canOwn_1 rfl rfl ?_
  refine T_callSI md_X12_isIn [.int x1, .int x2] [] dX12_canOwn_2 rfl ok_X12_isIn tb_895 tb_896 (by decide) (Nat.le_of_ble_eq_true rfl) (fun _ _ h9 => C_X12_isIn  _ _ h9) (fun r1 M1 => ?_)
  dsimp only
  refine T_if_eq 34 dX12_canOwn_5 (by decide) ?_ ?_
  ·
    refine T_sub [] (lv' := []) rfl ?_
    exact t_X12_canOwn_b34 h0   _
  ·
    refine T_aload_n 0 dX12_canOwn_8 rfl rfl ?_
    refine T_getR 1 FOk_12 h0 (by decide) (by decide) dX12_canOwn_9 tb_714 ?_
    refine T_iload_n 3 dX12_canOwn_12 rfl rfl ?_
    refine T_iald (kf_12_1 h0) dX12_canOwn_13 ?_
    refine T_iload_n 2 dX12_canOwn_14 rfl rfl ?_
    refine T_callSI md_X12_isIn [.int (M1.1 (rf i0 1) x3.toNatClampNeg), .int x2] [] dX12_canOwn_15 rfl ok_X12_isIn tb_895 tb_896 (by decide) (Nat.le_of_ble_eq_true rfl) (fun _ _ h9 => C_X12_isIn  _ _ h9) (fun r2 M2 => ?_)
    dsimp only
    refine T_if_eq 34 dX12_canOwn_18 (by decide) ?_ ?_
    ·
      refine T_sub [] (lv' := []) rfl ?_
      exact t_X12_canOwn_b34 h0   _
    ·
      refine T_iload 4 dX12_canOwn_21 rfl ?_
      refine T_iload_n 3 dX12_canOwn_23 rfl rfl ?_
      refine T_callSI md_X12_isIn [.int x4, .int x3] [] dX12_canOwn_24 rfl ok_X12_isIn tb_895 tb_896 (by decide) (Nat.le_of_ble_eq_true rfl) (fun _ _ h9 => C_X12_isIn  _ _ h9) (fun r3 M3 => ?_)
      dsimp only
      refine T_if_ne 34 dX12_canOwn_27 (by decide) ?_ ?_
      ·
        refine T_iconst (v := (1 : Int32)) (by decide) dX12_canOwn_30 ?_
        refine T_goto 35 dX12_canOwn_31 (by decide) ?_
        refine T_sub [] (lv' := []) rfl ?_
        exact t_X12_canOwn_b35 h0  _ _
      ·
        refine T_sub [] (lv' := []) rfl ?_
        exact t_X12_canOwn_b34 h0   _
theorem C_X12_canOwn {X : Scr} {i0 : Nat} (h0 : KD[i0]? = some (.inl 12)) (x1 : Int32) (x2 : Int32) (x3 : Int32) (x4 : Int32) {M : Mem} {r : Int32} {M' : Mem} (h : X12_canOwn i0 x1 x2 x3 x4 M = some (r, M')) : Ct X md_X12_canOwn [.ref i0, .int x1, .int x2, .int x3, .int x4] M (eI r) M' := Ct_of (by decide +kernel) (Nat.le_of_ble_eq_true rfl) (t_X12_canOwn h0 _ _ _ _ M) r M' h
-- X12_mostFrom
def X12_mostFrom_b63 (i0 : Nat) (k19 : Int32 → Int32 → Int32 → Int32 → Int32 → Mem → Option (Int32 × Mem)) (x1 : Int32) (x2 : Int32) (x3 : Int32) (x4 : Int32) (x5 : Int32) (s0 : Int32) (M : Mem) : Option (Int32 × Mem) :=
  (X12_more  x4 s0 M).bind (fun p1 =>
    k19 x1 x2 x3 p1.1 (x5 + (1 : Int32)) p1.2)
def X12_mostFrom_b19 (i0 : Nat) (k19 : Int32 → Int32 → Int32 → Int32 → Int32 → Mem → Option (Int32 × Mem)) (x1 : Int32) (x2 : Int32) (x3 : Int32) (x4 : Int32) (x5 : Int32) (M : Mem) : Option (Int32 × Mem) :=
  if (10 : Int32) ≤ x5 then
    some (x4, M)
  else
    (X12_canOwn i0 x1 x2 x5 x3 M).bind (fun p1 =>
      if p1.1 = 0 then
        X12_mostFrom_b63 i0 k19 x1 x2 x3 x4 x5 (0 : Int32) p1.2
      else
        gd (ib (((1024 : Int32) * (x2 + (1 : Int32))) + (x3 ||| ((1 : Int32) <<< (x5 &&& 31)))) 9216) (
          X12_mostFrom_b63 i0 k19 x1 x2 x3 x4 x5 ((p1.2.1 (rf i0 22) (((1024 : Int32) * (x2 + (1 : Int32))) + (x3 ||| ((1 : Int32) <<< (x5 &&& 31)))).toNatClampNeg) + (1 : Int32)) p1.2))
def X12_mostFrom_l19 (i0 : Nat)  : Nat → Int32 → Int32 → Int32 → Int32 → Int32 → Mem → Option (Int32 × Mem)
  | 0 => fun _ _ _ _ _ _ => none
  | n + 1 => X12_mostFrom_b19 i0 (X12_mostFrom_l19 i0  n)
def X12_mostFrom (i0 : Nat)  (x1 : Int32) (x2 : Int32) (x3 : Int32) (M : Mem) : Option (Int32 × Mem) :=
  gd (ib (((1024 : Int32) * (x2 + (1 : Int32))) + x3) 9216) (
    iw (M.1 (rf i0 22) (((1024 : Int32) * (x2 + (1 : Int32))) + x3).toNatClampNeg) (fun v1 =>
      X12_mostFrom_l19 i0  FU x1 x2 x3 v1 (0 : Int32) M))
set_option maxHeartbeats 4000000 in
set_option maxRecDepth 100000 in
theorem t_X12_mostFrom_b63 {X : Scr} {i0 : Nat} (h0 : KD[i0]? = some (.inl 12)) {k19 : Int32 → Int32 → Int32 → Int32 → Int32 → Mem → Option (Int32 × Mem)} (hk19 : ∀ (x1 : Int32) (x2 : Int32) (x3 : Int32) (x4 : Int32) (x5 : Int32) (M : Mem), T X eI (k19 x1 x2 x3 x4 x5 M) md_X12_mostFrom 19 [(0, .ref i0), (1, .int x1), (2, .int x2), (3, .int x3), (4, .int x4), (5, .int x5)] [] M) (x1 : Int32) (x2 : Int32) (x3 : Int32) (x4 : Int32) (x5 : Int32) (s0 : Int32) (M : Mem) : T X eI (X12_mostFrom_b63 i0 k19 x1 x2 x3 x4 x5 s0 M) md_X12_mostFrom 63 [(0, .ref i0), (1, .int x1), (2, .int x2), (3, .int x3), (4, .int x4), (5, .int x5)] [.int s0] M := by
  unfold X12_mostFrom_b63
  refine T_istore [(6, .int s0), (0, .ref i0), (1, .int x1), (2, .int x2), (3, .int x3), (4, .int x4), (5, .int x5)] dX12_mostFrom_63 (by decide) rfl ?_
  refine T_iload 5 dX12_mostFrom_65 rfl ?_
  refine T_iload 0 dX12_mostFrom_67 rfl ?_
  refine T_callSI md_X12_more [.int x4, .int s0] [] dX12_mostFrom_69 rfl ok_X12_more tb_965 tb_966 (by decide) (Nat.le_of_ble_eq_true rfl) (fun _ _ h9 => C_X12_more  _ _ h9) (fun r1 M1 => ?_)
  dsimp only
  refine T_istore [(4, .int r1), (6, .int s0), (0, .ref i0), (1, .int x1), (2, .int x2), (3, .int x3), (5, .int x5)] dX12_mostFrom_72 (by decide) rfl ?_
  refine T_iinc 6 [(5, .int (x5 + (1 : Int32))), (4, .int r1), (6, .int s0), (0, .ref i0), (1, .int x1), (2, .int x2), (3, .int x3)] (v := (1 : Int32)) dX12_mostFrom_74 rfl (by decide) (by decide) rfl ?_
  refine T_goto 19 dX12_mostFrom_77 (by decide) ?_
  refine T_sub [3, 4, 5, 6, 1, 0] (lv' := [(0, .ref i0), (1, .int x1), (2, .int x2), (3, .int x3), (4, .int r1), (5, .int (x5 + (1 : Int32)))]) rfl ?_
  exact hk19 _ _ _ _ _ _
set_option maxHeartbeats 4000000 in
set_option maxRecDepth 100000 in
theorem t_X12_mostFrom_b19 {X : Scr} {i0 : Nat} (h0 : KD[i0]? = some (.inl 12)) {k19 : Int32 → Int32 → Int32 → Int32 → Int32 → Mem → Option (Int32 × Mem)} (hk19 : ∀ (x1 : Int32) (x2 : Int32) (x3 : Int32) (x4 : Int32) (x5 : Int32) (M : Mem), T X eI (k19 x1 x2 x3 x4 x5 M) md_X12_mostFrom 19 [(0, .ref i0), (1, .int x1), (2, .int x2), (3, .int x3), (4, .int x4), (5, .int x5)] [] M) (x1 : Int32) (x2 : Int32) (x3 : Int32) (x4 : Int32) (x5 : Int32) (M : Mem) : T X eI (X12_mostFrom_b19 i0 k19 x1 x2 x3 x4 x5 M) md_X12_mostFrom 19 [(0, .ref i0), (1, .int x1), (2, .int x2), (3, .int x3), (4, .int x4), (5, .int x5)] [] M := by
  unfold X12_mostFrom_b19
  refine T_iload 5 dX12_mostFrom_19 rfl ?_
  refine T_bipush (v := (10 : Int32)) (by decide) dX12_mostFrom_21 ?_
  refine T_icmp_ge 80 dX12_mostFrom_23 (by decide) ?_ ?_
  ·
    refine T_iload 4 dX12_mostFrom_80 rfl ?_
    exact T_iret dX12_mostFrom_82 rfl
  ·
    refine T_aload_n 0 dX12_mostFrom_26 rfl rfl ?_
    refine T_iload_n 1 dX12_mostFrom_27 rfl rfl ?_
    refine T_iload_n 2 dX12_mostFrom_28 rfl rfl ?_
    refine T_iload 5 dX12_mostFrom_29 rfl ?_
    refine T_iload_n 3 dX12_mostFrom_31 rfl rfl ?_
    refine T_callVI md_X12_canOwn [.int x1, .int x2, .int x5, .int x3] [] dX12_mostFrom_32 h0 rfl rfl ok_X12_canOwn tb_986 tb_988 tb_33 (by decide) (Nat.le_of_ble_eq_true rfl) (fun _ _ h9 => C_X12_canOwn h0 _ _ _ _ h9) (fun r1 M1 => ?_)
    dsimp only
    refine T_if_eq 62 dX12_mostFrom_35 (by decide) ?_ ?_
    ·
      refine T_iconst (v := (0 : Int32)) (by decide) dX12_mostFrom_62 ?_
      exact t_X12_mostFrom_b63 h0 hk19 _ _ _ _ _ _ _
    ·
      refine T_aload_n 0 dX12_mostFrom_38 rfl rfl ?_
      refine T_getR 22 FOk_12 h0 (by decide) (by decide) dX12_mostFrom_39 tb_735 ?_
      refine T_sipush (v := (1024 : Int32)) (by decide) dX12_mostFrom_42 ?_
      refine T_iload_n 2 dX12_mostFrom_45 rfl rfl ?_
      refine T_iconst (v := (1 : Int32)) (by decide) dX12_mostFrom_46 ?_
      refine T_iadd dX12_mostFrom_47 ?_
      refine T_imul dX12_mostFrom_48 ?_
      refine T_iload_n 3 dX12_mostFrom_49 rfl rfl ?_
      refine T_iconst (v := (1 : Int32)) (by decide) dX12_mostFrom_50 ?_
      refine T_iload 5 dX12_mostFrom_51 rfl ?_
      refine T_ishl dX12_mostFrom_53 ?_
      refine T_ior dX12_mostFrom_54 ?_
      refine T_iadd dX12_mostFrom_55 ?_
      refine T_iald (kf_12_22 h0) dX12_mostFrom_56 ?_
      refine T_iconst (v := (1 : Int32)) (by decide) dX12_mostFrom_57 ?_
      refine T_iadd dX12_mostFrom_58 ?_
      refine T_goto 63 dX12_mostFrom_59 (by decide) ?_
      exact t_X12_mostFrom_b63 h0 hk19 _ _ _ _ _ _ _
theorem t_X12_mostFrom_l19 {X : Scr} {i0 : Nat} (h0 : KD[i0]? = some (.inl 12)) (n : Nat) : ∀ (x1 : Int32) (x2 : Int32) (x3 : Int32) (x4 : Int32) (x5 : Int32) (M : Mem), T X eI (X12_mostFrom_l19 i0  n x1 x2 x3 x4 x5 M) md_X12_mostFrom 19 [(0, .ref i0), (1, .int x1), (2, .int x2), (3, .int x3), (4, .int x4), (5, .int x5)] [] M := by
  induction n with
  | zero => intro x1 x2 x3 x4 x5 M; exact T_none
  | succ n ih => intro x1 x2 x3 x4 x5 M; exact t_X12_mostFrom_b19 h0 ih x1 x2 x3 x4 x5 M
set_option maxHeartbeats 4000000 in
set_option maxRecDepth 100000 in
theorem t_X12_mostFrom {X : Scr} {i0 : Nat} (h0 : KD[i0]? = some (.inl 12)) (x1 : Int32) (x2 : Int32) (x3 : Int32) (M : Mem) : T X eI (X12_mostFrom i0  x1 x2 x3 M) md_X12_mostFrom 0 [(0, .ref i0), (1, .int x1), (2, .int x2), (3, .int x3)] [] M := by
  unfold X12_mostFrom
  refine T_aload_n 0 dX12_mostFrom_0 rfl rfl ?_
  refine T_getR 22 FOk_12 h0 (by decide) (by decide) dX12_mostFrom_1 tb_735 ?_
  refine T_sipush (v := (1024 : Int32)) (by decide) dX12_mostFrom_4 ?_
  refine T_iload_n 2 dX12_mostFrom_7 rfl rfl ?_
  refine T_iconst (v := (1 : Int32)) (by decide) dX12_mostFrom_8 ?_
  refine T_iadd dX12_mostFrom_9 ?_
  refine T_imul dX12_mostFrom_10 ?_
  refine T_iload_n 3 dX12_mostFrom_11 rfl rfl ?_
  refine T_iadd dX12_mostFrom_12 ?_
  refine T_iald (kf_12_22 h0) dX12_mostFrom_13 ?_
  refine T_iw (fun v1 => ?_)
  try dsimp only
  refine T_istore [(4, .int v1), (0, .ref i0), (1, .int x1), (2, .int x2), (3, .int x3)] dX12_mostFrom_14 (by decide) rfl ?_
  refine T_iconst (v := (0 : Int32)) (by decide) dX12_mostFrom_16 ?_
  refine T_istore [(5, .int (0 : Int32)), (4, .int v1), (0, .ref i0), (1, .int x1), (2, .int x2), (3, .int x3)] dX12_mostFrom_17 (by decide) rfl ?_
  refine T_sub [2, 3, 4, 5, 1, 0] (lv' := [(0, .ref i0), (1, .int x1), (2, .int x2), (3, .int x3), (4, .int v1), (5, .int (0 : Int32))]) rfl ?_
  exact t_X12_mostFrom_l19 h0  _ _ _ _ _ _ _
theorem C_X12_mostFrom {X : Scr} {i0 : Nat} (h0 : KD[i0]? = some (.inl 12)) (x1 : Int32) (x2 : Int32) (x3 : Int32) {M : Mem} {r : Int32} {M' : Mem} (h : X12_mostFrom i0 x1 x2 x3 M = some (r, M')) : Ct X md_X12_mostFrom [.ref i0, .int x1, .int x2, .int x3] M (eI r) M' := Ct_of (by decide +kernel) (Nat.le_of_ble_eq_true rfl) (t_X12_mostFrom h0 _ _ _ M) r M' h
-- X12_ownerOf
def X12_ownerOf_b84 (i0 : Nat) (k8 : Int32 → Int32 → Int32 → Int32 → Int32 → Mem → Option (Int32 × Mem)) (x1 : Int32) (x2 : Int32) (x3 : Int32) (x5 : Int32) (s0 : Int32) (M : Mem) : Option (Int32 × Mem) :=
  k8 x1 x2 x3 s0 (x5 + (-1 : Int32)) M
def X12_ownerOf_b70 (i0 : Nat) (k8 : Int32 → Int32 → Int32 → Int32 → Int32 → Mem → Option (Int32 × Mem)) (x1 : Int32) (x2 : Int32) (x3 : Int32) (x4 : Int32) (x5 : Int32) (s0 : Int32) (M : Mem) : Option (Int32 × Mem) :=
  if s0 = 0 then
    X12_ownerOf_b84 i0 k8 x1 x2 x3 x5 x4 M
  else
    X12_ownerOf_b84 i0 k8 x1 x2 x3 x5 x5 M
def X12_ownerOf_b69 (i0 : Nat) (k8 : Int32 → Int32 → Int32 → Int32 → Int32 → Mem → Option (Int32 × Mem)) (x1 : Int32) (x2 : Int32) (x3 : Int32) (x4 : Int32) (x5 : Int32) (M : Mem) : Option (Int32 × Mem) :=
  X12_ownerOf_b70 i0 k8 x1 x2 x3 x4 x5 (0 : Int32) M
def X12_ownerOf_b8 (i0 : Nat) (k8 : Int32 → Int32 → Int32 → Int32 → Int32 → Mem → Option (Int32 × Mem)) (x1 : Int32) (x2 : Int32) (x3 : Int32) (x4 : Int32) (x5 : Int32) (M : Mem) : Option (Int32 × Mem) :=
  if x5 < 0 then
    some (x4, M)
  else
    (X12_canOwn i0 x1 x2 x5 x3 M).bind (fun p1 =>
      if p1.1 = 0 then
        X12_ownerOf_b69 i0 k8 x1 x2 x3 x4 x5 p1.2
      else
        gd (ib (((1024 : Int32) * (x2 + (1 : Int32))) + (x3 ||| ((1 : Int32) <<< (x5 &&& 31)))) 9216) (
          gd (ib (((1024 : Int32) * x2) + x3) 9216) (
            if ((p1.2.1 (rf i0 22) (((1024 : Int32) * (x2 + (1 : Int32))) + (x3 ||| ((1 : Int32) <<< (x5 &&& 31)))).toNatClampNeg) + (1 : Int32)) = (p1.2.1 (rf i0 22) (((1024 : Int32) * x2) + x3).toNatClampNeg) then
              X12_ownerOf_b70 i0 k8 x1 x2 x3 x4 x5 (1 : Int32) p1.2
            else
              X12_ownerOf_b69 i0 k8 x1 x2 x3 x4 x5 p1.2)))
def X12_ownerOf_l8 (i0 : Nat)  : Nat → Int32 → Int32 → Int32 → Int32 → Int32 → Mem → Option (Int32 × Mem)
  | 0 => fun _ _ _ _ _ _ => none
  | n + 1 => X12_ownerOf_b8 i0 (X12_ownerOf_l8 i0  n)
def X12_ownerOf (i0 : Nat)  (x1 : Int32) (x2 : Int32) (x3 : Int32) (M : Mem) : Option (Int32 × Mem) :=
  X12_ownerOf_l8 i0  FU x1 x2 x3 (-6 : Int32) (9 : Int32) M
set_option maxHeartbeats 4000000 in
set_option maxRecDepth 100000 in
theorem t_X12_ownerOf_b84 {X : Scr} {i0 : Nat} (h0 : KD[i0]? = some (.inl 12)) {k8 : Int32 → Int32 → Int32 → Int32 → Int32 → Mem → Option (Int32 × Mem)} (hk8 : ∀ (x1 : Int32) (x2 : Int32) (x3 : Int32) (x4 : Int32) (x5 : Int32) (M : Mem), T X eI (k8 x1 x2 x3 x4 x5 M) md_X12_ownerOf 8 [(0, .ref i0), (1, .int x1), (2, .int x2), (3, .int x3), (4, .int x4), (5, .int x5)] [] M) (x1 : Int32) (x2 : Int32) (x3 : Int32) (x5 : Int32) (s0 : Int32) (M : Mem) : T X eI (X12_ownerOf_b84 i0 k8 x1 x2 x3 x5 s0 M) md_X12_ownerOf 84 [(0, .ref i0), (1, .int x1), (2, .int x2), (3, .int x3), (5, .int x5)] [.int s0] M := by
  unfold X12_ownerOf_b84
  refine T_istore [(4, .int s0), (0, .ref i0), (1, .int x1), (2, .int x2), (3, .int x3), (5, .int x5)] dX12_ownerOf_84 (by decide) rfl ?_
  refine T_iinc 5 [(5, .int (x5 + (-1 : Int32))), (4, .int s0), (0, .ref i0), (1, .int x1), (2, .int x2), (3, .int x3)] (v := (-1 : Int32)) dX12_ownerOf_86 rfl (by decide) (by decide) rfl ?_
  refine T_goto 8 dX12_ownerOf_89 (by decide) ?_
  refine T_sub [2, 3, 4, 5, 1, 0] (lv' := [(0, .ref i0), (1, .int x1), (2, .int x2), (3, .int x3), (4, .int s0), (5, .int (x5 + (-1 : Int32)))]) rfl ?_
  exact hk8 _ _ _ _ _ _
set_option maxHeartbeats 4000000 in
set_option maxRecDepth 100000 in
theorem t_X12_ownerOf_b70 {X : Scr} {i0 : Nat} (h0 : KD[i0]? = some (.inl 12)) {k8 : Int32 → Int32 → Int32 → Int32 → Int32 → Mem → Option (Int32 × Mem)} (hk8 : ∀ (x1 : Int32) (x2 : Int32) (x3 : Int32) (x4 : Int32) (x5 : Int32) (M : Mem), T X eI (k8 x1 x2 x3 x4 x5 M) md_X12_ownerOf 8 [(0, .ref i0), (1, .int x1), (2, .int x2), (3, .int x3), (4, .int x4), (5, .int x5)] [] M) (x1 : Int32) (x2 : Int32) (x3 : Int32) (x4 : Int32) (x5 : Int32) (s0 : Int32) (M : Mem) : T X eI (X12_ownerOf_b70 i0 k8 x1 x2 x3 x4 x5 s0 M) md_X12_ownerOf 70 [(0, .ref i0), (1, .int x1), (2, .int x2), (3, .int x3), (4, .int x4), (5, .int x5)] [.int s0] M := by
  unfold X12_ownerOf_b70
  refine T_istore [(7, .int s0), (0, .ref i0), (1, .int x1), (2, .int x2), (3, .int x3), (4, .int x4), (5, .int x5)] dX12_ownerOf_70 (by decide) rfl ?_
  refine T_iload 0 dX12_ownerOf_72 rfl ?_
  refine T_if_eq 82 dX12_ownerOf_74 (by decide) ?_ ?_
  ·
    refine T_iload 5 dX12_ownerOf_82 rfl ?_
    refine T_sub [1, 2, 3, 4, 6] (lv' := [(0, .ref i0), (1, .int x1), (2, .int x2), (3, .int x3), (5, .int x5)]) rfl ?_
    exact t_X12_ownerOf_b84 h0 hk8 _ _ _ _ _ _
  ·
    refine T_iload 6 dX12_ownerOf_77 rfl ?_
    refine T_goto 84 dX12_ownerOf_79 (by decide) ?_
    refine T_sub [1, 2, 3, 4, 6] (lv' := [(0, .ref i0), (1, .int x1), (2, .int x2), (3, .int x3), (5, .int x5)]) rfl ?_
    exact t_X12_ownerOf_b84 h0 hk8 _ _ _ _ _ _
set_option maxHeartbeats 4000000 in
set_option maxRecDepth 100000 in
theorem t_X12_ownerOf_b69 {X : Scr} {i0 : Nat} (h0 : KD[i0]? = some (.inl 12)) {k8 : Int32 → Int32 → Int32 → Int32 → Int32 → Mem → Option (Int32 × Mem)} (hk8 : ∀ (x1 : Int32) (x2 : Int32) (x3 : Int32) (x4 : Int32) (x5 : Int32) (M : Mem), T X eI (k8 x1 x2 x3 x4 x5 M) md_X12_ownerOf 8 [(0, .ref i0), (1, .int x1), (2, .int x2), (3, .int x3), (4, .int x4), (5, .int x5)] [] M) (x1 : Int32) (x2 : Int32) (x3 : Int32) (x4 : Int32) (x5 : Int32) (M : Mem) : T X eI (X12_ownerOf_b69 i0 k8 x1 x2 x3 x4 x5 M) md_X12_ownerOf 69 [(0, .ref i0), (1, .int x1), (2, .int x2), (3, .int x3), (4, .int x4), (5, .int x5)] [] M := by
  unfold X12_ownerOf_b69
  refine T_iconst (v := (0 : Int32)) (by decide) dX12_ownerOf_69 ?_
  exact t_X12_ownerOf_b70 h0 hk8 _ _ _ _ _ _ _
set_option maxHeartbeats 4000000 in
set_option maxRecDepth 100000 in
theorem t_X12_ownerOf_b8 {X : Scr} {i0 : Nat} (h0 : KD[i0]? = some (.inl 12)) {k8 : Int32 → Int32 → Int32 → Int32 → Int32 → Mem → Option (Int32 × Mem)} (hk8 : ∀ (x1 : Int32) (x2 : Int32) (x3 : Int32) (x4 : Int32) (x5 : Int32) (M : Mem), T X eI (k8 x1 x2 x3 x4 x5 M) md_X12_ownerOf 8 [(0, .ref i0), (1, .int x1), (2, .int x2), (3, .int x3), (4, .int x4), (5, .int x5)] [] M) (x1 : Int32) (x2 : Int32) (x3 : Int32) (x4 : Int32) (x5 : Int32) (M : Mem) : T X eI (X12_ownerOf_b8 i0 k8 x1 x2 x3 x4 x5 M) md_X12_ownerOf 8 [(0, .ref i0), (1, .int x1), (2, .int x2), (3, .int x3), (4, .int x4), (5, .int x5)] [] M := by
  unfold X12_ownerOf_b8
  refine T_iload 5 dX12_ownerOf_8 rfl ?_
  refine T_if_lt 92 dX12_ownerOf_10 (by decide) ?_ ?_
  ·
    refine T_iload 4 dX12_ownerOf_92 rfl ?_
    exact T_iret dX12_ownerOf_94 rfl
  ·
    refine T_aload_n 0 dX12_ownerOf_13 rfl rfl ?_
    refine T_iload_n 1 dX12_ownerOf_14 rfl rfl ?_
    refine T_iload_n 2 dX12_ownerOf_15 rfl rfl ?_
    refine T_iload 5 dX12_ownerOf_16 rfl ?_
    refine T_iload_n 3 dX12_ownerOf_18 rfl rfl ?_
    refine T_callVI md_X12_canOwn [.int x1, .int x2, .int x5, .int x3] [] dX12_ownerOf_19 h0 rfl rfl ok_X12_canOwn tb_986 tb_988 tb_33 (by decide) (Nat.le_of_ble_eq_true rfl) (fun _ _ h9 => C_X12_canOwn h0 _ _ _ _ h9) (fun r1 M1 => ?_)
    dsimp only
    refine T_istore [(6, .int r1), (0, .ref i0), (1, .int x1), (2, .int x2), (3, .int x3), (4, .int x4), (5, .int x5)] dX12_ownerOf_22 (by decide) rfl ?_
    refine T_iload 0 dX12_ownerOf_24 rfl ?_
    refine T_if_eq 69 dX12_ownerOf_26 (by decide) ?_ ?_
    ·
      refine T_sub [1, 2, 3, 4, 5, 6] (lv' := [(0, .ref i0), (1, .int x1), (2, .int x2), (3, .int x3), (4, .int x4), (5, .int x5)]) rfl ?_
      exact t_X12_ownerOf_b69 h0 hk8 _ _ _ _ _ _
    ·
      refine T_aload_n 1 dX12_ownerOf_29 rfl rfl ?_
      refine T_getR 22 FOk_12 h0 (by decide) (by decide) dX12_ownerOf_30 tb_735 ?_
      refine T_sipush (v := (1024 : Int32)) (by decide) dX12_ownerOf_33 ?_
      refine T_iload_n 3 dX12_ownerOf_36 rfl rfl ?_
      refine T_iconst (v := (1 : Int32)) (by decide) dX12_ownerOf_37 ?_
      refine T_iadd dX12_ownerOf_38 ?_
      refine T_imul dX12_ownerOf_39 ?_
      refine T_iload_n 4 dX12_ownerOf_40 rfl rfl ?_
      refine T_iconst (v := (1 : Int32)) (by decide) dX12_ownerOf_41 ?_
      refine T_iload 6 dX12_ownerOf_42 rfl ?_
      refine T_ishl dX12_ownerOf_44 ?_
      refine T_ior dX12_ownerOf_45 ?_
      refine T_iadd dX12_ownerOf_46 ?_
      refine T_iald (kf_12_22 h0) dX12_ownerOf_47 ?_
      refine T_iconst (v := (1 : Int32)) (by decide) dX12_ownerOf_48 ?_
      refine T_iadd dX12_ownerOf_49 ?_
      refine T_aload_n 1 dX12_ownerOf_50 rfl rfl ?_
      refine T_getR 22 FOk_12 h0 (by decide) (by decide) dX12_ownerOf_51 tb_735 ?_
      refine T_sipush (v := (1024 : Int32)) (by decide) dX12_ownerOf_54 ?_
      refine T_iload_n 3 dX12_ownerOf_57 rfl rfl ?_
      refine T_imul dX12_ownerOf_58 ?_
      refine T_iload_n 4 dX12_ownerOf_59 rfl rfl ?_
      refine T_iadd dX12_ownerOf_60 ?_
      refine T_iald (kf_12_22 h0) dX12_ownerOf_61 ?_
      refine T_icmp_ne 69 dX12_ownerOf_62 (by decide) ?_ ?_
      ·
        refine T_iconst (v := (1 : Int32)) (by decide) dX12_ownerOf_65 ?_
        refine T_goto 70 dX12_ownerOf_66 (by decide) ?_
        refine T_sub [1, 2, 3, 4, 5, 6] (lv' := [(0, .ref i0), (1, .int x1), (2, .int x2), (3, .int x3), (4, .int x4), (5, .int x5)]) rfl ?_
        exact t_X12_ownerOf_b70 h0 hk8 _ _ _ _ _ _ _
      ·
        refine T_sub [1, 2, 3, 4, 5, 6] (lv' := [(0, .ref i0), (1, .int x1), (2, .int x2), (3, .int x3), (4, .int x4), (5, .int x5)]) rfl ?_
        exact t_X12_ownerOf_b69 h0 hk8 _ _ _ _ _ _
theorem t_X12_ownerOf_l8 {X : Scr} {i0 : Nat} (h0 : KD[i0]? = some (.inl 12)) (n : Nat) : ∀ (x1 : Int32) (x2 : Int32) (x3 : Int32) (x4 : Int32) (x5 : Int32) (M : Mem), T X eI (X12_ownerOf_l8 i0  n x1 x2 x3 x4 x5 M) md_X12_ownerOf 8 [(0, .ref i0), (1, .int x1), (2, .int x2), (3, .int x3), (4, .int x4), (5, .int x5)] [] M := by
  induction n with
  | zero => intro x1 x2 x3 x4 x5 M; exact T_none
  | succ n ih => intro x1 x2 x3 x4 x5 M; exact t_X12_ownerOf_b8 h0 ih x1 x2 x3 x4 x5 M
set_option maxHeartbeats 4000000 in
set_option maxRecDepth 100000 in
theorem t_X12_ownerOf {X : Scr} {i0 : Nat} (h0 : KD[i0]? = some (.inl 12)) (x1 : Int32) (x2 : Int32) (x3 : Int32) (M : Mem) : T X eI (X12_ownerOf i0  x1 x2 x3 M) md_X12_ownerOf 0 [(0, .ref i0), (1, .int x1), (2, .int x2), (3, .int x3)] [] M := by
  unfold X12_ownerOf
  refine T_bipush (v := (-6 : Int32)) (by decide) dX12_ownerOf_0 ?_
  refine T_istore [(4, .int (-6 : Int32)), (0, .ref i0), (1, .int x1), (2, .int x2), (3, .int x3)] dX12_ownerOf_2 (by decide) rfl ?_
  refine T_bipush (v := (9 : Int32)) (by decide) dX12_ownerOf_4 ?_
  refine T_istore [(5, .int (9 : Int32)), (4, .int (-6 : Int32)), (0, .ref i0), (1, .int x1), (2, .int x2), (3, .int x3)] dX12_ownerOf_6 (by decide) rfl ?_
  refine T_sub [2, 3, 4, 5, 1, 0] (lv' := [(0, .ref i0), (1, .int x1), (2, .int x2), (3, .int x3), (4, .int (-6 : Int32)), (5, .int (9 : Int32))]) rfl ?_
  exact t_X12_ownerOf_l8 h0  _ _ _ _ _ _ _
theorem C_X12_ownerOf {X : Scr} {i0 : Nat} (h0 : KD[i0]? = some (.inl 12)) (x1 : Int32) (x2 : Int32) (x3 : Int32) {M : Mem} {r : Int32} {M' : Mem} (h : X12_ownerOf i0 x1 x2 x3 M = some (r, M')) : Ct X md_X12_ownerOf [.ref i0, .int x1, .int x2, .int x3] M (eI r) M' := Ct_of (by decide +kernel) (Nat.le_of_ble_eq_true rfl) (t_X12_ownerOf h0 _ _ _ M) r M' h
-- X12_owners
def X12_owners_b67 (i0 : Nat) (k60 : Int32 → Int32 → Int32 → Mem → Option (Int32 × Mem)) (k67 : Int32 → Int32 → Int32 → Int32 → Mem → Option (Int32 × Mem)) (x1 : Int32) (x2 : Int32) (x3 : Int32) (x4 : Int32) (M : Mem) : Option (Int32 × Mem) :=
  if (1024 : Int32) ≤ x4 then
    k60 x1 x2 (x3 + (-1 : Int32)) M
  else
    (X12_mostFrom i0 x1 x3 x4 M).bind (fun p1 =>
      gd (ib (((1024 : Int32) * x3) + x4) 9216) (
        k67 x1 x2 x3 (x4 + (1 : Int32)) (mI p1.2 (rf i0 22) (((1024 : Int32) * x3) + x4).toNatClampNeg p1.1)))
def X12_owners_l67 (i0 : Nat) (k60 : Int32 → Int32 → Int32 → Mem → Option (Int32 × Mem)) : Nat → Int32 → Int32 → Int32 → Int32 → Mem → Option (Int32 × Mem)
  | 0 => fun _ _ _ _ _ => none
  | n + 1 => X12_owners_b67 i0 k60 (X12_owners_l67 i0 k60 n)
def X12_owners_b154 (i0 : Nat) (k124 : Int32 → Int32 → Int32 → Int32 → Mem → Option (Int32 × Mem)) (x1 : Int32) (x2 : Int32) (x4 : Int32) (s0 : Int32) (s1 : Int32) (M : Mem) : Option (Int32 × Mem) :=
  k124 x1 x2 (s1 ||| s0) (x4 + (1 : Int32)) M
def X12_owners_b124 (i0 : Nat) (k124 : Int32 → Int32 → Int32 → Int32 → Mem → Option (Int32 × Mem)) (x1 : Int32) (x2 : Int32) (x3 : Int32) (x4 : Int32) (M : Mem) : Option (Int32 × Mem) :=
  if x2 ≤ x4 then
    (X12_ownerOf i0 x1 x2 x3 M).bind (fun p1 =>
      some (p1.1, p1.2))
  else
    (X12_ownerOf i0 x1 x4 x3 M).bind (fun p2 =>
      if 0 ≤ p2.1 then
        X12_owners_b154 i0 k124 x1 x2 x4 ((1 : Int32) <<< (p2.1 &&& 31)) x3 p2.2
      else
        X12_owners_b154 i0 k124 x1 x2 x4 (0 : Int32) x3 p2.2)
def X12_owners_l124 (i0 : Nat)  : Nat → Int32 → Int32 → Int32 → Int32 → Mem → Option (Int32 × Mem)
  | 0 => fun _ _ _ _ _ => none
  | n + 1 => X12_owners_b124 i0 (X12_owners_l124 i0  n)
def X12_owners_b60 (i0 : Nat) (k60 : Int32 → Int32 → Int32 → Mem → Option (Int32 × Mem)) (x1 : Int32) (x2 : Int32) (x3 : Int32) (M : Mem) : Option (Int32 × Mem) :=
  if x3 < 0 then
    if 0 ≤ x2 then
      X12_owners_l124 i0  FU x1 x2 (0 : Int32) (0 : Int32) M
    else
      gd (ib (0 : Int32) 9216) (
        some ((M.1 (rf i0 22) (0 : Int32).toNatClampNeg), M))
  else
    X12_owners_l67 i0 k60 FU x1 x2 x3 (0 : Int32) M
def X12_owners_l60 (i0 : Nat)  : Nat → Int32 → Int32 → Int32 → Mem → Option (Int32 × Mem)
  | 0 => fun _ _ _ _ => none
  | n + 1 => X12_owners_b60 i0 (X12_owners_l60 i0  n)
def X12_owners_b33 (i0 : Nat) (k33 : Int32 → Int32 → Int32 → Mem → Option (Int32 × Mem)) (x1 : Int32) (x2 : Int32) (x3 : Int32) (M : Mem) : Option (Int32 × Mem) :=
  if (1024 : Int32) ≤ x3 then
    X12_owners_l60 i0  FU x1 x2 (7 : Int32) M
  else
    gd (ib ((8192 : Int32) + x3) 9216) (
      k33 x1 x2 (x3 + (1 : Int32)) (mI M (rf i0 22) ((8192 : Int32) + x3).toNatClampNeg (0 : Int32)))
def X12_owners_l33 (i0 : Nat)  : Nat → Int32 → Int32 → Int32 → Mem → Option (Int32 × Mem)
  | 0 => fun _ _ _ _ => none
  | n + 1 => X12_owners_b33 i0 (X12_owners_l33 i0  n)
def X12_owners (i0 : Nat)  (x1 : Int32) (x2 : Int32) (M : Mem) : Option (Int32 × Mem) :=
  (X12_in  x2.toInt64 (-1 : Int64) (7 : Int64) M).bind (fun p1 =>
    if p1.1 = 0 then
      some ((-1 : Int32), p1.2)
    else
      (X12_in  x1.toInt64 (0 : Int64) (255 : Int64) p1.2).bind (fun p2 =>
        if p2.1 = 0 then
          some ((-2 : Int32), p2.2)
        else
          X12_owners_l33 i0  FU x1 x2 (0 : Int32) p2.2))
set_option maxHeartbeats 4000000 in
set_option maxRecDepth 100000 in
theorem t_X12_owners_b67 {X : Scr} {i0 : Nat} (h0 : KD[i0]? = some (.inl 12)) {k60 : Int32 → Int32 → Int32 → Mem → Option (Int32 × Mem)} (hk60 : ∀ (x1 : Int32) (x2 : Int32) (x3 : Int32) (M : Mem), T X eI (k60 x1 x2 x3 M) md_X12_owners 60 [(0, .ref i0), (1, .int x1), (2, .int x2), (3, .int x3)] [] M) {k67 : Int32 → Int32 → Int32 → Int32 → Mem → Option (Int32 × Mem)} (hk67 : ∀ (x1 : Int32) (x2 : Int32) (x3 : Int32) (x4 : Int32) (M : Mem), T X eI (k67 x1 x2 x3 x4 M) md_X12_owners 67 [(0, .ref i0), (1, .int x1), (2, .int x2), (3, .int x3), (4, .int x4)] [] M) (x1 : Int32) (x2 : Int32) (x3 : Int32) (x4 : Int32) (M : Mem) : T X eI (X12_owners_b67 i0 k60 k67 x1 x2 x3 x4 M) md_X12_owners 67 [(0, .ref i0), (1, .int x1), (2, .int x2), (3, .int x3), (4, .int x4)] [] M := by
  unfold X12_owners_b67
  refine T_iload 4 dX12_owners_67 rfl ?_
  refine T_sipush (v := (1024 : Int32)) (by decide) dX12_owners_69 ?_
  refine T_icmp_ge 102 dX12_owners_72 (by decide) ?_ ?_
  ·
    refine T_iinc 3 [(3, .int (x3 + (-1 : Int32))), (0, .ref i0), (1, .int x1), (2, .int x2), (4, .int x4)] (v := (-1 : Int32)) dX12_owners_102 rfl (by decide) (by decide) rfl ?_
    refine T_goto 60 dX12_owners_105 (by decide) ?_
    refine T_sub [1, 2, 3, 0] (lv' := [(0, .ref i0), (1, .int x1), (2, .int x2), (3, .int (x3 + (-1 : Int32)))]) rfl ?_
    exact hk60 _ _ _ _
  ·
    refine T_aload_n 0 dX12_owners_75 rfl rfl ?_
    refine T_getR 22 FOk_12 h0 (by decide) (by decide) dX12_owners_76 tb_735 ?_
    refine T_sipush (v := (1024 : Int32)) (by decide) dX12_owners_79 ?_
    refine T_iload_n 3 dX12_owners_82 rfl rfl ?_
    refine T_imul dX12_owners_83 ?_
    refine T_iload 4 dX12_owners_84 rfl ?_
    refine T_iadd dX12_owners_86 ?_
    refine T_aload_n 0 dX12_owners_87 rfl rfl ?_
    refine T_iload_n 1 dX12_owners_88 rfl rfl ?_
    refine T_iload_n 3 dX12_owners_89 rfl rfl ?_
    refine T_iload 4 dX12_owners_90 rfl ?_
    refine T_callVI md_X12_mostFrom [.int x1, .int x3, .int x4] [.int (((1024 : Int32) * x3) + x4), .ref (rf i0 22)] dX12_owners_92 h0 rfl rfl ok_X12_mostFrom tb_982 tb_984 tb_32 (by decide) (Nat.le_of_ble_eq_true rfl) (fun _ _ h9 => C_X12_mostFrom h0 _ _ _ h9) (fun r1 M1 => ?_)
    dsimp only
    refine T_iast (kf_12_22 h0) dX12_owners_95 ?_
    refine T_iinc 4 [(4, .int (x4 + (1 : Int32))), (0, .ref i0), (1, .int x1), (2, .int x2), (3, .int x3)] (v := (1 : Int32)) dX12_owners_96 rfl (by decide) (by decide) rfl ?_
    refine T_goto 67 dX12_owners_99 (by decide) ?_
    refine T_sub [1, 2, 3, 4, 0] (lv' := [(0, .ref i0), (1, .int x1), (2, .int x2), (3, .int x3), (4, .int (x4 + (1 : Int32)))]) rfl ?_
    exact hk67 _ _ _ _ _
theorem t_X12_owners_l67 {X : Scr} {i0 : Nat} (h0 : KD[i0]? = some (.inl 12)) {k60 : Int32 → Int32 → Int32 → Mem → Option (Int32 × Mem)} (hk60 : ∀ (x1 : Int32) (x2 : Int32) (x3 : Int32) (M : Mem), T X eI (k60 x1 x2 x3 M) md_X12_owners 60 [(0, .ref i0), (1, .int x1), (2, .int x2), (3, .int x3)] [] M) (n : Nat) : ∀ (x1 : Int32) (x2 : Int32) (x3 : Int32) (x4 : Int32) (M : Mem), T X eI (X12_owners_l67 i0 k60 n x1 x2 x3 x4 M) md_X12_owners 67 [(0, .ref i0), (1, .int x1), (2, .int x2), (3, .int x3), (4, .int x4)] [] M := by
  induction n with
  | zero => intro x1 x2 x3 x4 M; exact T_none
  | succ n ih => intro x1 x2 x3 x4 M; exact t_X12_owners_b67 h0 hk60 ih x1 x2 x3 x4 M
set_option maxHeartbeats 4000000 in
set_option maxRecDepth 100000 in
theorem t_X12_owners_b154 {X : Scr} {i0 : Nat} (h0 : KD[i0]? = some (.inl 12)) {k124 : Int32 → Int32 → Int32 → Int32 → Mem → Option (Int32 × Mem)} (hk124 : ∀ (x1 : Int32) (x2 : Int32) (x3 : Int32) (x4 : Int32) (M : Mem), T X eI (k124 x1 x2 x3 x4 M) md_X12_owners 124 [(0, .ref i0), (1, .int x1), (2, .int x2), (3, .int x3), (4, .int x4)] [] M) (x1 : Int32) (x2 : Int32) (x4 : Int32) (s0 : Int32) (s1 : Int32) (M : Mem) : T X eI (X12_owners_b154 i0 k124 x1 x2 x4 s0 s1 M) md_X12_owners 154 [(0, .ref i0), (1, .int x1), (2, .int x2), (4, .int x4)] [.int s0, .int s1] M := by
  unfold X12_owners_b154
  refine T_ior dX12_owners_154 ?_
  refine T_istore_n [(3, .int (s1 ||| s0)), (0, .ref i0), (1, .int x1), (2, .int x2), (4, .int x4)] dX12_owners_155 rfl (by decide) rfl ?_
  refine T_iinc 4 [(4, .int (x4 + (1 : Int32))), (3, .int (s1 ||| s0)), (0, .ref i0), (1, .int x1), (2, .int x2)] (v := (1 : Int32)) dX12_owners_156 rfl (by decide) (by decide) rfl ?_
  refine T_goto 124 dX12_owners_159 (by decide) ?_
  refine T_sub [2, 3, 4, 1, 0] (lv' := [(0, .ref i0), (1, .int x1), (2, .int x2), (3, .int (s1 ||| s0)), (4, .int (x4 + (1 : Int32)))]) rfl ?_
  exact hk124 _ _ _ _ _
set_option maxHeartbeats 4000000 in
set_option maxRecDepth 100000 in
theorem t_X12_owners_b124 {X : Scr} {i0 : Nat} (h0 : KD[i0]? = some (.inl 12)) {k124 : Int32 → Int32 → Int32 → Int32 → Mem → Option (Int32 × Mem)} (hk124 : ∀ (x1 : Int32) (x2 : Int32) (x3 : Int32) (x4 : Int32) (M : Mem), T X eI (k124 x1 x2 x3 x4 M) md_X12_owners 124 [(0, .ref i0), (1, .int x1), (2, .int x2), (3, .int x3), (4, .int x4)] [] M) (x1 : Int32) (x2 : Int32) (x3 : Int32) (x4 : Int32) (M : Mem) : T X eI (X12_owners_b124 i0 k124 x1 x2 x3 x4 M) md_X12_owners 124 [(0, .ref i0), (1, .int x1), (2, .int x2), (3, .int x3), (4, .int x4)] [] M := by
  unfold X12_owners_b124
  refine T_iload 4 dX12_owners_124 rfl ?_
  refine T_iload_n 2 dX12_owners_126 rfl rfl ?_
  refine T_icmp_ge 162 dX12_owners_127 (by decide) ?_ ?_
  ·
    refine T_aload_n 0 dX12_owners_162 rfl rfl ?_
    refine T_iload_n 1 dX12_owners_163 rfl rfl ?_
    refine T_iload_n 2 dX12_owners_164 rfl rfl ?_
    refine T_iload_n 3 dX12_owners_165 rfl rfl ?_
    refine T_callVI md_X12_ownerOf [.int x1, .int x2, .int x3] [] dX12_owners_166 h0 rfl rfl ok_X12_ownerOf tb_990 tb_992 tb_34 (by decide) (Nat.le_of_ble_eq_true rfl) (fun _ _ h9 => C_X12_ownerOf h0 _ _ _ h9) (fun r1 M1 => ?_)
    dsimp only
    exact T_iret dX12_owners_169 rfl
  ·
    refine T_aload_n 0 dX12_owners_130 rfl rfl ?_
    refine T_iload_n 1 dX12_owners_131 rfl rfl ?_
    refine T_iload 4 dX12_owners_132 rfl ?_
    refine T_iload_n 3 dX12_owners_134 rfl rfl ?_
    refine T_callVI md_X12_ownerOf [.int x1, .int x4, .int x3] [] dX12_owners_135 h0 rfl rfl ok_X12_ownerOf tb_990 tb_992 tb_34 (by decide) (Nat.le_of_ble_eq_true rfl) (fun _ _ h9 => C_X12_ownerOf h0 _ _ _ h9) (fun r2 M2 => ?_)
    dsimp only
    refine T_istore [(5, .int r2), (0, .ref i0), (1, .int x1), (2, .int x2), (3, .int x3), (4, .int x4)] dX12_owners_138 (by decide) rfl ?_
    refine T_iload_n 4 dX12_owners_140 rfl rfl ?_
    refine T_iload 0 dX12_owners_141 rfl ?_
    refine T_if_ge 150 dX12_owners_143 (by decide) ?_ ?_
    ·
      refine T_iconst (v := (1 : Int32)) (by decide) dX12_owners_150 ?_
      refine T_iload 0 dX12_owners_151 rfl ?_
      refine T_ishl dX12_owners_153 ?_
      refine T_sub [1, 2, 3, 5] (lv' := [(0, .ref i0), (1, .int x1), (2, .int x2), (4, .int x4)]) rfl ?_
      exact t_X12_owners_b154 h0 hk124 _ _ _ _ _ _
    ·
      refine T_iconst (v := (0 : Int32)) (by decide) dX12_owners_146 ?_
      refine T_goto 154 dX12_owners_147 (by decide) ?_
      refine T_sub [1, 2, 3, 5] (lv' := [(0, .ref i0), (1, .int x1), (2, .int x2), (4, .int x4)]) rfl ?_
      exact t_X12_owners_b154 h0 hk124 _ _ _ _ _ _
theorem t_X12_owners_l124 {X : Scr} {i0 : Nat} (h0 : KD[i0]? = some (.inl 12)) (n : Nat) : ∀ (x1 : Int32) (x2 : Int32) (x3 : Int32) (x4 : Int32) (M : Mem), T X eI (X12_owners_l124 i0  n x1 x2 x3 x4 M) md_X12_owners 124 [(0, .ref i0), (1, .int x1), (2, .int x2), (3, .int x3), (4, .int x4)] [] M := by
  induction n with
  | zero => intro x1 x2 x3 x4 M; exact T_none
  | succ n ih => intro x1 x2 x3 x4 M; exact t_X12_owners_b124 h0 ih x1 x2 x3 x4 M
set_option maxHeartbeats 4000000 in
set_option maxRecDepth 100000 in
theorem t_X12_owners_b60 {X : Scr} {i0 : Nat} (h0 : KD[i0]? = some (.inl 12)) {k60 : Int32 → Int32 → Int32 → Mem → Option (Int32 × Mem)} (hk60 : ∀ (x1 : Int32) (x2 : Int32) (x3 : Int32) (M : Mem), T X eI (k60 x1 x2 x3 M) md_X12_owners 60 [(0, .ref i0), (1, .int x1), (2, .int x2), (3, .int x3)] [] M) (x1 : Int32) (x2 : Int32) (x3 : Int32) (M : Mem) : T X eI (X12_owners_b60 i0 k60 x1 x2 x3 M) md_X12_owners 60 [(0, .ref i0), (1, .int x1), (2, .int x2), (3, .int x3)] [] M := by
  unfold X12_owners_b60
  refine T_iload_n 3 dX12_owners_60 rfl rfl ?_
  refine T_if_lt 108 dX12_owners_61 (by decide) ?_ ?_
  ·
    refine T_iload_n 2 dX12_owners_108 rfl rfl ?_
    refine T_if_ge 119 dX12_owners_109 (by decide) ?_ ?_
    ·
      refine T_iconst (v := (0 : Int32)) (by decide) dX12_owners_119 ?_
      refine T_istore_n [(3, .int (0 : Int32)), (0, .ref i0), (1, .int x1), (2, .int x2)] dX12_owners_120 rfl (by decide) rfl ?_
      refine T_iconst (v := (0 : Int32)) (by decide) dX12_owners_121 ?_
      refine T_istore [(4, .int (0 : Int32)), (3, .int (0 : Int32)), (0, .ref i0), (1, .int x1), (2, .int x2)] dX12_owners_122 (by decide) rfl ?_
      refine T_sub [2, 3, 4, 1, 0] (lv' := [(0, .ref i0), (1, .int x1), (2, .int x2), (3, .int (0 : Int32)), (4, .int (0 : Int32))]) rfl ?_
      exact t_X12_owners_l124 h0  _ _ _ _ _ _
    ·
      refine T_aload_n 0 dX12_owners_112 rfl rfl ?_
      refine T_getR 22 FOk_12 h0 (by decide) (by decide) dX12_owners_113 tb_735 ?_
      refine T_iconst (v := (0 : Int32)) (by decide) dX12_owners_116 ?_
      refine T_iald (kf_12_22 h0) dX12_owners_117 ?_
      exact T_iret dX12_owners_118 rfl
  ·
    refine T_iconst (v := (0 : Int32)) (by decide) dX12_owners_64 ?_
    refine T_istore [(4, .int (0 : Int32)), (0, .ref i0), (1, .int x1), (2, .int x2), (3, .int x3)] dX12_owners_65 (by decide) rfl ?_
    refine T_sub [1, 2, 3, 4, 0] (lv' := [(0, .ref i0), (1, .int x1), (2, .int x2), (3, .int x3), (4, .int (0 : Int32))]) rfl ?_
    exact t_X12_owners_l67 h0 hk60 _ _ _ _ _ _
theorem t_X12_owners_l60 {X : Scr} {i0 : Nat} (h0 : KD[i0]? = some (.inl 12)) (n : Nat) : ∀ (x1 : Int32) (x2 : Int32) (x3 : Int32) (M : Mem), T X eI (X12_owners_l60 i0  n x1 x2 x3 M) md_X12_owners 60 [(0, .ref i0), (1, .int x1), (2, .int x2), (3, .int x3)] [] M := by
  induction n with
  | zero => intro x1 x2 x3 M; exact T_none
  | succ n ih => intro x1 x2 x3 M; exact t_X12_owners_b60 h0 ih x1 x2 x3 M
set_option maxHeartbeats 4000000 in
set_option maxRecDepth 100000 in
theorem t_X12_owners_b33 {X : Scr} {i0 : Nat} (h0 : KD[i0]? = some (.inl 12)) {k33 : Int32 → Int32 → Int32 → Mem → Option (Int32 × Mem)} (hk33 : ∀ (x1 : Int32) (x2 : Int32) (x3 : Int32) (M : Mem), T X eI (k33 x1 x2 x3 M) md_X12_owners 33 [(0, .ref i0), (1, .int x1), (2, .int x2), (3, .int x3)] [] M) (x1 : Int32) (x2 : Int32) (x3 : Int32) (M : Mem) : T X eI (X12_owners_b33 i0 k33 x1 x2 x3 M) md_X12_owners 33 [(0, .ref i0), (1, .int x1), (2, .int x2), (3, .int x3)] [] M := by
  unfold X12_owners_b33
  refine T_iload_n 3 dX12_owners_33 rfl rfl ?_
  refine T_sipush (v := (1024 : Int32)) (by decide) dX12_owners_34 ?_
  refine T_icmp_ge 57 dX12_owners_37 (by decide) ?_ ?_
  ·
    refine T_bipush (v := (7 : Int32)) (by decide) dX12_owners_57 ?_
    refine T_istore_n [(3, .int (7 : Int32)), (0, .ref i0), (1, .int x1), (2, .int x2)] dX12_owners_59 rfl (by decide) rfl ?_
    refine T_sub [1, 2, 3, 0] (lv' := [(0, .ref i0), (1, .int x1), (2, .int x2), (3, .int (7 : Int32))]) rfl ?_
    exact t_X12_owners_l60 h0  _ _ _ _ _
  ·
    refine T_aload_n 0 dX12_owners_40 rfl rfl ?_
    refine T_getR 22 FOk_12 h0 (by decide) (by decide) dX12_owners_41 tb_735 ?_
    refine T_sipush (v := (8192 : Int32)) (by decide) dX12_owners_44 ?_
    refine T_iload_n 3 dX12_owners_47 rfl rfl ?_
    refine T_iadd dX12_owners_48 ?_
    refine T_iconst (v := (0 : Int32)) (by decide) dX12_owners_49 ?_
    refine T_iast (kf_12_22 h0) dX12_owners_50 ?_
    refine T_iinc 3 [(3, .int (x3 + (1 : Int32))), (0, .ref i0), (1, .int x1), (2, .int x2)] (v := (1 : Int32)) dX12_owners_51 rfl (by decide) (by decide) rfl ?_
    refine T_goto 33 dX12_owners_54 (by decide) ?_
    refine T_sub [1, 2, 3, 0] (lv' := [(0, .ref i0), (1, .int x1), (2, .int x2), (3, .int (x3 + (1 : Int32)))]) rfl ?_
    exact hk33 _ _ _ _
theorem t_X12_owners_l33 {X : Scr} {i0 : Nat} (h0 : KD[i0]? = some (.inl 12)) (n : Nat) : ∀ (x1 : Int32) (x2 : Int32) (x3 : Int32) (M : Mem), T X eI (X12_owners_l33 i0  n x1 x2 x3 M) md_X12_owners 33 [(0, .ref i0), (1, .int x1), (2, .int x2), (3, .int x3)] [] M := by
  induction n with
  | zero => intro x1 x2 x3 M; exact T_none
  | succ n ih => intro x1 x2 x3 M; exact t_X12_owners_b33 h0 ih x1 x2 x3 M
set_option maxHeartbeats 4000000 in
set_option maxRecDepth 100000 in
theorem t_X12_owners {X : Scr} {i0 : Nat} (h0 : KD[i0]? = some (.inl 12)) (x1 : Int32) (x2 : Int32) (M : Mem) : T X eI (X12_owners i0  x1 x2 M) md_X12_owners 0 [(0, .ref i0), (1, .int x1), (2, .int x2)] [] M := by
  unfold X12_owners
  refine T_iload_n 2 dX12_owners_0 rfl rfl ?_
  refine T_i2l dX12_owners_1 ?_
  refine T_ldc2 (v := (-1 : Int64)) dX12_owners_2 tb_980 ?_
  refine T_ldc2 (v := (7 : Int64)) dX12_owners_5 tb_981 ?_
  refine T_callSI md_X12_in [.long x2.toInt64, .long (-1 : Int64), .long (7 : Int64)] [] dX12_owners_8 rfl ok_X12_in tb_816 tb_817 (by decide) (Nat.le_of_ble_eq_true rfl) (fun _ _ h9 => C_X12_in  _ _ _ h9) (fun r1 M1 => ?_)
  dsimp only
  refine T_if_ne 16 dX12_owners_11 (by decide) ?_ ?_
  ·
    refine T_iconst (v := (-1 : Int32)) (by decide) dX12_owners_14 ?_
    exact T_iret dX12_owners_15 rfl
  ·
    refine T_iload_n 1 dX12_owners_16 rfl rfl ?_
    refine T_i2l dX12_owners_17 ?_
    refine T_lconst (v := (0 : Int64)) (by decide) dX12_owners_18 ?_
    refine T_ldc2 (v := (255 : Int64)) dX12_owners_19 tb_819 ?_
    refine T_callSI md_X12_in [.long x1.toInt64, .long (0 : Int64), .long (255 : Int64)] [] dX12_owners_22 rfl ok_X12_in tb_816 tb_817 (by decide) (Nat.le_of_ble_eq_true rfl) (fun _ _ h9 => C_X12_in  _ _ _ h9) (fun r2 M2 => ?_)
    dsimp only
    refine T_if_ne 31 dX12_owners_25 (by decide) ?_ ?_
    ·
      refine T_bipush (v := (-2 : Int32)) (by decide) dX12_owners_28 ?_
      exact T_iret dX12_owners_30 rfl
    ·
      refine T_iconst (v := (0 : Int32)) (by decide) dX12_owners_31 ?_
      refine T_istore_n [(3, .int (0 : Int32)), (0, .ref i0), (1, .int x1), (2, .int x2)] dX12_owners_32 rfl (by decide) rfl ?_
      refine T_sub [1, 2, 3, 0] (lv' := [(0, .ref i0), (1, .int x1), (2, .int x2), (3, .int (0 : Int32))]) rfl ?_
      exact t_X12_owners_l33 h0  _ _ _ _ _
theorem C_X12_owners {X : Scr} {i0 : Nat} (h0 : KD[i0]? = some (.inl 12)) (x1 : Int32) (x2 : Int32) {M : Mem} {r : Int32} {M' : Mem} (h : X12_owners i0 x1 x2 M = some (r, M')) : Ct X md_X12_owners [.ref i0, .int x1, .int x2] M (eI r) M' := Ct_of (by decide +kernel) (Nat.le_of_ble_eq_true rfl) (t_X12_owners h0 _ _ M) r M' h
-- X12_readHooks
def X12_readHooks_b61 (i0 : Nat)  (s0 : Int32) (M : Mem) : Option (Int32 × Mem) :=
  gd (s0 == 0 || s0 == 1) (some (s0, M))
def X12_readHooks_b60 (i0 : Nat)   (M : Mem) : Option (Int32 × Mem) :=
  X12_readHooks_b61 i0  (0 : Int32) M
def X12_readHooks_b7 (i0 : Nat) (k7 : Int32 → Int32 → Int32 → Mem → Option (Int32 × Mem)) (x2 : Int32) (x3 : Int32) (x4 : Int32) (M : Mem) : Option (Int32 × Mem) :=
  if x4 < 0 then
    if x2 = 0 then
      if x3 = (63 : Int32) then
        X12_readHooks_b61 i0  (1 : Int32) M
      else
        X12_readHooks_b60 i0   M
    else
      X12_readHooks_b60 i0   M
  else
    gd (!((10 : Int32) == 0)) (
      gd (ib x4 6) (
        gd (ib x4 6) (
          iw (x3 ||| ((1 : Int32) <<< (((mI M (rf i0 23) x4.toNatClampNeg (x2 - x2 / (10 : Int32) * (10 : Int32))).1 (rf i0 23) x4.toNatClampNeg) &&& 31))) (fun v1 =>
            gd (!((10 : Int32) == 0)) (
              k7 (x2 / (10 : Int32)) v1 (x4 + (-1 : Int32)) (mI M (rf i0 23) x4.toNatClampNeg (x2 - x2 / (10 : Int32) * (10 : Int32))))))))
def X12_readHooks_l7 (i0 : Nat)  : Nat → Int32 → Int32 → Int32 → Mem → Option (Int32 × Mem)
  | 0 => fun _ _ _ _ => none
  | n + 1 => X12_readHooks_b7 i0 (X12_readHooks_l7 i0  n)
def X12_readHooks (i0 : Nat)  (x1 : Int32) (M : Mem) : Option (Int32 × Mem) :=
  X12_readHooks_l7 i0  FU x1 (0 : Int32) (5 : Int32) M
set_option maxHeartbeats 4000000 in
set_option maxRecDepth 100000 in
theorem t_X12_readHooks_b61 {X : Scr} {i0 : Nat} (h0 : KD[i0]? = some (.inl 12)) (s0 : Int32) (M : Mem) : T X eI (X12_readHooks_b61 i0  s0 M) md_X12_readHooks 61 [] [.int s0] M := by
  unfold X12_readHooks_b61
  exact T_zret dX12_readHooks_61 rfl
set_option maxHeartbeats 4000000 in
set_option maxRecDepth 100000 in
theorem t_X12_readHooks_b60 {X : Scr} {i0 : Nat} (h0 : KD[i0]? = some (.inl 12))  (M : Mem) : T X eI (X12_readHooks_b60 i0   M) md_X12_readHooks 60 [] [] M := by
  unfold X12_readHooks_b60
  refine T_iconst (v := (0 : Int32)) (by decide) dX12_readHooks_60 ?_
  exact t_X12_readHooks_b61 h0  _ _
set_option maxHeartbeats 4000000 in
set_option maxRecDepth 100000 in
theorem t_X12_readHooks_b7 {X : Scr} {i0 : Nat} (h0 : KD[i0]? = some (.inl 12)) {k7 : Int32 → Int32 → Int32 → Mem → Option (Int32 × Mem)} (hk7 : ∀ (x2 : Int32) (x3 : Int32) (x4 : Int32) (M : Mem), T X eI (k7 x2 x3 x4 M) md_X12_readHooks 7 [(0, .ref i0), (2, .int x2), (3, .int x3), (4, .int x4)] [] M) (x2 : Int32) (x3 : Int32) (x4 : Int32) (M : Mem) : T X eI (X12_readHooks_b7 i0 k7 x2 x3 x4 M) md_X12_readHooks 7 [(0, .ref i0), (2, .int x2), (3, .int x3), (4, .int x4)] [] M := by
  unfold X12_readHooks_b7
  refine T_iload 3 dX12_readHooks_7 rfl ?_
  refine T_if_lt 46 dX12_readHooks_9 (by decide) ?_ ?_
  ·
    refine T_iload_n 1 dX12_readHooks_46 rfl rfl ?_
    refine T_if_ne 60 dX12_readHooks_47 (by decide) ?_ ?_
    ·
      refine T_iload_n 2 dX12_readHooks_50 rfl rfl ?_
      refine T_bipush (v := (63 : Int32)) (by decide) dX12_readHooks_51 ?_
      refine T_icmp_ne 60 dX12_readHooks_53 (by decide) ?_ ?_
      ·
        refine T_iconst (v := (1 : Int32)) (by decide) dX12_readHooks_56 ?_
        refine T_goto 61 dX12_readHooks_57 (by decide) ?_
        refine T_sub [] (lv' := []) rfl ?_
        exact t_X12_readHooks_b61 h0  _ _
      ·
        refine T_sub [] (lv' := []) rfl ?_
        exact t_X12_readHooks_b60 h0   _
    ·
      refine T_sub [] (lv' := []) rfl ?_
      exact t_X12_readHooks_b60 h0   _
  ·
    refine T_aload_n 0 dX12_readHooks_12 rfl rfl ?_
    refine T_getR 23 FOk_12 h0 (by decide) (by decide) dX12_readHooks_13 tb_736 ?_
    refine T_iload 3 dX12_readHooks_16 rfl ?_
    refine T_iload_n 1 dX12_readHooks_18 rfl rfl ?_
    refine T_bipush (v := (10 : Int32)) (by decide) dX12_readHooks_19 ?_
    refine T_irem dX12_readHooks_21 ?_
    refine T_iast (kf_12_23 h0) dX12_readHooks_22 ?_
    refine T_iload_n 2 dX12_readHooks_23 rfl rfl ?_
    refine T_iconst (v := (1 : Int32)) (by decide) dX12_readHooks_24 ?_
    refine T_aload_n 0 dX12_readHooks_25 rfl rfl ?_
    refine T_getR 23 FOk_12 h0 (by decide) (by decide) dX12_readHooks_26 tb_736 ?_
    refine T_iload 3 dX12_readHooks_29 rfl ?_
    refine T_iald (kf_12_23 h0) dX12_readHooks_31 ?_
    refine T_ishl dX12_readHooks_32 ?_
    refine T_ior dX12_readHooks_33 ?_
    refine T_iw (fun v1 => ?_)
    try dsimp only
    refine T_istore_n [(3, .int v1), (0, .ref i0), (2, .int x2), (4, .int x4)] dX12_readHooks_34 rfl (by decide) rfl ?_
    refine T_iload_n 2 dX12_readHooks_35 rfl rfl ?_
    refine T_bipush (v := (10 : Int32)) (by decide) dX12_readHooks_36 ?_
    refine T_idiv dX12_readHooks_38 ?_
    refine T_istore_n [(2, .int (x2 / (10 : Int32))), (3, .int v1), (0, .ref i0), (4, .int x4)] dX12_readHooks_39 rfl (by decide) rfl ?_
    refine T_iinc 3 [(4, .int (x4 + (-1 : Int32))), (2, .int (x2 / (10 : Int32))), (3, .int v1), (0, .ref i0)] (v := (-1 : Int32)) dX12_readHooks_40 rfl (by decide) (by decide) rfl ?_
    refine T_goto 7 dX12_readHooks_43 (by decide) ?_
    refine T_sub [3, 1, 2, 0] (lv' := [(0, .ref i0), (2, .int (x2 / (10 : Int32))), (3, .int v1), (4, .int (x4 + (-1 : Int32)))]) rfl ?_
    exact hk7 _ _ _ _
theorem t_X12_readHooks_l7 {X : Scr} {i0 : Nat} (h0 : KD[i0]? = some (.inl 12)) (n : Nat) : ∀ (x2 : Int32) (x3 : Int32) (x4 : Int32) (M : Mem), T X eI (X12_readHooks_l7 i0  n x2 x3 x4 M) md_X12_readHooks 7 [(0, .ref i0), (2, .int x2), (3, .int x3), (4, .int x4)] [] M := by
  induction n with
  | zero => intro x2 x3 x4 M; exact T_none
  | succ n ih => intro x2 x3 x4 M; exact t_X12_readHooks_b7 h0 ih x2 x3 x4 M
set_option maxHeartbeats 4000000 in
set_option maxRecDepth 100000 in
theorem t_X12_readHooks {X : Scr} {i0 : Nat} (h0 : KD[i0]? = some (.inl 12)) (x1 : Int32) (M : Mem) : T X eI (X12_readHooks i0  x1 M) md_X12_readHooks 0 [(0, .ref i0), (1, .int x1)] [] M := by
  unfold X12_readHooks
  refine T_iload_n 1 dX12_readHooks_0 rfl rfl ?_
  refine T_istore_n [(2, .int x1), (0, .ref i0), (1, .int x1)] dX12_readHooks_1 rfl (by decide) rfl ?_
  refine T_iconst (v := (0 : Int32)) (by decide) dX12_readHooks_2 ?_
  refine T_istore_n [(3, .int (0 : Int32)), (2, .int x1), (0, .ref i0), (1, .int x1)] dX12_readHooks_3 rfl (by decide) rfl ?_
  refine T_iconst (v := (5 : Int32)) (by decide) dX12_readHooks_4 ?_
  refine T_istore [(4, .int (5 : Int32)), (3, .int (0 : Int32)), (2, .int x1), (0, .ref i0), (1, .int x1)] dX12_readHooks_5 (by decide) rfl ?_
  refine T_sub [3, 2, 1, 0] (lv' := [(0, .ref i0), (2, .int x1), (3, .int (0 : Int32)), (4, .int (5 : Int32))]) rfl ?_
  exact t_X12_readHooks_l7 h0  _ _ _ _ _
theorem C_X12_readHooks {X : Scr} {i0 : Nat} (h0 : KD[i0]? = some (.inl 12)) (x1 : Int32) {M : Mem} {r : Int32} {M' : Mem} (h : X12_readHooks i0 x1 M = some (r, M')) : Ct X md_X12_readHooks [.ref i0, .int x1] M (eI r) M' := Ct_of (by decide +kernel) (Nat.le_of_ble_eq_true rfl) (t_X12_readHooks h0 _ M) r M' h
-- X12_common
def X12_common_b4  (k4 : Int32 → Int32 → Mem → Option (Int32 × Mem)) (x2 : Int32) (x3 : Int32) (M : Mem) : Option (Int32 × Mem) :=
  if x3 = 0 then
    some (x2, M)
  else
    gd (!(x3 == 0)) (
      k4 x3 (x2 - x2 / x3 * x3) M)
def X12_common_l4   : Nat → Int32 → Int32 → Mem → Option (Int32 × Mem)
  | 0 => fun _ _ _ => none
  | n + 1 => X12_common_b4  (X12_common_l4   n)
def X12_common   (x0 : Int32) (x1 : Int32) (M : Mem) : Option (Int32 × Mem) :=
  X12_common_l4   FU x0 x1 M
set_option maxHeartbeats 4000000 in
set_option maxRecDepth 100000 in
theorem t_X12_common_b4 {X : Scr}   {k4 : Int32 → Int32 → Mem → Option (Int32 × Mem)} (hk4 : ∀ (x2 : Int32) (x3 : Int32) (M : Mem), T X eI (k4 x2 x3 M) md_X12_common 4 [(2, .int x2), (3, .int x3)] [] M) (x2 : Int32) (x3 : Int32) (M : Mem) : T X eI (X12_common_b4  k4 x2 x3 M) md_X12_common 4 [(2, .int x2), (3, .int x3)] [] M := by
  unfold X12_common_b4
  refine T_iload_n 1 dX12_common_4 rfl rfl ?_
  refine T_if_eq 21 dX12_common_5 (by decide) ?_ ?_
  ·
    refine T_iload_n 0 dX12_common_21 rfl rfl ?_
    exact T_iret dX12_common_22 rfl
  ·
    refine T_iload_n 0 dX12_common_8 rfl rfl ?_
    refine T_iload_n 1 dX12_common_9 rfl rfl ?_
    refine T_irem dX12_common_10 ?_
    refine T_istore [(4, .int (x2 - x2 / x3 * x3)), (2, .int x2), (3, .int x3)] dX12_common_11 (by decide) rfl ?_
    refine T_iload_n 2 dX12_common_13 rfl rfl ?_
    refine T_istore_n [(2, .int x3), (4, .int (x2 - x2 / x3 * x3)), (3, .int x3)] dX12_common_14 rfl (by decide) rfl ?_
    refine T_iload 1 dX12_common_15 rfl ?_
    refine T_istore_n [(3, .int (x2 - x2 / x3 * x3)), (2, .int x3), (4, .int (x2 - x2 / x3 * x3))] dX12_common_17 rfl (by decide) rfl ?_
    refine T_goto 4 dX12_common_18 (by decide) ?_
    refine T_sub [1, 0] (lv' := [(2, .int x3), (3, .int (x2 - x2 / x3 * x3))]) rfl ?_
    exact hk4 _ _ _
theorem t_X12_common_l4 {X : Scr}   (n : Nat) : ∀ (x2 : Int32) (x3 : Int32) (M : Mem), T X eI (X12_common_l4   n x2 x3 M) md_X12_common 4 [(2, .int x2), (3, .int x3)] [] M := by
  induction n with
  | zero => intro x2 x3 M; exact T_none
  | succ n ih => intro x2 x3 M; exact t_X12_common_b4  ih x2 x3 M
set_option maxHeartbeats 4000000 in
set_option maxRecDepth 100000 in
theorem t_X12_common {X : Scr}   (x0 : Int32) (x1 : Int32) (M : Mem) : T X eI (X12_common   x0 x1 M) md_X12_common 0 [(0, .int x0), (1, .int x1)] [] M := by
  unfold X12_common
  refine T_iload_n 0 dX12_common_0 rfl rfl ?_
  refine T_istore_n [(2, .int x0), (0, .int x0), (1, .int x1)] dX12_common_1 rfl (by decide) rfl ?_
  refine T_iload_n 2 dX12_common_2 rfl rfl ?_
  refine T_istore_n [(3, .int x1), (2, .int x0), (0, .int x0), (1, .int x1)] dX12_common_3 rfl (by decide) rfl ?_
  refine T_sub [1, 0] (lv' := [(2, .int x0), (3, .int x1)]) rfl ?_
  exact t_X12_common_l4   _ _ _ _
theorem C_X12_common {X : Scr}   (x0 : Int32) (x1 : Int32) {M : Mem} {r : Int32} {M' : Mem} (h : X12_common  x0 x1 M = some (r, M')) : Ct X md_X12_common [.int x0, .int x1] M (eI r) M' := Ct_of (by decide +kernel) (Nat.le_of_ble_eq_true rfl) (t_X12_common  _ _ M) r M' h
