-- X6_mostAtOnce
def X6_mostAtOnce_b8 (i0 : Nat) (k8 : Int32 → Int32 → Int32 → Int32 → Mem → Option (Int32 × Mem)) (x1 : Int32) (x2 : Int32) (x3 : Int32) (x4 : Int32) (M : Mem) : Option (Int32 × Mem) :=
  if x4 ≤ 0 then
    some (x3, M)
  else
    (J6_bitCount_0f7a4  (x1 &&& (x4 ^^^ (-1 : Int32))) M).bind (fun p1 =>
      gd (ib x4 256) (
        (J6_bitCount_0f7a4  ((p1.2.1 (rf i0 0) x4.toNatClampNeg) &&& x2) p1.2).bind (fun p2 =>
          (J9_min_7cf53  x3 (p1.1 + p2.1) p2.2).bind (fun p3 =>
            k8 x1 x2 p3.1 ((x4 - (1 : Int32)) &&& x1) p3.2))))
def X6_mostAtOnce_l8 (i0 : Nat)  : Nat → Int32 → Int32 → Int32 → Int32 → Mem → Option (Int32 × Mem)
  | 0 => fun _ _ _ _ _ => none
  | n + 1 => X6_mostAtOnce_b8 i0 (X6_mostAtOnce_l8 i0  n)
def X6_mostAtOnce (i0 : Nat)  (x1 : Int32) (x2 : Int32) (M : Mem) : Option (Int32 × Mem) :=
  (J6_bitCount_0f7a4  x1 M).bind (fun p1 =>
    X6_mostAtOnce_l8 i0  FU x1 x2 p1.1 x1 p1.2)
set_option maxHeartbeats 4000000 in
set_option maxRecDepth 100000 in
theorem t_X6_mostAtOnce_b8 {X : Scr} {i0 : Nat} (h0 : KD[i0]? = some (.inl 6)) {k8 : Int32 → Int32 → Int32 → Int32 → Mem → Option (Int32 × Mem)} (hk8 : ∀ (x1 : Int32) (x2 : Int32) (x3 : Int32) (x4 : Int32) (M : Mem), T X eI (k8 x1 x2 x3 x4 M) md_X6_mostAtOnce 8 [(0, .ref i0), (1, .int x1), (2, .int x2), (3, .int x3), (4, .int x4)] [] M) (x1 : Int32) (x2 : Int32) (x3 : Int32) (x4 : Int32) (M : Mem) : T X eI (X6_mostAtOnce_b8 i0 k8 x1 x2 x3 x4 M) md_X6_mostAtOnce 8 [(0, .ref i0), (1, .int x1), (2, .int x2), (3, .int x3), (4, .int x4)] [] M := by
  unfold X6_mostAtOnce_b8
  refine T_iload 4 dX6_mostAtOnce_8 rfl ?_
  refine T_if_le 55 dX6_mostAtOnce_10 (by decide) ?_ ?_
  ·
    refine T_iload_n 3 dX6_mostAtOnce_55 rfl rfl ?_
    exact T_iret dX6_mostAtOnce_56 rfl
  ·
    refine T_iload_n 1 dX6_mostAtOnce_13 rfl rfl ?_
    refine T_iload 4 dX6_mostAtOnce_14 rfl ?_
    refine T_iconst (v := (-1 : Int32)) (by decide) dX6_mostAtOnce_16 ?_
    refine T_ixor dX6_mostAtOnce_17 ?_
    refine T_iand dX6_mostAtOnce_18 ?_
    refine T_callSI md_J6_bitCount_0f7a4 [.int (x1 &&& (x4 ^^^ (-1 : Int32)))] [] dX6_mostAtOnce_19 rfl ok_J6_bitCount_0f7a4 tb_565 tb_525 (by decide) (Nat.le_of_ble_eq_true rfl) (fun _ _ h9 => C_J6_bitCount_0f7a4  _ h9) (fun r1 M1 => ?_)
    dsimp only
    refine T_aload_n 0 dX6_mostAtOnce_22 rfl rfl ?_
    refine T_getR 0 FOk_6 h0 (by decide) (by decide) dX6_mostAtOnce_23 tb_236 ?_
    refine T_iload 4 dX6_mostAtOnce_26 rfl ?_
    refine T_iald (kf_6_0 h0) dX6_mostAtOnce_28 ?_
    refine T_iload_n 2 dX6_mostAtOnce_29 rfl rfl ?_
    refine T_iand dX6_mostAtOnce_30 ?_
    refine T_callSI md_J6_bitCount_0f7a4 [.int ((M1.1 (rf i0 0) x4.toNatClampNeg) &&& x2)] [.int r1] dX6_mostAtOnce_31 rfl ok_J6_bitCount_0f7a4 tb_565 tb_525 (by decide) (Nat.le_of_ble_eq_true rfl) (fun _ _ h9 => C_J6_bitCount_0f7a4  _ h9) (fun r2 M2 => ?_)
    dsimp only
    refine T_iadd dX6_mostAtOnce_34 ?_
    refine T_istore [(5, .int (r1 + r2)), (0, .ref i0), (1, .int x1), (2, .int x2), (3, .int x3), (4, .int x4)] dX6_mostAtOnce_35 (by decide) rfl ?_
    refine T_iload_n 4 dX6_mostAtOnce_37 rfl rfl ?_
    refine T_iload 0 dX6_mostAtOnce_38 rfl ?_
    refine T_callSI md_J9_min_7cf53 [.int x3, .int (r1 + r2)] [] dX6_mostAtOnce_40 rfl ok_J9_min_7cf53 tb_566 tb_478 (by decide) (Nat.le_of_ble_eq_true rfl) (fun _ _ h9 => C_J9_min_7cf53  _ _ h9) (fun r3 M3 => ?_)
    dsimp only
    refine T_istore_n [(3, .int r3), (5, .int (r1 + r2)), (0, .ref i0), (1, .int x1), (2, .int x2), (4, .int x4)] dX6_mostAtOnce_43 rfl (by decide) rfl ?_
    refine T_iload 5 dX6_mostAtOnce_44 rfl ?_
    refine T_iconst (v := (1 : Int32)) (by decide) dX6_mostAtOnce_46 ?_
    refine T_isub dX6_mostAtOnce_47 ?_
    refine T_iload_n 3 dX6_mostAtOnce_48 rfl rfl ?_
    refine T_iand dX6_mostAtOnce_49 ?_
    refine T_istore [(4, .int ((x4 - (1 : Int32)) &&& x1)), (3, .int r3), (5, .int (r1 + r2)), (0, .ref i0), (1, .int x1), (2, .int x2)] dX6_mostAtOnce_50 (by decide) rfl ?_
    refine T_goto 8 dX6_mostAtOnce_52 (by decide) ?_
    refine T_sub [3, 4, 5, 1, 0] (lv' := [(0, .ref i0), (1, .int x1), (2, .int x2), (3, .int r3), (4, .int ((x4 - (1 : Int32)) &&& x1))]) rfl ?_
    exact hk8 _ _ _ _ _
theorem t_X6_mostAtOnce_l8 {X : Scr} {i0 : Nat} (h0 : KD[i0]? = some (.inl 6)) (n : Nat) : ∀ (x1 : Int32) (x2 : Int32) (x3 : Int32) (x4 : Int32) (M : Mem), T X eI (X6_mostAtOnce_l8 i0  n x1 x2 x3 x4 M) md_X6_mostAtOnce 8 [(0, .ref i0), (1, .int x1), (2, .int x2), (3, .int x3), (4, .int x4)] [] M := by
  induction n with
  | zero => intro x1 x2 x3 x4 M; exact T_none
  | succ n ih => intro x1 x2 x3 x4 M; exact t_X6_mostAtOnce_b8 h0 ih x1 x2 x3 x4 M
set_option maxHeartbeats 4000000 in
set_option maxRecDepth 100000 in
theorem t_X6_mostAtOnce {X : Scr} {i0 : Nat} (h0 : KD[i0]? = some (.inl 6)) (x1 : Int32) (x2 : Int32) (M : Mem) : T X eI (X6_mostAtOnce i0  x1 x2 M) md_X6_mostAtOnce 0 [(0, .ref i0), (1, .int x1), (2, .int x2)] [] M := by
  unfold X6_mostAtOnce
  refine T_iload_n 1 dX6_mostAtOnce_0 rfl rfl ?_
  refine T_callSI md_J6_bitCount_0f7a4 [.int x1] [] dX6_mostAtOnce_1 rfl ok_J6_bitCount_0f7a4 tb_565 tb_525 (by decide) (Nat.le_of_ble_eq_true rfl) (fun _ _ h9 => C_J6_bitCount_0f7a4  _ h9) (fun r1 M1 => ?_)
  dsimp only
  refine T_istore_n [(3, .int r1), (0, .ref i0), (1, .int x1), (2, .int x2)] dX6_mostAtOnce_4 rfl (by decide) rfl ?_
  refine T_iload_n 2 dX6_mostAtOnce_5 rfl rfl ?_
  refine T_istore [(4, .int x1), (3, .int r1), (0, .ref i0), (1, .int x1), (2, .int x2)] dX6_mostAtOnce_6 (by decide) rfl ?_
  refine T_sub [2, 3, 4, 1, 0] (lv' := [(0, .ref i0), (1, .int x1), (2, .int x2), (3, .int r1), (4, .int x1)]) rfl ?_
  exact t_X6_mostAtOnce_l8 h0  _ _ _ _ _ _
theorem C_X6_mostAtOnce {X : Scr} {i0 : Nat} (h0 : KD[i0]? = some (.inl 6)) (x1 : Int32) (x2 : Int32) {M : Mem} {r : Int32} {M' : Mem} (h : X6_mostAtOnce i0 x1 x2 M = some (r, M')) : Ct X md_X6_mostAtOnce [.ref i0, .int x1, .int x2] M (eI r) M' := Ct_of (by decide +kernel) (Nat.le_of_ble_eq_true rfl) (t_X6_mostAtOnce h0 _ _ M) r M' h
-- X6_leastBasket
def X6_leastBasket_b42 (i0 : Nat) (k3 : Int32 → Int32 → Int32 → Int32 → Int32 → Mem → Option (Int32 × Mem)) (x1 : Int32) (x2 : Int32) (x3 : Int32) (x4 : Int32) (x5 : Int32) (M : Mem) : Option (Int32 × Mem) :=
  k3 x1 x2 x3 x4 (x5 + (1 : Int32)) M
def X6_leastBasket_b3 (i0 : Nat) (k3 : Int32 → Int32 → Int32 → Int32 → Int32 → Mem → Option (Int32 × Mem)) (x1 : Int32) (x2 : Int32) (x3 : Int32) (x4 : Int32) (x5 : Int32) (M : Mem) : Option (Int32 × Mem) :=
  if (10 : Int32) ≤ x5 then
    some ((-6 : Int32), M)
  else
    (X11_isIn  x1 x5 M).bind (fun p1 =>
      if p1.1 = 0 then
        X6_leastBasket_b42 i0 k3 x1 x2 x3 x4 x5 p1.2
      else
        (X6_mostAtOnce i0 x2 (x3 &&& (((1 : Int32) <<< (x5 &&& 31)) ^^^ (-1 : Int32))) p1.2).bind (fun p2 =>
          if (p2.1 + (1 : Int32)) = x4 then
            some (x5, p2.2)
          else
            X6_leastBasket_b42 i0 k3 x1 x2 x3 x4 x5 p2.2))
def X6_leastBasket_l3 (i0 : Nat)  : Nat → Int32 → Int32 → Int32 → Int32 → Int32 → Mem → Option (Int32 × Mem)
  | 0 => fun _ _ _ _ _ _ => none
  | n + 1 => X6_leastBasket_b3 i0 (X6_leastBasket_l3 i0  n)
def X6_leastBasket (i0 : Nat)  (x1 : Int32) (x2 : Int32) (x3 : Int32) (x4 : Int32) (M : Mem) : Option (Int32 × Mem) :=
  X6_leastBasket_l3 i0  FU x1 x2 x3 x4 (0 : Int32) M
set_option maxHeartbeats 4000000 in
set_option maxRecDepth 100000 in
theorem t_X6_leastBasket_b42 {X : Scr} {i0 : Nat} (h0 : KD[i0]? = some (.inl 6)) {k3 : Int32 → Int32 → Int32 → Int32 → Int32 → Mem → Option (Int32 × Mem)} (hk3 : ∀ (x1 : Int32) (x2 : Int32) (x3 : Int32) (x4 : Int32) (x5 : Int32) (M : Mem), T X eI (k3 x1 x2 x3 x4 x5 M) md_X6_leastBasket 3 [(0, .ref i0), (1, .int x1), (2, .int x2), (3, .int x3), (4, .int x4), (5, .int x5)] [] M) (x1 : Int32) (x2 : Int32) (x3 : Int32) (x4 : Int32) (x5 : Int32) (M : Mem) : T X eI (X6_leastBasket_b42 i0 k3 x1 x2 x3 x4 x5 M) md_X6_leastBasket 42 [(0, .ref i0), (1, .int x1), (2, .int x2), (3, .int x3), (4, .int x4), (5, .int x5)] [] M := by
  unfold X6_leastBasket_b42
  refine T_iinc 5 [(5, .int (x5 + (1 : Int32))), (0, .ref i0), (1, .int x1), (2, .int x2), (3, .int x3), (4, .int x4)] (v := (1 : Int32)) dX6_leastBasket_42 rfl (by decide) (by decide) rfl ?_
  refine T_goto 3 dX6_leastBasket_45 (by decide) ?_
  refine T_sub [1, 2, 3, 4, 5, 0] (lv' := [(0, .ref i0), (1, .int x1), (2, .int x2), (3, .int x3), (4, .int x4), (5, .int (x5 + (1 : Int32)))]) rfl ?_
  exact hk3 _ _ _ _ _ _
set_option maxHeartbeats 4000000 in
set_option maxRecDepth 100000 in
theorem t_X6_leastBasket_b3 {X : Scr} {i0 : Nat} (h0 : KD[i0]? = some (.inl 6)) {k3 : Int32 → Int32 → Int32 → Int32 → Int32 → Mem → Option (Int32 × Mem)} (hk3 : ∀ (x1 : Int32) (x2 : Int32) (x3 : Int32) (x4 : Int32) (x5 : Int32) (M : Mem), T X eI (k3 x1 x2 x3 x4 x5 M) md_X6_leastBasket 3 [(0, .ref i0), (1, .int x1), (2, .int x2), (3, .int x3), (4, .int x4), (5, .int x5)] [] M) (x1 : Int32) (x2 : Int32) (x3 : Int32) (x4 : Int32) (x5 : Int32) (M : Mem) : T X eI (X6_leastBasket_b3 i0 k3 x1 x2 x3 x4 x5 M) md_X6_leastBasket 3 [(0, .ref i0), (1, .int x1), (2, .int x2), (3, .int x3), (4, .int x4), (5, .int x5)] [] M := by
  unfold X6_leastBasket_b3
  refine T_iload 5 dX6_leastBasket_3 rfl ?_
  refine T_bipush (v := (10 : Int32)) (by decide) dX6_leastBasket_5 ?_
  refine T_icmp_ge 48 dX6_leastBasket_7 (by decide) ?_ ?_
  ·
    refine T_bipush (v := (-6 : Int32)) (by decide) dX6_leastBasket_48 ?_
    exact T_iret dX6_leastBasket_50 rfl
  ·
    refine T_iload_n 1 dX6_leastBasket_10 rfl rfl ?_
    refine T_iload 5 dX6_leastBasket_11 rfl ?_
    refine T_callSNI md_X11_isIn [.int x1, .int x5] [] dX6_leastBasket_13 rfl ok_X11_isIn tb_560 tb_474 (by decide) (Nat.le_of_ble_eq_true rfl) (fun _ _ h9 => C_X11_isIn  _ _ h9) (fun r1 M1 => ?_)
    dsimp only
    refine T_if_eq 42 dX6_leastBasket_16 (by decide) ?_ ?_
    ·
      exact t_X6_leastBasket_b42 h0 hk3 _ _ _ _ _ _
    ·
      refine T_aload_n 0 dX6_leastBasket_19 rfl rfl ?_
      refine T_iload_n 2 dX6_leastBasket_20 rfl rfl ?_
      refine T_iload_n 3 dX6_leastBasket_21 rfl rfl ?_
      refine T_iconst (v := (1 : Int32)) (by decide) dX6_leastBasket_22 ?_
      refine T_iload 5 dX6_leastBasket_23 rfl ?_
      refine T_ishl dX6_leastBasket_25 ?_
      refine T_iconst (v := (-1 : Int32)) (by decide) dX6_leastBasket_26 ?_
      refine T_ixor dX6_leastBasket_27 ?_
      refine T_iand dX6_leastBasket_28 ?_
      refine T_callVI md_X6_mostAtOnce [.int x2, .int (x3 &&& (((1 : Int32) <<< (x5 &&& 31)) ^^^ (-1 : Int32)))] [] dX6_leastBasket_29 h0 rfl rfl ok_X6_mostAtOnce tb_561 tb_563 tb_8 (by decide) (Nat.le_of_ble_eq_true rfl) (fun _ _ h9 => C_X6_mostAtOnce h0 _ _ h9) (fun r2 M2 => ?_)
      dsimp only
      refine T_iconst (v := (1 : Int32)) (by decide) dX6_leastBasket_32 ?_
      refine T_iadd dX6_leastBasket_33 ?_
      refine T_iload 4 dX6_leastBasket_34 rfl ?_
      refine T_icmp_ne 42 dX6_leastBasket_36 (by decide) ?_ ?_
      ·
        refine T_iload 5 dX6_leastBasket_39 rfl ?_
        exact T_iret dX6_leastBasket_41 rfl
      ·
        exact t_X6_leastBasket_b42 h0 hk3 _ _ _ _ _ _
theorem t_X6_leastBasket_l3 {X : Scr} {i0 : Nat} (h0 : KD[i0]? = some (.inl 6)) (n : Nat) : ∀ (x1 : Int32) (x2 : Int32) (x3 : Int32) (x4 : Int32) (x5 : Int32) (M : Mem), T X eI (X6_leastBasket_l3 i0  n x1 x2 x3 x4 x5 M) md_X6_leastBasket 3 [(0, .ref i0), (1, .int x1), (2, .int x2), (3, .int x3), (4, .int x4), (5, .int x5)] [] M := by
  induction n with
  | zero => intro x1 x2 x3 x4 x5 M; exact T_none
  | succ n ih => intro x1 x2 x3 x4 x5 M; exact t_X6_leastBasket_b3 h0 ih x1 x2 x3 x4 x5 M
set_option maxHeartbeats 4000000 in
set_option maxRecDepth 100000 in
theorem t_X6_leastBasket {X : Scr} {i0 : Nat} (h0 : KD[i0]? = some (.inl 6)) (x1 : Int32) (x2 : Int32) (x3 : Int32) (x4 : Int32) (M : Mem) : T X eI (X6_leastBasket i0  x1 x2 x3 x4 M) md_X6_leastBasket 0 [(0, .ref i0), (1, .int x1), (2, .int x2), (3, .int x3), (4, .int x4)] [] M := by
  unfold X6_leastBasket
  refine T_iconst (v := (0 : Int32)) (by decide) dX6_leastBasket_0 ?_
  refine T_istore [(5, .int (0 : Int32)), (0, .ref i0), (1, .int x1), (2, .int x2), (3, .int x3), (4, .int x4)] dX6_leastBasket_1 (by decide) rfl ?_
  refine T_sub [1, 2, 3, 4, 5, 0] (lv' := [(0, .ref i0), (1, .int x1), (2, .int x2), (3, .int x3), (4, .int x4), (5, .int (0 : Int32))]) rfl ?_
  exact t_X6_leastBasket_l3 h0  _ _ _ _ _ _ _
theorem C_X6_leastBasket {X : Scr} {i0 : Nat} (h0 : KD[i0]? = some (.inl 6)) (x1 : Int32) (x2 : Int32) (x3 : Int32) (x4 : Int32) {M : Mem} {r : Int32} {M' : Mem} (h : X6_leastBasket i0 x1 x2 x3 x4 M = some (r, M')) : Ct X md_X6_leastBasket [.ref i0, .int x1, .int x2, .int x3, .int x4] M (eI r) M' := Ct_of (by decide +kernel) (Nat.le_of_ble_eq_true rfl) (t_X6_leastBasket h0 _ _ _ _ M) r M' h
-- X6_pair
def X6_pair_b119 (i0 : Nat) (i1 : Nat) (k31 : Int32 → Int32 → Int32 → Int32 → Int32 → Mem → Option (Unit × Mem)) (x2 : Int32) (x3 : Int32) (x4 : Int32) (x5 : Int32) (x6 : Int32) (M : Mem) : Option (Unit × Mem) :=
  k31 x2 x3 x4 x5 (x6 + (1 : Int32)) M
def X6_pair_b89 (i0 : Nat) (i1 : Nat) (k31 : Int32 → Int32 → Int32 → Int32 → Int32 → Mem → Option (Unit × Mem)) (x2 : Int32) (x3 : Int32) (x4 : Int32) (x5 : Int32) (x6 : Int32) (s0 : Int32) (s1 : Int32) (M : Mem) : Option (Unit × Mem) :=
  gd (ib s1 8) (
    gd (ib x6 8) (
      if ((mI M (rf i0 1) s1.toNatClampNeg s0).1 (rf i0 1) x6.toNatClampNeg) = (-6 : Int32) then
        X6_pair_b119 i0 i1 k31 x2 x3 x4 x5 x6 (mI M (rf i0 1) s1.toNatClampNeg s0)
      else
        gd (ib x6 8) (
          X6_pair_b119 i0 i1 k31 x2 (x3 &&& (((1 : Int32) <<< (((mI M (rf i0 1) s1.toNatClampNeg s0).1 (rf i0 1) x6.toNatClampNeg) &&& 31)) ^^^ (-1 : Int32))) x4 (x5 + (-1 : Int32)) x6 (mI M (rf i0 1) s1.toNatClampNeg s0))))
def X6_pair_b31 (i0 : Nat) (i1 : Nat) (k31 : Int32 → Int32 → Int32 → Int32 → Int32 → Mem → Option (Unit × Mem)) (x2 : Int32) (x3 : Int32) (x4 : Int32) (x5 : Int32) (x6 : Int32) (M : Mem) : Option (Unit × Mem) :=
  if (8 : Int32) ≤ x6 then
    some ((), M)
  else
    (X11_isIn  x2 x6 M).bind (fun p1 =>
      if p1.1 = 0 then
        X6_pair_b89 i0 i1 k31 x2 x3 (x4 &&& (((1 : Int32) <<< (x6 &&& 31)) ^^^ (-1 : Int32))) x5 x6 (-6 : Int32) x6 p1.2
      else
        gd (ib ((1 : Int32) <<< (x6 &&& 31)) 256) (
          (X6_leastBasket i0 ((p1.2.1 (rf i0 0) ((1 : Int32) <<< (x6 &&& 31)).toNatClampNeg) &&& x3) (x4 &&& (((1 : Int32) <<< (x6 &&& 31)) ^^^ (-1 : Int32))) x3 x5 p1.2).bind (fun p2 =>
            X6_pair_b89 i0 i1 k31 x2 x3 (x4 &&& (((1 : Int32) <<< (x6 &&& 31)) ^^^ (-1 : Int32))) x5 x6 p2.1 x6 p2.2)))
def X6_pair_l31 (i0 : Nat) (i1 : Nat)  : Nat → Int32 → Int32 → Int32 → Int32 → Int32 → Mem → Option (Unit × Mem)
  | 0 => fun _ _ _ _ _ _ => none
  | n + 1 => X6_pair_b31 i0 i1 (X6_pair_l31 i0 i1  n)
def X6_pair (i0 : Nat) (i1 : Nat)  (x2 : Int32) (M : Mem) : Option (Unit × Mem) :=
  (X6_joinHomes i0 i1  M).bind (fun p1 =>
    (X6_mostAtOnce i0 x2 (1023 : Int32) p1.2).bind (fun p2 =>
      X6_pair_l31 i0 i1  FU x2 (1023 : Int32) x2 ((mI p2.2 i0 2 p2.1).1 i0 2) (0 : Int32) (mI p2.2 i0 2 p2.1)))
set_option maxHeartbeats 4000000 in
set_option maxRecDepth 100000 in
theorem t_X6_pair_b119 {X : Scr} {i0 : Nat} {i1 : Nat} (h0 : KD[i0]? = some (.inl 6)) (h1 : KD[i1]? = some (.inl 0)) {k31 : Int32 → Int32 → Int32 → Int32 → Int32 → Mem → Option (Unit × Mem)} (hk31 : ∀ (x2 : Int32) (x3 : Int32) (x4 : Int32) (x5 : Int32) (x6 : Int32) (M : Mem), T X eV (k31 x2 x3 x4 x5 x6 M) md_X6_pair 31 [(0, .ref i0), (2, .int x2), (3, .int x3), (4, .int x4), (5, .int x5), (6, .int x6)] [] M) (x2 : Int32) (x3 : Int32) (x4 : Int32) (x5 : Int32) (x6 : Int32) (M : Mem) : T X eV (X6_pair_b119 i0 i1 k31 x2 x3 x4 x5 x6 M) md_X6_pair 119 [(0, .ref i0), (2, .int x2), (3, .int x3), (4, .int x4), (5, .int x5), (6, .int x6)] [] M := by
  unfold X6_pair_b119
  refine T_iinc 5 [(6, .int (x6 + (1 : Int32))), (0, .ref i0), (2, .int x2), (3, .int x3), (4, .int x4), (5, .int x5)] (v := (1 : Int32)) dX6_pair_119 rfl (by decide) (by decide) rfl ?_
  refine T_goto 31 dX6_pair_122 (by decide) ?_
  refine T_sub [1, 2, 3, 4, 5, 0] (lv' := [(0, .ref i0), (2, .int x2), (3, .int x3), (4, .int x4), (5, .int x5), (6, .int (x6 + (1 : Int32)))]) rfl ?_
  exact hk31 _ _ _ _ _ _
set_option maxHeartbeats 4000000 in
set_option maxRecDepth 100000 in
theorem t_X6_pair_b89 {X : Scr} {i0 : Nat} {i1 : Nat} (h0 : KD[i0]? = some (.inl 6)) (h1 : KD[i1]? = some (.inl 0)) {k31 : Int32 → Int32 → Int32 → Int32 → Int32 → Mem → Option (Unit × Mem)} (hk31 : ∀ (x2 : Int32) (x3 : Int32) (x4 : Int32) (x5 : Int32) (x6 : Int32) (M : Mem), T X eV (k31 x2 x3 x4 x5 x6 M) md_X6_pair 31 [(0, .ref i0), (2, .int x2), (3, .int x3), (4, .int x4), (5, .int x5), (6, .int x6)] [] M) (x2 : Int32) (x3 : Int32) (x4 : Int32) (x5 : Int32) (x6 : Int32) (s0 : Int32) (s1 : Int32) (M : Mem) : T X eV (X6_pair_b89 i0 i1 k31 x2 x3 x4 x5 x6 s0 s1 M) md_X6_pair 89 [(0, .ref i0), (2, .int x2), (3, .int x3), (4, .int x4), (5, .int x5), (6, .int x6)] [.int s0, .int s1, .ref (rf i0 1)] M := by
  unfold X6_pair_b89
  refine T_iast (kf_6_1 h0) dX6_pair_89 ?_
  refine T_aload_n 0 dX6_pair_90 rfl rfl ?_
  refine T_getR 1 FOk_6 h0 (by decide) (by decide) dX6_pair_91 tb_237 ?_
  refine T_iload 5 dX6_pair_94 rfl ?_
  refine T_iald (kf_6_1 h0) dX6_pair_96 ?_
  refine T_bipush (v := (-6 : Int32)) (by decide) dX6_pair_97 ?_
  refine T_icmp_eq 119 dX6_pair_99 (by decide) ?_ ?_
  ·
    exact t_X6_pair_b119 h0 h1 hk31 _ _ _ _ _ _
  ·
    refine T_iload_n 2 dX6_pair_102 rfl rfl ?_
    refine T_iconst (v := (1 : Int32)) (by decide) dX6_pair_103 ?_
    refine T_aload_n 0 dX6_pair_104 rfl rfl ?_
    refine T_getR 1 FOk_6 h0 (by decide) (by decide) dX6_pair_105 tb_237 ?_
    refine T_iload 5 dX6_pair_108 rfl ?_
    refine T_iald (kf_6_1 h0) dX6_pair_110 ?_
    refine T_ishl dX6_pair_111 ?_
    refine T_iconst (v := (-1 : Int32)) (by decide) dX6_pair_112 ?_
    refine T_ixor dX6_pair_113 ?_
    refine T_iand dX6_pair_114 ?_
    refine T_istore_n [(3, .int (x3 &&& (((1 : Int32) <<< (((mI M (rf i0 1) s1.toNatClampNeg s0).1 (rf i0 1) x6.toNatClampNeg) &&& 31)) ^^^ (-1 : Int32)))), (0, .ref i0), (2, .int x2), (4, .int x4), (5, .int x5), (6, .int x6)] dX6_pair_115 rfl (by decide) rfl ?_
    refine T_iinc 4 [(5, .int (x5 + (-1 : Int32))), (3, .int (x3 &&& (((1 : Int32) <<< (((mI M (rf i0 1) s1.toNatClampNeg s0).1 (rf i0 1) x6.toNatClampNeg) &&& 31)) ^^^ (-1 : Int32)))), (0, .ref i0), (2, .int x2), (4, .int x4), (6, .int x6)] (v := (-1 : Int32)) dX6_pair_116 rfl (by decide) (by decide) rfl ?_
    refine T_sub [2, 3, 1, 4, 0, 5] (lv' := [(0, .ref i0), (2, .int x2), (3, .int (x3 &&& (((1 : Int32) <<< (((mI M (rf i0 1) s1.toNatClampNeg s0).1 (rf i0 1) x6.toNatClampNeg) &&& 31)) ^^^ (-1 : Int32)))), (4, .int x4), (5, .int (x5 + (-1 : Int32))), (6, .int x6)]) rfl ?_
    exact t_X6_pair_b119 h0 h1 hk31 _ _ _ _ _ _
set_option maxHeartbeats 4000000 in
set_option maxRecDepth 100000 in
theorem t_X6_pair_b31 {X : Scr} {i0 : Nat} {i1 : Nat} (h0 : KD[i0]? = some (.inl 6)) (h1 : KD[i1]? = some (.inl 0)) {k31 : Int32 → Int32 → Int32 → Int32 → Int32 → Mem → Option (Unit × Mem)} (hk31 : ∀ (x2 : Int32) (x3 : Int32) (x4 : Int32) (x5 : Int32) (x6 : Int32) (M : Mem), T X eV (k31 x2 x3 x4 x5 x6 M) md_X6_pair 31 [(0, .ref i0), (2, .int x2), (3, .int x3), (4, .int x4), (5, .int x5), (6, .int x6)] [] M) (x2 : Int32) (x3 : Int32) (x4 : Int32) (x5 : Int32) (x6 : Int32) (M : Mem) : T X eV (X6_pair_b31 i0 i1 k31 x2 x3 x4 x5 x6 M) md_X6_pair 31 [(0, .ref i0), (2, .int x2), (3, .int x3), (4, .int x4), (5, .int x5), (6, .int x6)] [] M := by
  unfold X6_pair_b31
  refine T_iload 5 dX6_pair_31 rfl ?_
  refine T_bipush (v := (8 : Int32)) (by decide) dX6_pair_33 ?_
  refine T_icmp_ge 125 dX6_pair_35 (by decide) ?_ ?_
  ·
    exact T_vret dX6_pair_125 rfl
  ·
    refine T_iload 3 dX6_pair_38 rfl ?_
    refine T_iconst (v := (1 : Int32)) (by decide) dX6_pair_40 ?_
    refine T_iload 5 dX6_pair_41 rfl ?_
    refine T_ishl dX6_pair_43 ?_
    refine T_iconst (v := (-1 : Int32)) (by decide) dX6_pair_44 ?_
    refine T_ixor dX6_pair_45 ?_
    refine T_iand dX6_pair_46 ?_
    refine T_istore [(4, .int (x4 &&& (((1 : Int32) <<< (x6 &&& 31)) ^^^ (-1 : Int32)))), (0, .ref i0), (2, .int x2), (3, .int x3), (5, .int x5), (6, .int x6)] dX6_pair_47 (by decide) rfl ?_
    refine T_aload_n 1 dX6_pair_49 rfl rfl ?_
    refine T_getR 1 FOk_6 h0 (by decide) (by decide) dX6_pair_50 tb_237 ?_
    refine T_iload 5 dX6_pair_53 rfl ?_
    refine T_iload_n 2 dX6_pair_55 rfl rfl ?_
    refine T_iload 5 dX6_pair_56 rfl ?_
    refine T_callSNI md_X11_isIn [.int x2, .int x6] [.int x6, .ref (rf i0 1)] dX6_pair_58 rfl ok_X11_isIn tb_560 tb_474 (by decide) (Nat.le_of_ble_eq_true rfl) (fun _ _ h9 => C_X11_isIn  _ _ h9) (fun r1 M1 => ?_)
    dsimp only
    refine T_if_eq 87 dX6_pair_61 (by decide) ?_ ?_
    ·
      refine T_bipush (v := (-6 : Int32)) (by decide) dX6_pair_87 ?_
      refine T_sub [1, 2, 3, 0, 4, 5] (lv' := [(0, .ref i0), (2, .int x2), (3, .int x3), (4, .int (x4 &&& (((1 : Int32) <<< (x6 &&& 31)) ^^^ (-1 : Int32)))), (5, .int x5), (6, .int x6)]) rfl ?_
      exact t_X6_pair_b89 h0 h1 hk31 _ _ _ _ _ _ _ _
    ·
      refine T_aload_n 1 dX6_pair_64 rfl rfl ?_
      refine T_aload_n 1 dX6_pair_65 rfl rfl ?_
      refine T_getR 0 FOk_6 h0 (by decide) (by decide) dX6_pair_66 tb_236 ?_
      refine T_iconst (v := (1 : Int32)) (by decide) dX6_pair_69 ?_
      refine T_iload 5 dX6_pair_70 rfl ?_
      refine T_ishl dX6_pair_72 ?_
      refine T_iald (kf_6_0 h0) dX6_pair_73 ?_
      refine T_iload_n 3 dX6_pair_74 rfl rfl ?_
      refine T_iand dX6_pair_75 ?_
      refine T_iload 0 dX6_pair_76 rfl ?_
      refine T_iload_n 3 dX6_pair_78 rfl rfl ?_
      refine T_iload 4 dX6_pair_79 rfl ?_
      refine T_callVI md_X6_leastBasket [.int ((M1.1 (rf i0 0) ((1 : Int32) <<< (x6 &&& 31)).toNatClampNeg) &&& x3), .int (x4 &&& (((1 : Int32) <<< (x6 &&& 31)) ^^^ (-1 : Int32))), .int x3, .int x5] [.int x6, .ref (rf i0 1)] dX6_pair_81 h0 rfl rfl ok_X6_leastBasket tb_567 tb_569 tb_9 (by decide) (Nat.le_of_ble_eq_true rfl) (fun _ _ h9 => C_X6_leastBasket h0 _ _ _ _ h9) (fun r2 M2 => ?_)
      dsimp only
      refine T_goto 89 dX6_pair_84 (by decide) ?_
      refine T_sub [1, 2, 3, 0, 4, 5] (lv' := [(0, .ref i0), (2, .int x2), (3, .int x3), (4, .int (x4 &&& (((1 : Int32) <<< (x6 &&& 31)) ^^^ (-1 : Int32)))), (5, .int x5), (6, .int x6)]) rfl ?_
      exact t_X6_pair_b89 h0 h1 hk31 _ _ _ _ _ _ _ _
theorem t_X6_pair_l31 {X : Scr} {i0 : Nat} {i1 : Nat} (h0 : KD[i0]? = some (.inl 6)) (h1 : KD[i1]? = some (.inl 0)) (n : Nat) : ∀ (x2 : Int32) (x3 : Int32) (x4 : Int32) (x5 : Int32) (x6 : Int32) (M : Mem), T X eV (X6_pair_l31 i0 i1  n x2 x3 x4 x5 x6 M) md_X6_pair 31 [(0, .ref i0), (2, .int x2), (3, .int x3), (4, .int x4), (5, .int x5), (6, .int x6)] [] M := by
  induction n with
  | zero => intro x2 x3 x4 x5 x6 M; exact T_none
  | succ n ih => intro x2 x3 x4 x5 x6 M; exact t_X6_pair_b31 h0 h1 ih x2 x3 x4 x5 x6 M
set_option maxHeartbeats 4000000 in
set_option maxRecDepth 100000 in
theorem t_X6_pair {X : Scr} {i0 : Nat} {i1 : Nat} (h0 : KD[i0]? = some (.inl 6)) (h1 : KD[i1]? = some (.inl 0)) (x2 : Int32) (M : Mem) : T X eV (X6_pair i0 i1  x2 M) md_X6_pair 0 [(0, .ref i0), (1, .ref i1), (2, .int x2)] [] M := by
  unfold X6_pair
  refine T_aload_n 0 dX6_pair_0 rfl rfl ?_
  refine T_aload_n 1 dX6_pair_1 rfl rfl ?_
  refine T_callVU md_X6_joinHomes [.ref i1] [] dX6_pair_2 h0 rfl rfl ok_X6_joinHomes tb_556 tb_558 tb_7 (by decide) (Nat.le_of_ble_eq_true rfl) (fun _ _ h9 => C_X6_joinHomes h0 h1  h9) (fun r1 M1 => ?_)
  dsimp only
  refine T_sipush (v := (1023 : Int32)) (by decide) dX6_pair_5 ?_
  refine T_istore_n [(3, .int (1023 : Int32)), (0, .ref i0), (1, .ref i1), (2, .int x2)] dX6_pair_8 rfl (by decide) rfl ?_
  refine T_iload_n 3 dX6_pair_9 rfl rfl ?_
  refine T_istore [(4, .int x2), (3, .int (1023 : Int32)), (0, .ref i0), (1, .ref i1), (2, .int x2)] dX6_pair_10 (by decide) rfl ?_
  refine T_aload_n 2 dX6_pair_12 rfl rfl ?_
  refine T_aload_n 2 dX6_pair_13 rfl rfl ?_
  refine T_iload_n 4 dX6_pair_14 rfl rfl ?_
  refine T_iload_n 1 dX6_pair_15 rfl rfl ?_
  refine T_callVI md_X6_mostAtOnce [.int x2, .int (1023 : Int32)] [.ref i0] dX6_pair_16 h0 rfl rfl ok_X6_mostAtOnce tb_561 tb_563 tb_8 (by decide) (Nat.le_of_ble_eq_true rfl) (fun _ _ h9 => C_X6_mostAtOnce h0 _ _ h9) (fun r2 M2 => ?_)
  dsimp only
  refine T_putI (ty := .int) 2 FOk_6 h0 (by decide) (by decide) rfl (by decide +kernel) rfl rfl dX6_pair_19 tb_239 ?_
  refine T_aload_n 2 dX6_pair_22 rfl rfl ?_
  refine T_getI 2 FOk_6 h0 (by decide) (by decide) dX6_pair_23 tb_239 ?_
  refine T_istore [(5, .int ((mI M2 i0 2 r2).1 i0 2)), (4, .int x2), (3, .int (1023 : Int32)), (0, .ref i0), (1, .ref i1), (2, .int x2)] dX6_pair_26 (by decide) rfl ?_
  refine T_iconst (v := (0 : Int32)) (by decide) dX6_pair_28 ?_
  refine T_istore [(6, .int (0 : Int32)), (5, .int ((mI M2 i0 2 r2).1 i0 2)), (4, .int x2), (3, .int (1023 : Int32)), (0, .ref i0), (1, .ref i1), (2, .int x2)] dX6_pair_29 (by decide) rfl ?_
  refine T_sub [4, 6, 3, 2, 1, 0] (lv' := [(0, .ref i0), (2, .int x2), (3, .int (1023 : Int32)), (4, .int x2), (5, .int ((mI M2 i0 2 r2).1 i0 2)), (6, .int (0 : Int32))]) rfl ?_
  exact t_X6_pair_l31 h0 h1  _ _ _ _ _ _ _
theorem C_X6_pair {X : Scr} {i0 : Nat} {i1 : Nat} (h0 : KD[i0]? = some (.inl 6)) (h1 : KD[i1]? = some (.inl 0)) (x2 : Int32) {M : Mem} {r : Unit} {M' : Mem} (h : X6_pair i0 i1 x2 M = some (r, M')) : Ct X md_X6_pair [.ref i0, .ref i1, .int x2] M (eV r) M' := Ct_of (by decide +kernel) (Nat.le_of_ble_eq_true rfl) (t_X6_pair h0 h1 _ M) r M' h
-- X7_takeOver
def X7_takeOver (i0 : Nat) (i1 : Nat)   (M : Mem) : Option (Unit × Mem) :=
  mw (mR M (rf i0 0) (va_cpy (M.1 (rf i1 0)) (M.1 (rf i0 0)) 0 0 8)) (fun N1 =>
    mw (mR N1 (rf i0 1) (va_cpy (N1.1 (rf i1 1)) (N1.1 (rf i0 1)) 0 0 8)) (fun N2 =>
      mw (mI N2 i0 2 (N2.1 i1 2)) (fun N3 =>
        some ((), N3))))
set_option maxHeartbeats 4000000 in
set_option maxRecDepth 100000 in
theorem t_X7_takeOver {X : Scr} {i0 : Nat} {i1 : Nat} (h0 : KD[i0]? = some (.inl 7)) (h1 : KD[i1]? = some (.inl 7))  (M : Mem) : T X eV (X7_takeOver i0 i1   M) md_X7_takeOver 0 [(0, .ref i0), (1, .ref i1)] [] M := by
  unfold X7_takeOver
  refine T_aload_n 1 dX7_takeOver_0 rfl rfl ?_
  refine T_getR 0 FOk_7 h1 (by decide) (by decide) dX7_takeOver_1 tb_124 ?_
  refine T_iconst (v := (0 : Int32)) (by decide) dX7_takeOver_4 ?_
  refine T_aload_n 0 dX7_takeOver_5 rfl rfl ?_
  refine T_getR 0 FOk_7 h0 (by decide) (by decide) dX7_takeOver_6 tb_124 ?_
  refine T_iconst (v := (0 : Int32)) (by decide) dX7_takeOver_9 ?_
  refine T_aload_n 0 dX7_takeOver_10 rfl rfl ?_
  refine T_getR 0 FOk_7 h0 (by decide) (by decide) dX7_takeOver_11 tb_124 ?_
  refine T_alen (v := (8 : Int32)) (t := 0) (kf_7_0 h0) (by decide) dX7_takeOver_14 ?_
  refine T_copyi (kf_7_0 h1) (kf_7_0 h0) dX7_takeOver_15 tb_688 tb_441 tb_440 tb_57 (by decide) (by decide) (by decide) (by decide) (by decide) (by decide) (by decide) ?_
  refine T_mw (fun N1 => ?_)
  try dsimp only
  refine T_aload_n 1 dX7_takeOver_18 rfl rfl ?_
  refine T_getR 1 FOk_7 h1 (by decide) (by decide) dX7_takeOver_19 tb_126 ?_
  refine T_iconst (v := (0 : Int32)) (by decide) dX7_takeOver_22 ?_
  refine T_aload_n 0 dX7_takeOver_23 rfl rfl ?_
  refine T_getR 1 FOk_7 h0 (by decide) (by decide) dX7_takeOver_24 tb_126 ?_
  refine T_iconst (v := (0 : Int32)) (by decide) dX7_takeOver_27 ?_
  refine T_aload_n 0 dX7_takeOver_28 rfl rfl ?_
  refine T_getR 1 FOk_7 h0 (by decide) (by decide) dX7_takeOver_29 tb_126 ?_
  refine T_alen (v := (8 : Int32)) (t := 0) (kf_7_1 h0) (by decide) dX7_takeOver_32 ?_
  refine T_copyi (kf_7_1 h1) (kf_7_1 h0) dX7_takeOver_33 tb_688 tb_441 tb_440 tb_57 (by decide) (by decide) (by decide) (by decide) (by decide) (by decide) (by decide) ?_
  refine T_mw (fun N2 => ?_)
  try dsimp only
  refine T_aload_n 0 dX7_takeOver_36 rfl rfl ?_
  refine T_aload_n 1 dX7_takeOver_37 rfl rfl ?_
  refine T_getI 2 FOk_7 h1 (by decide) (by decide) dX7_takeOver_38 tb_128 ?_
  refine T_putI (ty := .int) 2 FOk_7 h0 (by decide) (by decide) rfl (by decide +kernel) rfl rfl dX7_takeOver_41 tb_128 ?_
  refine T_mw (fun N3 => ?_)
  try dsimp only
  exact T_vret dX7_takeOver_44 rfl
theorem C_X7_takeOver {X : Scr} {i0 : Nat} {i1 : Nat} (h0 : KD[i0]? = some (.inl 7)) (h1 : KD[i1]? = some (.inl 7))  {M : Mem} {r : Unit} {M' : Mem} (h : X7_takeOver i0 i1  M = some (r, M')) : Ct X md_X7_takeOver [.ref i0, .ref i1] M (eV r) M' := Ct_of (by decide +kernel) (Nat.le_of_ble_eq_true rfl) (t_X7_takeOver h0 h1  M) r M' h
-- X7_write
def X7_write (i0 : Nat)  (x1 : Int32) (x2 : Int32) (M : Mem) : Option (Int32 × Mem) :=
  if (M.1 i0 2) < (8 : Int32) then
    gd (ib (M.1 i0 2) 8) (
      mw (mI M (rf i0 0) (M.1 i0 2).toNatClampNeg x1) (fun N1 =>
        gd (ib (N1.1 i0 2) 8) (
          mw (mI N1 (rf i0 1) (N1.1 i0 2).toNatClampNeg x2) (fun N2 =>
            mw (mI N2 i0 2 ((N2.1 i0 2) + (1 : Int32))) (fun N3 =>
              some ((1 : Int32), N3))))))
  else
    some ((0 : Int32), M)
set_option maxHeartbeats 4000000 in
set_option maxRecDepth 100000 in
theorem t_X7_write {X : Scr} {i0 : Nat} (h0 : KD[i0]? = some (.inl 7)) (x1 : Int32) (x2 : Int32) (M : Mem) : T X eI (X7_write i0  x1 x2 M) md_X7_write 0 [(0, .ref i0), (1, .int x1), (2, .int x2)] [] M := by
  unfold X7_write
  refine T_aload_n 0 dX7_write_0 rfl rfl ?_
  refine T_getI 2 FOk_7 h0 (by decide) (by decide) dX7_write_1 tb_128 ?_
  refine T_aload_n 0 dX7_write_4 rfl rfl ?_
  refine T_getR 0 FOk_7 h0 (by decide) (by decide) dX7_write_5 tb_124 ?_
  refine T_alen (v := (8 : Int32)) (t := 0) (kf_7_0 h0) (by decide) dX7_write_8 ?_
  refine T_icmp_lt 14 dX7_write_9 (by decide) ?_ ?_
  ·
    refine T_aload_n 0 dX7_write_14 rfl rfl ?_
    refine T_getR 0 FOk_7 h0 (by decide) (by decide) dX7_write_15 tb_124 ?_
    refine T_aload_n 0 dX7_write_18 rfl rfl ?_
    refine T_getI 2 FOk_7 h0 (by decide) (by decide) dX7_write_19 tb_128 ?_
    refine T_iload_n 1 dX7_write_22 rfl rfl ?_
    refine T_iast (kf_7_0 h0) dX7_write_23 ?_
    refine T_mw (fun N1 => ?_)
    try dsimp only
    refine T_aload_n 0 dX7_write_24 rfl rfl ?_
    refine T_getR 1 FOk_7 h0 (by decide) (by decide) dX7_write_25 tb_126 ?_
    refine T_aload_n 0 dX7_write_28 rfl rfl ?_
    refine T_getI 2 FOk_7 h0 (by decide) (by decide) dX7_write_29 tb_128 ?_
    refine T_iload_n 2 dX7_write_32 rfl rfl ?_
    refine T_iast (kf_7_1 h0) dX7_write_33 ?_
    refine T_mw (fun N2 => ?_)
    try dsimp only
    refine T_aload_n 0 dX7_write_34 rfl rfl ?_
    refine T_dup rfl dX7_write_35 ?_
    refine T_getI 2 FOk_7 h0 (by decide) (by decide) dX7_write_36 tb_128 ?_
    refine T_iconst (v := (1 : Int32)) (by decide) dX7_write_39 ?_
    refine T_iadd dX7_write_40 ?_
    refine T_putI (ty := .int) 2 FOk_7 h0 (by decide) (by decide) rfl (by decide +kernel) rfl rfl dX7_write_41 tb_128 ?_
    refine T_mw (fun N3 => ?_)
    try dsimp only
    refine T_iconst (v := (1 : Int32)) (by decide) dX7_write_44 ?_
    exact T_zret1 dX7_write_45 rfl
  ·
    refine T_iconst (v := (0 : Int32)) (by decide) dX7_write_12 ?_
    exact T_zret0 dX7_write_13 rfl
theorem C_X7_write {X : Scr} {i0 : Nat} (h0 : KD[i0]? = some (.inl 7)) (x1 : Int32) (x2 : Int32) {M : Mem} {r : Int32} {M' : Mem} (h : X7_write i0 x1 x2 M = some (r, M')) : Ct X md_X7_write [.ref i0, .int x1, .int x2] M (eI r) M' := Ct_of (by decide +kernel) (Nat.le_of_ble_eq_true rfl) (t_X7_write h0 _ _ M) r M' h
-- X8_write
def X8_write (i0 : Nat)  (x1 : Int32) (M : Mem) : Option (Int32 × Mem) :=
  if (M.1 i0 1) < (60 : Int32) then
    gd (ib (M.1 i0 1) 60) (
      some ((1 : Int32), (mI (mI M (rf i0 0) (M.1 i0 1).toNatClampNeg x1) i0 1 (((mI M (rf i0 0) (M.1 i0 1).toNatClampNeg x1).1 i0 1) + (1 : Int32)))))
  else
    some ((0 : Int32), M)
set_option maxHeartbeats 4000000 in
set_option maxRecDepth 100000 in
theorem t_X8_write {X : Scr} {i0 : Nat} (h0 : KD[i0]? = some (.inl 8)) (x1 : Int32) (M : Mem) : T X eI (X8_write i0  x1 M) md_X8_write 0 [(0, .ref i0), (1, .int x1)] [] M := by
  unfold X8_write
  refine T_aload_n 0 dX8_write_0 rfl rfl ?_
  refine T_getI 1 FOk_8 h0 (by decide) (by decide) dX8_write_1 tb_145 ?_
  refine T_aload_n 0 dX8_write_4 rfl rfl ?_
  refine T_getR 0 FOk_8 h0 (by decide) (by decide) dX8_write_5 tb_144 ?_
  refine T_alen (v := (60 : Int32)) (t := 0) (kf_8_0 h0) (by decide) dX8_write_8 ?_
  refine T_icmp_lt 14 dX8_write_9 (by decide) ?_ ?_
  ·
    refine T_aload_n 0 dX8_write_14 rfl rfl ?_
    refine T_getR 0 FOk_8 h0 (by decide) (by decide) dX8_write_15 tb_144 ?_
    refine T_aload_n 0 dX8_write_18 rfl rfl ?_
    refine T_getI 1 FOk_8 h0 (by decide) (by decide) dX8_write_19 tb_145 ?_
    refine T_iload_n 1 dX8_write_22 rfl rfl ?_
    refine T_iast (kf_8_0 h0) dX8_write_23 ?_
    refine T_aload_n 0 dX8_write_24 rfl rfl ?_
    refine T_dup rfl dX8_write_25 ?_
    refine T_getI 1 FOk_8 h0 (by decide) (by decide) dX8_write_26 tb_145 ?_
    refine T_iconst (v := (1 : Int32)) (by decide) dX8_write_29 ?_
    refine T_iadd dX8_write_30 ?_
    refine T_putI (ty := .int) 1 FOk_8 h0 (by decide) (by decide) rfl (by decide +kernel) rfl rfl dX8_write_31 tb_145 ?_
    refine T_iconst (v := (1 : Int32)) (by decide) dX8_write_34 ?_
    exact T_zret1 dX8_write_35 rfl
  ·
    refine T_iconst (v := (0 : Int32)) (by decide) dX8_write_12 ?_
    exact T_zret0 dX8_write_13 rfl
theorem C_X8_write {X : Scr} {i0 : Nat} (h0 : KD[i0]? = some (.inl 8)) (x1 : Int32) {M : Mem} {r : Int32} {M' : Mem} (h : X8_write i0 x1 M = some (r, M')) : Ct X md_X8_write [.ref i0, .int x1] M (eI r) M' := Ct_of (by decide +kernel) (Nat.le_of_ble_eq_true rfl) (t_X8_write h0 _ M) r M' h
-- X8_begins
def X8_begins_b31   (s0 : Int32) (M : Mem) : Option (Int32 × Mem) :=
  gd (s0 == 0 || s0 == 1) (some (s0, M))
def X8_begins_b26    (M : Mem) : Option (Int32 × Mem) :=
  X8_begins_b31   (1 : Int32) M
def X8_begins   (x0 : Int32) (M : Mem) : Option (Int32 × Mem) :=
  (X8_isLetter  x0 M).bind (fun p1 =>
    if p1.1 = 0 then
      if x0 = (63 : Int32) then
        X8_begins_b26    p1.2
      else
        if x0 = (46 : Int32) then
          X8_begins_b26    p1.2
        else
          (X8_isOfTwo  x0 p1.2).bind (fun p2 =>
            if p2.1 = 0 then
              X8_begins_b31   (0 : Int32) p2.2
            else
              X8_begins_b26    p2.2)
    else
      X8_begins_b26    p1.2)
set_option maxHeartbeats 4000000 in
set_option maxRecDepth 100000 in
theorem t_X8_begins_b31 {X : Scr}   (s0 : Int32) (M : Mem) : T X eI (X8_begins_b31   s0 M) md_X8_begins 31 [] [.int s0] M := by
  unfold X8_begins_b31
  exact T_zret dX8_begins_31 rfl
set_option maxHeartbeats 4000000 in
set_option maxRecDepth 100000 in
theorem t_X8_begins_b26 {X : Scr}    (M : Mem) : T X eI (X8_begins_b26    M) md_X8_begins 26 [] [] M := by
  unfold X8_begins_b26
  refine T_iconst (v := (1 : Int32)) (by decide) dX8_begins_26 ?_
  refine T_goto 31 dX8_begins_27 (by decide) ?_
  exact t_X8_begins_b31   _ _
set_option maxHeartbeats 4000000 in
set_option maxRecDepth 100000 in
theorem t_X8_begins {X : Scr}   (x0 : Int32) (M : Mem) : T X eI (X8_begins   x0 M) md_X8_begins 0 [(0, .int x0)] [] M := by
  unfold X8_begins
  refine T_iload_n 0 dX8_begins_0 rfl rfl ?_
  refine T_callSI md_X8_isLetter [.int x0] [] dX8_begins_1 rfl ok_X8_isLetter tb_410 tb_411 (by decide) (Nat.le_of_ble_eq_true rfl) (fun _ _ h9 => C_X8_isLetter  _ h9) (fun r1 M1 => ?_)
  dsimp only
  refine T_if_ne 26 dX8_begins_4 (by decide) ?_ ?_
  ·
    refine T_iload_n 0 dX8_begins_7 rfl rfl ?_
    refine T_bipush (v := (63 : Int32)) (by decide) dX8_begins_8 ?_
    refine T_icmp_eq 26 dX8_begins_10 (by decide) ?_ ?_
    ·
      refine T_sub [] (lv' := []) rfl ?_
      exact t_X8_begins_b26    _
    ·
      refine T_iload_n 0 dX8_begins_13 rfl rfl ?_
      refine T_bipush (v := (46 : Int32)) (by decide) dX8_begins_14 ?_
      refine T_icmp_eq 26 dX8_begins_16 (by decide) ?_ ?_
      ·
        refine T_sub [] (lv' := []) rfl ?_
        exact t_X8_begins_b26    _
      ·
        refine T_iload_n 0 dX8_begins_19 rfl rfl ?_
        refine T_callSI md_X8_isOfTwo [.int x0] [] dX8_begins_20 rfl ok_X8_isOfTwo tb_420 tb_421 (by decide) (Nat.le_of_ble_eq_true rfl) (fun _ _ h9 => C_X8_isOfTwo  _ h9) (fun r2 M2 => ?_)
        dsimp only
        refine T_if_eq 30 dX8_begins_23 (by decide) ?_ ?_
        ·
          refine T_iconst (v := (0 : Int32)) (by decide) dX8_begins_30 ?_
          refine T_sub [] (lv' := []) rfl ?_
          exact t_X8_begins_b31   _ _
        ·
          refine T_sub [] (lv' := []) rfl ?_
          exact t_X8_begins_b26    _
  ·
    refine T_sub [] (lv' := []) rfl ?_
    exact t_X8_begins_b26    _
theorem C_X8_begins {X : Scr}   (x0 : Int32) {M : Mem} {r : Int32} {M' : Mem} (h : X8_begins  x0 M = some (r, M')) : Ct X md_X8_begins [.int x0] M (eI r) M' := Ct_of (by decide +kernel) (Nat.le_of_ble_eq_true rfl) (t_X8_begins  _ M) r M' h
-- X11_isThing
def X11_isThing   (x0 : Int32) (M : Mem) : Option (Int32 × Mem) :=
  (X11_isWithin  x0 (0 : Int32) (7 : Int32) M).bind (fun p1 =>
    gd (p1.1 == 0 || p1.1 == 1) (some (p1.1, p1.2)))
set_option maxHeartbeats 4000000 in
set_option maxRecDepth 100000 in
theorem t_X11_isThing {X : Scr}   (x0 : Int32) (M : Mem) : T X eI (X11_isThing   x0 M) md_X11_isThing 0 [(0, .int x0)] [] M := by
  unfold X11_isThing
  refine T_iload_n 0 dX11_isThing_0 rfl rfl ?_
  refine T_iconst (v := (0 : Int32)) (by decide) dX11_isThing_1 ?_
  refine T_bipush (v := (7 : Int32)) (by decide) dX11_isThing_2 ?_
  refine T_callSI md_X11_isWithin [.int x0, .int (0 : Int32), .int (7 : Int32)] [] dX11_isThing_4 rfl ok_X11_isWithin tb_361 tb_362 (by decide) (Nat.le_of_ble_eq_true rfl) (fun _ _ h9 => C_X11_isWithin  _ _ _ h9) (fun r1 M1 => ?_)
  dsimp only
  exact T_zret dX11_isThing_7 rfl
theorem C_X11_isThing {X : Scr}   (x0 : Int32) {M : Mem} {r : Int32} {M' : Mem} (h : X11_isThing  x0 M = some (r, M')) : Ct X md_X11_isThing [.int x0] M (eI r) M' := Ct_of (by decide +kernel) (Nat.le_of_ble_eq_true rfl) (t_X11_isThing  _ M) r M' h
-- X8_ends
def X8_ends_b20   (s0 : Int32) (M : Mem) : Option (Int32 × Mem) :=
  gd (s0 == 0 || s0 == 1) (some (s0, M))
def X8_ends   (x0 : Int32) (x1 : Int32) (M : Mem) : Option (Int32 × Mem) :=
  if x0 = (61 : Int32) then
    (X8_isLetter  x1 M).bind (fun p1 =>
      X8_ends_b20   p1.1 p1.2)
  else
    (X11_isThing  (x1 - (48 : Int32)) M).bind (fun p2 =>
      X8_ends_b20   p2.1 p2.2)
set_option maxHeartbeats 4000000 in
set_option maxRecDepth 100000 in
theorem t_X8_ends_b20 {X : Scr}   (s0 : Int32) (M : Mem) : T X eI (X8_ends_b20   s0 M) md_X8_ends 20 [] [.int s0] M := by
  unfold X8_ends_b20
  exact T_zret dX8_ends_20 rfl
set_option maxHeartbeats 4000000 in
set_option maxRecDepth 100000 in
theorem t_X8_ends {X : Scr}   (x0 : Int32) (x1 : Int32) (M : Mem) : T X eI (X8_ends   x0 x1 M) md_X8_ends 0 [(0, .int x0), (1, .int x1)] [] M := by
  unfold X8_ends
  refine T_iload_n 0 dX8_ends_0 rfl rfl ?_
  refine T_bipush (v := (61 : Int32)) (by decide) dX8_ends_1 ?_
  refine T_icmp_ne 13 dX8_ends_3 (by decide) ?_ ?_
  ·
    refine T_iload_n 1 dX8_ends_6 rfl rfl ?_
    refine T_callSI md_X8_isLetter [.int x1] [] dX8_ends_7 rfl ok_X8_isLetter tb_410 tb_411 (by decide) (Nat.le_of_ble_eq_true rfl) (fun _ _ h9 => C_X8_isLetter  _ h9) (fun r1 M1 => ?_)
    dsimp only
    refine T_goto 20 dX8_ends_10 (by decide) ?_
    refine T_sub [] (lv' := []) rfl ?_
    exact t_X8_ends_b20   _ _
  ·
    refine T_iload_n 1 dX8_ends_13 rfl rfl ?_
    refine T_bipush (v := (48 : Int32)) (by decide) dX8_ends_14 ?_
    refine T_isub dX8_ends_16 ?_
    refine T_callSNI md_X11_isThing [.int (x1 - (48 : Int32))] [] dX8_ends_17 rfl ok_X11_isThing tb_414 tb_415 (by decide) (Nat.le_of_ble_eq_true rfl) (fun _ _ h9 => C_X11_isThing  _ h9) (fun r2 M2 => ?_)
    dsimp only
    refine T_sub [] (lv' := []) rfl ?_
    exact t_X8_ends_b20   _ _
theorem C_X8_ends {X : Scr}   (x0 : Int32) (x1 : Int32) {M : Mem} {r : Int32} {M' : Mem} (h : X8_ends  x0 x1 M = some (r, M')) : Ct X md_X8_ends [.int x0, .int x1] M (eI r) M' := Ct_of (by decide +kernel) (Nat.le_of_ble_eq_true rfl) (t_X8_ends  _ _ M) r M' h
-- X8_faultPlace
def X8_faultPlace_b51 (i0 : Nat)  (x2 : Int32) (M : Mem) : Option (Int32 × Mem) :=
  some (x2, M)
def X8_faultPlace_b74 (i0 : Nat) (k4 : Int32 → Int32 → Mem → Option (Int32 × Mem)) (x2 : Int32) (s0 : Int32) (M : Mem) : Option (Int32 × Mem) :=
  k4 s0 (x2 + (1 : Int32)) M
def X8_faultPlace_b73 (i0 : Nat) (k4 : Int32 → Int32 → Mem → Option (Int32 × Mem)) (x2 : Int32) (M : Mem) : Option (Int32 × Mem) :=
  X8_faultPlace_b74 i0 k4 x2 (0 : Int32) M
def X8_faultPlace_b53 (i0 : Nat) (k4 : Int32 → Int32 → Mem → Option (Int32 × Mem)) (x1 : Int32) (x2 : Int32) (M : Mem) : Option (Int32 × Mem) :=
  if x1 = 0 then
    gd (ib x2 60) (
      (X8_isOfTwo  (M.1 (rf i0 0) x2.toNatClampNeg) M).bind (fun p1 =>
        if p1.1 = 0 then
          X8_faultPlace_b73 i0 k4 x2 p1.2
        else
          X8_faultPlace_b74 i0 k4 x2 (1 : Int32) p1.2))
  else
    X8_faultPlace_b73 i0 k4 x2 M
def X8_faultPlace_b94 (i0 : Nat)  (s0 : Int32) (M : Mem) : Option (Int32 × Mem) :=
  some (s0, M)
def X8_faultPlace_b4 (i0 : Nat) (k4 : Int32 → Int32 → Mem → Option (Int32 × Mem)) (x1 : Int32) (x2 : Int32) (M : Mem) : Option (Int32 × Mem) :=
  if (M.1 i0 1) ≤ x2 then
    if x1 = 0 then
      X8_faultPlace_b94 i0  (-6 : Int32) M
    else
      X8_faultPlace_b94 i0  (M.1 i0 1) M
  else
    if x1 = 0 then
      gd (ib x2 60) (
        (X8_begins  (M.1 (rf i0 0) x2.toNatClampNeg) M).bind (fun p1 =>
          if p1.1 = 0 then
            X8_faultPlace_b51 i0  x2 p1.2
          else
            X8_faultPlace_b53 i0 k4 x1 x2 p1.2))
    else
      gd (ib (x2 - (1 : Int32)) 60) (
        gd (ib x2 60) (
          (X8_ends  (M.1 (rf i0 0) (x2 - (1 : Int32)).toNatClampNeg) (M.1 (rf i0 0) x2.toNatClampNeg) M).bind (fun p2 =>
            if p2.1 = 0 then
              X8_faultPlace_b51 i0  x2 p2.2
            else
              X8_faultPlace_b53 i0 k4 x1 x2 p2.2)))
def X8_faultPlace_l4 (i0 : Nat)  : Nat → Int32 → Int32 → Mem → Option (Int32 × Mem)
  | 0 => fun _ _ _ => none
  | n + 1 => X8_faultPlace_b4 i0 (X8_faultPlace_l4 i0  n)
def X8_faultPlace (i0 : Nat)   (M : Mem) : Option (Int32 × Mem) :=
  X8_faultPlace_l4 i0  FU (0 : Int32) (0 : Int32) M
set_option maxHeartbeats 4000000 in
set_option maxRecDepth 100000 in
theorem t_X8_faultPlace_b51 {X : Scr} {i0 : Nat} (h0 : KD[i0]? = some (.inl 8)) (x2 : Int32) (M : Mem) : T X eI (X8_faultPlace_b51 i0  x2 M) md_X8_faultPlace 51 [(2, .int x2)] [] M := by
  unfold X8_faultPlace_b51
  refine T_iload_n 0 dX8_faultPlace_51 rfl rfl ?_
  exact T_iret dX8_faultPlace_52 rfl
set_option maxHeartbeats 4000000 in
set_option maxRecDepth 100000 in
theorem t_X8_faultPlace_b74 {X : Scr} {i0 : Nat} (h0 : KD[i0]? = some (.inl 8)) {k4 : Int32 → Int32 → Mem → Option (Int32 × Mem)} (hk4 : ∀ (x1 : Int32) (x2 : Int32) (M : Mem), T X eI (k4 x1 x2 M) md_X8_faultPlace 4 [(0, .ref i0), (1, .int x1), (2, .int x2)] [] M) (x2 : Int32) (s0 : Int32) (M : Mem) : T X eI (X8_faultPlace_b74 i0 k4 x2 s0 M) md_X8_faultPlace 74 [(0, .ref i0), (2, .int x2)] [.int s0] M := by
  unfold X8_faultPlace_b74
  refine T_istore_n [(1, .int s0), (0, .ref i0), (2, .int x2)] dX8_faultPlace_74 rfl (by decide) rfl ?_
  refine T_iinc 2 [(2, .int (x2 + (1 : Int32))), (1, .int s0), (0, .ref i0)] (v := (1 : Int32)) dX8_faultPlace_75 rfl (by decide) (by decide) rfl ?_
  refine T_goto 4 dX8_faultPlace_78 (by decide) ?_
  refine T_sub [2, 1, 0] (lv' := [(0, .ref i0), (1, .int s0), (2, .int (x2 + (1 : Int32)))]) rfl ?_
  exact hk4 _ _ _
set_option maxHeartbeats 4000000 in
set_option maxRecDepth 100000 in
theorem t_X8_faultPlace_b73 {X : Scr} {i0 : Nat} (h0 : KD[i0]? = some (.inl 8)) {k4 : Int32 → Int32 → Mem → Option (Int32 × Mem)} (hk4 : ∀ (x1 : Int32) (x2 : Int32) (M : Mem), T X eI (k4 x1 x2 M) md_X8_faultPlace 4 [(0, .ref i0), (1, .int x1), (2, .int x2)] [] M) (x2 : Int32) (M : Mem) : T X eI (X8_faultPlace_b73 i0 k4 x2 M) md_X8_faultPlace 73 [(0, .ref i0), (2, .int x2)] [] M := by
  unfold X8_faultPlace_b73
  refine T_iconst (v := (0 : Int32)) (by decide) dX8_faultPlace_73 ?_
  exact t_X8_faultPlace_b74 h0 hk4 _ _ _
set_option maxHeartbeats 4000000 in
set_option maxRecDepth 100000 in
theorem t_X8_faultPlace_b53 {X : Scr} {i0 : Nat} (h0 : KD[i0]? = some (.inl 8)) {k4 : Int32 → Int32 → Mem → Option (Int32 × Mem)} (hk4 : ∀ (x1 : Int32) (x2 : Int32) (M : Mem), T X eI (k4 x1 x2 M) md_X8_faultPlace 4 [(0, .ref i0), (1, .int x1), (2, .int x2)] [] M) (x1 : Int32) (x2 : Int32) (M : Mem) : T X eI (X8_faultPlace_b53 i0 k4 x1 x2 M) md_X8_faultPlace 53 [(0, .ref i0), (1, .int x1), (2, .int x2)] [] M := by
  unfold X8_faultPlace_b53
  refine T_iload_n 1 dX8_faultPlace_53 rfl rfl ?_
  refine T_if_ne 73 dX8_faultPlace_54 (by decide) ?_ ?_
  ·
    refine T_aload_n 0 dX8_faultPlace_57 rfl rfl ?_
    refine T_getR 0 FOk_8 h0 (by decide) (by decide) dX8_faultPlace_58 tb_144 ?_
    refine T_iload_n 2 dX8_faultPlace_61 rfl rfl ?_
    refine T_iald (kf_8_0 h0) dX8_faultPlace_62 ?_
    refine T_callSI md_X8_isOfTwo [.int (M.1 (rf i0 0) x2.toNatClampNeg)] [] dX8_faultPlace_63 rfl ok_X8_isOfTwo tb_420 tb_421 (by decide) (Nat.le_of_ble_eq_true rfl) (fun _ _ h9 => C_X8_isOfTwo  _ h9) (fun r1 M1 => ?_)
    dsimp only
    refine T_if_eq 73 dX8_faultPlace_66 (by decide) ?_ ?_
    ·
      refine T_sub [0, 2] (lv' := [(0, .ref i0), (2, .int x2)]) rfl ?_
      exact t_X8_faultPlace_b73 h0 hk4 _ _
    ·
      refine T_iconst (v := (1 : Int32)) (by decide) dX8_faultPlace_69 ?_
      refine T_goto 74 dX8_faultPlace_70 (by decide) ?_
      refine T_sub [0, 2] (lv' := [(0, .ref i0), (2, .int x2)]) rfl ?_
      exact t_X8_faultPlace_b74 h0 hk4 _ _ _
  ·
    refine T_sub [0, 2] (lv' := [(0, .ref i0), (2, .int x2)]) rfl ?_
    exact t_X8_faultPlace_b73 h0 hk4 _ _
set_option maxHeartbeats 4000000 in
set_option maxRecDepth 100000 in
theorem t_X8_faultPlace_b94 {X : Scr} {i0 : Nat} (h0 : KD[i0]? = some (.inl 8)) (s0 : Int32) (M : Mem) : T X eI (X8_faultPlace_b94 i0  s0 M) md_X8_faultPlace 94 [] [.int s0] M := by
  unfold X8_faultPlace_b94
  exact T_iret dX8_faultPlace_94 rfl
set_option maxHeartbeats 4000000 in
set_option maxRecDepth 100000 in
theorem t_X8_faultPlace_b4 {X : Scr} {i0 : Nat} (h0 : KD[i0]? = some (.inl 8)) {k4 : Int32 → Int32 → Mem → Option (Int32 × Mem)} (hk4 : ∀ (x1 : Int32) (x2 : Int32) (M : Mem), T X eI (k4 x1 x2 M) md_X8_faultPlace 4 [(0, .ref i0), (1, .int x1), (2, .int x2)] [] M) (x1 : Int32) (x2 : Int32) (M : Mem) : T X eI (X8_faultPlace_b4 i0 k4 x1 x2 M) md_X8_faultPlace 4 [(0, .ref i0), (1, .int x1), (2, .int x2)] [] M := by
  unfold X8_faultPlace_b4
  refine T_iload_n 2 dX8_faultPlace_4 rfl rfl ?_
  refine T_aload_n 0 dX8_faultPlace_5 rfl rfl ?_
  refine T_getI 1 FOk_8 h0 (by decide) (by decide) dX8_faultPlace_6 tb_145 ?_
  refine T_icmp_ge 81 dX8_faultPlace_9 (by decide) ?_ ?_
  ·
    refine T_iload_n 1 dX8_faultPlace_81 rfl rfl ?_
    refine T_if_eq 92 dX8_faultPlace_82 (by decide) ?_ ?_
    ·
      refine T_bipush (v := (-6 : Int32)) (by decide) dX8_faultPlace_92 ?_
      refine T_sub [] (lv' := []) rfl ?_
      exact t_X8_faultPlace_b94 h0  _ _
    ·
      refine T_aload_n 0 dX8_faultPlace_85 rfl rfl ?_
      refine T_getI 1 FOk_8 h0 (by decide) (by decide) dX8_faultPlace_86 tb_145 ?_
      refine T_goto 94 dX8_faultPlace_89 (by decide) ?_
      refine T_sub [] (lv' := []) rfl ?_
      exact t_X8_faultPlace_b94 h0  _ _
  ·
    refine T_iload_n 1 dX8_faultPlace_12 rfl rfl ?_
    refine T_if_eq 39 dX8_faultPlace_13 (by decide) ?_ ?_
    ·
      refine T_aload_n 0 dX8_faultPlace_39 rfl rfl ?_
      refine T_getR 0 FOk_8 h0 (by decide) (by decide) dX8_faultPlace_40 tb_144 ?_
      refine T_iload_n 2 dX8_faultPlace_43 rfl rfl ?_
      refine T_iald (kf_8_0 h0) dX8_faultPlace_44 ?_
      refine T_callSI md_X8_begins [.int (M.1 (rf i0 0) x2.toNatClampNeg)] [] dX8_faultPlace_45 rfl ok_X8_begins tb_417 tb_418 (by decide) (Nat.le_of_ble_eq_true rfl) (fun _ _ h9 => C_X8_begins  _ h9) (fun r1 M1 => ?_)
      dsimp only
      refine T_if_ne 53 dX8_faultPlace_48 (by decide) ?_ ?_
      ·
        refine T_sub [2] (lv' := [(2, .int x2)]) rfl ?_
        exact t_X8_faultPlace_b51 h0  _ _
      ·
        exact t_X8_faultPlace_b53 h0 hk4 _ _ _
    ·
      refine T_aload_n 0 dX8_faultPlace_16 rfl rfl ?_
      refine T_getR 0 FOk_8 h0 (by decide) (by decide) dX8_faultPlace_17 tb_144 ?_
      refine T_iload_n 2 dX8_faultPlace_20 rfl rfl ?_
      refine T_iconst (v := (1 : Int32)) (by decide) dX8_faultPlace_21 ?_
      refine T_isub dX8_faultPlace_22 ?_
      refine T_iald (kf_8_0 h0) dX8_faultPlace_23 ?_
      refine T_aload_n 0 dX8_faultPlace_24 rfl rfl ?_
      refine T_getR 0 FOk_8 h0 (by decide) (by decide) dX8_faultPlace_25 tb_144 ?_
      refine T_iload_n 2 dX8_faultPlace_28 rfl rfl ?_
      refine T_iald (kf_8_0 h0) dX8_faultPlace_29 ?_
      refine T_callSI md_X8_ends [.int (M.1 (rf i0 0) (x2 - (1 : Int32)).toNatClampNeg), .int (M.1 (rf i0 0) x2.toNatClampNeg)] [] dX8_faultPlace_30 rfl ok_X8_ends tb_407 tb_408 (by decide) (Nat.le_of_ble_eq_true rfl) (fun _ _ h9 => C_X8_ends  _ _ h9) (fun r2 M2 => ?_)
      dsimp only
      refine T_if_ne 53 dX8_faultPlace_33 (by decide) ?_ ?_
      ·
        refine T_goto 51 dX8_faultPlace_36 (by decide) ?_
        refine T_sub [2] (lv' := [(2, .int x2)]) rfl ?_
        exact t_X8_faultPlace_b51 h0  _ _
      ·
        exact t_X8_faultPlace_b53 h0 hk4 _ _ _
theorem t_X8_faultPlace_l4 {X : Scr} {i0 : Nat} (h0 : KD[i0]? = some (.inl 8)) (n : Nat) : ∀ (x1 : Int32) (x2 : Int32) (M : Mem), T X eI (X8_faultPlace_l4 i0  n x1 x2 M) md_X8_faultPlace 4 [(0, .ref i0), (1, .int x1), (2, .int x2)] [] M := by
  induction n with
  | zero => intro x1 x2 M; exact T_none
  | succ n ih => intro x1 x2 M; exact t_X8_faultPlace_b4 h0 ih x1 x2 M
set_option maxHeartbeats 4000000 in
set_option maxRecDepth 100000 in
theorem t_X8_faultPlace {X : Scr} {i0 : Nat} (h0 : KD[i0]? = some (.inl 8))  (M : Mem) : T X eI (X8_faultPlace i0   M) md_X8_faultPlace 0 [(0, .ref i0)] [] M := by
  unfold X8_faultPlace
  refine T_iconst (v := (0 : Int32)) (by decide) dX8_faultPlace_0 ?_
  refine T_istore_n [(1, .int (0 : Int32)), (0, .ref i0)] dX8_faultPlace_1 rfl (by decide) rfl ?_
  refine T_iconst (v := (0 : Int32)) (by decide) dX8_faultPlace_2 ?_
  refine T_istore_n [(2, .int (0 : Int32)), (1, .int (0 : Int32)), (0, .ref i0)] dX8_faultPlace_3 rfl (by decide) rfl ?_
  refine T_sub [2, 1, 0] (lv' := [(0, .ref i0), (1, .int (0 : Int32)), (2, .int (0 : Int32))]) rfl ?_
  exact t_X8_faultPlace_l4 h0  _ _ _ _
theorem C_X8_faultPlace {X : Scr} {i0 : Nat} (h0 : KD[i0]? = some (.inl 8))  {M : Mem} {r : Int32} {M' : Mem} (h : X8_faultPlace i0  M = some (r, M')) : Ct X md_X8_faultPlace [.ref i0] M (eI r) M' := Ct_of (by decide +kernel) (Nat.le_of_ble_eq_true rfl) (t_X8_faultPlace h0  M) r M' h
