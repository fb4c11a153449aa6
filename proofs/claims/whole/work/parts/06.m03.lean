-- X5_gather
def X5_gather_b55 (i0 : Nat) (i1 : Nat) (k7 : Int32 → Mem → Option (Unit × Mem)) (k15 : Int32 → Int32 → Mem → Option (Unit × Mem)) (x2 : Int32) (x3 : Int32) (M : Mem) : Option (Unit × Mem) :=
  k15 x2 (x3 + (1 : Int32)) M
def X5_gather_b15 (i0 : Nat) (i1 : Nat) (k7 : Int32 → Mem → Option (Unit × Mem)) (k15 : Int32 → Int32 → Mem → Option (Unit × Mem)) (x2 : Int32) (x3 : Int32) (M : Mem) : Option (Unit × Mem) :=
  if (8 : Int32) ≤ x3 then
    k7 (x2 + (1 : Int32)) M
  else
    (X5_agree i1 x2 x3 M).bind (fun p1 =>
      if p1.1 = 0 then
        X5_gather_b55 i0 i1 k7 k15 x2 x3 p1.2
      else
        gd (ib (p1.2.1 i0 2) 64) (
          mw (mI p1.2 (rf i0 0) (p1.2.1 i0 2).toNatClampNeg (((10 : Int32) * x2) + x3)) (fun N2 =>
            mw (mI N2 i0 2 ((N2.1 i0 2) + (1 : Int32))) (fun N3 =>
              X5_gather_b55 i0 i1 k7 k15 x2 x3 N3))))
def X5_gather_l15 (i0 : Nat) (i1 : Nat) (k7 : Int32 → Mem → Option (Unit × Mem)) : Nat → Int32 → Int32 → Mem → Option (Unit × Mem)
  | 0 => fun _ _ _ => none
  | n + 1 => X5_gather_b15 i0 i1 k7 (X5_gather_l15 i0 i1 k7 n)
def X5_gather_b7 (i0 : Nat) (i1 : Nat) (k7 : Int32 → Mem → Option (Unit × Mem)) (x2 : Int32) (M : Mem) : Option (Unit × Mem) :=
  if (8 : Int32) ≤ x2 then
    some ((), M)
  else
    X5_gather_l15 i0 i1 k7 FU x2 (0 : Int32) M
def X5_gather_l7 (i0 : Nat) (i1 : Nat)  : Nat → Int32 → Mem → Option (Unit × Mem)
  | 0 => fun _ _ => none
  | n + 1 => X5_gather_b7 i0 i1 (X5_gather_l7 i0 i1  n)
def X5_gather (i0 : Nat) (i1 : Nat)   (M : Mem) : Option (Unit × Mem) :=
  mw (mI M i0 2 (0 : Int32)) (fun N1 =>
    X5_gather_l7 i0 i1  FU (0 : Int32) N1)
set_option maxHeartbeats 4000000 in
set_option maxRecDepth 100000 in
theorem t_X5_gather_b55 {X : Scr} {i0 : Nat} {i1 : Nat} (h0 : KD[i0]? = some (.inl 5)) (h1 : KD[i1]? = some (.inl 7)) {k7 : Int32 → Mem → Option (Unit × Mem)} (hk7 : ∀ (x2 : Int32) (M : Mem), T X eV (k7 x2 M) md_X5_gather 7 [(0, .ref i0), (1, .ref i1), (2, .int x2)] [] M) {k15 : Int32 → Int32 → Mem → Option (Unit × Mem)} (hk15 : ∀ (x2 : Int32) (x3 : Int32) (M : Mem), T X eV (k15 x2 x3 M) md_X5_gather 15 [(0, .ref i0), (1, .ref i1), (2, .int x2), (3, .int x3)] [] M) (x2 : Int32) (x3 : Int32) (M : Mem) : T X eV (X5_gather_b55 i0 i1 k7 k15 x2 x3 M) md_X5_gather 55 [(0, .ref i0), (1, .ref i1), (2, .int x2), (3, .int x3)] [] M := by
  unfold X5_gather_b55
  refine T_iinc 3 [(3, .int (x3 + (1 : Int32))), (0, .ref i0), (1, .ref i1), (2, .int x2)] (v := (1 : Int32)) dX5_gather_55 rfl (by decide) (by decide) rfl ?_
  refine T_goto 15 dX5_gather_58 (by decide) ?_
  refine T_sub [1, 2, 3, 0] (lv' := [(0, .ref i0), (1, .ref i1), (2, .int x2), (3, .int (x3 + (1 : Int32)))]) rfl ?_
  exact hk15 _ _ _
set_option maxHeartbeats 4000000 in
set_option maxRecDepth 100000 in
theorem t_X5_gather_b15 {X : Scr} {i0 : Nat} {i1 : Nat} (h0 : KD[i0]? = some (.inl 5)) (h1 : KD[i1]? = some (.inl 7)) {k7 : Int32 → Mem → Option (Unit × Mem)} (hk7 : ∀ (x2 : Int32) (M : Mem), T X eV (k7 x2 M) md_X5_gather 7 [(0, .ref i0), (1, .ref i1), (2, .int x2)] [] M) {k15 : Int32 → Int32 → Mem → Option (Unit × Mem)} (hk15 : ∀ (x2 : Int32) (x3 : Int32) (M : Mem), T X eV (k15 x2 x3 M) md_X5_gather 15 [(0, .ref i0), (1, .ref i1), (2, .int x2), (3, .int x3)] [] M) (x2 : Int32) (x3 : Int32) (M : Mem) : T X eV (X5_gather_b15 i0 i1 k7 k15 x2 x3 M) md_X5_gather 15 [(0, .ref i0), (1, .ref i1), (2, .int x2), (3, .int x3)] [] M := by
  unfold X5_gather_b15
  refine T_iload_n 3 dX5_gather_15 rfl rfl ?_
  refine T_bipush (v := (8 : Int32)) (by decide) dX5_gather_16 ?_
  refine T_icmp_ge 61 dX5_gather_18 (by decide) ?_ ?_
  ·
    refine T_iinc 2 [(2, .int (x2 + (1 : Int32))), (0, .ref i0), (1, .ref i1), (3, .int x3)] (v := (1 : Int32)) dX5_gather_61 rfl (by decide) (by decide) rfl ?_
    refine T_goto 7 dX5_gather_64 (by decide) ?_
    refine T_sub [1, 2, 0] (lv' := [(0, .ref i0), (1, .ref i1), (2, .int (x2 + (1 : Int32)))]) rfl ?_
    exact hk7 _ _
  ·
    refine T_aload_n 1 dX5_gather_21 rfl rfl ?_
    refine T_iload_n 2 dX5_gather_22 rfl rfl ?_
    refine T_iload_n 3 dX5_gather_23 rfl rfl ?_
    refine T_callSI md_X5_agree [.ref i1, .int x2, .int x3] [] dX5_gather_24 rfl ok_X5_agree tb_608 tb_609 (by decide) (Nat.le_of_ble_eq_true rfl) (fun _ _ h9 => C_X5_agree h1 _ _ h9) (fun r1 M1 => ?_)
    dsimp only
    refine T_if_eq 55 dX5_gather_27 (by decide) ?_ ?_
    ·
      exact t_X5_gather_b55 h0 h1 hk7 hk15 _ _ _
    ·
      refine T_aload_n 0 dX5_gather_30 rfl rfl ?_
      refine T_getR 0 FOk_5 h0 (by decide) (by decide) dX5_gather_31 tb_272 ?_
      refine T_aload_n 0 dX5_gather_34 rfl rfl ?_
      refine T_getI 2 FOk_5 h0 (by decide) (by decide) dX5_gather_35 tb_275 ?_
      refine T_bipush (v := (10 : Int32)) (by decide) dX5_gather_38 ?_
      refine T_iload_n 2 dX5_gather_40 rfl rfl ?_
      refine T_imul dX5_gather_41 ?_
      refine T_iload_n 3 dX5_gather_42 rfl rfl ?_
      refine T_iadd dX5_gather_43 ?_
      refine T_iast (kf_5_0 h0) dX5_gather_44 ?_
      refine T_mw (fun N2 => ?_)
      try dsimp only
      refine T_aload_n 0 dX5_gather_45 rfl rfl ?_
      refine T_dup rfl dX5_gather_46 ?_
      refine T_getI 2 FOk_5 h0 (by decide) (by decide) dX5_gather_47 tb_275 ?_
      refine T_iconst (v := (1 : Int32)) (by decide) dX5_gather_50 ?_
      refine T_iadd dX5_gather_51 ?_
      refine T_putI (ty := .int) 2 FOk_5 h0 (by decide) (by decide) rfl (by decide +kernel) rfl rfl dX5_gather_52 tb_275 ?_
      refine T_mw (fun N3 => ?_)
      try dsimp only
      exact t_X5_gather_b55 h0 h1 hk7 hk15 _ _ _
theorem t_X5_gather_l15 {X : Scr} {i0 : Nat} {i1 : Nat} (h0 : KD[i0]? = some (.inl 5)) (h1 : KD[i1]? = some (.inl 7)) {k7 : Int32 → Mem → Option (Unit × Mem)} (hk7 : ∀ (x2 : Int32) (M : Mem), T X eV (k7 x2 M) md_X5_gather 7 [(0, .ref i0), (1, .ref i1), (2, .int x2)] [] M) (n : Nat) : ∀ (x2 : Int32) (x3 : Int32) (M : Mem), T X eV (X5_gather_l15 i0 i1 k7 n x2 x3 M) md_X5_gather 15 [(0, .ref i0), (1, .ref i1), (2, .int x2), (3, .int x3)] [] M := by
  induction n with
  | zero => intro x2 x3 M; exact T_none
  | succ n ih => intro x2 x3 M; exact t_X5_gather_b15 h0 h1 hk7 ih x2 x3 M
set_option maxHeartbeats 4000000 in
set_option maxRecDepth 100000 in
theorem t_X5_gather_b7 {X : Scr} {i0 : Nat} {i1 : Nat} (h0 : KD[i0]? = some (.inl 5)) (h1 : KD[i1]? = some (.inl 7)) {k7 : Int32 → Mem → Option (Unit × Mem)} (hk7 : ∀ (x2 : Int32) (M : Mem), T X eV (k7 x2 M) md_X5_gather 7 [(0, .ref i0), (1, .ref i1), (2, .int x2)] [] M) (x2 : Int32) (M : Mem) : T X eV (X5_gather_b7 i0 i1 k7 x2 M) md_X5_gather 7 [(0, .ref i0), (1, .ref i1), (2, .int x2)] [] M := by
  unfold X5_gather_b7
  refine T_iload_n 2 dX5_gather_7 rfl rfl ?_
  refine T_bipush (v := (8 : Int32)) (by decide) dX5_gather_8 ?_
  refine T_icmp_ge 67 dX5_gather_10 (by decide) ?_ ?_
  ·
    exact T_vret dX5_gather_67 rfl
  ·
    refine T_iconst (v := (0 : Int32)) (by decide) dX5_gather_13 ?_
    refine T_istore_n [(3, .int (0 : Int32)), (0, .ref i0), (1, .ref i1), (2, .int x2)] dX5_gather_14 rfl (by decide) rfl ?_
    refine T_sub [1, 2, 3, 0] (lv' := [(0, .ref i0), (1, .ref i1), (2, .int x2), (3, .int (0 : Int32))]) rfl ?_
    exact t_X5_gather_l15 h0 h1 hk7 _ _ _ _
theorem t_X5_gather_l7 {X : Scr} {i0 : Nat} {i1 : Nat} (h0 : KD[i0]? = some (.inl 5)) (h1 : KD[i1]? = some (.inl 7)) (n : Nat) : ∀ (x2 : Int32) (M : Mem), T X eV (X5_gather_l7 i0 i1  n x2 M) md_X5_gather 7 [(0, .ref i0), (1, .ref i1), (2, .int x2)] [] M := by
  induction n with
  | zero => intro x2 M; exact T_none
  | succ n ih => intro x2 M; exact t_X5_gather_b7 h0 h1 ih x2 M
set_option maxHeartbeats 4000000 in
set_option maxRecDepth 100000 in
theorem t_X5_gather {X : Scr} {i0 : Nat} {i1 : Nat} (h0 : KD[i0]? = some (.inl 5)) (h1 : KD[i1]? = some (.inl 7))  (M : Mem) : T X eV (X5_gather i0 i1   M) md_X5_gather 0 [(0, .ref i0), (1, .ref i1)] [] M := by
  unfold X5_gather
  refine T_aload_n 0 dX5_gather_0 rfl rfl ?_
  refine T_iconst (v := (0 : Int32)) (by decide) dX5_gather_1 ?_
  refine T_putI (ty := .int) 2 FOk_5 h0 (by decide) (by decide) rfl (by decide +kernel) rfl rfl dX5_gather_2 tb_275 ?_
  refine T_mw (fun N1 => ?_)
  try dsimp only
  refine T_iconst (v := (0 : Int32)) (by decide) dX5_gather_5 ?_
  refine T_istore_n [(2, .int (0 : Int32)), (0, .ref i0), (1, .ref i1)] dX5_gather_6 rfl (by decide) rfl ?_
  refine T_sub [1, 2, 0] (lv' := [(0, .ref i0), (1, .ref i1), (2, .int (0 : Int32))]) rfl ?_
  exact t_X5_gather_l7 h0 h1  _ _ _
theorem C_X5_gather {X : Scr} {i0 : Nat} {i1 : Nat} (h0 : KD[i0]? = some (.inl 5)) (h1 : KD[i1]? = some (.inl 7))  {M : Mem} {r : Unit} {M' : Mem} (h : X5_gather i0 i1  M = some (r, M')) : Ct X md_X5_gather [.ref i0, .ref i1] M (eV r) M' := Ct_of (by decide +kernel) (Nat.le_of_ble_eq_true rfl) (t_X5_gather h0 h1  M) r M' h
-- X5_mostLeftAfter
def X5_mostLeftAfter_b25 (i0 : Nat) (k25 : Int32 → Int32 → Int32 → Mem → Option (Int32 × Mem)) (x1 : Int32) (x2 : Int32) (x3 : Int32) (M : Mem) : Option (Int32 × Mem) :=
  if (M.1 i0 2) ≤ x3 then
    some (x2, M)
  else
    gd (ib x3 64) (
      gd (!((10 : Int32) == 0)) (
        gd (ib x3 64) (
          gd (!((10 : Int32) == 0)) (
            (X5_thingOn  x1 ((M.1 (rf i0 0) x3.toNatClampNeg) / (10 : Int32)) ((M.1 (rf i0 0) x3.toNatClampNeg) - (M.1 (rf i0 0) x3.toNatClampNeg) / (10 : Int32) * (10 : Int32)) M).bind (fun p1 =>
              gd (ib p1.1 8) (
                gd (ib p1.1 8) (
                  gd (ib p1.1 8) (
                    (J9_max_7cf53  x2 ((mI p1.2 (rf i0 1) p1.1.toNatClampNeg ((p1.2.1 (rf i0 1) p1.1.toNatClampNeg) + (1 : Int32))).1 (rf i0 1) p1.1.toNatClampNeg) (mI p1.2 (rf i0 1) p1.1.toNatClampNeg ((p1.2.1 (rf i0 1) p1.1.toNatClampNeg) + (1 : Int32)))).bind (fun p2 =>
                      k25 x1 p2.1 (x3 + (1 : Int32)) p2.2)))))))))
def X5_mostLeftAfter_l25 (i0 : Nat)  : Nat → Int32 → Int32 → Int32 → Mem → Option (Int32 × Mem)
  | 0 => fun _ _ _ _ => none
  | n + 1 => X5_mostLeftAfter_b25 i0 (X5_mostLeftAfter_l25 i0  n)
def X5_mostLeftAfter_b2 (i0 : Nat) (k2 : Int32 → Int32 → Mem → Option (Int32 × Mem)) (x1 : Int32) (x2 : Int32) (M : Mem) : Option (Int32 × Mem) :=
  if (8 : Int32) ≤ x2 then
    X5_mostLeftAfter_l25 i0  FU x1 (0 : Int32) (0 : Int32) M
  else
    gd (ib x2 8) (
      k2 x1 (x2 + (1 : Int32)) (mI M (rf i0 1) x2.toNatClampNeg (0 : Int32)))
def X5_mostLeftAfter_l2 (i0 : Nat)  : Nat → Int32 → Int32 → Mem → Option (Int32 × Mem)
  | 0 => fun _ _ _ => none
  | n + 1 => X5_mostLeftAfter_b2 i0 (X5_mostLeftAfter_l2 i0  n)
def X5_mostLeftAfter (i0 : Nat)  (x1 : Int32) (M : Mem) : Option (Int32 × Mem) :=
  X5_mostLeftAfter_l2 i0  FU x1 (0 : Int32) M
set_option maxHeartbeats 4000000 in
set_option maxRecDepth 100000 in
theorem t_X5_mostLeftAfter_b25 {X : Scr} {i0 : Nat} (h0 : KD[i0]? = some (.inl 5)) {k25 : Int32 → Int32 → Int32 → Mem → Option (Int32 × Mem)} (hk25 : ∀ (x1 : Int32) (x2 : Int32) (x3 : Int32) (M : Mem), T X eI (k25 x1 x2 x3 M) md_X5_mostLeftAfter 25 [(0, .ref i0), (1, .int x1), (2, .int x2), (3, .int x3)] [] M) (x1 : Int32) (x2 : Int32) (x3 : Int32) (M : Mem) : T X eI (X5_mostLeftAfter_b25 i0 k25 x1 x2 x3 M) md_X5_mostLeftAfter 25 [(0, .ref i0), (1, .int x1), (2, .int x2), (3, .int x3)] [] M := by
  unfold X5_mostLeftAfter_b25
  refine T_iload_n 3 dX5_mostLeftAfter_25 rfl rfl ?_
  refine T_aload_n 0 dX5_mostLeftAfter_26 rfl rfl ?_
  refine T_getI 2 FOk_5 h0 (by decide) (by decide) dX5_mostLeftAfter_27 tb_275 ?_
  refine T_icmp_ge 86 dX5_mostLeftAfter_30 (by decide) ?_ ?_
  ·
    refine T_iload_n 2 dX5_mostLeftAfter_86 rfl rfl ?_
    exact T_iret dX5_mostLeftAfter_87 rfl
  ·
    refine T_iload_n 1 dX5_mostLeftAfter_33 rfl rfl ?_
    refine T_aload_n 0 dX5_mostLeftAfter_34 rfl rfl ?_
    refine T_getR 0 FOk_5 h0 (by decide) (by decide) dX5_mostLeftAfter_35 tb_272 ?_
    refine T_iload_n 3 dX5_mostLeftAfter_38 rfl rfl ?_
    refine T_iald (kf_5_0 h0) dX5_mostLeftAfter_39 ?_
    refine T_bipush (v := (10 : Int32)) (by decide) dX5_mostLeftAfter_40 ?_
    refine T_idiv dX5_mostLeftAfter_42 ?_
    refine T_aload_n 0 dX5_mostLeftAfter_43 rfl rfl ?_
    refine T_getR 0 FOk_5 h0 (by decide) (by decide) dX5_mostLeftAfter_44 tb_272 ?_
    refine T_iload_n 3 dX5_mostLeftAfter_47 rfl rfl ?_
    refine T_iald (kf_5_0 h0) dX5_mostLeftAfter_48 ?_
    refine T_bipush (v := (10 : Int32)) (by decide) dX5_mostLeftAfter_49 ?_
    refine T_irem dX5_mostLeftAfter_51 ?_
    refine T_callSI md_X5_thingOn [.int x1, .int ((M.1 (rf i0 0) x3.toNatClampNeg) / (10 : Int32)), .int ((M.1 (rf i0 0) x3.toNatClampNeg) - (M.1 (rf i0 0) x3.toNatClampNeg) / (10 : Int32) * (10 : Int32))] [] dX5_mostLeftAfter_52 rfl ok_X5_thingOn tb_611 tb_612 (by decide) (Nat.le_of_ble_eq_true rfl) (fun _ _ h9 => C_X5_thingOn  _ _ _ h9) (fun r1 M1 => ?_)
    dsimp only
    refine T_istore [(4, .int r1), (0, .ref i0), (1, .int x1), (2, .int x2), (3, .int x3)] dX5_mostLeftAfter_55 (by decide) rfl ?_
    refine T_aload_n 1 dX5_mostLeftAfter_57 rfl rfl ?_
    refine T_getR 1 FOk_5 h0 (by decide) (by decide) dX5_mostLeftAfter_58 tb_274 ?_
    refine T_iload 0 dX5_mostLeftAfter_61 rfl ?_
    refine T_dup2 rfl rfl dX5_mostLeftAfter_63 ?_
    refine T_iald (kf_5_1 h0) dX5_mostLeftAfter_64 ?_
    refine T_iconst (v := (1 : Int32)) (by decide) dX5_mostLeftAfter_65 ?_
    refine T_iadd dX5_mostLeftAfter_66 ?_
    refine T_iast (kf_5_1 h0) dX5_mostLeftAfter_67 ?_
    refine T_iload_n 3 dX5_mostLeftAfter_68 rfl rfl ?_
    refine T_aload_n 1 dX5_mostLeftAfter_69 rfl rfl ?_
    refine T_getR 1 FOk_5 h0 (by decide) (by decide) dX5_mostLeftAfter_70 tb_274 ?_
    refine T_iload 0 dX5_mostLeftAfter_73 rfl ?_
    refine T_iald (kf_5_1 h0) dX5_mostLeftAfter_75 ?_
    refine T_callSI md_J9_max_7cf53 [.int x2, .int ((mI M1 (rf i0 1) r1.toNatClampNeg ((M1.1 (rf i0 1) r1.toNatClampNeg) + (1 : Int32))).1 (rf i0 1) r1.toNatClampNeg)] [] dX5_mostLeftAfter_76 rfl ok_J9_max_7cf53 tb_626 tb_481 (by decide) (Nat.le_of_ble_eq_true rfl) (fun _ _ h9 => C_J9_max_7cf53  _ _ h9) (fun r2 M2 => ?_)
    dsimp only
    refine T_istore_n [(2, .int r2), (4, .int r1), (0, .ref i0), (1, .int x1), (3, .int x3)] dX5_mostLeftAfter_79 rfl (by decide) rfl ?_
    refine T_iinc 4 [(3, .int (x3 + (1 : Int32))), (2, .int r2), (4, .int r1), (0, .ref i0), (1, .int x1)] (v := (1 : Int32)) dX5_mostLeftAfter_80 rfl (by decide) (by decide) rfl ?_
    refine T_goto 25 dX5_mostLeftAfter_83 (by decide) ?_
    refine T_sub [3, 4, 1, 0] (lv' := [(0, .ref i0), (1, .int x1), (2, .int r2), (3, .int (x3 + (1 : Int32)))]) rfl ?_
    exact hk25 _ _ _ _
theorem t_X5_mostLeftAfter_l25 {X : Scr} {i0 : Nat} (h0 : KD[i0]? = some (.inl 5)) (n : Nat) : ∀ (x1 : Int32) (x2 : Int32) (x3 : Int32) (M : Mem), T X eI (X5_mostLeftAfter_l25 i0  n x1 x2 x3 M) md_X5_mostLeftAfter 25 [(0, .ref i0), (1, .int x1), (2, .int x2), (3, .int x3)] [] M := by
  induction n with
  | zero => intro x1 x2 x3 M; exact T_none
  | succ n ih => intro x1 x2 x3 M; exact t_X5_mostLeftAfter_b25 h0 ih x1 x2 x3 M
set_option maxHeartbeats 4000000 in
set_option maxRecDepth 100000 in
theorem t_X5_mostLeftAfter_b2 {X : Scr} {i0 : Nat} (h0 : KD[i0]? = some (.inl 5)) {k2 : Int32 → Int32 → Mem → Option (Int32 × Mem)} (hk2 : ∀ (x1 : Int32) (x2 : Int32) (M : Mem), T X eI (k2 x1 x2 M) md_X5_mostLeftAfter 2 [(0, .ref i0), (1, .int x1), (2, .int x2)] [] M) (x1 : Int32) (x2 : Int32) (M : Mem) : T X eI (X5_mostLeftAfter_b2 i0 k2 x1 x2 M) md_X5_mostLeftAfter 2 [(0, .ref i0), (1, .int x1), (2, .int x2)] [] M := by
  unfold X5_mostLeftAfter_b2
  refine T_iload_n 2 dX5_mostLeftAfter_2 rfl rfl ?_
  refine T_bipush (v := (8 : Int32)) (by decide) dX5_mostLeftAfter_3 ?_
  refine T_icmp_ge 21 dX5_mostLeftAfter_5 (by decide) ?_ ?_
  ·
    refine T_iconst (v := (0 : Int32)) (by decide) dX5_mostLeftAfter_21 ?_
    refine T_istore_n [(2, .int (0 : Int32)), (0, .ref i0), (1, .int x1)] dX5_mostLeftAfter_22 rfl (by decide) rfl ?_
    refine T_iconst (v := (0 : Int32)) (by decide) dX5_mostLeftAfter_23 ?_
    refine T_istore_n [(3, .int (0 : Int32)), (2, .int (0 : Int32)), (0, .ref i0), (1, .int x1)] dX5_mostLeftAfter_24 rfl (by decide) rfl ?_
    refine T_sub [2, 3, 1, 0] (lv' := [(0, .ref i0), (1, .int x1), (2, .int (0 : Int32)), (3, .int (0 : Int32))]) rfl ?_
    exact t_X5_mostLeftAfter_l25 h0  _ _ _ _ _
  ·
    refine T_aload_n 0 dX5_mostLeftAfter_8 rfl rfl ?_
    refine T_getR 1 FOk_5 h0 (by decide) (by decide) dX5_mostLeftAfter_9 tb_274 ?_
    refine T_iload_n 2 dX5_mostLeftAfter_12 rfl rfl ?_
    refine T_iconst (v := (0 : Int32)) (by decide) dX5_mostLeftAfter_13 ?_
    refine T_iast (kf_5_1 h0) dX5_mostLeftAfter_14 ?_
    refine T_iinc 2 [(2, .int (x2 + (1 : Int32))), (0, .ref i0), (1, .int x1)] (v := (1 : Int32)) dX5_mostLeftAfter_15 rfl (by decide) (by decide) rfl ?_
    refine T_goto 2 dX5_mostLeftAfter_18 (by decide) ?_
    refine T_sub [1, 2, 0] (lv' := [(0, .ref i0), (1, .int x1), (2, .int (x2 + (1 : Int32)))]) rfl ?_
    exact hk2 _ _ _
theorem t_X5_mostLeftAfter_l2 {X : Scr} {i0 : Nat} (h0 : KD[i0]? = some (.inl 5)) (n : Nat) : ∀ (x1 : Int32) (x2 : Int32) (M : Mem), T X eI (X5_mostLeftAfter_l2 i0  n x1 x2 M) md_X5_mostLeftAfter 2 [(0, .ref i0), (1, .int x1), (2, .int x2)] [] M := by
  induction n with
  | zero => intro x1 x2 M; exact T_none
  | succ n ih => intro x1 x2 M; exact t_X5_mostLeftAfter_b2 h0 ih x1 x2 M
set_option maxHeartbeats 4000000 in
set_option maxRecDepth 100000 in
theorem t_X5_mostLeftAfter {X : Scr} {i0 : Nat} (h0 : KD[i0]? = some (.inl 5)) (x1 : Int32) (M : Mem) : T X eI (X5_mostLeftAfter i0  x1 M) md_X5_mostLeftAfter 0 [(0, .ref i0), (1, .int x1)] [] M := by
  unfold X5_mostLeftAfter
  refine T_iconst (v := (0 : Int32)) (by decide) dX5_mostLeftAfter_0 ?_
  refine T_istore_n [(2, .int (0 : Int32)), (0, .ref i0), (1, .int x1)] dX5_mostLeftAfter_1 rfl (by decide) rfl ?_
  refine T_sub [1, 2, 0] (lv' := [(0, .ref i0), (1, .int x1), (2, .int (0 : Int32))]) rfl ?_
  exact t_X5_mostLeftAfter_l2 h0  _ _ _ _
theorem C_X5_mostLeftAfter {X : Scr} {i0 : Nat} (h0 : KD[i0]? = some (.inl 5)) (x1 : Int32) {M : Mem} {r : Int32} {M' : Mem} (h : X5_mostLeftAfter i0 x1 M = some (r, M')) : Ct X md_X5_mostLeftAfter [.ref i0, .int x1] M (eI r) M' := Ct_of (by decide +kernel) (Nat.le_of_ble_eq_true rfl) (t_X5_mostLeftAfter h0 _ M) r M' h
-- X5_chooseDay
def X5_chooseDay_b61 (i0 : Nat) (k22 : Int32 → Mem → Option (Unit × Mem)) (x1 : Int32) (M : Mem) : Option (Unit × Mem) :=
  k22 (x1 + (1 : Int32)) M
def X5_chooseDay_b51 (i0 : Nat) (k22 : Int32 → Mem → Option (Unit × Mem)) (x1 : Int32) (x2 : Int32) (M : Mem) : Option (Unit × Mem) :=
  mw (mI M i0 3 x1) (fun N1 =>
    mw (mI N1 i0 4 x2) (fun N2 =>
      X5_chooseDay_b61 i0 k22 x1 N2))
def X5_chooseDay_b22 (i0 : Nat) (k22 : Int32 → Mem → Option (Unit × Mem)) (x1 : Int32) (M : Mem) : Option (Unit × Mem) :=
  if (8 : Int32) ≤ x1 then
    some ((), M)
  else
    (X5_mostLeftAfter i0 x1 M).bind (fun p1 =>
      if (p1.2.1 i0 3) = (-6 : Int32) then
        X5_chooseDay_b51 i0 k22 x1 p1.1 p1.2
      else
        if (p1.2.1 i0 4) ≤ p1.1 then
          X5_chooseDay_b61 i0 k22 x1 p1.2
        else
          X5_chooseDay_b51 i0 k22 x1 p1.1 p1.2)
def X5_chooseDay_l22 (i0 : Nat)  : Nat → Int32 → Mem → Option (Unit × Mem)
  | 0 => fun _ _ => none
  | n + 1 => X5_chooseDay_b22 i0 (X5_chooseDay_l22 i0  n)
def X5_chooseDay (i0 : Nat)   (M : Mem) : Option (Unit × Mem) :=
  mw (mI M i0 3 (-6 : Int32)) (fun N1 =>
    mw (mI N1 i0 4 (-6 : Int32)) (fun N2 =>
      if (N2.1 i0 2) = 0 then
        some ((), N2)
      else
        X5_chooseDay_l22 i0  FU (0 : Int32) N2))
set_option maxHeartbeats 4000000 in
set_option maxRecDepth 100000 in
theorem t_X5_chooseDay_b61 {X : Scr} {i0 : Nat} (h0 : KD[i0]? = some (.inl 5)) {k22 : Int32 → Mem → Option (Unit × Mem)} (hk22 : ∀ (x1 : Int32) (M : Mem), T X eV (k22 x1 M) md_X5_chooseDay 22 [(0, .ref i0), (1, .int x1)] [] M) (x1 : Int32) (M : Mem) : T X eV (X5_chooseDay_b61 i0 k22 x1 M) md_X5_chooseDay 61 [(0, .ref i0), (1, .int x1)] [] M := by
  unfold X5_chooseDay_b61
  refine T_iinc 1 [(1, .int (x1 + (1 : Int32))), (0, .ref i0)] (v := (1 : Int32)) dX5_chooseDay_61 rfl (by decide) (by decide) rfl ?_
  refine T_goto 22 dX5_chooseDay_64 (by decide) ?_
  refine T_sub [1, 0] (lv' := [(0, .ref i0), (1, .int (x1 + (1 : Int32)))]) rfl ?_
  exact hk22 _ _
set_option maxHeartbeats 4000000 in
set_option maxRecDepth 100000 in
theorem t_X5_chooseDay_b51 {X : Scr} {i0 : Nat} (h0 : KD[i0]? = some (.inl 5)) {k22 : Int32 → Mem → Option (Unit × Mem)} (hk22 : ∀ (x1 : Int32) (M : Mem), T X eV (k22 x1 M) md_X5_chooseDay 22 [(0, .ref i0), (1, .int x1)] [] M) (x1 : Int32) (x2 : Int32) (M : Mem) : T X eV (X5_chooseDay_b51 i0 k22 x1 x2 M) md_X5_chooseDay 51 [(0, .ref i0), (1, .int x1), (2, .int x2)] [] M := by
  unfold X5_chooseDay_b51
  refine T_aload_n 0 dX5_chooseDay_51 rfl rfl ?_
  refine T_iload_n 1 dX5_chooseDay_52 rfl rfl ?_
  refine T_putI (ty := .int) 3 FOk_5 h0 (by decide) (by decide) rfl (by decide +kernel) rfl rfl dX5_chooseDay_53 tb_277 ?_
  refine T_mw (fun N1 => ?_)
  try dsimp only
  refine T_aload_n 0 dX5_chooseDay_56 rfl rfl ?_
  refine T_iload_n 2 dX5_chooseDay_57 rfl rfl ?_
  refine T_putI (ty := .int) 4 FOk_5 h0 (by decide) (by decide) rfl (by decide +kernel) rfl rfl dX5_chooseDay_58 tb_279 ?_
  refine T_mw (fun N2 => ?_)
  try dsimp only
  refine T_sub [0, 1] (lv' := [(0, .ref i0), (1, .int x1)]) rfl ?_
  exact t_X5_chooseDay_b61 h0 hk22 _ _
set_option maxHeartbeats 4000000 in
set_option maxRecDepth 100000 in
theorem t_X5_chooseDay_b22 {X : Scr} {i0 : Nat} (h0 : KD[i0]? = some (.inl 5)) {k22 : Int32 → Mem → Option (Unit × Mem)} (hk22 : ∀ (x1 : Int32) (M : Mem), T X eV (k22 x1 M) md_X5_chooseDay 22 [(0, .ref i0), (1, .int x1)] [] M) (x1 : Int32) (M : Mem) : T X eV (X5_chooseDay_b22 i0 k22 x1 M) md_X5_chooseDay 22 [(0, .ref i0), (1, .int x1)] [] M := by
  unfold X5_chooseDay_b22
  refine T_iload_n 1 dX5_chooseDay_22 rfl rfl ?_
  refine T_bipush (v := (8 : Int32)) (by decide) dX5_chooseDay_23 ?_
  refine T_icmp_ge 67 dX5_chooseDay_25 (by decide) ?_ ?_
  ·
    exact T_vret dX5_chooseDay_67 rfl
  ·
    refine T_aload_n 0 dX5_chooseDay_28 rfl rfl ?_
    refine T_iload_n 1 dX5_chooseDay_29 rfl rfl ?_
    refine T_callVI md_X5_mostLeftAfter [.int x1] [] dX5_chooseDay_30 h0 rfl rfl ok_X5_mostLeftAfter tb_622 tb_624 tb_10 (by decide) (Nat.le_of_ble_eq_true rfl) (fun _ _ h9 => C_X5_mostLeftAfter h0 _ h9) (fun r1 M1 => ?_)
    dsimp only
    refine T_istore_n [(2, .int r1), (0, .ref i0), (1, .int x1)] dX5_chooseDay_33 rfl (by decide) rfl ?_
    refine T_aload_n 1 dX5_chooseDay_34 rfl rfl ?_
    refine T_getI 3 FOk_5 h0 (by decide) (by decide) dX5_chooseDay_35 tb_277 ?_
    refine T_bipush (v := (-6 : Int32)) (by decide) dX5_chooseDay_38 ?_
    refine T_icmp_eq 51 dX5_chooseDay_40 (by decide) ?_ ?_
    ·
      refine T_sub [1, 2, 0] (lv' := [(0, .ref i0), (1, .int x1), (2, .int r1)]) rfl ?_
      exact t_X5_chooseDay_b51 h0 hk22 _ _ _
    ·
      refine T_iload_n 0 dX5_chooseDay_43 rfl rfl ?_
      refine T_aload_n 1 dX5_chooseDay_44 rfl rfl ?_
      refine T_getI 4 FOk_5 h0 (by decide) (by decide) dX5_chooseDay_45 tb_279 ?_
      refine T_icmp_ge 61 dX5_chooseDay_48 (by decide) ?_ ?_
      ·
        refine T_sub [1, 2] (lv' := [(0, .ref i0), (1, .int x1)]) rfl ?_
        exact t_X5_chooseDay_b61 h0 hk22 _ _
      ·
        refine T_sub [1, 2, 0] (lv' := [(0, .ref i0), (1, .int x1), (2, .int r1)]) rfl ?_
        exact t_X5_chooseDay_b51 h0 hk22 _ _ _
theorem t_X5_chooseDay_l22 {X : Scr} {i0 : Nat} (h0 : KD[i0]? = some (.inl 5)) (n : Nat) : ∀ (x1 : Int32) (M : Mem), T X eV (X5_chooseDay_l22 i0  n x1 M) md_X5_chooseDay 22 [(0, .ref i0), (1, .int x1)] [] M := by
  induction n with
  | zero => intro x1 M; exact T_none
  | succ n ih => intro x1 M; exact t_X5_chooseDay_b22 h0 ih x1 M
set_option maxHeartbeats 4000000 in
set_option maxRecDepth 100000 in
theorem t_X5_chooseDay {X : Scr} {i0 : Nat} (h0 : KD[i0]? = some (.inl 5))  (M : Mem) : T X eV (X5_chooseDay i0   M) md_X5_chooseDay 0 [(0, .ref i0)] [] M := by
  unfold X5_chooseDay
  refine T_aload_n 0 dX5_chooseDay_0 rfl rfl ?_
  refine T_bipush (v := (-6 : Int32)) (by decide) dX5_chooseDay_1 ?_
  refine T_putI (ty := .int) 3 FOk_5 h0 (by decide) (by decide) rfl (by decide +kernel) rfl rfl dX5_chooseDay_3 tb_277 ?_
  refine T_mw (fun N1 => ?_)
  try dsimp only
  refine T_aload_n 0 dX5_chooseDay_6 rfl rfl ?_
  refine T_bipush (v := (-6 : Int32)) (by decide) dX5_chooseDay_7 ?_
  refine T_putI (ty := .int) 4 FOk_5 h0 (by decide) (by decide) rfl (by decide +kernel) rfl rfl dX5_chooseDay_9 tb_279 ?_
  refine T_mw (fun N2 => ?_)
  try dsimp only
  refine T_aload_n 0 dX5_chooseDay_12 rfl rfl ?_
  refine T_getI 2 FOk_5 h0 (by decide) (by decide) dX5_chooseDay_13 tb_275 ?_
  refine T_if_ne 20 dX5_chooseDay_16 (by decide) ?_ ?_
  ·
    exact T_vret dX5_chooseDay_19 rfl
  ·
    refine T_iconst (v := (0 : Int32)) (by decide) dX5_chooseDay_20 ?_
    refine T_istore_n [(1, .int (0 : Int32)), (0, .ref i0)] dX5_chooseDay_21 rfl (by decide) rfl ?_
    refine T_sub [1, 0] (lv' := [(0, .ref i0), (1, .int (0 : Int32))]) rfl ?_
    exact t_X5_chooseDay_l22 h0  _ _ _
theorem C_X5_chooseDay {X : Scr} {i0 : Nat} (h0 : KD[i0]? = some (.inl 5))  {M : Mem} {r : Unit} {M' : Mem} (h : X5_chooseDay i0  M = some (r, M')) : Ct X md_X5_chooseDay [.ref i0] M (eV r) M' := Ct_of (by decide +kernel) (Nat.le_of_ble_eq_true rfl) (t_X5_chooseDay h0  M) r M' h
-- X6_joinHomes
def X6_joinHomes_b55 (i0 : Nat) (i1 : Nat) (k9 : Int32 → Mem → Option (Unit × Mem)) (k25 : Int32 → Int32 → Int32 → Int32 → Mem → Option (Unit × Mem)) (x2 : Int32) (x3 : Int32) (x4 : Int32) (x5 : Int32) (M : Mem) : Option (Unit × Mem) :=
  k25 x2 x3 x4 (x5 + (1 : Int32)) M
def X6_joinHomes_b64 (i0 : Nat) (i1 : Nat) (k9 : Int32 → Mem → Option (Unit × Mem)) (k64 : Int32 → Int32 → Int32 → Int32 → Mem → Option (Unit × Mem)) (x2 : Int32) (x3 : Int32) (x4 : Int32) (x5 : Int32) (M : Mem) : Option (Unit × Mem) :=
  if x3 ≤ x5 then
    k9 (x2 + (1 : Int32)) M
  else
    gd (ib x5 256) (
      gd (ib (x3 ||| x5) 256) (
        k64 x2 x3 x4 (x5 + (1 : Int32)) (mI M (rf i0 0) (x3 ||| x5).toNatClampNeg ((M.1 (rf i0 0) x5.toNatClampNeg) ||| x4))))
def X6_joinHomes_l64 (i0 : Nat) (i1 : Nat) (k9 : Int32 → Mem → Option (Unit × Mem)) : Nat → Int32 → Int32 → Int32 → Int32 → Mem → Option (Unit × Mem)
  | 0 => fun _ _ _ _ _ => none
  | n + 1 => X6_joinHomes_b64 i0 i1 k9 (X6_joinHomes_l64 i0 i1 k9 n)
def X6_joinHomes_b25 (i0 : Nat) (i1 : Nat) (k9 : Int32 → Mem → Option (Unit × Mem)) (k25 : Int32 → Int32 → Int32 → Int32 → Mem → Option (Unit × Mem)) (x2 : Int32) (x3 : Int32) (x4 : Int32) (x5 : Int32) (M : Mem) : Option (Unit × Mem) :=
  if (10 : Int32) ≤ x5 then
    X6_joinHomes_l64 i0 i1 k9 FU x2 x3 x4 (0 : Int32) M
  else
    gd (ib x5 10) (
      (X11_isIn  (M.1 (rf i1 1) x5.toNatClampNeg) x2 M).bind (fun p1 =>
        if p1.1 = 0 then
          X6_joinHomes_b55 i0 i1 k9 k25 x2 x3 x4 x5 p1.2
        else
          iw (x4 ||| ((1 : Int32) <<< (x5 &&& 31))) (fun v2 =>
            X6_joinHomes_b55 i0 i1 k9 k25 x2 x3 v2 x5 p1.2)))
def X6_joinHomes_l25 (i0 : Nat) (i1 : Nat) (k9 : Int32 → Mem → Option (Unit × Mem)) : Nat → Int32 → Int32 → Int32 → Int32 → Mem → Option (Unit × Mem)
  | 0 => fun _ _ _ _ _ => none
  | n + 1 => X6_joinHomes_b25 i0 i1 k9 (X6_joinHomes_l25 i0 i1 k9 n)
def X6_joinHomes_b9 (i0 : Nat) (i1 : Nat) (k9 : Int32 → Mem → Option (Unit × Mem)) (x2 : Int32) (M : Mem) : Option (Unit × Mem) :=
  if (8 : Int32) ≤ x2 then
    some ((), M)
  else
    X6_joinHomes_l25 i0 i1 k9 FU x2 ((1 : Int32) <<< (x2 &&& 31)) (0 : Int32) (0 : Int32) M
def X6_joinHomes_l9 (i0 : Nat) (i1 : Nat)  : Nat → Int32 → Mem → Option (Unit × Mem)
  | 0 => fun _ _ => none
  | n + 1 => X6_joinHomes_b9 i0 i1 (X6_joinHomes_l9 i0 i1  n)
def X6_joinHomes (i0 : Nat) (i1 : Nat)   (M : Mem) : Option (Unit × Mem) :=
  gd (ib (0 : Int32) 256) (
    X6_joinHomes_l9 i0 i1  FU (0 : Int32) (mI M (rf i0 0) (0 : Int32).toNatClampNeg (0 : Int32)))
set_option maxHeartbeats 4000000 in
set_option maxRecDepth 100000 in
theorem t_X6_joinHomes_b55 {X : Scr} {i0 : Nat} {i1 : Nat} (h0 : KD[i0]? = some (.inl 6)) (h1 : KD[i1]? = some (.inl 0)) {k9 : Int32 → Mem → Option (Unit × Mem)} (hk9 : ∀ (x2 : Int32) (M : Mem), T X eV (k9 x2 M) md_X6_joinHomes 9 [(0, .ref i0), (1, .ref i1), (2, .int x2)] [] M) {k25 : Int32 → Int32 → Int32 → Int32 → Mem → Option (Unit × Mem)} (hk25 : ∀ (x2 : Int32) (x3 : Int32) (x4 : Int32) (x5 : Int32) (M : Mem), T X eV (k25 x2 x3 x4 x5 M) md_X6_joinHomes 25 [(0, .ref i0), (1, .ref i1), (2, .int x2), (3, .int x3), (4, .int x4), (5, .int x5)] [] M) (x2 : Int32) (x3 : Int32) (x4 : Int32) (x5 : Int32) (M : Mem) : T X eV (X6_joinHomes_b55 i0 i1 k9 k25 x2 x3 x4 x5 M) md_X6_joinHomes 55 [(0, .ref i0), (1, .ref i1), (2, .int x2), (3, .int x3), (4, .int x4), (5, .int x5)] [] M := by
  unfold X6_joinHomes_b55
  refine T_iinc 5 [(5, .int (x5 + (1 : Int32))), (0, .ref i0), (1, .ref i1), (2, .int x2), (3, .int x3), (4, .int x4)] (v := (1 : Int32)) dX6_joinHomes_55 rfl (by decide) (by decide) rfl ?_
  refine T_goto 25 dX6_joinHomes_58 (by decide) ?_
  refine T_sub [1, 2, 3, 4, 5, 0] (lv' := [(0, .ref i0), (1, .ref i1), (2, .int x2), (3, .int x3), (4, .int x4), (5, .int (x5 + (1 : Int32)))]) rfl ?_
  exact hk25 _ _ _ _ _
set_option maxHeartbeats 4000000 in
set_option maxRecDepth 100000 in
theorem t_X6_joinHomes_b64 {X : Scr} {i0 : Nat} {i1 : Nat} (h0 : KD[i0]? = some (.inl 6)) (h1 : KD[i1]? = some (.inl 0)) {k9 : Int32 → Mem → Option (Unit × Mem)} (hk9 : ∀ (x2 : Int32) (M : Mem), T X eV (k9 x2 M) md_X6_joinHomes 9 [(0, .ref i0), (1, .ref i1), (2, .int x2)] [] M) {k64 : Int32 → Int32 → Int32 → Int32 → Mem → Option (Unit × Mem)} (hk64 : ∀ (x2 : Int32) (x3 : Int32) (x4 : Int32) (x5 : Int32) (M : Mem), T X eV (k64 x2 x3 x4 x5 M) md_X6_joinHomes 64 [(0, .ref i0), (1, .ref i1), (2, .int x2), (3, .int x3), (4, .int x4), (5, .int x5)] [] M) (x2 : Int32) (x3 : Int32) (x4 : Int32) (x5 : Int32) (M : Mem) : T X eV (X6_joinHomes_b64 i0 i1 k9 k64 x2 x3 x4 x5 M) md_X6_joinHomes 64 [(0, .ref i0), (1, .ref i1), (2, .int x2), (3, .int x3), (4, .int x4), (5, .int x5)] [] M := by
  unfold X6_joinHomes_b64
  refine T_iload 5 dX6_joinHomes_64 rfl ?_
  refine T_iload_n 3 dX6_joinHomes_66 rfl rfl ?_
  refine T_icmp_ge 95 dX6_joinHomes_67 (by decide) ?_ ?_
  ·
    refine T_iinc 2 [(2, .int (x2 + (1 : Int32))), (0, .ref i0), (1, .ref i1), (3, .int x3), (4, .int x4), (5, .int x5)] (v := (1 : Int32)) dX6_joinHomes_95 rfl (by decide) (by decide) rfl ?_
    refine T_goto 9 dX6_joinHomes_98 (by decide) ?_
    refine T_sub [1, 2, 0] (lv' := [(0, .ref i0), (1, .ref i1), (2, .int (x2 + (1 : Int32)))]) rfl ?_
    exact hk9 _ _
  ·
    refine T_aload_n 0 dX6_joinHomes_70 rfl rfl ?_
    refine T_getR 0 FOk_6 h0 (by decide) (by decide) dX6_joinHomes_71 tb_236 ?_
    refine T_iload_n 3 dX6_joinHomes_74 rfl rfl ?_
    refine T_iload 5 dX6_joinHomes_75 rfl ?_
    refine T_ior dX6_joinHomes_77 ?_
    refine T_aload_n 0 dX6_joinHomes_78 rfl rfl ?_
    refine T_getR 0 FOk_6 h0 (by decide) (by decide) dX6_joinHomes_79 tb_236 ?_
    refine T_iload 5 dX6_joinHomes_82 rfl ?_
    refine T_iald (kf_6_0 h0) dX6_joinHomes_84 ?_
    refine T_iload 4 dX6_joinHomes_85 rfl ?_
    refine T_ior dX6_joinHomes_87 ?_
    refine T_iast (kf_6_0 h0) dX6_joinHomes_88 ?_
    refine T_iinc 5 [(5, .int (x5 + (1 : Int32))), (0, .ref i0), (1, .ref i1), (2, .int x2), (3, .int x3), (4, .int x4)] (v := (1 : Int32)) dX6_joinHomes_89 rfl (by decide) (by decide) rfl ?_
    refine T_goto 64 dX6_joinHomes_92 (by decide) ?_
    refine T_sub [1, 2, 3, 4, 5, 0] (lv' := [(0, .ref i0), (1, .ref i1), (2, .int x2), (3, .int x3), (4, .int x4), (5, .int (x5 + (1 : Int32)))]) rfl ?_
    exact hk64 _ _ _ _ _
theorem t_X6_joinHomes_l64 {X : Scr} {i0 : Nat} {i1 : Nat} (h0 : KD[i0]? = some (.inl 6)) (h1 : KD[i1]? = some (.inl 0)) {k9 : Int32 → Mem → Option (Unit × Mem)} (hk9 : ∀ (x2 : Int32) (M : Mem), T X eV (k9 x2 M) md_X6_joinHomes 9 [(0, .ref i0), (1, .ref i1), (2, .int x2)] [] M) (n : Nat) : ∀ (x2 : Int32) (x3 : Int32) (x4 : Int32) (x5 : Int32) (M : Mem), T X eV (X6_joinHomes_l64 i0 i1 k9 n x2 x3 x4 x5 M) md_X6_joinHomes 64 [(0, .ref i0), (1, .ref i1), (2, .int x2), (3, .int x3), (4, .int x4), (5, .int x5)] [] M := by
  induction n with
  | zero => intro x2 x3 x4 x5 M; exact T_none
  | succ n ih => intro x2 x3 x4 x5 M; exact t_X6_joinHomes_b64 h0 h1 hk9 ih x2 x3 x4 x5 M
set_option maxHeartbeats 4000000 in
set_option maxRecDepth 100000 in
theorem t_X6_joinHomes_b25 {X : Scr} {i0 : Nat} {i1 : Nat} (h0 : KD[i0]? = some (.inl 6)) (h1 : KD[i1]? = some (.inl 0)) {k9 : Int32 → Mem → Option (Unit × Mem)} (hk9 : ∀ (x2 : Int32) (M : Mem), T X eV (k9 x2 M) md_X6_joinHomes 9 [(0, .ref i0), (1, .ref i1), (2, .int x2)] [] M) {k25 : Int32 → Int32 → Int32 → Int32 → Mem → Option (Unit × Mem)} (hk25 : ∀ (x2 : Int32) (x3 : Int32) (x4 : Int32) (x5 : Int32) (M : Mem), T X eV (k25 x2 x3 x4 x5 M) md_X6_joinHomes 25 [(0, .ref i0), (1, .ref i1), (2, .int x2), (3, .int x3), (4, .int x4), (5, .int x5)] [] M) (x2 : Int32) (x3 : Int32) (x4 : Int32) (x5 : Int32) (M : Mem) : T X eV (X6_joinHomes_b25 i0 i1 k9 k25 x2 x3 x4 x5 M) md_X6_joinHomes 25 [(0, .ref i0), (1, .ref i1), (2, .int x2), (3, .int x3), (4, .int x4), (5, .int x5)] [] M := by
  unfold X6_joinHomes_b25
  refine T_iload 5 dX6_joinHomes_25 rfl ?_
  refine T_bipush (v := (10 : Int32)) (by decide) dX6_joinHomes_27 ?_
  refine T_icmp_ge 61 dX6_joinHomes_29 (by decide) ?_ ?_
  ·
    refine T_iconst (v := (0 : Int32)) (by decide) dX6_joinHomes_61 ?_
    refine T_istore [(5, .int (0 : Int32)), (0, .ref i0), (1, .ref i1), (2, .int x2), (3, .int x3), (4, .int x4)] dX6_joinHomes_62 (by decide) rfl ?_
    refine T_sub [1, 2, 3, 4, 5, 0] (lv' := [(0, .ref i0), (1, .ref i1), (2, .int x2), (3, .int x3), (4, .int x4), (5, .int (0 : Int32))]) rfl ?_
    exact t_X6_joinHomes_l64 h0 h1 hk9 _ _ _ _ _ _
  ·
    refine T_aload_n 1 dX6_joinHomes_32 rfl rfl ?_
    refine T_getR 1 FOk_0 h1 (by decide) (by decide) dX6_joinHomes_33 tb_80 ?_
    refine T_iload 5 dX6_joinHomes_36 rfl ?_
    refine T_iald (kf_0_1 h1) dX6_joinHomes_38 ?_
    refine T_iload_n 2 dX6_joinHomes_39 rfl rfl ?_
    refine T_callSNI md_X11_isIn [.int (M.1 (rf i1 1) x5.toNatClampNeg), .int x2] [] dX6_joinHomes_40 rfl ok_X11_isIn tb_560 tb_474 (by decide) (Nat.le_of_ble_eq_true rfl) (fun _ _ h9 => C_X11_isIn  _ _ h9) (fun r1 M1 => ?_)
    dsimp only
    refine T_if_eq 55 dX6_joinHomes_43 (by decide) ?_ ?_
    ·
      exact t_X6_joinHomes_b55 h0 h1 hk9 hk25 _ _ _ _ _
    ·
      refine T_iload 4 dX6_joinHomes_46 rfl ?_
      refine T_iconst (v := (1 : Int32)) (by decide) dX6_joinHomes_48 ?_
      refine T_iload 5 dX6_joinHomes_49 rfl ?_
      refine T_ishl dX6_joinHomes_51 ?_
      refine T_ior dX6_joinHomes_52 ?_
      refine T_iw (fun v2 => ?_)
      try dsimp only
      refine T_istore [(4, .int v2), (0, .ref i0), (1, .ref i1), (2, .int x2), (3, .int x3), (5, .int x5)] dX6_joinHomes_53 (by decide) rfl ?_
      refine T_sub [1, 2, 3, 4, 0, 5] (lv' := [(0, .ref i0), (1, .ref i1), (2, .int x2), (3, .int x3), (4, .int v2), (5, .int x5)]) rfl ?_
      exact t_X6_joinHomes_b55 h0 h1 hk9 hk25 _ _ _ _ _
theorem t_X6_joinHomes_l25 {X : Scr} {i0 : Nat} {i1 : Nat} (h0 : KD[i0]? = some (.inl 6)) (h1 : KD[i1]? = some (.inl 0)) {k9 : Int32 → Mem → Option (Unit × Mem)} (hk9 : ∀ (x2 : Int32) (M : Mem), T X eV (k9 x2 M) md_X6_joinHomes 9 [(0, .ref i0), (1, .ref i1), (2, .int x2)] [] M) (n : Nat) : ∀ (x2 : Int32) (x3 : Int32) (x4 : Int32) (x5 : Int32) (M : Mem), T X eV (X6_joinHomes_l25 i0 i1 k9 n x2 x3 x4 x5 M) md_X6_joinHomes 25 [(0, .ref i0), (1, .ref i1), (2, .int x2), (3, .int x3), (4, .int x4), (5, .int x5)] [] M := by
  induction n with
  | zero => intro x2 x3 x4 x5 M; exact T_none
  | succ n ih => intro x2 x3 x4 x5 M; exact t_X6_joinHomes_b25 h0 h1 hk9 ih x2 x3 x4 x5 M
set_option maxHeartbeats 4000000 in
set_option maxRecDepth 100000 in
theorem t_X6_joinHomes_b9 {X : Scr} {i0 : Nat} {i1 : Nat} (h0 : KD[i0]? = some (.inl 6)) (h1 : KD[i1]? = some (.inl 0)) {k9 : Int32 → Mem → Option (Unit × Mem)} (hk9 : ∀ (x2 : Int32) (M : Mem), T X eV (k9 x2 M) md_X6_joinHomes 9 [(0, .ref i0), (1, .ref i1), (2, .int x2)] [] M) (x2 : Int32) (M : Mem) : T X eV (X6_joinHomes_b9 i0 i1 k9 x2 M) md_X6_joinHomes 9 [(0, .ref i0), (1, .ref i1), (2, .int x2)] [] M := by
  unfold X6_joinHomes_b9
  refine T_iload_n 2 dX6_joinHomes_9 rfl rfl ?_
  refine T_bipush (v := (8 : Int32)) (by decide) dX6_joinHomes_10 ?_
  refine T_icmp_ge 101 dX6_joinHomes_12 (by decide) ?_ ?_
  ·
    exact T_vret dX6_joinHomes_101 rfl
  ·
    refine T_iconst (v := (1 : Int32)) (by decide) dX6_joinHomes_15 ?_
    refine T_iload_n 2 dX6_joinHomes_16 rfl rfl ?_
    refine T_ishl dX6_joinHomes_17 ?_
    refine T_istore_n [(3, .int ((1 : Int32) <<< (x2 &&& 31))), (0, .ref i0), (1, .ref i1), (2, .int x2)] dX6_joinHomes_18 rfl (by decide) rfl ?_
    refine T_iconst (v := (0 : Int32)) (by decide) dX6_joinHomes_19 ?_
    refine T_istore [(4, .int (0 : Int32)), (3, .int ((1 : Int32) <<< (x2 &&& 31))), (0, .ref i0), (1, .ref i1), (2, .int x2)] dX6_joinHomes_20 (by decide) rfl ?_
    refine T_iconst (v := (0 : Int32)) (by decide) dX6_joinHomes_22 ?_
    refine T_istore [(5, .int (0 : Int32)), (4, .int (0 : Int32)), (3, .int ((1 : Int32) <<< (x2 &&& 31))), (0, .ref i0), (1, .ref i1), (2, .int x2)] dX6_joinHomes_23 (by decide) rfl ?_
    refine T_sub [3, 4, 5, 2, 1, 0] (lv' := [(0, .ref i0), (1, .ref i1), (2, .int x2), (3, .int ((1 : Int32) <<< (x2 &&& 31))), (4, .int (0 : Int32)), (5, .int (0 : Int32))]) rfl ?_
    exact t_X6_joinHomes_l25 h0 h1 hk9 _ _ _ _ _ _
theorem t_X6_joinHomes_l9 {X : Scr} {i0 : Nat} {i1 : Nat} (h0 : KD[i0]? = some (.inl 6)) (h1 : KD[i1]? = some (.inl 0)) (n : Nat) : ∀ (x2 : Int32) (M : Mem), T X eV (X6_joinHomes_l9 i0 i1  n x2 M) md_X6_joinHomes 9 [(0, .ref i0), (1, .ref i1), (2, .int x2)] [] M := by
  induction n with
  | zero => intro x2 M; exact T_none
  | succ n ih => intro x2 M; exact t_X6_joinHomes_b9 h0 h1 ih x2 M
set_option maxHeartbeats 4000000 in
set_option maxRecDepth 100000 in
theorem t_X6_joinHomes {X : Scr} {i0 : Nat} {i1 : Nat} (h0 : KD[i0]? = some (.inl 6)) (h1 : KD[i1]? = some (.inl 0))  (M : Mem) : T X eV (X6_joinHomes i0 i1   M) md_X6_joinHomes 0 [(0, .ref i0), (1, .ref i1)] [] M := by
  unfold X6_joinHomes
  refine T_aload_n 0 dX6_joinHomes_0 rfl rfl ?_
  refine T_getR 0 FOk_6 h0 (by decide) (by decide) dX6_joinHomes_1 tb_236 ?_
  refine T_iconst (v := (0 : Int32)) (by decide) dX6_joinHomes_4 ?_
  refine T_iconst (v := (0 : Int32)) (by decide) dX6_joinHomes_5 ?_
  refine T_iast (kf_6_0 h0) dX6_joinHomes_6 ?_
  refine T_iconst (v := (0 : Int32)) (by decide) dX6_joinHomes_7 ?_
  refine T_istore_n [(2, .int (0 : Int32)), (0, .ref i0), (1, .ref i1)] dX6_joinHomes_8 rfl (by decide) rfl ?_
  refine T_sub [1, 2, 0] (lv' := [(0, .ref i0), (1, .ref i1), (2, .int (0 : Int32))]) rfl ?_
  exact t_X6_joinHomes_l9 h0 h1  _ _ _
theorem C_X6_joinHomes {X : Scr} {i0 : Nat} {i1 : Nat} (h0 : KD[i0]? = some (.inl 6)) (h1 : KD[i1]? = some (.inl 0))  {M : Mem} {r : Unit} {M' : Mem} (h : X6_joinHomes i0 i1  M = some (r, M')) : Ct X md_X6_joinHomes [.ref i0, .ref i1] M (eV r) M' := Ct_of (by decide +kernel) (Nat.le_of_ble_eq_true rfl) (t_X6_joinHomes h0 h1  M) r M' h
-- X6_mostAtOnce
def X6_mostAtOnce_b8 (i0 : Nat) (k8 : Int32 → Int32 → Int32 → Int32 → Mem → Option (Int32 × Mem)) (x1 : Int32) (x2 : Int32) (x3 : Int32) (x4 : Int32) (M : Mem) : Option (Int32 × Mem) :=
  if x4 ≤ 0 then
    some (x3, M)
  else
    (J6_bitCount_0f7a4  (x1 &&& (x4 ^^^ (-1 : Int32))) M).bind (fun p1 =>
      gd (ib x4 256) (
        (J6_bitCount_0f7a4  ((p1.2.1 (rf i0 0) x4.toNatClampNeg) &&& x2) p1.2).bind (fun p2 =>
          (J9_min_7cf53  x3 (p1.1 + p2.1) p2.2).bind (fun p3 =>
            k8 x1 x2 p3.1 ((x4 - (1 : Int32)) &&& x1) p3.2))))
def X6_mostAtOnce_l8 (i0 : Nat)  : Nat → Int32 → Int32 → Int32 → Int32 → Mem → Option (Int32 × Mem)
  | 0 => fun _ _ _ _ _ => none
  | n + 1 => X6_mostAtOnce_b8 i0 (X6_mostAtOnce_l8 i0  n)
def X6_mostAtOnce (i0 : Nat)  (x1 : Int32) (x2 : Int32) (M : Mem) : Option (Int32 × Mem) :=
  (J6_bitCount_0f7a4  x1 M).bind (fun p1 =>
    X6_mostAtOnce_l8 i0  FU x1 x2 p1.1 x1 p1.2)
set_option maxHeartbeats 4000000 in
set_option maxRecDepth 100000 in
theorem t_X6_mostAtOnce_b8 {X : Scr} {i0 : Nat} (h0 : KD[i0]? = some (.inl 6)) {k8 : Int32 → Int32 → Int32 → Int32 → Mem → Option (Int32 × Mem)} (hk8 : ∀ (x1 : Int32) (x2 : Int32) (x3 : Int32) (x4 : Int32) (M : Mem), T X eI (k8 x1 x2 x3 x4 M) md_X6_mostAtOnce 8 [(0, .ref i0), (1, .int x1), (2, .int x2), (3, .int x3), (4, .int x4)] [] M) (x1 : Int32) (x2 : Int32) (x3 : Int32) (x4 : Int32) (M : Mem) : T X eI (X6_mostAtOnce_b8 i0 k8 x1 x2 x3 x4 M) md_X6_mostAtOnce 8 [(0, .ref i0), (1, .int x1), (2, .int x2), (3, .int x3), (4, .int x4)] [] M := by
  unfold X6_mostAtOnce_b8
  refine T_iload 4 dX6_mostAtOnce_8 rfl ?_
  refine T_if_le 55 dX6_mostAtOnce_10 (by decide) ?_ ?_
  ·
    refine T_iload_n 3 dX6_mostAtOnce_55 rfl rfl ?_
    exact T_iret dX6_mostAtOnce_56 rfl
  ·
    refine T_iload_n 1 dX6_mostAtOnce_13 rfl rfl ?_
    refine T_iload 4 dX6_mostAtOnce_14 rfl ?_
    refine T_iconst (v := (-1 : Int32)) (by decide) dX6_mostAtOnce_16 ?_
    refine T_ixor dX6_mostAtOnce_17 ?_
    refine T_iand dX6_mostAtOnce_18 ?_
    refine T_callSI md_J6_bitCount_0f7a4 [.int (x1 &&& (x4 ^^^ (-1 : Int32)))] [] dX6_mostAtOnce_19 rfl ok_J6_bitCount_0f7a4 tb_565 tb_525 (by decide) (Nat.le_of_ble_eq_true rfl) (fun _ _ h9 => C_J6_bitCount_0f7a4  _ h9) (fun r1 M1 => ?_)
    dsimp only
    refine T_aload_n 0 dX6_mostAtOnce_22 rfl rfl ?_
    refine T_getR 0 FOk_6 h0 (by decide) (by decide) dX6_mostAtOnce_23 tb_236 ?_
    refine T_iload 4 dX6_mostAtOnce_26 rfl ?_
    refine T_iald (kf_6_0 h0) dX6_mostAtOnce_28 ?_
    refine T_iload_n 2 dX6_mostAtOnce_29 rfl rfl ?_
    refine T_iand dX6_mostAtOnce_30 ?_
    refine T_callSI md_J6_bitCount_0f7a4 [.int ((M1.1 (rf i0 0) x4.toNatClampNeg) &&& x2)] [.int r1] dX6_mostAtOnce_31 rfl ok_J6_bitCount_0f7a4 tb_565 tb_525 (by decide) (Nat.le_of_ble_eq_true rfl) (fun _ _ h9 => C_J6_bitCount_0f7a4  _ h9) (fun r2 M2 => ?_)
    dsimp only
    refine T_iadd dX6_mostAtOnce_34 ?_
    refine T_istore [(5, .int (r1 + r2)), (0, .ref i0), (1, .int x1), (2, .int x2), (3, .int x3), (4, .int x4)] dX6_mostAtOnce_35 (by decide) rfl ?_
    refine T_iload_n 4 dX6_mostAtOnce_37 rfl rfl ?_
    refine T_iload 0 dX6_mostAtOnce_38 rfl ?_
    refine T_callSI md_J9_min_7cf53 [.int x3, .int (r1 + r2)] [] dX6_mostAtOnce_40 rfl ok_J9_min_7cf53 tb_566 tb_478 (by decide) (Nat.le_of_ble_eq_true rfl) (fun _ _ h9 => C_J9_min_7cf53  _ _ h9) (fun r3 M3 => ?_)
    dsimp only
    refine T_istore_n [(3, .int r3), (5, .int (r1 + r2)), (0, .ref i0), (1, .int x1), (2, .int x2), (4, .int x4)] dX6_mostAtOnce_43 rfl (by decide) rfl ?_
    refine T_iload 5 dX6_mostAtOnce_44 rfl ?_
    refine T_iconst (v := (1 : Int32)) (by decide) dX6_mostAtOnce_46 ?_
    refine T_isub dX6_mostAtOnce_47 ?_
    refine T_iload_n 3 dX6_mostAtOnce_48 rfl rfl ?_
    refine T_iand dX6_mostAtOnce_49 ?_
    refine T_istore [(4, .int ((x4 - (1 : Int32)) &&& x1)), (3, .int r3), (5, .int (r1 + r2)), (0, .ref i0), (1, .int x1), (2, .int x2)] dX6_mostAtOnce_50 (by decide) rfl ?_
    refine T_goto 8 dX6_mostAtOnce_52 (by decide) ?_
    refine T_sub [3, 4, 5, 1, 0] (lv' := [(0, .ref i0), (1, .int x1), (2, .int x2), (3, .int r3), (4, .int ((x4 - (1 : Int32)) &&& x1))]) rfl ?_
    exact hk8 _ _ _ _ _
theorem t_X6_mostAtOnce_l8 {X : Scr} {i0 : Nat} (h0 : KD[i0]? = some (.inl 6)) (n : Nat) : ∀ (x1 : Int32) (x2 : Int32) (x3 : Int32) (x4 : Int32) (M : Mem), T X eI (X6_mostAtOnce_l8 i0  n x1 x2 x3 x4 M) md_X6_mostAtOnce 8 [(0, .ref i0), (1, .int x1), (2, .int x2), (3, .int x3), (4, .int x4)] [] M := by
  induction n with
  | zero => intro x1 x2 x3 x4 M; exact T_none
  | succ n ih => intro x1 x2 x3 x4 M; exact t_X6_mostAtOnce_b8 h0 ih x1 x2 x3 x4 M
set_option maxHeartbeats 4000000 in
set_option maxRecDepth 100000 in
theorem t_X6_mostAtOnce {X : Scr} {i0 : Nat} (h0 : KD[i0]? = some (.inl 6)) (x1 : Int32) (x2 : Int32) (M : Mem) : T X eI (X6_mostAtOnce i0  x1 x2 M) md_X6_mostAtOnce 0 [(0, .ref i0), (1, .int x1), (2, .int x2)] [] M := by
  unfold X6_mostAtOnce
  refine T_iload_n 1 dX6_mostAtOnce_0 rfl rfl ?_
  refine T_callSI md_J6_bitCount_0f7a4 [.int x1] [] dX6_mostAtOnce_1 rfl ok_J6_bitCount_0f7a4 tb_565 tb_525 (by decide) (Nat.le_of_ble_eq_true rfl) (fun _ _ h9 => C_J6_bitCount_0f7a4  _ h9) (fun r1 M1 => ?_)
  dsimp only
  refine T_istore_n [(3, .int r1), (0, .ref i0), (1, .int x1), (2, .int x2)] dX6_mostAtOnce_4 rfl (by decide) rfl ?_
  refine T_iload_n 2 dX6_mostAtOnce_5 rfl rfl ?_
  refine T_istore [(4, .int x1), (3, .int r1), (0, .ref i0), (1, .int x1), (2, .int x2)] dX6_mostAtOnce_6 (by decide) rfl ?_
  refine T_sub [2, 3, 4, 1, 0] (lv' := [(0, .ref i0), (1, .int x1), (2, .int x2), (3, .int r1), (4, .int x1)]) rfl ?_
  exact t_X6_mostAtOnce_l8 h0  _ _ _ _ _ _
theorem C_X6_mostAtOnce {X : Scr} {i0 : Nat} (h0 : KD[i0]? = some (.inl 6)) (x1 : Int32) (x2 : Int32) {M : Mem} {r : Int32} {M' : Mem} (h : X6_mostAtOnce i0 x1 x2 M = some (r, M')) : Ct X md_X6_mostAtOnce [.ref i0, .int x1, .int x2] M (eI r) M' := Ct_of (by decide +kernel) (Nat.le_of_ble_eq_true rfl) (t_X6_mostAtOnce h0 _ _ M) r M' h
-- X6_leastBasket
def X6_leastBasket_b42 (i0 : Nat) (k3 : Int32 → Int32 → Int32 → Int32 → Int32 → Mem → Option (Int32 × Mem)) (x1 : Int32) (x2 : Int32) (x3 : Int32) (x4 : Int32) (x5 : Int32) (M : Mem) : Option (Int32 × Mem) :=
  k3 x1 x2 x3 x4 (x5 + (1 : Int32)) M
def X6_leastBasket_b3 (i0 : Nat) (k3 : Int32 → Int32 → Int32 → Int32 → Int32 → Mem → Option (Int32 × Mem)) (x1 : Int32) (x2 : Int32) (x3 : Int32) (x4 : Int32) (x5 : Int32) (M : Mem) : Option (Int32 × Mem) :=
  if (10 : Int32) ≤ x5 then
    some ((-6 : Int32), M)
  else
    (X11_isIn  x1 x5 M).bind (fun p1 =>
      if p1.1 = 0 then
        X6_leastBasket_b42 i0 k3 x1 x2 x3 x4 x5 p1.2
      else
        (X6_mostAtOnce i0 x2 (x3 &&& (((1 : Int32) <<< (x5 &&& 31)) ^^^ (-1 : Int32))) p1.2).bind (fun p2 =>
          if (p2.1 + (1 : Int32)) = x4 then
            some (x5, p2.2)
          else
            X6_leastBasket_b42 i0 k3 x1 x2 x3 x4 x5 p2.2))
def X6_leastBasket_l3 (i0 : Nat)  : Nat → Int32 → Int32 → Int32 → Int32 → Int32 → Mem → Option (Int32 × Mem)
  | 0 => fun _ _ _ _ _ _ => none
  | n + 1 => X6_leastBasket_b3 i0 (X6_leastBasket_l3 i0  n)
def X6_leastBasket (i0 : Nat)  (x1 : Int32) (x2 : Int32) (x3 : Int32) (x4 : Int32) (M : Mem) : Option (Int32 × Mem) :=
  X6_leastBasket_l3 i0  FU x1 x2 x3 x4 (0 : Int32) M
set_option maxHeartbeats 4000000 in
set_option maxRecDepth 100000 in
theorem t_X6_leastBasket_b42 {X : Scr} {i0 : Nat} (h0 : KD[i0]? = some (.inl 6)) {k3 : Int32 → Int32 → Int32 → Int32 → Int32 → Mem → Option (Int32 × Mem)} (hk3 : ∀ (x1 : Int32) (x2 : Int32) (x3 : Int32) (x4 : Int32) (x5 : Int32) (M : Mem), T X eI (k3 x1 x2 x3 x4 x5 M) md_X6_leastBasket 3 [(0, .ref i0), (1, .int x1), (2, .int x2), (3, .int x3), (4, .int x4), (5, .int x5)] [] M) (x1 : Int32) (x2 : Int32) (x3 : Int32) (x4 : Int32) (x5 : Int32) (M : Mem) : T X eI (X6_leastBasket_b42 i0 k3 x1 x2 x3 x4 x5 M) md_X6_leastBasket 42 [(0, .ref i0), (1, .int x1), (2, .int x2), (3, .int x3), (4, .int x4), (5, .int x5)] [] M := by
  unfold X6_leastBasket_b42
  refine T_iinc 5 [(5, .int (x5 + (1 : Int32))), (0, .ref i0), (1, .int x1), (2, .int x2), (3, .int x3), (4, .int x4)] (v := (1 : Int32)) dX6_leastBasket_42 rfl (by decide) (by decide) rfl ?_
  refine T_goto 3 dX6_leastBasket_45 (by decide) ?_
  refine T_sub [1, 2, 3, 4, 5, 0] (lv' := [(0, .ref i0), (1, .int x1), (2, .int x2), (3, .int x3), (4, .int x4), (5, .int (x5 + (1 : Int32)))]) rfl ?_
  exact hk3 _ _ _ _ _ _
set_option maxHeartbeats 4000000 in
set_option maxRecDepth 100000 in
theorem t_X6_leastBasket_b3 {X : Scr} {i0 : Nat} (h0 : KD[i0]? = some (.inl 6)) {k3 : Int32 → Int32 → Int32 → Int32 → Int32 → Mem → Option (Int32 × Mem)} (hk3 : ∀ (x1 : Int32) (x2 : Int32) (x3 : Int32) (x4 : Int32) (x5 : Int32) (M : Mem), T X eI (k3 x1 x2 x3 x4 x5 M) md_X6_leastBasket 3 [(0, .ref i0), (1, .int x1), (2, .int x2), (3, .int x3), (4, .int x4), (5, .int x5)] [] M) (x1 : Int32) (x2 : Int32) (x3 : Int32) (x4 : Int32) (x5 : Int32) (M : Mem) : T X eI (X6_leastBasket_b3 i0 k3 x1 x2 x3 x4 x5 M) md_X6_leastBasket 3 [(0, .ref i0), (1, .int x1), (2, .int x2), (3, .int x3), (4, .int x4), (5, .int x5)] [] M := by
  unfold X6_leastBasket_b3
  refine T_iload 5 dX6_leastBasket_3 rfl ?_
  refine T_bipush (v := (10 : Int32)) (by decide) dX6_leastBasket_5 ?_
  refine T_icmp_ge 48 dX6_leastBasket_7 (by decide) ?_ ?_
  ·
    refine T_bipush (v := (-6 : Int32)) (by decide) dX6_leastBasket_48 ?_
    exact T_iret dX6_leastBasket_50 rfl
  ·
    refine T_iload_n 1 dX6_leastBasket_10 rfl rfl ?_
    refine T_iload 5 dX6_leastBasket_11 rfl ?_
    refine T_callSNI md_X11_isIn [.int x1, .int x5] [] dX6_leastBasket_13 rfl ok_X11_isIn tb_560 tb_474 (by decide) (Nat.le_of_ble_eq_true rfl) (fun _ _ h9 => C_X11_isIn  _ _ h9) (fun r1 M1 => ?_)
    dsimp only
    refine T_if_eq 42 dX6_leastBasket_16 (by decide) ?_ ?_
    ·
      exact t_X6_leastBasket_b42 h0 hk3 _ _ _ _ _ _
    ·
      refine T_aload_n 0 dX6_leastBasket_19 rfl rfl ?_
      refine T_iload_n 2 dX6_leastBasket_20 rfl rfl ?_
      refine T_iload_n 3 dX6_leastBasket_21 rfl rfl ?_
      refine T_iconst (v := (1 : Int32)) (by decide) dX6_leastBasket_22 ?_
      refine T_iload 5 dX6_leastBasket_23 rfl ?_
      refine T_ishl dX6_leastBasket_25 ?_
      refine T_iconst (v := (-1 : Int32)) (by decide) dX6_leastBasket_26 ?_
      refine T_ixor dX6_leastBasket_27 ?_
      refine T_iand dX6_leastBasket_28 ?_
      refine T_callVI md_X6_mostAtOnce [.int x2, .int (x3 &&& (((1 : Int32) <<< (x5 &&& 31)) ^^^ (-1 : Int32)))] [] dX6_leastBasket_29 h0 rfl rfl ok_X6_mostAtOnce tb_561 tb_563 tb_8 (by decide) (Nat.le_of_ble_eq_true rfl) (fun _ _ h9 => C_X6_mostAtOnce h0 _ _ h9) (fun r2 M2 => ?_)
      dsimp only
      refine T_iconst (v := (1 : Int32)) (by decide) dX6_leastBasket_32 ?_
      refine T_iadd dX6_leastBasket_33 ?_
      refine T_iload 4 dX6_leastBasket_34 rfl ?_
      refine T_icmp_ne 42 dX6_leastBasket_36 (by decide) ?_ ?_
      ·
        refine T_iload 5 dX6_leastBasket_39 rfl ?_
        exact T_iret dX6_leastBasket_41 rfl
      ·
        exact t_X6_leastBasket_b42 h0 hk3 _ _ _ _ _ _
theorem t_X6_leastBasket_l3 {X : Scr} {i0 : Nat} (h0 : KD[i0]? = some (.inl 6)) (n : Nat) : ∀ (x1 : Int32) (x2 : Int32) (x3 : Int32) (x4 : Int32) (x5 : Int32) (M : Mem), T X eI (X6_leastBasket_l3 i0  n x1 x2 x3 x4 x5 M) md_X6_leastBasket 3 [(0, .ref i0), (1, .int x1), (2, .int x2), (3, .int x3), (4, .int x4), (5, .int x5)] [] M := by
  induction n with
  | zero => intro x1 x2 x3 x4 x5 M; exact T_none
  | succ n ih => intro x1 x2 x3 x4 x5 M; exact t_X6_leastBasket_b3 h0 ih x1 x2 x3 x4 x5 M
set_option maxHeartbeats 4000000 in
set_option maxRecDepth 100000 in
theorem t_X6_leastBasket {X : Scr} {i0 : Nat} (h0 : KD[i0]? = some (.inl 6)) (x1 : Int32) (x2 : Int32) (x3 : Int32) (x4 : Int32) (M : Mem) : T X eI (X6_leastBasket i0  x1 x2 x3 x4 M) md_X6_leastBasket 0 [(0, .ref i0), (1, .int x1), (2, .int x2), (3, .int x3), (4, .int x4)] [] M := by
  unfold X6_leastBasket
  refine T_iconst (v := (0 : Int32)) (by decide) dX6_leastBasket_0 ?_
  refine T_istore [(5, .int (0 : Int32)), (0, .ref i0), (1, .int x1), (2, .int x2), (3, .int x3), (4, .int x4)] dX6_leastBasket_1 (by decide) rfl ?_
  refine T_sub [1, 2, 3, 4, 5, 0] (lv' := [(0, .ref i0), (1, .int x1), (2, .int x2), (3, .int x3), (4, .int x4), (5, .int (0 : Int32))]) rfl ?_
  exact t_X6_leastBasket_l3 h0  _ _ _ _ _ _ _
theorem C_X6_leastBasket {X : Scr} {i0 : Nat} (h0 : KD[i0]? = some (.inl 6)) (x1 : Int32) (x2 : Int32) (x3 : Int32) (x4 : Int32) {M : Mem} {r : Int32} {M' : Mem} (h : X6_leastBasket i0 x1 x2 x3 x4 M = some (r, M')) : Ct X md_X6_leastBasket [.ref i0, .int x1, .int x2, .int x3, .int x4] M (eI r) M' := Ct_of (by decide +kernel) (Nat.le_of_ble_eq_true rfl) (t_X6_leastBasket h0 _ _ _ _ M) r M' h
