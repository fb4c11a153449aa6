-- X0_takeOver
def X0_takeOver (i0 : Nat) (i1 : Nat)   (M : Mem) : Option (Unit × Mem) :=
  mw (mR M (rf i0 0) (va_cpy (M.1 (rf i1 0)) (M.1 (rf i0 0)) 0 0 10)) (fun N1 =>
    mw (mR N1 (rf i0 1) (va_cpy (N1.1 (rf i1 1)) (N1.1 (rf i0 1)) 0 0 10)) (fun N2 =>
      mw (mR N2 (rf i0 2) (va_cpy (N2.1 (rf i1 2)) (N2.1 (rf i0 2)) 0 0 10)) (fun N3 =>
        mw (mI N3 i0 3 (N3.1 i1 3)) (fun N4 =>
          mw (mI N4 i0 4 (N4.1 i1 4)) (fun N5 =>
            mw (mI N5 i0 5 (N5.1 i1 5)) (fun N6 =>
              mw (mI N6 i0 6 (N6.1 i1 6)) (fun N7 =>
                mw (mI N7 i0 7 (N7.1 i1 7)) (fun N8 =>
                  some ((), N8)))))))))
set_option maxHeartbeats 4000000 in
set_option maxRecDepth 100000 in
theorem t_X0_takeOver {X : Scr} {i0 : Nat} {i1 : Nat} (h0 : KD[i0]? = some (.inl 0)) (h1 : KD[i1]? = some (.inl 0))  (M : Mem) : T X eV (X0_takeOver i0 i1   M) md_X0_takeOver 0 [(0, .ref i0), (1, .ref i1)] [] M := by
  unfold X0_takeOver
  refine T_aload_n 1 dX0_takeOver_0 rfl rfl ?_
  refine T_getR 0 FOk_0 h1 (by decide) (by decide) dX0_takeOver_1 tb_74 ?_
  refine T_iconst (v := (0 : Int32)) (by decide) dX0_takeOver_4 ?_
  refine T_aload_n 0 dX0_takeOver_5 rfl rfl ?_
  refine T_getR 0 FOk_0 h0 (by decide) (by decide) dX0_takeOver_6 tb_74 ?_
  refine T_iconst (v := (0 : Int32)) (by decide) dX0_takeOver_9 ?_
  refine T_bipush (v := (10 : Int32)) (by decide) dX0_takeOver_10 ?_
  refine T_copyi (kf_0_0 h1) (kf_0_0 h0) dX0_takeOver_12 tb_439 tb_441 tb_440 tb_57 (by decide) (by decide) (by decide) (by decide) (by decide) (by decide) (by decide) ?_
  refine T_mw (fun N1 => ?_)
  try dsimp only
  refine T_aload_n 1 dX0_takeOver_15 rfl rfl ?_
  refine T_getR 1 FOk_0 h1 (by decide) (by decide) dX0_takeOver_16 tb_78 ?_
  refine T_iconst (v := (0 : Int32)) (by decide) dX0_takeOver_19 ?_
  refine T_aload_n 0 dX0_takeOver_20 rfl rfl ?_
  refine T_getR 1 FOk_0 h0 (by decide) (by decide) dX0_takeOver_21 tb_78 ?_
  refine T_iconst (v := (0 : Int32)) (by decide) dX0_takeOver_24 ?_
  refine T_bipush (v := (10 : Int32)) (by decide) dX0_takeOver_25 ?_
  refine T_copyi (kf_0_1 h1) (kf_0_1 h0) dX0_takeOver_27 tb_439 tb_441 tb_440 tb_57 (by decide) (by decide) (by decide) (by decide) (by decide) (by decide) (by decide) ?_
  refine T_mw (fun N2 => ?_)
  try dsimp only
  refine T_aload_n 1 dX0_takeOver_30 rfl rfl ?_
  refine T_getR 2 FOk_0 h1 (by decide) (by decide) dX0_takeOver_31 tb_82 ?_
  refine T_iconst (v := (0 : Int32)) (by decide) dX0_takeOver_34 ?_
  refine T_aload_n 0 dX0_takeOver_35 rfl rfl ?_
  refine T_getR 2 FOk_0 h0 (by decide) (by decide) dX0_takeOver_36 tb_82 ?_
  refine T_iconst (v := (0 : Int32)) (by decide) dX0_takeOver_39 ?_
  refine T_bipush (v := (10 : Int32)) (by decide) dX0_takeOver_40 ?_
  refine T_copyi (kf_0_2 h1) (kf_0_2 h0) dX0_takeOver_42 tb_439 tb_441 tb_440 tb_57 (by decide) (by decide) (by decide) (by decide) (by decide) (by decide) (by decide) ?_
  refine T_mw (fun N3 => ?_)
  try dsimp only
  refine T_aload_n 0 dX0_takeOver_45 rfl rfl ?_
  refine T_aload_n 1 dX0_takeOver_46 rfl rfl ?_
  refine T_getI 3 FOk_0 h1 (by decide) (by decide) dX0_takeOver_47 tb_85 ?_
  refine T_putI (ty := .int) 3 FOk_0 h0 (by decide) (by decide) rfl (by decide +kernel) rfl rfl dX0_takeOver_50 tb_85 ?_
  refine T_mw (fun N4 => ?_)
  try dsimp only
  refine T_aload_n 0 dX0_takeOver_53 rfl rfl ?_
  refine T_aload_n 1 dX0_takeOver_54 rfl rfl ?_
  refine T_getI 4 FOk_0 h1 (by decide) (by decide) dX0_takeOver_55 tb_89 ?_
  refine T_putI (ty := .int) 4 FOk_0 h0 (by decide) (by decide) rfl (by decide +kernel) rfl rfl dX0_takeOver_58 tb_89 ?_
  refine T_mw (fun N5 => ?_)
  try dsimp only
  refine T_aload_n 0 dX0_takeOver_61 rfl rfl ?_
  refine T_aload_n 1 dX0_takeOver_62 rfl rfl ?_
  refine T_getI 5 FOk_0 h1 (by decide) (by decide) dX0_takeOver_63 tb_91 ?_
  refine T_putI (ty := .int) 5 FOk_0 h0 (by decide) (by decide) rfl (by decide +kernel) rfl rfl dX0_takeOver_66 tb_91 ?_
  refine T_mw (fun N6 => ?_)
  try dsimp only
  refine T_aload_n 0 dX0_takeOver_69 rfl rfl ?_
  refine T_aload_n 1 dX0_takeOver_70 rfl rfl ?_
  refine T_getI 6 FOk_0 h1 (by decide) (by decide) dX0_takeOver_71 tb_95 ?_
  refine T_putI (ty := .int) 6 FOk_0 h0 (by decide) (by decide) rfl (by decide +kernel) rfl rfl dX0_takeOver_74 tb_95 ?_
  refine T_mw (fun N7 => ?_)
  try dsimp only
  refine T_aload_n 0 dX0_takeOver_77 rfl rfl ?_
  refine T_aload_n 1 dX0_takeOver_78 rfl rfl ?_
  refine T_getI 7 FOk_0 h1 (by decide) (by decide) dX0_takeOver_79 tb_97 ?_
  refine T_putI (ty := .int) 7 FOk_0 h0 (by decide) (by decide) rfl (by decide +kernel) rfl rfl dX0_takeOver_82 tb_97 ?_
  refine T_mw (fun N8 => ?_)
  try dsimp only
  exact T_vret dX0_takeOver_85 rfl
theorem C_X0_takeOver {X : Scr} {i0 : Nat} {i1 : Nat} (h0 : KD[i0]? = some (.inl 0)) (h1 : KD[i1]? = some (.inl 0))  {M : Mem} {r : Unit} {M' : Mem} (h : X0_takeOver i0 i1  M = some (r, M')) : Ct X md_X0_takeOver [.ref i0, .ref i1] M (eV r) M' := Ct_of (by decide +kernel) (Nat.le_of_ble_eq_true rfl) (t_X0_takeOver h0 h1  M) r M' h
-- X0_putRight
def X0_putRight_b2 (i0 : Nat) (k2 : Int32 → Mem → Option (Unit × Mem)) (x1 : Int32) (M : Mem) : Option (Unit × Mem) :=
  if (10 : Int32) ≤ x1 then
    some ((), M)
  else
    gd (ib x1 10) (
      k2 (x1 + (1 : Int32)) (mI M (rf i0 0) x1.toNatClampNeg x1))
def X0_putRight_l2 (i0 : Nat)  : Nat → Int32 → Mem → Option (Unit × Mem)
  | 0 => fun _ _ => none
  | n + 1 => X0_putRight_b2 i0 (X0_putRight_l2 i0  n)
def X0_putRight (i0 : Nat)   (M : Mem) : Option (Unit × Mem) :=
  X0_putRight_l2 i0  FU (0 : Int32) M
set_option maxHeartbeats 4000000 in
set_option maxRecDepth 100000 in
theorem t_X0_putRight_b2 {X : Scr} {i0 : Nat} (h0 : KD[i0]? = some (.inl 0)) {k2 : Int32 → Mem → Option (Unit × Mem)} (hk2 : ∀ (x1 : Int32) (M : Mem), T X eV (k2 x1 M) md_X0_putRight 2 [(0, .ref i0), (1, .int x1)] [] M) (x1 : Int32) (M : Mem) : T X eV (X0_putRight_b2 i0 k2 x1 M) md_X0_putRight 2 [(0, .ref i0), (1, .int x1)] [] M := by
  unfold X0_putRight_b2
  refine T_iload_n 1 dX0_putRight_2 rfl rfl ?_
  refine T_bipush (v := (10 : Int32)) (by decide) dX0_putRight_3 ?_
  refine T_icmp_ge 21 dX0_putRight_5 (by decide) ?_ ?_
  ·
    exact T_vret dX0_putRight_21 rfl
  ·
    refine T_aload_n 0 dX0_putRight_8 rfl rfl ?_
    refine T_getR 0 FOk_0 h0 (by decide) (by decide) dX0_putRight_9 tb_74 ?_
    refine T_iload_n 1 dX0_putRight_12 rfl rfl ?_
    refine T_iload_n 1 dX0_putRight_13 rfl rfl ?_
    refine T_iast (kf_0_0 h0) dX0_putRight_14 ?_
    refine T_iinc 1 [(1, .int (x1 + (1 : Int32))), (0, .ref i0)] (v := (1 : Int32)) dX0_putRight_15 rfl (by decide) (by decide) rfl ?_
    refine T_goto 2 dX0_putRight_18 (by decide) ?_
    refine T_sub [1, 0] (lv' := [(0, .ref i0), (1, .int (x1 + (1 : Int32)))]) rfl ?_
    exact hk2 _ _
theorem t_X0_putRight_l2 {X : Scr} {i0 : Nat} (h0 : KD[i0]? = some (.inl 0)) (n : Nat) : ∀ (x1 : Int32) (M : Mem), T X eV (X0_putRight_l2 i0  n x1 M) md_X0_putRight 2 [(0, .ref i0), (1, .int x1)] [] M := by
  induction n with
  | zero => intro x1 M; exact T_none
  | succ n ih => intro x1 M; exact t_X0_putRight_b2 h0 ih x1 M
set_option maxHeartbeats 4000000 in
set_option maxRecDepth 100000 in
theorem t_X0_putRight {X : Scr} {i0 : Nat} (h0 : KD[i0]? = some (.inl 0))  (M : Mem) : T X eV (X0_putRight i0   M) md_X0_putRight 0 [(0, .ref i0)] [] M := by
  unfold X0_putRight
  refine T_iconst (v := (0 : Int32)) (by decide) dX0_putRight_0 ?_
  refine T_istore_n [(1, .int (0 : Int32)), (0, .ref i0)] dX0_putRight_1 rfl (by decide) rfl ?_
  refine T_sub [1, 0] (lv' := [(0, .ref i0), (1, .int (0 : Int32))]) rfl ?_
  exact t_X0_putRight_l2 h0  _ _ _
theorem C_X0_putRight {X : Scr} {i0 : Nat} (h0 : KD[i0]? = some (.inl 0))  {M : Mem} {r : Unit} {M' : Mem} (h : X0_putRight i0  M = some (r, M')) : Ct X md_X0_putRight [.ref i0] M (eV r) M' := Ct_of (by decide +kernel) (Nat.le_of_ble_eq_true rfl) (t_X0_putRight h0  M) r M' h
-- X0_strangers
def X0_strangers_b23 (i0 : Nat) (k4 : Int32 → Int32 → Mem → Option (Int32 × Mem)) (x1 : Int32) (x2 : Int32) (M : Mem) : Option (Int32 × Mem) :=
  k4 x1 (x2 + (1 : Int32)) M
def X0_strangers_b4 (i0 : Nat) (k4 : Int32 → Int32 → Mem → Option (Int32 × Mem)) (x1 : Int32) (x2 : Int32) (M : Mem) : Option (Int32 × Mem) :=
  if (10 : Int32) ≤ x2 then
    some (x1, M)
  else
    gd (ib x2 10) (
      if (M.1 (rf i0 0) x2.toNatClampNeg) = x2 then
        X0_strangers_b23 i0 k4 x1 x2 M
      else
        X0_strangers_b23 i0 k4 (x1 + (1 : Int32)) x2 M)
def X0_strangers_l4 (i0 : Nat)  : Nat → Int32 → Int32 → Mem → Option (Int32 × Mem)
  | 0 => fun _ _ _ => none
  | n + 1 => X0_strangers_b4 i0 (X0_strangers_l4 i0  n)
def X0_strangers (i0 : Nat)   (M : Mem) : Option (Int32 × Mem) :=
  X0_strangers_l4 i0  FU (0 : Int32) (0 : Int32) M
set_option maxHeartbeats 4000000 in
set_option maxRecDepth 100000 in
theorem t_X0_strangers_b23 {X : Scr} {i0 : Nat} (h0 : KD[i0]? = some (.inl 0)) {k4 : Int32 → Int32 → Mem → Option (Int32 × Mem)} (hk4 : ∀ (x1 : Int32) (x2 : Int32) (M : Mem), T X eI (k4 x1 x2 M) md_X0_strangers 4 [(0, .ref i0), (1, .int x1), (2, .int x2)] [] M) (x1 : Int32) (x2 : Int32) (M : Mem) : T X eI (X0_strangers_b23 i0 k4 x1 x2 M) md_X0_strangers 23 [(0, .ref i0), (1, .int x1), (2, .int x2)] [] M := by
  unfold X0_strangers_b23
  refine T_iinc 2 [(2, .int (x2 + (1 : Int32))), (0, .ref i0), (1, .int x1)] (v := (1 : Int32)) dX0_strangers_23 rfl (by decide) (by decide) rfl ?_
  refine T_goto 4 dX0_strangers_26 (by decide) ?_
  refine T_sub [1, 2, 0] (lv' := [(0, .ref i0), (1, .int x1), (2, .int (x2 + (1 : Int32)))]) rfl ?_
  exact hk4 _ _ _
set_option maxHeartbeats 4000000 in
set_option maxRecDepth 100000 in
theorem t_X0_strangers_b4 {X : Scr} {i0 : Nat} (h0 : KD[i0]? = some (.inl 0)) {k4 : Int32 → Int32 → Mem → Option (Int32 × Mem)} (hk4 : ∀ (x1 : Int32) (x2 : Int32) (M : Mem), T X eI (k4 x1 x2 M) md_X0_strangers 4 [(0, .ref i0), (1, .int x1), (2, .int x2)] [] M) (x1 : Int32) (x2 : Int32) (M : Mem) : T X eI (X0_strangers_b4 i0 k4 x1 x2 M) md_X0_strangers 4 [(0, .ref i0), (1, .int x1), (2, .int x2)] [] M := by
  unfold X0_strangers_b4
  refine T_iload_n 2 dX0_strangers_4 rfl rfl ?_
  refine T_bipush (v := (10 : Int32)) (by decide) dX0_strangers_5 ?_
  refine T_icmp_ge 29 dX0_strangers_7 (by decide) ?_ ?_
  ·
    refine T_iload_n 1 dX0_strangers_29 rfl rfl ?_
    exact T_iret dX0_strangers_30 rfl
  ·
    refine T_aload_n 0 dX0_strangers_10 rfl rfl ?_
    refine T_getR 0 FOk_0 h0 (by decide) (by decide) dX0_strangers_11 tb_74 ?_
    refine T_iload_n 2 dX0_strangers_14 rfl rfl ?_
    refine T_iald (kf_0_0 h0) dX0_strangers_15 ?_
    refine T_iload_n 2 dX0_strangers_16 rfl rfl ?_
    refine T_icmp_eq 23 dX0_strangers_17 (by decide) ?_ ?_
    ·
      exact t_X0_strangers_b23 h0 hk4 _ _ _
    ·
      refine T_iinc 1 [(1, .int (x1 + (1 : Int32))), (0, .ref i0), (2, .int x2)] (v := (1 : Int32)) dX0_strangers_20 rfl (by decide) (by decide) rfl ?_
      refine T_sub [1, 0, 2] (lv' := [(0, .ref i0), (1, .int (x1 + (1 : Int32))), (2, .int x2)]) rfl ?_
      exact t_X0_strangers_b23 h0 hk4 _ _ _
theorem t_X0_strangers_l4 {X : Scr} {i0 : Nat} (h0 : KD[i0]? = some (.inl 0)) (n : Nat) : ∀ (x1 : Int32) (x2 : Int32) (M : Mem), T X eI (X0_strangers_l4 i0  n x1 x2 M) md_X0_strangers 4 [(0, .ref i0), (1, .int x1), (2, .int x2)] [] M := by
  induction n with
  | zero => intro x1 x2 M; exact T_none
  | succ n ih => intro x1 x2 M; exact t_X0_strangers_b4 h0 ih x1 x2 M
set_option maxHeartbeats 4000000 in
set_option maxRecDepth 100000 in
theorem t_X0_strangers {X : Scr} {i0 : Nat} (h0 : KD[i0]? = some (.inl 0))  (M : Mem) : T X eI (X0_strangers i0   M) md_X0_strangers 0 [(0, .ref i0)] [] M := by
  unfold X0_strangers
  refine T_iconst (v := (0 : Int32)) (by decide) dX0_strangers_0 ?_
  refine T_istore_n [(1, .int (0 : Int32)), (0, .ref i0)] dX0_strangers_1 rfl (by decide) rfl ?_
  refine T_iconst (v := (0 : Int32)) (by decide) dX0_strangers_2 ?_
  refine T_istore_n [(2, .int (0 : Int32)), (1, .int (0 : Int32)), (0, .ref i0)] dX0_strangers_3 rfl (by decide) rfl ?_
  refine T_sub [2, 1, 0] (lv' := [(0, .ref i0), (1, .int (0 : Int32)), (2, .int (0 : Int32))]) rfl ?_
  exact t_X0_strangers_l4 h0  _ _ _ _
theorem C_X0_strangers {X : Scr} {i0 : Nat} (h0 : KD[i0]? = some (.inl 0))  {M : Mem} {r : Int32} {M' : Mem} (h : X0_strangers i0  M = some (r, M')) : Ct X md_X0_strangers [.ref i0] M (eI r) M' := Ct_of (by decide +kernel) (Nat.le_of_ble_eq_true rfl) (t_X0_strangers h0  M) r M' h
-- X0_basketHere
def X0_basketHere (i0 : Nat)   (M : Mem) : Option (Int32 × Mem) :=
  gd (ib (M.1 i0 3) 10) (
    some ((M.1 (rf i0 0) (M.1 i0 3).toNatClampNeg), M))
set_option maxHeartbeats 4000000 in
set_option maxRecDepth 100000 in
theorem t_X0_basketHere {X : Scr} {i0 : Nat} (h0 : KD[i0]? = some (.inl 0))  (M : Mem) : T X eI (X0_basketHere i0   M) md_X0_basketHere 0 [(0, .ref i0)] [] M := by
  unfold X0_basketHere
  refine T_aload_n 0 dX0_basketHere_0 rfl rfl ?_
  refine T_getR 0 FOk_0 h0 (by decide) (by decide) dX0_basketHere_1 tb_74 ?_
  refine T_aload_n 0 dX0_basketHere_4 rfl rfl ?_
  refine T_getI 3 FOk_0 h0 (by decide) (by decide) dX0_basketHere_5 tb_85 ?_
  refine T_iald (kf_0_0 h0) dX0_basketHere_8 ?_
  exact T_iret dX0_basketHere_9 rfl
theorem C_X0_basketHere {X : Scr} {i0 : Nat} (h0 : KD[i0]? = some (.inl 0))  {M : Mem} {r : Int32} {M' : Mem} (h : X0_basketHere i0  M = some (r, M')) : Ct X md_X0_basketHere [.ref i0] M (eI r) M' := Ct_of (by decide +kernel) (Nat.le_of_ble_eq_true rfl) (t_X0_basketHere h0  M) r M' h
-- X11_isIn
def X11_isIn_b14   (s0 : Int32) (M : Mem) : Option (Int32 × Mem) :=
  gd (s0 == 0 || s0 == 1) (some (s0, M))
def X11_isIn   (x0 : Int32) (x1 : Int32) (M : Mem) : Option (Int32 × Mem) :=
  if ((x0 >>> (x1 &&& 31)) &&& (1 : Int32)) = (1 : Int32) then
    X11_isIn_b14   (1 : Int32) M
  else
    X11_isIn_b14   (0 : Int32) M
set_option maxHeartbeats 4000000 in
set_option maxRecDepth 100000 in
theorem t_X11_isIn_b14 {X : Scr}   (s0 : Int32) (M : Mem) : T X eI (X11_isIn_b14   s0 M) md_X11_isIn 14 [] [.int s0] M := by
  unfold X11_isIn_b14
  exact T_zret dX11_isIn_14 rfl
set_option maxHeartbeats 4000000 in
set_option maxRecDepth 100000 in
theorem t_X11_isIn {X : Scr}   (x0 : Int32) (x1 : Int32) (M : Mem) : T X eI (X11_isIn   x0 x1 M) md_X11_isIn 0 [(0, .int x0), (1, .int x1)] [] M := by
  unfold X11_isIn
  refine T_iload_n 0 dX11_isIn_0 rfl rfl ?_
  refine T_iload_n 1 dX11_isIn_1 rfl rfl ?_
  refine T_ishr dX11_isIn_2 ?_
  refine T_iconst (v := (1 : Int32)) (by decide) dX11_isIn_3 ?_
  refine T_iand dX11_isIn_4 ?_
  refine T_iconst (v := (1 : Int32)) (by decide) dX11_isIn_5 ?_
  refine T_icmp_ne 13 dX11_isIn_6 (by decide) ?_ ?_
  ·
    refine T_iconst (v := (1 : Int32)) (by decide) dX11_isIn_9 ?_
    refine T_goto 14 dX11_isIn_10 (by decide) ?_
    refine T_sub [] (lv' := []) rfl ?_
    exact t_X11_isIn_b14   _ _
  ·
    refine T_iconst (v := (0 : Int32)) (by decide) dX11_isIn_13 ?_
    refine T_sub [] (lv' := []) rfl ?_
    exact t_X11_isIn_b14   _ _
theorem C_X11_isIn {X : Scr}   (x0 : Int32) (x1 : Int32) {M : Mem} {r : Int32} {M' : Mem} (h : X11_isIn  x0 x1 M = some (r, M')) : Ct X md_X11_isIn [.int x0, .int x1] M (eI r) M' := Ct_of (by decide +kernel) (Nat.le_of_ble_eq_true rfl) (t_X11_isIn  _ _ M) r M' h
-- X0_whyNotMoved
def X0_whyNotMoved_b23 (i0 : Nat)  (s0 : Int32) (M : Mem) : Option (Int32 × Mem) :=
  some (s0, M)
def X0_whyNotMoved (i0 : Nat)  (x1 : Int32) (x2 : Int32) (x3 : Int32) (M : Mem) : Option (Int32 × Mem) :=
  (X11_isIn  x1 x3 M).bind (fun p1 =>
    if p1.1 = 0 then
      some ((2 : Int32), p1.2)
    else
      (X11_isIn  x2 x3 p1.2).bind (fun p2 =>
        if p2.1 = 0 then
          X0_whyNotMoved_b23 i0  (0 : Int32) p2.2
        else
          X0_whyNotMoved_b23 i0  (3 : Int32) p2.2))
set_option maxHeartbeats 4000000 in
set_option maxRecDepth 100000 in
theorem t_X0_whyNotMoved_b23 {X : Scr} {i0 : Nat} (h0 : KD[i0]? = some (.inl 0)) (s0 : Int32) (M : Mem) : T X eI (X0_whyNotMoved_b23 i0  s0 M) md_X0_whyNotMoved 23 [] [.int s0] M := by
  unfold X0_whyNotMoved_b23
  exact T_iret dX0_whyNotMoved_23 rfl
set_option maxHeartbeats 4000000 in
set_option maxRecDepth 100000 in
theorem t_X0_whyNotMoved {X : Scr} {i0 : Nat} (h0 : KD[i0]? = some (.inl 0)) (x1 : Int32) (x2 : Int32) (x3 : Int32) (M : Mem) : T X eI (X0_whyNotMoved i0  x1 x2 x3 M) md_X0_whyNotMoved 0 [(0, .ref i0), (1, .int x1), (2, .int x2), (3, .int x3)] [] M := by
  unfold X0_whyNotMoved
  refine T_iload_n 1 dX0_whyNotMoved_0 rfl rfl ?_
  refine T_iload_n 3 dX0_whyNotMoved_1 rfl rfl ?_
  refine T_callSNI md_X11_isIn [.int x1, .int x3] [] dX0_whyNotMoved_2 rfl ok_X11_isIn tb_473 tb_474 (by decide) (Nat.le_of_ble_eq_true rfl) (fun _ _ h9 => C_X11_isIn  _ _ h9) (fun r1 M1 => ?_)
  dsimp only
  refine T_if_ne 10 dX0_whyNotMoved_5 (by decide) ?_ ?_
  ·
    refine T_iconst (v := (2 : Int32)) (by decide) dX0_whyNotMoved_8 ?_
    exact T_iret dX0_whyNotMoved_9 rfl
  ·
    refine T_iload_n 2 dX0_whyNotMoved_10 rfl rfl ?_
    refine T_iload_n 3 dX0_whyNotMoved_11 rfl rfl ?_
    refine T_callSNI md_X11_isIn [.int x2, .int x3] [] dX0_whyNotMoved_12 rfl ok_X11_isIn tb_473 tb_474 (by decide) (Nat.le_of_ble_eq_true rfl) (fun _ _ h9 => C_X11_isIn  _ _ h9) (fun r2 M2 => ?_)
    dsimp only
    refine T_if_eq 22 dX0_whyNotMoved_15 (by decide) ?_ ?_
    ·
      refine T_iconst (v := (0 : Int32)) (by decide) dX0_whyNotMoved_22 ?_
      refine T_sub [] (lv' := []) rfl ?_
      exact t_X0_whyNotMoved_b23 h0  _ _
    ·
      refine T_iconst (v := (3 : Int32)) (by decide) dX0_whyNotMoved_18 ?_
      refine T_goto 23 dX0_whyNotMoved_19 (by decide) ?_
      refine T_sub [] (lv' := []) rfl ?_
      exact t_X0_whyNotMoved_b23 h0  _ _
theorem C_X0_whyNotMoved {X : Scr} {i0 : Nat} (h0 : KD[i0]? = some (.inl 0)) (x1 : Int32) (x2 : Int32) (x3 : Int32) {M : Mem} {r : Int32} {M' : Mem} (h : X0_whyNotMoved i0 x1 x2 x3 M = some (r, M')) : Ct X md_X0_whyNotMoved [.ref i0, .int x1, .int x2, .int x3] M (eI r) M' := Ct_of (by decide +kernel) (Nat.le_of_ble_eq_true rfl) (t_X0_whyNotMoved h0 _ _ _ M) r M' h
-- X0_whyTooLate
def X0_whyTooLate_b18 (i0 : Nat)  (s0 : Int32) (M : Mem) : Option (Int32 × Mem) :=
  some (s0, M)
def X0_whyTooLate (i0 : Nat)  (x1 : Int32) (M : Mem) : Option (Int32 × Mem) :=
  if ((M.1 i0 6) + x1) ≤ (M.1 i0 7) then
    X0_whyTooLate_b18 i0  (0 : Int32) M
  else
    X0_whyTooLate_b18 i0  (4 : Int32) M
set_option maxHeartbeats 4000000 in
set_option maxRecDepth 100000 in
theorem t_X0_whyTooLate_b18 {X : Scr} {i0 : Nat} (h0 : KD[i0]? = some (.inl 0)) (s0 : Int32) (M : Mem) : T X eI (X0_whyTooLate_b18 i0  s0 M) md_X0_whyTooLate 18 [] [.int s0] M := by
  unfold X0_whyTooLate_b18
  exact T_iret dX0_whyTooLate_18 rfl
set_option maxHeartbeats 4000000 in
set_option maxRecDepth 100000 in
theorem t_X0_whyTooLate {X : Scr} {i0 : Nat} (h0 : KD[i0]? = some (.inl 0)) (x1 : Int32) (M : Mem) : T X eI (X0_whyTooLate i0  x1 M) md_X0_whyTooLate 0 [(0, .ref i0), (1, .int x1)] [] M := by
  unfold X0_whyTooLate
  refine T_aload_n 0 dX0_whyTooLate_0 rfl rfl ?_
  refine T_getI 6 FOk_0 h0 (by decide) (by decide) dX0_whyTooLate_1 tb_95 ?_
  refine T_iload_n 1 dX0_whyTooLate_4 rfl rfl ?_
  refine T_iadd dX0_whyTooLate_5 ?_
  refine T_aload_n 0 dX0_whyTooLate_6 rfl rfl ?_
  refine T_getI 7 FOk_0 h0 (by decide) (by decide) dX0_whyTooLate_7 tb_97 ?_
  refine T_icmp_le 17 dX0_whyTooLate_10 (by decide) ?_ ?_
  ·
    refine T_iconst (v := (0 : Int32)) (by decide) dX0_whyTooLate_17 ?_
    refine T_sub [] (lv' := []) rfl ?_
    exact t_X0_whyTooLate_b18 h0  _ _
  ·
    refine T_iconst (v := (4 : Int32)) (by decide) dX0_whyTooLate_13 ?_
    refine T_goto 18 dX0_whyTooLate_14 (by decide) ?_
    refine T_sub [] (lv' := []) rfl ?_
    exact t_X0_whyTooLate_b18 h0  _ _
theorem C_X0_whyTooLate {X : Scr} {i0 : Nat} (h0 : KD[i0]? = some (.inl 0)) (x1 : Int32) {M : Mem} {r : Int32} {M' : Mem} (h : X0_whyTooLate i0 x1 M = some (r, M')) : Ct X md_X0_whyTooLate [.ref i0, .int x1] M (eI r) M' := Ct_of (by decide +kernel) (Nat.le_of_ble_eq_true rfl) (t_X0_whyTooLate h0 _ M) r M' h
-- J9_abs_0f7a4
def J9_abs_0f7a4_b10   (s0 : Int32) (M : Mem) : Option (Int32 × Mem) :=
  some (s0, M)
def J9_abs_0f7a4   (x0 : Int32) (M : Mem) : Option (Int32 × Mem) :=
  if 0 ≤ x0 then
    J9_abs_0f7a4_b10   x0 M
  else
    J9_abs_0f7a4_b10   (-x0) M
set_option maxHeartbeats 4000000 in
set_option maxRecDepth 100000 in
theorem t_J9_abs_0f7a4_b10 {X : Scr}   (s0 : Int32) (M : Mem) : T X eI (J9_abs_0f7a4_b10   s0 M) md_J9_abs_0f7a4 10 [] [.int s0] M := by
  unfold J9_abs_0f7a4_b10
  exact T_iret dJ9_abs_0f7a4_10 rfl
set_option maxHeartbeats 4000000 in
set_option maxRecDepth 100000 in
theorem t_J9_abs_0f7a4 {X : Scr}   (x0 : Int32) (M : Mem) : T X eI (J9_abs_0f7a4   x0 M) md_J9_abs_0f7a4 0 [(0, .int x0)] [] M := by
  unfold J9_abs_0f7a4
  refine T_iload_n 0 dJ9_abs_0f7a4_0 rfl rfl ?_
  refine T_if_ge 9 dJ9_abs_0f7a4_1 (by decide) ?_ ?_
  ·
    refine T_iload_n 0 dJ9_abs_0f7a4_9 rfl rfl ?_
    refine T_sub [] (lv' := []) rfl ?_
    exact t_J9_abs_0f7a4_b10   _ _
  ·
    refine T_iload_n 0 dJ9_abs_0f7a4_4 rfl rfl ?_
    refine T_ineg dJ9_abs_0f7a4_5 ?_
    refine T_goto 10 dJ9_abs_0f7a4_6 (by decide) ?_
    refine T_sub [] (lv' := []) rfl ?_
    exact t_J9_abs_0f7a4_b10   _ _
theorem C_J9_abs_0f7a4 {X : Scr}   (x0 : Int32) {M : Mem} {r : Int32} {M' : Mem} (h : J9_abs_0f7a4  x0 M = some (r, M')) : Ct X md_J9_abs_0f7a4 [.int x0] M (eI r) M' := Ct_of (by decide +kernel) (Nat.le_of_ble_eq_true rfl) (t_J9_abs_0f7a4  _ M) r M' h
-- X0_whyNot
def X0_whyNot_b143 (i0 : Nat)  (s0 : Int32) (M : Mem) : Option (Int32 × Mem) :=
  some (s0, M)
def X0_whyNot_b77 (i0 : Nat)  (s0 : Int32) (M : Mem) : Option (Int32 × Mem) :=
  some (s0, M)
def X0_whyNot (i0 : Nat)  (x1 : Int32) (x2 : Int32) (M : Mem) : Option (Int32 × Mem) :=
  if x1 = (43 : Int32) then
    (X0_basketHere i0  M).bind (fun p2 =>
      gd (ib p2.1 10) (
        (X0_whyNotMoved i0 (M.1 i0 4) (p2.2.1 (rf i0 1) p2.1.toNatClampNeg) x2 p2.2).bind (fun p3 =>
          some (p3.1, p3.2))))
  else if x1 = (45 : Int32) then
    (X0_basketHere i0  M).bind (fun p4 =>
      gd (ib p4.1 10) (
        (X0_whyNotMoved i0 (p4.2.1 (rf i0 1) p4.1.toNatClampNeg) (p4.2.1 i0 4) x2 p4.2).bind (fun p5 =>
          some (p5.1, p5.2))))
  else if x1 = (61 : Int32) then
    if x2 = (M.1 i0 3) then
      X0_whyNot_b143 i0  (1 : Int32) M
    else
      X0_whyNot_b143 i0  (0 : Int32) M
  else if x1 = (63 : Int32) then
    (X0_basketHere i0  M).bind (fun p6 =>
      gd (ib p6.1 10) (
        (X0_whyTooLate i0 (p6.2.1 (rf i0 2) p6.1.toNatClampNeg) p6.2).bind (fun p7 =>
          some (p7.1, p7.2))))
  else if x1 = (65 : Int32) then
    if x2 = (M.1 i0 3) then
      X0_whyNot_b77 i0  (1 : Int32) M
    else
      (J9_abs_0f7a4  (x2 - (M.1 i0 3)) M).bind (fun p8 =>
        (X0_whyTooLate i0 p8.1 p8.2).bind (fun p9 =>
          X0_whyNot_b77 i0  p9.1 p9.2))
  else 
    (X0_whyTooLate i0 (1 : Int32) M).bind (fun p10 =>
      some (p10.1, p10.2))
set_option maxHeartbeats 4000000 in
set_option maxRecDepth 100000 in
theorem t_X0_whyNot_b143 {X : Scr} {i0 : Nat} (h0 : KD[i0]? = some (.inl 0)) (s0 : Int32) (M : Mem) : T X eI (X0_whyNot_b143 i0  s0 M) md_X0_whyNot 143 [] [.int s0] M := by
  unfold X0_whyNot_b143
  exact T_iret dX0_whyNot_143 rfl
set_option maxHeartbeats 4000000 in
set_option maxRecDepth 100000 in
theorem t_X0_whyNot_b77 {X : Scr} {i0 : Nat} (h0 : KD[i0]? = some (.inl 0)) (s0 : Int32) (M : Mem) : T X eI (X0_whyNot_b77 i0  s0 M) md_X0_whyNot 77 [] [.int s0] M := by
  unfold X0_whyNot_b77
  exact T_iret dX0_whyNot_77 rfl
set_option maxHeartbeats 4000000 in
set_option maxRecDepth 100000 in
theorem t_X0_whyNot {X : Scr} {i0 : Nat} (h0 : KD[i0]? = some (.inl 0)) (x1 : Int32) (x2 : Int32) (M : Mem) : T X eI (X0_whyNot i0  x1 x2 M) md_X0_whyNot 0 [(0, .ref i0), (1, .int x1), (2, .int x2)] [] M := by
  unfold X0_whyNot
  refine T_iload_n 1 dX0_whyNot_0 rfl rfl ?_
  refine T_ite (fun hx0_0 => ?_) (fun hx0_0 => ?_)
  ·
    refine T_look (off := 91) 92 dX0_whyNot_1 (by decide) (by rw [hx0_0]; decide) (by decide) ?_
    refine T_aload_n 0 dX0_whyNot_92 rfl rfl ?_
    refine T_aload_n 0 dX0_whyNot_93 rfl rfl ?_
    refine T_getI 4 FOk_0 h0 (by decide) (by decide) dX0_whyNot_94 tb_89 ?_
    refine T_aload_n 0 dX0_whyNot_97 rfl rfl ?_
    refine T_getR 1 FOk_0 h0 (by decide) (by decide) dX0_whyNot_98 tb_78 ?_
    refine T_aload_n 0 dX0_whyNot_101 rfl rfl ?_
    refine T_callVI md_X0_basketHere [] [.ref (rf i0 1), .int (M.1 i0 4), .ref i0] dX0_whyNot_102 h0 rfl rfl ok_X0_basketHere tb_465 tb_466 tb_467 (by decide) (Nat.le_of_ble_eq_true rfl) (fun _ _ h9 => C_X0_basketHere h0  h9) (fun r2 M2 => ?_)
    dsimp only
    refine T_iald (kf_0_1 h0) dX0_whyNot_105 ?_
    refine T_iload_n 2 dX0_whyNot_106 rfl rfl ?_
    refine T_callVI md_X0_whyNotMoved [.int (M.1 i0 4), .int (M2.1 (rf i0 1) r2.toNatClampNeg), .int x2] [] dX0_whyNot_107 h0 rfl rfl ok_X0_whyNotMoved tb_469 tb_471 tb_3 (by decide) (Nat.le_of_ble_eq_true rfl) (fun _ _ h9 => C_X0_whyNotMoved h0 _ _ _ h9) (fun r3 M3 => ?_)
    dsimp only
    exact T_iret dX0_whyNot_110 rfl
  refine T_ite (fun hx0_1 => ?_) (fun hx0_1 => ?_)
  ·
    refine T_look (off := 110) 111 dX0_whyNot_1 (by decide) (by rw [hx0_1]; decide) (by decide) ?_
    refine T_aload_n 0 dX0_whyNot_111 rfl rfl ?_
    refine T_aload_n 0 dX0_whyNot_112 rfl rfl ?_
    refine T_getR 1 FOk_0 h0 (by decide) (by decide) dX0_whyNot_113 tb_78 ?_
    refine T_aload_n 0 dX0_whyNot_116 rfl rfl ?_
    refine T_callVI md_X0_basketHere [] [.ref (rf i0 1), .ref i0] dX0_whyNot_117 h0 rfl rfl ok_X0_basketHere tb_465 tb_466 tb_467 (by decide) (Nat.le_of_ble_eq_true rfl) (fun _ _ h9 => C_X0_basketHere h0  h9) (fun r4 M4 => ?_)
    dsimp only
    refine T_iald (kf_0_1 h0) dX0_whyNot_120 ?_
    refine T_aload_n 0 dX0_whyNot_121 rfl rfl ?_
    refine T_getI 4 FOk_0 h0 (by decide) (by decide) dX0_whyNot_122 tb_89 ?_
    refine T_iload_n 2 dX0_whyNot_125 rfl rfl ?_
    refine T_callVI md_X0_whyNotMoved [.int (M4.1 (rf i0 1) r4.toNatClampNeg), .int (M4.1 i0 4), .int x2] [] dX0_whyNot_126 h0 rfl rfl ok_X0_whyNotMoved tb_469 tb_471 tb_3 (by decide) (Nat.le_of_ble_eq_true rfl) (fun _ _ h9 => C_X0_whyNotMoved h0 _ _ _ h9) (fun r5 M5 => ?_)
    dsimp only
    exact T_iret dX0_whyNot_129 rfl
  refine T_ite (fun hx0_2 => ?_) (fun hx0_2 => ?_)
  ·
    refine T_look (off := 129) 130 dX0_whyNot_1 (by decide) (by rw [hx0_2]; decide) (by decide) ?_
    refine T_iload_n 2 dX0_whyNot_130 rfl rfl ?_
    refine T_aload_n 0 dX0_whyNot_131 rfl rfl ?_
    refine T_getI 3 FOk_0 h0 (by decide) (by decide) dX0_whyNot_132 tb_85 ?_
    refine T_icmp_ne 142 dX0_whyNot_135 (by decide) ?_ ?_
    ·
      refine T_iconst (v := (1 : Int32)) (by decide) dX0_whyNot_138 ?_
      refine T_goto 143 dX0_whyNot_139 (by decide) ?_
      refine T_sub [] (lv' := []) rfl ?_
      exact t_X0_whyNot_b143 h0  _ _
    ·
      refine T_iconst (v := (0 : Int32)) (by decide) dX0_whyNot_142 ?_
      refine T_sub [] (lv' := []) rfl ?_
      exact t_X0_whyNot_b143 h0  _ _
  refine T_ite (fun hx0_3 => ?_) (fun hx0_3 => ?_)
  ·
    refine T_look (off := 77) 78 dX0_whyNot_1 (by decide) (by rw [hx0_3]; decide) (by decide) ?_
    refine T_aload_n 0 dX0_whyNot_78 rfl rfl ?_
    refine T_aload_n 0 dX0_whyNot_79 rfl rfl ?_
    refine T_getR 2 FOk_0 h0 (by decide) (by decide) dX0_whyNot_80 tb_82 ?_
    refine T_aload_n 0 dX0_whyNot_83 rfl rfl ?_
    refine T_callVI md_X0_basketHere [] [.ref (rf i0 2), .ref i0] dX0_whyNot_84 h0 rfl rfl ok_X0_basketHere tb_465 tb_466 tb_467 (by decide) (Nat.le_of_ble_eq_true rfl) (fun _ _ h9 => C_X0_basketHere h0  h9) (fun r6 M6 => ?_)
    dsimp only
    refine T_iald (kf_0_2 h0) dX0_whyNot_87 ?_
    refine T_callVI md_X0_whyTooLate [.int (M6.1 (rf i0 2) r6.toNatClampNeg)] [] dX0_whyNot_88 h0 rfl rfl ok_X0_whyTooLate tb_461 tb_463 tb_2 (by decide) (Nat.le_of_ble_eq_true rfl) (fun _ _ h9 => C_X0_whyTooLate h0 _ h9) (fun r7 M7 => ?_)
    dsimp only
    exact T_iret dX0_whyNot_91 rfl
  refine T_ite (fun hx0_4 => ?_) (fun hx0_4 => ?_)
  ·
    refine T_look (off := 51) 52 dX0_whyNot_1 (by decide) (by rw [hx0_4]; decide) (by decide) ?_
    refine T_iload_n 2 dX0_whyNot_52 rfl rfl ?_
    refine T_aload_n 0 dX0_whyNot_53 rfl rfl ?_
    refine T_getI 3 FOk_0 h0 (by decide) (by decide) dX0_whyNot_54 tb_85 ?_
    refine T_icmp_ne 64 dX0_whyNot_57 (by decide) ?_ ?_
    ·
      refine T_iconst (v := (1 : Int32)) (by decide) dX0_whyNot_60 ?_
      refine T_goto 77 dX0_whyNot_61 (by decide) ?_
      refine T_sub [] (lv' := []) rfl ?_
      exact t_X0_whyNot_b77 h0  _ _
    ·
      refine T_aload_n 0 dX0_whyNot_64 rfl rfl ?_
      refine T_iload_n 2 dX0_whyNot_65 rfl rfl ?_
      refine T_aload_n 0 dX0_whyNot_66 rfl rfl ?_
      refine T_getI 3 FOk_0 h0 (by decide) (by decide) dX0_whyNot_67 tb_85 ?_
      refine T_isub dX0_whyNot_70 ?_
      refine T_callSI md_J9_abs_0f7a4 [.int (x2 - (M.1 i0 3))] [.ref i0] dX0_whyNot_71 rfl ok_J9_abs_0f7a4 tb_458 tb_459 (by decide) (Nat.le_of_ble_eq_true rfl) (fun _ _ h9 => C_J9_abs_0f7a4  _ h9) (fun r8 M8 => ?_)
      dsimp only
      refine T_callVI md_X0_whyTooLate [.int r8] [] dX0_whyNot_74 h0 rfl rfl ok_X0_whyTooLate tb_461 tb_463 tb_2 (by decide) (Nat.le_of_ble_eq_true rfl) (fun _ _ h9 => C_X0_whyTooLate h0 _ h9) (fun r9 M9 => ?_)
      dsimp only
      refine T_sub [] (lv' := []) rfl ?_
      exact t_X0_whyNot_b77 h0  _ _
  refine T_look (off := 143) 144 dX0_whyNot_1 (by decide) ((lv_osw hx0_0 (by decide)).trans ((lv_osw hx0_1 (by decide)).trans ((lv_osw hx0_2 (by decide)).trans ((lv_osw hx0_3 (by decide)).trans ((lv_osw hx0_4 (by decide)).trans (rfl)))))) (by decide) ?_
  refine T_aload_n 0 dX0_whyNot_144 rfl rfl ?_
  refine T_iconst (v := (1 : Int32)) (by decide) dX0_whyNot_145 ?_
  refine T_callVI md_X0_whyTooLate [.int (1 : Int32)] [] dX0_whyNot_146 h0 rfl rfl ok_X0_whyTooLate tb_461 tb_463 tb_2 (by decide) (Nat.le_of_ble_eq_true rfl) (fun _ _ h9 => C_X0_whyTooLate h0 _ h9) (fun r10 M10 => ?_)
  dsimp only
  exact T_iret dX0_whyNot_149 rfl
theorem C_X0_whyNot {X : Scr} {i0 : Nat} (h0 : KD[i0]? = some (.inl 0)) (x1 : Int32) (x2 : Int32) {M : Mem} {r : Int32} {M' : Mem} (h : X0_whyNot i0 x1 x2 M = some (r, M')) : Ct X md_X0_whyNot [.ref i0, .int x1, .int x2] M (eI r) M' := Ct_of (by decide +kernel) (Nat.le_of_ble_eq_true rfl) (t_X0_whyNot h0 _ _ M) r M' h
-- X0_perform
def X0_perform_b220 (i0 : Nat)   (M : Mem) : Option (Unit × Mem) :=
  some ((), M)
def X0_perform (i0 : Nat)  (x1 : Int32) (x2 : Int32) (M : Mem) : Option (Unit × Mem) :=
  (X0_basketHere i0  M).bind (fun p1 =>
    if x1 = (43 : Int32) then
      mw (mI p1.2 i0 4 ((p1.2.1 i0 4) &&& (((1 : Int32) <<< (x2 &&& 31)) ^^^ (-1 : Int32)))) (fun N3 =>
        gd (ib p1.1 10) (
          gd (ib p1.1 10) (
            mw (mI N3 (rf i0 1) p1.1.toNatClampNeg ((N3.1 (rf i0 1) p1.1.toNatClampNeg) ||| ((1 : Int32) <<< (x2 &&& 31)))) (fun N4 =>
              X0_perform_b220 i0   N4))))
    else if x1 = (45 : Int32) then
      gd (ib p1.1 10) (
        gd (ib p1.1 10) (
          mw (mI p1.2 (rf i0 1) p1.1.toNatClampNeg ((p1.2.1 (rf i0 1) p1.1.toNatClampNeg) &&& (((1 : Int32) <<< (x2 &&& 31)) ^^^ (-1 : Int32)))) (fun N5 =>
            mw (mI N5 i0 4 ((N5.1 i0 4) ||| ((1 : Int32) <<< (x2 &&& 31)))) (fun N6 =>
              mw (mI N6 i0 5 ((N6.1 i0 5) ||| ((1 : Int32) <<< (x2 &&& 31)))) (fun N7 =>
                X0_perform_b220 i0   N7)))))
    else if x1 = (61 : Int32) then
      gd (ib x2 10) (
        gd (ib (p1.2.1 i0 3) 10) (
          mw (mI p1.2 (rf i0 0) (p1.2.1 i0 3).toNatClampNeg (p1.2.1 (rf i0 0) x2.toNatClampNeg)) (fun N8 =>
            gd (ib x2 10) (
              mw (mI N8 (rf i0 0) x2.toNatClampNeg p1.1) (fun N9 =>
                X0_perform_b220 i0   N9)))))
    else if x1 = (63 : Int32) then
      gd (ib p1.1 10) (
        mw (mI p1.2 i0 6 ((p1.2.1 i0 6) + (p1.2.1 (rf i0 2) p1.1.toNatClampNeg))) (fun N10 =>
          gd (ib p1.1 10) (
            mw (mI N10 i0 5 ((N10.1 i0 5) ||| (N10.1 (rf i0 1) p1.1.toNatClampNeg))) (fun N11 =>
              X0_perform_b220 i0   N11))))
    else if x1 = (65 : Int32) then
      (J9_abs_0f7a4  (x2 - (p1.2.1 i0 3)) p1.2).bind (fun p12 =>
        mw (mI p12.2 i0 6 ((p1.2.1 i0 6) + p12.1)) (fun N13 =>
          mw (mI N13 i0 3 x2) (fun N14 =>
            X0_perform_b220 i0   N14)))
    else 
      mw (mI p1.2 i0 6 ((p1.2.1 i0 6) + (1 : Int32))) (fun N15 =>
        X0_perform_b220 i0   N15))
set_option maxHeartbeats 4000000 in
set_option maxRecDepth 100000 in
theorem t_X0_perform_b220 {X : Scr} {i0 : Nat} (h0 : KD[i0]? = some (.inl 0))  (M : Mem) : T X eV (X0_perform_b220 i0   M) md_X0_perform 220 [] [] M := by
  unfold X0_perform_b220
  exact T_vret dX0_perform_220 rfl
set_option maxHeartbeats 4000000 in
set_option maxRecDepth 100000 in
theorem t_X0_perform {X : Scr} {i0 : Nat} (h0 : KD[i0]? = some (.inl 0)) (x1 : Int32) (x2 : Int32) (M : Mem) : T X eV (X0_perform i0  x1 x2 M) md_X0_perform 0 [(0, .ref i0), (1, .int x1), (2, .int x2)] [] M := by
  unfold X0_perform
  refine T_aload_n 0 dX0_perform_0 rfl rfl ?_
  refine T_callVI md_X0_basketHere [] [] dX0_perform_1 h0 rfl rfl ok_X0_basketHere tb_465 tb_466 tb_467 (by decide) (Nat.le_of_ble_eq_true rfl) (fun _ _ h9 => C_X0_basketHere h0  h9) (fun r1 M1 => ?_)
  dsimp only
  refine T_istore_n [(3, .int r1), (0, .ref i0), (1, .int x1), (2, .int x2)] dX0_perform_4 rfl (by decide) rfl ?_
  refine T_iload_n 2 dX0_perform_5 rfl rfl ?_
  refine T_ite (fun hx1_0 => ?_) (fun hx1_0 => ?_)
  ·
    refine T_look (off := 109) 115 dX0_perform_6 (by decide) (by rw [hx1_0]; decide) (by decide) ?_
    refine T_aload_n 1 dX0_perform_115 rfl rfl ?_
    refine T_dup rfl dX0_perform_116 ?_
    refine T_getI 4 FOk_0 h0 (by decide) (by decide) dX0_perform_117 tb_89 ?_
    refine T_iconst (v := (1 : Int32)) (by decide) dX0_perform_120 ?_
    refine T_iload_n 3 dX0_perform_121 rfl rfl ?_
    refine T_ishl dX0_perform_122 ?_
    refine T_iconst (v := (-1 : Int32)) (by decide) dX0_perform_123 ?_
    refine T_ixor dX0_perform_124 ?_
    refine T_iand dX0_perform_125 ?_
    refine T_putI (ty := .int) 4 FOk_0 h0 (by decide) (by decide) rfl (by decide +kernel) rfl rfl dX0_perform_126 tb_89 ?_
    refine T_mw (fun N3 => ?_)
    try dsimp only
    refine T_aload_n 1 dX0_perform_129 rfl rfl ?_
    refine T_getR 1 FOk_0 h0 (by decide) (by decide) dX0_perform_130 tb_78 ?_
    refine T_iload_n 0 dX0_perform_133 rfl rfl ?_
    refine T_dup2 rfl rfl dX0_perform_134 ?_
    refine T_iald (kf_0_1 h0) dX0_perform_135 ?_
    refine T_iconst (v := (1 : Int32)) (by decide) dX0_perform_136 ?_
    refine T_iload_n 3 dX0_perform_137 rfl rfl ?_
    refine T_ishl dX0_perform_138 ?_
    refine T_ior dX0_perform_139 ?_
    refine T_iast (kf_0_1 h0) dX0_perform_140 ?_
    refine T_mw (fun N4 => ?_)
    try dsimp only
    refine T_goto 220 dX0_perform_141 (by decide) ?_
    refine T_sub [] (lv' := []) rfl ?_
    exact t_X0_perform_b220 h0   _
  refine T_ite (fun hx1_1 => ?_) (fun hx1_1 => ?_)
  ·
    refine T_look (off := 138) 144 dX0_perform_6 (by decide) (by rw [hx1_1]; decide) (by decide) ?_
    refine T_aload_n 1 dX0_perform_144 rfl rfl ?_
    refine T_getR 1 FOk_0 h0 (by decide) (by decide) dX0_perform_145 tb_78 ?_
    refine T_iload_n 0 dX0_perform_148 rfl rfl ?_
    refine T_dup2 rfl rfl dX0_perform_149 ?_
    refine T_iald (kf_0_1 h0) dX0_perform_150 ?_
    refine T_iconst (v := (1 : Int32)) (by decide) dX0_perform_151 ?_
    refine T_iload_n 3 dX0_perform_152 rfl rfl ?_
    refine T_ishl dX0_perform_153 ?_
    refine T_iconst (v := (-1 : Int32)) (by decide) dX0_perform_154 ?_
    refine T_ixor dX0_perform_155 ?_
    refine T_iand dX0_perform_156 ?_
    refine T_iast (kf_0_1 h0) dX0_perform_157 ?_
    refine T_mw (fun N5 => ?_)
    try dsimp only
    refine T_aload_n 1 dX0_perform_158 rfl rfl ?_
    refine T_dup rfl dX0_perform_159 ?_
    refine T_getI 4 FOk_0 h0 (by decide) (by decide) dX0_perform_160 tb_89 ?_
    refine T_iconst (v := (1 : Int32)) (by decide) dX0_perform_163 ?_
    refine T_iload_n 3 dX0_perform_164 rfl rfl ?_
    refine T_ishl dX0_perform_165 ?_
    refine T_ior dX0_perform_166 ?_
    refine T_putI (ty := .int) 4 FOk_0 h0 (by decide) (by decide) rfl (by decide +kernel) rfl rfl dX0_perform_167 tb_89 ?_
    refine T_mw (fun N6 => ?_)
    try dsimp only
    refine T_aload_n 1 dX0_perform_170 rfl rfl ?_
    refine T_dup rfl dX0_perform_171 ?_
    refine T_getI 5 FOk_0 h0 (by decide) (by decide) dX0_perform_172 tb_91 ?_
    refine T_iconst (v := (1 : Int32)) (by decide) dX0_perform_175 ?_
    refine T_iload_n 3 dX0_perform_176 rfl rfl ?_
    refine T_ishl dX0_perform_177 ?_
    refine T_ior dX0_perform_178 ?_
    refine T_putI (ty := .int) 5 FOk_0 h0 (by decide) (by decide) rfl (by decide +kernel) rfl rfl dX0_perform_179 tb_91 ?_
    refine T_mw (fun N7 => ?_)
    try dsimp only
    refine T_goto 220 dX0_perform_182 (by decide) ?_
    refine T_sub [] (lv' := []) rfl ?_
    exact t_X0_perform_b220 h0   _
  refine T_ite (fun hx1_2 => ?_) (fun hx1_2 => ?_)
  ·
    refine T_look (off := 179) 185 dX0_perform_6 (by decide) (by rw [hx1_2]; decide) (by decide) ?_
    refine T_aload_n 1 dX0_perform_185 rfl rfl ?_
    refine T_getR 0 FOk_0 h0 (by decide) (by decide) dX0_perform_186 tb_74 ?_
    refine T_aload_n 1 dX0_perform_189 rfl rfl ?_
    refine T_getI 3 FOk_0 h0 (by decide) (by decide) dX0_perform_190 tb_85 ?_
    refine T_aload_n 1 dX0_perform_193 rfl rfl ?_
    refine T_getR 0 FOk_0 h0 (by decide) (by decide) dX0_perform_194 tb_74 ?_
    refine T_iload_n 3 dX0_perform_197 rfl rfl ?_
    refine T_iald (kf_0_0 h0) dX0_perform_198 ?_
    refine T_iast (kf_0_0 h0) dX0_perform_199 ?_
    refine T_mw (fun N8 => ?_)
    try dsimp only
    refine T_aload_n 1 dX0_perform_200 rfl rfl ?_
    refine T_getR 0 FOk_0 h0 (by decide) (by decide) dX0_perform_201 tb_74 ?_
    refine T_iload_n 3 dX0_perform_204 rfl rfl ?_
    refine T_iload_n 0 dX0_perform_205 rfl rfl ?_
    refine T_iast (kf_0_0 h0) dX0_perform_206 ?_
    refine T_mw (fun N9 => ?_)
    try dsimp only
    refine T_goto 220 dX0_perform_207 (by decide) ?_
    refine T_sub [] (lv' := []) rfl ?_
    exact t_X0_perform_b220 h0   _
  refine T_ite (fun hx1_3 => ?_) (fun hx1_3 => ?_)
  ·
    refine T_look (off := 76) 82 dX0_perform_6 (by decide) (by rw [hx1_3]; decide) (by decide) ?_
    refine T_aload_n 1 dX0_perform_82 rfl rfl ?_
    refine T_dup rfl dX0_perform_83 ?_
    refine T_getI 6 FOk_0 h0 (by decide) (by decide) dX0_perform_84 tb_95 ?_
    refine T_aload_n 1 dX0_perform_87 rfl rfl ?_
    refine T_getR 2 FOk_0 h0 (by decide) (by decide) dX0_perform_88 tb_82 ?_
    refine T_iload_n 0 dX0_perform_91 rfl rfl ?_
    refine T_iald (kf_0_2 h0) dX0_perform_92 ?_
    refine T_iadd dX0_perform_93 ?_
    refine T_putI (ty := .int) 6 FOk_0 h0 (by decide) (by decide) rfl (by decide +kernel) rfl rfl dX0_perform_94 tb_95 ?_
    refine T_mw (fun N10 => ?_)
    try dsimp only
    refine T_aload_n 1 dX0_perform_97 rfl rfl ?_
    refine T_dup rfl dX0_perform_98 ?_
    refine T_getI 5 FOk_0 h0 (by decide) (by decide) dX0_perform_99 tb_91 ?_
    refine T_aload_n 1 dX0_perform_102 rfl rfl ?_
    refine T_getR 1 FOk_0 h0 (by decide) (by decide) dX0_perform_103 tb_78 ?_
    refine T_iload_n 0 dX0_perform_106 rfl rfl ?_
    refine T_iald (kf_0_1 h0) dX0_perform_107 ?_
    refine T_ior dX0_perform_108 ?_
    refine T_putI (ty := .int) 5 FOk_0 h0 (by decide) (by decide) rfl (by decide +kernel) rfl rfl dX0_perform_109 tb_91 ?_
    refine T_mw (fun N11 => ?_)
    try dsimp only
    refine T_goto 220 dX0_perform_112 (by decide) ?_
    refine T_sub [] (lv' := []) rfl ?_
    exact t_X0_perform_b220 h0   _
  refine T_ite (fun hx1_4 => ?_) (fun hx1_4 => ?_)
  ·
    refine T_look (off := 50) 56 dX0_perform_6 (by decide) (by rw [hx1_4]; decide) (by decide) ?_
    refine T_aload_n 1 dX0_perform_56 rfl rfl ?_
    refine T_dup rfl dX0_perform_57 ?_
    refine T_getI 6 FOk_0 h0 (by decide) (by decide) dX0_perform_58 tb_95 ?_
    refine T_iload_n 3 dX0_perform_61 rfl rfl ?_
    refine T_aload_n 1 dX0_perform_62 rfl rfl ?_
    refine T_getI 3 FOk_0 h0 (by decide) (by decide) dX0_perform_63 tb_85 ?_
    refine T_isub dX0_perform_66 ?_
    refine T_callSI md_J9_abs_0f7a4 [.int (x2 - (M1.1 i0 3))] [.int (M1.1 i0 6), .ref i0] dX0_perform_67 rfl ok_J9_abs_0f7a4 tb_458 tb_459 (by decide) (Nat.le_of_ble_eq_true rfl) (fun _ _ h9 => C_J9_abs_0f7a4  _ h9) (fun r12 M12 => ?_)
    dsimp only
    refine T_iadd dX0_perform_70 ?_
    refine T_putI (ty := .int) 6 FOk_0 h0 (by decide) (by decide) rfl (by decide +kernel) rfl rfl dX0_perform_71 tb_95 ?_
    refine T_mw (fun N13 => ?_)
    try dsimp only
    refine T_aload_n 1 dX0_perform_74 rfl rfl ?_
    refine T_iload_n 3 dX0_perform_75 rfl rfl ?_
    refine T_putI (ty := .int) 3 FOk_0 h0 (by decide) (by decide) rfl (by decide +kernel) rfl rfl dX0_perform_76 tb_85 ?_
    refine T_mw (fun N14 => ?_)
    try dsimp only
    refine T_goto 220 dX0_perform_79 (by decide) ?_
    refine T_sub [] (lv' := []) rfl ?_
    exact t_X0_perform_b220 h0   _
  refine T_look (off := 204) 210 dX0_perform_6 (by decide) ((lv_osw hx1_0 (by decide)).trans ((lv_osw hx1_1 (by decide)).trans ((lv_osw hx1_2 (by decide)).trans ((lv_osw hx1_3 (by decide)).trans ((lv_osw hx1_4 (by decide)).trans (rfl)))))) (by decide) ?_
  refine T_aload_n 1 dX0_perform_210 rfl rfl ?_
  refine T_dup rfl dX0_perform_211 ?_
  refine T_getI 6 FOk_0 h0 (by decide) (by decide) dX0_perform_212 tb_95 ?_
  refine T_iconst (v := (1 : Int32)) (by decide) dX0_perform_215 ?_
  refine T_iadd dX0_perform_216 ?_
  refine T_putI (ty := .int) 6 FOk_0 h0 (by decide) (by decide) rfl (by decide +kernel) rfl rfl dX0_perform_217 tb_95 ?_
  refine T_mw (fun N15 => ?_)
  try dsimp only
  refine T_sub [] (lv' := []) rfl ?_
  exact t_X0_perform_b220 h0   _
theorem C_X0_perform {X : Scr} {i0 : Nat} (h0 : KD[i0]? = some (.inl 0)) (x1 : Int32) (x2 : Int32) {M : Mem} {r : Unit} {M' : Mem} (h : X0_perform i0 x1 x2 M = some (r, M')) : Ct X md_X0_perform [.ref i0, .int x1, .int x2] M (eV r) M' := Ct_of (by decide +kernel) (Nat.le_of_ble_eq_true rfl) (t_X0_perform h0 _ _ M) r M' h
-- X1_sumMinutes
def X1_sumMinutes_b35 (i0 : Nat) (i1 : Nat) (k9 : Int32 → Mem → Option (Unit × Mem)) (k35 : Int32 → Int32 → Int32 → Int32 → Mem → Option (Unit × Mem)) (x2 : Int32) (x3 : Int32) (x4 : Int32) (x5 : Int32) (M : Mem) : Option (Unit × Mem) :=
  if x3 ≤ x5 then
    k9 (x2 + (1 : Int32)) M
  else
    gd (ib x5 1024) (
      gd (ib (x3 ||| x5) 1024) (
        k35 x2 x3 x4 (x5 + (1 : Int32)) (mI M (rf i0 0) (x3 ||| x5).toNatClampNeg ((M.1 (rf i0 0) x5.toNatClampNeg) + x4))))
def X1_sumMinutes_l35 (i0 : Nat) (i1 : Nat) (k9 : Int32 → Mem → Option (Unit × Mem)) : Nat → Int32 → Int32 → Int32 → Int32 → Mem → Option (Unit × Mem)
  | 0 => fun _ _ _ _ _ => none
  | n + 1 => X1_sumMinutes_b35 i0 i1 k9 (X1_sumMinutes_l35 i0 i1 k9 n)
def X1_sumMinutes_b9 (i0 : Nat) (i1 : Nat) (k9 : Int32 → Mem → Option (Unit × Mem)) (x2 : Int32) (M : Mem) : Option (Unit × Mem) :=
  if (10 : Int32) ≤ x2 then
    some ((), M)
  else
    gd (ib x2 10) (
      gd (ib (M.1 (rf i1 0) x2.toNatClampNeg) 10) (
        iw (M.1 (rf i1 2) (M.1 (rf i1 0) x2.toNatClampNeg).toNatClampNeg) (fun v1 =>
          X1_sumMinutes_l35 i0 i1 k9 FU x2 ((1 : Int32) <<< (x2 &&& 31)) v1 (0 : Int32) M)))
def X1_sumMinutes_l9 (i0 : Nat) (i1 : Nat)  : Nat → Int32 → Mem → Option (Unit × Mem)
  | 0 => fun _ _ => none
  | n + 1 => X1_sumMinutes_b9 i0 i1 (X1_sumMinutes_l9 i0 i1  n)
def X1_sumMinutes (i0 : Nat) (i1 : Nat)   (M : Mem) : Option (Unit × Mem) :=
  gd (ib (0 : Int32) 1024) (
    X1_sumMinutes_l9 i0 i1  FU (0 : Int32) (mI M (rf i0 0) (0 : Int32).toNatClampNeg (0 : Int32)))
set_option maxHeartbeats 4000000 in
set_option maxRecDepth 100000 in
theorem t_X1_sumMinutes_b35 {X : Scr} {i0 : Nat} {i1 : Nat} (h0 : KD[i0]? = some (.inl 1)) (h1 : KD[i1]? = some (.inl 0)) {k9 : Int32 → Mem → Option (Unit × Mem)} (hk9 : ∀ (x2 : Int32) (M : Mem), T X eV (k9 x2 M) md_X1_sumMinutes 9 [(0, .ref i0), (1, .ref i1), (2, .int x2)] [] M) {k35 : Int32 → Int32 → Int32 → Int32 → Mem → Option (Unit × Mem)} (hk35 : ∀ (x2 : Int32) (x3 : Int32) (x4 : Int32) (x5 : Int32) (M : Mem), T X eV (k35 x2 x3 x4 x5 M) md_X1_sumMinutes 35 [(0, .ref i0), (1, .ref i1), (2, .int x2), (3, .int x3), (4, .int x4), (5, .int x5)] [] M) (x2 : Int32) (x3 : Int32) (x4 : Int32) (x5 : Int32) (M : Mem) : T X eV (X1_sumMinutes_b35 i0 i1 k9 k35 x2 x3 x4 x5 M) md_X1_sumMinutes 35 [(0, .ref i0), (1, .ref i1), (2, .int x2), (3, .int x3), (4, .int x4), (5, .int x5)] [] M := by
  unfold X1_sumMinutes_b35
  refine T_iload 5 dX1_sumMinutes_35 rfl ?_
  refine T_iload_n 3 dX1_sumMinutes_37 rfl rfl ?_
  refine T_icmp_ge 66 dX1_sumMinutes_38 (by decide) ?_ ?_
  ·
    refine T_iinc 2 [(2, .int (x2 + (1 : Int32))), (0, .ref i0), (1, .ref i1), (3, .int x3), (4, .int x4), (5, .int x5)] (v := (1 : Int32)) dX1_sumMinutes_66 rfl (by decide) (by decide) rfl ?_
    refine T_goto 9 dX1_sumMinutes_69 (by decide) ?_
    refine T_sub [1, 2, 0] (lv' := [(0, .ref i0), (1, .ref i1), (2, .int (x2 + (1 : Int32)))]) rfl ?_
    exact hk9 _ _
  ·
    refine T_aload_n 0 dX1_sumMinutes_41 rfl rfl ?_
    refine T_getR 0 FOk_1 h0 (by decide) (by decide) dX1_sumMinutes_42 tb_218 ?_
    refine T_iload_n 3 dX1_sumMinutes_45 rfl rfl ?_
    refine T_iload 5 dX1_sumMinutes_46 rfl ?_
    refine T_ior dX1_sumMinutes_48 ?_
    refine T_aload_n 0 dX1_sumMinutes_49 rfl rfl ?_
    refine T_getR 0 FOk_1 h0 (by decide) (by decide) dX1_sumMinutes_50 tb_218 ?_
    refine T_iload 5 dX1_sumMinutes_53 rfl ?_
    refine T_iald (kf_1_0 h0) dX1_sumMinutes_55 ?_
    refine T_iload 4 dX1_sumMinutes_56 rfl ?_
    refine T_iadd dX1_sumMinutes_58 ?_
    refine T_iast (kf_1_0 h0) dX1_sumMinutes_59 ?_
    refine T_iinc 5 [(5, .int (x5 + (1 : Int32))), (0, .ref i0), (1, .ref i1), (2, .int x2), (3, .int x3), (4, .int x4)] (v := (1 : Int32)) dX1_sumMinutes_60 rfl (by decide) (by decide) rfl ?_
    refine T_goto 35 dX1_sumMinutes_63 (by decide) ?_
    refine T_sub [1, 2, 3, 4, 5, 0] (lv' := [(0, .ref i0), (1, .ref i1), (2, .int x2), (3, .int x3), (4, .int x4), (5, .int (x5 + (1 : Int32)))]) rfl ?_
    exact hk35 _ _ _ _ _
theorem t_X1_sumMinutes_l35 {X : Scr} {i0 : Nat} {i1 : Nat} (h0 : KD[i0]? = some (.inl 1)) (h1 : KD[i1]? = some (.inl 0)) {k9 : Int32 → Mem → Option (Unit × Mem)} (hk9 : ∀ (x2 : Int32) (M : Mem), T X eV (k9 x2 M) md_X1_sumMinutes 9 [(0, .ref i0), (1, .ref i1), (2, .int x2)] [] M) (n : Nat) : ∀ (x2 : Int32) (x3 : Int32) (x4 : Int32) (x5 : Int32) (M : Mem), T X eV (X1_sumMinutes_l35 i0 i1 k9 n x2 x3 x4 x5 M) md_X1_sumMinutes 35 [(0, .ref i0), (1, .ref i1), (2, .int x2), (3, .int x3), (4, .int x4), (5, .int x5)] [] M := by
  induction n with
  | zero => intro x2 x3 x4 x5 M; exact T_none
  | succ n ih => intro x2 x3 x4 x5 M; exact t_X1_sumMinutes_b35 h0 h1 hk9 ih x2 x3 x4 x5 M
set_option maxHeartbeats 4000000 in
set_option maxRecDepth 100000 in
theorem t_X1_sumMinutes_b9 {X : Scr} {i0 : Nat} {i1 : Nat} (h0 : KD[i0]? = some (.inl 1)) (h1 : KD[i1]? = some (.inl 0)) {k9 : Int32 → Mem → Option (Unit × Mem)} (hk9 : ∀ (x2 : Int32) (M : Mem), T X eV (k9 x2 M) md_X1_sumMinutes 9 [(0, .ref i0), (1, .ref i1), (2, .int x2)] [] M) (x2 : Int32) (M : Mem) : T X eV (X1_sumMinutes_b9 i0 i1 k9 x2 M) md_X1_sumMinutes 9 [(0, .ref i0), (1, .ref i1), (2, .int x2)] [] M := by
  unfold X1_sumMinutes_b9
  refine T_iload_n 2 dX1_sumMinutes_9 rfl rfl ?_
  refine T_bipush (v := (10 : Int32)) (by decide) dX1_sumMinutes_10 ?_
  refine T_icmp_ge 72 dX1_sumMinutes_12 (by decide) ?_ ?_
  ·
    exact T_vret dX1_sumMinutes_72 rfl
  ·
    refine T_iconst (v := (1 : Int32)) (by decide) dX1_sumMinutes_15 ?_
    refine T_iload_n 2 dX1_sumMinutes_16 rfl rfl ?_
    refine T_ishl dX1_sumMinutes_17 ?_
    refine T_istore_n [(3, .int ((1 : Int32) <<< (x2 &&& 31))), (0, .ref i0), (1, .ref i1), (2, .int x2)] dX1_sumMinutes_18 rfl (by decide) rfl ?_
    refine T_aload_n 2 dX1_sumMinutes_19 rfl rfl ?_
    refine T_getR 2 FOk_0 h1 (by decide) (by decide) dX1_sumMinutes_20 tb_84 ?_
    refine T_aload_n 2 dX1_sumMinutes_23 rfl rfl ?_
    refine T_getR 0 FOk_0 h1 (by decide) (by decide) dX1_sumMinutes_24 tb_75 ?_
    refine T_iload_n 3 dX1_sumMinutes_27 rfl rfl ?_
    refine T_iald (kf_0_0 h1) dX1_sumMinutes_28 ?_
    refine T_iald (kf_0_2 h1) dX1_sumMinutes_29 ?_
    refine T_iw (fun v1 => ?_)
    try dsimp only
    refine T_istore [(4, .int v1), (3, .int ((1 : Int32) <<< (x2 &&& 31))), (0, .ref i0), (1, .ref i1), (2, .int x2)] dX1_sumMinutes_30 (by decide) rfl ?_
    refine T_iconst (v := (0 : Int32)) (by decide) dX1_sumMinutes_32 ?_
    refine T_istore [(5, .int (0 : Int32)), (4, .int v1), (3, .int ((1 : Int32) <<< (x2 &&& 31))), (0, .ref i0), (1, .ref i1), (2, .int x2)] dX1_sumMinutes_33 (by decide) rfl ?_
    refine T_sub [3, 4, 5, 2, 1, 0] (lv' := [(0, .ref i0), (1, .ref i1), (2, .int x2), (3, .int ((1 : Int32) <<< (x2 &&& 31))), (4, .int v1), (5, .int (0 : Int32))]) rfl ?_
    exact t_X1_sumMinutes_l35 h0 h1 hk9 _ _ _ _ _ _
theorem t_X1_sumMinutes_l9 {X : Scr} {i0 : Nat} {i1 : Nat} (h0 : KD[i0]? = some (.inl 1)) (h1 : KD[i1]? = some (.inl 0)) (n : Nat) : ∀ (x2 : Int32) (M : Mem), T X eV (X1_sumMinutes_l9 i0 i1  n x2 M) md_X1_sumMinutes 9 [(0, .ref i0), (1, .ref i1), (2, .int x2)] [] M := by
  induction n with
  | zero => intro x2 M; exact T_none
  | succ n ih => intro x2 M; exact t_X1_sumMinutes_b9 h0 h1 ih x2 M
set_option maxHeartbeats 4000000 in
set_option maxRecDepth 100000 in
theorem t_X1_sumMinutes {X : Scr} {i0 : Nat} {i1 : Nat} (h0 : KD[i0]? = some (.inl 1)) (h1 : KD[i1]? = some (.inl 0))  (M : Mem) : T X eV (X1_sumMinutes i0 i1   M) md_X1_sumMinutes 0 [(0, .ref i0), (1, .ref i1)] [] M := by
  unfold X1_sumMinutes
  refine T_aload_n 0 dX1_sumMinutes_0 rfl rfl ?_
  refine T_getR 0 FOk_1 h0 (by decide) (by decide) dX1_sumMinutes_1 tb_218 ?_
  refine T_iconst (v := (0 : Int32)) (by decide) dX1_sumMinutes_4 ?_
  refine T_iconst (v := (0 : Int32)) (by decide) dX1_sumMinutes_5 ?_
  refine T_iast (kf_1_0 h0) dX1_sumMinutes_6 ?_
  refine T_iconst (v := (0 : Int32)) (by decide) dX1_sumMinutes_7 ?_
  refine T_istore_n [(2, .int (0 : Int32)), (0, .ref i0), (1, .ref i1)] dX1_sumMinutes_8 rfl (by decide) rfl ?_
  refine T_sub [1, 2, 0] (lv' := [(0, .ref i0), (1, .ref i1), (2, .int (0 : Int32))]) rfl ?_
  exact t_X1_sumMinutes_l9 h0 h1  _ _ _
theorem C_X1_sumMinutes {X : Scr} {i0 : Nat} {i1 : Nat} (h0 : KD[i0]? = some (.inl 1)) (h1 : KD[i1]? = some (.inl 0))  {M : Mem} {r : Unit} {M' : Mem} (h : X1_sumMinutes i0 i1  M = some (r, M')) : Ct X md_X1_sumMinutes [.ref i0, .ref i1] M (eV r) M' := Ct_of (by decide +kernel) (Nat.le_of_ble_eq_true rfl) (t_X1_sumMinutes h0 h1  M) r M' h
-- J6_bitCount_0f7a4
def J6_bitCount_0f7a4   (x0 : Int32) (M : Mem) : Option (Int32 × Mem) :=
  iw (x0 - (((x0.toUInt32 >>> ((1 : Int32).toUInt32 &&& Int32.toUInt32 31)).toInt32) &&& (1431655765 : Int32))) (fun v1 =>
    iw ((v1 &&& (858993459 : Int32)) + (((v1.toUInt32 >>> ((2 : Int32).toUInt32 &&& Int32.toUInt32 31)).toInt32) &&& (858993459 : Int32))) (fun v2 =>
      iw ((v2 + ((v2.toUInt32 >>> ((4 : Int32).toUInt32 &&& Int32.toUInt32 31)).toInt32)) &&& (252645135 : Int32)) (fun v3 =>
        iw (v3 + ((v3.toUInt32 >>> ((8 : Int32).toUInt32 &&& Int32.toUInt32 31)).toInt32)) (fun v4 =>
          iw (v4 + ((v4.toUInt32 >>> ((16 : Int32).toUInt32 &&& Int32.toUInt32 31)).toInt32)) (fun v5 =>
            some ((v5 &&& (63 : Int32)), M))))))
set_option maxHeartbeats 4000000 in
set_option maxRecDepth 100000 in
theorem t_J6_bitCount_0f7a4 {X : Scr}   (x0 : Int32) (M : Mem) : T X eI (J6_bitCount_0f7a4   x0 M) md_J6_bitCount_0f7a4 0 [(0, .int x0)] [] M := by
  unfold J6_bitCount_0f7a4
  refine T_iload_n 0 dJ6_bitCount_0f7a4_0 rfl rfl ?_
  refine T_iload_n 0 dJ6_bitCount_0f7a4_1 rfl rfl ?_
  refine T_iconst (v := (1 : Int32)) (by decide) dJ6_bitCount_0f7a4_2 ?_
  refine T_iushr dJ6_bitCount_0f7a4_3 ?_
  refine T_ldcw (v := (1431655765 : Int32)) dJ6_bitCount_0f7a4_4 tb_527 ?_
  refine T_iand dJ6_bitCount_0f7a4_7 ?_
  refine T_isub dJ6_bitCount_0f7a4_8 ?_
  refine T_iw (fun v1 => ?_)
  try dsimp only
  refine T_istore_n [(0, .int v1)] dJ6_bitCount_0f7a4_9 rfl (by decide) rfl ?_
  refine T_iload_n 0 dJ6_bitCount_0f7a4_10 rfl rfl ?_
  refine T_ldcw (v := (858993459 : Int32)) dJ6_bitCount_0f7a4_11 tb_528 ?_
  refine T_iand dJ6_bitCount_0f7a4_14 ?_
  refine T_iload_n 0 dJ6_bitCount_0f7a4_15 rfl rfl ?_
  refine T_iconst (v := (2 : Int32)) (by decide) dJ6_bitCount_0f7a4_16 ?_
  refine T_iushr dJ6_bitCount_0f7a4_17 ?_
  refine T_ldcw (v := (858993459 : Int32)) dJ6_bitCount_0f7a4_18 tb_528 ?_
  refine T_iand dJ6_bitCount_0f7a4_21 ?_
  refine T_iadd dJ6_bitCount_0f7a4_22 ?_
  refine T_iw (fun v2 => ?_)
  try dsimp only
  refine T_istore_n [(0, .int v2)] dJ6_bitCount_0f7a4_23 rfl (by decide) rfl ?_
  refine T_iload_n 0 dJ6_bitCount_0f7a4_24 rfl rfl ?_
  refine T_iload_n 0 dJ6_bitCount_0f7a4_25 rfl rfl ?_
  refine T_iconst (v := (4 : Int32)) (by decide) dJ6_bitCount_0f7a4_26 ?_
  refine T_iushr dJ6_bitCount_0f7a4_27 ?_
  refine T_iadd dJ6_bitCount_0f7a4_28 ?_
  refine T_ldcw (v := (252645135 : Int32)) dJ6_bitCount_0f7a4_29 tb_529 ?_
  refine T_iand dJ6_bitCount_0f7a4_32 ?_
  refine T_iw (fun v3 => ?_)
  try dsimp only
  refine T_istore_n [(0, .int v3)] dJ6_bitCount_0f7a4_33 rfl (by decide) rfl ?_
  refine T_iload_n 0 dJ6_bitCount_0f7a4_34 rfl rfl ?_
  refine T_iload_n 0 dJ6_bitCount_0f7a4_35 rfl rfl ?_
  refine T_bipush (v := (8 : Int32)) (by decide) dJ6_bitCount_0f7a4_36 ?_
  refine T_iushr dJ6_bitCount_0f7a4_38 ?_
  refine T_iadd dJ6_bitCount_0f7a4_39 ?_
  refine T_iw (fun v4 => ?_)
  try dsimp only
  refine T_istore_n [(0, .int v4)] dJ6_bitCount_0f7a4_40 rfl (by decide) rfl ?_
  refine T_iload_n 0 dJ6_bitCount_0f7a4_41 rfl rfl ?_
  refine T_iload_n 0 dJ6_bitCount_0f7a4_42 rfl rfl ?_
  refine T_bipush (v := (16 : Int32)) (by decide) dJ6_bitCount_0f7a4_43 ?_
  refine T_iushr dJ6_bitCount_0f7a4_45 ?_
  refine T_iadd dJ6_bitCount_0f7a4_46 ?_
  refine T_iw (fun v5 => ?_)
  try dsimp only
  refine T_istore_n [(0, .int v5)] dJ6_bitCount_0f7a4_47 rfl (by decide) rfl ?_
  refine T_iload_n 0 dJ6_bitCount_0f7a4_48 rfl rfl ?_
  refine T_bipush (v := (63 : Int32)) (by decide) dJ6_bitCount_0f7a4_49 ?_
  refine T_iand dJ6_bitCount_0f7a4_51 ?_
  exact T_iret dJ6_bitCount_0f7a4_52 rfl
theorem C_J6_bitCount_0f7a4 {X : Scr}   (x0 : Int32) {M : Mem} {r : Int32} {M' : Mem} (h : J6_bitCount_0f7a4  x0 M = some (r, M')) : Ct X md_J6_bitCount_0f7a4 [.int x0] M (eI r) M' := Ct_of (by decide +kernel) (Nat.le_of_ble_eq_true rfl) (t_J6_bitCount_0f7a4  _ M) r M' h
-- J9_min_7cf53
def J9_min_7cf53_b10   (s0 : Int32) (M : Mem) : Option (Int32 × Mem) :=
  some (s0, M)
def J9_min_7cf53   (x0 : Int32) (x1 : Int32) (M : Mem) : Option (Int32 × Mem) :=
  if x1 < x0 then
    J9_min_7cf53_b10   x1 M
  else
    J9_min_7cf53_b10   x0 M
set_option maxHeartbeats 4000000 in
set_option maxRecDepth 100000 in
theorem t_J9_min_7cf53_b10 {X : Scr}   (s0 : Int32) (M : Mem) : T X eI (J9_min_7cf53_b10   s0 M) md_J9_min_7cf53 10 [] [.int s0] M := by
  unfold J9_min_7cf53_b10
  exact T_iret dJ9_min_7cf53_10 rfl
set_option maxHeartbeats 4000000 in
set_option maxRecDepth 100000 in
theorem t_J9_min_7cf53 {X : Scr}   (x0 : Int32) (x1 : Int32) (M : Mem) : T X eI (J9_min_7cf53   x0 x1 M) md_J9_min_7cf53 0 [(0, .int x0), (1, .int x1)] [] M := by
  unfold J9_min_7cf53
  refine T_iload_n 0 dJ9_min_7cf53_0 rfl rfl ?_
  refine T_iload_n 1 dJ9_min_7cf53_1 rfl rfl ?_
  refine T_icmp_gt 9 dJ9_min_7cf53_2 (by decide) ?_ ?_
  ·
    refine T_iload_n 1 dJ9_min_7cf53_9 rfl rfl ?_
    refine T_sub [] (lv' := []) rfl ?_
    exact t_J9_min_7cf53_b10   _ _
  ·
    refine T_iload_n 0 dJ9_min_7cf53_5 rfl rfl ?_
    refine T_goto 10 dJ9_min_7cf53_6 (by decide) ?_
    refine T_sub [] (lv' := []) rfl ?_
    exact t_J9_min_7cf53_b10   _ _
theorem C_J9_min_7cf53 {X : Scr}   (x0 : Int32) (x1 : Int32) {M : Mem} {r : Int32} {M' : Mem} (h : J9_min_7cf53  x0 x1 M = some (r, M')) : Ct X md_J9_min_7cf53 [.int x0, .int x1] M (eI r) M' := Ct_of (by decide +kernel) (Nat.le_of_ble_eq_true rfl) (t_J9_min_7cf53  _ _ M) r M' h
