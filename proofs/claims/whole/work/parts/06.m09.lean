-- X12_change
def X12_change (i0 : Nat)  (x1 : Int32) (M : Mem) : Option (Unit × Mem) :=
  gd (ib (M.1 i0 3) 10) (
    iw (M.1 (rf i0 0) (M.1 i0 3).toNatClampNeg) (fun v1 =>
      gd (ib x1 10) (
        gd (ib (M.1 i0 3) 10) (
          gd (ib x1 10) (
            some ((), (mI (mI M (rf i0 0) (M.1 i0 3).toNatClampNeg (M.1 (rf i0 0) x1.toNatClampNeg)) (rf i0 0) x1.toNatClampNeg v1)))))))
set_option maxHeartbeats 4000000 in
set_option maxRecDepth 100000 in
theorem t_X12_change {X : Scr} {i0 : Nat} (h0 : KD[i0]? = some (.inl 12)) (x1 : Int32) (M : Mem) : T X eV (X12_change i0  x1 M) md_X12_change 0 [(0, .ref i0), (1, .int x1)] [] M := by
  unfold X12_change
  refine T_aload_n 0 dX12_change_0 rfl rfl ?_
  refine T_getR 0 FOk_12 h0 (by decide) (by decide) dX12_change_1 tb_713 ?_
  refine T_aload_n 0 dX12_change_4 rfl rfl ?_
  refine T_getI 3 FOk_12 h0 (by decide) (by decide) dX12_change_5 tb_716 ?_
  refine T_iald (kf_12_0 h0) dX12_change_8 ?_
  refine T_iw (fun v1 => ?_)
  try dsimp only
  refine T_istore_n [(2, .int v1), (0, .ref i0), (1, .int x1)] dX12_change_9 rfl (by decide) rfl ?_
  refine T_aload_n 1 dX12_change_10 rfl rfl ?_
  refine T_getR 0 FOk_12 h0 (by decide) (by decide) dX12_change_11 tb_713 ?_
  refine T_aload_n 1 dX12_change_14 rfl rfl ?_
  refine T_getI 3 FOk_12 h0 (by decide) (by decide) dX12_change_15 tb_716 ?_
  refine T_aload_n 1 dX12_change_18 rfl rfl ?_
  refine T_getR 0 FOk_12 h0 (by decide) (by decide) dX12_change_19 tb_713 ?_
  refine T_iload_n 2 dX12_change_22 rfl rfl ?_
  refine T_iald (kf_12_0 h0) dX12_change_23 ?_
  refine T_iast (kf_12_0 h0) dX12_change_24 ?_
  refine T_aload_n 1 dX12_change_25 rfl rfl ?_
  refine T_getR 0 FOk_12 h0 (by decide) (by decide) dX12_change_26 tb_713 ?_
  refine T_iload_n 2 dX12_change_29 rfl rfl ?_
  refine T_iload_n 0 dX12_change_30 rfl rfl ?_
  refine T_iast (kf_12_0 h0) dX12_change_31 ?_
  exact T_vret dX12_change_32 rfl
theorem C_X12_change {X : Scr} {i0 : Nat} (h0 : KD[i0]? = some (.inl 12)) (x1 : Int32) {M : Mem} {r : Unit} {M' : Mem} (h : X12_change i0 x1 M = some (r, M')) : Ct X md_X12_change [.ref i0, .int x1] M (eV r) M' := Ct_of (by decide +kernel) (Nat.le_of_ble_eq_true rfl) (t_X12_change h0 _ M) r M' h
-- X12_happen
def X12_happen_b85 (i0 : Nat)   (M : Mem) : Option (Unit × Mem) :=
  some ((), M)
def X12_happen (i0 : Nat)  (x1 : Int32) (x2 : Int32) (M : Mem) : Option (Unit × Mem) :=
  if x1 = (0 : Int32) then
    (X12_go i0 x2 M).bind (fun p2 =>
      X12_happen_b85 i0   p2.2)
  else if x1 = (1 : Int32) then
    (X12_look i0  M).bind (fun p3 =>
      X12_happen_b85 i0   p3.2)
  else if x1 = (2 : Int32) then
    (X12_lay i0 x2 M).bind (fun p4 =>
      X12_happen_b85 i0   p4.2)
  else if x1 = (3 : Int32) then
    (X12_take i0 x2 M).bind (fun p5 =>
      X12_happen_b85 i0   p5.2)
  else if x1 = (4 : Int32) then
    (X12_change i0 x2 M).bind (fun p6 =>
      X12_happen_b85 i0   p6.2)
  else 
    X12_happen_b85 i0   (mI M i0 6 ((M.1 i0 6) + (1 : Int32)))
set_option maxHeartbeats 4000000 in
set_option maxRecDepth 100000 in
theorem t_X12_happen_b85 {X : Scr} {i0 : Nat} (h0 : KD[i0]? = some (.inl 12))  (M : Mem) : T X eV (X12_happen_b85 i0   M) md_X12_happen 85 [] [] M := by
  unfold X12_happen_b85
  exact T_vret dX12_happen_85 rfl
set_option maxHeartbeats 4000000 in
set_option maxRecDepth 100000 in
theorem t_X12_happen {X : Scr} {i0 : Nat} (h0 : KD[i0]? = some (.inl 12)) (x1 : Int32) (x2 : Int32) (M : Mem) : T X eV (X12_happen i0  x1 x2 M) md_X12_happen 0 [(0, .ref i0), (1, .int x1), (2, .int x2)] [] M := by
  unfold X12_happen
  refine T_iload_n 1 dX12_happen_0 rfl rfl ?_
  refine T_ite (fun hx0_0 => ?_) (fun hx0_0 => ?_)
  ·
    refine T_tabIn (off := 35) 36 dX12_happen_1 (by rw [hx0_0]; decide) (by rw [hx0_0]; decide) (by rw [hx0_0]; decide) (by decide) ?_
    refine T_aload_n 0 dX12_happen_36 rfl rfl ?_
    refine T_iload_n 2 dX12_happen_37 rfl rfl ?_
    refine T_callVU md_X12_go [.int x2] [] dX12_happen_38 h0 rfl rfl ok_X12_go tb_910 tb_912 tb_24 (by decide) (Nat.le_of_ble_eq_true rfl) (fun _ _ h9 => C_X12_go h0 _ h9) (fun r2 M2 => ?_)
    dsimp only
    refine T_goto 85 dX12_happen_41 (by decide) ?_
    refine T_sub [] (lv' := []) rfl ?_
    exact t_X12_happen_b85 h0   _
  refine T_ite (fun hx0_1 => ?_) (fun hx0_1 => ?_)
  ·
    refine T_tabIn (off := 43) 44 dX12_happen_1 (by rw [hx0_1]; decide) (by rw [hx0_1]; decide) (by rw [hx0_1]; decide) (by decide) ?_
    refine T_aload_n 0 dX12_happen_44 rfl rfl ?_
    refine T_callVU md_X12_look [] [] dX12_happen_45 h0 rfl rfl ok_X12_look tb_914 tb_916 tb_25 (by decide) (Nat.le_of_ble_eq_true rfl) (fun _ _ h9 => C_X12_look h0  h9) (fun r3 M3 => ?_)
    dsimp only
    refine T_goto 85 dX12_happen_48 (by decide) ?_
    refine T_sub [] (lv' := []) rfl ?_
    exact t_X12_happen_b85 h0   _
  refine T_ite (fun hx0_2 => ?_) (fun hx0_2 => ?_)
  ·
    refine T_tabIn (off := 50) 51 dX12_happen_1 (by rw [hx0_2]; decide) (by rw [hx0_2]; decide) (by rw [hx0_2]; decide) (by decide) ?_
    refine T_aload_n 0 dX12_happen_51 rfl rfl ?_
    refine T_iload_n 2 dX12_happen_52 rfl rfl ?_
    refine T_callVU md_X12_lay [.int x2] [] dX12_happen_53 h0 rfl rfl ok_X12_lay tb_918 tb_920 tb_26 (by decide) (Nat.le_of_ble_eq_true rfl) (fun _ _ h9 => C_X12_lay h0 _ h9) (fun r4 M4 => ?_)
    dsimp only
    refine T_goto 85 dX12_happen_56 (by decide) ?_
    refine T_sub [] (lv' := []) rfl ?_
    exact t_X12_happen_b85 h0   _
  refine T_ite (fun hx0_3 => ?_) (fun hx0_3 => ?_)
  ·
    refine T_tabIn (off := 58) 59 dX12_happen_1 (by rw [hx0_3]; decide) (by rw [hx0_3]; decide) (by rw [hx0_3]; decide) (by decide) ?_
    refine T_aload_n 0 dX12_happen_59 rfl rfl ?_
    refine T_iload_n 2 dX12_happen_60 rfl rfl ?_
    refine T_callVU md_X12_take [.int x2] [] dX12_happen_61 h0 rfl rfl ok_X12_take tb_922 tb_924 tb_27 (by decide) (Nat.le_of_ble_eq_true rfl) (fun _ _ h9 => C_X12_take h0 _ h9) (fun r5 M5 => ?_)
    dsimp only
    refine T_goto 85 dX12_happen_64 (by decide) ?_
    refine T_sub [] (lv' := []) rfl ?_
    exact t_X12_happen_b85 h0   _
  refine T_ite (fun hx0_4 => ?_) (fun hx0_4 => ?_)
  ·
    refine T_tabIn (off := 66) 67 dX12_happen_1 (by rw [hx0_4]; decide) (by rw [hx0_4]; decide) (by rw [hx0_4]; decide) (by decide) ?_
    refine T_aload_n 0 dX12_happen_67 rfl rfl ?_
    refine T_iload_n 2 dX12_happen_68 rfl rfl ?_
    refine T_callVU md_X12_change [.int x2] [] dX12_happen_69 h0 rfl rfl ok_X12_change tb_926 tb_928 tb_28 (by decide) (Nat.le_of_ble_eq_true rfl) (fun _ _ h9 => C_X12_change h0 _ h9) (fun r6 M6 => ?_)
    dsimp only
    refine T_goto 85 dX12_happen_72 (by decide) ?_
    refine T_sub [] (lv' := []) rfl ?_
    exact t_X12_happen_b85 h0   _
  refine T_tabOut 75 dX12_happen_1 (tab_out (n := 5) (by decide) (lt_s (lt_s (lt_s (lt_s (lt_s lt_0 (lv_neT hx0_0 (by decide))) (lv_neT hx0_1 (by decide))) (lv_neT hx0_2 (by decide))) (lv_neT hx0_3 (by decide))) (lv_neT hx0_4 (by decide)))) (by decide) ?_
  refine T_aload_n 0 dX12_happen_75 rfl rfl ?_
  refine T_dup rfl dX12_happen_76 ?_
  refine T_getI 6 FOk_12 h0 (by decide) (by decide) dX12_happen_77 tb_719 ?_
  refine T_iconst (v := (1 : Int32)) (by decide) dX12_happen_80 ?_
  refine T_iadd dX12_happen_81 ?_
  refine T_putI (ty := .int) 6 FOk_12 h0 (by decide) (by decide) rfl (by decide +kernel) rfl rfl dX12_happen_82 tb_719 ?_
  refine T_sub [] (lv' := []) rfl ?_
  exact t_X12_happen_b85 h0   _
theorem C_X12_happen {X : Scr} {i0 : Nat} (h0 : KD[i0]? = some (.inl 12)) (x1 : Int32) (x2 : Int32) {M : Mem} {r : Unit} {M' : Mem} (h : X12_happen i0 x1 x2 M = some (r, M')) : Ct X md_X12_happen [.ref i0, .int x1, .int x2] M (eV r) M' := Ct_of (by decide +kernel) (Nat.le_of_ble_eq_true rfl) (t_X12_happen h0 _ _ M) r M' h
-- X12_keepNow
def X12_keepNow_b2 (i0 : Nat) (k2 : Int32 → Mem → Option (Unit × Mem)) (x1 : Int32) (M : Mem) : Option (Unit × Mem) :=
  if (10 : Int32) ≤ x1 then
    gd (ib (20 : Int32) 24) (
      mw (mI M (rf i0 17) (20 : Int32).toNatClampNeg (M.1 i0 3)) (fun N1 =>
        gd (ib (21 : Int32) 24) (
          mw (mI N1 (rf i0 17) (21 : Int32).toNatClampNeg (N1.1 i0 4)) (fun N2 =>
            gd (ib (22 : Int32) 24) (
              mw (mI N2 (rf i0 17) (22 : Int32).toNatClampNeg (N2.1 i0 5)) (fun N3 =>
                gd (ib (23 : Int32) 24) (
                  mw (mI N3 (rf i0 17) (23 : Int32).toNatClampNeg (N3.1 i0 6)) (fun N4 =>
                    some ((), N4)))))))))
  else
    gd (ib x1 10) (
      gd (ib x1 24) (
        mw (mI M (rf i0 17) x1.toNatClampNeg (M.1 (rf i0 0) x1.toNatClampNeg)) (fun N5 =>
          gd (ib x1 10) (
            gd (ib ((10 : Int32) + x1) 24) (
              mw (mI N5 (rf i0 17) ((10 : Int32) + x1).toNatClampNeg (N5.1 (rf i0 1) x1.toNatClampNeg)) (fun N6 =>
                k2 (x1 + (1 : Int32)) N6))))))
def X12_keepNow_l2 (i0 : Nat)  : Nat → Int32 → Mem → Option (Unit × Mem)
  | 0 => fun _ _ => none
  | n + 1 => X12_keepNow_b2 i0 (X12_keepNow_l2 i0  n)
def X12_keepNow (i0 : Nat)   (M : Mem) : Option (Unit × Mem) :=
  X12_keepNow_l2 i0  FU (0 : Int32) M
set_option maxHeartbeats 4000000 in
set_option maxRecDepth 100000 in
theorem t_X12_keepNow_b2 {X : Scr} {i0 : Nat} (h0 : KD[i0]? = some (.inl 12)) {k2 : Int32 → Mem → Option (Unit × Mem)} (hk2 : ∀ (x1 : Int32) (M : Mem), T X eV (k2 x1 M) md_X12_keepNow 2 [(0, .ref i0), (1, .int x1)] [] M) (x1 : Int32) (M : Mem) : T X eV (X12_keepNow_b2 i0 k2 x1 M) md_X12_keepNow 2 [(0, .ref i0), (1, .int x1)] [] M := by
  unfold X12_keepNow_b2
  refine T_iload_n 1 dX12_keepNow_2 rfl rfl ?_
  refine T_bipush (v := (10 : Int32)) (by decide) dX12_keepNow_3 ?_
  refine T_icmp_ge 41 dX12_keepNow_5 (by decide) ?_ ?_
  ·
    refine T_aload_n 0 dX12_keepNow_41 rfl rfl ?_
    refine T_getR 17 FOk_12 h0 (by decide) (by decide) dX12_keepNow_42 tb_730 ?_
    refine T_bipush (v := (20 : Int32)) (by decide) dX12_keepNow_45 ?_
    refine T_aload_n 0 dX12_keepNow_47 rfl rfl ?_
    refine T_getI 3 FOk_12 h0 (by decide) (by decide) dX12_keepNow_48 tb_716 ?_
    refine T_iast (kf_12_17 h0) dX12_keepNow_51 ?_
    refine T_mw (fun N1 => ?_)
    try dsimp only
    refine T_aload_n 0 dX12_keepNow_52 rfl rfl ?_
    refine T_getR 17 FOk_12 h0 (by decide) (by decide) dX12_keepNow_53 tb_730 ?_
    refine T_bipush (v := (21 : Int32)) (by decide) dX12_keepNow_56 ?_
    refine T_aload_n 0 dX12_keepNow_58 rfl rfl ?_
    refine T_getI 4 FOk_12 h0 (by decide) (by decide) dX12_keepNow_59 tb_717 ?_
    refine T_iast (kf_12_17 h0) dX12_keepNow_62 ?_
    refine T_mw (fun N2 => ?_)
    try dsimp only
    refine T_aload_n 0 dX12_keepNow_63 rfl rfl ?_
    refine T_getR 17 FOk_12 h0 (by decide) (by decide) dX12_keepNow_64 tb_730 ?_
    refine T_bipush (v := (22 : Int32)) (by decide) dX12_keepNow_67 ?_
    refine T_aload_n 0 dX12_keepNow_69 rfl rfl ?_
    refine T_getI 5 FOk_12 h0 (by decide) (by decide) dX12_keepNow_70 tb_718 ?_
    refine T_iast (kf_12_17 h0) dX12_keepNow_73 ?_
    refine T_mw (fun N3 => ?_)
    try dsimp only
    refine T_aload_n 0 dX12_keepNow_74 rfl rfl ?_
    refine T_getR 17 FOk_12 h0 (by decide) (by decide) dX12_keepNow_75 tb_730 ?_
    refine T_bipush (v := (23 : Int32)) (by decide) dX12_keepNow_78 ?_
    refine T_aload_n 0 dX12_keepNow_80 rfl rfl ?_
    refine T_getI 6 FOk_12 h0 (by decide) (by decide) dX12_keepNow_81 tb_719 ?_
    refine T_iast (kf_12_17 h0) dX12_keepNow_84 ?_
    refine T_mw (fun N4 => ?_)
    try dsimp only
    exact T_vret dX12_keepNow_85 rfl
  ·
    refine T_aload_n 0 dX12_keepNow_8 rfl rfl ?_
    refine T_getR 17 FOk_12 h0 (by decide) (by decide) dX12_keepNow_9 tb_730 ?_
    refine T_iload_n 1 dX12_keepNow_12 rfl rfl ?_
    refine T_aload_n 0 dX12_keepNow_13 rfl rfl ?_
    refine T_getR 0 FOk_12 h0 (by decide) (by decide) dX12_keepNow_14 tb_713 ?_
    refine T_iload_n 1 dX12_keepNow_17 rfl rfl ?_
    refine T_iald (kf_12_0 h0) dX12_keepNow_18 ?_
    refine T_iast (kf_12_17 h0) dX12_keepNow_19 ?_
    refine T_mw (fun N5 => ?_)
    try dsimp only
    refine T_aload_n 0 dX12_keepNow_20 rfl rfl ?_
    refine T_getR 17 FOk_12 h0 (by decide) (by decide) dX12_keepNow_21 tb_730 ?_
    refine T_bipush (v := (10 : Int32)) (by decide) dX12_keepNow_24 ?_
    refine T_iload_n 1 dX12_keepNow_26 rfl rfl ?_
    refine T_iadd dX12_keepNow_27 ?_
    refine T_aload_n 0 dX12_keepNow_28 rfl rfl ?_
    refine T_getR 1 FOk_12 h0 (by decide) (by decide) dX12_keepNow_29 tb_714 ?_
    refine T_iload_n 1 dX12_keepNow_32 rfl rfl ?_
    refine T_iald (kf_12_1 h0) dX12_keepNow_33 ?_
    refine T_iast (kf_12_17 h0) dX12_keepNow_34 ?_
    refine T_mw (fun N6 => ?_)
    try dsimp only
    refine T_iinc 1 [(1, .int (x1 + (1 : Int32))), (0, .ref i0)] (v := (1 : Int32)) dX12_keepNow_35 rfl (by decide) (by decide) rfl ?_
    refine T_goto 2 dX12_keepNow_38 (by decide) ?_
    refine T_sub [1, 0] (lv' := [(0, .ref i0), (1, .int (x1 + (1 : Int32)))]) rfl ?_
    exact hk2 _ _
theorem t_X12_keepNow_l2 {X : Scr} {i0 : Nat} (h0 : KD[i0]? = some (.inl 12)) (n : Nat) : ∀ (x1 : Int32) (M : Mem), T X eV (X12_keepNow_l2 i0  n x1 M) md_X12_keepNow 2 [(0, .ref i0), (1, .int x1)] [] M := by
  induction n with
  | zero => intro x1 M; exact T_none
  | succ n ih => intro x1 M; exact t_X12_keepNow_b2 h0 ih x1 M
set_option maxHeartbeats 4000000 in
set_option maxRecDepth 100000 in
theorem t_X12_keepNow {X : Scr} {i0 : Nat} (h0 : KD[i0]? = some (.inl 12))  (M : Mem) : T X eV (X12_keepNow i0   M) md_X12_keepNow 0 [(0, .ref i0)] [] M := by
  unfold X12_keepNow
  refine T_iconst (v := (0 : Int32)) (by decide) dX12_keepNow_0 ?_
  refine T_istore_n [(1, .int (0 : Int32)), (0, .ref i0)] dX12_keepNow_1 rfl (by decide) rfl ?_
  refine T_sub [1, 0] (lv' := [(0, .ref i0), (1, .int (0 : Int32))]) rfl ?_
  exact t_X12_keepNow_l2 h0  _ _ _
theorem C_X12_keepNow {X : Scr} {i0 : Nat} (h0 : KD[i0]? = some (.inl 12))  {M : Mem} {r : Unit} {M' : Mem} (h : X12_keepNow i0  M = some (r, M')) : Ct X md_X12_keepNow [.ref i0] M (eV r) M' := Ct_of (by decide +kernel) (Nat.le_of_ble_eq_true rfl) (t_X12_keepNow h0  M) r M' h
-- X12_back
def X12_back_b2 (i0 : Nat) (k2 : Int32 → Int32 → Mem → Option (Int32 × Mem)) (x1 : Int32) (x2 : Int32) (M : Mem) : Option (Int32 × Mem) :=
  if (10 : Int32) ≤ x2 then
    gd (ib (20 : Int32) 24) (
      mw (mI M i0 3 (M.1 (rf i0 17) (20 : Int32).toNatClampNeg)) (fun N1 =>
        gd (ib (21 : Int32) 24) (
          mw (mI N1 i0 4 (N1.1 (rf i0 17) (21 : Int32).toNatClampNeg)) (fun N2 =>
            gd (ib (22 : Int32) 24) (
              mw (mI N2 i0 5 (N2.1 (rf i0 17) (22 : Int32).toNatClampNeg)) (fun N3 =>
                gd (ib (23 : Int32) 24) (
                  mw (mI N3 i0 6 (N3.1 (rf i0 17) (23 : Int32).toNatClampNeg)) (fun N4 =>
                    some (x1, N4)))))))))
  else
    gd (ib x2 24) (
      gd (ib x2 10) (
        mw (mI M (rf i0 0) x2.toNatClampNeg (M.1 (rf i0 17) x2.toNatClampNeg)) (fun N5 =>
          gd (ib ((10 : Int32) + x2) 24) (
            gd (ib x2 10) (
              mw (mI N5 (rf i0 1) x2.toNatClampNeg (N5.1 (rf i0 17) ((10 : Int32) + x2).toNatClampNeg)) (fun N6 =>
                k2 x1 (x2 + (1 : Int32)) N6))))))
def X12_back_l2 (i0 : Nat)  : Nat → Int32 → Int32 → Mem → Option (Int32 × Mem)
  | 0 => fun _ _ _ => none
  | n + 1 => X12_back_b2 i0 (X12_back_l2 i0  n)
def X12_back (i0 : Nat)  (x1 : Int32) (M : Mem) : Option (Int32 × Mem) :=
  X12_back_l2 i0  FU x1 (0 : Int32) M
set_option maxHeartbeats 4000000 in
set_option maxRecDepth 100000 in
theorem t_X12_back_b2 {X : Scr} {i0 : Nat} (h0 : KD[i0]? = some (.inl 12)) {k2 : Int32 → Int32 → Mem → Option (Int32 × Mem)} (hk2 : ∀ (x1 : Int32) (x2 : Int32) (M : Mem), T X eI (k2 x1 x2 M) md_X12_back 2 [(0, .ref i0), (1, .int x1), (2, .int x2)] [] M) (x1 : Int32) (x2 : Int32) (M : Mem) : T X eI (X12_back_b2 i0 k2 x1 x2 M) md_X12_back 2 [(0, .ref i0), (1, .int x1), (2, .int x2)] [] M := by
  unfold X12_back_b2
  refine T_iload_n 2 dX12_back_2 rfl rfl ?_
  refine T_bipush (v := (10 : Int32)) (by decide) dX12_back_3 ?_
  refine T_icmp_ge 41 dX12_back_5 (by decide) ?_ ?_
  ·
    refine T_aload_n 0 dX12_back_41 rfl rfl ?_
    refine T_aload_n 0 dX12_back_42 rfl rfl ?_
    refine T_getR 17 FOk_12 h0 (by decide) (by decide) dX12_back_43 tb_730 ?_
    refine T_bipush (v := (20 : Int32)) (by decide) dX12_back_46 ?_
    refine T_iald (kf_12_17 h0) dX12_back_48 ?_
    refine T_putI (ty := .int) 3 FOk_12 h0 (by decide) (by decide) rfl (by decide +kernel) rfl rfl dX12_back_49 tb_716 ?_
    refine T_mw (fun N1 => ?_)
    try dsimp only
    refine T_aload_n 0 dX12_back_52 rfl rfl ?_
    refine T_aload_n 0 dX12_back_53 rfl rfl ?_
    refine T_getR 17 FOk_12 h0 (by decide) (by decide) dX12_back_54 tb_730 ?_
    refine T_bipush (v := (21 : Int32)) (by decide) dX12_back_57 ?_
    refine T_iald (kf_12_17 h0) dX12_back_59 ?_
    refine T_putI (ty := .int) 4 FOk_12 h0 (by decide) (by decide) rfl (by decide +kernel) rfl rfl dX12_back_60 tb_717 ?_
    refine T_mw (fun N2 => ?_)
    try dsimp only
    refine T_aload_n 0 dX12_back_63 rfl rfl ?_
    refine T_aload_n 0 dX12_back_64 rfl rfl ?_
    refine T_getR 17 FOk_12 h0 (by decide) (by decide) dX12_back_65 tb_730 ?_
    refine T_bipush (v := (22 : Int32)) (by decide) dX12_back_68 ?_
    refine T_iald (kf_12_17 h0) dX12_back_70 ?_
    refine T_putI (ty := .int) 5 FOk_12 h0 (by decide) (by decide) rfl (by decide +kernel) rfl rfl dX12_back_71 tb_718 ?_
    refine T_mw (fun N3 => ?_)
    try dsimp only
    refine T_aload_n 0 dX12_back_74 rfl rfl ?_
    refine T_aload_n 0 dX12_back_75 rfl rfl ?_
    refine T_getR 17 FOk_12 h0 (by decide) (by decide) dX12_back_76 tb_730 ?_
    refine T_bipush (v := (23 : Int32)) (by decide) dX12_back_79 ?_
    refine T_iald (kf_12_17 h0) dX12_back_81 ?_
    refine T_putI (ty := .int) 6 FOk_12 h0 (by decide) (by decide) rfl (by decide +kernel) rfl rfl dX12_back_82 tb_719 ?_
    refine T_mw (fun N4 => ?_)
    try dsimp only
    refine T_iload_n 1 dX12_back_85 rfl rfl ?_
    exact T_iret dX12_back_86 rfl
  ·
    refine T_aload_n 0 dX12_back_8 rfl rfl ?_
    refine T_getR 0 FOk_12 h0 (by decide) (by decide) dX12_back_9 tb_713 ?_
    refine T_iload_n 2 dX12_back_12 rfl rfl ?_
    refine T_aload_n 0 dX12_back_13 rfl rfl ?_
    refine T_getR 17 FOk_12 h0 (by decide) (by decide) dX12_back_14 tb_730 ?_
    refine T_iload_n 2 dX12_back_17 rfl rfl ?_
    refine T_iald (kf_12_17 h0) dX12_back_18 ?_
    refine T_iast (kf_12_0 h0) dX12_back_19 ?_
    refine T_mw (fun N5 => ?_)
    try dsimp only
    refine T_aload_n 0 dX12_back_20 rfl rfl ?_
    refine T_getR 1 FOk_12 h0 (by decide) (by decide) dX12_back_21 tb_714 ?_
    refine T_iload_n 2 dX12_back_24 rfl rfl ?_
    refine T_aload_n 0 dX12_back_25 rfl rfl ?_
    refine T_getR 17 FOk_12 h0 (by decide) (by decide) dX12_back_26 tb_730 ?_
    refine T_bipush (v := (10 : Int32)) (by decide) dX12_back_29 ?_
    refine T_iload_n 2 dX12_back_31 rfl rfl ?_
    refine T_iadd dX12_back_32 ?_
    refine T_iald (kf_12_17 h0) dX12_back_33 ?_
    refine T_iast (kf_12_1 h0) dX12_back_34 ?_
    refine T_mw (fun N6 => ?_)
    try dsimp only
    refine T_iinc 2 [(2, .int (x2 + (1 : Int32))), (0, .ref i0), (1, .int x1)] (v := (1 : Int32)) dX12_back_35 rfl (by decide) (by decide) rfl ?_
    refine T_goto 2 dX12_back_38 (by decide) ?_
    refine T_sub [1, 2, 0] (lv' := [(0, .ref i0), (1, .int x1), (2, .int (x2 + (1 : Int32)))]) rfl ?_
    exact hk2 _ _ _
theorem t_X12_back_l2 {X : Scr} {i0 : Nat} (h0 : KD[i0]? = some (.inl 12)) (n : Nat) : ∀ (x1 : Int32) (x2 : Int32) (M : Mem), T X eI (X12_back_l2 i0  n x1 x2 M) md_X12_back 2 [(0, .ref i0), (1, .int x1), (2, .int x2)] [] M := by
  induction n with
  | zero => intro x1 x2 M; exact T_none
  | succ n ih => intro x1 x2 M; exact t_X12_back_b2 h0 ih x1 x2 M
set_option maxHeartbeats 4000000 in
set_option maxRecDepth 100000 in
theorem t_X12_back {X : Scr} {i0 : Nat} (h0 : KD[i0]? = some (.inl 12)) (x1 : Int32) (M : Mem) : T X eI (X12_back i0  x1 M) md_X12_back 0 [(0, .ref i0), (1, .int x1)] [] M := by
  unfold X12_back
  refine T_iconst (v := (0 : Int32)) (by decide) dX12_back_0 ?_
  refine T_istore_n [(2, .int (0 : Int32)), (0, .ref i0), (1, .int x1)] dX12_back_1 rfl (by decide) rfl ?_
  refine T_sub [1, 2, 0] (lv' := [(0, .ref i0), (1, .int x1), (2, .int (0 : Int32))]) rfl ?_
  exact t_X12_back_l2 h0  _ _ _ _
theorem C_X12_back {X : Scr} {i0 : Nat} (h0 : KD[i0]? = some (.inl 12)) (x1 : Int32) {M : Mem} {r : Int32} {M' : Mem} (h : X12_back i0 x1 M = some (r, M')) : Ct X md_X12_back [.ref i0, .int x1] M (eI r) M' := Ct_of (by decide +kernel) (Nat.le_of_ble_eq_true rfl) (t_X12_back h0 _ M) r M' h
-- X12_goOne
def X12_goOne_b148 (i0 : Nat)   (M : Mem) : Option (Unit × Mem) :=
  some ((), M)
def X12_goOne_b145 (i0 : Nat)  (s0 : Int32) (M : Mem) : Option (Unit × Mem) :=
  X12_goOne_b148 i0   (mI M i0 21 s0)
def X12_goOne_b97 (i0 : Nat)  (x1 : Int32) (x2 : Int32) (x3 : Int32) (x4 : Int32) (x5 : Int32) (s0 : Int32) (M : Mem) : Option (Unit × Mem) :=
  if s0 = 0 then
    X12_goOne_b148 i0   M
  else
    if 0 ≤ (M.1 i0 20) then
      X12_goOne_b148 i0   M
    else
      if x5 = 0 then
        X12_goOne_b145 i0  x2 (mI M i0 20 x1)
      else
        if x4 = 0 then
          X12_goOne_b145 i0  x3 (mI M i0 20 x1)
        else
          if x3 ≤ x2 then
            X12_goOne_b145 i0  x3 (mI M i0 20 x1)
          else
            X12_goOne_b145 i0  x2 (mI M i0 20 x1)
def X12_goOne_b92 (i0 : Nat)  (x1 : Int32) (x2 : Int32) (x3 : Int32) (x4 : Int32) (x5 : Int32) (M : Mem) : Option (Unit × Mem) :=
  X12_goOne_b97 i0  x1 x2 x3 x4 x5 (1 : Int32) M
def X12_goOne_b96 (i0 : Nat)  (x1 : Int32) (x2 : Int32) (x3 : Int32) (x4 : Int32) (x5 : Int32) (M : Mem) : Option (Unit × Mem) :=
  X12_goOne_b97 i0  x1 x2 x3 x4 x5 (0 : Int32) M
def X12_goOne_b54 (i0 : Nat)  (x1 : Int32) (x2 : Int32) (x3 : Int32) (x4 : Int32) (s0 : Int32) (M : Mem) : Option (Unit × Mem) :=
  gd (ib x1 60) (
    gd (ib x1 60) (
      (X12_happen i0 (M.1 (rf i0 13) x1.toNatClampNeg) (M.1 (rf i0 14) x1.toNatClampNeg) M).bind (fun p1 =>
        gd (ib x1 60) (
          if (p1.2.1 (rf i0 13) x1.toNatClampNeg) = (4 : Int32) then
            if x4 = 0 then
              if s0 = 0 then
                X12_goOne_b96 i0  x1 x2 x3 x4 s0 p1.2
              else
                X12_goOne_b92 i0  x1 x2 x3 x4 s0 p1.2
            else
              X12_goOne_b92 i0  x1 x2 x3 x4 s0 p1.2
          else
            X12_goOne_b96 i0  x1 x2 x3 x4 s0 p1.2))))
def X12_goOne_b53 (i0 : Nat)  (x1 : Int32) (x2 : Int32) (x3 : Int32) (x4 : Int32) (M : Mem) : Option (Unit × Mem) :=
  X12_goOne_b54 i0  x1 x2 x3 x4 (0 : Int32) M
def X12_goOne_b27 (i0 : Nat)  (x1 : Int32) (x2 : Int32) (x3 : Int32) (s0 : Int32) (M : Mem) : Option (Unit × Mem) :=
  gd (ib x1 60) (
    if (M.1 (rf i0 13) x1.toNatClampNeg) = (4 : Int32) then
      gd (ib x3 10) (
        if (M.1 (rf i0 0) x3.toNatClampNeg) = x3 then
          X12_goOne_b54 i0  x1 x2 x3 s0 (1 : Int32) M
        else
          X12_goOne_b53 i0  x1 x2 x3 s0 M)
    else
      X12_goOne_b53 i0  x1 x2 x3 s0 M)
def X12_goOne (i0 : Nat)  (x1 : Int32) (M : Mem) : Option (Unit × Mem) :=
  gd (ib x1 60) (
    iw (M.1 (rf i0 14) x1.toNatClampNeg) (fun v1 =>
      gd (ib (M.1 i0 3) 10) (
        if (M.1 (rf i0 0) (M.1 i0 3).toNatClampNeg) = (M.1 i0 3) then
          X12_goOne_b27 i0  x1 (M.1 i0 3) v1 (1 : Int32) M
        else
          X12_goOne_b27 i0  x1 (M.1 i0 3) v1 (0 : Int32) M)))
set_option maxHeartbeats 4000000 in
set_option maxRecDepth 100000 in
theorem t_X12_goOne_b148 {X : Scr} {i0 : Nat} (h0 : KD[i0]? = some (.inl 12))  (M : Mem) : T X eV (X12_goOne_b148 i0   M) md_X12_goOne 148 [] [] M := by
  unfold X12_goOne_b148
  exact T_vret dX12_goOne_148 rfl
set_option maxHeartbeats 4000000 in
set_option maxRecDepth 100000 in
theorem t_X12_goOne_b145 {X : Scr} {i0 : Nat} (h0 : KD[i0]? = some (.inl 12)) (s0 : Int32) (M : Mem) : T X eV (X12_goOne_b145 i0  s0 M) md_X12_goOne 145 [] [.int s0, .ref i0] M := by
  unfold X12_goOne_b145
  refine T_putI (ty := .int) 21 FOk_12 h0 (by decide) (by decide) rfl (by decide +kernel) rfl rfl dX12_goOne_145 tb_734 ?_
  exact t_X12_goOne_b148 h0   _
set_option maxHeartbeats 4000000 in
set_option maxRecDepth 100000 in
theorem t_X12_goOne_b97 {X : Scr} {i0 : Nat} (h0 : KD[i0]? = some (.inl 12)) (x1 : Int32) (x2 : Int32) (x3 : Int32) (x4 : Int32) (x5 : Int32) (s0 : Int32) (M : Mem) : T X eV (X12_goOne_b97 i0  x1 x2 x3 x4 x5 s0 M) md_X12_goOne 97 [(0, .ref i0), (1, .int x1), (2, .int x2), (3, .int x3), (4, .int x4), (5, .int x5)] [.int s0] M := by
  unfold X12_goOne_b97
  refine T_istore [(6, .int s0), (0, .ref i0), (1, .int x1), (2, .int x2), (3, .int x3), (4, .int x4), (5, .int x5)] dX12_goOne_97 (by decide) rfl ?_
  refine T_iload 0 dX12_goOne_99 rfl ?_
  refine T_if_eq 148 dX12_goOne_101 (by decide) ?_ ?_
  ·
    refine T_sub [] (lv' := []) rfl ?_
    exact t_X12_goOne_b148 h0   _
  ·
    refine T_aload_n 1 dX12_goOne_104 rfl rfl ?_
    refine T_getI 20 FOk_12 h0 (by decide) (by decide) dX12_goOne_105 tb_733 ?_
    refine T_if_ge 148 dX12_goOne_108 (by decide) ?_ ?_
    ·
      refine T_sub [] (lv' := []) rfl ?_
      exact t_X12_goOne_b148 h0   _
    ·
      refine T_aload_n 1 dX12_goOne_111 rfl rfl ?_
      refine T_iload_n 2 dX12_goOne_112 rfl rfl ?_
      refine T_putI (ty := .int) 20 FOk_12 h0 (by decide) (by decide) rfl (by decide +kernel) rfl rfl dX12_goOne_113 tb_733 ?_
      refine T_aload_n 1 dX12_goOne_116 rfl rfl ?_
      refine T_iload 6 dX12_goOne_117 rfl ?_
      refine T_if_ne 126 dX12_goOne_119 (by decide) ?_ ?_
      ·
        refine T_iload_n 3 dX12_goOne_122 rfl rfl ?_
        refine T_goto 145 dX12_goOne_123 (by decide) ?_
        refine T_sub [] (lv' := []) rfl ?_
        exact t_X12_goOne_b145 h0  _ _
      ·
        refine T_iload 5 dX12_goOne_126 rfl ?_
        refine T_if_ne 135 dX12_goOne_128 (by decide) ?_ ?_
        ·
          refine T_iload_n 4 dX12_goOne_131 rfl rfl ?_
          refine T_goto 145 dX12_goOne_132 (by decide) ?_
          refine T_sub [] (lv' := []) rfl ?_
          exact t_X12_goOne_b145 h0  _ _
        ·
          refine T_iload_n 3 dX12_goOne_135 rfl rfl ?_
          refine T_iload_n 4 dX12_goOne_136 rfl rfl ?_
          refine T_icmp_ge 144 dX12_goOne_137 (by decide) ?_ ?_
          ·
            refine T_iload_n 4 dX12_goOne_144 rfl rfl ?_
            refine T_sub [] (lv' := []) rfl ?_
            exact t_X12_goOne_b145 h0  _ _
          ·
            refine T_iload_n 3 dX12_goOne_140 rfl rfl ?_
            refine T_goto 145 dX12_goOne_141 (by decide) ?_
            refine T_sub [] (lv' := []) rfl ?_
            exact t_X12_goOne_b145 h0  _ _
set_option maxHeartbeats 4000000 in
set_option maxRecDepth 100000 in
theorem t_X12_goOne_b92 {X : Scr} {i0 : Nat} (h0 : KD[i0]? = some (.inl 12)) (x1 : Int32) (x2 : Int32) (x3 : Int32) (x4 : Int32) (x5 : Int32) (M : Mem) : T X eV (X12_goOne_b92 i0  x1 x2 x3 x4 x5 M) md_X12_goOne 92 [(0, .ref i0), (1, .int x1), (2, .int x2), (3, .int x3), (4, .int x4), (5, .int x5)] [] M := by
  unfold X12_goOne_b92
  refine T_iconst (v := (1 : Int32)) (by decide) dX12_goOne_92 ?_
  refine T_goto 97 dX12_goOne_93 (by decide) ?_
  exact t_X12_goOne_b97 h0  _ _ _ _ _ _ _
set_option maxHeartbeats 4000000 in
set_option maxRecDepth 100000 in
theorem t_X12_goOne_b96 {X : Scr} {i0 : Nat} (h0 : KD[i0]? = some (.inl 12)) (x1 : Int32) (x2 : Int32) (x3 : Int32) (x4 : Int32) (x5 : Int32) (M : Mem) : T X eV (X12_goOne_b96 i0  x1 x2 x3 x4 x5 M) md_X12_goOne 96 [(0, .ref i0), (1, .int x1), (2, .int x2), (3, .int x3), (4, .int x4), (5, .int x5)] [] M := by
  unfold X12_goOne_b96
  refine T_iconst (v := (0 : Int32)) (by decide) dX12_goOne_96 ?_
  exact t_X12_goOne_b97 h0  _ _ _ _ _ _ _
set_option maxHeartbeats 4000000 in
set_option maxRecDepth 100000 in
theorem t_X12_goOne_b54 {X : Scr} {i0 : Nat} (h0 : KD[i0]? = some (.inl 12)) (x1 : Int32) (x2 : Int32) (x3 : Int32) (x4 : Int32) (s0 : Int32) (M : Mem) : T X eV (X12_goOne_b54 i0  x1 x2 x3 x4 s0 M) md_X12_goOne 54 [(0, .ref i0), (1, .int x1), (2, .int x2), (3, .int x3), (4, .int x4)] [.int s0] M := by
  unfold X12_goOne_b54
  refine T_istore [(5, .int s0), (0, .ref i0), (1, .int x1), (2, .int x2), (3, .int x3), (4, .int x4)] dX12_goOne_54 (by decide) rfl ?_
  refine T_aload_n 1 dX12_goOne_56 rfl rfl ?_
  refine T_aload_n 1 dX12_goOne_57 rfl rfl ?_
  refine T_getR 13 FOk_12 h0 (by decide) (by decide) dX12_goOne_58 tb_726 ?_
  refine T_iload_n 2 dX12_goOne_61 rfl rfl ?_
  refine T_iald (kf_12_13 h0) dX12_goOne_62 ?_
  refine T_aload_n 1 dX12_goOne_63 rfl rfl ?_
  refine T_getR 14 FOk_12 h0 (by decide) (by decide) dX12_goOne_64 tb_727 ?_
  refine T_iload_n 2 dX12_goOne_67 rfl rfl ?_
  refine T_iald (kf_12_14 h0) dX12_goOne_68 ?_
  refine T_callVU md_X12_happen [.int (M.1 (rf i0 13) x1.toNatClampNeg), .int (M.1 (rf i0 14) x1.toNatClampNeg)] [] dX12_goOne_69 h0 rfl rfl ok_X12_happen tb_906 tb_908 tb_23 (by decide) (Nat.le_of_ble_eq_true rfl) (fun _ _ h9 => C_X12_happen h0 _ _ h9) (fun r1 M1 => ?_)
  dsimp only
  refine T_aload_n 1 dX12_goOne_72 rfl rfl ?_
  refine T_getR 13 FOk_12 h0 (by decide) (by decide) dX12_goOne_73 tb_726 ?_
  refine T_iload_n 2 dX12_goOne_76 rfl rfl ?_
  refine T_iald (kf_12_13 h0) dX12_goOne_77 ?_
  refine T_iconst (v := (4 : Int32)) (by decide) dX12_goOne_78 ?_
  refine T_icmp_ne 96 dX12_goOne_79 (by decide) ?_ ?_
  ·
    refine T_iload 5 dX12_goOne_82 rfl ?_
    refine T_if_ne 92 dX12_goOne_84 (by decide) ?_ ?_
    ·
      refine T_iload 0 dX12_goOne_87 rfl ?_
      refine T_if_eq 96 dX12_goOne_89 (by decide) ?_ ?_
      ·
        refine T_sub [1, 2, 3, 4, 5, 0] (lv' := [(0, .ref i0), (1, .int x1), (2, .int x2), (3, .int x3), (4, .int x4), (5, .int s0)]) rfl ?_
        exact t_X12_goOne_b96 h0  _ _ _ _ _ _
      ·
        refine T_sub [1, 2, 3, 4, 5, 0] (lv' := [(0, .ref i0), (1, .int x1), (2, .int x2), (3, .int x3), (4, .int x4), (5, .int s0)]) rfl ?_
        exact t_X12_goOne_b92 h0  _ _ _ _ _ _
    ·
      refine T_sub [1, 2, 3, 4, 5, 0] (lv' := [(0, .ref i0), (1, .int x1), (2, .int x2), (3, .int x3), (4, .int x4), (5, .int s0)]) rfl ?_
      exact t_X12_goOne_b92 h0  _ _ _ _ _ _
  ·
    refine T_sub [1, 2, 3, 4, 5, 0] (lv' := [(0, .ref i0), (1, .int x1), (2, .int x2), (3, .int x3), (4, .int x4), (5, .int s0)]) rfl ?_
    exact t_X12_goOne_b96 h0  _ _ _ _ _ _
set_option maxHeartbeats 4000000 in
set_option maxRecDepth 100000 in
theorem t_X12_goOne_b53 {X : Scr} {i0 : Nat} (h0 : KD[i0]? = some (.inl 12)) (x1 : Int32) (x2 : Int32) (x3 : Int32) (x4 : Int32) (M : Mem) : T X eV (X12_goOne_b53 i0  x1 x2 x3 x4 M) md_X12_goOne 53 [(0, .ref i0), (1, .int x1), (2, .int x2), (3, .int x3), (4, .int x4)] [] M := by
  unfold X12_goOne_b53
  refine T_iconst (v := (0 : Int32)) (by decide) dX12_goOne_53 ?_
  exact t_X12_goOne_b54 h0  _ _ _ _ _ _
set_option maxHeartbeats 4000000 in
set_option maxRecDepth 100000 in
theorem t_X12_goOne_b27 {X : Scr} {i0 : Nat} (h0 : KD[i0]? = some (.inl 12)) (x1 : Int32) (x2 : Int32) (x3 : Int32) (s0 : Int32) (M : Mem) : T X eV (X12_goOne_b27 i0  x1 x2 x3 s0 M) md_X12_goOne 27 [(0, .ref i0), (1, .int x1), (2, .int x2), (3, .int x3)] [.int s0] M := by
  unfold X12_goOne_b27
  refine T_istore [(4, .int s0), (0, .ref i0), (1, .int x1), (2, .int x2), (3, .int x3)] dX12_goOne_27 (by decide) rfl ?_
  refine T_aload_n 1 dX12_goOne_29 rfl rfl ?_
  refine T_getR 13 FOk_12 h0 (by decide) (by decide) dX12_goOne_30 tb_726 ?_
  refine T_iload_n 2 dX12_goOne_33 rfl rfl ?_
  refine T_iald (kf_12_13 h0) dX12_goOne_34 ?_
  refine T_iconst (v := (4 : Int32)) (by decide) dX12_goOne_35 ?_
  refine T_icmp_ne 53 dX12_goOne_36 (by decide) ?_ ?_
  ·
    refine T_aload_n 1 dX12_goOne_39 rfl rfl ?_
    refine T_getR 0 FOk_12 h0 (by decide) (by decide) dX12_goOne_40 tb_713 ?_
    refine T_iload_n 4 dX12_goOne_43 rfl rfl ?_
    refine T_iald (kf_12_0 h0) dX12_goOne_44 ?_
    refine T_iload_n 4 dX12_goOne_45 rfl rfl ?_
    refine T_icmp_ne 53 dX12_goOne_46 (by decide) ?_ ?_
    ·
      refine T_iconst (v := (1 : Int32)) (by decide) dX12_goOne_49 ?_
      refine T_goto 54 dX12_goOne_50 (by decide) ?_
      refine T_sub [1, 2, 3, 4, 0] (lv' := [(0, .ref i0), (1, .int x1), (2, .int x2), (3, .int x3), (4, .int s0)]) rfl ?_
      exact t_X12_goOne_b54 h0  _ _ _ _ _ _
    ·
      refine T_sub [1, 2, 3, 4, 0] (lv' := [(0, .ref i0), (1, .int x1), (2, .int x2), (3, .int x3), (4, .int s0)]) rfl ?_
      exact t_X12_goOne_b53 h0  _ _ _ _ _
  ·
    refine T_sub [1, 2, 3, 4, 0] (lv' := [(0, .ref i0), (1, .int x1), (2, .int x2), (3, .int x3), (4, .int s0)]) rfl ?_
    exact t_X12_goOne_b53 h0  _ _ _ _ _
set_option maxHeartbeats 4000000 in
set_option maxRecDepth 100000 in
theorem t_X12_goOne {X : Scr} {i0 : Nat} (h0 : KD[i0]? = some (.inl 12)) (x1 : Int32) (M : Mem) : T X eV (X12_goOne i0  x1 M) md_X12_goOne 0 [(0, .ref i0), (1, .int x1)] [] M := by
  unfold X12_goOne
  refine T_aload_n 0 dX12_goOne_0 rfl rfl ?_
  refine T_getI 3 FOk_12 h0 (by decide) (by decide) dX12_goOne_1 tb_716 ?_
  refine T_istore_n [(2, .int (M.1 i0 3)), (0, .ref i0), (1, .int x1)] dX12_goOne_4 rfl (by decide) rfl ?_
  refine T_aload_n 1 dX12_goOne_5 rfl rfl ?_
  refine T_getR 14 FOk_12 h0 (by decide) (by decide) dX12_goOne_6 tb_727 ?_
  refine T_iload_n 2 dX12_goOne_9 rfl rfl ?_
  refine T_iald (kf_12_14 h0) dX12_goOne_10 ?_
  refine T_iw (fun v1 => ?_)
  try dsimp only
  refine T_istore_n [(3, .int v1), (2, .int (M.1 i0 3)), (0, .ref i0), (1, .int x1)] dX12_goOne_11 rfl (by decide) rfl ?_
  refine T_aload_n 2 dX12_goOne_12 rfl rfl ?_
  refine T_getR 0 FOk_12 h0 (by decide) (by decide) dX12_goOne_13 tb_713 ?_
  refine T_iload_n 1 dX12_goOne_16 rfl rfl ?_
  refine T_iald (kf_12_0 h0) dX12_goOne_17 ?_
  refine T_iload_n 1 dX12_goOne_18 rfl rfl ?_
  refine T_icmp_ne 26 dX12_goOne_19 (by decide) ?_ ?_
  ·
    refine T_iconst (v := (1 : Int32)) (by decide) dX12_goOne_22 ?_
    refine T_goto 27 dX12_goOne_23 (by decide) ?_
    refine T_sub [2, 3, 1, 0] (lv' := [(0, .ref i0), (1, .int x1), (2, .int (M.1 i0 3)), (3, .int v1)]) rfl ?_
    exact t_X12_goOne_b27 h0  _ _ _ _ _
  ·
    refine T_iconst (v := (0 : Int32)) (by decide) dX12_goOne_26 ?_
    refine T_sub [2, 3, 1, 0] (lv' := [(0, .ref i0), (1, .int x1), (2, .int (M.1 i0 3)), (3, .int v1)]) rfl ?_
    exact t_X12_goOne_b27 h0  _ _ _ _ _
theorem C_X12_goOne {X : Scr} {i0 : Nat} (h0 : KD[i0]? = some (.inl 12)) (x1 : Int32) {M : Mem} {r : Unit} {M' : Mem} (h : X12_goOne i0 x1 M = some (r, M')) : Ct X md_X12_goOne [.ref i0, .int x1] M (eV r) M' := Ct_of (by decide +kernel) (Nat.le_of_ble_eq_true rfl) (t_X12_goOne h0 _ M) r M' h
-- X12_goEvenings
def X12_goEvenings_b100 (i0 : Nat) (k31 : Int32 → Mem → Option (Unit × Mem)) (x1 : Int32) (M : Mem) : Option (Unit × Mem) :=
  k31 (x1 + (1 : Int32)) M
def X12_goEvenings_b88 (i0 : Nat) (k31 : Int32 → Mem → Option (Unit × Mem)) (x1 : Int32) (x2 : Int32) (s0 : Int32) (M : Mem) : Option (Unit × Mem) :=
  mw (mI M i0 19 s0) (fun N1 =>
    if x2 = 0 then
      (X12_goOne i0 x1 N1).bind (fun p2 =>
        X12_goEvenings_b100 i0 k31 x1 p2.2)
    else
      X12_goEvenings_b100 i0 k31 x1 N1)
def X12_goEvenings_b74 (i0 : Nat) (k31 : Int32 → Mem → Option (Unit × Mem)) (x1 : Int32) (x2 : Int32) (s0 : Int32) (M : Mem) : Option (Unit × Mem) :=
  mw (mI M i0 18 s0) (fun N1 =>
    if x2 ≤ 0 then
      X12_goEvenings_b88 i0 k31 x1 x2 (-6 : Int32) N1
    else
      X12_goEvenings_b88 i0 k31 x1 x2 x2 N1)
def X12_goEvenings_b106 (i0 : Nat)   (M : Mem) : Option (Unit × Mem) :=
  some ((), M)
def X12_goEvenings_b31 (i0 : Nat) (k31 : Int32 → Mem → Option (Unit × Mem)) (x1 : Int32) (M : Mem) : Option (Unit × Mem) :=
  if (M.1 i0 15) ≤ x1 then
    X12_goEvenings_b106 i0   M
  else
    if 0 ≤ (M.1 i0 18) then
      X12_goEvenings_b106 i0   M
    else
      gd (ib x1 60) (
        gd (ib x1 60) (
          (X12_whyNot i0 (M.1 (rf i0 13) x1.toNatClampNeg) (M.1 (rf i0 14) x1.toNatClampNeg) M).bind (fun p1 =>
            if p1.1 ≤ 0 then
              X12_goEvenings_b74 i0 k31 x1 p1.1 (-6 : Int32) p1.2
            else
              X12_goEvenings_b74 i0 k31 x1 p1.1 x1 p1.2)))
def X12_goEvenings_l31 (i0 : Nat)  : Nat → Int32 → Mem → Option (Unit × Mem)
  | 0 => fun _ _ => none
  | n + 1 => X12_goEvenings_b31 i0 (X12_goEvenings_l31 i0  n)
def X12_goEvenings (i0 : Nat)   (M : Mem) : Option (Unit × Mem) :=
  mw (mI M i0 18 (-6 : Int32)) (fun N1 =>
    mw (mI N1 i0 19 (-6 : Int32)) (fun N2 =>
      mw (mI N2 i0 16 (0 : Int32)) (fun N3 =>
        mw (mI N3 i0 20 (-6 : Int32)) (fun N4 =>
          mw (mI N4 i0 21 (-6 : Int32)) (fun N5 =>
            X12_goEvenings_l31 i0  FU (0 : Int32) N5)))))
set_option maxHeartbeats 4000000 in
set_option maxRecDepth 100000 in
theorem t_X12_goEvenings_b100 {X : Scr} {i0 : Nat} (h0 : KD[i0]? = some (.inl 12)) {k31 : Int32 → Mem → Option (Unit × Mem)} (hk31 : ∀ (x1 : Int32) (M : Mem), T X eV (k31 x1 M) md_X12_goEvenings 31 [(0, .ref i0), (1, .int x1)] [] M) (x1 : Int32) (M : Mem) : T X eV (X12_goEvenings_b100 i0 k31 x1 M) md_X12_goEvenings 100 [(0, .ref i0), (1, .int x1)] [] M := by
  unfold X12_goEvenings_b100
  refine T_iinc 1 [(1, .int (x1 + (1 : Int32))), (0, .ref i0)] (v := (1 : Int32)) dX12_goEvenings_100 rfl (by decide) (by decide) rfl ?_
  refine T_goto 31 dX12_goEvenings_103 (by decide) ?_
  refine T_sub [1, 0] (lv' := [(0, .ref i0), (1, .int (x1 + (1 : Int32)))]) rfl ?_
  exact hk31 _ _
set_option maxHeartbeats 4000000 in
set_option maxRecDepth 100000 in
theorem t_X12_goEvenings_b88 {X : Scr} {i0 : Nat} (h0 : KD[i0]? = some (.inl 12)) {k31 : Int32 → Mem → Option (Unit × Mem)} (hk31 : ∀ (x1 : Int32) (M : Mem), T X eV (k31 x1 M) md_X12_goEvenings 31 [(0, .ref i0), (1, .int x1)] [] M) (x1 : Int32) (x2 : Int32) (s0 : Int32) (M : Mem) : T X eV (X12_goEvenings_b88 i0 k31 x1 x2 s0 M) md_X12_goEvenings 88 [(0, .ref i0), (1, .int x1), (2, .int x2)] [.int s0, .ref i0] M := by
  unfold X12_goEvenings_b88
  refine T_putI (ty := .int) 19 FOk_12 h0 (by decide) (by decide) rfl (by decide +kernel) rfl rfl dX12_goEvenings_88 tb_732 ?_
  refine T_mw (fun N1 => ?_)
  try dsimp only
  refine T_iload_n 2 dX12_goEvenings_91 rfl rfl ?_
  refine T_if_ne 100 dX12_goEvenings_92 (by decide) ?_ ?_
  ·
    refine T_aload_n 0 dX12_goEvenings_95 rfl rfl ?_
    refine T_iload_n 1 dX12_goEvenings_96 rfl rfl ?_
    refine T_callVU md_X12_goOne [.int x1] [] dX12_goEvenings_97 h0 rfl rfl ok_X12_goOne tb_902 tb_904 tb_22 (by decide) (Nat.le_of_ble_eq_true rfl) (fun _ _ h9 => C_X12_goOne h0 _ h9) (fun r2 M2 => ?_)
    dsimp only
    refine T_sub [0, 1] (lv' := [(0, .ref i0), (1, .int x1)]) rfl ?_
    exact t_X12_goEvenings_b100 h0 hk31 _ _
  ·
    refine T_sub [0, 1] (lv' := [(0, .ref i0), (1, .int x1)]) rfl ?_
    exact t_X12_goEvenings_b100 h0 hk31 _ _
set_option maxHeartbeats 4000000 in
set_option maxRecDepth 100000 in
theorem t_X12_goEvenings_b74 {X : Scr} {i0 : Nat} (h0 : KD[i0]? = some (.inl 12)) {k31 : Int32 → Mem → Option (Unit × Mem)} (hk31 : ∀ (x1 : Int32) (M : Mem), T X eV (k31 x1 M) md_X12_goEvenings 31 [(0, .ref i0), (1, .int x1)] [] M) (x1 : Int32) (x2 : Int32) (s0 : Int32) (M : Mem) : T X eV (X12_goEvenings_b74 i0 k31 x1 x2 s0 M) md_X12_goEvenings 74 [(0, .ref i0), (1, .int x1), (2, .int x2)] [.int s0, .ref i0] M := by
  unfold X12_goEvenings_b74
  refine T_putI (ty := .int) 18 FOk_12 h0 (by decide) (by decide) rfl (by decide +kernel) rfl rfl dX12_goEvenings_74 tb_731 ?_
  refine T_mw (fun N1 => ?_)
  try dsimp only
  refine T_aload_n 0 dX12_goEvenings_77 rfl rfl ?_
  refine T_iload_n 2 dX12_goEvenings_78 rfl rfl ?_
  refine T_if_le 86 dX12_goEvenings_79 (by decide) ?_ ?_
  ·
    refine T_bipush (v := (-6 : Int32)) (by decide) dX12_goEvenings_86 ?_
    exact t_X12_goEvenings_b88 h0 hk31 _ _ _ _
  ·
    refine T_iload_n 2 dX12_goEvenings_82 rfl rfl ?_
    refine T_goto 88 dX12_goEvenings_83 (by decide) ?_
    exact t_X12_goEvenings_b88 h0 hk31 _ _ _ _
set_option maxHeartbeats 4000000 in
set_option maxRecDepth 100000 in
theorem t_X12_goEvenings_b106 {X : Scr} {i0 : Nat} (h0 : KD[i0]? = some (.inl 12))  (M : Mem) : T X eV (X12_goEvenings_b106 i0   M) md_X12_goEvenings 106 [] [] M := by
  unfold X12_goEvenings_b106
  exact T_vret dX12_goEvenings_106 rfl
set_option maxHeartbeats 4000000 in
set_option maxRecDepth 100000 in
theorem t_X12_goEvenings_b31 {X : Scr} {i0 : Nat} (h0 : KD[i0]? = some (.inl 12)) {k31 : Int32 → Mem → Option (Unit × Mem)} (hk31 : ∀ (x1 : Int32) (M : Mem), T X eV (k31 x1 M) md_X12_goEvenings 31 [(0, .ref i0), (1, .int x1)] [] M) (x1 : Int32) (M : Mem) : T X eV (X12_goEvenings_b31 i0 k31 x1 M) md_X12_goEvenings 31 [(0, .ref i0), (1, .int x1)] [] M := by
  unfold X12_goEvenings_b31
  refine T_iload_n 1 dX12_goEvenings_31 rfl rfl ?_
  refine T_aload_n 0 dX12_goEvenings_32 rfl rfl ?_
  refine T_getI 15 FOk_12 h0 (by decide) (by decide) dX12_goEvenings_33 tb_728 ?_
  refine T_icmp_ge 106 dX12_goEvenings_36 (by decide) ?_ ?_
  ·
    refine T_sub [] (lv' := []) rfl ?_
    exact t_X12_goEvenings_b106 h0   _
  ·
    refine T_aload_n 0 dX12_goEvenings_39 rfl rfl ?_
    refine T_getI 18 FOk_12 h0 (by decide) (by decide) dX12_goEvenings_40 tb_731 ?_
    refine T_if_ge 106 dX12_goEvenings_43 (by decide) ?_ ?_
    ·
      refine T_sub [] (lv' := []) rfl ?_
      exact t_X12_goEvenings_b106 h0   _
    ·
      refine T_aload_n 0 dX12_goEvenings_46 rfl rfl ?_
      refine T_aload_n 0 dX12_goEvenings_47 rfl rfl ?_
      refine T_getR 13 FOk_12 h0 (by decide) (by decide) dX12_goEvenings_48 tb_726 ?_
      refine T_iload_n 1 dX12_goEvenings_51 rfl rfl ?_
      refine T_iald (kf_12_13 h0) dX12_goEvenings_52 ?_
      refine T_aload_n 0 dX12_goEvenings_53 rfl rfl ?_
      refine T_getR 14 FOk_12 h0 (by decide) (by decide) dX12_goEvenings_54 tb_727 ?_
      refine T_iload_n 1 dX12_goEvenings_57 rfl rfl ?_
      refine T_iald (kf_12_14 h0) dX12_goEvenings_58 ?_
      refine T_callVI md_X12_whyNot [.int (M.1 (rf i0 13) x1.toNatClampNeg), .int (M.1 (rf i0 14) x1.toNatClampNeg)] [] dX12_goEvenings_59 h0 rfl rfl ok_X12_whyNot tb_888 tb_890 tb_20 (by decide) (Nat.le_of_ble_eq_true rfl) (fun _ _ h9 => C_X12_whyNot h0 _ _ h9) (fun r1 M1 => ?_)
      dsimp only
      refine T_istore_n [(2, .int r1), (0, .ref i0), (1, .int x1)] dX12_goEvenings_62 rfl (by decide) rfl ?_
      refine T_aload_n 1 dX12_goEvenings_63 rfl rfl ?_
      refine T_iload_n 0 dX12_goEvenings_64 rfl rfl ?_
      refine T_if_le 72 dX12_goEvenings_65 (by decide) ?_ ?_
      ·
        refine T_bipush (v := (-6 : Int32)) (by decide) dX12_goEvenings_72 ?_
        refine T_sub [1, 2, 0] (lv' := [(0, .ref i0), (1, .int x1), (2, .int r1)]) rfl ?_
        exact t_X12_goEvenings_b74 h0 hk31 _ _ _ _
      ·
        refine T_iload_n 2 dX12_goEvenings_68 rfl rfl ?_
        refine T_goto 74 dX12_goEvenings_69 (by decide) ?_
        refine T_sub [1, 2, 0] (lv' := [(0, .ref i0), (1, .int x1), (2, .int r1)]) rfl ?_
        exact t_X12_goEvenings_b74 h0 hk31 _ _ _ _
theorem t_X12_goEvenings_l31 {X : Scr} {i0 : Nat} (h0 : KD[i0]? = some (.inl 12)) (n : Nat) : ∀ (x1 : Int32) (M : Mem), T X eV (X12_goEvenings_l31 i0  n x1 M) md_X12_goEvenings 31 [(0, .ref i0), (1, .int x1)] [] M := by
  induction n with
  | zero => intro x1 M; exact T_none
  | succ n ih => intro x1 M; exact t_X12_goEvenings_b31 h0 ih x1 M
set_option maxHeartbeats 4000000 in
set_option maxRecDepth 100000 in
theorem t_X12_goEvenings {X : Scr} {i0 : Nat} (h0 : KD[i0]? = some (.inl 12))  (M : Mem) : T X eV (X12_goEvenings i0   M) md_X12_goEvenings 0 [(0, .ref i0)] [] M := by
  unfold X12_goEvenings
  refine T_aload_n 0 dX12_goEvenings_0 rfl rfl ?_
  refine T_bipush (v := (-6 : Int32)) (by decide) dX12_goEvenings_1 ?_
  refine T_putI (ty := .int) 18 FOk_12 h0 (by decide) (by decide) rfl (by decide +kernel) rfl rfl dX12_goEvenings_3 tb_731 ?_
  refine T_mw (fun N1 => ?_)
  try dsimp only
  refine T_aload_n 0 dX12_goEvenings_6 rfl rfl ?_
  refine T_bipush (v := (-6 : Int32)) (by decide) dX12_goEvenings_7 ?_
  refine T_putI (ty := .int) 19 FOk_12 h0 (by decide) (by decide) rfl (by decide +kernel) rfl rfl dX12_goEvenings_9 tb_732 ?_
  refine T_mw (fun N2 => ?_)
  try dsimp only
  refine T_aload_n 0 dX12_goEvenings_12 rfl rfl ?_
  refine T_iconst (v := (0 : Int32)) (by decide) dX12_goEvenings_13 ?_
  refine T_putI (ty := .int) 16 FOk_12 h0 (by decide) (by decide) rfl (by decide +kernel) rfl rfl dX12_goEvenings_14 tb_729 ?_
  refine T_mw (fun N3 => ?_)
  try dsimp only
  refine T_aload_n 0 dX12_goEvenings_17 rfl rfl ?_
  refine T_bipush (v := (-6 : Int32)) (by decide) dX12_goEvenings_18 ?_
  refine T_putI (ty := .int) 20 FOk_12 h0 (by decide) (by decide) rfl (by decide +kernel) rfl rfl dX12_goEvenings_20 tb_733 ?_
  refine T_mw (fun N4 => ?_)
  try dsimp only
  refine T_aload_n 0 dX12_goEvenings_23 rfl rfl ?_
  refine T_bipush (v := (-6 : Int32)) (by decide) dX12_goEvenings_24 ?_
  refine T_putI (ty := .int) 21 FOk_12 h0 (by decide) (by decide) rfl (by decide +kernel) rfl rfl dX12_goEvenings_26 tb_734 ?_
  refine T_mw (fun N5 => ?_)
  try dsimp only
  refine T_iconst (v := (0 : Int32)) (by decide) dX12_goEvenings_29 ?_
  refine T_istore_n [(1, .int (0 : Int32)), (0, .ref i0)] dX12_goEvenings_30 rfl (by decide) rfl ?_
  refine T_sub [1, 0] (lv' := [(0, .ref i0), (1, .int (0 : Int32))]) rfl ?_
  exact t_X12_goEvenings_l31 h0  _ _ _
theorem C_X12_goEvenings {X : Scr} {i0 : Nat} (h0 : KD[i0]? = some (.inl 12))  {M : Mem} {r : Unit} {M' : Mem} (h : X12_goEvenings i0  M = some (r, M')) : Ct X md_X12_goEvenings [.ref i0] M (eV r) M' := Ct_of (by decide +kernel) (Nat.le_of_ble_eq_true rfl) (t_X12_goEvenings h0  M) r M' h
-- X12_refusal
def X12_refusal_b32 (i0 : Nat)  (s0 : Int32) (M : Mem) : Option (Int32 × Mem) :=
  some (s0, M)
def X12_refusal (i0 : Nat)   (M : Mem) : Option (Int32 × Mem) :=
  (X12_keepNow i0  M).bind (fun p1 =>
    (X12_fault i0  p1.2).bind (fun p2 =>
      if p2.1 < 0 then
        (X12_goEvenings i0  p2.2).bind (fun p3 =>
          if (p3.2.1 i0 18) < 0 then
            X12_refusal_b32 i0  (-6 : Int32) p3.2
          else
            X12_refusal_b32 i0  (-3 : Int32) p3.2)
      else
        some ((-5 : Int32), p2.2)))
set_option maxHeartbeats 4000000 in
set_option maxRecDepth 100000 in
theorem t_X12_refusal_b32 {X : Scr} {i0 : Nat} (h0 : KD[i0]? = some (.inl 12)) (s0 : Int32) (M : Mem) : T X eI (X12_refusal_b32 i0  s0 M) md_X12_refusal 32 [] [.int s0] M := by
  unfold X12_refusal_b32
  exact T_iret dX12_refusal_32 rfl
set_option maxHeartbeats 4000000 in
set_option maxRecDepth 100000 in
theorem t_X12_refusal {X : Scr} {i0 : Nat} (h0 : KD[i0]? = some (.inl 12))  (M : Mem) : T X eI (X12_refusal i0   M) md_X12_refusal 0 [(0, .ref i0)] [] M := by
  unfold X12_refusal
  refine T_aload_n 0 dX12_refusal_0 rfl rfl ?_
  refine T_callVU md_X12_keepNow [] [] dX12_refusal_1 h0 rfl rfl ok_X12_keepNow tb_879 tb_881 tb_18 (by decide) (Nat.le_of_ble_eq_true rfl) (fun _ _ h9 => C_X12_keepNow h0  h9) (fun r1 M1 => ?_)
  dsimp only
  refine T_aload_n 0 dX12_refusal_4 rfl rfl ?_
  refine T_callVI md_X12_fault [] [] dX12_refusal_5 h0 rfl rfl ok_X12_fault tb_883 tb_848 tb_849 (by decide) (Nat.le_of_ble_eq_true rfl) (fun _ _ h9 => C_X12_fault h0  h9) (fun r2 M2 => ?_)
  dsimp only
  refine T_if_lt 14 dX12_refusal_8 (by decide) ?_ ?_
  ·
    refine T_aload_n 0 dX12_refusal_14 rfl rfl ?_
    refine T_callVU md_X12_goEvenings [] [] dX12_refusal_15 h0 rfl rfl ok_X12_goEvenings tb_884 tb_886 tb_19 (by decide) (Nat.le_of_ble_eq_true rfl) (fun _ _ h9 => C_X12_goEvenings h0  h9) (fun r3 M3 => ?_)
    dsimp only
    refine T_aload_n 0 dX12_refusal_18 rfl rfl ?_
    refine T_getI 18 FOk_12 h0 (by decide) (by decide) dX12_refusal_19 tb_731 ?_
    refine T_if_lt 30 dX12_refusal_22 (by decide) ?_ ?_
    ·
      refine T_bipush (v := (-6 : Int32)) (by decide) dX12_refusal_30 ?_
      refine T_sub [] (lv' := []) rfl ?_
      exact t_X12_refusal_b32 h0  _ _
    ·
      refine T_bipush (v := (-3 : Int32)) (by decide) dX12_refusal_25 ?_
      refine T_goto 32 dX12_refusal_27 (by decide) ?_
      refine T_sub [] (lv' := []) rfl ?_
      exact t_X12_refusal_b32 h0  _ _
  ·
    refine T_bipush (v := (-5 : Int32)) (by decide) dX12_refusal_11 ?_
    exact T_iret dX12_refusal_13 rfl
theorem C_X12_refusal {X : Scr} {i0 : Nat} (h0 : KD[i0]? = some (.inl 12))  {M : Mem} {r : Int32} {M' : Mem} (h : X12_refusal i0  M = some (r, M')) : Ct X md_X12_refusal [.ref i0] M (eI r) M' := Ct_of (by decide +kernel) (Nat.le_of_ble_eq_true rfl) (t_X12_refusal h0  M) r M' h
-- X12_judge
def X12_judge_b41 (i0 : Nat)  (x2 : Int32) (M : Mem) : Option (Int32 × Mem) :=
  some (x2, M)
def X12_judge_b70 (i0 : Nat)  (s0 : Int32) (M : Mem) : Option (Int32 × Mem) :=
  some (s0, M)
def X12_judge_b43 (i0 : Nat)  (x1 : Int32) (M : Mem) : Option (Int32 × Mem) :=
  if x1 = 0 then
    X12_judge_b70 i0  (M.1 i0 18) M
  else
    if x1 = (1 : Int32) then
      X12_judge_b70 i0  (M.1 i0 19) M
    else
      X12_judge_b70 i0  (M.1 i0 16) M
def X12_judge (i0 : Nat)  (x1 : Int32) (M : Mem) : Option (Int32 × Mem) :=
  (X12_in  x1.toInt64 (0 : Int64) (2 : Int64) M).bind (fun p1 =>
    if p1.1 = 0 then
      some ((-2 : Int32), p1.2)
    else
      (X12_refusal i0  p1.2).bind (fun p2 =>
        (X12_back i0 p2.1 p2.2).bind (fun p3 =>
          if p3.1 = (-5 : Int32) then
            X12_judge_b41 i0  p3.1 p3.2
          else
            if x1 ≤ (1 : Int32) then
              X12_judge_b43 i0  x1 p3.2
            else
              if p3.1 = (-3 : Int32) then
                X12_judge_b41 i0  p3.1 p3.2
              else
                X12_judge_b43 i0  x1 p3.2)))
set_option maxHeartbeats 4000000 in
set_option maxRecDepth 100000 in
theorem t_X12_judge_b41 {X : Scr} {i0 : Nat} (h0 : KD[i0]? = some (.inl 12)) (x2 : Int32) (M : Mem) : T X eI (X12_judge_b41 i0  x2 M) md_X12_judge 41 [(2, .int x2)] [] M := by
  unfold X12_judge_b41
  refine T_iload_n 0 dX12_judge_41 rfl rfl ?_
  exact T_iret dX12_judge_42 rfl
set_option maxHeartbeats 4000000 in
set_option maxRecDepth 100000 in
theorem t_X12_judge_b70 {X : Scr} {i0 : Nat} (h0 : KD[i0]? = some (.inl 12)) (s0 : Int32) (M : Mem) : T X eI (X12_judge_b70 i0  s0 M) md_X12_judge 70 [] [.int s0] M := by
  unfold X12_judge_b70
  exact T_iret dX12_judge_70 rfl
set_option maxHeartbeats 4000000 in
set_option maxRecDepth 100000 in
theorem t_X12_judge_b43 {X : Scr} {i0 : Nat} (h0 : KD[i0]? = some (.inl 12)) (x1 : Int32) (M : Mem) : T X eI (X12_judge_b43 i0  x1 M) md_X12_judge 43 [(0, .ref i0), (1, .int x1)] [] M := by
  unfold X12_judge_b43
  refine T_iload_n 1 dX12_judge_43 rfl rfl ?_
  refine T_if_ne 54 dX12_judge_44 (by decide) ?_ ?_
  ·
    refine T_aload_n 0 dX12_judge_47 rfl rfl ?_
    refine T_getI 18 FOk_12 h0 (by decide) (by decide) dX12_judge_48 tb_731 ?_
    refine T_goto 70 dX12_judge_51 (by decide) ?_
    refine T_sub [] (lv' := []) rfl ?_
    exact t_X12_judge_b70 h0  _ _
  ·
    refine T_iload_n 1 dX12_judge_54 rfl rfl ?_
    refine T_iconst (v := (1 : Int32)) (by decide) dX12_judge_55 ?_
    refine T_icmp_ne 66 dX12_judge_56 (by decide) ?_ ?_
    ·
      refine T_aload_n 0 dX12_judge_59 rfl rfl ?_
      refine T_getI 19 FOk_12 h0 (by decide) (by decide) dX12_judge_60 tb_732 ?_
      refine T_goto 70 dX12_judge_63 (by decide) ?_
      refine T_sub [] (lv' := []) rfl ?_
      exact t_X12_judge_b70 h0  _ _
    ·
      refine T_aload_n 0 dX12_judge_66 rfl rfl ?_
      refine T_getI 16 FOk_12 h0 (by decide) (by decide) dX12_judge_67 tb_729 ?_
      refine T_sub [] (lv' := []) rfl ?_
      exact t_X12_judge_b70 h0  _ _
set_option maxHeartbeats 4000000 in
set_option maxRecDepth 100000 in
theorem t_X12_judge {X : Scr} {i0 : Nat} (h0 : KD[i0]? = some (.inl 12)) (x1 : Int32) (M : Mem) : T X eI (X12_judge i0  x1 M) md_X12_judge 0 [(0, .ref i0), (1, .int x1)] [] M := by
  unfold X12_judge
  refine T_iload_n 1 dX12_judge_0 rfl rfl ?_
  refine T_i2l dX12_judge_1 ?_
  refine T_lconst (v := (0 : Int64)) (by decide) dX12_judge_2 ?_
  refine T_ldc2 (v := (2 : Int64)) dX12_judge_3 tb_874 ?_
  refine T_callSI md_X12_in [.long x1.toInt64, .long (0 : Int64), .long (2 : Int64)] [] dX12_judge_6 rfl ok_X12_in tb_816 tb_817 (by decide) (Nat.le_of_ble_eq_true rfl) (fun _ _ h9 => C_X12_in  _ _ _ h9) (fun r1 M1 => ?_)
  dsimp only
  refine T_if_ne 15 dX12_judge_9 (by decide) ?_ ?_
  ·
    refine T_bipush (v := (-2 : Int32)) (by decide) dX12_judge_12 ?_
    exact T_iret dX12_judge_14 rfl
  ·
    refine T_aload_n 0 dX12_judge_15 rfl rfl ?_
    refine T_aload_n 0 dX12_judge_16 rfl rfl ?_
    refine T_callVI md_X12_refusal [] [.ref i0] dX12_judge_17 h0 rfl rfl ok_X12_refusal tb_875 tb_877 tb_17 (by decide) (Nat.le_of_ble_eq_true rfl) (fun _ _ h9 => C_X12_refusal h0  h9) (fun r2 M2 => ?_)
    dsimp only
    refine T_callVI md_X12_back [.int r2] [] dX12_judge_20 h0 rfl rfl ok_X12_back tb_930 tb_932 tb_29 (by decide) (Nat.le_of_ble_eq_true rfl) (fun _ _ h9 => C_X12_back h0 _ h9) (fun r3 M3 => ?_)
    dsimp only
    refine T_istore_n [(2, .int r3), (0, .ref i0), (1, .int x1)] dX12_judge_23 rfl (by decide) rfl ?_
    refine T_iload_n 0 dX12_judge_24 rfl rfl ?_
    refine T_bipush (v := (-5 : Int32)) (by decide) dX12_judge_25 ?_
    refine T_icmp_eq 41 dX12_judge_27 (by decide) ?_ ?_
    ·
      refine T_sub [0] (lv' := [(2, .int r3)]) rfl ?_
      exact t_X12_judge_b41 h0  _ _
    ·
      refine T_iload_n 2 dX12_judge_30 rfl rfl ?_
      refine T_iconst (v := (1 : Int32)) (by decide) dX12_judge_31 ?_
      refine T_icmp_le 43 dX12_judge_32 (by decide) ?_ ?_
      ·
        refine T_sub [1, 2] (lv' := [(0, .ref i0), (1, .int x1)]) rfl ?_
        exact t_X12_judge_b43 h0  _ _
      ·
        refine T_iload_n 0 dX12_judge_35 rfl rfl ?_
        refine T_bipush (v := (-3 : Int32)) (by decide) dX12_judge_36 ?_
        refine T_icmp_ne 43 dX12_judge_38 (by decide) ?_ ?_
        ·
          refine T_sub [0] (lv' := [(2, .int r3)]) rfl ?_
          exact t_X12_judge_b41 h0  _ _
        ·
          refine T_sub [1, 2] (lv' := [(0, .ref i0), (1, .int x1)]) rfl ?_
          exact t_X12_judge_b43 h0  _ _
theorem C_X12_judge {X : Scr} {i0 : Nat} (h0 : KD[i0]? = some (.inl 12)) (x1 : Int32) {M : Mem} {r : Int32} {M' : Mem} (h : X12_judge i0 x1 M = some (r, M')) : Ct X md_X12_judge [.ref i0, .int x1] M (eI r) M' := Ct_of (by decide +kernel) (Nat.le_of_ble_eq_true rfl) (t_X12_judge h0 _ M) r M' h
-- X12_behind
def X12_behind_b62 (i0 : Nat)  (s0 : Int32) (M : Mem) : Option (Int32 × Mem) :=
  (X12_back i0 s0 M).bind (fun p1 =>
    some (p1.1, p1.2))
def X12_behind (i0 : Nat)  (x1 : Int32) (x2 : Int32) (M : Mem) : Option (Int32 × Mem) :=
  (X12_isCabin  x1 M).bind (fun p1 =>
    if p1.1 = 0 then
      some ((-1 : Int32), p1.2)
    else
      (X12_in  x2.toInt64 (0 : Int64) (1 : Int64) p1.2).bind (fun p2 =>
        if p2.1 = 0 then
          some ((-2 : Int32), p2.2)
        else
          (X12_refusal i0  p2.2).bind (fun p3 =>
            if p3.1 = (-6 : Int32) then
              if x2 = 0 then
                gd (ib x1 10) (
                  X12_behind_b62 i0  (p3.2.1 (rf i0 0) x1.toNatClampNeg) p3.2)
              else
                gd (ib x1 10) (
                  gd (ib (p3.2.1 (rf i0 0) x1.toNatClampNeg) 10) (
                    X12_behind_b62 i0  (p3.2.1 (rf i0 1) (p3.2.1 (rf i0 0) x1.toNatClampNeg).toNatClampNeg) p3.2))
            else
              X12_behind_b62 i0  p3.1 p3.2)))
set_option maxHeartbeats 4000000 in
set_option maxRecDepth 100000 in
theorem t_X12_behind_b62 {X : Scr} {i0 : Nat} (h0 : KD[i0]? = some (.inl 12)) (s0 : Int32) (M : Mem) : T X eI (X12_behind_b62 i0  s0 M) md_X12_behind 62 [] [.int s0, .ref i0] M := by
  unfold X12_behind_b62
  refine T_callVI md_X12_back [.int s0] [] dX12_behind_62 h0 rfl rfl ok_X12_back tb_930 tb_932 tb_29 (by decide) (Nat.le_of_ble_eq_true rfl) (fun _ _ h9 => C_X12_back h0 _ h9) (fun r1 M1 => ?_)
  dsimp only
  exact T_iret dX12_behind_65 rfl
set_option maxHeartbeats 4000000 in
set_option maxRecDepth 100000 in
theorem t_X12_behind {X : Scr} {i0 : Nat} (h0 : KD[i0]? = some (.inl 12)) (x1 : Int32) (x2 : Int32) (M : Mem) : T X eI (X12_behind i0  x1 x2 M) md_X12_behind 0 [(0, .ref i0), (1, .int x1), (2, .int x2)] [] M := by
  unfold X12_behind
  refine T_iload_n 1 dX12_behind_0 rfl rfl ?_
  refine T_callSI md_X12_isCabin [.int x1] [] dX12_behind_1 rfl ok_X12_isCabin tb_812 tb_813 (by decide) (Nat.le_of_ble_eq_true rfl) (fun _ _ h9 => C_X12_isCabin  _ h9) (fun r1 M1 => ?_)
  dsimp only
  refine T_if_ne 9 dX12_behind_4 (by decide) ?_ ?_
  ·
    refine T_iconst (v := (-1 : Int32)) (by decide) dX12_behind_7 ?_
    exact T_iret dX12_behind_8 rfl
  ·
    refine T_iload_n 2 dX12_behind_9 rfl rfl ?_
    refine T_i2l dX12_behind_10 ?_
    refine T_lconst (v := (0 : Int64)) (by decide) dX12_behind_11 ?_
    refine T_lconst (v := (1 : Int64)) (by decide) dX12_behind_12 ?_
    refine T_callSI md_X12_in [.long x2.toInt64, .long (0 : Int64), .long (1 : Int64)] [] dX12_behind_13 rfl ok_X12_in tb_816 tb_817 (by decide) (Nat.le_of_ble_eq_true rfl) (fun _ _ h9 => C_X12_in  _ _ _ h9) (fun r2 M2 => ?_)
    dsimp only
    refine T_if_ne 22 dX12_behind_16 (by decide) ?_ ?_
    ·
      refine T_bipush (v := (-2 : Int32)) (by decide) dX12_behind_19 ?_
      exact T_iret dX12_behind_21 rfl
    ·
      refine T_aload_n 0 dX12_behind_22 rfl rfl ?_
      refine T_callVI md_X12_refusal [] [] dX12_behind_23 h0 rfl rfl ok_X12_refusal tb_875 tb_877 tb_17 (by decide) (Nat.le_of_ble_eq_true rfl) (fun _ _ h9 => C_X12_refusal h0  h9) (fun r3 M3 => ?_)
      dsimp only
      refine T_istore_n [(3, .int r3), (0, .ref i0), (1, .int x1), (2, .int x2)] dX12_behind_26 rfl (by decide) rfl ?_
      refine T_aload_n 1 dX12_behind_27 rfl rfl ?_
      refine T_iload_n 0 dX12_behind_28 rfl rfl ?_
      refine T_bipush (v := (-6 : Int32)) (by decide) dX12_behind_29 ?_
      refine T_icmp_eq 38 dX12_behind_31 (by decide) ?_ ?_
      ·
        refine T_iload_n 3 dX12_behind_38 rfl rfl ?_
        refine T_if_ne 51 dX12_behind_39 (by decide) ?_ ?_
        ·
          refine T_aload_n 1 dX12_behind_42 rfl rfl ?_
          refine T_getR 0 FOk_12 h0 (by decide) (by decide) dX12_behind_43 tb_713 ?_
          refine T_iload_n 2 dX12_behind_46 rfl rfl ?_
          refine T_iald (kf_12_0 h0) dX12_behind_47 ?_
          refine T_goto 62 dX12_behind_48 (by decide) ?_
          refine T_sub [] (lv' := []) rfl ?_
          exact t_X12_behind_b62 h0  _ _
        ·
          refine T_aload_n 1 dX12_behind_51 rfl rfl ?_
          refine T_getR 1 FOk_12 h0 (by decide) (by decide) dX12_behind_52 tb_714 ?_
          refine T_aload_n 1 dX12_behind_55 rfl rfl ?_
          refine T_getR 0 FOk_12 h0 (by decide) (by decide) dX12_behind_56 tb_713 ?_
          refine T_iload_n 2 dX12_behind_59 rfl rfl ?_
          refine T_iald (kf_12_0 h0) dX12_behind_60 ?_
          refine T_iald (kf_12_1 h0) dX12_behind_61 ?_
          refine T_sub [] (lv' := []) rfl ?_
          exact t_X12_behind_b62 h0  _ _
      ·
        refine T_iload_n 0 dX12_behind_34 rfl rfl ?_
        refine T_goto 62 dX12_behind_35 (by decide) ?_
        refine T_sub [] (lv' := []) rfl ?_
        exact t_X12_behind_b62 h0  _ _
theorem C_X12_behind {X : Scr} {i0 : Nat} (h0 : KD[i0]? = some (.inl 12)) (x1 : Int32) (x2 : Int32) {M : Mem} {r : Int32} {M' : Mem} (h : X12_behind i0 x1 x2 M = some (r, M')) : Ct X md_X12_behind [.ref i0, .int x1, .int x2] M (eI r) M' := Ct_of (by decide +kernel) (Nat.le_of_ble_eq_true rfl) (t_X12_behind h0 _ _ M) r M' h
