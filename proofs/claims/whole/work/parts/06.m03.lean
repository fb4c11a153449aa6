-- X2_draw
def X2_draw_b105 (i0 : Nat) (i1 : Nat) (k14 : Int32 → Int32 → Int32 → Mem → Option (Unit × Mem)) (x3 : Int32) (x4 : Int32) (x5 : Int32) (M : Mem) : Option (Unit × Mem) :=
  k14 x3 x4 (x5 + (1 : Int32)) M
def X2_draw_b78 (i0 : Nat) (i1 : Nat) (k14 : Int32 → Int32 → Int32 → Mem → Option (Unit × Mem)) (x3 : Int32) (x4 : Int32) (x5 : Int32) (x6 : Int32) (s0 : Int32) (M : Mem) : Option (Unit × Mem) :=
  (X0_whyNot (rf i0 0) x6 s0 M).bind (fun p1 =>
    if p1.1 = 0 then
      (X0_perform (rf i0 0) x6 s0 p1.2).bind (fun p2 =>
        X2_draw_b105 i0 i1 k14 x3 x4 x5 p2.2)
    else
      X2_draw_b105 i0 i1 k14 x3 x4 x5 p1.2)
def X2_draw_b65 (i0 : Nat) (i1 : Nat) (k14 : Int32 → Int32 → Int32 → Mem → Option (Unit × Mem)) (x3 : Int32) (x4 : Int32) (x5 : Int32) (x6 : Int32) (x7 : Int32) (M : Mem) : Option (Unit × Mem) :=
  gd (!((8 : Int32) == 0)) (
    X2_draw_b78 i0 i1 k14 x3 x4 x5 x6 (x7 - x7 / (8 : Int32) * (8 : Int32)) M)
def X2_draw_b14 (i0 : Nat) (i1 : Nat) (k14 : Int32 → Int32 → Int32 → Mem → Option (Unit × Mem)) (x3 : Int32) (x4 : Int32) (x5 : Int32) (M : Mem) : Option (Unit × Mem) :=
  if x3 ≤ x5 then
    some ((), M)
  else
    gd (!((65537 : Int32) == 0)) (
      gd (!((8 : Int32) == 0)) (
        gd (ib (((((75 : Int32) * x4) + (74 : Int32)) - (((75 : Int32) * x4) + (74 : Int32)) / (65537 : Int32) * (65537 : Int32)) - ((((75 : Int32) * x4) + (74 : Int32)) - (((75 : Int32) * x4) + (74 : Int32)) / (65537 : Int32) * (65537 : Int32)) / (8 : Int32) * (8 : Int32)) 8) (
          gd (!((8 : Int32) == 0)) (
            if (dk (((((75 : Int32) * x4) + (74 : Int32)) - (((75 : Int32) * x4) + (74 : Int32)) / (65537 : Int32) * (65537 : Int32)) - ((((75 : Int32) * x4) + (74 : Int32)) - (((75 : Int32) * x4) + (74 : Int32)) / (65537 : Int32) * (65537 : Int32)) / (8 : Int32) * (8 : Int32)).toNatClampNeg) = (43 : Int32) then
              X2_draw_b65 i0 i1 k14 x3 ((((75 : Int32) * x4) + (74 : Int32)) - (((75 : Int32) * x4) + (74 : Int32)) / (65537 : Int32) * (65537 : Int32)) x5 (dk (((((75 : Int32) * x4) + (74 : Int32)) - (((75 : Int32) * x4) + (74 : Int32)) / (65537 : Int32) * (65537 : Int32)) - ((((75 : Int32) * x4) + (74 : Int32)) - (((75 : Int32) * x4) + (74 : Int32)) / (65537 : Int32) * (65537 : Int32)) / (8 : Int32) * (8 : Int32)).toNatClampNeg) (((((75 : Int32) * x4) + (74 : Int32)) - (((75 : Int32) * x4) + (74 : Int32)) / (65537 : Int32) * (65537 : Int32)) / (8 : Int32)) M
            else
              if (dk (((((75 : Int32) * x4) + (74 : Int32)) - (((75 : Int32) * x4) + (74 : Int32)) / (65537 : Int32) * (65537 : Int32)) - ((((75 : Int32) * x4) + (74 : Int32)) - (((75 : Int32) * x4) + (74 : Int32)) / (65537 : Int32) * (65537 : Int32)) / (8 : Int32) * (8 : Int32)).toNatClampNeg) = (45 : Int32) then
                X2_draw_b65 i0 i1 k14 x3 ((((75 : Int32) * x4) + (74 : Int32)) - (((75 : Int32) * x4) + (74 : Int32)) / (65537 : Int32) * (65537 : Int32)) x5 (dk (((((75 : Int32) * x4) + (74 : Int32)) - (((75 : Int32) * x4) + (74 : Int32)) / (65537 : Int32) * (65537 : Int32)) - ((((75 : Int32) * x4) + (74 : Int32)) - (((75 : Int32) * x4) + (74 : Int32)) / (65537 : Int32) * (65537 : Int32)) / (8 : Int32) * (8 : Int32)).toNatClampNeg) (((((75 : Int32) * x4) + (74 : Int32)) - (((75 : Int32) * x4) + (74 : Int32)) / (65537 : Int32) * (65537 : Int32)) / (8 : Int32)) M
              else
                gd (!((10 : Int32) == 0)) (
                  X2_draw_b78 i0 i1 k14 x3 ((((75 : Int32) * x4) + (74 : Int32)) - (((75 : Int32) * x4) + (74 : Int32)) / (65537 : Int32) * (65537 : Int32)) x5 (dk (((((75 : Int32) * x4) + (74 : Int32)) - (((75 : Int32) * x4) + (74 : Int32)) / (65537 : Int32) * (65537 : Int32)) - ((((75 : Int32) * x4) + (74 : Int32)) - (((75 : Int32) * x4) + (74 : Int32)) / (65537 : Int32) * (65537 : Int32)) / (8 : Int32) * (8 : Int32)).toNatClampNeg) ((((((75 : Int32) * x4) + (74 : Int32)) - (((75 : Int32) * x4) + (74 : Int32)) / (65537 : Int32) * (65537 : Int32)) / (8 : Int32)) - (((((75 : Int32) * x4) + (74 : Int32)) - (((75 : Int32) * x4) + (74 : Int32)) / (65537 : Int32) * (65537 : Int32)) / (8 : Int32)) / (10 : Int32) * (10 : Int32)) M)))))
def X2_draw_l14 (i0 : Nat) (i1 : Nat)  : Nat → Int32 → Int32 → Int32 → Mem → Option (Unit × Mem)
  | 0 => fun _ _ _ _ => none
  | n + 1 => X2_draw_b14 i0 i1 (X2_draw_l14 i0 i1  n)
def X2_draw (i0 : Nat) (i1 : Nat)  (x2 : Int32) (x3 : Int32) (M : Mem) : Option (Unit × Mem) :=
  (X0_takeOver (rf i0 0) i1  M).bind (fun p1 =>
    X2_draw_l14 i0 i1  FU x3 x2 (0 : Int32) p1.2)
set_option maxHeartbeats 4000000 in
set_option maxRecDepth 100000 in
theorem t_X2_draw_b105 {X : Scr} {i0 : Nat} {i1 : Nat} (h0 : KD[i0]? = some (.inl 2)) (h1 : KD[i1]? = some (.inl 0)) {k14 : Int32 → Int32 → Int32 → Mem → Option (Unit × Mem)} (hk14 : ∀ (x3 : Int32) (x4 : Int32) (x5 : Int32) (M : Mem), T X eV (k14 x3 x4 x5 M) md_X2_draw 14 [(0, .ref i0), (3, .int x3), (4, .int x4), (5, .int x5)] [] M) (x3 : Int32) (x4 : Int32) (x5 : Int32) (M : Mem) : T X eV (X2_draw_b105 i0 i1 k14 x3 x4 x5 M) md_X2_draw 105 [(0, .ref i0), (3, .int x3), (4, .int x4), (5, .int x5)] [] M := by
  unfold X2_draw_b105
  refine T_iinc 3 [(5, .int (x5 + (1 : Int32))), (0, .ref i0), (3, .int x3), (4, .int x4)] (v := (1 : Int32)) dX2_draw_105 rfl (by decide) (by decide) rfl ?_
  refine T_goto 14 dX2_draw_108 (by decide) ?_
  refine T_sub [1, 2, 3, 0] (lv' := [(0, .ref i0), (3, .int x3), (4, .int x4), (5, .int (x5 + (1 : Int32)))]) rfl ?_
  exact hk14 _ _ _ _
set_option maxHeartbeats 4000000 in
set_option maxRecDepth 100000 in
theorem t_X2_draw_b78 {X : Scr} {i0 : Nat} {i1 : Nat} (h0 : KD[i0]? = some (.inl 2)) (h1 : KD[i1]? = some (.inl 0)) {k14 : Int32 → Int32 → Int32 → Mem → Option (Unit × Mem)} (hk14 : ∀ (x3 : Int32) (x4 : Int32) (x5 : Int32) (M : Mem), T X eV (k14 x3 x4 x5 M) md_X2_draw 14 [(0, .ref i0), (3, .int x3), (4, .int x4), (5, .int x5)] [] M) (x3 : Int32) (x4 : Int32) (x5 : Int32) (x6 : Int32) (s0 : Int32) (M : Mem) : T X eV (X2_draw_b78 i0 i1 k14 x3 x4 x5 x6 s0 M) md_X2_draw 78 [(0, .ref i0), (3, .int x3), (4, .int x4), (5, .int x5), (6, .int x6)] [.int s0] M := by
  unfold X2_draw_b78
  refine T_istore [(8, .int s0), (0, .ref i0), (3, .int x3), (4, .int x4), (5, .int x5), (6, .int x6)] dX2_draw_78 (by decide) rfl ?_
  refine T_aload_n 1 dX2_draw_80 rfl rfl ?_
  refine T_getR 0 FOk_2 h0 (by decide) (by decide) dX2_draw_81 tb_183 ?_
  refine T_iload 5 dX2_draw_84 rfl ?_
  refine T_iload 0 dX2_draw_86 rfl ?_
  refine T_callVI md_X0_whyNot [.int x6, .int s0] [] dX2_draw_88 (kf_2_0 h0) rfl rfl ok_X0_whyNot tb_454 tb_455 tb_456 (by decide) (Nat.le_of_ble_eq_true rfl) (fun _ _ h9 => C_X0_whyNot (kf_2_0 h0) _ _ h9) (fun r1 M1 => ?_)
  dsimp only
  refine T_if_ne 105 dX2_draw_91 (by decide) ?_ ?_
  ·
    refine T_aload_n 1 dX2_draw_94 rfl rfl ?_
    refine T_getR 0 FOk_2 h0 (by decide) (by decide) dX2_draw_95 tb_183 ?_
    refine T_iload 5 dX2_draw_98 rfl ?_
    refine T_iload 0 dX2_draw_100 rfl ?_
    refine T_callVU md_X0_perform [.int x6, .int s0] [] dX2_draw_102 (kf_2_0 h0) rfl rfl ok_X0_perform tb_487 tb_488 tb_489 (by decide) (Nat.le_of_ble_eq_true rfl) (fun _ _ h9 => C_X0_perform (kf_2_0 h0) _ _ h9) (fun r2 M2 => ?_)
    dsimp only
    refine T_sub [1, 2, 3, 4] (lv' := [(0, .ref i0), (3, .int x3), (4, .int x4), (5, .int x5)]) rfl ?_
    exact t_X2_draw_b105 h0 h1 hk14 _ _ _ _
  ·
    refine T_sub [1, 2, 3, 4] (lv' := [(0, .ref i0), (3, .int x3), (4, .int x4), (5, .int x5)]) rfl ?_
    exact t_X2_draw_b105 h0 h1 hk14 _ _ _ _
set_option maxHeartbeats 4000000 in
set_option maxRecDepth 100000 in
theorem t_X2_draw_b65 {X : Scr} {i0 : Nat} {i1 : Nat} (h0 : KD[i0]? = some (.inl 2)) (h1 : KD[i1]? = some (.inl 0)) {k14 : Int32 → Int32 → Int32 → Mem → Option (Unit × Mem)} (hk14 : ∀ (x3 : Int32) (x4 : Int32) (x5 : Int32) (M : Mem), T X eV (k14 x3 x4 x5 M) md_X2_draw 14 [(0, .ref i0), (3, .int x3), (4, .int x4), (5, .int x5)] [] M) (x3 : Int32) (x4 : Int32) (x5 : Int32) (x6 : Int32) (x7 : Int32) (M : Mem) : T X eV (X2_draw_b65 i0 i1 k14 x3 x4 x5 x6 x7 M) md_X2_draw 65 [(0, .ref i0), (3, .int x3), (4, .int x4), (5, .int x5), (6, .int x6), (7, .int x7)] [] M := by
  unfold X2_draw_b65
  refine T_iload 5 dX2_draw_65 rfl ?_
  refine T_bipush (v := (8 : Int32)) (by decide) dX2_draw_67 ?_
  refine T_irem dX2_draw_69 ?_
  refine T_goto 78 dX2_draw_70 (by decide) ?_
  refine T_sub [0, 1, 2, 3, 4] (lv' := [(0, .ref i0), (3, .int x3), (4, .int x4), (5, .int x5), (6, .int x6)]) rfl ?_
  exact t_X2_draw_b78 h0 h1 hk14 _ _ _ _ _ _
set_option maxHeartbeats 4000000 in
set_option maxRecDepth 100000 in
theorem t_X2_draw_b14 {X : Scr} {i0 : Nat} {i1 : Nat} (h0 : KD[i0]? = some (.inl 2)) (h1 : KD[i1]? = some (.inl 0)) {k14 : Int32 → Int32 → Int32 → Mem → Option (Unit × Mem)} (hk14 : ∀ (x3 : Int32) (x4 : Int32) (x5 : Int32) (M : Mem), T X eV (k14 x3 x4 x5 M) md_X2_draw 14 [(0, .ref i0), (3, .int x3), (4, .int x4), (5, .int x5)] [] M) (x3 : Int32) (x4 : Int32) (x5 : Int32) (M : Mem) : T X eV (X2_draw_b14 i0 i1 k14 x3 x4 x5 M) md_X2_draw 14 [(0, .ref i0), (3, .int x3), (4, .int x4), (5, .int x5)] [] M := by
  unfold X2_draw_b14
  refine T_iload 3 dX2_draw_14 rfl ?_
  refine T_iload_n 1 dX2_draw_16 rfl rfl ?_
  refine T_icmp_ge 111 dX2_draw_17 (by decide) ?_ ?_
  ·
    exact T_vret dX2_draw_111 rfl
  ·
    refine T_bipush (v := (75 : Int32)) (by decide) dX2_draw_20 ?_
    refine T_iload 2 dX2_draw_22 rfl ?_
    refine T_imul dX2_draw_24 ?_
    refine T_bipush (v := (74 : Int32)) (by decide) dX2_draw_25 ?_
    refine T_iadd dX2_draw_27 ?_
    refine T_ldc (v := (65537 : Int32)) dX2_draw_28 tb_672 ?_
    refine T_irem dX2_draw_30 ?_
    refine T_istore [(4, .int ((((75 : Int32) * x4) + (74 : Int32)) - (((75 : Int32) * x4) + (74 : Int32)) / (65537 : Int32) * (65537 : Int32))), (0, .ref i0), (3, .int x3), (5, .int x5)] dX2_draw_31 (by decide) rfl ?_
    refine T_gets dX2_draw_33 tb_673 ?_
    refine T_iload 0 dX2_draw_36 rfl ?_
    refine T_bipush (v := (8 : Int32)) (by decide) dX2_draw_38 ?_
    refine T_irem dX2_draw_40 ?_
    refine T_dld dX2_draw_41 ?_
    refine T_istore [(6, .int (dk (((((75 : Int32) * x4) + (74 : Int32)) - (((75 : Int32) * x4) + (74 : Int32)) / (65537 : Int32) * (65537 : Int32)) - ((((75 : Int32) * x4) + (74 : Int32)) - (((75 : Int32) * x4) + (74 : Int32)) / (65537 : Int32) * (65537 : Int32)) / (8 : Int32) * (8 : Int32)).toNatClampNeg)), (4, .int ((((75 : Int32) * x4) + (74 : Int32)) - (((75 : Int32) * x4) + (74 : Int32)) / (65537 : Int32) * (65537 : Int32))), (0, .ref i0), (3, .int x3), (5, .int x5)] dX2_draw_42 (by decide) rfl ?_
    refine T_iload 1 dX2_draw_44 rfl ?_
    refine T_bipush (v := (8 : Int32)) (by decide) dX2_draw_46 ?_
    refine T_idiv dX2_draw_48 ?_
    refine T_istore [(7, .int (((((75 : Int32) * x4) + (74 : Int32)) - (((75 : Int32) * x4) + (74 : Int32)) / (65537 : Int32) * (65537 : Int32)) / (8 : Int32))), (6, .int (dk (((((75 : Int32) * x4) + (74 : Int32)) - (((75 : Int32) * x4) + (74 : Int32)) / (65537 : Int32) * (65537 : Int32)) - ((((75 : Int32) * x4) + (74 : Int32)) - (((75 : Int32) * x4) + (74 : Int32)) / (65537 : Int32) * (65537 : Int32)) / (8 : Int32) * (8 : Int32)).toNatClampNeg)), (4, .int ((((75 : Int32) * x4) + (74 : Int32)) - (((75 : Int32) * x4) + (74 : Int32)) / (65537 : Int32) * (65537 : Int32))), (0, .ref i0), (3, .int x3), (5, .int x5)] dX2_draw_49 (by decide) rfl ?_
    refine T_iload 1 dX2_draw_51 rfl ?_
    refine T_bipush (v := (43 : Int32)) (by decide) dX2_draw_53 ?_
    refine T_icmp_eq 65 dX2_draw_55 (by decide) ?_ ?_
    ·
      refine T_sub [3, 4, 2, 5, 1, 0] (lv' := [(0, .ref i0), (3, .int x3), (4, .int ((((75 : Int32) * x4) + (74 : Int32)) - (((75 : Int32) * x4) + (74 : Int32)) / (65537 : Int32) * (65537 : Int32))), (5, .int x5), (6, .int (dk (((((75 : Int32) * x4) + (74 : Int32)) - (((75 : Int32) * x4) + (74 : Int32)) / (65537 : Int32) * (65537 : Int32)) - ((((75 : Int32) * x4) + (74 : Int32)) - (((75 : Int32) * x4) + (74 : Int32)) / (65537 : Int32) * (65537 : Int32)) / (8 : Int32) * (8 : Int32)).toNatClampNeg)), (7, .int (((((75 : Int32) * x4) + (74 : Int32)) - (((75 : Int32) * x4) + (74 : Int32)) / (65537 : Int32) * (65537 : Int32)) / (8 : Int32)))]) rfl ?_
      exact t_X2_draw_b65 h0 h1 hk14 _ _ _ _ _ _
    ·
      refine T_iload 1 dX2_draw_58 rfl ?_
      refine T_bipush (v := (45 : Int32)) (by decide) dX2_draw_60 ?_
      refine T_icmp_ne 73 dX2_draw_62 (by decide) ?_ ?_
      ·
        refine T_sub [3, 4, 2, 5, 1, 0] (lv' := [(0, .ref i0), (3, .int x3), (4, .int ((((75 : Int32) * x4) + (74 : Int32)) - (((75 : Int32) * x4) + (74 : Int32)) / (65537 : Int32) * (65537 : Int32))), (5, .int x5), (6, .int (dk (((((75 : Int32) * x4) + (74 : Int32)) - (((75 : Int32) * x4) + (74 : Int32)) / (65537 : Int32) * (65537 : Int32)) - ((((75 : Int32) * x4) + (74 : Int32)) - (((75 : Int32) * x4) + (74 : Int32)) / (65537 : Int32) * (65537 : Int32)) / (8 : Int32) * (8 : Int32)).toNatClampNeg)), (7, .int (((((75 : Int32) * x4) + (74 : Int32)) - (((75 : Int32) * x4) + (74 : Int32)) / (65537 : Int32) * (65537 : Int32)) / (8 : Int32)))]) rfl ?_
        exact t_X2_draw_b65 h0 h1 hk14 _ _ _ _ _ _
      ·
        refine T_iload 0 dX2_draw_73 rfl ?_
        refine T_bipush (v := (10 : Int32)) (by decide) dX2_draw_75 ?_
        refine T_irem dX2_draw_77 ?_
        refine T_sub [3, 4, 2, 5, 1] (lv' := [(0, .ref i0), (3, .int x3), (4, .int ((((75 : Int32) * x4) + (74 : Int32)) - (((75 : Int32) * x4) + (74 : Int32)) / (65537 : Int32) * (65537 : Int32))), (5, .int x5), (6, .int (dk (((((75 : Int32) * x4) + (74 : Int32)) - (((75 : Int32) * x4) + (74 : Int32)) / (65537 : Int32) * (65537 : Int32)) - ((((75 : Int32) * x4) + (74 : Int32)) - (((75 : Int32) * x4) + (74 : Int32)) / (65537 : Int32) * (65537 : Int32)) / (8 : Int32) * (8 : Int32)).toNatClampNeg))]) rfl ?_
        exact t_X2_draw_b78 h0 h1 hk14 _ _ _ _ _ _
theorem t_X2_draw_l14 {X : Scr} {i0 : Nat} {i1 : Nat} (h0 : KD[i0]? = some (.inl 2)) (h1 : KD[i1]? = some (.inl 0)) (n : Nat) : ∀ (x3 : Int32) (x4 : Int32) (x5 : Int32) (M : Mem), T X eV (X2_draw_l14 i0 i1  n x3 x4 x5 M) md_X2_draw 14 [(0, .ref i0), (3, .int x3), (4, .int x4), (5, .int x5)] [] M := by
  induction n with
  | zero => intro x3 x4 x5 M; exact T_none
  | succ n ih => intro x3 x4 x5 M; exact t_X2_draw_b14 h0 h1 ih x3 x4 x5 M
set_option maxHeartbeats 4000000 in
set_option maxRecDepth 100000 in
theorem t_X2_draw {X : Scr} {i0 : Nat} {i1 : Nat} (h0 : KD[i0]? = some (.inl 2)) (h1 : KD[i1]? = some (.inl 0)) (x2 : Int32) (x3 : Int32) (M : Mem) : T X eV (X2_draw i0 i1  x2 x3 M) md_X2_draw 0 [(0, .ref i0), (1, .ref i1), (2, .int x2), (3, .int x3)] [] M := by
  unfold X2_draw
  refine T_aload_n 0 dX2_draw_0 rfl rfl ?_
  refine T_getR 0 FOk_2 h0 (by decide) (by decide) dX2_draw_1 tb_183 ?_
  refine T_aload_n 1 dX2_draw_4 rfl rfl ?_
  refine T_callVU md_X0_takeOver [.ref i1] [] dX2_draw_5 (kf_2_0 h0) rfl rfl ok_X0_takeOver tb_435 tb_436 tb_437 (by decide) (Nat.le_of_ble_eq_true rfl) (fun _ _ h9 => C_X0_takeOver (kf_2_0 h0) h1  h9) (fun r1 M1 => ?_)
  dsimp only
  refine T_iload_n 2 dX2_draw_8 rfl rfl ?_
  refine T_istore [(4, .int x2), (0, .ref i0), (1, .ref i1), (2, .int x2), (3, .int x3)] dX2_draw_9 (by decide) rfl ?_
  refine T_iconst (v := (0 : Int32)) (by decide) dX2_draw_11 ?_
  refine T_istore [(5, .int (0 : Int32)), (4, .int x2), (0, .ref i0), (1, .ref i1), (2, .int x2), (3, .int x3)] dX2_draw_12 (by decide) rfl ?_
  refine T_sub [2, 5, 1, 0] (lv' := [(0, .ref i0), (3, .int x3), (4, .int x2), (5, .int (0 : Int32))]) rfl ?_
  exact t_X2_draw_l14 h0 h1  _ _ _ _ _
theorem C_X2_draw {X : Scr} {i0 : Nat} {i1 : Nat} (h0 : KD[i0]? = some (.inl 2)) (h1 : KD[i1]? = some (.inl 0)) (x2 : Int32) (x3 : Int32) {M : Mem} {r : Unit} {M' : Mem} (h : X2_draw i0 i1 x2 x3 M = some (r, M')) : Ct X md_X2_draw [.ref i0, .ref i1, .int x2, .int x3] M (eV r) M' := Ct_of (by decide +kernel) (Nat.le_of_ble_eq_true rfl) (t_X2_draw h0 h1 _ _ M) r M' h
-- X3_hang
def X3_hang_b49 (i0 : Nat)   (M : Mem) : Option (Int32 × Mem) :=
  some ((0 : Int32), M)
def X3_hang_b87 (i0 : Nat)  (s0 : Int32) (M : Mem) : Option (Int32 × Mem) :=
  gd (s0 == 0 || s0 == 1) (some (s0, M))
def X3_hang_b13 (i0 : Nat) (k13 : Int32 → Int32 → Int32 → Mem → Option (Int32 × Mem)) (x2 : Int32) (x3 : Int32) (x4 : Int32) (M : Mem) : Option (Int32 × Mem) :=
  if x4 < 0 then
    if x2 = 0 then
      X3_hang_b87 i0  (1 : Int32) M
    else
      X3_hang_b87 i0  (0 : Int32) M
  else
    gd (!((10 : Int32) == 0)) (
      (X11_isWithin  (x2 - x2 / (10 : Int32) * (10 : Int32)) (0 : Int32) ((6 : Int32) - (1 : Int32)) M).bind (fun p1 =>
        if p1.1 = 0 then
          X3_hang_b49 i0   p1.2
        else
          (X11_isIn  x3 (x2 - x2 / (10 : Int32) * (10 : Int32)) p1.2).bind (fun p2 =>
            if p2.1 = 0 then
              gd (ib x4 6) (
                gd (!((10 : Int32) == 0)) (
                  k13 (x2 / (10 : Int32)) (x3 ||| ((1 : Int32) <<< ((x2 - x2 / (10 : Int32) * (10 : Int32)) &&& 31))) (x4 + (-1 : Int32)) (mI p2.2 (rf i0 0) x4.toNatClampNeg (x2 - x2 / (10 : Int32) * (10 : Int32)))))
            else
              X3_hang_b49 i0   p2.2)))
def X3_hang_l13 (i0 : Nat)  : Nat → Int32 → Int32 → Int32 → Mem → Option (Int32 × Mem)
  | 0 => fun _ _ _ _ => none
  | n + 1 => X3_hang_b13 i0 (X3_hang_l13 i0  n)
def X3_hang (i0 : Nat)  (x1 : Int32) (M : Mem) : Option (Int32 × Mem) :=
  X3_hang_l13 i0  FU x1 (0 : Int32) ((6 : Int32) - (1 : Int32)) M
set_option maxHeartbeats 4000000 in
set_option maxRecDepth 100000 in
theorem t_X3_hang_b49 {X : Scr} {i0 : Nat} (h0 : KD[i0]? = some (.inl 3))  (M : Mem) : T X eI (X3_hang_b49 i0   M) md_X3_hang 49 [] [] M := by
  unfold X3_hang_b49
  refine T_iconst (v := (0 : Int32)) (by decide) dX3_hang_49 ?_
  exact T_zret0 dX3_hang_50 rfl
set_option maxHeartbeats 4000000 in
set_option maxRecDepth 100000 in
theorem t_X3_hang_b87 {X : Scr} {i0 : Nat} (h0 : KD[i0]? = some (.inl 3)) (s0 : Int32) (M : Mem) : T X eI (X3_hang_b87 i0  s0 M) md_X3_hang 87 [] [.int s0] M := by
  unfold X3_hang_b87
  exact T_zret dX3_hang_87 rfl
set_option maxHeartbeats 4000000 in
set_option maxRecDepth 100000 in
theorem t_X3_hang_b13 {X : Scr} {i0 : Nat} (h0 : KD[i0]? = some (.inl 3)) {k13 : Int32 → Int32 → Int32 → Mem → Option (Int32 × Mem)} (hk13 : ∀ (x2 : Int32) (x3 : Int32) (x4 : Int32) (M : Mem), T X eI (k13 x2 x3 x4 M) md_X3_hang 13 [(0, .ref i0), (2, .int x2), (3, .int x3), (4, .int x4)] [] M) (x2 : Int32) (x3 : Int32) (x4 : Int32) (M : Mem) : T X eI (X3_hang_b13 i0 k13 x2 x3 x4 M) md_X3_hang 13 [(0, .ref i0), (2, .int x2), (3, .int x3), (4, .int x4)] [] M := by
  unfold X3_hang_b13
  refine T_iload 3 dX3_hang_13 rfl ?_
  refine T_if_lt 78 dX3_hang_15 (by decide) ?_ ?_
  ·
    refine T_iload_n 1 dX3_hang_78 rfl rfl ?_
    refine T_if_ne 86 dX3_hang_79 (by decide) ?_ ?_
    ·
      refine T_iconst (v := (1 : Int32)) (by decide) dX3_hang_82 ?_
      refine T_goto 87 dX3_hang_83 (by decide) ?_
      refine T_sub [] (lv' := []) rfl ?_
      exact t_X3_hang_b87 h0  _ _
    ·
      refine T_iconst (v := (0 : Int32)) (by decide) dX3_hang_86 ?_
      refine T_sub [] (lv' := []) rfl ?_
      exact t_X3_hang_b87 h0  _ _
  ·
    refine T_iload_n 1 dX3_hang_18 rfl rfl ?_
    refine T_bipush (v := (10 : Int32)) (by decide) dX3_hang_19 ?_
    refine T_irem dX3_hang_21 ?_
    refine T_istore [(5, .int (x2 - x2 / (10 : Int32) * (10 : Int32))), (0, .ref i0), (2, .int x2), (3, .int x3), (4, .int x4)] dX3_hang_22 (by decide) rfl ?_
    refine T_iload 0 dX3_hang_24 rfl ?_
    refine T_iconst (v := (0 : Int32)) (by decide) dX3_hang_26 ?_
    refine T_aload_n 1 dX3_hang_27 rfl rfl ?_
    refine T_getR 0 FOk_3 h0 (by decide) (by decide) dX3_hang_28 tb_254 ?_
    refine T_alen (v := (6 : Int32)) (t := 0) (kf_3_0 h0) (by decide) dX3_hang_31 ?_
    refine T_iconst (v := (1 : Int32)) (by decide) dX3_hang_32 ?_
    refine T_isub dX3_hang_33 ?_
    refine T_callSNI md_X11_isWithin [.int (x2 - x2 / (10 : Int32) * (10 : Int32)), .int (0 : Int32), .int ((6 : Int32) - (1 : Int32))] [] dX3_hang_34 rfl ok_X11_isWithin tb_579 tb_362 (by decide) (Nat.le_of_ble_eq_true rfl) (fun _ _ h9 => C_X11_isWithin  _ _ _ h9) (fun r1 M1 => ?_)
    dsimp only
    refine T_if_eq 49 dX3_hang_37 (by decide) ?_ ?_
    ·
      refine T_sub [] (lv' := []) rfl ?_
      exact t_X3_hang_b49 h0   _
    ·
      refine T_iload_n 3 dX3_hang_40 rfl rfl ?_
      refine T_iload 0 dX3_hang_41 rfl ?_
      refine T_callSNI md_X11_isIn [.int x3, .int (x2 - x2 / (10 : Int32) * (10 : Int32))] [] dX3_hang_43 rfl ok_X11_isIn tb_580 tb_474 (by decide) (Nat.le_of_ble_eq_true rfl) (fun _ _ h9 => C_X11_isIn  _ _ h9) (fun r2 M2 => ?_)
      dsimp only
      refine T_if_eq 51 dX3_hang_46 (by decide) ?_ ?_
      ·
        refine T_iload_n 3 dX3_hang_51 rfl rfl ?_
        refine T_iconst (v := (1 : Int32)) (by decide) dX3_hang_52 ?_
        refine T_iload 0 dX3_hang_53 rfl ?_
        refine T_ishl dX3_hang_55 ?_
        refine T_ior dX3_hang_56 ?_
        refine T_istore_n [(3, .int (x3 ||| ((1 : Int32) <<< ((x2 - x2 / (10 : Int32) * (10 : Int32)) &&& 31)))), (5, .int (x2 - x2 / (10 : Int32) * (10 : Int32))), (0, .ref i0), (2, .int x2), (4, .int x4)] dX3_hang_57 rfl (by decide) rfl ?_
        refine T_aload_n 2 dX3_hang_58 rfl rfl ?_
        refine T_getR 0 FOk_3 h0 (by decide) (by decide) dX3_hang_59 tb_254 ?_
        refine T_iload 4 dX3_hang_62 rfl ?_
        refine T_iload 1 dX3_hang_64 rfl ?_
        refine T_iast (kf_3_0 h0) dX3_hang_66 ?_
        refine T_iload_n 3 dX3_hang_67 rfl rfl ?_
        refine T_bipush (v := (10 : Int32)) (by decide) dX3_hang_68 ?_
        refine T_idiv dX3_hang_70 ?_
        refine T_istore_n [(2, .int (x2 / (10 : Int32))), (3, .int (x3 ||| ((1 : Int32) <<< ((x2 - x2 / (10 : Int32) * (10 : Int32)) &&& 31)))), (5, .int (x2 - x2 / (10 : Int32) * (10 : Int32))), (0, .ref i0), (4, .int x4)] dX3_hang_71 rfl (by decide) rfl ?_
        refine T_iinc 4 [(4, .int (x4 + (-1 : Int32))), (2, .int (x2 / (10 : Int32))), (3, .int (x3 ||| ((1 : Int32) <<< ((x2 - x2 / (10 : Int32) * (10 : Int32)) &&& 31)))), (5, .int (x2 - x2 / (10 : Int32) * (10 : Int32))), (0, .ref i0)] (v := (-1 : Int32)) dX3_hang_72 rfl (by decide) (by decide) rfl ?_
        refine T_goto 13 dX3_hang_75 (by decide) ?_
        refine T_sub [4, 1, 2, 0] (lv' := [(0, .ref i0), (2, .int (x2 / (10 : Int32))), (3, .int (x3 ||| ((1 : Int32) <<< ((x2 - x2 / (10 : Int32) * (10 : Int32)) &&& 31)))), (4, .int (x4 + (-1 : Int32)))]) rfl ?_
        exact hk13 _ _ _ _
      ·
        refine T_sub [] (lv' := []) rfl ?_
        exact t_X3_hang_b49 h0   _
theorem t_X3_hang_l13 {X : Scr} {i0 : Nat} (h0 : KD[i0]? = some (.inl 3)) (n : Nat) : ∀ (x2 : Int32) (x3 : Int32) (x4 : Int32) (M : Mem), T X eI (X3_hang_l13 i0  n x2 x3 x4 M) md_X3_hang 13 [(0, .ref i0), (2, .int x2), (3, .int x3), (4, .int x4)] [] M := by
  induction n with
  | zero => intro x2 x3 x4 M; exact T_none
  | succ n ih => intro x2 x3 x4 M; exact t_X3_hang_b13 h0 ih x2 x3 x4 M
set_option maxHeartbeats 4000000 in
set_option maxRecDepth 100000 in
theorem t_X3_hang {X : Scr} {i0 : Nat} (h0 : KD[i0]? = some (.inl 3)) (x1 : Int32) (M : Mem) : T X eI (X3_hang i0  x1 M) md_X3_hang 0 [(0, .ref i0), (1, .int x1)] [] M := by
  unfold X3_hang
  refine T_iload_n 1 dX3_hang_0 rfl rfl ?_
  refine T_istore_n [(2, .int x1), (0, .ref i0), (1, .int x1)] dX3_hang_1 rfl (by decide) rfl ?_
  refine T_iconst (v := (0 : Int32)) (by decide) dX3_hang_2 ?_
  refine T_istore_n [(3, .int (0 : Int32)), (2, .int x1), (0, .ref i0), (1, .int x1)] dX3_hang_3 rfl (by decide) rfl ?_
  refine T_aload_n 2 dX3_hang_4 rfl rfl ?_
  refine T_getR 0 FOk_3 h0 (by decide) (by decide) dX3_hang_5 tb_254 ?_
  refine T_alen (v := (6 : Int32)) (t := 0) (kf_3_0 h0) (by decide) dX3_hang_8 ?_
  refine T_iconst (v := (1 : Int32)) (by decide) dX3_hang_9 ?_
  refine T_isub dX3_hang_10 ?_
  refine T_istore [(4, .int ((6 : Int32) - (1 : Int32))), (3, .int (0 : Int32)), (2, .int x1), (0, .ref i0), (1, .int x1)] dX3_hang_11 (by decide) rfl ?_
  refine T_sub [3, 2, 1, 0] (lv' := [(0, .ref i0), (2, .int x1), (3, .int (0 : Int32)), (4, .int ((6 : Int32) - (1 : Int32)))]) rfl ?_
  exact t_X3_hang_l13 h0  _ _ _ _ _
theorem C_X3_hang {X : Scr} {i0 : Nat} (h0 : KD[i0]? = some (.inl 3)) (x1 : Int32) {M : Mem} {r : Int32} {M' : Mem} (h : X3_hang i0 x1 M = some (r, M')) : Ct X md_X3_hang [.ref i0, .int x1] M (eI r) M' := Ct_of (by decide +kernel) (Nat.le_of_ble_eq_true rfl) (t_X3_hang h0 _ M) r M' h
-- X3_leastMultiple
def X3_leastMultiple_b25   (x2 : Int32) (M : Mem) : Option (Int32 × Mem) :=
  some (x2, M)
def X3_leastMultiple_b4  (k4 : Int32 → Int32 → Int32 → Int32 → Mem → Option (Int32 × Mem)) (x0 : Int32) (x1 : Int32) (x2 : Int32) (x3 : Int32) (M : Mem) : Option (Int32 × Mem) :=
  if x1 ≤ x3 then
    X3_leastMultiple_b25   x2 M
  else
    gd (!(x1 == 0)) (
      if (x2 - x2 / x1 * x1) = 0 then
        X3_leastMultiple_b25   x2 M
      else
        k4 x0 x1 (x2 + x0) (x3 + (1 : Int32)) M)
def X3_leastMultiple_l4   : Nat → Int32 → Int32 → Int32 → Int32 → Mem → Option (Int32 × Mem)
  | 0 => fun _ _ _ _ _ => none
  | n + 1 => X3_leastMultiple_b4  (X3_leastMultiple_l4   n)
def X3_leastMultiple   (x0 : Int32) (x1 : Int32) (M : Mem) : Option (Int32 × Mem) :=
  X3_leastMultiple_l4   FU x0 x1 x0 (1 : Int32) M
set_option maxHeartbeats 4000000 in
set_option maxRecDepth 100000 in
theorem t_X3_leastMultiple_b25 {X : Scr}   (x2 : Int32) (M : Mem) : T X eI (X3_leastMultiple_b25   x2 M) md_X3_leastMultiple 25 [(2, .int x2)] [] M := by
  unfold X3_leastMultiple_b25
  refine T_iload_n 0 dX3_leastMultiple_25 rfl rfl ?_
  exact T_iret dX3_leastMultiple_26 rfl
set_option maxHeartbeats 4000000 in
set_option maxRecDepth 100000 in
theorem t_X3_leastMultiple_b4 {X : Scr}   {k4 : Int32 → Int32 → Int32 → Int32 → Mem → Option (Int32 × Mem)} (hk4 : ∀ (x0 : Int32) (x1 : Int32) (x2 : Int32) (x3 : Int32) (M : Mem), T X eI (k4 x0 x1 x2 x3 M) md_X3_leastMultiple 4 [(0, .int x0), (1, .int x1), (2, .int x2), (3, .int x3)] [] M) (x0 : Int32) (x1 : Int32) (x2 : Int32) (x3 : Int32) (M : Mem) : T X eI (X3_leastMultiple_b4  k4 x0 x1 x2 x3 M) md_X3_leastMultiple 4 [(0, .int x0), (1, .int x1), (2, .int x2), (3, .int x3)] [] M := by
  unfold X3_leastMultiple_b4
  refine T_iload_n 3 dX3_leastMultiple_4 rfl rfl ?_
  refine T_iload_n 1 dX3_leastMultiple_5 rfl rfl ?_
  refine T_icmp_ge 25 dX3_leastMultiple_6 (by decide) ?_ ?_
  ·
    refine T_sub [2] (lv' := [(2, .int x2)]) rfl ?_
    exact t_X3_leastMultiple_b25   _ _
  ·
    refine T_iload_n 2 dX3_leastMultiple_9 rfl rfl ?_
    refine T_iload_n 1 dX3_leastMultiple_10 rfl rfl ?_
    refine T_irem dX3_leastMultiple_11 ?_
    refine T_if_eq 25 dX3_leastMultiple_12 (by decide) ?_ ?_
    ·
      refine T_sub [2] (lv' := [(2, .int x2)]) rfl ?_
      exact t_X3_leastMultiple_b25   _ _
    ·
      refine T_iload_n 2 dX3_leastMultiple_15 rfl rfl ?_
      refine T_iload_n 0 dX3_leastMultiple_16 rfl rfl ?_
      refine T_iadd dX3_leastMultiple_17 ?_
      refine T_istore_n [(2, .int (x2 + x0)), (0, .int x0), (1, .int x1), (3, .int x3)] dX3_leastMultiple_18 rfl (by decide) rfl ?_
      refine T_iinc 3 [(3, .int (x3 + (1 : Int32))), (2, .int (x2 + x0)), (0, .int x0), (1, .int x1)] (v := (1 : Int32)) dX3_leastMultiple_19 rfl (by decide) (by decide) rfl ?_
      refine T_goto 4 dX3_leastMultiple_22 (by decide) ?_
      refine T_sub [2, 3, 1, 0] (lv' := [(0, .int x0), (1, .int x1), (2, .int (x2 + x0)), (3, .int (x3 + (1 : Int32)))]) rfl ?_
      exact hk4 _ _ _ _ _
theorem t_X3_leastMultiple_l4 {X : Scr}   (n : Nat) : ∀ (x0 : Int32) (x1 : Int32) (x2 : Int32) (x3 : Int32) (M : Mem), T X eI (X3_leastMultiple_l4   n x0 x1 x2 x3 M) md_X3_leastMultiple 4 [(0, .int x0), (1, .int x1), (2, .int x2), (3, .int x3)] [] M := by
  induction n with
  | zero => intro x0 x1 x2 x3 M; exact T_none
  | succ n ih => intro x0 x1 x2 x3 M; exact t_X3_leastMultiple_b4  ih x0 x1 x2 x3 M
set_option maxHeartbeats 4000000 in
set_option maxRecDepth 100000 in
theorem t_X3_leastMultiple {X : Scr}   (x0 : Int32) (x1 : Int32) (M : Mem) : T X eI (X3_leastMultiple   x0 x1 M) md_X3_leastMultiple 0 [(0, .int x0), (1, .int x1)] [] M := by
  unfold X3_leastMultiple
  refine T_iload_n 0 dX3_leastMultiple_0 rfl rfl ?_
  refine T_istore_n [(2, .int x0), (0, .int x0), (1, .int x1)] dX3_leastMultiple_1 rfl (by decide) rfl ?_
  refine T_iconst (v := (1 : Int32)) (by decide) dX3_leastMultiple_2 ?_
  refine T_istore_n [(3, .int (1 : Int32)), (2, .int x0), (0, .int x0), (1, .int x1)] dX3_leastMultiple_3 rfl (by decide) rfl ?_
  refine T_sub [2, 3, 1, 0] (lv' := [(0, .int x0), (1, .int x1), (2, .int x0), (3, .int (1 : Int32))]) rfl ?_
  exact t_X3_leastMultiple_l4   _ _ _ _ _ _
theorem C_X3_leastMultiple {X : Scr}   (x0 : Int32) (x1 : Int32) {M : Mem} {r : Int32} {M' : Mem} (h : X3_leastMultiple  x0 x1 M = some (r, M')) : Ct X md_X3_leastMultiple [.int x0, .int x1] M (eI r) M' := Ct_of (by decide +kernel) (Nat.le_of_ble_eq_true rfl) (t_X3_leastMultiple  _ _ M) r M' h
-- X3_follow
def X3_follow_b96 (i0 : Nat) (k14 : Int32 → Int32 → Mem → Option (Unit × Mem)) (x1 : Int32) (x2 : Int32) (M : Mem) : Option (Unit × Mem) :=
  k14 x1 (x2 + (1 : Int32)) M
def X3_follow_b68 (i0 : Nat) (k14 : Int32 → Int32 → Mem → Option (Unit × Mem)) (x1 : Int32) (x2 : Int32) (x3 : Int32) (M : Mem) : Option (Unit × Mem) :=
  if x3 ≤ 0 then
    X3_follow_b96 i0 k14 x1 x2 M
  else
    (X3_leastMultiple  ((mI M i0 1 ((M.1 i0 1) + (x3 - (1 : Int32)))).1 i0 2) x3 (mI M i0 1 ((M.1 i0 1) + (x3 - (1 : Int32))))).bind (fun p1 =>
      X3_follow_b96 i0 k14 x1 x2 (mI p1.2 i0 2 p1.1))
def X3_follow_b28 (i0 : Nat) (k14 : Int32 → Int32 → Mem → Option (Unit × Mem)) (k28 : Int32 → Int32 → Int32 → Int32 → Mem → Option (Unit × Mem)) (x1 : Int32) (x2 : Int32) (x3 : Int32) (x4 : Int32) (M : Mem) : Option (Unit × Mem) :=
  if (6 : Int32) ≤ x3 then
    X3_follow_b68 i0 k14 x1 x2 x3 M
  else
    (X11_isIn  x1 x4 M).bind (fun p1 =>
      if p1.1 = 0 then
        gd (ib x4 6) (
          k28 (x1 ||| ((1 : Int32) <<< (x4 &&& 31))) x2 (x3 + (1 : Int32)) (p1.2.1 (rf i0 0) x4.toNatClampNeg) p1.2)
      else
        X3_follow_b68 i0 k14 x1 x2 x3 p1.2)
def X3_follow_l28 (i0 : Nat) (k14 : Int32 → Int32 → Mem → Option (Unit × Mem)) : Nat → Int32 → Int32 → Int32 → Int32 → Mem → Option (Unit × Mem)
  | 0 => fun _ _ _ _ _ => none
  | n + 1 => X3_follow_b28 i0 k14 (X3_follow_l28 i0 k14 n)
def X3_follow_b14 (i0 : Nat) (k14 : Int32 → Int32 → Mem → Option (Unit × Mem)) (x1 : Int32) (x2 : Int32) (M : Mem) : Option (Unit × Mem) :=
  if (6 : Int32) ≤ x2 then
    some ((), M)
  else
    X3_follow_l28 i0 k14 FU x1 x2 (0 : Int32) x2 M
def X3_follow_l14 (i0 : Nat)  : Nat → Int32 → Int32 → Mem → Option (Unit × Mem)
  | 0 => fun _ _ _ => none
  | n + 1 => X3_follow_b14 i0 (X3_follow_l14 i0  n)
def X3_follow (i0 : Nat)   (M : Mem) : Option (Unit × Mem) :=
  X3_follow_l14 i0  FU (0 : Int32) (0 : Int32) (mI (mI M i0 1 (0 : Int32)) i0 2 (1 : Int32))
set_option maxHeartbeats 4000000 in
set_option maxRecDepth 100000 in
theorem t_X3_follow_b96 {X : Scr} {i0 : Nat} (h0 : KD[i0]? = some (.inl 3)) {k14 : Int32 → Int32 → Mem → Option (Unit × Mem)} (hk14 : ∀ (x1 : Int32) (x2 : Int32) (M : Mem), T X eV (k14 x1 x2 M) md_X3_follow 14 [(0, .ref i0), (1, .int x1), (2, .int x2)] [] M) (x1 : Int32) (x2 : Int32) (M : Mem) : T X eV (X3_follow_b96 i0 k14 x1 x2 M) md_X3_follow 96 [(0, .ref i0), (1, .int x1), (2, .int x2)] [] M := by
  unfold X3_follow_b96
  refine T_iinc 2 [(2, .int (x2 + (1 : Int32))), (0, .ref i0), (1, .int x1)] (v := (1 : Int32)) dX3_follow_96 rfl (by decide) (by decide) rfl ?_
  refine T_goto 14 dX3_follow_99 (by decide) ?_
  refine T_sub [1, 2, 0] (lv' := [(0, .ref i0), (1, .int x1), (2, .int (x2 + (1 : Int32)))]) rfl ?_
  exact hk14 _ _ _
set_option maxHeartbeats 4000000 in
set_option maxRecDepth 100000 in
theorem t_X3_follow_b68 {X : Scr} {i0 : Nat} (h0 : KD[i0]? = some (.inl 3)) {k14 : Int32 → Int32 → Mem → Option (Unit × Mem)} (hk14 : ∀ (x1 : Int32) (x2 : Int32) (M : Mem), T X eV (k14 x1 x2 M) md_X3_follow 14 [(0, .ref i0), (1, .int x1), (2, .int x2)] [] M) (x1 : Int32) (x2 : Int32) (x3 : Int32) (M : Mem) : T X eV (X3_follow_b68 i0 k14 x1 x2 x3 M) md_X3_follow 68 [(0, .ref i0), (1, .int x1), (2, .int x2), (3, .int x3)] [] M := by
  unfold X3_follow_b68
  refine T_iload_n 3 dX3_follow_68 rfl rfl ?_
  refine T_if_le 96 dX3_follow_69 (by decide) ?_ ?_
  ·
    refine T_sub [0, 1, 2] (lv' := [(0, .ref i0), (1, .int x1), (2, .int x2)]) rfl ?_
    exact t_X3_follow_b96 h0 hk14 _ _ _
  ·
    refine T_aload_n 0 dX3_follow_72 rfl rfl ?_
    refine T_dup rfl dX3_follow_73 ?_
    refine T_getI 1 FOk_3 h0 (by decide) (by decide) dX3_follow_74 tb_255 ?_
    refine T_iload_n 3 dX3_follow_77 rfl rfl ?_
    refine T_iconst (v := (1 : Int32)) (by decide) dX3_follow_78 ?_
    refine T_isub dX3_follow_79 ?_
    refine T_iadd dX3_follow_80 ?_
    refine T_putI (ty := .int) 1 FOk_3 h0 (by decide) (by decide) rfl (by decide +kernel) rfl rfl dX3_follow_81 tb_255 ?_
    refine T_aload_n 0 dX3_follow_84 rfl rfl ?_
    refine T_aload_n 0 dX3_follow_85 rfl rfl ?_
    refine T_getI 2 FOk_3 h0 (by decide) (by decide) dX3_follow_86 tb_257 ?_
    refine T_iload_n 3 dX3_follow_89 rfl rfl ?_
    refine T_callSI md_X3_leastMultiple [.int ((mI M i0 1 ((M.1 i0 1) + (x3 - (1 : Int32)))).1 i0 2), .int x3] [.ref i0] dX3_follow_90 rfl ok_X3_leastMultiple tb_585 tb_586 (by decide) (Nat.le_of_ble_eq_true rfl) (fun _ _ h9 => C_X3_leastMultiple  _ _ h9) (fun r1 M1 => ?_)
    dsimp only
    refine T_putI (ty := .int) 2 FOk_3 h0 (by decide) (by decide) rfl (by decide +kernel) rfl rfl dX3_follow_93 tb_257 ?_
    refine T_sub [0, 1, 2] (lv' := [(0, .ref i0), (1, .int x1), (2, .int x2)]) rfl ?_
    exact t_X3_follow_b96 h0 hk14 _ _ _
set_option maxHeartbeats 4000000 in
set_option maxRecDepth 100000 in
theorem t_X3_follow_b28 {X : Scr} {i0 : Nat} (h0 : KD[i0]? = some (.inl 3)) {k14 : Int32 → Int32 → Mem → Option (Unit × Mem)} (hk14 : ∀ (x1 : Int32) (x2 : Int32) (M : Mem), T X eV (k14 x1 x2 M) md_X3_follow 14 [(0, .ref i0), (1, .int x1), (2, .int x2)] [] M) {k28 : Int32 → Int32 → Int32 → Int32 → Mem → Option (Unit × Mem)} (hk28 : ∀ (x1 : Int32) (x2 : Int32) (x3 : Int32) (x4 : Int32) (M : Mem), T X eV (k28 x1 x2 x3 x4 M) md_X3_follow 28 [(0, .ref i0), (1, .int x1), (2, .int x2), (3, .int x3), (4, .int x4)] [] M) (x1 : Int32) (x2 : Int32) (x3 : Int32) (x4 : Int32) (M : Mem) : T X eV (X3_follow_b28 i0 k14 k28 x1 x2 x3 x4 M) md_X3_follow 28 [(0, .ref i0), (1, .int x1), (2, .int x2), (3, .int x3), (4, .int x4)] [] M := by
  unfold X3_follow_b28
  refine T_iload_n 3 dX3_follow_28 rfl rfl ?_
  refine T_aload_n 0 dX3_follow_29 rfl rfl ?_
  refine T_getR 0 FOk_3 h0 (by decide) (by decide) dX3_follow_30 tb_254 ?_
  refine T_alen (v := (6 : Int32)) (t := 0) (kf_3_0 h0) (by decide) dX3_follow_33 ?_
  refine T_icmp_ge 68 dX3_follow_34 (by decide) ?_ ?_
  ·
    refine T_sub [0, 1, 2, 3] (lv' := [(0, .ref i0), (1, .int x1), (2, .int x2), (3, .int x3)]) rfl ?_
    exact t_X3_follow_b68 h0 hk14 _ _ _ _
  ·
    refine T_iload_n 1 dX3_follow_37 rfl rfl ?_
    refine T_iload 4 dX3_follow_38 rfl ?_
    refine T_callSNI md_X11_isIn [.int x1, .int x4] [] dX3_follow_40 rfl ok_X11_isIn tb_580 tb_474 (by decide) (Nat.le_of_ble_eq_true rfl) (fun _ _ h9 => C_X11_isIn  _ _ h9) (fun r1 M1 => ?_)
    dsimp only
    refine T_if_ne 68 dX3_follow_43 (by decide) ?_ ?_
    ·
      refine T_iload_n 1 dX3_follow_46 rfl rfl ?_
      refine T_iconst (v := (1 : Int32)) (by decide) dX3_follow_47 ?_
      refine T_iload 4 dX3_follow_48 rfl ?_
      refine T_ishl dX3_follow_50 ?_
      refine T_ior dX3_follow_51 ?_
      refine T_istore_n [(1, .int (x1 ||| ((1 : Int32) <<< (x4 &&& 31)))), (0, .ref i0), (2, .int x2), (3, .int x3), (4, .int x4)] dX3_follow_52 rfl (by decide) rfl ?_
      refine T_aload_n 1 dX3_follow_53 rfl rfl ?_
      refine T_getR 0 FOk_3 h0 (by decide) (by decide) dX3_follow_54 tb_254 ?_
      refine T_iload 4 dX3_follow_57 rfl ?_
      refine T_iald (kf_3_0 h0) dX3_follow_59 ?_
      refine T_istore [(4, .int (M1.1 (rf i0 0) x4.toNatClampNeg)), (1, .int (x1 ||| ((1 : Int32) <<< (x4 &&& 31)))), (0, .ref i0), (2, .int x2), (3, .int x3)] dX3_follow_60 (by decide) rfl ?_
      refine T_iinc 4 [(3, .int (x3 + (1 : Int32))), (4, .int (M1.1 (rf i0 0) x4.toNatClampNeg)), (1, .int (x1 ||| ((1 : Int32) <<< (x4 &&& 31)))), (0, .ref i0), (2, .int x2)] (v := (1 : Int32)) dX3_follow_62 rfl (by decide) (by decide) rfl ?_
      refine T_goto 28 dX3_follow_65 (by decide) ?_
      refine T_sub [3, 2, 4, 0, 1] (lv' := [(0, .ref i0), (1, .int (x1 ||| ((1 : Int32) <<< (x4 &&& 31)))), (2, .int x2), (3, .int (x3 + (1 : Int32))), (4, .int (M1.1 (rf i0 0) x4.toNatClampNeg))]) rfl ?_
      exact hk28 _ _ _ _ _
    ·
      refine T_sub [0, 1, 2, 3] (lv' := [(0, .ref i0), (1, .int x1), (2, .int x2), (3, .int x3)]) rfl ?_
      exact t_X3_follow_b68 h0 hk14 _ _ _ _
theorem t_X3_follow_l28 {X : Scr} {i0 : Nat} (h0 : KD[i0]? = some (.inl 3)) {k14 : Int32 → Int32 → Mem → Option (Unit × Mem)} (hk14 : ∀ (x1 : Int32) (x2 : Int32) (M : Mem), T X eV (k14 x1 x2 M) md_X3_follow 14 [(0, .ref i0), (1, .int x1), (2, .int x2)] [] M) (n : Nat) : ∀ (x1 : Int32) (x2 : Int32) (x3 : Int32) (x4 : Int32) (M : Mem), T X eV (X3_follow_l28 i0 k14 n x1 x2 x3 x4 M) md_X3_follow 28 [(0, .ref i0), (1, .int x1), (2, .int x2), (3, .int x3), (4, .int x4)] [] M := by
  induction n with
  | zero => intro x1 x2 x3 x4 M; exact T_none
  | succ n ih => intro x1 x2 x3 x4 M; exact t_X3_follow_b28 h0 hk14 ih x1 x2 x3 x4 M
set_option maxHeartbeats 4000000 in
set_option maxRecDepth 100000 in
theorem t_X3_follow_b14 {X : Scr} {i0 : Nat} (h0 : KD[i0]? = some (.inl 3)) {k14 : Int32 → Int32 → Mem → Option (Unit × Mem)} (hk14 : ∀ (x1 : Int32) (x2 : Int32) (M : Mem), T X eV (k14 x1 x2 M) md_X3_follow 14 [(0, .ref i0), (1, .int x1), (2, .int x2)] [] M) (x1 : Int32) (x2 : Int32) (M : Mem) : T X eV (X3_follow_b14 i0 k14 x1 x2 M) md_X3_follow 14 [(0, .ref i0), (1, .int x1), (2, .int x2)] [] M := by
  unfold X3_follow_b14
  refine T_iload_n 2 dX3_follow_14 rfl rfl ?_
  refine T_aload_n 0 dX3_follow_15 rfl rfl ?_
  refine T_getR 0 FOk_3 h0 (by decide) (by decide) dX3_follow_16 tb_254 ?_
  refine T_alen (v := (6 : Int32)) (t := 0) (kf_3_0 h0) (by decide) dX3_follow_19 ?_
  refine T_icmp_ge 102 dX3_follow_20 (by decide) ?_ ?_
  ·
    exact T_vret dX3_follow_102 rfl
  ·
    refine T_iconst (v := (0 : Int32)) (by decide) dX3_follow_23 ?_
    refine T_istore_n [(3, .int (0 : Int32)), (0, .ref i0), (1, .int x1), (2, .int x2)] dX3_follow_24 rfl (by decide) rfl ?_
    refine T_iload_n 3 dX3_follow_25 rfl rfl ?_
    refine T_istore [(4, .int x2), (3, .int (0 : Int32)), (0, .ref i0), (1, .int x1), (2, .int x2)] dX3_follow_26 (by decide) rfl ?_
    refine T_sub [2, 3, 4, 1, 0] (lv' := [(0, .ref i0), (1, .int x1), (2, .int x2), (3, .int (0 : Int32)), (4, .int x2)]) rfl ?_
    exact t_X3_follow_l28 h0 hk14 _ _ _ _ _ _
theorem t_X3_follow_l14 {X : Scr} {i0 : Nat} (h0 : KD[i0]? = some (.inl 3)) (n : Nat) : ∀ (x1 : Int32) (x2 : Int32) (M : Mem), T X eV (X3_follow_l14 i0  n x1 x2 M) md_X3_follow 14 [(0, .ref i0), (1, .int x1), (2, .int x2)] [] M := by
  induction n with
  | zero => intro x1 x2 M; exact T_none
  | succ n ih => intro x1 x2 M; exact t_X3_follow_b14 h0 ih x1 x2 M
set_option maxHeartbeats 4000000 in
set_option maxRecDepth 100000 in
theorem t_X3_follow {X : Scr} {i0 : Nat} (h0 : KD[i0]? = some (.inl 3))  (M : Mem) : T X eV (X3_follow i0   M) md_X3_follow 0 [(0, .ref i0)] [] M := by
  unfold X3_follow
  refine T_aload_n 0 dX3_follow_0 rfl rfl ?_
  refine T_iconst (v := (0 : Int32)) (by decide) dX3_follow_1 ?_
  refine T_putI (ty := .int) 1 FOk_3 h0 (by decide) (by decide) rfl (by decide +kernel) rfl rfl dX3_follow_2 tb_255 ?_
  refine T_aload_n 0 dX3_follow_5 rfl rfl ?_
  refine T_iconst (v := (1 : Int32)) (by decide) dX3_follow_6 ?_
  refine T_putI (ty := .int) 2 FOk_3 h0 (by decide) (by decide) rfl (by decide +kernel) rfl rfl dX3_follow_7 tb_257 ?_
  refine T_iconst (v := (0 : Int32)) (by decide) dX3_follow_10 ?_
  refine T_istore_n [(1, .int (0 : Int32)), (0, .ref i0)] dX3_follow_11 rfl (by decide) rfl ?_
  refine T_iconst (v := (0 : Int32)) (by decide) dX3_follow_12 ?_
  refine T_istore_n [(2, .int (0 : Int32)), (1, .int (0 : Int32)), (0, .ref i0)] dX3_follow_13 rfl (by decide) rfl ?_
  refine T_sub [2, 1, 0] (lv' := [(0, .ref i0), (1, .int (0 : Int32)), (2, .int (0 : Int32))]) rfl ?_
  exact t_X3_follow_l14 h0  _ _ _ _
theorem C_X3_follow {X : Scr} {i0 : Nat} (h0 : KD[i0]? = some (.inl 3))  {M : Mem} {r : Unit} {M' : Mem} (h : X3_follow i0  M = some (r, M')) : Ct X md_X3_follow [.ref i0] M (eV r) M' := Ct_of (by decide +kernel) (Nat.le_of_ble_eq_true rfl) (t_X3_follow h0  M) r M' h
-- X5_thingOn
def X5_thingOn   (x0 : Int32) (x1 : Int32) (x2 : Int32) (M : Mem) : Option (Int32 × Mem) :=
  gd (!((8 : Int32) == 0)) (
    some ((((x1 * x0) + x2) - ((x1 * x0) + x2) / (8 : Int32) * (8 : Int32)), M))
set_option maxHeartbeats 4000000 in
set_option maxRecDepth 100000 in
theorem t_X5_thingOn {X : Scr}   (x0 : Int32) (x1 : Int32) (x2 : Int32) (M : Mem) : T X eI (X5_thingOn   x0 x1 x2 M) md_X5_thingOn 0 [(0, .int x0), (1, .int x1), (2, .int x2)] [] M := by
  unfold X5_thingOn
  refine T_iload_n 1 dX5_thingOn_0 rfl rfl ?_
  refine T_iload_n 0 dX5_thingOn_1 rfl rfl ?_
  refine T_imul dX5_thingOn_2 ?_
  refine T_iload_n 2 dX5_thingOn_3 rfl rfl ?_
  refine T_iadd dX5_thingOn_4 ?_
  refine T_bipush (v := (8 : Int32)) (by decide) dX5_thingOn_5 ?_
  refine T_irem dX5_thingOn_7 ?_
  exact T_iret dX5_thingOn_8 rfl
theorem C_X5_thingOn {X : Scr}   (x0 : Int32) (x1 : Int32) (x2 : Int32) {M : Mem} {r : Int32} {M' : Mem} (h : X5_thingOn  x0 x1 x2 M = some (r, M')) : Ct X md_X5_thingOn [.int x0, .int x1, .int x2] M (eI r) M' := Ct_of (by decide +kernel) (Nat.le_of_ble_eq_true rfl) (t_X5_thingOn  _ _ _ M) r M' h
-- X5_agree
def X5_agree_b2 (i0 : Nat) (k2 : Int32 → Int32 → Int32 → Mem → Option (Int32 × Mem)) (x1 : Int32) (x2 : Int32) (x3 : Int32) (M : Mem) : Option (Int32 × Mem) :=
  if (M.1 i0 2) ≤ x3 then
    some ((1 : Int32), M)
  else
    gd (ib x3 8) (
      (X5_thingOn  (M.1 (rf i0 0) x3.toNatClampNeg) x1 x2 M).bind (fun p1 =>
        gd (ib x3 8) (
          if p1.1 = (p1.2.1 (rf i0 1) x3.toNatClampNeg) then
            k2 x1 x2 (x3 + (1 : Int32)) p1.2
          else
            some ((0 : Int32), p1.2))))
def X5_agree_l2 (i0 : Nat)  : Nat → Int32 → Int32 → Int32 → Mem → Option (Int32 × Mem)
  | 0 => fun _ _ _ _ => none
  | n + 1 => X5_agree_b2 i0 (X5_agree_l2 i0  n)
def X5_agree (i0 : Nat)  (x1 : Int32) (x2 : Int32) (M : Mem) : Option (Int32 × Mem) :=
  X5_agree_l2 i0  FU x1 x2 (0 : Int32) M
set_option maxHeartbeats 4000000 in
set_option maxRecDepth 100000 in
theorem t_X5_agree_b2 {X : Scr} {i0 : Nat} (h0 : KD[i0]? = some (.inl 7)) {k2 : Int32 → Int32 → Int32 → Mem → Option (Int32 × Mem)} (hk2 : ∀ (x1 : Int32) (x2 : Int32) (x3 : Int32) (M : Mem), T X eI (k2 x1 x2 x3 M) md_X5_agree 2 [(0, .ref i0), (1, .int x1), (2, .int x2), (3, .int x3)] [] M) (x1 : Int32) (x2 : Int32) (x3 : Int32) (M : Mem) : T X eI (X5_agree_b2 i0 k2 x1 x2 x3 M) md_X5_agree 2 [(0, .ref i0), (1, .int x1), (2, .int x2), (3, .int x3)] [] M := by
  unfold X5_agree_b2
  refine T_iload_n 3 dX5_agree_2 rfl rfl ?_
  refine T_aload_n 0 dX5_agree_3 rfl rfl ?_
  refine T_getI 2 FOk_7 h0 (by decide) (by decide) dX5_agree_4 tb_129 ?_
  refine T_icmp_ge 38 dX5_agree_7 (by decide) ?_ ?_
  ·
    refine T_iconst (v := (1 : Int32)) (by decide) dX5_agree_38 ?_
    exact T_zret1 dX5_agree_39 rfl
  ·
    refine T_aload_n 0 dX5_agree_10 rfl rfl ?_
    refine T_getR 0 FOk_7 h0 (by decide) (by decide) dX5_agree_11 tb_125 ?_
    refine T_iload_n 3 dX5_agree_14 rfl rfl ?_
    refine T_iald (kf_7_0 h0) dX5_agree_15 ?_
    refine T_iload_n 1 dX5_agree_16 rfl rfl ?_
    refine T_iload_n 2 dX5_agree_17 rfl rfl ?_
    refine T_callSI md_X5_thingOn [.int (M.1 (rf i0 0) x3.toNatClampNeg), .int x1, .int x2] [] dX5_agree_18 rfl ok_X5_thingOn tb_611 tb_612 (by decide) (Nat.le_of_ble_eq_true rfl) (fun _ _ h9 => C_X5_thingOn  _ _ _ h9) (fun r1 M1 => ?_)
    dsimp only
    refine T_aload_n 0 dX5_agree_21 rfl rfl ?_
    refine T_getR 1 FOk_7 h0 (by decide) (by decide) dX5_agree_22 tb_127 ?_
    refine T_iload_n 3 dX5_agree_25 rfl rfl ?_
    refine T_iald (kf_7_1 h0) dX5_agree_26 ?_
    refine T_icmp_eq 32 dX5_agree_27 (by decide) ?_ ?_
    ·
      refine T_iinc 3 [(3, .int (x3 + (1 : Int32))), (0, .ref i0), (1, .int x1), (2, .int x2)] (v := (1 : Int32)) dX5_agree_32 rfl (by decide) (by decide) rfl ?_
      refine T_goto 2 dX5_agree_35 (by decide) ?_
      refine T_sub [1, 2, 3, 0] (lv' := [(0, .ref i0), (1, .int x1), (2, .int x2), (3, .int (x3 + (1 : Int32)))]) rfl ?_
      exact hk2 _ _ _ _
    ·
      refine T_iconst (v := (0 : Int32)) (by decide) dX5_agree_30 ?_
      exact T_zret0 dX5_agree_31 rfl
theorem t_X5_agree_l2 {X : Scr} {i0 : Nat} (h0 : KD[i0]? = some (.inl 7)) (n : Nat) : ∀ (x1 : Int32) (x2 : Int32) (x3 : Int32) (M : Mem), T X eI (X5_agree_l2 i0  n x1 x2 x3 M) md_X5_agree 2 [(0, .ref i0), (1, .int x1), (2, .int x2), (3, .int x3)] [] M := by
  induction n with
  | zero => intro x1 x2 x3 M; exact T_none
  | succ n ih => intro x1 x2 x3 M; exact t_X5_agree_b2 h0 ih x1 x2 x3 M
set_option maxHeartbeats 4000000 in
set_option maxRecDepth 100000 in
theorem t_X5_agree {X : Scr} {i0 : Nat} (h0 : KD[i0]? = some (.inl 7)) (x1 : Int32) (x2 : Int32) (M : Mem) : T X eI (X5_agree i0  x1 x2 M) md_X5_agree 0 [(0, .ref i0), (1, .int x1), (2, .int x2)] [] M := by
  unfold X5_agree
  refine T_iconst (v := (0 : Int32)) (by decide) dX5_agree_0 ?_
  refine T_istore_n [(3, .int (0 : Int32)), (0, .ref i0), (1, .int x1), (2, .int x2)] dX5_agree_1 rfl (by decide) rfl ?_
  refine T_sub [1, 2, 3, 0] (lv' := [(0, .ref i0), (1, .int x1), (2, .int x2), (3, .int (0 : Int32))]) rfl ?_
  exact t_X5_agree_l2 h0  _ _ _ _ _
theorem C_X5_agree {X : Scr} {i0 : Nat} (h0 : KD[i0]? = some (.inl 7)) (x1 : Int32) (x2 : Int32) {M : Mem} {r : Int32} {M' : Mem} (h : X5_agree i0 x1 x2 M = some (r, M')) : Ct X md_X5_agree [.ref i0, .int x1, .int x2] M (eI r) M' := Ct_of (by decide +kernel) (Nat.le_of_ble_eq_true rfl) (t_X5_agree h0 _ _ M) r M' h
-- X5_gather
def X5_gather_b55 (i0 : Nat) (i1 : Nat) (k7 : Int32 → Mem → Option (Unit × Mem)) (k15 : Int32 → Int32 → Mem → Option (Unit × Mem)) (x2 : Int32) (x3 : Int32) (M : Mem) : Option (Unit × Mem) :=
  k15 x2 (x3 + (1 : Int32)) M
def X5_gather_b15 (i0 : Nat) (i1 : Nat) (k7 : Int32 → Mem → Option (Unit × Mem)) (k15 : Int32 → Int32 → Mem → Option (Unit × Mem)) (x2 : Int32) (x3 : Int32) (M : Mem) : Option (Unit × Mem) :=
  if (8 : Int32) ≤ x3 then
    k7 (x2 + (1 : Int32)) M
  else
    (X5_agree i1 x2 x3 M).bind (fun p1 =>
      if p1.1 = 0 then
        X5_gather_b55 i0 i1 k7 k15 x2 x3 p1.2
      else
        gd (ib (p1.2.1 i0 2) 64) (
          X5_gather_b55 i0 i1 k7 k15 x2 x3 (mI (mI p1.2 (rf i0 0) (p1.2.1 i0 2).toNatClampNeg (((10 : Int32) * x2) + x3)) i0 2 (((mI p1.2 (rf i0 0) (p1.2.1 i0 2).toNatClampNeg (((10 : Int32) * x2) + x3)).1 i0 2) + (1 : Int32)))))
def X5_gather_l15 (i0 : Nat) (i1 : Nat) (k7 : Int32 → Mem → Option (Unit × Mem)) : Nat → Int32 → Int32 → Mem → Option (Unit × Mem)
  | 0 => fun _ _ _ => none
  | n + 1 => X5_gather_b15 i0 i1 k7 (X5_gather_l15 i0 i1 k7 n)
def X5_gather_b7 (i0 : Nat) (i1 : Nat) (k7 : Int32 → Mem → Option (Unit × Mem)) (x2 : Int32) (M : Mem) : Option (Unit × Mem) :=
  if (8 : Int32) ≤ x2 then
    some ((), M)
  else
    X5_gather_l15 i0 i1 k7 FU x2 (0 : Int32) M
def X5_gather_l7 (i0 : Nat) (i1 : Nat)  : Nat → Int32 → Mem → Option (Unit × Mem)
  | 0 => fun _ _ => none
  | n + 1 => X5_gather_b7 i0 i1 (X5_gather_l7 i0 i1  n)
def X5_gather (i0 : Nat) (i1 : Nat)   (M : Mem) : Option (Unit × Mem) :=
  X5_gather_l7 i0 i1  FU (0 : Int32) (mI M i0 2 (0 : Int32))
set_option maxHeartbeats 4000000 in
set_option maxRecDepth 100000 in
theorem t_X5_gather_b55 {X : Scr} {i0 : Nat} {i1 : Nat} (h0 : KD[i0]? = some (.inl 5)) (h1 : KD[i1]? = some (.inl 7)) {k7 : Int32 → Mem → Option (Unit × Mem)} (hk7 : ∀ (x2 : Int32) (M : Mem), T X eV (k7 x2 M) md_X5_gather 7 [(0, .ref i0), (1, .ref i1), (2, .int x2)] [] M) {k15 : Int32 → Int32 → Mem → Option (Unit × Mem)} (hk15 : ∀ (x2 : Int32) (x3 : Int32) (M : Mem), T X eV (k15 x2 x3 M) md_X5_gather 15 [(0, .ref i0), (1, .ref i1), (2, .int x2), (3, .int x3)] [] M) (x2 : Int32) (x3 : Int32) (M : Mem) : T X eV (X5_gather_b55 i0 i1 k7 k15 x2 x3 M) md_X5_gather 55 [(0, .ref i0), (1, .ref i1), (2, .int x2), (3, .int x3)] [] M := by
  unfold X5_gather_b55
  refine T_iinc 3 [(3, .int (x3 + (1 : Int32))), (0, .ref i0), (1, .ref i1), (2, .int x2)] (v := (1 : Int32)) dX5_gather_55 rfl (by decide) (by decide) rfl ?_
  refine T_goto 15 dX5_gather_58 (by decide) ?_
  refine T_sub [1, 2, 3, 0] (lv' := [(0, .ref i0), (1, .ref i1), (2, .int x2), (3, .int (x3 + (1 : Int32)))]) rfl ?_
  exact hk15 _ _ _
set_option maxHeartbeats 4000000 in
set_option maxRecDepth 100000 in
theorem t_X5_gather_b15 {X : Scr} {i0 : Nat} {i1 : Nat} (h0 : KD[i0]? = some (.inl 5)) (h1 : KD[i1]? = some (.inl 7)) {k7 : Int32 → Mem → Option (Unit × Mem)} (hk7 : ∀ (x2 : Int32) (M : Mem), T X eV (k7 x2 M) md_X5_gather 7 [(0, .ref i0), (1, .ref i1), (2, .int x2)] [] M) {k15 : Int32 → Int32 → Mem → Option (Unit × Mem)} (hk15 : ∀ (x2 : Int32) (x3 : Int32) (M : Mem), T X eV (k15 x2 x3 M) md_X5_gather 15 [(0, .ref i0), (1, .ref i1), (2, .int x2), (3, .int x3)] [] M) (x2 : Int32) (x3 : Int32) (M : Mem) : T X eV (X5_gather_b15 i0 i1 k7 k15 x2 x3 M) md_X5_gather 15 [(0, .ref i0), (1, .ref i1), (2, .int x2), (3, .int x3)] [] M := by
  unfold X5_gather_b15
  refine T_iload_n 3 dX5_gather_15 rfl rfl ?_
  refine T_bipush (v := (8 : Int32)) (by decide) dX5_gather_16 ?_
  refine T_icmp_ge 61 dX5_gather_18 (by decide) ?_ ?_
  ·
    refine T_iinc 2 [(2, .int (x2 + (1 : Int32))), (0, .ref i0), (1, .ref i1), (3, .int x3)] (v := (1 : Int32)) dX5_gather_61 rfl (by decide) (by decide) rfl ?_
    refine T_goto 7 dX5_gather_64 (by decide) ?_
    refine T_sub [1, 2, 0] (lv' := [(0, .ref i0), (1, .ref i1), (2, .int (x2 + (1 : Int32)))]) rfl ?_
    exact hk7 _ _
  ·
    refine T_aload_n 1 dX5_gather_21 rfl rfl ?_
    refine T_iload_n 2 dX5_gather_22 rfl rfl ?_
    refine T_iload_n 3 dX5_gather_23 rfl rfl ?_
    refine T_callSI md_X5_agree [.ref i1, .int x2, .int x3] [] dX5_gather_24 rfl ok_X5_agree tb_608 tb_609 (by decide) (Nat.le_of_ble_eq_true rfl) (fun _ _ h9 => C_X5_agree h1 _ _ h9) (fun r1 M1 => ?_)
    dsimp only
    refine T_if_eq 55 dX5_gather_27 (by decide) ?_ ?_
    ·
      exact t_X5_gather_b55 h0 h1 hk7 hk15 _ _ _
    ·
      refine T_aload_n 0 dX5_gather_30 rfl rfl ?_
      refine T_getR 0 FOk_5 h0 (by decide) (by decide) dX5_gather_31 tb_272 ?_
      refine T_aload_n 0 dX5_gather_34 rfl rfl ?_
      refine T_getI 2 FOk_5 h0 (by decide) (by decide) dX5_gather_35 tb_275 ?_
      refine T_bipush (v := (10 : Int32)) (by decide) dX5_gather_38 ?_
      refine T_iload_n 2 dX5_gather_40 rfl rfl ?_
      refine T_imul dX5_gather_41 ?_
      refine T_iload_n 3 dX5_gather_42 rfl rfl ?_
      refine T_iadd dX5_gather_43 ?_
      refine T_iast (kf_5_0 h0) dX5_gather_44 ?_
      refine T_aload_n 0 dX5_gather_45 rfl rfl ?_
      refine T_dup rfl dX5_gather_46 ?_
      refine T_getI 2 FOk_5 h0 (by decide) (by decide) dX5_gather_47 tb_275 ?_
      refine T_iconst (v := (1 : Int32)) (by decide) dX5_gather_50 ?_
      refine T_iadd dX5_gather_51 ?_
      refine T_putI (ty := .int) 2 FOk_5 h0 (by decide) (by decide) rfl (by decide +kernel) rfl rfl dX5_gather_52 tb_275 ?_
      exact t_X5_gather_b55 h0 h1 hk7 hk15 _ _ _
theorem t_X5_gather_l15 {X : Scr} {i0 : Nat} {i1 : Nat} (h0 : KD[i0]? = some (.inl 5)) (h1 : KD[i1]? = some (.inl 7)) {k7 : Int32 → Mem → Option (Unit × Mem)} (hk7 : ∀ (x2 : Int32) (M : Mem), T X eV (k7 x2 M) md_X5_gather 7 [(0, .ref i0), (1, .ref i1), (2, .int x2)] [] M) (n : Nat) : ∀ (x2 : Int32) (x3 : Int32) (M : Mem), T X eV (X5_gather_l15 i0 i1 k7 n x2 x3 M) md_X5_gather 15 [(0, .ref i0), (1, .ref i1), (2, .int x2), (3, .int x3)] [] M := by
  induction n with
  | zero => intro x2 x3 M; exact T_none
  | succ n ih => intro x2 x3 M; exact t_X5_gather_b15 h0 h1 hk7 ih x2 x3 M
set_option maxHeartbeats 4000000 in
set_option maxRecDepth 100000 in
theorem t_X5_gather_b7 {X : Scr} {i0 : Nat} {i1 : Nat} (h0 : KD[i0]? = some (.inl 5)) (h1 : KD[i1]? = some (.inl 7)) {k7 : Int32 → Mem → Option (Unit × Mem)} (hk7 : ∀ (x2 : Int32) (M : Mem), T X eV (k7 x2 M) md_X5_gather 7 [(0, .ref i0), (1, .ref i1), (2, .int x2)] [] M) (x2 : Int32) (M : Mem) : T X eV (X5_gather_b7 i0 i1 k7 x2 M) md_X5_gather 7 [(0, .ref i0), (1, .ref i1), (2, .int x2)] [] M := by
  unfold X5_gather_b7
  refine T_iload_n 2 dX5_gather_7 rfl rfl ?_
  refine T_bipush (v := (8 : Int32)) (by decide) dX5_gather_8 ?_
  refine T_icmp_ge 67 dX5_gather_10 (by decide) ?_ ?_
  ·
    exact T_vret dX5_gather_67 rfl
  ·
    refine T_iconst (v := (0 : Int32)) (by decide) dX5_gather_13 ?_
    refine T_istore_n [(3, .int (0 : Int32)), (0, .ref i0), (1, .ref i1), (2, .int x2)] dX5_gather_14 rfl (by decide) rfl ?_
    refine T_sub [1, 2, 3, 0] (lv' := [(0, .ref i0), (1, .ref i1), (2, .int x2), (3, .int (0 : Int32))]) rfl ?_
    exact t_X5_gather_l15 h0 h1 hk7 _ _ _ _
theorem t_X5_gather_l7 {X : Scr} {i0 : Nat} {i1 : Nat} (h0 : KD[i0]? = some (.inl 5)) (h1 : KD[i1]? = some (.inl 7)) (n : Nat) : ∀ (x2 : Int32) (M : Mem), T X eV (X5_gather_l7 i0 i1  n x2 M) md_X5_gather 7 [(0, .ref i0), (1, .ref i1), (2, .int x2)] [] M := by
  induction n with
  | zero => intro x2 M; exact T_none
  | succ n ih => intro x2 M; exact t_X5_gather_b7 h0 h1 ih x2 M
set_option maxHeartbeats 4000000 in
set_option maxRecDepth 100000 in
theorem t_X5_gather {X : Scr} {i0 : Nat} {i1 : Nat} (h0 : KD[i0]? = some (.inl 5)) (h1 : KD[i1]? = some (.inl 7))  (M : Mem) : T X eV (X5_gather i0 i1   M) md_X5_gather 0 [(0, .ref i0), (1, .ref i1)] [] M := by
  unfold X5_gather
  refine T_aload_n 0 dX5_gather_0 rfl rfl ?_
  refine T_iconst (v := (0 : Int32)) (by decide) dX5_gather_1 ?_
  refine T_putI (ty := .int) 2 FOk_5 h0 (by decide) (by decide) rfl (by decide +kernel) rfl rfl dX5_gather_2 tb_275 ?_
  refine T_iconst (v := (0 : Int32)) (by decide) dX5_gather_5 ?_
  refine T_istore_n [(2, .int (0 : Int32)), (0, .ref i0), (1, .ref i1)] dX5_gather_6 rfl (by decide) rfl ?_
  refine T_sub [1, 2, 0] (lv' := [(0, .ref i0), (1, .ref i1), (2, .int (0 : Int32))]) rfl ?_
  exact t_X5_gather_l7 h0 h1  _ _ _
theorem C_X5_gather {X : Scr} {i0 : Nat} {i1 : Nat} (h0 : KD[i0]? = some (.inl 5)) (h1 : KD[i1]? = some (.inl 7))  {M : Mem} {r : Unit} {M' : Mem} (h : X5_gather i0 i1  M = some (r, M')) : Ct X md_X5_gather [.ref i0, .ref i1] M (eV r) M' := Ct_of (by decide +kernel) (Nat.le_of_ble_eq_true rfl) (t_X5_gather h0 h1  M) r M' h
