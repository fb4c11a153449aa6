-- X0_perform
def X0_perform_b220 (i0 : Nat)   (M : Mem) : Option (Unit × Mem) :=
  some ((), M)
def X0_perform (i0 : Nat)  (x1 : Int32) (x2 : Int32) (M : Mem) : Option (Unit × Mem) :=
  (X0_basketHere i0  M).bind (fun p1 =>
    if x1 = (43 : Int32) then
      gd (ib p1.1 10) (
        gd (ib p1.1 10) (
          X0_perform_b220 i0   (mI (mI p1.2 i0 4 ((p1.2.1 i0 4) &&& (((1 : Int32) <<< (x2 &&& 31)) ^^^ (-1 : Int32)))) (rf i0 1) p1.1.toNatClampNeg (((mI p1.2 i0 4 ((p1.2.1 i0 4) &&& (((1 : Int32) <<< (x2 &&& 31)) ^^^ (-1 : Int32)))).1 (rf i0 1) p1.1.toNatClampNeg) ||| ((1 : Int32) <<< (x2 &&& 31))))))
    else if x1 = (45 : Int32) then
      gd (ib p1.1 10) (
        gd (ib p1.1 10) (
          X0_perform_b220 i0   (mI (mI (mI p1.2 (rf i0 1) p1.1.toNatClampNeg ((p1.2.1 (rf i0 1) p1.1.toNatClampNeg) &&& (((1 : Int32) <<< (x2 &&& 31)) ^^^ (-1 : Int32)))) i0 4 (((mI p1.2 (rf i0 1) p1.1.toNatClampNeg ((p1.2.1 (rf i0 1) p1.1.toNatClampNeg) &&& (((1 : Int32) <<< (x2 &&& 31)) ^^^ (-1 : Int32)))).1 i0 4) ||| ((1 : Int32) <<< (x2 &&& 31)))) i0 5 (((mI (mI p1.2 (rf i0 1) p1.1.toNatClampNeg ((p1.2.1 (rf i0 1) p1.1.toNatClampNeg) &&& (((1 : Int32) <<< (x2 &&& 31)) ^^^ (-1 : Int32)))) i0 4 (((mI p1.2 (rf i0 1) p1.1.toNatClampNeg ((p1.2.1 (rf i0 1) p1.1.toNatClampNeg) &&& (((1 : Int32) <<< (x2 &&& 31)) ^^^ (-1 : Int32)))).1 i0 4) ||| ((1 : Int32) <<< (x2 &&& 31)))).1 i0 5) ||| ((1 : Int32) <<< (x2 &&& 31))))))
    else if x1 = (61 : Int32) then
      gd (ib x2 10) (
        gd (ib (p1.2.1 i0 3) 10) (
          gd (ib x2 10) (
            X0_perform_b220 i0   (mI (mI p1.2 (rf i0 0) (p1.2.1 i0 3).toNatClampNeg (p1.2.1 (rf i0 0) x2.toNatClampNeg)) (rf i0 0) x2.toNatClampNeg p1.1))))
    else if x1 = (63 : Int32) then
      gd (ib p1.1 10) (
        gd (ib p1.1 10) (
          X0_perform_b220 i0   (mI (mI p1.2 i0 6 ((p1.2.1 i0 6) + (p1.2.1 (rf i0 2) p1.1.toNatClampNeg))) i0 5 (((mI p1.2 i0 6 ((p1.2.1 i0 6) + (p1.2.1 (rf i0 2) p1.1.toNatClampNeg))).1 i0 5) ||| ((mI p1.2 i0 6 ((p1.2.1 i0 6) + (p1.2.1 (rf i0 2) p1.1.toNatClampNeg))).1 (rf i0 1) p1.1.toNatClampNeg)))))
    else if x1 = (65 : Int32) then
      (J9_abs_0f7a4  (x2 - (p1.2.1 i0 3)) p1.2).bind (fun p3 =>
        X0_perform_b220 i0   (mI (mI p3.2 i0 6 ((p1.2.1 i0 6) + p3.1)) i0 3 x2))
    else 
      X0_perform_b220 i0   (mI p1.2 i0 6 ((p1.2.1 i0 6) + (1 : Int32))))
set_option maxHeartbeats 4000000 in
set_option maxRecDepth 100000 in
theorem t_X0_perform_b220 {X : Scr} {i0 : Nat} (h0 : KD[i0]? = some (.inl 0))  (M : Mem) : T X eV (X0_perform_b220 i0   M) md_X0_perform 220 [] [] M := by
  unfold X0_perform_b220
  exact T_vret dX0_perform_220 rfl
set_option maxHeartbeats 4000000 in
set_option maxRecDepth 100000 in
theorem t_X0_perform {X : Scr} {i0 : Nat} (h0 : KD[i0]? = some (.inl 0)) (x1 : Int32) (x2 : Int32) (M : Mem) : T X eV (X0_perform i0  x1 x2 M) md_X0_perform 0 [(0, .ref i0), (1, .int x1), (2, .int x2)] [] M := by
  unfold X0_perform
  refine T_aload_n 0 dX0_perform_0 rfl rfl ?_
  refine T_callVI md_X0_basketHere [] [] dX0_perform_1 h0 rfl rfl ok_X0_basketHere tb_465 tb_466 tb_467 (by decide) (Nat.le_of_ble_eq_true rfl) (fun _ _ h9 => C_X0_basketHere h0  h9) (fun r1 M1 => ?_)
  dsimp only
  refine T_istore_n [(3, .int r1), (0, .ref i0), (1, .int x1), (2, .int x2)] dX0_perform_4 rfl (by decide) rfl ?_
  refine T_iload_n 2 dX0_perform_5 rfl rfl ?_
  refine T_ite (fun hx1_0 => ?_) (fun hx1_0 => ?_)
  ·
    refine T_look (off := 109) 115 dX0_perform_6 (by decide) (by rw [hx1_0]; decide) (by decide) ?_
    refine T_aload_n 1 dX0_perform_115 rfl rfl ?_
    refine T_dup rfl dX0_perform_116 ?_
    refine T_getI 4 FOk_0 h0 (by decide) (by decide) dX0_perform_117 tb_89 ?_
    refine T_iconst (v := (1 : Int32)) (by decide) dX0_perform_120 ?_
    refine T_iload_n 3 dX0_perform_121 rfl rfl ?_
    refine T_ishl dX0_perform_122 ?_
    refine T_iconst (v := (-1 : Int32)) (by decide) dX0_perform_123 ?_
    refine T_ixor dX0_perform_124 ?_
    refine T_iand dX0_perform_125 ?_
    refine T_putI (ty := .int) 4 FOk_0 h0 (by decide) (by decide) rfl (by decide +kernel) rfl rfl dX0_perform_126 tb_89 ?_
    refine T_aload_n 1 dX0_perform_129 rfl rfl ?_
    refine T_getR 1 FOk_0 h0 (by decide) (by decide) dX0_perform_130 tb_78 ?_
    refine T_iload_n 0 dX0_perform_133 rfl rfl ?_
    refine T_dup2 rfl rfl dX0_perform_134 ?_
    refine T_iald (kf_0_1 h0) dX0_perform_135 ?_
    refine T_iconst (v := (1 : Int32)) (by decide) dX0_perform_136 ?_
    refine T_iload_n 3 dX0_perform_137 rfl rfl ?_
    refine T_ishl dX0_perform_138 ?_
    refine T_ior dX0_perform_139 ?_
    refine T_iast (kf_0_1 h0) dX0_perform_140 ?_
    refine T_goto 220 dX0_perform_141 (by decide) ?_
    refine T_sub [] (lv' := []) rfl ?_
    exact t_X0_perform_b220 h0   _
  refine T_ite (fun hx1_1 => ?_) (fun hx1_1 => ?_)
  ·
    refine T_look (off := 138) 144 dX0_perform_6 (by decide) (by rw [hx1_1]; decide) (by decide) ?_
    refine T_aload_n 1 dX0_perform_144 rfl rfl ?_
    refine T_getR 1 FOk_0 h0 (by decide) (by decide) dX0_perform_145 tb_78 ?_
    refine T_iload_n 0 dX0_perform_148 rfl rfl ?_
    refine T_dup2 rfl rfl dX0_perform_149 ?_
    refine T_iald (kf_0_1 h0) dX0_perform_150 ?_
    refine T_iconst (v := (1 : Int32)) (by decide) dX0_perform_151 ?_
    refine T_iload_n 3 dX0_perform_152 rfl rfl ?_
    refine T_ishl dX0_perform_153 ?_
    refine T_iconst (v := (-1 : Int32)) (by decide) dX0_perform_154 ?_
    refine T_ixor dX0_perform_155 ?_
    refine T_iand dX0_perform_156 ?_
    refine T_iast (kf_0_1 h0) dX0_perform_157 ?_
    refine T_aload_n 1 dX0_perform_158 rfl rfl ?_
    refine T_dup rfl dX0_perform_159 ?_
    refine T_getI 4 FOk_0 h0 (by decide) (by decide) dX0_perform_160 tb_89 ?_
    refine T_iconst (v := (1 : Int32)) (by decide) dX0_perform_163 ?_
    refine T_iload_n 3 dX0_perform_164 rfl rfl ?_
    refine T_ishl dX0_perform_165 ?_
    refine T_ior dX0_perform_166 ?_
    refine T_putI (ty := .int) 4 FOk_0 h0 (by decide) (by decide) rfl (by decide +kernel) rfl rfl dX0_perform_167 tb_89 ?_
    refine T_aload_n 1 dX0_perform_170 rfl rfl ?_
    refine T_dup rfl dX0_perform_171 ?_
    refine T_getI 5 FOk_0 h0 (by decide) (by decide) dX0_perform_172 tb_91 ?_
    refine T_iconst (v := (1 : Int32)) (by decide) dX0_perform_175 ?_
    refine T_iload_n 3 dX0_perform_176 rfl rfl ?_
    refine T_ishl dX0_perform_177 ?_
    refine T_ior dX0_perform_178 ?_
    refine T_putI (ty := .int) 5 FOk_0 h0 (by decide) (by decide) rfl (by decide +kernel) rfl rfl dX0_perform_179 tb_91 ?_
    refine T_goto 220 dX0_perform_182 (by decide) ?_
    refine T_sub [] (lv' := []) rfl ?_
    exact t_X0_perform_b220 h0   _
  refine T_ite (fun hx1_2 => ?_) (fun hx1_2 => ?_)
  ·
    refine T_look (off := 179) 185 dX0_perform_6 (by decide) (by rw [hx1_2]; decide) (by decide) ?_
    refine T_aload_n 1 dX0_perform_185 rfl rfl ?_
    refine T_getR 0 FOk_0 h0 (by decide) (by decide) dX0_perform_186 tb_74 ?_
    refine T_aload_n 1 dX0_perform_189 rfl rfl ?_
    refine T_getI 3 FOk_0 h0 (by decide) (by decide) dX0_perform_190 tb_85 ?_
    refine T_aload_n 1 dX0_perform_193 rfl rfl ?_
    refine T_getR 0 FOk_0 h0 (by decide) (by decide) dX0_perform_194 tb_74 ?_
    refine T_iload_n 3 dX0_perform_197 rfl rfl ?_
    refine T_iald (kf_0_0 h0) dX0_perform_198 ?_
    refine T_iast (kf_0_0 h0) dX0_perform_199 ?_
    refine T_aload_n 1 dX0_perform_200 rfl rfl ?_
    refine T_getR 0 FOk_0 h0 (by decide) (by decide) dX0_perform_201 tb_74 ?_
    refine T_iload_n 3 dX0_perform_204 rfl rfl ?_
    refine T_iload_n 0 dX0_perform_205 rfl rfl ?_
    refine T_iast (kf_0_0 h0) dX0_perform_206 ?_
    refine T_goto 220 dX0_perform_207 (by decide) ?_
    refine T_sub [] (lv' := []) rfl ?_
    exact t_X0_perform_b220 h0   _
  refine T_ite (fun hx1_3 => ?_) (fun hx1_3 => ?_)
  ·
    refine T_look (off := 76) 82 dX0_perform_6 (by decide) (by rw [hx1_3]; decide) (by decide) ?_
    refine T_aload_n 1 dX0_perform_82 rfl rfl ?_
    refine T_dup rfl dX0_perform_83 ?_
    refine T_getI 6 FOk_0 h0 (by decide) (by decide) dX0_perform_84 tb_95 ?_
    refine T_aload_n 1 dX0_perform_87 rfl rfl ?_
    refine T_getR 2 FOk_0 h0 (by decide) (by decide) dX0_perform_88 tb_82 ?_
    refine T_iload_n 0 dX0_perform_91 rfl rfl ?_
    refine T_iald (kf_0_2 h0) dX0_perform_92 ?_
    refine T_iadd dX0_perform_93 ?_
    refine T_putI (ty := .int) 6 FOk_0 h0 (by decide) (by decide) rfl (by decide +kernel) rfl rfl dX0_perform_94 tb_95 ?_
    refine T_aload_n 1 dX0_perform_97 rfl rfl ?_
    refine T_dup rfl dX0_perform_98 ?_
    refine T_getI 5 FOk_0 h0 (by decide) (by decide) dX0_perform_99 tb_91 ?_
    refine T_aload_n 1 dX0_perform_102 rfl rfl ?_
    refine T_getR 1 FOk_0 h0 (by decide) (by decide) dX0_perform_103 tb_78 ?_
    refine T_iload_n 0 dX0_perform_106 rfl rfl ?_
    refine T_iald (kf_0_1 h0) dX0_perform_107 ?_
    refine T_ior dX0_perform_108 ?_
    refine T_putI (ty := .int) 5 FOk_0 h0 (by decide) (by decide) rfl (by decide +kernel) rfl rfl dX0_perform_109 tb_91 ?_
    refine T_goto 220 dX0_perform_112 (by decide) ?_
    refine T_sub [] (lv' := []) rfl ?_
    exact t_X0_perform_b220 h0   _
  refine T_ite (fun hx1_4 => ?_) (fun hx1_4 => ?_)
  ·
    refine T_look (off := 50) 56 dX0_perform_6 (by decide) (by rw [hx1_4]; decide) (by decide) ?_
    refine T_aload_n 1 dX0_perform_56 rfl rfl ?_
    refine T_dup rfl dX0_perform_57 ?_
    refine T_getI 6 FOk_0 h0 (by decide) (by decide) dX0_perform_58 tb_95 ?_
    refine T_iload_n 3 dX0_perform_61 rfl rfl ?_
    refine T_aload_n 1 dX0_perform_62 rfl rfl ?_
    refine T_getI 3 FOk_0 h0 (by decide) (by decide) dX0_perform_63 tb_85 ?_
    refine T_isub dX0_perform_66 ?_
    refine T_callSI md_J9_abs_0f7a4 [.int (x2 - (M1.1 i0 3))] [.int (M1.1 i0 6), .ref i0] dX0_perform_67 rfl ok_J9_abs_0f7a4 tb_458 tb_459 (by decide) (Nat.le_of_ble_eq_true rfl) (fun _ _ h9 => C_J9_abs_0f7a4  _ h9) (fun r3 M3 => ?_)
    dsimp only
    refine T_iadd dX0_perform_70 ?_
    refine T_putI (ty := .int) 6 FOk_0 h0 (by decide) (by decide) rfl (by decide +kernel) rfl rfl dX0_perform_71 tb_95 ?_
    refine T_aload_n 1 dX0_perform_74 rfl rfl ?_
    refine T_iload_n 3 dX0_perform_75 rfl rfl ?_
    refine T_putI (ty := .int) 3 FOk_0 h0 (by decide) (by decide) rfl (by decide +kernel) rfl rfl dX0_perform_76 tb_85 ?_
    refine T_goto 220 dX0_perform_79 (by decide) ?_
    refine T_sub [] (lv' := []) rfl ?_
    exact t_X0_perform_b220 h0   _
  refine T_look (off := 204) 210 dX0_perform_6 (by decide) ((lv_osw hx1_0 (by decide)).trans ((lv_osw hx1_1 (by decide)).trans ((lv_osw hx1_2 (by decide)).trans ((lv_osw hx1_3 (by decide)).trans ((lv_osw hx1_4 (by decide)).trans (rfl)))))) (by decide) ?_
  refine T_aload_n 1 dX0_perform_210 rfl rfl ?_
  refine T_dup rfl dX0_perform_211 ?_
  refine T_getI 6 FOk_0 h0 (by decide) (by decide) dX0_perform_212 tb_95 ?_
  refine T_iconst (v := (1 : Int32)) (by decide) dX0_perform_215 ?_
  refine T_iadd dX0_perform_216 ?_
  refine T_putI (ty := .int) 6 FOk_0 h0 (by decide) (by decide) rfl (by decide +kernel) rfl rfl dX0_perform_217 tb_95 ?_
  refine T_sub [] (lv' := []) rfl ?_
  exact t_X0_perform_b220 h0   _
theorem C_X0_perform {X : Scr} {i0 : Nat} (h0 : KD[i0]? = some (.inl 0)) (x1 : Int32) (x2 : Int32) {M : Mem} {r : Unit} {M' : Mem} (h : X0_perform i0 x1 x2 M = some (r, M')) : Ct X md_X0_perform [.ref i0, .int x1, .int x2] M (eV r) M' := Ct_of (by decide +kernel) (Nat.le_of_ble_eq_true rfl) (t_X0_perform h0 _ _ M) r M' h
-- X1_sumMinutes
def X1_sumMinutes_b35 (i0 : Nat) (i1 : Nat) (k9 : Int32 → Mem → Option (Unit × Mem)) (k35 : Int32 → Int32 → Int32 → Int32 → Mem → Option (Unit × Mem)) (x2 : Int32) (x3 : Int32) (x4 : Int32) (x5 : Int32) (M : Mem) : Option (Unit × Mem) :=
  if x3 ≤ x5 then
    k9 (x2 + (1 : Int32)) M
  else
    gd (ib x5 1024) (
      gd (ib (x3 ||| x5) 1024) (
        k35 x2 x3 x4 (x5 + (1 : Int32)) (mI M (rf i0 0) (x3 ||| x5).toNatClampNeg ((M.1 (rf i0 0) x5.toNatClampNeg) + x4))))
def X1_sumMinutes_l35 (i0 : Nat) (i1 : Nat) (k9 : Int32 → Mem → Option (Unit × Mem)) : Nat → Int32 → Int32 → Int32 → Int32 → Mem → Option (Unit × Mem)
  | 0 => fun _ _ _ _ _ => none
  | n + 1 => X1_sumMinutes_b35 i0 i1 k9 (X1_sumMinutes_l35 i0 i1 k9 n)
def X1_sumMinutes_b9 (i0 : Nat) (i1 : Nat) (k9 : Int32 → Mem → Option (Unit × Mem)) (x2 : Int32) (M : Mem) : Option (Unit × Mem) :=
  if (10 : Int32) ≤ x2 then
    some ((), M)
  else
    gd (ib x2 10) (
      gd (ib (M.1 (rf i1 0) x2.toNatClampNeg) 10) (
        X1_sumMinutes_l35 i0 i1 k9 FU x2 ((1 : Int32) <<< (x2 &&& 31)) (M.1 (rf i1 2) (M.1 (rf i1 0) x2.toNatClampNeg).toNatClampNeg) (0 : Int32) M))
def X1_sumMinutes_l9 (i0 : Nat) (i1 : Nat)  : Nat → Int32 → Mem → Option (Unit × Mem)
  | 0 => fun _ _ => none
  | n + 1 => X1_sumMinutes_b9 i0 i1 (X1_sumMinutes_l9 i0 i1  n)
def X1_sumMinutes (i0 : Nat) (i1 : Nat)   (M : Mem) : Option (Unit × Mem) :=
  gd (ib (0 : Int32) 1024) (
    X1_sumMinutes_l9 i0 i1  FU (0 : Int32) (mI M (rf i0 0) (0 : Int32).toNatClampNeg (0 : Int32)))
set_option maxHeartbeats 4000000 in
set_option maxRecDepth 100000 in
theorem t_X1_sumMinutes_b35 {X : Scr} {i0 : Nat} {i1 : Nat} (h0 : KD[i0]? = some (.inl 1)) (h1 : KD[i1]? = some (.inl 0)) {k9 : Int32 → Mem → Option (Unit × Mem)} (hk9 : ∀ (x2 : Int32) (M : Mem), T X eV (k9 x2 M) md_X1_sumMinutes 9 [(0, .ref i0), (1, .ref i1), (2, .int x2)] [] M) {k35 : Int32 → Int32 → Int32 → Int32 → Mem → Option (Unit × Mem)} (hk35 : ∀ (x2 : Int32) (x3 : Int32) (x4 : Int32) (x5 : Int32) (M : Mem), T X eV (k35 x2 x3 x4 x5 M) md_X1_sumMinutes 35 [(0, .ref i0), (1, .ref i1), (2, .int x2), (3, .int x3), (4, .int x4), (5, .int x5)] [] M) (x2 : Int32) (x3 : Int32) (x4 : Int32) (x5 : Int32) (M : Mem) : T X eV (X1_sumMinutes_b35 i0 i1 k9 k35 x2 x3 x4 x5 M) md_X1_sumMinutes 35 [(0, .ref i0), (1, .ref i1), (2, .int x2), (3, .int x3), (4, .int x4), (5, .int x5)] [] M := by
  unfold X1_sumMinutes_b35
  refine T_iload 5 dX1_sumMinutes_35 rfl ?_
  refine T_iload_n 3 dX1_sumMinutes_37 rfl rfl ?_
  refine T_icmp_ge 66 dX1_sumMinutes_38 (by decide) ?_ ?_
  ·
    refine T_iinc 2 [(2, .int (x2 + (1 : Int32))), (0, .ref i0), (1, .ref i1), (3, .int x3), (4, .int x4), (5, .int x5)] (v := (1 : Int32)) dX1_sumMinutes_66 rfl (by decide) (by decide) rfl ?_
    refine T_goto 9 dX1_sumMinutes_69 (by decide) ?_
    refine T_sub [1, 2, 0] (lv' := [(0, .ref i0), (1, .ref i1), (2, .int (x2 + (1 : Int32)))]) rfl ?_
    exact hk9 _ _
  ·
    refine T_aload_n 0 dX1_sumMinutes_41 rfl rfl ?_
    refine T_getR 0 FOk_1 h0 (by decide) (by decide) dX1_sumMinutes_42 tb_218 ?_
    refine T_iload_n 3 dX1_sumMinutes_45 rfl rfl ?_
    refine T_iload 5 dX1_sumMinutes_46 rfl ?_
    refine T_ior dX1_sumMinutes_48 ?_
    refine T_aload_n 0 dX1_sumMinutes_49 rfl rfl ?_
    refine T_getR 0 FOk_1 h0 (by decide) (by decide) dX1_sumMinutes_50 tb_218 ?_
    refine T_iload 5 dX1_sumMinutes_53 rfl ?_
    refine T_iald (kf_1_0 h0) dX1_sumMinutes_55 ?_
    refine T_iload 4 dX1_sumMinutes_56 rfl ?_
    refine T_iadd dX1_sumMinutes_58 ?_
    refine T_iast (kf_1_0 h0) dX1_sumMinutes_59 ?_
    refine T_iinc 5 [(5, .int (x5 + (1 : Int32))), (0, .ref i0), (1, .ref i1), (2, .int x2), (3, .int x3), (4, .int x4)] (v := (1 : Int32)) dX1_sumMinutes_60 rfl (by decide) (by decide) rfl ?_
    refine T_goto 35 dX1_sumMinutes_63 (by decide) ?_
    refine T_sub [1, 2, 3, 4, 5, 0] (lv' := [(0, .ref i0), (1, .ref i1), (2, .int x2), (3, .int x3), (4, .int x4), (5, .int (x5 + (1 : Int32)))]) rfl ?_
    exact hk35 _ _ _ _ _
theorem t_X1_sumMinutes_l35 {X : Scr} {i0 : Nat} {i1 : Nat} (h0 : KD[i0]? = some (.inl 1)) (h1 : KD[i1]? = some (.inl 0)) {k9 : Int32 → Mem → Option (Unit × Mem)} (hk9 : ∀ (x2 : Int32) (M : Mem), T X eV (k9 x2 M) md_X1_sumMinutes 9 [(0, .ref i0), (1, .ref i1), (2, .int x2)] [] M) (n : Nat) : ∀ (x2 : Int32) (x3 : Int32) (x4 : Int32) (x5 : Int32) (M : Mem), T X eV (X1_sumMinutes_l35 i0 i1 k9 n x2 x3 x4 x5 M) md_X1_sumMinutes 35 [(0, .ref i0), (1, .ref i1), (2, .int x2), (3, .int x3), (4, .int x4), (5, .int x5)] [] M := by
  induction n with
  | zero => intro x2 x3 x4 x5 M; exact T_none
  | succ n ih => intro x2 x3 x4 x5 M; exact t_X1_sumMinutes_b35 h0 h1 hk9 ih x2 x3 x4 x5 M
set_option maxHeartbeats 4000000 in
set_option maxRecDepth 100000 in
theorem t_X1_sumMinutes_b9 {X : Scr} {i0 : Nat} {i1 : Nat} (h0 : KD[i0]? = some (.inl 1)) (h1 : KD[i1]? = some (.inl 0)) {k9 : Int32 → Mem → Option (Unit × Mem)} (hk9 : ∀ (x2 : Int32) (M : Mem), T X eV (k9 x2 M) md_X1_sumMinutes 9 [(0, .ref i0), (1, .ref i1), (2, .int x2)] [] M) (x2 : Int32) (M : Mem) : T X eV (X1_sumMinutes_b9 i0 i1 k9 x2 M) md_X1_sumMinutes 9 [(0, .ref i0), (1, .ref i1), (2, .int x2)] [] M := by
  unfold X1_sumMinutes_b9
  refine T_iload_n 2 dX1_sumMinutes_9 rfl rfl ?_
  refine T_bipush (v := (10 : Int32)) (by decide) dX1_sumMinutes_10 ?_
  refine T_icmp_ge 72 dX1_sumMinutes_12 (by decide) ?_ ?_
  ·
    exact T_vret dX1_sumMinutes_72 rfl
  ·
    refine T_iconst (v := (1 : Int32)) (by decide) dX1_sumMinutes_15 ?_
    refine T_iload_n 2 dX1_sumMinutes_16 rfl rfl ?_
    refine T_ishl dX1_sumMinutes_17 ?_
    refine T_istore_n [(3, .int ((1 : Int32) <<< (x2 &&& 31))), (0, .ref i0), (1, .ref i1), (2, .int x2)] dX1_sumMinutes_18 rfl (by decide) rfl ?_
    refine T_aload_n 2 dX1_sumMinutes_19 rfl rfl ?_
    refine T_getR 2 FOk_0 h1 (by decide) (by decide) dX1_sumMinutes_20 tb_84 ?_
    refine T_aload_n 2 dX1_sumMinutes_23 rfl rfl ?_
    refine T_getR 0 FOk_0 h1 (by decide) (by decide) dX1_sumMinutes_24 tb_75 ?_
    refine T_iload_n 3 dX1_sumMinutes_27 rfl rfl ?_
    refine T_iald (kf_0_0 h1) dX1_sumMinutes_28 ?_
    refine T_iald (kf_0_2 h1) dX1_sumMinutes_29 ?_
    refine T_istore [(4, .int (M.1 (rf i1 2) (M.1 (rf i1 0) x2.toNatClampNeg).toNatClampNeg)), (3, .int ((1 : Int32) <<< (x2 &&& 31))), (0, .ref i0), (1, .ref i1), (2, .int x2)] dX1_sumMinutes_30 (by decide) rfl ?_
    refine T_iconst (v := (0 : Int32)) (by decide) dX1_sumMinutes_32 ?_
    refine T_istore [(5, .int (0 : Int32)), (4, .int (M.1 (rf i1 2) (M.1 (rf i1 0) x2.toNatClampNeg).toNatClampNeg)), (3, .int ((1 : Int32) <<< (x2 &&& 31))), (0, .ref i0), (1, .ref i1), (2, .int x2)] dX1_sumMinutes_33 (by decide) rfl ?_
    refine T_sub [3, 4, 5, 2, 1, 0] (lv' := [(0, .ref i0), (1, .ref i1), (2, .int x2), (3, .int ((1 : Int32) <<< (x2 &&& 31))), (4, .int (M.1 (rf i1 2) (M.1 (rf i1 0) x2.toNatClampNeg).toNatClampNeg)), (5, .int (0 : Int32))]) rfl ?_
    exact t_X1_sumMinutes_l35 h0 h1 hk9 _ _ _ _ _ _
theorem t_X1_sumMinutes_l9 {X : Scr} {i0 : Nat} {i1 : Nat} (h0 : KD[i0]? = some (.inl 1)) (h1 : KD[i1]? = some (.inl 0)) (n : Nat) : ∀ (x2 : Int32) (M : Mem), T X eV (X1_sumMinutes_l9 i0 i1  n x2 M) md_X1_sumMinutes 9 [(0, .ref i0), (1, .ref i1), (2, .int x2)] [] M := by
  induction n with
  | zero => intro x2 M; exact T_none
  | succ n ih => intro x2 M; exact t_X1_sumMinutes_b9 h0 h1 ih x2 M
set_option maxHeartbeats 4000000 in
set_option maxRecDepth 100000 in
theorem t_X1_sumMinutes {X : Scr} {i0 : Nat} {i1 : Nat} (h0 : KD[i0]? = some (.inl 1)) (h1 : KD[i1]? = some (.inl 0))  (M : Mem) : T X eV (X1_sumMinutes i0 i1   M) md_X1_sumMinutes 0 [(0, .ref i0), (1, .ref i1)] [] M := by
  unfold X1_sumMinutes
  refine T_aload_n 0 dX1_sumMinutes_0 rfl rfl ?_
  refine T_getR 0 FOk_1 h0 (by decide) (by decide) dX1_sumMinutes_1 tb_218 ?_
  refine T_iconst (v := (0 : Int32)) (by decide) dX1_sumMinutes_4 ?_
  refine T_iconst (v := (0 : Int32)) (by decide) dX1_sumMinutes_5 ?_
  refine T_iast (kf_1_0 h0) dX1_sumMinutes_6 ?_
  refine T_iconst (v := (0 : Int32)) (by decide) dX1_sumMinutes_7 ?_
  refine T_istore_n [(2, .int (0 : Int32)), (0, .ref i0), (1, .ref i1)] dX1_sumMinutes_8 rfl (by decide) rfl ?_
  refine T_sub [1, 2, 0] (lv' := [(0, .ref i0), (1, .ref i1), (2, .int (0 : Int32))]) rfl ?_
  exact t_X1_sumMinutes_l9 h0 h1  _ _ _
theorem C_X1_sumMinutes {X : Scr} {i0 : Nat} {i1 : Nat} (h0 : KD[i0]? = some (.inl 1)) (h1 : KD[i1]? = some (.inl 0))  {M : Mem} {r : Unit} {M' : Mem} (h : X1_sumMinutes i0 i1  M = some (r, M')) : Ct X md_X1_sumMinutes [.ref i0, .ref i1] M (eV r) M' := Ct_of (by decide +kernel) (Nat.le_of_ble_eq_true rfl) (t_X1_sumMinutes h0 h1  M) r M' h
-- J6_bitCount_0f7a4
def J6_bitCount_0f7a4   (x0 : Int32) (M : Mem) : Option (Int32 × Mem) :=
  some (((((((((x0 - (((x0.toUInt32 >>> ((1 : Int32).toUInt32 &&& Int32.toUInt32 31)).toInt32) &&& (1431655765 : Int32))) &&& (858993459 : Int32)) + ((((x0 - (((x0.toUInt32 >>> ((1 : Int32).toUInt32 &&& Int32.toUInt32 31)).toInt32) &&& (1431655765 : Int32))).toUInt32 >>> ((2 : Int32).toUInt32 &&& Int32.toUInt32 31)).toInt32) &&& (858993459 : Int32))) + (((((x0 - (((x0.toUInt32 >>> ((1 : Int32).toUInt32 &&& Int32.toUInt32 31)).toInt32) &&& (1431655765 : Int32))) &&& (858993459 : Int32)) + ((((x0 - (((x0.toUInt32 >>> ((1 : Int32).toUInt32 &&& Int32.toUInt32 31)).toInt32) &&& (1431655765 : Int32))).toUInt32 >>> ((2 : Int32).toUInt32 &&& Int32.toUInt32 31)).toInt32) &&& (858993459 : Int32))).toUInt32 >>> ((4 : Int32).toUInt32 &&& Int32.toUInt32 31)).toInt32)) &&& (252645135 : Int32)) + (((((((x0 - (((x0.toUInt32 >>> ((1 : Int32).toUInt32 &&& Int32.toUInt32 31)).toInt32) &&& (1431655765 : Int32))) &&& (858993459 : Int32)) + ((((x0 - (((x0.toUInt32 >>> ((1 : Int32).toUInt32 &&& Int32.toUInt32 31)).toInt32) &&& (1431655765 : Int32))).toUInt32 >>> ((2 : Int32).toUInt32 &&& Int32.toUInt32 31)).toInt32) &&& (858993459 : Int32))) + (((((x0 - (((x0.toUInt32 >>> ((1 : Int32).toUInt32 &&& Int32.toUInt32 31)).toInt32) &&& (1431655765 : Int32))) &&& (858993459 : Int32)) + ((((x0 - (((x0.toUInt32 >>> ((1 : Int32).toUInt32 &&& Int32.toUInt32 31)).toInt32) &&& (1431655765 : Int32))).toUInt32 >>> ((2 : Int32).toUInt32 &&& Int32.toUInt32 31)).toInt32) &&& (858993459 : Int32))).toUInt32 >>> ((4 : Int32).toUInt32 &&& Int32.toUInt32 31)).toInt32)) &&& (252645135 : Int32)).toUInt32 >>> ((8 : Int32).toUInt32 &&& Int32.toUInt32 31)).toInt32)) + ((((((((x0 - (((x0.toUInt32 >>> ((1 : Int32).toUInt32 &&& Int32.toUInt32 31)).toInt32) &&& (1431655765 : Int32))) &&& (858993459 : Int32)) + ((((x0 - (((x0.toUInt32 >>> ((1 : Int32).toUInt32 &&& Int32.toUInt32 31)).toInt32) &&& (1431655765 : Int32))).toUInt32 >>> ((2 : Int32).toUInt32 &&& Int32.toUInt32 31)).toInt32) &&& (858993459 : Int32))) + (((((x0 - (((x0.toUInt32 >>> ((1 : Int32).toUInt32 &&& Int32.toUInt32 31)).toInt32) &&& (1431655765 : Int32))) &&& (858993459 : Int32)) + ((((x0 - (((x0.toUInt32 >>> ((1 : Int32).toUInt32 &&& Int32.toUInt32 31)).toInt32) &&& (1431655765 : Int32))).toUInt32 >>> ((2 : Int32).toUInt32 &&& Int32.toUInt32 31)).toInt32) &&& (858993459 : Int32))).toUInt32 >>> ((4 : Int32).toUInt32 &&& Int32.toUInt32 31)).toInt32)) &&& (252645135 : Int32)) + (((((((x0 - (((x0.toUInt32 >>> ((1 : Int32).toUInt32 &&& Int32.toUInt32 31)).toInt32) &&& (1431655765 : Int32))) &&& (858993459 : Int32)) + ((((x0 - (((x0.toUInt32 >>> ((1 : Int32).toUInt32 &&& Int32.toUInt32 31)).toInt32) &&& (1431655765 : Int32))).toUInt32 >>> ((2 : Int32).toUInt32 &&& Int32.toUInt32 31)).toInt32) &&& (858993459 : Int32))) + (((((x0 - (((x0.toUInt32 >>> ((1 : Int32).toUInt32 &&& Int32.toUInt32 31)).toInt32) &&& (1431655765 : Int32))) &&& (858993459 : Int32)) + ((((x0 - (((x0.toUInt32 >>> ((1 : Int32).toUInt32 &&& Int32.toUInt32 31)).toInt32) &&& (1431655765 : Int32))).toUInt32 >>> ((2 : Int32).toUInt32 &&& Int32.toUInt32 31)).toInt32) &&& (858993459 : Int32))).toUInt32 >>> ((4 : Int32).toUInt32 &&& Int32.toUInt32 31)).toInt32)) &&& (252645135 : Int32)).toUInt32 >>> ((8 : Int32).toUInt32 &&& Int32.toUInt32 31)).toInt32)).toUInt32 >>> ((16 : Int32).toUInt32 &&& Int32.toUInt32 31)).toInt32)) &&& (63 : Int32)), M)
set_option maxHeartbeats 4000000 in
set_option maxRecDepth 100000 in
theorem t_J6_bitCount_0f7a4 {X : Scr}   (x0 : Int32) (M : Mem) : T X eI (J6_bitCount_0f7a4   x0 M) md_J6_bitCount_0f7a4 0 [(0, .int x0)] [] M := by
  unfold J6_bitCount_0f7a4
  refine T_iload_n 0 dJ6_bitCount_0f7a4_0 rfl rfl ?_
  refine T_iload_n 0 dJ6_bitCount_0f7a4_1 rfl rfl ?_
  refine T_iconst (v := (1 : Int32)) (by decide) dJ6_bitCount_0f7a4_2 ?_
  refine T_iushr dJ6_bitCount_0f7a4_3 ?_
  refine T_ldcw (v := (1431655765 : Int32)) dJ6_bitCount_0f7a4_4 tb_527 ?_
  refine T_iand dJ6_bitCount_0f7a4_7 ?_
  refine T_isub dJ6_bitCount_0f7a4_8 ?_
  refine T_istore_n [(0, .int (x0 - (((x0.toUInt32 >>> ((1 : Int32).toUInt32 &&& Int32.toUInt32 31)).toInt32) &&& (1431655765 : Int32))))] dJ6_bitCount_0f7a4_9 rfl (by decide) rfl ?_
  refine T_iload_n 0 dJ6_bitCount_0f7a4_10 rfl rfl ?_
  refine T_ldcw (v := (858993459 : Int32)) dJ6_bitCount_0f7a4_11 tb_528 ?_
  refine T_iand dJ6_bitCount_0f7a4_14 ?_
  refine T_iload_n 0 dJ6_bitCount_0f7a4_15 rfl rfl ?_
  refine T_iconst (v := (2 : Int32)) (by decide) dJ6_bitCount_0f7a4_16 ?_
  refine T_iushr dJ6_bitCount_0f7a4_17 ?_
  refine T_ldcw (v := (858993459 : Int32)) dJ6_bitCount_0f7a4_18 tb_528 ?_
  refine T_iand dJ6_bitCount_0f7a4_21 ?_
  refine T_iadd dJ6_bitCount_0f7a4_22 ?_
  refine T_istore_n [(0, .int (((x0 - (((x0.toUInt32 >>> ((1 : Int32).toUInt32 &&& Int32.toUInt32 31)).toInt32) &&& (1431655765 : Int32))) &&& (858993459 : Int32)) + ((((x0 - (((x0.toUInt32 >>> ((1 : Int32).toUInt32 &&& Int32.toUInt32 31)).toInt32) &&& (1431655765 : Int32))).toUInt32 >>> ((2 : Int32).toUInt32 &&& Int32.toUInt32 31)).toInt32) &&& (858993459 : Int32))))] dJ6_bitCount_0f7a4_23 rfl (by decide) rfl ?_
  refine T_iload_n 0 dJ6_bitCount_0f7a4_24 rfl rfl ?_
  refine T_iload_n 0 dJ6_bitCount_0f7a4_25 rfl rfl ?_
  refine T_iconst (v := (4 : Int32)) (by decide) dJ6_bitCount_0f7a4_26 ?_
  refine T_iushr dJ6_bitCount_0f7a4_27 ?_
  refine T_iadd dJ6_bitCount_0f7a4_28 ?_
  refine T_ldcw (v := (252645135 : Int32)) dJ6_bitCount_0f7a4_29 tb_529 ?_
  refine T_iand dJ6_bitCount_0f7a4_32 ?_
  refine T_istore_n [(0, .int (((((x0 - (((x0.toUInt32 >>> ((1 : Int32).toUInt32 &&& Int32.toUInt32 31)).toInt32) &&& (1431655765 : Int32))) &&& (858993459 : Int32)) + ((((x0 - (((x0.toUInt32 >>> ((1 : Int32).toUInt32 &&& Int32.toUInt32 31)).toInt32) &&& (1431655765 : Int32))).toUInt32 >>> ((2 : Int32).toUInt32 &&& Int32.toUInt32 31)).toInt32) &&& (858993459 : Int32))) + (((((x0 - (((x0.toUInt32 >>> ((1 : Int32).toUInt32 &&& Int32.toUInt32 31)).toInt32) &&& (1431655765 : Int32))) &&& (858993459 : Int32)) + ((((x0 - (((x0.toUInt32 >>> ((1 : Int32).toUInt32 &&& Int32.toUInt32 31)).toInt32) &&& (1431655765 : Int32))).toUInt32 >>> ((2 : Int32).toUInt32 &&& Int32.toUInt32 31)).toInt32) &&& (858993459 : Int32))).toUInt32 >>> ((4 : Int32).toUInt32 &&& Int32.toUInt32 31)).toInt32)) &&& (252645135 : Int32)))] dJ6_bitCount_0f7a4_33 rfl (by decide) rfl ?_
  refine T_iload_n 0 dJ6_bitCount_0f7a4_34 rfl rfl ?_
  refine T_iload_n 0 dJ6_bitCount_0f7a4_35 rfl rfl ?_
  refine T_bipush (v := (8 : Int32)) (by decide) dJ6_bitCount_0f7a4_36 ?_
  refine T_iushr dJ6_bitCount_0f7a4_38 ?_
  refine T_iadd dJ6_bitCount_0f7a4_39 ?_
  refine T_istore_n [(0, .int ((((((x0 - (((x0.toUInt32 >>> ((1 : Int32).toUInt32 &&& Int32.toUInt32 31)).toInt32) &&& (1431655765 : Int32))) &&& (858993459 : Int32)) + ((((x0 - (((x0.toUInt32 >>> ((1 : Int32).toUInt32 &&& Int32.toUInt32 31)).toInt32) &&& (1431655765 : Int32))).toUInt32 >>> ((2 : Int32).toUInt32 &&& Int32.toUInt32 31)).toInt32) &&& (858993459 : Int32))) + (((((x0 - (((x0.toUInt32 >>> ((1 : Int32).toUInt32 &&& Int32.toUInt32 31)).toInt32) &&& (1431655765 : Int32))) &&& (858993459 : Int32)) + ((((x0 - (((x0.toUInt32 >>> ((1 : Int32).toUInt32 &&& Int32.toUInt32 31)).toInt32) &&& (1431655765 : Int32))).toUInt32 >>> ((2 : Int32).toUInt32 &&& Int32.toUInt32 31)).toInt32) &&& (858993459 : Int32))).toUInt32 >>> ((4 : Int32).toUInt32 &&& Int32.toUInt32 31)).toInt32)) &&& (252645135 : Int32)) + (((((((x0 - (((x0.toUInt32 >>> ((1 : Int32).toUInt32 &&& Int32.toUInt32 31)).toInt32) &&& (1431655765 : Int32))) &&& (858993459 : Int32)) + ((((x0 - (((x0.toUInt32 >>> ((1 : Int32).toUInt32 &&& Int32.toUInt32 31)).toInt32) &&& (1431655765 : Int32))).toUInt32 >>> ((2 : Int32).toUInt32 &&& Int32.toUInt32 31)).toInt32) &&& (858993459 : Int32))) + (((((x0 - (((x0.toUInt32 >>> ((1 : Int32).toUInt32 &&& Int32.toUInt32 31)).toInt32) &&& (1431655765 : Int32))) &&& (858993459 : Int32)) + ((((x0 - (((x0.toUInt32 >>> ((1 : Int32).toUInt32 &&& Int32.toUInt32 31)).toInt32) &&& (1431655765 : Int32))).toUInt32 >>> ((2 : Int32).toUInt32 &&& Int32.toUInt32 31)).toInt32) &&& (858993459 : Int32))).toUInt32 >>> ((4 : Int32).toUInt32 &&& Int32.toUInt32 31)).toInt32)) &&& (252645135 : Int32)).toUInt32 >>> ((8 : Int32).toUInt32 &&& Int32.toUInt32 31)).toInt32)))] dJ6_bitCount_0f7a4_40 rfl (by decide) rfl ?_
  refine T_iload_n 0 dJ6_bitCount_0f7a4_41 rfl rfl ?_
  refine T_iload_n 0 dJ6_bitCount_0f7a4_42 rfl rfl ?_
  refine T_bipush (v := (16 : Int32)) (by decide) dJ6_bitCount_0f7a4_43 ?_
  refine T_iushr dJ6_bitCount_0f7a4_45 ?_
  refine T_iadd dJ6_bitCount_0f7a4_46 ?_
  refine T_istore_n [(0, .int (((((((x0 - (((x0.toUInt32 >>> ((1 : Int32).toUInt32 &&& Int32.toUInt32 31)).toInt32) &&& (1431655765 : Int32))) &&& (858993459 : Int32)) + ((((x0 - (((x0.toUInt32 >>> ((1 : Int32).toUInt32 &&& Int32.toUInt32 31)).toInt32) &&& (1431655765 : Int32))).toUInt32 >>> ((2 : Int32).toUInt32 &&& Int32.toUInt32 31)).toInt32) &&& (858993459 : Int32))) + (((((x0 - (((x0.toUInt32 >>> ((1 : Int32).toUInt32 &&& Int32.toUInt32 31)).toInt32) &&& (1431655765 : Int32))) &&& (858993459 : Int32)) + ((((x0 - (((x0.toUInt32 >>> ((1 : Int32).toUInt32 &&& Int32.toUInt32 31)).toInt32) &&& (1431655765 : Int32))).toUInt32 >>> ((2 : Int32).toUInt32 &&& Int32.toUInt32 31)).toInt32) &&& (858993459 : Int32))).toUInt32 >>> ((4 : Int32).toUInt32 &&& Int32.toUInt32 31)).toInt32)) &&& (252645135 : Int32)) + (((((((x0 - (((x0.toUInt32 >>> ((1 : Int32).toUInt32 &&& Int32.toUInt32 31)).toInt32) &&& (1431655765 : Int32))) &&& (858993459 : Int32)) + ((((x0 - (((x0.toUInt32 >>> ((1 : Int32).toUInt32 &&& Int32.toUInt32 31)).toInt32) &&& (1431655765 : Int32))).toUInt32 >>> ((2 : Int32).toUInt32 &&& Int32.toUInt32 31)).toInt32) &&& (858993459 : Int32))) + (((((x0 - (((x0.toUInt32 >>> ((1 : Int32).toUInt32 &&& Int32.toUInt32 31)).toInt32) &&& (1431655765 : Int32))) &&& (858993459 : Int32)) + ((((x0 - (((x0.toUInt32 >>> ((1 : Int32).toUInt32 &&& Int32.toUInt32 31)).toInt32) &&& (1431655765 : Int32))).toUInt32 >>> ((2 : Int32).toUInt32 &&& Int32.toUInt32 31)).toInt32) &&& (858993459 : Int32))).toUInt32 >>> ((4 : Int32).toUInt32 &&& Int32.toUInt32 31)).toInt32)) &&& (252645135 : Int32)).toUInt32 >>> ((8 : Int32).toUInt32 &&& Int32.toUInt32 31)).toInt32)) + ((((((((x0 - (((x0.toUInt32 >>> ((1 : Int32).toUInt32 &&& Int32.toUInt32 31)).toInt32) &&& (1431655765 : Int32))) &&& (858993459 : Int32)) + ((((x0 - (((x0.toUInt32 >>> ((1 : Int32).toUInt32 &&& Int32.toUInt32 31)).toInt32) &&& (1431655765 : Int32))).toUInt32 >>> ((2 : Int32).toUInt32 &&& Int32.toUInt32 31)).toInt32) &&& (858993459 : Int32))) + (((((x0 - (((x0.toUInt32 >>> ((1 : Int32).toUInt32 &&& Int32.toUInt32 31)).toInt32) &&& (1431655765 : Int32))) &&& (858993459 : Int32)) + ((((x0 - (((x0.toUInt32 >>> ((1 : Int32).toUInt32 &&& Int32.toUInt32 31)).toInt32) &&& (1431655765 : Int32))).toUInt32 >>> ((2 : Int32).toUInt32 &&& Int32.toUInt32 31)).toInt32) &&& (858993459 : Int32))).toUInt32 >>> ((4 : Int32).toUInt32 &&& Int32.toUInt32 31)).toInt32)) &&& (252645135 : Int32)) + (((((((x0 - (((x0.toUInt32 >>> ((1 : Int32).toUInt32 &&& Int32.toUInt32 31)).toInt32) &&& (1431655765 : Int32))) &&& (858993459 : Int32)) + ((((x0 - (((x0.toUInt32 >>> ((1 : Int32).toUInt32 &&& Int32.toUInt32 31)).toInt32) &&& (1431655765 : Int32))).toUInt32 >>> ((2 : Int32).toUInt32 &&& Int32.toUInt32 31)).toInt32) &&& (858993459 : Int32))) + (((((x0 - (((x0.toUInt32 >>> ((1 : Int32).toUInt32 &&& Int32.toUInt32 31)).toInt32) &&& (1431655765 : Int32))) &&& (858993459 : Int32)) + ((((x0 - (((x0.toUInt32 >>> ((1 : Int32).toUInt32 &&& Int32.toUInt32 31)).toInt32) &&& (1431655765 : Int32))).toUInt32 >>> ((2 : Int32).toUInt32 &&& Int32.toUInt32 31)).toInt32) &&& (858993459 : Int32))).toUInt32 >>> ((4 : Int32).toUInt32 &&& Int32.toUInt32 31)).toInt32)) &&& (252645135 : Int32)).toUInt32 >>> ((8 : Int32).toUInt32 &&& Int32.toUInt32 31)).toInt32)).toUInt32 >>> ((16 : Int32).toUInt32 &&& Int32.toUInt32 31)).toInt32)))] dJ6_bitCount_0f7a4_47 rfl (by decide) rfl ?_
  refine T_iload_n 0 dJ6_bitCount_0f7a4_48 rfl rfl ?_
  refine T_bipush (v := (63 : Int32)) (by decide) dJ6_bitCount_0f7a4_49 ?_
  refine T_iand dJ6_bitCount_0f7a4_51 ?_
  exact T_iret dJ6_bitCount_0f7a4_52 rfl
theorem C_J6_bitCount_0f7a4 {X : Scr}   (x0 : Int32) {M : Mem} {r : Int32} {M' : Mem} (h : J6_bitCount_0f7a4  x0 M = some (r, M')) : Ct X md_J6_bitCount_0f7a4 [.int x0] M (eI r) M' := Ct_of (by decide +kernel) (Nat.le_of_ble_eq_true rfl) (t_J6_bitCount_0f7a4  _ M) r M' h
-- J9_min_7cf53
def J9_min_7cf53_b10   (s0 : Int32) (M : Mem) : Option (Int32 × Mem) :=
  some (s0, M)
def J9_min_7cf53   (x0 : Int32) (x1 : Int32) (M : Mem) : Option (Int32 × Mem) :=
  if x1 < x0 then
    J9_min_7cf53_b10   x1 M
  else
    J9_min_7cf53_b10   x0 M
set_option maxHeartbeats 4000000 in
set_option maxRecDepth 100000 in
theorem t_J9_min_7cf53_b10 {X : Scr}   (s0 : Int32) (M : Mem) : T X eI (J9_min_7cf53_b10   s0 M) md_J9_min_7cf53 10 [] [.int s0] M := by
  unfold J9_min_7cf53_b10
  exact T_iret dJ9_min_7cf53_10 rfl
set_option maxHeartbeats 4000000 in
set_option maxRecDepth 100000 in
theorem t_J9_min_7cf53 {X : Scr}   (x0 : Int32) (x1 : Int32) (M : Mem) : T X eI (J9_min_7cf53   x0 x1 M) md_J9_min_7cf53 0 [(0, .int x0), (1, .int x1)] [] M := by
  unfold J9_min_7cf53
  refine T_iload_n 0 dJ9_min_7cf53_0 rfl rfl ?_
  refine T_iload_n 1 dJ9_min_7cf53_1 rfl rfl ?_
  refine T_icmp_gt 9 dJ9_min_7cf53_2 (by decide) ?_ ?_
  ·
    refine T_iload_n 1 dJ9_min_7cf53_9 rfl rfl ?_
    refine T_sub [] (lv' := []) rfl ?_
    exact t_J9_min_7cf53_b10   _ _
  ·
    refine T_iload_n 0 dJ9_min_7cf53_5 rfl rfl ?_
    refine T_goto 10 dJ9_min_7cf53_6 (by decide) ?_
    refine T_sub [] (lv' := []) rfl ?_
    exact t_J9_min_7cf53_b10   _ _
theorem C_J9_min_7cf53 {X : Scr}   (x0 : Int32) (x1 : Int32) {M : Mem} {r : Int32} {M' : Mem} (h : J9_min_7cf53  x0 x1 M = some (r, M')) : Ct X md_J9_min_7cf53 [.int x0, .int x1] M (eI r) M' := Ct_of (by decide +kernel) (Nat.le_of_ble_eq_true rfl) (t_J9_min_7cf53  _ _ M) r M' h
-- X1_walk
def X1_walk_b59   (x1 : Int32) (x2 : Int32) (x4 : Int32) (x5 : Int32) (M : Mem) : Option (Int32 × Mem) :=
  (J9_min_7cf53  (((x1 - x4) + x5) - x2) (((x5 - x1) + x2) - x4) M).bind (fun p1 =>
    some (((x5 - x4) + p1.1), p1.2))
def X1_walk_b39  (k39 : Int32 → Int32 → Int32 → Int32 → Int32 → Mem → Option (Int32 × Mem)) (x1 : Int32) (x2 : Int32) (x3 : Int32) (x4 : Int32) (x5 : Int32) (M : Mem) : Option (Int32 × Mem) :=
  if x5 ≤ 0 then
    X1_walk_b59   x1 x2 x4 x5 M
  else
    (X11_isIn  x3 x5 M).bind (fun p1 =>
      if p1.1 = 0 then
        k39 x1 x2 x3 x4 (x5 + (-1 : Int32)) p1.2
      else
        X1_walk_b59   x1 x2 x4 x5 p1.2)
def X1_walk_l39   : Nat → Int32 → Int32 → Int32 → Int32 → Int32 → Mem → Option (Int32 × Mem)
  | 0 => fun _ _ _ _ _ _ => none
  | n + 1 => X1_walk_b39  (X1_walk_l39   n)
def X1_walk_b35   (x1 : Int32) (x2 : Int32) (x3 : Int32) (x4 : Int32) (M : Mem) : Option (Int32 × Mem) :=
  X1_walk_l39   FU x1 x2 x3 x4 (9 : Int32) M
def X1_walk_b13  (k13 : Int32 → Int32 → Int32 → Int32 → Mem → Option (Int32 × Mem)) (x1 : Int32) (x2 : Int32) (x3 : Int32) (x4 : Int32) (M : Mem) : Option (Int32 × Mem) :=
  if (10 : Int32) ≤ x4 then
    X1_walk_b35   x1 x2 x3 x4 M
  else
    (X11_isIn  x3 x4 M).bind (fun p1 =>
      if p1.1 = 0 then
        k13 x1 x2 x3 (x4 + (1 : Int32)) p1.2
      else
        X1_walk_b35   x1 x2 x3 x4 p1.2)
def X1_walk_l13   : Nat → Int32 → Int32 → Int32 → Int32 → Mem → Option (Int32 × Mem)
  | 0 => fun _ _ _ _ _ => none
  | n + 1 => X1_walk_b13  (X1_walk_l13   n)
def X1_walk   (x0 : Int32) (x1 : Int32) (x2 : Int32) (M : Mem) : Option (Int32 × Mem) :=
  X1_walk_l13   FU x1 x2 ((x0 ||| ((1 : Int32) <<< (x1 &&& 31))) ||| ((1 : Int32) <<< (x2 &&& 31))) (0 : Int32) M
set_option maxHeartbeats 4000000 in
set_option maxRecDepth 100000 in
theorem t_X1_walk_b59 {X : Scr}   (x1 : Int32) (x2 : Int32) (x4 : Int32) (x5 : Int32) (M : Mem) : T X eI (X1_walk_b59   x1 x2 x4 x5 M) md_X1_walk 59 [(1, .int x1), (2, .int x2), (4, .int x4), (5, .int x5)] [] M := by
  unfold X1_walk_b59
  refine T_iload_n 0 dX1_walk_59 rfl rfl ?_
  refine T_iload 2 dX1_walk_60 rfl ?_
  refine T_isub dX1_walk_62 ?_
  refine T_iload 3 dX1_walk_63 rfl ?_
  refine T_iadd dX1_walk_65 ?_
  refine T_iload_n 1 dX1_walk_66 rfl rfl ?_
  refine T_isub dX1_walk_67 ?_
  refine T_istore [(6, .int (((x1 - x4) + x5) - x2)), (1, .int x1), (2, .int x2), (4, .int x4), (5, .int x5)] dX1_walk_68 (by decide) rfl ?_
  refine T_iload 4 dX1_walk_70 rfl ?_
  refine T_iload_n 1 dX1_walk_72 rfl rfl ?_
  refine T_isub dX1_walk_73 ?_
  refine T_iload_n 2 dX1_walk_74 rfl rfl ?_
  refine T_iadd dX1_walk_75 ?_
  refine T_iload 3 dX1_walk_76 rfl ?_
  refine T_isub dX1_walk_78 ?_
  refine T_istore [(7, .int (((x5 - x1) + x2) - x4)), (6, .int (((x1 - x4) + x5) - x2)), (1, .int x1), (2, .int x2), (4, .int x4), (5, .int x5)] dX1_walk_79 (by decide) rfl ?_
  refine T_iload 5 dX1_walk_81 rfl ?_
  refine T_iload 4 dX1_walk_83 rfl ?_
  refine T_isub dX1_walk_85 ?_
  refine T_iload 1 dX1_walk_86 rfl ?_
  refine T_iload 0 dX1_walk_88 rfl ?_
  refine T_callSI md_J9_min_7cf53 [.int (((x1 - x4) + x5) - x2), .int (((x5 - x1) + x2) - x4)] [.int (x5 - x4)] dX1_walk_90 rfl ok_J9_min_7cf53 tb_534 tb_478 (by decide) (Nat.le_of_ble_eq_true rfl) (fun _ _ h9 => C_J9_min_7cf53  _ _ h9) (fun r1 M1 => ?_)
  dsimp only
  refine T_iadd dX1_walk_93 ?_
  exact T_iret dX1_walk_94 rfl
set_option maxHeartbeats 4000000 in
set_option maxRecDepth 100000 in
theorem t_X1_walk_b39 {X : Scr}   {k39 : Int32 → Int32 → Int32 → Int32 → Int32 → Mem → Option (Int32 × Mem)} (hk39 : ∀ (x1 : Int32) (x2 : Int32) (x3 : Int32) (x4 : Int32) (x5 : Int32) (M : Mem), T X eI (k39 x1 x2 x3 x4 x5 M) md_X1_walk 39 [(1, .int x1), (2, .int x2), (3, .int x3), (4, .int x4), (5, .int x5)] [] M) (x1 : Int32) (x2 : Int32) (x3 : Int32) (x4 : Int32) (x5 : Int32) (M : Mem) : T X eI (X1_walk_b39  k39 x1 x2 x3 x4 x5 M) md_X1_walk 39 [(1, .int x1), (2, .int x2), (3, .int x3), (4, .int x4), (5, .int x5)] [] M := by
  unfold X1_walk_b39
  refine T_iload 4 dX1_walk_39 rfl ?_
  refine T_if_le 59 dX1_walk_41 (by decide) ?_ ?_
  ·
    refine T_sub [0, 1, 3, 4] (lv' := [(1, .int x1), (2, .int x2), (4, .int x4), (5, .int x5)]) rfl ?_
    exact t_X1_walk_b59   _ _ _ _ _
  ·
    refine T_iload_n 2 dX1_walk_44 rfl rfl ?_
    refine T_iload 4 dX1_walk_45 rfl ?_
    refine T_callSNI md_X11_isIn [.int x3, .int x5] [] dX1_walk_47 rfl ok_X11_isIn tb_533 tb_474 (by decide) (Nat.le_of_ble_eq_true rfl) (fun _ _ h9 => C_X11_isIn  _ _ h9) (fun r1 M1 => ?_)
    dsimp only
    refine T_if_ne 59 dX1_walk_50 (by decide) ?_ ?_
    ·
      refine T_iinc 4 [(5, .int (x5 + (-1 : Int32))), (1, .int x1), (2, .int x2), (3, .int x3), (4, .int x4)] (v := (-1 : Int32)) dX1_walk_53 rfl (by decide) (by decide) rfl ?_
      refine T_goto 39 dX1_walk_56 (by decide) ?_
      refine T_sub [1, 2, 3, 4, 0] (lv' := [(1, .int x1), (2, .int x2), (3, .int x3), (4, .int x4), (5, .int (x5 + (-1 : Int32)))]) rfl ?_
      exact hk39 _ _ _ _ _ _
    ·
      refine T_sub [0, 1, 3, 4] (lv' := [(1, .int x1), (2, .int x2), (4, .int x4), (5, .int x5)]) rfl ?_
      exact t_X1_walk_b59   _ _ _ _ _
theorem t_X1_walk_l39 {X : Scr}   (n : Nat) : ∀ (x1 : Int32) (x2 : Int32) (x3 : Int32) (x4 : Int32) (x5 : Int32) (M : Mem), T X eI (X1_walk_l39   n x1 x2 x3 x4 x5 M) md_X1_walk 39 [(1, .int x1), (2, .int x2), (3, .int x3), (4, .int x4), (5, .int x5)] [] M := by
  induction n with
  | zero => intro x1 x2 x3 x4 x5 M; exact T_none
  | succ n ih => intro x1 x2 x3 x4 x5 M; exact t_X1_walk_b39  ih x1 x2 x3 x4 x5 M
set_option maxHeartbeats 4000000 in
set_option maxRecDepth 100000 in
theorem t_X1_walk_b35 {X : Scr}   (x1 : Int32) (x2 : Int32) (x3 : Int32) (x4 : Int32) (M : Mem) : T X eI (X1_walk_b35   x1 x2 x3 x4 M) md_X1_walk 35 [(1, .int x1), (2, .int x2), (3, .int x3), (4, .int x4)] [] M := by
  unfold X1_walk_b35
  refine T_bipush (v := (9 : Int32)) (by decide) dX1_walk_35 ?_
  refine T_istore [(5, .int (9 : Int32)), (1, .int x1), (2, .int x2), (3, .int x3), (4, .int x4)] dX1_walk_37 (by decide) rfl ?_
  refine T_sub [1, 2, 3, 4, 0] (lv' := [(1, .int x1), (2, .int x2), (3, .int x3), (4, .int x4), (5, .int (9 : Int32))]) rfl ?_
  exact t_X1_walk_l39   _ _ _ _ _ _ _
set_option maxHeartbeats 4000000 in
set_option maxRecDepth 100000 in
theorem t_X1_walk_b13 {X : Scr}   {k13 : Int32 → Int32 → Int32 → Int32 → Mem → Option (Int32 × Mem)} (hk13 : ∀ (x1 : Int32) (x2 : Int32) (x3 : Int32) (x4 : Int32) (M : Mem), T X eI (k13 x1 x2 x3 x4 M) md_X1_walk 13 [(1, .int x1), (2, .int x2), (3, .int x3), (4, .int x4)] [] M) (x1 : Int32) (x2 : Int32) (x3 : Int32) (x4 : Int32) (M : Mem) : T X eI (X1_walk_b13  k13 x1 x2 x3 x4 M) md_X1_walk 13 [(1, .int x1), (2, .int x2), (3, .int x3), (4, .int x4)] [] M := by
  unfold X1_walk_b13
  refine T_iload 3 dX1_walk_13 rfl ?_
  refine T_bipush (v := (10 : Int32)) (by decide) dX1_walk_15 ?_
  refine T_icmp_ge 35 dX1_walk_17 (by decide) ?_ ?_
  ·
    exact t_X1_walk_b35   _ _ _ _ _
  ·
    refine T_iload_n 2 dX1_walk_20 rfl rfl ?_
    refine T_iload 3 dX1_walk_21 rfl ?_
    refine T_callSNI md_X11_isIn [.int x3, .int x4] [] dX1_walk_23 rfl ok_X11_isIn tb_533 tb_474 (by decide) (Nat.le_of_ble_eq_true rfl) (fun _ _ h9 => C_X11_isIn  _ _ h9) (fun r1 M1 => ?_)
    dsimp only
    refine T_if_ne 35 dX1_walk_26 (by decide) ?_ ?_
    ·
      refine T_iinc 3 [(4, .int (x4 + (1 : Int32))), (1, .int x1), (2, .int x2), (3, .int x3)] (v := (1 : Int32)) dX1_walk_29 rfl (by decide) (by decide) rfl ?_
      refine T_goto 13 dX1_walk_32 (by decide) ?_
      refine T_sub [1, 2, 3, 0] (lv' := [(1, .int x1), (2, .int x2), (3, .int x3), (4, .int (x4 + (1 : Int32)))]) rfl ?_
      exact hk13 _ _ _ _ _
    ·
      exact t_X1_walk_b35   _ _ _ _ _
theorem t_X1_walk_l13 {X : Scr}   (n : Nat) : ∀ (x1 : Int32) (x2 : Int32) (x3 : Int32) (x4 : Int32) (M : Mem), T X eI (X1_walk_l13   n x1 x2 x3 x4 M) md_X1_walk 13 [(1, .int x1), (2, .int x2), (3, .int x3), (4, .int x4)] [] M := by
  induction n with
  | zero => intro x1 x2 x3 x4 M; exact T_none
  | succ n ih => intro x1 x2 x3 x4 M; exact t_X1_walk_b13  ih x1 x2 x3 x4 M
set_option maxHeartbeats 4000000 in
set_option maxRecDepth 100000 in
theorem t_X1_walk {X : Scr}   (x0 : Int32) (x1 : Int32) (x2 : Int32) (M : Mem) : T X eI (X1_walk   x0 x1 x2 M) md_X1_walk 0 [(0, .int x0), (1, .int x1), (2, .int x2)] [] M := by
  unfold X1_walk
  refine T_iload_n 0 dX1_walk_0 rfl rfl ?_
  refine T_iconst (v := (1 : Int32)) (by decide) dX1_walk_1 ?_
  refine T_iload_n 1 dX1_walk_2 rfl rfl ?_
  refine T_ishl dX1_walk_3 ?_
  refine T_ior dX1_walk_4 ?_
  refine T_iconst (v := (1 : Int32)) (by decide) dX1_walk_5 ?_
  refine T_iload_n 2 dX1_walk_6 rfl rfl ?_
  refine T_ishl dX1_walk_7 ?_
  refine T_ior dX1_walk_8 ?_
  refine T_istore_n [(3, .int ((x0 ||| ((1 : Int32) <<< (x1 &&& 31))) ||| ((1 : Int32) <<< (x2 &&& 31)))), (0, .int x0), (1, .int x1), (2, .int x2)] dX1_walk_9 rfl (by decide) rfl ?_
  refine T_iconst (v := (0 : Int32)) (by decide) dX1_walk_10 ?_
  refine T_istore [(4, .int (0 : Int32)), (3, .int ((x0 ||| ((1 : Int32) <<< (x1 &&& 31))) ||| ((1 : Int32) <<< (x2 &&& 31)))), (0, .int x0), (1, .int x1), (2, .int x2)] dX1_walk_11 (by decide) rfl ?_
  refine T_sub [3, 4, 1, 0] (lv' := [(1, .int x1), (2, .int x2), (3, .int ((x0 ||| ((1 : Int32) <<< (x1 &&& 31))) ||| ((1 : Int32) <<< (x2 &&& 31)))), (4, .int (0 : Int32))]) rfl ?_
  exact t_X1_walk_l13   _ _ _ _ _ _
theorem C_X1_walk {X : Scr}   (x0 : Int32) (x1 : Int32) (x2 : Int32) {M : Mem} {r : Int32} {M' : Mem} (h : X1_walk  x0 x1 x2 M = some (r, M')) : Ct X md_X1_walk [.int x0, .int x1, .int x2] M (eI r) M' := Ct_of (by decide +kernel) (Nat.le_of_ble_eq_true rfl) (t_X1_walk  _ _ _ M) r M' h
-- X1_planRound
def X1_planRound_b88 (i0 : Nat) (i1 : Nat) (k30 : Int32 → Int32 → Int32 → Mem → Option (Unit × Mem)) (x2 : Int32) (x3 : Int32) (x4 : Int32) (M : Mem) : Option (Unit × Mem) :=
  k30 x2 x3 (x4 + (1 : Int32)) M
def X1_planRound_b30 (i0 : Nat) (i1 : Nat) (k30 : Int32 → Int32 → Int32 → Mem → Option (Unit × Mem)) (x2 : Int32) (x3 : Int32) (x4 : Int32) (M : Mem) : Option (Unit × Mem) :=
  if (1024 : Int32) ≤ x4 then
    some ((), M)
  else
    (J6_bitCount_0f7a4  x4 M).bind (fun p1 =>
      if p1.1 ≤ (p1.2.1 i0 1) then
        X1_planRound_b88 i0 i1 k30 x2 x3 x4 p1.2
      else
        gd (ib x4 1024) (
          (X1_walk  x4 (p1.2.1 i1 3) x2 p1.2).bind (fun p2 =>
            if x3 < ((p1.2.1 (rf i0 0) x4.toNatClampNeg) + p2.1) then
              X1_planRound_b88 i0 i1 k30 x2 x3 x4 p2.2
            else
              X1_planRound_b88 i0 i1 k30 x2 x3 x4 (mI (mI p2.2 i0 1 p1.1) i0 2 x4))))
def X1_planRound_l30 (i0 : Nat) (i1 : Nat)  : Nat → Int32 → Int32 → Int32 → Mem → Option (Unit × Mem)
  | 0 => fun _ _ _ _ => none
  | n + 1 => X1_planRound_b30 i0 i1 (X1_planRound_l30 i0 i1  n)
def X1_planRound (i0 : Nat) (i1 : Nat)  (x2 : Int32) (M : Mem) : Option (Unit × Mem) :=
  (X1_sumMinutes i0 i1  M).bind (fun p1 =>
    X1_planRound_l30 i0 i1  FU x2 (((mI (mI p1.2 i0 1 (-6 : Int32)) i0 2 (-6 : Int32)).1 i1 7) - ((mI (mI p1.2 i0 1 (-6 : Int32)) i0 2 (-6 : Int32)).1 i1 6)) (0 : Int32) (mI (mI p1.2 i0 1 (-6 : Int32)) i0 2 (-6 : Int32)))
set_option maxHeartbeats 4000000 in
set_option maxRecDepth 100000 in
theorem t_X1_planRound_b88 {X : Scr} {i0 : Nat} {i1 : Nat} (h0 : KD[i0]? = some (.inl 1)) (h1 : KD[i1]? = some (.inl 0)) {k30 : Int32 → Int32 → Int32 → Mem → Option (Unit × Mem)} (hk30 : ∀ (x2 : Int32) (x3 : Int32) (x4 : Int32) (M : Mem), T X eV (k30 x2 x3 x4 M) md_X1_planRound 30 [(0, .ref i0), (1, .ref i1), (2, .int x2), (3, .int x3), (4, .int x4)] [] M) (x2 : Int32) (x3 : Int32) (x4 : Int32) (M : Mem) : T X eV (X1_planRound_b88 i0 i1 k30 x2 x3 x4 M) md_X1_planRound 88 [(0, .ref i0), (1, .ref i1), (2, .int x2), (3, .int x3), (4, .int x4)] [] M := by
  unfold X1_planRound_b88
  refine T_iinc 4 [(4, .int (x4 + (1 : Int32))), (0, .ref i0), (1, .ref i1), (2, .int x2), (3, .int x3)] (v := (1 : Int32)) dX1_planRound_88 rfl (by decide) (by decide) rfl ?_
  refine T_goto 30 dX1_planRound_91 (by decide) ?_
  refine T_sub [1, 2, 3, 4, 0] (lv' := [(0, .ref i0), (1, .ref i1), (2, .int x2), (3, .int x3), (4, .int (x4 + (1 : Int32)))]) rfl ?_
  exact hk30 _ _ _ _
set_option maxHeartbeats 4000000 in
set_option maxRecDepth 100000 in
theorem t_X1_planRound_b30 {X : Scr} {i0 : Nat} {i1 : Nat} (h0 : KD[i0]? = some (.inl 1)) (h1 : KD[i1]? = some (.inl 0)) {k30 : Int32 → Int32 → Int32 → Mem → Option (Unit × Mem)} (hk30 : ∀ (x2 : Int32) (x3 : Int32) (x4 : Int32) (M : Mem), T X eV (k30 x2 x3 x4 M) md_X1_planRound 30 [(0, .ref i0), (1, .ref i1), (2, .int x2), (3, .int x3), (4, .int x4)] [] M) (x2 : Int32) (x3 : Int32) (x4 : Int32) (M : Mem) : T X eV (X1_planRound_b30 i0 i1 k30 x2 x3 x4 M) md_X1_planRound 30 [(0, .ref i0), (1, .ref i1), (2, .int x2), (3, .int x3), (4, .int x4)] [] M := by
  unfold X1_planRound_b30
  refine T_iload 4 dX1_planRound_30 rfl ?_
  refine T_sipush (v := (1024 : Int32)) (by decide) dX1_planRound_32 ?_
  refine T_icmp_ge 94 dX1_planRound_35 (by decide) ?_ ?_
  ·
    exact T_vret dX1_planRound_94 rfl
  ·
    refine T_iload 4 dX1_planRound_38 rfl ?_
    refine T_callSI md_J6_bitCount_0f7a4 [.int x4] [] dX1_planRound_40 rfl ok_J6_bitCount_0f7a4 tb_524 tb_525 (by decide) (Nat.le_of_ble_eq_true rfl) (fun _ _ h9 => C_J6_bitCount_0f7a4  _ h9) (fun r1 M1 => ?_)
    dsimp only
    refine T_istore [(5, .int r1), (0, .ref i0), (1, .ref i1), (2, .int x2), (3, .int x3), (4, .int x4)] dX1_planRound_43 (by decide) rfl ?_
    refine T_iload 0 dX1_planRound_45 rfl ?_
    refine T_aload_n 1 dX1_planRound_47 rfl rfl ?_
    refine T_getI 1 FOk_1 h0 (by decide) (by decide) dX1_planRound_48 tb_219 ?_
    refine T_icmp_le 88 dX1_planRound_51 (by decide) ?_ ?_
    ·
      refine T_sub [1, 2, 3, 4, 5] (lv' := [(0, .ref i0), (1, .ref i1), (2, .int x2), (3, .int x3), (4, .int x4)]) rfl ?_
      exact t_X1_planRound_b88 h0 h1 hk30 _ _ _ _
    ·
      refine T_aload_n 1 dX1_planRound_54 rfl rfl ?_
      refine T_getR 0 FOk_1 h0 (by decide) (by decide) dX1_planRound_55 tb_218 ?_
      refine T_iload 5 dX1_planRound_58 rfl ?_
      refine T_iald (kf_1_0 h0) dX1_planRound_60 ?_
      refine T_iload 5 dX1_planRound_61 rfl ?_
      refine T_aload_n 2 dX1_planRound_63 rfl rfl ?_
      refine T_getI 3 FOk_0 h1 (by decide) (by decide) dX1_planRound_64 tb_86 ?_
      refine T_iload_n 3 dX1_planRound_67 rfl rfl ?_
      refine T_callSI md_X1_walk [.int x4, .int (M1.1 i1 3), .int x2] [.int (M1.1 (rf i0 0) x4.toNatClampNeg)] dX1_planRound_68 rfl ok_X1_walk tb_530 tb_531 (by decide) (Nat.le_of_ble_eq_true rfl) (fun _ _ h9 => C_X1_walk  _ _ _ h9) (fun r2 M2 => ?_)
      dsimp only
      refine T_iadd dX1_planRound_71 ?_
      refine T_iload_n 4 dX1_planRound_72 rfl rfl ?_
      refine T_icmp_gt 88 dX1_planRound_73 (by decide) ?_ ?_
      ·
        refine T_sub [1, 2, 3, 4, 5] (lv' := [(0, .ref i0), (1, .ref i1), (2, .int x2), (3, .int x3), (4, .int x4)]) rfl ?_
        exact t_X1_planRound_b88 h0 h1 hk30 _ _ _ _
      ·
        refine T_aload_n 1 dX1_planRound_76 rfl rfl ?_
        refine T_iload 0 dX1_planRound_77 rfl ?_
        refine T_putI (ty := .int) 1 FOk_1 h0 (by decide) (by decide) rfl (by decide +kernel) rfl rfl dX1_planRound_79 tb_219 ?_
        refine T_aload_n 1 dX1_planRound_82 rfl rfl ?_
        refine T_iload 5 dX1_planRound_83 rfl ?_
        refine T_putI (ty := .int) 2 FOk_1 h0 (by decide) (by decide) rfl (by decide +kernel) rfl rfl dX1_planRound_85 tb_221 ?_
        refine T_sub [1, 2, 3, 4, 5] (lv' := [(0, .ref i0), (1, .ref i1), (2, .int x2), (3, .int x3), (4, .int x4)]) rfl ?_
        exact t_X1_planRound_b88 h0 h1 hk30 _ _ _ _
theorem t_X1_planRound_l30 {X : Scr} {i0 : Nat} {i1 : Nat} (h0 : KD[i0]? = some (.inl 1)) (h1 : KD[i1]? = some (.inl 0)) (n : Nat) : ∀ (x2 : Int32) (x3 : Int32) (x4 : Int32) (M : Mem), T X eV (X1_planRound_l30 i0 i1  n x2 x3 x4 M) md_X1_planRound 30 [(0, .ref i0), (1, .ref i1), (2, .int x2), (3, .int x3), (4, .int x4)] [] M := by
  induction n with
  | zero => intro x2 x3 x4 M; exact T_none
  | succ n ih => intro x2 x3 x4 M; exact t_X1_planRound_b30 h0 h1 ih x2 x3 x4 M
set_option maxHeartbeats 4000000 in
set_option maxRecDepth 100000 in
theorem t_X1_planRound {X : Scr} {i0 : Nat} {i1 : Nat} (h0 : KD[i0]? = some (.inl 1)) (h1 : KD[i1]? = some (.inl 0)) (x2 : Int32) (M : Mem) : T X eV (X1_planRound i0 i1  x2 M) md_X1_planRound 0 [(0, .ref i0), (1, .ref i1), (2, .int x2)] [] M := by
  unfold X1_planRound
  refine T_aload_n 0 dX1_planRound_0 rfl rfl ?_
  refine T_aload_n 1 dX1_planRound_1 rfl rfl ?_
  refine T_callVU md_X1_sumMinutes [.ref i1] [] dX1_planRound_2 h0 rfl rfl ok_X1_sumMinutes tb_520 tb_522 tb_5 (by decide) (Nat.le_of_ble_eq_true rfl) (fun _ _ h9 => C_X1_sumMinutes h0 h1  h9) (fun r1 M1 => ?_)
  dsimp only
  refine T_aload_n 0 dX1_planRound_5 rfl rfl ?_
  refine T_bipush (v := (-6 : Int32)) (by decide) dX1_planRound_6 ?_
  refine T_putI (ty := .int) 1 FOk_1 h0 (by decide) (by decide) rfl (by decide +kernel) rfl rfl dX1_planRound_8 tb_219 ?_
  refine T_aload_n 0 dX1_planRound_11 rfl rfl ?_
  refine T_bipush (v := (-6 : Int32)) (by decide) dX1_planRound_12 ?_
  refine T_putI (ty := .int) 2 FOk_1 h0 (by decide) (by decide) rfl (by decide +kernel) rfl rfl dX1_planRound_14 tb_221 ?_
  refine T_aload_n 1 dX1_planRound_17 rfl rfl ?_
  refine T_getI 7 FOk_0 h1 (by decide) (by decide) dX1_planRound_18 tb_98 ?_
  refine T_aload_n 1 dX1_planRound_21 rfl rfl ?_
  refine T_getI 6 FOk_0 h1 (by decide) (by decide) dX1_planRound_22 tb_94 ?_
  refine T_isub dX1_planRound_25 ?_
  refine T_istore_n [(3, .int (((mI (mI M1 i0 1 (-6 : Int32)) i0 2 (-6 : Int32)).1 i1 7) - ((mI (mI M1 i0 1 (-6 : Int32)) i0 2 (-6 : Int32)).1 i1 6))), (0, .ref i0), (1, .ref i1), (2, .int x2)] dX1_planRound_26 rfl (by decide) rfl ?_
  refine T_iconst (v := (0 : Int32)) (by decide) dX1_planRound_27 ?_
  refine T_istore [(4, .int (0 : Int32)), (3, .int (((mI (mI M1 i0 1 (-6 : Int32)) i0 2 (-6 : Int32)).1 i1 7) - ((mI (mI M1 i0 1 (-6 : Int32)) i0 2 (-6 : Int32)).1 i1 6))), (0, .ref i0), (1, .ref i1), (2, .int x2)] dX1_planRound_28 (by decide) rfl ?_
  refine T_sub [2, 3, 4, 1, 0] (lv' := [(0, .ref i0), (1, .ref i1), (2, .int x2), (3, .int (((mI (mI M1 i0 1 (-6 : Int32)) i0 2 (-6 : Int32)).1 i1 7) - ((mI (mI M1 i0 1 (-6 : Int32)) i0 2 (-6 : Int32)).1 i1 6))), (4, .int (0 : Int32))]) rfl ?_
  exact t_X1_planRound_l30 h0 h1  _ _ _ _ _
theorem C_X1_planRound {X : Scr} {i0 : Nat} {i1 : Nat} (h0 : KD[i0]? = some (.inl 1)) (h1 : KD[i1]? = some (.inl 0)) (x2 : Int32) {M : Mem} {r : Unit} {M' : Mem} (h : X1_planRound i0 i1 x2 M = some (r, M')) : Ct X md_X1_planRound [.ref i0, .ref i1, .int x2] M (eV r) M' := Ct_of (by decide +kernel) (Nat.le_of_ble_eq_true rfl) (t_X1_planRound h0 h1 _ M) r M' h
