-- X11_piles
def X11_piles_b29 (i0 : Nat)   (M : Mem) : Option (Int32 × Mem) :=
  some ((-2 : Int32), M)
def X11_piles_b64 (i0 : Nat)  (s0 : Int32) (M : Mem) : Option (Int32 × Mem) :=
  some (s0, M)
def X11_piles (i0 : Nat)  (x1 : Int32) (x2 : Int32) (x3 : Int32) (M : Mem) : Option (Int32 × Mem) :=
  (X11_isWithin  x1 (0 : Int32) (20 : Int32) M).bind (fun p1 =>
    if p1.1 = 0 then
      X11_piles_b29 i0   p1.2
    else
      (X11_isWithin  x2 (0 : Int32) (20 : Int32) p1.2).bind (fun p2 =>
        if p2.1 = 0 then
          X11_piles_b29 i0   p2.2
        else
          (X11_isWithin  x3 (0 : Int32) (1 : Int32) p2.2).bind (fun p3 =>
            if p3.1 = 0 then
              X11_piles_b29 i0   p3.2
            else
              if x3 = (1 : Int32) then
                (X10_winningTake (rf i0 10) x1 x2 p3.2).bind (fun p4 =>
                  some (p4.1, p4.2))
              else
                (X10_isLost (rf i0 10) x1 x2 p3.2).bind (fun p5 =>
                  if p5.1 = 0 then
                    X11_piles_b64 i0  (1 : Int32) p5.2
                  else
                    X11_piles_b64 i0  (0 : Int32) p5.2))))
set_option maxHeartbeats 4000000 in
set_option maxRecDepth 100000 in
theorem t_X11_piles_b29 {X : Scr} {i0 : Nat} (h0 : KD[i0]? = some (.inl 11))  (M : Mem) : T X eI (X11_piles_b29 i0   M) md_X11_piles 29 [] [] M := by
  unfold X11_piles_b29
  refine T_bipush (v := (-2 : Int32)) (by decide) dX11_piles_29 ?_
  exact T_iret dX11_piles_31 rfl
set_option maxHeartbeats 4000000 in
set_option maxRecDepth 100000 in
theorem t_X11_piles_b64 {X : Scr} {i0 : Nat} (h0 : KD[i0]? = some (.inl 11)) (s0 : Int32) (M : Mem) : T X eI (X11_piles_b64 i0  s0 M) md_X11_piles 64 [] [.int s0] M := by
  unfold X11_piles_b64
  exact T_iret dX11_piles_64 rfl
set_option maxHeartbeats 4000000 in
set_option maxRecDepth 100000 in
theorem t_X11_piles {X : Scr} {i0 : Nat} (h0 : KD[i0]? = some (.inl 11)) (x1 : Int32) (x2 : Int32) (x3 : Int32) (M : Mem) : T X eI (X11_piles i0  x1 x2 x3 M) md_X11_piles 0 [(0, .ref i0), (1, .int x1), (2, .int x2), (3, .int x3)] [] M := by
  unfold X11_piles
  refine T_iload_n 1 dX11_piles_0 rfl rfl ?_
  refine T_iconst (v := (0 : Int32)) (by decide) dX11_piles_1 ?_
  refine T_bipush (v := (20 : Int32)) (by decide) dX11_piles_2 ?_
  refine T_callSI md_X11_isWithin [.int x1, .int (0 : Int32), .int (20 : Int32)] [] dX11_piles_4 rfl ok_X11_isWithin tb_361 tb_362 (by decide) (Nat.le_of_ble_eq_true rfl) (fun _ _ h9 => C_X11_isWithin  _ _ _ h9) (fun r1 M1 => ?_)
  dsimp only
  refine T_if_eq 29 dX11_piles_7 (by decide) ?_ ?_
  ·
    refine T_sub [] (lv' := []) rfl ?_
    exact t_X11_piles_b29 h0   _
  ·
    refine T_iload_n 2 dX11_piles_10 rfl rfl ?_
    refine T_iconst (v := (0 : Int32)) (by decide) dX11_piles_11 ?_
    refine T_bipush (v := (20 : Int32)) (by decide) dX11_piles_12 ?_
    refine T_callSI md_X11_isWithin [.int x2, .int (0 : Int32), .int (20 : Int32)] [] dX11_piles_14 rfl ok_X11_isWithin tb_361 tb_362 (by decide) (Nat.le_of_ble_eq_true rfl) (fun _ _ h9 => C_X11_isWithin  _ _ _ h9) (fun r2 M2 => ?_)
    dsimp only
    refine T_if_eq 29 dX11_piles_17 (by decide) ?_ ?_
    ·
      refine T_sub [] (lv' := []) rfl ?_
      exact t_X11_piles_b29 h0   _
    ·
      refine T_iload_n 3 dX11_piles_20 rfl rfl ?_
      refine T_iconst (v := (0 : Int32)) (by decide) dX11_piles_21 ?_
      refine T_iconst (v := (1 : Int32)) (by decide) dX11_piles_22 ?_
      refine T_callSI md_X11_isWithin [.int x3, .int (0 : Int32), .int (1 : Int32)] [] dX11_piles_23 rfl ok_X11_isWithin tb_361 tb_362 (by decide) (Nat.le_of_ble_eq_true rfl) (fun _ _ h9 => C_X11_isWithin  _ _ _ h9) (fun r3 M3 => ?_)
      dsimp only
      refine T_if_ne 32 dX11_piles_26 (by decide) ?_ ?_
      ·
        refine T_sub [] (lv' := []) rfl ?_
        exact t_X11_piles_b29 h0   _
      ·
        refine T_iload_n 3 dX11_piles_32 rfl rfl ?_
        refine T_iconst (v := (1 : Int32)) (by decide) dX11_piles_33 ?_
        refine T_icmp_ne 47 dX11_piles_34 (by decide) ?_ ?_
        ·
          refine T_aload_n 0 dX11_piles_37 rfl rfl ?_
          refine T_getR 10 FOk_11 h0 (by decide) (by decide) dX11_piles_38 tb_327 ?_
          refine T_iload_n 1 dX11_piles_41 rfl rfl ?_
          refine T_iload_n 2 dX11_piles_42 rfl rfl ?_
          refine T_callVI md_X10_winningTake [.int x1, .int x2] [] dX11_piles_43 (kf_11_10 h0) rfl rfl ok_X10_winningTake tb_631 tb_632 tb_633 (by decide) (Nat.le_of_ble_eq_true rfl) (fun _ _ h9 => C_X10_winningTake (kf_11_10 h0) _ _ h9) (fun r4 M4 => ?_)
          dsimp only
          exact T_iret dX11_piles_46 rfl
        ·
          refine T_aload_n 0 dX11_piles_47 rfl rfl ?_
          refine T_getR 10 FOk_11 h0 (by decide) (by decide) dX11_piles_48 tb_327 ?_
          refine T_iload_n 1 dX11_piles_51 rfl rfl ?_
          refine T_iload_n 2 dX11_piles_52 rfl rfl ?_
          refine T_callVI md_X10_isLost [.int x1, .int x2] [] dX11_piles_53 (kf_11_10 h0) rfl rfl ok_X10_isLost tb_635 tb_636 tb_637 (by decide) (Nat.le_of_ble_eq_true rfl) (fun _ _ h9 => C_X10_isLost (kf_11_10 h0) _ _ h9) (fun r5 M5 => ?_)
          dsimp only
          refine T_if_eq 63 dX11_piles_56 (by decide) ?_ ?_
          ·
            refine T_iconst (v := (1 : Int32)) (by decide) dX11_piles_63 ?_
            refine T_sub [] (lv' := []) rfl ?_
            exact t_X11_piles_b64 h0  _ _
          ·
            refine T_iconst (v := (0 : Int32)) (by decide) dX11_piles_59 ?_
            refine T_goto 64 dX11_piles_60 (by decide) ?_
            refine T_sub [] (lv' := []) rfl ?_
            exact t_X11_piles_b64 h0  _ _
theorem C_X11_piles {X : Scr} {i0 : Nat} (h0 : KD[i0]? = some (.inl 11)) (x1 : Int32) (x2 : Int32) (x3 : Int32) {M : Mem} {r : Int32} {M' : Mem} (h : X11_piles i0 x1 x2 x3 M = some (r, M')) : Ct X md_X11_piles [.ref i0, .int x1, .int x2, .int x3] M (eI r) M' := Ct_of (by decide +kernel) (Nat.le_of_ble_eq_true rfl) (t_X11_piles h0 _ _ _ M) r M' h
-- X11_greatestDivisor
def X11_greatestDivisor_b44   (x4 : Int64) (M : Mem) : Option (Int64 × Mem) :=
  some (x4, M)
def X11_greatestDivisor_b9  (k9 : Int64 → Int64 → Int32 → Mem → Option (Int64 × Mem)) (x4 : Int64) (x6 : Int64) (x8 : Int32) (M : Mem) : Option (Int64 × Mem) :=
  if (100 : Int32) ≤ x8 then
    X11_greatestDivisor_b44   x4 M
  else
    if (lg_cmp x6 (0 : Int64)) = 0 then
      X11_greatestDivisor_b44   x4 M
    else
      gd (!(x6 == 0)) (
        k9 x6 (x4 - x4 / x6 * x6) (x8 + (1 : Int32)) M)
def X11_greatestDivisor_l9   : Nat → Int64 → Int64 → Int32 → Mem → Option (Int64 × Mem)
  | 0 => fun _ _ _ _ => none
  | n + 1 => X11_greatestDivisor_b9  (X11_greatestDivisor_l9   n)
def X11_greatestDivisor   (x0 : Int64) (x2 : Int64) (M : Mem) : Option (Int64 × Mem) :=
  X11_greatestDivisor_l9   FU x0 x2 (0 : Int32) M
set_option maxHeartbeats 4000000 in
set_option maxRecDepth 100000 in
theorem t_X11_greatestDivisor_b44 {X : Scr}   (x4 : Int64) (M : Mem) : T X eL (X11_greatestDivisor_b44   x4 M) md_X11_greatestDivisor 44 [(4, .long x4)] [] M := by
  unfold X11_greatestDivisor_b44
  refine T_lload 0 dX11_greatestDivisor_44 rfl ?_
  exact T_lret dX11_greatestDivisor_46 rfl
set_option maxHeartbeats 4000000 in
set_option maxRecDepth 100000 in
theorem t_X11_greatestDivisor_b9 {X : Scr}   {k9 : Int64 → Int64 → Int32 → Mem → Option (Int64 × Mem)} (hk9 : ∀ (x4 : Int64) (x6 : Int64) (x8 : Int32) (M : Mem), T X eL (k9 x4 x6 x8 M) md_X11_greatestDivisor 9 [(4, .long x4), (6, .long x6), (8, .int x8)] [] M) (x4 : Int64) (x6 : Int64) (x8 : Int32) (M : Mem) : T X eL (X11_greatestDivisor_b9  k9 x4 x6 x8 M) md_X11_greatestDivisor 9 [(4, .long x4), (6, .long x6), (8, .int x8)] [] M := by
  unfold X11_greatestDivisor_b9
  refine T_iload 2 dX11_greatestDivisor_9 rfl ?_
  refine T_bipush (v := (100 : Int32)) (by decide) dX11_greatestDivisor_11 ?_
  refine T_icmp_ge 44 dX11_greatestDivisor_13 (by decide) ?_ ?_
  ·
    refine T_sub [0] (lv' := [(4, .long x4)]) rfl ?_
    exact t_X11_greatestDivisor_b44   _ _
  ·
    refine T_lload 1 dX11_greatestDivisor_16 rfl ?_
    refine T_lconst (v := (0 : Int64)) (by decide) dX11_greatestDivisor_18 ?_
    refine T_lcmp dX11_greatestDivisor_19 ?_
    refine T_if_eq 44 dX11_greatestDivisor_20 (by decide) ?_ ?_
    ·
      refine T_sub [0] (lv' := [(4, .long x4)]) rfl ?_
      exact t_X11_greatestDivisor_b44   _ _
    ·
      refine T_lload 0 dX11_greatestDivisor_23 rfl ?_
      refine T_lload 1 dX11_greatestDivisor_25 rfl ?_
      refine T_lrem dX11_greatestDivisor_27 ?_
      refine T_lstore [(9, .long (x4 - x4 / x6 * x6)), (4, .long x4), (6, .long x6), (8, .int x8)] dX11_greatestDivisor_28 (by decide) rfl ?_
      refine T_lload 2 dX11_greatestDivisor_30 rfl ?_
      refine T_lstore [(4, .long x6), (9, .long (x4 - x4 / x6 * x6)), (6, .long x6), (8, .int x8)] dX11_greatestDivisor_32 (by decide) rfl ?_
      refine T_lload 1 dX11_greatestDivisor_34 rfl ?_
      refine T_lstore [(6, .long (x4 - x4 / x6 * x6)), (4, .long x6), (9, .long (x4 - x4 / x6 * x6)), (8, .int x8)] dX11_greatestDivisor_36 (by decide) rfl ?_
      refine T_iinc 3 [(8, .int (x8 + (1 : Int32))), (6, .long (x4 - x4 / x6 * x6)), (4, .long x6), (9, .long (x4 - x4 / x6 * x6))] (v := (1 : Int32)) dX11_greatestDivisor_38 rfl (by decide) (by decide) rfl ?_
      refine T_goto 9 dX11_greatestDivisor_41 (by decide) ?_
      refine T_sub [2, 1, 0] (lv' := [(4, .long x6), (6, .long (x4 - x4 / x6 * x6)), (8, .int (x8 + (1 : Int32)))]) rfl ?_
      exact hk9 _ _ _ _
theorem t_X11_greatestDivisor_l9 {X : Scr}   (n : Nat) : ∀ (x4 : Int64) (x6 : Int64) (x8 : Int32) (M : Mem), T X eL (X11_greatestDivisor_l9   n x4 x6 x8 M) md_X11_greatestDivisor 9 [(4, .long x4), (6, .long x6), (8, .int x8)] [] M := by
  induction n with
  | zero => intro x4 x6 x8 M; exact T_none
  | succ n ih => intro x4 x6 x8 M; exact t_X11_greatestDivisor_b9  ih x4 x6 x8 M
set_option maxHeartbeats 4000000 in
set_option maxRecDepth 100000 in
theorem t_X11_greatestDivisor {X : Scr}   (x0 : Int64) (x2 : Int64) (M : Mem) : T X eL (X11_greatestDivisor   x0 x2 M) md_X11_greatestDivisor 0 [(0, .long x0), (2, .long x2)] [] M := by
  unfold X11_greatestDivisor
  refine T_lload_n 0 dX11_greatestDivisor_0 rfl rfl ?_
  refine T_lstore [(4, .long x0), (0, .long x0), (2, .long x2)] dX11_greatestDivisor_1 (by decide) rfl ?_
  refine T_lload_n 2 dX11_greatestDivisor_3 rfl rfl ?_
  refine T_lstore [(6, .long x2), (4, .long x0), (0, .long x0), (2, .long x2)] dX11_greatestDivisor_4 (by decide) rfl ?_
  refine T_iconst (v := (0 : Int32)) (by decide) dX11_greatestDivisor_6 ?_
  refine T_istore [(8, .int (0 : Int32)), (6, .long x2), (4, .long x0), (0, .long x0), (2, .long x2)] dX11_greatestDivisor_7 (by decide) rfl ?_
  refine T_sub [2, 1, 0] (lv' := [(4, .long x0), (6, .long x2), (8, .int (0 : Int32))]) rfl ?_
  exact t_X11_greatestDivisor_l9   _ _ _ _ _
theorem C_X11_greatestDivisor {X : Scr}   (x0 : Int64) (x2 : Int64) {M : Mem} {r : Int64} {M' : Mem} (h : X11_greatestDivisor  x0 x2 M = some (r, M')) : Ct X md_X11_greatestDivisor [.long x0, .long x2] M (eL r) M' := Ct_of (by decide +kernel) (Nat.le_of_ble_eq_true rfl) (t_X11_greatestDivisor  _ _ M) r M' h
-- J9_max_f86c9
def J9_max_f86c9_b11   (s0 : Int64) (M : Mem) : Option (Int64 × Mem) :=
  some (s0, M)
def J9_max_f86c9   (x0 : Int64) (x2 : Int64) (M : Mem) : Option (Int64 × Mem) :=
  if (lg_cmp x0 x2) < 0 then
    J9_max_f86c9_b11   x2 M
  else
    J9_max_f86c9_b11   x0 M
set_option maxHeartbeats 4000000 in
set_option maxRecDepth 100000 in
theorem t_J9_max_f86c9_b11 {X : Scr}   (s0 : Int64) (M : Mem) : T X eL (J9_max_f86c9_b11   s0 M) md_J9_max_f86c9 11 [] [.long s0] M := by
  unfold J9_max_f86c9_b11
  exact T_lret dJ9_max_f86c9_11 rfl
set_option maxHeartbeats 4000000 in
set_option maxRecDepth 100000 in
theorem t_J9_max_f86c9 {X : Scr}   (x0 : Int64) (x2 : Int64) (M : Mem) : T X eL (J9_max_f86c9   x0 x2 M) md_J9_max_f86c9 0 [(0, .long x0), (2, .long x2)] [] M := by
  unfold J9_max_f86c9
  refine T_lload_n 0 dJ9_max_f86c9_0 rfl rfl ?_
  refine T_lload_n 1 dJ9_max_f86c9_1 rfl rfl ?_
  refine T_lcmp dJ9_max_f86c9_2 ?_
  refine T_if_lt 10 dJ9_max_f86c9_3 (by decide) ?_ ?_
  ·
    refine T_lload_n 1 dJ9_max_f86c9_10 rfl rfl ?_
    refine T_sub [] (lv' := []) rfl ?_
    exact t_J9_max_f86c9_b11   _ _
  ·
    refine T_lload_n 0 dJ9_max_f86c9_6 rfl rfl ?_
    refine T_goto 11 dJ9_max_f86c9_7 (by decide) ?_
    refine T_sub [] (lv' := []) rfl ?_
    exact t_J9_max_f86c9_b11   _ _
theorem C_J9_max_f86c9 {X : Scr}   (x0 : Int64) (x2 : Int64) {M : Mem} {r : Int64} {M' : Mem} (h : J9_max_f86c9  x0 x2 M = some (r, M')) : Ct X md_J9_max_f86c9 [.long x0, .long x2] M (eL r) M' := Ct_of (by decide +kernel) (Nat.le_of_ble_eq_true rfl) (t_J9_max_f86c9  _ _ M) r M' h
-- X11_lengths
def X11_lengths_b50 (i0 : Nat)   (M : Mem) : Option (Int64 × Mem) :=
  some ((-1000000000000000002 : Int64), M)
def X11_lengths_b124 (i0 : Nat)  (x8 : Int64) (s0 : Int64) (M : Mem) : Option (Int64 × Mem) :=
  gd (!(x8 == 0)) (
    some ((s0 / x8), M))
def X11_lengths_b87 (i0 : Nat)  (x5 : Int32) (s0 : Int64) (M : Mem) : Option (Int64 × Mem) :=
  (X11_greatestDivisor  s0 (M.2 (rf i0 11) 1) M).bind (fun p1 =>
    (J9_max_f86c9  (1 : Int64) p1.1 p1.2).bind (fun p2 =>
      if x5 = 0 then
        X11_lengths_b124 i0  p2.1 s0 p2.2
      else
        X11_lengths_b124 i0  p2.1 (p2.2.2 (rf i0 11) 1) p2.2))
def X11_lengths (i0 : Nat)  (x1 : Int32) (x2 : Int32) (x3 : Int32) (x4 : Int32) (x5 : Int32) (M : Mem) : Option (Int64 × Mem) :=
  (X11_isWithin  x1 (0 : Int32) (12 : Int32) M).bind (fun p1 =>
    if p1.1 = 0 then
      X11_lengths_b50 i0   p1.2
    else
      (X11_isWithin  x2 (0 : Int32) (12 : Int32) p1.2).bind (fun p2 =>
        if p2.1 = 0 then
          X11_lengths_b50 i0   p2.2
        else
          (X11_isWithin  x3 (0 : Int32) (10 : Int32) p2.2).bind (fun p3 =>
            if p3.1 = 0 then
              X11_lengths_b50 i0   p3.2
            else
              (X11_isWithin  x4 (0 : Int32) (1 : Int32) p3.2).bind (fun p4 =>
                if p4.1 = 0 then
                  X11_lengths_b50 i0   p4.2
                else
                  (X11_isWithin  x5 (0 : Int32) (1 : Int32) p4.2).bind (fun p5 =>
                    if p5.1 = 0 then
                      X11_lengths_b50 i0   p5.2
                    else
                      (X9_spread (rf i0 11) x2 x3 p5.2).bind (fun p6 =>
                        if x4 = 0 then
                          (X9_waysToReach (rf i0 11) x1 p6.2).bind (fun p7 =>
                            X11_lengths_b87 i0  x5 p7.1 p7.2)
                        else
                          (X9_lengthsUpTo (rf i0 11) x1 p6.2).bind (fun p8 =>
                            X11_lengths_b87 i0  x5 p8.1 p8.2)))))))
set_option maxHeartbeats 4000000 in
set_option maxRecDepth 100000 in
theorem t_X11_lengths_b50 {X : Scr} {i0 : Nat} (h0 : KD[i0]? = some (.inl 11))  (M : Mem) : T X eL (X11_lengths_b50 i0   M) md_X11_lengths 50 [] [] M := by
  unfold X11_lengths_b50
  refine T_ldc2 (v := (-1000000000000000002 : Int64)) dX11_lengths_50 tb_643 ?_
  exact T_lret dX11_lengths_53 rfl
set_option maxHeartbeats 4000000 in
set_option maxRecDepth 100000 in
theorem t_X11_lengths_b124 {X : Scr} {i0 : Nat} (h0 : KD[i0]? = some (.inl 11)) (x8 : Int64) (s0 : Int64) (M : Mem) : T X eL (X11_lengths_b124 i0  x8 s0 M) md_X11_lengths 124 [(8, .long x8)] [.long s0] M := by
  unfold X11_lengths_b124
  refine T_lload 0 dX11_lengths_124 rfl ?_
  refine T_ldiv dX11_lengths_126 ?_
  exact T_lret dX11_lengths_127 rfl
set_option maxHeartbeats 4000000 in
set_option maxRecDepth 100000 in
theorem t_X11_lengths_b87 {X : Scr} {i0 : Nat} (h0 : KD[i0]? = some (.inl 11)) (x5 : Int32) (s0 : Int64) (M : Mem) : T X eL (X11_lengths_b87 i0  x5 s0 M) md_X11_lengths 87 [(0, .ref i0), (5, .int x5)] [.long s0] M := by
  unfold X11_lengths_b87
  refine T_lstore [(6, .long s0), (0, .ref i0), (5, .int x5)] dX11_lengths_87 (by decide) rfl ?_
  refine T_lconst (v := (1 : Int64)) (by decide) dX11_lengths_89 ?_
  refine T_lload 0 dX11_lengths_90 rfl ?_
  refine T_aload_n 1 dX11_lengths_92 rfl rfl ?_
  refine T_getR 11 FOk_11 h0 (by decide) (by decide) dX11_lengths_93 tb_328 ?_
  refine T_getL 1 FOk_9 (kf_11_11 h0) (by decide) (by decide) dX11_lengths_96 tb_310 ?_
  refine T_callSL md_X11_greatestDivisor [.long s0, .long (M.2 (rf i0 11) 1)] [.long (1 : Int64)] dX11_lengths_99 rfl ok_X11_greatestDivisor tb_658 tb_659 (by decide) (Nat.le_of_ble_eq_true rfl) (fun _ _ h9 => C_X11_greatestDivisor  _ _ h9) (fun r1 M1 => ?_)
  dsimp only
  refine T_callSL md_J9_max_f86c9 [.long (1 : Int64), .long r1] [] dX11_lengths_102 rfl ok_J9_max_f86c9 tb_661 tb_662 (by decide) (Nat.le_of_ble_eq_true rfl) (fun _ _ h9 => C_J9_max_f86c9  _ _ h9) (fun r2 M2 => ?_)
  dsimp only
  refine T_lstore [(8, .long r2), (6, .long s0), (0, .ref i0), (5, .int x5)] dX11_lengths_105 (by decide) rfl ?_
  refine T_iload 3 dX11_lengths_107 rfl ?_
  refine T_if_ne 117 dX11_lengths_109 (by decide) ?_ ?_
  ·
    refine T_lload 1 dX11_lengths_112 rfl ?_
    refine T_goto 124 dX11_lengths_114 (by decide) ?_
    refine T_sub [0] (lv' := [(8, .long r2)]) rfl ?_
    exact t_X11_lengths_b124 h0  _ _ _
  ·
    refine T_aload_n 2 dX11_lengths_117 rfl rfl ?_
    refine T_getR 11 FOk_11 h0 (by decide) (by decide) dX11_lengths_118 tb_328 ?_
    refine T_getL 1 FOk_9 (kf_11_11 h0) (by decide) (by decide) dX11_lengths_121 tb_310 ?_
    refine T_sub [0] (lv' := [(8, .long r2)]) rfl ?_
    exact t_X11_lengths_b124 h0  _ _ _
set_option maxHeartbeats 4000000 in
set_option maxRecDepth 100000 in
theorem t_X11_lengths {X : Scr} {i0 : Nat} (h0 : KD[i0]? = some (.inl 11)) (x1 : Int32) (x2 : Int32) (x3 : Int32) (x4 : Int32) (x5 : Int32) (M : Mem) : T X eL (X11_lengths i0  x1 x2 x3 x4 x5 M) md_X11_lengths 0 [(0, .ref i0), (1, .int x1), (2, .int x2), (3, .int x3), (4, .int x4), (5, .int x5)] [] M := by
  unfold X11_lengths
  refine T_iload_n 1 dX11_lengths_0 rfl rfl ?_
  refine T_iconst (v := (0 : Int32)) (by decide) dX11_lengths_1 ?_
  refine T_bipush (v := (12 : Int32)) (by decide) dX11_lengths_2 ?_
  refine T_callSI md_X11_isWithin [.int x1, .int (0 : Int32), .int (12 : Int32)] [] dX11_lengths_4 rfl ok_X11_isWithin tb_361 tb_362 (by decide) (Nat.le_of_ble_eq_true rfl) (fun _ _ h9 => C_X11_isWithin  _ _ _ h9) (fun r1 M1 => ?_)
  dsimp only
  refine T_if_eq 50 dX11_lengths_7 (by decide) ?_ ?_
  ·
    refine T_sub [] (lv' := []) rfl ?_
    exact t_X11_lengths_b50 h0   _
  ·
    refine T_iload_n 2 dX11_lengths_10 rfl rfl ?_
    refine T_iconst (v := (0 : Int32)) (by decide) dX11_lengths_11 ?_
    refine T_bipush (v := (12 : Int32)) (by decide) dX11_lengths_12 ?_
    refine T_callSI md_X11_isWithin [.int x2, .int (0 : Int32), .int (12 : Int32)] [] dX11_lengths_14 rfl ok_X11_isWithin tb_361 tb_362 (by decide) (Nat.le_of_ble_eq_true rfl) (fun _ _ h9 => C_X11_isWithin  _ _ _ h9) (fun r2 M2 => ?_)
    dsimp only
    refine T_if_eq 50 dX11_lengths_17 (by decide) ?_ ?_
    ·
      refine T_sub [] (lv' := []) rfl ?_
      exact t_X11_lengths_b50 h0   _
    ·
      refine T_iload_n 3 dX11_lengths_20 rfl rfl ?_
      refine T_iconst (v := (0 : Int32)) (by decide) dX11_lengths_21 ?_
      refine T_bipush (v := (10 : Int32)) (by decide) dX11_lengths_22 ?_
      refine T_callSI md_X11_isWithin [.int x3, .int (0 : Int32), .int (10 : Int32)] [] dX11_lengths_24 rfl ok_X11_isWithin tb_361 tb_362 (by decide) (Nat.le_of_ble_eq_true rfl) (fun _ _ h9 => C_X11_isWithin  _ _ _ h9) (fun r3 M3 => ?_)
      dsimp only
      refine T_if_eq 50 dX11_lengths_27 (by decide) ?_ ?_
      ·
        refine T_sub [] (lv' := []) rfl ?_
        exact t_X11_lengths_b50 h0   _
      ·
        refine T_iload 4 dX11_lengths_30 rfl ?_
        refine T_iconst (v := (0 : Int32)) (by decide) dX11_lengths_32 ?_
        refine T_iconst (v := (1 : Int32)) (by decide) dX11_lengths_33 ?_
        refine T_callSI md_X11_isWithin [.int x4, .int (0 : Int32), .int (1 : Int32)] [] dX11_lengths_34 rfl ok_X11_isWithin tb_361 tb_362 (by decide) (Nat.le_of_ble_eq_true rfl) (fun _ _ h9 => C_X11_isWithin  _ _ _ h9) (fun r4 M4 => ?_)
        dsimp only
        refine T_if_eq 50 dX11_lengths_37 (by decide) ?_ ?_
        ·
          refine T_sub [] (lv' := []) rfl ?_
          exact t_X11_lengths_b50 h0   _
        ·
          refine T_iload 5 dX11_lengths_40 rfl ?_
          refine T_iconst (v := (0 : Int32)) (by decide) dX11_lengths_42 ?_
          refine T_iconst (v := (1 : Int32)) (by decide) dX11_lengths_43 ?_
          refine T_callSI md_X11_isWithin [.int x5, .int (0 : Int32), .int (1 : Int32)] [] dX11_lengths_44 rfl ok_X11_isWithin tb_361 tb_362 (by decide) (Nat.le_of_ble_eq_true rfl) (fun _ _ h9 => C_X11_isWithin  _ _ _ h9) (fun r5 M5 => ?_)
          dsimp only
          refine T_if_ne 54 dX11_lengths_47 (by decide) ?_ ?_
          ·
            refine T_sub [] (lv' := []) rfl ?_
            exact t_X11_lengths_b50 h0   _
          ·
            refine T_aload_n 0 dX11_lengths_54 rfl rfl ?_
            refine T_getR 11 FOk_11 h0 (by decide) (by decide) dX11_lengths_55 tb_328 ?_
            refine T_iload_n 2 dX11_lengths_58 rfl rfl ?_
            refine T_iload_n 3 dX11_lengths_59 rfl rfl ?_
            refine T_callVU md_X9_spread [.int x2, .int x3] [] dX11_lengths_60 (kf_11_11 h0) rfl rfl ok_X9_spread tb_644 tb_645 tb_646 (by decide) (Nat.le_of_ble_eq_true rfl) (fun _ _ h9 => C_X9_spread (kf_11_11 h0) _ _ h9) (fun r6 M6 => ?_)
            dsimp only
            refine T_iload 4 dX11_lengths_63 rfl ?_
            refine T_if_ne 79 dX11_lengths_65 (by decide) ?_ ?_
            ·
              refine T_aload_n 0 dX11_lengths_68 rfl rfl ?_
              refine T_getR 11 FOk_11 h0 (by decide) (by decide) dX11_lengths_69 tb_328 ?_
              refine T_iload_n 1 dX11_lengths_72 rfl rfl ?_
              refine T_callVL md_X9_waysToReach [.int x1] [] dX11_lengths_73 (kf_11_11 h0) rfl rfl ok_X9_waysToReach tb_649 tb_650 tb_651 (by decide) (Nat.le_of_ble_eq_true rfl) (fun _ _ h9 => C_X9_waysToReach (kf_11_11 h0) _ h9) (fun r7 M7 => ?_)
              dsimp only
              refine T_goto 87 dX11_lengths_76 (by decide) ?_
              refine T_sub [0, 5] (lv' := [(0, .ref i0), (5, .int x5)]) rfl ?_
              exact t_X11_lengths_b87 h0  _ _ _
            ·
              refine T_aload_n 0 dX11_lengths_79 rfl rfl ?_
              refine T_getR 11 FOk_11 h0 (by decide) (by decide) dX11_lengths_80 tb_328 ?_
              refine T_iload_n 1 dX11_lengths_83 rfl rfl ?_
              refine T_callVL md_X9_lengthsUpTo [.int x1] [] dX11_lengths_84 (kf_11_11 h0) rfl rfl ok_X9_lengthsUpTo tb_653 tb_654 tb_655 (by decide) (Nat.le_of_ble_eq_true rfl) (fun _ _ h9 => C_X9_lengthsUpTo (kf_11_11 h0) _ h9) (fun r8 M8 => ?_)
              dsimp only
              refine T_sub [0, 5] (lv' := [(0, .ref i0), (5, .int x5)]) rfl ?_
              exact t_X11_lengths_b87 h0  _ _ _
theorem C_X11_lengths {X : Scr} {i0 : Nat} (h0 : KD[i0]? = some (.inl 11)) (x1 : Int32) (x2 : Int32) (x3 : Int32) (x4 : Int32) (x5 : Int32) {M : Mem} {r : Int64} {M' : Mem} (h : X11_lengths i0 x1 x2 x3 x4 x5 M = some (r, M')) : Ct X md_X11_lengths [.ref i0, .int x1, .int x2, .int x3, .int x4, .int x5] M (eL r) M' := Ct_of (by decide +kernel) (Nat.le_of_ble_eq_true rfl) (t_X11_lengths h0 _ _ _ _ _ M) r M' h
-- X11_year
def X11_year_b30 (i0 : Nat)   (M : Mem) : Option (Int32 × Mem) :=
  some ((-2 : Int32), M)
def X11_year_b92 (i0 : Nat)  (s0 : Int32) (M : Mem) : Option (Int32 × Mem) :=
  some (s0, M)
def X11_year (i0 : Nat)  (x1 : Int32) (x2 : Int32) (x3 : Int32) (M : Mem) : Option (Int32 × Mem) :=
  (X11_isWithin  x1 (0 : Int32) (9999 : Int32) M).bind (fun p1 =>
    if p1.1 = 0 then
      X11_year_b30 i0   p1.2
    else
      (X11_isWithin  x2 (1 : Int32) (99 : Int32) p1.2).bind (fun p2 =>
        if p2.1 = 0 then
          X11_year_b30 i0   p2.2
        else
          (X11_isWithin  x3 (0 : Int32) (2 : Int32) p2.2).bind (fun p3 =>
            if p3.1 = 0 then
              X11_year_b30 i0   p3.2
            else
              (X2_draw (rf i0 5) (rf i0 0) x1 x2 p3.2).bind (fun p4 =>
                if x3 = 0 then
                  some ((p4.2.1 (rf (rf i0 5) 0) 6), p4.2)
                else
                  if x3 = (1 : Int32) then
                    (J6_bitCount_0f7a4  (p4.2.1 (rf (rf i0 5) 0) 5) p4.2).bind (fun p5 =>
                      X11_year_b92 i0  p5.1 p5.2)
                  else
                    (X0_strangers (rf (rf i0 5) 0)  p4.2).bind (fun p6 =>
                      X11_year_b92 i0  p6.1 p6.2)))))
set_option maxHeartbeats 4000000 in
set_option maxRecDepth 100000 in
theorem t_X11_year_b30 {X : Scr} {i0 : Nat} (h0 : KD[i0]? = some (.inl 11))  (M : Mem) : T X eI (X11_year_b30 i0   M) md_X11_year 30 [] [] M := by
  unfold X11_year_b30
  refine T_bipush (v := (-2 : Int32)) (by decide) dX11_year_30 ?_
  exact T_iret dX11_year_32 rfl
set_option maxHeartbeats 4000000 in
set_option maxRecDepth 100000 in
theorem t_X11_year_b92 {X : Scr} {i0 : Nat} (h0 : KD[i0]? = some (.inl 11)) (s0 : Int32) (M : Mem) : T X eI (X11_year_b92 i0  s0 M) md_X11_year 92 [] [.int s0] M := by
  unfold X11_year_b92
  exact T_iret dX11_year_92 rfl
set_option maxHeartbeats 4000000 in
set_option maxRecDepth 100000 in
theorem t_X11_year {X : Scr} {i0 : Nat} (h0 : KD[i0]? = some (.inl 11)) (x1 : Int32) (x2 : Int32) (x3 : Int32) (M : Mem) : T X eI (X11_year i0  x1 x2 x3 M) md_X11_year 0 [(0, .ref i0), (1, .int x1), (2, .int x2), (3, .int x3)] [] M := by
  unfold X11_year
  refine T_iload_n 1 dX11_year_0 rfl rfl ?_
  refine T_iconst (v := (0 : Int32)) (by decide) dX11_year_1 ?_
  refine T_sipush (v := (9999 : Int32)) (by decide) dX11_year_2 ?_
  refine T_callSI md_X11_isWithin [.int x1, .int (0 : Int32), .int (9999 : Int32)] [] dX11_year_5 rfl ok_X11_isWithin tb_361 tb_362 (by decide) (Nat.le_of_ble_eq_true rfl) (fun _ _ h9 => C_X11_isWithin  _ _ _ h9) (fun r1 M1 => ?_)
  dsimp only
  refine T_if_eq 30 dX11_year_8 (by decide) ?_ ?_
  ·
    refine T_sub [] (lv' := []) rfl ?_
    exact t_X11_year_b30 h0   _
  ·
    refine T_iload_n 2 dX11_year_11 rfl rfl ?_
    refine T_iconst (v := (1 : Int32)) (by decide) dX11_year_12 ?_
    refine T_bipush (v := (99 : Int32)) (by decide) dX11_year_13 ?_
    refine T_callSI md_X11_isWithin [.int x2, .int (1 : Int32), .int (99 : Int32)] [] dX11_year_15 rfl ok_X11_isWithin tb_361 tb_362 (by decide) (Nat.le_of_ble_eq_true rfl) (fun _ _ h9 => C_X11_isWithin  _ _ _ h9) (fun r2 M2 => ?_)
    dsimp only
    refine T_if_eq 30 dX11_year_18 (by decide) ?_ ?_
    ·
      refine T_sub [] (lv' := []) rfl ?_
      exact t_X11_year_b30 h0   _
    ·
      refine T_iload_n 3 dX11_year_21 rfl rfl ?_
      refine T_iconst (v := (0 : Int32)) (by decide) dX11_year_22 ?_
      refine T_iconst (v := (2 : Int32)) (by decide) dX11_year_23 ?_
      refine T_callSI md_X11_isWithin [.int x3, .int (0 : Int32), .int (2 : Int32)] [] dX11_year_24 rfl ok_X11_isWithin tb_361 tb_362 (by decide) (Nat.le_of_ble_eq_true rfl) (fun _ _ h9 => C_X11_isWithin  _ _ _ h9) (fun r3 M3 => ?_)
      dsimp only
      refine T_if_ne 33 dX11_year_27 (by decide) ?_ ?_
      ·
        refine T_sub [] (lv' := []) rfl ?_
        exact t_X11_year_b30 h0   _
      ·
        refine T_aload_n 0 dX11_year_33 rfl rfl ?_
        refine T_getR 5 FOk_11 h0 (by decide) (by decide) dX11_year_34 tb_322 ?_
        refine T_aload_n 0 dX11_year_37 rfl rfl ?_
        refine T_getR 0 FOk_11 h0 (by decide) (by decide) dX11_year_38 tb_317 ?_
        refine T_iload_n 1 dX11_year_41 rfl rfl ?_
        refine T_iload_n 2 dX11_year_42 rfl rfl ?_
        refine T_callVU md_X2_draw [.ref (rf i0 0), .int x1, .int x2] [] dX11_year_43 (kf_11_5 h0) rfl rfl ok_X2_draw tb_668 tb_669 tb_670 (by decide) (Nat.le_of_ble_eq_true rfl) (fun _ _ h9 => C_X2_draw (kf_11_5 h0) (kf_11_0 h0) _ _ h9) (fun r4 M4 => ?_)
        dsimp only
        refine T_iload_n 3 dX11_year_46 rfl rfl ?_
        refine T_if_ne 61 dX11_year_47 (by decide) ?_ ?_
        ·
          refine T_aload_n 0 dX11_year_50 rfl rfl ?_
          refine T_getR 5 FOk_11 h0 (by decide) (by decide) dX11_year_51 tb_322 ?_
          refine T_getR 0 FOk_2 (kf_11_5 h0) (by decide) (by decide) dX11_year_54 tb_184 ?_
          refine T_getI 6 FOk_0 (kf_2_0 (kf_11_5 h0)) (by decide) (by decide) dX11_year_57 tb_96 ?_
          exact T_iret dX11_year_60 rfl
        ·
          refine T_iload_n 3 dX11_year_61 rfl rfl ?_
          refine T_iconst (v := (1 : Int32)) (by decide) dX11_year_62 ?_
          refine T_icmp_ne 82 dX11_year_63 (by decide) ?_ ?_
          ·
            refine T_aload_n 0 dX11_year_66 rfl rfl ?_
            refine T_getR 5 FOk_11 h0 (by decide) (by decide) dX11_year_67 tb_322 ?_
            refine T_getR 0 FOk_2 (kf_11_5 h0) (by decide) (by decide) dX11_year_70 tb_184 ?_
            refine T_getI 5 FOk_0 (kf_2_0 (kf_11_5 h0)) (by decide) (by decide) dX11_year_73 tb_93 ?_
            refine T_callSI md_J6_bitCount_0f7a4 [.int (M4.1 (rf (rf i0 5) 0) 5)] [] dX11_year_76 rfl ok_J6_bitCount_0f7a4 tb_675 tb_525 (by decide) (Nat.le_of_ble_eq_true rfl) (fun _ _ h9 => C_J6_bitCount_0f7a4  _ h9) (fun r5 M5 => ?_)
            dsimp only
            refine T_goto 92 dX11_year_79 (by decide) ?_
            refine T_sub [] (lv' := []) rfl ?_
            exact t_X11_year_b92 h0  _ _
          ·
            refine T_aload_n 0 dX11_year_82 rfl rfl ?_
            refine T_getR 5 FOk_11 h0 (by decide) (by decide) dX11_year_83 tb_322 ?_
            refine T_getR 0 FOk_2 (kf_11_5 h0) (by decide) (by decide) dX11_year_86 tb_184 ?_
            refine T_callVI md_X0_strangers [] [] dX11_year_89 (kf_2_0 (kf_11_5 h0)) rfl rfl ok_X0_strangers tb_371 tb_372 tb_373 (by decide) (Nat.le_of_ble_eq_true rfl) (fun _ _ h9 => C_X0_strangers (kf_2_0 (kf_11_5 h0))  h9) (fun r6 M6 => ?_)
            dsimp only
            refine T_sub [] (lv' := []) rfl ?_
            exact t_X11_year_b92 h0  _ _
theorem C_X11_year {X : Scr} {i0 : Nat} (h0 : KD[i0]? = some (.inl 11)) (x1 : Int32) (x2 : Int32) (x3 : Int32) {M : Mem} {r : Int32} {M' : Mem} (h : X11_year i0 x1 x2 x3 M = some (r, M')) : Ct X md_X11_year [.ref i0, .int x1, .int x2, .int x3] M (eI r) M' := Ct_of (by decide +kernel) (Nat.le_of_ble_eq_true rfl) (t_X11_year h0 _ _ _ M) r M' h
-- X11_imageOf
def X11_imageOf_b15 (i0 : Nat)  (s0 : Nat) (M : Mem) : Option (Nat × Mem) :=
  some (s0, M)
def X11_imageOf (i0 : Nat)  (x1 : Int32) (M : Mem) : Option (Nat × Mem) :=
  if x1 = 0 then
    X11_imageOf_b15 i0  (rf i0 3) M
  else
    X11_imageOf_b15 i0  (rf i0 4) M
set_option maxHeartbeats 4000000 in
set_option maxRecDepth 100000 in
theorem t_X11_imageOf_b15 {X : Scr} {i0 : Nat} (h0 : KD[i0]? = some (.inl 11)) (s0 : Nat) (M : Mem) : T X eR (X11_imageOf_b15 i0  s0 M) md_X11_imageOf 15 [] [.ref s0] M := by
  unfold X11_imageOf_b15
  exact T_aret dX11_imageOf_15 rfl
set_option maxHeartbeats 4000000 in
set_option maxRecDepth 100000 in
theorem t_X11_imageOf {X : Scr} {i0 : Nat} (h0 : KD[i0]? = some (.inl 11)) (x1 : Int32) (M : Mem) : T X eR (X11_imageOf i0  x1 M) md_X11_imageOf 0 [(0, .ref i0), (1, .int x1)] [] M := by
  unfold X11_imageOf
  refine T_iload_n 1 dX11_imageOf_0 rfl rfl ?_
  refine T_if_ne 11 dX11_imageOf_1 (by decide) ?_ ?_
  ·
    refine T_aload_n 0 dX11_imageOf_4 rfl rfl ?_
    refine T_getR 3 FOk_11 h0 (by decide) (by decide) dX11_imageOf_5 tb_320 ?_
    refine T_goto 15 dX11_imageOf_8 (by decide) ?_
    refine T_sub [] (lv' := []) rfl ?_
    exact t_X11_imageOf_b15 h0  _ _
  ·
    refine T_aload_n 0 dX11_imageOf_11 rfl rfl ?_
    refine T_getR 4 FOk_11 h0 (by decide) (by decide) dX11_imageOf_12 tb_321 ?_
    refine T_sub [] (lv' := []) rfl ?_
    exact t_X11_imageOf_b15 h0  _ _
theorem C_X11_imageOf {X : Scr} {i0 : Nat} (h0 : KD[i0]? = some (.inl 11)) (x1 : Int32) {M : Mem} {r : Nat} {M' : Mem} (h : X11_imageOf i0 x1 M = some (r, M')) : Ct X md_X11_imageOf [.ref i0, .int x1] M (eR r) M' := Ct_of (by decide +kernel) (Nat.le_of_ble_eq_true rfl) (t_X11_imageOf h0 _ M) r M' h
-- X11_image
def X11_image (i0 : Nat)  (x1 : Int32) (M : Mem) : Option (Int32 × Mem) :=
  (X11_isWithin  x1 (0 : Int32) (1 : Int32) M).bind (fun p1 =>
    if p1.1 = 0 then
      some ((-2 : Int32), p1.2)
    else
      (X11_imageOf i0 x1 p1.2).bind (fun p2 =>
        gd (decide (KD[p2.1]? = some (.inl 4))) (
          (X0_takeOver (rf p2.1 0) (rf i0 0)  p2.2).bind (fun p3 =>
            (X7_takeOver (rf p2.1 1) (rf i0 1)  p3.2).bind (fun p4 =>
              some ((1 : Int32), (mI p4.2 p2.1 2 (1 : Int32))))))))
set_option maxHeartbeats 4000000 in
set_option maxRecDepth 100000 in
theorem t_X11_image {X : Scr} {i0 : Nat} (h0 : KD[i0]? = some (.inl 11)) (x1 : Int32) (M : Mem) : T X eI (X11_image i0  x1 M) md_X11_image 0 [(0, .ref i0), (1, .int x1)] [] M := by
  unfold X11_image
  refine T_iload_n 1 dX11_image_0 rfl rfl ?_
  refine T_iconst (v := (0 : Int32)) (by decide) dX11_image_1 ?_
  refine T_iconst (v := (1 : Int32)) (by decide) dX11_image_2 ?_
  refine T_callSI md_X11_isWithin [.int x1, .int (0 : Int32), .int (1 : Int32)] [] dX11_image_3 rfl ok_X11_isWithin tb_361 tb_362 (by decide) (Nat.le_of_ble_eq_true rfl) (fun _ _ h9 => C_X11_isWithin  _ _ _ h9) (fun r1 M1 => ?_)
  dsimp only
  refine T_if_ne 12 dX11_image_6 (by decide) ?_ ?_
  ·
    refine T_bipush (v := (-2 : Int32)) (by decide) dX11_image_9 ?_
    exact T_iret dX11_image_11 rfl
  ·
    refine T_aload_n 0 dX11_image_12 rfl rfl ?_
    refine T_iload_n 1 dX11_image_13 rfl rfl ?_
    refine T_callVR md_X11_imageOf [.int x1] [] dX11_image_14 h0 rfl rfl ok_X11_imageOf tb_680 tb_682 tb_11 (by decide) (Nat.le_of_ble_eq_true rfl) (fun _ _ h9 => C_X11_imageOf h0 _ h9) (fun r2 M2 => ?_)
    dsimp only
    refine T_gd (fun hr2 => ?_)
    have hr2 := of_decide_eq_true hr2
    refine T_astore_n [(2, .ref r2), (0, .ref i0), (1, .int x1)] dX11_image_17 rfl (by decide) rfl ?_
    refine T_aload_n 0 dX11_image_18 rfl rfl ?_
    refine T_getR 0 FOk_4 hr2 (by decide) (by decide) dX11_image_19 tb_164 ?_
    refine T_aload_n 1 dX11_image_22 rfl rfl ?_
    refine T_getR 0 FOk_11 h0 (by decide) (by decide) dX11_image_23 tb_317 ?_
    refine T_callVU md_X0_takeOver [.ref (rf i0 0)] [] dX11_image_26 (kf_4_0 hr2) rfl rfl ok_X0_takeOver tb_511 tb_436 tb_437 (by decide) (Nat.le_of_ble_eq_true rfl) (fun _ _ h9 => C_X0_takeOver (kf_4_0 hr2) (kf_11_0 h0)  h9) (fun r3 M3 => ?_)
    dsimp only
    refine T_aload_n 0 dX11_image_29 rfl rfl ?_
    refine T_getR 1 FOk_4 hr2 (by decide) (by decide) dX11_image_30 tb_166 ?_
    refine T_aload_n 1 dX11_image_33 rfl rfl ?_
    refine T_getR 1 FOk_11 h0 (by decide) (by decide) dX11_image_34 tb_318 ?_
    refine T_callVU md_X7_takeOver [.ref (rf i0 1)] [] dX11_image_37 (kf_4_1 hr2) rfl rfl ok_X7_takeOver tb_684 tb_685 tb_686 (by decide) (Nat.le_of_ble_eq_true rfl) (fun _ _ h9 => C_X7_takeOver (kf_4_1 hr2) (kf_11_1 h0)  h9) (fun r4 M4 => ?_)
    dsimp only
    refine T_aload_n 0 dX11_image_40 rfl rfl ?_
    refine T_iconst (v := (1 : Int32)) (by decide) dX11_image_41 ?_
    refine T_putI (ty := .boolean) 2 FOk_4 hr2 (by decide) (by decide) rfl (by decide +kernel) rfl rfl dX11_image_42 tb_167 ?_
    refine T_iconst (v := (1 : Int32)) (by decide) dX11_image_45 ?_
    exact T_iret dX11_image_46 rfl
theorem C_X11_image {X : Scr} {i0 : Nat} (h0 : KD[i0]? = some (.inl 11)) (x1 : Int32) {M : Mem} {r : Int32} {M' : Mem} (h : X11_image i0 x1 M = some (r, M')) : Ct X md_X11_image [.ref i0, .int x1] M (eI r) M' := Ct_of (by decide +kernel) (Nat.le_of_ble_eq_true rfl) (t_X11_image h0 _ M) r M' h
-- X11_restore
def X11_restore (i0 : Nat)  (x1 : Int32) (M : Mem) : Option (Int32 × Mem) :=
  (X11_isWithin  x1 (0 : Int32) (1 : Int32) M).bind (fun p1 =>
    if p1.1 = 0 then
      some ((-2 : Int32), p1.2)
    else
      (X11_imageOf i0 x1 p1.2).bind (fun p2 =>
        gd (decide (KD[p2.1]? = some (.inl 4))) (
          if (p2.2.1 p2.1 2) = 0 then
            some ((-3 : Int32), p2.2)
          else
            (X0_takeOver (rf i0 0) (rf p2.1 0)  p2.2).bind (fun p3 =>
              (X7_takeOver (rf i0 1) (rf p2.1 1)  p3.2).bind (fun p4 =>
                some ((1 : Int32), p4.2))))))
set_option maxHeartbeats 4000000 in
set_option maxRecDepth 100000 in
theorem t_X11_restore {X : Scr} {i0 : Nat} (h0 : KD[i0]? = some (.inl 11)) (x1 : Int32) (M : Mem) : T X eI (X11_restore i0  x1 M) md_X11_restore 0 [(0, .ref i0), (1, .int x1)] [] M := by
  unfold X11_restore
  refine T_iload_n 1 dX11_restore_0 rfl rfl ?_
  refine T_iconst (v := (0 : Int32)) (by decide) dX11_restore_1 ?_
  refine T_iconst (v := (1 : Int32)) (by decide) dX11_restore_2 ?_
  refine T_callSI md_X11_isWithin [.int x1, .int (0 : Int32), .int (1 : Int32)] [] dX11_restore_3 rfl ok_X11_isWithin tb_361 tb_362 (by decide) (Nat.le_of_ble_eq_true rfl) (fun _ _ h9 => C_X11_isWithin  _ _ _ h9) (fun r1 M1 => ?_)
  dsimp only
  refine T_if_ne 12 dX11_restore_6 (by decide) ?_ ?_
  ·
    refine T_bipush (v := (-2 : Int32)) (by decide) dX11_restore_9 ?_
    exact T_iret dX11_restore_11 rfl
  ·
    refine T_aload_n 0 dX11_restore_12 rfl rfl ?_
    refine T_iload_n 1 dX11_restore_13 rfl rfl ?_
    refine T_callVR md_X11_imageOf [.int x1] [] dX11_restore_14 h0 rfl rfl ok_X11_imageOf tb_680 tb_682 tb_11 (by decide) (Nat.le_of_ble_eq_true rfl) (fun _ _ h9 => C_X11_imageOf h0 _ h9) (fun r2 M2 => ?_)
    dsimp only
    refine T_gd (fun hr2 => ?_)
    have hr2 := of_decide_eq_true hr2
    refine T_astore_n [(2, .ref r2), (0, .ref i0), (1, .int x1)] dX11_restore_17 rfl (by decide) rfl ?_
    refine T_aload_n 0 dX11_restore_18 rfl rfl ?_
    refine T_getI 2 FOk_4 hr2 (by decide) (by decide) dX11_restore_19 tb_167 ?_
    refine T_if_ne 28 dX11_restore_22 (by decide) ?_ ?_
    ·
      refine T_bipush (v := (-3 : Int32)) (by decide) dX11_restore_25 ?_
      exact T_iret dX11_restore_27 rfl
    ·
      refine T_aload_n 1 dX11_restore_28 rfl rfl ?_
      refine T_getR 0 FOk_11 h0 (by decide) (by decide) dX11_restore_29 tb_317 ?_
      refine T_aload_n 0 dX11_restore_32 rfl rfl ?_
      refine T_getR 0 FOk_4 hr2 (by decide) (by decide) dX11_restore_33 tb_164 ?_
      refine T_callVU md_X0_takeOver [.ref (rf r2 0)] [] dX11_restore_36 (kf_11_0 h0) rfl rfl ok_X0_takeOver tb_511 tb_436 tb_437 (by decide) (Nat.le_of_ble_eq_true rfl) (fun _ _ h9 => C_X0_takeOver (kf_11_0 h0) (kf_4_0 hr2)  h9) (fun r3 M3 => ?_)
      dsimp only
      refine T_aload_n 1 dX11_restore_39 rfl rfl ?_
      refine T_getR 1 FOk_11 h0 (by decide) (by decide) dX11_restore_40 tb_318 ?_
      refine T_aload_n 0 dX11_restore_43 rfl rfl ?_
      refine T_getR 1 FOk_4 hr2 (by decide) (by decide) dX11_restore_44 tb_166 ?_
      refine T_callVU md_X7_takeOver [.ref (rf r2 1)] [] dX11_restore_47 (kf_11_1 h0) rfl rfl ok_X7_takeOver tb_684 tb_685 tb_686 (by decide) (Nat.le_of_ble_eq_true rfl) (fun _ _ h9 => C_X7_takeOver (kf_11_1 h0) (kf_4_1 hr2)  h9) (fun r4 M4 => ?_)
      dsimp only
      refine T_iconst (v := (1 : Int32)) (by decide) dX11_restore_50 ?_
      exact T_iret dX11_restore_51 rfl
theorem C_X11_restore {X : Scr} {i0 : Nat} (h0 : KD[i0]? = some (.inl 11)) (x1 : Int32) {M : Mem} {r : Int32} {M' : Mem} (h : X11_restore i0 x1 M = some (r, M')) : Ct X md_X11_restore [.ref i0, .int x1] M (eI r) M' := Ct_of (by decide +kernel) (Nat.le_of_ble_eq_true rfl) (t_X11_restore h0 _ M) r M' h
-- J9_floorDiv_7cf53
def J9_floorDiv_7cf53_b21   (x2 : Int32) (M : Mem) : Option (Int32 × Mem) :=
  some (x2, M)
def J9_floorDiv_7cf53   (x0 : Int32) (x1 : Int32) (M : Mem) : Option (Int32 × Mem) :=
  gd (!(x1 == 0)) (
    if 0 ≤ (x0 ^^^ x1) then
      J9_floorDiv_7cf53_b21   (x0 / x1) M
    else
      if ((x0 / x1) * x1) = x0 then
        J9_floorDiv_7cf53_b21   (x0 / x1) M
      else
        some (((x0 / x1) - (1 : Int32)), M))
set_option maxHeartbeats 4000000 in
set_option maxRecDepth 100000 in
theorem t_J9_floorDiv_7cf53_b21 {X : Scr}   (x2 : Int32) (M : Mem) : T X eI (J9_floorDiv_7cf53_b21   x2 M) md_J9_floorDiv_7cf53 21 [(2, .int x2)] [] M := by
  unfold J9_floorDiv_7cf53_b21
  refine T_iload_n 0 dJ9_floorDiv_7cf53_21 rfl rfl ?_
  exact T_iret dJ9_floorDiv_7cf53_22 rfl
set_option maxHeartbeats 4000000 in
set_option maxRecDepth 100000 in
theorem t_J9_floorDiv_7cf53 {X : Scr}   (x0 : Int32) (x1 : Int32) (M : Mem) : T X eI (J9_floorDiv_7cf53   x0 x1 M) md_J9_floorDiv_7cf53 0 [(0, .int x0), (1, .int x1)] [] M := by
  unfold J9_floorDiv_7cf53
  refine T_iload_n 0 dJ9_floorDiv_7cf53_0 rfl rfl ?_
  refine T_iload_n 1 dJ9_floorDiv_7cf53_1 rfl rfl ?_
  refine T_idiv dJ9_floorDiv_7cf53_2 ?_
  refine T_istore_n [(2, .int (x0 / x1)), (0, .int x0), (1, .int x1)] dJ9_floorDiv_7cf53_3 rfl (by decide) rfl ?_
  refine T_iload_n 1 dJ9_floorDiv_7cf53_4 rfl rfl ?_
  refine T_iload_n 2 dJ9_floorDiv_7cf53_5 rfl rfl ?_
  refine T_ixor dJ9_floorDiv_7cf53_6 ?_
  refine T_if_ge 21 dJ9_floorDiv_7cf53_7 (by decide) ?_ ?_
  ·
    refine T_sub [0] (lv' := [(2, .int (x0 / x1))]) rfl ?_
    exact t_J9_floorDiv_7cf53_b21   _ _
  ·
    refine T_iload_n 0 dJ9_floorDiv_7cf53_10 rfl rfl ?_
    refine T_iload_n 2 dJ9_floorDiv_7cf53_11 rfl rfl ?_
    refine T_imul dJ9_floorDiv_7cf53_12 ?_
    refine T_iload_n 1 dJ9_floorDiv_7cf53_13 rfl rfl ?_
    refine T_icmp_eq 21 dJ9_floorDiv_7cf53_14 (by decide) ?_ ?_
    ·
      refine T_sub [0] (lv' := [(2, .int (x0 / x1))]) rfl ?_
      exact t_J9_floorDiv_7cf53_b21   _ _
    ·
      refine T_iload_n 0 dJ9_floorDiv_7cf53_17 rfl rfl ?_
      refine T_iconst (v := (1 : Int32)) (by decide) dJ9_floorDiv_7cf53_18 ?_
      refine T_isub dJ9_floorDiv_7cf53_19 ?_
      exact T_iret dJ9_floorDiv_7cf53_20 rfl
theorem C_J9_floorDiv_7cf53 {X : Scr}   (x0 : Int32) (x1 : Int32) {M : Mem} {r : Int32} {M' : Mem} (h : J9_floorDiv_7cf53  x0 x1 M = some (r, M')) : Ct X md_J9_floorDiv_7cf53 [.int x0, .int x1] M (eI r) M' := Ct_of (by decide +kernel) (Nat.le_of_ble_eq_true rfl) (t_J9_floorDiv_7cf53  _ _ M) r M' h
-- J9_floorMod_7cf53
def J9_floorMod_7cf53_b18   (x2 : Int32) (M : Mem) : Option (Int32 × Mem) :=
  some (x2, M)
def J9_floorMod_7cf53   (x0 : Int32) (x1 : Int32) (M : Mem) : Option (Int32 × Mem) :=
  gd (!(x1 == 0)) (
    if 0 ≤ (x0 ^^^ x1) then
      J9_floorMod_7cf53_b18   (x0 - x0 / x1 * x1) M
    else
      if (x0 - x0 / x1 * x1) = 0 then
        J9_floorMod_7cf53_b18   (x0 - x0 / x1 * x1) M
      else
        some (((x0 - x0 / x1 * x1) + x1), M))
set_option maxHeartbeats 4000000 in
set_option maxRecDepth 100000 in
theorem t_J9_floorMod_7cf53_b18 {X : Scr}   (x2 : Int32) (M : Mem) : T X eI (J9_floorMod_7cf53_b18   x2 M) md_J9_floorMod_7cf53 18 [(2, .int x2)] [] M := by
  unfold J9_floorMod_7cf53_b18
  refine T_iload_n 0 dJ9_floorMod_7cf53_18 rfl rfl ?_
  exact T_iret dJ9_floorMod_7cf53_19 rfl
set_option maxHeartbeats 4000000 in
set_option maxRecDepth 100000 in
theorem t_J9_floorMod_7cf53 {X : Scr}   (x0 : Int32) (x1 : Int32) (M : Mem) : T X eI (J9_floorMod_7cf53   x0 x1 M) md_J9_floorMod_7cf53 0 [(0, .int x0), (1, .int x1)] [] M := by
  unfold J9_floorMod_7cf53
  refine T_iload_n 0 dJ9_floorMod_7cf53_0 rfl rfl ?_
  refine T_iload_n 1 dJ9_floorMod_7cf53_1 rfl rfl ?_
  refine T_irem dJ9_floorMod_7cf53_2 ?_
  refine T_istore_n [(2, .int (x0 - x0 / x1 * x1)), (0, .int x0), (1, .int x1)] dJ9_floorMod_7cf53_3 rfl (by decide) rfl ?_
  refine T_iload_n 1 dJ9_floorMod_7cf53_4 rfl rfl ?_
  refine T_iload_n 2 dJ9_floorMod_7cf53_5 rfl rfl ?_
  refine T_ixor dJ9_floorMod_7cf53_6 ?_
  refine T_if_ge 18 dJ9_floorMod_7cf53_7 (by decide) ?_ ?_
  ·
    refine T_sub [0] (lv' := [(2, .int (x0 - x0 / x1 * x1))]) rfl ?_
    exact t_J9_floorMod_7cf53_b18   _ _
  ·
    refine T_iload_n 0 dJ9_floorMod_7cf53_10 rfl rfl ?_
    refine T_if_eq 18 dJ9_floorMod_7cf53_11 (by decide) ?_ ?_
    ·
      refine T_sub [0] (lv' := [(2, .int (x0 - x0 / x1 * x1))]) rfl ?_
      exact t_J9_floorMod_7cf53_b18   _ _
    ·
      refine T_iload_n 0 dJ9_floorMod_7cf53_14 rfl rfl ?_
      refine T_iload_n 2 dJ9_floorMod_7cf53_15 rfl rfl ?_
      refine T_iadd dJ9_floorMod_7cf53_16 ?_
      exact T_iret dJ9_floorMod_7cf53_17 rfl
theorem C_J9_floorMod_7cf53 {X : Scr}   (x0 : Int32) (x1 : Int32) {M : Mem} {r : Int32} {M' : Mem} (h : J9_floorMod_7cf53  x0 x1 M = some (r, M')) : Ct X md_J9_floorMod_7cf53 [.int x0, .int x1] M (eI r) M' := Ct_of (by decide +kernel) (Nat.le_of_ble_eq_true rfl) (t_J9_floorMod_7cf53  _ _ M) r M' h
-- X11_toldPlainly
def X11_toldPlainly (i0 : Nat)  (x1 : Int32) (M : Mem) : Option (Int32 × Mem) :=
  if x1 = (0 : Int32) then
    some ((M.1 (rf i0 2) 1), M)
  else if x1 = (1 : Int32) then
    some ((M.1 (rf i0 0) 3), M)
  else if x1 = (2 : Int32) then
    some ((M.1 (rf i0 0) 4), M)
  else if x1 = (3 : Int32) then
    some ((M.1 (rf i0 0) 5), M)
  else if x1 = (4 : Int32) then
    some ((M.1 (rf i0 0) 6), M)
  else if x1 = (5 : Int32) then
    some ((M.1 (rf i0 0) 7), M)
  else 
    some ((M.1 (rf i0 1) 2), M)
set_option maxHeartbeats 4000000 in
set_option maxRecDepth 100000 in
theorem t_X11_toldPlainly {X : Scr} {i0 : Nat} (h0 : KD[i0]? = some (.inl 11)) (x1 : Int32) (M : Mem) : T X eI (X11_toldPlainly i0  x1 M) md_X11_toldPlainly 0 [(0, .ref i0), (1, .int x1)] [] M := by
  unfold X11_toldPlainly
  refine T_iload_n 1 dX11_toldPlainly_0 rfl rfl ?_
  refine T_ite (fun hx0_0 => ?_) (fun hx0_0 => ?_)
  ·
    refine T_tabIn (off := 39) 40 dX11_toldPlainly_1 (by rw [hx0_0]; decide) (by rw [hx0_0]; decide) (by rw [hx0_0]; decide) (by decide) ?_
    refine T_aload_n 0 dX11_toldPlainly_40 rfl rfl ?_
    refine T_getR 2 FOk_11 h0 (by decide) (by decide) dX11_toldPlainly_41 tb_319 ?_
    refine T_getI 1 FOk_8 (kf_11_2 h0) (by decide) (by decide) dX11_toldPlainly_44 tb_147 ?_
    exact T_iret dX11_toldPlainly_47 rfl
  refine T_ite (fun hx0_1 => ?_) (fun hx0_1 => ?_)
  ·
    refine T_tabIn (off := 47) 48 dX11_toldPlainly_1 (by rw [hx0_1]; decide) (by rw [hx0_1]; decide) (by rw [hx0_1]; decide) (by decide) ?_
    refine T_aload_n 0 dX11_toldPlainly_48 rfl rfl ?_
    refine T_getR 0 FOk_11 h0 (by decide) (by decide) dX11_toldPlainly_49 tb_317 ?_
    refine T_getI 3 FOk_0 (kf_11_0 h0) (by decide) (by decide) dX11_toldPlainly_52 tb_88 ?_
    exact T_iret dX11_toldPlainly_55 rfl
  refine T_ite (fun hx0_2 => ?_) (fun hx0_2 => ?_)
  ·
    refine T_tabIn (off := 55) 56 dX11_toldPlainly_1 (by rw [hx0_2]; decide) (by rw [hx0_2]; decide) (by rw [hx0_2]; decide) (by decide) ?_
    refine T_aload_n 0 dX11_toldPlainly_56 rfl rfl ?_
    refine T_getR 0 FOk_11 h0 (by decide) (by decide) dX11_toldPlainly_57 tb_317 ?_
    refine T_getI 4 FOk_0 (kf_11_0 h0) (by decide) (by decide) dX11_toldPlainly_60 tb_90 ?_
    exact T_iret dX11_toldPlainly_63 rfl
  refine T_ite (fun hx0_3 => ?_) (fun hx0_3 => ?_)
  ·
    refine T_tabIn (off := 63) 64 dX11_toldPlainly_1 (by rw [hx0_3]; decide) (by rw [hx0_3]; decide) (by rw [hx0_3]; decide) (by decide) ?_
    refine T_aload_n 0 dX11_toldPlainly_64 rfl rfl ?_
    refine T_getR 0 FOk_11 h0 (by decide) (by decide) dX11_toldPlainly_65 tb_317 ?_
    refine T_getI 5 FOk_0 (kf_11_0 h0) (by decide) (by decide) dX11_toldPlainly_68 tb_93 ?_
    exact T_iret dX11_toldPlainly_71 rfl
  refine T_ite (fun hx0_4 => ?_) (fun hx0_4 => ?_)
  ·
    refine T_tabIn (off := 71) 72 dX11_toldPlainly_1 (by rw [hx0_4]; decide) (by rw [hx0_4]; decide) (by rw [hx0_4]; decide) (by decide) ?_
    refine T_aload_n 0 dX11_toldPlainly_72 rfl rfl ?_
    refine T_getR 0 FOk_11 h0 (by decide) (by decide) dX11_toldPlainly_73 tb_317 ?_
    refine T_getI 6 FOk_0 (kf_11_0 h0) (by decide) (by decide) dX11_toldPlainly_76 tb_96 ?_
    exact T_iret dX11_toldPlainly_79 rfl
  refine T_ite (fun hx0_5 => ?_) (fun hx0_5 => ?_)
  ·
    refine T_tabIn (off := 79) 80 dX11_toldPlainly_1 (by rw [hx0_5]; decide) (by rw [hx0_5]; decide) (by rw [hx0_5]; decide) (by decide) ?_
    refine T_aload_n 0 dX11_toldPlainly_80 rfl rfl ?_
    refine T_getR 0 FOk_11 h0 (by decide) (by decide) dX11_toldPlainly_81 tb_317 ?_
    refine T_getI 7 FOk_0 (kf_11_0 h0) (by decide) (by decide) dX11_toldPlainly_84 tb_99 ?_
    exact T_iret dX11_toldPlainly_87 rfl
  refine T_tabOut 88 dX11_toldPlainly_1 (tab_out (n := 6) (by decide) (lt_s (lt_s (lt_s (lt_s (lt_s (lt_s lt_0 (lv_neT hx0_0 (by decide))) (lv_neT hx0_1 (by decide))) (lv_neT hx0_2 (by decide))) (lv_neT hx0_3 (by decide))) (lv_neT hx0_4 (by decide))) (lv_neT hx0_5 (by decide)))) (by decide) ?_
  refine T_aload_n 0 dX11_toldPlainly_88 rfl rfl ?_
  refine T_getR 1 FOk_11 h0 (by decide) (by decide) dX11_toldPlainly_89 tb_318 ?_
  refine T_getI 2 FOk_7 (kf_11_1 h0) (by decide) (by decide) dX11_toldPlainly_92 tb_130 ?_
  exact T_iret dX11_toldPlainly_95 rfl
theorem C_X11_toldPlainly {X : Scr} {i0 : Nat} (h0 : KD[i0]? = some (.inl 11)) (x1 : Int32) {M : Mem} {r : Int32} {M' : Mem} (h : X11_toldPlainly i0 x1 M = some (r, M')) : Ct X md_X11_toldPlainly [.ref i0, .int x1] M (eI r) M' := Ct_of (by decide +kernel) (Nat.le_of_ble_eq_true rfl) (t_X11_toldPlainly h0 _ M) r M' h
-- X11_told
def X11_told_b69 (i0 : Nat)   (M : Mem) : Option (Int32 × Mem) :=
  some ((-2 : Int32), M)
def X11_told_b97 (i0 : Nat)  (s0 : Int32) (M : Mem) : Option (Int32 × Mem) :=
  some (s0, M)
def X11_told (i0 : Nat)  (x1 : Int32) (M : Mem) : Option (Int32 × Mem) :=
  (X11_isWithin  x1 (0 : Int32) (6 : Int32) M).bind (fun p1 =>
    if p1.1 = 0 then
      (X11_isWithin  x1 (10 : Int32) (19 : Int32) p1.2).bind (fun p2 =>
        if p2.1 = 0 then
          (J9_floorDiv_7cf53  x1 (10 : Int32) p2.2).bind (fun p3 =>
            (J9_floorMod_7cf53  x1 (10 : Int32) p3.2).bind (fun p4 =>
              (X11_isCabin  (p3.1 - (10 : Int32)) p4.2).bind (fun p5 =>
                if p5.1 = 0 then
                  X11_told_b69 i0   p5.2
                else
                  if p4.1 ≤ (1 : Int32) then
                    if p4.1 = 0 then
                      gd (ib (p3.1 - (10 : Int32)) 10) (
                        X11_told_b97 i0  (p5.2.1 (rf (rf i0 0) 1) (p3.1 - (10 : Int32)).toNatClampNeg) p5.2)
                    else
                      gd (ib (p3.1 - (10 : Int32)) 10) (
                        X11_told_b97 i0  (p5.2.1 (rf (rf i0 0) 2) (p3.1 - (10 : Int32)).toNatClampNeg) p5.2)
                  else
                    X11_told_b69 i0   p5.2)))
        else
          gd (ib (x1 - (10 : Int32)) 10) (
            some ((p2.2.1 (rf (rf i0 0) 0) (x1 - (10 : Int32)).toNatClampNeg), p2.2)))
    else
      (X11_toldPlainly i0 x1 p1.2).bind (fun p6 =>
        some (p6.1, p6.2)))
set_option maxHeartbeats 4000000 in
set_option maxRecDepth 100000 in
theorem t_X11_told_b69 {X : Scr} {i0 : Nat} (h0 : KD[i0]? = some (.inl 11))  (M : Mem) : T X eI (X11_told_b69 i0   M) md_X11_told 69 [] [] M := by
  unfold X11_told_b69
  refine T_bipush (v := (-2 : Int32)) (by decide) dX11_told_69 ?_
  exact T_iret dX11_told_71 rfl
set_option maxHeartbeats 4000000 in
set_option maxRecDepth 100000 in
theorem t_X11_told_b97 {X : Scr} {i0 : Nat} (h0 : KD[i0]? = some (.inl 11)) (s0 : Int32) (M : Mem) : T X eI (X11_told_b97 i0  s0 M) md_X11_told 97 [] [.int s0] M := by
  unfold X11_told_b97
  exact T_iret dX11_told_97 rfl
set_option maxHeartbeats 4000000 in
set_option maxRecDepth 100000 in
theorem t_X11_told {X : Scr} {i0 : Nat} (h0 : KD[i0]? = some (.inl 11)) (x1 : Int32) (M : Mem) : T X eI (X11_told i0  x1 M) md_X11_told 0 [(0, .ref i0), (1, .int x1)] [] M := by
  unfold X11_told
  refine T_iload_n 1 dX11_told_0 rfl rfl ?_
  refine T_iconst (v := (0 : Int32)) (by decide) dX11_told_1 ?_
  refine T_bipush (v := (6 : Int32)) (by decide) dX11_told_2 ?_
  refine T_callSI md_X11_isWithin [.int x1, .int (0 : Int32), .int (6 : Int32)] [] dX11_told_4 rfl ok_X11_isWithin tb_361 tb_362 (by decide) (Nat.le_of_ble_eq_true rfl) (fun _ _ h9 => C_X11_isWithin  _ _ _ h9) (fun r1 M1 => ?_)
  dsimp only
  refine T_if_eq 16 dX11_told_7 (by decide) ?_ ?_
  ·
    refine T_iload_n 1 dX11_told_16 rfl rfl ?_
    refine T_bipush (v := (10 : Int32)) (by decide) dX11_told_17 ?_
    refine T_bipush (v := (19 : Int32)) (by decide) dX11_told_19 ?_
    refine T_callSI md_X11_isWithin [.int x1, .int (10 : Int32), .int (19 : Int32)] [] dX11_told_21 rfl ok_X11_isWithin tb_361 tb_362 (by decide) (Nat.le_of_ble_eq_true rfl) (fun _ _ h9 => C_X11_isWithin  _ _ _ h9) (fun r2 M2 => ?_)
    dsimp only
    refine T_if_eq 40 dX11_told_24 (by decide) ?_ ?_
    ·
      refine T_iload_n 1 dX11_told_40 rfl rfl ?_
      refine T_bipush (v := (10 : Int32)) (by decide) dX11_told_41 ?_
      refine T_callSI md_J9_floorDiv_7cf53 [.int x1, .int (10 : Int32)] [] dX11_told_43 rfl ok_J9_floorDiv_7cf53 tb_701 tb_702 (by decide) (Nat.le_of_ble_eq_true rfl) (fun _ _ h9 => C_J9_floorDiv_7cf53  _ _ h9) (fun r3 M3 => ?_)
      dsimp only
      refine T_bipush (v := (10 : Int32)) (by decide) dX11_told_46 ?_
      refine T_isub dX11_told_48 ?_
      refine T_istore_n [(2, .int (r3 - (10 : Int32))), (0, .ref i0), (1, .int x1)] dX11_told_49 rfl (by decide) rfl ?_
      refine T_iload_n 2 dX11_told_50 rfl rfl ?_
      refine T_bipush (v := (10 : Int32)) (by decide) dX11_told_51 ?_
      refine T_callSI md_J9_floorMod_7cf53 [.int x1, .int (10 : Int32)] [] dX11_told_53 rfl ok_J9_floorMod_7cf53 tb_704 tb_705 (by decide) (Nat.le_of_ble_eq_true rfl) (fun _ _ h9 => C_J9_floorMod_7cf53  _ _ h9) (fun r4 M4 => ?_)
      dsimp only
      refine T_istore_n [(3, .int r4), (2, .int (r3 - (10 : Int32))), (0, .ref i0), (1, .int x1)] dX11_told_56 rfl (by decide) rfl ?_
      refine T_iload_n 1 dX11_told_57 rfl rfl ?_
      refine T_callSI md_X11_isCabin [.int (r3 - (10 : Int32))] [] dX11_told_58 rfl ok_X11_isCabin tb_358 tb_359 (by decide) (Nat.le_of_ble_eq_true rfl) (fun _ _ h9 => C_X11_isCabin  _ h9) (fun r5 M5 => ?_)
      dsimp only
      refine T_if_eq 69 dX11_told_61 (by decide) ?_ ?_
      ·
        refine T_sub [] (lv' := []) rfl ?_
        exact t_X11_told_b69 h0   _
      ·
        refine T_iload_n 0 dX11_told_64 rfl rfl ?_
        refine T_iconst (v := (1 : Int32)) (by decide) dX11_told_65 ?_
        refine T_icmp_le 72 dX11_told_66 (by decide) ?_ ?_
        ·
          refine T_iload_n 0 dX11_told_72 rfl rfl ?_
          refine T_if_ne 88 dX11_told_73 (by decide) ?_ ?_
          ·
            refine T_aload_n 2 dX11_told_76 rfl rfl ?_
            refine T_getR 0 FOk_11 h0 (by decide) (by decide) dX11_told_77 tb_317 ?_
            refine T_getR 1 FOk_0 (kf_11_0 h0) (by decide) (by decide) dX11_told_80 tb_79 ?_
            refine T_iload_n 1 dX11_told_83 rfl rfl ?_
            refine T_iald (kf_0_1 (kf_11_0 h0)) dX11_told_84 ?_
            refine T_goto 97 dX11_told_85 (by decide) ?_
            refine T_sub [] (lv' := []) rfl ?_
            exact t_X11_told_b97 h0  _ _
          ·
            refine T_aload_n 2 dX11_told_88 rfl rfl ?_
            refine T_getR 0 FOk_11 h0 (by decide) (by decide) dX11_told_89 tb_317 ?_
            refine T_getR 2 FOk_0 (kf_11_0 h0) (by decide) (by decide) dX11_told_92 tb_83 ?_
            refine T_iload_n 1 dX11_told_95 rfl rfl ?_
            refine T_iald (kf_0_2 (kf_11_0 h0)) dX11_told_96 ?_
            refine T_sub [] (lv' := []) rfl ?_
            exact t_X11_told_b97 h0  _ _
        ·
          refine T_sub [] (lv' := []) rfl ?_
          exact t_X11_told_b69 h0   _
    ·
      refine T_aload_n 0 dX11_told_27 rfl rfl ?_
      refine T_getR 0 FOk_11 h0 (by decide) (by decide) dX11_told_28 tb_317 ?_
      refine T_getR 0 FOk_0 (kf_11_0 h0) (by decide) (by decide) dX11_told_31 tb_77 ?_
      refine T_iload_n 1 dX11_told_34 rfl rfl ?_
      refine T_bipush (v := (10 : Int32)) (by decide) dX11_told_35 ?_
      refine T_isub dX11_told_37 ?_
      refine T_iald (kf_0_0 (kf_11_0 h0)) dX11_told_38 ?_
      exact T_iret dX11_told_39 rfl
  ·
    refine T_aload_n 0 dX11_told_10 rfl rfl ?_
    refine T_iload_n 1 dX11_told_11 rfl rfl ?_
    refine T_callVI md_X11_toldPlainly [.int x1] [] dX11_told_12 h0 rfl rfl ok_X11_toldPlainly tb_697 tb_699 tb_12 (by decide) (Nat.le_of_ble_eq_true rfl) (fun _ _ h9 => C_X11_toldPlainly h0 _ h9) (fun r6 M6 => ?_)
    dsimp only
    exact T_iret dX11_told_15 rfl
theorem C_X11_told {X : Scr} {i0 : Nat} (h0 : KD[i0]? = some (.inl 11)) (x1 : Int32) {M : Mem} {r : Int32} {M' : Mem} (h : X11_told i0 x1 M = some (r, M')) : Ct X md_X11_told [.ref i0, .int x1] M (eI r) M' := Ct_of (by decide +kernel) (Nat.le_of_ble_eq_true rfl) (t_X11_told h0 _ M) r M' h
-- X12_in
def X12_in_b18   (s0 : Int32) (M : Mem) : Option (Int32 × Mem) :=
  gd (s0 == 0 || s0 == 1) (some (s0, M))
def X12_in_b17    (M : Mem) : Option (Int32 × Mem) :=
  X12_in_b18   (0 : Int32) M
def X12_in   (x0 : Int64) (x2 : Int64) (x4 : Int64) (M : Mem) : Option (Int32 × Mem) :=
  if (lg_cmp x0 x2) < 0 then
    X12_in_b17    M
  else
    if 0 < (lg_cmp x0 x4) then
      X12_in_b17    M
    else
      X12_in_b18   (1 : Int32) M
set_option maxHeartbeats 4000000 in
set_option maxRecDepth 100000 in
theorem t_X12_in_b18 {X : Scr}   (s0 : Int32) (M : Mem) : T X eI (X12_in_b18   s0 M) md_X12_in 18 [] [.int s0] M := by
  unfold X12_in_b18
  exact T_zret dX12_in_18 rfl
set_option maxHeartbeats 4000000 in
set_option maxRecDepth 100000 in
theorem t_X12_in_b17 {X : Scr}    (M : Mem) : T X eI (X12_in_b17    M) md_X12_in 17 [] [] M := by
  unfold X12_in_b17
  refine T_iconst (v := (0 : Int32)) (by decide) dX12_in_17 ?_
  exact t_X12_in_b18   _ _
set_option maxHeartbeats 4000000 in
set_option maxRecDepth 100000 in
theorem t_X12_in {X : Scr}   (x0 : Int64) (x2 : Int64) (x4 : Int64) (M : Mem) : T X eI (X12_in   x0 x2 x4 M) md_X12_in 0 [(0, .long x0), (2, .long x2), (4, .long x4)] [] M := by
  unfold X12_in
  refine T_lload_n 0 dX12_in_0 rfl rfl ?_
  refine T_lload_n 1 dX12_in_1 rfl rfl ?_
  refine T_lcmp dX12_in_2 ?_
  refine T_if_lt 17 dX12_in_3 (by decide) ?_ ?_
  ·
    refine T_sub [] (lv' := []) rfl ?_
    exact t_X12_in_b17    _
  ·
    refine T_lload_n 0 dX12_in_6 rfl rfl ?_
    refine T_lload 2 dX12_in_7 rfl ?_
    refine T_lcmp dX12_in_9 ?_
    refine T_if_gt 17 dX12_in_10 (by decide) ?_ ?_
    ·
      refine T_sub [] (lv' := []) rfl ?_
      exact t_X12_in_b17    _
    ·
      refine T_iconst (v := (1 : Int32)) (by decide) dX12_in_13 ?_
      refine T_goto 18 dX12_in_14 (by decide) ?_
      refine T_sub [] (lv' := []) rfl ?_
      exact t_X12_in_b18   _ _
theorem C_X12_in {X : Scr}   (x0 : Int64) (x2 : Int64) (x4 : Int64) {M : Mem} {r : Int32} {M' : Mem} (h : X12_in  x0 x2 x4 M = some (r, M')) : Ct X md_X12_in [.long x0, .long x2, .long x4] M (eI r) M' := Ct_of (by decide +kernel) (Nat.le_of_ble_eq_true rfl) (t_X12_in  _ _ _ M) r M' h
