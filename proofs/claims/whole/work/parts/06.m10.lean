-- X12_his
def X12_his_b70 (i0 : Nat)  (s0 : Int32) (M : Mem) : Option (Int32 × Mem) :=
  (X12_back i0 s0 M).bind (fun p1 =>
    some (p1.1, p1.2))
def X12_his (i0 : Nat)  (x1 : Int32) (M : Mem) : Option (Int32 × Mem) :=
  (X12_in  x1.toInt64 (0 : Int64) (3 : Int64) M).bind (fun p1 =>
    if p1.1 = 0 then
      some ((-2 : Int32), p1.2)
    else
      (X12_refusal i0  p1.2).bind (fun p2 =>
        if p2.1 = (-6 : Int32) then
          if x1 = 0 then
            X12_his_b70 i0  (p2.2.1 i0 3) p2.2
          else
            if x1 = (1 : Int32) then
              X12_his_b70 i0  (p2.2.1 i0 4) p2.2
            else
              if x1 = (2 : Int32) then
                X12_his_b70 i0  (p2.2.1 i0 5) p2.2
              else
                X12_his_b70 i0  (p2.2.1 i0 6) p2.2
        else
          X12_his_b70 i0  p2.1 p2.2))
set_option maxHeartbeats 4000000 in
set_option maxRecDepth 100000 in
theorem t_X12_his_b70 {X : Scr} {i0 : Nat} (h0 : KD[i0]? = some (.inl 12)) (s0 : Int32) (M : Mem) : T X eI (X12_his_b70 i0  s0 M) md_X12_his 70 [] [.int s0, .ref i0] M := by
  unfold X12_his_b70
  refine T_callVI md_X12_back [.int s0] [] dX12_his_70 h0 rfl rfl ok_X12_back tb_930 tb_932 tb_29 (by decide) (Nat.le_of_ble_eq_true rfl) (fun _ _ h9 => C_X12_back h0 _ h9) (fun r1 M1 => ?_)
  dsimp only
  exact T_iret dX12_his_73 rfl
set_option maxHeartbeats 4000000 in
set_option maxRecDepth 100000 in
theorem t_X12_his {X : Scr} {i0 : Nat} (h0 : KD[i0]? = some (.inl 12)) (x1 : Int32) (M : Mem) : T X eI (X12_his i0  x1 M) md_X12_his 0 [(0, .ref i0), (1, .int x1)] [] M := by
  unfold X12_his
  refine T_iload_n 1 dX12_his_0 rfl rfl ?_
  refine T_i2l dX12_his_1 ?_
  refine T_lconst (v := (0 : Int64)) (by decide) dX12_his_2 ?_
  refine T_ldc2 (v := (3 : Int64)) dX12_his_3 tb_942 ?_
  refine T_callSI md_X12_in [.long x1.toInt64, .long (0 : Int64), .long (3 : Int64)] [] dX12_his_6 rfl ok_X12_in tb_816 tb_817 (by decide) (Nat.le_of_ble_eq_true rfl) (fun _ _ h9 => C_X12_in  _ _ _ h9) (fun r1 M1 => ?_)
  dsimp only
  refine T_if_ne 15 dX12_his_9 (by decide) ?_ ?_
  ·
    refine T_bipush (v := (-2 : Int32)) (by decide) dX12_his_12 ?_
    exact T_iret dX12_his_14 rfl
  ·
    refine T_aload_n 0 dX12_his_15 rfl rfl ?_
    refine T_callVI md_X12_refusal [] [] dX12_his_16 h0 rfl rfl ok_X12_refusal tb_875 tb_877 tb_17 (by decide) (Nat.le_of_ble_eq_true rfl) (fun _ _ h9 => C_X12_refusal h0  h9) (fun r2 M2 => ?_)
    dsimp only
    refine T_istore_n [(2, .int r2), (0, .ref i0), (1, .int x1)] dX12_his_19 rfl (by decide) rfl ?_
    refine T_aload_n 1 dX12_his_20 rfl rfl ?_
    refine T_iload_n 0 dX12_his_21 rfl rfl ?_
    refine T_bipush (v := (-6 : Int32)) (by decide) dX12_his_22 ?_
    refine T_icmp_eq 31 dX12_his_24 (by decide) ?_ ?_
    ·
      refine T_iload_n 2 dX12_his_31 rfl rfl ?_
      refine T_if_ne 42 dX12_his_32 (by decide) ?_ ?_
      ·
        refine T_aload_n 1 dX12_his_35 rfl rfl ?_
        refine T_getI 3 FOk_12 h0 (by decide) (by decide) dX12_his_36 tb_716 ?_
        refine T_goto 70 dX12_his_39 (by decide) ?_
        refine T_sub [] (lv' := []) rfl ?_
        exact t_X12_his_b70 h0  _ _
      ·
        refine T_iload_n 2 dX12_his_42 rfl rfl ?_
        refine T_iconst (v := (1 : Int32)) (by decide) dX12_his_43 ?_
        refine T_icmp_ne 54 dX12_his_44 (by decide) ?_ ?_
        ·
          refine T_aload_n 1 dX12_his_47 rfl rfl ?_
          refine T_getI 4 FOk_12 h0 (by decide) (by decide) dX12_his_48 tb_717 ?_
          refine T_goto 70 dX12_his_51 (by decide) ?_
          refine T_sub [] (lv' := []) rfl ?_
          exact t_X12_his_b70 h0  _ _
        ·
          refine T_iload_n 2 dX12_his_54 rfl rfl ?_
          refine T_iconst (v := (2 : Int32)) (by decide) dX12_his_55 ?_
          refine T_icmp_ne 66 dX12_his_56 (by decide) ?_ ?_
          ·
            refine T_aload_n 1 dX12_his_59 rfl rfl ?_
            refine T_getI 5 FOk_12 h0 (by decide) (by decide) dX12_his_60 tb_718 ?_
            refine T_goto 70 dX12_his_63 (by decide) ?_
            refine T_sub [] (lv' := []) rfl ?_
            exact t_X12_his_b70 h0  _ _
          ·
            refine T_aload_n 1 dX12_his_66 rfl rfl ?_
            refine T_getI 6 FOk_12 h0 (by decide) (by decide) dX12_his_67 tb_719 ?_
            refine T_sub [] (lv' := []) rfl ?_
            exact t_X12_his_b70 h0  _ _
    ·
      refine T_iload_n 0 dX12_his_27 rfl rfl ?_
      refine T_goto 70 dX12_his_28 (by decide) ?_
      refine T_sub [] (lv' := []) rfl ?_
      exact t_X12_his_b70 h0  _ _
theorem C_X12_his {X : Scr} {i0 : Nat} (h0 : KD[i0]? = some (.inl 12)) (x1 : Int32) {M : Mem} {r : Int32} {M' : Mem} (h : X12_his i0 x1 M = some (r, M')) : Ct X md_X12_his [.ref i0, .int x1] M (eI r) M' := Ct_of (by decide +kernel) (Nat.le_of_ble_eq_true rfl) (t_X12_his h0 _ M) r M' h
-- X12_wrong
def X12_wrong_b58 (i0 : Nat)  (s0 : Int32) (M : Mem) : Option (Int32 × Mem) :=
  (X12_back i0 s0 M).bind (fun p1 =>
    some (p1.1, p1.2))
def X12_wrong (i0 : Nat)  (x1 : Int32) (M : Mem) : Option (Int32 × Mem) :=
  (X12_in  x1.toInt64 (0 : Int64) (2 : Int64) M).bind (fun p1 =>
    if p1.1 = 0 then
      some ((-2 : Int32), p1.2)
    else
      (X12_refusal i0  p1.2).bind (fun p2 =>
        if p2.1 = (-6 : Int32) then
          if x1 = 0 then
            (X12_wrongMany i0  p2.2).bind (fun p3 =>
              X12_wrong_b58 i0  p3.1 p3.2)
          else
            if x1 = (1 : Int32) then
              X12_wrong_b58 i0  (p2.2.1 i0 20) p2.2
            else
              X12_wrong_b58 i0  (p2.2.1 i0 21) p2.2
        else
          X12_wrong_b58 i0  p2.1 p2.2))
set_option maxHeartbeats 4000000 in
set_option maxRecDepth 100000 in
theorem t_X12_wrong_b58 {X : Scr} {i0 : Nat} (h0 : KD[i0]? = some (.inl 12)) (s0 : Int32) (M : Mem) : T X eI (X12_wrong_b58 i0  s0 M) md_X12_wrong 58 [] [.int s0, .ref i0] M := by
  unfold X12_wrong_b58
  refine T_callVI md_X12_back [.int s0] [] dX12_wrong_58 h0 rfl rfl ok_X12_back tb_930 tb_932 tb_29 (by decide) (Nat.le_of_ble_eq_true rfl) (fun _ _ h9 => C_X12_back h0 _ h9) (fun r1 M1 => ?_)
  dsimp only
  exact T_iret dX12_wrong_61 rfl
set_option maxHeartbeats 4000000 in
set_option maxRecDepth 100000 in
theorem t_X12_wrong {X : Scr} {i0 : Nat} (h0 : KD[i0]? = some (.inl 12)) (x1 : Int32) (M : Mem) : T X eI (X12_wrong i0  x1 M) md_X12_wrong 0 [(0, .ref i0), (1, .int x1)] [] M := by
  unfold X12_wrong
  refine T_iload_n 1 dX12_wrong_0 rfl rfl ?_
  refine T_i2l dX12_wrong_1 ?_
  refine T_lconst (v := (0 : Int64)) (by decide) dX12_wrong_2 ?_
  refine T_ldc2 (v := (2 : Int64)) dX12_wrong_3 tb_874 ?_
  refine T_callSI md_X12_in [.long x1.toInt64, .long (0 : Int64), .long (2 : Int64)] [] dX12_wrong_6 rfl ok_X12_in tb_816 tb_817 (by decide) (Nat.le_of_ble_eq_true rfl) (fun _ _ h9 => C_X12_in  _ _ _ h9) (fun r1 M1 => ?_)
  dsimp only
  refine T_if_ne 15 dX12_wrong_9 (by decide) ?_ ?_
  ·
    refine T_bipush (v := (-2 : Int32)) (by decide) dX12_wrong_12 ?_
    exact T_iret dX12_wrong_14 rfl
  ·
    refine T_aload_n 0 dX12_wrong_15 rfl rfl ?_
    refine T_callVI md_X12_refusal [] [] dX12_wrong_16 h0 rfl rfl ok_X12_refusal tb_875 tb_877 tb_17 (by decide) (Nat.le_of_ble_eq_true rfl) (fun _ _ h9 => C_X12_refusal h0  h9) (fun r2 M2 => ?_)
    dsimp only
    refine T_istore_n [(2, .int r2), (0, .ref i0), (1, .int x1)] dX12_wrong_19 rfl (by decide) rfl ?_
    refine T_aload_n 1 dX12_wrong_20 rfl rfl ?_
    refine T_iload_n 0 dX12_wrong_21 rfl rfl ?_
    refine T_bipush (v := (-6 : Int32)) (by decide) dX12_wrong_22 ?_
    refine T_icmp_eq 31 dX12_wrong_24 (by decide) ?_ ?_
    ·
      refine T_iload_n 2 dX12_wrong_31 rfl rfl ?_
      refine T_if_ne 42 dX12_wrong_32 (by decide) ?_ ?_
      ·
        refine T_aload_n 1 dX12_wrong_35 rfl rfl ?_
        refine T_callVI md_X12_wrongMany [] [.ref i0] dX12_wrong_36 h0 rfl rfl ok_X12_wrongMany tb_824 tb_826 tb_13 (by decide) (Nat.le_of_ble_eq_true rfl) (fun _ _ h9 => C_X12_wrongMany h0  h9) (fun r3 M3 => ?_)
        dsimp only
        refine T_goto 58 dX12_wrong_39 (by decide) ?_
        refine T_sub [] (lv' := []) rfl ?_
        exact t_X12_wrong_b58 h0  _ _
      ·
        refine T_iload_n 2 dX12_wrong_42 rfl rfl ?_
        refine T_iconst (v := (1 : Int32)) (by decide) dX12_wrong_43 ?_
        refine T_icmp_ne 54 dX12_wrong_44 (by decide) ?_ ?_
        ·
          refine T_aload_n 1 dX12_wrong_47 rfl rfl ?_
          refine T_getI 20 FOk_12 h0 (by decide) (by decide) dX12_wrong_48 tb_733 ?_
          refine T_goto 58 dX12_wrong_51 (by decide) ?_
          refine T_sub [] (lv' := []) rfl ?_
          exact t_X12_wrong_b58 h0  _ _
        ·
          refine T_aload_n 1 dX12_wrong_54 rfl rfl ?_
          refine T_getI 21 FOk_12 h0 (by decide) (by decide) dX12_wrong_55 tb_734 ?_
          refine T_sub [] (lv' := []) rfl ?_
          exact t_X12_wrong_b58 h0  _ _
    ·
      refine T_iload_n 0 dX12_wrong_27 rfl rfl ?_
      refine T_goto 58 dX12_wrong_28 (by decide) ?_
      refine T_sub [] (lv' := []) rfl ?_
      exact t_X12_wrong_b58 h0  _ _
theorem C_X12_wrong {X : Scr} {i0 : Nat} (h0 : KD[i0]? = some (.inl 12)) (x1 : Int32) {M : Mem} {r : Int32} {M' : Mem} (h : X12_wrong i0 x1 M = some (r, M')) : Ct X md_X12_wrong [.ref i0, .int x1] M (eI r) M' := Ct_of (by decide +kernel) (Nat.le_of_ble_eq_true rfl) (t_X12_wrong h0 _ M) r M' h
-- X12_done
def X12_done (i0 : Nat)   (M : Mem) : Option (Int32 × Mem) :=
  (X12_refusal i0  M).bind (fun p1 =>
    if p1.1 = (-6 : Int32) then
      some (((mI p1.2 i0 12 (0 : Int32)).1 i0 15), (mI p1.2 i0 12 (0 : Int32)))
    else
      (X12_back i0 p1.1 p1.2).bind (fun p2 =>
        some (p2.1, p2.2)))
set_option maxHeartbeats 4000000 in
set_option maxRecDepth 100000 in
theorem t_X12_done {X : Scr} {i0 : Nat} (h0 : KD[i0]? = some (.inl 12))  (M : Mem) : T X eI (X12_done i0   M) md_X12_done 0 [(0, .ref i0)] [] M := by
  unfold X12_done
  refine T_aload_n 0 dX12_done_0 rfl rfl ?_
  refine T_callVI md_X12_refusal [] [] dX12_done_1 h0 rfl rfl ok_X12_refusal tb_875 tb_877 tb_17 (by decide) (Nat.le_of_ble_eq_true rfl) (fun _ _ h9 => C_X12_refusal h0  h9) (fun r1 M1 => ?_)
  dsimp only
  refine T_istore_n [(1, .int r1), (0, .ref i0)] dX12_done_4 rfl (by decide) rfl ?_
  refine T_iload_n 0 dX12_done_5 rfl rfl ?_
  refine T_bipush (v := (-6 : Int32)) (by decide) dX12_done_6 ?_
  refine T_icmp_eq 17 dX12_done_8 (by decide) ?_ ?_
  ·
    refine T_aload_n 1 dX12_done_17 rfl rfl ?_
    refine T_iconst (v := (0 : Int32)) (by decide) dX12_done_18 ?_
    refine T_putI (ty := .int) 12 FOk_12 h0 (by decide) (by decide) rfl (by decide +kernel) rfl rfl dX12_done_19 tb_725 ?_
    refine T_aload_n 1 dX12_done_22 rfl rfl ?_
    refine T_getI 15 FOk_12 h0 (by decide) (by decide) dX12_done_23 tb_728 ?_
    exact T_iret dX12_done_26 rfl
  ·
    refine T_aload_n 1 dX12_done_11 rfl rfl ?_
    refine T_iload_n 0 dX12_done_12 rfl rfl ?_
    refine T_callVI md_X12_back [.int r1] [] dX12_done_13 h0 rfl rfl ok_X12_back tb_930 tb_932 tb_29 (by decide) (Nat.le_of_ble_eq_true rfl) (fun _ _ h9 => C_X12_back h0 _ h9) (fun r2 M2 => ?_)
    dsimp only
    exact T_iret dX12_done_16 rfl
theorem C_X12_done {X : Scr} {i0 : Nat} (h0 : KD[i0]? = some (.inl 12))  {M : Mem} {r : Int32} {M' : Mem} (h : X12_done i0  M = some (r, M')) : Ct X md_X12_done [.ref i0] M (eI r) M' := Ct_of (by decide +kernel) (Nat.le_of_ble_eq_true rfl) (t_X12_done h0  M) r M' h
-- X12_less
def X12_less_b10   (s0 : Int32) (M : Mem) : Option (Int32 × Mem) :=
  some (s0, M)
def X12_less   (x0 : Int32) (x1 : Int32) (M : Mem) : Option (Int32 × Mem) :=
  if x1 ≤ x0 then
    X12_less_b10   x1 M
  else
    X12_less_b10   x0 M
set_option maxHeartbeats 4000000 in
set_option maxRecDepth 100000 in
theorem t_X12_less_b10 {X : Scr}   (s0 : Int32) (M : Mem) : T X eI (X12_less_b10   s0 M) md_X12_less 10 [] [.int s0] M := by
  unfold X12_less_b10
  exact T_iret dX12_less_10 rfl
set_option maxHeartbeats 4000000 in
set_option maxRecDepth 100000 in
theorem t_X12_less {X : Scr}   (x0 : Int32) (x1 : Int32) (M : Mem) : T X eI (X12_less   x0 x1 M) md_X12_less 0 [(0, .int x0), (1, .int x1)] [] M := by
  unfold X12_less
  refine T_iload_n 0 dX12_less_0 rfl rfl ?_
  refine T_iload_n 1 dX12_less_1 rfl rfl ?_
  refine T_icmp_ge 9 dX12_less_2 (by decide) ?_ ?_
  ·
    refine T_iload_n 1 dX12_less_9 rfl rfl ?_
    refine T_sub [] (lv' := []) rfl ?_
    exact t_X12_less_b10   _ _
  ·
    refine T_iload_n 0 dX12_less_5 rfl rfl ?_
    refine T_goto 10 dX12_less_6 (by decide) ?_
    refine T_sub [] (lv' := []) rfl ?_
    exact t_X12_less_b10   _ _
theorem C_X12_less {X : Scr}   (x0 : Int32) (x1 : Int32) {M : Mem} {r : Int32} {M' : Mem} (h : X12_less  x0 x1 M = some (r, M')) : Ct X md_X12_less [.int x0, .int x1] M (eI r) M' := Ct_of (by decide +kernel) (Nat.le_of_ble_eq_true rfl) (t_X12_less  _ _ M) r M' h
-- X12_more
def X12_more_b10   (s0 : Int32) (M : Mem) : Option (Int32 × Mem) :=
  some (s0, M)
def X12_more   (x0 : Int32) (x1 : Int32) (M : Mem) : Option (Int32 × Mem) :=
  if x0 ≤ x1 then
    X12_more_b10   x1 M
  else
    X12_more_b10   x0 M
set_option maxHeartbeats 4000000 in
set_option maxRecDepth 100000 in
theorem t_X12_more_b10 {X : Scr}   (s0 : Int32) (M : Mem) : T X eI (X12_more_b10   s0 M) md_X12_more 10 [] [.int s0] M := by
  unfold X12_more_b10
  exact T_iret dX12_more_10 rfl
set_option maxHeartbeats 4000000 in
set_option maxRecDepth 100000 in
theorem t_X12_more {X : Scr}   (x0 : Int32) (x1 : Int32) (M : Mem) : T X eI (X12_more   x0 x1 M) md_X12_more 0 [(0, .int x0), (1, .int x1)] [] M := by
  unfold X12_more
  refine T_iload_n 0 dX12_more_0 rfl rfl ?_
  refine T_iload_n 1 dX12_more_1 rfl rfl ?_
  refine T_icmp_le 9 dX12_more_2 (by decide) ?_ ?_
  ·
    refine T_iload_n 1 dX12_more_9 rfl rfl ?_
    refine T_sub [] (lv' := []) rfl ?_
    exact t_X12_more_b10   _ _
  ·
    refine T_iload_n 0 dX12_more_5 rfl rfl ?_
    refine T_goto 10 dX12_more_6 (by decide) ?_
    refine T_sub [] (lv' := []) rfl ?_
    exact t_X12_more_b10   _ _
theorem C_X12_more {X : Scr}   (x0 : Int32) (x1 : Int32) {M : Mem} {r : Int32} {M' : Mem} (h : X12_more  x0 x1 M = some (r, M')) : Ct X md_X12_more [.int x0, .int x1] M (eI r) M' := Ct_of (by decide +kernel) (Nat.le_of_ble_eq_true rfl) (t_X12_more  _ _ M) r M' h
-- X12_minutesBy
def X12_minutesBy_b74 (i0 : Nat) (k25 : Int32 → Int32 → Int32 → Int32 → Int32 → Int32 → Mem → Option (Int32 × Mem)) (x1 : Int32) (x2 : Int32) (x3 : Int32) (x4 : Int32) (x5 : Int32) (x6 : Int32) (M : Mem) : Option (Int32 × Mem) :=
  k25 x1 x2 x3 x4 x5 (x6 + (1 : Int32)) M
def X12_minutesBy_b25 (i0 : Nat) (k25 : Int32 → Int32 → Int32 → Int32 → Int32 → Int32 → Mem → Option (Int32 × Mem)) (x1 : Int32) (x2 : Int32) (x3 : Int32) (x4 : Int32) (x5 : Int32) (x6 : Int32) (M : Mem) : Option (Int32 × Mem) :=
  if (10 : Int32) ≤ x6 then
    iw ((((((M.1 i0 3) - x3) + x4) - x3) + x4) - x2) (fun v1 =>
      iw (((((x4 - (M.1 i0 3)) + x4) - x3) + x2) - x3) (fun v2 =>
        (X12_less  v1 v2 M).bind (fun p3 =>
          some ((x5 + p3.1), p3.2))))
  else
    (X12_isIn  x1 x6 M).bind (fun p4 =>
      if p4.1 = 0 then
        X12_minutesBy_b74 i0 k25 x1 x2 x3 x4 x5 x6 p4.2
      else
        (X12_less  x3 x6 p4.2).bind (fun p5 =>
          (X12_more  x4 x6 p5.2).bind (fun p6 =>
            gd (ib x6 10) (
              gd (ib (p6.2.1 (rf i0 0) x6.toNatClampNeg) 10) (
                iw (x5 + (p6.2.1 (rf i0 2) (p6.2.1 (rf i0 0) x6.toNatClampNeg).toNatClampNeg)) (fun v7 =>
                  X12_minutesBy_b74 i0 k25 x1 x2 p5.1 p6.1 v7 x6 p6.2))))))
def X12_minutesBy_l25 (i0 : Nat)  : Nat → Int32 → Int32 → Int32 → Int32 → Int32 → Int32 → Mem → Option (Int32 × Mem)
  | 0 => fun _ _ _ _ _ _ _ => none
  | n + 1 => X12_minutesBy_b25 i0 (X12_minutesBy_l25 i0  n)
def X12_minutesBy (i0 : Nat)  (x1 : Int32) (x2 : Int32) (M : Mem) : Option (Int32 × Mem) :=
  (X12_less  (M.1 i0 3) x2 M).bind (fun p1 =>
    (X12_more  (p1.2.1 i0 3) x2 p1.2).bind (fun p2 =>
      X12_minutesBy_l25 i0  FU x1 x2 p1.1 p2.1 (0 : Int32) (0 : Int32) p2.2))
set_option maxHeartbeats 4000000 in
set_option maxRecDepth 100000 in
theorem t_X12_minutesBy_b74 {X : Scr} {i0 : Nat} (h0 : KD[i0]? = some (.inl 12)) {k25 : Int32 → Int32 → Int32 → Int32 → Int32 → Int32 → Mem → Option (Int32 × Mem)} (hk25 : ∀ (x1 : Int32) (x2 : Int32) (x3 : Int32) (x4 : Int32) (x5 : Int32) (x6 : Int32) (M : Mem), T X eI (k25 x1 x2 x3 x4 x5 x6 M) md_X12_minutesBy 25 [(0, .ref i0), (1, .int x1), (2, .int x2), (3, .int x3), (4, .int x4), (5, .int x5), (6, .int x6)] [] M) (x1 : Int32) (x2 : Int32) (x3 : Int32) (x4 : Int32) (x5 : Int32) (x6 : Int32) (M : Mem) : T X eI (X12_minutesBy_b74 i0 k25 x1 x2 x3 x4 x5 x6 M) md_X12_minutesBy 74 [(0, .ref i0), (1, .int x1), (2, .int x2), (3, .int x3), (4, .int x4), (5, .int x5), (6, .int x6)] [] M := by
  unfold X12_minutesBy_b74
  refine T_iinc 6 [(6, .int (x6 + (1 : Int32))), (0, .ref i0), (1, .int x1), (2, .int x2), (3, .int x3), (4, .int x4), (5, .int x5)] (v := (1 : Int32)) dX12_minutesBy_74 rfl (by decide) (by decide) rfl ?_
  refine T_goto 25 dX12_minutesBy_77 (by decide) ?_
  refine T_sub [1, 2, 3, 4, 5, 6, 0] (lv' := [(0, .ref i0), (1, .int x1), (2, .int x2), (3, .int x3), (4, .int x4), (5, .int x5), (6, .int (x6 + (1 : Int32)))]) rfl ?_
  exact hk25 _ _ _ _ _ _ _
set_option maxHeartbeats 4000000 in
set_option maxRecDepth 100000 in
theorem t_X12_minutesBy_b25 {X : Scr} {i0 : Nat} (h0 : KD[i0]? = some (.inl 12)) {k25 : Int32 → Int32 → Int32 → Int32 → Int32 → Int32 → Mem → Option (Int32 × Mem)} (hk25 : ∀ (x1 : Int32) (x2 : Int32) (x3 : Int32) (x4 : Int32) (x5 : Int32) (x6 : Int32) (M : Mem), T X eI (k25 x1 x2 x3 x4 x5 x6 M) md_X12_minutesBy 25 [(0, .ref i0), (1, .int x1), (2, .int x2), (3, .int x3), (4, .int x4), (5, .int x5), (6, .int x6)] [] M) (x1 : Int32) (x2 : Int32) (x3 : Int32) (x4 : Int32) (x5 : Int32) (x6 : Int32) (M : Mem) : T X eI (X12_minutesBy_b25 i0 k25 x1 x2 x3 x4 x5 x6 M) md_X12_minutesBy 25 [(0, .ref i0), (1, .int x1), (2, .int x2), (3, .int x3), (4, .int x4), (5, .int x5), (6, .int x6)] [] M := by
  unfold X12_minutesBy_b25
  refine T_iload 6 dX12_minutesBy_25 rfl ?_
  refine T_bipush (v := (10 : Int32)) (by decide) dX12_minutesBy_27 ?_
  refine T_icmp_ge 80 dX12_minutesBy_29 (by decide) ?_ ?_
  ·
    refine T_aload_n 0 dX12_minutesBy_80 rfl rfl ?_
    refine T_getI 3 FOk_12 h0 (by decide) (by decide) dX12_minutesBy_81 tb_716 ?_
    refine T_iload_n 3 dX12_minutesBy_84 rfl rfl ?_
    refine T_isub dX12_minutesBy_85 ?_
    refine T_iload 4 dX12_minutesBy_86 rfl ?_
    refine T_iadd dX12_minutesBy_88 ?_
    refine T_iload_n 3 dX12_minutesBy_89 rfl rfl ?_
    refine T_isub dX12_minutesBy_90 ?_
    refine T_iload 4 dX12_minutesBy_91 rfl ?_
    refine T_iadd dX12_minutesBy_93 ?_
    refine T_iload_n 2 dX12_minutesBy_94 rfl rfl ?_
    refine T_isub dX12_minutesBy_95 ?_
    refine T_iw (fun v1 => ?_)
    try dsimp only
    refine T_istore [(6, .int v1), (0, .ref i0), (1, .int x1), (2, .int x2), (3, .int x3), (4, .int x4), (5, .int x5)] dX12_minutesBy_96 (by decide) rfl ?_
    refine T_iload 5 dX12_minutesBy_98 rfl ?_
    refine T_aload_n 1 dX12_minutesBy_100 rfl rfl ?_
    refine T_getI 3 FOk_12 h0 (by decide) (by decide) dX12_minutesBy_101 tb_716 ?_
    refine T_isub dX12_minutesBy_104 ?_
    refine T_iload 5 dX12_minutesBy_105 rfl ?_
    refine T_iadd dX12_minutesBy_107 ?_
    refine T_iload_n 4 dX12_minutesBy_108 rfl rfl ?_
    refine T_isub dX12_minutesBy_109 ?_
    refine T_iload_n 3 dX12_minutesBy_110 rfl rfl ?_
    refine T_iadd dX12_minutesBy_111 ?_
    refine T_iload_n 4 dX12_minutesBy_112 rfl rfl ?_
    refine T_isub dX12_minutesBy_113 ?_
    refine T_iw (fun v2 => ?_)
    try dsimp only
    refine T_istore [(7, .int v2), (6, .int v1), (0, .ref i0), (1, .int x1), (2, .int x2), (3, .int x3), (4, .int x4), (5, .int x5)] dX12_minutesBy_114 (by decide) rfl ?_
    refine T_iload 7 dX12_minutesBy_116 rfl ?_
    refine T_iload 1 dX12_minutesBy_118 rfl ?_
    refine T_iload 0 dX12_minutesBy_120 rfl ?_
    refine T_callSI md_X12_less [.int v1, .int v2] [.int x5] dX12_minutesBy_122 rfl ok_X12_less tb_962 tb_963 (by decide) (Nat.le_of_ble_eq_true rfl) (fun _ _ h9 => C_X12_less  _ _ h9) (fun r3 M3 => ?_)
    dsimp only
    refine T_iadd dX12_minutesBy_125 ?_
    exact T_iret dX12_minutesBy_126 rfl
  ·
    refine T_iload_n 1 dX12_minutesBy_32 rfl rfl ?_
    refine T_iload 6 dX12_minutesBy_33 rfl ?_
    refine T_callSI md_X12_isIn [.int x1, .int x6] [] dX12_minutesBy_35 rfl ok_X12_isIn tb_895 tb_896 (by decide) (Nat.le_of_ble_eq_true rfl) (fun _ _ h9 => C_X12_isIn  _ _ h9) (fun r4 M4 => ?_)
    dsimp only
    refine T_if_eq 74 dX12_minutesBy_38 (by decide) ?_ ?_
    ·
      exact t_X12_minutesBy_b74 h0 hk25 _ _ _ _ _ _ _
    ·
      refine T_iload_n 3 dX12_minutesBy_41 rfl rfl ?_
      refine T_iload 6 dX12_minutesBy_42 rfl ?_
      refine T_callSI md_X12_less [.int x3, .int x6] [] dX12_minutesBy_44 rfl ok_X12_less tb_962 tb_963 (by decide) (Nat.le_of_ble_eq_true rfl) (fun _ _ h9 => C_X12_less  _ _ h9) (fun r5 M5 => ?_)
      dsimp only
      refine T_istore_n [(3, .int r5), (0, .ref i0), (1, .int x1), (2, .int x2), (4, .int x4), (5, .int x5), (6, .int x6)] dX12_minutesBy_47 rfl (by decide) rfl ?_
      refine T_iload 4 dX12_minutesBy_48 rfl ?_
      refine T_iload 6 dX12_minutesBy_50 rfl ?_
      refine T_callSI md_X12_more [.int x4, .int x6] [] dX12_minutesBy_52 rfl ok_X12_more tb_965 tb_966 (by decide) (Nat.le_of_ble_eq_true rfl) (fun _ _ h9 => C_X12_more  _ _ h9) (fun r6 M6 => ?_)
      dsimp only
      refine T_istore [(4, .int r6), (3, .int r5), (0, .ref i0), (1, .int x1), (2, .int x2), (5, .int x5), (6, .int x6)] dX12_minutesBy_55 (by decide) rfl ?_
      refine T_iload 5 dX12_minutesBy_57 rfl ?_
      refine T_aload_n 2 dX12_minutesBy_59 rfl rfl ?_
      refine T_getR 2 FOk_12 h0 (by decide) (by decide) dX12_minutesBy_60 tb_715 ?_
      refine T_aload_n 2 dX12_minutesBy_63 rfl rfl ?_
      refine T_getR 0 FOk_12 h0 (by decide) (by decide) dX12_minutesBy_64 tb_713 ?_
      refine T_iload 6 dX12_minutesBy_67 rfl ?_
      refine T_iald (kf_12_0 h0) dX12_minutesBy_69 ?_
      refine T_iald (kf_12_2 h0) dX12_minutesBy_70 ?_
      refine T_iadd dX12_minutesBy_71 ?_
      refine T_iw (fun v7 => ?_)
      try dsimp only
      refine T_istore [(5, .int v7), (4, .int r6), (3, .int r5), (0, .ref i0), (1, .int x1), (2, .int x2), (6, .int x6)] dX12_minutesBy_72 (by decide) rfl ?_
      refine T_sub [3, 4, 5, 2, 1, 0, 6] (lv' := [(0, .ref i0), (1, .int x1), (2, .int x2), (3, .int r5), (4, .int r6), (5, .int v7), (6, .int x6)]) rfl ?_
      exact t_X12_minutesBy_b74 h0 hk25 _ _ _ _ _ _ _
theorem t_X12_minutesBy_l25 {X : Scr} {i0 : Nat} (h0 : KD[i0]? = some (.inl 12)) (n : Nat) : ∀ (x1 : Int32) (x2 : Int32) (x3 : Int32) (x4 : Int32) (x5 : Int32) (x6 : Int32) (M : Mem), T X eI (X12_minutesBy_l25 i0  n x1 x2 x3 x4 x5 x6 M) md_X12_minutesBy 25 [(0, .ref i0), (1, .int x1), (2, .int x2), (3, .int x3), (4, .int x4), (5, .int x5), (6, .int x6)] [] M := by
  induction n with
  | zero => intro x1 x2 x3 x4 x5 x6 M; exact T_none
  | succ n ih => intro x1 x2 x3 x4 x5 x6 M; exact t_X12_minutesBy_b25 h0 ih x1 x2 x3 x4 x5 x6 M
set_option maxHeartbeats 4000000 in
set_option maxRecDepth 100000 in
theorem t_X12_minutesBy {X : Scr} {i0 : Nat} (h0 : KD[i0]? = some (.inl 12)) (x1 : Int32) (x2 : Int32) (M : Mem) : T X eI (X12_minutesBy i0  x1 x2 M) md_X12_minutesBy 0 [(0, .ref i0), (1, .int x1), (2, .int x2)] [] M := by
  unfold X12_minutesBy
  refine T_aload_n 0 dX12_minutesBy_0 rfl rfl ?_
  refine T_getI 3 FOk_12 h0 (by decide) (by decide) dX12_minutesBy_1 tb_716 ?_
  refine T_iload_n 2 dX12_minutesBy_4 rfl rfl ?_
  refine T_callSI md_X12_less [.int (M.1 i0 3), .int x2] [] dX12_minutesBy_5 rfl ok_X12_less tb_962 tb_963 (by decide) (Nat.le_of_ble_eq_true rfl) (fun _ _ h9 => C_X12_less  _ _ h9) (fun r1 M1 => ?_)
  dsimp only
  refine T_istore_n [(3, .int r1), (0, .ref i0), (1, .int x1), (2, .int x2)] dX12_minutesBy_8 rfl (by decide) rfl ?_
  refine T_aload_n 1 dX12_minutesBy_9 rfl rfl ?_
  refine T_getI 3 FOk_12 h0 (by decide) (by decide) dX12_minutesBy_10 tb_716 ?_
  refine T_iload_n 3 dX12_minutesBy_13 rfl rfl ?_
  refine T_callSI md_X12_more [.int (M1.1 i0 3), .int x2] [] dX12_minutesBy_14 rfl ok_X12_more tb_965 tb_966 (by decide) (Nat.le_of_ble_eq_true rfl) (fun _ _ h9 => C_X12_more  _ _ h9) (fun r2 M2 => ?_)
  dsimp only
  refine T_istore [(4, .int r2), (3, .int r1), (0, .ref i0), (1, .int x1), (2, .int x2)] dX12_minutesBy_17 (by decide) rfl ?_
  refine T_iconst (v := (0 : Int32)) (by decide) dX12_minutesBy_19 ?_
  refine T_istore [(5, .int (0 : Int32)), (4, .int r2), (3, .int r1), (0, .ref i0), (1, .int x1), (2, .int x2)] dX12_minutesBy_20 (by decide) rfl ?_
  refine T_iconst (v := (0 : Int32)) (by decide) dX12_minutesBy_22 ?_
  refine T_istore [(6, .int (0 : Int32)), (5, .int (0 : Int32)), (4, .int r2), (3, .int r1), (0, .ref i0), (1, .int x1), (2, .int x2)] dX12_minutesBy_23 (by decide) rfl ?_
  refine T_sub [4, 5, 6, 3, 2, 1, 0] (lv' := [(0, .ref i0), (1, .int x1), (2, .int x2), (3, .int r1), (4, .int r2), (5, .int (0 : Int32)), (6, .int (0 : Int32))]) rfl ?_
  exact t_X12_minutesBy_l25 h0  _ _ _ _ _ _ _ _
theorem C_X12_minutesBy {X : Scr} {i0 : Nat} (h0 : KD[i0]? = some (.inl 12)) (x1 : Int32) (x2 : Int32) {M : Mem} {r : Int32} {M' : Mem} (h : X12_minutesBy i0 x1 x2 M = some (r, M')) : Ct X md_X12_minutesBy [.ref i0, .int x1, .int x2] M (eI r) M' := Ct_of (by decide +kernel) (Nat.le_of_ble_eq_true rfl) (t_X12_minutesBy h0 _ _ M) r M' h
-- X12_round
def X12_round_b89 (i0 : Nat) (k28 : Int32 → Int32 → Int32 → Int32 → Mem → Option (Int32 × Mem)) (x1 : Int32) (x2 : Int32) (x4 : Int32) (s0 : Int32) (M : Mem) : Option (Int32 × Mem) :=
  k28 x1 x2 s0 (x4 + (1 : Int32)) M
def X12_round_b88 (i0 : Nat) (k28 : Int32 → Int32 → Int32 → Int32 → Mem → Option (Int32 × Mem)) (x1 : Int32) (x2 : Int32) (x3 : Int32) (x4 : Int32) (M : Mem) : Option (Int32 × Mem) :=
  X12_round_b89 i0 k28 x1 x2 x4 x3 M
def X12_round_b57 (i0 : Nat) (k28 : Int32 → Int32 → Int32 → Int32 → Mem → Option (Int32 × Mem)) (x1 : Int32) (x2 : Int32) (x3 : Int32) (x4 : Int32) (s0 : Int32) (M : Mem) : Option (Int32 × Mem) :=
  if s0 = 0 then
    X12_round_b88 i0 k28 x1 x2 x3 x4 M
  else
    (X12_minutesBy i0 x4 x1 M).bind (fun p1 =>
      if (p1.2.1 i0 7) < ((M.1 i0 6) + p1.1) then
        X12_round_b88 i0 k28 x1 x2 x3 x4 p1.2
      else
        X12_round_b89 i0 k28 x1 x2 x4 x4 p1.2)
def X12_round_b52 (i0 : Nat) (k28 : Int32 → Int32 → Int32 → Int32 → Mem → Option (Int32 × Mem)) (x1 : Int32) (x2 : Int32) (x3 : Int32) (x4 : Int32) (M : Mem) : Option (Int32 × Mem) :=
  X12_round_b57 i0 k28 x1 x2 x3 x4 (1 : Int32) M
def X12_round_b113 (i0 : Nat)  (s0 : Int32) (M : Mem) : Option (Int32 × Mem) :=
  some (s0, M)
def X12_round_b105 (i0 : Nat)  (x3 : Int32) (M : Mem) : Option (Int32 × Mem) :=
  X12_round_b113 i0  x3 M
def X12_round_b28 (i0 : Nat) (k28 : Int32 → Int32 → Int32 → Int32 → Mem → Option (Int32 × Mem)) (x1 : Int32) (x2 : Int32) (x3 : Int32) (x4 : Int32) (M : Mem) : Option (Int32 × Mem) :=
  if (1024 : Int32) ≤ x4 then
    if x3 < 0 then
      X12_round_b105 i0  x3 M
    else
      if x2 = (1 : Int32) then
        X12_round_b105 i0  x3 M
      else
        (X12_ones  x3 M).bind (fun p1 =>
          X12_round_b113 i0  p1.1 p1.2)
  else
    if x3 < 0 then
      X12_round_b52 i0 k28 x1 x2 x3 x4 M
    else
      (X12_ones  x4 M).bind (fun p2 =>
        (X12_ones  x3 p2.2).bind (fun p3 =>
          if p2.1 ≤ p3.1 then
            X12_round_b57 i0 k28 x1 x2 x3 x4 (0 : Int32) p3.2
          else
            X12_round_b52 i0 k28 x1 x2 x3 x4 p3.2))
def X12_round_l28 (i0 : Nat)  : Nat → Int32 → Int32 → Int32 → Int32 → Mem → Option (Int32 × Mem)
  | 0 => fun _ _ _ _ _ => none
  | n + 1 => X12_round_b28 i0 (X12_round_l28 i0  n)
def X12_round (i0 : Nat)  (x1 : Int32) (x2 : Int32) (M : Mem) : Option (Int32 × Mem) :=
  (X12_isCabin  x1 M).bind (fun p1 =>
    if p1.1 = 0 then
      some ((-1 : Int32), p1.2)
    else
      (X12_in  x2.toInt64 (0 : Int64) (1 : Int64) p1.2).bind (fun p2 =>
        if p2.1 = 0 then
          some ((-2 : Int32), p2.2)
        else
          X12_round_l28 i0  FU x1 x2 (-6 : Int32) (0 : Int32) p2.2))
set_option maxHeartbeats 4000000 in
set_option maxRecDepth 100000 in
theorem t_X12_round_b89 {X : Scr} {i0 : Nat} (h0 : KD[i0]? = some (.inl 12)) {k28 : Int32 → Int32 → Int32 → Int32 → Mem → Option (Int32 × Mem)} (hk28 : ∀ (x1 : Int32) (x2 : Int32) (x3 : Int32) (x4 : Int32) (M : Mem), T X eI (k28 x1 x2 x3 x4 M) md_X12_round 28 [(0, .ref i0), (1, .int x1), (2, .int x2), (3, .int x3), (4, .int x4)] [] M) (x1 : Int32) (x2 : Int32) (x4 : Int32) (s0 : Int32) (M : Mem) : T X eI (X12_round_b89 i0 k28 x1 x2 x4 s0 M) md_X12_round 89 [(0, .ref i0), (1, .int x1), (2, .int x2), (4, .int x4)] [.int s0] M := by
  unfold X12_round_b89
  refine T_istore_n [(3, .int s0), (0, .ref i0), (1, .int x1), (2, .int x2), (4, .int x4)] dX12_round_89 rfl (by decide) rfl ?_
  refine T_iinc 4 [(4, .int (x4 + (1 : Int32))), (3, .int s0), (0, .ref i0), (1, .int x1), (2, .int x2)] (v := (1 : Int32)) dX12_round_90 rfl (by decide) (by decide) rfl ?_
  refine T_goto 28 dX12_round_93 (by decide) ?_
  refine T_sub [2, 3, 4, 1, 0] (lv' := [(0, .ref i0), (1, .int x1), (2, .int x2), (3, .int s0), (4, .int (x4 + (1 : Int32)))]) rfl ?_
  exact hk28 _ _ _ _ _
set_option maxHeartbeats 4000000 in
set_option maxRecDepth 100000 in
theorem t_X12_round_b88 {X : Scr} {i0 : Nat} (h0 : KD[i0]? = some (.inl 12)) {k28 : Int32 → Int32 → Int32 → Int32 → Mem → Option (Int32 × Mem)} (hk28 : ∀ (x1 : Int32) (x2 : Int32) (x3 : Int32) (x4 : Int32) (M : Mem), T X eI (k28 x1 x2 x3 x4 M) md_X12_round 28 [(0, .ref i0), (1, .int x1), (2, .int x2), (3, .int x3), (4, .int x4)] [] M) (x1 : Int32) (x2 : Int32) (x3 : Int32) (x4 : Int32) (M : Mem) : T X eI (X12_round_b88 i0 k28 x1 x2 x3 x4 M) md_X12_round 88 [(0, .ref i0), (1, .int x1), (2, .int x2), (3, .int x3), (4, .int x4)] [] M := by
  unfold X12_round_b88
  refine T_iload_n 3 dX12_round_88 rfl rfl ?_
  refine T_sub [0, 1, 2, 4] (lv' := [(0, .ref i0), (1, .int x1), (2, .int x2), (4, .int x4)]) rfl ?_
  exact t_X12_round_b89 h0 hk28 _ _ _ _ _
set_option maxHeartbeats 4000000 in
set_option maxRecDepth 100000 in
theorem t_X12_round_b57 {X : Scr} {i0 : Nat} (h0 : KD[i0]? = some (.inl 12)) {k28 : Int32 → Int32 → Int32 → Int32 → Mem → Option (Int32 × Mem)} (hk28 : ∀ (x1 : Int32) (x2 : Int32) (x3 : Int32) (x4 : Int32) (M : Mem), T X eI (k28 x1 x2 x3 x4 M) md_X12_round 28 [(0, .ref i0), (1, .int x1), (2, .int x2), (3, .int x3), (4, .int x4)] [] M) (x1 : Int32) (x2 : Int32) (x3 : Int32) (x4 : Int32) (s0 : Int32) (M : Mem) : T X eI (X12_round_b57 i0 k28 x1 x2 x3 x4 s0 M) md_X12_round 57 [(0, .ref i0), (1, .int x1), (2, .int x2), (3, .int x3), (4, .int x4)] [.int s0] M := by
  unfold X12_round_b57
  refine T_istore [(5, .int s0), (0, .ref i0), (1, .int x1), (2, .int x2), (3, .int x3), (4, .int x4)] dX12_round_57 (by decide) rfl ?_
  refine T_iload 0 dX12_round_59 rfl ?_
  refine T_if_eq 88 dX12_round_61 (by decide) ?_ ?_
  ·
    refine T_sub [1, 2, 3, 4, 5] (lv' := [(0, .ref i0), (1, .int x1), (2, .int x2), (3, .int x3), (4, .int x4)]) rfl ?_
    exact t_X12_round_b88 h0 hk28 _ _ _ _ _
  ·
    refine T_aload_n 1 dX12_round_64 rfl rfl ?_
    refine T_getI 6 FOk_12 h0 (by decide) (by decide) dX12_round_65 tb_719 ?_
    refine T_aload_n 1 dX12_round_68 rfl rfl ?_
    refine T_iload 5 dX12_round_69 rfl ?_
    refine T_iload_n 2 dX12_round_71 rfl rfl ?_
    refine T_callVI md_X12_minutesBy [.int x4, .int x1] [.int (M.1 i0 6)] dX12_round_72 h0 rfl rfl ok_X12_minutesBy tb_958 tb_960 tb_30 (by decide) (Nat.le_of_ble_eq_true rfl) (fun _ _ h9 => C_X12_minutesBy h0 _ _ h9) (fun r1 M1 => ?_)
    dsimp only
    refine T_iadd dX12_round_75 ?_
    refine T_aload_n 1 dX12_round_76 rfl rfl ?_
    refine T_getI 7 FOk_12 h0 (by decide) (by decide) dX12_round_77 tb_720 ?_
    refine T_icmp_gt 88 dX12_round_80 (by decide) ?_ ?_
    ·
      refine T_sub [1, 2, 3, 4, 5] (lv' := [(0, .ref i0), (1, .int x1), (2, .int x2), (3, .int x3), (4, .int x4)]) rfl ?_
      exact t_X12_round_b88 h0 hk28 _ _ _ _ _
    ·
      refine T_iload 5 dX12_round_83 rfl ?_
      refine T_goto 89 dX12_round_85 (by decide) ?_
      refine T_sub [1, 2, 3, 5] (lv' := [(0, .ref i0), (1, .int x1), (2, .int x2), (4, .int x4)]) rfl ?_
      exact t_X12_round_b89 h0 hk28 _ _ _ _ _
set_option maxHeartbeats 4000000 in
set_option maxRecDepth 100000 in
theorem t_X12_round_b52 {X : Scr} {i0 : Nat} (h0 : KD[i0]? = some (.inl 12)) {k28 : Int32 → Int32 → Int32 → Int32 → Mem → Option (Int32 × Mem)} (hk28 : ∀ (x1 : Int32) (x2 : Int32) (x3 : Int32) (x4 : Int32) (M : Mem), T X eI (k28 x1 x2 x3 x4 M) md_X12_round 28 [(0, .ref i0), (1, .int x1), (2, .int x2), (3, .int x3), (4, .int x4)] [] M) (x1 : Int32) (x2 : Int32) (x3 : Int32) (x4 : Int32) (M : Mem) : T X eI (X12_round_b52 i0 k28 x1 x2 x3 x4 M) md_X12_round 52 [(0, .ref i0), (1, .int x1), (2, .int x2), (3, .int x3), (4, .int x4)] [] M := by
  unfold X12_round_b52
  refine T_iconst (v := (1 : Int32)) (by decide) dX12_round_52 ?_
  refine T_goto 57 dX12_round_53 (by decide) ?_
  exact t_X12_round_b57 h0 hk28 _ _ _ _ _ _
set_option maxHeartbeats 4000000 in
set_option maxRecDepth 100000 in
theorem t_X12_round_b113 {X : Scr} {i0 : Nat} (h0 : KD[i0]? = some (.inl 12)) (s0 : Int32) (M : Mem) : T X eI (X12_round_b113 i0  s0 M) md_X12_round 113 [] [.int s0] M := by
  unfold X12_round_b113
  exact T_iret dX12_round_113 rfl
set_option maxHeartbeats 4000000 in
set_option maxRecDepth 100000 in
theorem t_X12_round_b105 {X : Scr} {i0 : Nat} (h0 : KD[i0]? = some (.inl 12)) (x3 : Int32) (M : Mem) : T X eI (X12_round_b105 i0  x3 M) md_X12_round 105 [(3, .int x3)] [] M := by
  unfold X12_round_b105
  refine T_iload_n 0 dX12_round_105 rfl rfl ?_
  refine T_goto 113 dX12_round_106 (by decide) ?_
  refine T_sub [] (lv' := []) rfl ?_
  exact t_X12_round_b113 h0  _ _
set_option maxHeartbeats 4000000 in
set_option maxRecDepth 100000 in
theorem t_X12_round_b28 {X : Scr} {i0 : Nat} (h0 : KD[i0]? = some (.inl 12)) {k28 : Int32 → Int32 → Int32 → Int32 → Mem → Option (Int32 × Mem)} (hk28 : ∀ (x1 : Int32) (x2 : Int32) (x3 : Int32) (x4 : Int32) (M : Mem), T X eI (k28 x1 x2 x3 x4 M) md_X12_round 28 [(0, .ref i0), (1, .int x1), (2, .int x2), (3, .int x3), (4, .int x4)] [] M) (x1 : Int32) (x2 : Int32) (x3 : Int32) (x4 : Int32) (M : Mem) : T X eI (X12_round_b28 i0 k28 x1 x2 x3 x4 M) md_X12_round 28 [(0, .ref i0), (1, .int x1), (2, .int x2), (3, .int x3), (4, .int x4)] [] M := by
  unfold X12_round_b28
  refine T_iload 4 dX12_round_28 rfl ?_
  refine T_sipush (v := (1024 : Int32)) (by decide) dX12_round_30 ?_
  refine T_icmp_ge 96 dX12_round_33 (by decide) ?_ ?_
  ·
    refine T_iload_n 3 dX12_round_96 rfl rfl ?_
    refine T_if_lt 105 dX12_round_97 (by decide) ?_ ?_
    ·
      refine T_sub [3] (lv' := [(3, .int x3)]) rfl ?_
      exact t_X12_round_b105 h0  _ _
    ·
      refine T_iload_n 2 dX12_round_100 rfl rfl ?_
      refine T_iconst (v := (1 : Int32)) (by decide) dX12_round_101 ?_
      refine T_icmp_ne 109 dX12_round_102 (by decide) ?_ ?_
      ·
        refine T_sub [3] (lv' := [(3, .int x3)]) rfl ?_
        exact t_X12_round_b105 h0  _ _
      ·
        refine T_iload_n 3 dX12_round_109 rfl rfl ?_
        refine T_callSI md_X12_ones [.int x3] [] dX12_round_110 rfl ok_X12_ones tb_955 tb_956 (by decide) (Nat.le_of_ble_eq_true rfl) (fun _ _ h9 => C_X12_ones  _ h9) (fun r1 M1 => ?_)
        dsimp only
        refine T_sub [] (lv' := []) rfl ?_
        exact t_X12_round_b113 h0  _ _
  ·
    refine T_iload_n 3 dX12_round_36 rfl rfl ?_
    refine T_if_lt 52 dX12_round_37 (by decide) ?_ ?_
    ·
      exact t_X12_round_b52 h0 hk28 _ _ _ _ _
    ·
      refine T_iload 4 dX12_round_40 rfl ?_
      refine T_callSI md_X12_ones [.int x4] [] dX12_round_42 rfl ok_X12_ones tb_955 tb_956 (by decide) (Nat.le_of_ble_eq_true rfl) (fun _ _ h9 => C_X12_ones  _ h9) (fun r2 M2 => ?_)
      dsimp only
      refine T_iload_n 3 dX12_round_45 rfl rfl ?_
      refine T_callSI md_X12_ones [.int x3] [.int r2] dX12_round_46 rfl ok_X12_ones tb_955 tb_956 (by decide) (Nat.le_of_ble_eq_true rfl) (fun _ _ h9 => C_X12_ones  _ h9) (fun r3 M3 => ?_)
      dsimp only
      refine T_icmp_le 56 dX12_round_49 (by decide) ?_ ?_
      ·
        refine T_iconst (v := (0 : Int32)) (by decide) dX12_round_56 ?_
        exact t_X12_round_b57 h0 hk28 _ _ _ _ _ _
      ·
        exact t_X12_round_b52 h0 hk28 _ _ _ _ _
theorem t_X12_round_l28 {X : Scr} {i0 : Nat} (h0 : KD[i0]? = some (.inl 12)) (n : Nat) : ∀ (x1 : Int32) (x2 : Int32) (x3 : Int32) (x4 : Int32) (M : Mem), T X eI (X12_round_l28 i0  n x1 x2 x3 x4 M) md_X12_round 28 [(0, .ref i0), (1, .int x1), (2, .int x2), (3, .int x3), (4, .int x4)] [] M := by
  induction n with
  | zero => intro x1 x2 x3 x4 M; exact T_none
  | succ n ih => intro x1 x2 x3 x4 M; exact t_X12_round_b28 h0 ih x1 x2 x3 x4 M
set_option maxHeartbeats 4000000 in
set_option maxRecDepth 100000 in
theorem t_X12_round {X : Scr} {i0 : Nat} (h0 : KD[i0]? = some (.inl 12)) (x1 : Int32) (x2 : Int32) (M : Mem) : T X eI (X12_round i0  x1 x2 M) md_X12_round 0 [(0, .ref i0), (1, .int x1), (2, .int x2)] [] M := by
  unfold X12_round
  refine T_iload_n 1 dX12_round_0 rfl rfl ?_
  refine T_callSI md_X12_isCabin [.int x1] [] dX12_round_1 rfl ok_X12_isCabin tb_812 tb_813 (by decide) (Nat.le_of_ble_eq_true rfl) (fun _ _ h9 => C_X12_isCabin  _ h9) (fun r1 M1 => ?_)
  dsimp only
  refine T_if_ne 9 dX12_round_4 (by decide) ?_ ?_
  ·
    refine T_iconst (v := (-1 : Int32)) (by decide) dX12_round_7 ?_
    exact T_iret dX12_round_8 rfl
  ·
    refine T_iload_n 2 dX12_round_9 rfl rfl ?_
    refine T_i2l dX12_round_10 ?_
    refine T_lconst (v := (0 : Int64)) (by decide) dX12_round_11 ?_
    refine T_lconst (v := (1 : Int64)) (by decide) dX12_round_12 ?_
    refine T_callSI md_X12_in [.long x2.toInt64, .long (0 : Int64), .long (1 : Int64)] [] dX12_round_13 rfl ok_X12_in tb_816 tb_817 (by decide) (Nat.le_of_ble_eq_true rfl) (fun _ _ h9 => C_X12_in  _ _ _ h9) (fun r2 M2 => ?_)
    dsimp only
    refine T_if_ne 22 dX12_round_16 (by decide) ?_ ?_
    ·
      refine T_bipush (v := (-2 : Int32)) (by decide) dX12_round_19 ?_
      exact T_iret dX12_round_21 rfl
    ·
      refine T_bipush (v := (-6 : Int32)) (by decide) dX12_round_22 ?_
      refine T_istore_n [(3, .int (-6 : Int32)), (0, .ref i0), (1, .int x1), (2, .int x2)] dX12_round_24 rfl (by decide) rfl ?_
      refine T_iconst (v := (0 : Int32)) (by decide) dX12_round_25 ?_
      refine T_istore [(4, .int (0 : Int32)), (3, .int (-6 : Int32)), (0, .ref i0), (1, .int x1), (2, .int x2)] dX12_round_26 (by decide) rfl ?_
      refine T_sub [2, 3, 4, 1, 0] (lv' := [(0, .ref i0), (1, .int x1), (2, .int x2), (3, .int (-6 : Int32)), (4, .int (0 : Int32))]) rfl ?_
      exact t_X12_round_l28 h0  _ _ _ _ _ _
theorem C_X12_round {X : Scr} {i0 : Nat} (h0 : KD[i0]? = some (.inl 12)) (x1 : Int32) (x2 : Int32) {M : Mem} {r : Int32} {M' : Mem} (h : X12_round i0 x1 x2 M = some (r, M')) : Ct X md_X12_round [.ref i0, .int x1, .int x2] M (eI r) M' := Ct_of (by decide +kernel) (Nat.le_of_ble_eq_true rfl) (t_X12_round h0 _ _ M) r M' h
-- X12_shownBy
def X12_shownBy_b32 (i0 : Nat) (k7 : Int32 → Int32 → Int32 → Mem → Option (Int32 × Mem)) (x1 : Int32) (x3 : Int32) (s0 : Int32) (s1 : Int32) (M : Mem) : Option (Int32 × Mem) :=
  k7 x1 (s1 ||| s0) (x3 + (1 : Int32)) M
def X12_shownBy_b7 (i0 : Nat) (k7 : Int32 → Int32 → Int32 → Mem → Option (Int32 × Mem)) (x1 : Int32) (x2 : Int32) (x3 : Int32) (M : Mem) : Option (Int32 × Mem) :=
  if (10 : Int32) ≤ x3 then
    some (x2, M)
  else
    (X12_isIn  x1 x3 M).bind (fun p1 =>
      if p1.1 = 0 then
        X12_shownBy_b32 i0 k7 x1 x3 (0 : Int32) x2 p1.2
      else
        gd (ib x3 10) (
          X12_shownBy_b32 i0 k7 x1 x3 (p1.2.1 (rf i0 1) x3.toNatClampNeg) x2 p1.2))
def X12_shownBy_l7 (i0 : Nat)  : Nat → Int32 → Int32 → Int32 → Mem → Option (Int32 × Mem)
  | 0 => fun _ _ _ _ => none
  | n + 1 => X12_shownBy_b7 i0 (X12_shownBy_l7 i0  n)
def X12_shownBy (i0 : Nat)  (x1 : Int32) (M : Mem) : Option (Int32 × Mem) :=
  X12_shownBy_l7 i0  FU x1 (M.1 i0 5) (0 : Int32) M
set_option maxHeartbeats 4000000 in
set_option maxRecDepth 100000 in
theorem t_X12_shownBy_b32 {X : Scr} {i0 : Nat} (h0 : KD[i0]? = some (.inl 12)) {k7 : Int32 → Int32 → Int32 → Mem → Option (Int32 × Mem)} (hk7 : ∀ (x1 : Int32) (x2 : Int32) (x3 : Int32) (M : Mem), T X eI (k7 x1 x2 x3 M) md_X12_shownBy 7 [(0, .ref i0), (1, .int x1), (2, .int x2), (3, .int x3)] [] M) (x1 : Int32) (x3 : Int32) (s0 : Int32) (s1 : Int32) (M : Mem) : T X eI (X12_shownBy_b32 i0 k7 x1 x3 s0 s1 M) md_X12_shownBy 32 [(0, .ref i0), (1, .int x1), (3, .int x3)] [.int s0, .int s1] M := by
  unfold X12_shownBy_b32
  refine T_ior dX12_shownBy_32 ?_
  refine T_istore_n [(2, .int (s1 ||| s0)), (0, .ref i0), (1, .int x1), (3, .int x3)] dX12_shownBy_33 rfl (by decide) rfl ?_
  refine T_iinc 3 [(3, .int (x3 + (1 : Int32))), (2, .int (s1 ||| s0)), (0, .ref i0), (1, .int x1)] (v := (1 : Int32)) dX12_shownBy_34 rfl (by decide) (by decide) rfl ?_
  refine T_goto 7 dX12_shownBy_37 (by decide) ?_
  refine T_sub [2, 3, 1, 0] (lv' := [(0, .ref i0), (1, .int x1), (2, .int (s1 ||| s0)), (3, .int (x3 + (1 : Int32)))]) rfl ?_
  exact hk7 _ _ _ _
set_option maxHeartbeats 4000000 in
set_option maxRecDepth 100000 in
theorem t_X12_shownBy_b7 {X : Scr} {i0 : Nat} (h0 : KD[i0]? = some (.inl 12)) {k7 : Int32 → Int32 → Int32 → Mem → Option (Int32 × Mem)} (hk7 : ∀ (x1 : Int32) (x2 : Int32) (x3 : Int32) (M : Mem), T X eI (k7 x1 x2 x3 M) md_X12_shownBy 7 [(0, .ref i0), (1, .int x1), (2, .int x2), (3, .int x3)] [] M) (x1 : Int32) (x2 : Int32) (x3 : Int32) (M : Mem) : T X eI (X12_shownBy_b7 i0 k7 x1 x2 x3 M) md_X12_shownBy 7 [(0, .ref i0), (1, .int x1), (2, .int x2), (3, .int x3)] [] M := by
  unfold X12_shownBy_b7
  refine T_iload_n 3 dX12_shownBy_7 rfl rfl ?_
  refine T_bipush (v := (10 : Int32)) (by decide) dX12_shownBy_8 ?_
  refine T_icmp_ge 40 dX12_shownBy_10 (by decide) ?_ ?_
  ·
    refine T_iload_n 2 dX12_shownBy_40 rfl rfl ?_
    exact T_iret dX12_shownBy_41 rfl
  ·
    refine T_iload_n 2 dX12_shownBy_13 rfl rfl ?_
    refine T_iload_n 1 dX12_shownBy_14 rfl rfl ?_
    refine T_iload_n 3 dX12_shownBy_15 rfl rfl ?_
    refine T_callSI md_X12_isIn [.int x1, .int x3] [.int x2] dX12_shownBy_16 rfl ok_X12_isIn tb_895 tb_896 (by decide) (Nat.le_of_ble_eq_true rfl) (fun _ _ h9 => C_X12_isIn  _ _ h9) (fun r1 M1 => ?_)
    dsimp only
    refine T_if_eq 31 dX12_shownBy_19 (by decide) ?_ ?_
    ·
      refine T_iconst (v := (0 : Int32)) (by decide) dX12_shownBy_31 ?_
      refine T_sub [0, 1, 3] (lv' := [(0, .ref i0), (1, .int x1), (3, .int x3)]) rfl ?_
      exact t_X12_shownBy_b32 h0 hk7 _ _ _ _ _
    ·
      refine T_aload_n 0 dX12_shownBy_22 rfl rfl ?_
      refine T_getR 1 FOk_12 h0 (by decide) (by decide) dX12_shownBy_23 tb_714 ?_
      refine T_iload_n 3 dX12_shownBy_26 rfl rfl ?_
      refine T_iald (kf_12_1 h0) dX12_shownBy_27 ?_
      refine T_goto 32 dX12_shownBy_28 (by decide) ?_
      refine T_sub [0, 1, 3] (lv' := [(0, .ref i0), (1, .int x1), (3, .int x3)]) rfl ?_
      exact t_X12_shownBy_b32 h0 hk7 _ _ _ _ _
theorem t_X12_shownBy_l7 {X : Scr} {i0 : Nat} (h0 : KD[i0]? = some (.inl 12)) (n : Nat) : ∀ (x1 : Int32) (x2 : Int32) (x3 : Int32) (M : Mem), T X eI (X12_shownBy_l7 i0  n x1 x2 x3 M) md_X12_shownBy 7 [(0, .ref i0), (1, .int x1), (2, .int x2), (3, .int x3)] [] M := by
  induction n with
  | zero => intro x1 x2 x3 M; exact T_none
  | succ n ih => intro x1 x2 x3 M; exact t_X12_shownBy_b7 h0 ih x1 x2 x3 M
set_option maxHeartbeats 4000000 in
set_option maxRecDepth 100000 in
theorem t_X12_shownBy {X : Scr} {i0 : Nat} (h0 : KD[i0]? = some (.inl 12)) (x1 : Int32) (M : Mem) : T X eI (X12_shownBy i0  x1 M) md_X12_shownBy 0 [(0, .ref i0), (1, .int x1)] [] M := by
  unfold X12_shownBy
  refine T_aload_n 0 dX12_shownBy_0 rfl rfl ?_
  refine T_getI 5 FOk_12 h0 (by decide) (by decide) dX12_shownBy_1 tb_718 ?_
  refine T_istore_n [(2, .int (M.1 i0 5)), (0, .ref i0), (1, .int x1)] dX12_shownBy_4 rfl (by decide) rfl ?_
  refine T_iconst (v := (0 : Int32)) (by decide) dX12_shownBy_5 ?_
  refine T_istore_n [(3, .int (0 : Int32)), (2, .int (M.1 i0 5)), (0, .ref i0), (1, .int x1)] dX12_shownBy_6 rfl (by decide) rfl ?_
  refine T_sub [2, 3, 1, 0] (lv' := [(0, .ref i0), (1, .int x1), (2, .int (M.1 i0 5)), (3, .int (0 : Int32))]) rfl ?_
  exact t_X12_shownBy_l7 h0  _ _ _ _ _
theorem C_X12_shownBy {X : Scr} {i0 : Nat} (h0 : KD[i0]? = some (.inl 12)) (x1 : Int32) {M : Mem} {r : Int32} {M' : Mem} (h : X12_shownBy i0 x1 M = some (r, M')) : Ct X md_X12_shownBy [.ref i0, .int x1] M (eI r) M' := Ct_of (by decide +kernel) (Nat.le_of_ble_eq_true rfl) (t_X12_shownBy h0 _ M) r M' h
-- X12_show
def X12_show_b22 (i0 : Nat)   (M : Mem) : Option (Int32 × Mem) :=
  some ((-2 : Int32), M)
def X12_show_b86 (i0 : Nat) (k31 : Int32 → Int32 → Int32 → Int32 → Mem → Option (Int32 × Mem)) (x1 : Int32) (x2 : Int32) (x4 : Int32) (s0 : Int32) (M : Mem) : Option (Int32 × Mem) :=
  k31 x1 x2 s0 (x4 + (1 : Int32)) M
def X12_show_b85 (i0 : Nat) (k31 : Int32 → Int32 → Int32 → Int32 → Mem → Option (Int32 × Mem)) (x1 : Int32) (x2 : Int32) (x3 : Int32) (x4 : Int32) (M : Mem) : Option (Int32 × Mem) :=
  X12_show_b86 i0 k31 x1 x2 x4 x3 M
def X12_show_b60 (i0 : Nat) (k31 : Int32 → Int32 → Int32 → Int32 → Mem → Option (Int32 × Mem)) (x1 : Int32) (x2 : Int32) (x3 : Int32) (x4 : Int32) (s0 : Int32) (M : Mem) : Option (Int32 × Mem) :=
  if s0 = 0 then
    X12_show_b85 i0 k31 x1 x2 x3 x4 M
  else
    (X12_shownBy i0 x4 M).bind (fun p1 =>
      if (x1 &&& (p1.1 ^^^ (-1 : Int32))) = 0 then
        X12_show_b86 i0 k31 x1 x2 x4 x4 p1.2
      else
        X12_show_b85 i0 k31 x1 x2 x3 x4 p1.2)
def X12_show_b55 (i0 : Nat) (k31 : Int32 → Int32 → Int32 → Int32 → Mem → Option (Int32 × Mem)) (x1 : Int32) (x2 : Int32) (x3 : Int32) (x4 : Int32) (M : Mem) : Option (Int32 × Mem) :=
  X12_show_b60 i0 k31 x1 x2 x3 x4 (1 : Int32) M
def X12_show_b110 (i0 : Nat)  (s0 : Int32) (M : Mem) : Option (Int32 × Mem) :=
  some (s0, M)
def X12_show_b102 (i0 : Nat)  (x3 : Int32) (M : Mem) : Option (Int32 × Mem) :=
  X12_show_b110 i0  x3 M
def X12_show_b31 (i0 : Nat) (k31 : Int32 → Int32 → Int32 → Int32 → Mem → Option (Int32 × Mem)) (x1 : Int32) (x2 : Int32) (x3 : Int32) (x4 : Int32) (M : Mem) : Option (Int32 × Mem) :=
  if (1024 : Int32) ≤ x4 then
    if x3 < 0 then
      X12_show_b102 i0  x3 M
    else
      if x2 = (1 : Int32) then
        X12_show_b102 i0  x3 M
      else
        (X12_ones  x3 M).bind (fun p1 =>
          X12_show_b110 i0  p1.1 p1.2)
  else
    if x3 < 0 then
      X12_show_b55 i0 k31 x1 x2 x3 x4 M
    else
      (X12_ones  x4 M).bind (fun p2 =>
        (X12_ones  x3 p2.2).bind (fun p3 =>
          if p3.1 ≤ p2.1 then
            X12_show_b60 i0 k31 x1 x2 x3 x4 (0 : Int32) p3.2
          else
            X12_show_b55 i0 k31 x1 x2 x3 x4 p3.2))
def X12_show_l31 (i0 : Nat)  : Nat → Int32 → Int32 → Int32 → Int32 → Mem → Option (Int32 × Mem)
  | 0 => fun _ _ _ _ _ => none
  | n + 1 => X12_show_b31 i0 (X12_show_l31 i0  n)
def X12_show (i0 : Nat)  (x1 : Int32) (x2 : Int32) (M : Mem) : Option (Int32 × Mem) :=
  (X12_in  x1.toInt64 (0 : Int64) (255 : Int64) M).bind (fun p1 =>
    if p1.1 = 0 then
      X12_show_b22 i0   p1.2
    else
      (X12_in  x2.toInt64 (0 : Int64) (1 : Int64) p1.2).bind (fun p2 =>
        if p2.1 = 0 then
          X12_show_b22 i0   p2.2
        else
          X12_show_l31 i0  FU x1 x2 (-6 : Int32) (0 : Int32) p2.2))
set_option maxHeartbeats 4000000 in
set_option maxRecDepth 100000 in
theorem t_X12_show_b22 {X : Scr} {i0 : Nat} (h0 : KD[i0]? = some (.inl 12))  (M : Mem) : T X eI (X12_show_b22 i0   M) md_X12_show 22 [] [] M := by
  unfold X12_show_b22
  refine T_bipush (v := (-2 : Int32)) (by decide) dX12_show_22 ?_
  exact T_iret dX12_show_24 rfl
set_option maxHeartbeats 4000000 in
set_option maxRecDepth 100000 in
theorem t_X12_show_b86 {X : Scr} {i0 : Nat} (h0 : KD[i0]? = some (.inl 12)) {k31 : Int32 → Int32 → Int32 → Int32 → Mem → Option (Int32 × Mem)} (hk31 : ∀ (x1 : Int32) (x2 : Int32) (x3 : Int32) (x4 : Int32) (M : Mem), T X eI (k31 x1 x2 x3 x4 M) md_X12_show 31 [(0, .ref i0), (1, .int x1), (2, .int x2), (3, .int x3), (4, .int x4)] [] M) (x1 : Int32) (x2 : Int32) (x4 : Int32) (s0 : Int32) (M : Mem) : T X eI (X12_show_b86 i0 k31 x1 x2 x4 s0 M) md_X12_show 86 [(0, .ref i0), (1, .int x1), (2, .int x2), (4, .int x4)] [.int s0] M := by
  unfold X12_show_b86
  refine T_istore_n [(3, .int s0), (0, .ref i0), (1, .int x1), (2, .int x2), (4, .int x4)] dX12_show_86 rfl (by decide) rfl ?_
  refine T_iinc 4 [(4, .int (x4 + (1 : Int32))), (3, .int s0), (0, .ref i0), (1, .int x1), (2, .int x2)] (v := (1 : Int32)) dX12_show_87 rfl (by decide) (by decide) rfl ?_
  refine T_goto 31 dX12_show_90 (by decide) ?_
  refine T_sub [2, 3, 4, 1, 0] (lv' := [(0, .ref i0), (1, .int x1), (2, .int x2), (3, .int s0), (4, .int (x4 + (1 : Int32)))]) rfl ?_
  exact hk31 _ _ _ _ _
set_option maxHeartbeats 4000000 in
set_option maxRecDepth 100000 in
theorem t_X12_show_b85 {X : Scr} {i0 : Nat} (h0 : KD[i0]? = some (.inl 12)) {k31 : Int32 → Int32 → Int32 → Int32 → Mem → Option (Int32 × Mem)} (hk31 : ∀ (x1 : Int32) (x2 : Int32) (x3 : Int32) (x4 : Int32) (M : Mem), T X eI (k31 x1 x2 x3 x4 M) md_X12_show 31 [(0, .ref i0), (1, .int x1), (2, .int x2), (3, .int x3), (4, .int x4)] [] M) (x1 : Int32) (x2 : Int32) (x3 : Int32) (x4 : Int32) (M : Mem) : T X eI (X12_show_b85 i0 k31 x1 x2 x3 x4 M) md_X12_show 85 [(0, .ref i0), (1, .int x1), (2, .int x2), (3, .int x3), (4, .int x4)] [] M := by
  unfold X12_show_b85
  refine T_iload_n 3 dX12_show_85 rfl rfl ?_
  refine T_sub [0, 1, 2, 4] (lv' := [(0, .ref i0), (1, .int x1), (2, .int x2), (4, .int x4)]) rfl ?_
  exact t_X12_show_b86 h0 hk31 _ _ _ _ _
set_option maxHeartbeats 4000000 in
set_option maxRecDepth 100000 in
theorem t_X12_show_b60 {X : Scr} {i0 : Nat} (h0 : KD[i0]? = some (.inl 12)) {k31 : Int32 → Int32 → Int32 → Int32 → Mem → Option (Int32 × Mem)} (hk31 : ∀ (x1 : Int32) (x2 : Int32) (x3 : Int32) (x4 : Int32) (M : Mem), T X eI (k31 x1 x2 x3 x4 M) md_X12_show 31 [(0, .ref i0), (1, .int x1), (2, .int x2), (3, .int x3), (4, .int x4)] [] M) (x1 : Int32) (x2 : Int32) (x3 : Int32) (x4 : Int32) (s0 : Int32) (M : Mem) : T X eI (X12_show_b60 i0 k31 x1 x2 x3 x4 s0 M) md_X12_show 60 [(0, .ref i0), (1, .int x1), (2, .int x2), (3, .int x3), (4, .int x4)] [.int s0] M := by
  unfold X12_show_b60
  refine T_istore [(5, .int s0), (0, .ref i0), (1, .int x1), (2, .int x2), (3, .int x3), (4, .int x4)] dX12_show_60 (by decide) rfl ?_
  refine T_iload 0 dX12_show_62 rfl ?_
  refine T_if_eq 85 dX12_show_64 (by decide) ?_ ?_
  ·
    refine T_sub [1, 2, 3, 4, 5] (lv' := [(0, .ref i0), (1, .int x1), (2, .int x2), (3, .int x3), (4, .int x4)]) rfl ?_
    exact t_X12_show_b85 h0 hk31 _ _ _ _ _
  ·
    refine T_iload_n 2 dX12_show_67 rfl rfl ?_
    refine T_aload_n 1 dX12_show_68 rfl rfl ?_
    refine T_iload 5 dX12_show_69 rfl ?_
    refine T_callVI md_X12_shownBy [.int x4] [.int x1] dX12_show_71 h0 rfl rfl ok_X12_shownBy tb_972 tb_974 tb_31 (by decide) (Nat.le_of_ble_eq_true rfl) (fun _ _ h9 => C_X12_shownBy h0 _ h9) (fun r1 M1 => ?_)
    dsimp only
    refine T_iconst (v := (-1 : Int32)) (by decide) dX12_show_74 ?_
    refine T_ixor dX12_show_75 ?_
    refine T_iand dX12_show_76 ?_
    refine T_if_ne 85 dX12_show_77 (by decide) ?_ ?_
    ·
      refine T_iload 5 dX12_show_80 rfl ?_
      refine T_goto 86 dX12_show_82 (by decide) ?_
      refine T_sub [1, 2, 3, 5] (lv' := [(0, .ref i0), (1, .int x1), (2, .int x2), (4, .int x4)]) rfl ?_
      exact t_X12_show_b86 h0 hk31 _ _ _ _ _
    ·
      refine T_sub [1, 2, 3, 4, 5] (lv' := [(0, .ref i0), (1, .int x1), (2, .int x2), (3, .int x3), (4, .int x4)]) rfl ?_
      exact t_X12_show_b85 h0 hk31 _ _ _ _ _
set_option maxHeartbeats 4000000 in
set_option maxRecDepth 100000 in
theorem t_X12_show_b55 {X : Scr} {i0 : Nat} (h0 : KD[i0]? = some (.inl 12)) {k31 : Int32 → Int32 → Int32 → Int32 → Mem → Option (Int32 × Mem)} (hk31 : ∀ (x1 : Int32) (x2 : Int32) (x3 : Int32) (x4 : Int32) (M : Mem), T X eI (k31 x1 x2 x3 x4 M) md_X12_show 31 [(0, .ref i0), (1, .int x1), (2, .int x2), (3, .int x3), (4, .int x4)] [] M) (x1 : Int32) (x2 : Int32) (x3 : Int32) (x4 : Int32) (M : Mem) : T X eI (X12_show_b55 i0 k31 x1 x2 x3 x4 M) md_X12_show 55 [(0, .ref i0), (1, .int x1), (2, .int x2), (3, .int x3), (4, .int x4)] [] M := by
  unfold X12_show_b55
  refine T_iconst (v := (1 : Int32)) (by decide) dX12_show_55 ?_
  refine T_goto 60 dX12_show_56 (by decide) ?_
  exact t_X12_show_b60 h0 hk31 _ _ _ _ _ _
set_option maxHeartbeats 4000000 in
set_option maxRecDepth 100000 in
theorem t_X12_show_b110 {X : Scr} {i0 : Nat} (h0 : KD[i0]? = some (.inl 12)) (s0 : Int32) (M : Mem) : T X eI (X12_show_b110 i0  s0 M) md_X12_show 110 [] [.int s0] M := by
  unfold X12_show_b110
  exact T_iret dX12_show_110 rfl
set_option maxHeartbeats 4000000 in
set_option maxRecDepth 100000 in
theorem t_X12_show_b102 {X : Scr} {i0 : Nat} (h0 : KD[i0]? = some (.inl 12)) (x3 : Int32) (M : Mem) : T X eI (X12_show_b102 i0  x3 M) md_X12_show 102 [(3, .int x3)] [] M := by
  unfold X12_show_b102
  refine T_iload_n 0 dX12_show_102 rfl rfl ?_
  refine T_goto 110 dX12_show_103 (by decide) ?_
  refine T_sub [] (lv' := []) rfl ?_
  exact t_X12_show_b110 h0  _ _
set_option maxHeartbeats 4000000 in
set_option maxRecDepth 100000 in
theorem t_X12_show_b31 {X : Scr} {i0 : Nat} (h0 : KD[i0]? = some (.inl 12)) {k31 : Int32 → Int32 → Int32 → Int32 → Mem → Option (Int32 × Mem)} (hk31 : ∀ (x1 : Int32) (x2 : Int32) (x3 : Int32) (x4 : Int32) (M : Mem), T X eI (k31 x1 x2 x3 x4 M) md_X12_show 31 [(0, .ref i0), (1, .int x1), (2, .int x2), (3, .int x3), (4, .int x4)] [] M) (x1 : Int32) (x2 : Int32) (x3 : Int32) (x4 : Int32) (M : Mem) : T X eI (X12_show_b31 i0 k31 x1 x2 x3 x4 M) md_X12_show 31 [(0, .ref i0), (1, .int x1), (2, .int x2), (3, .int x3), (4, .int x4)] [] M := by
  unfold X12_show_b31
  refine T_iload 4 dX12_show_31 rfl ?_
  refine T_sipush (v := (1024 : Int32)) (by decide) dX12_show_33 ?_
  refine T_icmp_ge 93 dX12_show_36 (by decide) ?_ ?_
  ·
    refine T_iload_n 3 dX12_show_93 rfl rfl ?_
    refine T_if_lt 102 dX12_show_94 (by decide) ?_ ?_
    ·
      refine T_sub [3] (lv' := [(3, .int x3)]) rfl ?_
      exact t_X12_show_b102 h0  _ _
    ·
      refine T_iload_n 2 dX12_show_97 rfl rfl ?_
      refine T_iconst (v := (1 : Int32)) (by decide) dX12_show_98 ?_
      refine T_icmp_ne 106 dX12_show_99 (by decide) ?_ ?_
      ·
        refine T_sub [3] (lv' := [(3, .int x3)]) rfl ?_
        exact t_X12_show_b102 h0  _ _
      ·
        refine T_iload_n 3 dX12_show_106 rfl rfl ?_
        refine T_callSI md_X12_ones [.int x3] [] dX12_show_107 rfl ok_X12_ones tb_955 tb_956 (by decide) (Nat.le_of_ble_eq_true rfl) (fun _ _ h9 => C_X12_ones  _ h9) (fun r1 M1 => ?_)
        dsimp only
        refine T_sub [] (lv' := []) rfl ?_
        exact t_X12_show_b110 h0  _ _
  ·
    refine T_iload_n 3 dX12_show_39 rfl rfl ?_
    refine T_if_lt 55 dX12_show_40 (by decide) ?_ ?_
    ·
      exact t_X12_show_b55 h0 hk31 _ _ _ _ _
    ·
      refine T_iload 4 dX12_show_43 rfl ?_
      refine T_callSI md_X12_ones [.int x4] [] dX12_show_45 rfl ok_X12_ones tb_955 tb_956 (by decide) (Nat.le_of_ble_eq_true rfl) (fun _ _ h9 => C_X12_ones  _ h9) (fun r2 M2 => ?_)
      dsimp only
      refine T_iload_n 3 dX12_show_48 rfl rfl ?_
      refine T_callSI md_X12_ones [.int x3] [.int r2] dX12_show_49 rfl ok_X12_ones tb_955 tb_956 (by decide) (Nat.le_of_ble_eq_true rfl) (fun _ _ h9 => C_X12_ones  _ h9) (fun r3 M3 => ?_)
      dsimp only
      refine T_icmp_ge 59 dX12_show_52 (by decide) ?_ ?_
      ·
        refine T_iconst (v := (0 : Int32)) (by decide) dX12_show_59 ?_
        exact t_X12_show_b60 h0 hk31 _ _ _ _ _ _
      ·
        exact t_X12_show_b55 h0 hk31 _ _ _ _ _
theorem t_X12_show_l31 {X : Scr} {i0 : Nat} (h0 : KD[i0]? = some (.inl 12)) (n : Nat) : ∀ (x1 : Int32) (x2 : Int32) (x3 : Int32) (x4 : Int32) (M : Mem), T X eI (X12_show_l31 i0  n x1 x2 x3 x4 M) md_X12_show 31 [(0, .ref i0), (1, .int x1), (2, .int x2), (3, .int x3), (4, .int x4)] [] M := by
  induction n with
  | zero => intro x1 x2 x3 x4 M; exact T_none
  | succ n ih => intro x1 x2 x3 x4 M; exact t_X12_show_b31 h0 ih x1 x2 x3 x4 M
set_option maxHeartbeats 4000000 in
set_option maxRecDepth 100000 in
theorem t_X12_show {X : Scr} {i0 : Nat} (h0 : KD[i0]? = some (.inl 12)) (x1 : Int32) (x2 : Int32) (M : Mem) : T X eI (X12_show i0  x1 x2 M) md_X12_show 0 [(0, .ref i0), (1, .int x1), (2, .int x2)] [] M := by
  unfold X12_show
  refine T_iload_n 1 dX12_show_0 rfl rfl ?_
  refine T_i2l dX12_show_1 ?_
  refine T_lconst (v := (0 : Int64)) (by decide) dX12_show_2 ?_
  refine T_ldc2 (v := (255 : Int64)) dX12_show_3 tb_819 ?_
  refine T_callSI md_X12_in [.long x1.toInt64, .long (0 : Int64), .long (255 : Int64)] [] dX12_show_6 rfl ok_X12_in tb_816 tb_817 (by decide) (Nat.le_of_ble_eq_true rfl) (fun _ _ h9 => C_X12_in  _ _ _ h9) (fun r1 M1 => ?_)
  dsimp only
  refine T_if_eq 22 dX12_show_9 (by decide) ?_ ?_
  ·
    refine T_sub [] (lv' := []) rfl ?_
    exact t_X12_show_b22 h0   _
  ·
    refine T_iload_n 2 dX12_show_12 rfl rfl ?_
    refine T_i2l dX12_show_13 ?_
    refine T_lconst (v := (0 : Int64)) (by decide) dX12_show_14 ?_
    refine T_lconst (v := (1 : Int64)) (by decide) dX12_show_15 ?_
    refine T_callSI md_X12_in [.long x2.toInt64, .long (0 : Int64), .long (1 : Int64)] [] dX12_show_16 rfl ok_X12_in tb_816 tb_817 (by decide) (Nat.le_of_ble_eq_true rfl) (fun _ _ h9 => C_X12_in  _ _ _ h9) (fun r2 M2 => ?_)
    dsimp only
    refine T_if_ne 25 dX12_show_19 (by decide) ?_ ?_
    ·
      refine T_sub [] (lv' := []) rfl ?_
      exact t_X12_show_b22 h0   _
    ·
      refine T_bipush (v := (-6 : Int32)) (by decide) dX12_show_25 ?_
      refine T_istore_n [(3, .int (-6 : Int32)), (0, .ref i0), (1, .int x1), (2, .int x2)] dX12_show_27 rfl (by decide) rfl ?_
      refine T_iconst (v := (0 : Int32)) (by decide) dX12_show_28 ?_
      refine T_istore [(4, .int (0 : Int32)), (3, .int (-6 : Int32)), (0, .ref i0), (1, .int x1), (2, .int x2)] dX12_show_29 (by decide) rfl ?_
      refine T_sub [2, 3, 4, 1, 0] (lv' := [(0, .ref i0), (1, .int x1), (2, .int x2), (3, .int (-6 : Int32)), (4, .int (0 : Int32))]) rfl ?_
      exact t_X12_show_l31 h0  _ _ _ _ _ _
theorem C_X12_show {X : Scr} {i0 : Nat} (h0 : KD[i0]? = some (.inl 12)) (x1 : Int32) (x2 : Int32) {M : Mem} {r : Int32} {M' : Mem} (h : X12_show i0 x1 x2 M = some (r, M')) : Ct X md_X12_show [.ref i0, .int x1, .int x2] M (eI r) M' := Ct_of (by decide +kernel) (Nat.le_of_ble_eq_true rfl) (t_X12_show h0 _ _ M) r M' h
