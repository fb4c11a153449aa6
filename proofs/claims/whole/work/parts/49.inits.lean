/-! THE THIRTEEN CONSTRUCTORS (laid by wip/whole/tool/ctor.py) -/
def fl : Nat → Nat → (Nat → Int32) → Nat → Int32
  | 0, _, f => f
  | r + 1, i, f => fl r (i + 1) (upd f i (nI i))
def gl : Nat → Nat → (Nat → Int32) → Nat → Int32
  | 0, _, f => f
  | r + 1, i, f => gl r (i + 1) (upd f i 3)
def md_X0_init : MD := (yX0_init, cX0_init, 2, none, 1, 12)
def w0_X0 (h : Nat) : va_W := [(h, .inr (0, [.null, .null, .null, .int 0, .int 0, .int 0, .int 0, .int 0]))]
def w1_X0 (cI cL cZ : ClassId) (h : Nat) (u : Nat → Nat) : va_W := [(h, .inr (0, [.ref (u 0), .ref (u 1), .ref (u 2), .int 0, .int 0, .int 0, .int 0, .int 60])), ((u 0), .inl (cI, 10, .inl (fl 10 0 (fun _ => 0)))), ((u 1), .inl (cI, 10, .inl (fun _ => 0))), ((u 2), .inl (cI, 10, .inl (gl 10 0 (fun _ => 0))))]
theorem mok_X0 : MOk md_X0_init 0 := ⟨tc_72, tc_45, by decide +kernel, by decide +kernel, by decide +kernel⟩
set_option maxHeartbeats 1000000 in
theorem loop_X0 {l : Launch} {D : va_G} {cI cL cZ : ClassId} {h a d : Nat} {p : Program} {e : Env} {R : Room} {s : State} {m : MethodId} {args : Array Value} {below : List Frame} {meth : Method} {c : Code} {A : Nat → Prop} {Q : State → Prop} {H0 : Heap} {cells slots : Nat} {fs : List Value} {t1 : Nat × va_E} {Z : va_W} (hC : CxC md_X0_init p s m args c) (hK : va_K D vwCl (tyC cI cL cZ) s) (h0 : fs[0]? = some (.ref a)) (h2 : fs[2]? = some (.ref d)) : ∀ (r i : Nat), i + r = 10 → ∀ (f g : Nat → Int32) (H : Heap) (locs : List Loc) (ls : Array Slot), va_P D vwCl ((h, .inr (0, fs)) :: (a, .inl (cI, 10, .inl f)) :: t1 :: (d, .inl (cI, 10, .inl g)) :: Z) H → va_D A ((h, .inr (0, fs)) :: (a, .inl (cI, 10, .inl f)) :: t1 :: (d, .inl (cI, 10, .inl g)) :: Z) → va_S A H0 H locs → lv_has ls 2 [(1, .int (nI i)), (0, .ref h)] →
    (∀ (H : Heap) (locs : List Loc) (ls : Array Slot), va_P D vwCl ((h, .inr (0, fs)) :: (a, .inl (cI, 10, .inl (fl r i f))) :: t1 :: (d, .inl (cI, 10, .inl (gl r i g))) :: Z) H → va_D A ((h, .inr (0, fs)) :: (a, .inl (cI, 10, .inl (fl r i f))) :: t1 :: (d, .inl (cI, 10, .inl (gl r i g))) :: Z) → va_S A H0 H locs → lv_has ls 2 [(0, .ref h)] → W p l e R s m args below meth c H locs cells slots Q (F0 m 56 ls [])) →
    W p l e R s m args below meth c H locs cells slots Q (F0 m 30 ls []) := by
  intro r
  induction r with
  | zero =>
    intro i hi f g H locs ls hP hD hS hl kk
    refine lv_iload_n hC.1 hC.2.1 dX0_init_30 rfl (lv_at hl 0 rfl) ?_
    refine lv_bipush (v := nI 10) hC.1 hC.2.1 dX0_init_31 (by decide +kernel) ?_
    refine lv_icmp_ge (tgt := 56) hC.1 hC.2.1 dX0_init_33 (by decide) (fun c1 => ?_) (fun c1 => ?_)
    · exact kk H locs ls hP hD hS (lv_sub hl [1] rfl)
    · exact absurd (nI_le (by omega) (by omega)) c1
  | succ r ih =>
    intro i hi f g H locs ls hP hD hS hl kk
    refine lv_iload_n hC.1 hC.2.1 dX0_init_30 rfl (lv_at hl 0 rfl) ?_
    refine lv_bipush (v := nI 10) hC.1 hC.2.1 dX0_init_31 (by decide +kernel) ?_
    refine lv_icmp_ge (tgt := 56) hC.1 hC.2.1 dX0_init_33 (by decide) (fun c1 => ?_) (fun c1 => ?_)
    · exact absurd c1 (nI_ge (by omega) (by omega))
    · refine lv_aload_n hC.1 hC.2.1 dX0_init_36 rfl (lv_at hl 1 rfl) ?_
      refine c_get 0 0 hC hK hP rfl FOk_0 (Nat.le_of_ble_eq_true rfl) tc_74 h0 dX0_init_37 ?_
      refine lv_iload_n hC.1 hC.2.1 dX0_init_40 rfl (lv_at hl 0 rfl) ?_
      refine lv_iload_n hC.1 hC.2.1 dX0_init_41 rfl (lv_at hl 0 rfl) ?_
      refine c_iast 1 ((h, .inr (0, fs)) :: (a, .inl (cI, 10, .inl (upd f i (nI i)))) :: t1 :: (d, .inl (cI, 10, .inl g)) :: Z) hC hK hP hD hS rfl (by omega) (by omega) dX0_init_42 rfl (fun H locs hP hD hS => ?_)
      refine lv_aload_n hC.1 hC.2.1 dX0_init_43 rfl (lv_at hl 1 rfl) ?_
      refine c_get 0 2 hC hK hP rfl FOk_0 (Nat.le_of_ble_eq_true rfl) tc_82 h2 dX0_init_44 ?_
      refine lv_iload_n hC.1 hC.2.1 dX0_init_47 rfl (lv_at hl 0 rfl) ?_
      refine lv_iconst (v := 3) hC.1 hC.2.1 dX0_init_48 (by decide +kernel) ?_
      refine c_iast 3 ((h, .inr (0, fs)) :: (a, .inl (cI, 10, .inl (upd f i (nI i)))) :: t1 :: (d, .inl (cI, 10, .inl (upd g i 3))) :: Z) hC hK hP hD hS rfl (by omega) (by omega) dX0_init_49 rfl (fun H locs hP hD hS => ?_)
      refine lv_iinc (v := nI (i + 1)) (lv' := [(1, .int (nI (i + 1))), (0, .ref h)]) hC.1 hC.2.1 dX0_init_50 hl (k := 0) rfl (by rw [show Int32.ofInt 1 = 1 from by decide +kernel]; exact nI_1 i) (by decide) rfl (fun ls hl => ?_)
      refine lv_goto (tgt := 30) hC.1 hC.2.1 dX0_init_53 (by decide) ?_
      exact ih (i + 1) (by omega) (upd f i (nI i)) (upd g i 3) H locs ls hP hD hS hl kk
set_option maxHeartbeats 4000000 in
set_option maxRecDepth 100000 in
theorem k_X0 : CtC md_X0_init 3 30 w0_X0 w1_X0 := by
  refine CtC_of (by decide +kernel) (Nat.le_of_ble_eq_true rfl) rfl rfl ?_
  intro l D cI cL cZ h p e s m below meth c A Q ls hC hin hK hP hD hA hl hend
  have hS : va_S A s.heap s.heap [] := va_S.rf
  have hP : va_P D vwCl [(h, .inr (0, [.null, .null, .null, .int 0, .int 0, .int 0, .int 0, .int 0]))] s.heap := hP
  have hD : va_D A [(h, .inr (0, [.null, .null, .null, .int 0, .int 0, .int 0, .int 0, .int 0]))] := hD
  refine lv_aload_n hC.1 hC.2.1 dX0_init_0 rfl (lv_at hl 0 rfl) ?_
  refine c_obj hC hl tc_73 dX0_init_1 (Nat.le_of_ble_eq_true rfl) (Nat.le_of_ble_eq_true rfl) ?_
  refine lv_aload_n hC.1 hC.2.1 dX0_init_4 rfl (lv_at hl 0 rfl) ?_
  refine lv_bipush (v := 10) hC.1 hC.2.1 dX0_init_5 (by decide +kernel) ?_
  refine c_newI 10 hC hK hP hD hS hA (by decide +kernel) (by decide +kernel) (Nat.le_of_ble_eq_true rfl) (Nat.le_of_ble_eq_true rfl) (Nat.le_of_ble_eq_true rfl) dX0_init_7 (fun q1 H hP hD hS => ?_)
  have hP : va_P D vwCl [(h, .inr (0, [.null, .null, .null, .int 0, .int 0, .int 0, .int 0, .int 0])), (q1, .inl (cI, 10, .inl (fun _ => 0)))] H := hP
  have hD : va_D A [(h, .inr (0, [.null, .null, .null, .int 0, .int 0, .int 0, .int 0, .int 0])), (q1, .inl (cI, 10, .inl (fun _ => 0)))] := hD
  refine W.widen (k := 1) (n := 10) (Nat.le_of_ble_eq_true rfl) (Nat.le_of_ble_eq_true rfl) ?_
  refine c_putF 0 0 [(h, .inr (0, [.ref q1, .null, .null, .int 0, .int 0, .int 0, .int 0, .int 0])), (q1, .inl (cI, 10, .inl (fun _ => 0)))] hC hin hK hP hD hS rfl FOk_0 (Nat.le_of_ble_eq_true rfl) tc_74 rfl rfl (tyX0_ok 0 (by decide)) rfl rfl (Nat.le_of_ble_eq_true rfl) dX0_init_9 rfl (fun H locs hP hD hS => ?_)
  refine lv_aload_n hC.1 hC.2.1 dX0_init_12 rfl (lv_at hl 0 rfl) ?_
  refine lv_bipush (v := 10) hC.1 hC.2.1 dX0_init_13 (by decide +kernel) ?_
  refine c_newI 10 hC hK hP hD hS hA (by decide +kernel) (by decide +kernel) (Nat.le_of_ble_eq_true rfl) (Nat.le_of_ble_eq_true rfl) (Nat.le_of_ble_eq_true rfl) dX0_init_15 (fun q2 H hP hD hS => ?_)
  have hP : va_P D vwCl [(h, .inr (0, [.ref q1, .null, .null, .int 0, .int 0, .int 0, .int 0, .int 0])), (q1, .inl (cI, 10, .inl (fun _ => 0))), (q2, .inl (cI, 10, .inl (fun _ => 0)))] H := hP
  have hD : va_D A [(h, .inr (0, [.ref q1, .null, .null, .int 0, .int 0, .int 0, .int 0, .int 0])), (q1, .inl (cI, 10, .inl (fun _ => 0))), (q2, .inl (cI, 10, .inl (fun _ => 0)))] := hD
  refine W.widen (k := 2) (n := 20) (Nat.le_of_ble_eq_true rfl) (Nat.le_of_ble_eq_true rfl) ?_
  refine c_putF 0 1 [(h, .inr (0, [.ref q1, .ref q2, .null, .int 0, .int 0, .int 0, .int 0, .int 0])), (q1, .inl (cI, 10, .inl (fun _ => 0))), (q2, .inl (cI, 10, .inl (fun _ => 0)))] hC hin hK hP hD hS rfl FOk_0 (Nat.le_of_ble_eq_true rfl) tc_78 rfl rfl (tyX0_ok 1 (by decide)) rfl rfl (Nat.le_of_ble_eq_true rfl) dX0_init_17 rfl (fun H locs hP hD hS => ?_)
  refine lv_aload_n hC.1 hC.2.1 dX0_init_20 rfl (lv_at hl 0 rfl) ?_
  refine lv_bipush (v := 10) hC.1 hC.2.1 dX0_init_21 (by decide +kernel) ?_
  refine c_newI 10 hC hK hP hD hS hA (by decide +kernel) (by decide +kernel) (Nat.le_of_ble_eq_true rfl) (Nat.le_of_ble_eq_true rfl) (Nat.le_of_ble_eq_true rfl) dX0_init_23 (fun q3 H hP hD hS => ?_)
  have hP : va_P D vwCl [(h, .inr (0, [.ref q1, .ref q2, .null, .int 0, .int 0, .int 0, .int 0, .int 0])), (q1, .inl (cI, 10, .inl (fun _ => 0))), (q2, .inl (cI, 10, .inl (fun _ => 0))), (q3, .inl (cI, 10, .inl (fun _ => 0)))] H := hP
  have hD : va_D A [(h, .inr (0, [.ref q1, .ref q2, .null, .int 0, .int 0, .int 0, .int 0, .int 0])), (q1, .inl (cI, 10, .inl (fun _ => 0))), (q2, .inl (cI, 10, .inl (fun _ => 0))), (q3, .inl (cI, 10, .inl (fun _ => 0)))] := hD
  refine W.widen (k := 3) (n := 30) (Nat.le_of_ble_eq_true rfl) (Nat.le_of_ble_eq_true rfl) ?_
  refine c_putF 0 2 [(h, .inr (0, [.ref q1, .ref q2, .ref q3, .int 0, .int 0, .int 0, .int 0, .int 0])), (q1, .inl (cI, 10, .inl (fun _ => 0))), (q2, .inl (cI, 10, .inl (fun _ => 0))), (q3, .inl (cI, 10, .inl (fun _ => 0)))] hC hin hK hP hD hS rfl FOk_0 (Nat.le_of_ble_eq_true rfl) tc_82 rfl rfl (tyX0_ok 2 (by decide)) rfl rfl (Nat.le_of_ble_eq_true rfl) dX0_init_25 rfl (fun H locs hP hD hS => ?_)
  refine lv_iconst (v := nI 0) hC.1 hC.2.1 dX0_init_28 (by decide +kernel) ?_
  refine lv_istore_n (lv' := [(1, .int (nI 0)), (0, .ref h)]) hC.1 hC.2.1 dX0_init_29 rfl hl (by decide) rfl (fun ls hl => ?_)
  refine loop_X0 (Q := Q) hC hK rfl rfl 10 0 rfl (fun _ => 0) (fun _ => 0) _ _ ls hP hD hS hl (fun H locs ls hP hD hS hl => ?_)
  have hP : va_P D vwCl [(h, .inr (0, [.ref q1, .ref q2, .ref q3, .int 0, .int 0, .int 0, .int 0, .int 0])), (q1, .inl (cI, 10, .inl (fl 10 0 (fun _ => 0)))), (q2, .inl (cI, 10, .inl (fun _ => 0))), (q3, .inl (cI, 10, .inl (gl 10 0 (fun _ => 0))))] H := hP
  have hD : va_D A [(h, .inr (0, [.ref q1, .ref q2, .ref q3, .int 0, .int 0, .int 0, .int 0, .int 0])), (q1, .inl (cI, 10, .inl (fl 10 0 (fun _ => 0)))), (q2, .inl (cI, 10, .inl (fun _ => 0))), (q3, .inl (cI, 10, .inl (gl 10 0 (fun _ => 0))))] := hD
  refine lv_aload_n hC.1 hC.2.1 dX0_init_56 rfl (lv_at hl 0 rfl) ?_
  refine lv_bipush (v := 60) hC.1 hC.2.1 dX0_init_57 (by decide +kernel) ?_
  refine c_putI 0 7 [(h, .inr (0, [.ref q1, .ref q2, .ref q3, .int 0, .int 0, .int 0, .int 0, .int 60])), (q1, .inl (cI, 10, .inl (fl 10 0 (fun _ => 0)))), (q2, .inl (cI, 10, .inl (fun _ => 0))), (q3, .inl (cI, 10, .inl (gl 10 0 (fun _ => 0))))] hC hK hP hD hS rfl FOk_0 (Nat.le_of_ble_eq_true rfl) tc_97 rfl (tyX0_ok 7 (by decide)) (Nat.le_of_ble_eq_true rfl) dX0_init_59 rfl (fun H locs hP hD hS => ?_)
  exact hend (fun j => ([q1, q2, q3] : List Nat).getD j 0) _ _ 62 ls hP hD hS dX0_init_62
def md_X1_init : MD := (yX1_init, cX1_init, 1, none, 1, 12)
def w0_X1 (h : Nat) : va_W := [(h, .inr (1, [.null, .int 0, .int 0]))]
def w1_X1 (cI cL cZ : ClassId) (h : Nat) (u : Nat → Nat) : va_W := [(h, .inr (1, [.ref (u 0), .int 0, .int 0])), ((u 0), .inl (cI, 1024, .inl (fun _ => 0)))]
theorem mok_X1 : MOk md_X1_init 0 := ⟨tc_216, tc_50, by decide +kernel, by decide +kernel, by decide +kernel⟩
set_option maxHeartbeats 4000000 in
set_option maxRecDepth 100000 in
theorem k_X1 : CtC md_X1_init 1 1024 w0_X1 w1_X1 := by
  refine CtC_of (by decide +kernel) (Nat.le_of_ble_eq_true rfl) rfl rfl ?_
  intro l D cI cL cZ h p e s m below meth c A Q ls hC hin hK hP hD hA hl hend
  have hS : va_S A s.heap s.heap [] := va_S.rf
  have hP : va_P D vwCl [(h, .inr (1, [.null, .int 0, .int 0]))] s.heap := hP
  have hD : va_D A [(h, .inr (1, [.null, .int 0, .int 0]))] := hD
  refine lv_aload_n hC.1 hC.2.1 dX1_init_0 rfl (lv_at hl 0 rfl) ?_
  refine c_obj hC hl tc_217 dX1_init_1 (Nat.le_of_ble_eq_true rfl) (Nat.le_of_ble_eq_true rfl) ?_
  refine lv_aload_n hC.1 hC.2.1 dX1_init_4 rfl (lv_at hl 0 rfl) ?_
  refine lv_sipush (v := 1024) hC.1 hC.2.1 dX1_init_5 (by decide +kernel) ?_
  refine c_newI 1024 hC hK hP hD hS hA (by decide +kernel) (by decide +kernel) (Nat.le_of_ble_eq_true rfl) (Nat.le_of_ble_eq_true rfl) (Nat.le_of_ble_eq_true rfl) dX1_init_8 (fun q1 H hP hD hS => ?_)
  have hP : va_P D vwCl [(h, .inr (1, [.null, .int 0, .int 0])), (q1, .inl (cI, 1024, .inl (fun _ => 0)))] H := hP
  have hD : va_D A [(h, .inr (1, [.null, .int 0, .int 0])), (q1, .inl (cI, 1024, .inl (fun _ => 0)))] := hD
  refine W.widen (k := 1) (n := 1024) (Nat.le_of_ble_eq_true rfl) (Nat.le_of_ble_eq_true rfl) ?_
  refine c_putF 0 0 [(h, .inr (1, [.ref q1, .int 0, .int 0])), (q1, .inl (cI, 1024, .inl (fun _ => 0)))] hC hin hK hP hD hS rfl FOk_1 (Nat.le_of_ble_eq_true rfl) tc_218 rfl rfl (tyX1_ok 0 (by decide)) rfl rfl (Nat.le_of_ble_eq_true rfl) dX1_init_10 rfl (fun H locs hP hD hS => ?_)
  exact hend (fun j => ([q1] : List Nat).getD j 0) _ _ 13 ls hP hD hS dX1_init_13
def md_X3_init : MD := (yX3_init, cX3_init, 1, none, 1, 12)
def w0_X3 (h : Nat) : va_W := [(h, .inr (3, [.null, .int 0, .int 0]))]
def w1_X3 (cI cL cZ : ClassId) (h : Nat) (u : Nat → Nat) : va_W := [(h, .inr (3, [.ref (u 0), .int 0, .int 0])), ((u 0), .inl (cI, 6, .inl (fun _ => 0)))]
theorem mok_X3 : MOk md_X3_init 0 := ⟨tc_252, tc_52, by decide +kernel, by decide +kernel, by decide +kernel⟩
set_option maxHeartbeats 4000000 in
set_option maxRecDepth 100000 in
theorem k_X3 : CtC md_X3_init 1 6 w0_X3 w1_X3 := by
  refine CtC_of (by decide +kernel) (Nat.le_of_ble_eq_true rfl) rfl rfl ?_
  intro l D cI cL cZ h p e s m below meth c A Q ls hC hin hK hP hD hA hl hend
  have hS : va_S A s.heap s.heap [] := va_S.rf
  have hP : va_P D vwCl [(h, .inr (3, [.null, .int 0, .int 0]))] s.heap := hP
  have hD : va_D A [(h, .inr (3, [.null, .int 0, .int 0]))] := hD
  refine lv_aload_n hC.1 hC.2.1 dX3_init_0 rfl (lv_at hl 0 rfl) ?_
  refine c_obj hC hl tc_253 dX3_init_1 (Nat.le_of_ble_eq_true rfl) (Nat.le_of_ble_eq_true rfl) ?_
  refine lv_aload_n hC.1 hC.2.1 dX3_init_4 rfl (lv_at hl 0 rfl) ?_
  refine lv_bipush (v := 6) hC.1 hC.2.1 dX3_init_5 (by decide +kernel) ?_
  refine c_newI 6 hC hK hP hD hS hA (by decide +kernel) (by decide +kernel) (Nat.le_of_ble_eq_true rfl) (Nat.le_of_ble_eq_true rfl) (Nat.le_of_ble_eq_true rfl) dX3_init_7 (fun q1 H hP hD hS => ?_)
  have hP : va_P D vwCl [(h, .inr (3, [.null, .int 0, .int 0])), (q1, .inl (cI, 6, .inl (fun _ => 0)))] H := hP
  have hD : va_D A [(h, .inr (3, [.null, .int 0, .int 0])), (q1, .inl (cI, 6, .inl (fun _ => 0)))] := hD
  refine W.widen (k := 1) (n := 6) (Nat.le_of_ble_eq_true rfl) (Nat.le_of_ble_eq_true rfl) ?_
  refine c_putF 0 0 [(h, .inr (3, [.ref q1, .int 0, .int 0])), (q1, .inl (cI, 6, .inl (fun _ => 0)))] hC hin hK hP hD hS rfl FOk_3 (Nat.le_of_ble_eq_true rfl) tc_254 rfl rfl (tyX3_ok 0 (by decide)) rfl rfl (Nat.le_of_ble_eq_true rfl) dX3_init_9 rfl (fun H locs hP hD hS => ?_)
  exact hend (fun j => ([q1] : List Nat).getD j 0) _ _ 12 ls hP hD hS dX3_init_12
def md_X5_init : MD := (yX5_init, cX5_init, 1, none, 1, 12)
def w0_X5 (h : Nat) : va_W := [(h, .inr (5, [.null, .null, .int 0, .int 0, .int 0]))]
def w1_X5 (cI cL cZ : ClassId) (h : Nat) (u : Nat → Nat) : va_W := [(h, .inr (5, [.ref (u 0), .ref (u 1), .int 0, .int 0, .int 0])), ((u 0), .inl (cI, 64, .inl (fun _ => 0))), ((u 1), .inl (cI, 8, .inl (fun _ => 0)))]
theorem mok_X5 : MOk md_X5_init 0 := ⟨tc_270, tc_53, by decide +kernel, by decide +kernel, by decide +kernel⟩
set_option maxHeartbeats 4000000 in
set_option maxRecDepth 100000 in
theorem k_X5 : CtC md_X5_init 2 72 w0_X5 w1_X5 := by
  refine CtC_of (by decide +kernel) (Nat.le_of_ble_eq_true rfl) rfl rfl ?_
  intro l D cI cL cZ h p e s m below meth c A Q ls hC hin hK hP hD hA hl hend
  have hS : va_S A s.heap s.heap [] := va_S.rf
  have hP : va_P D vwCl [(h, .inr (5, [.null, .null, .int 0, .int 0, .int 0]))] s.heap := hP
  have hD : va_D A [(h, .inr (5, [.null, .null, .int 0, .int 0, .int 0]))] := hD
  refine lv_aload_n hC.1 hC.2.1 dX5_init_0 rfl (lv_at hl 0 rfl) ?_
  refine c_obj hC hl tc_271 dX5_init_1 (Nat.le_of_ble_eq_true rfl) (Nat.le_of_ble_eq_true rfl) ?_
  refine lv_aload_n hC.1 hC.2.1 dX5_init_4 rfl (lv_at hl 0 rfl) ?_
  refine lv_bipush (v := 64) hC.1 hC.2.1 dX5_init_5 (by decide +kernel) ?_
  refine c_newI 64 hC hK hP hD hS hA (by decide +kernel) (by decide +kernel) (Nat.le_of_ble_eq_true rfl) (Nat.le_of_ble_eq_true rfl) (Nat.le_of_ble_eq_true rfl) dX5_init_7 (fun q1 H hP hD hS => ?_)
  have hP : va_P D vwCl [(h, .inr (5, [.null, .null, .int 0, .int 0, .int 0])), (q1, .inl (cI, 64, .inl (fun _ => 0)))] H := hP
  have hD : va_D A [(h, .inr (5, [.null, .null, .int 0, .int 0, .int 0])), (q1, .inl (cI, 64, .inl (fun _ => 0)))] := hD
  refine W.widen (k := 1) (n := 64) (Nat.le_of_ble_eq_true rfl) (Nat.le_of_ble_eq_true rfl) ?_
  refine c_putF 0 0 [(h, .inr (5, [.ref q1, .null, .int 0, .int 0, .int 0])), (q1, .inl (cI, 64, .inl (fun _ => 0)))] hC hin hK hP hD hS rfl FOk_5 (Nat.le_of_ble_eq_true rfl) tc_272 rfl rfl (tyX5_ok 0 (by decide)) rfl rfl (Nat.le_of_ble_eq_true rfl) dX5_init_9 rfl (fun H locs hP hD hS => ?_)
  refine lv_aload_n hC.1 hC.2.1 dX5_init_12 rfl (lv_at hl 0 rfl) ?_
  refine lv_bipush (v := 8) hC.1 hC.2.1 dX5_init_13 (by decide +kernel) ?_
  refine c_newI 8 hC hK hP hD hS hA (by decide +kernel) (by decide +kernel) (Nat.le_of_ble_eq_true rfl) (Nat.le_of_ble_eq_true rfl) (Nat.le_of_ble_eq_true rfl) dX5_init_15 (fun q2 H hP hD hS => ?_)
  have hP : va_P D vwCl [(h, .inr (5, [.ref q1, .null, .int 0, .int 0, .int 0])), (q1, .inl (cI, 64, .inl (fun _ => 0))), (q2, .inl (cI, 8, .inl (fun _ => 0)))] H := hP
  have hD : va_D A [(h, .inr (5, [.ref q1, .null, .int 0, .int 0, .int 0])), (q1, .inl (cI, 64, .inl (fun _ => 0))), (q2, .inl (cI, 8, .inl (fun _ => 0)))] := hD
  refine W.widen (k := 2) (n := 72) (Nat.le_of_ble_eq_true rfl) (Nat.le_of_ble_eq_true rfl) ?_
  refine c_putF 0 1 [(h, .inr (5, [.ref q1, .ref q2, .int 0, .int 0, .int 0])), (q1, .inl (cI, 64, .inl (fun _ => 0))), (q2, .inl (cI, 8, .inl (fun _ => 0)))] hC hin hK hP hD hS rfl FOk_5 (Nat.le_of_ble_eq_true rfl) tc_274 rfl rfl (tyX5_ok 1 (by decide)) rfl rfl (Nat.le_of_ble_eq_true rfl) dX5_init_17 rfl (fun H locs hP hD hS => ?_)
  exact hend (fun j => ([q1, q2] : List Nat).getD j 0) _ _ 20 ls hP hD hS dX5_init_20
def md_X6_init : MD := (yX6_init, cX6_init, 1, none, 1, 12)
def w0_X6 (h : Nat) : va_W := [(h, .inr (6, [.null, .null, .int 0]))]
def w1_X6 (cI cL cZ : ClassId) (h : Nat) (u : Nat → Nat) : va_W := [(h, .inr (6, [.ref (u 0), .ref (u 1), .int 0])), ((u 0), .inl (cI, 256, .inl (fun _ => 0))), ((u 1), .inl (cI, 8, .inl (fun _ => 0)))]
theorem mok_X6 : MOk md_X6_init 0 := ⟨tc_234, tc_51, by decide +kernel, by decide +kernel, by decide +kernel⟩
set_option maxHeartbeats 4000000 in
set_option maxRecDepth 100000 in
theorem k_X6 : CtC md_X6_init 2 264 w0_X6 w1_X6 := by
  refine CtC_of (by decide +kernel) (Nat.le_of_ble_eq_true rfl) rfl rfl ?_
  intro l D cI cL cZ h p e s m below meth c A Q ls hC hin hK hP hD hA hl hend
  have hS : va_S A s.heap s.heap [] := va_S.rf
  have hP : va_P D vwCl [(h, .inr (6, [.null, .null, .int 0]))] s.heap := hP
  have hD : va_D A [(h, .inr (6, [.null, .null, .int 0]))] := hD
  refine lv_aload_n hC.1 hC.2.1 dX6_init_0 rfl (lv_at hl 0 rfl) ?_
  refine c_obj hC hl tc_235 dX6_init_1 (Nat.le_of_ble_eq_true rfl) (Nat.le_of_ble_eq_true rfl) ?_
  refine lv_aload_n hC.1 hC.2.1 dX6_init_4 rfl (lv_at hl 0 rfl) ?_
  refine lv_sipush (v := 256) hC.1 hC.2.1 dX6_init_5 (by decide +kernel) ?_
  refine c_newI 256 hC hK hP hD hS hA (by decide +kernel) (by decide +kernel) (Nat.le_of_ble_eq_true rfl) (Nat.le_of_ble_eq_true rfl) (Nat.le_of_ble_eq_true rfl) dX6_init_8 (fun q1 H hP hD hS => ?_)
  have hP : va_P D vwCl [(h, .inr (6, [.null, .null, .int 0])), (q1, .inl (cI, 256, .inl (fun _ => 0)))] H := hP
  have hD : va_D A [(h, .inr (6, [.null, .null, .int 0])), (q1, .inl (cI, 256, .inl (fun _ => 0)))] := hD
  refine W.widen (k := 1) (n := 256) (Nat.le_of_ble_eq_true rfl) (Nat.le_of_ble_eq_true rfl) ?_
  refine c_putF 0 0 [(h, .inr (6, [.ref q1, .null, .int 0])), (q1, .inl (cI, 256, .inl (fun _ => 0)))] hC hin hK hP hD hS rfl FOk_6 (Nat.le_of_ble_eq_true rfl) tc_236 rfl rfl (tyX6_ok 0 (by decide)) rfl rfl (Nat.le_of_ble_eq_true rfl) dX6_init_10 rfl (fun H locs hP hD hS => ?_)
  refine lv_aload_n hC.1 hC.2.1 dX6_init_13 rfl (lv_at hl 0 rfl) ?_
  refine lv_bipush (v := 8) hC.1 hC.2.1 dX6_init_14 (by decide +kernel) ?_
  refine c_newI 8 hC hK hP hD hS hA (by decide +kernel) (by decide +kernel) (Nat.le_of_ble_eq_true rfl) (Nat.le_of_ble_eq_true rfl) (Nat.le_of_ble_eq_true rfl) dX6_init_16 (fun q2 H hP hD hS => ?_)
  have hP : va_P D vwCl [(h, .inr (6, [.ref q1, .null, .int 0])), (q1, .inl (cI, 256, .inl (fun _ => 0))), (q2, .inl (cI, 8, .inl (fun _ => 0)))] H := hP
  have hD : va_D A [(h, .inr (6, [.ref q1, .null, .int 0])), (q1, .inl (cI, 256, .inl (fun _ => 0))), (q2, .inl (cI, 8, .inl (fun _ => 0)))] := hD
  refine W.widen (k := 2) (n := 264) (Nat.le_of_ble_eq_true rfl) (Nat.le_of_ble_eq_true rfl) ?_
  refine c_putF 0 1 [(h, .inr (6, [.ref q1, .ref q2, .int 0])), (q1, .inl (cI, 256, .inl (fun _ => 0))), (q2, .inl (cI, 8, .inl (fun _ => 0)))] hC hin hK hP hD hS rfl FOk_6 (Nat.le_of_ble_eq_true rfl) tc_237 rfl rfl (tyX6_ok 1 (by decide)) rfl rfl (Nat.le_of_ble_eq_true rfl) dX6_init_18 rfl (fun H locs hP hD hS => ?_)
  exact hend (fun j => ([q1, q2] : List Nat).getD j 0) _ _ 21 ls hP hD hS dX6_init_21
def md_X7_init : MD := (yX7_init, cX7_init, 1, none, 1, 12)
def w0_X7 (h : Nat) : va_W := [(h, .inr (7, [.null, .null, .int 0]))]
def w1_X7 (cI cL cZ : ClassId) (h : Nat) (u : Nat → Nat) : va_W := [(h, .inr (7, [.ref (u 0), .ref (u 1), .int 0])), ((u 0), .inl (cI, 8, .inl (fun _ => 0))), ((u 1), .inl (cI, 8, .inl (fun _ => 0)))]
theorem mok_X7 : MOk md_X7_init 0 := ⟨tc_122, tc_46, by decide +kernel, by decide +kernel, by decide +kernel⟩
set_option maxHeartbeats 4000000 in
set_option maxRecDepth 100000 in
theorem k_X7 : CtC md_X7_init 2 16 w0_X7 w1_X7 := by
  refine CtC_of (by decide +kernel) (Nat.le_of_ble_eq_true rfl) rfl rfl ?_
  intro l D cI cL cZ h p e s m below meth c A Q ls hC hin hK hP hD hA hl hend
  have hS : va_S A s.heap s.heap [] := va_S.rf
  have hP : va_P D vwCl [(h, .inr (7, [.null, .null, .int 0]))] s.heap := hP
  have hD : va_D A [(h, .inr (7, [.null, .null, .int 0]))] := hD
  refine lv_aload_n hC.1 hC.2.1 dX7_init_0 rfl (lv_at hl 0 rfl) ?_
  refine c_obj hC hl tc_123 dX7_init_1 (Nat.le_of_ble_eq_true rfl) (Nat.le_of_ble_eq_true rfl) ?_
  refine lv_aload_n hC.1 hC.2.1 dX7_init_4 rfl (lv_at hl 0 rfl) ?_
  refine lv_bipush (v := 8) hC.1 hC.2.1 dX7_init_5 (by decide +kernel) ?_
  refine c_newI 8 hC hK hP hD hS hA (by decide +kernel) (by decide +kernel) (Nat.le_of_ble_eq_true rfl) (Nat.le_of_ble_eq_true rfl) (Nat.le_of_ble_eq_true rfl) dX7_init_7 (fun q1 H hP hD hS => ?_)
  have hP : va_P D vwCl [(h, .inr (7, [.null, .null, .int 0])), (q1, .inl (cI, 8, .inl (fun _ => 0)))] H := hP
  have hD : va_D A [(h, .inr (7, [.null, .null, .int 0])), (q1, .inl (cI, 8, .inl (fun _ => 0)))] := hD
  refine W.widen (k := 1) (n := 8) (Nat.le_of_ble_eq_true rfl) (Nat.le_of_ble_eq_true rfl) ?_
  refine c_putF 0 0 [(h, .inr (7, [.ref q1, .null, .int 0])), (q1, .inl (cI, 8, .inl (fun _ => 0)))] hC hin hK hP hD hS rfl FOk_7 (Nat.le_of_ble_eq_true rfl) tc_124 rfl rfl (tyX7_ok 0 (by decide)) rfl rfl (Nat.le_of_ble_eq_true rfl) dX7_init_9 rfl (fun H locs hP hD hS => ?_)
  refine lv_aload_n hC.1 hC.2.1 dX7_init_12 rfl (lv_at hl 0 rfl) ?_
  refine lv_bipush (v := 8) hC.1 hC.2.1 dX7_init_13 (by decide +kernel) ?_
  refine c_newI 8 hC hK hP hD hS hA (by decide +kernel) (by decide +kernel) (Nat.le_of_ble_eq_true rfl) (Nat.le_of_ble_eq_true rfl) (Nat.le_of_ble_eq_true rfl) dX7_init_15 (fun q2 H hP hD hS => ?_)
  have hP : va_P D vwCl [(h, .inr (7, [.ref q1, .null, .int 0])), (q1, .inl (cI, 8, .inl (fun _ => 0))), (q2, .inl (cI, 8, .inl (fun _ => 0)))] H := hP
  have hD : va_D A [(h, .inr (7, [.ref q1, .null, .int 0])), (q1, .inl (cI, 8, .inl (fun _ => 0))), (q2, .inl (cI, 8, .inl (fun _ => 0)))] := hD
  refine W.widen (k := 2) (n := 16) (Nat.le_of_ble_eq_true rfl) (Nat.le_of_ble_eq_true rfl) ?_
  refine c_putF 0 1 [(h, .inr (7, [.ref q1, .ref q2, .int 0])), (q1, .inl (cI, 8, .inl (fun _ => 0))), (q2, .inl (cI, 8, .inl (fun _ => 0)))] hC hin hK hP hD hS rfl FOk_7 (Nat.le_of_ble_eq_true rfl) tc_126 rfl rfl (tyX7_ok 1 (by decide)) rfl rfl (Nat.le_of_ble_eq_true rfl) dX7_init_17 rfl (fun H locs hP hD hS => ?_)
  exact hend (fun j => ([q1, q2] : List Nat).getD j 0) _ _ 20 ls hP hD hS dX7_init_20
def md_X8_init : MD := (yX8_init, cX8_init, 1, none, 1, 12)
def w0_X8 (h : Nat) : va_W := [(h, .inr (8, [.null, .int 0]))]
def w1_X8 (cI cL cZ : ClassId) (h : Nat) (u : Nat → Nat) : va_W := [(h, .inr (8, [.ref (u 0), .int 0])), ((u 0), .inl (cI, 60, .inl (fun _ => 0)))]
theorem mok_X8 : MOk md_X8_init 0 := ⟨tc_142, tc_47, by decide +kernel, by decide +kernel, by decide +kernel⟩
set_option maxHeartbeats 4000000 in
set_option maxRecDepth 100000 in
theorem k_X8 : CtC md_X8_init 1 60 w0_X8 w1_X8 := by
  refine CtC_of (by decide +kernel) (Nat.le_of_ble_eq_true rfl) rfl rfl ?_
  intro l D cI cL cZ h p e s m below meth c A Q ls hC hin hK hP hD hA hl hend
  have hS : va_S A s.heap s.heap [] := va_S.rf
  have hP : va_P D vwCl [(h, .inr (8, [.null, .int 0]))] s.heap := hP
  have hD : va_D A [(h, .inr (8, [.null, .int 0]))] := hD
  refine lv_aload_n hC.1 hC.2.1 dX8_init_0 rfl (lv_at hl 0 rfl) ?_
  refine c_obj hC hl tc_143 dX8_init_1 (Nat.le_of_ble_eq_true rfl) (Nat.le_of_ble_eq_true rfl) ?_
  refine lv_aload_n hC.1 hC.2.1 dX8_init_4 rfl (lv_at hl 0 rfl) ?_
  refine lv_bipush (v := 60) hC.1 hC.2.1 dX8_init_5 (by decide +kernel) ?_
  refine c_newI 60 hC hK hP hD hS hA (by decide +kernel) (by decide +kernel) (Nat.le_of_ble_eq_true rfl) (Nat.le_of_ble_eq_true rfl) (Nat.le_of_ble_eq_true rfl) dX8_init_7 (fun q1 H hP hD hS => ?_)
  have hP : va_P D vwCl [(h, .inr (8, [.null, .int 0])), (q1, .inl (cI, 60, .inl (fun _ => 0)))] H := hP
  have hD : va_D A [(h, .inr (8, [.null, .int 0])), (q1, .inl (cI, 60, .inl (fun _ => 0)))] := hD
  refine W.widen (k := 1) (n := 60) (Nat.le_of_ble_eq_true rfl) (Nat.le_of_ble_eq_true rfl) ?_
  refine c_putF 0 0 [(h, .inr (8, [.ref q1, .int 0])), (q1, .inl (cI, 60, .inl (fun _ => 0)))] hC hin hK hP hD hS rfl FOk_8 (Nat.le_of_ble_eq_true rfl) tc_144 rfl rfl (tyX8_ok 0 (by decide)) rfl rfl (Nat.le_of_ble_eq_true rfl) dX8_init_9 rfl (fun H locs hP hD hS => ?_)
  exact hend (fun j => ([q1] : List Nat).getD j 0) _ _ 12 ls hP hD hS dX8_init_12
def md_X9_init : MD := (yX9_init, cX9_init, 1, none, 1, 12)
def w0_X9 (h : Nat) : va_W := [(h, .inr (9, [.null, .long 0]))]
def w1_X9 (cI cL cZ : ClassId) (h : Nat) (u : Nat → Nat) : va_W := [(h, .inr (9, [.ref (u 0), .long 0])), ((u 0), .inl (cL, 13, .inr (.inl (fun _ => 0))))]
theorem mok_X9 : MOk md_X9_init 0 := ⟨tc_306, tc_55, by decide +kernel, by decide +kernel, by decide +kernel⟩
set_option maxHeartbeats 4000000 in
set_option maxRecDepth 100000 in
theorem k_X9 : CtC md_X9_init 1 13 w0_X9 w1_X9 := by
  refine CtC_of (by decide +kernel) (Nat.le_of_ble_eq_true rfl) rfl rfl ?_
  intro l D cI cL cZ h p e s m below meth c A Q ls hC hin hK hP hD hA hl hend
  have hS : va_S A s.heap s.heap [] := va_S.rf
  have hP : va_P D vwCl [(h, .inr (9, [.null, .long 0]))] s.heap := hP
  have hD : va_D A [(h, .inr (9, [.null, .long 0]))] := hD
  refine lv_aload_n hC.1 hC.2.1 dX9_init_0 rfl (lv_at hl 0 rfl) ?_
  refine c_obj hC hl tc_307 dX9_init_1 (Nat.le_of_ble_eq_true rfl) (Nat.le_of_ble_eq_true rfl) ?_
  refine lv_aload_n hC.1 hC.2.1 dX9_init_4 rfl (lv_at hl 0 rfl) ?_
  refine lv_bipush (v := 13) hC.1 hC.2.1 dX9_init_5 (by decide +kernel) ?_
  refine c_newL 13 hC hK hP hD hS hA (by decide +kernel) (by decide +kernel) (Nat.le_of_ble_eq_true rfl) (Nat.le_of_ble_eq_true rfl) (Nat.le_of_ble_eq_true rfl) dX9_init_7 (fun q1 H hP hD hS => ?_)
  have hP : va_P D vwCl [(h, .inr (9, [.null, .long 0])), (q1, .inl (cL, 13, .inr (.inl (fun _ => 0))))] H := hP
  have hD : va_D A [(h, .inr (9, [.null, .long 0])), (q1, .inl (cL, 13, .inr (.inl (fun _ => 0))))] := hD
  refine W.widen (k := 1) (n := 13) (Nat.le_of_ble_eq_true rfl) (Nat.le_of_ble_eq_true rfl) ?_
  refine c_putF 0 0 [(h, .inr (9, [.ref q1, .long 0])), (q1, .inl (cL, 13, .inr (.inl (fun _ => 0))))] hC hin hK hP hD hS rfl FOk_9 (Nat.le_of_ble_eq_true rfl) tc_308 rfl rfl (tyX9_ok 0 (by decide)) rfl rfl (Nat.le_of_ble_eq_true rfl) dX9_init_9 rfl (fun H locs hP hD hS => ?_)
  exact hend (fun j => ([q1] : List Nat).getD j 0) _ _ 12 ls hP hD hS dX9_init_12
def tf : Nat → Nat → (Nat → Int32) → Nat → Int32
  | 0, _, f => f
  | r + 1, i, f => tf r (i + 1) (upd f i (-6))
def tl : Nat → Nat → Nat → (Nat → Int32) → Nat → Int32
  | 0, _, _, f => f
  | r + 1, i, d, f => if f i = -6 then (if 20 < i + d then tl r (i + 1) (d + 1) (upd f i (nI (i + d))) else tl r (i + 1) (d + 1) (upd (upd f i (nI (i + d))) (i + d) (nI i))) else tl r (i + 1) d f
def md_X10_init : MD := (yX10_init, cX10_init, 3, none, 1, 12)
def w0_X10 (h : Nat) : va_W := [(h, .inr (10, [.null]))]
def w1_X10 (cI cL cZ : ClassId) (h : Nat) (u : Nat → Nat) : va_W := [(h, .inr (10, [.ref (u 0)])), ((u 0), .inl (cI, 21, .inl (tl 21 0 0 (tf 21 0 (fun _ => 0)))))]
theorem mok_X10 : MOk md_X10_init 0 := ⟨tc_296, tc_54, by decide +kernel, by decide +kernel, by decide +kernel⟩
set_option maxHeartbeats 1000000 in
theorem loop_X10a {l : Launch} {D : va_G} {cI cL cZ : ClassId} {h a : Nat} {p : Program} {e : Env} {R : Room} {s : State} {m : MethodId} {args : Array Value} {below : List Frame} {meth : Method} {c : Code} {A : Nat → Prop} {Q : State → Prop} {H0 : Heap} {cells slots : Nat} (hC : CxC md_X10_init p s m args c) (hK : va_K D vwCl (tyC cI cL cZ) s) : ∀ (r i : Nat), i + r = 21 → ∀ (f : Nat → Int32) (H : Heap) (locs : List Loc) (ls : Array Slot), va_P D vwCl [(h, .inr (10, [.ref a])), (a, .inl (cI, 21, .inl f))] H → va_D A [(h, .inr (10, [.ref a])), (a, .inl (cI, 21, .inl f))] → va_S A H0 H locs → lv_has ls 3 [(1, .int (nI i)), (0, .ref h)] →
    (∀ (H : Heap) (locs : List Loc) (ls : Array Slot), va_P D vwCl [(h, .inr (10, [.ref a])), (a, .inl (cI, 21, .inl (tf r i f)))] H → va_D A [(h, .inr (10, [.ref a])), (a, .inl (cI, 21, .inl (tf r i f)))] → va_S A H0 H locs → lv_has ls 3 [(0, .ref h)] → W p l e R s m args below meth c H locs cells slots Q (F0 m 34 ls [])) →
    W p l e R s m args below meth c H locs cells slots Q (F0 m 14 ls []) := by
  intro r
  induction r with
  | zero =>
    intro i hi f H locs ls hP hD hS hl kk
    refine lv_iload_n hC.1 hC.2.1 dX10_init_14 rfl (lv_at hl 0 rfl) ?_
    refine lv_bipush (v := nI 20) hC.1 hC.2.1 dX10_init_15 (by decide +kernel) ?_
    refine lv_icmp_gt (tgt := 34) hC.1 hC.2.1 dX10_init_17 (by decide) (fun c1 => ?_) (fun c1 => ?_)
    · exact kk H locs ls hP hD hS (lv_sub hl [1] rfl)
    · exact absurd (nI_lt (by omega) (by omega)) c1
  | succ r ih =>
    intro i hi f H locs ls hP hD hS hl kk
    refine lv_iload_n hC.1 hC.2.1 dX10_init_14 rfl (lv_at hl 0 rfl) ?_
    refine lv_bipush (v := nI 20) hC.1 hC.2.1 dX10_init_15 (by decide +kernel) ?_
    refine lv_icmp_gt (tgt := 34) hC.1 hC.2.1 dX10_init_17 (by decide) (fun c1 => ?_) (fun c1 => ?_)
    · exact absurd c1 (nI_nlt (by omega) (by omega))
    · refine lv_aload_n hC.1 hC.2.1 dX10_init_20 rfl (lv_at hl 1 rfl) ?_
      refine c_get 0 0 hC hK hP rfl FOk_10 (Nat.le_of_ble_eq_true rfl) tc_298 rfl dX10_init_21 ?_
      refine lv_iload_n hC.1 hC.2.1 dX10_init_24 rfl (lv_at hl 0 rfl) ?_
      refine lv_bipush (v := -6) hC.1 hC.2.1 dX10_init_25 (by decide +kernel) ?_
      refine c_iast 1 [(h, .inr (10, [.ref a])), (a, .inl (cI, 21, .inl (upd f i (-6))))] hC hK hP hD hS rfl (by omega) (by omega) dX10_init_27 rfl (fun H locs hP hD hS => ?_)
      refine lv_iinc (v := nI (i + 1)) (lv' := [(1, .int (nI (i + 1))), (0, .ref h)]) hC.1 hC.2.1 dX10_init_28 hl (k := 0) rfl (by rw [show Int32.ofInt 1 = 1 from by decide +kernel]; exact nI_1 i) (by decide) rfl (fun ls hl => ?_)
      refine lv_goto (tgt := 14) hC.1 hC.2.1 dX10_init_31 (by decide) ?_
      exact ih (i + 1) (by omega) (upd f i (-6)) H locs ls hP hD hS hl kk
set_option maxHeartbeats 1000000 in
theorem loop_X10b {l : Launch} {D : va_G} {cI cL cZ : ClassId} {h a : Nat} {p : Program} {e : Env} {R : Room} {s : State} {m : MethodId} {args : Array Value} {below : List Frame} {meth : Method} {c : Code} {A : Nat → Prop} {Q : State → Prop} {H0 : Heap} {cells slots : Nat} (hC : CxC md_X10_init p s m args c) (hK : va_K D vwCl (tyC cI cL cZ) s) : ∀ (r i d : Nat), i + r = 21 → d ≤ i → ∀ (f : Nat → Int32) (H : Heap) (locs : List Loc) (ls : Array Slot), va_P D vwCl [(h, .inr (10, [.ref a])), (a, .inl (cI, 21, .inl f))] H → va_D A [(h, .inr (10, [.ref a])), (a, .inl (cI, 21, .inl f))] → va_S A H0 H locs → lv_has ls 3 [(2, .int (nI i)), (1, .int (nI d)), (0, .ref h)] →
    (∀ (H : Heap) (locs : List Loc) (ls : Array Slot), va_P D vwCl [(h, .inr (10, [.ref a])), (a, .inl (cI, 21, .inl (tl r i d f)))] H → va_D A [(h, .inr (10, [.ref a])), (a, .inl (cI, 21, .inl (tl r i d f)))] → va_S A H0 H locs → W p l e R s m args below meth c H locs cells slots Q (F0 m 90 ls [])) →
    W p l e R s m args below meth c H locs cells slots Q (F0 m 38 ls []) := by
  intro r
  induction r with
  | zero =>
    intro i d hi hd f H locs ls hP hD hS hl kk
    refine lv_iload_n hC.1 hC.2.1 dX10_init_38 rfl (lv_at hl 0 rfl) ?_
    refine lv_bipush (v := nI 20) hC.1 hC.2.1 dX10_init_39 (by decide +kernel) ?_
    refine lv_icmp_gt (tgt := 90) hC.1 hC.2.1 dX10_init_41 (by decide) (fun c1 => ?_) (fun c1 => ?_)
    · exact kk H locs ls hP hD hS
    · exact absurd (nI_lt (by omega) (by omega)) c1
  | succ r ih =>
    intro i d hi hd f H locs ls hP hD hS hl kk
    refine lv_iload_n hC.1 hC.2.1 dX10_init_38 rfl (lv_at hl 0 rfl) ?_
    refine lv_bipush (v := nI 20) hC.1 hC.2.1 dX10_init_39 (by decide +kernel) ?_
    refine lv_icmp_gt (tgt := 90) hC.1 hC.2.1 dX10_init_41 (by decide) (fun c1 => ?_) (fun c1 => ?_)
    · exact absurd c1 (nI_nlt (by omega) (by omega))
    · refine lv_aload_n hC.1 hC.2.1 dX10_init_44 rfl (lv_at hl 2 rfl) ?_
      refine c_get 0 0 hC hK hP rfl FOk_10 (Nat.le_of_ble_eq_true rfl) tc_298 rfl dX10_init_45 ?_
      refine lv_iload_n hC.1 hC.2.1 dX10_init_48 rfl (lv_at hl 0 rfl) ?_
      refine c_iald 1 hC hK hP rfl (by omega) (by omega) dX10_init_49 ?_
      refine lv_bipush (v := -6) hC.1 hC.2.1 dX10_init_50 (by decide +kernel) ?_
      refine lv_icmp_ne (tgt := 84) hC.1 hC.2.1 dX10_init_52 (by decide) (fun c2 => ?_) (fun c2 => ?_)
      · refine lv_iinc (v := nI (i + 1)) (lv' := [(2, .int (nI (i + 1))), (1, .int (nI d)), (0, .ref h)]) hC.1 hC.2.1 dX10_init_84 hl (k := 0) rfl (by rw [show Int32.ofInt 1 = 1 from by decide +kernel]; exact nI_1 i) (by decide) rfl (fun ls hl => ?_)
        refine lv_goto (tgt := 38) hC.1 hC.2.1 dX10_init_87 (by decide) ?_
        refine ih (i + 1) d (by omega) (by omega) f H locs ls hP hD hS hl (fun H locs ls hP hD hS => kk H locs ls ?_ ?_ hS)
        · rw [show tl (r + 1) i d f = tl r (i + 1) d f from by simp only [tl, if_neg c2]]; exact hP
        · rw [show tl (r + 1) i d f = tl r (i + 1) d f from by simp only [tl, if_neg c2]]; exact hD
      · refine lv_aload_n hC.1 hC.2.1 dX10_init_55 rfl (lv_at hl 2 rfl) ?_
        refine c_get 0 0 hC hK hP rfl FOk_10 (Nat.le_of_ble_eq_true rfl) tc_298 rfl dX10_init_56 ?_
        refine lv_iload_n hC.1 hC.2.1 dX10_init_59 rfl (lv_at hl 0 rfl) ?_
        refine lv_iload_n hC.1 hC.2.1 dX10_init_60 rfl (lv_at hl 0 rfl) ?_
        refine lv_iload_n hC.1 hC.2.1 dX10_init_61 rfl (lv_at hl 1 rfl) ?_
        refine lv_iadd hC.1 hC.2.1 dX10_init_62 ?_
        rw [nI_add]
        refine c_iast 1 [(h, .inr (10, [.ref a])), (a, .inl (cI, 21, .inl (upd f i (nI (i + d)))))] hC hK hP hD hS rfl (by omega) (by omega) dX10_init_63 rfl (fun H locs hP hD hS => ?_)
        refine lv_iload_n hC.1 hC.2.1 dX10_init_64 rfl (lv_at hl 0 rfl) ?_
        refine lv_iload_n hC.1 hC.2.1 dX10_init_65 rfl (lv_at hl 1 rfl) ?_
        refine lv_iadd hC.1 hC.2.1 dX10_init_66 ?_
        rw [nI_add]
        refine lv_bipush (v := nI 20) hC.1 hC.2.1 dX10_init_67 (by decide +kernel) ?_
        refine lv_icmp_gt (tgt := 81) hC.1 hC.2.1 dX10_init_69 (by decide) (fun c3 => ?_) (fun c3 => ?_)
        · have c4 : 20 < i + d := (nI_ltI (by omega) (by omega)).mp c3
          have e9 : tl (r + 1) i d f = tl r (i + 1) (d + 1) (upd f i (nI (i + d))) := by simp only [tl, if_pos c2, if_pos c4]
          refine lv_iinc (v := nI (d + 1)) (lv' := [(1, .int (nI (d + 1))), (2, .int (nI i)), (0, .ref h)]) hC.1 hC.2.1 dX10_init_81 hl (k := 1) rfl (by rw [show Int32.ofInt 1 = 1 from by decide +kernel]; exact nI_1 d) (by decide) rfl (fun ls hl => ?_)
          refine lv_iinc (v := nI (i + 1)) (lv' := [(2, .int (nI (i + 1))), (1, .int (nI (d + 1))), (0, .ref h)]) hC.1 hC.2.1 dX10_init_84 hl (k := 1) rfl (by rw [show Int32.ofInt 1 = 1 from by decide +kernel]; exact nI_1 i) (by decide) rfl (fun ls hl => ?_)
          refine lv_goto (tgt := 38) hC.1 hC.2.1 dX10_init_87 (by decide) ?_
          rw [e9] at kk
          exact ih (i + 1) (d + 1) (by omega) (by omega) _ H locs ls hP hD hS hl kk
        · have c4 : ¬ 20 < i + d := fun z => c3 ((nI_ltI (by omega) (by omega)).mpr z)
          have e9 : tl (r + 1) i d f = tl r (i + 1) (d + 1) (upd (upd f i (nI (i + d))) (i + d) (nI i)) := by simp only [tl, if_pos c2, if_neg c4]
          refine lv_aload_n hC.1 hC.2.1 dX10_init_72 rfl (lv_at hl 2 rfl) ?_
          refine c_get 0 0 hC hK hP rfl FOk_10 (Nat.le_of_ble_eq_true rfl) tc_298 rfl dX10_init_73 ?_
          refine lv_iload_n hC.1 hC.2.1 dX10_init_76 rfl (lv_at hl 0 rfl) ?_
          refine lv_iload_n hC.1 hC.2.1 dX10_init_77 rfl (lv_at hl 1 rfl) ?_
          refine lv_iadd hC.1 hC.2.1 dX10_init_78 ?_
          rw [nI_add]
          refine lv_iload_n hC.1 hC.2.1 dX10_init_79 rfl (lv_at hl 0 rfl) ?_
          refine c_iast 1 [(h, .inr (10, [.ref a])), (a, .inl (cI, 21, .inl (upd (upd f i (nI (i + d))) (i + d) (nI i))))] hC hK hP hD hS rfl (by omega) (by omega) dX10_init_80 rfl (fun H locs hP hD hS => ?_)
          refine lv_iinc (v := nI (d + 1)) (lv' := [(1, .int (nI (d + 1))), (2, .int (nI i)), (0, .ref h)]) hC.1 hC.2.1 dX10_init_81 hl (k := 1) rfl (by rw [show Int32.ofInt 1 = 1 from by decide +kernel]; exact nI_1 d) (by decide) rfl (fun ls hl => ?_)
          refine lv_iinc (v := nI (i + 1)) (lv' := [(2, .int (nI (i + 1))), (1, .int (nI (d + 1))), (0, .ref h)]) hC.1 hC.2.1 dX10_init_84 hl (k := 1) rfl (by rw [show Int32.ofInt 1 = 1 from by decide +kernel]; exact nI_1 i) (by decide) rfl (fun ls hl => ?_)
          refine lv_goto (tgt := 38) hC.1 hC.2.1 dX10_init_87 (by decide) ?_
          rw [e9] at kk
          exact ih (i + 1) (d + 1) (by omega) (by omega) _ H locs ls hP hD hS hl kk
set_option maxHeartbeats 4000000 in
set_option maxRecDepth 100000 in
theorem k_X10 : CtC md_X10_init 1 21 w0_X10 w1_X10 := by
  refine CtC_of (by decide +kernel) (Nat.le_of_ble_eq_true rfl) rfl rfl ?_
  intro l D cI cL cZ h p e s m below meth c A Q ls hC hin hK hP hD hA hl hend
  have hS : va_S A s.heap s.heap [] := va_S.rf
  have hP : va_P D vwCl [(h, .inr (10, [.null]))] s.heap := hP
  have hD : va_D A [(h, .inr (10, [.null]))] := hD
  refine lv_aload_n hC.1 hC.2.1 dX10_init_0 rfl (lv_at hl 0 rfl) ?_
  refine c_obj hC hl tc_297 dX10_init_1 (Nat.le_of_ble_eq_true rfl) (Nat.le_of_ble_eq_true rfl) ?_
  refine lv_aload_n hC.1 hC.2.1 dX10_init_4 rfl (lv_at hl 0 rfl) ?_
  refine lv_bipush (v := 21) hC.1 hC.2.1 dX10_init_5 (by decide +kernel) ?_
  refine c_newI 21 hC hK hP hD hS hA (by decide +kernel) (by decide +kernel) (Nat.le_of_ble_eq_true rfl) (Nat.le_of_ble_eq_true rfl) (Nat.le_of_ble_eq_true rfl) dX10_init_7 (fun q1 H hP hD hS => ?_)
  have hP : va_P D vwCl [(h, .inr (10, [.null])), (q1, .inl (cI, 21, .inl (fun _ => 0)))] H := hP
  have hD : va_D A [(h, .inr (10, [.null])), (q1, .inl (cI, 21, .inl (fun _ => 0)))] := hD
  refine W.widen (k := 1) (n := 21) (Nat.le_of_ble_eq_true rfl) (Nat.le_of_ble_eq_true rfl) ?_
  refine c_putF 0 0 [(h, .inr (10, [.ref q1])), (q1, .inl (cI, 21, .inl (fun _ => 0)))] hC hin hK hP hD hS rfl FOk_10 (Nat.le_of_ble_eq_true rfl) tc_298 rfl rfl (tyX10_ok 0 (by decide)) rfl rfl (Nat.le_of_ble_eq_true rfl) dX10_init_9 rfl (fun H locs hP hD hS => ?_)
  refine lv_iconst (v := nI 0) hC.1 hC.2.1 dX10_init_12 (by decide +kernel) ?_
  refine lv_istore_n (lv' := [(1, .int (nI 0)), (0, .ref h)]) hC.1 hC.2.1 dX10_init_13 rfl hl (by decide) rfl (fun ls hl => ?_)
  refine loop_X10a (Q := Q) hC hK 21 0 rfl (fun _ => 0) _ _ ls hP hD hS hl (fun H locs ls hP hD hS hl => ?_)
  have hP : va_P D vwCl [(h, .inr (10, [.ref q1])), (q1, .inl (cI, 21, .inl (tf 21 0 (fun _ => 0))))] H := hP
  have hD : va_D A [(h, .inr (10, [.ref q1])), (q1, .inl (cI, 21, .inl (tf 21 0 (fun _ => 0))))] := hD
  refine lv_iconst (v := nI 0) hC.1 hC.2.1 dX10_init_34 (by decide +kernel) ?_
  refine lv_istore_n (lv' := [(1, .int (nI 0)), (0, .ref h)]) hC.1 hC.2.1 dX10_init_35 rfl hl (by decide) rfl (fun ls hl => ?_)
  refine lv_iconst (v := nI 0) hC.1 hC.2.1 dX10_init_36 (by decide +kernel) ?_
  refine lv_istore_n (lv' := [(2, .int (nI 0)), (1, .int (nI 0)), (0, .ref h)]) hC.1 hC.2.1 dX10_init_37 rfl hl (by decide) rfl (fun ls hl => ?_)
  refine loop_X10b (Q := Q) hC hK 21 0 0 rfl (Nat.le_refl 0) (tf 21 0 (fun _ => 0)) _ _ ls hP hD hS hl (fun H locs ls hP hD hS => ?_)
  have hP : va_P D vwCl [(h, .inr (10, [.ref q1])), (q1, .inl (cI, 21, .inl (tl 21 0 0 (tf 21 0 (fun _ => 0)))))] H := hP
  have hD : va_D A [(h, .inr (10, [.ref q1])), (q1, .inl (cI, 21, .inl (tl 21 0 0 (tf 21 0 (fun _ => 0)))))] := hD
  exact hend (fun j => ([q1] : List Nat).getD j 0) _ _ 90 ls hP hD hS dX10_init_90
def md_X12_init : MD := (yX12_init, cX12_init, 2, none, 1, 12)
def w0_X12 (h : Nat) : va_W := [(h, .inr (12, [.null, .null, .null, .int 0, .int 0, .int 0, .int 0, .int 0, .null, .null, .int 0, .null, .int 0, .null, .null, .int 0, .int 0, .null, .int 0, .int 0, .int 0, .int 0, .null, .null, .null, .null, .null, .null, .null, .int 0, .int 0]))]
def w1_X12 (cI cL cZ : ClassId) (h : Nat) (u : Nat → Nat) : va_W := [(h, .inr (12, [.ref (u 0), .ref (u 1), .ref (u 2), .int 0, .int 0, .int 0, .int 0, .int 60, .ref (u 3), .ref (u 4), .int 0, .ref (u 5), .int 0, .ref (u 6), .ref (u 7), .int 0, .int 0, .ref (u 8), .int 0, .int 0, .int 0, .int 0, .ref (u 9), .ref (u 10), .ref (u 11), .ref (u 12), .ref (u 13), .ref (u 14), .ref (u 15), .int 0, .int 0])), ((u 0), .inl (cI, 10, .inl (fl 10 0 (fun _ => 0)))), ((u 1), .inl (cI, 10, .inl (fun _ => 0))), ((u 2), .inl (cI, 10, .inl (gl 10 0 (fun _ => 0)))), ((u 3), .inl (cI, 8, .inl (fun _ => 0))), ((u 4), .inl (cI, 8, .inl (fun _ => 0))), ((u 5), .inl (cI, 60, .inl (fun _ => 0))), ((u 6), .inl (cI, 60, .inl (fun _ => 0))), ((u 7), .inl (cI, 60, .inl (fun _ => 0))), ((u 8), .inl (cI, 24, .inl (fun _ => 0))), ((u 9), .inl (cI, 9216, .inl (fun _ => 0))), ((u 10), .inl (cI, 6, .inl (fun _ => 0))), ((u 11), .inl (cI, 8, .inl (fun _ => 0))), ((u 12), .inl (cZ, 441, .inl (fun _ => 0))), ((u 13), .inl (cL, 14, .inr (.inl (fun _ => 0)))), ((u 14), .inl (cI, 120, .inl (fun _ => 0))), ((u 15), .inl (cZ, 2, .inl (fun _ => 0)))]
theorem mok_X12 : MOk md_X12_init 0 := ⟨tc_711, tc_56, by decide +kernel, by decide +kernel, by decide +kernel⟩
set_option maxHeartbeats 1000000 in
theorem loop_X12 {l : Launch} {D : va_G} {cI cL cZ : ClassId} {h a d : Nat} {p : Program} {e : Env} {R : Room} {s : State} {m : MethodId} {args : Array Value} {below : List Frame} {meth : Method} {c : Code} {A : Nat → Prop} {Q : State → Prop} {H0 : Heap} {cells slots : Nat} {fs : List Value} {t1 : Nat × va_E} {Z : va_W} (hC : CxC md_X12_init p s m args c) (hK : va_K D vwCl (tyC cI cL cZ) s) (h0 : fs[0]? = some (.ref a)) (h2 : fs[2]? = some (.ref d)) : ∀ (r i : Nat), i + r = 10 → ∀ (f g : Nat → Int32) (H : Heap) (locs : List Loc) (ls : Array Slot), va_P D vwCl ((h, .inr (12, fs)) :: (a, .inl (cI, 10, .inl f)) :: t1 :: (d, .inl (cI, 10, .inl g)) :: Z) H → va_D A ((h, .inr (12, fs)) :: (a, .inl (cI, 10, .inl f)) :: t1 :: (d, .inl (cI, 10, .inl g)) :: Z) → va_S A H0 H locs → lv_has ls 2 [(1, .int (nI i)), (0, .ref h)] →
    (∀ (H : Heap) (locs : List Loc) (ls : Array Slot), va_P D vwCl ((h, .inr (12, fs)) :: (a, .inl (cI, 10, .inl (fl r i f))) :: t1 :: (d, .inl (cI, 10, .inl (gl r i g))) :: Z) H → va_D A ((h, .inr (12, fs)) :: (a, .inl (cI, 10, .inl (fl r i f))) :: t1 :: (d, .inl (cI, 10, .inl (gl r i g))) :: Z) → va_S A H0 H locs → lv_has ls 2 [(0, .ref h)] → W p l e R s m args below meth c H locs cells slots Q (F0 m 167 ls [])) →
    W p l e R s m args below meth c H locs cells slots Q (F0 m 141 ls []) := by
  intro r
  induction r with
  | zero =>
    intro i hi f g H locs ls hP hD hS hl kk
    refine lv_iload_n hC.1 hC.2.1 dX12_init_141 rfl (lv_at hl 0 rfl) ?_
    refine lv_bipush (v := nI 10) hC.1 hC.2.1 dX12_init_142 (by decide +kernel) ?_
    refine lv_icmp_ge (tgt := 167) hC.1 hC.2.1 dX12_init_144 (by decide) (fun c1 => ?_) (fun c1 => ?_)
    · exact kk H locs ls hP hD hS (lv_sub hl [1] rfl)
    · exact absurd (nI_le (by omega) (by omega)) c1
  | succ r ih =>
    intro i hi f g H locs ls hP hD hS hl kk
    refine lv_iload_n hC.1 hC.2.1 dX12_init_141 rfl (lv_at hl 0 rfl) ?_
    refine lv_bipush (v := nI 10) hC.1 hC.2.1 dX12_init_142 (by decide +kernel) ?_
    refine lv_icmp_ge (tgt := 167) hC.1 hC.2.1 dX12_init_144 (by decide) (fun c1 => ?_) (fun c1 => ?_)
    · exact absurd c1 (nI_ge (by omega) (by omega))
    · refine lv_aload_n hC.1 hC.2.1 dX12_init_147 rfl (lv_at hl 1 rfl) ?_
      refine c_get 0 0 hC hK hP rfl FOk_12 (Nat.le_of_ble_eq_true rfl) tc_713 h0 dX12_init_148 ?_
      refine lv_iload_n hC.1 hC.2.1 dX12_init_151 rfl (lv_at hl 0 rfl) ?_
      refine lv_iload_n hC.1 hC.2.1 dX12_init_152 rfl (lv_at hl 0 rfl) ?_
      refine c_iast 1 ((h, .inr (12, fs)) :: (a, .inl (cI, 10, .inl (upd f i (nI i)))) :: t1 :: (d, .inl (cI, 10, .inl g)) :: Z) hC hK hP hD hS rfl (by omega) (by omega) dX12_init_153 rfl (fun H locs hP hD hS => ?_)
      refine lv_aload_n hC.1 hC.2.1 dX12_init_154 rfl (lv_at hl 1 rfl) ?_
      refine c_get 0 2 hC hK hP rfl FOk_12 (Nat.le_of_ble_eq_true rfl) tc_715 h2 dX12_init_155 ?_
      refine lv_iload_n hC.1 hC.2.1 dX12_init_158 rfl (lv_at hl 0 rfl) ?_
      refine lv_iconst (v := 3) hC.1 hC.2.1 dX12_init_159 (by decide +kernel) ?_
      refine c_iast 3 ((h, .inr (12, fs)) :: (a, .inl (cI, 10, .inl (upd f i (nI i)))) :: t1 :: (d, .inl (cI, 10, .inl (upd g i 3))) :: Z) hC hK hP hD hS rfl (by omega) (by omega) dX12_init_160 rfl (fun H locs hP hD hS => ?_)
      refine lv_iinc (v := nI (i + 1)) (lv' := [(1, .int (nI (i + 1))), (0, .ref h)]) hC.1 hC.2.1 dX12_init_161 hl (k := 0) rfl (by rw [show Int32.ofInt 1 = 1 from by decide +kernel]; exact nI_1 i) (by decide) rfl (fun ls hl => ?_)
      refine lv_goto (tgt := 141) hC.1 hC.2.1 dX12_init_164 (by decide) ?_
      exact ih (i + 1) (by omega) (upd f i (nI i)) (upd g i 3) H locs ls hP hD hS hl kk
set_option maxHeartbeats 4000000 in
set_option maxRecDepth 100000 in
theorem k_X12 : CtC md_X12_init 16 10057 w0_X12 w1_X12 := by
  refine CtC_of (by decide +kernel) (Nat.le_of_ble_eq_true rfl) rfl rfl ?_
  intro l D cI cL cZ h p e s m below meth c A Q ls hC hin hK hP hD hA hl hend
  have hS : va_S A s.heap s.heap [] := va_S.rf
  have hP : va_P D vwCl [(h, .inr (12, [.null, .null, .null, .int 0, .int 0, .int 0, .int 0, .int 0, .null, .null, .int 0, .null, .int 0, .null, .null, .int 0, .int 0, .null, .int 0, .int 0, .int 0, .int 0, .null, .null, .null, .null, .null, .null, .null, .int 0, .int 0]))] s.heap := hP
  have hD : va_D A [(h, .inr (12, [.null, .null, .null, .int 0, .int 0, .int 0, .int 0, .int 0, .null, .null, .int 0, .null, .int 0, .null, .null, .int 0, .int 0, .null, .int 0, .int 0, .int 0, .int 0, .null, .null, .null, .null, .null, .null, .null, .int 0, .int 0]))] := hD
  refine lv_aload_n hC.1 hC.2.1 dX12_init_0 rfl (lv_at hl 0 rfl) ?_
  refine c_obj hC hl tc_712 dX12_init_1 (Nat.le_of_ble_eq_true rfl) (Nat.le_of_ble_eq_true rfl) ?_
  refine lv_aload_n hC.1 hC.2.1 dX12_init_4 rfl (lv_at hl 0 rfl) ?_
  refine lv_bipush (v := 10) hC.1 hC.2.1 dX12_init_5 (by decide +kernel) ?_
  refine c_newI 10 hC hK hP hD hS hA (by decide +kernel) (by decide +kernel) (Nat.le_of_ble_eq_true rfl) (Nat.le_of_ble_eq_true rfl) (Nat.le_of_ble_eq_true rfl) dX12_init_7 (fun q1 H hP hD hS => ?_)
  have hP : va_P D vwCl [(h, .inr (12, [.null, .null, .null, .int 0, .int 0, .int 0, .int 0, .int 0, .null, .null, .int 0, .null, .int 0, .null, .null, .int 0, .int 0, .null, .int 0, .int 0, .int 0, .int 0, .null, .null, .null, .null, .null, .null, .null, .int 0, .int 0])), (q1, .inl (cI, 10, .inl (fun _ => 0)))] H := hP
  have hD : va_D A [(h, .inr (12, [.null, .null, .null, .int 0, .int 0, .int 0, .int 0, .int 0, .null, .null, .int 0, .null, .int 0, .null, .null, .int 0, .int 0, .null, .int 0, .int 0, .int 0, .int 0, .null, .null, .null, .null, .null, .null, .null, .int 0, .int 0])), (q1, .inl (cI, 10, .inl (fun _ => 0)))] := hD
  refine W.widen (k := 1) (n := 10) (Nat.le_of_ble_eq_true rfl) (Nat.le_of_ble_eq_true rfl) ?_
  refine c_putF 0 0 [(h, .inr (12, [.ref q1, .null, .null, .int 0, .int 0, .int 0, .int 0, .int 0, .null, .null, .int 0, .null, .int 0, .null, .null, .int 0, .int 0, .null, .int 0, .int 0, .int 0, .int 0, .null, .null, .null, .null, .null, .null, .null, .int 0, .int 0])), (q1, .inl (cI, 10, .inl (fun _ => 0)))] hC hin hK hP hD hS rfl FOk_12 (Nat.le_of_ble_eq_true rfl) tc_713 rfl rfl (tyX12_ok 0 (by decide)) rfl rfl (Nat.le_of_ble_eq_true rfl) dX12_init_9 rfl (fun H locs hP hD hS => ?_)
  refine lv_aload_n hC.1 hC.2.1 dX12_init_12 rfl (lv_at hl 0 rfl) ?_
  refine lv_bipush (v := 10) hC.1 hC.2.1 dX12_init_13 (by decide +kernel) ?_
  refine c_newI 10 hC hK hP hD hS hA (by decide +kernel) (by decide +kernel) (Nat.le_of_ble_eq_true rfl) (Nat.le_of_ble_eq_true rfl) (Nat.le_of_ble_eq_true rfl) dX12_init_15 (fun q2 H hP hD hS => ?_)
  have hP : va_P D vwCl [(h, .inr (12, [.ref q1, .null, .null, .int 0, .int 0, .int 0, .int 0, .int 0, .null, .null, .int 0, .null, .int 0, .null, .null, .int 0, .int 0, .null, .int 0, .int 0, .int 0, .int 0, .null, .null, .null, .null, .null, .null, .null, .int 0, .int 0])), (q1, .inl (cI, 10, .inl (fun _ => 0))), (q2, .inl (cI, 10, .inl (fun _ => 0)))] H := hP
  have hD : va_D A [(h, .inr (12, [.ref q1, .null, .null, .int 0, .int 0, .int 0, .int 0, .int 0, .null, .null, .int 0, .null, .int 0, .null, .null, .int 0, .int 0, .null, .int 0, .int 0, .int 0, .int 0, .null, .null, .null, .null, .null, .null, .null, .int 0, .int 0])), (q1, .inl (cI, 10, .inl (fun _ => 0))), (q2, .inl (cI, 10, .inl (fun _ => 0)))] := hD
  refine W.widen (k := 2) (n := 20) (Nat.le_of_ble_eq_true rfl) (Nat.le_of_ble_eq_true rfl) ?_
  refine c_putF 0 1 [(h, .inr (12, [.ref q1, .ref q2, .null, .int 0, .int 0, .int 0, .int 0, .int 0, .null, .null, .int 0, .null, .int 0, .null, .null, .int 0, .int 0, .null, .int 0, .int 0, .int 0, .int 0, .null, .null, .null, .null, .null, .null, .null, .int 0, .int 0])), (q1, .inl (cI, 10, .inl (fun _ => 0))), (q2, .inl (cI, 10, .inl (fun _ => 0)))] hC hin hK hP hD hS rfl FOk_12 (Nat.le_of_ble_eq_true rfl) tc_714 rfl rfl (tyX12_ok 1 (by decide)) rfl rfl (Nat.le_of_ble_eq_true rfl) dX12_init_17 rfl (fun H locs hP hD hS => ?_)
  refine lv_aload_n hC.1 hC.2.1 dX12_init_20 rfl (lv_at hl 0 rfl) ?_
  refine lv_bipush (v := 10) hC.1 hC.2.1 dX12_init_21 (by decide +kernel) ?_
  refine c_newI 10 hC hK hP hD hS hA (by decide +kernel) (by decide +kernel) (Nat.le_of_ble_eq_true rfl) (Nat.le_of_ble_eq_true rfl) (Nat.le_of_ble_eq_true rfl) dX12_init_23 (fun q3 H hP hD hS => ?_)
  have hP : va_P D vwCl [(h, .inr (12, [.ref q1, .ref q2, .null, .int 0, .int 0, .int 0, .int 0, .int 0, .null, .null, .int 0, .null, .int 0, .null, .null, .int 0, .int 0, .null, .int 0, .int 0, .int 0, .int 0, .null, .null, .null, .null, .null, .null, .null, .int 0, .int 0])), (q1, .inl (cI, 10, .inl (fun _ => 0))), (q2, .inl (cI, 10, .inl (fun _ => 0))), (q3, .inl (cI, 10, .inl (fun _ => 0)))] H := hP
  have hD : va_D A [(h, .inr (12, [.ref q1, .ref q2, .null, .int 0, .int 0, .int 0, .int 0, .int 0, .null, .null, .int 0, .null, .int 0, .null, .null, .int 0, .int 0, .null, .int 0, .int 0, .int 0, .int 0, .null, .null, .null, .null, .null, .null, .null, .int 0, .int 0])), (q1, .inl (cI, 10, .inl (fun _ => 0))), (q2, .inl (cI, 10, .inl (fun _ => 0))), (q3, .inl (cI, 10, .inl (fun _ => 0)))] := hD
  refine W.widen (k := 3) (n := 30) (Nat.le_of_ble_eq_true rfl) (Nat.le_of_ble_eq_true rfl) ?_
  refine c_putF 0 2 [(h, .inr (12, [.ref q1, .ref q2, .ref q3, .int 0, .int 0, .int 0, .int 0, .int 0, .null, .null, .int 0, .null, .int 0, .null, .null, .int 0, .int 0, .null, .int 0, .int 0, .int 0, .int 0, .null, .null, .null, .null, .null, .null, .null, .int 0, .int 0])), (q1, .inl (cI, 10, .inl (fun _ => 0))), (q2, .inl (cI, 10, .inl (fun _ => 0))), (q3, .inl (cI, 10, .inl (fun _ => 0)))] hC hin hK hP hD hS rfl FOk_12 (Nat.le_of_ble_eq_true rfl) tc_715 rfl rfl (tyX12_ok 2 (by decide)) rfl rfl (Nat.le_of_ble_eq_true rfl) dX12_init_25 rfl (fun H locs hP hD hS => ?_)
  refine lv_aload_n hC.1 hC.2.1 dX12_init_28 rfl (lv_at hl 0 rfl) ?_
  refine lv_bipush (v := 8) hC.1 hC.2.1 dX12_init_29 (by decide +kernel) ?_
  refine c_newI 8 hC hK hP hD hS hA (by decide +kernel) (by decide +kernel) (Nat.le_of_ble_eq_true rfl) (Nat.le_of_ble_eq_true rfl) (Nat.le_of_ble_eq_true rfl) dX12_init_31 (fun q4 H hP hD hS => ?_)
  have hP : va_P D vwCl [(h, .inr (12, [.ref q1, .ref q2, .ref q3, .int 0, .int 0, .int 0, .int 0, .int 0, .null, .null, .int 0, .null, .int 0, .null, .null, .int 0, .int 0, .null, .int 0, .int 0, .int 0, .int 0, .null, .null, .null, .null, .null, .null, .null, .int 0, .int 0])), (q1, .inl (cI, 10, .inl (fun _ => 0))), (q2, .inl (cI, 10, .inl (fun _ => 0))), (q3, .inl (cI, 10, .inl (fun _ => 0))), (q4, .inl (cI, 8, .inl (fun _ => 0)))] H := hP
  have hD : va_D A [(h, .inr (12, [.ref q1, .ref q2, .ref q3, .int 0, .int 0, .int 0, .int 0, .int 0, .null, .null, .int 0, .null, .int 0, .null, .null, .int 0, .int 0, .null, .int 0, .int 0, .int 0, .int 0, .null, .null, .null, .null, .null, .null, .null, .int 0, .int 0])), (q1, .inl (cI, 10, .inl (fun _ => 0))), (q2, .inl (cI, 10, .inl (fun _ => 0))), (q3, .inl (cI, 10, .inl (fun _ => 0))), (q4, .inl (cI, 8, .inl (fun _ => 0)))] := hD
  refine W.widen (k := 4) (n := 38) (Nat.le_of_ble_eq_true rfl) (Nat.le_of_ble_eq_true rfl) ?_
  refine c_putF 0 8 [(h, .inr (12, [.ref q1, .ref q2, .ref q3, .int 0, .int 0, .int 0, .int 0, .int 0, .ref q4, .null, .int 0, .null, .int 0, .null, .null, .int 0, .int 0, .null, .int 0, .int 0, .int 0, .int 0, .null, .null, .null, .null, .null, .null, .null, .int 0, .int 0])), (q1, .inl (cI, 10, .inl (fun _ => 0))), (q2, .inl (cI, 10, .inl (fun _ => 0))), (q3, .inl (cI, 10, .inl (fun _ => 0))), (q4, .inl (cI, 8, .inl (fun _ => 0)))] hC hin hK hP hD hS rfl FOk_12 (Nat.le_of_ble_eq_true rfl) tc_721 rfl rfl (tyX12_ok 8 (by decide)) rfl rfl (Nat.le_of_ble_eq_true rfl) dX12_init_33 rfl (fun H locs hP hD hS => ?_)
  refine lv_aload_n hC.1 hC.2.1 dX12_init_36 rfl (lv_at hl 0 rfl) ?_
  refine lv_bipush (v := 8) hC.1 hC.2.1 dX12_init_37 (by decide +kernel) ?_
  refine c_newI 8 hC hK hP hD hS hA (by decide +kernel) (by decide +kernel) (Nat.le_of_ble_eq_true rfl) (Nat.le_of_ble_eq_true rfl) (Nat.le_of_ble_eq_true rfl) dX12_init_39 (fun q5 H hP hD hS => ?_)
  have hP : va_P D vwCl [(h, .inr (12, [.ref q1, .ref q2, .ref q3, .int 0, .int 0, .int 0, .int 0, .int 0, .ref q4, .null, .int 0, .null, .int 0, .null, .null, .int 0, .int 0, .null, .int 0, .int 0, .int 0, .int 0, .null, .null, .null, .null, .null, .null, .null, .int 0, .int 0])), (q1, .inl (cI, 10, .inl (fun _ => 0))), (q2, .inl (cI, 10, .inl (fun _ => 0))), (q3, .inl (cI, 10, .inl (fun _ => 0))), (q4, .inl (cI, 8, .inl (fun _ => 0))), (q5, .inl (cI, 8, .inl (fun _ => 0)))] H := hP
  have hD : va_D A [(h, .inr (12, [.ref q1, .ref q2, .ref q3, .int 0, .int 0, .int 0, .int 0, .int 0, .ref q4, .null, .int 0, .null, .int 0, .null, .null, .int 0, .int 0, .null, .int 0, .int 0, .int 0, .int 0, .null, .null, .null, .null, .null, .null, .null, .int 0, .int 0])), (q1, .inl (cI, 10, .inl (fun _ => 0))), (q2, .inl (cI, 10, .inl (fun _ => 0))), (q3, .inl (cI, 10, .inl (fun _ => 0))), (q4, .inl (cI, 8, .inl (fun _ => 0))), (q5, .inl (cI, 8, .inl (fun _ => 0)))] := hD
  refine W.widen (k := 5) (n := 46) (Nat.le_of_ble_eq_true rfl) (Nat.le_of_ble_eq_true rfl) ?_
  refine c_putF 0 9 [(h, .inr (12, [.ref q1, .ref q2, .ref q3, .int 0, .int 0, .int 0, .int 0, .int 0, .ref q4, .ref q5, .int 0, .null, .int 0, .null, .null, .int 0, .int 0, .null, .int 0, .int 0, .int 0, .int 0, .null, .null, .null, .null, .null, .null, .null, .int 0, .int 0])), (q1, .inl (cI, 10, .inl (fun _ => 0))), (q2, .inl (cI, 10, .inl (fun _ => 0))), (q3, .inl (cI, 10, .inl (fun _ => 0))), (q4, .inl (cI, 8, .inl (fun _ => 0))), (q5, .inl (cI, 8, .inl (fun _ => 0)))] hC hin hK hP hD hS rfl FOk_12 (Nat.le_of_ble_eq_true rfl) tc_722 rfl rfl (tyX12_ok 9 (by decide)) rfl rfl (Nat.le_of_ble_eq_true rfl) dX12_init_41 rfl (fun H locs hP hD hS => ?_)
  refine lv_aload_n hC.1 hC.2.1 dX12_init_44 rfl (lv_at hl 0 rfl) ?_
  refine lv_bipush (v := 60) hC.1 hC.2.1 dX12_init_45 (by decide +kernel) ?_
  refine c_newI 60 hC hK hP hD hS hA (by decide +kernel) (by decide +kernel) (Nat.le_of_ble_eq_true rfl) (Nat.le_of_ble_eq_true rfl) (Nat.le_of_ble_eq_true rfl) dX12_init_47 (fun q6 H hP hD hS => ?_)
  have hP : va_P D vwCl [(h, .inr (12, [.ref q1, .ref q2, .ref q3, .int 0, .int 0, .int 0, .int 0, .int 0, .ref q4, .ref q5, .int 0, .null, .int 0, .null, .null, .int 0, .int 0, .null, .int 0, .int 0, .int 0, .int 0, .null, .null, .null, .null, .null, .null, .null, .int 0, .int 0])), (q1, .inl (cI, 10, .inl (fun _ => 0))), (q2, .inl (cI, 10, .inl (fun _ => 0))), (q3, .inl (cI, 10, .inl (fun _ => 0))), (q4, .inl (cI, 8, .inl (fun _ => 0))), (q5, .inl (cI, 8, .inl (fun _ => 0))), (q6, .inl (cI, 60, .inl (fun _ => 0)))] H := hP
  have hD : va_D A [(h, .inr (12, [.ref q1, .ref q2, .ref q3, .int 0, .int 0, .int 0, .int 0, .int 0, .ref q4, .ref q5, .int 0, .null, .int 0, .null, .null, .int 0, .int 0, .null, .int 0, .int 0, .int 0, .int 0, .null, .null, .null, .null, .null, .null, .null, .int 0, .int 0])), (q1, .inl (cI, 10, .inl (fun _ => 0))), (q2, .inl (cI, 10, .inl (fun _ => 0))), (q3, .inl (cI, 10, .inl (fun _ => 0))), (q4, .inl (cI, 8, .inl (fun _ => 0))), (q5, .inl (cI, 8, .inl (fun _ => 0))), (q6, .inl (cI, 60, .inl (fun _ => 0)))] := hD
  refine W.widen (k := 6) (n := 106) (Nat.le_of_ble_eq_true rfl) (Nat.le_of_ble_eq_true rfl) ?_
  refine c_putF 0 11 [(h, .inr (12, [.ref q1, .ref q2, .ref q3, .int 0, .int 0, .int 0, .int 0, .int 0, .ref q4, .ref q5, .int 0, .ref q6, .int 0, .null, .null, .int 0, .int 0, .null, .int 0, .int 0, .int 0, .int 0, .null, .null, .null, .null, .null, .null, .null, .int 0, .int 0])), (q1, .inl (cI, 10, .inl (fun _ => 0))), (q2, .inl (cI, 10, .inl (fun _ => 0))), (q3, .inl (cI, 10, .inl (fun _ => 0))), (q4, .inl (cI, 8, .inl (fun _ => 0))), (q5, .inl (cI, 8, .inl (fun _ => 0))), (q6, .inl (cI, 60, .inl (fun _ => 0)))] hC hin hK hP hD hS rfl FOk_12 (Nat.le_of_ble_eq_true rfl) tc_724 rfl rfl (tyX12_ok 11 (by decide)) rfl rfl (Nat.le_of_ble_eq_true rfl) dX12_init_49 rfl (fun H locs hP hD hS => ?_)
  refine lv_aload_n hC.1 hC.2.1 dX12_init_52 rfl (lv_at hl 0 rfl) ?_
  refine lv_bipush (v := 60) hC.1 hC.2.1 dX12_init_53 (by decide +kernel) ?_
  refine c_newI 60 hC hK hP hD hS hA (by decide +kernel) (by decide +kernel) (Nat.le_of_ble_eq_true rfl) (Nat.le_of_ble_eq_true rfl) (Nat.le_of_ble_eq_true rfl) dX12_init_55 (fun q7 H hP hD hS => ?_)
  have hP : va_P D vwCl [(h, .inr (12, [.ref q1, .ref q2, .ref q3, .int 0, .int 0, .int 0, .int 0, .int 0, .ref q4, .ref q5, .int 0, .ref q6, .int 0, .null, .null, .int 0, .int 0, .null, .int 0, .int 0, .int 0, .int 0, .null, .null, .null, .null, .null, .null, .null, .int 0, .int 0])), (q1, .inl (cI, 10, .inl (fun _ => 0))), (q2, .inl (cI, 10, .inl (fun _ => 0))), (q3, .inl (cI, 10, .inl (fun _ => 0))), (q4, .inl (cI, 8, .inl (fun _ => 0))), (q5, .inl (cI, 8, .inl (fun _ => 0))), (q6, .inl (cI, 60, .inl (fun _ => 0))), (q7, .inl (cI, 60, .inl (fun _ => 0)))] H := hP
  have hD : va_D A [(h, .inr (12, [.ref q1, .ref q2, .ref q3, .int 0, .int 0, .int 0, .int 0, .int 0, .ref q4, .ref q5, .int 0, .ref q6, .int 0, .null, .null, .int 0, .int 0, .null, .int 0, .int 0, .int 0, .int 0, .null, .null, .null, .null, .null, .null, .null, .int 0, .int 0])), (q1, .inl (cI, 10, .inl (fun _ => 0))), (q2, .inl (cI, 10, .inl (fun _ => 0))), (q3, .inl (cI, 10, .inl (fun _ => 0))), (q4, .inl (cI, 8, .inl (fun _ => 0))), (q5, .inl (cI, 8, .inl (fun _ => 0))), (q6, .inl (cI, 60, .inl (fun _ => 0))), (q7, .inl (cI, 60, .inl (fun _ => 0)))] := hD
  refine W.widen (k := 7) (n := 166) (Nat.le_of_ble_eq_true rfl) (Nat.le_of_ble_eq_true rfl) ?_
  refine c_putF 0 13 [(h, .inr (12, [.ref q1, .ref q2, .ref q3, .int 0, .int 0, .int 0, .int 0, .int 0, .ref q4, .ref q5, .int 0, .ref q6, .int 0, .ref q7, .null, .int 0, .int 0, .null, .int 0, .int 0, .int 0, .int 0, .null, .null, .null, .null, .null, .null, .null, .int 0, .int 0])), (q1, .inl (cI, 10, .inl (fun _ => 0))), (q2, .inl (cI, 10, .inl (fun _ => 0))), (q3, .inl (cI, 10, .inl (fun _ => 0))), (q4, .inl (cI, 8, .inl (fun _ => 0))), (q5, .inl (cI, 8, .inl (fun _ => 0))), (q6, .inl (cI, 60, .inl (fun _ => 0))), (q7, .inl (cI, 60, .inl (fun _ => 0)))] hC hin hK hP hD hS rfl FOk_12 (Nat.le_of_ble_eq_true rfl) tc_726 rfl rfl (tyX12_ok 13 (by decide)) rfl rfl (Nat.le_of_ble_eq_true rfl) dX12_init_57 rfl (fun H locs hP hD hS => ?_)
  refine lv_aload_n hC.1 hC.2.1 dX12_init_60 rfl (lv_at hl 0 rfl) ?_
  refine lv_bipush (v := 60) hC.1 hC.2.1 dX12_init_61 (by decide +kernel) ?_
  refine c_newI 60 hC hK hP hD hS hA (by decide +kernel) (by decide +kernel) (Nat.le_of_ble_eq_true rfl) (Nat.le_of_ble_eq_true rfl) (Nat.le_of_ble_eq_true rfl) dX12_init_63 (fun q8 H hP hD hS => ?_)
  have hP : va_P D vwCl [(h, .inr (12, [.ref q1, .ref q2, .ref q3, .int 0, .int 0, .int 0, .int 0, .int 0, .ref q4, .ref q5, .int 0, .ref q6, .int 0, .ref q7, .null, .int 0, .int 0, .null, .int 0, .int 0, .int 0, .int 0, .null, .null, .null, .null, .null, .null, .null, .int 0, .int 0])), (q1, .inl (cI, 10, .inl (fun _ => 0))), (q2, .inl (cI, 10, .inl (fun _ => 0))), (q3, .inl (cI, 10, .inl (fun _ => 0))), (q4, .inl (cI, 8, .inl (fun _ => 0))), (q5, .inl (cI, 8, .inl (fun _ => 0))), (q6, .inl (cI, 60, .inl (fun _ => 0))), (q7, .inl (cI, 60, .inl (fun _ => 0))), (q8, .inl (cI, 60, .inl (fun _ => 0)))] H := hP
  have hD : va_D A [(h, .inr (12, [.ref q1, .ref q2, .ref q3, .int 0, .int 0, .int 0, .int 0, .int 0, .ref q4, .ref q5, .int 0, .ref q6, .int 0, .ref q7, .null, .int 0, .int 0, .null, .int 0, .int 0, .int 0, .int 0, .null, .null, .null, .null, .null, .null, .null, .int 0, .int 0])), (q1, .inl (cI, 10, .inl (fun _ => 0))), (q2, .inl (cI, 10, .inl (fun _ => 0))), (q3, .inl (cI, 10, .inl (fun _ => 0))), (q4, .inl (cI, 8, .inl (fun _ => 0))), (q5, .inl (cI, 8, .inl (fun _ => 0))), (q6, .inl (cI, 60, .inl (fun _ => 0))), (q7, .inl (cI, 60, .inl (fun _ => 0))), (q8, .inl (cI, 60, .inl (fun _ => 0)))] := hD
  refine W.widen (k := 8) (n := 226) (Nat.le_of_ble_eq_true rfl) (Nat.le_of_ble_eq_true rfl) ?_
  refine c_putF 0 14 [(h, .inr (12, [.ref q1, .ref q2, .ref q3, .int 0, .int 0, .int 0, .int 0, .int 0, .ref q4, .ref q5, .int 0, .ref q6, .int 0, .ref q7, .ref q8, .int 0, .int 0, .null, .int 0, .int 0, .int 0, .int 0, .null, .null, .null, .null, .null, .null, .null, .int 0, .int 0])), (q1, .inl (cI, 10, .inl (fun _ => 0))), (q2, .inl (cI, 10, .inl (fun _ => 0))), (q3, .inl (cI, 10, .inl (fun _ => 0))), (q4, .inl (cI, 8, .inl (fun _ => 0))), (q5, .inl (cI, 8, .inl (fun _ => 0))), (q6, .inl (cI, 60, .inl (fun _ => 0))), (q7, .inl (cI, 60, .inl (fun _ => 0))), (q8, .inl (cI, 60, .inl (fun _ => 0)))] hC hin hK hP hD hS rfl FOk_12 (Nat.le_of_ble_eq_true rfl) tc_727 rfl rfl (tyX12_ok 14 (by decide)) rfl rfl (Nat.le_of_ble_eq_true rfl) dX12_init_65 rfl (fun H locs hP hD hS => ?_)
  refine lv_aload_n hC.1 hC.2.1 dX12_init_68 rfl (lv_at hl 0 rfl) ?_
  refine lv_bipush (v := 24) hC.1 hC.2.1 dX12_init_69 (by decide +kernel) ?_
  refine c_newI 24 hC hK hP hD hS hA (by decide +kernel) (by decide +kernel) (Nat.le_of_ble_eq_true rfl) (Nat.le_of_ble_eq_true rfl) (Nat.le_of_ble_eq_true rfl) dX12_init_71 (fun q9 H hP hD hS => ?_)
  have hP : va_P D vwCl [(h, .inr (12, [.ref q1, .ref q2, .ref q3, .int 0, .int 0, .int 0, .int 0, .int 0, .ref q4, .ref q5, .int 0, .ref q6, .int 0, .ref q7, .ref q8, .int 0, .int 0, .null, .int 0, .int 0, .int 0, .int 0, .null, .null, .null, .null, .null, .null, .null, .int 0, .int 0])), (q1, .inl (cI, 10, .inl (fun _ => 0))), (q2, .inl (cI, 10, .inl (fun _ => 0))), (q3, .inl (cI, 10, .inl (fun _ => 0))), (q4, .inl (cI, 8, .inl (fun _ => 0))), (q5, .inl (cI, 8, .inl (fun _ => 0))), (q6, .inl (cI, 60, .inl (fun _ => 0))), (q7, .inl (cI, 60, .inl (fun _ => 0))), (q8, .inl (cI, 60, .inl (fun _ => 0))), (q9, .inl (cI, 24, .inl (fun _ => 0)))] H := hP
  have hD : va_D A [(h, .inr (12, [.ref q1, .ref q2, .ref q3, .int 0, .int 0, .int 0, .int 0, .int 0, .ref q4, .ref q5, .int 0, .ref q6, .int 0, .ref q7, .ref q8, .int 0, .int 0, .null, .int 0, .int 0, .int 0, .int 0, .null, .null, .null, .null, .null, .null, .null, .int 0, .int 0])), (q1, .inl (cI, 10, .inl (fun _ => 0))), (q2, .inl (cI, 10, .inl (fun _ => 0))), (q3, .inl (cI, 10, .inl (fun _ => 0))), (q4, .inl (cI, 8, .inl (fun _ => 0))), (q5, .inl (cI, 8, .inl (fun _ => 0))), (q6, .inl (cI, 60, .inl (fun _ => 0))), (q7, .inl (cI, 60, .inl (fun _ => 0))), (q8, .inl (cI, 60, .inl (fun _ => 0))), (q9, .inl (cI, 24, .inl (fun _ => 0)))] := hD
  refine W.widen (k := 9) (n := 250) (Nat.le_of_ble_eq_true rfl) (Nat.le_of_ble_eq_true rfl) ?_
  refine c_putF 0 17 [(h, .inr (12, [.ref q1, .ref q2, .ref q3, .int 0, .int 0, .int 0, .int 0, .int 0, .ref q4, .ref q5, .int 0, .ref q6, .int 0, .ref q7, .ref q8, .int 0, .int 0, .ref q9, .int 0, .int 0, .int 0, .int 0, .null, .null, .null, .null, .null, .null, .null, .int 0, .int 0])), (q1, .inl (cI, 10, .inl (fun _ => 0))), (q2, .inl (cI, 10, .inl (fun _ => 0))), (q3, .inl (cI, 10, .inl (fun _ => 0))), (q4, .inl (cI, 8, .inl (fun _ => 0))), (q5, .inl (cI, 8, .inl (fun _ => 0))), (q6, .inl (cI, 60, .inl (fun _ => 0))), (q7, .inl (cI, 60, .inl (fun _ => 0))), (q8, .inl (cI, 60, .inl (fun _ => 0))), (q9, .inl (cI, 24, .inl (fun _ => 0)))] hC hin hK hP hD hS rfl FOk_12 (Nat.le_of_ble_eq_true rfl) tc_730 rfl rfl (tyX12_ok 17 (by decide)) rfl rfl (Nat.le_of_ble_eq_true rfl) dX12_init_73 rfl (fun H locs hP hD hS => ?_)
  refine lv_aload_n hC.1 hC.2.1 dX12_init_76 rfl (lv_at hl 0 rfl) ?_
  refine lv_sipush (v := 9216) hC.1 hC.2.1 dX12_init_77 (by decide +kernel) ?_
  refine c_newI 9216 hC hK hP hD hS hA (by decide +kernel) (by decide +kernel) (Nat.le_of_ble_eq_true rfl) (Nat.le_of_ble_eq_true rfl) (Nat.le_of_ble_eq_true rfl) dX12_init_80 (fun q10 H hP hD hS => ?_)
  have hP : va_P D vwCl [(h, .inr (12, [.ref q1, .ref q2, .ref q3, .int 0, .int 0, .int 0, .int 0, .int 0, .ref q4, .ref q5, .int 0, .ref q6, .int 0, .ref q7, .ref q8, .int 0, .int 0, .ref q9, .int 0, .int 0, .int 0, .int 0, .null, .null, .null, .null, .null, .null, .null, .int 0, .int 0])), (q1, .inl (cI, 10, .inl (fun _ => 0))), (q2, .inl (cI, 10, .inl (fun _ => 0))), (q3, .inl (cI, 10, .inl (fun _ => 0))), (q4, .inl (cI, 8, .inl (fun _ => 0))), (q5, .inl (cI, 8, .inl (fun _ => 0))), (q6, .inl (cI, 60, .inl (fun _ => 0))), (q7, .inl (cI, 60, .inl (fun _ => 0))), (q8, .inl (cI, 60, .inl (fun _ => 0))), (q9, .inl (cI, 24, .inl (fun _ => 0))), (q10, .inl (cI, 9216, .inl (fun _ => 0)))] H := hP
  have hD : va_D A [(h, .inr (12, [.ref q1, .ref q2, .ref q3, .int 0, .int 0, .int 0, .int 0, .int 0, .ref q4, .ref q5, .int 0, .ref q6, .int 0, .ref q7, .ref q8, .int 0, .int 0, .ref q9, .int 0, .int 0, .int 0, .int 0, .null, .null, .null, .null, .null, .null, .null, .int 0, .int 0])), (q1, .inl (cI, 10, .inl (fun _ => 0))), (q2, .inl (cI, 10, .inl (fun _ => 0))), (q3, .inl (cI, 10, .inl (fun _ => 0))), (q4, .inl (cI, 8, .inl (fun _ => 0))), (q5, .inl (cI, 8, .inl (fun _ => 0))), (q6, .inl (cI, 60, .inl (fun _ => 0))), (q7, .inl (cI, 60, .inl (fun _ => 0))), (q8, .inl (cI, 60, .inl (fun _ => 0))), (q9, .inl (cI, 24, .inl (fun _ => 0))), (q10, .inl (cI, 9216, .inl (fun _ => 0)))] := hD
  refine W.widen (k := 10) (n := 9466) (Nat.le_of_ble_eq_true rfl) (Nat.le_of_ble_eq_true rfl) ?_
  refine c_putF 0 22 [(h, .inr (12, [.ref q1, .ref q2, .ref q3, .int 0, .int 0, .int 0, .int 0, .int 0, .ref q4, .ref q5, .int 0, .ref q6, .int 0, .ref q7, .ref q8, .int 0, .int 0, .ref q9, .int 0, .int 0, .int 0, .int 0, .ref q10, .null, .null, .null, .null, .null, .null, .int 0, .int 0])), (q1, .inl (cI, 10, .inl (fun _ => 0))), (q2, .inl (cI, 10, .inl (fun _ => 0))), (q3, .inl (cI, 10, .inl (fun _ => 0))), (q4, .inl (cI, 8, .inl (fun _ => 0))), (q5, .inl (cI, 8, .inl (fun _ => 0))), (q6, .inl (cI, 60, .inl (fun _ => 0))), (q7, .inl (cI, 60, .inl (fun _ => 0))), (q8, .inl (cI, 60, .inl (fun _ => 0))), (q9, .inl (cI, 24, .inl (fun _ => 0))), (q10, .inl (cI, 9216, .inl (fun _ => 0)))] hC hin hK hP hD hS rfl FOk_12 (Nat.le_of_ble_eq_true rfl) tc_735 rfl rfl (tyX12_ok 22 (by decide)) rfl rfl (Nat.le_of_ble_eq_true rfl) dX12_init_82 rfl (fun H locs hP hD hS => ?_)
  refine lv_aload_n hC.1 hC.2.1 dX12_init_85 rfl (lv_at hl 0 rfl) ?_
  refine lv_bipush (v := 6) hC.1 hC.2.1 dX12_init_86 (by decide +kernel) ?_
  refine c_newI 6 hC hK hP hD hS hA (by decide +kernel) (by decide +kernel) (Nat.le_of_ble_eq_true rfl) (Nat.le_of_ble_eq_true rfl) (Nat.le_of_ble_eq_true rfl) dX12_init_88 (fun q11 H hP hD hS => ?_)
  have hP : va_P D vwCl [(h, .inr (12, [.ref q1, .ref q2, .ref q3, .int 0, .int 0, .int 0, .int 0, .int 0, .ref q4, .ref q5, .int 0, .ref q6, .int 0, .ref q7, .ref q8, .int 0, .int 0, .ref q9, .int 0, .int 0, .int 0, .int 0, .ref q10, .null, .null, .null, .null, .null, .null, .int 0, .int 0])), (q1, .inl (cI, 10, .inl (fun _ => 0))), (q2, .inl (cI, 10, .inl (fun _ => 0))), (q3, .inl (cI, 10, .inl (fun _ => 0))), (q4, .inl (cI, 8, .inl (fun _ => 0))), (q5, .inl (cI, 8, .inl (fun _ => 0))), (q6, .inl (cI, 60, .inl (fun _ => 0))), (q7, .inl (cI, 60, .inl (fun _ => 0))), (q8, .inl (cI, 60, .inl (fun _ => 0))), (q9, .inl (cI, 24, .inl (fun _ => 0))), (q10, .inl (cI, 9216, .inl (fun _ => 0))), (q11, .inl (cI, 6, .inl (fun _ => 0)))] H := hP
  have hD : va_D A [(h, .inr (12, [.ref q1, .ref q2, .ref q3, .int 0, .int 0, .int 0, .int 0, .int 0, .ref q4, .ref q5, .int 0, .ref q6, .int 0, .ref q7, .ref q8, .int 0, .int 0, .ref q9, .int 0, .int 0, .int 0, .int 0, .ref q10, .null, .null, .null, .null, .null, .null, .int 0, .int 0])), (q1, .inl (cI, 10, .inl (fun _ => 0))), (q2, .inl (cI, 10, .inl (fun _ => 0))), (q3, .inl (cI, 10, .inl (fun _ => 0))), (q4, .inl (cI, 8, .inl (fun _ => 0))), (q5, .inl (cI, 8, .inl (fun _ => 0))), (q6, .inl (cI, 60, .inl (fun _ => 0))), (q7, .inl (cI, 60, .inl (fun _ => 0))), (q8, .inl (cI, 60, .inl (fun _ => 0))), (q9, .inl (cI, 24, .inl (fun _ => 0))), (q10, .inl (cI, 9216, .inl (fun _ => 0))), (q11, .inl (cI, 6, .inl (fun _ => 0)))] := hD
  refine W.widen (k := 11) (n := 9472) (Nat.le_of_ble_eq_true rfl) (Nat.le_of_ble_eq_true rfl) ?_
  refine c_putF 0 23 [(h, .inr (12, [.ref q1, .ref q2, .ref q3, .int 0, .int 0, .int 0, .int 0, .int 0, .ref q4, .ref q5, .int 0, .ref q6, .int 0, .ref q7, .ref q8, .int 0, .int 0, .ref q9, .int 0, .int 0, .int 0, .int 0, .ref q10, .ref q11, .null, .null, .null, .null, .null, .int 0, .int 0])), (q1, .inl (cI, 10, .inl (fun _ => 0))), (q2, .inl (cI, 10, .inl (fun _ => 0))), (q3, .inl (cI, 10, .inl (fun _ => 0))), (q4, .inl (cI, 8, .inl (fun _ => 0))), (q5, .inl (cI, 8, .inl (fun _ => 0))), (q6, .inl (cI, 60, .inl (fun _ => 0))), (q7, .inl (cI, 60, .inl (fun _ => 0))), (q8, .inl (cI, 60, .inl (fun _ => 0))), (q9, .inl (cI, 24, .inl (fun _ => 0))), (q10, .inl (cI, 9216, .inl (fun _ => 0))), (q11, .inl (cI, 6, .inl (fun _ => 0)))] hC hin hK hP hD hS rfl FOk_12 (Nat.le_of_ble_eq_true rfl) tc_736 rfl rfl (tyX12_ok 23 (by decide)) rfl rfl (Nat.le_of_ble_eq_true rfl) dX12_init_90 rfl (fun H locs hP hD hS => ?_)
  refine lv_aload_n hC.1 hC.2.1 dX12_init_93 rfl (lv_at hl 0 rfl) ?_
  refine lv_bipush (v := 8) hC.1 hC.2.1 dX12_init_94 (by decide +kernel) ?_
  refine c_newI 8 hC hK hP hD hS hA (by decide +kernel) (by decide +kernel) (Nat.le_of_ble_eq_true rfl) (Nat.le_of_ble_eq_true rfl) (Nat.le_of_ble_eq_true rfl) dX12_init_96 (fun q12 H hP hD hS => ?_)
  have hP : va_P D vwCl [(h, .inr (12, [.ref q1, .ref q2, .ref q3, .int 0, .int 0, .int 0, .int 0, .int 0, .ref q4, .ref q5, .int 0, .ref q6, .int 0, .ref q7, .ref q8, .int 0, .int 0, .ref q9, .int 0, .int 0, .int 0, .int 0, .ref q10, .ref q11, .null, .null, .null, .null, .null, .int 0, .int 0])), (q1, .inl (cI, 10, .inl (fun _ => 0))), (q2, .inl (cI, 10, .inl (fun _ => 0))), (q3, .inl (cI, 10, .inl (fun _ => 0))), (q4, .inl (cI, 8, .inl (fun _ => 0))), (q5, .inl (cI, 8, .inl (fun _ => 0))), (q6, .inl (cI, 60, .inl (fun _ => 0))), (q7, .inl (cI, 60, .inl (fun _ => 0))), (q8, .inl (cI, 60, .inl (fun _ => 0))), (q9, .inl (cI, 24, .inl (fun _ => 0))), (q10, .inl (cI, 9216, .inl (fun _ => 0))), (q11, .inl (cI, 6, .inl (fun _ => 0))), (q12, .inl (cI, 8, .inl (fun _ => 0)))] H := hP
  have hD : va_D A [(h, .inr (12, [.ref q1, .ref q2, .ref q3, .int 0, .int 0, .int 0, .int 0, .int 0, .ref q4, .ref q5, .int 0, .ref q6, .int 0, .ref q7, .ref q8, .int 0, .int 0, .ref q9, .int 0, .int 0, .int 0, .int 0, .ref q10, .ref q11, .null, .null, .null, .null, .null, .int 0, .int 0])), (q1, .inl (cI, 10, .inl (fun _ => 0))), (q2, .inl (cI, 10, .inl (fun _ => 0))), (q3, .inl (cI, 10, .inl (fun _ => 0))), (q4, .inl (cI, 8, .inl (fun _ => 0))), (q5, .inl (cI, 8, .inl (fun _ => 0))), (q6, .inl (cI, 60, .inl (fun _ => 0))), (q7, .inl (cI, 60, .inl (fun _ => 0))), (q8, .inl (cI, 60, .inl (fun _ => 0))), (q9, .inl (cI, 24, .inl (fun _ => 0))), (q10, .inl (cI, 9216, .inl (fun _ => 0))), (q11, .inl (cI, 6, .inl (fun _ => 0))), (q12, .inl (cI, 8, .inl (fun _ => 0)))] := hD
  refine W.widen (k := 12) (n := 9480) (Nat.le_of_ble_eq_true rfl) (Nat.le_of_ble_eq_true rfl) ?_
  refine c_putF 0 24 [(h, .inr (12, [.ref q1, .ref q2, .ref q3, .int 0, .int 0, .int 0, .int 0, .int 0, .ref q4, .ref q5, .int 0, .ref q6, .int 0, .ref q7, .ref q8, .int 0, .int 0, .ref q9, .int 0, .int 0, .int 0, .int 0, .ref q10, .ref q11, .ref q12, .null, .null, .null, .null, .int 0, .int 0])), (q1, .inl (cI, 10, .inl (fun _ => 0))), (q2, .inl (cI, 10, .inl (fun _ => 0))), (q3, .inl (cI, 10, .inl (fun _ => 0))), (q4, .inl (cI, 8, .inl (fun _ => 0))), (q5, .inl (cI, 8, .inl (fun _ => 0))), (q6, .inl (cI, 60, .inl (fun _ => 0))), (q7, .inl (cI, 60, .inl (fun _ => 0))), (q8, .inl (cI, 60, .inl (fun _ => 0))), (q9, .inl (cI, 24, .inl (fun _ => 0))), (q10, .inl (cI, 9216, .inl (fun _ => 0))), (q11, .inl (cI, 6, .inl (fun _ => 0))), (q12, .inl (cI, 8, .inl (fun _ => 0)))] hC hin hK hP hD hS rfl FOk_12 (Nat.le_of_ble_eq_true rfl) tc_737 rfl rfl (tyX12_ok 24 (by decide)) rfl rfl (Nat.le_of_ble_eq_true rfl) dX12_init_98 rfl (fun H locs hP hD hS => ?_)
  refine lv_aload_n hC.1 hC.2.1 dX12_init_101 rfl (lv_at hl 0 rfl) ?_
  refine lv_sipush (v := 441) hC.1 hC.2.1 dX12_init_102 (by decide +kernel) ?_
  refine c_newZ 441 hC hK hP hD hS hA (by decide +kernel) (by decide +kernel) (Nat.le_of_ble_eq_true rfl) (Nat.le_of_ble_eq_true rfl) (Nat.le_of_ble_eq_true rfl) dX12_init_105 (fun q13 H hP hD hS => ?_)
  have hP : va_P D vwCl [(h, .inr (12, [.ref q1, .ref q2, .ref q3, .int 0, .int 0, .int 0, .int 0, .int 0, .ref q4, .ref q5, .int 0, .ref q6, .int 0, .ref q7, .ref q8, .int 0, .int 0, .ref q9, .int 0, .int 0, .int 0, .int 0, .ref q10, .ref q11, .ref q12, .null, .null, .null, .null, .int 0, .int 0])), (q1, .inl (cI, 10, .inl (fun _ => 0))), (q2, .inl (cI, 10, .inl (fun _ => 0))), (q3, .inl (cI, 10, .inl (fun _ => 0))), (q4, .inl (cI, 8, .inl (fun _ => 0))), (q5, .inl (cI, 8, .inl (fun _ => 0))), (q6, .inl (cI, 60, .inl (fun _ => 0))), (q7, .inl (cI, 60, .inl (fun _ => 0))), (q8, .inl (cI, 60, .inl (fun _ => 0))), (q9, .inl (cI, 24, .inl (fun _ => 0))), (q10, .inl (cI, 9216, .inl (fun _ => 0))), (q11, .inl (cI, 6, .inl (fun _ => 0))), (q12, .inl (cI, 8, .inl (fun _ => 0))), (q13, .inl (cZ, 441, .inl (fun _ => 0)))] H := hP
  have hD : va_D A [(h, .inr (12, [.ref q1, .ref q2, .ref q3, .int 0, .int 0, .int 0, .int 0, .int 0, .ref q4, .ref q5, .int 0, .ref q6, .int 0, .ref q7, .ref q8, .int 0, .int 0, .ref q9, .int 0, .int 0, .int 0, .int 0, .ref q10, .ref q11, .ref q12, .null, .null, .null, .null, .int 0, .int 0])), (q1, .inl (cI, 10, .inl (fun _ => 0))), (q2, .inl (cI, 10, .inl (fun _ => 0))), (q3, .inl (cI, 10, .inl (fun _ => 0))), (q4, .inl (cI, 8, .inl (fun _ => 0))), (q5, .inl (cI, 8, .inl (fun _ => 0))), (q6, .inl (cI, 60, .inl (fun _ => 0))), (q7, .inl (cI, 60, .inl (fun _ => 0))), (q8, .inl (cI, 60, .inl (fun _ => 0))), (q9, .inl (cI, 24, .inl (fun _ => 0))), (q10, .inl (cI, 9216, .inl (fun _ => 0))), (q11, .inl (cI, 6, .inl (fun _ => 0))), (q12, .inl (cI, 8, .inl (fun _ => 0))), (q13, .inl (cZ, 441, .inl (fun _ => 0)))] := hD
  refine W.widen (k := 13) (n := 9921) (Nat.le_of_ble_eq_true rfl) (Nat.le_of_ble_eq_true rfl) ?_
  refine c_putF 0 25 [(h, .inr (12, [.ref q1, .ref q2, .ref q3, .int 0, .int 0, .int 0, .int 0, .int 0, .ref q4, .ref q5, .int 0, .ref q6, .int 0, .ref q7, .ref q8, .int 0, .int 0, .ref q9, .int 0, .int 0, .int 0, .int 0, .ref q10, .ref q11, .ref q12, .ref q13, .null, .null, .null, .int 0, .int 0])), (q1, .inl (cI, 10, .inl (fun _ => 0))), (q2, .inl (cI, 10, .inl (fun _ => 0))), (q3, .inl (cI, 10, .inl (fun _ => 0))), (q4, .inl (cI, 8, .inl (fun _ => 0))), (q5, .inl (cI, 8, .inl (fun _ => 0))), (q6, .inl (cI, 60, .inl (fun _ => 0))), (q7, .inl (cI, 60, .inl (fun _ => 0))), (q8, .inl (cI, 60, .inl (fun _ => 0))), (q9, .inl (cI, 24, .inl (fun _ => 0))), (q10, .inl (cI, 9216, .inl (fun _ => 0))), (q11, .inl (cI, 6, .inl (fun _ => 0))), (q12, .inl (cI, 8, .inl (fun _ => 0))), (q13, .inl (cZ, 441, .inl (fun _ => 0)))] hC hin hK hP hD hS rfl FOk_12 (Nat.le_of_ble_eq_true rfl) tc_738 rfl rfl (tyX12_ok 25 (by decide)) rfl rfl (Nat.le_of_ble_eq_true rfl) dX12_init_107 rfl (fun H locs hP hD hS => ?_)
  refine lv_aload_n hC.1 hC.2.1 dX12_init_110 rfl (lv_at hl 0 rfl) ?_
  refine lv_bipush (v := 14) hC.1 hC.2.1 dX12_init_111 (by decide +kernel) ?_
  refine c_newL 14 hC hK hP hD hS hA (by decide +kernel) (by decide +kernel) (Nat.le_of_ble_eq_true rfl) (Nat.le_of_ble_eq_true rfl) (Nat.le_of_ble_eq_true rfl) dX12_init_113 (fun q14 H hP hD hS => ?_)
  have hP : va_P D vwCl [(h, .inr (12, [.ref q1, .ref q2, .ref q3, .int 0, .int 0, .int 0, .int 0, .int 0, .ref q4, .ref q5, .int 0, .ref q6, .int 0, .ref q7, .ref q8, .int 0, .int 0, .ref q9, .int 0, .int 0, .int 0, .int 0, .ref q10, .ref q11, .ref q12, .ref q13, .null, .null, .null, .int 0, .int 0])), (q1, .inl (cI, 10, .inl (fun _ => 0))), (q2, .inl (cI, 10, .inl (fun _ => 0))), (q3, .inl (cI, 10, .inl (fun _ => 0))), (q4, .inl (cI, 8, .inl (fun _ => 0))), (q5, .inl (cI, 8, .inl (fun _ => 0))), (q6, .inl (cI, 60, .inl (fun _ => 0))), (q7, .inl (cI, 60, .inl (fun _ => 0))), (q8, .inl (cI, 60, .inl (fun _ => 0))), (q9, .inl (cI, 24, .inl (fun _ => 0))), (q10, .inl (cI, 9216, .inl (fun _ => 0))), (q11, .inl (cI, 6, .inl (fun _ => 0))), (q12, .inl (cI, 8, .inl (fun _ => 0))), (q13, .inl (cZ, 441, .inl (fun _ => 0))), (q14, .inl (cL, 14, .inr (.inl (fun _ => 0))))] H := hP
  have hD : va_D A [(h, .inr (12, [.ref q1, .ref q2, .ref q3, .int 0, .int 0, .int 0, .int 0, .int 0, .ref q4, .ref q5, .int 0, .ref q6, .int 0, .ref q7, .ref q8, .int 0, .int 0, .ref q9, .int 0, .int 0, .int 0, .int 0, .ref q10, .ref q11, .ref q12, .ref q13, .null, .null, .null, .int 0, .int 0])), (q1, .inl (cI, 10, .inl (fun _ => 0))), (q2, .inl (cI, 10, .inl (fun _ => 0))), (q3, .inl (cI, 10, .inl (fun _ => 0))), (q4, .inl (cI, 8, .inl (fun _ => 0))), (q5, .inl (cI, 8, .inl (fun _ => 0))), (q6, .inl (cI, 60, .inl (fun _ => 0))), (q7, .inl (cI, 60, .inl (fun _ => 0))), (q8, .inl (cI, 60, .inl (fun _ => 0))), (q9, .inl (cI, 24, .inl (fun _ => 0))), (q10, .inl (cI, 9216, .inl (fun _ => 0))), (q11, .inl (cI, 6, .inl (fun _ => 0))), (q12, .inl (cI, 8, .inl (fun _ => 0))), (q13, .inl (cZ, 441, .inl (fun _ => 0))), (q14, .inl (cL, 14, .inr (.inl (fun _ => 0))))] := hD
  refine W.widen (k := 14) (n := 9935) (Nat.le_of_ble_eq_true rfl) (Nat.le_of_ble_eq_true rfl) ?_
  refine c_putF 0 26 [(h, .inr (12, [.ref q1, .ref q2, .ref q3, .int 0, .int 0, .int 0, .int 0, .int 0, .ref q4, .ref q5, .int 0, .ref q6, .int 0, .ref q7, .ref q8, .int 0, .int 0, .ref q9, .int 0, .int 0, .int 0, .int 0, .ref q10, .ref q11, .ref q12, .ref q13, .ref q14, .null, .null, .int 0, .int 0])), (q1, .inl (cI, 10, .inl (fun _ => 0))), (q2, .inl (cI, 10, .inl (fun _ => 0))), (q3, .inl (cI, 10, .inl (fun _ => 0))), (q4, .inl (cI, 8, .inl (fun _ => 0))), (q5, .inl (cI, 8, .inl (fun _ => 0))), (q6, .inl (cI, 60, .inl (fun _ => 0))), (q7, .inl (cI, 60, .inl (fun _ => 0))), (q8, .inl (cI, 60, .inl (fun _ => 0))), (q9, .inl (cI, 24, .inl (fun _ => 0))), (q10, .inl (cI, 9216, .inl (fun _ => 0))), (q11, .inl (cI, 6, .inl (fun _ => 0))), (q12, .inl (cI, 8, .inl (fun _ => 0))), (q13, .inl (cZ, 441, .inl (fun _ => 0))), (q14, .inl (cL, 14, .inr (.inl (fun _ => 0))))] hC hin hK hP hD hS rfl FOk_12 (Nat.le_of_ble_eq_true rfl) tc_739 rfl rfl (tyX12_ok 26 (by decide)) rfl rfl (Nat.le_of_ble_eq_true rfl) dX12_init_115 rfl (fun H locs hP hD hS => ?_)
  refine lv_aload_n hC.1 hC.2.1 dX12_init_118 rfl (lv_at hl 0 rfl) ?_
  refine lv_bipush (v := 120) hC.1 hC.2.1 dX12_init_119 (by decide +kernel) ?_
  refine c_newI 120 hC hK hP hD hS hA (by decide +kernel) (by decide +kernel) (Nat.le_of_ble_eq_true rfl) (Nat.le_of_ble_eq_true rfl) (Nat.le_of_ble_eq_true rfl) dX12_init_121 (fun q15 H hP hD hS => ?_)
  have hP : va_P D vwCl [(h, .inr (12, [.ref q1, .ref q2, .ref q3, .int 0, .int 0, .int 0, .int 0, .int 0, .ref q4, .ref q5, .int 0, .ref q6, .int 0, .ref q7, .ref q8, .int 0, .int 0, .ref q9, .int 0, .int 0, .int 0, .int 0, .ref q10, .ref q11, .ref q12, .ref q13, .ref q14, .null, .null, .int 0, .int 0])), (q1, .inl (cI, 10, .inl (fun _ => 0))), (q2, .inl (cI, 10, .inl (fun _ => 0))), (q3, .inl (cI, 10, .inl (fun _ => 0))), (q4, .inl (cI, 8, .inl (fun _ => 0))), (q5, .inl (cI, 8, .inl (fun _ => 0))), (q6, .inl (cI, 60, .inl (fun _ => 0))), (q7, .inl (cI, 60, .inl (fun _ => 0))), (q8, .inl (cI, 60, .inl (fun _ => 0))), (q9, .inl (cI, 24, .inl (fun _ => 0))), (q10, .inl (cI, 9216, .inl (fun _ => 0))), (q11, .inl (cI, 6, .inl (fun _ => 0))), (q12, .inl (cI, 8, .inl (fun _ => 0))), (q13, .inl (cZ, 441, .inl (fun _ => 0))), (q14, .inl (cL, 14, .inr (.inl (fun _ => 0)))), (q15, .inl (cI, 120, .inl (fun _ => 0)))] H := hP
  have hD : va_D A [(h, .inr (12, [.ref q1, .ref q2, .ref q3, .int 0, .int 0, .int 0, .int 0, .int 0, .ref q4, .ref q5, .int 0, .ref q6, .int 0, .ref q7, .ref q8, .int 0, .int 0, .ref q9, .int 0, .int 0, .int 0, .int 0, .ref q10, .ref q11, .ref q12, .ref q13, .ref q14, .null, .null, .int 0, .int 0])), (q1, .inl (cI, 10, .inl (fun _ => 0))), (q2, .inl (cI, 10, .inl (fun _ => 0))), (q3, .inl (cI, 10, .inl (fun _ => 0))), (q4, .inl (cI, 8, .inl (fun _ => 0))), (q5, .inl (cI, 8, .inl (fun _ => 0))), (q6, .inl (cI, 60, .inl (fun _ => 0))), (q7, .inl (cI, 60, .inl (fun _ => 0))), (q8, .inl (cI, 60, .inl (fun _ => 0))), (q9, .inl (cI, 24, .inl (fun _ => 0))), (q10, .inl (cI, 9216, .inl (fun _ => 0))), (q11, .inl (cI, 6, .inl (fun _ => 0))), (q12, .inl (cI, 8, .inl (fun _ => 0))), (q13, .inl (cZ, 441, .inl (fun _ => 0))), (q14, .inl (cL, 14, .inr (.inl (fun _ => 0)))), (q15, .inl (cI, 120, .inl (fun _ => 0)))] := hD
  refine W.widen (k := 15) (n := 10055) (Nat.le_of_ble_eq_true rfl) (Nat.le_of_ble_eq_true rfl) ?_
  refine c_putF 0 27 [(h, .inr (12, [.ref q1, .ref q2, .ref q3, .int 0, .int 0, .int 0, .int 0, .int 0, .ref q4, .ref q5, .int 0, .ref q6, .int 0, .ref q7, .ref q8, .int 0, .int 0, .ref q9, .int 0, .int 0, .int 0, .int 0, .ref q10, .ref q11, .ref q12, .ref q13, .ref q14, .ref q15, .null, .int 0, .int 0])), (q1, .inl (cI, 10, .inl (fun _ => 0))), (q2, .inl (cI, 10, .inl (fun _ => 0))), (q3, .inl (cI, 10, .inl (fun _ => 0))), (q4, .inl (cI, 8, .inl (fun _ => 0))), (q5, .inl (cI, 8, .inl (fun _ => 0))), (q6, .inl (cI, 60, .inl (fun _ => 0))), (q7, .inl (cI, 60, .inl (fun _ => 0))), (q8, .inl (cI, 60, .inl (fun _ => 0))), (q9, .inl (cI, 24, .inl (fun _ => 0))), (q10, .inl (cI, 9216, .inl (fun _ => 0))), (q11, .inl (cI, 6, .inl (fun _ => 0))), (q12, .inl (cI, 8, .inl (fun _ => 0))), (q13, .inl (cZ, 441, .inl (fun _ => 0))), (q14, .inl (cL, 14, .inr (.inl (fun _ => 0)))), (q15, .inl (cI, 120, .inl (fun _ => 0)))] hC hin hK hP hD hS rfl FOk_12 (Nat.le_of_ble_eq_true rfl) tc_740 rfl rfl (tyX12_ok 27 (by decide)) rfl rfl (Nat.le_of_ble_eq_true rfl) dX12_init_123 rfl (fun H locs hP hD hS => ?_)
  refine lv_aload_n hC.1 hC.2.1 dX12_init_126 rfl (lv_at hl 0 rfl) ?_
  refine lv_iconst (v := 2) hC.1 hC.2.1 dX12_init_127 (by decide +kernel) ?_
  refine c_newZ 2 hC hK hP hD hS hA (by decide +kernel) (by decide +kernel) (Nat.le_of_ble_eq_true rfl) (Nat.le_of_ble_eq_true rfl) (Nat.le_of_ble_eq_true rfl) dX12_init_128 (fun q16 H hP hD hS => ?_)
  have hP : va_P D vwCl [(h, .inr (12, [.ref q1, .ref q2, .ref q3, .int 0, .int 0, .int 0, .int 0, .int 0, .ref q4, .ref q5, .int 0, .ref q6, .int 0, .ref q7, .ref q8, .int 0, .int 0, .ref q9, .int 0, .int 0, .int 0, .int 0, .ref q10, .ref q11, .ref q12, .ref q13, .ref q14, .ref q15, .null, .int 0, .int 0])), (q1, .inl (cI, 10, .inl (fun _ => 0))), (q2, .inl (cI, 10, .inl (fun _ => 0))), (q3, .inl (cI, 10, .inl (fun _ => 0))), (q4, .inl (cI, 8, .inl (fun _ => 0))), (q5, .inl (cI, 8, .inl (fun _ => 0))), (q6, .inl (cI, 60, .inl (fun _ => 0))), (q7, .inl (cI, 60, .inl (fun _ => 0))), (q8, .inl (cI, 60, .inl (fun _ => 0))), (q9, .inl (cI, 24, .inl (fun _ => 0))), (q10, .inl (cI, 9216, .inl (fun _ => 0))), (q11, .inl (cI, 6, .inl (fun _ => 0))), (q12, .inl (cI, 8, .inl (fun _ => 0))), (q13, .inl (cZ, 441, .inl (fun _ => 0))), (q14, .inl (cL, 14, .inr (.inl (fun _ => 0)))), (q15, .inl (cI, 120, .inl (fun _ => 0))), (q16, .inl (cZ, 2, .inl (fun _ => 0)))] H := hP
  have hD : va_D A [(h, .inr (12, [.ref q1, .ref q2, .ref q3, .int 0, .int 0, .int 0, .int 0, .int 0, .ref q4, .ref q5, .int 0, .ref q6, .int 0, .ref q7, .ref q8, .int 0, .int 0, .ref q9, .int 0, .int 0, .int 0, .int 0, .ref q10, .ref q11, .ref q12, .ref q13, .ref q14, .ref q15, .null, .int 0, .int 0])), (q1, .inl (cI, 10, .inl (fun _ => 0))), (q2, .inl (cI, 10, .inl (fun _ => 0))), (q3, .inl (cI, 10, .inl (fun _ => 0))), (q4, .inl (cI, 8, .inl (fun _ => 0))), (q5, .inl (cI, 8, .inl (fun _ => 0))), (q6, .inl (cI, 60, .inl (fun _ => 0))), (q7, .inl (cI, 60, .inl (fun _ => 0))), (q8, .inl (cI, 60, .inl (fun _ => 0))), (q9, .inl (cI, 24, .inl (fun _ => 0))), (q10, .inl (cI, 9216, .inl (fun _ => 0))), (q11, .inl (cI, 6, .inl (fun _ => 0))), (q12, .inl (cI, 8, .inl (fun _ => 0))), (q13, .inl (cZ, 441, .inl (fun _ => 0))), (q14, .inl (cL, 14, .inr (.inl (fun _ => 0)))), (q15, .inl (cI, 120, .inl (fun _ => 0))), (q16, .inl (cZ, 2, .inl (fun _ => 0)))] := hD
  refine W.widen (k := 16) (n := 10057) (Nat.le_of_ble_eq_true rfl) (Nat.le_of_ble_eq_true rfl) ?_
  refine c_putF 0 28 [(h, .inr (12, [.ref q1, .ref q2, .ref q3, .int 0, .int 0, .int 0, .int 0, .int 0, .ref q4, .ref q5, .int 0, .ref q6, .int 0, .ref q7, .ref q8, .int 0, .int 0, .ref q9, .int 0, .int 0, .int 0, .int 0, .ref q10, .ref q11, .ref q12, .ref q13, .ref q14, .ref q15, .ref q16, .int 0, .int 0])), (q1, .inl (cI, 10, .inl (fun _ => 0))), (q2, .inl (cI, 10, .inl (fun _ => 0))), (q3, .inl (cI, 10, .inl (fun _ => 0))), (q4, .inl (cI, 8, .inl (fun _ => 0))), (q5, .inl (cI, 8, .inl (fun _ => 0))), (q6, .inl (cI, 60, .inl (fun _ => 0))), (q7, .inl (cI, 60, .inl (fun _ => 0))), (q8, .inl (cI, 60, .inl (fun _ => 0))), (q9, .inl (cI, 24, .inl (fun _ => 0))), (q10, .inl (cI, 9216, .inl (fun _ => 0))), (q11, .inl (cI, 6, .inl (fun _ => 0))), (q12, .inl (cI, 8, .inl (fun _ => 0))), (q13, .inl (cZ, 441, .inl (fun _ => 0))), (q14, .inl (cL, 14, .inr (.inl (fun _ => 0)))), (q15, .inl (cI, 120, .inl (fun _ => 0))), (q16, .inl (cZ, 2, .inl (fun _ => 0)))] hC hin hK hP hD hS rfl FOk_12 (Nat.le_of_ble_eq_true rfl) tc_741 rfl rfl (tyX12_ok 28 (by decide)) rfl rfl (Nat.le_of_ble_eq_true rfl) dX12_init_130 rfl (fun H locs hP hD hS => ?_)
  refine lv_aload_n hC.1 hC.2.1 dX12_init_133 rfl (lv_at hl 0 rfl) ?_
  refine lv_bipush (v := 60) hC.1 hC.2.1 dX12_init_134 (by decide +kernel) ?_
  refine c_putI 0 7 [(h, .inr (12, [.ref q1, .ref q2, .ref q3, .int 0, .int 0, .int 0, .int 0, .int 60, .ref q4, .ref q5, .int 0, .ref q6, .int 0, .ref q7, .ref q8, .int 0, .int 0, .ref q9, .int 0, .int 0, .int 0, .int 0, .ref q10, .ref q11, .ref q12, .ref q13, .ref q14, .ref q15, .ref q16, .int 0, .int 0])), (q1, .inl (cI, 10, .inl (fun _ => 0))), (q2, .inl (cI, 10, .inl (fun _ => 0))), (q3, .inl (cI, 10, .inl (fun _ => 0))), (q4, .inl (cI, 8, .inl (fun _ => 0))), (q5, .inl (cI, 8, .inl (fun _ => 0))), (q6, .inl (cI, 60, .inl (fun _ => 0))), (q7, .inl (cI, 60, .inl (fun _ => 0))), (q8, .inl (cI, 60, .inl (fun _ => 0))), (q9, .inl (cI, 24, .inl (fun _ => 0))), (q10, .inl (cI, 9216, .inl (fun _ => 0))), (q11, .inl (cI, 6, .inl (fun _ => 0))), (q12, .inl (cI, 8, .inl (fun _ => 0))), (q13, .inl (cZ, 441, .inl (fun _ => 0))), (q14, .inl (cL, 14, .inr (.inl (fun _ => 0)))), (q15, .inl (cI, 120, .inl (fun _ => 0))), (q16, .inl (cZ, 2, .inl (fun _ => 0)))] hC hK hP hD hS rfl FOk_12 (Nat.le_of_ble_eq_true rfl) tc_720 rfl (tyX12_ok 7 (by decide)) (Nat.le_of_ble_eq_true rfl) dX12_init_136 rfl (fun H locs hP hD hS => ?_)
  refine lv_iconst (v := nI 0) hC.1 hC.2.1 dX12_init_139 (by decide +kernel) ?_
  refine lv_istore_n (lv' := [(1, .int (nI 0)), (0, .ref h)]) hC.1 hC.2.1 dX12_init_140 rfl hl (by decide) rfl (fun ls hl => ?_)
  refine loop_X12 (Q := Q) hC hK rfl rfl 10 0 rfl (fun _ => 0) (fun _ => 0) _ _ ls hP hD hS hl (fun H locs ls hP hD hS hl => ?_)
  have hP : va_P D vwCl [(h, .inr (12, [.ref q1, .ref q2, .ref q3, .int 0, .int 0, .int 0, .int 0, .int 60, .ref q4, .ref q5, .int 0, .ref q6, .int 0, .ref q7, .ref q8, .int 0, .int 0, .ref q9, .int 0, .int 0, .int 0, .int 0, .ref q10, .ref q11, .ref q12, .ref q13, .ref q14, .ref q15, .ref q16, .int 0, .int 0])), (q1, .inl (cI, 10, .inl (fl 10 0 (fun _ => 0)))), (q2, .inl (cI, 10, .inl (fun _ => 0))), (q3, .inl (cI, 10, .inl (gl 10 0 (fun _ => 0)))), (q4, .inl (cI, 8, .inl (fun _ => 0))), (q5, .inl (cI, 8, .inl (fun _ => 0))), (q6, .inl (cI, 60, .inl (fun _ => 0))), (q7, .inl (cI, 60, .inl (fun _ => 0))), (q8, .inl (cI, 60, .inl (fun _ => 0))), (q9, .inl (cI, 24, .inl (fun _ => 0))), (q10, .inl (cI, 9216, .inl (fun _ => 0))), (q11, .inl (cI, 6, .inl (fun _ => 0))), (q12, .inl (cI, 8, .inl (fun _ => 0))), (q13, .inl (cZ, 441, .inl (fun _ => 0))), (q14, .inl (cL, 14, .inr (.inl (fun _ => 0)))), (q15, .inl (cI, 120, .inl (fun _ => 0))), (q16, .inl (cZ, 2, .inl (fun _ => 0)))] H := hP
  have hD : va_D A [(h, .inr (12, [.ref q1, .ref q2, .ref q3, .int 0, .int 0, .int 0, .int 0, .int 60, .ref q4, .ref q5, .int 0, .ref q6, .int 0, .ref q7, .ref q8, .int 0, .int 0, .ref q9, .int 0, .int 0, .int 0, .int 0, .ref q10, .ref q11, .ref q12, .ref q13, .ref q14, .ref q15, .ref q16, .int 0, .int 0])), (q1, .inl (cI, 10, .inl (fl 10 0 (fun _ => 0)))), (q2, .inl (cI, 10, .inl (fun _ => 0))), (q3, .inl (cI, 10, .inl (gl 10 0 (fun _ => 0)))), (q4, .inl (cI, 8, .inl (fun _ => 0))), (q5, .inl (cI, 8, .inl (fun _ => 0))), (q6, .inl (cI, 60, .inl (fun _ => 0))), (q7, .inl (cI, 60, .inl (fun _ => 0))), (q8, .inl (cI, 60, .inl (fun _ => 0))), (q9, .inl (cI, 24, .inl (fun _ => 0))), (q10, .inl (cI, 9216, .inl (fun _ => 0))), (q11, .inl (cI, 6, .inl (fun _ => 0))), (q12, .inl (cI, 8, .inl (fun _ => 0))), (q13, .inl (cZ, 441, .inl (fun _ => 0))), (q14, .inl (cL, 14, .inr (.inl (fun _ => 0)))), (q15, .inl (cI, 120, .inl (fun _ => 0))), (q16, .inl (cZ, 2, .inl (fun _ => 0)))] := hD
  exact hend (fun j => ([q1, q2, q3, q4, q5, q6, q7, q8, q9, q10, q11, q12, q13, q14, q15, q16] : List Nat).getD j 0) _ _ 167 ls hP hD hS dX12_init_167
def md_X2_init : MD := (yX2_init, cX2_init, 1, none, 2, 33)
def w0_X2 (h : Nat) : va_W := [(h, .inr (2, [.null, .int 0, .int 0, .int 0, .int 0, .int 0, .int 0]))]
def w1_X2 (cI cL cZ : ClassId) (h : Nat) (u : Nat → Nat) : va_W := (h, .inr (2, [.ref (u 0), .int 0, .int 0, .int 0, .int 0, .int 0, .int 0])) :: ([] ++ w1_X0 cI cL cZ (u 0) (fun j => u (1 + j)))
theorem mok_X2 : MOk md_X2_init 0 := ⟨tc_179, tc_49, by decide +kernel, by decide +kernel, by decide +kernel⟩
set_option maxHeartbeats 4000000 in
set_option maxRecDepth 100000 in
theorem k_X2 : CtC md_X2_init 4 38 w0_X2 w1_X2 := by
  refine CtC_of (by decide +kernel) (Nat.le_of_ble_eq_true rfl) rfl rfl ?_
  intro l D cI cL cZ h p e s m below meth c A Q ls hC hin hK hP hD hA hl hend
  have hS : va_S A s.heap s.heap [] := va_S.rf
  have hP : va_P D vwCl [(h, .inr (2, [.null, .int 0, .int 0, .int 0, .int 0, .int 0, .int 0]))] s.heap := hP
  have hD : va_D A [(h, .inr (2, [.null, .int 0, .int 0, .int 0, .int 0, .int 0, .int 0]))] := hD
  refine lv_aload_n hC.1 hC.2.1 dX2_init_0 rfl (lv_at hl 0 rfl) ?_
  refine c_obj hC hl tc_180 dX2_init_1 (Nat.le_of_ble_eq_true rfl) (Nat.le_of_ble_eq_true rfl) ?_
  refine lv_aload_n hC.1 hC.2.1 dX2_init_4 rfl (lv_at hl 0 rfl) ?_
  refine c_new [.null, .null, .null, .int 0, .int 0, .int 0, .int 0, .int 0] tyX0 hC hK hP hD hS hA FOk_0 tyX0_ok tc_181 tc_69 tc_45 fd_0 (Nat.le_of_ble_eq_true rfl) (Nat.le_of_ble_eq_true rfl) dX2_init_5 (fun q1 H hP hD hS => ?_)
  refine W.widen (k := 1) (n := 8) (Nat.le_of_ble_eq_true rfl) (Nat.le_of_ble_eq_true rfl) ?_
  refine lv_dup hC.1 hC.2.1 dX2_init_8 rfl ?_
  refine c_callL (w0 := w0_X0) ((h, .inr (2, [.null, .int 0, .int 0, .int 0, .int 0, .int 0, .int 0])) :: ([])) rfl hC k_X0 mok_X0 tc_182 tc_71 rfl rfl ⟨(Nat.le_of_ble_eq_true rfl), (Nat.le_of_ble_eq_true rfl)⟩ ⟨(Nat.le_of_ble_eq_true rfl), (Nat.le_of_ble_eq_true rfl)⟩ hl (Nat.le_of_ble_eq_true rfl) dX2_init_9 hK hP hD hS hA (fun u1 H locs hP hD hS => ?_)
  have hP : va_P D vwCl ((h, .inr (2, [.null, .int 0, .int 0, .int 0, .int 0, .int 0, .int 0])) :: ([] ++ w1_X0 cI cL cZ q1 u1)) H := hP
  have hD : va_D A ((h, .inr (2, [.null, .int 0, .int 0, .int 0, .int 0, .int 0, .int 0])) :: ([] ++ w1_X0 cI cL cZ q1 u1)) := hD
  refine W.widen (k := 4) (n := 38) (Nat.le_of_ble_eq_true rfl) (Nat.le_of_ble_eq_true rfl) ?_
  refine c_putF 0 0 ((h, .inr (2, [.ref q1, .int 0, .int 0, .int 0, .int 0, .int 0, .int 0])) :: ([] ++ w1_X0 cI cL cZ q1 u1)) hC hin hK hP hD hS rfl FOk_2 (Nat.le_of_ble_eq_true rfl) tc_183 rfl rfl (tyX2_ok 0 (by decide)) rfl rfl (Nat.le_of_ble_eq_true rfl) dX2_init_12 rfl (fun H locs hP hD hS => ?_)
  exact hend (fun j => ([q1, u1 0, u1 1, u1 2] : List Nat).getD j 0) _ _ 15 ls hP hD hS dX2_init_15
def md_X4_init : MD := (yX4_init, cX4_init, 1, none, 2, 33)
def w0_X4 (h : Nat) : va_W := [(h, .inr (4, [.null, .null, .int 0]))]
def w1_X4 (cI cL cZ : ClassId) (h : Nat) (u : Nat → Nat) : va_W := (h, .inr (4, [.ref (u 0), .ref (u 4), .int 0])) :: (([] ++ w1_X0 cI cL cZ (u 0) (fun j => u (1 + j))) ++ w1_X7 cI cL cZ (u 4) (fun j => u (5 + j)))
theorem mok_X4 : MOk md_X4_init 0 := ⟨tc_157, tc_48, by decide +kernel, by decide +kernel, by decide +kernel⟩
set_option maxHeartbeats 4000000 in
set_option maxRecDepth 100000 in
theorem k_X4 : CtC md_X4_init 7 57 w0_X4 w1_X4 := by
  refine CtC_of (by decide +kernel) (Nat.le_of_ble_eq_true rfl) rfl rfl ?_
  intro l D cI cL cZ h p e s m below meth c A Q ls hC hin hK hP hD hA hl hend
  have hS : va_S A s.heap s.heap [] := va_S.rf
  have hP : va_P D vwCl [(h, .inr (4, [.null, .null, .int 0]))] s.heap := hP
  have hD : va_D A [(h, .inr (4, [.null, .null, .int 0]))] := hD
  refine lv_aload_n hC.1 hC.2.1 dX4_init_0 rfl (lv_at hl 0 rfl) ?_
  refine c_obj hC hl tc_158 dX4_init_1 (Nat.le_of_ble_eq_true rfl) (Nat.le_of_ble_eq_true rfl) ?_
  refine lv_aload_n hC.1 hC.2.1 dX4_init_4 rfl (lv_at hl 0 rfl) ?_
  refine c_new [.null, .null, .null, .int 0, .int 0, .int 0, .int 0, .int 0] tyX0 hC hK hP hD hS hA FOk_0 tyX0_ok tc_159 tc_69 tc_45 fd_0 (Nat.le_of_ble_eq_true rfl) (Nat.le_of_ble_eq_true rfl) dX4_init_5 (fun q1 H hP hD hS => ?_)
  refine W.widen (k := 1) (n := 8) (Nat.le_of_ble_eq_true rfl) (Nat.le_of_ble_eq_true rfl) ?_
  refine lv_dup hC.1 hC.2.1 dX4_init_8 rfl ?_
  refine c_callL (w0 := w0_X0) ((h, .inr (4, [.null, .null, .int 0])) :: ([])) rfl hC k_X0 mok_X0 tc_160 tc_71 rfl rfl ⟨(Nat.le_of_ble_eq_true rfl), (Nat.le_of_ble_eq_true rfl)⟩ ⟨(Nat.le_of_ble_eq_true rfl), (Nat.le_of_ble_eq_true rfl)⟩ hl (Nat.le_of_ble_eq_true rfl) dX4_init_9 hK hP hD hS hA (fun u1 H locs hP hD hS => ?_)
  have hP : va_P D vwCl ((h, .inr (4, [.null, .null, .int 0])) :: ([] ++ w1_X0 cI cL cZ q1 u1)) H := hP
  have hD : va_D A ((h, .inr (4, [.null, .null, .int 0])) :: ([] ++ w1_X0 cI cL cZ q1 u1)) := hD
  refine W.widen (k := 4) (n := 38) (Nat.le_of_ble_eq_true rfl) (Nat.le_of_ble_eq_true rfl) ?_
  refine c_putF 0 0 ((h, .inr (4, [.ref q1, .null, .int 0])) :: ([] ++ w1_X0 cI cL cZ q1 u1)) hC hin hK hP hD hS rfl FOk_4 (Nat.le_of_ble_eq_true rfl) tc_163 rfl rfl (tyX4_ok 0 (by decide)) rfl rfl (Nat.le_of_ble_eq_true rfl) dX4_init_12 rfl (fun H locs hP hD hS => ?_)
  refine lv_aload_n hC.1 hC.2.1 dX4_init_15 rfl (lv_at hl 0 rfl) ?_
  refine c_new [.null, .null, .int 0] tyX7 hC hK hP hD hS hA FOk_7 tyX7_ok tc_161 tc_119 tc_46 fd_7 (Nat.le_of_ble_eq_true rfl) (Nat.le_of_ble_eq_true rfl) dX4_init_16 (fun q2 H hP hD hS => ?_)
  refine W.widen (k := 5) (n := 41) (Nat.le_of_ble_eq_true rfl) (Nat.le_of_ble_eq_true rfl) ?_
  refine lv_dup hC.1 hC.2.1 dX4_init_19 rfl ?_
  refine c_callNL (w0 := w0_X7) ((h, .inr (4, [.ref q1, .null, .int 0])) :: ([] ++ w1_X0 cI cL cZ q1 u1)) rfl hC k_X7 mok_X7 tc_162 tc_121 rfl rfl ⟨(Nat.le_of_ble_eq_true rfl), (Nat.le_of_ble_eq_true rfl)⟩ ⟨(Nat.le_of_ble_eq_true rfl), (Nat.le_of_ble_eq_true rfl)⟩ hl (Nat.le_of_ble_eq_true rfl) dX4_init_20 hK hP hD hS hA (fun u2 H locs hP hD hS => ?_)
  have hP : va_P D vwCl ((h, .inr (4, [.ref q1, .null, .int 0])) :: (([] ++ w1_X0 cI cL cZ q1 u1) ++ w1_X7 cI cL cZ q2 u2)) H := hP
  have hD : va_D A ((h, .inr (4, [.ref q1, .null, .int 0])) :: (([] ++ w1_X0 cI cL cZ q1 u1) ++ w1_X7 cI cL cZ q2 u2)) := hD
  refine W.widen (k := 7) (n := 57) (Nat.le_of_ble_eq_true rfl) (Nat.le_of_ble_eq_true rfl) ?_
  refine c_putF 0 1 ((h, .inr (4, [.ref q1, .ref q2, .int 0])) :: (([] ++ w1_X0 cI cL cZ q1 u1) ++ w1_X7 cI cL cZ q2 u2)) hC hin hK hP hD hS rfl FOk_4 (Nat.le_of_ble_eq_true rfl) tc_165 rfl rfl (tyX4_ok 1 (by decide)) rfl rfl (Nat.le_of_ble_eq_true rfl) dX4_init_23 rfl (fun H locs hP hD hS => ?_)
  exact hend (fun j => ([q1, u1 0, u1 1, u1 2, q2, u2 0, u2 1] : List Nat).getD j 0) _ _ 26 ls hP hD hS dX4_init_26
def md_X11_init : MD := (yX11_init, cX11_init, 1, none, 3, 53)
def w0_X11 (h : Nat) : va_W := [(h, .inr (11, [.null, .null, .null, .null, .null, .null, .null, .null, .null, .null, .null, .null]))]
def w1_X11 (cI cL cZ : ClassId) (h : Nat) (u : (Nat → Nat) × (Nat → Nat → Nat)) : va_W := (h, .inr (11, [.ref (u.1 0), .ref (u.1 1), .ref (u.1 2), .ref (u.1 3), .ref (u.1 4), .ref (u.1 5), .ref (u.1 6), .ref (u.1 7), .ref (u.1 8), .ref (u.1 9), .ref (u.1 10), .ref (u.1 11)])) :: (((((((((((([] ++ w1_X0 cI cL cZ (u.1 0) (u.2 0)) ++ w1_X7 cI cL cZ (u.1 1) (u.2 1)) ++ w1_X8 cI cL cZ (u.1 2) (u.2 2)) ++ w1_X4 cI cL cZ (u.1 3) (u.2 3)) ++ w1_X4 cI cL cZ (u.1 4) (u.2 4)) ++ w1_X2 cI cL cZ (u.1 5) (u.2 5)) ++ w1_X1 cI cL cZ (u.1 6) (u.2 6)) ++ w1_X6 cI cL cZ (u.1 7) (u.2 7)) ++ w1_X3 cI cL cZ (u.1 8) (u.2 8)) ++ w1_X5 cI cL cZ (u.1 9) (u.2 9)) ++ w1_X10 cI cL cZ (u.1 10) (u.2 10)) ++ w1_X9 cI cL cZ (u.1 11) (u.2 11))
theorem mok_X11 : MOk md_X11_init 0 := ⟨tc_64, tc_44, by decide +kernel, by decide +kernel, by decide +kernel⟩
set_option maxHeartbeats 4000000 in
set_option maxRecDepth 100000 in
theorem k_X11 : CtC md_X11_init 44 1701 w0_X11 w1_X11 := by
  refine CtC_of (by decide +kernel) (Nat.le_of_ble_eq_true rfl) rfl rfl ?_
  intro l D cI cL cZ h p e s m below meth c A Q ls hC hin hK hP hD hA hl hend
  have hS : va_S A s.heap s.heap [] := va_S.rf
  have hP : va_P D vwCl [(h, .inr (11, [.null, .null, .null, .null, .null, .null, .null, .null, .null, .null, .null, .null]))] s.heap := hP
  have hD : va_D A [(h, .inr (11, [.null, .null, .null, .null, .null, .null, .null, .null, .null, .null, .null, .null]))] := hD
  refine lv_aload_n hC.1 hC.2.1 dX11_init_0 rfl (lv_at hl 0 rfl) ?_
  refine c_obj hC hl tc_65 dX11_init_1 (Nat.le_of_ble_eq_true rfl) (Nat.le_of_ble_eq_true rfl) ?_
  refine lv_aload_n hC.1 hC.2.1 dX11_init_4 rfl (lv_at hl 0 rfl) ?_
  refine c_new [.null, .null, .null, .int 0, .int 0, .int 0, .int 0, .int 0] tyX0 hC hK hP hD hS hA FOk_0 tyX0_ok tc_68 tc_69 tc_45 fd_0 (Nat.le_of_ble_eq_true rfl) (Nat.le_of_ble_eq_true rfl) dX11_init_5 (fun q1 H hP hD hS => ?_)
  refine W.widen (k := 1) (n := 8) (Nat.le_of_ble_eq_true rfl) (Nat.le_of_ble_eq_true rfl) ?_
  refine lv_dup hC.1 hC.2.1 dX11_init_8 rfl ?_
  refine c_callL (w0 := w0_X0) ((h, .inr (11, [.null, .null, .null, .null, .null, .null, .null, .null, .null, .null, .null, .null])) :: ([])) rfl hC k_X0 mok_X0 tc_70 tc_71 rfl rfl ⟨(Nat.le_of_ble_eq_true rfl), (Nat.le_of_ble_eq_true rfl)⟩ ⟨(Nat.le_of_ble_eq_true rfl), (Nat.le_of_ble_eq_true rfl)⟩ hl (Nat.le_of_ble_eq_true rfl) dX11_init_9 hK hP hD hS hA (fun u1 H locs hP hD hS => ?_)
  have hP : va_P D vwCl ((h, .inr (11, [.null, .null, .null, .null, .null, .null, .null, .null, .null, .null, .null, .null])) :: ([] ++ w1_X0 cI cL cZ q1 u1)) H := hP
  have hD : va_D A ((h, .inr (11, [.null, .null, .null, .null, .null, .null, .null, .null, .null, .null, .null, .null])) :: ([] ++ w1_X0 cI cL cZ q1 u1)) := hD
  refine W.widen (k := 4) (n := 38) (Nat.le_of_ble_eq_true rfl) (Nat.le_of_ble_eq_true rfl) ?_
  refine c_putF 0 0 ((h, .inr (11, [.ref q1, .null, .null, .null, .null, .null, .null, .null, .null, .null, .null, .null])) :: ([] ++ w1_X0 cI cL cZ q1 u1)) hC hin hK hP hD hS rfl FOk_11 (Nat.le_of_ble_eq_true rfl) tc_317 rfl rfl (tyX11_ok 0 (by decide)) rfl rfl (Nat.le_of_ble_eq_true rfl) dX11_init_12 rfl (fun H locs hP hD hS => ?_)
  refine lv_aload_n hC.1 hC.2.1 dX11_init_15 rfl (lv_at hl 0 rfl) ?_
  refine c_new [.null, .null, .int 0] tyX7 hC hK hP hD hS hA FOk_7 tyX7_ok tc_118 tc_119 tc_46 fd_7 (Nat.le_of_ble_eq_true rfl) (Nat.le_of_ble_eq_true rfl) dX11_init_16 (fun q2 H hP hD hS => ?_)
  refine W.widen (k := 5) (n := 41) (Nat.le_of_ble_eq_true rfl) (Nat.le_of_ble_eq_true rfl) ?_
  refine lv_dup hC.1 hC.2.1 dX11_init_19 rfl ?_
  refine c_callNL (w0 := w0_X7) ((h, .inr (11, [.ref q1, .null, .null, .null, .null, .null, .null, .null, .null, .null, .null, .null])) :: ([] ++ w1_X0 cI cL cZ q1 u1)) rfl hC k_X7 mok_X7 tc_120 tc_121 rfl rfl ⟨(Nat.le_of_ble_eq_true rfl), (Nat.le_of_ble_eq_true rfl)⟩ ⟨(Nat.le_of_ble_eq_true rfl), (Nat.le_of_ble_eq_true rfl)⟩ hl (Nat.le_of_ble_eq_true rfl) dX11_init_20 hK hP hD hS hA (fun u2 H locs hP hD hS => ?_)
  have hP : va_P D vwCl ((h, .inr (11, [.ref q1, .null, .null, .null, .null, .null, .null, .null, .null, .null, .null, .null])) :: (([] ++ w1_X0 cI cL cZ q1 u1) ++ w1_X7 cI cL cZ q2 u2)) H := hP
  have hD : va_D A ((h, .inr (11, [.ref q1, .null, .null, .null, .null, .null, .null, .null, .null, .null, .null, .null])) :: (([] ++ w1_X0 cI cL cZ q1 u1) ++ w1_X7 cI cL cZ q2 u2)) := hD
  refine W.widen (k := 7) (n := 57) (Nat.le_of_ble_eq_true rfl) (Nat.le_of_ble_eq_true rfl) ?_
  refine c_putF 0 1 ((h, .inr (11, [.ref q1, .ref q2, .null, .null, .null, .null, .null, .null, .null, .null, .null, .null])) :: (([] ++ w1_X0 cI cL cZ q1 u1) ++ w1_X7 cI cL cZ q2 u2)) hC hin hK hP hD hS rfl FOk_11 (Nat.le_of_ble_eq_true rfl) tc_318 rfl rfl (tyX11_ok 1 (by decide)) rfl rfl (Nat.le_of_ble_eq_true rfl) dX11_init_23 rfl (fun H locs hP hD hS => ?_)
  refine lv_aload_n hC.1 hC.2.1 dX11_init_26 rfl (lv_at hl 0 rfl) ?_
  refine c_new [.null, .int 0] tyX8 hC hK hP hD hS hA FOk_8 tyX8_ok tc_138 tc_139 tc_47 fd_8 (Nat.le_of_ble_eq_true rfl) (Nat.le_of_ble_eq_true rfl) dX11_init_27 (fun q3 H hP hD hS => ?_)
  refine W.widen (k := 8) (n := 59) (Nat.le_of_ble_eq_true rfl) (Nat.le_of_ble_eq_true rfl) ?_
  refine lv_dup hC.1 hC.2.1 dX11_init_30 rfl ?_
  refine c_callNL (w0 := w0_X8) ((h, .inr (11, [.ref q1, .ref q2, .null, .null, .null, .null, .null, .null, .null, .null, .null, .null])) :: (([] ++ w1_X0 cI cL cZ q1 u1) ++ w1_X7 cI cL cZ q2 u2)) rfl hC k_X8 mok_X8 tc_140 tc_141 rfl rfl ⟨(Nat.le_of_ble_eq_true rfl), (Nat.le_of_ble_eq_true rfl)⟩ ⟨(Nat.le_of_ble_eq_true rfl), (Nat.le_of_ble_eq_true rfl)⟩ hl (Nat.le_of_ble_eq_true rfl) dX11_init_31 hK hP hD hS hA (fun u3 H locs hP hD hS => ?_)
  have hP : va_P D vwCl ((h, .inr (11, [.ref q1, .ref q2, .null, .null, .null, .null, .null, .null, .null, .null, .null, .null])) :: ((([] ++ w1_X0 cI cL cZ q1 u1) ++ w1_X7 cI cL cZ q2 u2) ++ w1_X8 cI cL cZ q3 u3)) H := hP
  have hD : va_D A ((h, .inr (11, [.ref q1, .ref q2, .null, .null, .null, .null, .null, .null, .null, .null, .null, .null])) :: ((([] ++ w1_X0 cI cL cZ q1 u1) ++ w1_X7 cI cL cZ q2 u2) ++ w1_X8 cI cL cZ q3 u3)) := hD
  refine W.widen (k := 9) (n := 119) (Nat.le_of_ble_eq_true rfl) (Nat.le_of_ble_eq_true rfl) ?_
  refine c_putF 0 2 ((h, .inr (11, [.ref q1, .ref q2, .ref q3, .null, .null, .null, .null, .null, .null, .null, .null, .null])) :: ((([] ++ w1_X0 cI cL cZ q1 u1) ++ w1_X7 cI cL cZ q2 u2) ++ w1_X8 cI cL cZ q3 u3)) hC hin hK hP hD hS rfl FOk_11 (Nat.le_of_ble_eq_true rfl) tc_319 rfl rfl (tyX11_ok 2 (by decide)) rfl rfl (Nat.le_of_ble_eq_true rfl) dX11_init_34 rfl (fun H locs hP hD hS => ?_)
  refine lv_aload_n hC.1 hC.2.1 dX11_init_37 rfl (lv_at hl 0 rfl) ?_
  refine c_new [.null, .null, .int 0] tyX4 hC hK hP hD hS hA FOk_4 tyX4_ok tc_153 tc_154 tc_48 fd_4 (Nat.le_of_ble_eq_true rfl) (Nat.le_of_ble_eq_true rfl) dX11_init_38 (fun q4 H hP hD hS => ?_)
  refine W.widen (k := 10) (n := 122) (Nat.le_of_ble_eq_true rfl) (Nat.le_of_ble_eq_true rfl) ?_
  refine lv_dup hC.1 hC.2.1 dX11_init_41 rfl ?_
  refine c_callNL (w0 := w0_X4) ((h, .inr (11, [.ref q1, .ref q2, .ref q3, .null, .null, .null, .null, .null, .null, .null, .null, .null])) :: ((([] ++ w1_X0 cI cL cZ q1 u1) ++ w1_X7 cI cL cZ q2 u2) ++ w1_X8 cI cL cZ q3 u3)) rfl hC k_X4 mok_X4 tc_155 tc_156 rfl rfl ⟨(Nat.le_of_ble_eq_true rfl), (Nat.le_of_ble_eq_true rfl)⟩ ⟨(Nat.le_of_ble_eq_true rfl), (Nat.le_of_ble_eq_true rfl)⟩ hl (Nat.le_of_ble_eq_true rfl) dX11_init_42 hK hP hD hS hA (fun u4 H locs hP hD hS => ?_)
  have hP : va_P D vwCl ((h, .inr (11, [.ref q1, .ref q2, .ref q3, .null, .null, .null, .null, .null, .null, .null, .null, .null])) :: (((([] ++ w1_X0 cI cL cZ q1 u1) ++ w1_X7 cI cL cZ q2 u2) ++ w1_X8 cI cL cZ q3 u3) ++ w1_X4 cI cL cZ q4 u4)) H := hP
  have hD : va_D A ((h, .inr (11, [.ref q1, .ref q2, .ref q3, .null, .null, .null, .null, .null, .null, .null, .null, .null])) :: (((([] ++ w1_X0 cI cL cZ q1 u1) ++ w1_X7 cI cL cZ q2 u2) ++ w1_X8 cI cL cZ q3 u3) ++ w1_X4 cI cL cZ q4 u4)) := hD
  refine W.widen (k := 17) (n := 179) (Nat.le_of_ble_eq_true rfl) (Nat.le_of_ble_eq_true rfl) ?_
  refine c_putF 0 3 ((h, .inr (11, [.ref q1, .ref q2, .ref q3, .ref q4, .null, .null, .null, .null, .null, .null, .null, .null])) :: (((([] ++ w1_X0 cI cL cZ q1 u1) ++ w1_X7 cI cL cZ q2 u2) ++ w1_X8 cI cL cZ q3 u3) ++ w1_X4 cI cL cZ q4 u4)) hC hin hK hP hD hS rfl FOk_11 (Nat.le_of_ble_eq_true rfl) tc_320 rfl rfl (tyX11_ok 3 (by decide)) rfl rfl (Nat.le_of_ble_eq_true rfl) dX11_init_45 rfl (fun H locs hP hD hS => ?_)
  refine lv_aload_n hC.1 hC.2.1 dX11_init_48 rfl (lv_at hl 0 rfl) ?_
  refine c_new [.null, .null, .int 0] tyX4 hC hK hP hD hS hA FOk_4 tyX4_ok tc_153 tc_154 tc_48 fd_4 (Nat.le_of_ble_eq_true rfl) (Nat.le_of_ble_eq_true rfl) dX11_init_49 (fun q5 H hP hD hS => ?_)
  refine W.widen (k := 18) (n := 182) (Nat.le_of_ble_eq_true rfl) (Nat.le_of_ble_eq_true rfl) ?_
  refine lv_dup hC.1 hC.2.1 dX11_init_52 rfl ?_
  refine c_callNL (w0 := w0_X4) ((h, .inr (11, [.ref q1, .ref q2, .ref q3, .ref q4, .null, .null, .null, .null, .null, .null, .null, .null])) :: (((([] ++ w1_X0 cI cL cZ q1 u1) ++ w1_X7 cI cL cZ q2 u2) ++ w1_X8 cI cL cZ q3 u3) ++ w1_X4 cI cL cZ q4 u4)) rfl hC k_X4 mok_X4 tc_155 tc_156 rfl rfl ⟨(Nat.le_of_ble_eq_true rfl), (Nat.le_of_ble_eq_true rfl)⟩ ⟨(Nat.le_of_ble_eq_true rfl), (Nat.le_of_ble_eq_true rfl)⟩ hl (Nat.le_of_ble_eq_true rfl) dX11_init_53 hK hP hD hS hA (fun u5 H locs hP hD hS => ?_)
  have hP : va_P D vwCl ((h, .inr (11, [.ref q1, .ref q2, .ref q3, .ref q4, .null, .null, .null, .null, .null, .null, .null, .null])) :: ((((([] ++ w1_X0 cI cL cZ q1 u1) ++ w1_X7 cI cL cZ q2 u2) ++ w1_X8 cI cL cZ q3 u3) ++ w1_X4 cI cL cZ q4 u4) ++ w1_X4 cI cL cZ q5 u5)) H := hP
  have hD : va_D A ((h, .inr (11, [.ref q1, .ref q2, .ref q3, .ref q4, .null, .null, .null, .null, .null, .null, .null, .null])) :: ((((([] ++ w1_X0 cI cL cZ q1 u1) ++ w1_X7 cI cL cZ q2 u2) ++ w1_X8 cI cL cZ q3 u3) ++ w1_X4 cI cL cZ q4 u4) ++ w1_X4 cI cL cZ q5 u5)) := hD
  refine W.widen (k := 25) (n := 239) (Nat.le_of_ble_eq_true rfl) (Nat.le_of_ble_eq_true rfl) ?_
  refine c_putF 0 4 ((h, .inr (11, [.ref q1, .ref q2, .ref q3, .ref q4, .ref q5, .null, .null, .null, .null, .null, .null, .null])) :: ((((([] ++ w1_X0 cI cL cZ q1 u1) ++ w1_X7 cI cL cZ q2 u2) ++ w1_X8 cI cL cZ q3 u3) ++ w1_X4 cI cL cZ q4 u4) ++ w1_X4 cI cL cZ q5 u5)) hC hin hK hP hD hS rfl FOk_11 (Nat.le_of_ble_eq_true rfl) tc_321 rfl rfl (tyX11_ok 4 (by decide)) rfl rfl (Nat.le_of_ble_eq_true rfl) dX11_init_56 rfl (fun H locs hP hD hS => ?_)
  refine lv_aload_n hC.1 hC.2.1 dX11_init_59 rfl (lv_at hl 0 rfl) ?_
  refine c_new [.null, .int 0, .int 0, .int 0, .int 0, .int 0, .int 0] tyX2 hC hK hP hD hS hA FOk_2 tyX2_ok tc_175 tc_176 tc_49 fd_2 (Nat.le_of_ble_eq_true rfl) (Nat.le_of_ble_eq_true rfl) dX11_init_60 (fun q6 H hP hD hS => ?_)
  refine W.widen (k := 26) (n := 246) (Nat.le_of_ble_eq_true rfl) (Nat.le_of_ble_eq_true rfl) ?_
  refine lv_dup hC.1 hC.2.1 dX11_init_63 rfl ?_
  refine c_callNL (w0 := w0_X2) ((h, .inr (11, [.ref q1, .ref q2, .ref q3, .ref q4, .ref q5, .null, .null, .null, .null, .null, .null, .null])) :: ((((([] ++ w1_X0 cI cL cZ q1 u1) ++ w1_X7 cI cL cZ q2 u2) ++ w1_X8 cI cL cZ q3 u3) ++ w1_X4 cI cL cZ q4 u4) ++ w1_X4 cI cL cZ q5 u5)) rfl hC k_X2 mok_X2 tc_177 tc_178 rfl rfl ⟨(Nat.le_of_ble_eq_true rfl), (Nat.le_of_ble_eq_true rfl)⟩ ⟨(Nat.le_of_ble_eq_true rfl), (Nat.le_of_ble_eq_true rfl)⟩ hl (Nat.le_of_ble_eq_true rfl) dX11_init_64 hK hP hD hS hA (fun u6 H locs hP hD hS => ?_)
  have hP : va_P D vwCl ((h, .inr (11, [.ref q1, .ref q2, .ref q3, .ref q4, .ref q5, .null, .null, .null, .null, .null, .null, .null])) :: (((((([] ++ w1_X0 cI cL cZ q1 u1) ++ w1_X7 cI cL cZ q2 u2) ++ w1_X8 cI cL cZ q3 u3) ++ w1_X4 cI cL cZ q4 u4) ++ w1_X4 cI cL cZ q5 u5) ++ w1_X2 cI cL cZ q6 u6)) H := hP
  have hD : va_D A ((h, .inr (11, [.ref q1, .ref q2, .ref q3, .ref q4, .ref q5, .null, .null, .null, .null, .null, .null, .null])) :: (((((([] ++ w1_X0 cI cL cZ q1 u1) ++ w1_X7 cI cL cZ q2 u2) ++ w1_X8 cI cL cZ q3 u3) ++ w1_X4 cI cL cZ q4 u4) ++ w1_X4 cI cL cZ q5 u5) ++ w1_X2 cI cL cZ q6 u6)) := hD
  refine W.widen (k := 30) (n := 284) (Nat.le_of_ble_eq_true rfl) (Nat.le_of_ble_eq_true rfl) ?_
  refine c_putF 0 5 ((h, .inr (11, [.ref q1, .ref q2, .ref q3, .ref q4, .ref q5, .ref q6, .null, .null, .null, .null, .null, .null])) :: (((((([] ++ w1_X0 cI cL cZ q1 u1) ++ w1_X7 cI cL cZ q2 u2) ++ w1_X8 cI cL cZ q3 u3) ++ w1_X4 cI cL cZ q4 u4) ++ w1_X4 cI cL cZ q5 u5) ++ w1_X2 cI cL cZ q6 u6)) hC hin hK hP hD hS rfl FOk_11 (Nat.le_of_ble_eq_true rfl) tc_322 rfl rfl (tyX11_ok 5 (by decide)) rfl rfl (Nat.le_of_ble_eq_true rfl) dX11_init_67 rfl (fun H locs hP hD hS => ?_)
  refine lv_aload_n hC.1 hC.2.1 dX11_init_70 rfl (lv_at hl 0 rfl) ?_
  refine c_new [.null, .int 0, .int 0] tyX1 hC hK hP hD hS hA FOk_1 tyX1_ok tc_212 tc_213 tc_50 fd_1 (Nat.le_of_ble_eq_true rfl) (Nat.le_of_ble_eq_true rfl) dX11_init_71 (fun q7 H hP hD hS => ?_)
  refine W.widen (k := 31) (n := 287) (Nat.le_of_ble_eq_true rfl) (Nat.le_of_ble_eq_true rfl) ?_
  refine lv_dup hC.1 hC.2.1 dX11_init_74 rfl ?_
  refine c_callNL (w0 := w0_X1) ((h, .inr (11, [.ref q1, .ref q2, .ref q3, .ref q4, .ref q5, .ref q6, .null, .null, .null, .null, .null, .null])) :: (((((([] ++ w1_X0 cI cL cZ q1 u1) ++ w1_X7 cI cL cZ q2 u2) ++ w1_X8 cI cL cZ q3 u3) ++ w1_X4 cI cL cZ q4 u4) ++ w1_X4 cI cL cZ q5 u5) ++ w1_X2 cI cL cZ q6 u6)) rfl hC k_X1 mok_X1 tc_214 tc_215 rfl rfl ⟨(Nat.le_of_ble_eq_true rfl), (Nat.le_of_ble_eq_true rfl)⟩ ⟨(Nat.le_of_ble_eq_true rfl), (Nat.le_of_ble_eq_true rfl)⟩ hl (Nat.le_of_ble_eq_true rfl) dX11_init_75 hK hP hD hS hA (fun u7 H locs hP hD hS => ?_)
  have hP : va_P D vwCl ((h, .inr (11, [.ref q1, .ref q2, .ref q3, .ref q4, .ref q5, .ref q6, .null, .null, .null, .null, .null, .null])) :: ((((((([] ++ w1_X0 cI cL cZ q1 u1) ++ w1_X7 cI cL cZ q2 u2) ++ w1_X8 cI cL cZ q3 u3) ++ w1_X4 cI cL cZ q4 u4) ++ w1_X4 cI cL cZ q5 u5) ++ w1_X2 cI cL cZ q6 u6) ++ w1_X1 cI cL cZ q7 u7)) H := hP
  have hD : va_D A ((h, .inr (11, [.ref q1, .ref q2, .ref q3, .ref q4, .ref q5, .ref q6, .null, .null, .null, .null, .null, .null])) :: ((((((([] ++ w1_X0 cI cL cZ q1 u1) ++ w1_X7 cI cL cZ q2 u2) ++ w1_X8 cI cL cZ q3 u3) ++ w1_X4 cI cL cZ q4 u4) ++ w1_X4 cI cL cZ q5 u5) ++ w1_X2 cI cL cZ q6 u6) ++ w1_X1 cI cL cZ q7 u7)) := hD
  refine W.widen (k := 32) (n := 1311) (Nat.le_of_ble_eq_true rfl) (Nat.le_of_ble_eq_true rfl) ?_
  refine c_putF 0 6 ((h, .inr (11, [.ref q1, .ref q2, .ref q3, .ref q4, .ref q5, .ref q6, .ref q7, .null, .null, .null, .null, .null])) :: ((((((([] ++ w1_X0 cI cL cZ q1 u1) ++ w1_X7 cI cL cZ q2 u2) ++ w1_X8 cI cL cZ q3 u3) ++ w1_X4 cI cL cZ q4 u4) ++ w1_X4 cI cL cZ q5 u5) ++ w1_X2 cI cL cZ q6 u6) ++ w1_X1 cI cL cZ q7 u7)) hC hin hK hP hD hS rfl FOk_11 (Nat.le_of_ble_eq_true rfl) tc_323 rfl rfl (tyX11_ok 6 (by decide)) rfl rfl (Nat.le_of_ble_eq_true rfl) dX11_init_78 rfl (fun H locs hP hD hS => ?_)
  refine lv_aload_n hC.1 hC.2.1 dX11_init_81 rfl (lv_at hl 0 rfl) ?_
  refine c_new [.null, .null, .int 0] tyX6 hC hK hP hD hS hA FOk_6 tyX6_ok tc_230 tc_231 tc_51 fd_6 (Nat.le_of_ble_eq_true rfl) (Nat.le_of_ble_eq_true rfl) dX11_init_82 (fun q8 H hP hD hS => ?_)
  refine W.widen (k := 33) (n := 1314) (Nat.le_of_ble_eq_true rfl) (Nat.le_of_ble_eq_true rfl) ?_
  refine lv_dup hC.1 hC.2.1 dX11_init_85 rfl ?_
  refine c_callNL (w0 := w0_X6) ((h, .inr (11, [.ref q1, .ref q2, .ref q3, .ref q4, .ref q5, .ref q6, .ref q7, .null, .null, .null, .null, .null])) :: ((((((([] ++ w1_X0 cI cL cZ q1 u1) ++ w1_X7 cI cL cZ q2 u2) ++ w1_X8 cI cL cZ q3 u3) ++ w1_X4 cI cL cZ q4 u4) ++ w1_X4 cI cL cZ q5 u5) ++ w1_X2 cI cL cZ q6 u6) ++ w1_X1 cI cL cZ q7 u7)) rfl hC k_X6 mok_X6 tc_232 tc_233 rfl rfl ⟨(Nat.le_of_ble_eq_true rfl), (Nat.le_of_ble_eq_true rfl)⟩ ⟨(Nat.le_of_ble_eq_true rfl), (Nat.le_of_ble_eq_true rfl)⟩ hl (Nat.le_of_ble_eq_true rfl) dX11_init_86 hK hP hD hS hA (fun u8 H locs hP hD hS => ?_)
  have hP : va_P D vwCl ((h, .inr (11, [.ref q1, .ref q2, .ref q3, .ref q4, .ref q5, .ref q6, .ref q7, .null, .null, .null, .null, .null])) :: (((((((([] ++ w1_X0 cI cL cZ q1 u1) ++ w1_X7 cI cL cZ q2 u2) ++ w1_X8 cI cL cZ q3 u3) ++ w1_X4 cI cL cZ q4 u4) ++ w1_X4 cI cL cZ q5 u5) ++ w1_X2 cI cL cZ q6 u6) ++ w1_X1 cI cL cZ q7 u7) ++ w1_X6 cI cL cZ q8 u8)) H := hP
  have hD : va_D A ((h, .inr (11, [.ref q1, .ref q2, .ref q3, .ref q4, .ref q5, .ref q6, .ref q7, .null, .null, .null, .null, .null])) :: (((((((([] ++ w1_X0 cI cL cZ q1 u1) ++ w1_X7 cI cL cZ q2 u2) ++ w1_X8 cI cL cZ q3 u3) ++ w1_X4 cI cL cZ q4 u4) ++ w1_X4 cI cL cZ q5 u5) ++ w1_X2 cI cL cZ q6 u6) ++ w1_X1 cI cL cZ q7 u7) ++ w1_X6 cI cL cZ q8 u8)) := hD
  refine W.widen (k := 35) (n := 1578) (Nat.le_of_ble_eq_true rfl) (Nat.le_of_ble_eq_true rfl) ?_
  refine c_putF 0 7 ((h, .inr (11, [.ref q1, .ref q2, .ref q3, .ref q4, .ref q5, .ref q6, .ref q7, .ref q8, .null, .null, .null, .null])) :: (((((((([] ++ w1_X0 cI cL cZ q1 u1) ++ w1_X7 cI cL cZ q2 u2) ++ w1_X8 cI cL cZ q3 u3) ++ w1_X4 cI cL cZ q4 u4) ++ w1_X4 cI cL cZ q5 u5) ++ w1_X2 cI cL cZ q6 u6) ++ w1_X1 cI cL cZ q7 u7) ++ w1_X6 cI cL cZ q8 u8)) hC hin hK hP hD hS rfl FOk_11 (Nat.le_of_ble_eq_true rfl) tc_324 rfl rfl (tyX11_ok 7 (by decide)) rfl rfl (Nat.le_of_ble_eq_true rfl) dX11_init_89 rfl (fun H locs hP hD hS => ?_)
  refine lv_aload_n hC.1 hC.2.1 dX11_init_92 rfl (lv_at hl 0 rfl) ?_
  refine c_new [.null, .int 0, .int 0] tyX3 hC hK hP hD hS hA FOk_3 tyX3_ok tc_248 tc_249 tc_52 fd_3 (Nat.le_of_ble_eq_true rfl) (Nat.le_of_ble_eq_true rfl) dX11_init_93 (fun q9 H hP hD hS => ?_)
  refine W.widen (k := 36) (n := 1581) (Nat.le_of_ble_eq_true rfl) (Nat.le_of_ble_eq_true rfl) ?_
  refine lv_dup hC.1 hC.2.1 dX11_init_96 rfl ?_
  refine c_callNL (w0 := w0_X3) ((h, .inr (11, [.ref q1, .ref q2, .ref q3, .ref q4, .ref q5, .ref q6, .ref q7, .ref q8, .null, .null, .null, .null])) :: (((((((([] ++ w1_X0 cI cL cZ q1 u1) ++ w1_X7 cI cL cZ q2 u2) ++ w1_X8 cI cL cZ q3 u3) ++ w1_X4 cI cL cZ q4 u4) ++ w1_X4 cI cL cZ q5 u5) ++ w1_X2 cI cL cZ q6 u6) ++ w1_X1 cI cL cZ q7 u7) ++ w1_X6 cI cL cZ q8 u8)) rfl hC k_X3 mok_X3 tc_250 tc_251 rfl rfl ⟨(Nat.le_of_ble_eq_true rfl), (Nat.le_of_ble_eq_true rfl)⟩ ⟨(Nat.le_of_ble_eq_true rfl), (Nat.le_of_ble_eq_true rfl)⟩ hl (Nat.le_of_ble_eq_true rfl) dX11_init_97 hK hP hD hS hA (fun u9 H locs hP hD hS => ?_)
  have hP : va_P D vwCl ((h, .inr (11, [.ref q1, .ref q2, .ref q3, .ref q4, .ref q5, .ref q6, .ref q7, .ref q8, .null, .null, .null, .null])) :: ((((((((([] ++ w1_X0 cI cL cZ q1 u1) ++ w1_X7 cI cL cZ q2 u2) ++ w1_X8 cI cL cZ q3 u3) ++ w1_X4 cI cL cZ q4 u4) ++ w1_X4 cI cL cZ q5 u5) ++ w1_X2 cI cL cZ q6 u6) ++ w1_X1 cI cL cZ q7 u7) ++ w1_X6 cI cL cZ q8 u8) ++ w1_X3 cI cL cZ q9 u9)) H := hP
  have hD : va_D A ((h, .inr (11, [.ref q1, .ref q2, .ref q3, .ref q4, .ref q5, .ref q6, .ref q7, .ref q8, .null, .null, .null, .null])) :: ((((((((([] ++ w1_X0 cI cL cZ q1 u1) ++ w1_X7 cI cL cZ q2 u2) ++ w1_X8 cI cL cZ q3 u3) ++ w1_X4 cI cL cZ q4 u4) ++ w1_X4 cI cL cZ q5 u5) ++ w1_X2 cI cL cZ q6 u6) ++ w1_X1 cI cL cZ q7 u7) ++ w1_X6 cI cL cZ q8 u8) ++ w1_X3 cI cL cZ q9 u9)) := hD
  refine W.widen (k := 37) (n := 1587) (Nat.le_of_ble_eq_true rfl) (Nat.le_of_ble_eq_true rfl) ?_
  refine c_putF 0 8 ((h, .inr (11, [.ref q1, .ref q2, .ref q3, .ref q4, .ref q5, .ref q6, .ref q7, .ref q8, .ref q9, .null, .null, .null])) :: ((((((((([] ++ w1_X0 cI cL cZ q1 u1) ++ w1_X7 cI cL cZ q2 u2) ++ w1_X8 cI cL cZ q3 u3) ++ w1_X4 cI cL cZ q4 u4) ++ w1_X4 cI cL cZ q5 u5) ++ w1_X2 cI cL cZ q6 u6) ++ w1_X1 cI cL cZ q7 u7) ++ w1_X6 cI cL cZ q8 u8) ++ w1_X3 cI cL cZ q9 u9)) hC hin hK hP hD hS rfl FOk_11 (Nat.le_of_ble_eq_true rfl) tc_325 rfl rfl (tyX11_ok 8 (by decide)) rfl rfl (Nat.le_of_ble_eq_true rfl) dX11_init_100 rfl (fun H locs hP hD hS => ?_)
  refine lv_aload_n hC.1 hC.2.1 dX11_init_103 rfl (lv_at hl 0 rfl) ?_
  refine c_new [.null, .null, .int 0, .int 0, .int 0] tyX5 hC hK hP hD hS hA FOk_5 tyX5_ok tc_266 tc_267 tc_53 fd_5 (Nat.le_of_ble_eq_true rfl) (Nat.le_of_ble_eq_true rfl) dX11_init_104 (fun q10 H hP hD hS => ?_)
  refine W.widen (k := 38) (n := 1592) (Nat.le_of_ble_eq_true rfl) (Nat.le_of_ble_eq_true rfl) ?_
  refine lv_dup hC.1 hC.2.1 dX11_init_107 rfl ?_
  refine c_callNL (w0 := w0_X5) ((h, .inr (11, [.ref q1, .ref q2, .ref q3, .ref q4, .ref q5, .ref q6, .ref q7, .ref q8, .ref q9, .null, .null, .null])) :: ((((((((([] ++ w1_X0 cI cL cZ q1 u1) ++ w1_X7 cI cL cZ q2 u2) ++ w1_X8 cI cL cZ q3 u3) ++ w1_X4 cI cL cZ q4 u4) ++ w1_X4 cI cL cZ q5 u5) ++ w1_X2 cI cL cZ q6 u6) ++ w1_X1 cI cL cZ q7 u7) ++ w1_X6 cI cL cZ q8 u8) ++ w1_X3 cI cL cZ q9 u9)) rfl hC k_X5 mok_X5 tc_268 tc_269 rfl rfl ⟨(Nat.le_of_ble_eq_true rfl), (Nat.le_of_ble_eq_true rfl)⟩ ⟨(Nat.le_of_ble_eq_true rfl), (Nat.le_of_ble_eq_true rfl)⟩ hl (Nat.le_of_ble_eq_true rfl) dX11_init_108 hK hP hD hS hA (fun u10 H locs hP hD hS => ?_)
  have hP : va_P D vwCl ((h, .inr (11, [.ref q1, .ref q2, .ref q3, .ref q4, .ref q5, .ref q6, .ref q7, .ref q8, .ref q9, .null, .null, .null])) :: (((((((((([] ++ w1_X0 cI cL cZ q1 u1) ++ w1_X7 cI cL cZ q2 u2) ++ w1_X8 cI cL cZ q3 u3) ++ w1_X4 cI cL cZ q4 u4) ++ w1_X4 cI cL cZ q5 u5) ++ w1_X2 cI cL cZ q6 u6) ++ w1_X1 cI cL cZ q7 u7) ++ w1_X6 cI cL cZ q8 u8) ++ w1_X3 cI cL cZ q9 u9) ++ w1_X5 cI cL cZ q10 u10)) H := hP
  have hD : va_D A ((h, .inr (11, [.ref q1, .ref q2, .ref q3, .ref q4, .ref q5, .ref q6, .ref q7, .ref q8, .ref q9, .null, .null, .null])) :: (((((((((([] ++ w1_X0 cI cL cZ q1 u1) ++ w1_X7 cI cL cZ q2 u2) ++ w1_X8 cI cL cZ q3 u3) ++ w1_X4 cI cL cZ q4 u4) ++ w1_X4 cI cL cZ q5 u5) ++ w1_X2 cI cL cZ q6 u6) ++ w1_X1 cI cL cZ q7 u7) ++ w1_X6 cI cL cZ q8 u8) ++ w1_X3 cI cL cZ q9 u9) ++ w1_X5 cI cL cZ q10 u10)) := hD
  refine W.widen (k := 40) (n := 1664) (Nat.le_of_ble_eq_true rfl) (Nat.le_of_ble_eq_true rfl) ?_
  refine c_putF 0 9 ((h, .inr (11, [.ref q1, .ref q2, .ref q3, .ref q4, .ref q5, .ref q6, .ref q7, .ref q8, .ref q9, .ref q10, .null, .null])) :: (((((((((([] ++ w1_X0 cI cL cZ q1 u1) ++ w1_X7 cI cL cZ q2 u2) ++ w1_X8 cI cL cZ q3 u3) ++ w1_X4 cI cL cZ q4 u4) ++ w1_X4 cI cL cZ q5 u5) ++ w1_X2 cI cL cZ q6 u6) ++ w1_X1 cI cL cZ q7 u7) ++ w1_X6 cI cL cZ q8 u8) ++ w1_X3 cI cL cZ q9 u9) ++ w1_X5 cI cL cZ q10 u10)) hC hin hK hP hD hS rfl FOk_11 (Nat.le_of_ble_eq_true rfl) tc_326 rfl rfl (tyX11_ok 9 (by decide)) rfl rfl (Nat.le_of_ble_eq_true rfl) dX11_init_111 rfl (fun H locs hP hD hS => ?_)
  refine lv_aload_n hC.1 hC.2.1 dX11_init_114 rfl (lv_at hl 0 rfl) ?_
  refine c_new [.null] tyX10 hC hK hP hD hS hA FOk_10 tyX10_ok tc_292 tc_293 tc_54 fd_10 (Nat.le_of_ble_eq_true rfl) (Nat.le_of_ble_eq_true rfl) dX11_init_115 (fun q11 H hP hD hS => ?_)
  refine W.widen (k := 41) (n := 1665) (Nat.le_of_ble_eq_true rfl) (Nat.le_of_ble_eq_true rfl) ?_
  refine lv_dup hC.1 hC.2.1 dX11_init_118 rfl ?_
  refine c_callL (w0 := w0_X10) ((h, .inr (11, [.ref q1, .ref q2, .ref q3, .ref q4, .ref q5, .ref q6, .ref q7, .ref q8, .ref q9, .ref q10, .null, .null])) :: (((((((((([] ++ w1_X0 cI cL cZ q1 u1) ++ w1_X7 cI cL cZ q2 u2) ++ w1_X8 cI cL cZ q3 u3) ++ w1_X4 cI cL cZ q4 u4) ++ w1_X4 cI cL cZ q5 u5) ++ w1_X2 cI cL cZ q6 u6) ++ w1_X1 cI cL cZ q7 u7) ++ w1_X6 cI cL cZ q8 u8) ++ w1_X3 cI cL cZ q9 u9) ++ w1_X5 cI cL cZ q10 u10)) rfl hC k_X10 mok_X10 tc_294 tc_295 rfl rfl ⟨(Nat.le_of_ble_eq_true rfl), (Nat.le_of_ble_eq_true rfl)⟩ ⟨(Nat.le_of_ble_eq_true rfl), (Nat.le_of_ble_eq_true rfl)⟩ hl (Nat.le_of_ble_eq_true rfl) dX11_init_119 hK hP hD hS hA (fun u11 H locs hP hD hS => ?_)
  have hP : va_P D vwCl ((h, .inr (11, [.ref q1, .ref q2, .ref q3, .ref q4, .ref q5, .ref q6, .ref q7, .ref q8, .ref q9, .ref q10, .null, .null])) :: ((((((((((([] ++ w1_X0 cI cL cZ q1 u1) ++ w1_X7 cI cL cZ q2 u2) ++ w1_X8 cI cL cZ q3 u3) ++ w1_X4 cI cL cZ q4 u4) ++ w1_X4 cI cL cZ q5 u5) ++ w1_X2 cI cL cZ q6 u6) ++ w1_X1 cI cL cZ q7 u7) ++ w1_X6 cI cL cZ q8 u8) ++ w1_X3 cI cL cZ q9 u9) ++ w1_X5 cI cL cZ q10 u10) ++ w1_X10 cI cL cZ q11 u11)) H := hP
  have hD : va_D A ((h, .inr (11, [.ref q1, .ref q2, .ref q3, .ref q4, .ref q5, .ref q6, .ref q7, .ref q8, .ref q9, .ref q10, .null, .null])) :: ((((((((((([] ++ w1_X0 cI cL cZ q1 u1) ++ w1_X7 cI cL cZ q2 u2) ++ w1_X8 cI cL cZ q3 u3) ++ w1_X4 cI cL cZ q4 u4) ++ w1_X4 cI cL cZ q5 u5) ++ w1_X2 cI cL cZ q6 u6) ++ w1_X1 cI cL cZ q7 u7) ++ w1_X6 cI cL cZ q8 u8) ++ w1_X3 cI cL cZ q9 u9) ++ w1_X5 cI cL cZ q10 u10) ++ w1_X10 cI cL cZ q11 u11)) := hD
  refine W.widen (k := 42) (n := 1686) (Nat.le_of_ble_eq_true rfl) (Nat.le_of_ble_eq_true rfl) ?_
  refine c_putF 0 10 ((h, .inr (11, [.ref q1, .ref q2, .ref q3, .ref q4, .ref q5, .ref q6, .ref q7, .ref q8, .ref q9, .ref q10, .ref q11, .null])) :: ((((((((((([] ++ w1_X0 cI cL cZ q1 u1) ++ w1_X7 cI cL cZ q2 u2) ++ w1_X8 cI cL cZ q3 u3) ++ w1_X4 cI cL cZ q4 u4) ++ w1_X4 cI cL cZ q5 u5) ++ w1_X2 cI cL cZ q6 u6) ++ w1_X1 cI cL cZ q7 u7) ++ w1_X6 cI cL cZ q8 u8) ++ w1_X3 cI cL cZ q9 u9) ++ w1_X5 cI cL cZ q10 u10) ++ w1_X10 cI cL cZ q11 u11)) hC hin hK hP hD hS rfl FOk_11 (Nat.le_of_ble_eq_true rfl) tc_327 rfl rfl (tyX11_ok 10 (by decide)) rfl rfl (Nat.le_of_ble_eq_true rfl) dX11_init_122 rfl (fun H locs hP hD hS => ?_)
  refine lv_aload_n hC.1 hC.2.1 dX11_init_125 rfl (lv_at hl 0 rfl) ?_
  refine c_new [.null, .long 0] tyX9 hC hK hP hD hS hA FOk_9 tyX9_ok tc_302 tc_303 tc_55 fd_9 (Nat.le_of_ble_eq_true rfl) (Nat.le_of_ble_eq_true rfl) dX11_init_126 (fun q12 H hP hD hS => ?_)
  refine W.widen (k := 43) (n := 1688) (Nat.le_of_ble_eq_true rfl) (Nat.le_of_ble_eq_true rfl) ?_
  refine lv_dup hC.1 hC.2.1 dX11_init_129 rfl ?_
  refine c_callNL (w0 := w0_X9) ((h, .inr (11, [.ref q1, .ref q2, .ref q3, .ref q4, .ref q5, .ref q6, .ref q7, .ref q8, .ref q9, .ref q10, .ref q11, .null])) :: ((((((((((([] ++ w1_X0 cI cL cZ q1 u1) ++ w1_X7 cI cL cZ q2 u2) ++ w1_X8 cI cL cZ q3 u3) ++ w1_X4 cI cL cZ q4 u4) ++ w1_X4 cI cL cZ q5 u5) ++ w1_X2 cI cL cZ q6 u6) ++ w1_X1 cI cL cZ q7 u7) ++ w1_X6 cI cL cZ q8 u8) ++ w1_X3 cI cL cZ q9 u9) ++ w1_X5 cI cL cZ q10 u10) ++ w1_X10 cI cL cZ q11 u11)) rfl hC k_X9 mok_X9 tc_304 tc_305 rfl rfl ⟨(Nat.le_of_ble_eq_true rfl), (Nat.le_of_ble_eq_true rfl)⟩ ⟨(Nat.le_of_ble_eq_true rfl), (Nat.le_of_ble_eq_true rfl)⟩ hl (Nat.le_of_ble_eq_true rfl) dX11_init_130 hK hP hD hS hA (fun u12 H locs hP hD hS => ?_)
  have hP : va_P D vwCl ((h, .inr (11, [.ref q1, .ref q2, .ref q3, .ref q4, .ref q5, .ref q6, .ref q7, .ref q8, .ref q9, .ref q10, .ref q11, .null])) :: (((((((((((([] ++ w1_X0 cI cL cZ q1 u1) ++ w1_X7 cI cL cZ q2 u2) ++ w1_X8 cI cL cZ q3 u3) ++ w1_X4 cI cL cZ q4 u4) ++ w1_X4 cI cL cZ q5 u5) ++ w1_X2 cI cL cZ q6 u6) ++ w1_X1 cI cL cZ q7 u7) ++ w1_X6 cI cL cZ q8 u8) ++ w1_X3 cI cL cZ q9 u9) ++ w1_X5 cI cL cZ q10 u10) ++ w1_X10 cI cL cZ q11 u11) ++ w1_X9 cI cL cZ q12 u12)) H := hP
  have hD : va_D A ((h, .inr (11, [.ref q1, .ref q2, .ref q3, .ref q4, .ref q5, .ref q6, .ref q7, .ref q8, .ref q9, .ref q10, .ref q11, .null])) :: (((((((((((([] ++ w1_X0 cI cL cZ q1 u1) ++ w1_X7 cI cL cZ q2 u2) ++ w1_X8 cI cL cZ q3 u3) ++ w1_X4 cI cL cZ q4 u4) ++ w1_X4 cI cL cZ q5 u5) ++ w1_X2 cI cL cZ q6 u6) ++ w1_X1 cI cL cZ q7 u7) ++ w1_X6 cI cL cZ q8 u8) ++ w1_X3 cI cL cZ q9 u9) ++ w1_X5 cI cL cZ q10 u10) ++ w1_X10 cI cL cZ q11 u11) ++ w1_X9 cI cL cZ q12 u12)) := hD
  refine W.widen (k := 44) (n := 1701) (Nat.le_of_ble_eq_true rfl) (Nat.le_of_ble_eq_true rfl) ?_
  refine c_putF 0 11 ((h, .inr (11, [.ref q1, .ref q2, .ref q3, .ref q4, .ref q5, .ref q6, .ref q7, .ref q8, .ref q9, .ref q10, .ref q11, .ref q12])) :: (((((((((((([] ++ w1_X0 cI cL cZ q1 u1) ++ w1_X7 cI cL cZ q2 u2) ++ w1_X8 cI cL cZ q3 u3) ++ w1_X4 cI cL cZ q4 u4) ++ w1_X4 cI cL cZ q5 u5) ++ w1_X2 cI cL cZ q6 u6) ++ w1_X1 cI cL cZ q7 u7) ++ w1_X6 cI cL cZ q8 u8) ++ w1_X3 cI cL cZ q9 u9) ++ w1_X5 cI cL cZ q10 u10) ++ w1_X10 cI cL cZ q11 u11) ++ w1_X9 cI cL cZ q12 u12)) hC hin hK hP hD hS rfl FOk_11 (Nat.le_of_ble_eq_true rfl) tc_328 rfl rfl (tyX11_ok 11 (by decide)) rfl rfl (Nat.le_of_ble_eq_true rfl) dX11_init_133 rfl (fun H locs hP hD hS => ?_)
  exact hend (fun j => ([q1, q2, q3, q4, q5, q6, q7, q8, q9, q10, q11, q12] : List Nat).getD j 0, fun j => ([u1, u2, u3, u4, u5, u6, u7, u8, u9, u10, u11, u12] : List (Nat → Nat)).getD j (fun _ => 0)) _ _ 136 ls hP hD hS dX11_init_136
