set_option maxRecDepth 100000 in
theorem fr_X12_towels_b30 {i0 : Nat} {M0 : Mem}  (M : Mem) (hM : Sm ([(rf i0 23)] : List Nat) M0 M) : FrB ([(rf i0 23)] : List Nat) M0 (X12_towels_b30 i0   M) := by
  unfold X12_towels_b30
  exact Fr_ret hM
set_option maxRecDepth 100000 in
theorem fr_X12_towels_b127 {i0 : Nat} {M0 : Mem} {k44 : Int32 → Int32 → Int32 → Int32 → Int32 → Mem → Option (Int32 × Mem)} (hk44 : ∀ (x2 : Int32) (x3 : Int32) (x4 : Int32) (x5 : Int32) (x6 : Int32) (M : Mem), Sm ([(rf i0 23)] : List Nat) M0 M → FrB ([(rf i0 23)] : List Nat) M0 (k44 x2 x3 x4 x5 x6 M)) (x2 : Int32) (x3 : Int32) (x4 : Int32) (x6 : Int32) (s0 : Int32) (M : Mem) (hM : Sm ([(rf i0 23)] : List Nat) M0 M) : FrB ([(rf i0 23)] : List Nat) M0 (X12_towels_b127 i0 k44 x2 x3 x4 x6 s0 M) := by
  unfold X12_towels_b127
  exact hk44 _ _ _ _ _ _ hM
set_option maxRecDepth 100000 in
theorem fr_X12_towels_b101 {i0 : Nat} {M0 : Mem} {k44 : Int32 → Int32 → Int32 → Int32 → Int32 → Mem → Option (Int32 × Mem)} (hk44 : ∀ (x2 : Int32) (x3 : Int32) (x4 : Int32) (x5 : Int32) (x6 : Int32) (M : Mem), Sm ([(rf i0 23)] : List Nat) M0 M → FrB ([(rf i0 23)] : List Nat) M0 (k44 x2 x3 x4 x5 x6 M)) (x2 : Int32) (x3 : Int32) (x5 : Int32) (x6 : Int32) (x7 : Int32) (s0 : Int32) (s1 : Int32) (M : Mem) (hM : Sm ([(rf i0 23)] : List Nat) M0 M) : FrB ([(rf i0 23)] : List Nat) M0 (X12_towels_b101 i0 k44 x2 x3 x5 x6 x7 s0 s1 M) := by
  unfold X12_towels_b101
  refine Fr_ite ?_ ?_
  ·
    exact fr_X12_towels_b127 hk44 _ _ _ _ _ _ hM
  ·
    refine Fr_bind (fr_X12_common _ _ _ Sm_refl) (by simp) hM (fun p1 hN1 => ?_)
    refine Fr_gd ?_
    exact fr_X12_towels_b127 hk44 _ _ _ _ _ _ hN1
set_option maxRecDepth 100000 in
theorem fr_X12_towels_b58 {i0 : Nat} {M0 : Mem} {k44 : Int32 → Int32 → Int32 → Int32 → Int32 → Mem → Option (Int32 × Mem)} (hk44 : ∀ (x2 : Int32) (x3 : Int32) (x4 : Int32) (x5 : Int32) (x6 : Int32) (M : Mem), Sm ([(rf i0 23)] : List Nat) M0 M → FrB ([(rf i0 23)] : List Nat) M0 (k44 x2 x3 x4 x5 x6 M)) {k58 : Int32 → Int32 → Int32 → Int32 → Int32 → Int32 → Int32 → Mem → Option (Int32 × Mem)} (hk58 : ∀ (x2 : Int32) (x3 : Int32) (x4 : Int32) (x5 : Int32) (x6 : Int32) (x7 : Int32) (x8 : Int32) (M : Mem), Sm ([(rf i0 23)] : List Nat) M0 M → FrB ([(rf i0 23)] : List Nat) M0 (k58 x2 x3 x4 x5 x6 x7 x8 M)) (x2 : Int32) (x3 : Int32) (x4 : Int32) (x5 : Int32) (x6 : Int32) (x7 : Int32) (x8 : Int32) (M : Mem) (hM : Sm ([(rf i0 23)] : List Nat) M0 M) : FrB ([(rf i0 23)] : List Nat) M0 (X12_towels_b58 i0 k44 k58 x2 x3 x4 x5 x6 x7 x8 M) := by
  unfold X12_towels_b58
  refine Fr_bind (fr_X12_isIn _ _ _ Sm_refl) (by simp) hM (fun p1 hN1 => ?_)
  refine Fr_ite ?_ ?_
  ·
    refine Fr_iw (fun v2 => ?_)
    refine Fr_gd ?_
    refine Fr_iw (fun v3 => ?_)
    exact hk58 _ _ _ _ _ _ _ _ hN1
  ·
    refine Fr_ite ?_ ?_
    ·
      exact fr_X12_towels_b101 hk44 _ _ _ _ _ _ _ _ hN1
    ·
      exact fr_X12_towels_b101 hk44 _ _ _ _ _ _ _ _ hN1
theorem fr_X12_towels_l58 {i0 : Nat} {M0 : Mem} {k44 : Int32 → Int32 → Int32 → Int32 → Int32 → Mem → Option (Int32 × Mem)} (hk44 : ∀ (x2 : Int32) (x3 : Int32) (x4 : Int32) (x5 : Int32) (x6 : Int32) (M : Mem), Sm ([(rf i0 23)] : List Nat) M0 M → FrB ([(rf i0 23)] : List Nat) M0 (k44 x2 x3 x4 x5 x6 M)) (n : Nat) : ∀ (x2 : Int32) (x3 : Int32) (x4 : Int32) (x5 : Int32) (x6 : Int32) (x7 : Int32) (x8 : Int32) (M : Mem), Sm ([(rf i0 23)] : List Nat) M0 M → FrB ([(rf i0 23)] : List Nat) M0 (X12_towels_l58 i0 k44 n x2 x3 x4 x5 x6 x7 x8 M) := by
  induction n with
  | zero => intro x2 x3 x4 x5 x6 x7 x8 M _; exact Fr_none
  | succ n ih => intro x2 x3 x4 x5 x6 x7 x8 M hM; exact fr_X12_towels_b58 hk44 ih x2 x3 x4 x5 x6 x7 x8 M hM
set_option maxRecDepth 100000 in
theorem fr_X12_towels_b149 {i0 : Nat} {M0 : Mem} (s0 : Int32) (M : Mem) (hM : Sm ([(rf i0 23)] : List Nat) M0 M) : FrB ([(rf i0 23)] : List Nat) M0 (X12_towels_b149 i0  s0 M) := by
  unfold X12_towels_b149
  exact Fr_ret hM
set_option maxRecDepth 100000 in
theorem fr_X12_towels_b44 {i0 : Nat} {M0 : Mem} {k44 : Int32 → Int32 → Int32 → Int32 → Int32 → Mem → Option (Int32 × Mem)} (hk44 : ∀ (x2 : Int32) (x3 : Int32) (x4 : Int32) (x5 : Int32) (x6 : Int32) (M : Mem), Sm ([(rf i0 23)] : List Nat) M0 M → FrB ([(rf i0 23)] : List Nat) M0 (k44 x2 x3 x4 x5 x6 M)) (x2 : Int32) (x3 : Int32) (x4 : Int32) (x5 : Int32) (x6 : Int32) (M : Mem) (hM : Sm ([(rf i0 23)] : List Nat) M0 M) : FrB ([(rf i0 23)] : List Nat) M0 (X12_towels_b44 i0 k44 x2 x3 x4 x5 x6 M) := by
  unfold X12_towels_b44
  refine Fr_ite ?_ ?_
  ·
    refine Fr_ite ?_ ?_
    ·
      exact fr_X12_towels_b149  _ _ hM
    ·
      exact fr_X12_towels_b149  _ _ hM
  ·
    exact fr_X12_towels_l58 hk44 _ _ _ _ _ _ _ _ _ hM
theorem fr_X12_towels_l44 {i0 : Nat} {M0 : Mem} (n : Nat) : ∀ (x2 : Int32) (x3 : Int32) (x4 : Int32) (x5 : Int32) (x6 : Int32) (M : Mem), Sm ([(rf i0 23)] : List Nat) M0 M → FrB ([(rf i0 23)] : List Nat) M0 (X12_towels_l44 i0  n x2 x3 x4 x5 x6 M) := by
  induction n with
  | zero => intro x2 x3 x4 x5 x6 M _; exact Fr_none
  | succ n ih => intro x2 x3 x4 x5 x6 M hM; exact fr_X12_towels_b44 ih x2 x3 x4 x5 x6 M hM
set_option maxRecDepth 100000 in
theorem fr_X12_towels {i0 : Nat} {M0 : Mem} (x1 : Int32) (x2 : Int32) (M : Mem) (hM : Sm ([(rf i0 23)] : List Nat) M0 M) : FrB ([(rf i0 23)] : List Nat) M0 (X12_towels i0  x1 x2 M) := by
  unfold X12_towels
  refine Fr_bind (fr_X12_in _ _ _ _ Sm_refl) (by simp) hM (fun p1 hN1 => ?_)
  refine Fr_ite ?_ ?_
  ·
    exact fr_X12_towels_b30   _ hN1
  ·
    refine Fr_bind (fr_X12_readHooks _ _ Sm_refl) (by simp) hN1 (fun p2 hN2 => ?_)
    refine Fr_ite ?_ ?_
    ·
      exact fr_X12_towels_b30   _ hN2
    ·
      refine Fr_bind (fr_X12_in _ _ _ _ Sm_refl) (by simp) hN2 (fun p3 hN3 => ?_)
      refine Fr_ite ?_ ?_
      ·
        exact fr_X12_towels_b30   _ hN3
      ·
        exact fr_X12_towels_l44  _ _ _ _ _ _ _ hN3
set_option maxRecDepth 100000 in
theorem fr_X12_found {i0 : Nat} {M0 : Mem} (x1 : Int32) (x2 : Int32) (M : Mem) (hM : Sm ([(rf i0 8), (rf i0 9), i0] : List Nat) M0 M) : FrB ([(rf i0 8), (rf i0 9), i0] : List Nat) M0 (X12_found i0  x1 x2 M) := by
  unfold X12_found
  refine Fr_bind (fr_X12_isThing _ _ Sm_refl) (by simp) hM (fun p1 hN1 => ?_)
  refine Fr_ite ?_ ?_
  ·
    exact Fr_ret hN1
  ·
    refine Fr_bind (fr_X12_in _ _ _ _ Sm_refl) (by simp) hN1 (fun p2 hN2 => ?_)
    refine Fr_ite ?_ ?_
    ·
      exact Fr_ret hN2
    ·
      refine Fr_ite ?_ ?_
      ·
        exact Fr_ret hN2
      ·
        refine Fr_gd ?_
        refine Fr_mw (Sm_mI hN2 (by simp)) (fun N3 hN3 => ?_)
        refine Fr_gd ?_
        refine Fr_mw (Sm_mI hN3 (by simp)) (fun N4 hN4 => ?_)
        refine Fr_mw (Sm_mI hN4 (by simp)) (fun N5 hN5 => ?_)
        exact Fr_ret hN5
set_option maxRecDepth 100000 in
theorem fr_X12_forget {i0 : Nat} {M0 : Mem}  (M : Mem) (hM : Sm ([i0] : List Nat) M0 M) : FrB ([i0] : List Nat) M0 (X12_forget i0   M) := by
  unfold X12_forget
  exact Fr_ret (Sm_mI hM (by simp))
set_option maxRecDepth 100000 in
theorem fr_X12_foundBy  {M0 : Mem} (x0 : Int32) (x1 : Int32) (M : Mem) (hM : Sm ([] : List Nat) M0 M) : FrB ([] : List Nat) M0 (X12_foundBy   x0 x1 M) := by
  unfold X12_foundBy
  refine Fr_gd ?_
  refine Fr_gd ?_
  refine Fr_gd ?_
  exact Fr_ret hM
set_option maxRecDepth 100000 in
theorem fr_X12_isFit_b53 {i0 : Nat} {M0 : Mem} {k17 : Int32 → Int32 → Int32 → Mem → Option (Int32 × Mem)} (hk17 : ∀ (x1 : Int32) (x2 : Int32) (x3 : Int32) (M : Mem), Sm ([] : List Nat) M0 M → FrB ([] : List Nat) M0 (k17 x1 x2 x3 M)) (x1 : Int32) (x3 : Int32) (s0 : Int32) (M : Mem) (hM : Sm ([] : List Nat) M0 M) : FrB ([] : List Nat) M0 (X12_isFit_b53 i0 k17 x1 x3 s0 M) := by
  unfold X12_isFit_b53
  exact hk17 _ _ _ _ hM
set_option maxRecDepth 100000 in
theorem fr_X12_isFit_b52 {i0 : Nat} {M0 : Mem} {k17 : Int32 → Int32 → Int32 → Mem → Option (Int32 × Mem)} (hk17 : ∀ (x1 : Int32) (x2 : Int32) (x3 : Int32) (M : Mem), Sm ([] : List Nat) M0 M → FrB ([] : List Nat) M0 (k17 x1 x2 x3 M)) (x1 : Int32) (x3 : Int32) (M : Mem) (hM : Sm ([] : List Nat) M0 M) : FrB ([] : List Nat) M0 (X12_isFit_b52 i0 k17 x1 x3 M) := by
  unfold X12_isFit_b52
  exact fr_X12_isFit_b53 hk17 _ _ _ _ hM
set_option maxRecDepth 100000 in
theorem fr_X12_isFit_b17 {i0 : Nat} {M0 : Mem} {k17 : Int32 → Int32 → Int32 → Mem → Option (Int32 × Mem)} (hk17 : ∀ (x1 : Int32) (x2 : Int32) (x3 : Int32) (M : Mem), Sm ([] : List Nat) M0 M → FrB ([] : List Nat) M0 (k17 x1 x2 x3 M)) (x1 : Int32) (x2 : Int32) (x3 : Int32) (M : Mem) (hM : Sm ([] : List Nat) M0 M) : FrB ([] : List Nat) M0 (X12_isFit_b17 i0 k17 x1 x2 x3 M) := by
  unfold X12_isFit_b17
  refine Fr_ite ?_ ?_
  ·
    exact Fr_gd (Fr_ret hM)
  ·
    refine Fr_ite ?_ ?_
    ·
      exact fr_X12_isFit_b52 hk17 _ _ _ hM
    ·
      refine Fr_gd ?_
      refine Fr_bind (fr_X12_foundBy _ _ _ Sm_refl) (by simp) hM (fun p1 hN1 => ?_)
      refine Fr_gd ?_
      refine Fr_ite ?_ ?_
      ·
        exact fr_X12_isFit_b53 hk17 _ _ _ _ hN1
      ·
        exact fr_X12_isFit_b52 hk17 _ _ _ hN1
theorem fr_X12_isFit_l17 {i0 : Nat} {M0 : Mem} (n : Nat) : ∀ (x1 : Int32) (x2 : Int32) (x3 : Int32) (M : Mem), Sm ([] : List Nat) M0 M → FrB ([] : List Nat) M0 (X12_isFit_l17 i0  n x1 x2 x3 M) := by
  induction n with
  | zero => intro x1 x2 x3 M _; exact Fr_none
  | succ n ih => intro x1 x2 x3 M hM; exact fr_X12_isFit_b17 ih x1 x2 x3 M hM
set_option maxRecDepth 100000 in
theorem fr_X12_isFit_b14 {i0 : Nat} {M0 : Mem} (x1 : Int32) (s0 : Int32) (M : Mem) (hM : Sm ([] : List Nat) M0 M) : FrB ([] : List Nat) M0 (X12_isFit_b14 i0  x1 s0 M) := by
  unfold X12_isFit_b14
  exact fr_X12_isFit_l17  _ _ _ _ _ hM
set_option maxRecDepth 100000 in
theorem fr_X12_isFit {i0 : Nat} {M0 : Mem} (x1 : Int32) (M : Mem) (hM : Sm ([] : List Nat) M0 M) : FrB ([] : List Nat) M0 (X12_isFit i0  x1 M) := by
  unfold X12_isFit
  refine Fr_gd ?_
  refine Fr_ite ?_ ?_
  ·
    exact fr_X12_isFit_b14  _ _ _ hM
  ·
    exact fr_X12_isFit_b14  _ _ _ hM
set_option maxRecDepth 100000 in
theorem fr_X12_fits_b28 {i0 : Nat} {M0 : Mem} {k4 : Int32 → Int32 → Int32 → Mem → Option (Int32 × Mem)} (hk4 : ∀ (x1 : Int32) (x2 : Int32) (x3 : Int32) (M : Mem), Sm ([] : List Nat) M0 M → FrB ([] : List Nat) M0 (k4 x1 x2 x3 M)) (x1 : Int32) (x2 : Int32) (x3 : Int32) (M : Mem) (hM : Sm ([] : List Nat) M0 M) : FrB ([] : List Nat) M0 (X12_fits_b28 i0 k4 x1 x2 x3 M) := by
  unfold X12_fits_b28
  exact hk4 _ _ _ _ hM
set_option maxRecDepth 100000 in
theorem fr_X12_fits_b45 {i0 : Nat} {M0 : Mem} (s0 : Int32) (M : Mem) (hM : Sm ([] : List Nat) M0 M) : FrB ([] : List Nat) M0 (X12_fits_b45 i0  s0 M) := by
  unfold X12_fits_b45
  exact Fr_ret hM
set_option maxRecDepth 100000 in
theorem fr_X12_fits_b4 {i0 : Nat} {M0 : Mem} {k4 : Int32 → Int32 → Int32 → Mem → Option (Int32 × Mem)} (hk4 : ∀ (x1 : Int32) (x2 : Int32) (x3 : Int32) (M : Mem), Sm ([] : List Nat) M0 M → FrB ([] : List Nat) M0 (k4 x1 x2 x3 M)) (x1 : Int32) (x2 : Int32) (x3 : Int32) (M : Mem) (hM : Sm ([] : List Nat) M0 M) : FrB ([] : List Nat) M0 (X12_fits_b4 i0 k4 x1 x2 x3 M) := by
  unfold X12_fits_b4
  refine Fr_ite ?_ ?_
  ·
    refine Fr_ite ?_ ?_
    ·
      exact fr_X12_fits_b45  _ _ hM
    ·
      exact fr_X12_fits_b45  _ _ hM
  ·
    refine Fr_bind (fr_X12_isFit _ _ Sm_refl) (by simp) hM (fun p1 hN1 => ?_)
    refine Fr_ite ?_ ?_
    ·
      exact fr_X12_fits_b28 hk4 _ _ _ _ hN1
    ·
      refine Fr_ite ?_ ?_
      ·
        exact Fr_ret hN1
      ·
        exact fr_X12_fits_b28 hk4 _ _ _ _ hN1
theorem fr_X12_fits_l4 {i0 : Nat} {M0 : Mem} (n : Nat) : ∀ (x1 : Int32) (x2 : Int32) (x3 : Int32) (M : Mem), Sm ([] : List Nat) M0 M → FrB ([] : List Nat) M0 (X12_fits_l4 i0  n x1 x2 x3 M) := by
  induction n with
  | zero => intro x1 x2 x3 M _; exact Fr_none
  | succ n ih => intro x1 x2 x3 M hM; exact fr_X12_fits_b4 ih x1 x2 x3 M hM
set_option maxRecDepth 100000 in
theorem fr_X12_fits {i0 : Nat} {M0 : Mem} (x1 : Int32) (M : Mem) (hM : Sm ([] : List Nat) M0 M) : FrB ([] : List Nat) M0 (X12_fits i0  x1 M) := by
  unfold X12_fits
  exact fr_X12_fits_l4  _ _ _ _ _ hM
set_option maxRecDepth 100000 in
theorem fr_X12_mostLeft_b68 {i0 : Nat} {M0 : Mem} {k25 : Int32 → Int32 → Int32 → Mem → Option (Int32 × Mem)} (hk25 : ∀ (x1 : Int32) (x2 : Int32) (x3 : Int32) (M : Mem), Sm ([(rf i0 24)] : List Nat) M0 M → FrB ([(rf i0 24)] : List Nat) M0 (k25 x1 x2 x3 M)) (x1 : Int32) (x2 : Int32) (x3 : Int32) (M : Mem) (hM : Sm ([(rf i0 24)] : List Nat) M0 M) : FrB ([(rf i0 24)] : List Nat) M0 (X12_mostLeft_b68 i0 k25 x1 x2 x3 M) := by
  unfold X12_mostLeft_b68
  exact hk25 _ _ _ _ hM
set_option maxRecDepth 100000 in
theorem fr_X12_mostLeft_b25 {i0 : Nat} {M0 : Mem} {k25 : Int32 → Int32 → Int32 → Mem → Option (Int32 × Mem)} (hk25 : ∀ (x1 : Int32) (x2 : Int32) (x3 : Int32) (M : Mem), Sm ([(rf i0 24)] : List Nat) M0 M → FrB ([(rf i0 24)] : List Nat) M0 (k25 x1 x2 x3 M)) (x1 : Int32) (x2 : Int32) (x3 : Int32) (M : Mem) (hM : Sm ([(rf i0 24)] : List Nat) M0 M) : FrB ([(rf i0 24)] : List Nat) M0 (X12_mostLeft_b25 i0 k25 x1 x2 x3 M) := by
  unfold X12_mostLeft_b25
  refine Fr_ite ?_ ?_
  ·
    exact Fr_ret hM
  ·
    refine Fr_bind (fr_X12_isFit _ _ Sm_refl) (by simp) hM (fun p1 hN1 => ?_)
    refine Fr_ite ?_ ?_
    ·
      exact fr_X12_mostLeft_b68 hk25 _ _ _ _ hN1
    ·
      refine Fr_bind (fr_X12_foundBy _ _ _ Sm_refl) (by simp) hN1 (fun p2 hN2 => ?_)
      refine Fr_gd ?_
      refine Fr_gd ?_
      refine Fr_bind (fr_X12_foundBy _ _ _ Sm_refl) (by simp) (Sm_mI hN2 (by simp)) (fun p3 hN3 => ?_)
      refine Fr_gd ?_
      refine Fr_bind (fr_X12_more _ _ _ Sm_refl) (by simp) hN3 (fun p4 hN4 => ?_)
      exact fr_X12_mostLeft_b68 hk25 _ _ _ _ hN4
theorem fr_X12_mostLeft_l25 {i0 : Nat} {M0 : Mem} (n : Nat) : ∀ (x1 : Int32) (x2 : Int32) (x3 : Int32) (M : Mem), Sm ([(rf i0 24)] : List Nat) M0 M → FrB ([(rf i0 24)] : List Nat) M0 (X12_mostLeft_l25 i0  n x1 x2 x3 M) := by
  induction n with
  | zero => intro x1 x2 x3 M _; exact Fr_none
  | succ n ih => intro x1 x2 x3 M hM; exact fr_X12_mostLeft_b25 ih x1 x2 x3 M hM
set_option maxRecDepth 100000 in
theorem fr_X12_mostLeft_b4 {i0 : Nat} {M0 : Mem} {k4 : Int32 → Int32 → Int32 → Mem → Option (Int32 × Mem)} (hk4 : ∀ (x1 : Int32) (x2 : Int32) (x3 : Int32) (M : Mem), Sm ([(rf i0 24)] : List Nat) M0 M → FrB ([(rf i0 24)] : List Nat) M0 (k4 x1 x2 x3 M)) (x1 : Int32) (x2 : Int32) (x3 : Int32) (M : Mem) (hM : Sm ([(rf i0 24)] : List Nat) M0 M) : FrB ([(rf i0 24)] : List Nat) M0 (X12_mostLeft_b4 i0 k4 x1 x2 x3 M) := by
  unfold X12_mostLeft_b4
  refine Fr_ite ?_ ?_
  ·
    exact fr_X12_mostLeft_l25  _ _ _ _ _ hM
  ·
    refine Fr_gd ?_
    exact hk4 _ _ _ _ (Sm_mI hM (by simp))
theorem fr_X12_mostLeft_l4 {i0 : Nat} {M0 : Mem} (n : Nat) : ∀ (x1 : Int32) (x2 : Int32) (x3 : Int32) (M : Mem), Sm ([(rf i0 24)] : List Nat) M0 M → FrB ([(rf i0 24)] : List Nat) M0 (X12_mostLeft_l4 i0  n x1 x2 x3 M) := by
  induction n with
  | zero => intro x1 x2 x3 M _; exact Fr_none
  | succ n ih => intro x1 x2 x3 M hM; exact fr_X12_mostLeft_b4 ih x1 x2 x3 M hM
set_option maxRecDepth 100000 in
theorem fr_X12_mostLeft {i0 : Nat} {M0 : Mem} (x1 : Int32) (M : Mem) (hM : Sm ([(rf i0 24)] : List Nat) M0 M) : FrB ([(rf i0 24)] : List Nat) M0 (X12_mostLeft i0  x1 M) := by
  unfold X12_mostLeft
  exact fr_X12_mostLeft_l4  _ _ _ _ _ hM
set_option maxRecDepth 100000 in
theorem fr_X12_ask_b51 {i0 : Nat} {M0 : Mem} {k24 : Int32 → Int32 → Int32 → Int32 → Mem → Option (Int32 × Mem)} (hk24 : ∀ (x1 : Int32) (x2 : Int32) (x3 : Int32) (x4 : Int32) (M : Mem), Sm ([(rf i0 24)] : List Nat) M0 M → FrB ([(rf i0 24)] : List Nat) M0 (k24 x1 x2 x3 x4 M)) (x1 : Int32) (x3 : Int32) (x4 : Int32) (x5 : Int32) (s0 : Int32) (M : Mem) (hM : Sm ([(rf i0 24)] : List Nat) M0 M) : FrB ([(rf i0 24)] : List Nat) M0 (X12_ask_b51 i0 k24 x1 x3 x4 x5 s0 M) := by
  unfold X12_ask_b51
  refine Fr_bind (fr_X12_less _ _ _ Sm_refl) (by simp) hM (fun p1 hN1 => ?_)
  exact hk24 _ _ _ _ _ hN1
set_option maxRecDepth 100000 in
theorem fr_X12_ask_b83 {i0 : Nat} {M0 : Mem} (s0 : Int32) (M : Mem) (hM : Sm ([(rf i0 24)] : List Nat) M0 M) : FrB ([(rf i0 24)] : List Nat) M0 (X12_ask_b83 i0  s0 M) := by
  unfold X12_ask_b83
  exact Fr_ret hM
set_option maxRecDepth 100000 in
theorem fr_X12_ask_b24 {i0 : Nat} {M0 : Mem} {k24 : Int32 → Int32 → Int32 → Int32 → Mem → Option (Int32 × Mem)} (hk24 : ∀ (x1 : Int32) (x2 : Int32) (x3 : Int32) (x4 : Int32) (M : Mem), Sm ([(rf i0 24)] : List Nat) M0 M → FrB ([(rf i0 24)] : List Nat) M0 (k24 x1 x2 x3 x4 M)) (x1 : Int32) (x2 : Int32) (x3 : Int32) (x4 : Int32) (M : Mem) (hM : Sm ([(rf i0 24)] : List Nat) M0 M) : FrB ([(rf i0 24)] : List Nat) M0 (X12_ask_b24 i0 k24 x1 x2 x3 x4 M) := by
  unfold X12_ask_b24
  refine Fr_ite ?_ ?_
  ·
    refine Fr_ite ?_ ?_
    ·
      exact fr_X12_ask_b83  _ _ hM
    ·
      refine Fr_ite ?_ ?_
      ·
        exact fr_X12_ask_b83  _ _ hM
      ·
        exact fr_X12_ask_b83  _ _ hM
  ·
    refine Fr_bind (fr_X12_mostLeft _ _ Sm_refl) (by simp) hM (fun p1 hN1 => ?_)
    refine Fr_ite ?_ ?_
    ·
      exact fr_X12_ask_b51 hk24 _ _ _ _ _ _ hN1
    ·
      exact fr_X12_ask_b51 hk24 _ _ _ _ _ _ hN1
theorem fr_X12_ask_l24 {i0 : Nat} {M0 : Mem} (n : Nat) : ∀ (x1 : Int32) (x2 : Int32) (x3 : Int32) (x4 : Int32) (M : Mem), Sm ([(rf i0 24)] : List Nat) M0 M → FrB ([(rf i0 24)] : List Nat) M0 (X12_ask_l24 i0  n x1 x2 x3 x4 M) := by
  induction n with
  | zero => intro x1 x2 x3 x4 M _; exact Fr_none
  | succ n ih => intro x1 x2 x3 x4 M hM; exact fr_X12_ask_b24 ih x1 x2 x3 x4 M hM
set_option maxRecDepth 100000 in
theorem fr_X12_ask {i0 : Nat} {M0 : Mem} (x1 : Int32) (M : Mem) (hM : Sm ([(rf i0 24)] : List Nat) M0 M) : FrB ([(rf i0 24)] : List Nat) M0 (X12_ask i0  x1 M) := by
  unfold X12_ask
  refine Fr_bind (fr_X12_in _ _ _ _ Sm_refl) (by simp) hM (fun p1 hN1 => ?_)
  refine Fr_ite ?_ ?_
  ·
    exact Fr_ret hN1
  ·
    refine Fr_bind (fr_X12_mostLeft _ _ Sm_refl) (by simp) hN1 (fun p2 hN2 => ?_)
    exact fr_X12_ask_l24  _ _ _ _ _ _ hN2
set_option maxRecDepth 100000 in
theorem fr_X12_leastTake_b88 {i0 : Nat} {M0 : Mem} {k6 : Int32 → Int32 → Int32 → Int32 → Mem → Option (Int32 × Mem)} (hk6 : ∀ (x1 : Int32) (x2 : Int32) (x3 : Int32) (x4 : Int32) (M : Mem), Sm ([] : List Nat) M0 M → FrB ([] : List Nat) M0 (k6 x1 x2 x3 x4 M)) {k14 : Int32 → Int32 → Int32 → Int32 → Int32 → Mem → Option (Int32 × Mem)} (hk14 : ∀ (x1 : Int32) (x2 : Int32) (x3 : Int32) (x4 : Int32) (x5 : Int32) (M : Mem), Sm ([] : List Nat) M0 M → FrB ([] : List Nat) M0 (k14 x1 x2 x3 x4 x5 M)) (x1 : Int32) (x2 : Int32) (x4 : Int32) (x5 : Int32) (s0 : Int32) (M : Mem) (hM : Sm ([] : List Nat) M0 M) : FrB ([] : List Nat) M0 (X12_leastTake_b88 i0 k6 k14 x1 x2 x4 x5 s0 M) := by
  unfold X12_leastTake_b88
  exact hk14 _ _ _ _ _ _ hM
set_option maxRecDepth 100000 in
theorem fr_X12_leastTake_b87 {i0 : Nat} {M0 : Mem} {k6 : Int32 → Int32 → Int32 → Int32 → Mem → Option (Int32 × Mem)} (hk6 : ∀ (x1 : Int32) (x2 : Int32) (x3 : Int32) (x4 : Int32) (M : Mem), Sm ([] : List Nat) M0 M → FrB ([] : List Nat) M0 (k6 x1 x2 x3 x4 M)) {k14 : Int32 → Int32 → Int32 → Int32 → Int32 → Mem → Option (Int32 × Mem)} (hk14 : ∀ (x1 : Int32) (x2 : Int32) (x3 : Int32) (x4 : Int32) (x5 : Int32) (M : Mem), Sm ([] : List Nat) M0 M → FrB ([] : List Nat) M0 (k14 x1 x2 x3 x4 x5 M)) (x1 : Int32) (x2 : Int32) (x3 : Int32) (x4 : Int32) (x5 : Int32) (M : Mem) (hM : Sm ([] : List Nat) M0 M) : FrB ([] : List Nat) M0 (X12_leastTake_b87 i0 k6 k14 x1 x2 x3 x4 x5 M) := by
  unfold X12_leastTake_b87
  exact fr_X12_leastTake_b88 hk6 hk14 _ _ _ _ _ _ hM
set_option maxRecDepth 100000 in
theorem fr_X12_leastTake_b49 {i0 : Nat} {M0 : Mem} {k6 : Int32 → Int32 → Int32 → Int32 → Mem → Option (Int32 × Mem)} (hk6 : ∀ (x1 : Int32) (x2 : Int32) (x3 : Int32) (x4 : Int32) (M : Mem), Sm ([] : List Nat) M0 M → FrB ([] : List Nat) M0 (k6 x1 x2 x3 x4 M)) {k14 : Int32 → Int32 → Int32 → Int32 → Int32 → Mem → Option (Int32 × Mem)} (hk14 : ∀ (x1 : Int32) (x2 : Int32) (x3 : Int32) (x4 : Int32) (x5 : Int32) (M : Mem), Sm ([] : List Nat) M0 M → FrB ([] : List Nat) M0 (k14 x1 x2 x3 x4 x5 M)) (x1 : Int32) (x2 : Int32) (x3 : Int32) (x4 : Int32) (x5 : Int32) (s0 : Int32) (M : Mem) (hM : Sm ([] : List Nat) M0 M) : FrB ([] : List Nat) M0 (X12_leastTake_b49 i0 k6 k14 x1 x2 x3 x4 x5 s0 M) := by
  unfold X12_leastTake_b49
  refine Fr_ite ?_ ?_
  ·
    exact fr_X12_leastTake_b87 hk6 hk14 _ _ _ _ _ _ hM
  ·
    refine Fr_gd ?_
    refine Fr_ite ?_ ?_
    ·
      exact fr_X12_leastTake_b88 hk6 hk14 _ _ _ _ _ _ hM
    ·
      exact fr_X12_leastTake_b87 hk6 hk14 _ _ _ _ _ _ hM
set_option maxRecDepth 100000 in
theorem fr_X12_leastTake_b44 {i0 : Nat} {M0 : Mem} {k6 : Int32 → Int32 → Int32 → Int32 → Mem → Option (Int32 × Mem)} (hk6 : ∀ (x1 : Int32) (x2 : Int32) (x3 : Int32) (x4 : Int32) (M : Mem), Sm ([] : List Nat) M0 M → FrB ([] : List Nat) M0 (k6 x1 x2 x3 x4 M)) {k14 : Int32 → Int32 → Int32 → Int32 → Int32 → Mem → Option (Int32 × Mem)} (hk14 : ∀ (x1 : Int32) (x2 : Int32) (x3 : Int32) (x4 : Int32) (x5 : Int32) (M : Mem), Sm ([] : List Nat) M0 M → FrB ([] : List Nat) M0 (k14 x1 x2 x3 x4 x5 M)) (x1 : Int32) (x2 : Int32) (x3 : Int32) (x4 : Int32) (x5 : Int32) (M : Mem) (hM : Sm ([] : List Nat) M0 M) : FrB ([] : List Nat) M0 (X12_leastTake_b44 i0 k6 k14 x1 x2 x3 x4 x5 M) := by
  unfold X12_leastTake_b44
  exact fr_X12_leastTake_b49 hk6 hk14 _ _ _ _ _ _ _ hM
set_option maxRecDepth 100000 in
theorem fr_X12_leastTake_b48 {i0 : Nat} {M0 : Mem} {k6 : Int32 → Int32 → Int32 → Int32 → Mem → Option (Int32 × Mem)} (hk6 : ∀ (x1 : Int32) (x2 : Int32) (x3 : Int32) (x4 : Int32) (M : Mem), Sm ([] : List Nat) M0 M → FrB ([] : List Nat) M0 (k6 x1 x2 x3 x4 M)) {k14 : Int32 → Int32 → Int32 → Int32 → Int32 → Mem → Option (Int32 × Mem)} (hk14 : ∀ (x1 : Int32) (x2 : Int32) (x3 : Int32) (x4 : Int32) (x5 : Int32) (M : Mem), Sm ([] : List Nat) M0 M → FrB ([] : List Nat) M0 (k14 x1 x2 x3 x4 x5 M)) (x1 : Int32) (x2 : Int32) (x3 : Int32) (x4 : Int32) (x5 : Int32) (M : Mem) (hM : Sm ([] : List Nat) M0 M) : FrB ([] : List Nat) M0 (X12_leastTake_b48 i0 k6 k14 x1 x2 x3 x4 x5 M) := by
  unfold X12_leastTake_b48
  exact fr_X12_leastTake_b49 hk6 hk14 _ _ _ _ _ _ _ hM
set_option maxRecDepth 100000 in
theorem fr_X12_leastTake_b14 {i0 : Nat} {M0 : Mem} {k6 : Int32 → Int32 → Int32 → Int32 → Mem → Option (Int32 × Mem)} (hk6 : ∀ (x1 : Int32) (x2 : Int32) (x3 : Int32) (x4 : Int32) (M : Mem), Sm ([] : List Nat) M0 M → FrB ([] : List Nat) M0 (k6 x1 x2 x3 x4 M)) {k14 : Int32 → Int32 → Int32 → Int32 → Int32 → Mem → Option (Int32 × Mem)} (hk14 : ∀ (x1 : Int32) (x2 : Int32) (x3 : Int32) (x4 : Int32) (x5 : Int32) (M : Mem), Sm ([] : List Nat) M0 M → FrB ([] : List Nat) M0 (k14 x1 x2 x3 x4 x5 M)) (x1 : Int32) (x2 : Int32) (x3 : Int32) (x4 : Int32) (x5 : Int32) (M : Mem) (hM : Sm ([] : List Nat) M0 M) : FrB ([] : List Nat) M0 (X12_leastTake_b14 i0 k6 k14 x1 x2 x3 x4 x5 M) := by
  unfold X12_leastTake_b14
  refine Fr_ite ?_ ?_
  ·
    exact hk6 _ _ _ _ _ hM
  ·
    refine Fr_ite ?_ ?_
    ·
      exact fr_X12_leastTake_b48 hk6 hk14 _ _ _ _ _ _ hM
    ·
      refine Fr_ite ?_ ?_
      ·
        exact fr_X12_leastTake_b44 hk6 hk14 _ _ _ _ _ _ hM
      ·
        refine Fr_ite ?_ ?_
        ·
          exact fr_X12_leastTake_b44 hk6 hk14 _ _ _ _ _ _ hM
        ·
          refine Fr_ite ?_ ?_
          ·
            exact fr_X12_leastTake_b44 hk6 hk14 _ _ _ _ _ _ hM
          ·
            exact fr_X12_leastTake_b48 hk6 hk14 _ _ _ _ _ _ hM
theorem fr_X12_leastTake_l14 {i0 : Nat} {M0 : Mem} {k6 : Int32 → Int32 → Int32 → Int32 → Mem → Option (Int32 × Mem)} (hk6 : ∀ (x1 : Int32) (x2 : Int32) (x3 : Int32) (x4 : Int32) (M : Mem), Sm ([] : List Nat) M0 M → FrB ([] : List Nat) M0 (k6 x1 x2 x3 x4 M)) (n : Nat) : ∀ (x1 : Int32) (x2 : Int32) (x3 : Int32) (x4 : Int32) (x5 : Int32) (M : Mem), Sm ([] : List Nat) M0 M → FrB ([] : List Nat) M0 (X12_leastTake_l14 i0 k6 n x1 x2 x3 x4 x5 M) := by
  induction n with
  | zero => intro x1 x2 x3 x4 x5 M _; exact Fr_none
  | succ n ih => intro x1 x2 x3 x4 x5 M hM; exact fr_X12_leastTake_b14 hk6 ih x1 x2 x3 x4 x5 M hM
set_option maxRecDepth 100000 in
theorem fr_X12_leastTake_b6 {i0 : Nat} {M0 : Mem} {k6 : Int32 → Int32 → Int32 → Int32 → Mem → Option (Int32 × Mem)} (hk6 : ∀ (x1 : Int32) (x2 : Int32) (x3 : Int32) (x4 : Int32) (M : Mem), Sm ([] : List Nat) M0 M → FrB ([] : List Nat) M0 (k6 x1 x2 x3 x4 M)) (x1 : Int32) (x2 : Int32) (x3 : Int32) (x4 : Int32) (M : Mem) (hM : Sm ([] : List Nat) M0 M) : FrB ([] : List Nat) M0 (X12_leastTake_b6 i0 k6 x1 x2 x3 x4 M) := by
  unfold X12_leastTake_b6
  refine Fr_ite ?_ ?_
  ·
    exact Fr_ret hM
  ·
    exact fr_X12_leastTake_l14 hk6 _ _ _ _ _ _ _ hM
theorem fr_X12_leastTake_l6 {i0 : Nat} {M0 : Mem} (n : Nat) : ∀ (x1 : Int32) (x2 : Int32) (x3 : Int32) (x4 : Int32) (M : Mem), Sm ([] : List Nat) M0 M → FrB ([] : List Nat) M0 (X12_leastTake_l6 i0  n x1 x2 x3 x4 M) := by
  induction n with
  | zero => intro x1 x2 x3 x4 M _; exact Fr_none
  | succ n ih => intro x1 x2 x3 x4 M hM; exact fr_X12_leastTake_b6 ih x1 x2 x3 x4 M hM
set_option maxRecDepth 100000 in
theorem fr_X12_leastTake {i0 : Nat} {M0 : Mem} (x1 : Int32) (x2 : Int32) (M : Mem) (hM : Sm ([] : List Nat) M0 M) : FrB ([] : List Nat) M0 (X12_leastTake i0  x1 x2 M) := by
  unfold X12_leastTake
  exact fr_X12_leastTake_l6  _ _ _ _ _ _ hM
set_option maxRecDepth 100000 in
theorem fr_X12_leastTakeWins_b86 {i0 : Nat} {M0 : Mem} {k5 : Int32 → Int32 → Int32 → Int32 → Mem → Option (Int32 × Mem)} (hk5 : ∀ (x1 : Int32) (x2 : Int32) (x3 : Int32) (x4 : Int32) (M : Mem), Sm ([] : List Nat) M0 M → FrB ([] : List Nat) M0 (k5 x1 x2 x3 x4 M)) {k14 : Int32 → Int32 → Int32 → Int32 → Int32 → Mem → Option (Int32 × Mem)} (hk14 : ∀ (x1 : Int32) (x2 : Int32) (x3 : Int32) (x4 : Int32) (x5 : Int32) (M : Mem), Sm ([] : List Nat) M0 M → FrB ([] : List Nat) M0 (k14 x1 x2 x3 x4 x5 M)) (x1 : Int32) (x2 : Int32) (x4 : Int32) (x5 : Int32) (s0 : Int32) (M : Mem) (hM : Sm ([] : List Nat) M0 M) : FrB ([] : List Nat) M0 (X12_leastTakeWins_b86 i0 k5 k14 x1 x2 x4 x5 s0 M) := by
  unfold X12_leastTakeWins_b86
  exact hk14 _ _ _ _ _ _ hM
set_option maxRecDepth 100000 in
theorem fr_X12_leastTakeWins_b81 {i0 : Nat} {M0 : Mem} {k5 : Int32 → Int32 → Int32 → Int32 → Mem → Option (Int32 × Mem)} (hk5 : ∀ (x1 : Int32) (x2 : Int32) (x3 : Int32) (x4 : Int32) (M : Mem), Sm ([] : List Nat) M0 M → FrB ([] : List Nat) M0 (k5 x1 x2 x3 x4 M)) {k14 : Int32 → Int32 → Int32 → Int32 → Int32 → Mem → Option (Int32 × Mem)} (hk14 : ∀ (x1 : Int32) (x2 : Int32) (x3 : Int32) (x4 : Int32) (x5 : Int32) (M : Mem), Sm ([] : List Nat) M0 M → FrB ([] : List Nat) M0 (k14 x1 x2 x3 x4 x5 M)) (x1 : Int32) (x2 : Int32) (x4 : Int32) (x5 : Int32) (M : Mem) (hM : Sm ([] : List Nat) M0 M) : FrB ([] : List Nat) M0 (X12_leastTakeWins_b81 i0 k5 k14 x1 x2 x4 x5 M) := by
  unfold X12_leastTakeWins_b81
  exact fr_X12_leastTakeWins_b86 hk5 hk14 _ _ _ _ _ _ hM
set_option maxRecDepth 100000 in
theorem fr_X12_leastTakeWins_b85 {i0 : Nat} {M0 : Mem} {k5 : Int32 → Int32 → Int32 → Int32 → Mem → Option (Int32 × Mem)} (hk5 : ∀ (x1 : Int32) (x2 : Int32) (x3 : Int32) (x4 : Int32) (M : Mem), Sm ([] : List Nat) M0 M → FrB ([] : List Nat) M0 (k5 x1 x2 x3 x4 M)) {k14 : Int32 → Int32 → Int32 → Int32 → Int32 → Mem → Option (Int32 × Mem)} (hk14 : ∀ (x1 : Int32) (x2 : Int32) (x3 : Int32) (x4 : Int32) (x5 : Int32) (M : Mem), Sm ([] : List Nat) M0 M → FrB ([] : List Nat) M0 (k14 x1 x2 x3 x4 x5 M)) (x1 : Int32) (x2 : Int32) (x4 : Int32) (x5 : Int32) (M : Mem) (hM : Sm ([] : List Nat) M0 M) : FrB ([] : List Nat) M0 (X12_leastTakeWins_b85 i0 k5 k14 x1 x2 x4 x5 M) := by
  unfold X12_leastTakeWins_b85
  exact fr_X12_leastTakeWins_b86 hk5 hk14 _ _ _ _ _ _ hM
set_option maxRecDepth 100000 in
theorem fr_X12_leastTakeWins_b50 {i0 : Nat} {M0 : Mem} {k5 : Int32 → Int32 → Int32 → Int32 → Mem → Option (Int32 × Mem)} (hk5 : ∀ (x1 : Int32) (x2 : Int32) (x3 : Int32) (x4 : Int32) (M : Mem), Sm ([] : List Nat) M0 M → FrB ([] : List Nat) M0 (k5 x1 x2 x3 x4 M)) {k14 : Int32 → Int32 → Int32 → Int32 → Int32 → Mem → Option (Int32 × Mem)} (hk14 : ∀ (x1 : Int32) (x2 : Int32) (x3 : Int32) (x4 : Int32) (x5 : Int32) (M : Mem), Sm ([] : List Nat) M0 M → FrB ([] : List Nat) M0 (k14 x1 x2 x3 x4 x5 M)) (x1 : Int32) (x2 : Int32) (x3 : Int32) (x4 : Int32) (x5 : Int32) (s0 : Int32) (M : Mem) (hM : Sm ([] : List Nat) M0 M) : FrB ([] : List Nat) M0 (X12_leastTakeWins_b50 i0 k5 k14 x1 x2 x3 x4 x5 s0 M) := by
  unfold X12_leastTakeWins_b50
  refine Fr_ite ?_ ?_
  ·
    refine Fr_ite ?_ ?_
    ·
      exact fr_X12_leastTakeWins_b85 hk5 hk14 _ _ _ _ _ hM
    ·
      refine Fr_gd ?_
      refine Fr_ite ?_ ?_
      ·
        exact fr_X12_leastTakeWins_b81 hk5 hk14 _ _ _ _ _ hM
      ·
        exact fr_X12_leastTakeWins_b85 hk5 hk14 _ _ _ _ _ hM
  ·
    exact fr_X12_leastTakeWins_b81 hk5 hk14 _ _ _ _ _ hM
set_option maxRecDepth 100000 in
theorem fr_X12_leastTakeWins_b45 {i0 : Nat} {M0 : Mem} {k5 : Int32 → Int32 → Int32 → Int32 → Mem → Option (Int32 × Mem)} (hk5 : ∀ (x1 : Int32) (x2 : Int32) (x3 : Int32) (x4 : Int32) (M : Mem), Sm ([] : List Nat) M0 M → FrB ([] : List Nat) M0 (k5 x1 x2 x3 x4 M)) {k14 : Int32 → Int32 → Int32 → Int32 → Int32 → Mem → Option (Int32 × Mem)} (hk14 : ∀ (x1 : Int32) (x2 : Int32) (x3 : Int32) (x4 : Int32) (x5 : Int32) (M : Mem), Sm ([] : List Nat) M0 M → FrB ([] : List Nat) M0 (k14 x1 x2 x3 x4 x5 M)) (x1 : Int32) (x2 : Int32) (x3 : Int32) (x4 : Int32) (x5 : Int32) (M : Mem) (hM : Sm ([] : List Nat) M0 M) : FrB ([] : List Nat) M0 (X12_leastTakeWins_b45 i0 k5 k14 x1 x2 x3 x4 x5 M) := by
  unfold X12_leastTakeWins_b45
  exact fr_X12_leastTakeWins_b50 hk5 hk14 _ _ _ _ _ _ _ hM
set_option maxRecDepth 100000 in
theorem fr_X12_leastTakeWins_b49 {i0 : Nat} {M0 : Mem} {k5 : Int32 → Int32 → Int32 → Int32 → Mem → Option (Int32 × Mem)} (hk5 : ∀ (x1 : Int32) (x2 : Int32) (x3 : Int32) (x4 : Int32) (M : Mem), Sm ([] : List Nat) M0 M → FrB ([] : List Nat) M0 (k5 x1 x2 x3 x4 M)) {k14 : Int32 → Int32 → Int32 → Int32 → Int32 → Mem → Option (Int32 × Mem)} (hk14 : ∀ (x1 : Int32) (x2 : Int32) (x3 : Int32) (x4 : Int32) (x5 : Int32) (M : Mem), Sm ([] : List Nat) M0 M → FrB ([] : List Nat) M0 (k14 x1 x2 x3 x4 x5 M)) (x1 : Int32) (x2 : Int32) (x3 : Int32) (x4 : Int32) (x5 : Int32) (M : Mem) (hM : Sm ([] : List Nat) M0 M) : FrB ([] : List Nat) M0 (X12_leastTakeWins_b49 i0 k5 k14 x1 x2 x3 x4 x5 M) := by
  unfold X12_leastTakeWins_b49
  exact fr_X12_leastTakeWins_b50 hk5 hk14 _ _ _ _ _ _ _ hM
set_option maxRecDepth 100000 in
theorem fr_X12_leastTakeWins_b14 {i0 : Nat} {M0 : Mem} {k5 : Int32 → Int32 → Int32 → Int32 → Mem → Option (Int32 × Mem)} (hk5 : ∀ (x1 : Int32) (x2 : Int32) (x3 : Int32) (x4 : Int32) (M : Mem), Sm ([] : List Nat) M0 M → FrB ([] : List Nat) M0 (k5 x1 x2 x3 x4 M)) {k14 : Int32 → Int32 → Int32 → Int32 → Int32 → Mem → Option (Int32 × Mem)} (hk14 : ∀ (x1 : Int32) (x2 : Int32) (x3 : Int32) (x4 : Int32) (x5 : Int32) (M : Mem), Sm ([] : List Nat) M0 M → FrB ([] : List Nat) M0 (k14 x1 x2 x3 x4 x5 M)) (x1 : Int32) (x2 : Int32) (x3 : Int32) (x4 : Int32) (x5 : Int32) (M : Mem) (hM : Sm ([] : List Nat) M0 M) : FrB ([] : List Nat) M0 (X12_leastTakeWins_b14 i0 k5 k14 x1 x2 x3 x4 x5 M) := by
  unfold X12_leastTakeWins_b14
  refine Fr_ite ?_ ?_
  ·
    exact hk5 _ _ _ _ _ hM
  ·
    refine Fr_ite ?_ ?_
    ·
      exact fr_X12_leastTakeWins_b49 hk5 hk14 _ _ _ _ _ _ hM
    ·
      refine Fr_ite ?_ ?_
      ·
        exact fr_X12_leastTakeWins_b45 hk5 hk14 _ _ _ _ _ _ hM
      ·
        refine Fr_ite ?_ ?_
        ·
          exact fr_X12_leastTakeWins_b45 hk5 hk14 _ _ _ _ _ _ hM
        ·
          refine Fr_ite ?_ ?_
          ·
            exact fr_X12_leastTakeWins_b45 hk5 hk14 _ _ _ _ _ _ hM
          ·
            exact fr_X12_leastTakeWins_b49 hk5 hk14 _ _ _ _ _ _ hM
theorem fr_X12_leastTakeWins_l14 {i0 : Nat} {M0 : Mem} {k5 : Int32 → Int32 → Int32 → Int32 → Mem → Option (Int32 × Mem)} (hk5 : ∀ (x1 : Int32) (x2 : Int32) (x3 : Int32) (x4 : Int32) (M : Mem), Sm ([] : List Nat) M0 M → FrB ([] : List Nat) M0 (k5 x1 x2 x3 x4 M)) (n : Nat) : ∀ (x1 : Int32) (x2 : Int32) (x3 : Int32) (x4 : Int32) (x5 : Int32) (M : Mem), Sm ([] : List Nat) M0 M → FrB ([] : List Nat) M0 (X12_leastTakeWins_l14 i0 k5 n x1 x2 x3 x4 x5 M) := by
  induction n with
  | zero => intro x1 x2 x3 x4 x5 M _; exact Fr_none
  | succ n ih => intro x1 x2 x3 x4 x5 M hM; exact fr_X12_leastTakeWins_b14 hk5 ih x1 x2 x3 x4 x5 M hM
set_option maxRecDepth 100000 in
theorem fr_X12_leastTakeWins_b5 {i0 : Nat} {M0 : Mem} {k5 : Int32 → Int32 → Int32 → Int32 → Mem → Option (Int32 × Mem)} (hk5 : ∀ (x1 : Int32) (x2 : Int32) (x3 : Int32) (x4 : Int32) (M : Mem), Sm ([] : List Nat) M0 M → FrB ([] : List Nat) M0 (k5 x1 x2 x3 x4 M)) (x1 : Int32) (x2 : Int32) (x3 : Int32) (x4 : Int32) (M : Mem) (hM : Sm ([] : List Nat) M0 M) : FrB ([] : List Nat) M0 (X12_leastTakeWins_b5 i0 k5 x1 x2 x3 x4 M) := by
  unfold X12_leastTakeWins_b5
  refine Fr_ite ?_ ?_
  ·
    exact Fr_gd (Fr_ret hM)
  ·
    exact fr_X12_leastTakeWins_l14 hk5 _ _ _ _ _ _ _ hM
theorem fr_X12_leastTakeWins_l5 {i0 : Nat} {M0 : Mem} (n : Nat) : ∀ (x1 : Int32) (x2 : Int32) (x3 : Int32) (x4 : Int32) (M : Mem), Sm ([] : List Nat) M0 M → FrB ([] : List Nat) M0 (X12_leastTakeWins_l5 i0  n x1 x2 x3 x4 M) := by
  induction n with
  | zero => intro x1 x2 x3 x4 M _; exact Fr_none
  | succ n ih => intro x1 x2 x3 x4 M hM; exact fr_X12_leastTakeWins_b5 ih x1 x2 x3 x4 M hM
set_option maxRecDepth 100000 in
theorem fr_X12_leastTakeWins {i0 : Nat} {M0 : Mem} (x1 : Int32) (x2 : Int32) (M : Mem) (hM : Sm ([] : List Nat) M0 M) : FrB ([] : List Nat) M0 (X12_leastTakeWins i0  x1 x2 M) := by
  unfold X12_leastTakeWins
  exact fr_X12_leastTakeWins_l5  _ _ _ _ _ _ hM
set_option maxRecDepth 100000 in
theorem fr_X12_piles_b34 {i0 : Nat} {M0 : Mem}  (M : Mem) (hM : Sm ([(rf i0 25)] : List Nat) M0 M) : FrB ([(rf i0 25)] : List Nat) M0 (X12_piles_b34 i0   M) := by
  unfold X12_piles_b34
  exact Fr_ret hM
set_option maxRecDepth 100000 in
theorem fr_X12_piles_b49 {i0 : Nat} {M0 : Mem} {k40 : Int32 → Int32 → Int32 → Int32 → Mem → Option (Int32 × Mem)} (hk40 : ∀ (x1 : Int32) (x2 : Int32) (x3 : Int32) (x4 : Int32) (M : Mem), Sm ([(rf i0 25)] : List Nat) M0 M → FrB ([(rf i0 25)] : List Nat) M0 (k40 x1 x2 x3 x4 M)) {k49 : Int32 → Int32 → Int32 → Int32 → Int32 → Mem → Option (Int32 × Mem)} (hk49 : ∀ (x1 : Int32) (x2 : Int32) (x3 : Int32) (x4 : Int32) (x5 : Int32) (M : Mem), Sm ([(rf i0 25)] : List Nat) M0 M → FrB ([(rf i0 25)] : List Nat) M0 (k49 x1 x2 x3 x4 x5 M)) (x1 : Int32) (x2 : Int32) (x3 : Int32) (x4 : Int32) (x5 : Int32) (M : Mem) (hM : Sm ([(rf i0 25)] : List Nat) M0 M) : FrB ([(rf i0 25)] : List Nat) M0 (X12_piles_b49 i0 k40 k49 x1 x2 x3 x4 x5 M) := by
  unfold X12_piles_b49
  refine Fr_ite ?_ ?_
  ·
    exact hk40 _ _ _ _ _ hM
  ·
    refine Fr_gd ?_
    refine Fr_bind (fr_X12_leastTakeWins _ _ _ Sm_refl) (by simp) (Sm_mI hM (by simp)) (fun p1 hN1 => ?_)
    refine Fr_gd ?_
    exact hk49 _ _ _ _ _ _ (Sm_mI hN1 (by simp))
theorem fr_X12_piles_l49 {i0 : Nat} {M0 : Mem} {k40 : Int32 → Int32 → Int32 → Int32 → Mem → Option (Int32 × Mem)} (hk40 : ∀ (x1 : Int32) (x2 : Int32) (x3 : Int32) (x4 : Int32) (M : Mem), Sm ([(rf i0 25)] : List Nat) M0 M → FrB ([(rf i0 25)] : List Nat) M0 (k40 x1 x2 x3 x4 M)) (n : Nat) : ∀ (x1 : Int32) (x2 : Int32) (x3 : Int32) (x4 : Int32) (x5 : Int32) (M : Mem), Sm ([(rf i0 25)] : List Nat) M0 M → FrB ([(rf i0 25)] : List Nat) M0 (X12_piles_l49 i0 k40 n x1 x2 x3 x4 x5 M) := by
  induction n with
  | zero => intro x1 x2 x3 x4 x5 M _; exact Fr_none
  | succ n ih => intro x1 x2 x3 x4 x5 M hM; exact fr_X12_piles_b49 hk40 ih x1 x2 x3 x4 x5 M hM
set_option maxRecDepth 100000 in
theorem fr_X12_piles_b135 {i0 : Nat} {M0 : Mem} (s0 : Int32) (M : Mem) (hM : Sm ([(rf i0 25)] : List Nat) M0 M) : FrB ([(rf i0 25)] : List Nat) M0 (X12_piles_b135 i0  s0 M) := by
  unfold X12_piles_b135
  exact Fr_ret hM
set_option maxRecDepth 100000 in
theorem fr_X12_piles_b40 {i0 : Nat} {M0 : Mem} {k40 : Int32 → Int32 → Int32 → Int32 → Mem → Option (Int32 × Mem)} (hk40 : ∀ (x1 : Int32) (x2 : Int32) (x3 : Int32) (x4 : Int32) (M : Mem), Sm ([(rf i0 25)] : List Nat) M0 M → FrB ([(rf i0 25)] : List Nat) M0 (k40 x1 x2 x3 x4 M)) (x1 : Int32) (x2 : Int32) (x3 : Int32) (x4 : Int32) (M : Mem) (hM : Sm ([(rf i0 25)] : List Nat) M0 M) : FrB ([(rf i0 25)] : List Nat) M0 (X12_piles_b40 i0 k40 x1 x2 x3 x4 M) := by
  unfold X12_piles_b40
  refine Fr_ite ?_ ?_
  ·
    refine Fr_ite ?_ ?_
    ·
      refine Fr_bind (fr_X12_leastTake _ _ _ Sm_refl) (by simp) hM (fun p1 hN1 => ?_)
      exact fr_X12_piles_b135  _ _ hN1
    ·
      refine Fr_gd ?_
      refine Fr_ite ?_ ?_
      ·
        exact fr_X12_piles_b135  _ _ hM
      ·
        exact fr_X12_piles_b135  _ _ hM
  ·
    exact fr_X12_piles_l49 hk40 _ _ _ _ _ _ _ hM
theorem fr_X12_piles_l40 {i0 : Nat} {M0 : Mem} (n : Nat) : ∀ (x1 : Int32) (x2 : Int32) (x3 : Int32) (x4 : Int32) (M : Mem), Sm ([(rf i0 25)] : List Nat) M0 M → FrB ([(rf i0 25)] : List Nat) M0 (X12_piles_l40 i0  n x1 x2 x3 x4 M) := by
  induction n with
  | zero => intro x1 x2 x3 x4 M _; exact Fr_none
  | succ n ih => intro x1 x2 x3 x4 M hM; exact fr_X12_piles_b40 ih x1 x2 x3 x4 M hM
set_option maxRecDepth 100000 in
theorem fr_X12_piles {i0 : Nat} {M0 : Mem} (x1 : Int32) (x2 : Int32) (x3 : Int32) (M : Mem) (hM : Sm ([(rf i0 25)] : List Nat) M0 M) : FrB ([(rf i0 25)] : List Nat) M0 (X12_piles i0  x1 x2 x3 M) := by
  unfold X12_piles
  refine Fr_bind (fr_X12_in _ _ _ _ Sm_refl) (by simp) hM (fun p1 hN1 => ?_)
  refine Fr_ite ?_ ?_
  ·
    exact fr_X12_piles_b34   _ hN1
  ·
    refine Fr_bind (fr_X12_in _ _ _ _ Sm_refl) (by simp) hN1 (fun p2 hN2 => ?_)
    refine Fr_ite ?_ ?_
    ·
      exact fr_X12_piles_b34   _ hN2
    ·
      refine Fr_bind (fr_X12_in _ _ _ _ Sm_refl) (by simp) hN2 (fun p3 hN3 => ?_)
      refine Fr_ite ?_ ?_
      ·
        exact fr_X12_piles_b34   _ hN3
      ·
        exact fr_X12_piles_l40  _ _ _ _ _ _ hN3
set_option maxRecDepth 100000 in
theorem fr_X12_lowest_b47  {M0 : Mem} (s0 : Int64) (M : Mem) (hM : Sm ([] : List Nat) M0 M) : FrB ([] : List Nat) M0 (X12_lowest_b47   s0 M) := by
  unfold X12_lowest_b47
  exact Fr_ret hM
set_option maxRecDepth 100000 in
theorem fr_X12_lowest_b6  {M0 : Mem} {k6 : Int64 → Int64 → Int32 → Int64 → Int64 → Mem → Option (Int64 × Mem)} (hk6 : ∀ (x0 : Int64) (x2 : Int64) (x4 : Int32) (x5 : Int64) (x7 : Int64) (M : Mem), Sm ([] : List Nat) M0 M → FrB ([] : List Nat) M0 (k6 x0 x2 x4 x5 x7 M)) (x0 : Int64) (x2 : Int64) (x4 : Int32) (x5 : Int64) (x7 : Int64) (M : Mem) (hM : Sm ([] : List Nat) M0 M) : FrB ([] : List Nat) M0 (X12_lowest_b6  k6 x0 x2 x4 x5 x7 M) := by
  unfold X12_lowest_b6
  refine Fr_ite ?_ ?_
  ·
    refine Fr_ite ?_ ?_
    ·
      refine Fr_gd ?_
      exact fr_X12_lowest_b47  _ _ hM
    ·
      refine Fr_gd ?_
      exact fr_X12_lowest_b47  _ _ hM
  ·
    refine Fr_gd ?_
    exact hk6 _ _ _ _ _ _ hM
theorem fr_X12_lowest_l6  {M0 : Mem} (n : Nat) : ∀ (x0 : Int64) (x2 : Int64) (x4 : Int32) (x5 : Int64) (x7 : Int64) (M : Mem), Sm ([] : List Nat) M0 M → FrB ([] : List Nat) M0 (X12_lowest_l6   n x0 x2 x4 x5 x7 M) := by
  induction n with
  | zero => intro x0 x2 x4 x5 x7 M _; exact Fr_none
  | succ n ih => intro x0 x2 x4 x5 x7 M hM; exact fr_X12_lowest_b6 ih x0 x2 x4 x5 x7 M hM
set_option maxRecDepth 100000 in
theorem fr_X12_lowest  {M0 : Mem} (x0 : Int64) (x2 : Int64) (x4 : Int32) (M : Mem) (hM : Sm ([] : List Nat) M0 M) : FrB ([] : List Nat) M0 (X12_lowest   x0 x2 x4 M) := by
  unfold X12_lowest
  exact fr_X12_lowest_l6  _ _ _ _ _ _ _ hM
set_option maxRecDepth 100000 in
theorem fr_X12_lengths_b58 {i0 : Nat} {M0 : Mem}  (M : Mem) (hM : Sm ([(rf i0 26)] : List Nat) M0 M) : FrB ([(rf i0 26)] : List Nat) M0 (X12_lengths_b58 i0   M) := by
  unfold X12_lengths_b58
  exact Fr_ret hM
set_option maxRecDepth 100000 in
theorem fr_X12_lengths_b88 {i0 : Nat} {M0 : Mem} {k65 : Int32 → Int32 → Int32 → Int32 → Int32 → Int32 → Mem → Option (Int64 × Mem)} (hk65 : ∀ (x1 : Int32) (x2 : Int32) (x3 : Int32) (x4 : Int32) (x5 : Int32) (x6 : Int32) (M : Mem), Sm ([(rf i0 26)] : List Nat) M0 M → FrB ([(rf i0 26)] : List Nat) M0 (k65 x1 x2 x3 x4 x5 x6 M)) (x1 : Int32) (x2 : Int32) (x3 : Int32) (x4 : Int32) (x5 : Int32) (x6 : Int32) (s0 : Int64) (s1 : Int32) (M : Mem) (hM : Sm ([(rf i0 26)] : List Nat) M0 M) : FrB ([(rf i0 26)] : List Nat) M0 (X12_lengths_b88 i0 k65 x1 x2 x3 x4 x5 x6 s0 s1 M) := by
  unfold X12_lengths_b88
  refine Fr_gd ?_
  exact hk65 _ _ _ _ _ _ _ (Sm_mL hM (by simp))
set_option maxRecDepth 100000 in
theorem fr_X12_lengths_b165 {i0 : Nat} {M0 : Mem} {k101 : Int32 → Int32 → Int32 → Int32 → Int32 → Int64 → Int32 → Mem → Option (Int64 × Mem)} (hk101 : ∀ (x1 : Int32) (x2 : Int32) (x3 : Int32) (x4 : Int32) (x5 : Int32) (x6 : Int64) (x8 : Int32) (M : Mem), Sm ([(rf i0 26)] : List Nat) M0 M → FrB ([(rf i0 26)] : List Nat) M0 (k101 x1 x2 x3 x4 x5 x6 x8 M)) {k119 : Int32 → Int32 → Int32 → Int32 → Int32 → Int64 → Int32 → Int32 → Mem → Option (Int64 × Mem)} (hk119 : ∀ (x1 : Int32) (x2 : Int32) (x3 : Int32) (x4 : Int32) (x5 : Int32) (x6 : Int64) (x8 : Int32) (x9 : Int32) (M : Mem), Sm ([(rf i0 26)] : List Nat) M0 M → FrB ([(rf i0 26)] : List Nat) M0 (k119 x1 x2 x3 x4 x5 x6 x8 x9 M)) (x1 : Int32) (x2 : Int32) (x3 : Int32) (x4 : Int32) (x5 : Int32) (x6 : Int64) (x8 : Int32) (x9 : Int32) (s0 : Int64) (s1 : Int64) (s2 : Int32) (M : Mem) (hM : Sm ([(rf i0 26)] : List Nat) M0 M) : FrB ([(rf i0 26)] : List Nat) M0 (X12_lengths_b165 i0 k101 k119 x1 x2 x3 x4 x5 x6 x8 x9 s0 s1 s2 M) := by
  unfold X12_lengths_b165
  refine Fr_gd ?_
  exact hk119 _ _ _ _ _ _ _ _ _ (Sm_mL hM (by simp))
set_option maxRecDepth 100000 in
theorem fr_X12_lengths_b119 {i0 : Nat} {M0 : Mem} {k101 : Int32 → Int32 → Int32 → Int32 → Int32 → Int64 → Int32 → Mem → Option (Int64 × Mem)} (hk101 : ∀ (x1 : Int32) (x2 : Int32) (x3 : Int32) (x4 : Int32) (x5 : Int32) (x6 : Int64) (x8 : Int32) (M : Mem), Sm ([(rf i0 26)] : List Nat) M0 M → FrB ([(rf i0 26)] : List Nat) M0 (k101 x1 x2 x3 x4 x5 x6 x8 M)) {k119 : Int32 → Int32 → Int32 → Int32 → Int32 → Int64 → Int32 → Int32 → Mem → Option (Int64 × Mem)} (hk119 : ∀ (x1 : Int32) (x2 : Int32) (x3 : Int32) (x4 : Int32) (x5 : Int32) (x6 : Int64) (x8 : Int32) (x9 : Int32) (M : Mem), Sm ([(rf i0 26)] : List Nat) M0 M → FrB ([(rf i0 26)] : List Nat) M0 (k119 x1 x2 x3 x4 x5 x6 x8 x9 M)) (x1 : Int32) (x2 : Int32) (x3 : Int32) (x4 : Int32) (x5 : Int32) (x6 : Int64) (x8 : Int32) (x9 : Int32) (M : Mem) (hM : Sm ([(rf i0 26)] : List Nat) M0 M) : FrB ([(rf i0 26)] : List Nat) M0 (X12_lengths_b119 i0 k101 k119 x1 x2 x3 x4 x5 x6 x8 x9 M) := by
  unfold X12_lengths_b119
  refine Fr_ite ?_ ?_
  ·
    exact hk101 _ _ _ _ _ _ _ _ hM
  ·
    refine Fr_gd ?_
    refine Fr_ite ?_ ?_
    ·
      exact fr_X12_lengths_b165 hk101 hk119 _ _ _ _ _ _ _ _ _ _ _ _ hM
    ·
      refine Fr_gd ?_
      exact fr_X12_lengths_b165 hk101 hk119 _ _ _ _ _ _ _ _ _ _ _ _ hM
theorem fr_X12_lengths_l119 {i0 : Nat} {M0 : Mem} {k101 : Int32 → Int32 → Int32 → Int32 → Int32 → Int64 → Int32 → Mem → Option (Int64 × Mem)} (hk101 : ∀ (x1 : Int32) (x2 : Int32) (x3 : Int32) (x4 : Int32) (x5 : Int32) (x6 : Int64) (x8 : Int32) (M : Mem), Sm ([(rf i0 26)] : List Nat) M0 M → FrB ([(rf i0 26)] : List Nat) M0 (k101 x1 x2 x3 x4 x5 x6 x8 M)) (n : Nat) : ∀ (x1 : Int32) (x2 : Int32) (x3 : Int32) (x4 : Int32) (x5 : Int32) (x6 : Int64) (x8 : Int32) (x9 : Int32) (M : Mem), Sm ([(rf i0 26)] : List Nat) M0 M → FrB ([(rf i0 26)] : List Nat) M0 (X12_lengths_l119 i0 k101 n x1 x2 x3 x4 x5 x6 x8 x9 M) := by
  induction n with
  | zero => intro x1 x2 x3 x4 x5 x6 x8 x9 M _; exact Fr_none
  | succ n ih => intro x1 x2 x3 x4 x5 x6 x8 x9 M hM; exact fr_X12_lengths_b119 hk101 ih x1 x2 x3 x4 x5 x6 x8 x9 M hM
set_option maxRecDepth 100000 in
theorem fr_X12_lengths_b213 {i0 : Nat} {M0 : Mem} {k188 : Int32 → Int32 → Int32 → Int32 → Int64 → Int64 → Int64 → Int32 → Mem → Option (Int64 × Mem)} (hk188 : ∀ (x1 : Int32) (x2 : Int32) (x4 : Int32) (x5 : Int32) (x6 : Int64) (x8 : Int64) (x10 : Int64) (x12 : Int32) (M : Mem), Sm ([(rf i0 26)] : List Nat) M0 M → FrB ([(rf i0 26)] : List Nat) M0 (k188 x1 x2 x4 x5 x6 x8 x10 x12 M)) (x1 : Int32) (x2 : Int32) (x4 : Int32) (x5 : Int32) (x6 : Int64) (x10 : Int64) (x12 : Int32) (s0 : Int64) (s1 : Int64) (M : Mem) (hM : Sm ([(rf i0 26)] : List Nat) M0 M) : FrB ([(rf i0 26)] : List Nat) M0 (X12_lengths_b213 i0 k188 x1 x2 x4 x5 x6 x10 x12 s0 s1 M) := by
  unfold X12_lengths_b213
  refine Fr_bind (fr_X12_less _ _ _ Sm_refl) (by simp) hM (fun p1 hN1 => ?_)
  refine Fr_gd ?_
  refine Fr_lw (fun v2 => ?_)
  exact hk188 _ _ _ _ _ _ _ _ _ hN1
set_option maxRecDepth 100000 in
theorem fr_X12_lengths_b254 {i0 : Nat} {M0 : Mem} (x5 : Int32) (x6 : Int64) (s0 : Int64) (M : Mem) (hM : Sm ([(rf i0 26)] : List Nat) M0 M) : FrB ([(rf i0 26)] : List Nat) M0 (X12_lengths_b254 i0  x5 x6 s0 M) := by
  unfold X12_lengths_b254
  refine Fr_bind (fr_X12_lowest _ _ _ _ Sm_refl) (by simp) hM (fun p1 hN1 => ?_)
  exact Fr_ret hN1
set_option maxRecDepth 100000 in
theorem fr_X12_lengths_b188 {i0 : Nat} {M0 : Mem} {k188 : Int32 → Int32 → Int32 → Int32 → Int64 → Int64 → Int64 → Int32 → Mem → Option (Int64 × Mem)} (hk188 : ∀ (x1 : Int32) (x2 : Int32) (x4 : Int32) (x5 : Int32) (x6 : Int64) (x8 : Int64) (x10 : Int64) (x12 : Int32) (M : Mem), Sm ([(rf i0 26)] : List Nat) M0 M → FrB ([(rf i0 26)] : List Nat) M0 (k188 x1 x2 x4 x5 x6 x8 x10 x12 M)) (x1 : Int32) (x2 : Int32) (x4 : Int32) (x5 : Int32) (x6 : Int64) (x8 : Int64) (x10 : Int64) (x12 : Int32) (M : Mem) (hM : Sm ([(rf i0 26)] : List Nat) M0 M) : FrB ([(rf i0 26)] : List Nat) M0 (X12_lengths_b188 i0 k188 x1 x2 x4 x5 x6 x8 x10 x12 M) := by
  unfold X12_lengths_b188
  refine Fr_ite ?_ ?_
  ·
    refine Fr_ite ?_ ?_
    ·
      exact fr_X12_lengths_b254  _ _ _ _ hM
    ·
      exact fr_X12_lengths_b254  _ _ _ _ hM
  ·
    refine Fr_ite ?_ ?_
    ·
      exact fr_X12_lengths_b213 hk188 _ _ _ _ _ _ _ _ _ _ hM
    ·
      refine Fr_gd ?_
      exact fr_X12_lengths_b213 hk188 _ _ _ _ _ _ _ _ _ _ hM
theorem fr_X12_lengths_l188 {i0 : Nat} {M0 : Mem} (n : Nat) : ∀ (x1 : Int32) (x2 : Int32) (x4 : Int32) (x5 : Int32) (x6 : Int64) (x8 : Int64) (x10 : Int64) (x12 : Int32) (M : Mem), Sm ([(rf i0 26)] : List Nat) M0 M → FrB ([(rf i0 26)] : List Nat) M0 (X12_lengths_l188 i0  n x1 x2 x4 x5 x6 x8 x10 x12 M) := by
  induction n with
  | zero => intro x1 x2 x4 x5 x6 x8 x10 x12 M _; exact Fr_none
  | succ n ih => intro x1 x2 x4 x5 x6 x8 x10 x12 M hM; exact fr_X12_lengths_b188 ih x1 x2 x4 x5 x6 x8 x10 x12 M hM
set_option maxRecDepth 100000 in
theorem fr_X12_lengths_b101 {i0 : Nat} {M0 : Mem} {k101 : Int32 → Int32 → Int32 → Int32 → Int32 → Int64 → Int32 → Mem → Option (Int64 × Mem)} (hk101 : ∀ (x1 : Int32) (x2 : Int32) (x3 : Int32) (x4 : Int32) (x5 : Int32) (x6 : Int64) (x8 : Int32) (M : Mem), Sm ([(rf i0 26)] : List Nat) M0 M → FrB ([(rf i0 26)] : List Nat) M0 (k101 x1 x2 x3 x4 x5 x6 x8 M)) (x1 : Int32) (x2 : Int32) (x3 : Int32) (x4 : Int32) (x5 : Int32) (x6 : Int64) (x8 : Int32) (M : Mem) (hM : Sm ([(rf i0 26)] : List Nat) M0 M) : FrB ([(rf i0 26)] : List Nat) M0 (X12_lengths_b101 i0 k101 x1 x2 x3 x4 x5 x6 x8 M) := by
  unfold X12_lengths_b101
  refine Fr_ite ?_ ?_
  ·
    exact fr_X12_lengths_l188  _ _ _ _ _ _ _ _ _ _ hM
  ·
    exact fr_X12_lengths_l119 hk101 _ _ _ _ _ _ _ _ _ _ hM
theorem fr_X12_lengths_l101 {i0 : Nat} {M0 : Mem} (n : Nat) : ∀ (x1 : Int32) (x2 : Int32) (x3 : Int32) (x4 : Int32) (x5 : Int32) (x6 : Int64) (x8 : Int32) (M : Mem), Sm ([(rf i0 26)] : List Nat) M0 M → FrB ([(rf i0 26)] : List Nat) M0 (X12_lengths_l101 i0  n x1 x2 x3 x4 x5 x6 x8 M) := by
  induction n with
  | zero => intro x1 x2 x3 x4 x5 x6 x8 M _; exact Fr_none
  | succ n ih => intro x1 x2 x3 x4 x5 x6 x8 M hM; exact fr_X12_lengths_b101 ih x1 x2 x3 x4 x5 x6 x8 M hM
set_option maxRecDepth 100000 in
theorem fr_X12_lengths_b65 {i0 : Nat} {M0 : Mem} {k65 : Int32 → Int32 → Int32 → Int32 → Int32 → Int32 → Mem → Option (Int64 × Mem)} (hk65 : ∀ (x1 : Int32) (x2 : Int32) (x3 : Int32) (x4 : Int32) (x5 : Int32) (x6 : Int32) (M : Mem), Sm ([(rf i0 26)] : List Nat) M0 M → FrB ([(rf i0 26)] : List Nat) M0 (k65 x1 x2 x3 x4 x5 x6 M)) (x1 : Int32) (x2 : Int32) (x3 : Int32) (x4 : Int32) (x5 : Int32) (x6 : Int32) (M : Mem) (hM : Sm ([(rf i0 26)] : List Nat) M0 M) : FrB ([(rf i0 26)] : List Nat) M0 (X12_lengths_b65 i0 k65 x1 x2 x3 x4 x5 x6 M) := by
  unfold X12_lengths_b65
  refine Fr_ite ?_ ?_
  ·
    exact fr_X12_lengths_l101  _ _ _ _ _ _ _ _ _ hM
  ·
    refine Fr_ite ?_ ?_
    ·
      exact fr_X12_lengths_b88 hk65 _ _ _ _ _ _ _ _ _ hM
    ·
      exact fr_X12_lengths_b88 hk65 _ _ _ _ _ _ _ _ _ hM
theorem fr_X12_lengths_l65 {i0 : Nat} {M0 : Mem} (n : Nat) : ∀ (x1 : Int32) (x2 : Int32) (x3 : Int32) (x4 : Int32) (x5 : Int32) (x6 : Int32) (M : Mem), Sm ([(rf i0 26)] : List Nat) M0 M → FrB ([(rf i0 26)] : List Nat) M0 (X12_lengths_l65 i0  n x1 x2 x3 x4 x5 x6 M) := by
  induction n with
  | zero => intro x1 x2 x3 x4 x5 x6 M _; exact Fr_none
  | succ n ih => intro x1 x2 x3 x4 x5 x6 M hM; exact fr_X12_lengths_b65 ih x1 x2 x3 x4 x5 x6 M hM
set_option maxRecDepth 100000 in
theorem fr_X12_lengths {i0 : Nat} {M0 : Mem} (x1 : Int32) (x2 : Int32) (x3 : Int32) (x4 : Int32) (x5 : Int32) (M : Mem) (hM : Sm ([(rf i0 26)] : List Nat) M0 M) : FrB ([(rf i0 26)] : List Nat) M0 (X12_lengths i0  x1 x2 x3 x4 x5 M) := by
  unfold X12_lengths
  refine Fr_bind (fr_X12_in _ _ _ _ Sm_refl) (by simp) hM (fun p1 hN1 => ?_)
  refine Fr_ite ?_ ?_
  ·
    exact fr_X12_lengths_b58   _ hN1
  ·
    refine Fr_bind (fr_X12_in _ _ _ _ Sm_refl) (by simp) hN1 (fun p2 hN2 => ?_)
    refine Fr_ite ?_ ?_
    ·
      exact fr_X12_lengths_b58   _ hN2
    ·
      refine Fr_bind (fr_X12_in _ _ _ _ Sm_refl) (by simp) hN2 (fun p3 hN3 => ?_)
      refine Fr_ite ?_ ?_
      ·
        exact fr_X12_lengths_b58   _ hN3
      ·
        refine Fr_bind (fr_X12_in _ _ _ _ Sm_refl) (by simp) hN3 (fun p4 hN4 => ?_)
        refine Fr_ite ?_ ?_
        ·
          exact fr_X12_lengths_b58   _ hN4
        ·
          refine Fr_bind (fr_X12_in _ _ _ _ Sm_refl) (by simp) hN4 (fun p5 hN5 => ?_)
          refine Fr_ite ?_ ?_
          ·
            exact fr_X12_lengths_b58   _ hN5
          ·
            exact fr_X12_lengths_l65  _ _ _ _ _ _ _ _ hN5
set_option maxRecDepth 100000 in
theorem fr_X12_actBy_b44  {M0 : Mem}  (M : Mem) (hM : Sm ([] : List Nat) M0 M) : FrB ([] : List Nat) M0 (X12_actBy_b44    M) := by
  unfold X12_actBy_b44
  exact Fr_ret hM
set_option maxRecDepth 100000 in
theorem fr_X12_actBy_b46  {M0 : Mem}  (M : Mem) (hM : Sm ([] : List Nat) M0 M) : FrB ([] : List Nat) M0 (X12_actBy_b46    M) := by
  unfold X12_actBy_b46
  exact Fr_ret hM
set_option maxRecDepth 100000 in
theorem fr_X12_actBy  {M0 : Mem} (x0 : Int32) (M : Mem) (hM : Sm ([] : List Nat) M0 M) : FrB ([] : List Nat) M0 (X12_actBy   x0 M) := by
  unfold X12_actBy
  refine Fr_ite ?_ ?_
  ·
    exact fr_X12_actBy_b44   _ hM
  refine Fr_ite ?_ ?_
  ·
    exact fr_X12_actBy_b44   _ hM
  refine Fr_ite ?_ ?_
  ·
    exact fr_X12_actBy_b46   _ hM
  refine Fr_ite ?_ ?_
  ·
    exact fr_X12_actBy_b46   _ hM
  refine Fr_ite ?_ ?_
  ·
    exact Fr_ret hM
  refine Fr_ite ?_ ?_
  ·
    exact Fr_ret hM
  refine Fr_ite ?_ ?_
  ·
    exact Fr_ret hM
  exact Fr_ret hM
set_option maxRecDepth 100000 in
theorem fr_X12_year_b36 {i0 : Nat} {M0 : Mem}  (M : Mem) (hM : Sm ([(rf i0 0), (rf i0 1), (rf i0 17), i0] : List Nat) M0 M) : FrB ([(rf i0 0), (rf i0 1), (rf i0 17), i0] : List Nat) M0 (X12_year_b36 i0   M) := by
  unfold X12_year_b36
  exact Fr_ret hM
set_option maxRecDepth 100000 in
theorem fr_X12_year_b129 {i0 : Nat} {M0 : Mem} {k49 : Int32 → Int32 → Int32 → Int32 → Mem → Option (Int32 × Mem)} (hk49 : ∀ (x2 : Int32) (x3 : Int32) (x4 : Int32) (x5 : Int32) (M : Mem), Sm ([(rf i0 0), (rf i0 1), (rf i0 17), i0] : List Nat) M0 M → FrB ([(rf i0 0), (rf i0 1), (rf i0 17), i0] : List Nat) M0 (k49 x2 x3 x4 x5 M)) (x2 : Int32) (x3 : Int32) (x4 : Int32) (x5 : Int32) (M : Mem) (hM : Sm ([(rf i0 0), (rf i0 1), (rf i0 17), i0] : List Nat) M0 M) : FrB ([(rf i0 0), (rf i0 1), (rf i0 17), i0] : List Nat) M0 (X12_year_b129 i0 k49 x2 x3 x4 x5 M) := by
  unfold X12_year_b129
  exact hk49 _ _ _ _ _ hM
set_option maxRecDepth 100000 in
theorem fr_X12_year_b107 {i0 : Nat} {M0 : Mem} {k49 : Int32 → Int32 → Int32 → Int32 → Mem → Option (Int32 × Mem)} (hk49 : ∀ (x2 : Int32) (x3 : Int32) (x4 : Int32) (x5 : Int32) (M : Mem), Sm ([(rf i0 0), (rf i0 1), (rf i0 17), i0] : List Nat) M0 M → FrB ([(rf i0 0), (rf i0 1), (rf i0 17), i0] : List Nat) M0 (k49 x2 x3 x4 x5 M)) (x2 : Int32) (x3 : Int32) (x4 : Int32) (x5 : Int32) (x6 : Int32) (s0 : Int32) (s1 : Int32) (M : Mem) (hM : Sm ([(rf i0 0), (rf i0 1), (rf i0 17), i0] : List Nat) M0 M) : FrB ([(rf i0 0), (rf i0 1), (rf i0 17), i0] : List Nat) M0 (X12_year_b107 i0 k49 x2 x3 x4 x5 x6 s0 s1 M) := by
  unfold X12_year_b107
  refine Fr_gd ?_
  refine Fr_bind (fr_X12_whyNot _ _ _ Sm_refl) (by simp) hM (fun p1 hN1 => ?_)
  refine Fr_ite ?_ ?_
  ·
    refine Fr_bind (fr_X12_happen _ _ _ Sm_refl) (by simp) hN1 (fun p2 hN2 => ?_)
    exact fr_X12_year_b129 hk49 _ _ _ _ _ hN2
  ·
    exact fr_X12_year_b129 hk49 _ _ _ _ _ hN1
set_option maxRecDepth 100000 in
theorem fr_X12_year_b100 {i0 : Nat} {M0 : Mem} {k49 : Int32 → Int32 → Int32 → Int32 → Mem → Option (Int32 × Mem)} (hk49 : ∀ (x2 : Int32) (x3 : Int32) (x4 : Int32) (x5 : Int32) (M : Mem), Sm ([(rf i0 0), (rf i0 1), (rf i0 17), i0] : List Nat) M0 M → FrB ([(rf i0 0), (rf i0 1), (rf i0 17), i0] : List Nat) M0 (k49 x2 x3 x4 x5 M)) (x2 : Int32) (x3 : Int32) (x4 : Int32) (x5 : Int32) (x6 : Int32) (s0 : Int32) (M : Mem) (hM : Sm ([(rf i0 0), (rf i0 1), (rf i0 17), i0] : List Nat) M0 M) : FrB ([(rf i0 0), (rf i0 1), (rf i0 17), i0] : List Nat) M0 (X12_year_b100 i0 k49 x2 x3 x4 x5 x6 s0 M) := by
  unfold X12_year_b100
  exact fr_X12_year_b107 hk49 _ _ _ _ _ _ _ _ hM
set_option maxRecDepth 100000 in
theorem fr_X12_year_b165 {i0 : Nat} {M0 : Mem} (s0 : Int32) (M : Mem) (hM : Sm ([(rf i0 0), (rf i0 1), (rf i0 17), i0] : List Nat) M0 M) : FrB ([(rf i0 0), (rf i0 1), (rf i0 17), i0] : List Nat) M0 (X12_year_b165 i0  s0 M) := by
  unfold X12_year_b165
  refine Fr_bind (fr_X12_back _ _ Sm_refl) (by simp) hM (fun p1 hN1 => ?_)
  exact Fr_ret hN1
set_option maxRecDepth 100000 in
theorem fr_X12_year_b49 {i0 : Nat} {M0 : Mem} {k49 : Int32 → Int32 → Int32 → Int32 → Mem → Option (Int32 × Mem)} (hk49 : ∀ (x2 : Int32) (x3 : Int32) (x4 : Int32) (x5 : Int32) (M : Mem), Sm ([(rf i0 0), (rf i0 1), (rf i0 17), i0] : List Nat) M0 M → FrB ([(rf i0 0), (rf i0 1), (rf i0 17), i0] : List Nat) M0 (k49 x2 x3 x4 x5 M)) (x2 : Int32) (x3 : Int32) (x4 : Int32) (x5 : Int32) (M : Mem) (hM : Sm ([(rf i0 0), (rf i0 1), (rf i0 17), i0] : List Nat) M0 M) : FrB ([(rf i0 0), (rf i0 1), (rf i0 17), i0] : List Nat) M0 (X12_year_b49 i0 k49 x2 x3 x4 x5 M) := by
  unfold X12_year_b49
  refine Fr_ite ?_ ?_
  ·
    refine Fr_ite ?_ ?_
    ·
      exact fr_X12_year_b165  _ _ hM
    ·
      refine Fr_ite ?_ ?_
      ·
        refine Fr_bind (fr_X12_ones _ _ Sm_refl) (by simp) hM (fun p1 hN1 => ?_)
        exact fr_X12_year_b165  _ _ hN1
      ·
        refine Fr_bind (fr_X12_wrongMany  _ Sm_refl) (by simp) hM (fun p2 hN2 => ?_)
        exact fr_X12_year_b165  _ _ hN2
  ·
    refine Fr_gd ?_
    refine Fr_iw (fun v3 => ?_)
    refine Fr_gd ?_
    refine Fr_bind (fr_X12_actBy _ _ Sm_refl) (by simp) hM (fun p4 hN4 => ?_)
    refine Fr_gd ?_
    refine Fr_ite ?_ ?_
    ·
      exact fr_X12_year_b100 hk49 _ _ _ _ _ _ _ hN4
    ·
      refine Fr_ite ?_ ?_
      ·
        exact fr_X12_year_b100 hk49 _ _ _ _ _ _ _ hN4
      ·
        exact fr_X12_year_b107 hk49 _ _ _ _ _ _ _ _ hN4
theorem fr_X12_year_l49 {i0 : Nat} {M0 : Mem} (n : Nat) : ∀ (x2 : Int32) (x3 : Int32) (x4 : Int32) (x5 : Int32) (M : Mem), Sm ([(rf i0 0), (rf i0 1), (rf i0 17), i0] : List Nat) M0 M → FrB ([(rf i0 0), (rf i0 1), (rf i0 17), i0] : List Nat) M0 (X12_year_l49 i0  n x2 x3 x4 x5 M) := by
  induction n with
  | zero => intro x2 x3 x4 x5 M _; exact Fr_none
  | succ n ih => intro x2 x3 x4 x5 M hM; exact fr_X12_year_b49 ih x2 x3 x4 x5 M hM
set_option maxRecDepth 100000 in
theorem fr_X12_year {i0 : Nat} {M0 : Mem} (x1 : Int32) (x2 : Int32) (x3 : Int32) (M : Mem) (hM : Sm ([(rf i0 0), (rf i0 1), (rf i0 17), i0] : List Nat) M0 M) : FrB ([(rf i0 0), (rf i0 1), (rf i0 17), i0] : List Nat) M0 (X12_year i0  x1 x2 x3 M) := by
  unfold X12_year
  refine Fr_bind (fr_X12_in _ _ _ _ Sm_refl) (by simp) hM (fun p1 hN1 => ?_)
  refine Fr_ite ?_ ?_
  ·
    exact fr_X12_year_b36   _ hN1
  ·
    refine Fr_bind (fr_X12_in _ _ _ _ Sm_refl) (by simp) hN1 (fun p2 hN2 => ?_)
    refine Fr_ite ?_ ?_
    ·
      exact fr_X12_year_b36   _ hN2
    ·
      refine Fr_bind (fr_X12_in _ _ _ _ Sm_refl) (by simp) hN2 (fun p3 hN3 => ?_)
      refine Fr_ite ?_ ?_
      ·
        exact fr_X12_year_b36   _ hN3
      ·
        refine Fr_bind (fr_X12_keepNow  _ Sm_refl) (by simp) hN3 (fun p4 hN4 => ?_)
        exact fr_X12_year_l49  _ _ _ _ _ _ hN4
set_option maxRecDepth 100000 in
theorem fr_X12_pass_b20 {i0 : Nat} {M0 : Mem} (s0 : Int32) (M : Mem) (hM : Sm ([(rf i0 27), i0] : List Nat) M0 M) : FrB ([(rf i0 27), i0] : List Nat) M0 (X12_pass_b20 i0  s0 M) := by
  unfold X12_pass_b20
  refine Fr_gd ?_
  exact Fr_ret (Sm_mI (Sm_mI hM (by simp)) (by simp))
set_option maxRecDepth 100000 in
theorem fr_X12_pass {i0 : Nat} {M0 : Mem} (x1 : Int32) (M : Mem) (hM : Sm ([(rf i0 27), i0] : List Nat) M0 M) : FrB ([(rf i0 27), i0] : List Nat) M0 (X12_pass i0  x1 M) := by
  unfold X12_pass
  refine Fr_ite ?_ ?_
  ·
    refine Fr_gd ?_
    exact fr_X12_pass_b20  _ _ hM
  ·
    exact fr_X12_pass_b20  _ _ hM
set_option maxRecDepth 100000 in
theorem fr_X12_passRow_b2 {i0 : Nat} {i1 n1 : Nat} {M0 : Mem} {k2 : Int32 → Int32 → Mem → Option (Unit × Mem)} (hk2 : ∀ (x2 : Int32) (x3 : Int32) (M : Mem), Sm ([(rf i0 27), i0, i1] : List Nat) M0 M → FrB ([(rf i0 27), i0, i1] : List Nat) M0 (k2 x2 x3 M)) (x2 : Int32) (x3 : Int32) (M : Mem) (hM : Sm ([(rf i0 27), i0, i1] : List Nat) M0 M) : FrB ([(rf i0 27), i0, i1] : List Nat) M0 (X12_passRow_b2 i0 i1 n1 k2 x2 x3 M) := by
  unfold X12_passRow_b2
  refine Fr_ite ?_ ?_
  ·
    exact Fr_ret hM
  ·
    refine Fr_gd ?_
    refine Fr_bind (fr_X12_pass _ _ Sm_refl) (by simp) hM (fun p1 hN1 => ?_)
    refine Fr_gd ?_
    exact hk2 _ _ _ (Sm_mI hN1 (by simp))
theorem fr_X12_passRow_l2 {i0 : Nat} {i1 n1 : Nat} {M0 : Mem} (n : Nat) : ∀ (x2 : Int32) (x3 : Int32) (M : Mem), Sm ([(rf i0 27), i0, i1] : List Nat) M0 M → FrB ([(rf i0 27), i0, i1] : List Nat) M0 (X12_passRow_l2 i0 i1 n1  n x2 x3 M) := by
  induction n with
  | zero => intro x2 x3 M _; exact Fr_none
  | succ n ih => intro x2 x3 M hM; exact fr_X12_passRow_b2 ih x2 x3 M hM
set_option maxRecDepth 100000 in
theorem fr_X12_passRow {i0 : Nat} {i1 n1 : Nat} {M0 : Mem} (x2 : Int32) (M : Mem) (hM : Sm ([(rf i0 27), i0, i1] : List Nat) M0 M) : FrB ([(rf i0 27), i0, i1] : List Nat) M0 (X12_passRow i0 i1 n1  x2 M) := by
  unfold X12_passRow
  exact fr_X12_passRow_l2  _ _ _ _ hM
set_option maxRecDepth 100000 in
theorem fr_X12_passAll {i0 : Nat} {M0 : Mem}  (M : Mem) (hM : Sm ([(rf i0 0), (rf i0 1), (rf i0 2), (rf i0 27), (rf i0 8), (rf i0 9), i0] : List Nat) M0 M) : FrB ([(rf i0 0), (rf i0 1), (rf i0 2), (rf i0 27), (rf i0 8), (rf i0 9), i0] : List Nat) M0 (X12_passAll i0   M) := by
  unfold X12_passAll
  refine Fr_bind (fr_X12_pass _ _ Sm_refl) (by simp) hM (fun p1 hN1 => ?_)
  refine Fr_mw (Sm_mI hN1 (by simp)) (fun N2 hN2 => ?_)
  refine Fr_bind (fr_X12_pass _ _ Sm_refl) (by simp) hN2 (fun p3 hN3 => ?_)
  refine Fr_mw (Sm_mI hN3 (by simp)) (fun N4 hN4 => ?_)
  refine Fr_bind (fr_X12_pass _ _ Sm_refl) (by simp) hN4 (fun p5 hN5 => ?_)
  refine Fr_mw (Sm_mI hN5 (by simp)) (fun N6 hN6 => ?_)
  refine Fr_bind (fr_X12_pass _ _ Sm_refl) (by simp) hN6 (fun p7 hN7 => ?_)
  refine Fr_mw (Sm_mI hN7 (by simp)) (fun N8 hN8 => ?_)
  refine Fr_bind (fr_X12_pass _ _ Sm_refl) (by simp) hN8 (fun p9 hN9 => ?_)
  refine Fr_mw (Sm_mI hN9 (by simp)) (fun N10 hN10 => ?_)
  refine Fr_bind (fr_X12_pass _ _ Sm_refl) (by simp) hN10 (fun p11 hN11 => ?_)
  refine Fr_mw (Sm_mI hN11 (by simp)) (fun N12 hN12 => ?_)
  refine Fr_bind (fr_X12_passRow _ _ Sm_refl) (by simp) hN12 (fun p13 hN13 => ?_)
  refine Fr_bind (fr_X12_passRow _ _ Sm_refl) (by simp) hN13 (fun p14 hN14 => ?_)
  refine Fr_bind (fr_X12_passRow _ _ Sm_refl) (by simp) hN14 (fun p15 hN15 => ?_)
  refine Fr_bind (fr_X12_passRow _ _ Sm_refl) (by simp) hN15 (fun p16 hN16 => ?_)
  refine Fr_bind (fr_X12_passRow _ _ Sm_refl) (by simp) hN16 (fun p17 hN17 => ?_)
  exact Fr_ret hN17
set_option maxRecDepth 100000 in
theorem fr_X12_image {i0 : Nat} {M0 : Mem} (x1 : Int32) (M : Mem) (hM : Sm ([(rf i0 0), (rf i0 1), (rf i0 2), (rf i0 27), (rf i0 28), (rf i0 8), (rf i0 9), i0] : List Nat) M0 M) : FrB ([(rf i0 0), (rf i0 1), (rf i0 2), (rf i0 27), (rf i0 28), (rf i0 8), (rf i0 9), i0] : List Nat) M0 (X12_image i0  x1 M) := by
  unfold X12_image
  refine Fr_bind (fr_X12_in _ _ _ _ Sm_refl) (by simp) hM (fun p1 hN1 => ?_)
  refine Fr_ite ?_ ?_
  ·
    exact Fr_ret hN1
  ·
    refine Fr_mw (Sm_mI hN1 (by simp)) (fun N2 hN2 => ?_)
    refine Fr_mw (Sm_mI hN2 (by simp)) (fun N3 hN3 => ?_)
    refine Fr_bind (fr_X12_passAll  _ Sm_refl) (by simp) hN3 (fun p4 hN4 => ?_)
    refine Fr_gd ?_
    refine Fr_mw (Sm_mI hN4 (by simp)) (fun N5 hN5 => ?_)
    exact Fr_ret hN5
set_option maxRecDepth 100000 in
theorem fr_X12_restore {i0 : Nat} {M0 : Mem} (x1 : Int32) (M : Mem) (hM : Sm ([(rf i0 0), (rf i0 1), (rf i0 2), (rf i0 27), (rf i0 8), (rf i0 9), i0] : List Nat) M0 M) : FrB ([(rf i0 0), (rf i0 1), (rf i0 2), (rf i0 27), (rf i0 8), (rf i0 9), i0] : List Nat) M0 (X12_restore i0  x1 M) := by
  unfold X12_restore
  refine Fr_bind (fr_X12_in _ _ _ _ Sm_refl) (by simp) hM (fun p1 hN1 => ?_)
  refine Fr_ite ?_ ?_
  ·
    exact Fr_ret hN1
  ·
    refine Fr_gd ?_
    refine Fr_ite ?_ ?_
    ·
      exact Fr_ret hN1
    ·
      refine Fr_bind (fr_X12_passAll  _ Sm_refl) (by simp) (Sm_mI (Sm_mI hN1 (by simp)) (by simp)) (fun p2 hN2 => ?_)
      exact Fr_ret hN2
set_option maxRecDepth 100000 in
theorem fr_X12_told_b57 {i0 : Nat} {M0 : Mem} (s0 : Int32) (M : Mem) (hM : Sm ([] : List Nat) M0 M) : FrB ([] : List Nat) M0 (X12_told_b57 i0  s0 M) := by
  unfold X12_told_b57
  exact Fr_ret hM
set_option maxRecDepth 100000 in
theorem fr_X12_told {i0 : Nat} {M0 : Mem} (x1 : Int32) (M : Mem) (hM : Sm ([] : List Nat) M0 M) : FrB ([] : List Nat) M0 (X12_told i0  x1 M) := by
  unfold X12_told
  refine Fr_bind (fr_X12_in _ _ _ _ Sm_refl) (by simp) hM (fun p1 hN1 => ?_)
  refine Fr_ite ?_ ?_
  ·
    refine Fr_bind (fr_X12_in _ _ _ _ Sm_refl) (by simp) hN1 (fun p2 hN2 => ?_)
    refine Fr_ite ?_ ?_
    ·
      refine Fr_ite ?_ ?_
      ·
        exact Fr_ret hN2
      refine Fr_ite ?_ ?_
      ·
        exact Fr_ret hN2
      refine Fr_ite ?_ ?_
      ·
        exact Fr_ret hN2
      refine Fr_ite ?_ ?_
      ·
        exact Fr_ret hN2
      refine Fr_ite ?_ ?_
      ·
        exact Fr_ret hN2
      refine Fr_ite ?_ ?_
      ·
        exact Fr_ret hN2
      refine Fr_ite ?_ ?_
      ·
        exact Fr_ret hN2
      exact Fr_ret hN2
    ·
      refine Fr_gd ?_
      exact Fr_ret hN2
  ·
    refine Fr_gd ?_
    refine Fr_iw (fun v4 => ?_)
    refine Fr_gd ?_
    refine Fr_ite ?_ ?_
    ·
      refine Fr_gd ?_
      exact fr_X12_told_b57  _ _ hN1
    ·
      refine Fr_gd ?_
      refine Fr_ite ?_ ?_
      ·
        refine Fr_gd ?_
        exact fr_X12_told_b57  _ _ hN1
      ·
        exact fr_X12_told_b57  _ _ hN1
